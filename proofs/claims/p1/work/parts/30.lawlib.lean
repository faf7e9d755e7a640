/-! the law: calls with another world beside, arguments off the script -/
theorem lw_swapP {D : va_G} {cl : List vw_C} {a b : va_W} {H : Heap} (h : va_P D cl (a ++ b) H) : va_P D cl (b ++ a) H := by
  intro k q hk
  have hm : q ∈ a ++ b := by
    rcases List.mem_append.mp (List.mem_of_getElem? hk) with z | z
    · exact List.mem_append_right _ z
    · exact List.mem_append_left _ z
  obtain ⟨i, hi⟩ := List.getElem?_of_mem hm
  exact h i q hi
theorem lw_at_r {α : Type} {a b : List α} {k : Nat} {q : α} (h : b[k]? = some q) : (a ++ b)[a.length + k]? = some q := by
  rw [List.getElem?_append_right (by omega), show a.length + k - a.length = k by omega]
  exact h
theorem lw_at_l {α : Type} {a b : List α} {k : Nat} {q : α} (h : a[k]? = some q) : (a ++ b)[k]? = some q := by
  rw [List.getElem?_append_left (List.getElem?_eq_some_iff.mp h).1]
  exact h
theorem lw_D_l {A : Nat → Prop} {a b : va_W} (h : va_D A (a ++ b)) : va_D A a := ⟨fun i j p q hi hj e => h.1 i j p q (lw_at_l hi) (lw_at_l hj) e, fun k q hk => h.2 k q (lw_at_l hk)⟩
theorem lw_D_r {A : Nat → Prop} {a b : va_W} (h : va_D A (a ++ b)) : va_D A b := ⟨fun i j p q hi hj e => by
  have := h.1 _ _ p q (lw_at_r (a := a) hi) (lw_at_r (a := a) hj) e
  omega, fun k q hk => h.2 _ q (lw_at_r (a := a) hk)⟩
theorem lw_D_x {A : Nat → Prop} {a b : va_W} (h : va_D A (a ++ b)) (i j : Nat) (p q : Nat × va_E) (hi : a[i]? = some p) (hj : b[j]? = some q) : p.1 ≠ q.1 := fun e => by
  have h1 := h.1 _ _ p q (lw_at_l hi) (lw_at_r (a := a) hj) e
  have h2 := (List.getElem?_eq_some_iff.mp hi).1
  omega
theorem lw_swapD {A : Nat → Prop} {a b : va_W} (h : va_D A (a ++ b)) : va_D A (b ++ a) := va_D.app (lw_D_r h) (lw_D_l h) (fun i j p q hi hj e => lw_D_x h j i q p hj hi e.symm)
section
variable {p : Program} {l : Launch} {e : Env} {R : Room} {s : State} {m : MethodId} {args : Array Value} {below : List Frame} {meth : Method} {c : Code} {Q : State → Prop} {D : va_G} {cl : List vw_C} {A : Nat → Prop} {cy : Nat → ClassId}
variable {cc : ByteArray} {own : String} {pc n nL : Nat} {cn sn : Nat} {NW : List (String × Nat × MethodName × String)} {K : rv_K} {g : rv_G} {ls : Array Slot} {H : Heap} {locs : List Loc} {rest : List Value} {wr : va_W}
theorem lw_run {st0 : List Value} {a : Array Value} (hr : va_Run p l e R s m args below meth c H locs cn sn K.2.2.2.2.2.2.1 K.2.2.2.2.2.2.2 (F0 m pc ls st0) rest (rv_Qc D cl cy g K (va_A (rv_w cy g K.2.2.1) H.size) a) (va_A (rv_w cy g K.2.2.1) H.size)) (hS : va_S A s.heap H locs) (hA : ∀ q, s.heap.size ≤ q → A q) (hPw : va_P D cl (rv_w cy g K.2.2.1 ++ wr) H) (hDw : va_D A (rv_w cy g K.2.2.1 ++ wr))
    (kk : ∀ (h : rv_G) (H1 : Heap) (locs1 : List Loc), rv_post g h K → va_P D cl (wr ++ rv_w cy h K.2.2.2.2.2.1) H1 → va_D A (wr ++ rv_w cy h K.2.2.2.2.2.1) → va_S A s.heap H1 locs1 → W p l e R s m args below meth c H1 locs1 (cn + K.2.2.2.2.2.2.1) (sn + K.2.2.2.2.2.2.2) Q (F0 m (pc + 3) ls ((K.2.2.2.2.1.map (rv_v h)).toList ++ rest))) :
    W p l e R s m args below meth c H locs cn sn Q (F0 m pc ls st0) := by
  intro T hT X
  obtain ⟨v, st₀, t, T', Lc, h0, X', hL, e1, e2, ⟨⟨h, hp, hv, hP, hD⟩, hz, hk⟩, st⟩ := hr T hT X
  have hv : v = K.2.2.2.2.1.map (rv_v h) := by injection hv
  subst hv
  rw [h0] at hz hk
  have hF := rv_freeA hA (lw_D_l hDw) hS
  have apart : ∀ (k : Nat) (q : Nat × va_E), wr[k]? = some q → q.1 < H.size ∧ ¬ va_A (rv_w cy g K.2.2.1) H.size q.1 := by
    intro k q hq
    have hlt := (hPw _ q (lw_at_r (a := rv_w cy g K.2.2.1) hq)).lt
    refine ⟨hlt, fun z => ?_⟩
    rcases z with ⟨k2, ee, z⟩ | z
    · exact lw_D_x hDw k2 k (q.1, ee) q z hq rfl
    · omega
  obtain ⟨t2, a1, b1⟩ := kk h T'.heap (locs ++ Lc) hp
    (va_P.app (fun k q hq => by
      obtain ⟨z1, z2⟩ := apart k q hq
      exact (hPw _ q (lw_at_r (a := rv_w cy g K.2.2.1) hq)).kept (by rw [e1]; exact hk q.1 z1 z2)) (by rw [e1]; exact hP))
    (va_D.app (lw_D_r hDw) (hD.weaken fun k q _ z => hF q.1 z) (fun i j x y hx hy exy => (apart i x hx).2 (by rw [exy]; exact hD.2 j y hy)))
    ⟨Nat.le_trans hS.1 (by rw [e1]; exact hz), fun q h1 h2 => by rw [e1, hk q (Nat.lt_of_lt_of_le h1 hS.1) (fun z => h2 (hF q z))]; exact hS.2.1 q h1 h2, fun q hq => by
      rcases List.mem_append.mp hq with z | z
      · exact hS.2.2 q z
      · exact hF _ (hL q z)⟩ T' rfl X'
  exact ⟨t2, st t2 a1, b1⟩
variable {y : MethodName} {bytes : ByteArray} {maxL idx : Nat} {ret : Option FieldType} {rm : Room}
/-- the law's words are more: lw_tbl -/
theorem lw_good (hY : rv_Yi y bytes maxL ret n) : GoodIn lw_tbl (rv_ws y bytes maxL ret) := by
  intro w hw
  have hm : w ∈ rv_tbl := by
    rcases List.mem_cons.mp hw with h1 | h1
    · rw [h1]; exact hY.1.1
    · exact h1
  exact ⟨(List.mem_filter.mp hm).1, (rv_goodIn w hm).2⟩
theorem lw_in {w : Jvm.Cond} (h : w ∈ rv_tbl) : w ∈ lw_tbl := (List.mem_filter.mp h).1
theorem lw_cV (Cx : rv_Cx p s m args c cc own nL lw_tbl D cl cy A) (hN : rv_NWs NW s) (hM : rv_Met NW l D cl cy y (rv_ws y bytes maxL ret) rm K) (hY : rv_Yi y bytes maxL ret n) (hi : Jvm.Cond.instanceMethod y ∈ rv_tbl) (hse : Jvm.Cond.selects y.cls y y ∈ rv_tbl) (hl : Jvm.Cond.methodLink own idx y ∈ rv_tbl) (hdg : decode cc pc = .ok (.invokevirtual idx, 3))
    (hR : rm.frames + 1 ≤ R.frames ∧ 8 + (maxL + 11) + rm.locals ≤ R.locals) (hrc : rm.cells = K.2.2.2.2.2.2.1) (hrs : rm.slots = K.2.2.2.2.2.2.2) {q0 ci : Nat} {as : List rv_V} {fs : List rv_V} {T : u_T} {NN : Nat} (hargs : K.2.1 = (2, q0) :: as) (hn : as.length = n) (hrec : K.2.2.1[q0]? = some (.inl (ci, fs))) (hcl : cl[ci]? = some (y.cls, T, NN))
    (hsz : ls.size = nL) (hpre : rv_pre g K) (hPw : va_P D cl (rv_w cy g K.2.2.1 ++ wr) H) (hDw : va_D A (rv_w cy g K.2.2.1 ++ wr)) (hS : va_S A s.heap H locs) (hrest : (rest.map fun v => v.category).sum ≤ 8) (hce : cn + K.2.2.2.2.2.2.1 ≤ R.cells) (hsl : sn + K.2.2.2.2.2.2.2 ≤ R.slots)
    (kk : ∀ (h : rv_G) (H1 : Heap) (locs1 : List Loc), rv_post g h K → va_P D cl (wr ++ rv_w cy h K.2.2.2.2.2.1) H1 → va_D A (wr ++ rv_w cy h K.2.2.2.2.2.1) → va_S A s.heap H1 locs1 → W p l e R s m args below meth c H1 locs1 (cn + K.2.2.2.2.2.2.1) (sn + K.2.2.2.2.2.2.2) Q (F0 m (pc + 3) ls ((K.2.2.2.2.1.map (rv_v h)).toList ++ rest))) :
    W p l e R s m args below meth c H locs cn sn Q (F0 m pc ls ((K.2.1.map (rv_v g)).reverse ++ rest)) := by
  obtain ⟨hx, hbb, hml, hown, hts, hK, hA⟩ := id Cx
  have hP : va_P D cl (rv_w cy g K.2.2.1) H := fun k q hk => hPw k q (lw_at_l hk)
  have hpm := rv_moved (av := K.2.1.map (rv_v g)) hK hN hP (lw_D_l hDw)
  have hm := hM g H.size hpre
  rw [hargs] at hm hpm ⊢
  have cw : CallW R s args own y.cls idx y bytes maxL ret (rv_ws y bytes maxL ret) rm K.2.2.2.2.2.2.1 K.2.2.2.2.2.2.2 n := ⟨callB_of n hts (lw_good hY) rfl hrc hrs (hts _ (lw_in hY.1.2)) (hts _ (lw_in hl)) hY.2 hR, hts _ (lw_in hi), hts _ (lw_in hse)⟩
  refine lw_run (st0 := (((2, q0) :: as).map (rv_v g)).reverse ++ rest) (va_runV (As := as.map (rv_v g)) (rest := rest) (b := g.2.1 q0) ⟨hx, hbb, hml, hown, hts⟩ hm cw ⟨rv_blind, va_recv hK hP hcl (rv_w_at hrec), hpm⟩ rfl (by rw [List.length_map]; exact hn) hsz ?_ (lv_room hrest) hdg ⟨hce, hsl⟩) hS hA hPw hDw kk
  show (rv_v g (2, q0) :: as.map (rv_v g)).reverse ++ rest = (as.map (rv_v g)).reverse ++ .ref (g.2.1 q0) :: rest
  rw [List.reverse_cons, List.append_assoc]
  rfl
theorem lw_cI (Cx : rv_Cx p s m args c cc own nL lw_tbl D cl cy A) (hN : rv_NWs NW s) (hM : rv_Met NW l D cl cy y (rv_ws y bytes maxL none) rm K) (hY : rv_Yi y bytes maxL none n) (hi : Jvm.Cond.instanceMethod y ∈ rv_tbl) (hy1 : y.name = "<init>") (hl : Jvm.Cond.methodLink own idx y ∈ rv_tbl) (hdg : decode cc pc = .ok (.invokespecial idx, 3))
    (hR : rm.frames + 1 ≤ R.frames ∧ 8 + (maxL + 11) + rm.locals ≤ R.locals) (hrc : rm.cells = K.2.2.2.2.2.2.1) (hrs : rm.slots = K.2.2.2.2.2.2.2) {q0 : Nat} {as : List rv_V} (hargs : K.2.1 = (2, q0) :: as) (hn : as.length = n)
    (hsz : ls.size = nL) (hpre : rv_pre g K) (hPw : va_P D cl (rv_w cy g K.2.2.1 ++ wr) H) (hDw : va_D A (rv_w cy g K.2.2.1 ++ wr)) (hS : va_S A s.heap H locs) (hrest : (rest.map fun v => v.category).sum ≤ 8) (hce : cn + K.2.2.2.2.2.2.1 ≤ R.cells) (hsl : sn + K.2.2.2.2.2.2.2 ≤ R.slots)
    (kk : ∀ (h : rv_G) (H1 : Heap) (locs1 : List Loc), rv_post g h K → va_P D cl (wr ++ rv_w cy h K.2.2.2.2.2.1) H1 → va_D A (wr ++ rv_w cy h K.2.2.2.2.2.1) → va_S A s.heap H1 locs1 → W p l e R s m args below meth c H1 locs1 (cn + K.2.2.2.2.2.2.1) (sn + K.2.2.2.2.2.2.2) Q (F0 m (pc + 3) ls ((K.2.2.2.2.1.map (rv_v h)).toList ++ rest))) :
    W p l e R s m args below meth c H locs cn sn Q (F0 m pc ls ((K.2.1.map (rv_v g)).reverse ++ rest)) := by
  obtain ⟨hx, hbb, hml, hown, hts, hK, hA⟩ := id Cx
  have hP : va_P D cl (rv_w cy g K.2.2.1) H := fun k q hk => hPw k q (lw_at_l hk)
  have hpm := rv_moved (av := K.2.1.map (rv_v g)) hK hN hP (lw_D_l hDw)
  have hm := hM g H.size hpre
  rw [hargs] at hm hpm ⊢
  have cw : CallB R s args own idx y bytes maxL none (rv_ws y bytes maxL none) rm K.2.2.2.2.2.2.1 K.2.2.2.2.2.2.2 n := callB_of n hts (lw_good hY) rfl hrc hrs (hts _ (lw_in hY.1.2)) (hts _ (lw_in hl)) hY.2 hR
  refine lw_run (st0 := (((2, q0) :: as).map (rv_v g)).reverse ++ rest) (va_runI (As := as.map (rv_v g)) (rest := rest) (b := g.2.1 q0) ⟨hx, hbb, hml, hown, hts⟩ hm ⟨cw, hy1, hts _ (lw_in hi)⟩ ⟨rv_blind, hpm⟩ rfl (by rw [List.length_map]; exact hn) hsz ?_ (lv_room hrest) hdg ⟨hce, hsl⟩) hS hA hPw hDw kk
  show (rv_v g (2, q0) :: as.map (rv_v g)).reverse ++ rest = (as.map (rv_v g)).reverse ++ .ref (g.2.1 q0) :: rest
  rw [List.reverse_cons, List.append_assoc]
  rfl
end
/-- a known world's valuation, with arguments behind its ids -/
def lw_g (h : rv_G) (n : Nat) (as : List Int32) : rv_G := (fun j => if j < n then h.1 j else (as.getD (j - n) 0).toInt, h.2.1, h.2.2)
def lw_ids (n k : Nat) : List rv_V := (List.range k).map (fun i => (0, n + i))
theorem lw_g_ag (h : rv_G) (n N : Nat) (as : List Int32) : rv_ag h (lw_g h n as) n N := ⟨fun i hi => if_pos hi, fun _ _ => rfl, fun _ _ => rfl⟩
theorem lw_g_arg (h : rv_G) (n : Nat) (as : List Int32) (i : Nat) : (lw_g h n as).1 (n + i) = (as.getD i 0).toInt := by
  show (if n + i < n then _ else (as.getD (n + i - n) 0).toInt) = _
  rw [if_neg (by omega), show n + i - n = i by omega]
theorem lw_ids_v (h : rv_G) (n : Nat) (as : List Int32) : (lw_ids n as.length).map (rv_v (lw_g h n as)) = as.map Value.int := by
  apply List.ext_getElem?
  intro i
  unfold lw_ids
  rw [List.map_map, List.getElem?_map, List.getElem?_map]
  by_cases hi : i < as.length
  · rw [List.getElem?_range hi, List.getElem?_eq_getElem hi]
    show some (Value.int (Int32.ofInt ((lw_g h n as).1 (n + i)))) = some (Value.int as[i])
    rw [lw_g_arg, List.getD_eq_getElem?_getD, List.getElem?_eq_getElem hi]
    show some (Value.int (Int32.ofInt (as[i]).toInt)) = _
    rw [Int32.ofInt_toInt]
  · rw [List.getElem?_eq_none_iff.mpr (by rw [List.length_range]; omega), List.getElem?_eq_none_iff.mpr (by omega)]
    rfl
theorem lw_pre {h : rv_G} {B bs : List (Int × Int)} {X : List rv_C} {as : List Int32} {K : rv_K} (hB : rv_bd h 0 B) (hx : rv_x h X) (hok : X.all (rv_okcb B.length X.length) = true) (hK1 : K.1 = B ++ bs) (hKX : K.2.2.1 = X) (hbs : ∀ (i : Nat) (b : Int × Int), bs[i]? = some b → b.1 ≤ (as.getD i 0).toInt ∧ (as.getD i 0).toInt ≤ b.2) : rv_pre (lw_g h B.length as) K := by
  constructor
  · rw [hK1]
    intro i b hb
    by_cases hi : i < B.length
    · rw [List.getElem?_append_left hi] at hb
      have := hB i b hb
      rw [Nat.zero_add] at this ⊢
      rw [(lw_g_ag h B.length 0 as).1 i hi]
      exact this
    · rw [List.getElem?_append_right (by omega)] at hb
      have h1 := hbs _ b hb
      have h2 := lw_g_arg h B.length as (i - B.length)
      rw [show B.length + (i - B.length) = i by omega] at h2
      rw [Nat.zero_add, h2]
      exact h1
  · rw [hKX]
    intro k a hk j
    have hc := rv_okcb_ok (List.all_eq_true.mp hok _ (List.mem_of_getElem? hk))
    obtain ⟨q1, q2⟩ := hx k a hk j
    refine ⟨fun i hi => ?_, q2⟩
    rw [(lw_g_ag h B.length 0 as).1 i (hc _ (rv_tr_mem hi))]
    exact q1 i hi
theorem lw_pre_w {cy : Nat → ClassId} {h : rv_G} {n : Nat} {X : List rv_C} {as : List Int32} (hok : X.all (rv_okcb n X.length) = true) : rv_w cy (lw_g h n as) X = rv_w cy h X := rv_w_ag (lw_g_ag h n X.length as) (fun c hc => rv_okcb_ok (List.all_eq_true.mp hok c hc))
/-- what a call answers, if it is known -/
def lw_ans (K : rv_K) (v : rv_G → Int32) : Prop := ∀ g h : rv_G, rv_pre g K → rv_post g h K → (K.2.2.2.2.1.map (rv_v h)).toList = [Value.int (v g)]
theorem lw_ansA {K : rv_K} {r : Nat} {z : Int} (hr : K.2.2.2.2.1 = some (0, r)) (hz : K.1[r]? = some (z, z)) : lw_ans K (fun _ => Int32.ofInt z) := by
  intro g h hp hq
  have h1 := hp.1 r _ hz
  rw [Nat.zero_add] at h1
  have h2 := hq.1 r (List.getElem?_eq_some_iff.mp hz).1
  rw [hr]
  show [Value.int (Int32.ofInt (h.1 r))] = [Value.int (Int32.ofInt z)]
  rw [h2, show g.1 r = z by dsimp only at h1; omega]
theorem lw_ansB {K : rv_K} {r : Nat} {z : Int} (hr : K.2.2.2.2.1 = some (0, K.1.length + r)) (hz : K.2.2.2.1[r]? = some (z, z)) : lw_ans K (fun _ => Int32.ofInt z) := by
  intro g h hp hq
  have h1 := hq.2.2.1 r _ hz
  rw [hr]
  show [Value.int (Int32.ofInt (h.1 (K.1.length + r)))] = [Value.int (Int32.ofInt z)]
  rw [show h.1 (K.1.length + r) = z by dsimp only at h1; omega]
theorem lw_ansC {K : rv_K} {r : Nat} (hr : K.2.2.2.2.1 = some (0, r)) (hz : r < K.1.length) : lw_ans K (fun g => Int32.ofInt (g.1 r)) := by
  intro g h hp hq
  rw [hr]
  show [Value.int (Int32.ofInt (h.1 r))] = [Value.int (Int32.ofInt (g.1 r))]
  rw [hq.1 r hz]
/-! the law's own rows -/
def lw_sa (pc : Nat) (ks : List Nat) : List (Nat × Instr × Nat) := match ks with
  | [] => []
  | k :: ks => (pc, .aload_n 0, 1) :: (pc + 1, .iload_n 3, 1) :: (pc + 2, .iconst k, 1) :: (pc + 3, .iadd, 1) :: (pc + 4, .iaload, 1) :: lw_sa (pc + 5) ks
def lw_Dec (ds : List (Nat × Instr × Nat)) : Prop := ∀ q ∈ ds, decode code q.1 = .ok (q.2.1, q.2.2)
section
variable {p : Program} {l : Launch} {e : Env} {s : State} {m : MethodId} {below : List Frame} {meth : Method} {c : Code} {Q : State → Prop} {b L : Nat} {xs : Nat → Int32}
variable {cn sn : Nat} {ls : Array Slot} {H : Heap} {locs : List Loc}
theorem lw_args (C0 : lw_At p s m meth c b L xs) {i : Nat} (hLs : L < 100000) (h0 : ls[0]? = some (.val (.ref b))) (h3 : ls[3]? = some (.val (.int (nI i)))) (hS : va_S (fun q : Nat => s.heap.size ≤ q) s.heap H locs) : ∀ (ks : List Nat) (pc : Nat) (rest : List Value), (∀ k ∈ ks, i + k < L) → lw_Dec (lw_sa pc ks) → W p l e room_1 s m #[Value.ref b] below meth c H locs cn sn Q (F0 m (pc + 5 * ks.length) ls ((ks.map (fun k => Value.int (xs (i + k)))).reverse ++ rest)) → W p l e room_1 s m #[Value.ref b] below meth c H locs cn sn Q (F0 m pc ls rest)
  | [], pc, rest, _, _, k => k
  | z :: ks, pc, rest, hk, hd, k => by
    obtain ⟨hx, hb, hr, hml, hown, hts, hX, hbl, hlocks, hgv⟩ := id C0
    have hbA : ¬ (fun q : Nat => s.heap.size ≤ q) b := Nat.not_le.mpr hbl
    have hz := hk z List.mem_cons_self
    have m0 : ∀ {n : Nat} {q : Nat × Instr × Nat}, (lw_sa pc (z :: ks))[n]? = some q → decode code q.1 = .ok (q.2.1, q.2.2) := fun h => hd _ (List.mem_of_getElem? h)
    have d0 : decode code pc = .ok (.aload_n 0, 1) := m0 (n := 0) (q := (pc, .aload_n 0, 1)) rfl
    have d1 : decode code (pc + 1) = .ok (.iload_n 3, 1) := m0 (n := 1) (q := (pc + 1, .iload_n 3, 1)) rfl
    have d2 : decode code (pc + 2) = .ok (.iconst z, 1) := m0 (n := 2) (q := (pc + 2, .iconst z, 1)) rfl
    have d3 : decode code (pc + 3) = .ok (.iadd, 1) := m0 (n := 3) (q := (pc + 3, .iadd, 1)) rfl
    have d4 : decode code (pc + 4) = .ok (.iaload, 1) := m0 (n := 4) (q := (pc + 4, .iaload, 1)) rfl
    refine lv_aload_n hx hb d0 rfl h0 ?_
    refine lv_iload_n hx hb d1 rfl h3 ?_
    refine lv_iconst (v := nI z) hx hb d2 rfl ?_
    refine lv_iadd hx hb d3 ?_
    rw [nI_add]
    refine va_sld hx hb hX hbl hbA hS (vp_in_nI hz (by omega)) d4 ?_
    rw [nI_clamp (by omega)]
    refine lw_args C0 hLs h0 h3 hS ks (pc + 5) (.int (xs (i + z)) :: rest) (fun q hq => hk q (List.mem_cons_of_mem _ hq)) (fun q hq => hd q (by
      show q ∈ _ :: _ :: _ :: _ :: _ :: lw_sa (pc + 5) ks
      exact List.mem_cons_of_mem _ (List.mem_cons_of_mem _ (List.mem_cons_of_mem _ (List.mem_cons_of_mem _ (List.mem_cons_of_mem _ hq))))) ) ?_
    have e1 : pc + 5 * (z :: ks).length = pc + 5 + 5 * ks.length := by rw [List.length_cons]; omega
    have e2 : ((z :: ks).map (fun k => Value.int (xs (i + k)))).reverse ++ rest = (ks.map (fun k => Value.int (xs (i + k)))).reverse ++ (.int (xs (i + z)) :: rest) := by
      rw [List.map_cons, List.reverse_cons, List.append_assoc]
      rfl
    rw [e1, e2] at k
    exact k
/-- x != 0 -/
theorem lw_bool (C0 : lw_At p s m meth c b L xs) {pc : Nat} {x : Int32} {rest : List Value} (hd : lw_Dec [(pc, .ifCond .eq 7, 3), (pc + 3, .iconst 1, 1), (pc + 4, .goto 4, 3), (pc + 7, .iconst 0, 1)]) (k : W p l e room_1 s m #[Value.ref b] below meth c H locs cn sn Q (F0 m (pc + 8) ls (.int (if x = 0 then 0 else 1) :: rest))) : W p l e room_1 s m #[Value.ref b] below meth c H locs cn sn Q (F0 m pc ls (.int x :: rest)) := by
  obtain ⟨hx, hb, -⟩ := id C0
  have d0 : decode code pc = .ok (.ifCond .eq 7, 3) := hd (pc, .ifCond .eq 7, 3) (by simp)
  have d1 : decode code (pc + 3) = .ok (.iconst 1, 1) := hd (pc + 3, .iconst 1, 1) (by simp)
  have d2 : decode code (pc + 4) = .ok (.goto 4, 3) := hd (pc + 4, .goto 4, 3) (by simp)
  have d3 : decode code (pc + 7) = .ok (.iconst 0, 1) := hd (pc + 7, .iconst 0, 1) (by simp)
  refine lv_if_eq (tgt := pc + 7) hx hb d0 (by omega) (fun h => ?_) (fun h => ?_)
  · rw [if_pos h] at k
    exact lv_iconst (v := 0) hx hb d3 (by decide) k
  · rw [if_neg h] at k
    refine lv_iconst (v := 1) hx hb d1 (by decide) ?_
    exact lv_goto (tgt := pc + 8) hx hb d2 (by omega) k
end
abbrev lw_A (s : State) : Nat → Prop := fun q : Nat => s.heap.size ≤ q
def lw_Push (p : Program) (l : Launch) (e : Env) (s : State) (m : MethodId) (below : List Frame) (meth : Method) (c : Code) (b : Nat) (Q : State → Prop) (ls : Array Slot) (pc pc' : Nat) (as : List Int32) : Prop := ∀ (H : Heap) (locs : List Loc) (cn sn : Nat) (rest : List Value), va_S (lw_A s) s.heap H locs → W p l e room_1 s m #[Value.ref b] below meth c H locs cn sn Q (F0 m pc' ls ((as.map Value.int).reverse ++ rest)) → W p l e room_1 s m #[Value.ref b] below meth c H locs cn sn Q (F0 m pc ls rest)
section
variable {p : Program} {l : Launch} {e : Env} {s : State} {m : MethodId} {below : List Frame} {meth : Method} {c : Code} {Q : State → Prop} {b L : Nat} {xs : Nat → Int32} {ls : Array Slot} {D : va_G} {cy : Nat → ClassId}
theorem lw_push (C0 : lw_At p s m meth c b L xs) {i : Nat} (hLs : L < 100000) (h0 : ls[0]? = some (.val (.ref b))) (h3 : ls[3]? = some (.val (.int (nI i)))) {ks : List Nat} {pc : Nat} (hk : ∀ k ∈ ks, i + k < L) (hd : lw_Dec (lw_sa pc ks)) : lw_Push p l e s m below meth c b Q ls pc (pc + 5 * ks.length) (ks.map (fun k => xs (i + k))) := by
  intro H locs cn sn rest hS k
  refine lw_args C0 hLs h0 h3 hS ks pc rest hk hd ?_
  rw [List.map_map] at k
  exact k
theorem lw_pushB (C0 : lw_At p s m meth c b L xs) {i : Nat} (hLs : L < 100000) (h0 : ls[0]? = some (.val (.ref b))) (h3 : ls[3]? = some (.val (.int (nI i)))) {pc : Nat} (hk : ∀ k ∈ [1, 2], i + k < L) (hd : lw_Dec (lw_sa pc [1, 2])) (hd2 : lw_Dec [(pc + 10, .ifCond .eq 7, 3), (pc + 13, .iconst 1, 1), (pc + 14, .goto 4, 3), (pc + 17, .iconst 0, 1)]) : lw_Push p l e s m below meth c b Q ls pc (pc + 18) [xs (i + 1), if xs (i + 2) = 0 then 0 else 1] := by
  intro H locs cn sn rest hS k
  exact lw_args C0 hLs h0 h3 hS [1, 2] pc rest hk hd (lw_bool C0 hd2 k)
/-- both calls of a case, and that their answers are alike -/
theorem lw_case (Cx : rv_Cx p s m #[Value.ref b] c code R_law 4 lw_tbl D vwCl cy (lw_A s)) (hN : rv_NWs rv_NW s) {B1 B2 bs : List (Int × Int)} {X1 X2 : List rv_C} {h1 h2 : rv_G} (hB1 : rv_bd h1 0 B1) (hx1 : rv_x h1 X1) (ho1 : X1.all (rv_okcb B1.length X1.length) = true) (hB2 : rv_bd h2 0 B2) (hx2 : rv_x h2 X2) (ho2 : X2.all (rv_okcb B2.length X2.length) = true)
    {H : Heap} {locs : List Loc} {cn sn : Nat} (hP : va_P D vwCl (rv_w cy h1 X1 ++ rv_w cy h2 X2) H) (hD : va_D (lw_A s) (rv_w cy h1 X1 ++ rv_w cy h2 X2)) (hS : va_S (lw_A s) s.heap H locs) (hl1 : ls[1]? = some (.val (.ref (h1.2.1 0)))) (hl2 : ls[2]? = some (.val (.ref (h2.2.1 0)))) (hsz : ls.size = 4)
    {as : List Int32} {n : Nat} (has : as.length = n) (hbs : ∀ (i : Nat) (b : Int × Int), bs[i]? = some b → b.1 ≤ (as.getD i 0).toInt ∧ (as.getD i 0).toInt ≤ b.2)
    {y1 y2 : MethodName} {by1 by2 : ByteArray} {nl1 nl2 i1 i2 ci1 ci2 N1 N2 : Nat} {r1 r2 : Option FieldType} {rm1 rm2 : Room} {K1 K2 : rv_K} {fs1 fs2 : List rv_V} {T1 T2 : u_T}
    (M1 : rv_Met rv_NW l D vwCl cy y1 (rv_ws y1 by1 nl1 r1) rm1 K1) (Y1 : rv_Yi y1 by1 nl1 r1 n) (I1 : Jvm.Cond.instanceMethod y1 ∈ rv_tbl) (S1 : Jvm.Cond.selects y1.cls y1 y1 ∈ rv_tbl) (L1 : Jvm.Cond.methodLink R_law i1 y1 ∈ rv_tbl) (R1 : rm1.frames + 1 ≤ room_1.frames ∧ 8 + (nl1 + 11) + rm1.locals ≤ room_1.locals) (c1 : rm1.cells = K1.2.2.2.2.2.2.1) (s1 : rm1.slots = K1.2.2.2.2.2.2.2) (z1 : K1.2.2.2.2.2.2.1 = 0 ∧ K1.2.2.2.2.2.2.2 = 0) (a1 : K1.1 = B1 ++ bs) (b1 : K1.2.1 = (2, 0) :: lw_ids B1.length n) (d1 : K1.2.2.1 = X1) (f1 : X1[0]? = some (.inl (ci1, fs1))) (g1 : vwCl[ci1]? = some (y1.cls, T1, N1))
    (M2 : rv_Met rv_NW l D vwCl cy y2 (rv_ws y2 by2 nl2 r2) rm2 K2) (Y2 : rv_Yi y2 by2 nl2 r2 n) (I2 : Jvm.Cond.instanceMethod y2 ∈ rv_tbl) (S2 : Jvm.Cond.selects y2.cls y2 y2 ∈ rv_tbl) (L2 : Jvm.Cond.methodLink R_law i2 y2 ∈ rv_tbl) (R2 : rm2.frames + 1 ≤ room_1.frames ∧ 8 + (nl2 + 11) + rm2.locals ≤ room_1.locals) (c2 : rm2.cells = K2.2.2.2.2.2.2.1) (s2 : rm2.slots = K2.2.2.2.2.2.2.2) (z2 : K2.2.2.2.2.2.2.1 = 0 ∧ K2.2.2.2.2.2.2.2 = 0) (a2 : K2.1 = B2 ++ bs) (b2 : K2.2.1 = (2, 0) :: lw_ids B2.length n) (d2 : K2.2.2.1 = X2) (f2 : X2[0]? = some (.inl (ci2, fs2))) (g2 : vwCl[ci2]? = some (y2.cls, T2, N2))
    {v1 v2 : rv_G → Int32} (A1 : lw_ans K1 v1) (A2 : lw_ans K2 v2) (heq : v1 (lw_g h1 B1.length as) = v2 (lw_g h2 B2.length as))
    {pc pc1 pc2 : Nat} {off : Int} (P1 : lw_Push p l e s m below meth c b Q ls (pc + 1) pc1 as) (P2 : lw_Push p l e s m below meth c b Q ls (pc1 + 4) pc2 as) (hd : lw_Dec [(pc, .aload_n 1, 1), (pc1, .invokevirtual i1, 3), (pc1 + 3, .aload_n 2, 1), (pc2, .invokevirtual i2, 3), (pc2 + 3, .if_icmp .eq off, 3)]) {tgt : Nat} (htgt : ((pc2 + 3 : Nat) : Int) + off = (tgt : Int)) (hcn : cn ≤ 600000) (hsn : sn ≤ 7302250)
    (tail : ∀ (H : Heap) (locs : List Loc), va_S (lw_A s) s.heap H locs → W p l e room_1 s m #[Value.ref b] below meth c H locs cn sn Q (F0 m tgt ls [])) : W p l e room_1 s m #[Value.ref b] below meth c H locs cn sn Q (F0 m pc ls []) := by
  obtain ⟨hx, hb, -⟩ := id Cx
  have e0 : decode code pc = .ok (.aload_n 1, 1) := hd (pc, .aload_n 1, 1) (by simp)
  have e1 : decode code pc1 = .ok (.invokevirtual i1, 3) := hd (pc1, .invokevirtual i1, 3) (by simp)
  have e2 : decode code (pc1 + 3) = .ok (.aload_n 2, 1) := hd (pc1 + 3, .aload_n 2, 1) (by simp)
  have e3 : decode code pc2 = .ok (.invokevirtual i2, 3) := hd (pc2, .invokevirtual i2, 3) (by simp)
  have e4 : decode code (pc2 + 3) = .ok (.if_icmp .eq off, 3) := hd (pc2 + 3, .if_icmp .eq off, 3) (by simp)
  have lid : ∀ k, (lw_ids k n).length = n := fun k => by unfold lw_ids; rw [List.length_map, List.length_range]
  have p1 : rv_pre (lw_g h1 B1.length as) K1 := lw_pre hB1 hx1 ho1 a1 d1 hbs
  have p2 : rv_pre (lw_g h2 B2.length as) K2 := lw_pre hB2 hx2 ho2 a2 d2 hbs
  have w1 : rv_w cy (lw_g h1 B1.length as) K1.2.2.1 = rv_w cy h1 X1 := by rw [d1]; exact lw_pre_w ho1
  have w2 : rv_w cy (lw_g h2 B2.length as) K2.2.2.1 = rv_w cy h2 X2 := by rw [d2]; exact lw_pre_w ho2
  have st : ∀ (h : rv_G) (n0 : Nat) (rest : List Value), (((2, 0) :: lw_ids n0 n).map (rv_v (lw_g h n0 as))).reverse ++ rest = (as.map Value.int).reverse ++ (.ref (h.2.1 0) :: rest) := by
    intro h n0 rest
    rw [List.map_cons, ← has, lw_ids_v, List.reverse_cons, List.append_assoc]
    rfl
  refine lv_aload_n hx hb e0 rfl hl1 ?_
  refine P1 H locs cn sn _ hS ?_
  have hcall := lw_cV (Q := Q) (e := e) (below := below) (meth := meth) (l := l) (R := room_1) (cn := cn) (sn := sn) (ls := ls) (g := lw_g h1 B1.length as) (wr := rv_w cy h2 X2) (rest := []) (H := H) (locs := locs) Cx hN M1 Y1 I1 S1 L1 e1 R1 c1 s1 b1 (lid _) (by rw [d1]; exact f1) g1 hsz p1 (by rw [w1]; exact hP) (by rw [w1]; exact hD) hS (by decide) (by rw [z1.1]; exact hcn) (by rw [z1.2]; exact hsn) (fun h H1 locs1 hpo hP1 hD1 hS1 => by
    rw [A1 _ h p1 hpo, z1.1, z1.2]
    show W p l e room_1 s m #[Value.ref b] below meth c H1 locs1 cn sn Q (F0 m (pc1 + 3) ls [.int (v1 (lw_g h1 B1.length as))])
    refine lv_aload_n hx hb e2 rfl hl2 ?_
    refine P2 H1 locs1 cn sn _ hS1 ?_
    have hcall2 := lw_cV (Q := Q) (e := e) (below := below) (meth := meth) (l := l) (R := room_1) (cn := cn) (sn := sn) (ls := ls) (g := lw_g h2 B2.length as) (wr := rv_w cy h K1.2.2.2.2.2.1) (rest := [.int (v1 (lw_g h1 B1.length as))]) (H := H1) (locs := locs1) Cx hN M2 Y2 I2 S2 L2 e3 R2 c2 s2 b2 (lid _) (by rw [d2]; exact f2) g2 hsz p2 (by rw [w2]; exact hP1) (by rw [w2]; exact hD1) hS1 (Nat.le_of_ble_eq_true rfl) (by rw [z2.1]; exact hcn) (by rw [z2.2]; exact hsn) (fun h' H2 locs2 hpo2 hP2 hD2 hS2 => by
      rw [A2 _ h' p2 hpo2, z2.1, z2.2]
      show W p l e room_1 s m #[Value.ref b] below meth c H2 locs2 cn sn Q (F0 m (pc2 + 3) ls [.int (v2 (lw_g h2 B2.length as)), .int (v1 (lw_g h1 B1.length as))])
      exact lv_icmp_eq hx hb e4 htgt (fun _ => tail H2 locs2 hS2) (fun q => absurd heq q))
    rw [b2, st] at hcall2
    exact hcall2)
  rw [b1, st] at hcall
  exact hcall
end
theorem lw_bs0 : ∀ (i : Nat) (b : Int × Int), ([] : List (Int × Int))[i]? = some b → b.1 ≤ (([] : List Int32).getD i 0).toInt ∧ (([] : List Int32).getD i 0).toInt ≤ b.2 := fun i b h => by cases h
theorem lw_bsC {a : Int32} {b0 : Int × Int} {as : List Int32} {bs : List (Int × Int)} (h : b0.1 ≤ a.toInt ∧ a.toInt ≤ b0.2) (t : ∀ (i : Nat) (b : Int × Int), bs[i]? = some b → b.1 ≤ (as.getD i 0).toInt ∧ (as.getD i 0).toInt ≤ b.2) : ∀ (i : Nat) (b : Int × Int), (b0 :: bs)[i]? = some b → b.1 ≤ ((a :: as).getD i 0).toInt ∧ ((a :: as).getD i 0).toInt ≤ b.2
  | 0, b, hb => by
    have hb : b0 = b := Option.some.inj hb
    subst hb
    exact h
  | i + 1, b, hb => t i b hb
theorem lw_bdj {g h : rv_G} {B0 B1 : List (Int × Int)} (h0 : rv_bd g 0 B0) (ha : ∀ i, i < B0.length → h.1 i = g.1 i) (h1 : rv_bd h B0.length B1) : rv_bd h 0 (B0 ++ B1) := by
  intro i b hb
  rw [Nat.zero_add]
  by_cases hi : i < B0.length
  · rw [List.getElem?_append_left hi] at hb
    have := h0 i b hb
    rw [Nat.zero_add] at this
    rw [ha i hi]
    exact this
  · rw [List.getElem?_append_right (by omega)] at hb
    have := h1 _ b hb
    rw [show B0.length + (i - B0.length) = i by omega] at this
    exact this
def lw_g0 (q : Nat) : rv_G := (fun _ => 0, fun _ => q, fun _ _ => 0)
theorem lw_boolI (x : Int32) : 0 ≤ (if x = 0 then (0 : Int32) else 1).toInt ∧ (if x = 0 then (0 : Int32) else 1).toInt ≤ 1 := by
  by_cases h : x = 0
  · rw [if_pos h]; decide
  · rw [if_neg h]; decide
/-! the tables at the law's entry -/
theorem lw_arr {s : State} {args : Array Value} {t : FieldType} (h : (Jvm.Cond.arrayClass t).before args s = true) : ∃ cA : ClassId, ArrOfT s cA t ∧ s.vm.findClass ("[" ++ t.toString) = some cA := by
  obtain ⟨cA, kA, comp, h1, h2, h3⟩ := Cond.arrayClass_spec h
  exact ⟨cA, fun n z => ⟨fun k h => (by cases h), kA, h2, comp, h3⟩, h1⟩
