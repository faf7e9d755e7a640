/-! postfix code, counts, the reader's pile: small lemmas for the rules -/
theorem rv_dep_congr {f g : Nat → Int} {a : Nat} : ∀ (m : Nat), (∀ n, n < m → f (a + n) = g (a + n)) → rv_dep f a m = rv_dep g a m
  | 0, _ => rfl
  | m + 1, h => by
    show rv_dep f a m + rv_kd (f (a + m)) = rv_dep g a m + rv_kd (g (a + m))
    rw [rv_dep_congr m (fun n hn => h n (by omega)), h m (by omega)]
theorem rv_WF_congr {f g : Nat → Int} {a b : Int} (h : ∀ j : Nat, a ≤ (j : Int) → (j : Int) < b → f j = g j) (w : rv_WF f a b) : rv_WF g a b := by
  refine ⟨w.1, fun n hn => ?_⟩
  have h0 := w.1
  have e : ∀ q : Nat, q ≤ n → f (a.toNat + q) = g (a.toNat + q) := fun q hq => h _ (by omega) (by omega)
  rw [← e n (Nat.le_refl _), ← rv_dep_congr n (fun q hq => e q (by omega))]
  exact w.2 n hn
theorem rv_WF_snoc {f g : Nat → Int} {a d v : Int} (hg : ∀ j : Nat, g j = if j = d.toNat then v else f j) (had : a ≤ d) (w : rv_WF f a d) (hr : rv_req v (rv_dep f a.toNat (d - a).toNat)) : rv_WF g a (d + 1) ∧ rv_dep g a.toNat (d + 1 - a).toNat = rv_dep f a.toNat (d - a).toNat + rv_kd v := by
  have h0 := w.1
  have e : ∀ q : Nat, (q : Int) < d - a → g (a.toNat + q) = f (a.toNat + q) := fun q hq => by rw [hg, if_neg (by omega)]
  have ed : ∀ m : Nat, (m : Int) ≤ d - a → rv_dep g a.toNat m = rv_dep f a.toNat m := fun m hm => rv_dep_congr m (fun q hq => e q (by omega))
  have el : g (a.toNat + (d - a).toNat) = v := by rw [hg, if_pos (by omega)]
  refine ⟨⟨h0, fun n hn => ?_⟩, ?_⟩
  · by_cases hc : a + (n : Int) < d
    · rw [e n (by omega), ed n (by omega)]
      exact w.2 n hc
    · have hn : n = (d - a).toNat := by omega
      subst hn
      rw [el, ed _ (by omega)]
      exact hr
  · rw [show (d + 1 - a).toNat = (d - a).toNat + 1 by omega]
    show rv_dep g a.toNat (d - a).toNat + rv_kd (g (a.toNat + (d - a).toNat)) = _
    rw [el, ed _ (by omega)]
theorem rv_cn_congr {P : Int → Bool} {f g : Nat → Int} : ∀ (n : Nat), (∀ j, j < n → f j = g j) → rv_cn P f n = rv_cn P g n
  | 0, _ => rfl
  | n + 1, h => by
    show rv_cn P f n + (if P (f n) = true then 1 else 0) = rv_cn P g n + (if P (g n) = true then 1 else 0)
    rw [rv_cn_congr n (fun j hj => h j (by omega)), h n (by omega)]
theorem rv_cn_nn (P : Int → Bool) (f : Nat → Int) : ∀ n : Nat, 0 ≤ rv_cn P f n
  | 0 => Int.le_refl _
  | n + 1 => by
    have := rv_cn_nn P f n
    show 0 ≤ rv_cn P f n + (if P (f n) = true then 1 else 0)
    split <;> omega
theorem rv_cn_NW (f : Nat → Int) : ∀ n : Nat, rv_cn rv_isN f n ≤ rv_cn rv_isW f n
  | 0 => Int.le_refl _
  | n + 1 => by
    have := rv_cn_NW f n
    show rv_cn rv_isN f n + (if rv_isN (f n) = true then 1 else 0) ≤ rv_cn rv_isW f n + (if rv_isW (f n) = true then 1 else 0)
    by_cases h : rv_isN (f n) = true
    · have h2 : rv_isW (f n) = true := by
        unfold rv_isN at h
        unfold rv_isW
        rw [h]
        rfl
      rw [if_pos h, if_pos h2]
      omega
    · rw [if_neg h]
      split <;> omega
theorem rv_cn_push {P : Int → Bool} {w w' : Nat → Int} {pl v : Int} (h0 : 0 ≤ pl) (hw : ∀ j : Nat, w' j = if j = pl.toNat then v else w j) : rv_cn P w' (pl + 1).toNat = rv_cn P w pl.toNat + (if P v = true then 1 else 0) := by
  rw [show (pl + 1).toNat = pl.toNat + 1 by omega]
  show rv_cn P w' pl.toNat + (if P (w' pl.toNat) = true then 1 else 0) = _
  rw [rv_cn_congr (g := w) pl.toNat (fun j hj => by rw [hw, if_neg (by omega)]), hw pl.toNat, if_pos rfl]
theorem rv_cn_pop (P : Int → Bool) (w : Nat → Int) {pl : Int} (h1 : 1 ≤ pl) : rv_cn P w pl.toNat = rv_cn P w (pl - 1).toNat + (if P (w (pl - 1).toNat) = true then 1 else 0) := by
  rw [show pl.toNat = (pl - 1).toNat + 1 by omega]
  rfl
theorem rv_cn_all {w s : Nat → Int} : ∀ n : Nat, (∀ j : Nat, j < n → rv_en w s j) → (n : Int) ≤ 1 + rv_cn rv_isB w n + rv_cn rv_isW w n
  | 0, _ => by show (0 : Int) ≤ 1 + 0 + 0; omega
  | n + 1, h => by
    have ih := rv_cn_all n (fun j hj => h j (by omega))
    have hB := rv_cn_nn rv_isB w n
    have hW := rv_cn_nn rv_isW w n
    show ((n + 1 : Nat) : Int) ≤ 1 + (rv_cn rv_isB w n + (if rv_isB (w n) = true then 1 else 0)) + (rv_cn rv_isW w n + (if rv_isW (w n) = true then 1 else 0))
    by_cases hn : n = 0
    · subst hn
      split <;> split <;> omega
    · obtain ⟨-, h2⟩ := h n (by omega)
      obtain ⟨a1, a2, -⟩ := h2 (by omega)
      by_cases hb : rv_isB (w n) = true
      · rw [if_pos hb]
        split <;> omega
      · have hw : rv_isW (w n) = true := by
          unfold rv_isB at hb
          unfold rv_isW
          simp only [Bool.or_eq_true, decide_eq_true_eq, not_or] at hb ⊢
          omega
        rw [if_neg hb, if_pos hw]
        omega
theorem rv_B_of {v : Int} (h : (1 ≤ v ∧ v ≤ 2) ∨ (4 ≤ v ∧ v ≤ 6)) : rv_isB v = true ∧ rv_isW v = false ∧ rv_isN v = false := by
  unfold rv_isB rv_isW rv_isN
  simp only [Bool.or_eq_true, decide_eq_true_eq, Bool.or_eq_false_iff, decide_eq_false_iff_not]
  omega
theorem rv_N_of {v : Int} (h : v = 3) : rv_isB v = false ∧ rv_isW v = true ∧ rv_isN v = true := by subst h; decide
theorem rv_W_of {v : Int} (h : v = 7) : rv_isB v = false ∧ rv_isW v = true ∧ rv_isN v = false := by subst h; decide
theorem rv_A_of {v : Int} (h : v = 8) : rv_isB v = false ∧ rv_isW v = false ∧ rv_isN v = false := by subst h; decide
theorem rv_ite_t {b : Bool} (h : b = true) : (if b = true then (1 : Int) else 0) = 1 := if_pos h
theorem rv_ite_f {b : Bool} (h : b = false) : (if b = true then (1 : Int) else 0) = 0 := if_neg (by rw [h]; decide)
section
variable {r k : Int} {c c' : Nat → Int} {a d d' : Int} {wh wh' sg sg' : Nat → Int} {pl pl' wi wi' U U' N N' t fo to v q : Int}
theorem rv_pi_top (h : rv_PI r k q c a d wh sg pl wi U N t fo to) (h1 : 1 ≤ pl) : (pl = 1 → wh (pl - 1).toNat = 8) ∧ (2 ≤ pl → 1 ≤ wh (pl - 1).toNat ∧ wh (pl - 1).toNat ≤ 7 ∧ (wh (pl - 1).toNat = 3 → sg (pl - 1).toNat = 126) ∧ (¬ wh (pl - 1).toNat = 3 → ¬ wh (pl - 1).toNat = 7 → rv_opS (sg (pl - 1).toNat))) := by
  obtain ⟨e1, e2⟩ := h.2.2.2.2.2.1 (pl - 1).toNat (by omega)
  exact ⟨fun z => e1 (by omega), fun z => e2 (by omega)⟩
theorem rv_pi_bp (h : rv_PI r k q c a d wh sg pl wi U N t fo to) (hq : 0 ≤ q) : pl ≤ 60 := by
  obtain ⟨h0, -, -, -, -, h5, h6, h7, h8, h9, -⟩ := h
  have := rv_cn_all (w := wh) (s := sg) pl.toNat (fun j hj => h5 j (by omega))
  omega
theorem rv_pi_bc0 (h : rv_PI r k 0 c a d wh sg pl wi U N t fo to) : 560 * r ≤ d ∧ d ≤ 560 * r + 558 := by
  obtain ⟨h0, h1, h2, h3, -, h5, h6, h7, h8, h9, h10, h11, -⟩ := h
  have b1 := rv_cn_nn rv_isB wh pl.toNat
  have b2 := rv_cn_nn rv_isN wh pl.toNat
  omega
theorem rv_pi_bc1 (h : rv_PI r k 1 c a d wh sg pl wi U N t fo to) : 560 * r ≤ d ∧ d ≤ 560 * r + 558 := by
  obtain ⟨h0, h1, h2, h3, -, h5, h6, h7, h8, h9, h10, h11, -⟩ := h
  have b1 := rv_cn_nn rv_isB wh pl.toNat
  have b2 := rv_cn_nn rv_isN wh pl.toNat
  omega
theorem rv_pi_start (hr : 0 ≤ r) (h : rv_PE r k c a d N t fo to) (hw : ∀ j : Nat, wh' j = if j = (0 : Int).toNat then 8 else wh j) : rv_PI r k 0 c a d wh' sg 1 0 0 N t fo to := by
  obtain ⟨h1, h2, h3, h4, h5⟩ := h
  have p := fun P => rv_cn_push (P := P) (pl := 0) (Int.le_refl _) hw
  have pB := p rv_isB
  have pW := p rv_isW
  have pN := p rv_isN
  rw [rv_ite_f (rv_A_of rfl).1] at pB
  rw [rv_ite_f (rv_A_of rfl).2.1] at pW
  rw [rv_ite_f (rv_A_of rfl).2.2] at pN
  have z : ∀ P, rv_cn P wh (0 : Int).toNat = 0 := fun _ => rfl
  rw [z, show (0 : Int) + 1 = 1 by omega] at pB pW pN
  subst h1
  refine ⟨by omega, h2, Int.le_refl _, ⟨by omega, fun n hn => by omega⟩, ?_, fun j hj => ?_, by rw [pW]; omega, by omega, by rw [pB]; omega, by omega, by rw [pB, pN]; omega, h4, h5⟩
  · rw [pB, show (a - a).toNat = 0 by omega]
    rfl
  · have hj : j = 0 := by omega
    subst hj
    exact ⟨fun _ => by rw [hw]; rfl, fun q => by omega⟩
theorem rv_en_push {j : Nat} (hw : ∀ j : Nat, wh' j = if j = pl.toNat then v else wh j) (hs : ∀ j : Nat, sg' j = if j = pl.toNat then q else sg j) (h1 : 1 ≤ pl) (hj : (j : Int) < pl + 1) (h : ∀ j : Nat, (j : Int) < pl → rv_en wh sg j) (hv : 1 ≤ v ∧ v ≤ 7 ∧ (v = 3 → q = 126) ∧ (¬ v = 3 → ¬ v = 7 → rv_opS q)) : rv_en wh' sg' j := by
  by_cases hc : j = pl.toNat
  · subst hc
    refine ⟨fun z => by omega, fun _ => ?_⟩
    rw [hw, hs, if_pos rfl, if_pos rfl]
    exact hv
  · have := h j (by omega)
    unfold rv_en at this ⊢
    rw [hw, hs, if_neg hc, if_neg hc]
    exact this
theorem rv_pi_not (h : rv_PI r k 0 c a d wh sg pl wi U N t fo to) (h1 : 1 ≤ pl) (hw : ∀ j : Nat, wh' j = if j = pl.toNat then 3 else wh j) (hs : ∀ j : Nat, sg' j = if j = pl.toNat then 126 else sg j) (hwi : ¬ wi = 7) : rv_PI r k 0 c a d wh' sg' (pl + 1) (wi + 1) U N t fo to := by
  obtain ⟨h0, h2, h3, h4, h5, h6, h7, h8, h9, h10, h11, h12, h13⟩ := h
  have p := fun P => rv_cn_push (P := P) h0 hw
  have pB := p rv_isB
  have pW := p rv_isW
  have pN := p rv_isN
  rw [rv_ite_f (rv_N_of rfl).1] at pB
  rw [rv_ite_t (rv_N_of rfl).2.1] at pW
  rw [rv_ite_t (rv_N_of rfl).2.2] at pN
  exact ⟨by omega, h2, h3, h4, by rw [pB]; omega, fun j hj => rv_en_push hw hs h1 hj h6 ⟨by decide, by decide, fun _ => rfl, fun z => absurd rfl z⟩, by rw [pW]; omega, by omega, by rw [pB]; omega, h10, by rw [pB, pN]; omega, h12, h13⟩
theorem rv_pi_brk (h : rv_PI r k 0 c a d wh sg pl wi U N t fo to) (h1 : 1 ≤ pl) (hw : ∀ j : Nat, wh' j = if j = pl.toNat then 7 else wh j) (hs : ∀ j : Nat, sg' j = if j = pl.toNat then v else sg j) (hwi : ¬ wi = 7) (hU : ¬ U = 30) (hN : N ≤ 59) : rv_PI r k 0 c a d wh' sg' (pl + 1) (wi + 1) (U + 1) (N + 1) t fo to := by
  obtain ⟨h0, h2, h3, h4, h5, h6, h7, h8, h9, h10, h11, h12, h13⟩ := h
  have p := fun P => rv_cn_push (P := P) h0 hw
  have pB := p rv_isB
  have pW := p rv_isW
  have pN := p rv_isN
  rw [rv_ite_f (rv_W_of rfl).1] at pB
  rw [rv_ite_t (rv_W_of rfl).2.1] at pW
  rw [rv_ite_f (rv_W_of rfl).2.2] at pN
  exact ⟨by omega, h2, h3, h4, by rw [pB]; omega, fun j hj => rv_en_push hw hs h1 hj h6 ⟨by decide, by decide, fun q => by omega, fun _ q => absurd rfl q⟩, by rw [pW]; omega, by omega, by rw [pB]; omega, by omega, by rw [pB, pN]; omega, by omega, h13⟩
theorem rv_kd_l (h : 97 ≤ v ∧ v ≤ 122) : rv_kd v = 1 := by
  unfold rv_kd
  rw [if_neg (by omega), if_pos h]
theorem rv_kd_n (h : v = 126) : rv_kd v = 0 := if_pos h
theorem rv_kd_o (h : ¬ v = 126) (h2 : ¬ (97 ≤ v ∧ v ≤ 122)) : rv_kd v = -1 := by
  unfold rv_kd
  rw [if_neg h, if_neg h2]
theorem rv_pi_oth (hc : ∀ j : Nat, c' j = if j = d.toNat then v else c j) (had : a ≤ d) (h : rv_bit t k → 560 * r ≤ fo ∧ to ≤ a ∧ rv_WF c fo to) : rv_bit t k → 560 * r ≤ fo ∧ to ≤ a ∧ rv_WF c' fo to := fun hb => by
  obtain ⟨h1, h2, h3⟩ := h hb
  have h0 := h3.1
  exact ⟨h1, h2, rv_WF_congr (fun j z1 z2 => by rw [hc, if_neg (by omega)]) h3⟩
theorem rv_pi_leaf (h : rv_PI r k 0 c a d wh sg pl wi U N t fo to) (hc : ∀ j : Nat, c' j = if j = d.toNat then v else c j) (hv : 97 ≤ v ∧ v ≤ 122) (hU : ¬ U = 30) (hN : N ≤ 59) : rv_PI r k 1 c' a (d + 1) wh sg pl wi (U + 1) (N + 1) t fo to := by
  obtain ⟨h0, h2, h3, h4, h5, h6, h7, h8, h9, h10, h11, h12, h13⟩ := h
  obtain ⟨s1, s2⟩ := rv_WF_snoc hc h3 h4 ⟨fun z => by omega, fun _ => by omega, fun _ z => absurd hv z⟩
  rw [rv_kd_l hv] at s2
  have b2 := rv_cn_nn rv_isN wh pl.toNat
  exact ⟨h0, h2, by omega, s1, by rw [s2]; omega, h6, h7, h8, by omega, by omega, by omega, by omega, rv_pi_oth hc h3 h13⟩
theorem rv_en_pop (h : ∀ j : Nat, (j : Int) < pl → rv_en wh sg j) {j : Nat} (hj : (j : Int) < pl - 1) : rv_en wh sg j := h j (by omega)
theorem rv_pi_popN (h : rv_PI r k 1 c a d wh sg pl wi U N t fo to) (h1 : 1 ≤ pl) (hc : ∀ j : Nat, c' j = if j = d.toNat then sg (pl - 1).toNat else c j) (hv : wh (pl - 1).toNat = 3) : rv_PI r k 1 c' a (d + 1) wh sg (pl - 1) (wi - 1) U N t fo to := by
  have ht := rv_pi_top h h1
  obtain ⟨h0, h2, h3, h4, h5, h6, h7, h8, h9, h10, h11, h12, h13⟩ := h
  have h2p : 2 ≤ pl := by
    rcases Int.lt_or_le pl 2 with z | z
    · have := ht.1 (by omega)
      omega
    · exact z
  have hs := (ht.2 h2p).2.2.1 hv
  have pB := rv_cn_pop rv_isB wh h1
  have pW := rv_cn_pop rv_isW wh h1
  have pN := rv_cn_pop rv_isN wh h1
  rw [rv_ite_f (rv_N_of hv).1] at pB
  rw [rv_ite_t (rv_N_of hv).2.1] at pW
  rw [rv_ite_t (rv_N_of hv).2.2] at pN
  have b1 := rv_cn_nn rv_isB wh pl.toNat
  rw [hs] at hc
  obtain ⟨s1, s2⟩ := rv_WF_snoc hc h3 h4 ⟨fun _ => by omega, fun z => by omega, fun z => absurd rfl z⟩
  rw [rv_kd_n rfl] at s2
  exact ⟨by omega, h2, by omega, s1, by rw [s2]; omega, fun j hj => rv_en_pop h6 hj, by omega, by omega, by omega, h10, by omega, h12, rv_pi_oth hc h3 h13⟩
theorem rv_pi_popB (h : rv_PI r k 1 c a d wh sg pl wi U N t fo to) (h1 : 1 ≤ pl) (hc : ∀ j : Nat, c' j = if j = d.toNat then sg (pl - 1).toNat else c j) (hv : ¬ wh (pl - 1).toNat = 3) (hv2 : wh (pl - 1).toNat ≤ 6) : rv_PI r k 1 c' a (d + 1) wh sg (pl - 1) wi U N t fo to := by
  have ht := rv_pi_top h h1
  obtain ⟨h0, h2, h3, h4, h5, h6, h7, h8, h9, h10, h11, h12, h13⟩ := h
  have h2p : 2 ≤ pl := by
    rcases Int.lt_or_le pl 2 with z | z
    · have := ht.1 (by omega)
      omega
    · exact z
  obtain ⟨t1, t2, -, t4⟩ := ht.2 h2p
  have hs := t4 hv (by omega)
  have hB := rv_B_of (v := wh (pl - 1).toNat) (by omega)
  have pB := rv_cn_pop rv_isB wh h1
  have pW := rv_cn_pop rv_isW wh h1
  have pN := rv_cn_pop rv_isN wh h1
  rw [rv_ite_t hB.1] at pB
  rw [rv_ite_f hB.2.1] at pW
  rw [rv_ite_f hB.2.2] at pN
  have b1 := rv_cn_nn rv_isB wh (pl - 1).toNat
  unfold rv_opS at hs
  obtain ⟨s1, s2⟩ := rv_WF_snoc hc h3 h4 ⟨fun z => by omega, fun z => by omega, fun _ _ => by omega⟩
  rw [rv_kd_o (by omega) (by omega)] at s2
  exact ⟨by omega, h2, by omega, s1, by rw [s2]; omega, fun j hj => rv_en_pop h6 hj, by omega, by omega, by omega, h10, by omega, h12, rv_pi_oth hc h3 h13⟩
theorem rv_pi_push (h : rv_PI r k 1 c a d wh sg pl wi U N t fo to) (h1 : 1 ≤ pl) (hw : ∀ j : Nat, wh' j = if j = pl.toNat then v else wh j) (hs : ∀ j : Nat, sg' j = if j = pl.toNat then q else sg j) (hv : (1 ≤ v ∧ v ≤ 2) ∨ (4 ≤ v ∧ v ≤ 6)) (hq : rv_opS q) : rv_PI r k 0 c a d wh' sg' (pl + 1) wi U N t fo to := by
  obtain ⟨h0, h2, h3, h4, h5, h6, h7, h8, h9, h10, h11, h12, h13⟩ := h
  have hB := rv_B_of hv
  have p := fun P => rv_cn_push (P := P) h0 hw
  have pB := p rv_isB
  have pW := p rv_isW
  have pN := p rv_isN
  rw [rv_ite_t hB.1] at pB
  rw [rv_ite_f hB.2.1] at pW
  rw [rv_ite_f hB.2.2] at pN
  have b2 := rv_cn_nn rv_isW wh pl.toNat
  exact ⟨by omega, h2, h3, h4, by rw [pB]; omega, fun j hj => rv_en_push hw hs h1 hj h6 ⟨by omega, by omega, fun z => by omega, fun _ _ => hq⟩, by rw [pW]; omega, by omega, by rw [pB]; omega, h10, by rw [pB, pN]; omega, h12, h13⟩
theorem rv_pi_clB (h : rv_PI r k 1 c a d wh sg pl wi U N t fo to) (h1 : 1 ≤ pl) (hv : wh (pl - 1).toNat = 7) : rv_PI r k 1 c a d wh sg (pl - 1) (wi - 1) U N t fo to := by
  obtain ⟨h0, h2, h3, h4, h5, h6, h7, h8, h9, h10, h11, h12, h13⟩ := h
  have pB := rv_cn_pop rv_isB wh h1
  have pW := rv_cn_pop rv_isW wh h1
  have pN := rv_cn_pop rv_isN wh h1
  rw [rv_ite_f (rv_W_of hv).1] at pB
  rw [rv_ite_t (rv_W_of hv).2.1] at pW
  rw [rv_ite_f (rv_W_of hv).2.2] at pN
  exact ⟨by omega, h2, h3, h4, by omega, fun j hj => rv_en_pop h6 hj, by omega, by omega, by omega, h10, by omega, h12, h13⟩
theorem rv_pi_clA (h : rv_PI r k 1 c a d wh sg pl wi U N t fo to) (h1 : 1 ≤ pl) (hv : wh (pl - 1).toNat = 8) : rv_PI r k 1 c a d wh sg (pl - 1) wi U N t fo to := by
  obtain ⟨h0, h2, h3, h4, h5, h6, h7, h8, h9, h10, h11, h12, h13⟩ := h
  have pB := rv_cn_pop rv_isB wh h1
  have pW := rv_cn_pop rv_isW wh h1
  have pN := rv_cn_pop rv_isN wh h1
  rw [rv_ite_f (rv_A_of hv).1] at pB
  rw [rv_ite_f (rv_A_of hv).2.1] at pW
  rw [rv_ite_f (rv_A_of hv).2.2] at pN
  exact ⟨by omega, h2, h3, h4, by omega, fun j hj => rv_en_pop h6 hj, by omega, by omega, by omega, h10, by omega, h12, h13⟩
theorem rv_pi_wi (h : rv_PI r k 1 c a d wh sg pl wi U N t fo to) (h1 : 1 ≤ pl) (hv : wh (pl - 1).toNat = 3 ∨ wh (pl - 1).toNat = 7) : 1 ≤ wi := by
  obtain ⟨h0, h2, h3, h4, h5, h6, h7, -⟩ := h
  have pW := rv_cn_pop rv_isW wh h1
  have b1 := rv_cn_nn rv_isW wh (pl - 1).toNat
  rcases hv with hv | hv
  · rw [rv_ite_t (rv_N_of hv).2.1] at pW
    omega
  · rw [rv_ite_t (rv_W_of hv).2.1] at pW
    omega
theorem rv_pi_ne (h : rv_PI r k 1 c a d wh sg pl wi U N t fo to) (hp : pl = 0) : rv_dep c a.toNat (d - a).toNat = 1 := by
  obtain ⟨h0, h2, h3, h4, h5, -⟩ := h
  rw [h5, hp]
  rfl
end
/-! bits of a told number -/
theorem rv_bit_or {t t' k c : Int} (h : t' = (rv_f 6 (Int32.ofInt t) (Int32.ofInt c)).toInt) (hc : rv_f 5 (rv_f 9 (Int32.ofInt c) (Int32.ofInt k)) 1 = 0) : rv_bit t' k ↔ rv_bit t k := by
  have e1 : Int32.ofInt t' = Int32.ofInt t ||| Int32.ofInt c := by
    rw [h, Int32.ofInt_toInt]
    rfl
  unfold rv_bit
  rw [e1]
  have hc : (Int32.ofInt c >>> (Int32.ofInt k &&& 31)) &&& 1 = 0 := hc
  show ((((Int32.ofInt t ||| Int32.ofInt c) >>> (Int32.ofInt k &&& 31)) &&& 1).toInt = 1) ↔ (((Int32.ofInt t >>> (Int32.ofInt k &&& 31)) &&& 1).toInt = 1)
  rw [Int32.shiftRight_or]
  have e2 : ∀ x y : Int32, y &&& 1 = 0 → (x ||| y) &&& 1 = x &&& 1 := by
    intro x y hy
    apply Int32.toBitVec_inj.1
    have hy : y.toBitVec &&& 1#32 = 0#32 := by
      have := congrArg Int32.toBitVec hy
      exact this
    show (x.toBitVec ||| y.toBitVec) &&& 1#32 = x.toBitVec &&& 1#32
    rw [BitVec.and_or_distrib_right, hy, BitVec.or_zero]
  rw [e2 _ _ hc]
theorem rv_bit_0 {k : Int} (t : Int) (ht : t = 0) (hk : k = 0 ∨ k = 1) : ¬ rv_bit t k := by
  subst ht
  unfold rv_bit
  rcases hk with rfl | rfl <;> decide
