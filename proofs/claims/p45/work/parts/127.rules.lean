/-! rules, by program -/
theorem rv_sum_le {f g : Nat → Int} : ∀ n : Nat, (∀ j, j < n → f j = g j) → rv_sum f n = rv_sum g n
  | 0, _ => rfl
  | n + 1, h => by
    show rv_sum f n + (f n).toNat = rv_sum g n + (g n).toNat
    rw [rv_sum_le n (fun j hj => h j (by omega)), h n (by omega)]
theorem rv_sum_lt0 {d c : Nat → Int} {i : Nat} {v : Int} (hd : ∀ j, d j = if j = i then v else c j) (h0 : 0 ≤ v) (hv : v < c i) : ∀ n : Nat, i < n → rv_sum d n < rv_sum c n
  | 0, h => by omega
  | n + 1, h => by
    show rv_sum d n + (d n).toNat < rv_sum c n + (c n).toNat
    by_cases hi : i = n
    · subst hi
      rw [rv_sum_le (g := c) i (fun j hj => by rw [hd, if_neg (by omega)]), hd i, if_pos rfl]
      omega
    · have := rv_sum_lt0 hd h0 hv n (by omega)
      rw [hd n, if_neg (by omega)]
      omega
theorem rv_sum_lt {d c : Nat → Int} {i v : Int} (hd : ∀ j, d j = if j = i.toNat then v else c j) (hi0 : 0 ≤ i) (hi : i ≤ 255) (h0 : 0 ≤ v) (hv : v < c i.toNat) : rv_μ 1 d < rv_μ 1 c := rv_sum_lt0 hd h0 hv 256 (by omega)
theorem rv_num_eq {f g : Nat → Int} : ∀ n : Nat, (∀ j, j < n → f j = g j) → rv_num f n = rv_num g n
  | 0, _ => rfl
  | n + 1, h => by
    show 8 * rv_num f n + min (f n).toNat 7 = 8 * rv_num g n + min (g n).toNat 7
    rw [rv_num_eq n (fun j hj => h j (by omega)), h n (by omega)]
theorem rv_num_b (f : Nat → Int) : ∀ n : Nat, rv_num f n < 8 ^ n
  | 0 => by show 0 < 1; omega
  | n + 1 => by
    have := rv_num_b f n
    show 8 * rv_num f n + min (f n).toNat 7 < 8 ^ (n + 1)
    rw [Nat.pow_succ]
    omega
theorem rv_num_lt0 {d c : Nat → Int} {k : Nat} (h1 : ∀ j : Nat, j < k → d j = c j) (h2 : c k < d k) (h3 : 0 ≤ c k) (h4 : c k ≤ 6) : ∀ n : Nat, k < n → rv_num c n < rv_num d n
  | 0, h => by omega
  | n + 1, h => by
    show 8 * rv_num c n + min (c n).toNat 7 < 8 * rv_num d n + min (d n).toNat 7
    by_cases hi : k = n
    · subst hi
      rw [rv_num_eq (f := c) (g := d) k (fun j hj => (h1 j hj).symm)]
      omega
    · have := rv_num_lt0 h1 h2 h3 h4 n (by omega)
      omega
theorem rv_num_lt {d c : Nat → Int} {k : Nat} (hk : k < 7) (h1 : ∀ j : Nat, j < k → d j = c j) (h2 : c k < d k) (h3 : 0 ≤ c k) (h4 : c k ≤ 6) : rv_μ 0 d < rv_μ 0 c := by
  show 2097152 - rv_num d 7 < 2097152 - rv_num c 7
  have a := rv_num_lt0 h1 h2 h3 h4 7 hk
  have b := rv_num_b d 7
  have e : (8 : Nat) ^ 7 = 2097152 := by decide
  omega
theorem rv_rem {x y : Int} (h1 : 0 ≤ x) (h2 : x ≤ 2147483647) (h3 : 1 ≤ y) (h4 : y ≤ 2147483647) : (rv_f 4 (Int32.ofInt x) (Int32.ofInt y)).toInt < y := by
  have ex := rv_of32 (z := x) (by rw [rv_lo_eq]; omega) (by rw [rv_hi_eq]; omega)
  have ey := rv_of32 (z := y) (by rw [rv_lo_eq]; omega) (by rw [rv_hi_eq]; omega)
  have e := rv_gen_ok 4 (a := (x, x)) (b := (y, y)) (x := Int32.ofInt x) (y := Int32.ofInt y) (by rw [ex]; exact Int.le_refl _) (by rw [ex]; exact Int.le_refl _) (by rw [ey]; exact Int.le_refl _) (by rw [ey]; exact Int.le_refl _)
  have c : (rv_le 0 x && rv_le 1 y) = true := by rw [Bool.and_eq_true, rv_le_iff, rv_le_iff]; exact ⟨h1, h3⟩
  have e2 : rv_gen 4 (x, x) (y, y) = (0, rv_min x (y - 1)) := by
    show (bif rv_le 0 x && rv_le 1 y then (0, rv_min x (y - 1)) else rv_top) = _
    rw [c]
    rfl
  rw [e2] at e
  have m := (rv_min_or x (y - 1)).2
  have e3 := e.2
  dsimp only at e3
  omega
theorem rv_and1 {x : Int} (h1 : 1 ≤ x) (h2 : x ≤ 2147483647) : (rv_f 5 (Int32.ofInt x) (Int32.ofInt (x - 1))).toInt < x := by
  have ex := rv_of32 (z := x) (by rw [rv_lo_eq]; omega) (by rw [rv_hi_eq]; omega)
  have ey := rv_of32 (z := x - 1) (by rw [rv_lo_eq]; omega) (by rw [rv_hi_eq]; omega)
  have e := rv_gen_ok 5 (a := (x, x)) (b := (x - 1, x - 1)) (x := Int32.ofInt x) (y := Int32.ofInt (x - 1)) (by rw [ex]; exact Int.le_refl _) (by rw [ex]; exact Int.le_refl _) (by rw [ey]; exact Int.le_refl _) (by rw [ey]; exact Int.le_refl _)
  have c1 : rv_le 0 x = true := by rw [rv_le_iff]; omega
  have c2 : rv_le 0 (x - 1) = true := by rw [rv_le_iff]; omega
  have e2 : rv_gen 5 (x, x) (x - 1, x - 1) = (0, rv_min x (x - 1)) := by
    show (bif rv_le 0 x then (0, bif rv_le 0 (x - 1) then rv_min x (x - 1) else x) else _) = _
    rw [c1, c2]
    rfl
  rw [e2] at e
  have m := (rv_min_or x (x - 1)).2
  have e3 := e.2
  dsimp only at e3
  omega
theorem rv_div2 {x : Int} (h1 : 0 ≤ x) (h2 : x ≤ 255) : (rv_f 3 (Int32.ofInt x) (Int32.ofInt 2)).toInt ≤ 127 := by
  have key : ∀ n : Fin 256, (rv_f 3 (Int32.ofInt (n.val : Int)) (Int32.ofInt 2)).toInt ≤ 127 := by decide +kernel
  have := key ⟨x.toNat, by omega⟩
  rw [show ((⟨x.toNat, by omega⟩ : Fin 256).val : Int) = x by show ((x.toNat : Nat) : Int) = x; omega] at this
  exact this
theorem ru_acts0_0 : rv_RlOk (44, [0, 1], [(44, [2, 1], Int.ofNat 0, Int.ofNat 0), (1001, [0, 2], Int.negSucc 0, Int.ofNat 0)]) := by
  intro val h
  have p0 : (val 2).1 + (val 1).1 ≤ 40 := h _ (List.mem_of_getElem? (i := 0) rfl) rfl
  have p1 : (val 0).1 = (val 2).1 + (-1) := h _ (List.mem_of_getElem? (i := 1) rfl)
  intro _
  show (val 0).1 + (val 1).1 ≤ 40
  omega
theorem ru_acts0_1 : rv_RlOk (44, [0, 1], [(1000, [0], Int.ofNat 0, Int.ofNat 40), (1000, [1], Int.ofNat 0, Int.ofNat 0)]) := by
  intro val h
  have p0 : 0 ≤ (val 0).1 ∧ (val 0).1 ≤ 40 := h _ (List.mem_of_getElem? (i := 0) rfl)
  have p1 : 0 ≤ (val 1).1 ∧ (val 1).1 ≤ 0 := h _ (List.mem_of_getElem? (i := 1) rfl)
  intro _
  show (val 0).1 + (val 1).1 ≤ 40
  omega
def rl_acts0 : List rv_Rl := [(44, [0, 1], [(44, [2, 1], Int.ofNat 0, Int.ofNat 0), (1001, [0, 2], Int.negSucc 0, Int.ofNat 0)]), (44, [0, 1], [(1000, [0], Int.ofNat 0, Int.ofNat 40), (1000, [1], Int.ofNat 0, Int.ofNat 0)])]
theorem rlo_acts0 : ∀ r ∈ rl_acts0, rv_RlOk r := List.forall_mem_cons.mpr ⟨ru_acts0_0, List.forall_mem_cons.mpr ⟨ru_acts0_1, fun _ h => absurd h List.not_mem_nil⟩⟩
theorem ru_and_0 : rv_RlOk (1, [0, 1], [(15, [0, 1, 2], Int.ofNat 0, Int.ofNat 0), (1001, [2, 1], Int.negSucc 0, Int.ofNat 0), (1000, [1], Int.ofNat 1, Int.ofNat 2147483647)]) := by
  intro val h
  have p0 : (val 0).1 = (rv_f 5 (Int32.ofInt (val 1).1) (Int32.ofInt (val 2).1)).toInt := h _ (List.mem_of_getElem? (i := 0) rfl)
  have p1 : (val 2).1 = (val 1).1 + (-1) := h _ (List.mem_of_getElem? (i := 1) rfl)
  have p2 : 1 ≤ (val 1).1 ∧ (val 1).1 ≤ 2147483647 := h _ (List.mem_of_getElem? (i := 2) rfl)
  show (val 0).1 < (val 1).1
  have e := rv_and1 (x := (val 1).1) (by omega) (by omega)
  rw [show (val 1).1 - 1 = (val 2).1 by omega] at e
  omega
def rl_and : List rv_Rl := [(1, [0, 1], [(15, [0, 1, 2], Int.ofNat 0, Int.ofNat 0), (1001, [2, 1], Int.negSucc 0, Int.ofNat 0), (1000, [1], Int.ofNat 1, Int.ofNat 2147483647)])]
theorem rlo_and : ∀ r ∈ rl_and, rv_RlOk r := List.forall_mem_cons.mpr ⟨ru_and_0, fun _ h => absurd h List.not_mem_nil⟩
theorem ru_bcf00_0 : rv_RlOk (2, [0, 1], [(70, [30, 31, 0, 33, 34, 35, 36, 37, 38, 39, 40, 41], Int.ofNat 0, Int.ofNat 0), (1000, [1], Int.ofNat 558, Int.ofNat 558)]) := by
  intro val h
  have p0 : rv_PI 0 1 1 (val 30).2 (val 31).1 (val 0).1 (val 33).2 (val 34).2 (val 35).1 (val 36).1 (val 37).1 (val 38).1 (val 39).1 (val 40).1 (val 41).1 := h _ (List.mem_of_getElem? (i := 0) rfl) rfl
  have p1 : 558 ≤ (val 1).1 ∧ (val 1).1 ≤ 558 := h _ (List.mem_of_getElem? (i := 1) rfl)
  show (val 0).1 ≤ (val 1).1
  have e := rv_pi_bc1 p0
  omega
theorem ru_bcf00_1 : rv_RlOk (2, [0, 1], [(70, [30, 31, 1, 33, 34, 35, 36, 37, 38, 39, 40, 41], Int.ofNat 0, Int.ofNat 0), (1000, [0], Int.ofNat 0, Int.ofNat 0)]) := by
  intro val h
  have p0 : rv_PI 0 1 1 (val 30).2 (val 31).1 (val 1).1 (val 33).2 (val 34).2 (val 35).1 (val 36).1 (val 37).1 (val 38).1 (val 39).1 (val 40).1 (val 41).1 := h _ (List.mem_of_getElem? (i := 0) rfl) rfl
  have p1 : 0 ≤ (val 0).1 ∧ (val 0).1 ≤ 0 := h _ (List.mem_of_getElem? (i := 1) rfl)
  show (val 0).1 ≤ (val 1).1
  have e := rv_pi_bc1 p0
  omega
def rl_bcf00 : List rv_Rl := [(2, [0, 1], [(70, [30, 31, 0, 33, 34, 35, 36, 37, 38, 39, 40, 41], Int.ofNat 0, Int.ofNat 0), (1000, [1], Int.ofNat 558, Int.ofNat 558)]), (2, [0, 1], [(70, [30, 31, 1, 33, 34, 35, 36, 37, 38, 39, 40, 41], Int.ofNat 0, Int.ofNat 0), (1000, [0], Int.ofNat 0, Int.ofNat 0)])]
theorem rlo_bcf00 : ∀ r ∈ rl_bcf00, rv_RlOk r := List.forall_mem_cons.mpr ⟨ru_bcf00_0, List.forall_mem_cons.mpr ⟨ru_bcf00_1, fun _ h => absurd h List.not_mem_nil⟩⟩
theorem ru_bcf01_0 : rv_RlOk (2, [0, 1], [(72, [30, 31, 0, 33, 34, 35, 36, 37, 38, 39, 40, 41], Int.ofNat 0, Int.ofNat 0), (1000, [1], Int.ofNat 558, Int.ofNat 558)]) := by
  intro val h
  have p0 : rv_PI 0 0 1 (val 30).2 (val 31).1 (val 0).1 (val 33).2 (val 34).2 (val 35).1 (val 36).1 (val 37).1 (val 38).1 (val 39).1 (val 40).1 (val 41).1 := h _ (List.mem_of_getElem? (i := 0) rfl) rfl
  have p1 : 558 ≤ (val 1).1 ∧ (val 1).1 ≤ 558 := h _ (List.mem_of_getElem? (i := 1) rfl)
  show (val 0).1 ≤ (val 1).1
  have e := rv_pi_bc1 p0
  omega
theorem ru_bcf01_1 : rv_RlOk (2, [0, 1], [(72, [30, 31, 1, 33, 34, 35, 36, 37, 38, 39, 40, 41], Int.ofNat 0, Int.ofNat 0), (1000, [0], Int.ofNat 0, Int.ofNat 0)]) := by
  intro val h
  have p0 : rv_PI 0 0 1 (val 30).2 (val 31).1 (val 1).1 (val 33).2 (val 34).2 (val 35).1 (val 36).1 (val 37).1 (val 38).1 (val 39).1 (val 40).1 (val 41).1 := h _ (List.mem_of_getElem? (i := 0) rfl) rfl
  have p1 : 0 ≤ (val 0).1 ∧ (val 0).1 ≤ 0 := h _ (List.mem_of_getElem? (i := 1) rfl)
  show (val 0).1 ≤ (val 1).1
  have e := rv_pi_bc1 p0
  omega
def rl_bcf01 : List rv_Rl := [(2, [0, 1], [(72, [30, 31, 0, 33, 34, 35, 36, 37, 38, 39, 40, 41], Int.ofNat 0, Int.ofNat 0), (1000, [1], Int.ofNat 558, Int.ofNat 558)]), (2, [0, 1], [(72, [30, 31, 1, 33, 34, 35, 36, 37, 38, 39, 40, 41], Int.ofNat 0, Int.ofNat 0), (1000, [0], Int.ofNat 0, Int.ofNat 0)])]
theorem rlo_bcf01 : ∀ r ∈ rl_bcf01, rv_RlOk r := List.forall_mem_cons.mpr ⟨ru_bcf01_0, List.forall_mem_cons.mpr ⟨ru_bcf01_1, fun _ h => absurd h List.not_mem_nil⟩⟩
theorem ru_bcf10_0 : rv_RlOk (2, [0, 1], [(74, [30, 31, 0, 33, 34, 35, 36, 37, 38, 39, 40, 41], Int.ofNat 0, Int.ofNat 0), (1000, [1], Int.ofNat 1118, Int.ofNat 1118)]) := by
  intro val h
  have p0 : rv_PI 1 1 1 (val 30).2 (val 31).1 (val 0).1 (val 33).2 (val 34).2 (val 35).1 (val 36).1 (val 37).1 (val 38).1 (val 39).1 (val 40).1 (val 41).1 := h _ (List.mem_of_getElem? (i := 0) rfl) rfl
  have p1 : 1118 ≤ (val 1).1 ∧ (val 1).1 ≤ 1118 := h _ (List.mem_of_getElem? (i := 1) rfl)
  show (val 0).1 ≤ (val 1).1
  have e := rv_pi_bc1 p0
  omega
theorem ru_bcf10_1 : rv_RlOk (2, [0, 1], [(74, [30, 31, 1, 33, 34, 35, 36, 37, 38, 39, 40, 41], Int.ofNat 0, Int.ofNat 0), (1000, [0], Int.ofNat 560, Int.ofNat 560)]) := by
  intro val h
  have p0 : rv_PI 1 1 1 (val 30).2 (val 31).1 (val 1).1 (val 33).2 (val 34).2 (val 35).1 (val 36).1 (val 37).1 (val 38).1 (val 39).1 (val 40).1 (val 41).1 := h _ (List.mem_of_getElem? (i := 0) rfl) rfl
  have p1 : 560 ≤ (val 0).1 ∧ (val 0).1 ≤ 560 := h _ (List.mem_of_getElem? (i := 1) rfl)
  show (val 0).1 ≤ (val 1).1
  have e := rv_pi_bc1 p0
  omega
def rl_bcf10 : List rv_Rl := [(2, [0, 1], [(74, [30, 31, 0, 33, 34, 35, 36, 37, 38, 39, 40, 41], Int.ofNat 0, Int.ofNat 0), (1000, [1], Int.ofNat 1118, Int.ofNat 1118)]), (2, [0, 1], [(74, [30, 31, 1, 33, 34, 35, 36, 37, 38, 39, 40, 41], Int.ofNat 0, Int.ofNat 0), (1000, [0], Int.ofNat 560, Int.ofNat 560)])]
theorem rlo_bcf10 : ∀ r ∈ rl_bcf10, rv_RlOk r := List.forall_mem_cons.mpr ⟨ru_bcf10_0, List.forall_mem_cons.mpr ⟨ru_bcf10_1, fun _ h => absurd h List.not_mem_nil⟩⟩
theorem ru_bcf11_0 : rv_RlOk (2, [0, 1], [(76, [30, 31, 0, 33, 34, 35, 36, 37, 38, 39, 40, 41], Int.ofNat 0, Int.ofNat 0), (1000, [1], Int.ofNat 1118, Int.ofNat 1118)]) := by
  intro val h
  have p0 : rv_PI 1 0 1 (val 30).2 (val 31).1 (val 0).1 (val 33).2 (val 34).2 (val 35).1 (val 36).1 (val 37).1 (val 38).1 (val 39).1 (val 40).1 (val 41).1 := h _ (List.mem_of_getElem? (i := 0) rfl) rfl
  have p1 : 1118 ≤ (val 1).1 ∧ (val 1).1 ≤ 1118 := h _ (List.mem_of_getElem? (i := 1) rfl)
  show (val 0).1 ≤ (val 1).1
  have e := rv_pi_bc1 p0
  omega
theorem ru_bcf11_1 : rv_RlOk (2, [0, 1], [(76, [30, 31, 1, 33, 34, 35, 36, 37, 38, 39, 40, 41], Int.ofNat 0, Int.ofNat 0), (1000, [0], Int.ofNat 560, Int.ofNat 560)]) := by
  intro val h
  have p0 : rv_PI 1 0 1 (val 30).2 (val 31).1 (val 1).1 (val 33).2 (val 34).2 (val 35).1 (val 36).1 (val 37).1 (val 38).1 (val 39).1 (val 40).1 (val 41).1 := h _ (List.mem_of_getElem? (i := 0) rfl) rfl
  have p1 : 560 ≤ (val 0).1 ∧ (val 0).1 ≤ 560 := h _ (List.mem_of_getElem? (i := 1) rfl)
  show (val 0).1 ≤ (val 1).1
  have e := rv_pi_bc1 p0
  omega
def rl_bcf11 : List rv_Rl := [(2, [0, 1], [(76, [30, 31, 0, 33, 34, 35, 36, 37, 38, 39, 40, 41], Int.ofNat 0, Int.ofNat 0), (1000, [1], Int.ofNat 1118, Int.ofNat 1118)]), (2, [0, 1], [(76, [30, 31, 1, 33, 34, 35, 36, 37, 38, 39, 40, 41], Int.ofNat 0, Int.ofNat 0), (1000, [0], Int.ofNat 560, Int.ofNat 560)])]
theorem rlo_bcf11 : ∀ r ∈ rl_bcf11, rv_RlOk r := List.forall_mem_cons.mpr ⟨ru_bcf11_0, List.forall_mem_cons.mpr ⟨ru_bcf11_1, fun _ h => absurd h List.not_mem_nil⟩⟩
theorem ru_bct00_0 : rv_RlOk (2, [0, 1], [(71, [30, 31, 0, 33, 34, 35, 36, 37, 38, 39, 40, 41], Int.ofNat 0, Int.ofNat 0), (1000, [1], Int.ofNat 558, Int.ofNat 558)]) := by
  intro val h
  have p0 : rv_PI 0 1 0 (val 30).2 (val 31).1 (val 0).1 (val 33).2 (val 34).2 (val 35).1 (val 36).1 (val 37).1 (val 38).1 (val 39).1 (val 40).1 (val 41).1 := h _ (List.mem_of_getElem? (i := 0) rfl) rfl
  have p1 : 558 ≤ (val 1).1 ∧ (val 1).1 ≤ 558 := h _ (List.mem_of_getElem? (i := 1) rfl)
  show (val 0).1 ≤ (val 1).1
  have e := rv_pi_bc0 p0
  omega
theorem ru_bct00_1 : rv_RlOk (2, [0, 1], [(71, [30, 31, 1, 33, 34, 35, 36, 37, 38, 39, 40, 41], Int.ofNat 0, Int.ofNat 0), (1000, [0], Int.ofNat 0, Int.ofNat 0)]) := by
  intro val h
  have p0 : rv_PI 0 1 0 (val 30).2 (val 31).1 (val 1).1 (val 33).2 (val 34).2 (val 35).1 (val 36).1 (val 37).1 (val 38).1 (val 39).1 (val 40).1 (val 41).1 := h _ (List.mem_of_getElem? (i := 0) rfl) rfl
  have p1 : 0 ≤ (val 0).1 ∧ (val 0).1 ≤ 0 := h _ (List.mem_of_getElem? (i := 1) rfl)
  show (val 0).1 ≤ (val 1).1
  have e := rv_pi_bc0 p0
  omega
def rl_bct00 : List rv_Rl := [(2, [0, 1], [(71, [30, 31, 0, 33, 34, 35, 36, 37, 38, 39, 40, 41], Int.ofNat 0, Int.ofNat 0), (1000, [1], Int.ofNat 558, Int.ofNat 558)]), (2, [0, 1], [(71, [30, 31, 1, 33, 34, 35, 36, 37, 38, 39, 40, 41], Int.ofNat 0, Int.ofNat 0), (1000, [0], Int.ofNat 0, Int.ofNat 0)])]
theorem rlo_bct00 : ∀ r ∈ rl_bct00, rv_RlOk r := List.forall_mem_cons.mpr ⟨ru_bct00_0, List.forall_mem_cons.mpr ⟨ru_bct00_1, fun _ h => absurd h List.not_mem_nil⟩⟩
theorem ru_bct01_0 : rv_RlOk (2, [0, 1], [(73, [30, 31, 0, 33, 34, 35, 36, 37, 38, 39, 40, 41], Int.ofNat 0, Int.ofNat 0), (1000, [1], Int.ofNat 558, Int.ofNat 558)]) := by
  intro val h
  have p0 : rv_PI 0 0 0 (val 30).2 (val 31).1 (val 0).1 (val 33).2 (val 34).2 (val 35).1 (val 36).1 (val 37).1 (val 38).1 (val 39).1 (val 40).1 (val 41).1 := h _ (List.mem_of_getElem? (i := 0) rfl) rfl
  have p1 : 558 ≤ (val 1).1 ∧ (val 1).1 ≤ 558 := h _ (List.mem_of_getElem? (i := 1) rfl)
  show (val 0).1 ≤ (val 1).1
  have e := rv_pi_bc0 p0
  omega
theorem ru_bct01_1 : rv_RlOk (2, [0, 1], [(73, [30, 31, 1, 33, 34, 35, 36, 37, 38, 39, 40, 41], Int.ofNat 0, Int.ofNat 0), (1000, [0], Int.ofNat 0, Int.ofNat 0)]) := by
  intro val h
  have p0 : rv_PI 0 0 0 (val 30).2 (val 31).1 (val 1).1 (val 33).2 (val 34).2 (val 35).1 (val 36).1 (val 37).1 (val 38).1 (val 39).1 (val 40).1 (val 41).1 := h _ (List.mem_of_getElem? (i := 0) rfl) rfl
  have p1 : 0 ≤ (val 0).1 ∧ (val 0).1 ≤ 0 := h _ (List.mem_of_getElem? (i := 1) rfl)
  show (val 0).1 ≤ (val 1).1
  have e := rv_pi_bc0 p0
  omega
def rl_bct01 : List rv_Rl := [(2, [0, 1], [(73, [30, 31, 0, 33, 34, 35, 36, 37, 38, 39, 40, 41], Int.ofNat 0, Int.ofNat 0), (1000, [1], Int.ofNat 558, Int.ofNat 558)]), (2, [0, 1], [(73, [30, 31, 1, 33, 34, 35, 36, 37, 38, 39, 40, 41], Int.ofNat 0, Int.ofNat 0), (1000, [0], Int.ofNat 0, Int.ofNat 0)])]
theorem rlo_bct01 : ∀ r ∈ rl_bct01, rv_RlOk r := List.forall_mem_cons.mpr ⟨ru_bct01_0, List.forall_mem_cons.mpr ⟨ru_bct01_1, fun _ h => absurd h List.not_mem_nil⟩⟩
theorem ru_bct10_0 : rv_RlOk (2, [0, 1], [(75, [30, 31, 0, 33, 34, 35, 36, 37, 38, 39, 40, 41], Int.ofNat 0, Int.ofNat 0), (1000, [1], Int.ofNat 1118, Int.ofNat 1118)]) := by
  intro val h
  have p0 : rv_PI 1 1 0 (val 30).2 (val 31).1 (val 0).1 (val 33).2 (val 34).2 (val 35).1 (val 36).1 (val 37).1 (val 38).1 (val 39).1 (val 40).1 (val 41).1 := h _ (List.mem_of_getElem? (i := 0) rfl) rfl
  have p1 : 1118 ≤ (val 1).1 ∧ (val 1).1 ≤ 1118 := h _ (List.mem_of_getElem? (i := 1) rfl)
  show (val 0).1 ≤ (val 1).1
  have e := rv_pi_bc0 p0
  omega
theorem ru_bct10_1 : rv_RlOk (2, [0, 1], [(75, [30, 31, 1, 33, 34, 35, 36, 37, 38, 39, 40, 41], Int.ofNat 0, Int.ofNat 0), (1000, [0], Int.ofNat 560, Int.ofNat 560)]) := by
  intro val h
  have p0 : rv_PI 1 1 0 (val 30).2 (val 31).1 (val 1).1 (val 33).2 (val 34).2 (val 35).1 (val 36).1 (val 37).1 (val 38).1 (val 39).1 (val 40).1 (val 41).1 := h _ (List.mem_of_getElem? (i := 0) rfl) rfl
  have p1 : 560 ≤ (val 0).1 ∧ (val 0).1 ≤ 560 := h _ (List.mem_of_getElem? (i := 1) rfl)
  show (val 0).1 ≤ (val 1).1
  have e := rv_pi_bc0 p0
  omega
def rl_bct10 : List rv_Rl := [(2, [0, 1], [(75, [30, 31, 0, 33, 34, 35, 36, 37, 38, 39, 40, 41], Int.ofNat 0, Int.ofNat 0), (1000, [1], Int.ofNat 1118, Int.ofNat 1118)]), (2, [0, 1], [(75, [30, 31, 1, 33, 34, 35, 36, 37, 38, 39, 40, 41], Int.ofNat 0, Int.ofNat 0), (1000, [0], Int.ofNat 560, Int.ofNat 560)])]
theorem rlo_bct10 : ∀ r ∈ rl_bct10, rv_RlOk r := List.forall_mem_cons.mpr ⟨ru_bct10_0, List.forall_mem_cons.mpr ⟨ru_bct10_1, fun _ h => absurd h List.not_mem_nil⟩⟩
theorem ru_bct11_0 : rv_RlOk (2, [0, 1], [(77, [30, 31, 0, 33, 34, 35, 36, 37, 38, 39, 40, 41], Int.ofNat 0, Int.ofNat 0), (1000, [1], Int.ofNat 1118, Int.ofNat 1118)]) := by
  intro val h
  have p0 : rv_PI 1 0 0 (val 30).2 (val 31).1 (val 0).1 (val 33).2 (val 34).2 (val 35).1 (val 36).1 (val 37).1 (val 38).1 (val 39).1 (val 40).1 (val 41).1 := h _ (List.mem_of_getElem? (i := 0) rfl) rfl
  have p1 : 1118 ≤ (val 1).1 ∧ (val 1).1 ≤ 1118 := h _ (List.mem_of_getElem? (i := 1) rfl)
  show (val 0).1 ≤ (val 1).1
  have e := rv_pi_bc0 p0
  omega
theorem ru_bct11_1 : rv_RlOk (2, [0, 1], [(77, [30, 31, 1, 33, 34, 35, 36, 37, 38, 39, 40, 41], Int.ofNat 0, Int.ofNat 0), (1000, [0], Int.ofNat 560, Int.ofNat 560)]) := by
  intro val h
  have p0 : rv_PI 1 0 0 (val 30).2 (val 31).1 (val 1).1 (val 33).2 (val 34).2 (val 35).1 (val 36).1 (val 37).1 (val 38).1 (val 39).1 (val 40).1 (val 41).1 := h _ (List.mem_of_getElem? (i := 0) rfl) rfl
  have p1 : 560 ≤ (val 0).1 ∧ (val 0).1 ≤ 560 := h _ (List.mem_of_getElem? (i := 1) rfl)
  show (val 0).1 ≤ (val 1).1
  have e := rv_pi_bc0 p0
  omega
def rl_bct11 : List rv_Rl := [(2, [0, 1], [(77, [30, 31, 0, 33, 34, 35, 36, 37, 38, 39, 40, 41], Int.ofNat 0, Int.ofNat 0), (1000, [1], Int.ofNat 1118, Int.ofNat 1118)]), (2, [0, 1], [(77, [30, 31, 1, 33, 34, 35, 36, 37, 38, 39, 40, 41], Int.ofNat 0, Int.ofNat 0), (1000, [0], Int.ofNat 560, Int.ofNat 560)])]
theorem rlo_bct11 : ∀ r ∈ rl_bct11, rv_RlOk r := List.forall_mem_cons.mpr ⟨ru_bct11_0, List.forall_mem_cons.mpr ⟨ru_bct11_1, fun _ h => absurd h List.not_mem_nil⟩⟩
theorem ru_bit0_0 : rv_RlOk (47, [0, 1, 2], [(42, [3, 0, 1, 2, 4, 5], Int.ofNat 0, Int.ofNat 0), (46, [3, 6], Int.ofNat 0, Int.ofNat 0), (1000, [6], Int.ofNat 0, Int.ofNat 0)]) := by
  intro val h
  have p0 : rv_RU 0 (val 3).1 (val 0).2 (val 1).1 (val 2).1 (val 4).1 (val 5).1 := h _ (List.mem_of_getElem? (i := 0) rfl) rfl
  have p1 : rv_bit (val 3).1 (val 6).1 := h _ (List.mem_of_getElem? (i := 1) rfl) rfl
  have p2 : 0 ≤ (val 6).1 ∧ (val 6).1 ≤ 0 := h _ (List.mem_of_getElem? (i := 2) rfl)
  intro _
  show rv_WF (val 0).2 (val 1).1 (val 2).1
  rw [show (val 6).1 = 0 by omega] at p1
  exact (p0.1 p1).2.2
theorem ru_bit0_1 : rv_RlOk (47, [0, 1, 2], [(42, [3, 0, 4, 5, 1, 2], Int.ofNat 0, Int.ofNat 0), (46, [3, 6], Int.ofNat 0, Int.ofNat 0), (1000, [6], Int.ofNat 1, Int.ofNat 1)]) := by
  intro val h
  have p0 : rv_RU 0 (val 3).1 (val 0).2 (val 4).1 (val 5).1 (val 1).1 (val 2).1 := h _ (List.mem_of_getElem? (i := 0) rfl) rfl
  have p1 : rv_bit (val 3).1 (val 6).1 := h _ (List.mem_of_getElem? (i := 1) rfl) rfl
  have p2 : 1 ≤ (val 6).1 ∧ (val 6).1 ≤ 1 := h _ (List.mem_of_getElem? (i := 2) rfl)
  intro _
  show rv_WF (val 0).2 (val 1).1 (val 2).1
  rw [show (val 6).1 = 1 by omega] at p1
  exact (p0.2 p1).2.2
def rl_bit0 : List rv_Rl := [(47, [0, 1, 2], [(42, [3, 0, 1, 2, 4, 5], Int.ofNat 0, Int.ofNat 0), (46, [3, 6], Int.ofNat 0, Int.ofNat 0), (1000, [6], Int.ofNat 0, Int.ofNat 0)]), (47, [0, 1, 2], [(42, [3, 0, 4, 5, 1, 2], Int.ofNat 0, Int.ofNat 0), (46, [3, 6], Int.ofNat 0, Int.ofNat 0), (1000, [6], Int.ofNat 1, Int.ofNat 1)])]
theorem rlo_bit0 : ∀ r ∈ rl_bit0, rv_RlOk r := List.forall_mem_cons.mpr ⟨ru_bit0_0, List.forall_mem_cons.mpr ⟨ru_bit0_1, fun _ h => absurd h List.not_mem_nil⟩⟩
theorem ru_bit1_0 : rv_RlOk (47, [0, 1, 2], [(43, [3, 0, 1, 2, 4, 5], Int.ofNat 0, Int.ofNat 0), (46, [3, 6], Int.ofNat 0, Int.ofNat 0), (1000, [6], Int.ofNat 0, Int.ofNat 0)]) := by
  intro val h
  have p0 : rv_RU 1 (val 3).1 (val 0).2 (val 1).1 (val 2).1 (val 4).1 (val 5).1 := h _ (List.mem_of_getElem? (i := 0) rfl) rfl
  have p1 : rv_bit (val 3).1 (val 6).1 := h _ (List.mem_of_getElem? (i := 1) rfl) rfl
  have p2 : 0 ≤ (val 6).1 ∧ (val 6).1 ≤ 0 := h _ (List.mem_of_getElem? (i := 2) rfl)
  intro _
  show rv_WF (val 0).2 (val 1).1 (val 2).1
  rw [show (val 6).1 = 0 by omega] at p1
  exact (p0.1 p1).2.2
theorem ru_bit1_1 : rv_RlOk (47, [0, 1, 2], [(43, [3, 0, 4, 5, 1, 2], Int.ofNat 0, Int.ofNat 0), (46, [3, 6], Int.ofNat 0, Int.ofNat 0), (1000, [6], Int.ofNat 1, Int.ofNat 1)]) := by
  intro val h
  have p0 : rv_RU 1 (val 3).1 (val 0).2 (val 4).1 (val 5).1 (val 1).1 (val 2).1 := h _ (List.mem_of_getElem? (i := 0) rfl) rfl
  have p1 : rv_bit (val 3).1 (val 6).1 := h _ (List.mem_of_getElem? (i := 1) rfl) rfl
  have p2 : 1 ≤ (val 6).1 ∧ (val 6).1 ≤ 1 := h _ (List.mem_of_getElem? (i := 2) rfl)
  intro _
  show rv_WF (val 0).2 (val 1).1 (val 2).1
  rw [show (val 6).1 = 1 by omega] at p1
  exact (p0.2 p1).2.2
def rl_bit1 : List rv_Rl := [(47, [0, 1, 2], [(43, [3, 0, 1, 2, 4, 5], Int.ofNat 0, Int.ofNat 0), (46, [3, 6], Int.ofNat 0, Int.ofNat 0), (1000, [6], Int.ofNat 0, Int.ofNat 0)]), (47, [0, 1, 2], [(43, [3, 0, 4, 5, 1, 2], Int.ofNat 0, Int.ofNat 0), (46, [3, 6], Int.ofNat 0, Int.ofNat 0), (1000, [6], Int.ofNat 1, Int.ofNat 1)])]
theorem rlo_bit1 : ∀ r ∈ rl_bit1, rv_RlOk r := List.forall_mem_cons.mpr ⟨ru_bit1_0, List.forall_mem_cons.mpr ⟨ru_bit1_1, fun _ h => absurd h List.not_mem_nil⟩⟩
theorem ru_bpf00_0 : rv_RlOk (2, [0, 1], [(70, [30, 31, 32, 33, 34, 0, 36, 37, 38, 39, 40, 41], Int.ofNat 0, Int.ofNat 0), (1000, [1], Int.ofNat 60, Int.ofNat 60)]) := by
  intro val h
  have p0 : rv_PI 0 1 1 (val 30).2 (val 31).1 (val 32).1 (val 33).2 (val 34).2 (val 0).1 (val 36).1 (val 37).1 (val 38).1 (val 39).1 (val 40).1 (val 41).1 := h _ (List.mem_of_getElem? (i := 0) rfl) rfl
  have p1 : 60 ≤ (val 1).1 ∧ (val 1).1 ≤ 60 := h _ (List.mem_of_getElem? (i := 1) rfl)
  show (val 0).1 ≤ (val 1).1
  have e := rv_pi_bp p0 (by decide)
  omega
def rl_bpf00 : List rv_Rl := [(2, [0, 1], [(70, [30, 31, 32, 33, 34, 0, 36, 37, 38, 39, 40, 41], Int.ofNat 0, Int.ofNat 0), (1000, [1], Int.ofNat 60, Int.ofNat 60)])]
theorem rlo_bpf00 : ∀ r ∈ rl_bpf00, rv_RlOk r := List.forall_mem_cons.mpr ⟨ru_bpf00_0, fun _ h => absurd h List.not_mem_nil⟩
theorem ru_bpf01_0 : rv_RlOk (2, [0, 1], [(72, [30, 31, 32, 33, 34, 0, 36, 37, 38, 39, 40, 41], Int.ofNat 0, Int.ofNat 0), (1000, [1], Int.ofNat 60, Int.ofNat 60)]) := by
  intro val h
  have p0 : rv_PI 0 0 1 (val 30).2 (val 31).1 (val 32).1 (val 33).2 (val 34).2 (val 0).1 (val 36).1 (val 37).1 (val 38).1 (val 39).1 (val 40).1 (val 41).1 := h _ (List.mem_of_getElem? (i := 0) rfl) rfl
  have p1 : 60 ≤ (val 1).1 ∧ (val 1).1 ≤ 60 := h _ (List.mem_of_getElem? (i := 1) rfl)
  show (val 0).1 ≤ (val 1).1
  have e := rv_pi_bp p0 (by decide)
  omega
def rl_bpf01 : List rv_Rl := [(2, [0, 1], [(72, [30, 31, 32, 33, 34, 0, 36, 37, 38, 39, 40, 41], Int.ofNat 0, Int.ofNat 0), (1000, [1], Int.ofNat 60, Int.ofNat 60)])]
theorem rlo_bpf01 : ∀ r ∈ rl_bpf01, rv_RlOk r := List.forall_mem_cons.mpr ⟨ru_bpf01_0, fun _ h => absurd h List.not_mem_nil⟩
theorem ru_bpf10_0 : rv_RlOk (2, [0, 1], [(74, [30, 31, 32, 33, 34, 0, 36, 37, 38, 39, 40, 41], Int.ofNat 0, Int.ofNat 0), (1000, [1], Int.ofNat 60, Int.ofNat 60)]) := by
  intro val h
  have p0 : rv_PI 1 1 1 (val 30).2 (val 31).1 (val 32).1 (val 33).2 (val 34).2 (val 0).1 (val 36).1 (val 37).1 (val 38).1 (val 39).1 (val 40).1 (val 41).1 := h _ (List.mem_of_getElem? (i := 0) rfl) rfl
  have p1 : 60 ≤ (val 1).1 ∧ (val 1).1 ≤ 60 := h _ (List.mem_of_getElem? (i := 1) rfl)
  show (val 0).1 ≤ (val 1).1
  have e := rv_pi_bp p0 (by decide)
  omega
def rl_bpf10 : List rv_Rl := [(2, [0, 1], [(74, [30, 31, 32, 33, 34, 0, 36, 37, 38, 39, 40, 41], Int.ofNat 0, Int.ofNat 0), (1000, [1], Int.ofNat 60, Int.ofNat 60)])]
theorem rlo_bpf10 : ∀ r ∈ rl_bpf10, rv_RlOk r := List.forall_mem_cons.mpr ⟨ru_bpf10_0, fun _ h => absurd h List.not_mem_nil⟩
theorem ru_bpf11_0 : rv_RlOk (2, [0, 1], [(76, [30, 31, 32, 33, 34, 0, 36, 37, 38, 39, 40, 41], Int.ofNat 0, Int.ofNat 0), (1000, [1], Int.ofNat 60, Int.ofNat 60)]) := by
  intro val h
  have p0 : rv_PI 1 0 1 (val 30).2 (val 31).1 (val 32).1 (val 33).2 (val 34).2 (val 0).1 (val 36).1 (val 37).1 (val 38).1 (val 39).1 (val 40).1 (val 41).1 := h _ (List.mem_of_getElem? (i := 0) rfl) rfl
  have p1 : 60 ≤ (val 1).1 ∧ (val 1).1 ≤ 60 := h _ (List.mem_of_getElem? (i := 1) rfl)
  show (val 0).1 ≤ (val 1).1
  have e := rv_pi_bp p0 (by decide)
  omega
def rl_bpf11 : List rv_Rl := [(2, [0, 1], [(76, [30, 31, 32, 33, 34, 0, 36, 37, 38, 39, 40, 41], Int.ofNat 0, Int.ofNat 0), (1000, [1], Int.ofNat 60, Int.ofNat 60)])]
theorem rlo_bpf11 : ∀ r ∈ rl_bpf11, rv_RlOk r := List.forall_mem_cons.mpr ⟨ru_bpf11_0, fun _ h => absurd h List.not_mem_nil⟩
theorem ru_bpt00_0 : rv_RlOk (2, [0, 1], [(71, [30, 31, 32, 33, 34, 0, 36, 37, 38, 39, 40, 41], Int.ofNat 0, Int.ofNat 0), (1000, [1], Int.ofNat 60, Int.ofNat 60)]) := by
  intro val h
  have p0 : rv_PI 0 1 0 (val 30).2 (val 31).1 (val 32).1 (val 33).2 (val 34).2 (val 0).1 (val 36).1 (val 37).1 (val 38).1 (val 39).1 (val 40).1 (val 41).1 := h _ (List.mem_of_getElem? (i := 0) rfl) rfl
  have p1 : 60 ≤ (val 1).1 ∧ (val 1).1 ≤ 60 := h _ (List.mem_of_getElem? (i := 1) rfl)
  show (val 0).1 ≤ (val 1).1
  have e := rv_pi_bp p0 (by decide)
  omega
def rl_bpt00 : List rv_Rl := [(2, [0, 1], [(71, [30, 31, 32, 33, 34, 0, 36, 37, 38, 39, 40, 41], Int.ofNat 0, Int.ofNat 0), (1000, [1], Int.ofNat 60, Int.ofNat 60)])]
theorem rlo_bpt00 : ∀ r ∈ rl_bpt00, rv_RlOk r := List.forall_mem_cons.mpr ⟨ru_bpt00_0, fun _ h => absurd h List.not_mem_nil⟩
theorem ru_bpt01_0 : rv_RlOk (2, [0, 1], [(73, [30, 31, 32, 33, 34, 0, 36, 37, 38, 39, 40, 41], Int.ofNat 0, Int.ofNat 0), (1000, [1], Int.ofNat 60, Int.ofNat 60)]) := by
  intro val h
  have p0 : rv_PI 0 0 0 (val 30).2 (val 31).1 (val 32).1 (val 33).2 (val 34).2 (val 0).1 (val 36).1 (val 37).1 (val 38).1 (val 39).1 (val 40).1 (val 41).1 := h _ (List.mem_of_getElem? (i := 0) rfl) rfl
  have p1 : 60 ≤ (val 1).1 ∧ (val 1).1 ≤ 60 := h _ (List.mem_of_getElem? (i := 1) rfl)
  show (val 0).1 ≤ (val 1).1
  have e := rv_pi_bp p0 (by decide)
  omega
def rl_bpt01 : List rv_Rl := [(2, [0, 1], [(73, [30, 31, 32, 33, 34, 0, 36, 37, 38, 39, 40, 41], Int.ofNat 0, Int.ofNat 0), (1000, [1], Int.ofNat 60, Int.ofNat 60)])]
theorem rlo_bpt01 : ∀ r ∈ rl_bpt01, rv_RlOk r := List.forall_mem_cons.mpr ⟨ru_bpt01_0, fun _ h => absurd h List.not_mem_nil⟩
theorem ru_bpt10_0 : rv_RlOk (2, [0, 1], [(75, [30, 31, 32, 33, 34, 0, 36, 37, 38, 39, 40, 41], Int.ofNat 0, Int.ofNat 0), (1000, [1], Int.ofNat 60, Int.ofNat 60)]) := by
  intro val h
  have p0 : rv_PI 1 1 0 (val 30).2 (val 31).1 (val 32).1 (val 33).2 (val 34).2 (val 0).1 (val 36).1 (val 37).1 (val 38).1 (val 39).1 (val 40).1 (val 41).1 := h _ (List.mem_of_getElem? (i := 0) rfl) rfl
  have p1 : 60 ≤ (val 1).1 ∧ (val 1).1 ≤ 60 := h _ (List.mem_of_getElem? (i := 1) rfl)
  show (val 0).1 ≤ (val 1).1
  have e := rv_pi_bp p0 (by decide)
  omega
def rl_bpt10 : List rv_Rl := [(2, [0, 1], [(75, [30, 31, 32, 33, 34, 0, 36, 37, 38, 39, 40, 41], Int.ofNat 0, Int.ofNat 0), (1000, [1], Int.ofNat 60, Int.ofNat 60)])]
theorem rlo_bpt10 : ∀ r ∈ rl_bpt10, rv_RlOk r := List.forall_mem_cons.mpr ⟨ru_bpt10_0, fun _ h => absurd h List.not_mem_nil⟩
theorem ru_bpt11_0 : rv_RlOk (2, [0, 1], [(77, [30, 31, 32, 33, 34, 0, 36, 37, 38, 39, 40, 41], Int.ofNat 0, Int.ofNat 0), (1000, [1], Int.ofNat 60, Int.ofNat 60)]) := by
  intro val h
  have p0 : rv_PI 1 0 0 (val 30).2 (val 31).1 (val 32).1 (val 33).2 (val 34).2 (val 0).1 (val 36).1 (val 37).1 (val 38).1 (val 39).1 (val 40).1 (val 41).1 := h _ (List.mem_of_getElem? (i := 0) rfl) rfl
  have p1 : 60 ≤ (val 1).1 ∧ (val 1).1 ≤ 60 := h _ (List.mem_of_getElem? (i := 1) rfl)
  show (val 0).1 ≤ (val 1).1
  have e := rv_pi_bp p0 (by decide)
  omega
def rl_bpt11 : List rv_Rl := [(2, [0, 1], [(77, [30, 31, 32, 33, 34, 0, 36, 37, 38, 39, 40, 41], Int.ofNat 0, Int.ofNat 0), (1000, [1], Int.ofNat 60, Int.ofNat 60)])]
theorem rlo_bpt11 : ∀ r ∈ rl_bpt11, rv_RlOk r := List.forall_mem_cons.mpr ⟨ru_bpt11_0, fun _ h => absurd h List.not_mem_nil⟩
theorem ru_cl00_0 : rv_RlOk (70, [0, 1, 2, 3, 4, 5, 6, 7, 8, 9, 10, 11], [(70, [0, 1, 2, 3, 4, 20, 21, 7, 8, 9, 10, 11], Int.ofNat 0, Int.ofNat 0), (1001, [5, 20], Int.negSucc 0, Int.ofNat 0), (5, [22, 23, 3], Int.ofNat 0, Int.ofNat 0), (1001, [23, 20], Int.negSucc 0, Int.ofNat 0), (1000, [22], Int.ofNat 7, Int.ofNat 7), (1001, [6, 21], Int.negSucc 0, Int.ofNat 0), (1000, [20], Int.ofNat 1, Int.ofNat 90)]) := by
  intro val h
  have p0 : rv_PI 0 1 1 (val 0).2 (val 1).1 (val 2).1 (val 3).2 (val 4).2 (val 20).1 (val 21).1 (val 7).1 (val 8).1 (val 9).1 (val 10).1 (val 11).1 := h _ (List.mem_of_getElem? (i := 0) rfl) rfl
  have p1 : (val 5).1 = (val 20).1 + (-1) := h _ (List.mem_of_getElem? (i := 1) rfl)
  have p2 : (val 22).1 = (val 3).2 (val 23).1.toNat := h _ (List.mem_of_getElem? (i := 2) rfl)
  have p3 : (val 23).1 = (val 20).1 + (-1) := h _ (List.mem_of_getElem? (i := 3) rfl)
  have p4 : 7 ≤ (val 22).1 ∧ (val 22).1 ≤ 7 := h _ (List.mem_of_getElem? (i := 4) rfl)
  have p5 : (val 6).1 = (val 21).1 + (-1) := h _ (List.mem_of_getElem? (i := 5) rfl)
  have p6 : 1 ≤ (val 20).1 ∧ (val 20).1 ≤ 90 := h _ (List.mem_of_getElem? (i := 6) rfl)
  intro _
  show rv_PI 0 1 1 (val 0).2 (val 1).1 (val 2).1 (val 3).2 (val 4).2 (val 5).1 (val 6).1 (val 7).1 (val 8).1 (val 9).1 (val 10).1 (val 11).1
  rw [show (val 23).1.toNat = ((val 20).1 - 1).toNat by omega] at p2
  have e := rv_pi_clB p0 (by omega) (by omega)
  rw [show (val 5).1 = (val 20).1 - 1 by omega, show (val 6).1 = (val 21).1 - 1 by omega]
  exact e
theorem ru_cl00_1 : rv_RlOk (70, [0, 1, 2, 3, 4, 5, 6, 7, 8, 9, 10, 11], [(70, [0, 1, 2, 3, 4, 20, 6, 7, 8, 9, 10, 11], Int.ofNat 0, Int.ofNat 0), (1001, [5, 20], Int.negSucc 0, Int.ofNat 0), (5, [22, 23, 3], Int.ofNat 0, Int.ofNat 0), (1001, [23, 20], Int.negSucc 0, Int.ofNat 0), (1000, [22], Int.ofNat 8, Int.ofNat 8), (1000, [20], Int.ofNat 1, Int.ofNat 90)]) := by
  intro val h
  have p0 : rv_PI 0 1 1 (val 0).2 (val 1).1 (val 2).1 (val 3).2 (val 4).2 (val 20).1 (val 6).1 (val 7).1 (val 8).1 (val 9).1 (val 10).1 (val 11).1 := h _ (List.mem_of_getElem? (i := 0) rfl) rfl
  have p1 : (val 5).1 = (val 20).1 + (-1) := h _ (List.mem_of_getElem? (i := 1) rfl)
  have p2 : (val 22).1 = (val 3).2 (val 23).1.toNat := h _ (List.mem_of_getElem? (i := 2) rfl)
  have p3 : (val 23).1 = (val 20).1 + (-1) := h _ (List.mem_of_getElem? (i := 3) rfl)
  have p4 : 8 ≤ (val 22).1 ∧ (val 22).1 ≤ 8 := h _ (List.mem_of_getElem? (i := 4) rfl)
  have p5 : 1 ≤ (val 20).1 ∧ (val 20).1 ≤ 90 := h _ (List.mem_of_getElem? (i := 5) rfl)
  intro _
  show rv_PI 0 1 1 (val 0).2 (val 1).1 (val 2).1 (val 3).2 (val 4).2 (val 5).1 (val 6).1 (val 7).1 (val 8).1 (val 9).1 (val 10).1 (val 11).1
  rw [show (val 23).1.toNat = ((val 20).1 - 1).toNat by omega] at p2
  have e := rv_pi_clA p0 (by omega) (by omega)
  rw [show (val 5).1 = (val 20).1 - 1 by omega]
  exact e
def rl_cl00 : List rv_Rl := [(70, [0, 1, 2, 3, 4, 5, 6, 7, 8, 9, 10, 11], [(70, [0, 1, 2, 3, 4, 20, 21, 7, 8, 9, 10, 11], Int.ofNat 0, Int.ofNat 0), (1001, [5, 20], Int.negSucc 0, Int.ofNat 0), (5, [22, 23, 3], Int.ofNat 0, Int.ofNat 0), (1001, [23, 20], Int.negSucc 0, Int.ofNat 0), (1000, [22], Int.ofNat 7, Int.ofNat 7), (1001, [6, 21], Int.negSucc 0, Int.ofNat 0), (1000, [20], Int.ofNat 1, Int.ofNat 90)]), (70, [0, 1, 2, 3, 4, 5, 6, 7, 8, 9, 10, 11], [(70, [0, 1, 2, 3, 4, 20, 6, 7, 8, 9, 10, 11], Int.ofNat 0, Int.ofNat 0), (1001, [5, 20], Int.negSucc 0, Int.ofNat 0), (5, [22, 23, 3], Int.ofNat 0, Int.ofNat 0), (1001, [23, 20], Int.negSucc 0, Int.ofNat 0), (1000, [22], Int.ofNat 8, Int.ofNat 8), (1000, [20], Int.ofNat 1, Int.ofNat 90)])]
theorem rlo_cl00 : ∀ r ∈ rl_cl00, rv_RlOk r := List.forall_mem_cons.mpr ⟨ru_cl00_0, List.forall_mem_cons.mpr ⟨ru_cl00_1, fun _ h => absurd h List.not_mem_nil⟩⟩
theorem ru_cl01_0 : rv_RlOk (72, [0, 1, 2, 3, 4, 5, 6, 7, 8, 9, 10, 11], [(72, [0, 1, 2, 3, 4, 20, 21, 7, 8, 9, 10, 11], Int.ofNat 0, Int.ofNat 0), (1001, [5, 20], Int.negSucc 0, Int.ofNat 0), (5, [22, 23, 3], Int.ofNat 0, Int.ofNat 0), (1001, [23, 20], Int.negSucc 0, Int.ofNat 0), (1000, [22], Int.ofNat 7, Int.ofNat 7), (1001, [6, 21], Int.negSucc 0, Int.ofNat 0), (1000, [20], Int.ofNat 1, Int.ofNat 90)]) := by
  intro val h
  have p0 : rv_PI 0 0 1 (val 0).2 (val 1).1 (val 2).1 (val 3).2 (val 4).2 (val 20).1 (val 21).1 (val 7).1 (val 8).1 (val 9).1 (val 10).1 (val 11).1 := h _ (List.mem_of_getElem? (i := 0) rfl) rfl
  have p1 : (val 5).1 = (val 20).1 + (-1) := h _ (List.mem_of_getElem? (i := 1) rfl)
  have p2 : (val 22).1 = (val 3).2 (val 23).1.toNat := h _ (List.mem_of_getElem? (i := 2) rfl)
  have p3 : (val 23).1 = (val 20).1 + (-1) := h _ (List.mem_of_getElem? (i := 3) rfl)
  have p4 : 7 ≤ (val 22).1 ∧ (val 22).1 ≤ 7 := h _ (List.mem_of_getElem? (i := 4) rfl)
  have p5 : (val 6).1 = (val 21).1 + (-1) := h _ (List.mem_of_getElem? (i := 5) rfl)
  have p6 : 1 ≤ (val 20).1 ∧ (val 20).1 ≤ 90 := h _ (List.mem_of_getElem? (i := 6) rfl)
  intro _
  show rv_PI 0 0 1 (val 0).2 (val 1).1 (val 2).1 (val 3).2 (val 4).2 (val 5).1 (val 6).1 (val 7).1 (val 8).1 (val 9).1 (val 10).1 (val 11).1
  rw [show (val 23).1.toNat = ((val 20).1 - 1).toNat by omega] at p2
  have e := rv_pi_clB p0 (by omega) (by omega)
  rw [show (val 5).1 = (val 20).1 - 1 by omega, show (val 6).1 = (val 21).1 - 1 by omega]
  exact e
theorem ru_cl01_1 : rv_RlOk (72, [0, 1, 2, 3, 4, 5, 6, 7, 8, 9, 10, 11], [(72, [0, 1, 2, 3, 4, 20, 6, 7, 8, 9, 10, 11], Int.ofNat 0, Int.ofNat 0), (1001, [5, 20], Int.negSucc 0, Int.ofNat 0), (5, [22, 23, 3], Int.ofNat 0, Int.ofNat 0), (1001, [23, 20], Int.negSucc 0, Int.ofNat 0), (1000, [22], Int.ofNat 8, Int.ofNat 8), (1000, [20], Int.ofNat 1, Int.ofNat 90)]) := by
  intro val h
  have p0 : rv_PI 0 0 1 (val 0).2 (val 1).1 (val 2).1 (val 3).2 (val 4).2 (val 20).1 (val 6).1 (val 7).1 (val 8).1 (val 9).1 (val 10).1 (val 11).1 := h _ (List.mem_of_getElem? (i := 0) rfl) rfl
  have p1 : (val 5).1 = (val 20).1 + (-1) := h _ (List.mem_of_getElem? (i := 1) rfl)
  have p2 : (val 22).1 = (val 3).2 (val 23).1.toNat := h _ (List.mem_of_getElem? (i := 2) rfl)
  have p3 : (val 23).1 = (val 20).1 + (-1) := h _ (List.mem_of_getElem? (i := 3) rfl)
  have p4 : 8 ≤ (val 22).1 ∧ (val 22).1 ≤ 8 := h _ (List.mem_of_getElem? (i := 4) rfl)
  have p5 : 1 ≤ (val 20).1 ∧ (val 20).1 ≤ 90 := h _ (List.mem_of_getElem? (i := 5) rfl)
  intro _
  show rv_PI 0 0 1 (val 0).2 (val 1).1 (val 2).1 (val 3).2 (val 4).2 (val 5).1 (val 6).1 (val 7).1 (val 8).1 (val 9).1 (val 10).1 (val 11).1
  rw [show (val 23).1.toNat = ((val 20).1 - 1).toNat by omega] at p2
  have e := rv_pi_clA p0 (by omega) (by omega)
  rw [show (val 5).1 = (val 20).1 - 1 by omega]
  exact e
def rl_cl01 : List rv_Rl := [(72, [0, 1, 2, 3, 4, 5, 6, 7, 8, 9, 10, 11], [(72, [0, 1, 2, 3, 4, 20, 21, 7, 8, 9, 10, 11], Int.ofNat 0, Int.ofNat 0), (1001, [5, 20], Int.negSucc 0, Int.ofNat 0), (5, [22, 23, 3], Int.ofNat 0, Int.ofNat 0), (1001, [23, 20], Int.negSucc 0, Int.ofNat 0), (1000, [22], Int.ofNat 7, Int.ofNat 7), (1001, [6, 21], Int.negSucc 0, Int.ofNat 0), (1000, [20], Int.ofNat 1, Int.ofNat 90)]), (72, [0, 1, 2, 3, 4, 5, 6, 7, 8, 9, 10, 11], [(72, [0, 1, 2, 3, 4, 20, 6, 7, 8, 9, 10, 11], Int.ofNat 0, Int.ofNat 0), (1001, [5, 20], Int.negSucc 0, Int.ofNat 0), (5, [22, 23, 3], Int.ofNat 0, Int.ofNat 0), (1001, [23, 20], Int.negSucc 0, Int.ofNat 0), (1000, [22], Int.ofNat 8, Int.ofNat 8), (1000, [20], Int.ofNat 1, Int.ofNat 90)])]
theorem rlo_cl01 : ∀ r ∈ rl_cl01, rv_RlOk r := List.forall_mem_cons.mpr ⟨ru_cl01_0, List.forall_mem_cons.mpr ⟨ru_cl01_1, fun _ h => absurd h List.not_mem_nil⟩⟩
theorem ru_cl10_0 : rv_RlOk (74, [0, 1, 2, 3, 4, 5, 6, 7, 8, 9, 10, 11], [(74, [0, 1, 2, 3, 4, 20, 21, 7, 8, 9, 10, 11], Int.ofNat 0, Int.ofNat 0), (1001, [5, 20], Int.negSucc 0, Int.ofNat 0), (5, [22, 23, 3], Int.ofNat 0, Int.ofNat 0), (1001, [23, 20], Int.negSucc 0, Int.ofNat 0), (1000, [22], Int.ofNat 7, Int.ofNat 7), (1001, [6, 21], Int.negSucc 0, Int.ofNat 0), (1000, [20], Int.ofNat 1, Int.ofNat 90)]) := by
  intro val h
  have p0 : rv_PI 1 1 1 (val 0).2 (val 1).1 (val 2).1 (val 3).2 (val 4).2 (val 20).1 (val 21).1 (val 7).1 (val 8).1 (val 9).1 (val 10).1 (val 11).1 := h _ (List.mem_of_getElem? (i := 0) rfl) rfl
  have p1 : (val 5).1 = (val 20).1 + (-1) := h _ (List.mem_of_getElem? (i := 1) rfl)
  have p2 : (val 22).1 = (val 3).2 (val 23).1.toNat := h _ (List.mem_of_getElem? (i := 2) rfl)
  have p3 : (val 23).1 = (val 20).1 + (-1) := h _ (List.mem_of_getElem? (i := 3) rfl)
  have p4 : 7 ≤ (val 22).1 ∧ (val 22).1 ≤ 7 := h _ (List.mem_of_getElem? (i := 4) rfl)
  have p5 : (val 6).1 = (val 21).1 + (-1) := h _ (List.mem_of_getElem? (i := 5) rfl)
  have p6 : 1 ≤ (val 20).1 ∧ (val 20).1 ≤ 90 := h _ (List.mem_of_getElem? (i := 6) rfl)
  intro _
  show rv_PI 1 1 1 (val 0).2 (val 1).1 (val 2).1 (val 3).2 (val 4).2 (val 5).1 (val 6).1 (val 7).1 (val 8).1 (val 9).1 (val 10).1 (val 11).1
  rw [show (val 23).1.toNat = ((val 20).1 - 1).toNat by omega] at p2
  have e := rv_pi_clB p0 (by omega) (by omega)
  rw [show (val 5).1 = (val 20).1 - 1 by omega, show (val 6).1 = (val 21).1 - 1 by omega]
  exact e
theorem ru_cl10_1 : rv_RlOk (74, [0, 1, 2, 3, 4, 5, 6, 7, 8, 9, 10, 11], [(74, [0, 1, 2, 3, 4, 20, 6, 7, 8, 9, 10, 11], Int.ofNat 0, Int.ofNat 0), (1001, [5, 20], Int.negSucc 0, Int.ofNat 0), (5, [22, 23, 3], Int.ofNat 0, Int.ofNat 0), (1001, [23, 20], Int.negSucc 0, Int.ofNat 0), (1000, [22], Int.ofNat 8, Int.ofNat 8), (1000, [20], Int.ofNat 1, Int.ofNat 90)]) := by
  intro val h
  have p0 : rv_PI 1 1 1 (val 0).2 (val 1).1 (val 2).1 (val 3).2 (val 4).2 (val 20).1 (val 6).1 (val 7).1 (val 8).1 (val 9).1 (val 10).1 (val 11).1 := h _ (List.mem_of_getElem? (i := 0) rfl) rfl
  have p1 : (val 5).1 = (val 20).1 + (-1) := h _ (List.mem_of_getElem? (i := 1) rfl)
  have p2 : (val 22).1 = (val 3).2 (val 23).1.toNat := h _ (List.mem_of_getElem? (i := 2) rfl)
  have p3 : (val 23).1 = (val 20).1 + (-1) := h _ (List.mem_of_getElem? (i := 3) rfl)
  have p4 : 8 ≤ (val 22).1 ∧ (val 22).1 ≤ 8 := h _ (List.mem_of_getElem? (i := 4) rfl)
  have p5 : 1 ≤ (val 20).1 ∧ (val 20).1 ≤ 90 := h _ (List.mem_of_getElem? (i := 5) rfl)
  intro _
  show rv_PI 1 1 1 (val 0).2 (val 1).1 (val 2).1 (val 3).2 (val 4).2 (val 5).1 (val 6).1 (val 7).1 (val 8).1 (val 9).1 (val 10).1 (val 11).1
  rw [show (val 23).1.toNat = ((val 20).1 - 1).toNat by omega] at p2
  have e := rv_pi_clA p0 (by omega) (by omega)
  rw [show (val 5).1 = (val 20).1 - 1 by omega]
  exact e
def rl_cl10 : List rv_Rl := [(74, [0, 1, 2, 3, 4, 5, 6, 7, 8, 9, 10, 11], [(74, [0, 1, 2, 3, 4, 20, 21, 7, 8, 9, 10, 11], Int.ofNat 0, Int.ofNat 0), (1001, [5, 20], Int.negSucc 0, Int.ofNat 0), (5, [22, 23, 3], Int.ofNat 0, Int.ofNat 0), (1001, [23, 20], Int.negSucc 0, Int.ofNat 0), (1000, [22], Int.ofNat 7, Int.ofNat 7), (1001, [6, 21], Int.negSucc 0, Int.ofNat 0), (1000, [20], Int.ofNat 1, Int.ofNat 90)]), (74, [0, 1, 2, 3, 4, 5, 6, 7, 8, 9, 10, 11], [(74, [0, 1, 2, 3, 4, 20, 6, 7, 8, 9, 10, 11], Int.ofNat 0, Int.ofNat 0), (1001, [5, 20], Int.negSucc 0, Int.ofNat 0), (5, [22, 23, 3], Int.ofNat 0, Int.ofNat 0), (1001, [23, 20], Int.negSucc 0, Int.ofNat 0), (1000, [22], Int.ofNat 8, Int.ofNat 8), (1000, [20], Int.ofNat 1, Int.ofNat 90)])]
theorem rlo_cl10 : ∀ r ∈ rl_cl10, rv_RlOk r := List.forall_mem_cons.mpr ⟨ru_cl10_0, List.forall_mem_cons.mpr ⟨ru_cl10_1, fun _ h => absurd h List.not_mem_nil⟩⟩
theorem ru_cl11_0 : rv_RlOk (76, [0, 1, 2, 3, 4, 5, 6, 7, 8, 9, 10, 11], [(76, [0, 1, 2, 3, 4, 20, 21, 7, 8, 9, 10, 11], Int.ofNat 0, Int.ofNat 0), (1001, [5, 20], Int.negSucc 0, Int.ofNat 0), (5, [22, 23, 3], Int.ofNat 0, Int.ofNat 0), (1001, [23, 20], Int.negSucc 0, Int.ofNat 0), (1000, [22], Int.ofNat 7, Int.ofNat 7), (1001, [6, 21], Int.negSucc 0, Int.ofNat 0), (1000, [20], Int.ofNat 1, Int.ofNat 90)]) := by
  intro val h
  have p0 : rv_PI 1 0 1 (val 0).2 (val 1).1 (val 2).1 (val 3).2 (val 4).2 (val 20).1 (val 21).1 (val 7).1 (val 8).1 (val 9).1 (val 10).1 (val 11).1 := h _ (List.mem_of_getElem? (i := 0) rfl) rfl
  have p1 : (val 5).1 = (val 20).1 + (-1) := h _ (List.mem_of_getElem? (i := 1) rfl)
  have p2 : (val 22).1 = (val 3).2 (val 23).1.toNat := h _ (List.mem_of_getElem? (i := 2) rfl)
  have p3 : (val 23).1 = (val 20).1 + (-1) := h _ (List.mem_of_getElem? (i := 3) rfl)
  have p4 : 7 ≤ (val 22).1 ∧ (val 22).1 ≤ 7 := h _ (List.mem_of_getElem? (i := 4) rfl)
  have p5 : (val 6).1 = (val 21).1 + (-1) := h _ (List.mem_of_getElem? (i := 5) rfl)
  have p6 : 1 ≤ (val 20).1 ∧ (val 20).1 ≤ 90 := h _ (List.mem_of_getElem? (i := 6) rfl)
  intro _
  show rv_PI 1 0 1 (val 0).2 (val 1).1 (val 2).1 (val 3).2 (val 4).2 (val 5).1 (val 6).1 (val 7).1 (val 8).1 (val 9).1 (val 10).1 (val 11).1
  rw [show (val 23).1.toNat = ((val 20).1 - 1).toNat by omega] at p2
  have e := rv_pi_clB p0 (by omega) (by omega)
  rw [show (val 5).1 = (val 20).1 - 1 by omega, show (val 6).1 = (val 21).1 - 1 by omega]
  exact e
theorem ru_cl11_1 : rv_RlOk (76, [0, 1, 2, 3, 4, 5, 6, 7, 8, 9, 10, 11], [(76, [0, 1, 2, 3, 4, 20, 6, 7, 8, 9, 10, 11], Int.ofNat 0, Int.ofNat 0), (1001, [5, 20], Int.negSucc 0, Int.ofNat 0), (5, [22, 23, 3], Int.ofNat 0, Int.ofNat 0), (1001, [23, 20], Int.negSucc 0, Int.ofNat 0), (1000, [22], Int.ofNat 8, Int.ofNat 8), (1000, [20], Int.ofNat 1, Int.ofNat 90)]) := by
  intro val h
  have p0 : rv_PI 1 0 1 (val 0).2 (val 1).1 (val 2).1 (val 3).2 (val 4).2 (val 20).1 (val 6).1 (val 7).1 (val 8).1 (val 9).1 (val 10).1 (val 11).1 := h _ (List.mem_of_getElem? (i := 0) rfl) rfl
  have p1 : (val 5).1 = (val 20).1 + (-1) := h _ (List.mem_of_getElem? (i := 1) rfl)
  have p2 : (val 22).1 = (val 3).2 (val 23).1.toNat := h _ (List.mem_of_getElem? (i := 2) rfl)
  have p3 : (val 23).1 = (val 20).1 + (-1) := h _ (List.mem_of_getElem? (i := 3) rfl)
  have p4 : 8 ≤ (val 22).1 ∧ (val 22).1 ≤ 8 := h _ (List.mem_of_getElem? (i := 4) rfl)
  have p5 : 1 ≤ (val 20).1 ∧ (val 20).1 ≤ 90 := h _ (List.mem_of_getElem? (i := 5) rfl)
  intro _
  show rv_PI 1 0 1 (val 0).2 (val 1).1 (val 2).1 (val 3).2 (val 4).2 (val 5).1 (val 6).1 (val 7).1 (val 8).1 (val 9).1 (val 10).1 (val 11).1
  rw [show (val 23).1.toNat = ((val 20).1 - 1).toNat by omega] at p2
  have e := rv_pi_clA p0 (by omega) (by omega)
  rw [show (val 5).1 = (val 20).1 - 1 by omega]
  exact e
def rl_cl11 : List rv_Rl := [(76, [0, 1, 2, 3, 4, 5, 6, 7, 8, 9, 10, 11], [(76, [0, 1, 2, 3, 4, 20, 21, 7, 8, 9, 10, 11], Int.ofNat 0, Int.ofNat 0), (1001, [5, 20], Int.negSucc 0, Int.ofNat 0), (5, [22, 23, 3], Int.ofNat 0, Int.ofNat 0), (1001, [23, 20], Int.negSucc 0, Int.ofNat 0), (1000, [22], Int.ofNat 7, Int.ofNat 7), (1001, [6, 21], Int.negSucc 0, Int.ofNat 0), (1000, [20], Int.ofNat 1, Int.ofNat 90)]), (76, [0, 1, 2, 3, 4, 5, 6, 7, 8, 9, 10, 11], [(76, [0, 1, 2, 3, 4, 20, 6, 7, 8, 9, 10, 11], Int.ofNat 0, Int.ofNat 0), (1001, [5, 20], Int.negSucc 0, Int.ofNat 0), (5, [22, 23, 3], Int.ofNat 0, Int.ofNat 0), (1001, [23, 20], Int.negSucc 0, Int.ofNat 0), (1000, [22], Int.ofNat 8, Int.ofNat 8), (1000, [20], Int.ofNat 1, Int.ofNat 90)])]
theorem rlo_cl11 : ∀ r ∈ rl_cl11, rv_RlOk r := List.forall_mem_cons.mpr ⟨ru_cl11_0, List.forall_mem_cons.mpr ⟨ru_cl11_1, fun _ h => absurd h List.not_mem_nil⟩⟩
theorem ru_cmp00_0 : rv_RlOk (2, [0, 1], [(5, [2, 1, 3], Int.ofNat 0, Int.ofNat 0), (70, [30, 31, 32, 3, 34, 4, 36, 37, 38, 39, 40, 41], Int.ofNat 0, Int.ofNat 0), (1, [1, 4], Int.ofNat 0, Int.ofNat 0), (1000, [2], Int.ofNat 5, Int.ofNat 6), (1000, [0], Int.ofNat 1, Int.ofNat 1), (1000, [1], Int.ofNat 0, Int.ofNat 90)]) := by
  intro val h
  have p0 : (val 2).1 = (val 3).2 (val 1).1.toNat := h _ (List.mem_of_getElem? (i := 0) rfl)
  have p1 : rv_PI 0 1 1 (val 30).2 (val 31).1 (val 32).1 (val 3).2 (val 34).2 (val 4).1 (val 36).1 (val 37).1 (val 38).1 (val 39).1 (val 40).1 (val 41).1 := h _ (List.mem_of_getElem? (i := 1) rfl) rfl
  have p2 : (val 1).1 < (val 4).1 := h _ (List.mem_of_getElem? (i := 2) rfl)
  have p3 : 5 ≤ (val 2).1 ∧ (val 2).1 ≤ 6 := h _ (List.mem_of_getElem? (i := 3) rfl)
  have p4 : 1 ≤ (val 0).1 ∧ (val 0).1 ≤ 1 := h _ (List.mem_of_getElem? (i := 4) rfl)
  have p5 : 0 ≤ (val 1).1 ∧ (val 1).1 ≤ 90 := h _ (List.mem_of_getElem? (i := 5) rfl)
  show (val 0).1 ≤ (val 1).1
  obtain ⟨e1, e2⟩ := p1.2.2.2.2.2.1 (val 1).1.toNat (by omega)
  have := e1
  by_cases hz : (val 1).1.toNat = 0
  · have := e1 hz
    omega
  · omega
theorem ru_cmp00_1 : rv_RlOk (1, [0, 1], [(1, [2, 1], Int.ofNat 0, Int.ofNat 0), (1001, [0, 2], Int.negSucc 0, Int.ofNat 0)]) := by
  intro val h
  have p0 : (val 2).1 < (val 1).1 := h _ (List.mem_of_getElem? (i := 0) rfl)
  have p1 : (val 0).1 = (val 2).1 + (-1) := h _ (List.mem_of_getElem? (i := 1) rfl)
  show (val 0).1 < (val 1).1
  omega
def rl_cmp00 : List rv_Rl := [(2, [0, 1], [(5, [2, 1, 3], Int.ofNat 0, Int.ofNat 0), (70, [30, 31, 32, 3, 34, 4, 36, 37, 38, 39, 40, 41], Int.ofNat 0, Int.ofNat 0), (1, [1, 4], Int.ofNat 0, Int.ofNat 0), (1000, [2], Int.ofNat 5, Int.ofNat 6), (1000, [0], Int.ofNat 1, Int.ofNat 1), (1000, [1], Int.ofNat 0, Int.ofNat 90)]), (1, [0, 1], [(1, [2, 1], Int.ofNat 0, Int.ofNat 0), (1001, [0, 2], Int.negSucc 0, Int.ofNat 0)])]
theorem rlo_cmp00 : ∀ r ∈ rl_cmp00, rv_RlOk r := List.forall_mem_cons.mpr ⟨ru_cmp00_0, List.forall_mem_cons.mpr ⟨ru_cmp00_1, fun _ h => absurd h List.not_mem_nil⟩⟩
theorem ru_cmp01_0 : rv_RlOk (2, [0, 1], [(5, [2, 1, 3], Int.ofNat 0, Int.ofNat 0), (72, [30, 31, 32, 3, 34, 4, 36, 37, 38, 39, 40, 41], Int.ofNat 0, Int.ofNat 0), (1, [1, 4], Int.ofNat 0, Int.ofNat 0), (1000, [2], Int.ofNat 5, Int.ofNat 6), (1000, [0], Int.ofNat 1, Int.ofNat 1), (1000, [1], Int.ofNat 0, Int.ofNat 90)]) := by
  intro val h
  have p0 : (val 2).1 = (val 3).2 (val 1).1.toNat := h _ (List.mem_of_getElem? (i := 0) rfl)
  have p1 : rv_PI 0 0 1 (val 30).2 (val 31).1 (val 32).1 (val 3).2 (val 34).2 (val 4).1 (val 36).1 (val 37).1 (val 38).1 (val 39).1 (val 40).1 (val 41).1 := h _ (List.mem_of_getElem? (i := 1) rfl) rfl
  have p2 : (val 1).1 < (val 4).1 := h _ (List.mem_of_getElem? (i := 2) rfl)
  have p3 : 5 ≤ (val 2).1 ∧ (val 2).1 ≤ 6 := h _ (List.mem_of_getElem? (i := 3) rfl)
  have p4 : 1 ≤ (val 0).1 ∧ (val 0).1 ≤ 1 := h _ (List.mem_of_getElem? (i := 4) rfl)
  have p5 : 0 ≤ (val 1).1 ∧ (val 1).1 ≤ 90 := h _ (List.mem_of_getElem? (i := 5) rfl)
  show (val 0).1 ≤ (val 1).1
  obtain ⟨e1, e2⟩ := p1.2.2.2.2.2.1 (val 1).1.toNat (by omega)
  have := e1
  by_cases hz : (val 1).1.toNat = 0
  · have := e1 hz
    omega
  · omega
theorem ru_cmp01_1 : rv_RlOk (1, [0, 1], [(1, [2, 1], Int.ofNat 0, Int.ofNat 0), (1001, [0, 2], Int.negSucc 0, Int.ofNat 0)]) := by
  intro val h
  have p0 : (val 2).1 < (val 1).1 := h _ (List.mem_of_getElem? (i := 0) rfl)
  have p1 : (val 0).1 = (val 2).1 + (-1) := h _ (List.mem_of_getElem? (i := 1) rfl)
  show (val 0).1 < (val 1).1
  omega
def rl_cmp01 : List rv_Rl := [(2, [0, 1], [(5, [2, 1, 3], Int.ofNat 0, Int.ofNat 0), (72, [30, 31, 32, 3, 34, 4, 36, 37, 38, 39, 40, 41], Int.ofNat 0, Int.ofNat 0), (1, [1, 4], Int.ofNat 0, Int.ofNat 0), (1000, [2], Int.ofNat 5, Int.ofNat 6), (1000, [0], Int.ofNat 1, Int.ofNat 1), (1000, [1], Int.ofNat 0, Int.ofNat 90)]), (1, [0, 1], [(1, [2, 1], Int.ofNat 0, Int.ofNat 0), (1001, [0, 2], Int.negSucc 0, Int.ofNat 0)])]
theorem rlo_cmp01 : ∀ r ∈ rl_cmp01, rv_RlOk r := List.forall_mem_cons.mpr ⟨ru_cmp01_0, List.forall_mem_cons.mpr ⟨ru_cmp01_1, fun _ h => absurd h List.not_mem_nil⟩⟩
theorem ru_cmp10_0 : rv_RlOk (2, [0, 1], [(5, [2, 1, 3], Int.ofNat 0, Int.ofNat 0), (74, [30, 31, 32, 3, 34, 4, 36, 37, 38, 39, 40, 41], Int.ofNat 0, Int.ofNat 0), (1, [1, 4], Int.ofNat 0, Int.ofNat 0), (1000, [2], Int.ofNat 5, Int.ofNat 6), (1000, [0], Int.ofNat 1, Int.ofNat 1), (1000, [1], Int.ofNat 0, Int.ofNat 90)]) := by
  intro val h
  have p0 : (val 2).1 = (val 3).2 (val 1).1.toNat := h _ (List.mem_of_getElem? (i := 0) rfl)
  have p1 : rv_PI 1 1 1 (val 30).2 (val 31).1 (val 32).1 (val 3).2 (val 34).2 (val 4).1 (val 36).1 (val 37).1 (val 38).1 (val 39).1 (val 40).1 (val 41).1 := h _ (List.mem_of_getElem? (i := 1) rfl) rfl
  have p2 : (val 1).1 < (val 4).1 := h _ (List.mem_of_getElem? (i := 2) rfl)
  have p3 : 5 ≤ (val 2).1 ∧ (val 2).1 ≤ 6 := h _ (List.mem_of_getElem? (i := 3) rfl)
  have p4 : 1 ≤ (val 0).1 ∧ (val 0).1 ≤ 1 := h _ (List.mem_of_getElem? (i := 4) rfl)
  have p5 : 0 ≤ (val 1).1 ∧ (val 1).1 ≤ 90 := h _ (List.mem_of_getElem? (i := 5) rfl)
  show (val 0).1 ≤ (val 1).1
  obtain ⟨e1, e2⟩ := p1.2.2.2.2.2.1 (val 1).1.toNat (by omega)
  have := e1
  by_cases hz : (val 1).1.toNat = 0
  · have := e1 hz
    omega
  · omega
theorem ru_cmp10_1 : rv_RlOk (1, [0, 1], [(1, [2, 1], Int.ofNat 0, Int.ofNat 0), (1001, [0, 2], Int.negSucc 0, Int.ofNat 0)]) := by
  intro val h
  have p0 : (val 2).1 < (val 1).1 := h _ (List.mem_of_getElem? (i := 0) rfl)
  have p1 : (val 0).1 = (val 2).1 + (-1) := h _ (List.mem_of_getElem? (i := 1) rfl)
  show (val 0).1 < (val 1).1
  omega
def rl_cmp10 : List rv_Rl := [(2, [0, 1], [(5, [2, 1, 3], Int.ofNat 0, Int.ofNat 0), (74, [30, 31, 32, 3, 34, 4, 36, 37, 38, 39, 40, 41], Int.ofNat 0, Int.ofNat 0), (1, [1, 4], Int.ofNat 0, Int.ofNat 0), (1000, [2], Int.ofNat 5, Int.ofNat 6), (1000, [0], Int.ofNat 1, Int.ofNat 1), (1000, [1], Int.ofNat 0, Int.ofNat 90)]), (1, [0, 1], [(1, [2, 1], Int.ofNat 0, Int.ofNat 0), (1001, [0, 2], Int.negSucc 0, Int.ofNat 0)])]
theorem rlo_cmp10 : ∀ r ∈ rl_cmp10, rv_RlOk r := List.forall_mem_cons.mpr ⟨ru_cmp10_0, List.forall_mem_cons.mpr ⟨ru_cmp10_1, fun _ h => absurd h List.not_mem_nil⟩⟩
theorem ru_cmp11_0 : rv_RlOk (2, [0, 1], [(5, [2, 1, 3], Int.ofNat 0, Int.ofNat 0), (76, [30, 31, 32, 3, 34, 4, 36, 37, 38, 39, 40, 41], Int.ofNat 0, Int.ofNat 0), (1, [1, 4], Int.ofNat 0, Int.ofNat 0), (1000, [2], Int.ofNat 5, Int.ofNat 6), (1000, [0], Int.ofNat 1, Int.ofNat 1), (1000, [1], Int.ofNat 0, Int.ofNat 90)]) := by
  intro val h
  have p0 : (val 2).1 = (val 3).2 (val 1).1.toNat := h _ (List.mem_of_getElem? (i := 0) rfl)
  have p1 : rv_PI 1 0 1 (val 30).2 (val 31).1 (val 32).1 (val 3).2 (val 34).2 (val 4).1 (val 36).1 (val 37).1 (val 38).1 (val 39).1 (val 40).1 (val 41).1 := h _ (List.mem_of_getElem? (i := 1) rfl) rfl
  have p2 : (val 1).1 < (val 4).1 := h _ (List.mem_of_getElem? (i := 2) rfl)
  have p3 : 5 ≤ (val 2).1 ∧ (val 2).1 ≤ 6 := h _ (List.mem_of_getElem? (i := 3) rfl)
  have p4 : 1 ≤ (val 0).1 ∧ (val 0).1 ≤ 1 := h _ (List.mem_of_getElem? (i := 4) rfl)
  have p5 : 0 ≤ (val 1).1 ∧ (val 1).1 ≤ 90 := h _ (List.mem_of_getElem? (i := 5) rfl)
  show (val 0).1 ≤ (val 1).1
  obtain ⟨e1, e2⟩ := p1.2.2.2.2.2.1 (val 1).1.toNat (by omega)
  have := e1
  by_cases hz : (val 1).1.toNat = 0
  · have := e1 hz
    omega
  · omega
theorem ru_cmp11_1 : rv_RlOk (1, [0, 1], [(1, [2, 1], Int.ofNat 0, Int.ofNat 0), (1001, [0, 2], Int.negSucc 0, Int.ofNat 0)]) := by
  intro val h
  have p0 : (val 2).1 < (val 1).1 := h _ (List.mem_of_getElem? (i := 0) rfl)
  have p1 : (val 0).1 = (val 2).1 + (-1) := h _ (List.mem_of_getElem? (i := 1) rfl)
  show (val 0).1 < (val 1).1
  omega
def rl_cmp11 : List rv_Rl := [(2, [0, 1], [(5, [2, 1, 3], Int.ofNat 0, Int.ofNat 0), (76, [30, 31, 32, 3, 34, 4, 36, 37, 38, 39, 40, 41], Int.ofNat 0, Int.ofNat 0), (1, [1, 4], Int.ofNat 0, Int.ofNat 0), (1000, [2], Int.ofNat 5, Int.ofNat 6), (1000, [0], Int.ofNat 1, Int.ofNat 1), (1000, [1], Int.ofNat 0, Int.ofNat 90)]), (1, [0, 1], [(1, [2, 1], Int.ofNat 0, Int.ofNat 0), (1001, [0, 2], Int.negSucc 0, Int.ofNat 0)])]
theorem rlo_cmp11 : ∀ r ∈ rl_cmp11, rv_RlOk r := List.forall_mem_cons.mpr ⟨ru_cmp11_0, List.forall_mem_cons.mpr ⟨ru_cmp11_1, fun _ h => absurd h List.not_mem_nil⟩⟩
theorem ru_comes_0 : rv_RlOk (45, [0, 1, 2, 3], [(1001, [1, 3], Int.ofNat 0, Int.ofNat 0), (1000, [0], Int.ofNat 0, Int.ofNat 0), (1000, [3], Int.ofNat 0, Int.ofNat 1120)]) := by
  intro val h
  have p0 : (val 1).1 = (val 3).1 + 0 := h _ (List.mem_of_getElem? (i := 0) rfl)
  have p1 : 0 ≤ (val 0).1 ∧ (val 0).1 ≤ 0 := h _ (List.mem_of_getElem? (i := 1) rfl)
  have p2 : 0 ≤ (val 3).1 ∧ (val 3).1 ≤ 1120 := h _ (List.mem_of_getElem? (i := 2) rfl)
  intro _
  show 0 ≤ (val 3).1 ∧ (val 3).1 ≤ (val 1).1 ∧ (val 0).1 = rv_dep (val 2).2 (val 3).1.toNat ((val 1).1 - (val 3).1).toNat
  refine ⟨by omega, by omega, ?_⟩
  rw [show ((val 1).1 - (val 3).1).toNat = 0 by omega]
  show (val 0).1 = 0
  omega
theorem ru_comes_1 : rv_RlOk (2, [0, 1], [(45, [1, 2, 3, 4], Int.ofNat 0, Int.ofNat 0), (47, [3, 4, 5], Int.ofNat 0, Int.ofNat 0), (1, [2, 5], Int.ofNat 0, Int.ofNat 0), (5, [6, 2, 3], Int.ofNat 0, Int.ofNat 0), (1000, [6], Int.ofNat 126, Int.ofNat 126), (1000, [0], Int.ofNat 1, Int.ofNat 1)]) := by
  intro val h
  have p0 : 0 ≤ (val 4).1 ∧ (val 4).1 ≤ (val 2).1 ∧ (val 1).1 = rv_dep (val 3).2 (val 4).1.toNat ((val 2).1 - (val 4).1).toNat := h _ (List.mem_of_getElem? (i := 0) rfl) rfl
  have p1 : rv_WF (val 3).2 (val 4).1 (val 5).1 := h _ (List.mem_of_getElem? (i := 1) rfl) rfl
  have p2 : (val 2).1 < (val 5).1 := h _ (List.mem_of_getElem? (i := 2) rfl)
  have p3 : (val 6).1 = (val 3).2 (val 2).1.toNat := h _ (List.mem_of_getElem? (i := 3) rfl)
  have p4 : 126 ≤ (val 6).1 ∧ (val 6).1 ≤ 126 := h _ (List.mem_of_getElem? (i := 4) rfl)
  have p5 : 1 ≤ (val 0).1 ∧ (val 0).1 ≤ 1 := h _ (List.mem_of_getElem? (i := 5) rfl)
  show (val 0).1 ≤ (val 1).1
  have e := p1.2 ((val 2).1 - (val 4).1).toNat (by omega)
  rw [show (val 4).1.toNat + ((val 2).1 - (val 4).1).toNat = (val 2).1.toNat by omega, ← p3, ← p0.2.2] at e
  have := e.1 (by omega)
  omega
theorem ru_comes_2 : rv_RlOk (2, [0, 1], [(45, [0, 2, 3, 4], Int.ofNat 0, Int.ofNat 0), (47, [3, 4, 5], Int.ofNat 0, Int.ofNat 0), (1, [2, 5], Int.ofNat 0, Int.ofNat 0), (5, [6, 2, 3], Int.ofNat 0, Int.ofNat 0), (1000, [6], Int.ofNat 97, Int.ofNat 122), (1000, [1], Int.ofNat 59, Int.ofNat 59)]) := by
  intro val h
  have p0 : 0 ≤ (val 4).1 ∧ (val 4).1 ≤ (val 2).1 ∧ (val 0).1 = rv_dep (val 3).2 (val 4).1.toNat ((val 2).1 - (val 4).1).toNat := h _ (List.mem_of_getElem? (i := 0) rfl) rfl
  have p1 : rv_WF (val 3).2 (val 4).1 (val 5).1 := h _ (List.mem_of_getElem? (i := 1) rfl) rfl
  have p2 : (val 2).1 < (val 5).1 := h _ (List.mem_of_getElem? (i := 2) rfl)
  have p3 : (val 6).1 = (val 3).2 (val 2).1.toNat := h _ (List.mem_of_getElem? (i := 3) rfl)
  have p4 : 97 ≤ (val 6).1 ∧ (val 6).1 ≤ 122 := h _ (List.mem_of_getElem? (i := 4) rfl)
  have p5 : 59 ≤ (val 1).1 ∧ (val 1).1 ≤ 59 := h _ (List.mem_of_getElem? (i := 5) rfl)
  show (val 0).1 ≤ (val 1).1
  have e := p1.2 ((val 2).1 - (val 4).1).toNat (by omega)
  rw [show (val 4).1.toNat + ((val 2).1 - (val 4).1).toNat = (val 2).1.toNat by omega, ← p3, ← p0.2.2] at e
  have := e.2.1 (by omega)
  omega
theorem ru_comes_3 : rv_RlOk (2, [0, 1], [(45, [1, 2, 3, 4], Int.ofNat 0, Int.ofNat 0), (47, [3, 4, 5], Int.ofNat 0, Int.ofNat 0), (1, [2, 5], Int.ofNat 0, Int.ofNat 0), (5, [6, 2, 3], Int.ofNat 0, Int.ofNat 0), (48, [6], Int.ofNat 0, Int.ofNat 0), (4, [6, 7], Int.ofNat 0, Int.ofNat 0), (1000, [7], Int.ofNat 126, Int.ofNat 126), (1000, [0], Int.ofNat 2, Int.ofNat 2)]) := by
  intro val h
  have p0 : 0 ≤ (val 4).1 ∧ (val 4).1 ≤ (val 2).1 ∧ (val 1).1 = rv_dep (val 3).2 (val 4).1.toNat ((val 2).1 - (val 4).1).toNat := h _ (List.mem_of_getElem? (i := 0) rfl) rfl
  have p1 : rv_WF (val 3).2 (val 4).1 (val 5).1 := h _ (List.mem_of_getElem? (i := 1) rfl) rfl
  have p2 : (val 2).1 < (val 5).1 := h _ (List.mem_of_getElem? (i := 2) rfl)
  have p3 : (val 6).1 = (val 3).2 (val 2).1.toNat := h _ (List.mem_of_getElem? (i := 3) rfl)
  have p4 : ¬ (97 ≤ (val 6).1 ∧ (val 6).1 ≤ 122) := h _ (List.mem_of_getElem? (i := 4) rfl) rfl
  have p5 : ¬ (val 6).1 = (val 7).1 := h _ (List.mem_of_getElem? (i := 5) rfl)
  have p6 : 126 ≤ (val 7).1 ∧ (val 7).1 ≤ 126 := h _ (List.mem_of_getElem? (i := 6) rfl)
  have p7 : 2 ≤ (val 0).1 ∧ (val 0).1 ≤ 2 := h _ (List.mem_of_getElem? (i := 7) rfl)
  show (val 0).1 ≤ (val 1).1
  have e := p1.2 ((val 2).1 - (val 4).1).toNat (by omega)
  rw [show (val 4).1.toNat + ((val 2).1 - (val 4).1).toNat = (val 2).1.toNat by omega, ← p3, ← p0.2.2] at e
  have := e.2.2 (by omega) p4
  omega
theorem ru_comes_4 : rv_RlOk (45, [0, 1, 2, 3], [(45, [0, 4, 2, 3], Int.ofNat 0, Int.ofNat 0), (1001, [1, 4], Int.ofNat 1, Int.ofNat 0), (5, [6, 4, 2], Int.ofNat 0, Int.ofNat 0), (1000, [6], Int.ofNat 126, Int.ofNat 126)]) := by
  intro val h
  have p0 : 0 ≤ (val 3).1 ∧ (val 3).1 ≤ (val 4).1 ∧ (val 0).1 = rv_dep (val 2).2 (val 3).1.toNat ((val 4).1 - (val 3).1).toNat := h _ (List.mem_of_getElem? (i := 0) rfl) rfl
  have p1 : (val 1).1 = (val 4).1 + 1 := h _ (List.mem_of_getElem? (i := 1) rfl)
  have p2 : (val 6).1 = (val 2).2 (val 4).1.toNat := h _ (List.mem_of_getElem? (i := 2) rfl)
  have p3 : 126 ≤ (val 6).1 ∧ (val 6).1 ≤ 126 := h _ (List.mem_of_getElem? (i := 3) rfl)
  intro _
  show 0 ≤ (val 3).1 ∧ (val 3).1 ≤ (val 1).1 ∧ (val 0).1 = rv_dep (val 2).2 (val 3).1.toNat ((val 1).1 - (val 3).1).toNat
  have e : ((val 1).1 - (val 3).1).toNat = ((val 4).1 - (val 3).1).toNat + 1 := by omega
  refine ⟨p0.1, by omega, ?_⟩
  rw [e]
  show _ = rv_dep (val 2).2 (val 3).1.toNat ((val 4).1 - (val 3).1).toNat + rv_kd ((val 2).2 ((val 3).1.toNat + ((val 4).1 - (val 3).1).toNat))
  rw [show (val 3).1.toNat + ((val 4).1 - (val 3).1).toNat = (val 4).1.toNat by omega, ← p2, ← p0.2.2, rv_kd_n (by omega)]
  omega
theorem ru_comes_5 : rv_RlOk (45, [0, 1, 2, 3], [(45, [5, 4, 2, 3], Int.ofNat 0, Int.ofNat 0), (1001, [1, 4], Int.ofNat 1, Int.ofNat 0), (1001, [0, 5], Int.ofNat 1, Int.ofNat 0), (5, [6, 4, 2], Int.ofNat 0, Int.ofNat 0), (1000, [6], Int.ofNat 97, Int.ofNat 122)]) := by
  intro val h
  have p0 : 0 ≤ (val 3).1 ∧ (val 3).1 ≤ (val 4).1 ∧ (val 5).1 = rv_dep (val 2).2 (val 3).1.toNat ((val 4).1 - (val 3).1).toNat := h _ (List.mem_of_getElem? (i := 0) rfl) rfl
  have p1 : (val 1).1 = (val 4).1 + 1 := h _ (List.mem_of_getElem? (i := 1) rfl)
  have p2 : (val 0).1 = (val 5).1 + 1 := h _ (List.mem_of_getElem? (i := 2) rfl)
  have p3 : (val 6).1 = (val 2).2 (val 4).1.toNat := h _ (List.mem_of_getElem? (i := 3) rfl)
  have p4 : 97 ≤ (val 6).1 ∧ (val 6).1 ≤ 122 := h _ (List.mem_of_getElem? (i := 4) rfl)
  intro _
  show 0 ≤ (val 3).1 ∧ (val 3).1 ≤ (val 1).1 ∧ (val 0).1 = rv_dep (val 2).2 (val 3).1.toNat ((val 1).1 - (val 3).1).toNat
  have e : ((val 1).1 - (val 3).1).toNat = ((val 4).1 - (val 3).1).toNat + 1 := by omega
  refine ⟨p0.1, by omega, ?_⟩
  rw [e]
  show _ = rv_dep (val 2).2 (val 3).1.toNat ((val 4).1 - (val 3).1).toNat + rv_kd ((val 2).2 ((val 3).1.toNat + ((val 4).1 - (val 3).1).toNat))
  rw [show (val 3).1.toNat + ((val 4).1 - (val 3).1).toNat = (val 4).1.toNat by omega, ← p3, ← p0.2.2, rv_kd_l (by omega)]
  omega
theorem ru_comes_6 : rv_RlOk (45, [0, 1, 2, 3], [(45, [5, 4, 2, 3], Int.ofNat 0, Int.ofNat 0), (1001, [1, 4], Int.ofNat 1, Int.ofNat 0), (1001, [0, 5], Int.negSucc 0, Int.ofNat 0), (5, [6, 4, 2], Int.ofNat 0, Int.ofNat 0), (48, [6], Int.ofNat 0, Int.ofNat 0), (4, [6, 7], Int.ofNat 0, Int.ofNat 0), (1000, [7], Int.ofNat 126, Int.ofNat 126)]) := by
  intro val h
  have p0 : 0 ≤ (val 3).1 ∧ (val 3).1 ≤ (val 4).1 ∧ (val 5).1 = rv_dep (val 2).2 (val 3).1.toNat ((val 4).1 - (val 3).1).toNat := h _ (List.mem_of_getElem? (i := 0) rfl) rfl
  have p1 : (val 1).1 = (val 4).1 + 1 := h _ (List.mem_of_getElem? (i := 1) rfl)
  have p2 : (val 0).1 = (val 5).1 + (-1) := h _ (List.mem_of_getElem? (i := 2) rfl)
  have p3 : (val 6).1 = (val 2).2 (val 4).1.toNat := h _ (List.mem_of_getElem? (i := 3) rfl)
  have p4 : ¬ (97 ≤ (val 6).1 ∧ (val 6).1 ≤ 122) := h _ (List.mem_of_getElem? (i := 4) rfl) rfl
  have p5 : ¬ (val 6).1 = (val 7).1 := h _ (List.mem_of_getElem? (i := 5) rfl)
  have p6 : 126 ≤ (val 7).1 ∧ (val 7).1 ≤ 126 := h _ (List.mem_of_getElem? (i := 6) rfl)
  intro _
  show 0 ≤ (val 3).1 ∧ (val 3).1 ≤ (val 1).1 ∧ (val 0).1 = rv_dep (val 2).2 (val 3).1.toNat ((val 1).1 - (val 3).1).toNat
  have e : ((val 1).1 - (val 3).1).toNat = ((val 4).1 - (val 3).1).toNat + 1 := by omega
  refine ⟨p0.1, by omega, ?_⟩
  rw [e]
  show _ = rv_dep (val 2).2 (val 3).1.toNat ((val 4).1 - (val 3).1).toNat + rv_kd ((val 2).2 ((val 3).1.toNat + ((val 4).1 - (val 3).1).toNat))
  rw [show (val 3).1.toNat + ((val 4).1 - (val 3).1).toNat = (val 4).1.toNat by omega, ← p3, ← p0.2.2, rv_kd_o (by omega) p4]
  omega
def rl_comes : List rv_Rl := [(45, [0, 1, 2, 3], [(1001, [1, 3], Int.ofNat 0, Int.ofNat 0), (1000, [0], Int.ofNat 0, Int.ofNat 0), (1000, [3], Int.ofNat 0, Int.ofNat 1120)]), (2, [0, 1], [(45, [1, 2, 3, 4], Int.ofNat 0, Int.ofNat 0), (47, [3, 4, 5], Int.ofNat 0, Int.ofNat 0), (1, [2, 5], Int.ofNat 0, Int.ofNat 0), (5, [6, 2, 3], Int.ofNat 0, Int.ofNat 0), (1000, [6], Int.ofNat 126, Int.ofNat 126), (1000, [0], Int.ofNat 1, Int.ofNat 1)]), (2, [0, 1], [(45, [0, 2, 3, 4], Int.ofNat 0, Int.ofNat 0), (47, [3, 4, 5], Int.ofNat 0, Int.ofNat 0), (1, [2, 5], Int.ofNat 0, Int.ofNat 0), (5, [6, 2, 3], Int.ofNat 0, Int.ofNat 0), (1000, [6], Int.ofNat 97, Int.ofNat 122), (1000, [1], Int.ofNat 59, Int.ofNat 59)]), (2, [0, 1], [(45, [1, 2, 3, 4], Int.ofNat 0, Int.ofNat 0), (47, [3, 4, 5], Int.ofNat 0, Int.ofNat 0), (1, [2, 5], Int.ofNat 0, Int.ofNat 0), (5, [6, 2, 3], Int.ofNat 0, Int.ofNat 0), (48, [6], Int.ofNat 0, Int.ofNat 0), (4, [6, 7], Int.ofNat 0, Int.ofNat 0), (1000, [7], Int.ofNat 126, Int.ofNat 126), (1000, [0], Int.ofNat 2, Int.ofNat 2)]), (45, [0, 1, 2, 3], [(45, [0, 4, 2, 3], Int.ofNat 0, Int.ofNat 0), (1001, [1, 4], Int.ofNat 1, Int.ofNat 0), (5, [6, 4, 2], Int.ofNat 0, Int.ofNat 0), (1000, [6], Int.ofNat 126, Int.ofNat 126)]), (45, [0, 1, 2, 3], [(45, [5, 4, 2, 3], Int.ofNat 0, Int.ofNat 0), (1001, [1, 4], Int.ofNat 1, Int.ofNat 0), (1001, [0, 5], Int.ofNat 1, Int.ofNat 0), (5, [6, 4, 2], Int.ofNat 0, Int.ofNat 0), (1000, [6], Int.ofNat 97, Int.ofNat 122)]), (45, [0, 1, 2, 3], [(45, [5, 4, 2, 3], Int.ofNat 0, Int.ofNat 0), (1001, [1, 4], Int.ofNat 1, Int.ofNat 0), (1001, [0, 5], Int.negSucc 0, Int.ofNat 0), (5, [6, 4, 2], Int.ofNat 0, Int.ofNat 0), (48, [6], Int.ofNat 0, Int.ofNat 0), (4, [6, 7], Int.ofNat 0, Int.ofNat 0), (1000, [7], Int.ofNat 126, Int.ofNat 126)])]
theorem rlo_comes : ∀ r ∈ rl_comes, rv_RlOk r := List.forall_mem_cons.mpr ⟨ru_comes_0, List.forall_mem_cons.mpr ⟨ru_comes_1, List.forall_mem_cons.mpr ⟨ru_comes_2, List.forall_mem_cons.mpr ⟨ru_comes_3, List.forall_mem_cons.mpr ⟨ru_comes_4, List.forall_mem_cons.mpr ⟨ru_comes_5, List.forall_mem_cons.mpr ⟨ru_comes_6, fun _ h => absurd h List.not_mem_nil⟩⟩⟩⟩⟩⟩⟩
theorem ru_cw0_0 : rv_RlOk (42, [0, 1, 2, 3, 4, 5], [(42, [0, 6, 2, 3, 4, 5], Int.ofNat 0, Int.ofNat 0), (6, [1, 6, 7, 8], Int.ofNat 0, Int.ofNat 0), (1000, [7], Int.ofNat 560, Int.ofNat 1119)]) := by
  intro val h
  have p0 : rv_RU 0 (val 0).1 (val 6).2 (val 2).1 (val 3).1 (val 4).1 (val 5).1 := h _ (List.mem_of_getElem? (i := 0) rfl) rfl
  have p1 : ∀ j, (val 1).2 j = if j = (val 7).1.toNat then (val 8).1 else (val 6).2 j := h _ (List.mem_of_getElem? (i := 1) rfl)
  have p2 : 560 ≤ (val 7).1 ∧ (val 7).1 ≤ 1119 := h _ (List.mem_of_getElem? (i := 2) rfl)
  intro _
  show rv_RU 0 (val 0).1 (val 1).2 (val 2).1 (val 3).1 (val 4).1 (val 5).1
  have key : ∀ f t : Int, 560 * 0 ≤ f ∧ t ≤ 560 * 0 + 560 ∧ rv_WF (val 6).2 f t → 560 * 0 ≤ f ∧ t ≤ 560 * 0 + 560 ∧ rv_WF (val 1).2 f t := fun f t z => ⟨z.1, z.2.1, rv_WF_congr (fun j z1 z2 => by rw [p1, if_neg (by omega)]) z.2.2⟩
  exact ⟨fun z => key _ _ (p0.1 z), fun z => key _ _ (p0.2 z)⟩
def rl_cw0 : List rv_Rl := [(42, [0, 1, 2, 3, 4, 5], [(42, [0, 6, 2, 3, 4, 5], Int.ofNat 0, Int.ofNat 0), (6, [1, 6, 7, 8], Int.ofNat 0, Int.ofNat 0), (1000, [7], Int.ofNat 560, Int.ofNat 1119)])]
theorem rlo_cw0 : ∀ r ∈ rl_cw0, rv_RlOk r := List.forall_mem_cons.mpr ⟨ru_cw0_0, fun _ h => absurd h List.not_mem_nil⟩
theorem ru_cw1_0 : rv_RlOk (43, [0, 1, 2, 3, 4, 5], [(43, [0, 6, 2, 3, 4, 5], Int.ofNat 0, Int.ofNat 0), (6, [1, 6, 7, 8], Int.ofNat 0, Int.ofNat 0), (1000, [7], Int.ofNat 0, Int.ofNat 559)]) := by
  intro val h
  have p0 : rv_RU 1 (val 0).1 (val 6).2 (val 2).1 (val 3).1 (val 4).1 (val 5).1 := h _ (List.mem_of_getElem? (i := 0) rfl) rfl
  have p1 : ∀ j, (val 1).2 j = if j = (val 7).1.toNat then (val 8).1 else (val 6).2 j := h _ (List.mem_of_getElem? (i := 1) rfl)
  have p2 : 0 ≤ (val 7).1 ∧ (val 7).1 ≤ 559 := h _ (List.mem_of_getElem? (i := 2) rfl)
  intro _
  show rv_RU 1 (val 0).1 (val 1).2 (val 2).1 (val 3).1 (val 4).1 (val 5).1
  have key : ∀ f t : Int, 560 * 1 ≤ f ∧ t ≤ 560 * 1 + 560 ∧ rv_WF (val 6).2 f t → 560 * 1 ≤ f ∧ t ≤ 560 * 1 + 560 ∧ rv_WF (val 1).2 f t := fun f t z => ⟨z.1, z.2.1, rv_WF_congr (fun j z1 z2 => by rw [p1, if_neg (by omega)]) z.2.2⟩
  exact ⟨fun z => key _ _ (p0.1 z), fun z => key _ _ (p0.2 z)⟩
def rl_cw1 : List rv_Rl := [(43, [0, 1, 2, 3, 4, 5], [(43, [0, 6, 2, 3, 4, 5], Int.ofNat 0, Int.ofNat 0), (6, [1, 6, 7, 8], Int.ofNat 0, Int.ofNat 0), (1000, [7], Int.ofNat 0, Int.ofNat 559)])]
theorem rlo_cw1 : ∀ r ∈ rl_cw1, rv_RlOk r := List.forall_mem_cons.mpr ⟨ru_cw1_0, fun _ h => absurd h List.not_mem_nil⟩
theorem ru_en00_0 : rv_RlOk (2, [0, 1], [(5, [1, 2, 3], Int.ofNat 0, Int.ofNat 0), (70, [30, 31, 32, 3, 34, 4, 36, 37, 38, 39, 40, 41], Int.ofNat 0, Int.ofNat 0), (1001, [2, 4], Int.negSucc 0, Int.ofNat 0), (1000, [0], Int.ofNat 1, Int.ofNat 1), (1000, [4], Int.ofNat 1, Int.ofNat 90)]) := by
  intro val h
  have p0 : (val 1).1 = (val 3).2 (val 2).1.toNat := h _ (List.mem_of_getElem? (i := 0) rfl)
  have p1 : rv_PI 0 1 1 (val 30).2 (val 31).1 (val 32).1 (val 3).2 (val 34).2 (val 4).1 (val 36).1 (val 37).1 (val 38).1 (val 39).1 (val 40).1 (val 41).1 := h _ (List.mem_of_getElem? (i := 1) rfl) rfl
  have p2 : (val 2).1 = (val 4).1 + (-1) := h _ (List.mem_of_getElem? (i := 2) rfl)
  have p3 : 1 ≤ (val 0).1 ∧ (val 0).1 ≤ 1 := h _ (List.mem_of_getElem? (i := 3) rfl)
  have p4 : 1 ≤ (val 4).1 ∧ (val 4).1 ≤ 90 := h _ (List.mem_of_getElem? (i := 4) rfl)
  show (val 0).1 ≤ (val 1).1
  rw [show (val 2).1.toNat = ((val 4).1 - 1).toNat by omega] at p0
  have e := rv_pi_top p1 (by omega)
  have h1 : (val 4).1 = 1 ∨ 2 ≤ (val 4).1 := by omega
  rcases h1 with z | z
  · have := e.1 z; omega
  · have := e.2 z; omega
theorem ru_en00_1 : rv_RlOk (2, [0, 1], [(5, [0, 2, 3], Int.ofNat 0, Int.ofNat 0), (70, [30, 31, 32, 3, 34, 4, 36, 37, 38, 39, 40, 41], Int.ofNat 0, Int.ofNat 0), (1001, [2, 4], Int.negSucc 0, Int.ofNat 0), (1000, [1], Int.ofNat 8, Int.ofNat 8), (1000, [4], Int.ofNat 1, Int.ofNat 90)]) := by
  intro val h
  have p0 : (val 0).1 = (val 3).2 (val 2).1.toNat := h _ (List.mem_of_getElem? (i := 0) rfl)
  have p1 : rv_PI 0 1 1 (val 30).2 (val 31).1 (val 32).1 (val 3).2 (val 34).2 (val 4).1 (val 36).1 (val 37).1 (val 38).1 (val 39).1 (val 40).1 (val 41).1 := h _ (List.mem_of_getElem? (i := 1) rfl) rfl
  have p2 : (val 2).1 = (val 4).1 + (-1) := h _ (List.mem_of_getElem? (i := 2) rfl)
  have p3 : 8 ≤ (val 1).1 ∧ (val 1).1 ≤ 8 := h _ (List.mem_of_getElem? (i := 3) rfl)
  have p4 : 1 ≤ (val 4).1 ∧ (val 4).1 ≤ 90 := h _ (List.mem_of_getElem? (i := 4) rfl)
  show (val 0).1 ≤ (val 1).1
  rw [show (val 2).1.toNat = ((val 4).1 - 1).toNat by omega] at p0
  have e := rv_pi_top p1 (by omega)
  have h1 : (val 4).1 = 1 ∨ 2 ≤ (val 4).1 := by omega
  rcases h1 with z | z
  · have := e.1 z; omega
  · have := e.2 z; omega
def rl_en00 : List rv_Rl := [(2, [0, 1], [(5, [1, 2, 3], Int.ofNat 0, Int.ofNat 0), (70, [30, 31, 32, 3, 34, 4, 36, 37, 38, 39, 40, 41], Int.ofNat 0, Int.ofNat 0), (1001, [2, 4], Int.negSucc 0, Int.ofNat 0), (1000, [0], Int.ofNat 1, Int.ofNat 1), (1000, [4], Int.ofNat 1, Int.ofNat 90)]), (2, [0, 1], [(5, [0, 2, 3], Int.ofNat 0, Int.ofNat 0), (70, [30, 31, 32, 3, 34, 4, 36, 37, 38, 39, 40, 41], Int.ofNat 0, Int.ofNat 0), (1001, [2, 4], Int.negSucc 0, Int.ofNat 0), (1000, [1], Int.ofNat 8, Int.ofNat 8), (1000, [4], Int.ofNat 1, Int.ofNat 90)])]
theorem rlo_en00 : ∀ r ∈ rl_en00, rv_RlOk r := List.forall_mem_cons.mpr ⟨ru_en00_0, List.forall_mem_cons.mpr ⟨ru_en00_1, fun _ h => absurd h List.not_mem_nil⟩⟩
theorem ru_en01_0 : rv_RlOk (2, [0, 1], [(5, [1, 2, 3], Int.ofNat 0, Int.ofNat 0), (72, [30, 31, 32, 3, 34, 4, 36, 37, 38, 39, 40, 41], Int.ofNat 0, Int.ofNat 0), (1001, [2, 4], Int.negSucc 0, Int.ofNat 0), (1000, [0], Int.ofNat 1, Int.ofNat 1), (1000, [4], Int.ofNat 1, Int.ofNat 90)]) := by
  intro val h
  have p0 : (val 1).1 = (val 3).2 (val 2).1.toNat := h _ (List.mem_of_getElem? (i := 0) rfl)
  have p1 : rv_PI 0 0 1 (val 30).2 (val 31).1 (val 32).1 (val 3).2 (val 34).2 (val 4).1 (val 36).1 (val 37).1 (val 38).1 (val 39).1 (val 40).1 (val 41).1 := h _ (List.mem_of_getElem? (i := 1) rfl) rfl
  have p2 : (val 2).1 = (val 4).1 + (-1) := h _ (List.mem_of_getElem? (i := 2) rfl)
  have p3 : 1 ≤ (val 0).1 ∧ (val 0).1 ≤ 1 := h _ (List.mem_of_getElem? (i := 3) rfl)
  have p4 : 1 ≤ (val 4).1 ∧ (val 4).1 ≤ 90 := h _ (List.mem_of_getElem? (i := 4) rfl)
  show (val 0).1 ≤ (val 1).1
  rw [show (val 2).1.toNat = ((val 4).1 - 1).toNat by omega] at p0
  have e := rv_pi_top p1 (by omega)
  have h1 : (val 4).1 = 1 ∨ 2 ≤ (val 4).1 := by omega
  rcases h1 with z | z
  · have := e.1 z; omega
  · have := e.2 z; omega
theorem ru_en01_1 : rv_RlOk (2, [0, 1], [(5, [0, 2, 3], Int.ofNat 0, Int.ofNat 0), (72, [30, 31, 32, 3, 34, 4, 36, 37, 38, 39, 40, 41], Int.ofNat 0, Int.ofNat 0), (1001, [2, 4], Int.negSucc 0, Int.ofNat 0), (1000, [1], Int.ofNat 8, Int.ofNat 8), (1000, [4], Int.ofNat 1, Int.ofNat 90)]) := by
  intro val h
  have p0 : (val 0).1 = (val 3).2 (val 2).1.toNat := h _ (List.mem_of_getElem? (i := 0) rfl)
  have p1 : rv_PI 0 0 1 (val 30).2 (val 31).1 (val 32).1 (val 3).2 (val 34).2 (val 4).1 (val 36).1 (val 37).1 (val 38).1 (val 39).1 (val 40).1 (val 41).1 := h _ (List.mem_of_getElem? (i := 1) rfl) rfl
  have p2 : (val 2).1 = (val 4).1 + (-1) := h _ (List.mem_of_getElem? (i := 2) rfl)
  have p3 : 8 ≤ (val 1).1 ∧ (val 1).1 ≤ 8 := h _ (List.mem_of_getElem? (i := 3) rfl)
  have p4 : 1 ≤ (val 4).1 ∧ (val 4).1 ≤ 90 := h _ (List.mem_of_getElem? (i := 4) rfl)
  show (val 0).1 ≤ (val 1).1
  rw [show (val 2).1.toNat = ((val 4).1 - 1).toNat by omega] at p0
  have e := rv_pi_top p1 (by omega)
  have h1 : (val 4).1 = 1 ∨ 2 ≤ (val 4).1 := by omega
  rcases h1 with z | z
  · have := e.1 z; omega
  · have := e.2 z; omega
def rl_en01 : List rv_Rl := [(2, [0, 1], [(5, [1, 2, 3], Int.ofNat 0, Int.ofNat 0), (72, [30, 31, 32, 3, 34, 4, 36, 37, 38, 39, 40, 41], Int.ofNat 0, Int.ofNat 0), (1001, [2, 4], Int.negSucc 0, Int.ofNat 0), (1000, [0], Int.ofNat 1, Int.ofNat 1), (1000, [4], Int.ofNat 1, Int.ofNat 90)]), (2, [0, 1], [(5, [0, 2, 3], Int.ofNat 0, Int.ofNat 0), (72, [30, 31, 32, 3, 34, 4, 36, 37, 38, 39, 40, 41], Int.ofNat 0, Int.ofNat 0), (1001, [2, 4], Int.negSucc 0, Int.ofNat 0), (1000, [1], Int.ofNat 8, Int.ofNat 8), (1000, [4], Int.ofNat 1, Int.ofNat 90)])]
theorem rlo_en01 : ∀ r ∈ rl_en01, rv_RlOk r := List.forall_mem_cons.mpr ⟨ru_en01_0, List.forall_mem_cons.mpr ⟨ru_en01_1, fun _ h => absurd h List.not_mem_nil⟩⟩
theorem ru_en10_0 : rv_RlOk (2, [0, 1], [(5, [1, 2, 3], Int.ofNat 0, Int.ofNat 0), (74, [30, 31, 32, 3, 34, 4, 36, 37, 38, 39, 40, 41], Int.ofNat 0, Int.ofNat 0), (1001, [2, 4], Int.negSucc 0, Int.ofNat 0), (1000, [0], Int.ofNat 1, Int.ofNat 1), (1000, [4], Int.ofNat 1, Int.ofNat 90)]) := by
  intro val h
  have p0 : (val 1).1 = (val 3).2 (val 2).1.toNat := h _ (List.mem_of_getElem? (i := 0) rfl)
  have p1 : rv_PI 1 1 1 (val 30).2 (val 31).1 (val 32).1 (val 3).2 (val 34).2 (val 4).1 (val 36).1 (val 37).1 (val 38).1 (val 39).1 (val 40).1 (val 41).1 := h _ (List.mem_of_getElem? (i := 1) rfl) rfl
  have p2 : (val 2).1 = (val 4).1 + (-1) := h _ (List.mem_of_getElem? (i := 2) rfl)
  have p3 : 1 ≤ (val 0).1 ∧ (val 0).1 ≤ 1 := h _ (List.mem_of_getElem? (i := 3) rfl)
  have p4 : 1 ≤ (val 4).1 ∧ (val 4).1 ≤ 90 := h _ (List.mem_of_getElem? (i := 4) rfl)
  show (val 0).1 ≤ (val 1).1
  rw [show (val 2).1.toNat = ((val 4).1 - 1).toNat by omega] at p0
  have e := rv_pi_top p1 (by omega)
  have h1 : (val 4).1 = 1 ∨ 2 ≤ (val 4).1 := by omega
  rcases h1 with z | z
  · have := e.1 z; omega
  · have := e.2 z; omega
theorem ru_en10_1 : rv_RlOk (2, [0, 1], [(5, [0, 2, 3], Int.ofNat 0, Int.ofNat 0), (74, [30, 31, 32, 3, 34, 4, 36, 37, 38, 39, 40, 41], Int.ofNat 0, Int.ofNat 0), (1001, [2, 4], Int.negSucc 0, Int.ofNat 0), (1000, [1], Int.ofNat 8, Int.ofNat 8), (1000, [4], Int.ofNat 1, Int.ofNat 90)]) := by
  intro val h
  have p0 : (val 0).1 = (val 3).2 (val 2).1.toNat := h _ (List.mem_of_getElem? (i := 0) rfl)
  have p1 : rv_PI 1 1 1 (val 30).2 (val 31).1 (val 32).1 (val 3).2 (val 34).2 (val 4).1 (val 36).1 (val 37).1 (val 38).1 (val 39).1 (val 40).1 (val 41).1 := h _ (List.mem_of_getElem? (i := 1) rfl) rfl
  have p2 : (val 2).1 = (val 4).1 + (-1) := h _ (List.mem_of_getElem? (i := 2) rfl)
  have p3 : 8 ≤ (val 1).1 ∧ (val 1).1 ≤ 8 := h _ (List.mem_of_getElem? (i := 3) rfl)
  have p4 : 1 ≤ (val 4).1 ∧ (val 4).1 ≤ 90 := h _ (List.mem_of_getElem? (i := 4) rfl)
  show (val 0).1 ≤ (val 1).1
  rw [show (val 2).1.toNat = ((val 4).1 - 1).toNat by omega] at p0
  have e := rv_pi_top p1 (by omega)
  have h1 : (val 4).1 = 1 ∨ 2 ≤ (val 4).1 := by omega
  rcases h1 with z | z
  · have := e.1 z; omega
  · have := e.2 z; omega
def rl_en10 : List rv_Rl := [(2, [0, 1], [(5, [1, 2, 3], Int.ofNat 0, Int.ofNat 0), (74, [30, 31, 32, 3, 34, 4, 36, 37, 38, 39, 40, 41], Int.ofNat 0, Int.ofNat 0), (1001, [2, 4], Int.negSucc 0, Int.ofNat 0), (1000, [0], Int.ofNat 1, Int.ofNat 1), (1000, [4], Int.ofNat 1, Int.ofNat 90)]), (2, [0, 1], [(5, [0, 2, 3], Int.ofNat 0, Int.ofNat 0), (74, [30, 31, 32, 3, 34, 4, 36, 37, 38, 39, 40, 41], Int.ofNat 0, Int.ofNat 0), (1001, [2, 4], Int.negSucc 0, Int.ofNat 0), (1000, [1], Int.ofNat 8, Int.ofNat 8), (1000, [4], Int.ofNat 1, Int.ofNat 90)])]
theorem rlo_en10 : ∀ r ∈ rl_en10, rv_RlOk r := List.forall_mem_cons.mpr ⟨ru_en10_0, List.forall_mem_cons.mpr ⟨ru_en10_1, fun _ h => absurd h List.not_mem_nil⟩⟩
theorem ru_en11_0 : rv_RlOk (2, [0, 1], [(5, [1, 2, 3], Int.ofNat 0, Int.ofNat 0), (76, [30, 31, 32, 3, 34, 4, 36, 37, 38, 39, 40, 41], Int.ofNat 0, Int.ofNat 0), (1001, [2, 4], Int.negSucc 0, Int.ofNat 0), (1000, [0], Int.ofNat 1, Int.ofNat 1), (1000, [4], Int.ofNat 1, Int.ofNat 90)]) := by
  intro val h
  have p0 : (val 1).1 = (val 3).2 (val 2).1.toNat := h _ (List.mem_of_getElem? (i := 0) rfl)
  have p1 : rv_PI 1 0 1 (val 30).2 (val 31).1 (val 32).1 (val 3).2 (val 34).2 (val 4).1 (val 36).1 (val 37).1 (val 38).1 (val 39).1 (val 40).1 (val 41).1 := h _ (List.mem_of_getElem? (i := 1) rfl) rfl
  have p2 : (val 2).1 = (val 4).1 + (-1) := h _ (List.mem_of_getElem? (i := 2) rfl)
  have p3 : 1 ≤ (val 0).1 ∧ (val 0).1 ≤ 1 := h _ (List.mem_of_getElem? (i := 3) rfl)
  have p4 : 1 ≤ (val 4).1 ∧ (val 4).1 ≤ 90 := h _ (List.mem_of_getElem? (i := 4) rfl)
  show (val 0).1 ≤ (val 1).1
  rw [show (val 2).1.toNat = ((val 4).1 - 1).toNat by omega] at p0
  have e := rv_pi_top p1 (by omega)
  have h1 : (val 4).1 = 1 ∨ 2 ≤ (val 4).1 := by omega
  rcases h1 with z | z
  · have := e.1 z; omega
  · have := e.2 z; omega
theorem ru_en11_1 : rv_RlOk (2, [0, 1], [(5, [0, 2, 3], Int.ofNat 0, Int.ofNat 0), (76, [30, 31, 32, 3, 34, 4, 36, 37, 38, 39, 40, 41], Int.ofNat 0, Int.ofNat 0), (1001, [2, 4], Int.negSucc 0, Int.ofNat 0), (1000, [1], Int.ofNat 8, Int.ofNat 8), (1000, [4], Int.ofNat 1, Int.ofNat 90)]) := by
  intro val h
  have p0 : (val 0).1 = (val 3).2 (val 2).1.toNat := h _ (List.mem_of_getElem? (i := 0) rfl)
  have p1 : rv_PI 1 0 1 (val 30).2 (val 31).1 (val 32).1 (val 3).2 (val 34).2 (val 4).1 (val 36).1 (val 37).1 (val 38).1 (val 39).1 (val 40).1 (val 41).1 := h _ (List.mem_of_getElem? (i := 1) rfl) rfl
  have p2 : (val 2).1 = (val 4).1 + (-1) := h _ (List.mem_of_getElem? (i := 2) rfl)
  have p3 : 8 ≤ (val 1).1 ∧ (val 1).1 ≤ 8 := h _ (List.mem_of_getElem? (i := 3) rfl)
  have p4 : 1 ≤ (val 4).1 ∧ (val 4).1 ≤ 90 := h _ (List.mem_of_getElem? (i := 4) rfl)
  show (val 0).1 ≤ (val 1).1
  rw [show (val 2).1.toNat = ((val 4).1 - 1).toNat by omega] at p0
  have e := rv_pi_top p1 (by omega)
  have h1 : (val 4).1 = 1 ∨ 2 ≤ (val 4).1 := by omega
  rcases h1 with z | z
  · have := e.1 z; omega
  · have := e.2 z; omega
def rl_en11 : List rv_Rl := [(2, [0, 1], [(5, [1, 2, 3], Int.ofNat 0, Int.ofNat 0), (76, [30, 31, 32, 3, 34, 4, 36, 37, 38, 39, 40, 41], Int.ofNat 0, Int.ofNat 0), (1001, [2, 4], Int.negSucc 0, Int.ofNat 0), (1000, [0], Int.ofNat 1, Int.ofNat 1), (1000, [4], Int.ofNat 1, Int.ofNat 90)]), (2, [0, 1], [(5, [0, 2, 3], Int.ofNat 0, Int.ofNat 0), (76, [30, 31, 32, 3, 34, 4, 36, 37, 38, 39, 40, 41], Int.ofNat 0, Int.ofNat 0), (1001, [2, 4], Int.negSucc 0, Int.ofNat 0), (1000, [1], Int.ofNat 8, Int.ofNat 8), (1000, [4], Int.ofNat 1, Int.ofNat 90)])]
theorem rlo_en11 : ∀ r ∈ rl_en11, rv_RlOk r := List.forall_mem_cons.mpr ⟨ru_en11_0, List.forall_mem_cons.mpr ⟨ru_en11_1, fun _ h => absurd h List.not_mem_nil⟩⟩
theorem ru_full_0 : rv_RlOk (67, [0, 1], [(1000, [1], Int.ofNat 0, Int.ofNat 6)]) := by
  intro val h
  have p0 : 0 ≤ (val 1).1 ∧ (val 1).1 ≤ 6 := h _ (List.mem_of_getElem? (i := 0) rfl)
  intro _
  show (val 0).1 = 123581014175598 → (val 1).1 ≤ 6
  intro _
  omega
theorem ru_full_1 : rv_RlOk (67, [0, 1], [(1000, [0], Int.ofNat 7561593, Int.ofNat 7561593)]) := by
  intro val h
  have p0 : 7561593 ≤ (val 0).1 ∧ (val 0).1 ≤ 7561593 := h _ (List.mem_of_getElem? (i := 0) rfl)
  intro _
  show (val 0).1 = 123581014175598 → (val 1).1 ≤ 6
  intro z
  omega
theorem ru_full_2 : rv_RlOk (67, [0, 1], [(69, [2, 0, 3], Int.ofNat 0, Int.ofNat 0), (1000, [2], Int.ofNat 3, Int.ofNat 3), (1000, [3], Int.ofNat 123581014175598, Int.ofNat 123581014175598)]) := by
  intro val h
  have p0 : (val 2).1 = 3 → ¬ (val 0).1 = (val 3).1 := h _ (List.mem_of_getElem? (i := 0) rfl) rfl
  have p1 : 3 ≤ (val 2).1 ∧ (val 2).1 ≤ 3 := h _ (List.mem_of_getElem? (i := 1) rfl)
  have p2 : 123581014175598 ≤ (val 3).1 ∧ (val 3).1 ≤ 123581014175598 := h _ (List.mem_of_getElem? (i := 2) rfl)
  intro _
  show (val 0).1 = 123581014175598 → (val 1).1 ≤ 6
  intro z
  exact absurd (by omega) (p0 (by omega))
theorem ru_full_3 : rv_RlOk (68, [0, 1], [(1000, [1], Int.ofNat 0, Int.ofNat 11)]) := by
  intro val h
  have p0 : 0 ≤ (val 1).1 ∧ (val 1).1 ≤ 11 := h _ (List.mem_of_getElem? (i := 0) rfl)
  intro _
  show (val 0).1 = 7561593 → (val 1).1 ≤ 11
  intro _
  omega
theorem ru_full_4 : rv_RlOk (68, [0, 1], [(1000, [0], Int.ofNat 123581014175598, Int.ofNat 123581014175598)]) := by
  intro val h
  have p0 : 123581014175598 ≤ (val 0).1 ∧ (val 0).1 ≤ 123581014175598 := h _ (List.mem_of_getElem? (i := 0) rfl)
  intro _
  show (val 0).1 = 7561593 → (val 1).1 ≤ 11
  intro z
  omega
theorem ru_full_5 : rv_RlOk (68, [0, 1], [(69, [2, 0, 3], Int.ofNat 0, Int.ofNat 0), (1000, [2], Int.ofNat 3, Int.ofNat 3), (1000, [3], Int.ofNat 7561593, Int.ofNat 7561593)]) := by
  intro val h
  have p0 : (val 2).1 = 3 → ¬ (val 0).1 = (val 3).1 := h _ (List.mem_of_getElem? (i := 0) rfl) rfl
  have p1 : 3 ≤ (val 2).1 ∧ (val 2).1 ≤ 3 := h _ (List.mem_of_getElem? (i := 1) rfl)
  have p2 : 7561593 ≤ (val 3).1 ∧ (val 3).1 ≤ 7561593 := h _ (List.mem_of_getElem? (i := 2) rfl)
  intro _
  show (val 0).1 = 7561593 → (val 1).1 ≤ 11
  intro z
  exact absurd (by omega) (p0 (by omega))
def rl_full : List rv_Rl := [(67, [0, 1], [(1000, [1], Int.ofNat 0, Int.ofNat 6)]), (67, [0, 1], [(1000, [0], Int.ofNat 7561593, Int.ofNat 7561593)]), (67, [0, 1], [(69, [2, 0, 3], Int.ofNat 0, Int.ofNat 0), (1000, [2], Int.ofNat 3, Int.ofNat 3), (1000, [3], Int.ofNat 123581014175598, Int.ofNat 123581014175598)]), (68, [0, 1], [(1000, [1], Int.ofNat 0, Int.ofNat 11)]), (68, [0, 1], [(1000, [0], Int.ofNat 123581014175598, Int.ofNat 123581014175598)]), (68, [0, 1], [(69, [2, 0, 3], Int.ofNat 0, Int.ofNat 0), (1000, [2], Int.ofNat 3, Int.ofNat 3), (1000, [3], Int.ofNat 7561593, Int.ofNat 7561593)])]
theorem rlo_full : ∀ r ∈ rl_full, rv_RlOk r := List.forall_mem_cons.mpr ⟨ru_full_0, List.forall_mem_cons.mpr ⟨ru_full_1, List.forall_mem_cons.mpr ⟨ru_full_2, List.forall_mem_cons.mpr ⟨ru_full_3, List.forall_mem_cons.mpr ⟨ru_full_4, List.forall_mem_cons.mpr ⟨ru_full_5, fun _ h => absurd h List.not_mem_nil⟩⟩⟩⟩⟩⟩
theorem ru_half_0 : rv_RlOk (2, [0, 1], [(13, [0, 2, 3], Int.ofNat 0, Int.ofNat 0), (1000, [2], Int.ofNat 0, Int.ofNat 255), (1000, [3], Int.ofNat 2, Int.ofNat 2), (1000, [1], Int.ofNat 127, Int.ofNat 127)]) := by
  intro val h
  have p0 : (val 0).1 = (rv_f 3 (Int32.ofInt (val 2).1) (Int32.ofInt (val 3).1)).toInt := h _ (List.mem_of_getElem? (i := 0) rfl)
  have p1 : 0 ≤ (val 2).1 ∧ (val 2).1 ≤ 255 := h _ (List.mem_of_getElem? (i := 1) rfl)
  have p2 : 2 ≤ (val 3).1 ∧ (val 3).1 ≤ 2 := h _ (List.mem_of_getElem? (i := 2) rfl)
  have p3 : 127 ≤ (val 1).1 ∧ (val 1).1 ≤ 127 := h _ (List.mem_of_getElem? (i := 3) rfl)
  show (val 0).1 ≤ (val 1).1
  rw [show (val 3).1 = 2 by omega] at p0
  have e := rv_div2 (x := (val 2).1) (by omega) (by omega)
  omega
def rl_half : List rv_Rl := [(2, [0, 1], [(13, [0, 2, 3], Int.ofNat 0, Int.ofNat 0), (1000, [2], Int.ofNat 0, Int.ofNat 255), (1000, [3], Int.ofNat 2, Int.ofNat 2), (1000, [1], Int.ofNat 127, Int.ofNat 127)])]
theorem rlo_half : ∀ r ∈ rl_half, rv_RlOk r := List.forall_mem_cons.mpr ⟨ru_half_0, fun _ h => absurd h List.not_mem_nil⟩
theorem ru_has_0 : rv_RlOk (46, [0, 1], [(19, [2, 0, 1], Int.ofNat 0, Int.ofNat 0), (15, [3, 2, 4], Int.ofNat 0, Int.ofNat 0), (1000, [4], Int.ofNat 1, Int.ofNat 1), (1000, [3], Int.ofNat 1, Int.ofNat 1)]) := by
  intro val h
  have p0 : (val 2).1 = (rv_f 9 (Int32.ofInt (val 0).1) (Int32.ofInt (val 1).1)).toInt := h _ (List.mem_of_getElem? (i := 0) rfl)
  have p1 : (val 3).1 = (rv_f 5 (Int32.ofInt (val 2).1) (Int32.ofInt (val 4).1)).toInt := h _ (List.mem_of_getElem? (i := 1) rfl)
  have p2 : 1 ≤ (val 4).1 ∧ (val 4).1 ≤ 1 := h _ (List.mem_of_getElem? (i := 2) rfl)
  have p3 : 1 ≤ (val 3).1 ∧ (val 3).1 ≤ 1 := h _ (List.mem_of_getElem? (i := 3) rfl)
  intro _
  show rv_bit (val 0).1 (val 1).1
  unfold rv_bit
  have e1 : Int32.ofInt (val 2).1 = rv_f 9 (Int32.ofInt (val 0).1) (Int32.ofInt (val 1).1) := by rw [p0, Int32.ofInt_toInt]
  rw [← e1, show (1 : Int32) = Int32.ofInt (val 4).1 by rw [show (val 4).1 = 1 by omega]; rfl, ← p1]
  omega
def rl_has : List rv_Rl := [(46, [0, 1], [(19, [2, 0, 1], Int.ofNat 0, Int.ofNat 0), (15, [3, 2, 4], Int.ofNat 0, Int.ofNat 0), (1000, [4], Int.ofNat 1, Int.ofNat 1), (1000, [3], Int.ofNat 1, Int.ofNat 1)])]
theorem rlo_has : ∀ r ∈ rl_has, rv_RlOk r := List.forall_mem_cons.mpr ⟨ru_has_0, fun _ h => absurd h List.not_mem_nil⟩
theorem ru_later_0 : rv_RlOk (58, [0, 1, 2, 3], [(1000, [0], Int.negSucc 0, Int.negSucc 0), (1001, [3, 1], Int.ofNat 0, Int.ofNat 0), (1000, [2], Int.negSucc 2147483647, Int.negSucc 0)]) := by
  intro val h
  have p0 : (-1) ≤ (val 0).1 ∧ (val 0).1 ≤ (-1) := h _ (List.mem_of_getElem? (i := 0) rfl)
  have p1 : (val 3).1 = (val 1).1 + 0 := h _ (List.mem_of_getElem? (i := 1) rfl)
  have p2 : (-2147483648) ≤ (val 2).1 ∧ (val 2).1 ≤ (-1) := h _ (List.mem_of_getElem? (i := 2) rfl)
  intro _
  show rv_lt (val 0).1 (val 1).1 (val 2).1 (val 3).1
  unfold rv_lt
  omega
theorem ru_later_1 : rv_RlOk (58, [0, 1, 2, 3], [(1000, [0], Int.negSucc 0, Int.negSucc 0), (1001, [3, 1], Int.ofNat 0, Int.ofNat 0), (1000, [2], Int.ofNat 1001, Int.ofNat 2147483647)]) := by
  intro val h
  have p0 : (-1) ≤ (val 0).1 ∧ (val 0).1 ≤ (-1) := h _ (List.mem_of_getElem? (i := 0) rfl)
  have p1 : (val 3).1 = (val 1).1 + 0 := h _ (List.mem_of_getElem? (i := 1) rfl)
  have p2 : 1001 ≤ (val 2).1 ∧ (val 2).1 ≤ 2147483647 := h _ (List.mem_of_getElem? (i := 2) rfl)
  intro _
  show rv_lt (val 0).1 (val 1).1 (val 2).1 (val 3).1
  unfold rv_lt
  omega
theorem ru_later_2 : rv_RlOk (58, [0, 1, 2, 3], [(1000, [0], Int.negSucc 0, Int.negSucc 0), (1001, [3, 1], Int.ofNat 0, Int.ofNat 0), (10, [4, 1, 2], Int.ofNat 0, Int.ofNat 0), (1, [5, 4], Int.ofNat 0, Int.ofNat 0), (1000, [5], Int.ofNat 100000, Int.ofNat 100000), (1000, [1], Int.ofNat 0, Int.ofNat 100000), (1000, [2], Int.ofNat 0, Int.ofNat 1000)]) := by
  intro val h
  have p0 : (-1) ≤ (val 0).1 ∧ (val 0).1 ≤ (-1) := h _ (List.mem_of_getElem? (i := 0) rfl)
  have p1 : (val 3).1 = (val 1).1 + 0 := h _ (List.mem_of_getElem? (i := 1) rfl)
  have p2 : (val 4).1 = (rv_f 0 (Int32.ofInt (val 1).1) (Int32.ofInt (val 2).1)).toInt := h _ (List.mem_of_getElem? (i := 2) rfl)
  have p3 : (val 5).1 < (val 4).1 := h _ (List.mem_of_getElem? (i := 3) rfl)
  have p4 : 100000 ≤ (val 5).1 ∧ (val 5).1 ≤ 100000 := h _ (List.mem_of_getElem? (i := 4) rfl)
  have p5 : 0 ≤ (val 1).1 ∧ (val 1).1 ≤ 100000 := h _ (List.mem_of_getElem? (i := 5) rfl)
  have p6 : 0 ≤ (val 2).1 ∧ (val 2).1 ≤ 1000 := h _ (List.mem_of_getElem? (i := 6) rfl)
  intro _
  show rv_lt (val 0).1 (val 1).1 (val 2).1 (val 3).1
  have e : ∀ x y : Int, 0 ≤ x → x ≤ 100000 → 0 ≤ y → y ≤ 1000 → (rv_f 0 (Int32.ofInt x) (Int32.ofInt y)).toInt = x + y := by
    intro x y h1 h2 h3 h4
    show (Int32.ofInt x + Int32.ofInt y).toInt = _
    rw [Int32.toInt_add, rv_of32 (by rw [rv_lo_eq]; omega) (by rw [rv_hi_eq]; omega), rv_of32 (by rw [rv_lo_eq]; omega) (by rw [rv_hi_eq]; omega), rv_bmod (by omega) (by omega)]
  rw [e _ _ p5.1 p5.2 p6.1 p6.2] at p2
  unfold rv_lt
  omega
theorem ru_later_3 : rv_RlOk (58, [0, 1, 2, 3], [(10, [0, 1, 2], Int.ofNat 0, Int.ofNat 0), (1001, [3, 0], Int.ofNat 0, Int.ofNat 0), (10, [4, 1, 2], Int.ofNat 0, Int.ofNat 0), (2, [4, 5], Int.ofNat 0, Int.ofNat 0), (1000, [5], Int.ofNat 100000, Int.ofNat 100000), (1000, [1], Int.ofNat 0, Int.ofNat 100000), (1000, [2], Int.ofNat 0, Int.ofNat 1000)]) := by
  intro val h
  have p0 : (val 0).1 = (rv_f 0 (Int32.ofInt (val 1).1) (Int32.ofInt (val 2).1)).toInt := h _ (List.mem_of_getElem? (i := 0) rfl)
  have p1 : (val 3).1 = (val 0).1 + 0 := h _ (List.mem_of_getElem? (i := 1) rfl)
  have p2 : (val 4).1 = (rv_f 0 (Int32.ofInt (val 1).1) (Int32.ofInt (val 2).1)).toInt := h _ (List.mem_of_getElem? (i := 2) rfl)
  have p3 : (val 4).1 ≤ (val 5).1 := h _ (List.mem_of_getElem? (i := 3) rfl)
  have p4 : 100000 ≤ (val 5).1 ∧ (val 5).1 ≤ 100000 := h _ (List.mem_of_getElem? (i := 4) rfl)
  have p5 : 0 ≤ (val 1).1 ∧ (val 1).1 ≤ 100000 := h _ (List.mem_of_getElem? (i := 5) rfl)
  have p6 : 0 ≤ (val 2).1 ∧ (val 2).1 ≤ 1000 := h _ (List.mem_of_getElem? (i := 6) rfl)
  intro _
  show rv_lt (val 0).1 (val 1).1 (val 2).1 (val 3).1
  have e : ∀ x y : Int, 0 ≤ x → x ≤ 100000 → 0 ≤ y → y ≤ 1000 → (rv_f 0 (Int32.ofInt x) (Int32.ofInt y)).toInt = x + y := by
    intro x y h1 h2 h3 h4
    show (Int32.ofInt x + Int32.ofInt y).toInt = _
    rw [Int32.toInt_add, rv_of32 (by rw [rv_lo_eq]; omega) (by rw [rv_hi_eq]; omega), rv_of32 (by rw [rv_lo_eq]; omega) (by rw [rv_hi_eq]; omega), rv_bmod (by omega) (by omega)]
  rw [e _ _ p5.1 p5.2 p6.1 p6.2] at p0 p2
  unfold rv_lt
  omega
theorem ru_later_4 : rv_RlOk (2, [0, 1], [(10, [0, 2, 3], Int.ofNat 0, Int.ofNat 0), (10, [4, 2, 3], Int.ofNat 0, Int.ofNat 0), (2, [4, 5], Int.ofNat 0, Int.ofNat 0), (2, [5, 1], Int.ofNat 0, Int.ofNat 0)]) := by
  intro val h
  have p0 : (val 0).1 = (rv_f 0 (Int32.ofInt (val 2).1) (Int32.ofInt (val 3).1)).toInt := h _ (List.mem_of_getElem? (i := 0) rfl)
  have p1 : (val 4).1 = (rv_f 0 (Int32.ofInt (val 2).1) (Int32.ofInt (val 3).1)).toInt := h _ (List.mem_of_getElem? (i := 1) rfl)
  have p2 : (val 4).1 ≤ (val 5).1 := h _ (List.mem_of_getElem? (i := 2) rfl)
  have p3 : (val 5).1 ≤ (val 1).1 := h _ (List.mem_of_getElem? (i := 3) rfl)
  show (val 0).1 ≤ (val 1).1
  omega
def rl_later : List rv_Rl := [(58, [0, 1, 2, 3], [(1000, [0], Int.negSucc 0, Int.negSucc 0), (1001, [3, 1], Int.ofNat 0, Int.ofNat 0), (1000, [2], Int.negSucc 2147483647, Int.negSucc 0)]), (58, [0, 1, 2, 3], [(1000, [0], Int.negSucc 0, Int.negSucc 0), (1001, [3, 1], Int.ofNat 0, Int.ofNat 0), (1000, [2], Int.ofNat 1001, Int.ofNat 2147483647)]), (58, [0, 1, 2, 3], [(1000, [0], Int.negSucc 0, Int.negSucc 0), (1001, [3, 1], Int.ofNat 0, Int.ofNat 0), (10, [4, 1, 2], Int.ofNat 0, Int.ofNat 0), (1, [5, 4], Int.ofNat 0, Int.ofNat 0), (1000, [5], Int.ofNat 100000, Int.ofNat 100000), (1000, [1], Int.ofNat 0, Int.ofNat 100000), (1000, [2], Int.ofNat 0, Int.ofNat 1000)]), (58, [0, 1, 2, 3], [(10, [0, 1, 2], Int.ofNat 0, Int.ofNat 0), (1001, [3, 0], Int.ofNat 0, Int.ofNat 0), (10, [4, 1, 2], Int.ofNat 0, Int.ofNat 0), (2, [4, 5], Int.ofNat 0, Int.ofNat 0), (1000, [5], Int.ofNat 100000, Int.ofNat 100000), (1000, [1], Int.ofNat 0, Int.ofNat 100000), (1000, [2], Int.ofNat 0, Int.ofNat 1000)]), (2, [0, 1], [(10, [0, 2, 3], Int.ofNat 0, Int.ofNat 0), (10, [4, 2, 3], Int.ofNat 0, Int.ofNat 0), (2, [4, 5], Int.ofNat 0, Int.ofNat 0), (2, [5, 1], Int.ofNat 0, Int.ofNat 0)])]
theorem rlo_later : ∀ r ∈ rl_later, rv_RlOk r := List.forall_mem_cons.mpr ⟨ru_later_0, List.forall_mem_cons.mpr ⟨ru_later_1, List.forall_mem_cons.mpr ⟨ru_later_2, List.forall_mem_cons.mpr ⟨ru_later_3, List.forall_mem_cons.mpr ⟨ru_later_4, fun _ h => absurd h List.not_mem_nil⟩⟩⟩⟩⟩
theorem ru_le_0 : rv_RlOk (2, [0, 1], [(2, [2, 3], Int.ofNat 0, Int.ofNat 0), (1001, [0, 2], Int.ofNat 0, Int.ofNat 0), (2, [3, 1], Int.ofNat 0, Int.ofNat 0)]) := by
  intro val h
  have p0 : (val 2).1 ≤ (val 3).1 := h _ (List.mem_of_getElem? (i := 0) rfl)
  have p1 : (val 0).1 = (val 2).1 + 0 := h _ (List.mem_of_getElem? (i := 1) rfl)
  have p2 : (val 3).1 ≤ (val 1).1 := h _ (List.mem_of_getElem? (i := 2) rfl)
  show (val 0).1 ≤ (val 1).1
  omega
theorem ru_le_1 : rv_RlOk (2, [0, 1], [(2, [2, 3], Int.ofNat 0, Int.ofNat 0), (1001, [1, 3], Int.ofNat 0, Int.ofNat 0), (2, [0, 2], Int.ofNat 0, Int.ofNat 0)]) := by
  intro val h
  have p0 : (val 2).1 ≤ (val 3).1 := h _ (List.mem_of_getElem? (i := 0) rfl)
  have p1 : (val 1).1 = (val 3).1 + 0 := h _ (List.mem_of_getElem? (i := 1) rfl)
  have p2 : (val 0).1 ≤ (val 2).1 := h _ (List.mem_of_getElem? (i := 2) rfl)
  show (val 0).1 ≤ (val 1).1
  omega
def rl_le : List rv_Rl := [(2, [0, 1], [(2, [2, 3], Int.ofNat 0, Int.ofNat 0), (1001, [0, 2], Int.ofNat 0, Int.ofNat 0), (2, [3, 1], Int.ofNat 0, Int.ofNat 0)]), (2, [0, 1], [(2, [2, 3], Int.ofNat 0, Int.ofNat 0), (1001, [1, 3], Int.ofNat 0, Int.ofNat 0), (2, [0, 2], Int.ofNat 0, Int.ofNat 0)])]
theorem rlo_le : ∀ r ∈ rl_le, rv_RlOk r := List.forall_mem_cons.mpr ⟨ru_le_0, List.forall_mem_cons.mpr ⟨ru_le_1, fun _ h => absurd h List.not_mem_nil⟩⟩
theorem ru_let_0 : rv_RlOk (48, [0], [(1000, [0], Int.negSucc 2147483647, Int.ofNat 96)]) := by
  intro val h
  have p0 : (-2147483648) ≤ (val 0).1 ∧ (val 0).1 ≤ 96 := h _ (List.mem_of_getElem? (i := 0) rfl)
  intro _
  show ¬ (97 ≤ (val 0).1 ∧ (val 0).1 ≤ 122)
  omega
theorem ru_let_1 : rv_RlOk (48, [0], [(1000, [0], Int.ofNat 123, Int.ofNat 2147483647)]) := by
  intro val h
  have p0 : 123 ≤ (val 0).1 ∧ (val 0).1 ≤ 2147483647 := h _ (List.mem_of_getElem? (i := 0) rfl)
  intro _
  show ¬ (97 ≤ (val 0).1 ∧ (val 0).1 ≤ 122)
  omega
def rl_let : List rv_Rl := [(48, [0], [(1000, [0], Int.negSucc 2147483647, Int.ofNat 96)]), (48, [0], [(1000, [0], Int.ofNat 123, Int.ofNat 2147483647)])]
theorem rlo_let : ∀ r ∈ rl_let, rv_RlOk r := List.forall_mem_cons.mpr ⟨ru_let_0, List.forall_mem_cons.mpr ⟨ru_let_1, fun _ h => absurd h List.not_mem_nil⟩⟩
theorem ru_line_0 : rv_RlOk (2, [0, 1], [(67, [2, 0], Int.ofNat 0, Int.ofNat 0), (1000, [2], Int.ofNat 123581014175598, Int.ofNat 123581014175598), (1000, [1], Int.ofNat 6, Int.ofNat 6)]) := by
  intro val h
  have p0 : (val 2).1 = 123581014175598 → (val 0).1 ≤ 6 := h _ (List.mem_of_getElem? (i := 0) rfl) rfl
  have p1 : 123581014175598 ≤ (val 2).1 ∧ (val 2).1 ≤ 123581014175598 := h _ (List.mem_of_getElem? (i := 1) rfl)
  have p2 : 6 ≤ (val 1).1 ∧ (val 1).1 ≤ 6 := h _ (List.mem_of_getElem? (i := 2) rfl)
  show (val 0).1 ≤ (val 1).1
  omega
theorem ru_line_1 : rv_RlOk (2, [0, 1], [(68, [2, 0], Int.ofNat 0, Int.ofNat 0), (1000, [2], Int.ofNat 7561593, Int.ofNat 7561593), (1000, [1], Int.ofNat 11, Int.ofNat 11)]) := by
  intro val h
  have p0 : (val 2).1 = 7561593 → (val 0).1 ≤ 11 := h _ (List.mem_of_getElem? (i := 0) rfl) rfl
  have p1 : 7561593 ≤ (val 2).1 ∧ (val 2).1 ≤ 7561593 := h _ (List.mem_of_getElem? (i := 1) rfl)
  have p2 : 11 ≤ (val 1).1 ∧ (val 1).1 ≤ 11 := h _ (List.mem_of_getElem? (i := 2) rfl)
  show (val 0).1 ≤ (val 1).1
  omega
def rl_line : List rv_Rl := [(2, [0, 1], [(67, [2, 0], Int.ofNat 0, Int.ofNat 0), (1000, [2], Int.ofNat 123581014175598, Int.ofNat 123581014175598), (1000, [1], Int.ofNat 6, Int.ofNat 6)]), (2, [0, 1], [(68, [2, 0], Int.ofNat 0, Int.ofNat 0), (1000, [2], Int.ofNat 7561593, Int.ofNat 7561593), (1000, [1], Int.ofNat 11, Int.ofNat 11)])]
theorem rlo_line : ∀ r ∈ rl_line, rv_RlOk r := List.forall_mem_cons.mpr ⟨ru_line_0, List.forall_mem_cons.mpr ⟨ru_line_1, fun _ h => absurd h List.not_mem_nil⟩⟩
theorem ru_mod_0 : rv_RlOk (1, [0, 1], [(14, [0, 2, 1], Int.ofNat 0, Int.ofNat 0), (1000, [2], Int.ofNat 0, Int.ofNat 2147483647), (1000, [1], Int.ofNat 1, Int.ofNat 2147483647)]) := by
  intro val h
  have p0 : (val 0).1 = (rv_f 4 (Int32.ofInt (val 2).1) (Int32.ofInt (val 1).1)).toInt := h _ (List.mem_of_getElem? (i := 0) rfl)
  have p1 : 0 ≤ (val 2).1 ∧ (val 2).1 ≤ 2147483647 := h _ (List.mem_of_getElem? (i := 1) rfl)
  have p2 : 1 ≤ (val 1).1 ∧ (val 1).1 ≤ 2147483647 := h _ (List.mem_of_getElem? (i := 2) rfl)
  show (val 0).1 < (val 1).1
  have e := rv_rem (x := (val 2).1) (y := (val 1).1) (by omega) (by omega) (by omega) (by omega)
  omega
def rl_mod : List rv_Rl := [(1, [0, 1], [(14, [0, 2, 1], Int.ofNat 0, Int.ofNat 0), (1000, [2], Int.ofNat 0, Int.ofNat 2147483647), (1000, [1], Int.ofNat 1, Int.ofNat 2147483647)])]
theorem rlo_mod : ∀ r ∈ rl_mod, rv_RlOk r := List.forall_mem_cons.mpr ⟨ru_mod_0, fun _ h => absurd h List.not_mem_nil⟩
theorem ru_nc0_0 : rv_RlOk (53, [0, 1, 2, 3, 4, 5, 6, 7], [(1000, [0], Int.ofNat 0, Int.ofNat 0), (1000, [6], Int.ofNat 0, Int.ofNat 0), (1000, [7], Int.ofNat 0, Int.ofNat 0)]) := by
  intro val h
  have p0 : 0 ≤ (val 0).1 ∧ (val 0).1 ≤ 0 := h _ (List.mem_of_getElem? (i := 0) rfl)
  have p1 : 0 ≤ (val 6).1 ∧ (val 6).1 ≤ 0 := h _ (List.mem_of_getElem? (i := 1) rfl)
  have p2 : 0 ≤ (val 7).1 ∧ (val 7).1 ≤ 0 := h _ (List.mem_of_getElem? (i := 2) rfl)
  intro _
  show rv_NC 0 (val 0).1 (val 1).2 (val 2).1 (val 3).1 (val 4).1 (val 5).1 (val 6).1 (val 7).1
  exact ⟨fun z => absurd z (rv_bit_0 _ (by omega) (Or.inl rfl)), fun z => absurd z (rv_bit_0 _ (by omega) (Or.inr rfl)), by omega, by omega, by omega⟩
def rl_nc0 : List rv_Rl := [(53, [0, 1, 2, 3, 4, 5, 6, 7], [(1000, [0], Int.ofNat 0, Int.ofNat 0), (1000, [6], Int.ofNat 0, Int.ofNat 0), (1000, [7], Int.ofNat 0, Int.ofNat 0)])]
theorem rlo_nc0 : ∀ r ∈ rl_nc0, rv_RlOk r := List.forall_mem_cons.mpr ⟨ru_nc0_0, fun _ h => absurd h List.not_mem_nil⟩
theorem ru_nc1_0 : rv_RlOk (54, [0, 1, 2, 3, 4, 5, 6, 7], [(1000, [0], Int.ofNat 0, Int.ofNat 0), (1000, [6], Int.ofNat 560, Int.ofNat 560), (1000, [7], Int.ofNat 0, Int.ofNat 0)]) := by
  intro val h
  have p0 : 0 ≤ (val 0).1 ∧ (val 0).1 ≤ 0 := h _ (List.mem_of_getElem? (i := 0) rfl)
  have p1 : 560 ≤ (val 6).1 ∧ (val 6).1 ≤ 560 := h _ (List.mem_of_getElem? (i := 1) rfl)
  have p2 : 0 ≤ (val 7).1 ∧ (val 7).1 ≤ 0 := h _ (List.mem_of_getElem? (i := 2) rfl)
  intro _
  show rv_NC 1 (val 0).1 (val 1).2 (val 2).1 (val 3).1 (val 4).1 (val 5).1 (val 6).1 (val 7).1
  exact ⟨fun z => absurd z (rv_bit_0 _ (by omega) (Or.inl rfl)), fun z => absurd z (rv_bit_0 _ (by omega) (Or.inr rfl)), by omega, by omega, by omega⟩
def rl_nc1 : List rv_Rl := [(54, [0, 1, 2, 3, 4, 5, 6, 7], [(1000, [0], Int.ofNat 0, Int.ofNat 0), (1000, [6], Int.ofNat 560, Int.ofNat 560), (1000, [7], Int.ofNat 0, Int.ofNat 0)])]
theorem rlo_nc1 : ∀ r ∈ rl_nc1, rv_RlOk r := List.forall_mem_cons.mpr ⟨ru_nc1_0, fun _ h => absurd h List.not_mem_nil⟩
theorem ru_ncend0_0 : rv_RlOk (42, [0, 1, 2, 3, 4, 5], [(53, [0, 1, 2, 3, 4, 5, 6, 7], Int.ofNat 0, Int.ofNat 0)]) := by
  intro val h
  have p0 : rv_NC 0 (val 0).1 (val 1).2 (val 2).1 (val 3).1 (val 4).1 (val 5).1 (val 6).1 (val 7).1 := h _ (List.mem_of_getElem? (i := 0) rfl) rfl
  intro _
  show rv_RU 0 (val 0).1 (val 1).2 (val 2).1 (val 3).1 (val 4).1 (val 5).1
  obtain ⟨a1, a2, a3, a4, a5⟩ := p0
  exact ⟨fun z => ⟨(a1 z).1, by have := (a1 z).2.1; omega, (a1 z).2.2⟩, fun z => ⟨(a2 z).1, by have := (a2 z).2.1; omega, (a2 z).2.2⟩⟩
def rl_ncend0 : List rv_Rl := [(42, [0, 1, 2, 3, 4, 5], [(53, [0, 1, 2, 3, 4, 5, 6, 7], Int.ofNat 0, Int.ofNat 0)])]
theorem rlo_ncend0 : ∀ r ∈ rl_ncend0, rv_RlOk r := List.forall_mem_cons.mpr ⟨ru_ncend0_0, fun _ h => absurd h List.not_mem_nil⟩
theorem ru_ncend1_0 : rv_RlOk (43, [0, 1, 2, 3, 4, 5], [(54, [0, 1, 2, 3, 4, 5, 6, 7], Int.ofNat 0, Int.ofNat 0)]) := by
  intro val h
  have p0 : rv_NC 1 (val 0).1 (val 1).2 (val 2).1 (val 3).1 (val 4).1 (val 5).1 (val 6).1 (val 7).1 := h _ (List.mem_of_getElem? (i := 0) rfl) rfl
  intro _
  show rv_RU 1 (val 0).1 (val 1).2 (val 2).1 (val 3).1 (val 4).1 (val 5).1
  obtain ⟨a1, a2, a3, a4, a5⟩ := p0
  exact ⟨fun z => ⟨(a1 z).1, by have := (a1 z).2.1; omega, (a1 z).2.2⟩, fun z => ⟨(a2 z).1, by have := (a2 z).2.1; omega, (a2 z).2.2⟩⟩
def rl_ncend1 : List rv_Rl := [(43, [0, 1, 2, 3, 4, 5], [(54, [0, 1, 2, 3, 4, 5, 6, 7], Int.ofNat 0, Int.ofNat 0)])]
theorem rlo_ncend1 : ∀ r ∈ rl_ncend1, rv_RlOk r := List.forall_mem_cons.mpr ⟨ru_ncend1_0, fun _ h => absurd h List.not_mem_nil⟩
theorem ru_ne00_0 : rv_RlOk (53, [9, 0, 1, 2, 10, 11, 2, 8], [(70, [0, 1, 2, 3, 4, 5, 6, 7, 8, 9, 10, 11], Int.ofNat 0, Int.ofNat 0), (1000, [5], Int.ofNat 0, Int.ofNat 0)]) := by
  intro val h
  have p0 : rv_PI 0 1 1 (val 0).2 (val 1).1 (val 2).1 (val 3).2 (val 4).2 (val 5).1 (val 6).1 (val 7).1 (val 8).1 (val 9).1 (val 10).1 (val 11).1 := h _ (List.mem_of_getElem? (i := 0) rfl) rfl
  have p1 : 0 ≤ (val 5).1 ∧ (val 5).1 ≤ 0 := h _ (List.mem_of_getElem? (i := 1) rfl)
  intro _
  show rv_NC 0 (val 9).1 (val 0).2 (val 1).1 (val 2).1 (val 10).1 (val 11).1 (val 2).1 (val 8).1
  have b2 := rv_cn_nn rv_isB (val 3).2 (val 5).1.toNat
  have b3 := rv_cn_nn rv_isN (val 3).2 (val 5).1.toNat
  obtain ⟨a1, a2, a3, a4, a5, a6, a7, a8, a9, a10, a11, a12, a13⟩ := p0
  exact ⟨fun _ => ⟨a2, Int.le_refl _, a4⟩, fun z => ⟨(a13 z).1, by have := (a13 z).2.1; omega, (a13 z).2.2⟩, by omega, by omega, a12⟩
def rl_ne00 : List rv_Rl := [(53, [9, 0, 1, 2, 10, 11, 2, 8], [(70, [0, 1, 2, 3, 4, 5, 6, 7, 8, 9, 10, 11], Int.ofNat 0, Int.ofNat 0), (1000, [5], Int.ofNat 0, Int.ofNat 0)])]
theorem rlo_ne00 : ∀ r ∈ rl_ne00, rv_RlOk r := List.forall_mem_cons.mpr ⟨ru_ne00_0, fun _ h => absurd h List.not_mem_nil⟩
theorem ru_ne01_0 : rv_RlOk (53, [9, 0, 10, 11, 1, 2, 2, 8], [(72, [0, 1, 2, 3, 4, 5, 6, 7, 8, 9, 10, 11], Int.ofNat 0, Int.ofNat 0), (1000, [5], Int.ofNat 0, Int.ofNat 0)]) := by
  intro val h
  have p0 : rv_PI 0 0 1 (val 0).2 (val 1).1 (val 2).1 (val 3).2 (val 4).2 (val 5).1 (val 6).1 (val 7).1 (val 8).1 (val 9).1 (val 10).1 (val 11).1 := h _ (List.mem_of_getElem? (i := 0) rfl) rfl
  have p1 : 0 ≤ (val 5).1 ∧ (val 5).1 ≤ 0 := h _ (List.mem_of_getElem? (i := 1) rfl)
  intro _
  show rv_NC 0 (val 9).1 (val 0).2 (val 10).1 (val 11).1 (val 1).1 (val 2).1 (val 2).1 (val 8).1
  have b2 := rv_cn_nn rv_isB (val 3).2 (val 5).1.toNat
  have b3 := rv_cn_nn rv_isN (val 3).2 (val 5).1.toNat
  obtain ⟨a1, a2, a3, a4, a5, a6, a7, a8, a9, a10, a11, a12, a13⟩ := p0
  exact ⟨fun z => ⟨(a13 z).1, by have := (a13 z).2.1; omega, (a13 z).2.2⟩, fun _ => ⟨a2, Int.le_refl _, a4⟩, by omega, by omega, a12⟩
def rl_ne01 : List rv_Rl := [(53, [9, 0, 10, 11, 1, 2, 2, 8], [(72, [0, 1, 2, 3, 4, 5, 6, 7, 8, 9, 10, 11], Int.ofNat 0, Int.ofNat 0), (1000, [5], Int.ofNat 0, Int.ofNat 0)])]
theorem rlo_ne01 : ∀ r ∈ rl_ne01, rv_RlOk r := List.forall_mem_cons.mpr ⟨ru_ne01_0, fun _ h => absurd h List.not_mem_nil⟩
theorem ru_ne10_0 : rv_RlOk (54, [9, 0, 1, 2, 10, 11, 2, 8], [(74, [0, 1, 2, 3, 4, 5, 6, 7, 8, 9, 10, 11], Int.ofNat 0, Int.ofNat 0), (1000, [5], Int.ofNat 0, Int.ofNat 0)]) := by
  intro val h
  have p0 : rv_PI 1 1 1 (val 0).2 (val 1).1 (val 2).1 (val 3).2 (val 4).2 (val 5).1 (val 6).1 (val 7).1 (val 8).1 (val 9).1 (val 10).1 (val 11).1 := h _ (List.mem_of_getElem? (i := 0) rfl) rfl
  have p1 : 0 ≤ (val 5).1 ∧ (val 5).1 ≤ 0 := h _ (List.mem_of_getElem? (i := 1) rfl)
  intro _
  show rv_NC 1 (val 9).1 (val 0).2 (val 1).1 (val 2).1 (val 10).1 (val 11).1 (val 2).1 (val 8).1
  have b2 := rv_cn_nn rv_isB (val 3).2 (val 5).1.toNat
  have b3 := rv_cn_nn rv_isN (val 3).2 (val 5).1.toNat
  obtain ⟨a1, a2, a3, a4, a5, a6, a7, a8, a9, a10, a11, a12, a13⟩ := p0
  exact ⟨fun _ => ⟨a2, Int.le_refl _, a4⟩, fun z => ⟨(a13 z).1, by have := (a13 z).2.1; omega, (a13 z).2.2⟩, by omega, by omega, a12⟩
def rl_ne10 : List rv_Rl := [(54, [9, 0, 1, 2, 10, 11, 2, 8], [(74, [0, 1, 2, 3, 4, 5, 6, 7, 8, 9, 10, 11], Int.ofNat 0, Int.ofNat 0), (1000, [5], Int.ofNat 0, Int.ofNat 0)])]
theorem rlo_ne10 : ∀ r ∈ rl_ne10, rv_RlOk r := List.forall_mem_cons.mpr ⟨ru_ne10_0, fun _ h => absurd h List.not_mem_nil⟩
theorem ru_ne11_0 : rv_RlOk (54, [9, 0, 10, 11, 1, 2, 2, 8], [(76, [0, 1, 2, 3, 4, 5, 6, 7, 8, 9, 10, 11], Int.ofNat 0, Int.ofNat 0), (1000, [5], Int.ofNat 0, Int.ofNat 0)]) := by
  intro val h
  have p0 : rv_PI 1 0 1 (val 0).2 (val 1).1 (val 2).1 (val 3).2 (val 4).2 (val 5).1 (val 6).1 (val 7).1 (val 8).1 (val 9).1 (val 10).1 (val 11).1 := h _ (List.mem_of_getElem? (i := 0) rfl) rfl
  have p1 : 0 ≤ (val 5).1 ∧ (val 5).1 ≤ 0 := h _ (List.mem_of_getElem? (i := 1) rfl)
  intro _
  show rv_NC 1 (val 9).1 (val 0).2 (val 10).1 (val 11).1 (val 1).1 (val 2).1 (val 2).1 (val 8).1
  have b2 := rv_cn_nn rv_isB (val 3).2 (val 5).1.toNat
  have b3 := rv_cn_nn rv_isN (val 3).2 (val 5).1.toNat
  obtain ⟨a1, a2, a3, a4, a5, a6, a7, a8, a9, a10, a11, a12, a13⟩ := p0
  exact ⟨fun z => ⟨(a13 z).1, by have := (a13 z).2.1; omega, (a13 z).2.2⟩, fun _ => ⟨a2, Int.le_refl _, a4⟩, by omega, by omega, a12⟩
def rl_ne11 : List rv_Rl := [(54, [9, 0, 10, 11, 1, 2, 2, 8], [(76, [0, 1, 2, 3, 4, 5, 6, 7, 8, 9, 10, 11], Int.ofNat 0, Int.ofNat 0), (1000, [5], Int.ofNat 0, Int.ofNat 0)])]
theorem rlo_ne11 : ∀ r ∈ rl_ne11, rv_RlOk r := List.forall_mem_cons.mpr ⟨ru_ne11_0, fun _ h => absurd h List.not_mem_nil⟩
theorem ru_near_0 : rv_RlOk (2, [0, 1], [(11, [1, 2, 3], Int.ofNat 0, Int.ofNat 0), (2, [3, 2], Int.ofNat 0, Int.ofNat 0), (1000, [3], Int.ofNat 0, Int.ofNat 128), (1000, [2], Int.ofNat 0, Int.ofNat 255), (1000, [0], Int.ofNat 0, Int.ofNat 0)]) := by
  intro val h
  have p0 : (val 1).1 = (rv_f 1 (Int32.ofInt (val 2).1) (Int32.ofInt (val 3).1)).toInt := h _ (List.mem_of_getElem? (i := 0) rfl)
  have p1 : (val 3).1 ≤ (val 2).1 := h _ (List.mem_of_getElem? (i := 1) rfl)
  have p2 : 0 ≤ (val 3).1 ∧ (val 3).1 ≤ 128 := h _ (List.mem_of_getElem? (i := 2) rfl)
  have p3 : 0 ≤ (val 2).1 ∧ (val 2).1 ≤ 255 := h _ (List.mem_of_getElem? (i := 3) rfl)
  have p4 : 0 ≤ (val 0).1 ∧ (val 0).1 ≤ 0 := h _ (List.mem_of_getElem? (i := 4) rfl)
  show (val 0).1 ≤ (val 1).1
  have e : (rv_f 1 (Int32.ofInt (val 2).1) (Int32.ofInt (val 3).1)).toInt = (val 2).1 - (val 3).1 := by
    show (Int32.ofInt (val 2).1 - Int32.ofInt (val 3).1).toInt = _
    rw [Int32.toInt_sub, rv_of32 (by rw [rv_lo_eq]; omega) (by rw [rv_hi_eq]; omega), rv_of32 (by rw [rv_lo_eq]; omega) (by rw [rv_hi_eq]; omega), rv_bmod (by omega) (by omega)]
  rw [e] at p0
  omega
theorem ru_near_1 : rv_RlOk (2, [0, 1], [(11, [0, 2, 3], Int.ofNat 0, Int.ofNat 0), (57, [2, 3], Int.ofNat 0, Int.ofNat 0), (1000, [3], Int.ofNat 0, Int.ofNat 128), (1000, [2], Int.ofNat 0, Int.ofNat 255), (1000, [1], Int.ofNat 127, Int.ofNat 127)]) := by
  intro val h
  have p0 : (val 0).1 = (rv_f 1 (Int32.ofInt (val 2).1) (Int32.ofInt (val 3).1)).toInt := h _ (List.mem_of_getElem? (i := 0) rfl)
  have p1 : (val 2).1 < 2 * (val 3).1 := h _ (List.mem_of_getElem? (i := 1) rfl) rfl
  have p2 : 0 ≤ (val 3).1 ∧ (val 3).1 ≤ 128 := h _ (List.mem_of_getElem? (i := 2) rfl)
  have p3 : 0 ≤ (val 2).1 ∧ (val 2).1 ≤ 255 := h _ (List.mem_of_getElem? (i := 3) rfl)
  have p4 : 127 ≤ (val 1).1 ∧ (val 1).1 ≤ 127 := h _ (List.mem_of_getElem? (i := 4) rfl)
  show (val 0).1 ≤ (val 1).1
  have e : (rv_f 1 (Int32.ofInt (val 2).1) (Int32.ofInt (val 3).1)).toInt = (val 2).1 - (val 3).1 := by
    show (Int32.ofInt (val 2).1 - Int32.ofInt (val 3).1).toInt = _
    rw [Int32.toInt_sub, rv_of32 (by rw [rv_lo_eq]; omega) (by rw [rv_hi_eq]; omega), rv_of32 (by rw [rv_lo_eq]; omega) (by rw [rv_hi_eq]; omega), rv_bmod (by omega) (by omega)]
  rw [e] at p0
  omega
def rl_near : List rv_Rl := [(2, [0, 1], [(11, [1, 2, 3], Int.ofNat 0, Int.ofNat 0), (2, [3, 2], Int.ofNat 0, Int.ofNat 0), (1000, [3], Int.ofNat 0, Int.ofNat 128), (1000, [2], Int.ofNat 0, Int.ofNat 255), (1000, [0], Int.ofNat 0, Int.ofNat 0)]), (2, [0, 1], [(11, [0, 2, 3], Int.ofNat 0, Int.ofNat 0), (57, [2, 3], Int.ofNat 0, Int.ofNat 0), (1000, [3], Int.ofNat 0, Int.ofNat 128), (1000, [2], Int.ofNat 0, Int.ofNat 255), (1000, [1], Int.ofNat 127, Int.ofNat 127)])]
theorem rlo_near : ∀ r ∈ rl_near, rv_RlOk r := List.forall_mem_cons.mpr ⟨ru_near_0, List.forall_mem_cons.mpr ⟨ru_near_1, fun _ h => absurd h List.not_mem_nil⟩⟩
theorem ru_np0_0 : rv_RlOk (40, [0, 1], [(1000, [1], Int.ofNat 0, Int.ofNat 0)]) := by
  intro val h
  have p0 : 0 ≤ (val 1).1 ∧ (val 1).1 ≤ 0 := h _ (List.mem_of_getElem? (i := 0) rfl)
  intro _
  show ∀ p : Nat, (p : Int) < (val 1).1 → 1 ≤ (val 0).2 p
  intro p hp
  omega
def rl_np0 : List rv_Rl := [(40, [0, 1], [(1000, [1], Int.ofNat 0, Int.ofNat 0)])]
theorem rlo_np0 : ∀ r ∈ rl_np0, rv_RlOk r := List.forall_mem_cons.mpr ⟨ru_np0_0, fun _ h => absurd h List.not_mem_nil⟩
theorem ru_np1_0 : rv_RlOk (41, [0, 1], [(1000, [1], Int.ofNat 0, Int.ofNat 0)]) := by
  intro val h
  have p0 : 0 ≤ (val 1).1 ∧ (val 1).1 ≤ 0 := h _ (List.mem_of_getElem? (i := 0) rfl)
  intro _
  show ∀ p : Nat, (p : Int) < (val 1).1 → 1 ≤ (val 0).2 (7 + p)
  intro p hp
  omega
def rl_np1 : List rv_Rl := [(41, [0, 1], [(1000, [1], Int.ofNat 0, Int.ofNat 0)])]
theorem rlo_np1 : ∀ r ∈ rl_np1, rv_RlOk r := List.forall_mem_cons.mpr ⟨ru_np1_0, fun _ h => absurd h List.not_mem_nil⟩
theorem ru_opr_0 : rv_RlOk (66, [0, 1, 2], [(59, [3, 0, 1, 2], Int.ofNat 0, Int.ofNat 0), (1000, [3], Int.ofNat 37, Int.ofNat 62)]) := by
  intro val h
  have p0 : (val 3).1 = rv_sgn (val 1).2 (val 0).1 (val 2).1 := h _ (List.mem_of_getElem? (i := 0) rfl) rfl
  have p1 : 37 ≤ (val 3).1 ∧ (val 3).1 ≤ 62 := h _ (List.mem_of_getElem? (i := 1) rfl)
  intro _
  show 37 ≤ rv_sgn (val 1).2 (val 0).1 (val 2).1 ∧ rv_sgn (val 1).2 (val 0).1 (val 2).1 ≤ 62
  rw [← p0]
  omega
def rl_opr : List rv_Rl := [(66, [0, 1, 2], [(59, [3, 0, 1, 2], Int.ofNat 0, Int.ofNat 0), (1000, [3], Int.ofNat 37, Int.ofNat 62)])]
theorem rlo_opr : ∀ r ∈ rl_opr, rv_RlOk r := List.forall_mem_cons.mpr ⟨ru_opr_0, fun _ h => absurd h List.not_mem_nil⟩
theorem ru_opr2_0 : rv_RlOk (2, [0, 1], [(59, [0, 2, 3, 4], Int.ofNat 0, Int.ofNat 0), (66, [2, 3, 4], Int.ofNat 0, Int.ofNat 0), (1000, [1], Int.ofNat 62, Int.ofNat 62)]) := by
  intro val h
  have p0 : (val 0).1 = rv_sgn (val 3).2 (val 2).1 (val 4).1 := h _ (List.mem_of_getElem? (i := 0) rfl) rfl
  have p1 : 37 ≤ rv_sgn (val 3).2 (val 2).1 (val 4).1 ∧ rv_sgn (val 3).2 (val 2).1 (val 4).1 ≤ 62 := h _ (List.mem_of_getElem? (i := 1) rfl) rfl
  have p2 : 62 ≤ (val 1).1 ∧ (val 1).1 ≤ 62 := h _ (List.mem_of_getElem? (i := 2) rfl)
  show (val 0).1 ≤ (val 1).1
  rw [p0]
  omega
theorem ru_opr2_1 : rv_RlOk (2, [0, 1], [(59, [1, 2, 3, 4], Int.ofNat 0, Int.ofNat 0), (66, [2, 3, 4], Int.ofNat 0, Int.ofNat 0), (1000, [0], Int.ofNat 37, Int.ofNat 37)]) := by
  intro val h
  have p0 : (val 1).1 = rv_sgn (val 3).2 (val 2).1 (val 4).1 := h _ (List.mem_of_getElem? (i := 0) rfl) rfl
  have p1 : 37 ≤ rv_sgn (val 3).2 (val 2).1 (val 4).1 ∧ rv_sgn (val 3).2 (val 2).1 (val 4).1 ≤ 62 := h _ (List.mem_of_getElem? (i := 1) rfl) rfl
  have p2 : 37 ≤ (val 0).1 ∧ (val 0).1 ≤ 37 := h _ (List.mem_of_getElem? (i := 2) rfl)
  show (val 0).1 ≤ (val 1).1
  rw [p0]
  omega
def rl_opr2 : List rv_Rl := [(2, [0, 1], [(59, [0, 2, 3, 4], Int.ofNat 0, Int.ofNat 0), (66, [2, 3, 4], Int.ofNat 0, Int.ofNat 0), (1000, [1], Int.ofNat 62, Int.ofNat 62)]), (2, [0, 1], [(59, [1, 2, 3, 4], Int.ofNat 0, Int.ofNat 0), (66, [2, 3, 4], Int.ofNat 0, Int.ofNat 0), (1000, [0], Int.ofNat 37, Int.ofNat 37)])]
theorem rlo_opr2 : ∀ r ∈ rl_opr2, rv_RlOk r := List.forall_mem_cons.mpr ⟨ru_opr2_0, List.forall_mem_cons.mpr ⟨ru_opr2_1, fun _ h => absurd h List.not_mem_nil⟩⟩
theorem ru_pace0_0 : rv_RlOk (2, [0, 1], [(5, [1, 2, 3], Int.ofNat 0, Int.ofNat 0), (40, [3, 4], Int.ofNat 0, Int.ofNat 0), (1, [5, 4], Int.ofNat 0, Int.ofNat 0), (1001, [2, 5], Int.ofNat 0, Int.ofNat 0), (1000, [5], Int.ofNat 0, Int.ofNat 6), (1000, [0], Int.ofNat 1, Int.ofNat 1)]) := by
  intro val h
  have p0 : (val 1).1 = (val 3).2 (val 2).1.toNat := h _ (List.mem_of_getElem? (i := 0) rfl)
  have p1 : ∀ p : Nat, (p : Int) < (val 4).1 → 1 ≤ (val 3).2 p := h _ (List.mem_of_getElem? (i := 1) rfl) rfl
  have p2 : (val 5).1 < (val 4).1 := h _ (List.mem_of_getElem? (i := 2) rfl)
  have p3 : (val 2).1 = (val 5).1 + 0 := h _ (List.mem_of_getElem? (i := 3) rfl)
  have p4 : 0 ≤ (val 5).1 ∧ (val 5).1 ≤ 6 := h _ (List.mem_of_getElem? (i := 4) rfl)
  have p5 : 1 ≤ (val 0).1 ∧ (val 0).1 ≤ 1 := h _ (List.mem_of_getElem? (i := 5) rfl)
  show (val 0).1 ≤ (val 1).1
  have e := p1 (val 5).1.toNat (by omega)
  have e2 : (val 2).1.toNat = (val 5).1.toNat := by omega
  rw [e2] at p0
  omega
def rl_pace0 : List rv_Rl := [(2, [0, 1], [(5, [1, 2, 3], Int.ofNat 0, Int.ofNat 0), (40, [3, 4], Int.ofNat 0, Int.ofNat 0), (1, [5, 4], Int.ofNat 0, Int.ofNat 0), (1001, [2, 5], Int.ofNat 0, Int.ofNat 0), (1000, [5], Int.ofNat 0, Int.ofNat 6), (1000, [0], Int.ofNat 1, Int.ofNat 1)])]
theorem rlo_pace0 : ∀ r ∈ rl_pace0, rv_RlOk r := List.forall_mem_cons.mpr ⟨ru_pace0_0, fun _ h => absurd h List.not_mem_nil⟩
theorem ru_pace1_0 : rv_RlOk (2, [0, 1], [(5, [1, 2, 3], Int.ofNat 0, Int.ofNat 0), (41, [3, 4], Int.ofNat 0, Int.ofNat 0), (1, [5, 4], Int.ofNat 0, Int.ofNat 0), (1001, [2, 5], Int.ofNat 7, Int.ofNat 0), (1000, [5], Int.ofNat 0, Int.ofNat 6), (1000, [0], Int.ofNat 1, Int.ofNat 1)]) := by
  intro val h
  have p0 : (val 1).1 = (val 3).2 (val 2).1.toNat := h _ (List.mem_of_getElem? (i := 0) rfl)
  have p1 : ∀ p : Nat, (p : Int) < (val 4).1 → 1 ≤ (val 3).2 (7 + p) := h _ (List.mem_of_getElem? (i := 1) rfl) rfl
  have p2 : (val 5).1 < (val 4).1 := h _ (List.mem_of_getElem? (i := 2) rfl)
  have p3 : (val 2).1 = (val 5).1 + 7 := h _ (List.mem_of_getElem? (i := 3) rfl)
  have p4 : 0 ≤ (val 5).1 ∧ (val 5).1 ≤ 6 := h _ (List.mem_of_getElem? (i := 4) rfl)
  have p5 : 1 ≤ (val 0).1 ∧ (val 0).1 ≤ 1 := h _ (List.mem_of_getElem? (i := 5) rfl)
  show (val 0).1 ≤ (val 1).1
  have e := p1 (val 5).1.toNat (by omega)
  have e2 : (val 2).1.toNat = 7 + (val 5).1.toNat := by omega
  rw [e2] at p0
  omega
def rl_pace1 : List rv_Rl := [(2, [0, 1], [(5, [1, 2, 3], Int.ofNat 0, Int.ofNat 0), (41, [3, 4], Int.ofNat 0, Int.ofNat 0), (1, [5, 4], Int.ofNat 0, Int.ofNat 0), (1001, [2, 5], Int.ofNat 7, Int.ofNat 0), (1000, [5], Int.ofNat 0, Int.ofNat 6), (1000, [0], Int.ofNat 1, Int.ofNat 1)])]
theorem rlo_pace1 : ∀ r ∈ rl_pace1, rv_RlOk r := List.forall_mem_cons.mpr ⟨ru_pace1_0, fun _ h => absurd h List.not_mem_nil⟩
theorem ru_pe00_0 : rv_RlOk (80, [0, 1, 2, 3, 4, 5, 6], [(16, [4, 8, 9], Int.ofNat 0, Int.ofNat 0), (53, [8, 0, 11, 12, 5, 6, 2, 3], Int.ofNat 0, Int.ofNat 0), (1000, [9], Int.ofNat 1, Int.ofNat 1), (1001, [1, 2], Int.ofNat 0, Int.ofNat 0)]) := by
  intro val h
  have p0 : (val 4).1 = (rv_f 6 (Int32.ofInt (val 8).1) (Int32.ofInt (val 9).1)).toInt := h _ (List.mem_of_getElem? (i := 0) rfl)
  have p1 : rv_NC 0 (val 8).1 (val 0).2 (val 11).1 (val 12).1 (val 5).1 (val 6).1 (val 2).1 (val 3).1 := h _ (List.mem_of_getElem? (i := 1) rfl) rfl
  have p2 : 1 ≤ (val 9).1 ∧ (val 9).1 ≤ 1 := h _ (List.mem_of_getElem? (i := 2) rfl)
  have p3 : (val 1).1 = (val 2).1 + 0 := h _ (List.mem_of_getElem? (i := 3) rfl)
  intro _
  show rv_PE 0 1 (val 0).2 (val 1).1 (val 2).1 (val 3).1 (val 4).1 (val 5).1 (val 6).1
  obtain ⟨a1, a2, a3, a4, a5⟩ := p1
  rw [show (val 9).1 = 1 by omega] at p0
  refine ⟨by omega, a3, a4, a5, fun z => ?_⟩
  obtain ⟨b1, b2, b3⟩ := a2 ((rv_bit_or p0 (by decide)).mp z)
  exact ⟨b1, by omega, b3⟩
def rl_pe00 : List rv_Rl := [(80, [0, 1, 2, 3, 4, 5, 6], [(16, [4, 8, 9], Int.ofNat 0, Int.ofNat 0), (53, [8, 0, 11, 12, 5, 6, 2, 3], Int.ofNat 0, Int.ofNat 0), (1000, [9], Int.ofNat 1, Int.ofNat 1), (1001, [1, 2], Int.ofNat 0, Int.ofNat 0)])]
theorem rlo_pe00 : ∀ r ∈ rl_pe00, rv_RlOk r := List.forall_mem_cons.mpr ⟨ru_pe00_0, fun _ h => absurd h List.not_mem_nil⟩
theorem ru_pe01_0 : rv_RlOk (81, [0, 1, 2, 3, 4, 5, 6], [(16, [4, 8, 9], Int.ofNat 0, Int.ofNat 0), (53, [8, 0, 5, 6, 11, 12, 2, 3], Int.ofNat 0, Int.ofNat 0), (1000, [9], Int.ofNat 2, Int.ofNat 2), (1001, [1, 2], Int.ofNat 0, Int.ofNat 0)]) := by
  intro val h
  have p0 : (val 4).1 = (rv_f 6 (Int32.ofInt (val 8).1) (Int32.ofInt (val 9).1)).toInt := h _ (List.mem_of_getElem? (i := 0) rfl)
  have p1 : rv_NC 0 (val 8).1 (val 0).2 (val 5).1 (val 6).1 (val 11).1 (val 12).1 (val 2).1 (val 3).1 := h _ (List.mem_of_getElem? (i := 1) rfl) rfl
  have p2 : 2 ≤ (val 9).1 ∧ (val 9).1 ≤ 2 := h _ (List.mem_of_getElem? (i := 2) rfl)
  have p3 : (val 1).1 = (val 2).1 + 0 := h _ (List.mem_of_getElem? (i := 3) rfl)
  intro _
  show rv_PE 0 0 (val 0).2 (val 1).1 (val 2).1 (val 3).1 (val 4).1 (val 5).1 (val 6).1
  obtain ⟨a1, a2, a3, a4, a5⟩ := p1
  rw [show (val 9).1 = 2 by omega] at p0
  refine ⟨by omega, a3, a4, a5, fun z => ?_⟩
  obtain ⟨b1, b2, b3⟩ := a1 ((rv_bit_or p0 (by decide)).mp z)
  exact ⟨b1, by omega, b3⟩
def rl_pe01 : List rv_Rl := [(81, [0, 1, 2, 3, 4, 5, 6], [(16, [4, 8, 9], Int.ofNat 0, Int.ofNat 0), (53, [8, 0, 5, 6, 11, 12, 2, 3], Int.ofNat 0, Int.ofNat 0), (1000, [9], Int.ofNat 2, Int.ofNat 2), (1001, [1, 2], Int.ofNat 0, Int.ofNat 0)])]
theorem rlo_pe01 : ∀ r ∈ rl_pe01, rv_RlOk r := List.forall_mem_cons.mpr ⟨ru_pe01_0, fun _ h => absurd h List.not_mem_nil⟩
theorem ru_pe10_0 : rv_RlOk (82, [0, 1, 2, 3, 4, 5, 6], [(16, [4, 8, 9], Int.ofNat 0, Int.ofNat 0), (54, [8, 0, 11, 12, 5, 6, 2, 3], Int.ofNat 0, Int.ofNat 0), (1000, [9], Int.ofNat 1, Int.ofNat 1), (1001, [1, 2], Int.ofNat 0, Int.ofNat 0)]) := by
  intro val h
  have p0 : (val 4).1 = (rv_f 6 (Int32.ofInt (val 8).1) (Int32.ofInt (val 9).1)).toInt := h _ (List.mem_of_getElem? (i := 0) rfl)
  have p1 : rv_NC 1 (val 8).1 (val 0).2 (val 11).1 (val 12).1 (val 5).1 (val 6).1 (val 2).1 (val 3).1 := h _ (List.mem_of_getElem? (i := 1) rfl) rfl
  have p2 : 1 ≤ (val 9).1 ∧ (val 9).1 ≤ 1 := h _ (List.mem_of_getElem? (i := 2) rfl)
  have p3 : (val 1).1 = (val 2).1 + 0 := h _ (List.mem_of_getElem? (i := 3) rfl)
  intro _
  show rv_PE 1 1 (val 0).2 (val 1).1 (val 2).1 (val 3).1 (val 4).1 (val 5).1 (val 6).1
  obtain ⟨a1, a2, a3, a4, a5⟩ := p1
  rw [show (val 9).1 = 1 by omega] at p0
  refine ⟨by omega, a3, a4, a5, fun z => ?_⟩
  obtain ⟨b1, b2, b3⟩ := a2 ((rv_bit_or p0 (by decide)).mp z)
  exact ⟨b1, by omega, b3⟩
def rl_pe10 : List rv_Rl := [(82, [0, 1, 2, 3, 4, 5, 6], [(16, [4, 8, 9], Int.ofNat 0, Int.ofNat 0), (54, [8, 0, 11, 12, 5, 6, 2, 3], Int.ofNat 0, Int.ofNat 0), (1000, [9], Int.ofNat 1, Int.ofNat 1), (1001, [1, 2], Int.ofNat 0, Int.ofNat 0)])]
theorem rlo_pe10 : ∀ r ∈ rl_pe10, rv_RlOk r := List.forall_mem_cons.mpr ⟨ru_pe10_0, fun _ h => absurd h List.not_mem_nil⟩
theorem ru_pe11_0 : rv_RlOk (83, [0, 1, 2, 3, 4, 5, 6], [(16, [4, 8, 9], Int.ofNat 0, Int.ofNat 0), (54, [8, 0, 5, 6, 11, 12, 2, 3], Int.ofNat 0, Int.ofNat 0), (1000, [9], Int.ofNat 2, Int.ofNat 2), (1001, [1, 2], Int.ofNat 0, Int.ofNat 0)]) := by
  intro val h
  have p0 : (val 4).1 = (rv_f 6 (Int32.ofInt (val 8).1) (Int32.ofInt (val 9).1)).toInt := h _ (List.mem_of_getElem? (i := 0) rfl)
  have p1 : rv_NC 1 (val 8).1 (val 0).2 (val 5).1 (val 6).1 (val 11).1 (val 12).1 (val 2).1 (val 3).1 := h _ (List.mem_of_getElem? (i := 1) rfl) rfl
  have p2 : 2 ≤ (val 9).1 ∧ (val 9).1 ≤ 2 := h _ (List.mem_of_getElem? (i := 2) rfl)
  have p3 : (val 1).1 = (val 2).1 + 0 := h _ (List.mem_of_getElem? (i := 3) rfl)
  intro _
  show rv_PE 1 0 (val 0).2 (val 1).1 (val 2).1 (val 3).1 (val 4).1 (val 5).1 (val 6).1
  obtain ⟨a1, a2, a3, a4, a5⟩ := p1
  rw [show (val 9).1 = 2 by omega] at p0
  refine ⟨by omega, a3, a4, a5, fun z => ?_⟩
  obtain ⟨b1, b2, b3⟩ := a1 ((rv_bit_or p0 (by decide)).mp z)
  exact ⟨b1, by omega, b3⟩
def rl_pe11 : List rv_Rl := [(83, [0, 1, 2, 3, 4, 5, 6], [(16, [4, 8, 9], Int.ofNat 0, Int.ofNat 0), (54, [8, 0, 5, 6, 11, 12, 2, 3], Int.ofNat 0, Int.ofNat 0), (1000, [9], Int.ofNat 2, Int.ofNat 2), (1001, [1, 2], Int.ofNat 0, Int.ofNat 0)])]
theorem rlo_pe11 : ∀ r ∈ rl_pe11, rv_RlOk r := List.forall_mem_cons.mpr ⟨ru_pe11_0, fun _ h => absurd h List.not_mem_nil⟩
theorem ru_pi00_0 : rv_RlOk (71, [0, 1, 2, 3, 4, 5, 6, 7, 8, 9, 10, 11], [(80, [0, 1, 2, 8, 9, 10, 11], Int.ofNat 0, Int.ofNat 0), (6, [3, 12, 13, 14], Int.ofNat 0, Int.ofNat 0), (1000, [13], Int.ofNat 0, Int.ofNat 0), (1000, [14], Int.ofNat 8, Int.ofNat 8), (1001, [5, 13], Int.ofNat 1, Int.ofNat 0), (1000, [6], Int.ofNat 0, Int.ofNat 0), (1000, [7], Int.ofNat 0, Int.ofNat 0)]) := by
  intro val h
  have p0 : rv_PE 0 1 (val 0).2 (val 1).1 (val 2).1 (val 8).1 (val 9).1 (val 10).1 (val 11).1 := h _ (List.mem_of_getElem? (i := 0) rfl) rfl
  have p1 : ∀ j, (val 3).2 j = if j = (val 13).1.toNat then (val 14).1 else (val 12).2 j := h _ (List.mem_of_getElem? (i := 1) rfl)
  have p2 : 0 ≤ (val 13).1 ∧ (val 13).1 ≤ 0 := h _ (List.mem_of_getElem? (i := 2) rfl)
  have p3 : 8 ≤ (val 14).1 ∧ (val 14).1 ≤ 8 := h _ (List.mem_of_getElem? (i := 3) rfl)
  have p4 : (val 5).1 = (val 13).1 + 1 := h _ (List.mem_of_getElem? (i := 4) rfl)
  have p5 : 0 ≤ (val 6).1 ∧ (val 6).1 ≤ 0 := h _ (List.mem_of_getElem? (i := 5) rfl)
  have p6 : 0 ≤ (val 7).1 ∧ (val 7).1 ≤ 0 := h _ (List.mem_of_getElem? (i := 6) rfl)
  intro _
  show rv_PI 0 1 0 (val 0).2 (val 1).1 (val 2).1 (val 3).2 (val 4).2 (val 5).1 (val 6).1 (val 7).1 (val 8).1 (val 9).1 (val 10).1 (val 11).1
  rw [show (val 13).1 = 0 by omega, show (val 14).1 = 8 by omega] at p1
  have e := rv_pi_start (sg := (val 4).2) (by decide) p0 p1
  rw [show (val 5).1 = 1 by omega, show (val 6).1 = 0 by omega, show (val 7).1 = 0 by omega]
  exact e
def rl_pi00 : List rv_Rl := [(71, [0, 1, 2, 3, 4, 5, 6, 7, 8, 9, 10, 11], [(80, [0, 1, 2, 8, 9, 10, 11], Int.ofNat 0, Int.ofNat 0), (6, [3, 12, 13, 14], Int.ofNat 0, Int.ofNat 0), (1000, [13], Int.ofNat 0, Int.ofNat 0), (1000, [14], Int.ofNat 8, Int.ofNat 8), (1001, [5, 13], Int.ofNat 1, Int.ofNat 0), (1000, [6], Int.ofNat 0, Int.ofNat 0), (1000, [7], Int.ofNat 0, Int.ofNat 0)])]
theorem rlo_pi00 : ∀ r ∈ rl_pi00, rv_RlOk r := List.forall_mem_cons.mpr ⟨ru_pi00_0, fun _ h => absurd h List.not_mem_nil⟩
theorem ru_pi01_0 : rv_RlOk (73, [0, 1, 2, 3, 4, 5, 6, 7, 8, 9, 10, 11], [(81, [0, 1, 2, 8, 9, 10, 11], Int.ofNat 0, Int.ofNat 0), (6, [3, 12, 13, 14], Int.ofNat 0, Int.ofNat 0), (1000, [13], Int.ofNat 0, Int.ofNat 0), (1000, [14], Int.ofNat 8, Int.ofNat 8), (1001, [5, 13], Int.ofNat 1, Int.ofNat 0), (1000, [6], Int.ofNat 0, Int.ofNat 0), (1000, [7], Int.ofNat 0, Int.ofNat 0)]) := by
  intro val h
  have p0 : rv_PE 0 0 (val 0).2 (val 1).1 (val 2).1 (val 8).1 (val 9).1 (val 10).1 (val 11).1 := h _ (List.mem_of_getElem? (i := 0) rfl) rfl
  have p1 : ∀ j, (val 3).2 j = if j = (val 13).1.toNat then (val 14).1 else (val 12).2 j := h _ (List.mem_of_getElem? (i := 1) rfl)
  have p2 : 0 ≤ (val 13).1 ∧ (val 13).1 ≤ 0 := h _ (List.mem_of_getElem? (i := 2) rfl)
  have p3 : 8 ≤ (val 14).1 ∧ (val 14).1 ≤ 8 := h _ (List.mem_of_getElem? (i := 3) rfl)
  have p4 : (val 5).1 = (val 13).1 + 1 := h _ (List.mem_of_getElem? (i := 4) rfl)
  have p5 : 0 ≤ (val 6).1 ∧ (val 6).1 ≤ 0 := h _ (List.mem_of_getElem? (i := 5) rfl)
  have p6 : 0 ≤ (val 7).1 ∧ (val 7).1 ≤ 0 := h _ (List.mem_of_getElem? (i := 6) rfl)
  intro _
  show rv_PI 0 0 0 (val 0).2 (val 1).1 (val 2).1 (val 3).2 (val 4).2 (val 5).1 (val 6).1 (val 7).1 (val 8).1 (val 9).1 (val 10).1 (val 11).1
  rw [show (val 13).1 = 0 by omega, show (val 14).1 = 8 by omega] at p1
  have e := rv_pi_start (sg := (val 4).2) (by decide) p0 p1
  rw [show (val 5).1 = 1 by omega, show (val 6).1 = 0 by omega, show (val 7).1 = 0 by omega]
  exact e
def rl_pi01 : List rv_Rl := [(73, [0, 1, 2, 3, 4, 5, 6, 7, 8, 9, 10, 11], [(81, [0, 1, 2, 8, 9, 10, 11], Int.ofNat 0, Int.ofNat 0), (6, [3, 12, 13, 14], Int.ofNat 0, Int.ofNat 0), (1000, [13], Int.ofNat 0, Int.ofNat 0), (1000, [14], Int.ofNat 8, Int.ofNat 8), (1001, [5, 13], Int.ofNat 1, Int.ofNat 0), (1000, [6], Int.ofNat 0, Int.ofNat 0), (1000, [7], Int.ofNat 0, Int.ofNat 0)])]
theorem rlo_pi01 : ∀ r ∈ rl_pi01, rv_RlOk r := List.forall_mem_cons.mpr ⟨ru_pi01_0, fun _ h => absurd h List.not_mem_nil⟩
theorem ru_pi10_0 : rv_RlOk (75, [0, 1, 2, 3, 4, 5, 6, 7, 8, 9, 10, 11], [(82, [0, 1, 2, 8, 9, 10, 11], Int.ofNat 0, Int.ofNat 0), (6, [3, 12, 13, 14], Int.ofNat 0, Int.ofNat 0), (1000, [13], Int.ofNat 0, Int.ofNat 0), (1000, [14], Int.ofNat 8, Int.ofNat 8), (1001, [5, 13], Int.ofNat 1, Int.ofNat 0), (1000, [6], Int.ofNat 0, Int.ofNat 0), (1000, [7], Int.ofNat 0, Int.ofNat 0)]) := by
  intro val h
  have p0 : rv_PE 1 1 (val 0).2 (val 1).1 (val 2).1 (val 8).1 (val 9).1 (val 10).1 (val 11).1 := h _ (List.mem_of_getElem? (i := 0) rfl) rfl
  have p1 : ∀ j, (val 3).2 j = if j = (val 13).1.toNat then (val 14).1 else (val 12).2 j := h _ (List.mem_of_getElem? (i := 1) rfl)
  have p2 : 0 ≤ (val 13).1 ∧ (val 13).1 ≤ 0 := h _ (List.mem_of_getElem? (i := 2) rfl)
  have p3 : 8 ≤ (val 14).1 ∧ (val 14).1 ≤ 8 := h _ (List.mem_of_getElem? (i := 3) rfl)
  have p4 : (val 5).1 = (val 13).1 + 1 := h _ (List.mem_of_getElem? (i := 4) rfl)
  have p5 : 0 ≤ (val 6).1 ∧ (val 6).1 ≤ 0 := h _ (List.mem_of_getElem? (i := 5) rfl)
  have p6 : 0 ≤ (val 7).1 ∧ (val 7).1 ≤ 0 := h _ (List.mem_of_getElem? (i := 6) rfl)
  intro _
  show rv_PI 1 1 0 (val 0).2 (val 1).1 (val 2).1 (val 3).2 (val 4).2 (val 5).1 (val 6).1 (val 7).1 (val 8).1 (val 9).1 (val 10).1 (val 11).1
  rw [show (val 13).1 = 0 by omega, show (val 14).1 = 8 by omega] at p1
  have e := rv_pi_start (sg := (val 4).2) (by decide) p0 p1
  rw [show (val 5).1 = 1 by omega, show (val 6).1 = 0 by omega, show (val 7).1 = 0 by omega]
  exact e
def rl_pi10 : List rv_Rl := [(75, [0, 1, 2, 3, 4, 5, 6, 7, 8, 9, 10, 11], [(82, [0, 1, 2, 8, 9, 10, 11], Int.ofNat 0, Int.ofNat 0), (6, [3, 12, 13, 14], Int.ofNat 0, Int.ofNat 0), (1000, [13], Int.ofNat 0, Int.ofNat 0), (1000, [14], Int.ofNat 8, Int.ofNat 8), (1001, [5, 13], Int.ofNat 1, Int.ofNat 0), (1000, [6], Int.ofNat 0, Int.ofNat 0), (1000, [7], Int.ofNat 0, Int.ofNat 0)])]
theorem rlo_pi10 : ∀ r ∈ rl_pi10, rv_RlOk r := List.forall_mem_cons.mpr ⟨ru_pi10_0, fun _ h => absurd h List.not_mem_nil⟩
theorem ru_pi11_0 : rv_RlOk (77, [0, 1, 2, 3, 4, 5, 6, 7, 8, 9, 10, 11], [(83, [0, 1, 2, 8, 9, 10, 11], Int.ofNat 0, Int.ofNat 0), (6, [3, 12, 13, 14], Int.ofNat 0, Int.ofNat 0), (1000, [13], Int.ofNat 0, Int.ofNat 0), (1000, [14], Int.ofNat 8, Int.ofNat 8), (1001, [5, 13], Int.ofNat 1, Int.ofNat 0), (1000, [6], Int.ofNat 0, Int.ofNat 0), (1000, [7], Int.ofNat 0, Int.ofNat 0)]) := by
  intro val h
  have p0 : rv_PE 1 0 (val 0).2 (val 1).1 (val 2).1 (val 8).1 (val 9).1 (val 10).1 (val 11).1 := h _ (List.mem_of_getElem? (i := 0) rfl) rfl
  have p1 : ∀ j, (val 3).2 j = if j = (val 13).1.toNat then (val 14).1 else (val 12).2 j := h _ (List.mem_of_getElem? (i := 1) rfl)
  have p2 : 0 ≤ (val 13).1 ∧ (val 13).1 ≤ 0 := h _ (List.mem_of_getElem? (i := 2) rfl)
  have p3 : 8 ≤ (val 14).1 ∧ (val 14).1 ≤ 8 := h _ (List.mem_of_getElem? (i := 3) rfl)
  have p4 : (val 5).1 = (val 13).1 + 1 := h _ (List.mem_of_getElem? (i := 4) rfl)
  have p5 : 0 ≤ (val 6).1 ∧ (val 6).1 ≤ 0 := h _ (List.mem_of_getElem? (i := 5) rfl)
  have p6 : 0 ≤ (val 7).1 ∧ (val 7).1 ≤ 0 := h _ (List.mem_of_getElem? (i := 6) rfl)
  intro _
  show rv_PI 1 0 0 (val 0).2 (val 1).1 (val 2).1 (val 3).2 (val 4).2 (val 5).1 (val 6).1 (val 7).1 (val 8).1 (val 9).1 (val 10).1 (val 11).1
  rw [show (val 13).1 = 0 by omega, show (val 14).1 = 8 by omega] at p1
  have e := rv_pi_start (sg := (val 4).2) (by decide) p0 p1
  rw [show (val 5).1 = 1 by omega, show (val 6).1 = 0 by omega, show (val 7).1 = 0 by omega]
  exact e
def rl_pi11 : List rv_Rl := [(77, [0, 1, 2, 3, 4, 5, 6, 7, 8, 9, 10, 11], [(83, [0, 1, 2, 8, 9, 10, 11], Int.ofNat 0, Int.ofNat 0), (6, [3, 12, 13, 14], Int.ofNat 0, Int.ofNat 0), (1000, [13], Int.ofNat 0, Int.ofNat 0), (1000, [14], Int.ofNat 8, Int.ofNat 8), (1001, [5, 13], Int.ofNat 1, Int.ofNat 0), (1000, [6], Int.ofNat 0, Int.ofNat 0), (1000, [7], Int.ofNat 0, Int.ofNat 0)])]
theorem rlo_pi11 : ∀ r ∈ rl_pi11, rv_RlOk r := List.forall_mem_cons.mpr ⟨ru_pi11_0, fun _ h => absurd h List.not_mem_nil⟩
theorem ru_pop00_0 : rv_RlOk (2, [0, 1], [(70, [30, 31, 32, 3, 34, 4, 36, 37, 38, 39, 40, 41], Int.ofNat 0, Int.ofNat 0), (1001, [1, 4], Int.negSucc 0, Int.ofNat 0), (5, [2, 5, 3], Int.ofNat 0, Int.ofNat 0), (1001, [5, 4], Int.negSucc 0, Int.ofNat 0), (1000, [2], Int.ofNat 1, Int.ofNat 6), (1000, [0], Int.ofNat 1, Int.ofNat 1), (1000, [4], Int.ofNat 1, Int.ofNat 90)]) := by
  intro val h
  have p0 : rv_PI 0 1 1 (val 30).2 (val 31).1 (val 32).1 (val 3).2 (val 34).2 (val 4).1 (val 36).1 (val 37).1 (val 38).1 (val 39).1 (val 40).1 (val 41).1 := h _ (List.mem_of_getElem? (i := 0) rfl) rfl
  have p1 : (val 1).1 = (val 4).1 + (-1) := h _ (List.mem_of_getElem? (i := 1) rfl)
  have p2 : (val 2).1 = (val 3).2 (val 5).1.toNat := h _ (List.mem_of_getElem? (i := 2) rfl)
  have p3 : (val 5).1 = (val 4).1 + (-1) := h _ (List.mem_of_getElem? (i := 3) rfl)
  have p4 : 1 ≤ (val 2).1 ∧ (val 2).1 ≤ 6 := h _ (List.mem_of_getElem? (i := 4) rfl)
  have p5 : 1 ≤ (val 0).1 ∧ (val 0).1 ≤ 1 := h _ (List.mem_of_getElem? (i := 5) rfl)
  have p6 : 1 ≤ (val 4).1 ∧ (val 4).1 ≤ 90 := h _ (List.mem_of_getElem? (i := 6) rfl)
  show (val 0).1 ≤ (val 1).1
  rw [show (val 5).1.toNat = ((val 4).1 - 1).toNat by omega] at p2
  have e := rv_pi_top p0 (by omega)
  have h1 : (val 4).1 = 1 ∨ 2 ≤ (val 4).1 := by omega
  rcases h1 with z | z
  · have := e.1 z; omega
  · omega
theorem ru_pop00_1 : rv_RlOk (70, [0, 1, 2, 3, 4, 5, 6, 7, 8, 9, 10, 11], [(6, [0, 20, 21, 22], Int.ofNat 0, Int.ofNat 0), (70, [20, 1, 21, 3, 4, 23, 25, 7, 8, 9, 10, 11], Int.ofNat 0, Int.ofNat 0), (1001, [2, 21], Int.ofNat 1, Int.ofNat 0), (1001, [5, 23], Int.negSucc 0, Int.ofNat 0), (5, [22, 26, 4], Int.ofNat 0, Int.ofNat 0), (1001, [26, 23], Int.negSucc 0, Int.ofNat 0), (5, [27, 28, 3], Int.ofNat 0, Int.ofNat 0), (1001, [28, 23], Int.negSucc 0, Int.ofNat 0), (1000, [27], Int.ofNat 3, Int.ofNat 3), (1001, [6, 25], Int.negSucc 0, Int.ofNat 0), (1000, [23], Int.ofNat 1, Int.ofNat 90)]) := by
  intro val h
  have p0 : ∀ j, (val 0).2 j = if j = (val 21).1.toNat then (val 22).1 else (val 20).2 j := h _ (List.mem_of_getElem? (i := 0) rfl)
  have p1 : rv_PI 0 1 1 (val 20).2 (val 1).1 (val 21).1 (val 3).2 (val 4).2 (val 23).1 (val 25).1 (val 7).1 (val 8).1 (val 9).1 (val 10).1 (val 11).1 := h _ (List.mem_of_getElem? (i := 1) rfl) rfl
  have p2 : (val 2).1 = (val 21).1 + 1 := h _ (List.mem_of_getElem? (i := 2) rfl)
  have p3 : (val 5).1 = (val 23).1 + (-1) := h _ (List.mem_of_getElem? (i := 3) rfl)
  have p4 : (val 22).1 = (val 4).2 (val 26).1.toNat := h _ (List.mem_of_getElem? (i := 4) rfl)
  have p5 : (val 26).1 = (val 23).1 + (-1) := h _ (List.mem_of_getElem? (i := 5) rfl)
  have p6 : (val 27).1 = (val 3).2 (val 28).1.toNat := h _ (List.mem_of_getElem? (i := 6) rfl)
  have p7 : (val 28).1 = (val 23).1 + (-1) := h _ (List.mem_of_getElem? (i := 7) rfl)
  have p8 : 3 ≤ (val 27).1 ∧ (val 27).1 ≤ 3 := h _ (List.mem_of_getElem? (i := 8) rfl)
  have p9 : (val 6).1 = (val 25).1 + (-1) := h _ (List.mem_of_getElem? (i := 9) rfl)
  have p10 : 1 ≤ (val 23).1 ∧ (val 23).1 ≤ 90 := h _ (List.mem_of_getElem? (i := 10) rfl)
  intro _
  show rv_PI 0 1 1 (val 0).2 (val 1).1 (val 2).1 (val 3).2 (val 4).2 (val 5).1 (val 6).1 (val 7).1 (val 8).1 (val 9).1 (val 10).1 (val 11).1
  rw [show (val 26).1.toNat = ((val 23).1 - 1).toNat by omega] at p4
  rw [show (val 28).1.toNat = ((val 23).1 - 1).toNat by omega] at p6
  rw [p4] at p0
  have e := rv_pi_popN p1 (by omega) p0 (by omega)
  rw [show (val 2).1 = (val 21).1 + 1 by omega, show (val 5).1 = (val 23).1 - 1 by omega, show (val 6).1 = (val 25).1 - 1 by omega]
  exact e
theorem ru_pop00_2 : rv_RlOk (70, [0, 1, 2, 3, 4, 5, 6, 7, 8, 9, 10, 11], [(6, [0, 20, 21, 22], Int.ofNat 0, Int.ofNat 0), (70, [20, 1, 21, 3, 4, 23, 6, 7, 8, 9, 10, 11], Int.ofNat 0, Int.ofNat 0), (1001, [2, 21], Int.ofNat 1, Int.ofNat 0), (1001, [5, 23], Int.negSucc 0, Int.ofNat 0), (5, [22, 26, 4], Int.ofNat 0, Int.ofNat 0), (1001, [26, 23], Int.negSucc 0, Int.ofNat 0), (5, [27, 28, 3], Int.ofNat 0, Int.ofNat 0), (1001, [28, 23], Int.negSucc 0, Int.ofNat 0), (4, [27, 29], Int.ofNat 0, Int.ofNat 0), (1000, [29], Int.ofNat 3, Int.ofNat 3), (1000, [27], Int.ofNat 1, Int.ofNat 6), (1000, [23], Int.ofNat 1, Int.ofNat 90)]) := by
  intro val h
  have p0 : ∀ j, (val 0).2 j = if j = (val 21).1.toNat then (val 22).1 else (val 20).2 j := h _ (List.mem_of_getElem? (i := 0) rfl)
  have p1 : rv_PI 0 1 1 (val 20).2 (val 1).1 (val 21).1 (val 3).2 (val 4).2 (val 23).1 (val 6).1 (val 7).1 (val 8).1 (val 9).1 (val 10).1 (val 11).1 := h _ (List.mem_of_getElem? (i := 1) rfl) rfl
  have p2 : (val 2).1 = (val 21).1 + 1 := h _ (List.mem_of_getElem? (i := 2) rfl)
  have p3 : (val 5).1 = (val 23).1 + (-1) := h _ (List.mem_of_getElem? (i := 3) rfl)
  have p4 : (val 22).1 = (val 4).2 (val 26).1.toNat := h _ (List.mem_of_getElem? (i := 4) rfl)
  have p5 : (val 26).1 = (val 23).1 + (-1) := h _ (List.mem_of_getElem? (i := 5) rfl)
  have p6 : (val 27).1 = (val 3).2 (val 28).1.toNat := h _ (List.mem_of_getElem? (i := 6) rfl)
  have p7 : (val 28).1 = (val 23).1 + (-1) := h _ (List.mem_of_getElem? (i := 7) rfl)
  have p8 : ¬ (val 27).1 = (val 29).1 := h _ (List.mem_of_getElem? (i := 8) rfl)
  have p9 : 3 ≤ (val 29).1 ∧ (val 29).1 ≤ 3 := h _ (List.mem_of_getElem? (i := 9) rfl)
  have p10 : 1 ≤ (val 27).1 ∧ (val 27).1 ≤ 6 := h _ (List.mem_of_getElem? (i := 10) rfl)
  have p11 : 1 ≤ (val 23).1 ∧ (val 23).1 ≤ 90 := h _ (List.mem_of_getElem? (i := 11) rfl)
  intro _
  show rv_PI 0 1 1 (val 0).2 (val 1).1 (val 2).1 (val 3).2 (val 4).2 (val 5).1 (val 6).1 (val 7).1 (val 8).1 (val 9).1 (val 10).1 (val 11).1
  rw [show (val 26).1.toNat = ((val 23).1 - 1).toNat by omega] at p4
  rw [show (val 28).1.toNat = ((val 23).1 - 1).toNat by omega] at p6
  rw [p4] at p0
  have e := rv_pi_popB p1 (by omega) p0 (by omega) (by omega)
  rw [show (val 2).1 = (val 21).1 + 1 by omega, show (val 5).1 = (val 23).1 - 1 by omega]
  exact e
def rl_pop00 : List rv_Rl := [(2, [0, 1], [(70, [30, 31, 32, 3, 34, 4, 36, 37, 38, 39, 40, 41], Int.ofNat 0, Int.ofNat 0), (1001, [1, 4], Int.negSucc 0, Int.ofNat 0), (5, [2, 5, 3], Int.ofNat 0, Int.ofNat 0), (1001, [5, 4], Int.negSucc 0, Int.ofNat 0), (1000, [2], Int.ofNat 1, Int.ofNat 6), (1000, [0], Int.ofNat 1, Int.ofNat 1), (1000, [4], Int.ofNat 1, Int.ofNat 90)]), (70, [0, 1, 2, 3, 4, 5, 6, 7, 8, 9, 10, 11], [(6, [0, 20, 21, 22], Int.ofNat 0, Int.ofNat 0), (70, [20, 1, 21, 3, 4, 23, 25, 7, 8, 9, 10, 11], Int.ofNat 0, Int.ofNat 0), (1001, [2, 21], Int.ofNat 1, Int.ofNat 0), (1001, [5, 23], Int.negSucc 0, Int.ofNat 0), (5, [22, 26, 4], Int.ofNat 0, Int.ofNat 0), (1001, [26, 23], Int.negSucc 0, Int.ofNat 0), (5, [27, 28, 3], Int.ofNat 0, Int.ofNat 0), (1001, [28, 23], Int.negSucc 0, Int.ofNat 0), (1000, [27], Int.ofNat 3, Int.ofNat 3), (1001, [6, 25], Int.negSucc 0, Int.ofNat 0), (1000, [23], Int.ofNat 1, Int.ofNat 90)]), (70, [0, 1, 2, 3, 4, 5, 6, 7, 8, 9, 10, 11], [(6, [0, 20, 21, 22], Int.ofNat 0, Int.ofNat 0), (70, [20, 1, 21, 3, 4, 23, 6, 7, 8, 9, 10, 11], Int.ofNat 0, Int.ofNat 0), (1001, [2, 21], Int.ofNat 1, Int.ofNat 0), (1001, [5, 23], Int.negSucc 0, Int.ofNat 0), (5, [22, 26, 4], Int.ofNat 0, Int.ofNat 0), (1001, [26, 23], Int.negSucc 0, Int.ofNat 0), (5, [27, 28, 3], Int.ofNat 0, Int.ofNat 0), (1001, [28, 23], Int.negSucc 0, Int.ofNat 0), (4, [27, 29], Int.ofNat 0, Int.ofNat 0), (1000, [29], Int.ofNat 3, Int.ofNat 3), (1000, [27], Int.ofNat 1, Int.ofNat 6), (1000, [23], Int.ofNat 1, Int.ofNat 90)])]
theorem rlo_pop00 : ∀ r ∈ rl_pop00, rv_RlOk r := List.forall_mem_cons.mpr ⟨ru_pop00_0, List.forall_mem_cons.mpr ⟨ru_pop00_1, List.forall_mem_cons.mpr ⟨ru_pop00_2, fun _ h => absurd h List.not_mem_nil⟩⟩⟩
theorem ru_pop01_0 : rv_RlOk (2, [0, 1], [(72, [30, 31, 32, 3, 34, 4, 36, 37, 38, 39, 40, 41], Int.ofNat 0, Int.ofNat 0), (1001, [1, 4], Int.negSucc 0, Int.ofNat 0), (5, [2, 5, 3], Int.ofNat 0, Int.ofNat 0), (1001, [5, 4], Int.negSucc 0, Int.ofNat 0), (1000, [2], Int.ofNat 1, Int.ofNat 6), (1000, [0], Int.ofNat 1, Int.ofNat 1), (1000, [4], Int.ofNat 1, Int.ofNat 90)]) := by
  intro val h
  have p0 : rv_PI 0 0 1 (val 30).2 (val 31).1 (val 32).1 (val 3).2 (val 34).2 (val 4).1 (val 36).1 (val 37).1 (val 38).1 (val 39).1 (val 40).1 (val 41).1 := h _ (List.mem_of_getElem? (i := 0) rfl) rfl
  have p1 : (val 1).1 = (val 4).1 + (-1) := h _ (List.mem_of_getElem? (i := 1) rfl)
  have p2 : (val 2).1 = (val 3).2 (val 5).1.toNat := h _ (List.mem_of_getElem? (i := 2) rfl)
  have p3 : (val 5).1 = (val 4).1 + (-1) := h _ (List.mem_of_getElem? (i := 3) rfl)
  have p4 : 1 ≤ (val 2).1 ∧ (val 2).1 ≤ 6 := h _ (List.mem_of_getElem? (i := 4) rfl)
  have p5 : 1 ≤ (val 0).1 ∧ (val 0).1 ≤ 1 := h _ (List.mem_of_getElem? (i := 5) rfl)
  have p6 : 1 ≤ (val 4).1 ∧ (val 4).1 ≤ 90 := h _ (List.mem_of_getElem? (i := 6) rfl)
  show (val 0).1 ≤ (val 1).1
  rw [show (val 5).1.toNat = ((val 4).1 - 1).toNat by omega] at p2
  have e := rv_pi_top p0 (by omega)
  have h1 : (val 4).1 = 1 ∨ 2 ≤ (val 4).1 := by omega
  rcases h1 with z | z
  · have := e.1 z; omega
  · omega
theorem ru_pop01_1 : rv_RlOk (72, [0, 1, 2, 3, 4, 5, 6, 7, 8, 9, 10, 11], [(6, [0, 20, 21, 22], Int.ofNat 0, Int.ofNat 0), (72, [20, 1, 21, 3, 4, 23, 25, 7, 8, 9, 10, 11], Int.ofNat 0, Int.ofNat 0), (1001, [2, 21], Int.ofNat 1, Int.ofNat 0), (1001, [5, 23], Int.negSucc 0, Int.ofNat 0), (5, [22, 26, 4], Int.ofNat 0, Int.ofNat 0), (1001, [26, 23], Int.negSucc 0, Int.ofNat 0), (5, [27, 28, 3], Int.ofNat 0, Int.ofNat 0), (1001, [28, 23], Int.negSucc 0, Int.ofNat 0), (1000, [27], Int.ofNat 3, Int.ofNat 3), (1001, [6, 25], Int.negSucc 0, Int.ofNat 0), (1000, [23], Int.ofNat 1, Int.ofNat 90)]) := by
  intro val h
  have p0 : ∀ j, (val 0).2 j = if j = (val 21).1.toNat then (val 22).1 else (val 20).2 j := h _ (List.mem_of_getElem? (i := 0) rfl)
  have p1 : rv_PI 0 0 1 (val 20).2 (val 1).1 (val 21).1 (val 3).2 (val 4).2 (val 23).1 (val 25).1 (val 7).1 (val 8).1 (val 9).1 (val 10).1 (val 11).1 := h _ (List.mem_of_getElem? (i := 1) rfl) rfl
  have p2 : (val 2).1 = (val 21).1 + 1 := h _ (List.mem_of_getElem? (i := 2) rfl)
  have p3 : (val 5).1 = (val 23).1 + (-1) := h _ (List.mem_of_getElem? (i := 3) rfl)
  have p4 : (val 22).1 = (val 4).2 (val 26).1.toNat := h _ (List.mem_of_getElem? (i := 4) rfl)
  have p5 : (val 26).1 = (val 23).1 + (-1) := h _ (List.mem_of_getElem? (i := 5) rfl)
  have p6 : (val 27).1 = (val 3).2 (val 28).1.toNat := h _ (List.mem_of_getElem? (i := 6) rfl)
  have p7 : (val 28).1 = (val 23).1 + (-1) := h _ (List.mem_of_getElem? (i := 7) rfl)
  have p8 : 3 ≤ (val 27).1 ∧ (val 27).1 ≤ 3 := h _ (List.mem_of_getElem? (i := 8) rfl)
  have p9 : (val 6).1 = (val 25).1 + (-1) := h _ (List.mem_of_getElem? (i := 9) rfl)
  have p10 : 1 ≤ (val 23).1 ∧ (val 23).1 ≤ 90 := h _ (List.mem_of_getElem? (i := 10) rfl)
  intro _
  show rv_PI 0 0 1 (val 0).2 (val 1).1 (val 2).1 (val 3).2 (val 4).2 (val 5).1 (val 6).1 (val 7).1 (val 8).1 (val 9).1 (val 10).1 (val 11).1
  rw [show (val 26).1.toNat = ((val 23).1 - 1).toNat by omega] at p4
  rw [show (val 28).1.toNat = ((val 23).1 - 1).toNat by omega] at p6
  rw [p4] at p0
  have e := rv_pi_popN p1 (by omega) p0 (by omega)
  rw [show (val 2).1 = (val 21).1 + 1 by omega, show (val 5).1 = (val 23).1 - 1 by omega, show (val 6).1 = (val 25).1 - 1 by omega]
  exact e
theorem ru_pop01_2 : rv_RlOk (72, [0, 1, 2, 3, 4, 5, 6, 7, 8, 9, 10, 11], [(6, [0, 20, 21, 22], Int.ofNat 0, Int.ofNat 0), (72, [20, 1, 21, 3, 4, 23, 6, 7, 8, 9, 10, 11], Int.ofNat 0, Int.ofNat 0), (1001, [2, 21], Int.ofNat 1, Int.ofNat 0), (1001, [5, 23], Int.negSucc 0, Int.ofNat 0), (5, [22, 26, 4], Int.ofNat 0, Int.ofNat 0), (1001, [26, 23], Int.negSucc 0, Int.ofNat 0), (5, [27, 28, 3], Int.ofNat 0, Int.ofNat 0), (1001, [28, 23], Int.negSucc 0, Int.ofNat 0), (4, [27, 29], Int.ofNat 0, Int.ofNat 0), (1000, [29], Int.ofNat 3, Int.ofNat 3), (1000, [27], Int.ofNat 1, Int.ofNat 6), (1000, [23], Int.ofNat 1, Int.ofNat 90)]) := by
  intro val h
  have p0 : ∀ j, (val 0).2 j = if j = (val 21).1.toNat then (val 22).1 else (val 20).2 j := h _ (List.mem_of_getElem? (i := 0) rfl)
  have p1 : rv_PI 0 0 1 (val 20).2 (val 1).1 (val 21).1 (val 3).2 (val 4).2 (val 23).1 (val 6).1 (val 7).1 (val 8).1 (val 9).1 (val 10).1 (val 11).1 := h _ (List.mem_of_getElem? (i := 1) rfl) rfl
  have p2 : (val 2).1 = (val 21).1 + 1 := h _ (List.mem_of_getElem? (i := 2) rfl)
  have p3 : (val 5).1 = (val 23).1 + (-1) := h _ (List.mem_of_getElem? (i := 3) rfl)
  have p4 : (val 22).1 = (val 4).2 (val 26).1.toNat := h _ (List.mem_of_getElem? (i := 4) rfl)
  have p5 : (val 26).1 = (val 23).1 + (-1) := h _ (List.mem_of_getElem? (i := 5) rfl)
  have p6 : (val 27).1 = (val 3).2 (val 28).1.toNat := h _ (List.mem_of_getElem? (i := 6) rfl)
  have p7 : (val 28).1 = (val 23).1 + (-1) := h _ (List.mem_of_getElem? (i := 7) rfl)
  have p8 : ¬ (val 27).1 = (val 29).1 := h _ (List.mem_of_getElem? (i := 8) rfl)
  have p9 : 3 ≤ (val 29).1 ∧ (val 29).1 ≤ 3 := h _ (List.mem_of_getElem? (i := 9) rfl)
  have p10 : 1 ≤ (val 27).1 ∧ (val 27).1 ≤ 6 := h _ (List.mem_of_getElem? (i := 10) rfl)
  have p11 : 1 ≤ (val 23).1 ∧ (val 23).1 ≤ 90 := h _ (List.mem_of_getElem? (i := 11) rfl)
  intro _
  show rv_PI 0 0 1 (val 0).2 (val 1).1 (val 2).1 (val 3).2 (val 4).2 (val 5).1 (val 6).1 (val 7).1 (val 8).1 (val 9).1 (val 10).1 (val 11).1
  rw [show (val 26).1.toNat = ((val 23).1 - 1).toNat by omega] at p4
  rw [show (val 28).1.toNat = ((val 23).1 - 1).toNat by omega] at p6
  rw [p4] at p0
  have e := rv_pi_popB p1 (by omega) p0 (by omega) (by omega)
  rw [show (val 2).1 = (val 21).1 + 1 by omega, show (val 5).1 = (val 23).1 - 1 by omega]
  exact e
def rl_pop01 : List rv_Rl := [(2, [0, 1], [(72, [30, 31, 32, 3, 34, 4, 36, 37, 38, 39, 40, 41], Int.ofNat 0, Int.ofNat 0), (1001, [1, 4], Int.negSucc 0, Int.ofNat 0), (5, [2, 5, 3], Int.ofNat 0, Int.ofNat 0), (1001, [5, 4], Int.negSucc 0, Int.ofNat 0), (1000, [2], Int.ofNat 1, Int.ofNat 6), (1000, [0], Int.ofNat 1, Int.ofNat 1), (1000, [4], Int.ofNat 1, Int.ofNat 90)]), (72, [0, 1, 2, 3, 4, 5, 6, 7, 8, 9, 10, 11], [(6, [0, 20, 21, 22], Int.ofNat 0, Int.ofNat 0), (72, [20, 1, 21, 3, 4, 23, 25, 7, 8, 9, 10, 11], Int.ofNat 0, Int.ofNat 0), (1001, [2, 21], Int.ofNat 1, Int.ofNat 0), (1001, [5, 23], Int.negSucc 0, Int.ofNat 0), (5, [22, 26, 4], Int.ofNat 0, Int.ofNat 0), (1001, [26, 23], Int.negSucc 0, Int.ofNat 0), (5, [27, 28, 3], Int.ofNat 0, Int.ofNat 0), (1001, [28, 23], Int.negSucc 0, Int.ofNat 0), (1000, [27], Int.ofNat 3, Int.ofNat 3), (1001, [6, 25], Int.negSucc 0, Int.ofNat 0), (1000, [23], Int.ofNat 1, Int.ofNat 90)]), (72, [0, 1, 2, 3, 4, 5, 6, 7, 8, 9, 10, 11], [(6, [0, 20, 21, 22], Int.ofNat 0, Int.ofNat 0), (72, [20, 1, 21, 3, 4, 23, 6, 7, 8, 9, 10, 11], Int.ofNat 0, Int.ofNat 0), (1001, [2, 21], Int.ofNat 1, Int.ofNat 0), (1001, [5, 23], Int.negSucc 0, Int.ofNat 0), (5, [22, 26, 4], Int.ofNat 0, Int.ofNat 0), (1001, [26, 23], Int.negSucc 0, Int.ofNat 0), (5, [27, 28, 3], Int.ofNat 0, Int.ofNat 0), (1001, [28, 23], Int.negSucc 0, Int.ofNat 0), (4, [27, 29], Int.ofNat 0, Int.ofNat 0), (1000, [29], Int.ofNat 3, Int.ofNat 3), (1000, [27], Int.ofNat 1, Int.ofNat 6), (1000, [23], Int.ofNat 1, Int.ofNat 90)])]
theorem rlo_pop01 : ∀ r ∈ rl_pop01, rv_RlOk r := List.forall_mem_cons.mpr ⟨ru_pop01_0, List.forall_mem_cons.mpr ⟨ru_pop01_1, List.forall_mem_cons.mpr ⟨ru_pop01_2, fun _ h => absurd h List.not_mem_nil⟩⟩⟩
theorem ru_pop10_0 : rv_RlOk (2, [0, 1], [(74, [30, 31, 32, 3, 34, 4, 36, 37, 38, 39, 40, 41], Int.ofNat 0, Int.ofNat 0), (1001, [1, 4], Int.negSucc 0, Int.ofNat 0), (5, [2, 5, 3], Int.ofNat 0, Int.ofNat 0), (1001, [5, 4], Int.negSucc 0, Int.ofNat 0), (1000, [2], Int.ofNat 1, Int.ofNat 6), (1000, [0], Int.ofNat 1, Int.ofNat 1), (1000, [4], Int.ofNat 1, Int.ofNat 90)]) := by
  intro val h
  have p0 : rv_PI 1 1 1 (val 30).2 (val 31).1 (val 32).1 (val 3).2 (val 34).2 (val 4).1 (val 36).1 (val 37).1 (val 38).1 (val 39).1 (val 40).1 (val 41).1 := h _ (List.mem_of_getElem? (i := 0) rfl) rfl
  have p1 : (val 1).1 = (val 4).1 + (-1) := h _ (List.mem_of_getElem? (i := 1) rfl)
  have p2 : (val 2).1 = (val 3).2 (val 5).1.toNat := h _ (List.mem_of_getElem? (i := 2) rfl)
  have p3 : (val 5).1 = (val 4).1 + (-1) := h _ (List.mem_of_getElem? (i := 3) rfl)
  have p4 : 1 ≤ (val 2).1 ∧ (val 2).1 ≤ 6 := h _ (List.mem_of_getElem? (i := 4) rfl)
  have p5 : 1 ≤ (val 0).1 ∧ (val 0).1 ≤ 1 := h _ (List.mem_of_getElem? (i := 5) rfl)
  have p6 : 1 ≤ (val 4).1 ∧ (val 4).1 ≤ 90 := h _ (List.mem_of_getElem? (i := 6) rfl)
  show (val 0).1 ≤ (val 1).1
  rw [show (val 5).1.toNat = ((val 4).1 - 1).toNat by omega] at p2
  have e := rv_pi_top p0 (by omega)
  have h1 : (val 4).1 = 1 ∨ 2 ≤ (val 4).1 := by omega
  rcases h1 with z | z
  · have := e.1 z; omega
  · omega
theorem ru_pop10_1 : rv_RlOk (74, [0, 1, 2, 3, 4, 5, 6, 7, 8, 9, 10, 11], [(6, [0, 20, 21, 22], Int.ofNat 0, Int.ofNat 0), (74, [20, 1, 21, 3, 4, 23, 25, 7, 8, 9, 10, 11], Int.ofNat 0, Int.ofNat 0), (1001, [2, 21], Int.ofNat 1, Int.ofNat 0), (1001, [5, 23], Int.negSucc 0, Int.ofNat 0), (5, [22, 26, 4], Int.ofNat 0, Int.ofNat 0), (1001, [26, 23], Int.negSucc 0, Int.ofNat 0), (5, [27, 28, 3], Int.ofNat 0, Int.ofNat 0), (1001, [28, 23], Int.negSucc 0, Int.ofNat 0), (1000, [27], Int.ofNat 3, Int.ofNat 3), (1001, [6, 25], Int.negSucc 0, Int.ofNat 0), (1000, [23], Int.ofNat 1, Int.ofNat 90)]) := by
  intro val h
  have p0 : ∀ j, (val 0).2 j = if j = (val 21).1.toNat then (val 22).1 else (val 20).2 j := h _ (List.mem_of_getElem? (i := 0) rfl)
  have p1 : rv_PI 1 1 1 (val 20).2 (val 1).1 (val 21).1 (val 3).2 (val 4).2 (val 23).1 (val 25).1 (val 7).1 (val 8).1 (val 9).1 (val 10).1 (val 11).1 := h _ (List.mem_of_getElem? (i := 1) rfl) rfl
  have p2 : (val 2).1 = (val 21).1 + 1 := h _ (List.mem_of_getElem? (i := 2) rfl)
  have p3 : (val 5).1 = (val 23).1 + (-1) := h _ (List.mem_of_getElem? (i := 3) rfl)
  have p4 : (val 22).1 = (val 4).2 (val 26).1.toNat := h _ (List.mem_of_getElem? (i := 4) rfl)
  have p5 : (val 26).1 = (val 23).1 + (-1) := h _ (List.mem_of_getElem? (i := 5) rfl)
  have p6 : (val 27).1 = (val 3).2 (val 28).1.toNat := h _ (List.mem_of_getElem? (i := 6) rfl)
  have p7 : (val 28).1 = (val 23).1 + (-1) := h _ (List.mem_of_getElem? (i := 7) rfl)
  have p8 : 3 ≤ (val 27).1 ∧ (val 27).1 ≤ 3 := h _ (List.mem_of_getElem? (i := 8) rfl)
  have p9 : (val 6).1 = (val 25).1 + (-1) := h _ (List.mem_of_getElem? (i := 9) rfl)
  have p10 : 1 ≤ (val 23).1 ∧ (val 23).1 ≤ 90 := h _ (List.mem_of_getElem? (i := 10) rfl)
  intro _
  show rv_PI 1 1 1 (val 0).2 (val 1).1 (val 2).1 (val 3).2 (val 4).2 (val 5).1 (val 6).1 (val 7).1 (val 8).1 (val 9).1 (val 10).1 (val 11).1
  rw [show (val 26).1.toNat = ((val 23).1 - 1).toNat by omega] at p4
  rw [show (val 28).1.toNat = ((val 23).1 - 1).toNat by omega] at p6
  rw [p4] at p0
  have e := rv_pi_popN p1 (by omega) p0 (by omega)
  rw [show (val 2).1 = (val 21).1 + 1 by omega, show (val 5).1 = (val 23).1 - 1 by omega, show (val 6).1 = (val 25).1 - 1 by omega]
  exact e
theorem ru_pop10_2 : rv_RlOk (74, [0, 1, 2, 3, 4, 5, 6, 7, 8, 9, 10, 11], [(6, [0, 20, 21, 22], Int.ofNat 0, Int.ofNat 0), (74, [20, 1, 21, 3, 4, 23, 6, 7, 8, 9, 10, 11], Int.ofNat 0, Int.ofNat 0), (1001, [2, 21], Int.ofNat 1, Int.ofNat 0), (1001, [5, 23], Int.negSucc 0, Int.ofNat 0), (5, [22, 26, 4], Int.ofNat 0, Int.ofNat 0), (1001, [26, 23], Int.negSucc 0, Int.ofNat 0), (5, [27, 28, 3], Int.ofNat 0, Int.ofNat 0), (1001, [28, 23], Int.negSucc 0, Int.ofNat 0), (4, [27, 29], Int.ofNat 0, Int.ofNat 0), (1000, [29], Int.ofNat 3, Int.ofNat 3), (1000, [27], Int.ofNat 1, Int.ofNat 6), (1000, [23], Int.ofNat 1, Int.ofNat 90)]) := by
  intro val h
  have p0 : ∀ j, (val 0).2 j = if j = (val 21).1.toNat then (val 22).1 else (val 20).2 j := h _ (List.mem_of_getElem? (i := 0) rfl)
  have p1 : rv_PI 1 1 1 (val 20).2 (val 1).1 (val 21).1 (val 3).2 (val 4).2 (val 23).1 (val 6).1 (val 7).1 (val 8).1 (val 9).1 (val 10).1 (val 11).1 := h _ (List.mem_of_getElem? (i := 1) rfl) rfl
  have p2 : (val 2).1 = (val 21).1 + 1 := h _ (List.mem_of_getElem? (i := 2) rfl)
  have p3 : (val 5).1 = (val 23).1 + (-1) := h _ (List.mem_of_getElem? (i := 3) rfl)
  have p4 : (val 22).1 = (val 4).2 (val 26).1.toNat := h _ (List.mem_of_getElem? (i := 4) rfl)
  have p5 : (val 26).1 = (val 23).1 + (-1) := h _ (List.mem_of_getElem? (i := 5) rfl)
  have p6 : (val 27).1 = (val 3).2 (val 28).1.toNat := h _ (List.mem_of_getElem? (i := 6) rfl)
  have p7 : (val 28).1 = (val 23).1 + (-1) := h _ (List.mem_of_getElem? (i := 7) rfl)
  have p8 : ¬ (val 27).1 = (val 29).1 := h _ (List.mem_of_getElem? (i := 8) rfl)
  have p9 : 3 ≤ (val 29).1 ∧ (val 29).1 ≤ 3 := h _ (List.mem_of_getElem? (i := 9) rfl)
  have p10 : 1 ≤ (val 27).1 ∧ (val 27).1 ≤ 6 := h _ (List.mem_of_getElem? (i := 10) rfl)
  have p11 : 1 ≤ (val 23).1 ∧ (val 23).1 ≤ 90 := h _ (List.mem_of_getElem? (i := 11) rfl)
  intro _
  show rv_PI 1 1 1 (val 0).2 (val 1).1 (val 2).1 (val 3).2 (val 4).2 (val 5).1 (val 6).1 (val 7).1 (val 8).1 (val 9).1 (val 10).1 (val 11).1
  rw [show (val 26).1.toNat = ((val 23).1 - 1).toNat by omega] at p4
  rw [show (val 28).1.toNat = ((val 23).1 - 1).toNat by omega] at p6
  rw [p4] at p0
  have e := rv_pi_popB p1 (by omega) p0 (by omega) (by omega)
  rw [show (val 2).1 = (val 21).1 + 1 by omega, show (val 5).1 = (val 23).1 - 1 by omega]
  exact e
def rl_pop10 : List rv_Rl := [(2, [0, 1], [(74, [30, 31, 32, 3, 34, 4, 36, 37, 38, 39, 40, 41], Int.ofNat 0, Int.ofNat 0), (1001, [1, 4], Int.negSucc 0, Int.ofNat 0), (5, [2, 5, 3], Int.ofNat 0, Int.ofNat 0), (1001, [5, 4], Int.negSucc 0, Int.ofNat 0), (1000, [2], Int.ofNat 1, Int.ofNat 6), (1000, [0], Int.ofNat 1, Int.ofNat 1), (1000, [4], Int.ofNat 1, Int.ofNat 90)]), (74, [0, 1, 2, 3, 4, 5, 6, 7, 8, 9, 10, 11], [(6, [0, 20, 21, 22], Int.ofNat 0, Int.ofNat 0), (74, [20, 1, 21, 3, 4, 23, 25, 7, 8, 9, 10, 11], Int.ofNat 0, Int.ofNat 0), (1001, [2, 21], Int.ofNat 1, Int.ofNat 0), (1001, [5, 23], Int.negSucc 0, Int.ofNat 0), (5, [22, 26, 4], Int.ofNat 0, Int.ofNat 0), (1001, [26, 23], Int.negSucc 0, Int.ofNat 0), (5, [27, 28, 3], Int.ofNat 0, Int.ofNat 0), (1001, [28, 23], Int.negSucc 0, Int.ofNat 0), (1000, [27], Int.ofNat 3, Int.ofNat 3), (1001, [6, 25], Int.negSucc 0, Int.ofNat 0), (1000, [23], Int.ofNat 1, Int.ofNat 90)]), (74, [0, 1, 2, 3, 4, 5, 6, 7, 8, 9, 10, 11], [(6, [0, 20, 21, 22], Int.ofNat 0, Int.ofNat 0), (74, [20, 1, 21, 3, 4, 23, 6, 7, 8, 9, 10, 11], Int.ofNat 0, Int.ofNat 0), (1001, [2, 21], Int.ofNat 1, Int.ofNat 0), (1001, [5, 23], Int.negSucc 0, Int.ofNat 0), (5, [22, 26, 4], Int.ofNat 0, Int.ofNat 0), (1001, [26, 23], Int.negSucc 0, Int.ofNat 0), (5, [27, 28, 3], Int.ofNat 0, Int.ofNat 0), (1001, [28, 23], Int.negSucc 0, Int.ofNat 0), (4, [27, 29], Int.ofNat 0, Int.ofNat 0), (1000, [29], Int.ofNat 3, Int.ofNat 3), (1000, [27], Int.ofNat 1, Int.ofNat 6), (1000, [23], Int.ofNat 1, Int.ofNat 90)])]
theorem rlo_pop10 : ∀ r ∈ rl_pop10, rv_RlOk r := List.forall_mem_cons.mpr ⟨ru_pop10_0, List.forall_mem_cons.mpr ⟨ru_pop10_1, List.forall_mem_cons.mpr ⟨ru_pop10_2, fun _ h => absurd h List.not_mem_nil⟩⟩⟩
theorem ru_pop11_0 : rv_RlOk (2, [0, 1], [(76, [30, 31, 32, 3, 34, 4, 36, 37, 38, 39, 40, 41], Int.ofNat 0, Int.ofNat 0), (1001, [1, 4], Int.negSucc 0, Int.ofNat 0), (5, [2, 5, 3], Int.ofNat 0, Int.ofNat 0), (1001, [5, 4], Int.negSucc 0, Int.ofNat 0), (1000, [2], Int.ofNat 1, Int.ofNat 6), (1000, [0], Int.ofNat 1, Int.ofNat 1), (1000, [4], Int.ofNat 1, Int.ofNat 90)]) := by
  intro val h
  have p0 : rv_PI 1 0 1 (val 30).2 (val 31).1 (val 32).1 (val 3).2 (val 34).2 (val 4).1 (val 36).1 (val 37).1 (val 38).1 (val 39).1 (val 40).1 (val 41).1 := h _ (List.mem_of_getElem? (i := 0) rfl) rfl
  have p1 : (val 1).1 = (val 4).1 + (-1) := h _ (List.mem_of_getElem? (i := 1) rfl)
  have p2 : (val 2).1 = (val 3).2 (val 5).1.toNat := h _ (List.mem_of_getElem? (i := 2) rfl)
  have p3 : (val 5).1 = (val 4).1 + (-1) := h _ (List.mem_of_getElem? (i := 3) rfl)
  have p4 : 1 ≤ (val 2).1 ∧ (val 2).1 ≤ 6 := h _ (List.mem_of_getElem? (i := 4) rfl)
  have p5 : 1 ≤ (val 0).1 ∧ (val 0).1 ≤ 1 := h _ (List.mem_of_getElem? (i := 5) rfl)
  have p6 : 1 ≤ (val 4).1 ∧ (val 4).1 ≤ 90 := h _ (List.mem_of_getElem? (i := 6) rfl)
  show (val 0).1 ≤ (val 1).1
  rw [show (val 5).1.toNat = ((val 4).1 - 1).toNat by omega] at p2
  have e := rv_pi_top p0 (by omega)
  have h1 : (val 4).1 = 1 ∨ 2 ≤ (val 4).1 := by omega
  rcases h1 with z | z
  · have := e.1 z; omega
  · omega
theorem ru_pop11_1 : rv_RlOk (76, [0, 1, 2, 3, 4, 5, 6, 7, 8, 9, 10, 11], [(6, [0, 20, 21, 22], Int.ofNat 0, Int.ofNat 0), (76, [20, 1, 21, 3, 4, 23, 25, 7, 8, 9, 10, 11], Int.ofNat 0, Int.ofNat 0), (1001, [2, 21], Int.ofNat 1, Int.ofNat 0), (1001, [5, 23], Int.negSucc 0, Int.ofNat 0), (5, [22, 26, 4], Int.ofNat 0, Int.ofNat 0), (1001, [26, 23], Int.negSucc 0, Int.ofNat 0), (5, [27, 28, 3], Int.ofNat 0, Int.ofNat 0), (1001, [28, 23], Int.negSucc 0, Int.ofNat 0), (1000, [27], Int.ofNat 3, Int.ofNat 3), (1001, [6, 25], Int.negSucc 0, Int.ofNat 0), (1000, [23], Int.ofNat 1, Int.ofNat 90)]) := by
  intro val h
  have p0 : ∀ j, (val 0).2 j = if j = (val 21).1.toNat then (val 22).1 else (val 20).2 j := h _ (List.mem_of_getElem? (i := 0) rfl)
  have p1 : rv_PI 1 0 1 (val 20).2 (val 1).1 (val 21).1 (val 3).2 (val 4).2 (val 23).1 (val 25).1 (val 7).1 (val 8).1 (val 9).1 (val 10).1 (val 11).1 := h _ (List.mem_of_getElem? (i := 1) rfl) rfl
  have p2 : (val 2).1 = (val 21).1 + 1 := h _ (List.mem_of_getElem? (i := 2) rfl)
  have p3 : (val 5).1 = (val 23).1 + (-1) := h _ (List.mem_of_getElem? (i := 3) rfl)
  have p4 : (val 22).1 = (val 4).2 (val 26).1.toNat := h _ (List.mem_of_getElem? (i := 4) rfl)
  have p5 : (val 26).1 = (val 23).1 + (-1) := h _ (List.mem_of_getElem? (i := 5) rfl)
  have p6 : (val 27).1 = (val 3).2 (val 28).1.toNat := h _ (List.mem_of_getElem? (i := 6) rfl)
  have p7 : (val 28).1 = (val 23).1 + (-1) := h _ (List.mem_of_getElem? (i := 7) rfl)
  have p8 : 3 ≤ (val 27).1 ∧ (val 27).1 ≤ 3 := h _ (List.mem_of_getElem? (i := 8) rfl)
  have p9 : (val 6).1 = (val 25).1 + (-1) := h _ (List.mem_of_getElem? (i := 9) rfl)
  have p10 : 1 ≤ (val 23).1 ∧ (val 23).1 ≤ 90 := h _ (List.mem_of_getElem? (i := 10) rfl)
  intro _
  show rv_PI 1 0 1 (val 0).2 (val 1).1 (val 2).1 (val 3).2 (val 4).2 (val 5).1 (val 6).1 (val 7).1 (val 8).1 (val 9).1 (val 10).1 (val 11).1
  rw [show (val 26).1.toNat = ((val 23).1 - 1).toNat by omega] at p4
  rw [show (val 28).1.toNat = ((val 23).1 - 1).toNat by omega] at p6
  rw [p4] at p0
  have e := rv_pi_popN p1 (by omega) p0 (by omega)
  rw [show (val 2).1 = (val 21).1 + 1 by omega, show (val 5).1 = (val 23).1 - 1 by omega, show (val 6).1 = (val 25).1 - 1 by omega]
  exact e
theorem ru_pop11_2 : rv_RlOk (76, [0, 1, 2, 3, 4, 5, 6, 7, 8, 9, 10, 11], [(6, [0, 20, 21, 22], Int.ofNat 0, Int.ofNat 0), (76, [20, 1, 21, 3, 4, 23, 6, 7, 8, 9, 10, 11], Int.ofNat 0, Int.ofNat 0), (1001, [2, 21], Int.ofNat 1, Int.ofNat 0), (1001, [5, 23], Int.negSucc 0, Int.ofNat 0), (5, [22, 26, 4], Int.ofNat 0, Int.ofNat 0), (1001, [26, 23], Int.negSucc 0, Int.ofNat 0), (5, [27, 28, 3], Int.ofNat 0, Int.ofNat 0), (1001, [28, 23], Int.negSucc 0, Int.ofNat 0), (4, [27, 29], Int.ofNat 0, Int.ofNat 0), (1000, [29], Int.ofNat 3, Int.ofNat 3), (1000, [27], Int.ofNat 1, Int.ofNat 6), (1000, [23], Int.ofNat 1, Int.ofNat 90)]) := by
  intro val h
  have p0 : ∀ j, (val 0).2 j = if j = (val 21).1.toNat then (val 22).1 else (val 20).2 j := h _ (List.mem_of_getElem? (i := 0) rfl)
  have p1 : rv_PI 1 0 1 (val 20).2 (val 1).1 (val 21).1 (val 3).2 (val 4).2 (val 23).1 (val 6).1 (val 7).1 (val 8).1 (val 9).1 (val 10).1 (val 11).1 := h _ (List.mem_of_getElem? (i := 1) rfl) rfl
  have p2 : (val 2).1 = (val 21).1 + 1 := h _ (List.mem_of_getElem? (i := 2) rfl)
  have p3 : (val 5).1 = (val 23).1 + (-1) := h _ (List.mem_of_getElem? (i := 3) rfl)
  have p4 : (val 22).1 = (val 4).2 (val 26).1.toNat := h _ (List.mem_of_getElem? (i := 4) rfl)
  have p5 : (val 26).1 = (val 23).1 + (-1) := h _ (List.mem_of_getElem? (i := 5) rfl)
  have p6 : (val 27).1 = (val 3).2 (val 28).1.toNat := h _ (List.mem_of_getElem? (i := 6) rfl)
  have p7 : (val 28).1 = (val 23).1 + (-1) := h _ (List.mem_of_getElem? (i := 7) rfl)
  have p8 : ¬ (val 27).1 = (val 29).1 := h _ (List.mem_of_getElem? (i := 8) rfl)
  have p9 : 3 ≤ (val 29).1 ∧ (val 29).1 ≤ 3 := h _ (List.mem_of_getElem? (i := 9) rfl)
  have p10 : 1 ≤ (val 27).1 ∧ (val 27).1 ≤ 6 := h _ (List.mem_of_getElem? (i := 10) rfl)
  have p11 : 1 ≤ (val 23).1 ∧ (val 23).1 ≤ 90 := h _ (List.mem_of_getElem? (i := 11) rfl)
  intro _
  show rv_PI 1 0 1 (val 0).2 (val 1).1 (val 2).1 (val 3).2 (val 4).2 (val 5).1 (val 6).1 (val 7).1 (val 8).1 (val 9).1 (val 10).1 (val 11).1
  rw [show (val 26).1.toNat = ((val 23).1 - 1).toNat by omega] at p4
  rw [show (val 28).1.toNat = ((val 23).1 - 1).toNat by omega] at p6
  rw [p4] at p0
  have e := rv_pi_popB p1 (by omega) p0 (by omega) (by omega)
  rw [show (val 2).1 = (val 21).1 + 1 by omega, show (val 5).1 = (val 23).1 - 1 by omega]
  exact e
def rl_pop11 : List rv_Rl := [(2, [0, 1], [(76, [30, 31, 32, 3, 34, 4, 36, 37, 38, 39, 40, 41], Int.ofNat 0, Int.ofNat 0), (1001, [1, 4], Int.negSucc 0, Int.ofNat 0), (5, [2, 5, 3], Int.ofNat 0, Int.ofNat 0), (1001, [5, 4], Int.negSucc 0, Int.ofNat 0), (1000, [2], Int.ofNat 1, Int.ofNat 6), (1000, [0], Int.ofNat 1, Int.ofNat 1), (1000, [4], Int.ofNat 1, Int.ofNat 90)]), (76, [0, 1, 2, 3, 4, 5, 6, 7, 8, 9, 10, 11], [(6, [0, 20, 21, 22], Int.ofNat 0, Int.ofNat 0), (76, [20, 1, 21, 3, 4, 23, 25, 7, 8, 9, 10, 11], Int.ofNat 0, Int.ofNat 0), (1001, [2, 21], Int.ofNat 1, Int.ofNat 0), (1001, [5, 23], Int.negSucc 0, Int.ofNat 0), (5, [22, 26, 4], Int.ofNat 0, Int.ofNat 0), (1001, [26, 23], Int.negSucc 0, Int.ofNat 0), (5, [27, 28, 3], Int.ofNat 0, Int.ofNat 0), (1001, [28, 23], Int.negSucc 0, Int.ofNat 0), (1000, [27], Int.ofNat 3, Int.ofNat 3), (1001, [6, 25], Int.negSucc 0, Int.ofNat 0), (1000, [23], Int.ofNat 1, Int.ofNat 90)]), (76, [0, 1, 2, 3, 4, 5, 6, 7, 8, 9, 10, 11], [(6, [0, 20, 21, 22], Int.ofNat 0, Int.ofNat 0), (76, [20, 1, 21, 3, 4, 23, 6, 7, 8, 9, 10, 11], Int.ofNat 0, Int.ofNat 0), (1001, [2, 21], Int.ofNat 1, Int.ofNat 0), (1001, [5, 23], Int.negSucc 0, Int.ofNat 0), (5, [22, 26, 4], Int.ofNat 0, Int.ofNat 0), (1001, [26, 23], Int.negSucc 0, Int.ofNat 0), (5, [27, 28, 3], Int.ofNat 0, Int.ofNat 0), (1001, [28, 23], Int.negSucc 0, Int.ofNat 0), (4, [27, 29], Int.ofNat 0, Int.ofNat 0), (1000, [29], Int.ofNat 3, Int.ofNat 3), (1000, [27], Int.ofNat 1, Int.ofNat 6), (1000, [23], Int.ofNat 1, Int.ofNat 90)])]
theorem rlo_pop11 : ∀ r ∈ rl_pop11, rv_RlOk r := List.forall_mem_cons.mpr ⟨ru_pop11_0, List.forall_mem_cons.mpr ⟨ru_pop11_1, List.forall_mem_cons.mpr ⟨ru_pop11_2, fun _ h => absurd h List.not_mem_nil⟩⟩⟩
theorem ru_pos_0 : rv_RlOk (2, [0, 1], [(55, [2, 3, 1, 4], Int.ofNat 0, Int.ofNat 0), (2, [0, 3], Int.ofNat 0, Int.ofNat 0)]) := by
  intro val h
  have p0 : (val 3).1 ≤ (val 1).1 ∧ (val 1).1 ≤ (val 4).1 ∧ (¬ (val 2).1 = 0 → (val 3).1 < (val 1).1) := h _ (List.mem_of_getElem? (i := 0) rfl) rfl
  have p1 : (val 0).1 ≤ (val 3).1 := h _ (List.mem_of_getElem? (i := 1) rfl)
  show (val 0).1 ≤ (val 1).1
  omega
theorem ru_pos_1 : rv_RlOk (1, [0, 1], [(55, [2, 3, 1, 4], Int.ofNat 0, Int.ofNat 0), (1, [0, 3], Int.ofNat 0, Int.ofNat 0)]) := by
  intro val h
  have p0 : (val 3).1 ≤ (val 1).1 ∧ (val 1).1 ≤ (val 4).1 ∧ (¬ (val 2).1 = 0 → (val 3).1 < (val 1).1) := h _ (List.mem_of_getElem? (i := 0) rfl) rfl
  have p1 : (val 0).1 < (val 3).1 := h _ (List.mem_of_getElem? (i := 1) rfl)
  show (val 0).1 < (val 1).1
  omega
theorem ru_pos_2 : rv_RlOk (2, [0, 1], [(55, [2, 3, 0, 1], Int.ofNat 0, Int.ofNat 0)]) := by
  intro val h
  have p0 : (val 3).1 ≤ (val 0).1 ∧ (val 0).1 ≤ (val 1).1 ∧ (¬ (val 2).1 = 0 → (val 3).1 < (val 0).1) := h _ (List.mem_of_getElem? (i := 0) rfl) rfl
  show (val 0).1 ≤ (val 1).1
  omega
theorem ru_pos_3 : rv_RlOk (2, [0, 1], [(2, [2, 1], Int.ofNat 0, Int.ofNat 0), (55, [3, 0, 2, 4], Int.ofNat 0, Int.ofNat 0)]) := by
  intro val h
  have p0 : (val 2).1 ≤ (val 1).1 := h _ (List.mem_of_getElem? (i := 0) rfl)
  have p1 : (val 0).1 ≤ (val 2).1 ∧ (val 2).1 ≤ (val 4).1 ∧ (¬ (val 3).1 = 0 → (val 0).1 < (val 2).1) := h _ (List.mem_of_getElem? (i := 1) rfl) rfl
  show (val 0).1 ≤ (val 1).1
  omega
theorem ru_pos_4 : rv_RlOk (1, [0, 1], [(2, [2, 1], Int.ofNat 0, Int.ofNat 0), (55, [3, 0, 2, 4], Int.ofNat 0, Int.ofNat 0), (1000, [3], Int.ofNat 1, Int.ofNat 5)]) := by
  intro val h
  have p0 : (val 2).1 ≤ (val 1).1 := h _ (List.mem_of_getElem? (i := 0) rfl)
  have p1 : (val 0).1 ≤ (val 2).1 ∧ (val 2).1 ≤ (val 4).1 ∧ (¬ (val 3).1 = 0 → (val 0).1 < (val 2).1) := h _ (List.mem_of_getElem? (i := 1) rfl) rfl
  have p2 : 1 ≤ (val 3).1 ∧ (val 3).1 ≤ 5 := h _ (List.mem_of_getElem? (i := 2) rfl)
  show (val 0).1 < (val 1).1
  omega
def rl_pos : List rv_Rl := [(2, [0, 1], [(55, [2, 3, 1, 4], Int.ofNat 0, Int.ofNat 0), (2, [0, 3], Int.ofNat 0, Int.ofNat 0)]), (1, [0, 1], [(55, [2, 3, 1, 4], Int.ofNat 0, Int.ofNat 0), (1, [0, 3], Int.ofNat 0, Int.ofNat 0)]), (2, [0, 1], [(55, [2, 3, 0, 1], Int.ofNat 0, Int.ofNat 0)]), (2, [0, 1], [(2, [2, 1], Int.ofNat 0, Int.ofNat 0), (55, [3, 0, 2, 4], Int.ofNat 0, Int.ofNat 0)]), (1, [0, 1], [(2, [2, 1], Int.ofNat 0, Int.ofNat 0), (55, [3, 0, 2, 4], Int.ofNat 0, Int.ofNat 0), (1000, [3], Int.ofNat 1, Int.ofNat 5)])]
theorem rlo_pos : ∀ r ∈ rl_pos, rv_RlOk r := List.forall_mem_cons.mpr ⟨ru_pos_0, List.forall_mem_cons.mpr ⟨ru_pos_1, List.forall_mem_cons.mpr ⟨ru_pos_2, List.forall_mem_cons.mpr ⟨ru_pos_3, List.forall_mem_cons.mpr ⟨ru_pos_4, fun _ h => absurd h List.not_mem_nil⟩⟩⟩⟩⟩
theorem ru_pos0_0 : rv_RlOk (55, [0, 1, 2, 3], [(1, [1, 2], Int.ofNat 0, Int.ofNat 0), (2, [2, 3], Int.ofNat 0, Int.ofNat 0)]) := by
  intro val h
  have p0 : (val 1).1 < (val 2).1 := h _ (List.mem_of_getElem? (i := 0) rfl)
  have p1 : (val 2).1 ≤ (val 3).1 := h _ (List.mem_of_getElem? (i := 1) rfl)
  intro _
  show (val 1).1 ≤ (val 2).1 ∧ (val 2).1 ≤ (val 3).1 ∧ (¬ (val 0).1 = 0 → (val 1).1 < (val 2).1)
  omega
theorem ru_pos0_1 : rv_RlOk (55, [0, 1, 2, 3], [(1000, [0], Int.ofNat 0, Int.ofNat 0), (2, [1, 2], Int.ofNat 0, Int.ofNat 0), (2, [2, 3], Int.ofNat 0, Int.ofNat 0)]) := by
  intro val h
  have p0 : 0 ≤ (val 0).1 ∧ (val 0).1 ≤ 0 := h _ (List.mem_of_getElem? (i := 0) rfl)
  have p1 : (val 1).1 ≤ (val 2).1 := h _ (List.mem_of_getElem? (i := 1) rfl)
  have p2 : (val 2).1 ≤ (val 3).1 := h _ (List.mem_of_getElem? (i := 2) rfl)
  intro _
  show (val 1).1 ≤ (val 2).1 ∧ (val 2).1 ≤ (val 3).1 ∧ (¬ (val 0).1 = 0 → (val 1).1 < (val 2).1)
  omega
def rl_pos0 : List rv_Rl := [(55, [0, 1, 2, 3], [(1, [1, 2], Int.ofNat 0, Int.ofNat 0), (2, [2, 3], Int.ofNat 0, Int.ofNat 0)]), (55, [0, 1, 2, 3], [(1000, [0], Int.ofNat 0, Int.ofNat 0), (2, [1, 2], Int.ofNat 0, Int.ofNat 0), (2, [2, 3], Int.ofNat 0, Int.ofNat 0)])]
theorem rlo_pos0 : ∀ r ∈ rl_pos0, rv_RlOk r := List.forall_mem_cons.mpr ⟨ru_pos0_0, List.forall_mem_cons.mpr ⟨ru_pos0_1, fun _ h => absurd h List.not_mem_nil⟩⟩
theorem ru_psh00_0 : rv_RlOk (71, [0, 1, 2, 3, 4, 5, 6, 7, 8, 9, 10, 11], [(6, [3, 20, 21, 22], Int.ofNat 0, Int.ofNat 0), (6, [4, 23, 21, 24], Int.ofNat 0, Int.ofNat 0), (70, [0, 1, 2, 20, 23, 21, 6, 7, 8, 9, 10, 11], Int.ofNat 0, Int.ofNat 0), (1001, [5, 21], Int.ofNat 1, Int.ofNat 0), (1000, [22], Int.ofNat 1, Int.ofNat 2), (1000, [24], Int.ofNat 37, Int.ofNat 62), (1000, [21], Int.ofNat 1, Int.ofNat 90)]) := by
  intro val h
  have p0 : ∀ j, (val 3).2 j = if j = (val 21).1.toNat then (val 22).1 else (val 20).2 j := h _ (List.mem_of_getElem? (i := 0) rfl)
  have p1 : ∀ j, (val 4).2 j = if j = (val 21).1.toNat then (val 24).1 else (val 23).2 j := h _ (List.mem_of_getElem? (i := 1) rfl)
  have p2 : rv_PI 0 1 1 (val 0).2 (val 1).1 (val 2).1 (val 20).2 (val 23).2 (val 21).1 (val 6).1 (val 7).1 (val 8).1 (val 9).1 (val 10).1 (val 11).1 := h _ (List.mem_of_getElem? (i := 2) rfl) rfl
  have p3 : (val 5).1 = (val 21).1 + 1 := h _ (List.mem_of_getElem? (i := 3) rfl)
  have p4 : 1 ≤ (val 22).1 ∧ (val 22).1 ≤ 2 := h _ (List.mem_of_getElem? (i := 4) rfl)
  have p5 : 37 ≤ (val 24).1 ∧ (val 24).1 ≤ 62 := h _ (List.mem_of_getElem? (i := 5) rfl)
  have p6 : 1 ≤ (val 21).1 ∧ (val 21).1 ≤ 90 := h _ (List.mem_of_getElem? (i := 6) rfl)
  intro _
  show rv_PI 0 1 0 (val 0).2 (val 1).1 (val 2).1 (val 3).2 (val 4).2 (val 5).1 (val 6).1 (val 7).1 (val 8).1 (val 9).1 (val 10).1 (val 11).1
  have e := rv_pi_push p2 (by omega) p0 p1 (Or.inl (by omega)) (Or.inl (by omega))
  rw [show (val 5).1 = (val 21).1 + 1 by omega]
  exact e
theorem ru_psh00_1 : rv_RlOk (71, [0, 1, 2, 3, 4, 5, 6, 7, 8, 9, 10, 11], [(6, [3, 20, 21, 22], Int.ofNat 0, Int.ofNat 0), (6, [4, 23, 21, 24], Int.ofNat 0, Int.ofNat 0), (70, [0, 1, 2, 20, 23, 21, 6, 7, 8, 9, 10, 11], Int.ofNat 0, Int.ofNat 0), (1001, [5, 21], Int.ofNat 1, Int.ofNat 0), (1000, [22], Int.ofNat 1, Int.ofNat 2), (1000, [24], Int.ofNat 124, Int.ofNat 124), (1000, [21], Int.ofNat 1, Int.ofNat 90)]) := by
  intro val h
  have p0 : ∀ j, (val 3).2 j = if j = (val 21).1.toNat then (val 22).1 else (val 20).2 j := h _ (List.mem_of_getElem? (i := 0) rfl)
  have p1 : ∀ j, (val 4).2 j = if j = (val 21).1.toNat then (val 24).1 else (val 23).2 j := h _ (List.mem_of_getElem? (i := 1) rfl)
  have p2 : rv_PI 0 1 1 (val 0).2 (val 1).1 (val 2).1 (val 20).2 (val 23).2 (val 21).1 (val 6).1 (val 7).1 (val 8).1 (val 9).1 (val 10).1 (val 11).1 := h _ (List.mem_of_getElem? (i := 2) rfl) rfl
  have p3 : (val 5).1 = (val 21).1 + 1 := h _ (List.mem_of_getElem? (i := 3) rfl)
  have p4 : 1 ≤ (val 22).1 ∧ (val 22).1 ≤ 2 := h _ (List.mem_of_getElem? (i := 4) rfl)
  have p5 : 124 ≤ (val 24).1 ∧ (val 24).1 ≤ 124 := h _ (List.mem_of_getElem? (i := 5) rfl)
  have p6 : 1 ≤ (val 21).1 ∧ (val 21).1 ≤ 90 := h _ (List.mem_of_getElem? (i := 6) rfl)
  intro _
  show rv_PI 0 1 0 (val 0).2 (val 1).1 (val 2).1 (val 3).2 (val 4).2 (val 5).1 (val 6).1 (val 7).1 (val 8).1 (val 9).1 (val 10).1 (val 11).1
  have e := rv_pi_push p2 (by omega) p0 p1 (Or.inl (by omega)) (Or.inr (by omega))
  rw [show (val 5).1 = (val 21).1 + 1 by omega]
  exact e
theorem ru_psh00_2 : rv_RlOk (71, [0, 1, 2, 3, 4, 5, 6, 7, 8, 9, 10, 11], [(6, [3, 20, 21, 22], Int.ofNat 0, Int.ofNat 0), (6, [4, 23, 21, 24], Int.ofNat 0, Int.ofNat 0), (70, [0, 1, 2, 20, 23, 21, 6, 7, 8, 9, 10, 11], Int.ofNat 0, Int.ofNat 0), (1001, [5, 21], Int.ofNat 1, Int.ofNat 0), (1000, [22], Int.ofNat 4, Int.ofNat 6), (1000, [24], Int.ofNat 37, Int.ofNat 62), (1000, [21], Int.ofNat 1, Int.ofNat 90)]) := by
  intro val h
  have p0 : ∀ j, (val 3).2 j = if j = (val 21).1.toNat then (val 22).1 else (val 20).2 j := h _ (List.mem_of_getElem? (i := 0) rfl)
  have p1 : ∀ j, (val 4).2 j = if j = (val 21).1.toNat then (val 24).1 else (val 23).2 j := h _ (List.mem_of_getElem? (i := 1) rfl)
  have p2 : rv_PI 0 1 1 (val 0).2 (val 1).1 (val 2).1 (val 20).2 (val 23).2 (val 21).1 (val 6).1 (val 7).1 (val 8).1 (val 9).1 (val 10).1 (val 11).1 := h _ (List.mem_of_getElem? (i := 2) rfl) rfl
  have p3 : (val 5).1 = (val 21).1 + 1 := h _ (List.mem_of_getElem? (i := 3) rfl)
  have p4 : 4 ≤ (val 22).1 ∧ (val 22).1 ≤ 6 := h _ (List.mem_of_getElem? (i := 4) rfl)
  have p5 : 37 ≤ (val 24).1 ∧ (val 24).1 ≤ 62 := h _ (List.mem_of_getElem? (i := 5) rfl)
  have p6 : 1 ≤ (val 21).1 ∧ (val 21).1 ≤ 90 := h _ (List.mem_of_getElem? (i := 6) rfl)
  intro _
  show rv_PI 0 1 0 (val 0).2 (val 1).1 (val 2).1 (val 3).2 (val 4).2 (val 5).1 (val 6).1 (val 7).1 (val 8).1 (val 9).1 (val 10).1 (val 11).1
  have e := rv_pi_push p2 (by omega) p0 p1 (Or.inr (by omega)) (Or.inl (by omega))
  rw [show (val 5).1 = (val 21).1 + 1 by omega]
  exact e
theorem ru_psh00_3 : rv_RlOk (71, [0, 1, 2, 3, 4, 5, 6, 7, 8, 9, 10, 11], [(6, [3, 20, 21, 22], Int.ofNat 0, Int.ofNat 0), (6, [4, 23, 21, 24], Int.ofNat 0, Int.ofNat 0), (70, [0, 1, 2, 20, 23, 21, 6, 7, 8, 9, 10, 11], Int.ofNat 0, Int.ofNat 0), (1001, [5, 21], Int.ofNat 1, Int.ofNat 0), (1000, [22], Int.ofNat 4, Int.ofNat 6), (1000, [24], Int.ofNat 124, Int.ofNat 124), (1000, [21], Int.ofNat 1, Int.ofNat 90)]) := by
  intro val h
  have p0 : ∀ j, (val 3).2 j = if j = (val 21).1.toNat then (val 22).1 else (val 20).2 j := h _ (List.mem_of_getElem? (i := 0) rfl)
  have p1 : ∀ j, (val 4).2 j = if j = (val 21).1.toNat then (val 24).1 else (val 23).2 j := h _ (List.mem_of_getElem? (i := 1) rfl)
  have p2 : rv_PI 0 1 1 (val 0).2 (val 1).1 (val 2).1 (val 20).2 (val 23).2 (val 21).1 (val 6).1 (val 7).1 (val 8).1 (val 9).1 (val 10).1 (val 11).1 := h _ (List.mem_of_getElem? (i := 2) rfl) rfl
  have p3 : (val 5).1 = (val 21).1 + 1 := h _ (List.mem_of_getElem? (i := 3) rfl)
  have p4 : 4 ≤ (val 22).1 ∧ (val 22).1 ≤ 6 := h _ (List.mem_of_getElem? (i := 4) rfl)
  have p5 : 124 ≤ (val 24).1 ∧ (val 24).1 ≤ 124 := h _ (List.mem_of_getElem? (i := 5) rfl)
  have p6 : 1 ≤ (val 21).1 ∧ (val 21).1 ≤ 90 := h _ (List.mem_of_getElem? (i := 6) rfl)
  intro _
  show rv_PI 0 1 0 (val 0).2 (val 1).1 (val 2).1 (val 3).2 (val 4).2 (val 5).1 (val 6).1 (val 7).1 (val 8).1 (val 9).1 (val 10).1 (val 11).1
  have e := rv_pi_push p2 (by omega) p0 p1 (Or.inr (by omega)) (Or.inr (by omega))
  rw [show (val 5).1 = (val 21).1 + 1 by omega]
  exact e
def rl_psh00 : List rv_Rl := [(71, [0, 1, 2, 3, 4, 5, 6, 7, 8, 9, 10, 11], [(6, [3, 20, 21, 22], Int.ofNat 0, Int.ofNat 0), (6, [4, 23, 21, 24], Int.ofNat 0, Int.ofNat 0), (70, [0, 1, 2, 20, 23, 21, 6, 7, 8, 9, 10, 11], Int.ofNat 0, Int.ofNat 0), (1001, [5, 21], Int.ofNat 1, Int.ofNat 0), (1000, [22], Int.ofNat 1, Int.ofNat 2), (1000, [24], Int.ofNat 37, Int.ofNat 62), (1000, [21], Int.ofNat 1, Int.ofNat 90)]), (71, [0, 1, 2, 3, 4, 5, 6, 7, 8, 9, 10, 11], [(6, [3, 20, 21, 22], Int.ofNat 0, Int.ofNat 0), (6, [4, 23, 21, 24], Int.ofNat 0, Int.ofNat 0), (70, [0, 1, 2, 20, 23, 21, 6, 7, 8, 9, 10, 11], Int.ofNat 0, Int.ofNat 0), (1001, [5, 21], Int.ofNat 1, Int.ofNat 0), (1000, [22], Int.ofNat 1, Int.ofNat 2), (1000, [24], Int.ofNat 124, Int.ofNat 124), (1000, [21], Int.ofNat 1, Int.ofNat 90)]), (71, [0, 1, 2, 3, 4, 5, 6, 7, 8, 9, 10, 11], [(6, [3, 20, 21, 22], Int.ofNat 0, Int.ofNat 0), (6, [4, 23, 21, 24], Int.ofNat 0, Int.ofNat 0), (70, [0, 1, 2, 20, 23, 21, 6, 7, 8, 9, 10, 11], Int.ofNat 0, Int.ofNat 0), (1001, [5, 21], Int.ofNat 1, Int.ofNat 0), (1000, [22], Int.ofNat 4, Int.ofNat 6), (1000, [24], Int.ofNat 37, Int.ofNat 62), (1000, [21], Int.ofNat 1, Int.ofNat 90)]), (71, [0, 1, 2, 3, 4, 5, 6, 7, 8, 9, 10, 11], [(6, [3, 20, 21, 22], Int.ofNat 0, Int.ofNat 0), (6, [4, 23, 21, 24], Int.ofNat 0, Int.ofNat 0), (70, [0, 1, 2, 20, 23, 21, 6, 7, 8, 9, 10, 11], Int.ofNat 0, Int.ofNat 0), (1001, [5, 21], Int.ofNat 1, Int.ofNat 0), (1000, [22], Int.ofNat 4, Int.ofNat 6), (1000, [24], Int.ofNat 124, Int.ofNat 124), (1000, [21], Int.ofNat 1, Int.ofNat 90)])]
theorem rlo_psh00 : ∀ r ∈ rl_psh00, rv_RlOk r := List.forall_mem_cons.mpr ⟨ru_psh00_0, List.forall_mem_cons.mpr ⟨ru_psh00_1, List.forall_mem_cons.mpr ⟨ru_psh00_2, List.forall_mem_cons.mpr ⟨ru_psh00_3, fun _ h => absurd h List.not_mem_nil⟩⟩⟩⟩
theorem ru_psh01_0 : rv_RlOk (73, [0, 1, 2, 3, 4, 5, 6, 7, 8, 9, 10, 11], [(6, [3, 20, 21, 22], Int.ofNat 0, Int.ofNat 0), (6, [4, 23, 21, 24], Int.ofNat 0, Int.ofNat 0), (72, [0, 1, 2, 20, 23, 21, 6, 7, 8, 9, 10, 11], Int.ofNat 0, Int.ofNat 0), (1001, [5, 21], Int.ofNat 1, Int.ofNat 0), (1000, [22], Int.ofNat 1, Int.ofNat 2), (1000, [24], Int.ofNat 37, Int.ofNat 62), (1000, [21], Int.ofNat 1, Int.ofNat 90)]) := by
  intro val h
  have p0 : ∀ j, (val 3).2 j = if j = (val 21).1.toNat then (val 22).1 else (val 20).2 j := h _ (List.mem_of_getElem? (i := 0) rfl)
  have p1 : ∀ j, (val 4).2 j = if j = (val 21).1.toNat then (val 24).1 else (val 23).2 j := h _ (List.mem_of_getElem? (i := 1) rfl)
  have p2 : rv_PI 0 0 1 (val 0).2 (val 1).1 (val 2).1 (val 20).2 (val 23).2 (val 21).1 (val 6).1 (val 7).1 (val 8).1 (val 9).1 (val 10).1 (val 11).1 := h _ (List.mem_of_getElem? (i := 2) rfl) rfl
  have p3 : (val 5).1 = (val 21).1 + 1 := h _ (List.mem_of_getElem? (i := 3) rfl)
  have p4 : 1 ≤ (val 22).1 ∧ (val 22).1 ≤ 2 := h _ (List.mem_of_getElem? (i := 4) rfl)
  have p5 : 37 ≤ (val 24).1 ∧ (val 24).1 ≤ 62 := h _ (List.mem_of_getElem? (i := 5) rfl)
  have p6 : 1 ≤ (val 21).1 ∧ (val 21).1 ≤ 90 := h _ (List.mem_of_getElem? (i := 6) rfl)
  intro _
  show rv_PI 0 0 0 (val 0).2 (val 1).1 (val 2).1 (val 3).2 (val 4).2 (val 5).1 (val 6).1 (val 7).1 (val 8).1 (val 9).1 (val 10).1 (val 11).1
  have e := rv_pi_push p2 (by omega) p0 p1 (Or.inl (by omega)) (Or.inl (by omega))
  rw [show (val 5).1 = (val 21).1 + 1 by omega]
  exact e
theorem ru_psh01_1 : rv_RlOk (73, [0, 1, 2, 3, 4, 5, 6, 7, 8, 9, 10, 11], [(6, [3, 20, 21, 22], Int.ofNat 0, Int.ofNat 0), (6, [4, 23, 21, 24], Int.ofNat 0, Int.ofNat 0), (72, [0, 1, 2, 20, 23, 21, 6, 7, 8, 9, 10, 11], Int.ofNat 0, Int.ofNat 0), (1001, [5, 21], Int.ofNat 1, Int.ofNat 0), (1000, [22], Int.ofNat 1, Int.ofNat 2), (1000, [24], Int.ofNat 124, Int.ofNat 124), (1000, [21], Int.ofNat 1, Int.ofNat 90)]) := by
  intro val h
  have p0 : ∀ j, (val 3).2 j = if j = (val 21).1.toNat then (val 22).1 else (val 20).2 j := h _ (List.mem_of_getElem? (i := 0) rfl)
  have p1 : ∀ j, (val 4).2 j = if j = (val 21).1.toNat then (val 24).1 else (val 23).2 j := h _ (List.mem_of_getElem? (i := 1) rfl)
  have p2 : rv_PI 0 0 1 (val 0).2 (val 1).1 (val 2).1 (val 20).2 (val 23).2 (val 21).1 (val 6).1 (val 7).1 (val 8).1 (val 9).1 (val 10).1 (val 11).1 := h _ (List.mem_of_getElem? (i := 2) rfl) rfl
  have p3 : (val 5).1 = (val 21).1 + 1 := h _ (List.mem_of_getElem? (i := 3) rfl)
  have p4 : 1 ≤ (val 22).1 ∧ (val 22).1 ≤ 2 := h _ (List.mem_of_getElem? (i := 4) rfl)
  have p5 : 124 ≤ (val 24).1 ∧ (val 24).1 ≤ 124 := h _ (List.mem_of_getElem? (i := 5) rfl)
  have p6 : 1 ≤ (val 21).1 ∧ (val 21).1 ≤ 90 := h _ (List.mem_of_getElem? (i := 6) rfl)
  intro _
  show rv_PI 0 0 0 (val 0).2 (val 1).1 (val 2).1 (val 3).2 (val 4).2 (val 5).1 (val 6).1 (val 7).1 (val 8).1 (val 9).1 (val 10).1 (val 11).1
  have e := rv_pi_push p2 (by omega) p0 p1 (Or.inl (by omega)) (Or.inr (by omega))
  rw [show (val 5).1 = (val 21).1 + 1 by omega]
  exact e
theorem ru_psh01_2 : rv_RlOk (73, [0, 1, 2, 3, 4, 5, 6, 7, 8, 9, 10, 11], [(6, [3, 20, 21, 22], Int.ofNat 0, Int.ofNat 0), (6, [4, 23, 21, 24], Int.ofNat 0, Int.ofNat 0), (72, [0, 1, 2, 20, 23, 21, 6, 7, 8, 9, 10, 11], Int.ofNat 0, Int.ofNat 0), (1001, [5, 21], Int.ofNat 1, Int.ofNat 0), (1000, [22], Int.ofNat 4, Int.ofNat 6), (1000, [24], Int.ofNat 37, Int.ofNat 62), (1000, [21], Int.ofNat 1, Int.ofNat 90)]) := by
  intro val h
  have p0 : ∀ j, (val 3).2 j = if j = (val 21).1.toNat then (val 22).1 else (val 20).2 j := h _ (List.mem_of_getElem? (i := 0) rfl)
  have p1 : ∀ j, (val 4).2 j = if j = (val 21).1.toNat then (val 24).1 else (val 23).2 j := h _ (List.mem_of_getElem? (i := 1) rfl)
  have p2 : rv_PI 0 0 1 (val 0).2 (val 1).1 (val 2).1 (val 20).2 (val 23).2 (val 21).1 (val 6).1 (val 7).1 (val 8).1 (val 9).1 (val 10).1 (val 11).1 := h _ (List.mem_of_getElem? (i := 2) rfl) rfl
  have p3 : (val 5).1 = (val 21).1 + 1 := h _ (List.mem_of_getElem? (i := 3) rfl)
  have p4 : 4 ≤ (val 22).1 ∧ (val 22).1 ≤ 6 := h _ (List.mem_of_getElem? (i := 4) rfl)
  have p5 : 37 ≤ (val 24).1 ∧ (val 24).1 ≤ 62 := h _ (List.mem_of_getElem? (i := 5) rfl)
  have p6 : 1 ≤ (val 21).1 ∧ (val 21).1 ≤ 90 := h _ (List.mem_of_getElem? (i := 6) rfl)
  intro _
  show rv_PI 0 0 0 (val 0).2 (val 1).1 (val 2).1 (val 3).2 (val 4).2 (val 5).1 (val 6).1 (val 7).1 (val 8).1 (val 9).1 (val 10).1 (val 11).1
  have e := rv_pi_push p2 (by omega) p0 p1 (Or.inr (by omega)) (Or.inl (by omega))
  rw [show (val 5).1 = (val 21).1 + 1 by omega]
  exact e
theorem ru_psh01_3 : rv_RlOk (73, [0, 1, 2, 3, 4, 5, 6, 7, 8, 9, 10, 11], [(6, [3, 20, 21, 22], Int.ofNat 0, Int.ofNat 0), (6, [4, 23, 21, 24], Int.ofNat 0, Int.ofNat 0), (72, [0, 1, 2, 20, 23, 21, 6, 7, 8, 9, 10, 11], Int.ofNat 0, Int.ofNat 0), (1001, [5, 21], Int.ofNat 1, Int.ofNat 0), (1000, [22], Int.ofNat 4, Int.ofNat 6), (1000, [24], Int.ofNat 124, Int.ofNat 124), (1000, [21], Int.ofNat 1, Int.ofNat 90)]) := by
  intro val h
  have p0 : ∀ j, (val 3).2 j = if j = (val 21).1.toNat then (val 22).1 else (val 20).2 j := h _ (List.mem_of_getElem? (i := 0) rfl)
  have p1 : ∀ j, (val 4).2 j = if j = (val 21).1.toNat then (val 24).1 else (val 23).2 j := h _ (List.mem_of_getElem? (i := 1) rfl)
  have p2 : rv_PI 0 0 1 (val 0).2 (val 1).1 (val 2).1 (val 20).2 (val 23).2 (val 21).1 (val 6).1 (val 7).1 (val 8).1 (val 9).1 (val 10).1 (val 11).1 := h _ (List.mem_of_getElem? (i := 2) rfl) rfl
  have p3 : (val 5).1 = (val 21).1 + 1 := h _ (List.mem_of_getElem? (i := 3) rfl)
  have p4 : 4 ≤ (val 22).1 ∧ (val 22).1 ≤ 6 := h _ (List.mem_of_getElem? (i := 4) rfl)
  have p5 : 124 ≤ (val 24).1 ∧ (val 24).1 ≤ 124 := h _ (List.mem_of_getElem? (i := 5) rfl)
  have p6 : 1 ≤ (val 21).1 ∧ (val 21).1 ≤ 90 := h _ (List.mem_of_getElem? (i := 6) rfl)
  intro _
  show rv_PI 0 0 0 (val 0).2 (val 1).1 (val 2).1 (val 3).2 (val 4).2 (val 5).1 (val 6).1 (val 7).1 (val 8).1 (val 9).1 (val 10).1 (val 11).1
  have e := rv_pi_push p2 (by omega) p0 p1 (Or.inr (by omega)) (Or.inr (by omega))
  rw [show (val 5).1 = (val 21).1 + 1 by omega]
  exact e
def rl_psh01 : List rv_Rl := [(73, [0, 1, 2, 3, 4, 5, 6, 7, 8, 9, 10, 11], [(6, [3, 20, 21, 22], Int.ofNat 0, Int.ofNat 0), (6, [4, 23, 21, 24], Int.ofNat 0, Int.ofNat 0), (72, [0, 1, 2, 20, 23, 21, 6, 7, 8, 9, 10, 11], Int.ofNat 0, Int.ofNat 0), (1001, [5, 21], Int.ofNat 1, Int.ofNat 0), (1000, [22], Int.ofNat 1, Int.ofNat 2), (1000, [24], Int.ofNat 37, Int.ofNat 62), (1000, [21], Int.ofNat 1, Int.ofNat 90)]), (73, [0, 1, 2, 3, 4, 5, 6, 7, 8, 9, 10, 11], [(6, [3, 20, 21, 22], Int.ofNat 0, Int.ofNat 0), (6, [4, 23, 21, 24], Int.ofNat 0, Int.ofNat 0), (72, [0, 1, 2, 20, 23, 21, 6, 7, 8, 9, 10, 11], Int.ofNat 0, Int.ofNat 0), (1001, [5, 21], Int.ofNat 1, Int.ofNat 0), (1000, [22], Int.ofNat 1, Int.ofNat 2), (1000, [24], Int.ofNat 124, Int.ofNat 124), (1000, [21], Int.ofNat 1, Int.ofNat 90)]), (73, [0, 1, 2, 3, 4, 5, 6, 7, 8, 9, 10, 11], [(6, [3, 20, 21, 22], Int.ofNat 0, Int.ofNat 0), (6, [4, 23, 21, 24], Int.ofNat 0, Int.ofNat 0), (72, [0, 1, 2, 20, 23, 21, 6, 7, 8, 9, 10, 11], Int.ofNat 0, Int.ofNat 0), (1001, [5, 21], Int.ofNat 1, Int.ofNat 0), (1000, [22], Int.ofNat 4, Int.ofNat 6), (1000, [24], Int.ofNat 37, Int.ofNat 62), (1000, [21], Int.ofNat 1, Int.ofNat 90)]), (73, [0, 1, 2, 3, 4, 5, 6, 7, 8, 9, 10, 11], [(6, [3, 20, 21, 22], Int.ofNat 0, Int.ofNat 0), (6, [4, 23, 21, 24], Int.ofNat 0, Int.ofNat 0), (72, [0, 1, 2, 20, 23, 21, 6, 7, 8, 9, 10, 11], Int.ofNat 0, Int.ofNat 0), (1001, [5, 21], Int.ofNat 1, Int.ofNat 0), (1000, [22], Int.ofNat 4, Int.ofNat 6), (1000, [24], Int.ofNat 124, Int.ofNat 124), (1000, [21], Int.ofNat 1, Int.ofNat 90)])]
theorem rlo_psh01 : ∀ r ∈ rl_psh01, rv_RlOk r := List.forall_mem_cons.mpr ⟨ru_psh01_0, List.forall_mem_cons.mpr ⟨ru_psh01_1, List.forall_mem_cons.mpr ⟨ru_psh01_2, List.forall_mem_cons.mpr ⟨ru_psh01_3, fun _ h => absurd h List.not_mem_nil⟩⟩⟩⟩
theorem ru_psh10_0 : rv_RlOk (75, [0, 1, 2, 3, 4, 5, 6, 7, 8, 9, 10, 11], [(6, [3, 20, 21, 22], Int.ofNat 0, Int.ofNat 0), (6, [4, 23, 21, 24], Int.ofNat 0, Int.ofNat 0), (74, [0, 1, 2, 20, 23, 21, 6, 7, 8, 9, 10, 11], Int.ofNat 0, Int.ofNat 0), (1001, [5, 21], Int.ofNat 1, Int.ofNat 0), (1000, [22], Int.ofNat 1, Int.ofNat 2), (1000, [24], Int.ofNat 37, Int.ofNat 62), (1000, [21], Int.ofNat 1, Int.ofNat 90)]) := by
  intro val h
  have p0 : ∀ j, (val 3).2 j = if j = (val 21).1.toNat then (val 22).1 else (val 20).2 j := h _ (List.mem_of_getElem? (i := 0) rfl)
  have p1 : ∀ j, (val 4).2 j = if j = (val 21).1.toNat then (val 24).1 else (val 23).2 j := h _ (List.mem_of_getElem? (i := 1) rfl)
  have p2 : rv_PI 1 1 1 (val 0).2 (val 1).1 (val 2).1 (val 20).2 (val 23).2 (val 21).1 (val 6).1 (val 7).1 (val 8).1 (val 9).1 (val 10).1 (val 11).1 := h _ (List.mem_of_getElem? (i := 2) rfl) rfl
  have p3 : (val 5).1 = (val 21).1 + 1 := h _ (List.mem_of_getElem? (i := 3) rfl)
  have p4 : 1 ≤ (val 22).1 ∧ (val 22).1 ≤ 2 := h _ (List.mem_of_getElem? (i := 4) rfl)
  have p5 : 37 ≤ (val 24).1 ∧ (val 24).1 ≤ 62 := h _ (List.mem_of_getElem? (i := 5) rfl)
  have p6 : 1 ≤ (val 21).1 ∧ (val 21).1 ≤ 90 := h _ (List.mem_of_getElem? (i := 6) rfl)
  intro _
  show rv_PI 1 1 0 (val 0).2 (val 1).1 (val 2).1 (val 3).2 (val 4).2 (val 5).1 (val 6).1 (val 7).1 (val 8).1 (val 9).1 (val 10).1 (val 11).1
  have e := rv_pi_push p2 (by omega) p0 p1 (Or.inl (by omega)) (Or.inl (by omega))
  rw [show (val 5).1 = (val 21).1 + 1 by omega]
  exact e
theorem ru_psh10_1 : rv_RlOk (75, [0, 1, 2, 3, 4, 5, 6, 7, 8, 9, 10, 11], [(6, [3, 20, 21, 22], Int.ofNat 0, Int.ofNat 0), (6, [4, 23, 21, 24], Int.ofNat 0, Int.ofNat 0), (74, [0, 1, 2, 20, 23, 21, 6, 7, 8, 9, 10, 11], Int.ofNat 0, Int.ofNat 0), (1001, [5, 21], Int.ofNat 1, Int.ofNat 0), (1000, [22], Int.ofNat 1, Int.ofNat 2), (1000, [24], Int.ofNat 124, Int.ofNat 124), (1000, [21], Int.ofNat 1, Int.ofNat 90)]) := by
  intro val h
  have p0 : ∀ j, (val 3).2 j = if j = (val 21).1.toNat then (val 22).1 else (val 20).2 j := h _ (List.mem_of_getElem? (i := 0) rfl)
  have p1 : ∀ j, (val 4).2 j = if j = (val 21).1.toNat then (val 24).1 else (val 23).2 j := h _ (List.mem_of_getElem? (i := 1) rfl)
  have p2 : rv_PI 1 1 1 (val 0).2 (val 1).1 (val 2).1 (val 20).2 (val 23).2 (val 21).1 (val 6).1 (val 7).1 (val 8).1 (val 9).1 (val 10).1 (val 11).1 := h _ (List.mem_of_getElem? (i := 2) rfl) rfl
  have p3 : (val 5).1 = (val 21).1 + 1 := h _ (List.mem_of_getElem? (i := 3) rfl)
  have p4 : 1 ≤ (val 22).1 ∧ (val 22).1 ≤ 2 := h _ (List.mem_of_getElem? (i := 4) rfl)
  have p5 : 124 ≤ (val 24).1 ∧ (val 24).1 ≤ 124 := h _ (List.mem_of_getElem? (i := 5) rfl)
  have p6 : 1 ≤ (val 21).1 ∧ (val 21).1 ≤ 90 := h _ (List.mem_of_getElem? (i := 6) rfl)
  intro _
  show rv_PI 1 1 0 (val 0).2 (val 1).1 (val 2).1 (val 3).2 (val 4).2 (val 5).1 (val 6).1 (val 7).1 (val 8).1 (val 9).1 (val 10).1 (val 11).1
  have e := rv_pi_push p2 (by omega) p0 p1 (Or.inl (by omega)) (Or.inr (by omega))
  rw [show (val 5).1 = (val 21).1 + 1 by omega]
  exact e
theorem ru_psh10_2 : rv_RlOk (75, [0, 1, 2, 3, 4, 5, 6, 7, 8, 9, 10, 11], [(6, [3, 20, 21, 22], Int.ofNat 0, Int.ofNat 0), (6, [4, 23, 21, 24], Int.ofNat 0, Int.ofNat 0), (74, [0, 1, 2, 20, 23, 21, 6, 7, 8, 9, 10, 11], Int.ofNat 0, Int.ofNat 0), (1001, [5, 21], Int.ofNat 1, Int.ofNat 0), (1000, [22], Int.ofNat 4, Int.ofNat 6), (1000, [24], Int.ofNat 37, Int.ofNat 62), (1000, [21], Int.ofNat 1, Int.ofNat 90)]) := by
  intro val h
  have p0 : ∀ j, (val 3).2 j = if j = (val 21).1.toNat then (val 22).1 else (val 20).2 j := h _ (List.mem_of_getElem? (i := 0) rfl)
  have p1 : ∀ j, (val 4).2 j = if j = (val 21).1.toNat then (val 24).1 else (val 23).2 j := h _ (List.mem_of_getElem? (i := 1) rfl)
  have p2 : rv_PI 1 1 1 (val 0).2 (val 1).1 (val 2).1 (val 20).2 (val 23).2 (val 21).1 (val 6).1 (val 7).1 (val 8).1 (val 9).1 (val 10).1 (val 11).1 := h _ (List.mem_of_getElem? (i := 2) rfl) rfl
  have p3 : (val 5).1 = (val 21).1 + 1 := h _ (List.mem_of_getElem? (i := 3) rfl)
  have p4 : 4 ≤ (val 22).1 ∧ (val 22).1 ≤ 6 := h _ (List.mem_of_getElem? (i := 4) rfl)
  have p5 : 37 ≤ (val 24).1 ∧ (val 24).1 ≤ 62 := h _ (List.mem_of_getElem? (i := 5) rfl)
  have p6 : 1 ≤ (val 21).1 ∧ (val 21).1 ≤ 90 := h _ (List.mem_of_getElem? (i := 6) rfl)
  intro _
  show rv_PI 1 1 0 (val 0).2 (val 1).1 (val 2).1 (val 3).2 (val 4).2 (val 5).1 (val 6).1 (val 7).1 (val 8).1 (val 9).1 (val 10).1 (val 11).1
  have e := rv_pi_push p2 (by omega) p0 p1 (Or.inr (by omega)) (Or.inl (by omega))
  rw [show (val 5).1 = (val 21).1 + 1 by omega]
  exact e
theorem ru_psh10_3 : rv_RlOk (75, [0, 1, 2, 3, 4, 5, 6, 7, 8, 9, 10, 11], [(6, [3, 20, 21, 22], Int.ofNat 0, Int.ofNat 0), (6, [4, 23, 21, 24], Int.ofNat 0, Int.ofNat 0), (74, [0, 1, 2, 20, 23, 21, 6, 7, 8, 9, 10, 11], Int.ofNat 0, Int.ofNat 0), (1001, [5, 21], Int.ofNat 1, Int.ofNat 0), (1000, [22], Int.ofNat 4, Int.ofNat 6), (1000, [24], Int.ofNat 124, Int.ofNat 124), (1000, [21], Int.ofNat 1, Int.ofNat 90)]) := by
  intro val h
  have p0 : ∀ j, (val 3).2 j = if j = (val 21).1.toNat then (val 22).1 else (val 20).2 j := h _ (List.mem_of_getElem? (i := 0) rfl)
  have p1 : ∀ j, (val 4).2 j = if j = (val 21).1.toNat then (val 24).1 else (val 23).2 j := h _ (List.mem_of_getElem? (i := 1) rfl)
  have p2 : rv_PI 1 1 1 (val 0).2 (val 1).1 (val 2).1 (val 20).2 (val 23).2 (val 21).1 (val 6).1 (val 7).1 (val 8).1 (val 9).1 (val 10).1 (val 11).1 := h _ (List.mem_of_getElem? (i := 2) rfl) rfl
  have p3 : (val 5).1 = (val 21).1 + 1 := h _ (List.mem_of_getElem? (i := 3) rfl)
  have p4 : 4 ≤ (val 22).1 ∧ (val 22).1 ≤ 6 := h _ (List.mem_of_getElem? (i := 4) rfl)
  have p5 : 124 ≤ (val 24).1 ∧ (val 24).1 ≤ 124 := h _ (List.mem_of_getElem? (i := 5) rfl)
  have p6 : 1 ≤ (val 21).1 ∧ (val 21).1 ≤ 90 := h _ (List.mem_of_getElem? (i := 6) rfl)
  intro _
  show rv_PI 1 1 0 (val 0).2 (val 1).1 (val 2).1 (val 3).2 (val 4).2 (val 5).1 (val 6).1 (val 7).1 (val 8).1 (val 9).1 (val 10).1 (val 11).1
  have e := rv_pi_push p2 (by omega) p0 p1 (Or.inr (by omega)) (Or.inr (by omega))
  rw [show (val 5).1 = (val 21).1 + 1 by omega]
  exact e
def rl_psh10 : List rv_Rl := [(75, [0, 1, 2, 3, 4, 5, 6, 7, 8, 9, 10, 11], [(6, [3, 20, 21, 22], Int.ofNat 0, Int.ofNat 0), (6, [4, 23, 21, 24], Int.ofNat 0, Int.ofNat 0), (74, [0, 1, 2, 20, 23, 21, 6, 7, 8, 9, 10, 11], Int.ofNat 0, Int.ofNat 0), (1001, [5, 21], Int.ofNat 1, Int.ofNat 0), (1000, [22], Int.ofNat 1, Int.ofNat 2), (1000, [24], Int.ofNat 37, Int.ofNat 62), (1000, [21], Int.ofNat 1, Int.ofNat 90)]), (75, [0, 1, 2, 3, 4, 5, 6, 7, 8, 9, 10, 11], [(6, [3, 20, 21, 22], Int.ofNat 0, Int.ofNat 0), (6, [4, 23, 21, 24], Int.ofNat 0, Int.ofNat 0), (74, [0, 1, 2, 20, 23, 21, 6, 7, 8, 9, 10, 11], Int.ofNat 0, Int.ofNat 0), (1001, [5, 21], Int.ofNat 1, Int.ofNat 0), (1000, [22], Int.ofNat 1, Int.ofNat 2), (1000, [24], Int.ofNat 124, Int.ofNat 124), (1000, [21], Int.ofNat 1, Int.ofNat 90)]), (75, [0, 1, 2, 3, 4, 5, 6, 7, 8, 9, 10, 11], [(6, [3, 20, 21, 22], Int.ofNat 0, Int.ofNat 0), (6, [4, 23, 21, 24], Int.ofNat 0, Int.ofNat 0), (74, [0, 1, 2, 20, 23, 21, 6, 7, 8, 9, 10, 11], Int.ofNat 0, Int.ofNat 0), (1001, [5, 21], Int.ofNat 1, Int.ofNat 0), (1000, [22], Int.ofNat 4, Int.ofNat 6), (1000, [24], Int.ofNat 37, Int.ofNat 62), (1000, [21], Int.ofNat 1, Int.ofNat 90)]), (75, [0, 1, 2, 3, 4, 5, 6, 7, 8, 9, 10, 11], [(6, [3, 20, 21, 22], Int.ofNat 0, Int.ofNat 0), (6, [4, 23, 21, 24], Int.ofNat 0, Int.ofNat 0), (74, [0, 1, 2, 20, 23, 21, 6, 7, 8, 9, 10, 11], Int.ofNat 0, Int.ofNat 0), (1001, [5, 21], Int.ofNat 1, Int.ofNat 0), (1000, [22], Int.ofNat 4, Int.ofNat 6), (1000, [24], Int.ofNat 124, Int.ofNat 124), (1000, [21], Int.ofNat 1, Int.ofNat 90)])]
theorem rlo_psh10 : ∀ r ∈ rl_psh10, rv_RlOk r := List.forall_mem_cons.mpr ⟨ru_psh10_0, List.forall_mem_cons.mpr ⟨ru_psh10_1, List.forall_mem_cons.mpr ⟨ru_psh10_2, List.forall_mem_cons.mpr ⟨ru_psh10_3, fun _ h => absurd h List.not_mem_nil⟩⟩⟩⟩
theorem ru_psh11_0 : rv_RlOk (77, [0, 1, 2, 3, 4, 5, 6, 7, 8, 9, 10, 11], [(6, [3, 20, 21, 22], Int.ofNat 0, Int.ofNat 0), (6, [4, 23, 21, 24], Int.ofNat 0, Int.ofNat 0), (76, [0, 1, 2, 20, 23, 21, 6, 7, 8, 9, 10, 11], Int.ofNat 0, Int.ofNat 0), (1001, [5, 21], Int.ofNat 1, Int.ofNat 0), (1000, [22], Int.ofNat 1, Int.ofNat 2), (1000, [24], Int.ofNat 37, Int.ofNat 62), (1000, [21], Int.ofNat 1, Int.ofNat 90)]) := by
  intro val h
  have p0 : ∀ j, (val 3).2 j = if j = (val 21).1.toNat then (val 22).1 else (val 20).2 j := h _ (List.mem_of_getElem? (i := 0) rfl)
  have p1 : ∀ j, (val 4).2 j = if j = (val 21).1.toNat then (val 24).1 else (val 23).2 j := h _ (List.mem_of_getElem? (i := 1) rfl)
  have p2 : rv_PI 1 0 1 (val 0).2 (val 1).1 (val 2).1 (val 20).2 (val 23).2 (val 21).1 (val 6).1 (val 7).1 (val 8).1 (val 9).1 (val 10).1 (val 11).1 := h _ (List.mem_of_getElem? (i := 2) rfl) rfl
  have p3 : (val 5).1 = (val 21).1 + 1 := h _ (List.mem_of_getElem? (i := 3) rfl)
  have p4 : 1 ≤ (val 22).1 ∧ (val 22).1 ≤ 2 := h _ (List.mem_of_getElem? (i := 4) rfl)
  have p5 : 37 ≤ (val 24).1 ∧ (val 24).1 ≤ 62 := h _ (List.mem_of_getElem? (i := 5) rfl)
  have p6 : 1 ≤ (val 21).1 ∧ (val 21).1 ≤ 90 := h _ (List.mem_of_getElem? (i := 6) rfl)
  intro _
  show rv_PI 1 0 0 (val 0).2 (val 1).1 (val 2).1 (val 3).2 (val 4).2 (val 5).1 (val 6).1 (val 7).1 (val 8).1 (val 9).1 (val 10).1 (val 11).1
  have e := rv_pi_push p2 (by omega) p0 p1 (Or.inl (by omega)) (Or.inl (by omega))
  rw [show (val 5).1 = (val 21).1 + 1 by omega]
  exact e
theorem ru_psh11_1 : rv_RlOk (77, [0, 1, 2, 3, 4, 5, 6, 7, 8, 9, 10, 11], [(6, [3, 20, 21, 22], Int.ofNat 0, Int.ofNat 0), (6, [4, 23, 21, 24], Int.ofNat 0, Int.ofNat 0), (76, [0, 1, 2, 20, 23, 21, 6, 7, 8, 9, 10, 11], Int.ofNat 0, Int.ofNat 0), (1001, [5, 21], Int.ofNat 1, Int.ofNat 0), (1000, [22], Int.ofNat 1, Int.ofNat 2), (1000, [24], Int.ofNat 124, Int.ofNat 124), (1000, [21], Int.ofNat 1, Int.ofNat 90)]) := by
  intro val h
  have p0 : ∀ j, (val 3).2 j = if j = (val 21).1.toNat then (val 22).1 else (val 20).2 j := h _ (List.mem_of_getElem? (i := 0) rfl)
  have p1 : ∀ j, (val 4).2 j = if j = (val 21).1.toNat then (val 24).1 else (val 23).2 j := h _ (List.mem_of_getElem? (i := 1) rfl)
  have p2 : rv_PI 1 0 1 (val 0).2 (val 1).1 (val 2).1 (val 20).2 (val 23).2 (val 21).1 (val 6).1 (val 7).1 (val 8).1 (val 9).1 (val 10).1 (val 11).1 := h _ (List.mem_of_getElem? (i := 2) rfl) rfl
  have p3 : (val 5).1 = (val 21).1 + 1 := h _ (List.mem_of_getElem? (i := 3) rfl)
  have p4 : 1 ≤ (val 22).1 ∧ (val 22).1 ≤ 2 := h _ (List.mem_of_getElem? (i := 4) rfl)
  have p5 : 124 ≤ (val 24).1 ∧ (val 24).1 ≤ 124 := h _ (List.mem_of_getElem? (i := 5) rfl)
  have p6 : 1 ≤ (val 21).1 ∧ (val 21).1 ≤ 90 := h _ (List.mem_of_getElem? (i := 6) rfl)
  intro _
  show rv_PI 1 0 0 (val 0).2 (val 1).1 (val 2).1 (val 3).2 (val 4).2 (val 5).1 (val 6).1 (val 7).1 (val 8).1 (val 9).1 (val 10).1 (val 11).1
  have e := rv_pi_push p2 (by omega) p0 p1 (Or.inl (by omega)) (Or.inr (by omega))
  rw [show (val 5).1 = (val 21).1 + 1 by omega]
  exact e
theorem ru_psh11_2 : rv_RlOk (77, [0, 1, 2, 3, 4, 5, 6, 7, 8, 9, 10, 11], [(6, [3, 20, 21, 22], Int.ofNat 0, Int.ofNat 0), (6, [4, 23, 21, 24], Int.ofNat 0, Int.ofNat 0), (76, [0, 1, 2, 20, 23, 21, 6, 7, 8, 9, 10, 11], Int.ofNat 0, Int.ofNat 0), (1001, [5, 21], Int.ofNat 1, Int.ofNat 0), (1000, [22], Int.ofNat 4, Int.ofNat 6), (1000, [24], Int.ofNat 37, Int.ofNat 62), (1000, [21], Int.ofNat 1, Int.ofNat 90)]) := by
  intro val h
  have p0 : ∀ j, (val 3).2 j = if j = (val 21).1.toNat then (val 22).1 else (val 20).2 j := h _ (List.mem_of_getElem? (i := 0) rfl)
  have p1 : ∀ j, (val 4).2 j = if j = (val 21).1.toNat then (val 24).1 else (val 23).2 j := h _ (List.mem_of_getElem? (i := 1) rfl)
  have p2 : rv_PI 1 0 1 (val 0).2 (val 1).1 (val 2).1 (val 20).2 (val 23).2 (val 21).1 (val 6).1 (val 7).1 (val 8).1 (val 9).1 (val 10).1 (val 11).1 := h _ (List.mem_of_getElem? (i := 2) rfl) rfl
  have p3 : (val 5).1 = (val 21).1 + 1 := h _ (List.mem_of_getElem? (i := 3) rfl)
  have p4 : 4 ≤ (val 22).1 ∧ (val 22).1 ≤ 6 := h _ (List.mem_of_getElem? (i := 4) rfl)
  have p5 : 37 ≤ (val 24).1 ∧ (val 24).1 ≤ 62 := h _ (List.mem_of_getElem? (i := 5) rfl)
  have p6 : 1 ≤ (val 21).1 ∧ (val 21).1 ≤ 90 := h _ (List.mem_of_getElem? (i := 6) rfl)
  intro _
  show rv_PI 1 0 0 (val 0).2 (val 1).1 (val 2).1 (val 3).2 (val 4).2 (val 5).1 (val 6).1 (val 7).1 (val 8).1 (val 9).1 (val 10).1 (val 11).1
  have e := rv_pi_push p2 (by omega) p0 p1 (Or.inr (by omega)) (Or.inl (by omega))
  rw [show (val 5).1 = (val 21).1 + 1 by omega]
  exact e
theorem ru_psh11_3 : rv_RlOk (77, [0, 1, 2, 3, 4, 5, 6, 7, 8, 9, 10, 11], [(6, [3, 20, 21, 22], Int.ofNat 0, Int.ofNat 0), (6, [4, 23, 21, 24], Int.ofNat 0, Int.ofNat 0), (76, [0, 1, 2, 20, 23, 21, 6, 7, 8, 9, 10, 11], Int.ofNat 0, Int.ofNat 0), (1001, [5, 21], Int.ofNat 1, Int.ofNat 0), (1000, [22], Int.ofNat 4, Int.ofNat 6), (1000, [24], Int.ofNat 124, Int.ofNat 124), (1000, [21], Int.ofNat 1, Int.ofNat 90)]) := by
  intro val h
  have p0 : ∀ j, (val 3).2 j = if j = (val 21).1.toNat then (val 22).1 else (val 20).2 j := h _ (List.mem_of_getElem? (i := 0) rfl)
  have p1 : ∀ j, (val 4).2 j = if j = (val 21).1.toNat then (val 24).1 else (val 23).2 j := h _ (List.mem_of_getElem? (i := 1) rfl)
  have p2 : rv_PI 1 0 1 (val 0).2 (val 1).1 (val 2).1 (val 20).2 (val 23).2 (val 21).1 (val 6).1 (val 7).1 (val 8).1 (val 9).1 (val 10).1 (val 11).1 := h _ (List.mem_of_getElem? (i := 2) rfl) rfl
  have p3 : (val 5).1 = (val 21).1 + 1 := h _ (List.mem_of_getElem? (i := 3) rfl)
  have p4 : 4 ≤ (val 22).1 ∧ (val 22).1 ≤ 6 := h _ (List.mem_of_getElem? (i := 4) rfl)
  have p5 : 124 ≤ (val 24).1 ∧ (val 24).1 ≤ 124 := h _ (List.mem_of_getElem? (i := 5) rfl)
  have p6 : 1 ≤ (val 21).1 ∧ (val 21).1 ≤ 90 := h _ (List.mem_of_getElem? (i := 6) rfl)
  intro _
  show rv_PI 1 0 0 (val 0).2 (val 1).1 (val 2).1 (val 3).2 (val 4).2 (val 5).1 (val 6).1 (val 7).1 (val 8).1 (val 9).1 (val 10).1 (val 11).1
  have e := rv_pi_push p2 (by omega) p0 p1 (Or.inr (by omega)) (Or.inr (by omega))
  rw [show (val 5).1 = (val 21).1 + 1 by omega]
  exact e
def rl_psh11 : List rv_Rl := [(77, [0, 1, 2, 3, 4, 5, 6, 7, 8, 9, 10, 11], [(6, [3, 20, 21, 22], Int.ofNat 0, Int.ofNat 0), (6, [4, 23, 21, 24], Int.ofNat 0, Int.ofNat 0), (76, [0, 1, 2, 20, 23, 21, 6, 7, 8, 9, 10, 11], Int.ofNat 0, Int.ofNat 0), (1001, [5, 21], Int.ofNat 1, Int.ofNat 0), (1000, [22], Int.ofNat 1, Int.ofNat 2), (1000, [24], Int.ofNat 37, Int.ofNat 62), (1000, [21], Int.ofNat 1, Int.ofNat 90)]), (77, [0, 1, 2, 3, 4, 5, 6, 7, 8, 9, 10, 11], [(6, [3, 20, 21, 22], Int.ofNat 0, Int.ofNat 0), (6, [4, 23, 21, 24], Int.ofNat 0, Int.ofNat 0), (76, [0, 1, 2, 20, 23, 21, 6, 7, 8, 9, 10, 11], Int.ofNat 0, Int.ofNat 0), (1001, [5, 21], Int.ofNat 1, Int.ofNat 0), (1000, [22], Int.ofNat 1, Int.ofNat 2), (1000, [24], Int.ofNat 124, Int.ofNat 124), (1000, [21], Int.ofNat 1, Int.ofNat 90)]), (77, [0, 1, 2, 3, 4, 5, 6, 7, 8, 9, 10, 11], [(6, [3, 20, 21, 22], Int.ofNat 0, Int.ofNat 0), (6, [4, 23, 21, 24], Int.ofNat 0, Int.ofNat 0), (76, [0, 1, 2, 20, 23, 21, 6, 7, 8, 9, 10, 11], Int.ofNat 0, Int.ofNat 0), (1001, [5, 21], Int.ofNat 1, Int.ofNat 0), (1000, [22], Int.ofNat 4, Int.ofNat 6), (1000, [24], Int.ofNat 37, Int.ofNat 62), (1000, [21], Int.ofNat 1, Int.ofNat 90)]), (77, [0, 1, 2, 3, 4, 5, 6, 7, 8, 9, 10, 11], [(6, [3, 20, 21, 22], Int.ofNat 0, Int.ofNat 0), (6, [4, 23, 21, 24], Int.ofNat 0, Int.ofNat 0), (76, [0, 1, 2, 20, 23, 21, 6, 7, 8, 9, 10, 11], Int.ofNat 0, Int.ofNat 0), (1001, [5, 21], Int.ofNat 1, Int.ofNat 0), (1000, [22], Int.ofNat 4, Int.ofNat 6), (1000, [24], Int.ofNat 124, Int.ofNat 124), (1000, [21], Int.ofNat 1, Int.ofNat 90)])]
theorem rlo_psh11 : ∀ r ∈ rl_psh11, rv_RlOk r := List.forall_mem_cons.mpr ⟨ru_psh11_0, List.forall_mem_cons.mpr ⟨ru_psh11_1, List.forall_mem_cons.mpr ⟨ru_psh11_2, List.forall_mem_cons.mpr ⟨ru_psh11_3, fun _ h => absurd h List.not_mem_nil⟩⟩⟩⟩
theorem ru_pw0_0 : rv_RlOk (40, [0, 1], [(40, [2, 1], Int.ofNat 0, Int.ofNat 0), (6, [0, 2, 3, 4], Int.ofNat 0, Int.ofNat 0), (1000, [3], Int.ofNat 7, Int.ofNat 13), (1000, [1], Int.ofNat 0, Int.ofNat 7)]) := by
  intro val h
  have p0 : ∀ p : Nat, (p : Int) < (val 1).1 → 1 ≤ (val 2).2 p := h _ (List.mem_of_getElem? (i := 0) rfl) rfl
  have p1 : ∀ j, (val 0).2 j = if j = (val 3).1.toNat then (val 4).1 else (val 2).2 j := h _ (List.mem_of_getElem? (i := 1) rfl)
  have p2 : 7 ≤ (val 3).1 ∧ (val 3).1 ≤ 13 := h _ (List.mem_of_getElem? (i := 2) rfl)
  have p3 : 0 ≤ (val 1).1 ∧ (val 1).1 ≤ 7 := h _ (List.mem_of_getElem? (i := 3) rfl)
  intro _
  show ∀ p : Nat, (p : Int) < (val 1).1 → 1 ≤ (val 0).2 p
  intro p hp
  rw [p1, if_neg (by omega)]
  exact p0 p hp
theorem ru_pw0_1 : rv_RlOk (41, [0, 1], [(41, [2, 1], Int.ofNat 0, Int.ofNat 0), (6, [0, 2, 3, 4], Int.ofNat 0, Int.ofNat 0), (1000, [4], Int.ofNat 1, Int.ofNat 9)]) := by
  intro val h
  have p0 : ∀ p : Nat, (p : Int) < (val 1).1 → 1 ≤ (val 2).2 (7 + p) := h _ (List.mem_of_getElem? (i := 0) rfl) rfl
  have p1 : ∀ j, (val 0).2 j = if j = (val 3).1.toNat then (val 4).1 else (val 2).2 j := h _ (List.mem_of_getElem? (i := 1) rfl)
  have p2 : 1 ≤ (val 4).1 ∧ (val 4).1 ≤ 9 := h _ (List.mem_of_getElem? (i := 2) rfl)
  intro _
  show ∀ p : Nat, (p : Int) < (val 1).1 → 1 ≤ (val 0).2 (7 + p)
  intro p hp
  rw [p1]
  split
  · omega
  · exact p0 p hp
theorem ru_pw0_2 : rv_RlOk (87, [0, 1], [(6, [0, 2, 3, 4], Int.ofNat 0, Int.ofNat 0), (41, [2, 1], Int.ofNat 0, Int.ofNat 0), (1001, [3, 1], Int.ofNat 7, Int.ofNat 0), (1000, [4], Int.ofNat 1, Int.ofNat 9)]) := by
  intro val h
  have p0 : ∀ j, (val 0).2 j = if j = (val 3).1.toNat then (val 4).1 else (val 2).2 j := h _ (List.mem_of_getElem? (i := 0) rfl)
  have p1 : ∀ p : Nat, (p : Int) < (val 1).1 → 1 ≤ (val 2).2 (7 + p) := h _ (List.mem_of_getElem? (i := 1) rfl) rfl
  have p2 : (val 3).1 = (val 1).1 + 7 := h _ (List.mem_of_getElem? (i := 2) rfl)
  have p3 : 1 ≤ (val 4).1 ∧ (val 4).1 ≤ 9 := h _ (List.mem_of_getElem? (i := 3) rfl)
  intro _
  show ∀ p : Nat, (p : Int) ≤ (val 1).1 → 1 ≤ (val 0).2 (7 + p)
  intro p hp
  rw [p0]
  split
  · omega
  · rename_i hn
    exact p1 p (by omega)
theorem ru_pw0_3 : rv_RlOk (41, [0, 1], [(87, [0, 2], Int.ofNat 0, Int.ofNat 0), (1001, [1, 2], Int.ofNat 1, Int.ofNat 0)]) := by
  intro val h
  have p0 : ∀ p : Nat, (p : Int) ≤ (val 2).1 → 1 ≤ (val 0).2 (7 + p) := h _ (List.mem_of_getElem? (i := 0) rfl) rfl
  have p1 : (val 1).1 = (val 2).1 + 1 := h _ (List.mem_of_getElem? (i := 1) rfl)
  intro _
  show ∀ p : Nat, (p : Int) < (val 1).1 → 1 ≤ (val 0).2 (7 + p)
  intro p hp
  exact p0 p (by omega)
def rl_pw0 : List rv_Rl := [(40, [0, 1], [(40, [2, 1], Int.ofNat 0, Int.ofNat 0), (6, [0, 2, 3, 4], Int.ofNat 0, Int.ofNat 0), (1000, [3], Int.ofNat 7, Int.ofNat 13), (1000, [1], Int.ofNat 0, Int.ofNat 7)]), (41, [0, 1], [(41, [2, 1], Int.ofNat 0, Int.ofNat 0), (6, [0, 2, 3, 4], Int.ofNat 0, Int.ofNat 0), (1000, [4], Int.ofNat 1, Int.ofNat 9)]), (87, [0, 1], [(6, [0, 2, 3, 4], Int.ofNat 0, Int.ofNat 0), (41, [2, 1], Int.ofNat 0, Int.ofNat 0), (1001, [3, 1], Int.ofNat 7, Int.ofNat 0), (1000, [4], Int.ofNat 1, Int.ofNat 9)]), (41, [0, 1], [(87, [0, 2], Int.ofNat 0, Int.ofNat 0), (1001, [1, 2], Int.ofNat 1, Int.ofNat 0)])]
theorem rlo_pw0 : ∀ r ∈ rl_pw0, rv_RlOk r := List.forall_mem_cons.mpr ⟨ru_pw0_0, List.forall_mem_cons.mpr ⟨ru_pw0_1, List.forall_mem_cons.mpr ⟨ru_pw0_2, List.forall_mem_cons.mpr ⟨ru_pw0_3, fun _ h => absurd h List.not_mem_nil⟩⟩⟩⟩
theorem ru_pw1_0 : rv_RlOk (41, [0, 1], [(41, [2, 1], Int.ofNat 0, Int.ofNat 0), (6, [0, 2, 3, 4], Int.ofNat 0, Int.ofNat 0), (1000, [3], Int.ofNat 0, Int.ofNat 6), (1000, [1], Int.ofNat 0, Int.ofNat 7)]) := by
  intro val h
  have p0 : ∀ p : Nat, (p : Int) < (val 1).1 → 1 ≤ (val 2).2 (7 + p) := h _ (List.mem_of_getElem? (i := 0) rfl) rfl
  have p1 : ∀ j, (val 0).2 j = if j = (val 3).1.toNat then (val 4).1 else (val 2).2 j := h _ (List.mem_of_getElem? (i := 1) rfl)
  have p2 : 0 ≤ (val 3).1 ∧ (val 3).1 ≤ 6 := h _ (List.mem_of_getElem? (i := 2) rfl)
  have p3 : 0 ≤ (val 1).1 ∧ (val 1).1 ≤ 7 := h _ (List.mem_of_getElem? (i := 3) rfl)
  intro _
  show ∀ p : Nat, (p : Int) < (val 1).1 → 1 ≤ (val 0).2 (7 + p)
  intro p hp
  rw [p1, if_neg (by omega)]
  exact p0 p hp
theorem ru_pw1_1 : rv_RlOk (40, [0, 1], [(40, [2, 1], Int.ofNat 0, Int.ofNat 0), (6, [0, 2, 3, 4], Int.ofNat 0, Int.ofNat 0), (1000, [4], Int.ofNat 1, Int.ofNat 9)]) := by
  intro val h
  have p0 : ∀ p : Nat, (p : Int) < (val 1).1 → 1 ≤ (val 2).2 p := h _ (List.mem_of_getElem? (i := 0) rfl) rfl
  have p1 : ∀ j, (val 0).2 j = if j = (val 3).1.toNat then (val 4).1 else (val 2).2 j := h _ (List.mem_of_getElem? (i := 1) rfl)
  have p2 : 1 ≤ (val 4).1 ∧ (val 4).1 ≤ 9 := h _ (List.mem_of_getElem? (i := 2) rfl)
  intro _
  show ∀ p : Nat, (p : Int) < (val 1).1 → 1 ≤ (val 0).2 p
  intro p hp
  rw [p1]
  split
  · omega
  · exact p0 p hp
theorem ru_pw1_2 : rv_RlOk (86, [0, 1], [(6, [0, 2, 3, 4], Int.ofNat 0, Int.ofNat 0), (40, [2, 1], Int.ofNat 0, Int.ofNat 0), (1001, [3, 1], Int.ofNat 0, Int.ofNat 0), (1000, [4], Int.ofNat 1, Int.ofNat 9)]) := by
  intro val h
  have p0 : ∀ j, (val 0).2 j = if j = (val 3).1.toNat then (val 4).1 else (val 2).2 j := h _ (List.mem_of_getElem? (i := 0) rfl)
  have p1 : ∀ p : Nat, (p : Int) < (val 1).1 → 1 ≤ (val 2).2 p := h _ (List.mem_of_getElem? (i := 1) rfl) rfl
  have p2 : (val 3).1 = (val 1).1 + 0 := h _ (List.mem_of_getElem? (i := 2) rfl)
  have p3 : 1 ≤ (val 4).1 ∧ (val 4).1 ≤ 9 := h _ (List.mem_of_getElem? (i := 3) rfl)
  intro _
  show ∀ p : Nat, (p : Int) ≤ (val 1).1 → 1 ≤ (val 0).2 p
  intro p hp
  rw [p0]
  split
  · omega
  · rename_i hn
    exact p1 p (by omega)
theorem ru_pw1_3 : rv_RlOk (40, [0, 1], [(86, [0, 2], Int.ofNat 0, Int.ofNat 0), (1001, [1, 2], Int.ofNat 1, Int.ofNat 0)]) := by
  intro val h
  have p0 : ∀ p : Nat, (p : Int) ≤ (val 2).1 → 1 ≤ (val 0).2 p := h _ (List.mem_of_getElem? (i := 0) rfl) rfl
  have p1 : (val 1).1 = (val 2).1 + 1 := h _ (List.mem_of_getElem? (i := 1) rfl)
  intro _
  show ∀ p : Nat, (p : Int) < (val 1).1 → 1 ≤ (val 0).2 p
  intro p hp
  exact p0 p (by omega)
def rl_pw1 : List rv_Rl := [(41, [0, 1], [(41, [2, 1], Int.ofNat 0, Int.ofNat 0), (6, [0, 2, 3, 4], Int.ofNat 0, Int.ofNat 0), (1000, [3], Int.ofNat 0, Int.ofNat 6), (1000, [1], Int.ofNat 0, Int.ofNat 7)]), (40, [0, 1], [(40, [2, 1], Int.ofNat 0, Int.ofNat 0), (6, [0, 2, 3, 4], Int.ofNat 0, Int.ofNat 0), (1000, [4], Int.ofNat 1, Int.ofNat 9)]), (86, [0, 1], [(6, [0, 2, 3, 4], Int.ofNat 0, Int.ofNat 0), (40, [2, 1], Int.ofNat 0, Int.ofNat 0), (1001, [3, 1], Int.ofNat 0, Int.ofNat 0), (1000, [4], Int.ofNat 1, Int.ofNat 9)]), (40, [0, 1], [(86, [0, 2], Int.ofNat 0, Int.ofNat 0), (1001, [1, 2], Int.ofNat 1, Int.ofNat 0)])]
theorem rlo_pw1 : ∀ r ∈ rl_pw1, rv_RlOk r := List.forall_mem_cons.mpr ⟨ru_pw1_0, List.forall_mem_cons.mpr ⟨ru_pw1_1, List.forall_mem_cons.mpr ⟨ru_pw1_2, List.forall_mem_cons.mpr ⟨ru_pw1_3, fun _ h => absurd h List.not_mem_nil⟩⟩⟩⟩
theorem ru_r57_0 : rv_RlOk (57, [0, 1], [(1, [0, 2], Int.ofNat 0, Int.ofNat 0), (12, [2, 3, 1], Int.ofNat 0, Int.ofNat 0), (1000, [3], Int.ofNat 2, Int.ofNat 2), (1000, [1], Int.ofNat 0, Int.ofNat 128)]) := by
  intro val h
  have p0 : (val 0).1 < (val 2).1 := h _ (List.mem_of_getElem? (i := 0) rfl)
  have p1 : (val 2).1 = (rv_f 2 (Int32.ofInt (val 3).1) (Int32.ofInt (val 1).1)).toInt := h _ (List.mem_of_getElem? (i := 1) rfl)
  have p2 : 2 ≤ (val 3).1 ∧ (val 3).1 ≤ 2 := h _ (List.mem_of_getElem? (i := 2) rfl)
  have p3 : 0 ≤ (val 1).1 ∧ (val 1).1 ≤ 128 := h _ (List.mem_of_getElem? (i := 3) rfl)
  intro _
  show (val 0).1 < 2 * (val 1).1
  have e : (rv_f 2 (Int32.ofInt (val 3).1) (Int32.ofInt (val 1).1)).toInt = 2 * (val 1).1 := by
    rw [show (val 3).1 = 2 by omega]
    show (Int32.ofInt 2 * Int32.ofInt (val 1).1).toInt = _
    rw [Int32.toInt_mul, rv_of32 (by decide) (by decide), rv_of32 (by rw [rv_lo_eq]; omega) (by rw [rv_hi_eq]; omega), rv_bmod (by omega) (by omega)]
  rw [e] at p1
  omega
def rl_r57 : List rv_Rl := [(57, [0, 1], [(1, [0, 2], Int.ofNat 0, Int.ofNat 0), (12, [2, 3, 1], Int.ofNat 0, Int.ofNat 0), (1000, [3], Int.ofNat 2, Int.ofNat 2), (1000, [1], Int.ofNat 0, Int.ofNat 128)])]
theorem rlo_r57 : ∀ r ∈ rl_r57, rv_RlOk r := List.forall_mem_cons.mpr ⟨ru_r57_0, fun _ h => absurd h List.not_mem_nil⟩
theorem ru_re00_0 : rv_RlOk (2, [0, 1], [(5, [1, 2, 3], Int.ofNat 0, Int.ofNat 0), (5, [4, 5, 3], Int.ofNat 0, Int.ofNat 0), (1001, [2, 5], Int.ofNat 0, Int.ofNat 0), (1000, [4], Int.ofNat 7, Int.ofNat 8), (1000, [0], Int.ofNat 7, Int.ofNat 7)]) := by
  intro val h
  have p0 : (val 1).1 = (val 3).2 (val 2).1.toNat := h _ (List.mem_of_getElem? (i := 0) rfl)
  have p1 : (val 4).1 = (val 3).2 (val 5).1.toNat := h _ (List.mem_of_getElem? (i := 1) rfl)
  have p2 : (val 2).1 = (val 5).1 + 0 := h _ (List.mem_of_getElem? (i := 2) rfl)
  have p3 : 7 ≤ (val 4).1 ∧ (val 4).1 ≤ 8 := h _ (List.mem_of_getElem? (i := 3) rfl)
  have p4 : 7 ≤ (val 0).1 ∧ (val 0).1 ≤ 7 := h _ (List.mem_of_getElem? (i := 4) rfl)
  show (val 0).1 ≤ (val 1).1
  rw [show (val 2).1.toNat = (val 5).1.toNat by omega] at p0
  omega
theorem ru_re00_1 : rv_RlOk (2, [0, 1], [(5, [0, 2, 3], Int.ofNat 0, Int.ofNat 0), (5, [4, 5, 3], Int.ofNat 0, Int.ofNat 0), (1001, [2, 5], Int.ofNat 0, Int.ofNat 0), (1000, [4], Int.ofNat 1, Int.ofNat 6), (1000, [1], Int.ofNat 6, Int.ofNat 6)]) := by
  intro val h
  have p0 : (val 0).1 = (val 3).2 (val 2).1.toNat := h _ (List.mem_of_getElem? (i := 0) rfl)
  have p1 : (val 4).1 = (val 3).2 (val 5).1.toNat := h _ (List.mem_of_getElem? (i := 1) rfl)
  have p2 : (val 2).1 = (val 5).1 + 0 := h _ (List.mem_of_getElem? (i := 2) rfl)
  have p3 : 1 ≤ (val 4).1 ∧ (val 4).1 ≤ 6 := h _ (List.mem_of_getElem? (i := 3) rfl)
  have p4 : 6 ≤ (val 1).1 ∧ (val 1).1 ≤ 6 := h _ (List.mem_of_getElem? (i := 4) rfl)
  show (val 0).1 ≤ (val 1).1
  rw [show (val 2).1.toNat = (val 5).1.toNat by omega] at p0
  omega
def rl_re00 : List rv_Rl := [(2, [0, 1], [(5, [1, 2, 3], Int.ofNat 0, Int.ofNat 0), (5, [4, 5, 3], Int.ofNat 0, Int.ofNat 0), (1001, [2, 5], Int.ofNat 0, Int.ofNat 0), (1000, [4], Int.ofNat 7, Int.ofNat 8), (1000, [0], Int.ofNat 7, Int.ofNat 7)]), (2, [0, 1], [(5, [0, 2, 3], Int.ofNat 0, Int.ofNat 0), (5, [4, 5, 3], Int.ofNat 0, Int.ofNat 0), (1001, [2, 5], Int.ofNat 0, Int.ofNat 0), (1000, [4], Int.ofNat 1, Int.ofNat 6), (1000, [1], Int.ofNat 6, Int.ofNat 6)])]
theorem rlo_re00 : ∀ r ∈ rl_re00, rv_RlOk r := List.forall_mem_cons.mpr ⟨ru_re00_0, List.forall_mem_cons.mpr ⟨ru_re00_1, fun _ h => absurd h List.not_mem_nil⟩⟩
theorem ru_re01_0 : rv_RlOk (2, [0, 1], [(5, [1, 2, 3], Int.ofNat 0, Int.ofNat 0), (5, [4, 5, 3], Int.ofNat 0, Int.ofNat 0), (1001, [2, 5], Int.ofNat 0, Int.ofNat 0), (1000, [4], Int.ofNat 7, Int.ofNat 8), (1000, [0], Int.ofNat 7, Int.ofNat 7)]) := by
  intro val h
  have p0 : (val 1).1 = (val 3).2 (val 2).1.toNat := h _ (List.mem_of_getElem? (i := 0) rfl)
  have p1 : (val 4).1 = (val 3).2 (val 5).1.toNat := h _ (List.mem_of_getElem? (i := 1) rfl)
  have p2 : (val 2).1 = (val 5).1 + 0 := h _ (List.mem_of_getElem? (i := 2) rfl)
  have p3 : 7 ≤ (val 4).1 ∧ (val 4).1 ≤ 8 := h _ (List.mem_of_getElem? (i := 3) rfl)
  have p4 : 7 ≤ (val 0).1 ∧ (val 0).1 ≤ 7 := h _ (List.mem_of_getElem? (i := 4) rfl)
  show (val 0).1 ≤ (val 1).1
  rw [show (val 2).1.toNat = (val 5).1.toNat by omega] at p0
  omega
theorem ru_re01_1 : rv_RlOk (2, [0, 1], [(5, [0, 2, 3], Int.ofNat 0, Int.ofNat 0), (5, [4, 5, 3], Int.ofNat 0, Int.ofNat 0), (1001, [2, 5], Int.ofNat 0, Int.ofNat 0), (1000, [4], Int.ofNat 1, Int.ofNat 6), (1000, [1], Int.ofNat 6, Int.ofNat 6)]) := by
  intro val h
  have p0 : (val 0).1 = (val 3).2 (val 2).1.toNat := h _ (List.mem_of_getElem? (i := 0) rfl)
  have p1 : (val 4).1 = (val 3).2 (val 5).1.toNat := h _ (List.mem_of_getElem? (i := 1) rfl)
  have p2 : (val 2).1 = (val 5).1 + 0 := h _ (List.mem_of_getElem? (i := 2) rfl)
  have p3 : 1 ≤ (val 4).1 ∧ (val 4).1 ≤ 6 := h _ (List.mem_of_getElem? (i := 3) rfl)
  have p4 : 6 ≤ (val 1).1 ∧ (val 1).1 ≤ 6 := h _ (List.mem_of_getElem? (i := 4) rfl)
  show (val 0).1 ≤ (val 1).1
  rw [show (val 2).1.toNat = (val 5).1.toNat by omega] at p0
  omega
def rl_re01 : List rv_Rl := [(2, [0, 1], [(5, [1, 2, 3], Int.ofNat 0, Int.ofNat 0), (5, [4, 5, 3], Int.ofNat 0, Int.ofNat 0), (1001, [2, 5], Int.ofNat 0, Int.ofNat 0), (1000, [4], Int.ofNat 7, Int.ofNat 8), (1000, [0], Int.ofNat 7, Int.ofNat 7)]), (2, [0, 1], [(5, [0, 2, 3], Int.ofNat 0, Int.ofNat 0), (5, [4, 5, 3], Int.ofNat 0, Int.ofNat 0), (1001, [2, 5], Int.ofNat 0, Int.ofNat 0), (1000, [4], Int.ofNat 1, Int.ofNat 6), (1000, [1], Int.ofNat 6, Int.ofNat 6)])]
theorem rlo_re01 : ∀ r ∈ rl_re01, rv_RlOk r := List.forall_mem_cons.mpr ⟨ru_re01_0, List.forall_mem_cons.mpr ⟨ru_re01_1, fun _ h => absurd h List.not_mem_nil⟩⟩
theorem ru_re10_0 : rv_RlOk (2, [0, 1], [(5, [1, 2, 3], Int.ofNat 0, Int.ofNat 0), (5, [4, 5, 3], Int.ofNat 0, Int.ofNat 0), (1001, [2, 5], Int.ofNat 0, Int.ofNat 0), (1000, [4], Int.ofNat 7, Int.ofNat 8), (1000, [0], Int.ofNat 7, Int.ofNat 7)]) := by
  intro val h
  have p0 : (val 1).1 = (val 3).2 (val 2).1.toNat := h _ (List.mem_of_getElem? (i := 0) rfl)
  have p1 : (val 4).1 = (val 3).2 (val 5).1.toNat := h _ (List.mem_of_getElem? (i := 1) rfl)
  have p2 : (val 2).1 = (val 5).1 + 0 := h _ (List.mem_of_getElem? (i := 2) rfl)
  have p3 : 7 ≤ (val 4).1 ∧ (val 4).1 ≤ 8 := h _ (List.mem_of_getElem? (i := 3) rfl)
  have p4 : 7 ≤ (val 0).1 ∧ (val 0).1 ≤ 7 := h _ (List.mem_of_getElem? (i := 4) rfl)
  show (val 0).1 ≤ (val 1).1
  rw [show (val 2).1.toNat = (val 5).1.toNat by omega] at p0
  omega
theorem ru_re10_1 : rv_RlOk (2, [0, 1], [(5, [0, 2, 3], Int.ofNat 0, Int.ofNat 0), (5, [4, 5, 3], Int.ofNat 0, Int.ofNat 0), (1001, [2, 5], Int.ofNat 0, Int.ofNat 0), (1000, [4], Int.ofNat 1, Int.ofNat 6), (1000, [1], Int.ofNat 6, Int.ofNat 6)]) := by
  intro val h
  have p0 : (val 0).1 = (val 3).2 (val 2).1.toNat := h _ (List.mem_of_getElem? (i := 0) rfl)
  have p1 : (val 4).1 = (val 3).2 (val 5).1.toNat := h _ (List.mem_of_getElem? (i := 1) rfl)
  have p2 : (val 2).1 = (val 5).1 + 0 := h _ (List.mem_of_getElem? (i := 2) rfl)
  have p3 : 1 ≤ (val 4).1 ∧ (val 4).1 ≤ 6 := h _ (List.mem_of_getElem? (i := 3) rfl)
  have p4 : 6 ≤ (val 1).1 ∧ (val 1).1 ≤ 6 := h _ (List.mem_of_getElem? (i := 4) rfl)
  show (val 0).1 ≤ (val 1).1
  rw [show (val 2).1.toNat = (val 5).1.toNat by omega] at p0
  omega
def rl_re10 : List rv_Rl := [(2, [0, 1], [(5, [1, 2, 3], Int.ofNat 0, Int.ofNat 0), (5, [4, 5, 3], Int.ofNat 0, Int.ofNat 0), (1001, [2, 5], Int.ofNat 0, Int.ofNat 0), (1000, [4], Int.ofNat 7, Int.ofNat 8), (1000, [0], Int.ofNat 7, Int.ofNat 7)]), (2, [0, 1], [(5, [0, 2, 3], Int.ofNat 0, Int.ofNat 0), (5, [4, 5, 3], Int.ofNat 0, Int.ofNat 0), (1001, [2, 5], Int.ofNat 0, Int.ofNat 0), (1000, [4], Int.ofNat 1, Int.ofNat 6), (1000, [1], Int.ofNat 6, Int.ofNat 6)])]
theorem rlo_re10 : ∀ r ∈ rl_re10, rv_RlOk r := List.forall_mem_cons.mpr ⟨ru_re10_0, List.forall_mem_cons.mpr ⟨ru_re10_1, fun _ h => absurd h List.not_mem_nil⟩⟩
theorem ru_re11_0 : rv_RlOk (2, [0, 1], [(5, [1, 2, 3], Int.ofNat 0, Int.ofNat 0), (5, [4, 5, 3], Int.ofNat 0, Int.ofNat 0), (1001, [2, 5], Int.ofNat 0, Int.ofNat 0), (1000, [4], Int.ofNat 7, Int.ofNat 8), (1000, [0], Int.ofNat 7, Int.ofNat 7)]) := by
  intro val h
  have p0 : (val 1).1 = (val 3).2 (val 2).1.toNat := h _ (List.mem_of_getElem? (i := 0) rfl)
  have p1 : (val 4).1 = (val 3).2 (val 5).1.toNat := h _ (List.mem_of_getElem? (i := 1) rfl)
  have p2 : (val 2).1 = (val 5).1 + 0 := h _ (List.mem_of_getElem? (i := 2) rfl)
  have p3 : 7 ≤ (val 4).1 ∧ (val 4).1 ≤ 8 := h _ (List.mem_of_getElem? (i := 3) rfl)
  have p4 : 7 ≤ (val 0).1 ∧ (val 0).1 ≤ 7 := h _ (List.mem_of_getElem? (i := 4) rfl)
  show (val 0).1 ≤ (val 1).1
  rw [show (val 2).1.toNat = (val 5).1.toNat by omega] at p0
  omega
theorem ru_re11_1 : rv_RlOk (2, [0, 1], [(5, [0, 2, 3], Int.ofNat 0, Int.ofNat 0), (5, [4, 5, 3], Int.ofNat 0, Int.ofNat 0), (1001, [2, 5], Int.ofNat 0, Int.ofNat 0), (1000, [4], Int.ofNat 1, Int.ofNat 6), (1000, [1], Int.ofNat 6, Int.ofNat 6)]) := by
  intro val h
  have p0 : (val 0).1 = (val 3).2 (val 2).1.toNat := h _ (List.mem_of_getElem? (i := 0) rfl)
  have p1 : (val 4).1 = (val 3).2 (val 5).1.toNat := h _ (List.mem_of_getElem? (i := 1) rfl)
  have p2 : (val 2).1 = (val 5).1 + 0 := h _ (List.mem_of_getElem? (i := 2) rfl)
  have p3 : 1 ≤ (val 4).1 ∧ (val 4).1 ≤ 6 := h _ (List.mem_of_getElem? (i := 3) rfl)
  have p4 : 6 ≤ (val 1).1 ∧ (val 1).1 ≤ 6 := h _ (List.mem_of_getElem? (i := 4) rfl)
  show (val 0).1 ≤ (val 1).1
  rw [show (val 2).1.toNat = (val 5).1.toNat by omega] at p0
  omega
def rl_re11 : List rv_Rl := [(2, [0, 1], [(5, [1, 2, 3], Int.ofNat 0, Int.ofNat 0), (5, [4, 5, 3], Int.ofNat 0, Int.ofNat 0), (1001, [2, 5], Int.ofNat 0, Int.ofNat 0), (1000, [4], Int.ofNat 7, Int.ofNat 8), (1000, [0], Int.ofNat 7, Int.ofNat 7)]), (2, [0, 1], [(5, [0, 2, 3], Int.ofNat 0, Int.ofNat 0), (5, [4, 5, 3], Int.ofNat 0, Int.ofNat 0), (1001, [2, 5], Int.ofNat 0, Int.ofNat 0), (1000, [4], Int.ofNat 1, Int.ofNat 6), (1000, [1], Int.ofNat 6, Int.ofNat 6)])]
theorem rlo_re11 : ∀ r ∈ rl_re11, rv_RlOk r := List.forall_mem_cons.mpr ⟨ru_re11_0, List.forall_mem_cons.mpr ⟨ru_re11_1, fun _ h => absurd h List.not_mem_nil⟩⟩
theorem ru_redo_0 : rv_RlOk (2, [0, 1], [(44, [2, 3], Int.ofNat 0, Int.ofNat 0), (1001, [0, 2], Int.ofNat 1, Int.ofNat 0), (1000, [3], Int.ofNat 1, Int.ofNat 40), (1000, [1], Int.ofNat 40, Int.ofNat 40)]) := by
  intro val h
  have p0 : (val 2).1 + (val 3).1 ≤ 40 := h _ (List.mem_of_getElem? (i := 0) rfl) rfl
  have p1 : (val 0).1 = (val 2).1 + 1 := h _ (List.mem_of_getElem? (i := 1) rfl)
  have p2 : 1 ≤ (val 3).1 ∧ (val 3).1 ≤ 40 := h _ (List.mem_of_getElem? (i := 2) rfl)
  have p3 : 40 ≤ (val 1).1 ∧ (val 1).1 ≤ 40 := h _ (List.mem_of_getElem? (i := 3) rfl)
  show (val 0).1 ≤ (val 1).1
  omega
theorem ru_redo_1 : rv_RlOk (44, [0, 1], [(44, [2, 3], Int.ofNat 0, Int.ofNat 0), (1001, [0, 2], Int.ofNat 1, Int.ofNat 0), (1001, [1, 3], Int.negSucc 0, Int.ofNat 0), (1000, [3], Int.ofNat 1, Int.ofNat 40)]) := by
  intro val h
  have p0 : (val 2).1 + (val 3).1 ≤ 40 := h _ (List.mem_of_getElem? (i := 0) rfl) rfl
  have p1 : (val 0).1 = (val 2).1 + 1 := h _ (List.mem_of_getElem? (i := 1) rfl)
  have p2 : (val 1).1 = (val 3).1 + (-1) := h _ (List.mem_of_getElem? (i := 2) rfl)
  have p3 : 1 ≤ (val 3).1 ∧ (val 3).1 ≤ 40 := h _ (List.mem_of_getElem? (i := 3) rfl)
  intro _
  show (val 0).1 + (val 1).1 ≤ 40
  omega
def rl_redo : List rv_Rl := [(2, [0, 1], [(44, [2, 3], Int.ofNat 0, Int.ofNat 0), (1001, [0, 2], Int.ofNat 1, Int.ofNat 0), (1000, [3], Int.ofNat 1, Int.ofNat 40), (1000, [1], Int.ofNat 40, Int.ofNat 40)]), (44, [0, 1], [(44, [2, 3], Int.ofNat 0, Int.ofNat 0), (1001, [0, 2], Int.ofNat 1, Int.ofNat 0), (1001, [1, 3], Int.negSucc 0, Int.ofNat 0), (1000, [3], Int.ofNat 1, Int.ofNat 40)])]
theorem rlo_redo : ∀ r ∈ rl_redo, rv_RlOk r := List.forall_mem_cons.mpr ⟨ru_redo_0, List.forall_mem_cons.mpr ⟨ru_redo_1, fun _ h => absurd h List.not_mem_nil⟩⟩
theorem ru_reread_0 : rv_RlOk (2, [0, 1], [(5, [1, 2, 3], Int.ofNat 0, Int.ofNat 0), (5, [4, 5, 3], Int.ofNat 0, Int.ofNat 0), (1001, [2, 5], Int.ofNat 0, Int.ofNat 0), (1000, [4], Int.ofNat 0, Int.ofNat 2147483647), (1000, [0], Int.ofNat 0, Int.ofNat 0)]) := by
  intro val h
  have p0 : (val 1).1 = (val 3).2 (val 2).1.toNat := h _ (List.mem_of_getElem? (i := 0) rfl)
  have p1 : (val 4).1 = (val 3).2 (val 5).1.toNat := h _ (List.mem_of_getElem? (i := 1) rfl)
  have p2 : (val 2).1 = (val 5).1 + 0 := h _ (List.mem_of_getElem? (i := 2) rfl)
  have p3 : 0 ≤ (val 4).1 ∧ (val 4).1 ≤ 2147483647 := h _ (List.mem_of_getElem? (i := 3) rfl)
  have p4 : 0 ≤ (val 0).1 ∧ (val 0).1 ≤ 0 := h _ (List.mem_of_getElem? (i := 4) rfl)
  show (val 0).1 ≤ (val 1).1
  rw [show (val 2).1.toNat = (val 5).1.toNat by omega] at p0
  omega
def rl_reread : List rv_Rl := [(2, [0, 1], [(5, [1, 2, 3], Int.ofNat 0, Int.ofNat 0), (5, [4, 5, 3], Int.ofNat 0, Int.ofNat 0), (1001, [2, 5], Int.ofNat 0, Int.ofNat 0), (1000, [4], Int.ofNat 0, Int.ofNat 2147483647), (1000, [0], Int.ofNat 0, Int.ofNat 0)])]
theorem rlo_reread : ∀ r ∈ rl_reread, rv_RlOk r := List.forall_mem_cons.mpr ⟨ru_reread_0, fun _ h => absurd h List.not_mem_nil⟩
theorem ru_row_0 : rv_RlOk (50, [0, 1, 2], [(6, [0, 1, 3, 4], Int.ofNat 0, Int.ofNat 0), (1001, [3, 2], Int.ofNat 0, Int.ofNat 0), (5, [5, 6, 1], Int.ofNat 0, Int.ofNat 0), (1001, [6, 3], Int.ofNat 0, Int.ofNat 0), (1001, [4, 5], Int.ofNat 1, Int.ofNat 0), (1000, [3], Int.ofNat 1, Int.ofNat 6), (1000, [5], Int.ofNat 0, Int.ofNat 6)]) := by
  intro val h
  have p0 : ∀ j, (val 0).2 j = if j = (val 3).1.toNat then (val 4).1 else (val 1).2 j := h _ (List.mem_of_getElem? (i := 0) rfl)
  have p1 : (val 3).1 = (val 2).1 + 0 := h _ (List.mem_of_getElem? (i := 1) rfl)
  have p2 : (val 5).1 = (val 1).2 (val 6).1.toNat := h _ (List.mem_of_getElem? (i := 2) rfl)
  have p3 : (val 6).1 = (val 3).1 + 0 := h _ (List.mem_of_getElem? (i := 3) rfl)
  have p4 : (val 4).1 = (val 5).1 + 1 := h _ (List.mem_of_getElem? (i := 4) rfl)
  have p5 : 1 ≤ (val 3).1 ∧ (val 3).1 ≤ 6 := h _ (List.mem_of_getElem? (i := 5) rfl)
  have p6 : 0 ≤ (val 5).1 ∧ (val 5).1 ≤ 6 := h _ (List.mem_of_getElem? (i := 6) rfl)
  intro _
  show (∀ j : Nat, (j : Int) < (val 2).1 → (val 0).2 j = (val 1).2 j) ∧ (val 1).2 (val 2).1.toNat < (val 0).2 (val 2).1.toNat ∧ 0 ≤ (val 1).2 (val 2).1.toNat ∧ (val 1).2 (val 2).1.toNat ≤ 6
  refine ⟨fun j hj => by rw [p0, if_neg (by omega)], ?_⟩
  have e : (val 2).1.toNat = (val 3).1.toNat := by omega
  have e2 : (val 6).1.toNat = (val 3).1.toNat := by omega
  rw [e2] at p2
  rw [e, p0, if_pos rfl, ← p2]
  omega
theorem ru_row_1 : rv_RlOk (50, [0, 1, 2], [(6, [0, 3, 4, 5], Int.ofNat 0, Int.ofNat 0), (50, [3, 1, 2], Int.ofNat 0, Int.ofNat 0), (1, [2, 4], Int.ofNat 0, Int.ofNat 0), (1000, [2], Int.ofNat 1, Int.ofNat 6)]) := by
  intro val h
  have p0 : ∀ j, (val 0).2 j = if j = (val 4).1.toNat then (val 5).1 else (val 3).2 j := h _ (List.mem_of_getElem? (i := 0) rfl)
  have p1 : (∀ j : Nat, (j : Int) < (val 2).1 → (val 3).2 j = (val 1).2 j) ∧ (val 1).2 (val 2).1.toNat < (val 3).2 (val 2).1.toNat ∧ 0 ≤ (val 1).2 (val 2).1.toNat ∧ (val 1).2 (val 2).1.toNat ≤ 6 := h _ (List.mem_of_getElem? (i := 1) rfl) rfl
  have p2 : (val 2).1 < (val 4).1 := h _ (List.mem_of_getElem? (i := 2) rfl)
  have p3 : 1 ≤ (val 2).1 ∧ (val 2).1 ≤ 6 := h _ (List.mem_of_getElem? (i := 3) rfl)
  intro _
  show (∀ j : Nat, (j : Int) < (val 2).1 → (val 0).2 j = (val 1).2 j) ∧ (val 1).2 (val 2).1.toNat < (val 0).2 (val 2).1.toNat ∧ 0 ≤ (val 1).2 (val 2).1.toNat ∧ (val 1).2 (val 2).1.toNat ≤ 6
  obtain ⟨a1, a2, a3, a4⟩ := p1
  have e : (val 0).2 (val 2).1.toNat = (val 3).2 (val 2).1.toNat := by rw [p0, if_neg (by omega)]
  refine ⟨fun j hj => by rw [p0, if_neg (by omega)]; exact a1 j hj, ?_⟩
  rw [e]
  exact ⟨a2, a3, a4⟩
theorem ru_row_2 : rv_RlOk (30, [0, 1], [(50, [0, 1, 2], Int.ofNat 0, Int.ofNat 0), (1000, [2], Int.ofNat 1, Int.ofNat 6)]) := by
  intro val h
  have p0 : (∀ j : Nat, (j : Int) < (val 2).1 → (val 0).2 j = (val 1).2 j) ∧ (val 1).2 (val 2).1.toNat < (val 0).2 (val 2).1.toNat ∧ 0 ≤ (val 1).2 (val 2).1.toNat ∧ (val 1).2 (val 2).1.toNat ≤ 6 := h _ (List.mem_of_getElem? (i := 0) rfl) rfl
  have p1 : 1 ≤ (val 2).1 ∧ (val 2).1 ≤ 6 := h _ (List.mem_of_getElem? (i := 1) rfl)
  show rv_μ 0 (val 0).2 < rv_μ 0 (val 1).2
  exact rv_num_lt (k := (val 2).1.toNat) (by omega) (fun j hj => p0.1 j (by omega)) p0.2.1 p0.2.2.1 p0.2.2.2
def rl_row : List rv_Rl := [(50, [0, 1, 2], [(6, [0, 1, 3, 4], Int.ofNat 0, Int.ofNat 0), (1001, [3, 2], Int.ofNat 0, Int.ofNat 0), (5, [5, 6, 1], Int.ofNat 0, Int.ofNat 0), (1001, [6, 3], Int.ofNat 0, Int.ofNat 0), (1001, [4, 5], Int.ofNat 1, Int.ofNat 0), (1000, [3], Int.ofNat 1, Int.ofNat 6), (1000, [5], Int.ofNat 0, Int.ofNat 6)]), (50, [0, 1, 2], [(6, [0, 3, 4, 5], Int.ofNat 0, Int.ofNat 0), (50, [3, 1, 2], Int.ofNat 0, Int.ofNat 0), (1, [2, 4], Int.ofNat 0, Int.ofNat 0), (1000, [2], Int.ofNat 1, Int.ofNat 6)]), (30, [0, 1], [(50, [0, 1, 2], Int.ofNat 0, Int.ofNat 0), (1000, [2], Int.ofNat 1, Int.ofNat 6)])]
theorem rlo_row : ∀ r ∈ rl_row, rv_RlOk r := List.forall_mem_cons.mpr ⟨ru_row_0, List.forall_mem_cons.mpr ⟨ru_row_1, List.forall_mem_cons.mpr ⟨ru_row_2, fun _ h => absurd h List.not_mem_nil⟩⟩⟩
theorem ru_samed_0 : rv_RlOk (2, [0, 1], [(59, [1, 2, 3, 4], Int.ofNat 0, Int.ofNat 0), (59, [5, 6, 3, 4], Int.ofNat 0, Int.ofNat 0), (1001, [2, 6], Int.ofNat 0, Int.ofNat 0), (1000, [5], Int.ofNat 48, Int.ofNat 57), (1000, [0], Int.ofNat 48, Int.ofNat 48)]) := by
  intro val h
  have p0 : (val 1).1 = rv_sgn (val 3).2 (val 2).1 (val 4).1 := h _ (List.mem_of_getElem? (i := 0) rfl) rfl
  have p1 : (val 5).1 = rv_sgn (val 3).2 (val 6).1 (val 4).1 := h _ (List.mem_of_getElem? (i := 1) rfl) rfl
  have p2 : (val 2).1 = (val 6).1 + 0 := h _ (List.mem_of_getElem? (i := 2) rfl)
  have p3 : 48 ≤ (val 5).1 ∧ (val 5).1 ≤ 57 := h _ (List.mem_of_getElem? (i := 3) rfl)
  have p4 : 48 ≤ (val 0).1 ∧ (val 0).1 ≤ 48 := h _ (List.mem_of_getElem? (i := 4) rfl)
  show (val 0).1 ≤ (val 1).1
  rw [show (val 2).1 = (val 6).1 by omega, ← p1] at p0
  omega
theorem ru_samed_1 : rv_RlOk (2, [0, 1], [(59, [0, 2, 3, 4], Int.ofNat 0, Int.ofNat 0), (59, [5, 6, 3, 4], Int.ofNat 0, Int.ofNat 0), (1001, [2, 6], Int.ofNat 0, Int.ofNat 0), (1000, [5], Int.ofNat 48, Int.ofNat 57), (1000, [1], Int.ofNat 57, Int.ofNat 57)]) := by
  intro val h
  have p0 : (val 0).1 = rv_sgn (val 3).2 (val 2).1 (val 4).1 := h _ (List.mem_of_getElem? (i := 0) rfl) rfl
  have p1 : (val 5).1 = rv_sgn (val 3).2 (val 6).1 (val 4).1 := h _ (List.mem_of_getElem? (i := 1) rfl) rfl
  have p2 : (val 2).1 = (val 6).1 + 0 := h _ (List.mem_of_getElem? (i := 2) rfl)
  have p3 : 48 ≤ (val 5).1 ∧ (val 5).1 ≤ 57 := h _ (List.mem_of_getElem? (i := 3) rfl)
  have p4 : 57 ≤ (val 1).1 ∧ (val 1).1 ≤ 57 := h _ (List.mem_of_getElem? (i := 4) rfl)
  show (val 0).1 ≤ (val 1).1
  rw [show (val 2).1 = (val 6).1 by omega, ← p1] at p0
  omega
def rl_samed : List rv_Rl := [(2, [0, 1], [(59, [1, 2, 3, 4], Int.ofNat 0, Int.ofNat 0), (59, [5, 6, 3, 4], Int.ofNat 0, Int.ofNat 0), (1001, [2, 6], Int.ofNat 0, Int.ofNat 0), (1000, [5], Int.ofNat 48, Int.ofNat 57), (1000, [0], Int.ofNat 48, Int.ofNat 48)]), (2, [0, 1], [(59, [0, 2, 3, 4], Int.ofNat 0, Int.ofNat 0), (59, [5, 6, 3, 4], Int.ofNat 0, Int.ofNat 0), (1001, [2, 6], Int.ofNat 0, Int.ofNat 0), (1000, [5], Int.ofNat 48, Int.ofNat 57), (1000, [1], Int.ofNat 57, Int.ofNat 57)])]
theorem rlo_samed : ∀ r ∈ rl_samed, rv_RlOk r := List.forall_mem_cons.mpr ⟨ru_samed_0, List.forall_mem_cons.mpr ⟨ru_samed_1, fun _ h => absurd h List.not_mem_nil⟩⟩
theorem ru_sgn_0 : rv_RlOk (59, [0, 1, 2, 3], [(5, [4, 1, 2], Int.ofNat 0, Int.ofNat 0), (15, [0, 4, 5], Int.ofNat 0, Int.ofNat 0), (1000, [5], Int.ofNat 255, Int.ofNat 255), (1, [1, 3], Int.ofNat 0, Int.ofNat 0)]) := by
  intro val h
  have p0 : (val 4).1 = (val 2).2 (val 1).1.toNat := h _ (List.mem_of_getElem? (i := 0) rfl)
  have p1 : (val 0).1 = (rv_f 5 (Int32.ofInt (val 4).1) (Int32.ofInt (val 5).1)).toInt := h _ (List.mem_of_getElem? (i := 1) rfl)
  have p2 : 255 ≤ (val 5).1 ∧ (val 5).1 ≤ 255 := h _ (List.mem_of_getElem? (i := 2) rfl)
  have p3 : (val 1).1 < (val 3).1 := h _ (List.mem_of_getElem? (i := 3) rfl)
  intro _
  show (val 0).1 = rv_sgn (val 2).2 (val 1).1 (val 3).1
  unfold rv_sgn
  rw [if_pos p3, ← p0, show (255 : Int32) = Int32.ofInt (val 5).1 by rw [show (val 5).1 = 255 by omega]; rfl]
  exact p1
theorem ru_sgn_1 : rv_RlOk (59, [0, 1, 2, 3], [(1000, [0], Int.ofNat 0, Int.ofNat 0), (2, [3, 1], Int.ofNat 0, Int.ofNat 0)]) := by
  intro val h
  have p0 : 0 ≤ (val 0).1 ∧ (val 0).1 ≤ 0 := h _ (List.mem_of_getElem? (i := 0) rfl)
  have p1 : (val 3).1 ≤ (val 1).1 := h _ (List.mem_of_getElem? (i := 1) rfl)
  intro _
  show (val 0).1 = rv_sgn (val 2).2 (val 1).1 (val 3).1
  unfold rv_sgn
  rw [if_neg (by omega)]
  omega
def rl_sgn : List rv_Rl := [(59, [0, 1, 2, 3], [(5, [4, 1, 2], Int.ofNat 0, Int.ofNat 0), (15, [0, 4, 5], Int.ofNat 0, Int.ofNat 0), (1000, [5], Int.ofNat 255, Int.ofNat 255), (1, [1, 3], Int.ofNat 0, Int.ofNat 0)]), (59, [0, 1, 2, 3], [(1000, [0], Int.ofNat 0, Int.ofNat 0), (2, [3, 1], Int.ofNat 0, Int.ofNat 0)])]
theorem rlo_sgn : ∀ r ∈ rl_sgn, rv_RlOk r := List.forall_mem_cons.mpr ⟨ru_sgn_0, List.forall_mem_cons.mpr ⟨ru_sgn_1, fun _ h => absurd h List.not_mem_nil⟩⟩
theorem ru_sgn2_0 : rv_RlOk (59, [0, 1, 2, 3], [(59, [4, 1, 2, 3], Int.ofNat 0, Int.ofNat 0), (3, [4, 0], Int.ofNat 0, Int.ofNat 0)]) := by
  intro val h
  have p0 : (val 4).1 = rv_sgn (val 2).2 (val 1).1 (val 3).1 := h _ (List.mem_of_getElem? (i := 0) rfl) rfl
  have p1 : (val 4).1 = (val 0).1 := h _ (List.mem_of_getElem? (i := 1) rfl)
  intro _
  show (val 0).1 = rv_sgn (val 2).2 (val 1).1 (val 3).1
  rw [← p1]
  exact p0
def rl_sgn2 : List rv_Rl := [(59, [0, 1, 2, 3], [(59, [4, 1, 2, 3], Int.ofNat 0, Int.ofNat 0), (3, [4, 0], Int.ofNat 0, Int.ofNat 0)])]
theorem rlo_sgn2 : ∀ r ∈ rl_sgn2, rv_RlOk r := List.forall_mem_cons.mpr ⟨ru_sgn2_0, fun _ h => absurd h List.not_mem_nil⟩
theorem ru_start_0 : rv_RlOk (40, [0, 1], [(1000, [1], Int.ofNat 0, Int.ofNat 0)]) := by
  intro val h
  have p0 : 0 ≤ (val 1).1 ∧ (val 1).1 ≤ 0 := h _ (List.mem_of_getElem? (i := 0) rfl)
  intro _
  show ∀ p : Nat, (p : Int) < (val 1).1 → 1 ≤ (val 0).2 p
  intro p hp
  omega
theorem ru_start_1 : rv_RlOk (42, [0, 1, 2, 3, 4, 5], [(1000, [0], Int.ofNat 0, Int.ofNat 0)]) := by
  intro val h
  have p0 : 0 ≤ (val 0).1 ∧ (val 0).1 ≤ 0 := h _ (List.mem_of_getElem? (i := 0) rfl)
  intro _
  show rv_RU 0 (val 0).1 (val 1).2 (val 2).1 (val 3).1 (val 4).1 (val 5).1
  exact ⟨fun z => absurd z (rv_bit_0 _ (by omega) (Or.inl rfl)), fun z => absurd z (rv_bit_0 _ (by omega) (Or.inr rfl))⟩
theorem ru_start_2 : rv_RlOk (44, [0, 1], [(1000, [0], Int.ofNat 0, Int.ofNat 0), (1000, [1], Int.ofNat 0, Int.ofNat 0)]) := by
  intro val h
  have p0 : 0 ≤ (val 0).1 ∧ (val 0).1 ≤ 0 := h _ (List.mem_of_getElem? (i := 0) rfl)
  have p1 : 0 ≤ (val 1).1 ∧ (val 1).1 ≤ 0 := h _ (List.mem_of_getElem? (i := 1) rfl)
  intro _
  show (val 0).1 + (val 1).1 ≤ 40
  omega
def rl_start : List rv_Rl := [(40, [0, 1], [(1000, [1], Int.ofNat 0, Int.ofNat 0)]), (42, [0, 1, 2, 3, 4, 5], [(1000, [0], Int.ofNat 0, Int.ofNat 0)]), (44, [0, 1], [(1000, [0], Int.ofNat 0, Int.ofNat 0), (1000, [1], Int.ofNat 0, Int.ofNat 0)])]
theorem rlo_start : ∀ r ∈ rl_start, rv_RlOk r := List.forall_mem_cons.mpr ⟨ru_start_0, List.forall_mem_cons.mpr ⟨ru_start_1, List.forall_mem_cons.mpr ⟨ru_start_2, fun _ h => absurd h List.not_mem_nil⟩⟩⟩
theorem ru_succ_0 : rv_RlOk (2, [0, 1], [(1, [2, 1], Int.ofNat 0, Int.ofNat 0), (1001, [0, 2], Int.ofNat 1, Int.ofNat 0)]) := by
  intro val h
  have p0 : (val 2).1 < (val 1).1 := h _ (List.mem_of_getElem? (i := 0) rfl)
  have p1 : (val 0).1 = (val 2).1 + 1 := h _ (List.mem_of_getElem? (i := 1) rfl)
  show (val 0).1 ≤ (val 1).1
  omega
theorem ru_succ_1 : rv_RlOk (1, [0, 1], [(1, [0, 2], Int.ofNat 0, Int.ofNat 0), (1001, [1, 2], Int.ofNat 1, Int.ofNat 0)]) := by
  intro val h
  have p0 : (val 0).1 < (val 2).1 := h _ (List.mem_of_getElem? (i := 0) rfl)
  have p1 : (val 1).1 = (val 2).1 + 1 := h _ (List.mem_of_getElem? (i := 1) rfl)
  show (val 0).1 < (val 1).1
  omega
theorem ru_succ_2 : rv_RlOk (2, [0, 1], [(2, [0, 2], Int.ofNat 0, Int.ofNat 0), (1001, [1, 2], Int.ofNat 1, Int.ofNat 0)]) := by
  intro val h
  have p0 : (val 0).1 ≤ (val 2).1 := h _ (List.mem_of_getElem? (i := 0) rfl)
  have p1 : (val 1).1 = (val 2).1 + 1 := h _ (List.mem_of_getElem? (i := 1) rfl)
  show (val 0).1 ≤ (val 1).1
  omega
theorem ru_succ_3 : rv_RlOk (1, [0, 1], [(2, [0, 2], Int.ofNat 0, Int.ofNat 0), (1001, [1, 2], Int.ofNat 1, Int.ofNat 0)]) := by
  intro val h
  have p0 : (val 0).1 ≤ (val 2).1 := h _ (List.mem_of_getElem? (i := 0) rfl)
  have p1 : (val 1).1 = (val 2).1 + 1 := h _ (List.mem_of_getElem? (i := 1) rfl)
  show (val 0).1 < (val 1).1
  omega
def rl_succ : List rv_Rl := [(2, [0, 1], [(1, [2, 1], Int.ofNat 0, Int.ofNat 0), (1001, [0, 2], Int.ofNat 1, Int.ofNat 0)]), (1, [0, 1], [(1, [0, 2], Int.ofNat 0, Int.ofNat 0), (1001, [1, 2], Int.ofNat 1, Int.ofNat 0)]), (2, [0, 1], [(2, [0, 2], Int.ofNat 0, Int.ofNat 0), (1001, [1, 2], Int.ofNat 1, Int.ofNat 0)]), (1, [0, 1], [(2, [0, 2], Int.ofNat 0, Int.ofNat 0), (1001, [1, 2], Int.ofNat 1, Int.ofNat 0)])]
theorem rlo_succ : ∀ r ∈ rl_succ, rv_RlOk r := List.forall_mem_cons.mpr ⟨ru_succ_0, List.forall_mem_cons.mpr ⟨ru_succ_1, List.forall_mem_cons.mpr ⟨ru_succ_2, List.forall_mem_cons.mpr ⟨ru_succ_3, fun _ h => absurd h List.not_mem_nil⟩⟩⟩⟩
theorem ru_sum_0 : rv_RlOk (31, [0, 1], [(6, [0, 1, 2, 3], Int.ofNat 0, Int.ofNat 0), (5, [4, 5, 1], Int.ofNat 0, Int.ofNat 0), (1001, [5, 2], Int.ofNat 0, Int.ofNat 0), (1, [3, 4], Int.ofNat 0, Int.ofNat 0), (1000, [3], Int.ofNat 0, Int.ofNat 2147483647), (1000, [2], Int.ofNat 0, Int.ofNat 255)]) := by
  intro val h
  have p0 : ∀ j, (val 0).2 j = if j = (val 2).1.toNat then (val 3).1 else (val 1).2 j := h _ (List.mem_of_getElem? (i := 0) rfl)
  have p1 : (val 4).1 = (val 1).2 (val 5).1.toNat := h _ (List.mem_of_getElem? (i := 1) rfl)
  have p2 : (val 5).1 = (val 2).1 + 0 := h _ (List.mem_of_getElem? (i := 2) rfl)
  have p3 : (val 3).1 < (val 4).1 := h _ (List.mem_of_getElem? (i := 3) rfl)
  have p4 : 0 ≤ (val 3).1 ∧ (val 3).1 ≤ 2147483647 := h _ (List.mem_of_getElem? (i := 4) rfl)
  have p5 : 0 ≤ (val 2).1 ∧ (val 2).1 ≤ 255 := h _ (List.mem_of_getElem? (i := 5) rfl)
  show rv_μ 1 (val 0).2 < rv_μ 1 (val 1).2
  refine rv_sum_lt p0 (by omega) ?_ (by omega) ?_
  · omega
  · rw [← show (val 5).1.toNat = (val 2).1.toNat by omega, ← p1]; omega
theorem ru_sum_1 : rv_RlOk (31, [0, 1], [(6, [0, 6, 2, 3], Int.ofNat 0, Int.ofNat 0), (31, [6, 1], Int.ofNat 0, Int.ofNat 0), (5, [4, 5, 6], Int.ofNat 0, Int.ofNat 0), (1001, [5, 2], Int.ofNat 0, Int.ofNat 0), (1, [3, 4], Int.ofNat 0, Int.ofNat 0), (1000, [3], Int.ofNat 0, Int.ofNat 2147483647), (1000, [2], Int.ofNat 0, Int.ofNat 255)]) := by
  intro val h
  have p0 : ∀ j, (val 0).2 j = if j = (val 2).1.toNat then (val 3).1 else (val 6).2 j := h _ (List.mem_of_getElem? (i := 0) rfl)
  have p1 : rv_μ 1 (val 6).2 < rv_μ 1 (val 1).2 := h _ (List.mem_of_getElem? (i := 1) rfl)
  have p2 : (val 4).1 = (val 6).2 (val 5).1.toNat := h _ (List.mem_of_getElem? (i := 2) rfl)
  have p3 : (val 5).1 = (val 2).1 + 0 := h _ (List.mem_of_getElem? (i := 3) rfl)
  have p4 : (val 3).1 < (val 4).1 := h _ (List.mem_of_getElem? (i := 4) rfl)
  have p5 : 0 ≤ (val 3).1 ∧ (val 3).1 ≤ 2147483647 := h _ (List.mem_of_getElem? (i := 5) rfl)
  have p6 : 0 ≤ (val 2).1 ∧ (val 2).1 ≤ 255 := h _ (List.mem_of_getElem? (i := 6) rfl)
  show rv_μ 1 (val 0).2 < rv_μ 1 (val 1).2
  refine Nat.lt_trans (rv_sum_lt p0 (by omega) ?_ (by omega) ?_) p1
  · omega
  · rw [← show (val 5).1.toNat = (val 2).1.toNat by omega, ← p2]; omega
def rl_sum : List rv_Rl := [(31, [0, 1], [(6, [0, 1, 2, 3], Int.ofNat 0, Int.ofNat 0), (5, [4, 5, 1], Int.ofNat 0, Int.ofNat 0), (1001, [5, 2], Int.ofNat 0, Int.ofNat 0), (1, [3, 4], Int.ofNat 0, Int.ofNat 0), (1000, [3], Int.ofNat 0, Int.ofNat 2147483647), (1000, [2], Int.ofNat 0, Int.ofNat 255)]), (31, [0, 1], [(6, [0, 6, 2, 3], Int.ofNat 0, Int.ofNat 0), (31, [6, 1], Int.ofNat 0, Int.ofNat 0), (5, [4, 5, 6], Int.ofNat 0, Int.ofNat 0), (1001, [5, 2], Int.ofNat 0, Int.ofNat 0), (1, [3, 4], Int.ofNat 0, Int.ofNat 0), (1000, [3], Int.ofNat 0, Int.ofNat 2147483647), (1000, [2], Int.ofNat 0, Int.ofNat 255)])]
theorem rlo_sum : ∀ r ∈ rl_sum, rv_RlOk r := List.forall_mem_cons.mpr ⟨ru_sum_0, List.forall_mem_cons.mpr ⟨ru_sum_1, fun _ h => absurd h List.not_mem_nil⟩⟩
theorem ru_taped_0 : rv_RlOk (2, [0, 1], [(2, [2, 3], Int.ofNat 0, Int.ofNat 0), (1001, [2, 0], Int.ofNat 20, Int.ofNat 0), (1000, [3], Int.ofNat 1600, Int.ofNat 1600), (1000, [1], Int.ofNat 1580, Int.ofNat 1580)]) := by
  intro val h
  have p0 : (val 2).1 ≤ (val 3).1 := h _ (List.mem_of_getElem? (i := 0) rfl)
  have p1 : (val 2).1 = (val 0).1 + 20 := h _ (List.mem_of_getElem? (i := 1) rfl)
  have p2 : 1600 ≤ (val 3).1 ∧ (val 3).1 ≤ 1600 := h _ (List.mem_of_getElem? (i := 2) rfl)
  have p3 : 1580 ≤ (val 1).1 ∧ (val 1).1 ≤ 1580 := h _ (List.mem_of_getElem? (i := 3) rfl)
  show (val 0).1 ≤ (val 1).1
  omega
def rl_taped : List rv_Rl := [(2, [0, 1], [(2, [2, 3], Int.ofNat 0, Int.ofNat 0), (1001, [2, 0], Int.ofNat 20, Int.ofNat 0), (1000, [3], Int.ofNat 1600, Int.ofNat 1600), (1000, [1], Int.ofNat 1580, Int.ofNat 1580)])]
theorem rlo_taped : ∀ r ∈ rl_taped, rv_RlOk r := List.forall_mem_cons.mpr ⟨ru_taped_0, fun _ h => absurd h List.not_mem_nil⟩
theorem ru_told0_0 : rv_RlOk (53, [0, 1, 2, 3, 4, 5, 6, 7], [(16, [0, 8, 9], Int.ofNat 0, Int.ofNat 0), (53, [8, 1, 2, 3, 4, 5, 6, 7], Int.ofNat 0, Int.ofNat 0), (1000, [9], Int.ofNat 4, Int.ofNat 4)]) := by
  intro val h
  have p0 : (val 0).1 = (rv_f 6 (Int32.ofInt (val 8).1) (Int32.ofInt (val 9).1)).toInt := h _ (List.mem_of_getElem? (i := 0) rfl)
  have p1 : rv_NC 0 (val 8).1 (val 1).2 (val 2).1 (val 3).1 (val 4).1 (val 5).1 (val 6).1 (val 7).1 := h _ (List.mem_of_getElem? (i := 1) rfl) rfl
  have p2 : 4 ≤ (val 9).1 ∧ (val 9).1 ≤ 4 := h _ (List.mem_of_getElem? (i := 2) rfl)
  intro _
  show rv_NC 0 (val 0).1 (val 1).2 (val 2).1 (val 3).1 (val 4).1 (val 5).1 (val 6).1 (val 7).1
  obtain ⟨a1, a2, a3⟩ := p1
  rw [show (val 9).1 = 4 by omega] at p0
  exact ⟨fun z => a1 ((rv_bit_or p0 (by decide)).mp z), fun z => a2 ((rv_bit_or p0 (by decide)).mp z), a3⟩
theorem ru_told0_1 : rv_RlOk (53, [0, 1, 2, 3, 4, 5, 6, 7], [(16, [0, 8, 9], Int.ofNat 0, Int.ofNat 0), (53, [8, 1, 2, 3, 4, 5, 6, 7], Int.ofNat 0, Int.ofNat 0), (1000, [9], Int.ofNat 8, Int.ofNat 8)]) := by
  intro val h
  have p0 : (val 0).1 = (rv_f 6 (Int32.ofInt (val 8).1) (Int32.ofInt (val 9).1)).toInt := h _ (List.mem_of_getElem? (i := 0) rfl)
  have p1 : rv_NC 0 (val 8).1 (val 1).2 (val 2).1 (val 3).1 (val 4).1 (val 5).1 (val 6).1 (val 7).1 := h _ (List.mem_of_getElem? (i := 1) rfl) rfl
  have p2 : 8 ≤ (val 9).1 ∧ (val 9).1 ≤ 8 := h _ (List.mem_of_getElem? (i := 2) rfl)
  intro _
  show rv_NC 0 (val 0).1 (val 1).2 (val 2).1 (val 3).1 (val 4).1 (val 5).1 (val 6).1 (val 7).1
  obtain ⟨a1, a2, a3⟩ := p1
  rw [show (val 9).1 = 8 by omega] at p0
  exact ⟨fun z => a1 ((rv_bit_or p0 (by decide)).mp z), fun z => a2 ((rv_bit_or p0 (by decide)).mp z), a3⟩
theorem ru_told0_2 : rv_RlOk (53, [0, 1, 2, 3, 4, 5, 6, 7], [(16, [0, 8, 9], Int.ofNat 0, Int.ofNat 0), (53, [8, 1, 2, 3, 4, 5, 6, 7], Int.ofNat 0, Int.ofNat 0), (1000, [9], Int.ofNat 16, Int.ofNat 16)]) := by
  intro val h
  have p0 : (val 0).1 = (rv_f 6 (Int32.ofInt (val 8).1) (Int32.ofInt (val 9).1)).toInt := h _ (List.mem_of_getElem? (i := 0) rfl)
  have p1 : rv_NC 0 (val 8).1 (val 1).2 (val 2).1 (val 3).1 (val 4).1 (val 5).1 (val 6).1 (val 7).1 := h _ (List.mem_of_getElem? (i := 1) rfl) rfl
  have p2 : 16 ≤ (val 9).1 ∧ (val 9).1 ≤ 16 := h _ (List.mem_of_getElem? (i := 2) rfl)
  intro _
  show rv_NC 0 (val 0).1 (val 1).2 (val 2).1 (val 3).1 (val 4).1 (val 5).1 (val 6).1 (val 7).1
  obtain ⟨a1, a2, a3⟩ := p1
  rw [show (val 9).1 = 16 by omega] at p0
  exact ⟨fun z => a1 ((rv_bit_or p0 (by decide)).mp z), fun z => a2 ((rv_bit_or p0 (by decide)).mp z), a3⟩
def rl_told0 : List rv_Rl := [(53, [0, 1, 2, 3, 4, 5, 6, 7], [(16, [0, 8, 9], Int.ofNat 0, Int.ofNat 0), (53, [8, 1, 2, 3, 4, 5, 6, 7], Int.ofNat 0, Int.ofNat 0), (1000, [9], Int.ofNat 4, Int.ofNat 4)]), (53, [0, 1, 2, 3, 4, 5, 6, 7], [(16, [0, 8, 9], Int.ofNat 0, Int.ofNat 0), (53, [8, 1, 2, 3, 4, 5, 6, 7], Int.ofNat 0, Int.ofNat 0), (1000, [9], Int.ofNat 8, Int.ofNat 8)]), (53, [0, 1, 2, 3, 4, 5, 6, 7], [(16, [0, 8, 9], Int.ofNat 0, Int.ofNat 0), (53, [8, 1, 2, 3, 4, 5, 6, 7], Int.ofNat 0, Int.ofNat 0), (1000, [9], Int.ofNat 16, Int.ofNat 16)])]
theorem rlo_told0 : ∀ r ∈ rl_told0, rv_RlOk r := List.forall_mem_cons.mpr ⟨ru_told0_0, List.forall_mem_cons.mpr ⟨ru_told0_1, List.forall_mem_cons.mpr ⟨ru_told0_2, fun _ h => absurd h List.not_mem_nil⟩⟩⟩
theorem ru_told1_0 : rv_RlOk (54, [0, 1, 2, 3, 4, 5, 6, 7], [(16, [0, 8, 9], Int.ofNat 0, Int.ofNat 0), (54, [8, 1, 2, 3, 4, 5, 6, 7], Int.ofNat 0, Int.ofNat 0), (1000, [9], Int.ofNat 4, Int.ofNat 4)]) := by
  intro val h
  have p0 : (val 0).1 = (rv_f 6 (Int32.ofInt (val 8).1) (Int32.ofInt (val 9).1)).toInt := h _ (List.mem_of_getElem? (i := 0) rfl)
  have p1 : rv_NC 1 (val 8).1 (val 1).2 (val 2).1 (val 3).1 (val 4).1 (val 5).1 (val 6).1 (val 7).1 := h _ (List.mem_of_getElem? (i := 1) rfl) rfl
  have p2 : 4 ≤ (val 9).1 ∧ (val 9).1 ≤ 4 := h _ (List.mem_of_getElem? (i := 2) rfl)
  intro _
  show rv_NC 1 (val 0).1 (val 1).2 (val 2).1 (val 3).1 (val 4).1 (val 5).1 (val 6).1 (val 7).1
  obtain ⟨a1, a2, a3⟩ := p1
  rw [show (val 9).1 = 4 by omega] at p0
  exact ⟨fun z => a1 ((rv_bit_or p0 (by decide)).mp z), fun z => a2 ((rv_bit_or p0 (by decide)).mp z), a3⟩
theorem ru_told1_1 : rv_RlOk (54, [0, 1, 2, 3, 4, 5, 6, 7], [(16, [0, 8, 9], Int.ofNat 0, Int.ofNat 0), (54, [8, 1, 2, 3, 4, 5, 6, 7], Int.ofNat 0, Int.ofNat 0), (1000, [9], Int.ofNat 8, Int.ofNat 8)]) := by
  intro val h
  have p0 : (val 0).1 = (rv_f 6 (Int32.ofInt (val 8).1) (Int32.ofInt (val 9).1)).toInt := h _ (List.mem_of_getElem? (i := 0) rfl)
  have p1 : rv_NC 1 (val 8).1 (val 1).2 (val 2).1 (val 3).1 (val 4).1 (val 5).1 (val 6).1 (val 7).1 := h _ (List.mem_of_getElem? (i := 1) rfl) rfl
  have p2 : 8 ≤ (val 9).1 ∧ (val 9).1 ≤ 8 := h _ (List.mem_of_getElem? (i := 2) rfl)
  intro _
  show rv_NC 1 (val 0).1 (val 1).2 (val 2).1 (val 3).1 (val 4).1 (val 5).1 (val 6).1 (val 7).1
  obtain ⟨a1, a2, a3⟩ := p1
  rw [show (val 9).1 = 8 by omega] at p0
  exact ⟨fun z => a1 ((rv_bit_or p0 (by decide)).mp z), fun z => a2 ((rv_bit_or p0 (by decide)).mp z), a3⟩
theorem ru_told1_2 : rv_RlOk (54, [0, 1, 2, 3, 4, 5, 6, 7], [(16, [0, 8, 9], Int.ofNat 0, Int.ofNat 0), (54, [8, 1, 2, 3, 4, 5, 6, 7], Int.ofNat 0, Int.ofNat 0), (1000, [9], Int.ofNat 16, Int.ofNat 16)]) := by
  intro val h
  have p0 : (val 0).1 = (rv_f 6 (Int32.ofInt (val 8).1) (Int32.ofInt (val 9).1)).toInt := h _ (List.mem_of_getElem? (i := 0) rfl)
  have p1 : rv_NC 1 (val 8).1 (val 1).2 (val 2).1 (val 3).1 (val 4).1 (val 5).1 (val 6).1 (val 7).1 := h _ (List.mem_of_getElem? (i := 1) rfl) rfl
  have p2 : 16 ≤ (val 9).1 ∧ (val 9).1 ≤ 16 := h _ (List.mem_of_getElem? (i := 2) rfl)
  intro _
  show rv_NC 1 (val 0).1 (val 1).2 (val 2).1 (val 3).1 (val 4).1 (val 5).1 (val 6).1 (val 7).1
  obtain ⟨a1, a2, a3⟩ := p1
  rw [show (val 9).1 = 16 by omega] at p0
  exact ⟨fun z => a1 ((rv_bit_or p0 (by decide)).mp z), fun z => a2 ((rv_bit_or p0 (by decide)).mp z), a3⟩
def rl_told1 : List rv_Rl := [(54, [0, 1, 2, 3, 4, 5, 6, 7], [(16, [0, 8, 9], Int.ofNat 0, Int.ofNat 0), (54, [8, 1, 2, 3, 4, 5, 6, 7], Int.ofNat 0, Int.ofNat 0), (1000, [9], Int.ofNat 4, Int.ofNat 4)]), (54, [0, 1, 2, 3, 4, 5, 6, 7], [(16, [0, 8, 9], Int.ofNat 0, Int.ofNat 0), (54, [8, 1, 2, 3, 4, 5, 6, 7], Int.ofNat 0, Int.ofNat 0), (1000, [9], Int.ofNat 8, Int.ofNat 8)]), (54, [0, 1, 2, 3, 4, 5, 6, 7], [(16, [0, 8, 9], Int.ofNat 0, Int.ofNat 0), (54, [8, 1, 2, 3, 4, 5, 6, 7], Int.ofNat 0, Int.ofNat 0), (1000, [9], Int.ofNat 16, Int.ofNat 16)])]
theorem rlo_told1 : ∀ r ∈ rl_told1, rv_RlOk r := List.forall_mem_cons.mpr ⟨ru_told1_0, List.forall_mem_cons.mpr ⟨ru_told1_1, List.forall_mem_cons.mpr ⟨ru_told1_2, fun _ h => absurd h List.not_mem_nil⟩⟩⟩
theorem ru_trans_0 : rv_RlOk (2, [0, 1], [(1, [2, 1], Int.ofNat 0, Int.ofNat 0), (2, [0, 2], Int.ofNat 0, Int.ofNat 0)]) := by
  intro val h
  have p0 : (val 2).1 < (val 1).1 := h _ (List.mem_of_getElem? (i := 0) rfl)
  have p1 : (val 0).1 ≤ (val 2).1 := h _ (List.mem_of_getElem? (i := 1) rfl)
  show (val 0).1 ≤ (val 1).1
  omega
theorem ru_trans_1 : rv_RlOk (2, [0, 1], [(2, [2, 1], Int.ofNat 0, Int.ofNat 0), (2, [0, 2], Int.ofNat 0, Int.ofNat 0)]) := by
  intro val h
  have p0 : (val 2).1 ≤ (val 1).1 := h _ (List.mem_of_getElem? (i := 0) rfl)
  have p1 : (val 0).1 ≤ (val 2).1 := h _ (List.mem_of_getElem? (i := 1) rfl)
  show (val 0).1 ≤ (val 1).1
  omega
theorem ru_trans_2 : rv_RlOk (1, [0, 1], [(2, [2, 1], Int.ofNat 0, Int.ofNat 0), (1, [0, 2], Int.ofNat 0, Int.ofNat 0)]) := by
  intro val h
  have p0 : (val 2).1 ≤ (val 1).1 := h _ (List.mem_of_getElem? (i := 0) rfl)
  have p1 : (val 0).1 < (val 2).1 := h _ (List.mem_of_getElem? (i := 1) rfl)
  show (val 0).1 < (val 1).1
  omega
def rl_trans : List rv_Rl := [(2, [0, 1], [(1, [2, 1], Int.ofNat 0, Int.ofNat 0), (2, [0, 2], Int.ofNat 0, Int.ofNat 0)]), (2, [0, 1], [(2, [2, 1], Int.ofNat 0, Int.ofNat 0), (2, [0, 2], Int.ofNat 0, Int.ofNat 0)]), (1, [0, 1], [(2, [2, 1], Int.ofNat 0, Int.ofNat 0), (1, [0, 2], Int.ofNat 0, Int.ofNat 0)])]
theorem rlo_trans : ∀ r ∈ rl_trans, rv_RlOk r := List.forall_mem_cons.mpr ⟨ru_trans_0, List.forall_mem_cons.mpr ⟨ru_trans_1, List.forall_mem_cons.mpr ⟨ru_trans_2, fun _ h => absurd h List.not_mem_nil⟩⟩⟩
theorem ru_un00_0 : rv_RlOk (71, [0, 1, 2, 3, 4, 5, 6, 7, 8, 9, 10, 11], [(6, [3, 20, 21, 22], Int.ofNat 0, Int.ofNat 0), (6, [4, 23, 21, 24], Int.ofNat 0, Int.ofNat 0), (71, [0, 1, 2, 20, 23, 21, 25, 7, 8, 9, 10, 11], Int.ofNat 0, Int.ofNat 0), (1001, [5, 21], Int.ofNat 1, Int.ofNat 0), (1001, [6, 25], Int.ofNat 1, Int.ofNat 0), (4, [25, 26], Int.ofNat 0, Int.ofNat 0), (1000, [26], Int.ofNat 7, Int.ofNat 7), (1000, [22], Int.ofNat 3, Int.ofNat 3), (1000, [24], Int.ofNat 126, Int.ofNat 126), (1000, [21], Int.ofNat 1, Int.ofNat 90)]) := by
  intro val h
  have p0 : ∀ j, (val 3).2 j = if j = (val 21).1.toNat then (val 22).1 else (val 20).2 j := h _ (List.mem_of_getElem? (i := 0) rfl)
  have p1 : ∀ j, (val 4).2 j = if j = (val 21).1.toNat then (val 24).1 else (val 23).2 j := h _ (List.mem_of_getElem? (i := 1) rfl)
  have p2 : rv_PI 0 1 0 (val 0).2 (val 1).1 (val 2).1 (val 20).2 (val 23).2 (val 21).1 (val 25).1 (val 7).1 (val 8).1 (val 9).1 (val 10).1 (val 11).1 := h _ (List.mem_of_getElem? (i := 2) rfl) rfl
  have p3 : (val 5).1 = (val 21).1 + 1 := h _ (List.mem_of_getElem? (i := 3) rfl)
  have p4 : (val 6).1 = (val 25).1 + 1 := h _ (List.mem_of_getElem? (i := 4) rfl)
  have p5 : ¬ (val 25).1 = (val 26).1 := h _ (List.mem_of_getElem? (i := 5) rfl)
  have p6 : 7 ≤ (val 26).1 ∧ (val 26).1 ≤ 7 := h _ (List.mem_of_getElem? (i := 6) rfl)
  have p7 : 3 ≤ (val 22).1 ∧ (val 22).1 ≤ 3 := h _ (List.mem_of_getElem? (i := 7) rfl)
  have p8 : 126 ≤ (val 24).1 ∧ (val 24).1 ≤ 126 := h _ (List.mem_of_getElem? (i := 8) rfl)
  have p9 : 1 ≤ (val 21).1 ∧ (val 21).1 ≤ 90 := h _ (List.mem_of_getElem? (i := 9) rfl)
  intro _
  show rv_PI 0 1 0 (val 0).2 (val 1).1 (val 2).1 (val 3).2 (val 4).2 (val 5).1 (val 6).1 (val 7).1 (val 8).1 (val 9).1 (val 10).1 (val 11).1
  rw [show (val 22).1 = 3 by omega] at p0
  rw [show (val 24).1 = 126 by omega] at p1
  have e := rv_pi_not p2 (by omega) p0 p1 (by omega)
  rw [show (val 5).1 = (val 21).1 + 1 by omega, show (val 6).1 = (val 25).1 + 1 by omega]
  exact e
theorem ru_un00_1 : rv_RlOk (71, [0, 1, 2, 3, 4, 5, 6, 7, 8, 9, 10, 11], [(6, [3, 20, 21, 22], Int.ofNat 0, Int.ofNat 0), (6, [4, 23, 21, 24], Int.ofNat 0, Int.ofNat 0), (71, [0, 1, 2, 20, 23, 21, 25, 27, 28, 9, 10, 11], Int.ofNat 0, Int.ofNat 0), (1001, [5, 21], Int.ofNat 1, Int.ofNat 0), (1001, [6, 25], Int.ofNat 1, Int.ofNat 0), (4, [25, 26], Int.ofNat 0, Int.ofNat 0), (1000, [26], Int.ofNat 7, Int.ofNat 7), (1000, [22], Int.ofNat 7, Int.ofNat 7), (1001, [7, 27], Int.ofNat 1, Int.ofNat 0), (4, [27, 29], Int.ofNat 0, Int.ofNat 0), (1000, [29], Int.ofNat 30, Int.ofNat 30), (1001, [8, 28], Int.ofNat 1, Int.ofNat 0), (1000, [28], Int.ofNat 0, Int.ofNat 59), (1000, [21], Int.ofNat 1, Int.ofNat 90)]) := by
  intro val h
  have p0 : ∀ j, (val 3).2 j = if j = (val 21).1.toNat then (val 22).1 else (val 20).2 j := h _ (List.mem_of_getElem? (i := 0) rfl)
  have p1 : ∀ j, (val 4).2 j = if j = (val 21).1.toNat then (val 24).1 else (val 23).2 j := h _ (List.mem_of_getElem? (i := 1) rfl)
  have p2 : rv_PI 0 1 0 (val 0).2 (val 1).1 (val 2).1 (val 20).2 (val 23).2 (val 21).1 (val 25).1 (val 27).1 (val 28).1 (val 9).1 (val 10).1 (val 11).1 := h _ (List.mem_of_getElem? (i := 2) rfl) rfl
  have p3 : (val 5).1 = (val 21).1 + 1 := h _ (List.mem_of_getElem? (i := 3) rfl)
  have p4 : (val 6).1 = (val 25).1 + 1 := h _ (List.mem_of_getElem? (i := 4) rfl)
  have p5 : ¬ (val 25).1 = (val 26).1 := h _ (List.mem_of_getElem? (i := 5) rfl)
  have p6 : 7 ≤ (val 26).1 ∧ (val 26).1 ≤ 7 := h _ (List.mem_of_getElem? (i := 6) rfl)
  have p7 : 7 ≤ (val 22).1 ∧ (val 22).1 ≤ 7 := h _ (List.mem_of_getElem? (i := 7) rfl)
  have p8 : (val 7).1 = (val 27).1 + 1 := h _ (List.mem_of_getElem? (i := 8) rfl)
  have p9 : ¬ (val 27).1 = (val 29).1 := h _ (List.mem_of_getElem? (i := 9) rfl)
  have p10 : 30 ≤ (val 29).1 ∧ (val 29).1 ≤ 30 := h _ (List.mem_of_getElem? (i := 10) rfl)
  have p11 : (val 8).1 = (val 28).1 + 1 := h _ (List.mem_of_getElem? (i := 11) rfl)
  have p12 : 0 ≤ (val 28).1 ∧ (val 28).1 ≤ 59 := h _ (List.mem_of_getElem? (i := 12) rfl)
  have p13 : 1 ≤ (val 21).1 ∧ (val 21).1 ≤ 90 := h _ (List.mem_of_getElem? (i := 13) rfl)
  intro _
  show rv_PI 0 1 0 (val 0).2 (val 1).1 (val 2).1 (val 3).2 (val 4).2 (val 5).1 (val 6).1 (val 7).1 (val 8).1 (val 9).1 (val 10).1 (val 11).1
  rw [show (val 22).1 = 7 by omega] at p0
  have e := rv_pi_brk p2 (by omega) p0 p1 (by omega) (by omega) (by omega)
  rw [show (val 5).1 = (val 21).1 + 1 by omega, show (val 6).1 = (val 25).1 + 1 by omega, show (val 7).1 = (val 27).1 + 1 by omega, show (val 8).1 = (val 28).1 + 1 by omega]
  exact e
theorem ru_un00_2 : rv_RlOk (70, [0, 1, 2, 3, 4, 5, 6, 7, 8, 9, 10, 11], [(6, [0, 20, 21, 22], Int.ofNat 0, Int.ofNat 0), (71, [20, 1, 21, 3, 4, 5, 6, 27, 28, 9, 10, 11], Int.ofNat 0, Int.ofNat 0), (1001, [2, 21], Int.ofNat 1, Int.ofNat 0), (1000, [22], Int.ofNat 97, Int.ofNat 122), (1001, [7, 27], Int.ofNat 1, Int.ofNat 0), (4, [27, 29], Int.ofNat 0, Int.ofNat 0), (1000, [29], Int.ofNat 30, Int.ofNat 30), (1001, [8, 28], Int.ofNat 1, Int.ofNat 0), (1000, [28], Int.ofNat 0, Int.ofNat 59)]) := by
  intro val h
  have p0 : ∀ j, (val 0).2 j = if j = (val 21).1.toNat then (val 22).1 else (val 20).2 j := h _ (List.mem_of_getElem? (i := 0) rfl)
  have p1 : rv_PI 0 1 0 (val 20).2 (val 1).1 (val 21).1 (val 3).2 (val 4).2 (val 5).1 (val 6).1 (val 27).1 (val 28).1 (val 9).1 (val 10).1 (val 11).1 := h _ (List.mem_of_getElem? (i := 1) rfl) rfl
  have p2 : (val 2).1 = (val 21).1 + 1 := h _ (List.mem_of_getElem? (i := 2) rfl)
  have p3 : 97 ≤ (val 22).1 ∧ (val 22).1 ≤ 122 := h _ (List.mem_of_getElem? (i := 3) rfl)
  have p4 : (val 7).1 = (val 27).1 + 1 := h _ (List.mem_of_getElem? (i := 4) rfl)
  have p5 : ¬ (val 27).1 = (val 29).1 := h _ (List.mem_of_getElem? (i := 5) rfl)
  have p6 : 30 ≤ (val 29).1 ∧ (val 29).1 ≤ 30 := h _ (List.mem_of_getElem? (i := 6) rfl)
  have p7 : (val 8).1 = (val 28).1 + 1 := h _ (List.mem_of_getElem? (i := 7) rfl)
  have p8 : 0 ≤ (val 28).1 ∧ (val 28).1 ≤ 59 := h _ (List.mem_of_getElem? (i := 8) rfl)
  intro _
  show rv_PI 0 1 1 (val 0).2 (val 1).1 (val 2).1 (val 3).2 (val 4).2 (val 5).1 (val 6).1 (val 7).1 (val 8).1 (val 9).1 (val 10).1 (val 11).1
  have e := rv_pi_leaf p1 p0 (by omega) (by omega) (by omega)
  rw [show (val 2).1 = (val 21).1 + 1 by omega, show (val 7).1 = (val 27).1 + 1 by omega, show (val 8).1 = (val 28).1 + 1 by omega]
  exact e
def rl_un00 : List rv_Rl := [(71, [0, 1, 2, 3, 4, 5, 6, 7, 8, 9, 10, 11], [(6, [3, 20, 21, 22], Int.ofNat 0, Int.ofNat 0), (6, [4, 23, 21, 24], Int.ofNat 0, Int.ofNat 0), (71, [0, 1, 2, 20, 23, 21, 25, 7, 8, 9, 10, 11], Int.ofNat 0, Int.ofNat 0), (1001, [5, 21], Int.ofNat 1, Int.ofNat 0), (1001, [6, 25], Int.ofNat 1, Int.ofNat 0), (4, [25, 26], Int.ofNat 0, Int.ofNat 0), (1000, [26], Int.ofNat 7, Int.ofNat 7), (1000, [22], Int.ofNat 3, Int.ofNat 3), (1000, [24], Int.ofNat 126, Int.ofNat 126), (1000, [21], Int.ofNat 1, Int.ofNat 90)]), (71, [0, 1, 2, 3, 4, 5, 6, 7, 8, 9, 10, 11], [(6, [3, 20, 21, 22], Int.ofNat 0, Int.ofNat 0), (6, [4, 23, 21, 24], Int.ofNat 0, Int.ofNat 0), (71, [0, 1, 2, 20, 23, 21, 25, 27, 28, 9, 10, 11], Int.ofNat 0, Int.ofNat 0), (1001, [5, 21], Int.ofNat 1, Int.ofNat 0), (1001, [6, 25], Int.ofNat 1, Int.ofNat 0), (4, [25, 26], Int.ofNat 0, Int.ofNat 0), (1000, [26], Int.ofNat 7, Int.ofNat 7), (1000, [22], Int.ofNat 7, Int.ofNat 7), (1001, [7, 27], Int.ofNat 1, Int.ofNat 0), (4, [27, 29], Int.ofNat 0, Int.ofNat 0), (1000, [29], Int.ofNat 30, Int.ofNat 30), (1001, [8, 28], Int.ofNat 1, Int.ofNat 0), (1000, [28], Int.ofNat 0, Int.ofNat 59), (1000, [21], Int.ofNat 1, Int.ofNat 90)]), (70, [0, 1, 2, 3, 4, 5, 6, 7, 8, 9, 10, 11], [(6, [0, 20, 21, 22], Int.ofNat 0, Int.ofNat 0), (71, [20, 1, 21, 3, 4, 5, 6, 27, 28, 9, 10, 11], Int.ofNat 0, Int.ofNat 0), (1001, [2, 21], Int.ofNat 1, Int.ofNat 0), (1000, [22], Int.ofNat 97, Int.ofNat 122), (1001, [7, 27], Int.ofNat 1, Int.ofNat 0), (4, [27, 29], Int.ofNat 0, Int.ofNat 0), (1000, [29], Int.ofNat 30, Int.ofNat 30), (1001, [8, 28], Int.ofNat 1, Int.ofNat 0), (1000, [28], Int.ofNat 0, Int.ofNat 59)])]
theorem rlo_un00 : ∀ r ∈ rl_un00, rv_RlOk r := List.forall_mem_cons.mpr ⟨ru_un00_0, List.forall_mem_cons.mpr ⟨ru_un00_1, List.forall_mem_cons.mpr ⟨ru_un00_2, fun _ h => absurd h List.not_mem_nil⟩⟩⟩
theorem ru_un01_0 : rv_RlOk (73, [0, 1, 2, 3, 4, 5, 6, 7, 8, 9, 10, 11], [(6, [3, 20, 21, 22], Int.ofNat 0, Int.ofNat 0), (6, [4, 23, 21, 24], Int.ofNat 0, Int.ofNat 0), (73, [0, 1, 2, 20, 23, 21, 25, 7, 8, 9, 10, 11], Int.ofNat 0, Int.ofNat 0), (1001, [5, 21], Int.ofNat 1, Int.ofNat 0), (1001, [6, 25], Int.ofNat 1, Int.ofNat 0), (4, [25, 26], Int.ofNat 0, Int.ofNat 0), (1000, [26], Int.ofNat 7, Int.ofNat 7), (1000, [22], Int.ofNat 3, Int.ofNat 3), (1000, [24], Int.ofNat 126, Int.ofNat 126), (1000, [21], Int.ofNat 1, Int.ofNat 90)]) := by
  intro val h
  have p0 : ∀ j, (val 3).2 j = if j = (val 21).1.toNat then (val 22).1 else (val 20).2 j := h _ (List.mem_of_getElem? (i := 0) rfl)
  have p1 : ∀ j, (val 4).2 j = if j = (val 21).1.toNat then (val 24).1 else (val 23).2 j := h _ (List.mem_of_getElem? (i := 1) rfl)
  have p2 : rv_PI 0 0 0 (val 0).2 (val 1).1 (val 2).1 (val 20).2 (val 23).2 (val 21).1 (val 25).1 (val 7).1 (val 8).1 (val 9).1 (val 10).1 (val 11).1 := h _ (List.mem_of_getElem? (i := 2) rfl) rfl
  have p3 : (val 5).1 = (val 21).1 + 1 := h _ (List.mem_of_getElem? (i := 3) rfl)
  have p4 : (val 6).1 = (val 25).1 + 1 := h _ (List.mem_of_getElem? (i := 4) rfl)
  have p5 : ¬ (val 25).1 = (val 26).1 := h _ (List.mem_of_getElem? (i := 5) rfl)
  have p6 : 7 ≤ (val 26).1 ∧ (val 26).1 ≤ 7 := h _ (List.mem_of_getElem? (i := 6) rfl)
  have p7 : 3 ≤ (val 22).1 ∧ (val 22).1 ≤ 3 := h _ (List.mem_of_getElem? (i := 7) rfl)
  have p8 : 126 ≤ (val 24).1 ∧ (val 24).1 ≤ 126 := h _ (List.mem_of_getElem? (i := 8) rfl)
  have p9 : 1 ≤ (val 21).1 ∧ (val 21).1 ≤ 90 := h _ (List.mem_of_getElem? (i := 9) rfl)
  intro _
  show rv_PI 0 0 0 (val 0).2 (val 1).1 (val 2).1 (val 3).2 (val 4).2 (val 5).1 (val 6).1 (val 7).1 (val 8).1 (val 9).1 (val 10).1 (val 11).1
  rw [show (val 22).1 = 3 by omega] at p0
  rw [show (val 24).1 = 126 by omega] at p1
  have e := rv_pi_not p2 (by omega) p0 p1 (by omega)
  rw [show (val 5).1 = (val 21).1 + 1 by omega, show (val 6).1 = (val 25).1 + 1 by omega]
  exact e
theorem ru_un01_1 : rv_RlOk (73, [0, 1, 2, 3, 4, 5, 6, 7, 8, 9, 10, 11], [(6, [3, 20, 21, 22], Int.ofNat 0, Int.ofNat 0), (6, [4, 23, 21, 24], Int.ofNat 0, Int.ofNat 0), (73, [0, 1, 2, 20, 23, 21, 25, 27, 28, 9, 10, 11], Int.ofNat 0, Int.ofNat 0), (1001, [5, 21], Int.ofNat 1, Int.ofNat 0), (1001, [6, 25], Int.ofNat 1, Int.ofNat 0), (4, [25, 26], Int.ofNat 0, Int.ofNat 0), (1000, [26], Int.ofNat 7, Int.ofNat 7), (1000, [22], Int.ofNat 7, Int.ofNat 7), (1001, [7, 27], Int.ofNat 1, Int.ofNat 0), (4, [27, 29], Int.ofNat 0, Int.ofNat 0), (1000, [29], Int.ofNat 30, Int.ofNat 30), (1001, [8, 28], Int.ofNat 1, Int.ofNat 0), (1000, [28], Int.ofNat 0, Int.ofNat 59), (1000, [21], Int.ofNat 1, Int.ofNat 90)]) := by
  intro val h
  have p0 : ∀ j, (val 3).2 j = if j = (val 21).1.toNat then (val 22).1 else (val 20).2 j := h _ (List.mem_of_getElem? (i := 0) rfl)
  have p1 : ∀ j, (val 4).2 j = if j = (val 21).1.toNat then (val 24).1 else (val 23).2 j := h _ (List.mem_of_getElem? (i := 1) rfl)
  have p2 : rv_PI 0 0 0 (val 0).2 (val 1).1 (val 2).1 (val 20).2 (val 23).2 (val 21).1 (val 25).1 (val 27).1 (val 28).1 (val 9).1 (val 10).1 (val 11).1 := h _ (List.mem_of_getElem? (i := 2) rfl) rfl
  have p3 : (val 5).1 = (val 21).1 + 1 := h _ (List.mem_of_getElem? (i := 3) rfl)
  have p4 : (val 6).1 = (val 25).1 + 1 := h _ (List.mem_of_getElem? (i := 4) rfl)
  have p5 : ¬ (val 25).1 = (val 26).1 := h _ (List.mem_of_getElem? (i := 5) rfl)
  have p6 : 7 ≤ (val 26).1 ∧ (val 26).1 ≤ 7 := h _ (List.mem_of_getElem? (i := 6) rfl)
  have p7 : 7 ≤ (val 22).1 ∧ (val 22).1 ≤ 7 := h _ (List.mem_of_getElem? (i := 7) rfl)
  have p8 : (val 7).1 = (val 27).1 + 1 := h _ (List.mem_of_getElem? (i := 8) rfl)
  have p9 : ¬ (val 27).1 = (val 29).1 := h _ (List.mem_of_getElem? (i := 9) rfl)
  have p10 : 30 ≤ (val 29).1 ∧ (val 29).1 ≤ 30 := h _ (List.mem_of_getElem? (i := 10) rfl)
  have p11 : (val 8).1 = (val 28).1 + 1 := h _ (List.mem_of_getElem? (i := 11) rfl)
  have p12 : 0 ≤ (val 28).1 ∧ (val 28).1 ≤ 59 := h _ (List.mem_of_getElem? (i := 12) rfl)
  have p13 : 1 ≤ (val 21).1 ∧ (val 21).1 ≤ 90 := h _ (List.mem_of_getElem? (i := 13) rfl)
  intro _
  show rv_PI 0 0 0 (val 0).2 (val 1).1 (val 2).1 (val 3).2 (val 4).2 (val 5).1 (val 6).1 (val 7).1 (val 8).1 (val 9).1 (val 10).1 (val 11).1
  rw [show (val 22).1 = 7 by omega] at p0
  have e := rv_pi_brk p2 (by omega) p0 p1 (by omega) (by omega) (by omega)
  rw [show (val 5).1 = (val 21).1 + 1 by omega, show (val 6).1 = (val 25).1 + 1 by omega, show (val 7).1 = (val 27).1 + 1 by omega, show (val 8).1 = (val 28).1 + 1 by omega]
  exact e
theorem ru_un01_2 : rv_RlOk (72, [0, 1, 2, 3, 4, 5, 6, 7, 8, 9, 10, 11], [(6, [0, 20, 21, 22], Int.ofNat 0, Int.ofNat 0), (73, [20, 1, 21, 3, 4, 5, 6, 27, 28, 9, 10, 11], Int.ofNat 0, Int.ofNat 0), (1001, [2, 21], Int.ofNat 1, Int.ofNat 0), (1000, [22], Int.ofNat 97, Int.ofNat 122), (1001, [7, 27], Int.ofNat 1, Int.ofNat 0), (4, [27, 29], Int.ofNat 0, Int.ofNat 0), (1000, [29], Int.ofNat 30, Int.ofNat 30), (1001, [8, 28], Int.ofNat 1, Int.ofNat 0), (1000, [28], Int.ofNat 0, Int.ofNat 59)]) := by
  intro val h
  have p0 : ∀ j, (val 0).2 j = if j = (val 21).1.toNat then (val 22).1 else (val 20).2 j := h _ (List.mem_of_getElem? (i := 0) rfl)
  have p1 : rv_PI 0 0 0 (val 20).2 (val 1).1 (val 21).1 (val 3).2 (val 4).2 (val 5).1 (val 6).1 (val 27).1 (val 28).1 (val 9).1 (val 10).1 (val 11).1 := h _ (List.mem_of_getElem? (i := 1) rfl) rfl
  have p2 : (val 2).1 = (val 21).1 + 1 := h _ (List.mem_of_getElem? (i := 2) rfl)
  have p3 : 97 ≤ (val 22).1 ∧ (val 22).1 ≤ 122 := h _ (List.mem_of_getElem? (i := 3) rfl)
  have p4 : (val 7).1 = (val 27).1 + 1 := h _ (List.mem_of_getElem? (i := 4) rfl)
  have p5 : ¬ (val 27).1 = (val 29).1 := h _ (List.mem_of_getElem? (i := 5) rfl)
  have p6 : 30 ≤ (val 29).1 ∧ (val 29).1 ≤ 30 := h _ (List.mem_of_getElem? (i := 6) rfl)
  have p7 : (val 8).1 = (val 28).1 + 1 := h _ (List.mem_of_getElem? (i := 7) rfl)
  have p8 : 0 ≤ (val 28).1 ∧ (val 28).1 ≤ 59 := h _ (List.mem_of_getElem? (i := 8) rfl)
  intro _
  show rv_PI 0 0 1 (val 0).2 (val 1).1 (val 2).1 (val 3).2 (val 4).2 (val 5).1 (val 6).1 (val 7).1 (val 8).1 (val 9).1 (val 10).1 (val 11).1
  have e := rv_pi_leaf p1 p0 (by omega) (by omega) (by omega)
  rw [show (val 2).1 = (val 21).1 + 1 by omega, show (val 7).1 = (val 27).1 + 1 by omega, show (val 8).1 = (val 28).1 + 1 by omega]
  exact e
def rl_un01 : List rv_Rl := [(73, [0, 1, 2, 3, 4, 5, 6, 7, 8, 9, 10, 11], [(6, [3, 20, 21, 22], Int.ofNat 0, Int.ofNat 0), (6, [4, 23, 21, 24], Int.ofNat 0, Int.ofNat 0), (73, [0, 1, 2, 20, 23, 21, 25, 7, 8, 9, 10, 11], Int.ofNat 0, Int.ofNat 0), (1001, [5, 21], Int.ofNat 1, Int.ofNat 0), (1001, [6, 25], Int.ofNat 1, Int.ofNat 0), (4, [25, 26], Int.ofNat 0, Int.ofNat 0), (1000, [26], Int.ofNat 7, Int.ofNat 7), (1000, [22], Int.ofNat 3, Int.ofNat 3), (1000, [24], Int.ofNat 126, Int.ofNat 126), (1000, [21], Int.ofNat 1, Int.ofNat 90)]), (73, [0, 1, 2, 3, 4, 5, 6, 7, 8, 9, 10, 11], [(6, [3, 20, 21, 22], Int.ofNat 0, Int.ofNat 0), (6, [4, 23, 21, 24], Int.ofNat 0, Int.ofNat 0), (73, [0, 1, 2, 20, 23, 21, 25, 27, 28, 9, 10, 11], Int.ofNat 0, Int.ofNat 0), (1001, [5, 21], Int.ofNat 1, Int.ofNat 0), (1001, [6, 25], Int.ofNat 1, Int.ofNat 0), (4, [25, 26], Int.ofNat 0, Int.ofNat 0), (1000, [26], Int.ofNat 7, Int.ofNat 7), (1000, [22], Int.ofNat 7, Int.ofNat 7), (1001, [7, 27], Int.ofNat 1, Int.ofNat 0), (4, [27, 29], Int.ofNat 0, Int.ofNat 0), (1000, [29], Int.ofNat 30, Int.ofNat 30), (1001, [8, 28], Int.ofNat 1, Int.ofNat 0), (1000, [28], Int.ofNat 0, Int.ofNat 59), (1000, [21], Int.ofNat 1, Int.ofNat 90)]), (72, [0, 1, 2, 3, 4, 5, 6, 7, 8, 9, 10, 11], [(6, [0, 20, 21, 22], Int.ofNat 0, Int.ofNat 0), (73, [20, 1, 21, 3, 4, 5, 6, 27, 28, 9, 10, 11], Int.ofNat 0, Int.ofNat 0), (1001, [2, 21], Int.ofNat 1, Int.ofNat 0), (1000, [22], Int.ofNat 97, Int.ofNat 122), (1001, [7, 27], Int.ofNat 1, Int.ofNat 0), (4, [27, 29], Int.ofNat 0, Int.ofNat 0), (1000, [29], Int.ofNat 30, Int.ofNat 30), (1001, [8, 28], Int.ofNat 1, Int.ofNat 0), (1000, [28], Int.ofNat 0, Int.ofNat 59)])]
theorem rlo_un01 : ∀ r ∈ rl_un01, rv_RlOk r := List.forall_mem_cons.mpr ⟨ru_un01_0, List.forall_mem_cons.mpr ⟨ru_un01_1, List.forall_mem_cons.mpr ⟨ru_un01_2, fun _ h => absurd h List.not_mem_nil⟩⟩⟩
theorem ru_un10_0 : rv_RlOk (75, [0, 1, 2, 3, 4, 5, 6, 7, 8, 9, 10, 11], [(6, [3, 20, 21, 22], Int.ofNat 0, Int.ofNat 0), (6, [4, 23, 21, 24], Int.ofNat 0, Int.ofNat 0), (75, [0, 1, 2, 20, 23, 21, 25, 7, 8, 9, 10, 11], Int.ofNat 0, Int.ofNat 0), (1001, [5, 21], Int.ofNat 1, Int.ofNat 0), (1001, [6, 25], Int.ofNat 1, Int.ofNat 0), (4, [25, 26], Int.ofNat 0, Int.ofNat 0), (1000, [26], Int.ofNat 7, Int.ofNat 7), (1000, [22], Int.ofNat 3, Int.ofNat 3), (1000, [24], Int.ofNat 126, Int.ofNat 126), (1000, [21], Int.ofNat 1, Int.ofNat 90)]) := by
  intro val h
  have p0 : ∀ j, (val 3).2 j = if j = (val 21).1.toNat then (val 22).1 else (val 20).2 j := h _ (List.mem_of_getElem? (i := 0) rfl)
  have p1 : ∀ j, (val 4).2 j = if j = (val 21).1.toNat then (val 24).1 else (val 23).2 j := h _ (List.mem_of_getElem? (i := 1) rfl)
  have p2 : rv_PI 1 1 0 (val 0).2 (val 1).1 (val 2).1 (val 20).2 (val 23).2 (val 21).1 (val 25).1 (val 7).1 (val 8).1 (val 9).1 (val 10).1 (val 11).1 := h _ (List.mem_of_getElem? (i := 2) rfl) rfl
  have p3 : (val 5).1 = (val 21).1 + 1 := h _ (List.mem_of_getElem? (i := 3) rfl)
  have p4 : (val 6).1 = (val 25).1 + 1 := h _ (List.mem_of_getElem? (i := 4) rfl)
  have p5 : ¬ (val 25).1 = (val 26).1 := h _ (List.mem_of_getElem? (i := 5) rfl)
  have p6 : 7 ≤ (val 26).1 ∧ (val 26).1 ≤ 7 := h _ (List.mem_of_getElem? (i := 6) rfl)
  have p7 : 3 ≤ (val 22).1 ∧ (val 22).1 ≤ 3 := h _ (List.mem_of_getElem? (i := 7) rfl)
  have p8 : 126 ≤ (val 24).1 ∧ (val 24).1 ≤ 126 := h _ (List.mem_of_getElem? (i := 8) rfl)
  have p9 : 1 ≤ (val 21).1 ∧ (val 21).1 ≤ 90 := h _ (List.mem_of_getElem? (i := 9) rfl)
  intro _
  show rv_PI 1 1 0 (val 0).2 (val 1).1 (val 2).1 (val 3).2 (val 4).2 (val 5).1 (val 6).1 (val 7).1 (val 8).1 (val 9).1 (val 10).1 (val 11).1
  rw [show (val 22).1 = 3 by omega] at p0
  rw [show (val 24).1 = 126 by omega] at p1
  have e := rv_pi_not p2 (by omega) p0 p1 (by omega)
  rw [show (val 5).1 = (val 21).1 + 1 by omega, show (val 6).1 = (val 25).1 + 1 by omega]
  exact e
theorem ru_un10_1 : rv_RlOk (75, [0, 1, 2, 3, 4, 5, 6, 7, 8, 9, 10, 11], [(6, [3, 20, 21, 22], Int.ofNat 0, Int.ofNat 0), (6, [4, 23, 21, 24], Int.ofNat 0, Int.ofNat 0), (75, [0, 1, 2, 20, 23, 21, 25, 27, 28, 9, 10, 11], Int.ofNat 0, Int.ofNat 0), (1001, [5, 21], Int.ofNat 1, Int.ofNat 0), (1001, [6, 25], Int.ofNat 1, Int.ofNat 0), (4, [25, 26], Int.ofNat 0, Int.ofNat 0), (1000, [26], Int.ofNat 7, Int.ofNat 7), (1000, [22], Int.ofNat 7, Int.ofNat 7), (1001, [7, 27], Int.ofNat 1, Int.ofNat 0), (4, [27, 29], Int.ofNat 0, Int.ofNat 0), (1000, [29], Int.ofNat 30, Int.ofNat 30), (1001, [8, 28], Int.ofNat 1, Int.ofNat 0), (1000, [28], Int.ofNat 0, Int.ofNat 59), (1000, [21], Int.ofNat 1, Int.ofNat 90)]) := by
  intro val h
  have p0 : ∀ j, (val 3).2 j = if j = (val 21).1.toNat then (val 22).1 else (val 20).2 j := h _ (List.mem_of_getElem? (i := 0) rfl)
  have p1 : ∀ j, (val 4).2 j = if j = (val 21).1.toNat then (val 24).1 else (val 23).2 j := h _ (List.mem_of_getElem? (i := 1) rfl)
  have p2 : rv_PI 1 1 0 (val 0).2 (val 1).1 (val 2).1 (val 20).2 (val 23).2 (val 21).1 (val 25).1 (val 27).1 (val 28).1 (val 9).1 (val 10).1 (val 11).1 := h _ (List.mem_of_getElem? (i := 2) rfl) rfl
  have p3 : (val 5).1 = (val 21).1 + 1 := h _ (List.mem_of_getElem? (i := 3) rfl)
  have p4 : (val 6).1 = (val 25).1 + 1 := h _ (List.mem_of_getElem? (i := 4) rfl)
  have p5 : ¬ (val 25).1 = (val 26).1 := h _ (List.mem_of_getElem? (i := 5) rfl)
  have p6 : 7 ≤ (val 26).1 ∧ (val 26).1 ≤ 7 := h _ (List.mem_of_getElem? (i := 6) rfl)
  have p7 : 7 ≤ (val 22).1 ∧ (val 22).1 ≤ 7 := h _ (List.mem_of_getElem? (i := 7) rfl)
  have p8 : (val 7).1 = (val 27).1 + 1 := h _ (List.mem_of_getElem? (i := 8) rfl)
  have p9 : ¬ (val 27).1 = (val 29).1 := h _ (List.mem_of_getElem? (i := 9) rfl)
  have p10 : 30 ≤ (val 29).1 ∧ (val 29).1 ≤ 30 := h _ (List.mem_of_getElem? (i := 10) rfl)
  have p11 : (val 8).1 = (val 28).1 + 1 := h _ (List.mem_of_getElem? (i := 11) rfl)
  have p12 : 0 ≤ (val 28).1 ∧ (val 28).1 ≤ 59 := h _ (List.mem_of_getElem? (i := 12) rfl)
  have p13 : 1 ≤ (val 21).1 ∧ (val 21).1 ≤ 90 := h _ (List.mem_of_getElem? (i := 13) rfl)
  intro _
  show rv_PI 1 1 0 (val 0).2 (val 1).1 (val 2).1 (val 3).2 (val 4).2 (val 5).1 (val 6).1 (val 7).1 (val 8).1 (val 9).1 (val 10).1 (val 11).1
  rw [show (val 22).1 = 7 by omega] at p0
  have e := rv_pi_brk p2 (by omega) p0 p1 (by omega) (by omega) (by omega)
  rw [show (val 5).1 = (val 21).1 + 1 by omega, show (val 6).1 = (val 25).1 + 1 by omega, show (val 7).1 = (val 27).1 + 1 by omega, show (val 8).1 = (val 28).1 + 1 by omega]
  exact e
theorem ru_un10_2 : rv_RlOk (74, [0, 1, 2, 3, 4, 5, 6, 7, 8, 9, 10, 11], [(6, [0, 20, 21, 22], Int.ofNat 0, Int.ofNat 0), (75, [20, 1, 21, 3, 4, 5, 6, 27, 28, 9, 10, 11], Int.ofNat 0, Int.ofNat 0), (1001, [2, 21], Int.ofNat 1, Int.ofNat 0), (1000, [22], Int.ofNat 97, Int.ofNat 122), (1001, [7, 27], Int.ofNat 1, Int.ofNat 0), (4, [27, 29], Int.ofNat 0, Int.ofNat 0), (1000, [29], Int.ofNat 30, Int.ofNat 30), (1001, [8, 28], Int.ofNat 1, Int.ofNat 0), (1000, [28], Int.ofNat 0, Int.ofNat 59)]) := by
  intro val h
  have p0 : ∀ j, (val 0).2 j = if j = (val 21).1.toNat then (val 22).1 else (val 20).2 j := h _ (List.mem_of_getElem? (i := 0) rfl)
  have p1 : rv_PI 1 1 0 (val 20).2 (val 1).1 (val 21).1 (val 3).2 (val 4).2 (val 5).1 (val 6).1 (val 27).1 (val 28).1 (val 9).1 (val 10).1 (val 11).1 := h _ (List.mem_of_getElem? (i := 1) rfl) rfl
  have p2 : (val 2).1 = (val 21).1 + 1 := h _ (List.mem_of_getElem? (i := 2) rfl)
  have p3 : 97 ≤ (val 22).1 ∧ (val 22).1 ≤ 122 := h _ (List.mem_of_getElem? (i := 3) rfl)
  have p4 : (val 7).1 = (val 27).1 + 1 := h _ (List.mem_of_getElem? (i := 4) rfl)
  have p5 : ¬ (val 27).1 = (val 29).1 := h _ (List.mem_of_getElem? (i := 5) rfl)
  have p6 : 30 ≤ (val 29).1 ∧ (val 29).1 ≤ 30 := h _ (List.mem_of_getElem? (i := 6) rfl)
  have p7 : (val 8).1 = (val 28).1 + 1 := h _ (List.mem_of_getElem? (i := 7) rfl)
  have p8 : 0 ≤ (val 28).1 ∧ (val 28).1 ≤ 59 := h _ (List.mem_of_getElem? (i := 8) rfl)
  intro _
  show rv_PI 1 1 1 (val 0).2 (val 1).1 (val 2).1 (val 3).2 (val 4).2 (val 5).1 (val 6).1 (val 7).1 (val 8).1 (val 9).1 (val 10).1 (val 11).1
  have e := rv_pi_leaf p1 p0 (by omega) (by omega) (by omega)
  rw [show (val 2).1 = (val 21).1 + 1 by omega, show (val 7).1 = (val 27).1 + 1 by omega, show (val 8).1 = (val 28).1 + 1 by omega]
  exact e
def rl_un10 : List rv_Rl := [(75, [0, 1, 2, 3, 4, 5, 6, 7, 8, 9, 10, 11], [(6, [3, 20, 21, 22], Int.ofNat 0, Int.ofNat 0), (6, [4, 23, 21, 24], Int.ofNat 0, Int.ofNat 0), (75, [0, 1, 2, 20, 23, 21, 25, 7, 8, 9, 10, 11], Int.ofNat 0, Int.ofNat 0), (1001, [5, 21], Int.ofNat 1, Int.ofNat 0), (1001, [6, 25], Int.ofNat 1, Int.ofNat 0), (4, [25, 26], Int.ofNat 0, Int.ofNat 0), (1000, [26], Int.ofNat 7, Int.ofNat 7), (1000, [22], Int.ofNat 3, Int.ofNat 3), (1000, [24], Int.ofNat 126, Int.ofNat 126), (1000, [21], Int.ofNat 1, Int.ofNat 90)]), (75, [0, 1, 2, 3, 4, 5, 6, 7, 8, 9, 10, 11], [(6, [3, 20, 21, 22], Int.ofNat 0, Int.ofNat 0), (6, [4, 23, 21, 24], Int.ofNat 0, Int.ofNat 0), (75, [0, 1, 2, 20, 23, 21, 25, 27, 28, 9, 10, 11], Int.ofNat 0, Int.ofNat 0), (1001, [5, 21], Int.ofNat 1, Int.ofNat 0), (1001, [6, 25], Int.ofNat 1, Int.ofNat 0), (4, [25, 26], Int.ofNat 0, Int.ofNat 0), (1000, [26], Int.ofNat 7, Int.ofNat 7), (1000, [22], Int.ofNat 7, Int.ofNat 7), (1001, [7, 27], Int.ofNat 1, Int.ofNat 0), (4, [27, 29], Int.ofNat 0, Int.ofNat 0), (1000, [29], Int.ofNat 30, Int.ofNat 30), (1001, [8, 28], Int.ofNat 1, Int.ofNat 0), (1000, [28], Int.ofNat 0, Int.ofNat 59), (1000, [21], Int.ofNat 1, Int.ofNat 90)]), (74, [0, 1, 2, 3, 4, 5, 6, 7, 8, 9, 10, 11], [(6, [0, 20, 21, 22], Int.ofNat 0, Int.ofNat 0), (75, [20, 1, 21, 3, 4, 5, 6, 27, 28, 9, 10, 11], Int.ofNat 0, Int.ofNat 0), (1001, [2, 21], Int.ofNat 1, Int.ofNat 0), (1000, [22], Int.ofNat 97, Int.ofNat 122), (1001, [7, 27], Int.ofNat 1, Int.ofNat 0), (4, [27, 29], Int.ofNat 0, Int.ofNat 0), (1000, [29], Int.ofNat 30, Int.ofNat 30), (1001, [8, 28], Int.ofNat 1, Int.ofNat 0), (1000, [28], Int.ofNat 0, Int.ofNat 59)])]
theorem rlo_un10 : ∀ r ∈ rl_un10, rv_RlOk r := List.forall_mem_cons.mpr ⟨ru_un10_0, List.forall_mem_cons.mpr ⟨ru_un10_1, List.forall_mem_cons.mpr ⟨ru_un10_2, fun _ h => absurd h List.not_mem_nil⟩⟩⟩
theorem ru_un11_0 : rv_RlOk (77, [0, 1, 2, 3, 4, 5, 6, 7, 8, 9, 10, 11], [(6, [3, 20, 21, 22], Int.ofNat 0, Int.ofNat 0), (6, [4, 23, 21, 24], Int.ofNat 0, Int.ofNat 0), (77, [0, 1, 2, 20, 23, 21, 25, 7, 8, 9, 10, 11], Int.ofNat 0, Int.ofNat 0), (1001, [5, 21], Int.ofNat 1, Int.ofNat 0), (1001, [6, 25], Int.ofNat 1, Int.ofNat 0), (4, [25, 26], Int.ofNat 0, Int.ofNat 0), (1000, [26], Int.ofNat 7, Int.ofNat 7), (1000, [22], Int.ofNat 3, Int.ofNat 3), (1000, [24], Int.ofNat 126, Int.ofNat 126), (1000, [21], Int.ofNat 1, Int.ofNat 90)]) := by
  intro val h
  have p0 : ∀ j, (val 3).2 j = if j = (val 21).1.toNat then (val 22).1 else (val 20).2 j := h _ (List.mem_of_getElem? (i := 0) rfl)
  have p1 : ∀ j, (val 4).2 j = if j = (val 21).1.toNat then (val 24).1 else (val 23).2 j := h _ (List.mem_of_getElem? (i := 1) rfl)
  have p2 : rv_PI 1 0 0 (val 0).2 (val 1).1 (val 2).1 (val 20).2 (val 23).2 (val 21).1 (val 25).1 (val 7).1 (val 8).1 (val 9).1 (val 10).1 (val 11).1 := h _ (List.mem_of_getElem? (i := 2) rfl) rfl
  have p3 : (val 5).1 = (val 21).1 + 1 := h _ (List.mem_of_getElem? (i := 3) rfl)
  have p4 : (val 6).1 = (val 25).1 + 1 := h _ (List.mem_of_getElem? (i := 4) rfl)
  have p5 : ¬ (val 25).1 = (val 26).1 := h _ (List.mem_of_getElem? (i := 5) rfl)
  have p6 : 7 ≤ (val 26).1 ∧ (val 26).1 ≤ 7 := h _ (List.mem_of_getElem? (i := 6) rfl)
  have p7 : 3 ≤ (val 22).1 ∧ (val 22).1 ≤ 3 := h _ (List.mem_of_getElem? (i := 7) rfl)
  have p8 : 126 ≤ (val 24).1 ∧ (val 24).1 ≤ 126 := h _ (List.mem_of_getElem? (i := 8) rfl)
  have p9 : 1 ≤ (val 21).1 ∧ (val 21).1 ≤ 90 := h _ (List.mem_of_getElem? (i := 9) rfl)
  intro _
  show rv_PI 1 0 0 (val 0).2 (val 1).1 (val 2).1 (val 3).2 (val 4).2 (val 5).1 (val 6).1 (val 7).1 (val 8).1 (val 9).1 (val 10).1 (val 11).1
  rw [show (val 22).1 = 3 by omega] at p0
  rw [show (val 24).1 = 126 by omega] at p1
  have e := rv_pi_not p2 (by omega) p0 p1 (by omega)
  rw [show (val 5).1 = (val 21).1 + 1 by omega, show (val 6).1 = (val 25).1 + 1 by omega]
  exact e
theorem ru_un11_1 : rv_RlOk (77, [0, 1, 2, 3, 4, 5, 6, 7, 8, 9, 10, 11], [(6, [3, 20, 21, 22], Int.ofNat 0, Int.ofNat 0), (6, [4, 23, 21, 24], Int.ofNat 0, Int.ofNat 0), (77, [0, 1, 2, 20, 23, 21, 25, 27, 28, 9, 10, 11], Int.ofNat 0, Int.ofNat 0), (1001, [5, 21], Int.ofNat 1, Int.ofNat 0), (1001, [6, 25], Int.ofNat 1, Int.ofNat 0), (4, [25, 26], Int.ofNat 0, Int.ofNat 0), (1000, [26], Int.ofNat 7, Int.ofNat 7), (1000, [22], Int.ofNat 7, Int.ofNat 7), (1001, [7, 27], Int.ofNat 1, Int.ofNat 0), (4, [27, 29], Int.ofNat 0, Int.ofNat 0), (1000, [29], Int.ofNat 30, Int.ofNat 30), (1001, [8, 28], Int.ofNat 1, Int.ofNat 0), (1000, [28], Int.ofNat 0, Int.ofNat 59), (1000, [21], Int.ofNat 1, Int.ofNat 90)]) := by
  intro val h
  have p0 : ∀ j, (val 3).2 j = if j = (val 21).1.toNat then (val 22).1 else (val 20).2 j := h _ (List.mem_of_getElem? (i := 0) rfl)
  have p1 : ∀ j, (val 4).2 j = if j = (val 21).1.toNat then (val 24).1 else (val 23).2 j := h _ (List.mem_of_getElem? (i := 1) rfl)
  have p2 : rv_PI 1 0 0 (val 0).2 (val 1).1 (val 2).1 (val 20).2 (val 23).2 (val 21).1 (val 25).1 (val 27).1 (val 28).1 (val 9).1 (val 10).1 (val 11).1 := h _ (List.mem_of_getElem? (i := 2) rfl) rfl
  have p3 : (val 5).1 = (val 21).1 + 1 := h _ (List.mem_of_getElem? (i := 3) rfl)
  have p4 : (val 6).1 = (val 25).1 + 1 := h _ (List.mem_of_getElem? (i := 4) rfl)
  have p5 : ¬ (val 25).1 = (val 26).1 := h _ (List.mem_of_getElem? (i := 5) rfl)
  have p6 : 7 ≤ (val 26).1 ∧ (val 26).1 ≤ 7 := h _ (List.mem_of_getElem? (i := 6) rfl)
  have p7 : 7 ≤ (val 22).1 ∧ (val 22).1 ≤ 7 := h _ (List.mem_of_getElem? (i := 7) rfl)
  have p8 : (val 7).1 = (val 27).1 + 1 := h _ (List.mem_of_getElem? (i := 8) rfl)
  have p9 : ¬ (val 27).1 = (val 29).1 := h _ (List.mem_of_getElem? (i := 9) rfl)
  have p10 : 30 ≤ (val 29).1 ∧ (val 29).1 ≤ 30 := h _ (List.mem_of_getElem? (i := 10) rfl)
  have p11 : (val 8).1 = (val 28).1 + 1 := h _ (List.mem_of_getElem? (i := 11) rfl)
  have p12 : 0 ≤ (val 28).1 ∧ (val 28).1 ≤ 59 := h _ (List.mem_of_getElem? (i := 12) rfl)
  have p13 : 1 ≤ (val 21).1 ∧ (val 21).1 ≤ 90 := h _ (List.mem_of_getElem? (i := 13) rfl)
  intro _
  show rv_PI 1 0 0 (val 0).2 (val 1).1 (val 2).1 (val 3).2 (val 4).2 (val 5).1 (val 6).1 (val 7).1 (val 8).1 (val 9).1 (val 10).1 (val 11).1
  rw [show (val 22).1 = 7 by omega] at p0
  have e := rv_pi_brk p2 (by omega) p0 p1 (by omega) (by omega) (by omega)
  rw [show (val 5).1 = (val 21).1 + 1 by omega, show (val 6).1 = (val 25).1 + 1 by omega, show (val 7).1 = (val 27).1 + 1 by omega, show (val 8).1 = (val 28).1 + 1 by omega]
  exact e
theorem ru_un11_2 : rv_RlOk (76, [0, 1, 2, 3, 4, 5, 6, 7, 8, 9, 10, 11], [(6, [0, 20, 21, 22], Int.ofNat 0, Int.ofNat 0), (77, [20, 1, 21, 3, 4, 5, 6, 27, 28, 9, 10, 11], Int.ofNat 0, Int.ofNat 0), (1001, [2, 21], Int.ofNat 1, Int.ofNat 0), (1000, [22], Int.ofNat 97, Int.ofNat 122), (1001, [7, 27], Int.ofNat 1, Int.ofNat 0), (4, [27, 29], Int.ofNat 0, Int.ofNat 0), (1000, [29], Int.ofNat 30, Int.ofNat 30), (1001, [8, 28], Int.ofNat 1, Int.ofNat 0), (1000, [28], Int.ofNat 0, Int.ofNat 59)]) := by
  intro val h
  have p0 : ∀ j, (val 0).2 j = if j = (val 21).1.toNat then (val 22).1 else (val 20).2 j := h _ (List.mem_of_getElem? (i := 0) rfl)
  have p1 : rv_PI 1 0 0 (val 20).2 (val 1).1 (val 21).1 (val 3).2 (val 4).2 (val 5).1 (val 6).1 (val 27).1 (val 28).1 (val 9).1 (val 10).1 (val 11).1 := h _ (List.mem_of_getElem? (i := 1) rfl) rfl
  have p2 : (val 2).1 = (val 21).1 + 1 := h _ (List.mem_of_getElem? (i := 2) rfl)
  have p3 : 97 ≤ (val 22).1 ∧ (val 22).1 ≤ 122 := h _ (List.mem_of_getElem? (i := 3) rfl)
  have p4 : (val 7).1 = (val 27).1 + 1 := h _ (List.mem_of_getElem? (i := 4) rfl)
  have p5 : ¬ (val 27).1 = (val 29).1 := h _ (List.mem_of_getElem? (i := 5) rfl)
  have p6 : 30 ≤ (val 29).1 ∧ (val 29).1 ≤ 30 := h _ (List.mem_of_getElem? (i := 6) rfl)
  have p7 : (val 8).1 = (val 28).1 + 1 := h _ (List.mem_of_getElem? (i := 7) rfl)
  have p8 : 0 ≤ (val 28).1 ∧ (val 28).1 ≤ 59 := h _ (List.mem_of_getElem? (i := 8) rfl)
  intro _
  show rv_PI 1 0 1 (val 0).2 (val 1).1 (val 2).1 (val 3).2 (val 4).2 (val 5).1 (val 6).1 (val 7).1 (val 8).1 (val 9).1 (val 10).1 (val 11).1
  have e := rv_pi_leaf p1 p0 (by omega) (by omega) (by omega)
  rw [show (val 2).1 = (val 21).1 + 1 by omega, show (val 7).1 = (val 27).1 + 1 by omega, show (val 8).1 = (val 28).1 + 1 by omega]
  exact e
def rl_un11 : List rv_Rl := [(77, [0, 1, 2, 3, 4, 5, 6, 7, 8, 9, 10, 11], [(6, [3, 20, 21, 22], Int.ofNat 0, Int.ofNat 0), (6, [4, 23, 21, 24], Int.ofNat 0, Int.ofNat 0), (77, [0, 1, 2, 20, 23, 21, 25, 7, 8, 9, 10, 11], Int.ofNat 0, Int.ofNat 0), (1001, [5, 21], Int.ofNat 1, Int.ofNat 0), (1001, [6, 25], Int.ofNat 1, Int.ofNat 0), (4, [25, 26], Int.ofNat 0, Int.ofNat 0), (1000, [26], Int.ofNat 7, Int.ofNat 7), (1000, [22], Int.ofNat 3, Int.ofNat 3), (1000, [24], Int.ofNat 126, Int.ofNat 126), (1000, [21], Int.ofNat 1, Int.ofNat 90)]), (77, [0, 1, 2, 3, 4, 5, 6, 7, 8, 9, 10, 11], [(6, [3, 20, 21, 22], Int.ofNat 0, Int.ofNat 0), (6, [4, 23, 21, 24], Int.ofNat 0, Int.ofNat 0), (77, [0, 1, 2, 20, 23, 21, 25, 27, 28, 9, 10, 11], Int.ofNat 0, Int.ofNat 0), (1001, [5, 21], Int.ofNat 1, Int.ofNat 0), (1001, [6, 25], Int.ofNat 1, Int.ofNat 0), (4, [25, 26], Int.ofNat 0, Int.ofNat 0), (1000, [26], Int.ofNat 7, Int.ofNat 7), (1000, [22], Int.ofNat 7, Int.ofNat 7), (1001, [7, 27], Int.ofNat 1, Int.ofNat 0), (4, [27, 29], Int.ofNat 0, Int.ofNat 0), (1000, [29], Int.ofNat 30, Int.ofNat 30), (1001, [8, 28], Int.ofNat 1, Int.ofNat 0), (1000, [28], Int.ofNat 0, Int.ofNat 59), (1000, [21], Int.ofNat 1, Int.ofNat 90)]), (76, [0, 1, 2, 3, 4, 5, 6, 7, 8, 9, 10, 11], [(6, [0, 20, 21, 22], Int.ofNat 0, Int.ofNat 0), (77, [20, 1, 21, 3, 4, 5, 6, 27, 28, 9, 10, 11], Int.ofNat 0, Int.ofNat 0), (1001, [2, 21], Int.ofNat 1, Int.ofNat 0), (1000, [22], Int.ofNat 97, Int.ofNat 122), (1001, [7, 27], Int.ofNat 1, Int.ofNat 0), (4, [27, 29], Int.ofNat 0, Int.ofNat 0), (1000, [29], Int.ofNat 30, Int.ofNat 30), (1001, [8, 28], Int.ofNat 1, Int.ofNat 0), (1000, [28], Int.ofNat 0, Int.ofNat 59)])]
theorem rlo_un11 : ∀ r ∈ rl_un11, rv_RlOk r := List.forall_mem_cons.mpr ⟨ru_un11_0, List.forall_mem_cons.mpr ⟨ru_un11_1, List.forall_mem_cons.mpr ⟨ru_un11_2, fun _ h => absurd h List.not_mem_nil⟩⟩⟩
theorem ru_undo_0 : rv_RlOk (2, [0, 1], [(44, [3, 2], Int.ofNat 0, Int.ofNat 0), (1001, [0, 2], Int.ofNat 1, Int.ofNat 0), (1000, [3], Int.ofNat 1, Int.ofNat 40), (1000, [1], Int.ofNat 40, Int.ofNat 40)]) := by
  intro val h
  have p0 : (val 3).1 + (val 2).1 ≤ 40 := h _ (List.mem_of_getElem? (i := 0) rfl) rfl
  have p1 : (val 0).1 = (val 2).1 + 1 := h _ (List.mem_of_getElem? (i := 1) rfl)
  have p2 : 1 ≤ (val 3).1 ∧ (val 3).1 ≤ 40 := h _ (List.mem_of_getElem? (i := 2) rfl)
  have p3 : 40 ≤ (val 1).1 ∧ (val 1).1 ≤ 40 := h _ (List.mem_of_getElem? (i := 3) rfl)
  show (val 0).1 ≤ (val 1).1
  omega
theorem ru_undo_1 : rv_RlOk (44, [0, 1], [(44, [2, 3], Int.ofNat 0, Int.ofNat 0), (1001, [0, 2], Int.negSucc 0, Int.ofNat 0), (1001, [1, 3], Int.ofNat 1, Int.ofNat 0), (1000, [2], Int.ofNat 1, Int.ofNat 40)]) := by
  intro val h
  have p0 : (val 2).1 + (val 3).1 ≤ 40 := h _ (List.mem_of_getElem? (i := 0) rfl) rfl
  have p1 : (val 0).1 = (val 2).1 + (-1) := h _ (List.mem_of_getElem? (i := 1) rfl)
  have p2 : (val 1).1 = (val 3).1 + 1 := h _ (List.mem_of_getElem? (i := 2) rfl)
  have p3 : 1 ≤ (val 2).1 ∧ (val 2).1 ≤ 40 := h _ (List.mem_of_getElem? (i := 3) rfl)
  intro _
  show (val 0).1 + (val 1).1 ≤ 40
  omega
def rl_undo : List rv_Rl := [(2, [0, 1], [(44, [3, 2], Int.ofNat 0, Int.ofNat 0), (1001, [0, 2], Int.ofNat 1, Int.ofNat 0), (1000, [3], Int.ofNat 1, Int.ofNat 40), (1000, [1], Int.ofNat 40, Int.ofNat 40)]), (44, [0, 1], [(44, [2, 3], Int.ofNat 0, Int.ofNat 0), (1001, [0, 2], Int.negSucc 0, Int.ofNat 0), (1001, [1, 3], Int.ofNat 1, Int.ofNat 0), (1000, [2], Int.ofNat 1, Int.ofNat 40)])]
theorem rlo_undo : ∀ r ∈ rl_undo, rv_RlOk r := List.forall_mem_cons.mpr ⟨ru_undo_0, List.forall_mem_cons.mpr ⟨ru_undo_1, fun _ h => absurd h List.not_mem_nil⟩⟩
theorem ru_upto_0 : rv_RlOk (2, [0, 1], [(2, [0, 2], Int.ofNat 0, Int.ofNat 0), (2, [2, 1], Int.ofNat 0, Int.ofNat 0)]) := by
  intro val h
  have p0 : (val 0).1 ≤ (val 2).1 := h _ (List.mem_of_getElem? (i := 0) rfl)
  have p1 : (val 2).1 ≤ (val 1).1 := h _ (List.mem_of_getElem? (i := 1) rfl)
  show (val 0).1 ≤ (val 1).1
  omega
def rl_upto : List rv_Rl := [(2, [0, 1], [(2, [0, 2], Int.ofNat 0, Int.ofNat 0), (2, [2, 1], Int.ofNat 0, Int.ofNat 0)])]
theorem rlo_upto : ∀ r ∈ rl_upto, rv_RlOk r := List.forall_mem_cons.mpr ⟨ru_upto_0, fun _ h => absurd h List.not_mem_nil⟩
theorem ru_wi00_0 : rv_RlOk (2, [0, 1], [(70, [30, 31, 32, 3, 34, 4, 5, 37, 38, 39, 40, 41], Int.ofNat 0, Int.ofNat 0), (1001, [1, 5], Int.negSucc 0, Int.ofNat 0), (5, [2, 6, 3], Int.ofNat 0, Int.ofNat 0), (1001, [6, 4], Int.negSucc 0, Int.ofNat 0), (1000, [2], Int.ofNat 3, Int.ofNat 3), (1000, [0], Int.ofNat 0, Int.ofNat 0), (1000, [4], Int.ofNat 1, Int.ofNat 90)]) := by
  intro val h
  have p0 : rv_PI 0 1 1 (val 30).2 (val 31).1 (val 32).1 (val 3).2 (val 34).2 (val 4).1 (val 5).1 (val 37).1 (val 38).1 (val 39).1 (val 40).1 (val 41).1 := h _ (List.mem_of_getElem? (i := 0) rfl) rfl
  have p1 : (val 1).1 = (val 5).1 + (-1) := h _ (List.mem_of_getElem? (i := 1) rfl)
  have p2 : (val 2).1 = (val 3).2 (val 6).1.toNat := h _ (List.mem_of_getElem? (i := 2) rfl)
  have p3 : (val 6).1 = (val 4).1 + (-1) := h _ (List.mem_of_getElem? (i := 3) rfl)
  have p4 : 3 ≤ (val 2).1 ∧ (val 2).1 ≤ 3 := h _ (List.mem_of_getElem? (i := 4) rfl)
  have p5 : 0 ≤ (val 0).1 ∧ (val 0).1 ≤ 0 := h _ (List.mem_of_getElem? (i := 5) rfl)
  have p6 : 1 ≤ (val 4).1 ∧ (val 4).1 ≤ 90 := h _ (List.mem_of_getElem? (i := 6) rfl)
  show (val 0).1 ≤ (val 1).1
  rw [show (val 6).1.toNat = ((val 4).1 - 1).toNat by omega] at p2
  have e := rv_pi_wi p0 (by omega) (Or.inl (by omega))
  omega
theorem ru_wi00_1 : rv_RlOk (2, [0, 1], [(70, [30, 31, 32, 3, 34, 4, 5, 37, 38, 39, 40, 41], Int.ofNat 0, Int.ofNat 0), (1001, [1, 5], Int.negSucc 0, Int.ofNat 0), (5, [2, 6, 3], Int.ofNat 0, Int.ofNat 0), (1001, [6, 4], Int.negSucc 0, Int.ofNat 0), (1000, [2], Int.ofNat 7, Int.ofNat 7), (1000, [0], Int.ofNat 0, Int.ofNat 0), (1000, [4], Int.ofNat 1, Int.ofNat 90)]) := by
  intro val h
  have p0 : rv_PI 0 1 1 (val 30).2 (val 31).1 (val 32).1 (val 3).2 (val 34).2 (val 4).1 (val 5).1 (val 37).1 (val 38).1 (val 39).1 (val 40).1 (val 41).1 := h _ (List.mem_of_getElem? (i := 0) rfl) rfl
  have p1 : (val 1).1 = (val 5).1 + (-1) := h _ (List.mem_of_getElem? (i := 1) rfl)
  have p2 : (val 2).1 = (val 3).2 (val 6).1.toNat := h _ (List.mem_of_getElem? (i := 2) rfl)
  have p3 : (val 6).1 = (val 4).1 + (-1) := h _ (List.mem_of_getElem? (i := 3) rfl)
  have p4 : 7 ≤ (val 2).1 ∧ (val 2).1 ≤ 7 := h _ (List.mem_of_getElem? (i := 4) rfl)
  have p5 : 0 ≤ (val 0).1 ∧ (val 0).1 ≤ 0 := h _ (List.mem_of_getElem? (i := 5) rfl)
  have p6 : 1 ≤ (val 4).1 ∧ (val 4).1 ≤ 90 := h _ (List.mem_of_getElem? (i := 6) rfl)
  show (val 0).1 ≤ (val 1).1
  rw [show (val 6).1.toNat = ((val 4).1 - 1).toNat by omega] at p2
  have e := rv_pi_wi p0 (by omega) (Or.inr (by omega))
  omega
def rl_wi00 : List rv_Rl := [(2, [0, 1], [(70, [30, 31, 32, 3, 34, 4, 5, 37, 38, 39, 40, 41], Int.ofNat 0, Int.ofNat 0), (1001, [1, 5], Int.negSucc 0, Int.ofNat 0), (5, [2, 6, 3], Int.ofNat 0, Int.ofNat 0), (1001, [6, 4], Int.negSucc 0, Int.ofNat 0), (1000, [2], Int.ofNat 3, Int.ofNat 3), (1000, [0], Int.ofNat 0, Int.ofNat 0), (1000, [4], Int.ofNat 1, Int.ofNat 90)]), (2, [0, 1], [(70, [30, 31, 32, 3, 34, 4, 5, 37, 38, 39, 40, 41], Int.ofNat 0, Int.ofNat 0), (1001, [1, 5], Int.negSucc 0, Int.ofNat 0), (5, [2, 6, 3], Int.ofNat 0, Int.ofNat 0), (1001, [6, 4], Int.negSucc 0, Int.ofNat 0), (1000, [2], Int.ofNat 7, Int.ofNat 7), (1000, [0], Int.ofNat 0, Int.ofNat 0), (1000, [4], Int.ofNat 1, Int.ofNat 90)])]
theorem rlo_wi00 : ∀ r ∈ rl_wi00, rv_RlOk r := List.forall_mem_cons.mpr ⟨ru_wi00_0, List.forall_mem_cons.mpr ⟨ru_wi00_1, fun _ h => absurd h List.not_mem_nil⟩⟩
theorem ru_wi01_0 : rv_RlOk (2, [0, 1], [(72, [30, 31, 32, 3, 34, 4, 5, 37, 38, 39, 40, 41], Int.ofNat 0, Int.ofNat 0), (1001, [1, 5], Int.negSucc 0, Int.ofNat 0), (5, [2, 6, 3], Int.ofNat 0, Int.ofNat 0), (1001, [6, 4], Int.negSucc 0, Int.ofNat 0), (1000, [2], Int.ofNat 3, Int.ofNat 3), (1000, [0], Int.ofNat 0, Int.ofNat 0), (1000, [4], Int.ofNat 1, Int.ofNat 90)]) := by
  intro val h
  have p0 : rv_PI 0 0 1 (val 30).2 (val 31).1 (val 32).1 (val 3).2 (val 34).2 (val 4).1 (val 5).1 (val 37).1 (val 38).1 (val 39).1 (val 40).1 (val 41).1 := h _ (List.mem_of_getElem? (i := 0) rfl) rfl
  have p1 : (val 1).1 = (val 5).1 + (-1) := h _ (List.mem_of_getElem? (i := 1) rfl)
  have p2 : (val 2).1 = (val 3).2 (val 6).1.toNat := h _ (List.mem_of_getElem? (i := 2) rfl)
  have p3 : (val 6).1 = (val 4).1 + (-1) := h _ (List.mem_of_getElem? (i := 3) rfl)
  have p4 : 3 ≤ (val 2).1 ∧ (val 2).1 ≤ 3 := h _ (List.mem_of_getElem? (i := 4) rfl)
  have p5 : 0 ≤ (val 0).1 ∧ (val 0).1 ≤ 0 := h _ (List.mem_of_getElem? (i := 5) rfl)
  have p6 : 1 ≤ (val 4).1 ∧ (val 4).1 ≤ 90 := h _ (List.mem_of_getElem? (i := 6) rfl)
  show (val 0).1 ≤ (val 1).1
  rw [show (val 6).1.toNat = ((val 4).1 - 1).toNat by omega] at p2
  have e := rv_pi_wi p0 (by omega) (Or.inl (by omega))
  omega
theorem ru_wi01_1 : rv_RlOk (2, [0, 1], [(72, [30, 31, 32, 3, 34, 4, 5, 37, 38, 39, 40, 41], Int.ofNat 0, Int.ofNat 0), (1001, [1, 5], Int.negSucc 0, Int.ofNat 0), (5, [2, 6, 3], Int.ofNat 0, Int.ofNat 0), (1001, [6, 4], Int.negSucc 0, Int.ofNat 0), (1000, [2], Int.ofNat 7, Int.ofNat 7), (1000, [0], Int.ofNat 0, Int.ofNat 0), (1000, [4], Int.ofNat 1, Int.ofNat 90)]) := by
  intro val h
  have p0 : rv_PI 0 0 1 (val 30).2 (val 31).1 (val 32).1 (val 3).2 (val 34).2 (val 4).1 (val 5).1 (val 37).1 (val 38).1 (val 39).1 (val 40).1 (val 41).1 := h _ (List.mem_of_getElem? (i := 0) rfl) rfl
  have p1 : (val 1).1 = (val 5).1 + (-1) := h _ (List.mem_of_getElem? (i := 1) rfl)
  have p2 : (val 2).1 = (val 3).2 (val 6).1.toNat := h _ (List.mem_of_getElem? (i := 2) rfl)
  have p3 : (val 6).1 = (val 4).1 + (-1) := h _ (List.mem_of_getElem? (i := 3) rfl)
  have p4 : 7 ≤ (val 2).1 ∧ (val 2).1 ≤ 7 := h _ (List.mem_of_getElem? (i := 4) rfl)
  have p5 : 0 ≤ (val 0).1 ∧ (val 0).1 ≤ 0 := h _ (List.mem_of_getElem? (i := 5) rfl)
  have p6 : 1 ≤ (val 4).1 ∧ (val 4).1 ≤ 90 := h _ (List.mem_of_getElem? (i := 6) rfl)
  show (val 0).1 ≤ (val 1).1
  rw [show (val 6).1.toNat = ((val 4).1 - 1).toNat by omega] at p2
  have e := rv_pi_wi p0 (by omega) (Or.inr (by omega))
  omega
def rl_wi01 : List rv_Rl := [(2, [0, 1], [(72, [30, 31, 32, 3, 34, 4, 5, 37, 38, 39, 40, 41], Int.ofNat 0, Int.ofNat 0), (1001, [1, 5], Int.negSucc 0, Int.ofNat 0), (5, [2, 6, 3], Int.ofNat 0, Int.ofNat 0), (1001, [6, 4], Int.negSucc 0, Int.ofNat 0), (1000, [2], Int.ofNat 3, Int.ofNat 3), (1000, [0], Int.ofNat 0, Int.ofNat 0), (1000, [4], Int.ofNat 1, Int.ofNat 90)]), (2, [0, 1], [(72, [30, 31, 32, 3, 34, 4, 5, 37, 38, 39, 40, 41], Int.ofNat 0, Int.ofNat 0), (1001, [1, 5], Int.negSucc 0, Int.ofNat 0), (5, [2, 6, 3], Int.ofNat 0, Int.ofNat 0), (1001, [6, 4], Int.negSucc 0, Int.ofNat 0), (1000, [2], Int.ofNat 7, Int.ofNat 7), (1000, [0], Int.ofNat 0, Int.ofNat 0), (1000, [4], Int.ofNat 1, Int.ofNat 90)])]
theorem rlo_wi01 : ∀ r ∈ rl_wi01, rv_RlOk r := List.forall_mem_cons.mpr ⟨ru_wi01_0, List.forall_mem_cons.mpr ⟨ru_wi01_1, fun _ h => absurd h List.not_mem_nil⟩⟩
theorem ru_wi10_0 : rv_RlOk (2, [0, 1], [(74, [30, 31, 32, 3, 34, 4, 5, 37, 38, 39, 40, 41], Int.ofNat 0, Int.ofNat 0), (1001, [1, 5], Int.negSucc 0, Int.ofNat 0), (5, [2, 6, 3], Int.ofNat 0, Int.ofNat 0), (1001, [6, 4], Int.negSucc 0, Int.ofNat 0), (1000, [2], Int.ofNat 3, Int.ofNat 3), (1000, [0], Int.ofNat 0, Int.ofNat 0), (1000, [4], Int.ofNat 1, Int.ofNat 90)]) := by
  intro val h
  have p0 : rv_PI 1 1 1 (val 30).2 (val 31).1 (val 32).1 (val 3).2 (val 34).2 (val 4).1 (val 5).1 (val 37).1 (val 38).1 (val 39).1 (val 40).1 (val 41).1 := h _ (List.mem_of_getElem? (i := 0) rfl) rfl
  have p1 : (val 1).1 = (val 5).1 + (-1) := h _ (List.mem_of_getElem? (i := 1) rfl)
  have p2 : (val 2).1 = (val 3).2 (val 6).1.toNat := h _ (List.mem_of_getElem? (i := 2) rfl)
  have p3 : (val 6).1 = (val 4).1 + (-1) := h _ (List.mem_of_getElem? (i := 3) rfl)
  have p4 : 3 ≤ (val 2).1 ∧ (val 2).1 ≤ 3 := h _ (List.mem_of_getElem? (i := 4) rfl)
  have p5 : 0 ≤ (val 0).1 ∧ (val 0).1 ≤ 0 := h _ (List.mem_of_getElem? (i := 5) rfl)
  have p6 : 1 ≤ (val 4).1 ∧ (val 4).1 ≤ 90 := h _ (List.mem_of_getElem? (i := 6) rfl)
  show (val 0).1 ≤ (val 1).1
  rw [show (val 6).1.toNat = ((val 4).1 - 1).toNat by omega] at p2
  have e := rv_pi_wi p0 (by omega) (Or.inl (by omega))
  omega
theorem ru_wi10_1 : rv_RlOk (2, [0, 1], [(74, [30, 31, 32, 3, 34, 4, 5, 37, 38, 39, 40, 41], Int.ofNat 0, Int.ofNat 0), (1001, [1, 5], Int.negSucc 0, Int.ofNat 0), (5, [2, 6, 3], Int.ofNat 0, Int.ofNat 0), (1001, [6, 4], Int.negSucc 0, Int.ofNat 0), (1000, [2], Int.ofNat 7, Int.ofNat 7), (1000, [0], Int.ofNat 0, Int.ofNat 0), (1000, [4], Int.ofNat 1, Int.ofNat 90)]) := by
  intro val h
  have p0 : rv_PI 1 1 1 (val 30).2 (val 31).1 (val 32).1 (val 3).2 (val 34).2 (val 4).1 (val 5).1 (val 37).1 (val 38).1 (val 39).1 (val 40).1 (val 41).1 := h _ (List.mem_of_getElem? (i := 0) rfl) rfl
  have p1 : (val 1).1 = (val 5).1 + (-1) := h _ (List.mem_of_getElem? (i := 1) rfl)
  have p2 : (val 2).1 = (val 3).2 (val 6).1.toNat := h _ (List.mem_of_getElem? (i := 2) rfl)
  have p3 : (val 6).1 = (val 4).1 + (-1) := h _ (List.mem_of_getElem? (i := 3) rfl)
  have p4 : 7 ≤ (val 2).1 ∧ (val 2).1 ≤ 7 := h _ (List.mem_of_getElem? (i := 4) rfl)
  have p5 : 0 ≤ (val 0).1 ∧ (val 0).1 ≤ 0 := h _ (List.mem_of_getElem? (i := 5) rfl)
  have p6 : 1 ≤ (val 4).1 ∧ (val 4).1 ≤ 90 := h _ (List.mem_of_getElem? (i := 6) rfl)
  show (val 0).1 ≤ (val 1).1
  rw [show (val 6).1.toNat = ((val 4).1 - 1).toNat by omega] at p2
  have e := rv_pi_wi p0 (by omega) (Or.inr (by omega))
  omega
def rl_wi10 : List rv_Rl := [(2, [0, 1], [(74, [30, 31, 32, 3, 34, 4, 5, 37, 38, 39, 40, 41], Int.ofNat 0, Int.ofNat 0), (1001, [1, 5], Int.negSucc 0, Int.ofNat 0), (5, [2, 6, 3], Int.ofNat 0, Int.ofNat 0), (1001, [6, 4], Int.negSucc 0, Int.ofNat 0), (1000, [2], Int.ofNat 3, Int.ofNat 3), (1000, [0], Int.ofNat 0, Int.ofNat 0), (1000, [4], Int.ofNat 1, Int.ofNat 90)]), (2, [0, 1], [(74, [30, 31, 32, 3, 34, 4, 5, 37, 38, 39, 40, 41], Int.ofNat 0, Int.ofNat 0), (1001, [1, 5], Int.negSucc 0, Int.ofNat 0), (5, [2, 6, 3], Int.ofNat 0, Int.ofNat 0), (1001, [6, 4], Int.negSucc 0, Int.ofNat 0), (1000, [2], Int.ofNat 7, Int.ofNat 7), (1000, [0], Int.ofNat 0, Int.ofNat 0), (1000, [4], Int.ofNat 1, Int.ofNat 90)])]
theorem rlo_wi10 : ∀ r ∈ rl_wi10, rv_RlOk r := List.forall_mem_cons.mpr ⟨ru_wi10_0, List.forall_mem_cons.mpr ⟨ru_wi10_1, fun _ h => absurd h List.not_mem_nil⟩⟩
theorem ru_wi11_0 : rv_RlOk (2, [0, 1], [(76, [30, 31, 32, 3, 34, 4, 5, 37, 38, 39, 40, 41], Int.ofNat 0, Int.ofNat 0), (1001, [1, 5], Int.negSucc 0, Int.ofNat 0), (5, [2, 6, 3], Int.ofNat 0, Int.ofNat 0), (1001, [6, 4], Int.negSucc 0, Int.ofNat 0), (1000, [2], Int.ofNat 3, Int.ofNat 3), (1000, [0], Int.ofNat 0, Int.ofNat 0), (1000, [4], Int.ofNat 1, Int.ofNat 90)]) := by
  intro val h
  have p0 : rv_PI 1 0 1 (val 30).2 (val 31).1 (val 32).1 (val 3).2 (val 34).2 (val 4).1 (val 5).1 (val 37).1 (val 38).1 (val 39).1 (val 40).1 (val 41).1 := h _ (List.mem_of_getElem? (i := 0) rfl) rfl
  have p1 : (val 1).1 = (val 5).1 + (-1) := h _ (List.mem_of_getElem? (i := 1) rfl)
  have p2 : (val 2).1 = (val 3).2 (val 6).1.toNat := h _ (List.mem_of_getElem? (i := 2) rfl)
  have p3 : (val 6).1 = (val 4).1 + (-1) := h _ (List.mem_of_getElem? (i := 3) rfl)
  have p4 : 3 ≤ (val 2).1 ∧ (val 2).1 ≤ 3 := h _ (List.mem_of_getElem? (i := 4) rfl)
  have p5 : 0 ≤ (val 0).1 ∧ (val 0).1 ≤ 0 := h _ (List.mem_of_getElem? (i := 5) rfl)
  have p6 : 1 ≤ (val 4).1 ∧ (val 4).1 ≤ 90 := h _ (List.mem_of_getElem? (i := 6) rfl)
  show (val 0).1 ≤ (val 1).1
  rw [show (val 6).1.toNat = ((val 4).1 - 1).toNat by omega] at p2
  have e := rv_pi_wi p0 (by omega) (Or.inl (by omega))
  omega
theorem ru_wi11_1 : rv_RlOk (2, [0, 1], [(76, [30, 31, 32, 3, 34, 4, 5, 37, 38, 39, 40, 41], Int.ofNat 0, Int.ofNat 0), (1001, [1, 5], Int.negSucc 0, Int.ofNat 0), (5, [2, 6, 3], Int.ofNat 0, Int.ofNat 0), (1001, [6, 4], Int.negSucc 0, Int.ofNat 0), (1000, [2], Int.ofNat 7, Int.ofNat 7), (1000, [0], Int.ofNat 0, Int.ofNat 0), (1000, [4], Int.ofNat 1, Int.ofNat 90)]) := by
  intro val h
  have p0 : rv_PI 1 0 1 (val 30).2 (val 31).1 (val 32).1 (val 3).2 (val 34).2 (val 4).1 (val 5).1 (val 37).1 (val 38).1 (val 39).1 (val 40).1 (val 41).1 := h _ (List.mem_of_getElem? (i := 0) rfl) rfl
  have p1 : (val 1).1 = (val 5).1 + (-1) := h _ (List.mem_of_getElem? (i := 1) rfl)
  have p2 : (val 2).1 = (val 3).2 (val 6).1.toNat := h _ (List.mem_of_getElem? (i := 2) rfl)
  have p3 : (val 6).1 = (val 4).1 + (-1) := h _ (List.mem_of_getElem? (i := 3) rfl)
  have p4 : 7 ≤ (val 2).1 ∧ (val 2).1 ≤ 7 := h _ (List.mem_of_getElem? (i := 4) rfl)
  have p5 : 0 ≤ (val 0).1 ∧ (val 0).1 ≤ 0 := h _ (List.mem_of_getElem? (i := 5) rfl)
  have p6 : 1 ≤ (val 4).1 ∧ (val 4).1 ≤ 90 := h _ (List.mem_of_getElem? (i := 6) rfl)
  show (val 0).1 ≤ (val 1).1
  rw [show (val 6).1.toNat = ((val 4).1 - 1).toNat by omega] at p2
  have e := rv_pi_wi p0 (by omega) (Or.inr (by omega))
  omega
def rl_wi11 : List rv_Rl := [(2, [0, 1], [(76, [30, 31, 32, 3, 34, 4, 5, 37, 38, 39, 40, 41], Int.ofNat 0, Int.ofNat 0), (1001, [1, 5], Int.negSucc 0, Int.ofNat 0), (5, [2, 6, 3], Int.ofNat 0, Int.ofNat 0), (1001, [6, 4], Int.negSucc 0, Int.ofNat 0), (1000, [2], Int.ofNat 3, Int.ofNat 3), (1000, [0], Int.ofNat 0, Int.ofNat 0), (1000, [4], Int.ofNat 1, Int.ofNat 90)]), (2, [0, 1], [(76, [30, 31, 32, 3, 34, 4, 5, 37, 38, 39, 40, 41], Int.ofNat 0, Int.ofNat 0), (1001, [1, 5], Int.negSucc 0, Int.ofNat 0), (5, [2, 6, 3], Int.ofNat 0, Int.ofNat 0), (1001, [6, 4], Int.negSucc 0, Int.ofNat 0), (1000, [2], Int.ofNat 7, Int.ofNat 7), (1000, [0], Int.ofNat 0, Int.ofNat 0), (1000, [4], Int.ofNat 1, Int.ofNat 90)])]
theorem rlo_wi11 : ∀ r ∈ rl_wi11, rv_RlOk r := List.forall_mem_cons.mpr ⟨ru_wi11_0, List.forall_mem_cons.mpr ⟨ru_wi11_1, fun _ h => absurd h List.not_mem_nil⟩⟩
theorem ru_word_0 : rv_RlOk (69, [0, 1, 2], [(4, [0, 3], Int.ofNat 0, Int.ofNat 0), (1000, [3], Int.ofNat 3, Int.ofNat 3)]) := by
  intro val h
  have p0 : ¬ (val 0).1 = (val 3).1 := h _ (List.mem_of_getElem? (i := 0) rfl)
  have p1 : 3 ≤ (val 3).1 ∧ (val 3).1 ≤ 3 := h _ (List.mem_of_getElem? (i := 1) rfl)
  intro _
  show (val 0).1 = 3 → ¬ (val 1).1 = (val 2).1
  intro z
  omega
theorem ru_word_1 : rv_RlOk (69, [0, 1, 2], [(7, [3, 1, 2], Int.ofNat 0, Int.ofNat 0), (4, [3, 4], Int.ofNat 0, Int.ofNat 0), (1000, [4], Int.ofNat 0, Int.ofNat 0)]) := by
  intro val h
  have p0 : (val 3).1 = 0 ↔ (val 1).1 = (val 2).1 := h _ (List.mem_of_getElem? (i := 0) rfl)
  have p1 : ¬ (val 3).1 = (val 4).1 := h _ (List.mem_of_getElem? (i := 1) rfl)
  have p2 : 0 ≤ (val 4).1 ∧ (val 4).1 ≤ 0 := h _ (List.mem_of_getElem? (i := 2) rfl)
  intro _
  show (val 0).1 = 3 → ¬ (val 1).1 = (val 2).1
  intro _ z
  have := p0.mpr z
  omega
def rl_word : List rv_Rl := [(69, [0, 1, 2], [(4, [0, 3], Int.ofNat 0, Int.ofNat 0), (1000, [3], Int.ofNat 3, Int.ofNat 3)]), (69, [0, 1, 2], [(7, [3, 1, 2], Int.ofNat 0, Int.ofNat 0), (4, [3, 4], Int.ofNat 0, Int.ofNat 0), (1000, [4], Int.ofNat 0, Int.ofNat 0)])]
theorem rlo_word : ∀ r ∈ rl_word, rv_RlOk r := List.forall_mem_cons.mpr ⟨ru_word_0, List.forall_mem_cons.mpr ⟨ru_word_1, fun _ h => absurd h List.not_mem_nil⟩⟩
