/-! numbers: bounds of ints, kept as Int; decided by Nat's own comparisons -/
def rv_le (a b : Int) : Bool := match a, b with
  | .ofNat m, .ofNat n => Nat.ble m n
  | .ofNat _, .negSucc _ => false
  | .negSucc _, .ofNat _ => true
  | .negSucc m, .negSucc n => Nat.ble n m
theorem rv_le_iff (a b : Int) : rv_le a b = true ↔ a ≤ b := by
  cases a with
  | ofNat m =>
    cases b with
    | ofNat n =>
      show Nat.ble m n = true ↔ _
      rw [Nat.ble_eq]
      exact Int.ofNat_le.symm
    | negSucc n =>
      show false = true ↔ _
      rw [Int.negSucc_eq]
      constructor
      · intro h
        cases h
      · intro h
        have h0 : (0 : Int) ≤ Int.ofNat m := Int.natCast_nonneg m
        omega
  | negSucc m =>
    cases b with
    | ofNat n =>
      show true = true ↔ _
      rw [Int.negSucc_eq]
      have h0 : (0 : Int) ≤ Int.ofNat n := Int.natCast_nonneg n
      exact ⟨fun _ => by omega, fun _ => rfl⟩
    | negSucc n =>
      show Nat.ble n m = true ↔ _
      rw [Nat.ble_eq, Int.negSucc_eq, Int.negSucc_eq]
      omega
theorem rv_le_no {a b : Int} (h : rv_le a b = false) : b < a := by
  have := rv_le_iff a b
  rw [h] at this
  have h2 : ¬ a ≤ b := fun q => by cases this.mpr q
  omega
def rv_min (a b : Int) : Int := bif rv_le a b then a else b
def rv_max (a b : Int) : Int := bif rv_le a b then b else a
theorem rv_min_le {a b c : Int} : c ≤ rv_min a b ↔ c ≤ a ∧ c ≤ b := by
  unfold rv_min
  cases h : rv_le a b with
  | true => have := (rv_le_iff a b).mp h; simp only [cond_true]; omega
  | false => have := rv_le_no h; simp only [cond_false]; omega
theorem rv_max_le {a b c : Int} : rv_max a b ≤ c ↔ a ≤ c ∧ b ≤ c := by
  unfold rv_max
  cases h : rv_le a b with
  | true => have := (rv_le_iff a b).mp h; simp only [cond_true]; omega
  | false => have := rv_le_no h; simp only [cond_false]; omega
theorem rv_min_or (a b : Int) : rv_min a b ≤ a ∧ rv_min a b ≤ b := rv_min_le.mp (Int.le_refl _)
theorem rv_max_or (a b : Int) : a ≤ rv_max a b ∧ b ≤ rv_max a b := rv_max_le.mp (Int.le_refl _)
abbrev rv_lo : Int := Int.negSucc 2147483647
abbrev rv_hi : Int := Int.ofNat 2147483647
abbrev rv_lo64 : Int := Int.negSucc 9223372036854775807
abbrev rv_hi64 : Int := Int.ofNat 9223372036854775807
theorem rv_lo_eq : rv_lo = -2147483648 := by decide
theorem rv_hi_eq : rv_hi = 2147483647 := by decide
theorem rv_lo64_eq : rv_lo64 = -9223372036854775808 := by decide
theorem rv_hi64_eq : rv_hi64 = 9223372036854775807 := by decide
def rv_top : Int × Int := (rv_lo, rv_hi)
theorem rv_rng (x : Int32) : -2147483648 ≤ x.toInt ∧ x.toInt < 2147483648 := by
  have h1 := Int32.le_toInt x
  have h2 := Int32.toInt_lt x
  omega
theorem rv_rngL (x : Int64) : -9223372036854775808 ≤ x.toInt ∧ x.toInt < 9223372036854775808 := by
  have h1 := Int64.le_toInt x
  have h2 := Int64.toInt_lt x
  omega
theorem rv_bmod {z : Int} (h1 : -2147483648 ≤ z) (h2 : z < 2147483648) : z.bmod (2 ^ 32) = z := by
  rw [Int.bmod_eq_of_le (by omega) (by omega)]
theorem rv_bmodL {z : Int} (h1 : -9223372036854775808 ≤ z) (h2 : z < 9223372036854775808) : z.bmod (2 ^ 64) = z := by
  rw [Int.bmod_eq_of_le (by omega) (by omega)]
theorem rv_of32 {z : Int} (h1 : rv_lo ≤ z) (h2 : z ≤ rv_hi) : (Int32.ofInt z).toInt = z := by
  rw [rv_lo_eq] at h1
  rw [rv_hi_eq] at h2
  rw [Int32.toInt_ofInt, rv_bmod (by omega) (by omega)]
theorem rv_of64 {z : Int} (h1 : rv_lo64 ≤ z) (h2 : z ≤ rv_hi64) : (Int64.ofInt z).toInt = z := by
  rw [rv_lo64_eq] at h1
  rw [rv_hi64_eq] at h2
  rw [Int64.toInt_ofInt, rv_bmodL (by omega) (by omega)]
theorem rv_top_ok (x : Int32) : rv_top.1 ≤ x.toInt ∧ x.toInt ≤ rv_top.2 := by
  have := rv_rng x
  show rv_lo ≤ _ ∧ _ ≤ rv_hi
  rw [rv_lo_eq, rv_hi_eq]
  omega
def rv_clip (a b : Int) : Int × Int := bif rv_le rv_lo a && rv_le b rv_hi then (a, b) else rv_top
theorem rv_clip_ok {a b z : Int} {x : Int32} (hz : x.toInt = z.bmod (2 ^ 32)) (h1 : a ≤ z) (h2 : z ≤ b) : (rv_clip a b).1 ≤ x.toInt ∧ x.toInt ≤ (rv_clip a b).2 := by
  unfold rv_clip
  cases h : (rv_le rv_lo a && rv_le b rv_hi) with
  | false => simp only [cond_false]; exact rv_top_ok x
  | true =>
    simp only [cond_true]
    rw [Bool.and_eq_true, rv_le_iff, rv_le_iff, rv_lo_eq, rv_hi_eq] at h
    rw [hz, rv_bmod (by omega) (by omega)]
    exact ⟨h1, h2⟩
def rv_f (op : Nat) (x y : Int32) : Int32 := match op with
  | 0 => x + y
  | 1 => x - y
  | 2 => x * y
  | 3 => x / y
  | 4 => x - x / y * y
  | 5 => x &&& y
  | 6 => x ||| y
  | 7 => x ^^^ y
  | 8 => x <<< (y &&& 31)
  | 9 => x >>> (y &&& 31)
  | 10 => (x.toUInt32 >>> (y.toUInt32 &&& Int32.toUInt32 31)).toInt32
  | 11 => if x < y then y else x
  | _ => if y < x then y else x
def rv_p2 (z : Int) : Int := Int.ofNat (2 ^ (Nat.log2 z.toNat + 1) - 1)
def rv_gen (op : Nat) (a b : Int × Int) : Int × Int := match op with
  | 0 => rv_clip (a.1 + b.1) (a.2 + b.2)
  | 1 => rv_clip (a.1 - b.2) (a.2 - b.1)
  | 2 => bif rv_le 0 a.1 && rv_le 0 b.1 then rv_clip (a.1 * b.1) (a.2 * b.2) else rv_top
  | 3 => bif rv_le 0 a.1 && rv_le 1 b.1 then (0, a.2) else rv_top
  | 4 => bif rv_le 0 a.1 && rv_le 1 b.1 then (0, rv_min a.2 (b.2 - 1)) else rv_top
  | 5 => bif rv_le 0 a.1 then (0, bif rv_le 0 b.1 then rv_min a.2 b.2 else a.2) else bif rv_le 0 b.1 then (0, b.2) else rv_top
  | 6 => bif rv_le 0 a.1 && rv_le 0 b.1 then (0, rv_p2 (rv_max a.2 b.2)) else rv_top
  | 7 => bif rv_le 0 a.1 && rv_le 0 b.1 then (0, rv_p2 (rv_max a.2 b.2)) else rv_top
  | 8 => bif rv_le 0 a.1 && (rv_le 0 b.1 && (rv_le b.2 30 && rv_le (a.2 * Int.ofNat (2 ^ b.2.toNat)) rv_hi)) then (a.1, a.2 * Int.ofNat (2 ^ b.2.toNat)) else rv_top
  | 9 => bif rv_le 0 a.1 then (0, a.2) else rv_top
  | 10 => bif rv_le 0 a.1 then (0, a.2) else rv_top
  | 11 => (rv_max a.1 b.1, rv_max a.2 b.2)
  | _ => (rv_min a.1 b.1, rv_min a.2 b.2)
def rv_alu (op : Nat) (a b : Int × Int) : Int × Int :=
  bif rv_le a.2 a.1 && rv_le b.2 b.1 then ((rv_f op (Int32.ofInt a.1) (Int32.ofInt b.1)).toInt, (rv_f op (Int32.ofInt a.1) (Int32.ofInt b.1)).toInt) else rv_gen op a b
/-- within bounds from 0 on: a natural number -/
theorem rv_nat {x : Int32} {a : Int × Int} (h0 : rv_le 0 a.1 = true) (h1 : a.1 ≤ x.toInt) (h2 : x.toInt ≤ a.2) : ∃ n : Nat, n < 2 ^ 31 ∧ x = nI n ∧ x.toInt = (n : Int) ∧ (n : Int) ≤ a.2 ∧ a.1 ≤ (n : Int) := by
  rw [rv_le_iff] at h0
  have hx : ¬ x < 0 := by
    rw [Int32.lt_iff_toInt_lt]
    show ¬ x.toInt < 0
    omega
  obtain ⟨n, hn, e⟩ := nI_of hx
  have et : x.toInt = (n : Int) := by rw [e]; exact nI_toInt hn
  exact ⟨n, hn, e, et, by omega, by omega⟩
theorem rv_nx_and (a b : Nat) : nI a &&& nI b = nI (a &&& b) := by
  apply Int32.toBitVec_inj.1
  show BitVec.ofNat 32 a &&& BitVec.ofNat 32 b = BitVec.ofNat 32 (a &&& b)
  apply BitVec.eq_of_getLsbD_eq
  intro i hi
  simp [hi]
theorem rv_nx_or (a b : Nat) : nI a ||| nI b = nI (a ||| b) := by
  apply Int32.toBitVec_inj.1
  show BitVec.ofNat 32 a ||| BitVec.ofNat 32 b = BitVec.ofNat 32 (a ||| b)
  apply BitVec.eq_of_getLsbD_eq
  intro i hi
  simp [hi]
theorem rv_nx_xor (a b : Nat) : nI a ^^^ nI b = nI (a ^^^ b) := by
  apply Int32.toBitVec_inj.1
  show BitVec.ofNat 32 a ^^^ BitVec.ofNat 32 b = BitVec.ofNat 32 (a ^^^ b)
  apply BitVec.eq_of_getLsbD_eq
  intro i hi
  simp [hi]
theorem rv_p2_lt {n : Nat} {z : Int} (h : (n : Int) ≤ z) : n < 2 ^ (Nat.log2 z.toNat + 1) := by
  have h1 : z.toNat < 2 ^ (Nat.log2 z.toNat + 1) := Nat.lt_log2_self
  omega
/-- 'and' with what isn't below 0 -/
theorem rv_andR (x : Int32) {n : Nat} (hn : n < 2 ^ 31) : 0 ≤ (x &&& nI n).toInt ∧ (x &&& nI n).toInt ≤ (n : Int) := by
  obtain ⟨k, hk, e⟩ : ∃ k : Nat, k < 2 ^ 32 ∧ x = nI k := ⟨x.toBitVec.toNat, x.toBitVec.isLt, by
    apply Int32.toBitVec_inj.1
    show x.toBitVec = BitVec.ofNat 32 x.toBitVec.toNat
    simp⟩
  rw [e, rv_nx_and, nI_toInt (Nat.lt_of_le_of_lt Nat.and_le_right hn)]
  have := @Nat.and_le_right k n
  omega
theorem rv_andL (x : Int32) {n : Nat} (hn : n < 2 ^ 31) : 0 ≤ (nI n &&& x).toInt ∧ (nI n &&& x).toInt ≤ (n : Int) := by
  have e : nI n &&& x = x &&& nI n := by
    apply Int32.toBitVec_inj.1
    show (nI n).toBitVec &&& x.toBitVec = x.toBitVec &&& (nI n).toBitVec
    exact BitVec.and_comm _ _
  rw [e]
  exact rv_andR x hn
theorem rv_gen_ok (op : Nat) {a b : Int × Int} {x y : Int32} (hx1 : a.1 ≤ x.toInt) (hx2 : x.toInt ≤ a.2) (hy1 : b.1 ≤ y.toInt) (hy2 : y.toInt ≤ b.2) : (rv_gen op a b).1 ≤ (rv_f op x y).toInt ∧ (rv_f op x y).toInt ≤ (rv_gen op a b).2 := by
  match op with
  | 0 => exact rv_clip_ok (Int32.toInt_add x y) (by omega) (by omega)
  | 1 => exact rv_clip_ok (Int32.toInt_sub x y) (by omega) (by omega)
  | 2 =>
    show (bif _ then _ else _ : Int × Int).1 ≤ _ ∧ _ ≤ (bif _ then _ else _ : Int × Int).2
    cases h : (rv_le 0 a.1 && rv_le 0 b.1) with
    | false => simp only [cond_false]; exact rv_top_ok _
    | true =>
      simp only [cond_true]
      rw [Bool.and_eq_true, rv_le_iff, rv_le_iff] at h
      exact rv_clip_ok (Int32.toInt_mul x y) (Int.mul_le_mul hx1 hy1 h.2 (by omega)) (Int.mul_le_mul hx2 hy2 (by omega) (by omega))
  | 3 =>
    show (bif _ then _ else _ : Int × Int).1 ≤ _ ∧ _ ≤ (bif _ then _ else _ : Int × Int).2
    cases h : (rv_le 0 a.1 && rv_le 1 b.1) with
    | false => simp only [cond_false]; exact rv_top_ok _
    | true =>
      simp only [cond_true]
      rw [Bool.and_eq_true] at h
      obtain ⟨n, hn, en, et, e1, e2⟩ := rv_nat h.1 hx1 hx2
      have hb : rv_le 0 b.1 = true := by
        have := (rv_le_iff 1 b.1).mp h.2
        exact (rv_le_iff 0 b.1).mpr (by omega)
      obtain ⟨d, hd, ed, dt, d1, d2⟩ := rv_nat hb hy1 hy2
      have hd0 : 0 < d := by
        have := (rv_le_iff 1 b.1).mp h.2
        omega
      show 0 ≤ (x / y).toInt ∧ (x / y).toInt ≤ a.2
      rw [en, ed, pk_div hn hd0 hd, nI_toInt (Nat.lt_of_le_of_lt (Nat.div_le_self n d) hn)]
      have := Nat.div_le_self n d
      generalize n / d = q at this ⊢
      omega
  | 4 =>
    show (bif _ then _ else _ : Int × Int).1 ≤ _ ∧ _ ≤ (bif _ then _ else _ : Int × Int).2
    cases h : (rv_le 0 a.1 && rv_le 1 b.1) with
    | false => simp only [cond_false]; exact rv_top_ok _
    | true =>
      simp only [cond_true]
      rw [Bool.and_eq_true] at h
      obtain ⟨n, hn, en, et, e1, e2⟩ := rv_nat h.1 hx1 hx2
      have hb : rv_le 0 b.1 = true := by
        have := (rv_le_iff 1 b.1).mp h.2
        exact (rv_le_iff 0 b.1).mpr (by omega)
      obtain ⟨d, hd, ed, dt, d1, d2⟩ := rv_nat hb hy1 hy2
      have hd0 : 0 < d := by
        have := (rv_le_iff 1 b.1).mp h.2
        omega
      show 0 ≤ (x - x / y * y).toInt ∧ (x - x / y * y).toInt ≤ rv_min a.2 (b.2 - 1)
      rw [en, ed, pk_rem hn hd0 hd, nI_toInt (Nat.lt_of_le_of_lt (Nat.mod_le n d) hn), rv_min_le]
      have h3 := Nat.mod_le n d
      have h4 := Nat.mod_lt n hd0
      omega
  | 5 =>
    show (bif _ then _ else _ : Int × Int).1 ≤ (x &&& y).toInt ∧ (x &&& y).toInt ≤ (bif _ then _ else _ : Int × Int).2
    cases h : rv_le 0 a.1 with
    | true =>
      simp only [cond_true]
      obtain ⟨n, hn, en, et, e1, e2⟩ := rv_nat h hx1 hx2
      cases h2 : rv_le 0 b.1 with
      | true =>
        simp only [cond_true]
        obtain ⟨d, hd, ed, dt, d1, d2⟩ := rv_nat h2 hy1 hy2
        rw [rv_min_le]
        have q1 := rv_andL y hn
        have q2 := rv_andR x hd
        rw [← en] at q1
        rw [← ed] at q2
        omega
      | false =>
        simp only [cond_false]
        have q1 := rv_andL y hn
        rw [← en] at q1
        omega
    | false =>
      simp only [cond_false]
      cases h2 : rv_le 0 b.1 with
      | true =>
        simp only [cond_true]
        obtain ⟨d, hd, ed, dt, d1, d2⟩ := rv_nat h2 hy1 hy2
        have q2 := rv_andR x hd
        rw [← ed] at q2
        omega
      | false => simp only [cond_false]; exact rv_top_ok _
  | 6 =>
    show (bif _ then _ else _ : Int × Int).1 ≤ _ ∧ _ ≤ (bif _ then _ else _ : Int × Int).2
    cases h : (rv_le 0 a.1 && rv_le 0 b.1) with
    | false => simp only [cond_false]; exact rv_top_ok _
    | true =>
      simp only [cond_true]
      rw [Bool.and_eq_true] at h
      obtain ⟨n, hn, en, et, e1, e2⟩ := rv_nat h.1 hx1 hx2
      obtain ⟨d, hd, ed, dt, d1, d2⟩ := rv_nat h.2 hy1 hy2
      have hm := rv_max_or a.2 b.2
      have k1 := rv_p2_lt (n := n) (z := rv_max a.2 b.2) (by omega)
      have k2 := rv_p2_lt (n := d) (z := rv_max a.2 b.2) (by omega)
      have k3 := Nat.or_lt_two_pow k1 k2
      have k4 := Nat.or_lt_two_pow hn hd
      show 0 ≤ (x ||| y).toInt ∧ (x ||| y).toInt ≤ Int.ofNat (2 ^ (Nat.log2 (rv_max a.2 b.2).toNat + 1) - 1)
      rw [en, ed, rv_nx_or, nI_toInt k4]
      refine ⟨by omega, Int.ofNat_le.mpr ?_⟩
      omega
  | 7 =>
    show (bif _ then _ else _ : Int × Int).1 ≤ _ ∧ _ ≤ (bif _ then _ else _ : Int × Int).2
    cases h : (rv_le 0 a.1 && rv_le 0 b.1) with
    | false => simp only [cond_false]; exact rv_top_ok _
    | true =>
      simp only [cond_true]
      rw [Bool.and_eq_true] at h
      obtain ⟨n, hn, en, et, e1, e2⟩ := rv_nat h.1 hx1 hx2
      obtain ⟨d, hd, ed, dt, d1, d2⟩ := rv_nat h.2 hy1 hy2
      have hm := rv_max_or a.2 b.2
      have k1 := rv_p2_lt (n := n) (z := rv_max a.2 b.2) (by omega)
      have k2 := rv_p2_lt (n := d) (z := rv_max a.2 b.2) (by omega)
      have k3 := Nat.xor_lt_two_pow k1 k2
      have k4 := Nat.xor_lt_two_pow hn hd
      show 0 ≤ (x ^^^ y).toInt ∧ (x ^^^ y).toInt ≤ Int.ofNat (2 ^ (Nat.log2 (rv_max a.2 b.2).toNat + 1) - 1)
      rw [en, ed, rv_nx_xor, nI_toInt k4]
      refine ⟨by omega, Int.ofNat_le.mpr ?_⟩
      omega
  | 8 =>
    show (bif _ then _ else _ : Int × Int).1 ≤ _ ∧ _ ≤ (bif _ then _ else _ : Int × Int).2
    cases h : (rv_le 0 a.1 && (rv_le 0 b.1 && (rv_le b.2 30 && rv_le (a.2 * Int.ofNat (2 ^ b.2.toNat)) rv_hi))) with
    | false => simp only [cond_false]; exact rv_top_ok _
    | true =>
      simp only [cond_true]
      rw [Bool.and_eq_true, Bool.and_eq_true, Bool.and_eq_true] at h
      obtain ⟨h0, h1, h2, h3⟩ := h
      rw [rv_le_iff] at h2 h3
      rw [rv_hi_eq] at h3
      obtain ⟨n, hn, en, et, e1, e2⟩ := rv_nat h0 hx1 hx2
      obtain ⟨d, hd, ed, dt, d1, d2⟩ := rv_nat h1 hy1 hy2
      have hdl : d < 32 := by omega
      have hsm : ((nI d &&& 31).toBitVec.smod 32).toNat = d := by
        have key : ∀ j, j < 32 → ((nI j &&& 31).toBitVec.smod 32).toNat = j := by decide +kernel
        exact key d hdl
      have hle : 2 ^ d ≤ 2 ^ b.2.toNat := Nat.pow_le_pow_right (by omega) (by omega)
      have hmul : n * 2 ^ d ≤ a.2.toNat * 2 ^ b.2.toNat := Nat.mul_le_mul (by omega) hle
      have hz : a.2 = ((a.2.toNat : Nat) : Int) := by omega
      have hbig : a.2.toNat * 2 ^ b.2.toNat ≤ 2147483647 := by
        have h4 : ((a.2.toNat * 2 ^ b.2.toNat : Nat) : Int) ≤ 2147483647 := by
          rw [Int.natCast_mul, ← hz]
          exact h3
        omega
      show a.1 ≤ (x <<< (y &&& 31)).toInt ∧ (x <<< (y &&& 31)).toInt ≤ a.2 * Int.ofNat (2 ^ b.2.toNat)
      rw [en, ed, pk_shlN (n := n) (nI d &&& 31) d hsm (by omega), nI_toInt (by omega)]
      have hone : n ≤ n * 2 ^ d := Nat.le_mul_of_pos_right n (Nat.two_pow_pos d)
      refine ⟨by omega, ?_⟩
      rw [hz]
      show ((n * 2 ^ d : Nat) : Int) ≤ ((a.2.toNat : Nat) : Int) * ((2 ^ b.2.toNat : Nat) : Int)
      rw [← Int.natCast_mul]
      exact Int.ofNat_le.mpr hmul
  | 9 =>
    show (bif _ then _ else _ : Int × Int).1 ≤ _ ∧ _ ≤ (bif _ then _ else _ : Int × Int).2
    cases h : rv_le 0 a.1 with
    | false => simp only [cond_false]; exact rv_top_ok _
    | true =>
      simp only [cond_true]
      obtain ⟨n, hn, en, et, e1, e2⟩ := rv_nat h hx1 hx2
      have hs := pk_shr x (y &&& 31) _ rfl
      show 0 ≤ (x >>> (y &&& 31)).toInt ∧ (x >>> (y &&& 31)).toInt ≤ a.2
      rw [hs, et]
      generalize ((y &&& 31).toBitVec.smod 32).toNat = k
      have h1 : ((n : Int) >>> k) = ((n >>> k : Nat) : Int) := rfl
      rw [h1, Nat.shiftRight_eq_div_pow]
      have := Nat.div_le_self n (2 ^ k)
      generalize n / 2 ^ k = q at this ⊢
      omega
  | 10 =>
    show (bif _ then _ else _ : Int × Int).1 ≤ _ ∧ _ ≤ (bif _ then _ else _ : Int × Int).2
    cases h : rv_le 0 a.1 with
    | false => simp only [cond_false]; exact rv_top_ok _
    | true =>
      simp only [cond_true]
      obtain ⟨n, hn, en, et, e1, e2⟩ := rv_nat h hx1 hx2
      show 0 ≤ ((x.toUInt32 >>> (y.toUInt32 &&& Int32.toUInt32 31)).toInt32).toInt ∧ ((x.toUInt32 >>> (y.toUInt32 &&& Int32.toUInt32 31)).toInt32).toInt ≤ a.2
      rw [en, pk_ushrN (n := n) (by omega) y _ rfl]
      generalize ((y.toUInt32 &&& Int32.toUInt32 31).toBitVec % 32).toNat = k
      have := Nat.div_le_self n (2 ^ k)
      generalize n / 2 ^ k = q at this ⊢
      rw [nI_toInt (by omega)]
      omega
  | 11 =>
    show rv_max a.1 b.1 ≤ (if x < y then y else x : Int32).toInt ∧ (if x < y then y else x : Int32).toInt ≤ rv_max a.2 b.2
    have hm := rv_max_or a.2 b.2
    rw [rv_max_le]
    by_cases hxy : x < y
    · rw [if_pos hxy]
      rw [Int32.lt_iff_toInt_lt] at hxy
      omega
    · rw [if_neg hxy]
      rw [Int32.lt_iff_toInt_lt] at hxy
      omega
  | n + 12 =>
    show rv_min a.1 b.1 ≤ (if y < x then y else x : Int32).toInt ∧ (if y < x then y else x : Int32).toInt ≤ rv_min a.2 b.2
    have hm := rv_min_or a.1 b.1
    rw [rv_min_le]
    by_cases hxy : y < x
    · rw [if_pos hxy]
      rw [Int32.lt_iff_toInt_lt] at hxy
      omega
    · rw [if_neg hxy]
      rw [Int32.lt_iff_toInt_lt] at hxy
      omega
theorem rv_alu_ok (op : Nat) {a b : Int × Int} {x y : Int32} (hx1 : a.1 ≤ x.toInt) (hx2 : x.toInt ≤ a.2) (hy1 : b.1 ≤ y.toInt) (hy2 : y.toInt ≤ b.2) : (rv_alu op a b).1 ≤ (rv_f op x y).toInt ∧ (rv_f op x y).toInt ≤ (rv_alu op a b).2 := by
  unfold rv_alu
  cases h : (rv_le a.2 a.1 && rv_le b.2 b.1) with
  | false => simp only [cond_false]; exact rv_gen_ok op hx1 hx2 hy1 hy2
  | true =>
    simp only [cond_true]
    rw [Bool.and_eq_true, rv_le_iff, rv_le_iff] at h
    have e1 : a.1 = x.toInt := by omega
    have e2 : b.1 = y.toInt := by omega
    rw [e1, e2, Int32.ofInt_toInt, Int32.ofInt_toInt]
    exact ⟨Int.le_refl _, Int.le_refl _⟩
