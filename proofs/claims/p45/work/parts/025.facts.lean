/-! facts over values and contents. A value: an int and a content. Tags: 1 less, 2 at most, 3 equal, 4 unequal, 5 read, 6 written, 10 + op an int operation; from 40 on: of the claim -/
abbrev rv_Z := Int × (Nat → Int)
abbrev rv_Fc := Nat × List Nat
/-- measures of contents, for loops that end by them -/
def rv_sum (f : Nat → Int) : Nat → Nat
  | 0 => 0
  | n + 1 => rv_sum f n + (f n).toNat
def rv_num (f : Nat → Int) : Nat → Nat
  | 0 => 0
  | n + 1 => 8 * rv_num f n + min (f n).toNat 7
def rv_μ (k : Nat) (f : Nat → Int) : Nat := match k with
  | 0 => 2097152 - rv_num f 7
  | _ => rv_sum f 256
/-- a step of postfix code: not (126), a letter, another sign -/
def rv_kd (v : Int) : Int := if v = 126 then 0 else if 97 ≤ v ∧ v ≤ 122 then 1 else -1
/-- how high the pile is behind n steps from a on -/
def rv_dep (f : Nat → Int) (a : Nat) : Nat → Int
  | 0 => 0
  | n + 1 => rv_dep f a n + rv_kd (f (a + n))
def rv_req (v d : Int) : Prop := (v = 126 → 1 ≤ d) ∧ (97 ≤ v ∧ v ≤ 122 → d ≤ 59) ∧ (¬ v = 126 → ¬ (97 ≤ v ∧ v ≤ 122) → 2 ≤ d)
def rv_WF (f : Nat → Int) (a b : Int) : Prop := 0 ≤ a ∧ ∀ n : Nat, a + (n : Int) < b → rv_req (f (a.toNat + n)) (rv_dep f a.toNat n)
def rv_bit (t k : Int) : Prop := (rv_f 5 (rv_f 9 (Int32.ofInt t) (Int32.ofInt k)) 1).toInt = 1
def rv_sgn (f : Nat → Int) (k s : Int) : Int := if k < s then (rv_f 5 (Int32.ofInt (f k.toNat)) 255).toInt else 0
/-- how many of the first n are so -/
def rv_cn (P : Int → Bool) (f : Nat → Int) : Nat → Int
  | 0 => 0
  | n + 1 => rv_cn P f n + (if P (f n) = true then 1 else 0)
def rv_isB (v : Int) : Bool := decide (1 ≤ v ∧ v ≤ 2) || decide (4 ≤ v ∧ v ≤ 6)
def rv_isW (v : Int) : Bool := decide (v = 3) || decide (v = 7)
def rv_isN (v : Int) : Bool := decide (v = 3)
def rv_opS (v : Int) : Prop := (37 ≤ v ∧ v ≤ 62) ∨ v = 124
def rv_en (w s : Nat → Int) (j : Nat) : Prop := (j = 0 → w j = 8) ∧ (1 ≤ j → 1 ≤ w j ∧ w j ≤ 7 ∧ (w j = 3 → s j = 126) ∧ (¬ w j = 3 → ¬ w j = 7 → rv_opS (s j)))
/-- the reader of a rule: code c from a on, d the next place, waiting signs wh with sg, pl of them -/
def rv_PI (r k q : Int) (c : Nat → Int) (a d : Int) (wh sg : Nat → Int) (pl wi U N t fo to : Int) : Prop :=
  0 ≤ pl ∧ 560 * r ≤ a ∧ a ≤ d ∧ rv_WF c a d ∧ rv_dep c a.toNat (d - a).toNat = rv_cn rv_isB wh pl.toNat + q ∧ (∀ j : Nat, (j : Int) < pl → rv_en wh sg j) ∧ wi = rv_cn rv_isW wh pl.toNat ∧ wi ≤ 7 ∧ rv_cn rv_isB wh pl.toNat + q ≤ U ∧ U ≤ 30 ∧ d + rv_cn rv_isB wh pl.toNat + rv_cn rv_isN wh pl.toNat ≤ 560 * r + 9 * N + (1 - q) * wi - q ∧ N ≤ 60 ∧ (rv_bit t k → 560 * r ≤ fo ∧ to ≤ a ∧ rv_WF c fo to)
def rv_PE (r k : Int) (c : Nat → Int) (a d N t fo to : Int) : Prop := a = d ∧ 560 * r ≤ d ∧ d ≤ 560 * r + 9 * N ∧ N ≤ 60 ∧ (rv_bit t k → 560 * r ≤ fo ∧ to ≤ a ∧ rv_WF c fo to)
def rv_RU (b : Int) (t : Int) (c : Nat → Int) (f0 t0 f1 t1 : Int) : Prop := (rv_bit t 0 → 560 * b ≤ f0 ∧ t0 ≤ 560 * b + 560 ∧ rv_WF c f0 t0) ∧ (rv_bit t 1 → 560 * b ≤ f1 ∧ t1 ≤ 560 * b + 560 ∧ rv_WF c f1 t1)
def rv_NC (r : Int) (t : Int) (c : Nat → Int) (f0 t0 f1 t1 d N : Int) : Prop := (rv_bit t 0 → 560 * r ≤ f0 ∧ t0 ≤ d ∧ rv_WF c f0 t0) ∧ (rv_bit t 1 → 560 * r ≤ f1 ∧ t1 ≤ d ∧ rv_WF c f1 t1) ∧ 560 * r ≤ d ∧ d ≤ 560 * r + 9 * N ∧ N ≤ 60
def rv_lt (r c b d : Int) : Prop := (0 ≤ b ∧ b ≤ 1000 ∧ c + b ≤ 100000 ∧ r = c + b ∧ d = c + b) ∨ (¬ (0 ≤ b ∧ b ≤ 1000 ∧ c + b ≤ 100000) ∧ r = -1 ∧ d = c)
def rv_U (t : Nat) (vs : List rv_Z) : Prop := match t, vs with
  | 40, [c, n] => ∀ p : Nat, (p : Int) < n.1 → 1 ≤ c.2 p
  | 41, [c, n] => ∀ p : Nat, (p : Int) < n.1 → 1 ≤ c.2 (7 + p)
  | 42, [t, c, f0, t0, f1, t1] => rv_RU 0 t.1 c.2 f0.1 t0.1 f1.1 t1.1
  | 43, [t, c, f0, t0, f1, t1] => rv_RU 1 t.1 c.2 f0.1 t0.1 f1.1 t1.1
  | 44, [a, u] => a.1 + u.1 ≤ 40
  | 45, [n, k, c, f] => 0 ≤ f.1 ∧ f.1 ≤ k.1 ∧ n.1 = rv_dep c.2 f.1.toNat (k.1 - f.1).toNat
  | 46, [t, k] => rv_bit t.1 k.1
  | 47, [c, f, t] => rv_WF c.2 f.1 t.1
  | 48, [x] => ¬ (97 ≤ x.1 ∧ x.1 ≤ 122)
  | 50, [d, c, k] => (∀ j : Nat, (j : Int) < k.1 → d.2 j = c.2 j) ∧ c.2 k.1.toNat < d.2 k.1.toNat ∧ 0 ≤ c.2 k.1.toNat ∧ c.2 k.1.toNat ≤ 6
  | 53, [t, c, f0, t0, f1, t1, d, N] => rv_NC 0 t.1 c.2 f0.1 t0.1 f1.1 t1.1 d.1 N.1
  | 54, [t, c, f0, t0, f1, t1, d, N] => rv_NC 1 t.1 c.2 f0.1 t0.1 f1.1 t1.1 d.1 N.1
  | 55, [k, a, e, s] => a.1 ≤ e.1 ∧ e.1 ≤ s.1 ∧ (¬ k.1 = 0 → a.1 < e.1)
  | 57, [s, n] => s.1 < 2 * n.1
  | 58, [r, c, b, d] => rv_lt r.1 c.1 b.1 d.1
  | 59, [r, k, c, s] => r.1 = rv_sgn c.2 k.1 s.1
  | 66, [k, c, s] => 37 ≤ rv_sgn c.2 k.1 s.1 ∧ rv_sgn c.2 k.1 s.1 ≤ 62
  | 67, [n, p] => n.1 = 123581014175598 → p.1 ≤ 6
  | 68, [n, p] => n.1 = 7561593 → p.1 ≤ 11
  | 69, [t, n, w] => t.1 = 3 → ¬ n.1 = w.1
  | 70, [c, a, d, wh, sg, pl, wi, U, N, t, fo, to] => rv_PI 0 1 1 c.2 a.1 d.1 wh.2 sg.2 pl.1 wi.1 U.1 N.1 t.1 fo.1 to.1
  | 71, [c, a, d, wh, sg, pl, wi, U, N, t, fo, to] => rv_PI 0 1 0 c.2 a.1 d.1 wh.2 sg.2 pl.1 wi.1 U.1 N.1 t.1 fo.1 to.1
  | 72, [c, a, d, wh, sg, pl, wi, U, N, t, fo, to] => rv_PI 0 0 1 c.2 a.1 d.1 wh.2 sg.2 pl.1 wi.1 U.1 N.1 t.1 fo.1 to.1
  | 73, [c, a, d, wh, sg, pl, wi, U, N, t, fo, to] => rv_PI 0 0 0 c.2 a.1 d.1 wh.2 sg.2 pl.1 wi.1 U.1 N.1 t.1 fo.1 to.1
  | 74, [c, a, d, wh, sg, pl, wi, U, N, t, fo, to] => rv_PI 1 1 1 c.2 a.1 d.1 wh.2 sg.2 pl.1 wi.1 U.1 N.1 t.1 fo.1 to.1
  | 75, [c, a, d, wh, sg, pl, wi, U, N, t, fo, to] => rv_PI 1 1 0 c.2 a.1 d.1 wh.2 sg.2 pl.1 wi.1 U.1 N.1 t.1 fo.1 to.1
  | 76, [c, a, d, wh, sg, pl, wi, U, N, t, fo, to] => rv_PI 1 0 1 c.2 a.1 d.1 wh.2 sg.2 pl.1 wi.1 U.1 N.1 t.1 fo.1 to.1
  | 77, [c, a, d, wh, sg, pl, wi, U, N, t, fo, to] => rv_PI 1 0 0 c.2 a.1 d.1 wh.2 sg.2 pl.1 wi.1 U.1 N.1 t.1 fo.1 to.1
  | 80, [c, a, d, N, t, fo, to] => rv_PE 0 1 c.2 a.1 d.1 N.1 t.1 fo.1 to.1
  | 81, [c, a, d, N, t, fo, to] => rv_PE 0 0 c.2 a.1 d.1 N.1 t.1 fo.1 to.1
  | 82, [c, a, d, N, t, fo, to] => rv_PE 1 1 c.2 a.1 d.1 N.1 t.1 fo.1 to.1
  | 83, [c, a, d, N, t, fo, to] => rv_PE 1 0 c.2 a.1 d.1 N.1 t.1 fo.1 to.1
  | 86, [c, n] => ∀ p : Nat, (p : Int) ≤ n.1 → 1 ≤ c.2 p
  | 87, [c, n] => ∀ p : Nat, (p : Int) ≤ n.1 → 1 ≤ c.2 (7 + p)
  | _, _ => True
def rv_Φ (t : Nat) (vs : List rv_Z) : Prop := match t, vs with
  | 1, [x, y] => x.1 < y.1
  | 2, [x, y] => x.1 ≤ y.1
  | 3, [x, y] => x.1 = y.1
  | 4, [x, y] => ¬ x.1 = y.1
  | 5, [r, i, c] => r.1 = c.2 i.1.toNat
  | 7, [r, x, y] => r.1 = 0 ↔ x.1 = y.1
  | 6, [d, c, i, v] => ∀ j, d.2 j = if j = i.1.toNat then v.1 else c.2 j
  | 10, [r, x, y] => r.1 = (rv_f 0 (Int32.ofInt x.1) (Int32.ofInt y.1)).toInt
  | 11, [r, x, y] => r.1 = (rv_f 1 (Int32.ofInt x.1) (Int32.ofInt y.1)).toInt
  | 12, [r, x, y] => r.1 = (rv_f 2 (Int32.ofInt x.1) (Int32.ofInt y.1)).toInt
  | 13, [r, x, y] => r.1 = (rv_f 3 (Int32.ofInt x.1) (Int32.ofInt y.1)).toInt
  | 14, [r, x, y] => r.1 = (rv_f 4 (Int32.ofInt x.1) (Int32.ofInt y.1)).toInt
  | 15, [r, x, y] => r.1 = (rv_f 5 (Int32.ofInt x.1) (Int32.ofInt y.1)).toInt
  | 16, [r, x, y] => r.1 = (rv_f 6 (Int32.ofInt x.1) (Int32.ofInt y.1)).toInt
  | 17, [r, x, y] => r.1 = (rv_f 7 (Int32.ofInt x.1) (Int32.ofInt y.1)).toInt
  | 18, [r, x, y] => r.1 = (rv_f 8 (Int32.ofInt x.1) (Int32.ofInt y.1)).toInt
  | 19, [r, x, y] => r.1 = (rv_f 9 (Int32.ofInt x.1) (Int32.ofInt y.1)).toInt
  | 20, [r, x, y] => r.1 = (rv_f 10 (Int32.ofInt x.1) (Int32.ofInt y.1)).toInt
  | 30, [d, c] => rv_μ 0 d.2 < rv_μ 0 c.2
  | 31, [d, c] => rv_μ 1 d.2 < rv_μ 1 c.2
  | t, vs => Nat.ble 40 t = true → rv_U t vs
/-- the fact of an int operation -/
def rv_tag (op : Nat) : Nat := bif Nat.ble op 10 then op + 10 else 0
theorem rv_tag_ok (op : Nat) {r x y : rv_Z} (h : r.1 = (rv_f op (Int32.ofInt x.1) (Int32.ofInt y.1)).toInt) : rv_Φ (rv_tag op) [r, x, y] := by
  match op, h with
  | 0, h => exact h
  | 1, h => exact h
  | 2, h => exact h
  | 3, h => exact h
  | 4, h => exact h
  | 5, h => exact h
  | 6, h => exact h
  | 7, h => exact h
  | 8, h => exact h
  | 9, h => exact h
  | 10, h => exact h
  | n + 11, _ => exact fun q => by cases q
