/-! facts over values and contents. A value: an int and a content. Tags: 1 less, 2 at most, 3 equal, 4 unequal, 5 read, 6 written, 10 + op an int operation; from 40 on: of the claim -/
abbrev rv_Z := Int × (Nat → Int)
abbrev rv_Fc := Nat × List Nat
/-- measures of contents, for loops that end by them -/
def rv_sum (f : Nat → Int) : Nat → Nat
  | 0 => 0
  | n + 1 => rv_sum f n + (f n).toNat
def rv_num (f : Nat → Int) : Nat → Nat
  | 0 => 0
  | n + 1 => 8 * rv_num f n + (f n).toNat
def rv_μ (k : Nat) (f : Nat → Int) : Nat := match k with
  | 0 => 2097152 - rv_num f 7
  | _ => rv_sum f 256
def rv_U (t : Nat) (vs : List rv_Z) : Prop := True
def rv_Φ (t : Nat) (vs : List rv_Z) : Prop := match t, vs with
  | 1, [x, y] => x.1 < y.1
  | 2, [x, y] => x.1 ≤ y.1
  | 3, [x, y] => x.1 = y.1
  | 4, [x, y] => ¬ x.1 = y.1
  | 5, [r, i, c] => r.1 = c.2 i.1.toNat
  | 7, [r, x, y] => r.1 = 0 ↔ x.1 = y.1
  | 6, [d, c, i, v] => ∀ j, d.2 j = if j = i.1.toNat then v.1 else c.2 j
  | 10, [r, x, y] => r.1 = (rv_f 0 (Int32.ofInt x.1) (Int32.ofInt y.1)).toInt
  | 11, [r, x, y] => r.1 = (rv_f 1 (Int32.ofInt x.1) (Int32.ofInt y.1)).toInt
  | 12, [r, x, y] => r.1 = (rv_f 2 (Int32.ofInt x.1) (Int32.ofInt y.1)).toInt
  | 13, [r, x, y] => r.1 = (rv_f 3 (Int32.ofInt x.1) (Int32.ofInt y.1)).toInt
  | 14, [r, x, y] => r.1 = (rv_f 4 (Int32.ofInt x.1) (Int32.ofInt y.1)).toInt
  | 15, [r, x, y] => r.1 = (rv_f 5 (Int32.ofInt x.1) (Int32.ofInt y.1)).toInt
  | 16, [r, x, y] => r.1 = (rv_f 6 (Int32.ofInt x.1) (Int32.ofInt y.1)).toInt
  | 17, [r, x, y] => r.1 = (rv_f 7 (Int32.ofInt x.1) (Int32.ofInt y.1)).toInt
  | 18, [r, x, y] => r.1 = (rv_f 8 (Int32.ofInt x.1) (Int32.ofInt y.1)).toInt
  | 19, [r, x, y] => r.1 = (rv_f 9 (Int32.ofInt x.1) (Int32.ofInt y.1)).toInt
  | 20, [r, x, y] => r.1 = (rv_f 10 (Int32.ofInt x.1) (Int32.ofInt y.1)).toInt
  | 30, [d, c] => rv_μ 0 d.2 < rv_μ 0 c.2
  | 31, [d, c] => rv_μ 1 d.2 < rv_μ 1 c.2
  | t, vs => Nat.ble 40 t = true → rv_U t vs
/-- the fact of an int operation -/
def rv_tag (op : Nat) : Nat := bif Nat.ble op 10 then op + 10 else 0
theorem rv_tag_ok (op : Nat) {r x y : rv_Z} (h : r.1 = (rv_f op (Int32.ofInt x.1) (Int32.ofInt y.1)).toInt) : rv_Φ (rv_tag op) [r, x, y] := by
  match op, h with
  | 0, h => exact h
  | 1, h => exact h
  | 2, h => exact h
  | 3, h => exact h
  | 4, h => exact h
  | 5, h => exact h
  | 6, h => exact h
  | 7, h => exact h
  | 8, h => exact h
  | 9, h => exact h
  | 10, h => exact h
  | n + 11, _ => exact fun q => by cases q
