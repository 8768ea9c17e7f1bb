/-! the two worlds: the program (kinds 0, 1; then kind + 20 * j for mesh j), the reference (kinds 0 to 3) -/
abbrev Cx : Type := va_G × ClassId × ClassId × ClassId × Nat × (Nat → Nat → Nat)
def cn (κ : Cx) : Nat := κ.2.2.2.2.1
def cmj (cI cL cM : ClassId) (ad : Nat → Nat → Nat) (j k i : Nat) (h : Nat → Int32) : va_E := match k with
  | 0 => .inr (5, [.ref (ad 2 0), .ref (ad 1 0)])
  | 1 => .inl (cM, 2, .inr (.inr (.inr (.inr (fun x => if h x = 0 then none else some (ad (2 + 20 * (h x).toNatClampNeg) 0))))))
  | 2 => .inr (4, [.ref (ad (3 + 20 * j) 0), .ref (ad (4 + 20 * j) 0), .ref (ad (8 + 20 * j) 0), .int (h 3), .int (h 4), .int (h 5), .int (h 6), .int (h 7), .int (h 8), .int (h 9), .int (h 10)])
  | 3 => .inl (cL, 10, .inr (.inr (.inr (.inr (fun x => some (ad (13 + 20 * j) x))))))
  | 4 => .inr (2, [.ref (ad (5 + 20 * j) 0), .ref (ad (6 + 20 * j) 0), .ref (ad (7 + 20 * j) 0)])
  | 5 => .inl (cI, 2000, .inl h)
  | 6 => .inl (cI, 2000, .inl h)
  | 7 => .inl (cI, 2000, .inl h)
  | 8 => .inr (0, [.ref (ad (9 + 20 * j) 0), .ref (ad (10 + 20 * j) 0), .ref (ad (11 + 20 * j) 0), .ref (ad (12 + 20 * j) 0), .int (h 4)])
  | 9 => .inl (cI, 64, .inl h)
  | 10 => .inl (cI, 64, .inl h)
  | 11 => .inl (cI, 64, .inl h)
  | 12 => .inl (cI, 64, .inl h)
  | 13 => .inr (1, [.ref (ad (14 + 20 * j) i), .ref (ad (15 + 20 * j) i), .ref (ad (16 + 20 * j) i), .ref (ad (18 + 20 * j) i), .int (h 4), .int (h 5), .int (h 6), .int (h 7), .int (h 8), .int (h 9), .int (h 10), .int (h 11), .int (h 12), .int (h 13), .int (h 14)])
  | 14 => .inl (cI, 4, .inl h)
  | 15 => .inl (cI, 10, .inl h)
  | 16 => .inr (3, [.ref (ad (17 + 20 * j) i), .int (h 1)])
  | 17 => .inl (cI, 8, .inl h)
  | 18 => .inr (3, [.ref (ad (19 + 20 * j) i), .int (h 1)])
  | _ => .inl (cI, 3, .inl h)
def ccnt (n k : Nat) : Nat := if k < 20 * n then (if k % 20 < 2 then (if k < 20 then 1 else 0) else if k % 20 < 13 then 1 else 10) else 0
def nwC : List Cond := [.methodLinkNest RX4 67 yX5_isIn "MeshLamps", .methodLinkNest RX4 119 yX5_changed "MeshLamps", .methodLinkNest RX4 205 yX5_asNumber "MeshLamps"]
def cφ (κ : Cx) : Fx := (κ.1, ccnt κ.2.2.2.2.1, κ.2.2.2.2.2, fun k i h => cmj κ.2.1 κ.2.2.1 κ.2.2.2.1 κ.2.2.2.2.2 (k / 20) (k % 20) i h, [(κ.2.1, .int), (κ.2.2.1, .object "MeshLamps$Lamp"), (κ.2.2.2.1, .object "MeshLamps$Mesh")], nwC)
theorem cC (κ : Cx) (k : Nat) : fC (cφ κ) k = ccnt (cn κ) k := rfl
theorem cb1 {n k : Nat} (h : k < 20 * n) (h1 : k < 20 ∨ 2 ≤ k % 20) (h2 : k % 20 < 13) : 0 < ccnt n k := by
  unfold ccnt
  rw [if_pos h]
  by_cases h3 : k % 20 < 2
  · rw [if_pos h3, if_pos (by omega)]
    exact Nat.one_pos
  · rw [if_neg h3, if_pos h2]
    exact Nat.one_pos
theorem cb10 {n k i : Nat} (h : k < 20 * n) (h2 : 13 ≤ k % 20) (hi : i < 10) : i < ccnt n k := by
  unfold ccnt
  rw [if_pos h, if_neg (by omega), if_neg (by omega)]
  exact hi
theorem b0 {κ : Cx} (hn : 1 ≤ cn κ) : 0 < fC (cφ κ) 0 := cb1 (n := cn κ) (by omega) (by decide) (by decide)
theorem b1 {κ : Cx} (hn : 1 ≤ cn κ) : 0 < fC (cφ κ) 1 := cb1 (n := cn κ) (by omega) (by decide) (by decide)
theorem b2 {κ : Cx} (hn : 1 ≤ cn κ) : 0 < fC (cφ κ) 2 := cb1 (n := cn κ) (by omega) (by decide) (by decide)
theorem b3 {κ : Cx} (hn : 1 ≤ cn κ) : 0 < fC (cφ κ) 3 := cb1 (n := cn κ) (by omega) (by decide) (by decide)
theorem b4 {κ : Cx} (hn : 1 ≤ cn κ) : 0 < fC (cφ κ) 4 := cb1 (n := cn κ) (by omega) (by decide) (by decide)
theorem b5 {κ : Cx} (hn : 1 ≤ cn κ) : 0 < fC (cφ κ) 5 := cb1 (n := cn κ) (by omega) (by decide) (by decide)
theorem b6 {κ : Cx} (hn : 1 ≤ cn κ) : 0 < fC (cφ κ) 6 := cb1 (n := cn κ) (by omega) (by decide) (by decide)
theorem b7 {κ : Cx} (hn : 1 ≤ cn κ) : 0 < fC (cφ κ) 7 := cb1 (n := cn κ) (by omega) (by decide) (by decide)
theorem b8 {κ : Cx} (hn : 1 ≤ cn κ) : 0 < fC (cφ κ) 8 := cb1 (n := cn κ) (by omega) (by decide) (by decide)
theorem b9 {κ : Cx} (hn : 1 ≤ cn κ) : 0 < fC (cφ κ) 9 := cb1 (n := cn κ) (by omega) (by decide) (by decide)
theorem b10 {κ : Cx} (hn : 1 ≤ cn κ) : 0 < fC (cφ κ) 10 := cb1 (n := cn κ) (by omega) (by decide) (by decide)
theorem b11 {κ : Cx} (hn : 1 ≤ cn κ) : 0 < fC (cφ κ) 11 := cb1 (n := cn κ) (by omega) (by decide) (by decide)
theorem b12 {κ : Cx} (hn : 1 ≤ cn κ) : 0 < fC (cφ κ) 12 := cb1 (n := cn κ) (by omega) (by decide) (by decide)
theorem b13 {κ : Cx} (hn : 1 ≤ cn κ) {i : Nat} (hi : i < 10) : i < fC (cφ κ) 13 := cb10 (n := cn κ) (by omega) (by decide) hi
theorem b14 {κ : Cx} (hn : 1 ≤ cn κ) {i : Nat} (hi : i < 10) : i < fC (cφ κ) 14 := cb10 (n := cn κ) (by omega) (by decide) hi
theorem b15 {κ : Cx} (hn : 1 ≤ cn κ) {i : Nat} (hi : i < 10) : i < fC (cφ κ) 15 := cb10 (n := cn κ) (by omega) (by decide) hi
theorem b16 {κ : Cx} (hn : 1 ≤ cn κ) {i : Nat} (hi : i < 10) : i < fC (cφ κ) 16 := cb10 (n := cn κ) (by omega) (by decide) hi
theorem b17 {κ : Cx} (hn : 1 ≤ cn κ) {i : Nat} (hi : i < 10) : i < fC (cφ κ) 17 := cb10 (n := cn κ) (by omega) (by decide) hi
theorem b18 {κ : Cx} (hn : 1 ≤ cn κ) {i : Nat} (hi : i < 10) : i < fC (cφ κ) 18 := cb10 (n := cn κ) (by omega) (by decide) hi
theorem b19 {κ : Cx} (hn : 1 ≤ cn κ) {i : Nat} (hi : i < 10) : i < fC (cφ κ) 19 := cb10 (n := cn κ) (by omega) (by decide) hi
theorem b2j {κ : Cx} {j : Nat} (hj : j < cn κ) : 0 < fC (cφ κ) (2 + 20 * j) := cb1 (n := cn κ) (by omega) (by omega) (by omega)
theorem b3j {κ : Cx} {j : Nat} (hj : j < cn κ) : 0 < fC (cφ κ) (3 + 20 * j) := cb1 (n := cn κ) (by omega) (by omega) (by omega)
theorem b4j {κ : Cx} {j : Nat} (hj : j < cn κ) : 0 < fC (cφ κ) (4 + 20 * j) := cb1 (n := cn κ) (by omega) (by omega) (by omega)
theorem b5j {κ : Cx} {j : Nat} (hj : j < cn κ) : 0 < fC (cφ κ) (5 + 20 * j) := cb1 (n := cn κ) (by omega) (by omega) (by omega)
theorem b6j {κ : Cx} {j : Nat} (hj : j < cn κ) : 0 < fC (cφ κ) (6 + 20 * j) := cb1 (n := cn κ) (by omega) (by omega) (by omega)
theorem b7j {κ : Cx} {j : Nat} (hj : j < cn κ) : 0 < fC (cφ κ) (7 + 20 * j) := cb1 (n := cn κ) (by omega) (by omega) (by omega)
theorem b8j {κ : Cx} {j : Nat} (hj : j < cn κ) : 0 < fC (cφ κ) (8 + 20 * j) := cb1 (n := cn κ) (by omega) (by omega) (by omega)
theorem b9j {κ : Cx} {j : Nat} (hj : j < cn κ) : 0 < fC (cφ κ) (9 + 20 * j) := cb1 (n := cn κ) (by omega) (by omega) (by omega)
theorem b10j {κ : Cx} {j : Nat} (hj : j < cn κ) : 0 < fC (cφ κ) (10 + 20 * j) := cb1 (n := cn κ) (by omega) (by omega) (by omega)
theorem b11j {κ : Cx} {j : Nat} (hj : j < cn κ) : 0 < fC (cφ κ) (11 + 20 * j) := cb1 (n := cn κ) (by omega) (by omega) (by omega)
theorem b12j {κ : Cx} {j : Nat} (hj : j < cn κ) : 0 < fC (cφ κ) (12 + 20 * j) := cb1 (n := cn κ) (by omega) (by omega) (by omega)
theorem b13j {κ : Cx} {j : Nat} (hj : j < cn κ) {i : Nat} (hi : i < 10) : i < fC (cφ κ) (13 + 20 * j) := cb10 (n := cn κ) (by omega) (by omega) hi
theorem b14j {κ : Cx} {j : Nat} (hj : j < cn κ) {i : Nat} (hi : i < 10) : i < fC (cφ κ) (14 + 20 * j) := cb10 (n := cn κ) (by omega) (by omega) hi
theorem b15j {κ : Cx} {j : Nat} (hj : j < cn κ) {i : Nat} (hi : i < 10) : i < fC (cφ κ) (15 + 20 * j) := cb10 (n := cn κ) (by omega) (by omega) hi
theorem b16j {κ : Cx} {j : Nat} (hj : j < cn κ) {i : Nat} (hi : i < 10) : i < fC (cφ κ) (16 + 20 * j) := cb10 (n := cn κ) (by omega) (by omega) hi
theorem b17j {κ : Cx} {j : Nat} (hj : j < cn κ) {i : Nat} (hi : i < 10) : i < fC (cφ κ) (17 + 20 * j) := cb10 (n := cn κ) (by omega) (by omega) hi
theorem b18j {κ : Cx} {j : Nat} (hj : j < cn κ) {i : Nat} (hi : i < 10) : i < fC (cφ κ) (18 + 20 * j) := cb10 (n := cn κ) (by omega) (by omega) hi
theorem b19j {κ : Cx} {j : Nat} (hj : j < cn κ) {i : Nat} (hi : i < 10) : i < fC (cφ κ) (19 + 20 * j) := cb10 (n := cn κ) (by omega) (by omega) hi
theorem cm0 (κ : Cx) (i : Nat) (h : Nat → Int32) : fm (cφ κ) 0 i h = .inr (5, [.ref (fa (cφ κ) 2 0), .ref (fa (cφ κ) 1 0)]) := rfl
theorem cm1 (κ : Cx) (i : Nat) (h : Nat → Int32) : fm (cφ κ) 1 i h = .inl (κ.2.2.2.1, 2, .inr (.inr (.inr (.inr (fun x => if h x = 0 then none else some (fa (cφ κ) (2 + 20 * (h x).toNatClampNeg) 0)))))) := rfl
theorem cm2 (κ : Cx) (i : Nat) (h : Nat → Int32) : fm (cφ κ) 2 i h = .inr (4, [.ref (fa (cφ κ) 3 0), .ref (fa (cφ κ) 4 0), .ref (fa (cφ κ) 8 0), .int (h 3), .int (h 4), .int (h 5), .int (h 6), .int (h 7), .int (h 8), .int (h 9), .int (h 10)]) := rfl
theorem cm3 (κ : Cx) (i : Nat) (h : Nat → Int32) : fm (cφ κ) 3 i h = .inl (κ.2.2.1, 10, .inr (.inr (.inr (.inr (fun x => some (fa (cφ κ) 13 x)))))) := rfl
theorem cm4 (κ : Cx) (i : Nat) (h : Nat → Int32) : fm (cφ κ) 4 i h = .inr (2, [.ref (fa (cφ κ) 5 0), .ref (fa (cφ κ) 6 0), .ref (fa (cφ κ) 7 0)]) := rfl
theorem cm5 (κ : Cx) (i : Nat) (h : Nat → Int32) : fm (cφ κ) 5 i h = .inl (κ.2.1, 2000, .inl h) := rfl
theorem cm6 (κ : Cx) (i : Nat) (h : Nat → Int32) : fm (cφ κ) 6 i h = .inl (κ.2.1, 2000, .inl h) := rfl
theorem cm7 (κ : Cx) (i : Nat) (h : Nat → Int32) : fm (cφ κ) 7 i h = .inl (κ.2.1, 2000, .inl h) := rfl
theorem cm8 (κ : Cx) (i : Nat) (h : Nat → Int32) : fm (cφ κ) 8 i h = .inr (0, [.ref (fa (cφ κ) 9 0), .ref (fa (cφ κ) 10 0), .ref (fa (cφ κ) 11 0), .ref (fa (cφ κ) 12 0), .int (h 4)]) := rfl
theorem cm9 (κ : Cx) (i : Nat) (h : Nat → Int32) : fm (cφ κ) 9 i h = .inl (κ.2.1, 64, .inl h) := rfl
theorem cm10 (κ : Cx) (i : Nat) (h : Nat → Int32) : fm (cφ κ) 10 i h = .inl (κ.2.1, 64, .inl h) := rfl
theorem cm11 (κ : Cx) (i : Nat) (h : Nat → Int32) : fm (cφ κ) 11 i h = .inl (κ.2.1, 64, .inl h) := rfl
theorem cm12 (κ : Cx) (i : Nat) (h : Nat → Int32) : fm (cφ κ) 12 i h = .inl (κ.2.1, 64, .inl h) := rfl
theorem cm13 (κ : Cx) (i : Nat) (h : Nat → Int32) : fm (cφ κ) 13 i h = .inr (1, [.ref (fa (cφ κ) 14 i), .ref (fa (cφ κ) 15 i), .ref (fa (cφ κ) 16 i), .ref (fa (cφ κ) 18 i), .int (h 4), .int (h 5), .int (h 6), .int (h 7), .int (h 8), .int (h 9), .int (h 10), .int (h 11), .int (h 12), .int (h 13), .int (h 14)]) := rfl
theorem cm14 (κ : Cx) (i : Nat) (h : Nat → Int32) : fm (cφ κ) 14 i h = .inl (κ.2.1, 4, .inl h) := rfl
theorem cm15 (κ : Cx) (i : Nat) (h : Nat → Int32) : fm (cφ κ) 15 i h = .inl (κ.2.1, 10, .inl h) := rfl
theorem cm16 (κ : Cx) (i : Nat) (h : Nat → Int32) : fm (cφ κ) 16 i h = .inr (3, [.ref (fa (cφ κ) 17 i), .int (h 1)]) := rfl
theorem cm17 (κ : Cx) (i : Nat) (h : Nat → Int32) : fm (cφ κ) 17 i h = .inl (κ.2.1, 8, .inl h) := rfl
theorem cm18 (κ : Cx) (i : Nat) (h : Nat → Int32) : fm (cφ κ) 18 i h = .inr (3, [.ref (fa (cφ κ) 19 i), .int (h 1)]) := rfl
theorem cm19 (κ : Cx) (i : Nat) (h : Nat → Int32) : fm (cφ κ) 19 i h = .inl (κ.2.1, 3, .inl h) := rfl
theorem cm2j (κ : Cx) (j i : Nat) (h : Nat → Int32) : fm (cφ κ) (2 + 20 * j) i h = .inr (4, [.ref (fa (cφ κ) (3 + 20 * j) 0), .ref (fa (cφ κ) (4 + 20 * j) 0), .ref (fa (cφ κ) (8 + 20 * j) 0), .int (h 3), .int (h 4), .int (h 5), .int (h 6), .int (h 7), .int (h 8), .int (h 9), .int (h 10)]) := by
  show cmj κ.2.1 κ.2.2.1 κ.2.2.2.1 κ.2.2.2.2.2 ((2 + 20 * j) / 20) ((2 + 20 * j) % 20) i h = _
  rw [show (2 + 20 * j) / 20 = j by omega, show (2 + 20 * j) % 20 = 2 by omega]
  rfl
theorem cm3j (κ : Cx) (j i : Nat) (h : Nat → Int32) : fm (cφ κ) (3 + 20 * j) i h = .inl (κ.2.2.1, 10, .inr (.inr (.inr (.inr (fun x => some (fa (cφ κ) (13 + 20 * j) x)))))) := by
  show cmj κ.2.1 κ.2.2.1 κ.2.2.2.1 κ.2.2.2.2.2 ((3 + 20 * j) / 20) ((3 + 20 * j) % 20) i h = _
  rw [show (3 + 20 * j) / 20 = j by omega, show (3 + 20 * j) % 20 = 3 by omega]
  rfl
theorem cm4j (κ : Cx) (j i : Nat) (h : Nat → Int32) : fm (cφ κ) (4 + 20 * j) i h = .inr (2, [.ref (fa (cφ κ) (5 + 20 * j) 0), .ref (fa (cφ κ) (6 + 20 * j) 0), .ref (fa (cφ κ) (7 + 20 * j) 0)]) := by
  show cmj κ.2.1 κ.2.2.1 κ.2.2.2.1 κ.2.2.2.2.2 ((4 + 20 * j) / 20) ((4 + 20 * j) % 20) i h = _
  rw [show (4 + 20 * j) / 20 = j by omega, show (4 + 20 * j) % 20 = 4 by omega]
  rfl
theorem cm5j (κ : Cx) (j i : Nat) (h : Nat → Int32) : fm (cφ κ) (5 + 20 * j) i h = .inl (κ.2.1, 2000, .inl h) := by
  show cmj κ.2.1 κ.2.2.1 κ.2.2.2.1 κ.2.2.2.2.2 ((5 + 20 * j) / 20) ((5 + 20 * j) % 20) i h = _
  rw [show (5 + 20 * j) / 20 = j by omega, show (5 + 20 * j) % 20 = 5 by omega]
  rfl
theorem cm6j (κ : Cx) (j i : Nat) (h : Nat → Int32) : fm (cφ κ) (6 + 20 * j) i h = .inl (κ.2.1, 2000, .inl h) := by
  show cmj κ.2.1 κ.2.2.1 κ.2.2.2.1 κ.2.2.2.2.2 ((6 + 20 * j) / 20) ((6 + 20 * j) % 20) i h = _
  rw [show (6 + 20 * j) / 20 = j by omega, show (6 + 20 * j) % 20 = 6 by omega]
  rfl
theorem cm7j (κ : Cx) (j i : Nat) (h : Nat → Int32) : fm (cφ κ) (7 + 20 * j) i h = .inl (κ.2.1, 2000, .inl h) := by
  show cmj κ.2.1 κ.2.2.1 κ.2.2.2.1 κ.2.2.2.2.2 ((7 + 20 * j) / 20) ((7 + 20 * j) % 20) i h = _
  rw [show (7 + 20 * j) / 20 = j by omega, show (7 + 20 * j) % 20 = 7 by omega]
  rfl
theorem cm8j (κ : Cx) (j i : Nat) (h : Nat → Int32) : fm (cφ κ) (8 + 20 * j) i h = .inr (0, [.ref (fa (cφ κ) (9 + 20 * j) 0), .ref (fa (cφ κ) (10 + 20 * j) 0), .ref (fa (cφ κ) (11 + 20 * j) 0), .ref (fa (cφ κ) (12 + 20 * j) 0), .int (h 4)]) := by
  show cmj κ.2.1 κ.2.2.1 κ.2.2.2.1 κ.2.2.2.2.2 ((8 + 20 * j) / 20) ((8 + 20 * j) % 20) i h = _
  rw [show (8 + 20 * j) / 20 = j by omega, show (8 + 20 * j) % 20 = 8 by omega]
  rfl
theorem cm9j (κ : Cx) (j i : Nat) (h : Nat → Int32) : fm (cφ κ) (9 + 20 * j) i h = .inl (κ.2.1, 64, .inl h) := by
  show cmj κ.2.1 κ.2.2.1 κ.2.2.2.1 κ.2.2.2.2.2 ((9 + 20 * j) / 20) ((9 + 20 * j) % 20) i h = _
  rw [show (9 + 20 * j) / 20 = j by omega, show (9 + 20 * j) % 20 = 9 by omega]
  rfl
theorem cm10j (κ : Cx) (j i : Nat) (h : Nat → Int32) : fm (cφ κ) (10 + 20 * j) i h = .inl (κ.2.1, 64, .inl h) := by
  show cmj κ.2.1 κ.2.2.1 κ.2.2.2.1 κ.2.2.2.2.2 ((10 + 20 * j) / 20) ((10 + 20 * j) % 20) i h = _
  rw [show (10 + 20 * j) / 20 = j by omega, show (10 + 20 * j) % 20 = 10 by omega]
  rfl
theorem cm11j (κ : Cx) (j i : Nat) (h : Nat → Int32) : fm (cφ κ) (11 + 20 * j) i h = .inl (κ.2.1, 64, .inl h) := by
  show cmj κ.2.1 κ.2.2.1 κ.2.2.2.1 κ.2.2.2.2.2 ((11 + 20 * j) / 20) ((11 + 20 * j) % 20) i h = _
  rw [show (11 + 20 * j) / 20 = j by omega, show (11 + 20 * j) % 20 = 11 by omega]
  rfl
theorem cm12j (κ : Cx) (j i : Nat) (h : Nat → Int32) : fm (cφ κ) (12 + 20 * j) i h = .inl (κ.2.1, 64, .inl h) := by
  show cmj κ.2.1 κ.2.2.1 κ.2.2.2.1 κ.2.2.2.2.2 ((12 + 20 * j) / 20) ((12 + 20 * j) % 20) i h = _
  rw [show (12 + 20 * j) / 20 = j by omega, show (12 + 20 * j) % 20 = 12 by omega]
  rfl
theorem cm13j (κ : Cx) (j i : Nat) (h : Nat → Int32) : fm (cφ κ) (13 + 20 * j) i h = .inr (1, [.ref (fa (cφ κ) (14 + 20 * j) i), .ref (fa (cφ κ) (15 + 20 * j) i), .ref (fa (cφ κ) (16 + 20 * j) i), .ref (fa (cφ κ) (18 + 20 * j) i), .int (h 4), .int (h 5), .int (h 6), .int (h 7), .int (h 8), .int (h 9), .int (h 10), .int (h 11), .int (h 12), .int (h 13), .int (h 14)]) := by
  show cmj κ.2.1 κ.2.2.1 κ.2.2.2.1 κ.2.2.2.2.2 ((13 + 20 * j) / 20) ((13 + 20 * j) % 20) i h = _
  rw [show (13 + 20 * j) / 20 = j by omega, show (13 + 20 * j) % 20 = 13 by omega]
  rfl
theorem cm14j (κ : Cx) (j i : Nat) (h : Nat → Int32) : fm (cφ κ) (14 + 20 * j) i h = .inl (κ.2.1, 4, .inl h) := by
  show cmj κ.2.1 κ.2.2.1 κ.2.2.2.1 κ.2.2.2.2.2 ((14 + 20 * j) / 20) ((14 + 20 * j) % 20) i h = _
  rw [show (14 + 20 * j) / 20 = j by omega, show (14 + 20 * j) % 20 = 14 by omega]
  rfl
theorem cm15j (κ : Cx) (j i : Nat) (h : Nat → Int32) : fm (cφ κ) (15 + 20 * j) i h = .inl (κ.2.1, 10, .inl h) := by
  show cmj κ.2.1 κ.2.2.1 κ.2.2.2.1 κ.2.2.2.2.2 ((15 + 20 * j) / 20) ((15 + 20 * j) % 20) i h = _
  rw [show (15 + 20 * j) / 20 = j by omega, show (15 + 20 * j) % 20 = 15 by omega]
  rfl
theorem cm16j (κ : Cx) (j i : Nat) (h : Nat → Int32) : fm (cφ κ) (16 + 20 * j) i h = .inr (3, [.ref (fa (cφ κ) (17 + 20 * j) i), .int (h 1)]) := by
  show cmj κ.2.1 κ.2.2.1 κ.2.2.2.1 κ.2.2.2.2.2 ((16 + 20 * j) / 20) ((16 + 20 * j) % 20) i h = _
  rw [show (16 + 20 * j) / 20 = j by omega, show (16 + 20 * j) % 20 = 16 by omega]
  rfl
theorem cm17j (κ : Cx) (j i : Nat) (h : Nat → Int32) : fm (cφ κ) (17 + 20 * j) i h = .inl (κ.2.1, 8, .inl h) := by
  show cmj κ.2.1 κ.2.2.1 κ.2.2.2.1 κ.2.2.2.2.2 ((17 + 20 * j) / 20) ((17 + 20 * j) % 20) i h = _
  rw [show (17 + 20 * j) / 20 = j by omega, show (17 + 20 * j) % 20 = 17 by omega]
  rfl
theorem cm18j (κ : Cx) (j i : Nat) (h : Nat → Int32) : fm (cφ κ) (18 + 20 * j) i h = .inr (3, [.ref (fa (cφ κ) (19 + 20 * j) i), .int (h 1)]) := by
  show cmj κ.2.1 κ.2.2.1 κ.2.2.2.1 κ.2.2.2.2.2 ((18 + 20 * j) / 20) ((18 + 20 * j) % 20) i h = _
  rw [show (18 + 20 * j) / 20 = j by omega, show (18 + 20 * j) % 20 = 18 by omega]
  rfl
theorem cm19j (κ : Cx) (j i : Nat) (h : Nat → Int32) : fm (cφ κ) (19 + 20 * j) i h = .inl (κ.2.1, 3, .inl h) := by
  show cmj κ.2.1 κ.2.2.1 κ.2.2.2.1 κ.2.2.2.2.2 ((19 + 20 * j) / 20) ((19 + 20 * j) % 20) i h = _
  rw [show (19 + 20 * j) / 20 = j by omega, show (19 + 20 * j) % 20 = 19 by omega]
  rfl
abbrev Mx : Type := va_G × ClassId × ClassId × (Nat → Nat → Nat)
def mmk (cI cZ : ClassId) (ad : Nat → Nat → Nat) (k : Nat) (h : Nat → Int32) : va_E := match k with
  | 0 => .inr (6, [.ref (ad 1 0), .ref (ad 2 0), .ref (ad 3 0)])
  | 1 => .inl (cI, 6819, .inl h)
  | 2 => .inl (cI, 13638, .inl h)
  | _ => .inl (cZ, 2, .inl h)
def mφ (μ : Mx) : Fx := (μ.1, fun k => if k < 4 then 1 else 0, μ.2.2.2, fun k _ h => mmk μ.2.1 μ.2.2.1 μ.2.2.2 k h, [(μ.2.1, .int), (μ.2.2.1, .boolean)], [])
theorem e0 (μ : Mx) : 0 < fC (mφ μ) 0 := Nat.one_pos
theorem e1 (μ : Mx) : 0 < fC (mφ μ) 1 := Nat.one_pos
theorem e2 (μ : Mx) : 0 < fC (mφ μ) 2 := Nat.one_pos
theorem e3 (μ : Mx) : 0 < fC (mφ μ) 3 := Nat.one_pos
theorem mm0 (μ : Mx) (i : Nat) (h : Nat → Int32) : fm (mφ μ) 0 i h = .inr (6, [.ref (fa (mφ μ) 1 0), .ref (fa (mφ μ) 2 0), .ref (fa (mφ μ) 3 0)]) := rfl
theorem mm1 (μ : Mx) (i : Nat) (h : Nat → Int32) : fm (mφ μ) 1 i h = .inl (μ.2.1, 6819, .inl h) := rfl
theorem mm2 (μ : Mx) (i : Nat) (h : Nat → Int32) : fm (mφ μ) 2 i h = .inl (μ.2.1, 13638, .inl h) := rfl
theorem mm3 (μ : Mx) (i : Nat) (h : Nat → Int32) : fm (mφ μ) 3 i h = .inl (μ.2.2.1, 2, .inl h) := rfl
/-- a number that the decompiled method goes on with under a name -/
def ltm {α β : Type} (x : α) (f : α → Option β) : Option β := f x
theorem ltm_e {α β : Type} {x : α} {f : α → Option β} {u : β} (h : ltm x f = some u) : ∃ y, x = y ∧ f y = some u := ⟨x, rfl, h⟩
