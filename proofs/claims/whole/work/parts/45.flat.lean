
/-! a mesh that was made, in the flat world -/
theorem arr_cg {cA : ClassId} {n : Nat} {F G : Nat → Value} (h : ∀ j : Nat, j < n → F j = G j) : arrV cA n F = arrV cA n G := by
  unfold arrV
  congr 1
  exact congrArg Array.ofFn (funext fun j => h j.val j.isLt)
theorem at_q {D : va_G} {a : Nat} {cA : ClassId} {n : Nat} {f f' : Nat → Option Nat} {H : Heap} (h : va_at D vwCl (a, .inl (cA, n, .inr (.inr (.inr (.inr f))))) H) (e : ∀ j : Nat, j < n → f j = f' j) : va_at D vwCl (a, .inl (cA, n, .inr (.inr (.inr (.inr f'))))) H := by
  have h : H[a]? = some (arrV cA n (fun j => va_rf (f j))) := h
  show H[a]? = some (arrV cA n (fun j => va_rf (f' j)))
  rw [h, arr_cg (F := fun j => va_rf (f j)) (G := fun j => va_rf (f' j)) (fun j hj => by rw [e j hj])]
/-- the numbers of a mesh as it is made -/
def gI : Mem := fun k _ => match k with
  | 2 => (fun x => if x = 6 then 1023 else 0)
  | 13 => (fun x => if x = 7 then -6 else 0)
  | 14 => fs0
  | _ => (fun _ => 0)
theorem lmL_len {cI : ClassId} {am : Nat → Nat → Nat} : ∀ n : Nat, (lmL cI am n).length = 7 * n
  | 0 => rfl
  | n + 1 => by
    rw [lmL, List.length_append, lmL_len n]
    show 7 * n + 7 = _
    omega
theorem lm_get {cI : ClassId} {am : Nat → Nat → Nat} {r : Nat} (hr : r < 7) : ∀ n i : Nat, i < n → (lmL cI am n)[7 * i + r]? = (lampL cI (am 13 i) (am 14 i) (am 15 i) (am 16 i) (am 17 i) (am 18 i) (am 19 i))[r]?
  | n + 1, i, hi => by
    rw [lmL]
    by_cases h : i < n
    · rw [List.getElem?_append_left (by rw [lmL_len]; omega)]
      exact lm_get hr n i h
    · obtain rfl : i = n := by omega
      rw [List.getElem?_append_right (by rw [lmL_len]; omega), lmL_len, show 7 * i + r - 7 * i = r by omega]
def mpos (k i : Nat) : Nat := if k < 13 then k - 2 else 11 + (7 * i + (k - 13))
theorem ml_get {cI cL : ClassId} {am : Nat → Nat → Nat} {f : Nat → Option Nat} {k i : Nat} (h1 : 13 ≤ k) (h2 : k < 20) (hi : i < 10) : (mb cI cL am f ++ lmL cI am 10)[mpos k i]? = (lampL cI (am 13 i) (am 14 i) (am 15 i) (am 16 i) (am 17 i) (am 18 i) (am 19 i))[k - 13]? := by
  unfold mpos
  rw [if_neg (by omega), List.getElem?_append_right (by show 11 ≤ _; omega)]
  show (lmL cI am 10)[11 + (7 * i + (k - 13)) - 11]? = _
  rw [show 11 + (7 * i + (k - 13)) - 11 = 7 * i + (k - 13) by omega]
  exact lm_get (by omega) 10 i hi
theorem mesh_at {D : va_G} {cI cL cM : ClassId} {am ad : Nat → Nat → Nat} {j : Nat} {H : Heap} (hP : va_P D vwCl (mb cI cL am (laf am 10) ++ lmL cI am 10) H) (had : ∀ k i : Nat, 2 ≤ k → k < 20 → ad (k + 20 * j) i = am k i) {k i : Nat} (h1 : 2 ≤ k) (h2 : k < 20) (hi : i < if k < 13 then 1 else 10) : va_at D vwCl (ad (k + 20 * j) i, cmj cI cL cM ad j k i (gI k i)) H := by
  have hk : k = 2 ∨ k = 3 ∨ k = 4 ∨ k = 5 ∨ k = 6 ∨ k = 7 ∨ k = 8 ∨ k = 9 ∨ k = 10 ∨ k = 11 ∨ k = 12 ∨ k = 13 ∨ k = 14 ∨ k = 15 ∨ k = 16 ∨ k = 17 ∨ k = 18 ∨ k = 19 := by omega
  rcases hk with rfl | rfl | rfl | rfl | rfl | rfl | rfl | rfl | rfl | rfl | rfl | rfl | rfl | rfl | rfl | rfl | rfl | rfl
  · -- 2
    obtain rfl : i = 0 := by
      rw [if_pos (by omega)] at hi
      omega
    have q := hP 0 _ rfl
    show va_at D vwCl (ad (2 + 20 * j) 0, .inr (4, [.ref (ad (3 + 20 * j) 0), .ref (ad (4 + 20 * j) 0), .ref (ad (8 + 20 * j) 0), .int 0, .int 0, .int 0, .int 1023, .int 0, .int 0, .int 0, .int 0])) H
    rw [had 2 0 (by omega) (by omega), had 3 0 (by omega) (by omega), had 4 0 (by omega) (by omega), had 8 0 (by omega) (by omega)]
    exact q
  · -- 3
    obtain rfl : i = 0 := by
      rw [if_pos (by omega)] at hi
      omega
    have q := hP 1 _ rfl
    rw [had 3 0 (by omega) (by omega)]
    refine at_q q (fun x hx => ?_)
    unfold laf
    rw [if_pos hx, had 13 x (by omega) (by omega)]
  · -- 4
    obtain rfl : i = 0 := by
      rw [if_pos (by omega)] at hi
      omega
    have q := hP 2 _ rfl
    show va_at D vwCl (ad (4 + 20 * j) 0, .inr (2, [.ref (ad (5 + 20 * j) 0), .ref (ad (6 + 20 * j) 0), .ref (ad (7 + 20 * j) 0)])) H
    rw [had 4 0 (by omega) (by omega), had 5 0 (by omega) (by omega), had 6 0 (by omega) (by omega), had 7 0 (by omega) (by omega)]
    exact q
  · -- 5
    obtain rfl : i = 0 := by
      rw [if_pos (by omega)] at hi
      omega
    have q := hP 3 _ rfl
    rw [had 5 0 (by omega) (by omega)]
    exact q
  · -- 6
    obtain rfl : i = 0 := by
      rw [if_pos (by omega)] at hi
      omega
    have q := hP 4 _ rfl
    rw [had 6 0 (by omega) (by omega)]
    exact q
  · -- 7
    obtain rfl : i = 0 := by
      rw [if_pos (by omega)] at hi
      omega
    have q := hP 5 _ rfl
    rw [had 7 0 (by omega) (by omega)]
    exact q
  · -- 8
    obtain rfl : i = 0 := by
      rw [if_pos (by omega)] at hi
      omega
    have q := hP 6 _ rfl
    show va_at D vwCl (ad (8 + 20 * j) 0, .inr (0, [.ref (ad (9 + 20 * j) 0), .ref (ad (10 + 20 * j) 0), .ref (ad (11 + 20 * j) 0), .ref (ad (12 + 20 * j) 0), .int 0])) H
    rw [had 8 0 (by omega) (by omega), had 9 0 (by omega) (by omega), had 10 0 (by omega) (by omega), had 11 0 (by omega) (by omega), had 12 0 (by omega) (by omega)]
    exact q
  · -- 9
    obtain rfl : i = 0 := by
      rw [if_pos (by omega)] at hi
      omega
    have q := hP 7 _ rfl
    rw [had 9 0 (by omega) (by omega)]
    exact q
  · -- 10
    obtain rfl : i = 0 := by
      rw [if_pos (by omega)] at hi
      omega
    have q := hP 8 _ rfl
    rw [had 10 0 (by omega) (by omega)]
    exact q
  · -- 11
    obtain rfl : i = 0 := by
      rw [if_pos (by omega)] at hi
      omega
    have q := hP 9 _ rfl
    rw [had 11 0 (by omega) (by omega)]
    exact q
  · -- 12
    obtain rfl : i = 0 := by
      rw [if_pos (by omega)] at hi
      omega
    have q := hP 10 _ rfl
    rw [had 12 0 (by omega) (by omega)]
    exact q
  · -- 13
    rw [if_neg (by omega)] at hi
    have q := hP (mpos 13 i) _ ((ml_get (k := 13) (by omega) (by omega) hi).trans rfl)
    show va_at D vwCl (ad (13 + 20 * j) i, .inr (1, [.ref (ad (14 + 20 * j) i), .ref (ad (15 + 20 * j) i), .ref (ad (16 + 20 * j) i), .ref (ad (18 + 20 * j) i), .int 0, .int 0, .int 0, .int (-6), .int 0, .int 0, .int 0, .int 0, .int 0, .int 0, .int 0])) H
    rw [had 13 i (by omega) (by omega), had 14 i (by omega) (by omega), had 15 i (by omega) (by omega), had 16 i (by omega) (by omega), had 18 i (by omega) (by omega)]
    exact q
  · -- 14
    rw [if_neg (by omega)] at hi
    have q := hP (mpos 14 i) _ ((ml_get (k := 14) (by omega) (by omega) hi).trans rfl)
    rw [had 14 i (by omega) (by omega)]
    exact q
  · -- 15
    rw [if_neg (by omega)] at hi
    have q := hP (mpos 15 i) _ ((ml_get (k := 15) (by omega) (by omega) hi).trans rfl)
    rw [had 15 i (by omega) (by omega)]
    exact q
  · -- 16
    rw [if_neg (by omega)] at hi
    have q := hP (mpos 16 i) _ ((ml_get (k := 16) (by omega) (by omega) hi).trans rfl)
    show va_at D vwCl (ad (16 + 20 * j) i, .inr (3, [.ref (ad (17 + 20 * j) i), .int 0])) H
    rw [had 16 i (by omega) (by omega), had 17 i (by omega) (by omega)]
    exact q
  · -- 17
    rw [if_neg (by omega)] at hi
    have q := hP (mpos 17 i) _ ((ml_get (k := 17) (by omega) (by omega) hi).trans rfl)
    rw [had 17 i (by omega) (by omega)]
    exact q
  · -- 18
    rw [if_neg (by omega)] at hi
    have q := hP (mpos 18 i) _ ((ml_get (k := 18) (by omega) (by omega) hi).trans rfl)
    show va_at D vwCl (ad (18 + 20 * j) i, .inr (3, [.ref (ad (19 + 20 * j) i), .int 0])) H
    rw [had 18 i (by omega) (by omega), had 19 i (by omega) (by omega)]
    exact q
  · -- 19
    rw [if_neg (by omega)] at hi
    have q := hP (mpos 19 i) _ ((ml_get (k := 19) (by omega) (by omega) hi).trans rfl)
    rw [had 19 i (by omega) (by omega)]
    exact q
theorem mesh_pl {cI cL : ClassId} {am : Nat → Nat → Nat} {f : Nat → Option Nat} {k i : Nat} (h1 : 2 ≤ k) (h2 : k < 20) (hi : i < if k < 13 then 1 else 10) : ∃ e : va_E, (mb cI cL am f ++ lmL cI am 10)[mpos k i]? = some (am k i, e) := by
  have hk : k = 2 ∨ k = 3 ∨ k = 4 ∨ k = 5 ∨ k = 6 ∨ k = 7 ∨ k = 8 ∨ k = 9 ∨ k = 10 ∨ k = 11 ∨ k = 12 ∨ k = 13 ∨ k = 14 ∨ k = 15 ∨ k = 16 ∨ k = 17 ∨ k = 18 ∨ k = 19 := by omega
  rcases hk with rfl | rfl | rfl | rfl | rfl | rfl | rfl | rfl | rfl | rfl | rfl | rfl | rfl | rfl | rfl | rfl | rfl | rfl
  · obtain rfl : i = 0 := by
      rw [if_pos (by omega)] at hi
      omega
    exact ⟨_, rfl⟩
  · obtain rfl : i = 0 := by
      rw [if_pos (by omega)] at hi
      omega
    exact ⟨_, rfl⟩
  · obtain rfl : i = 0 := by
      rw [if_pos (by omega)] at hi
      omega
    exact ⟨_, rfl⟩
  · obtain rfl : i = 0 := by
      rw [if_pos (by omega)] at hi
      omega
    exact ⟨_, rfl⟩
  · obtain rfl : i = 0 := by
      rw [if_pos (by omega)] at hi
      omega
    exact ⟨_, rfl⟩
  · obtain rfl : i = 0 := by
      rw [if_pos (by omega)] at hi
      omega
    exact ⟨_, rfl⟩
  · obtain rfl : i = 0 := by
      rw [if_pos (by omega)] at hi
      omega
    exact ⟨_, rfl⟩
  · obtain rfl : i = 0 := by
      rw [if_pos (by omega)] at hi
      omega
    exact ⟨_, rfl⟩
  · obtain rfl : i = 0 := by
      rw [if_pos (by omega)] at hi
      omega
    exact ⟨_, rfl⟩
  · obtain rfl : i = 0 := by
      rw [if_pos (by omega)] at hi
      omega
    exact ⟨_, rfl⟩
  · obtain rfl : i = 0 := by
      rw [if_pos (by omega)] at hi
      omega
    exact ⟨_, rfl⟩
  · rw [if_neg (by omega)] at hi
    exact ⟨_, (ml_get (k := 13) (by omega) (by omega) hi).trans rfl⟩
  · rw [if_neg (by omega)] at hi
    exact ⟨_, (ml_get (k := 14) (by omega) (by omega) hi).trans rfl⟩
  · rw [if_neg (by omega)] at hi
    exact ⟨_, (ml_get (k := 15) (by omega) (by omega) hi).trans rfl⟩
  · rw [if_neg (by omega)] at hi
    exact ⟨_, (ml_get (k := 16) (by omega) (by omega) hi).trans rfl⟩
  · rw [if_neg (by omega)] at hi
    exact ⟨_, (ml_get (k := 17) (by omega) (by omega) hi).trans rfl⟩
  · rw [if_neg (by omega)] at hi
    exact ⟨_, (ml_get (k := 18) (by omega) (by omega) hi).trans rfl⟩
  · rw [if_neg (by omega)] at hi
    exact ⟨_, (ml_get (k := 19) (by omega) (by omega) hi).trans rfl⟩
theorem mesh_inj {A : Nat → Prop} {cI cL : ClassId} {am : Nat → Nat → Nat} {f : Nat → Option Nat} (hD : va_D A (mb cI cL am f ++ lmL cI am 10)) {k i k' i' : Nat} (h1 : 2 ≤ k) (h2 : k < 20) (hi : i < if k < 13 then 1 else 10) (h1' : 2 ≤ k') (h2' : k' < 20) (hi' : i' < if k' < 13 then 1 else 10) (e : am k i = am k' i') : k = k' ∧ i = i' := by
  obtain ⟨x, hx⟩ := mesh_pl (cI := cI) (cL := cL) (am := am) (f := f) h1 h2 hi
  obtain ⟨y, hy⟩ := mesh_pl (cI := cI) (cL := cL) (am := am) (f := f) h1' h2' hi'
  have := hD.1 _ _ _ _ hx hy e
  unfold mpos at this
  by_cases a : k < 13
  · rw [if_pos a] at this hi
    by_cases b : k' < 13
    · rw [if_pos b] at this hi'
      omega
    · rw [if_neg b] at this
      omega
  · rw [if_neg a] at this
    by_cases b : k' < 13
    · rw [if_pos b] at this
      omega
    · rw [if_neg b] at this
      omega
theorem mesh_A {A : Nat → Prop} {cI cL : ClassId} {am : Nat → Nat → Nat} {f : Nat → Option Nat} (hD : va_D A (mb cI cL am f ++ lmL cI am 10)) {k i : Nat} (h1 : 2 ≤ k) (h2 : k < 20) (hi : i < if k < 13 then 1 else 10) : A (am k i) := by
  obtain ⟨x, hx⟩ := mesh_pl (cI := cI) (cL := cL) (am := am) (f := f) h1 h2 hi
  exact hD.2 _ _ hx
theorem cmj_cg {cI cL cM : ClassId} {ad ad' : Nat → Nat → Nat} {j k i : Nat} {h : Nat → Int32} (h1 : 2 ≤ k) (h2 : k < 20) (e : ∀ x y : Nat, 2 ≤ x → x < 20 → ad' (x + 20 * j) y = ad (x + 20 * j) y) : cmj cI cL cM ad' j k i h = cmj cI cL cM ad j k i h := by
  have hk : k = 2 ∨ k = 3 ∨ k = 4 ∨ k = 5 ∨ k = 6 ∨ k = 7 ∨ k = 8 ∨ k = 9 ∨ k = 10 ∨ k = 11 ∨ k = 12 ∨ k = 13 ∨ k = 14 ∨ k = 15 ∨ k = 16 ∨ k = 17 ∨ k = 18 ∨ k = 19 := by omega
  rcases hk with rfl | rfl | rfl | rfl | rfl | rfl | rfl | rfl | rfl | rfl | rfl | rfl | rfl | rfl | rfl | rfl | rfl | rfl
  · simp only [cmj, e 3 0 (by omega) (by omega), e 4 0 (by omega) (by omega), e 8 0 (by omega) (by omega)]
  · have q : (fun x => some (ad' (13 + 20 * j) x)) = (fun x => some (ad (13 + 20 * j) x)) := funext fun x => by rw [e 13 x (by omega) (by omega)]
    simp only [cmj, q]
  · simp only [cmj, e 5 0 (by omega) (by omega), e 6 0 (by omega) (by omega), e 7 0 (by omega) (by omega)]
  · rfl
  · rfl
  · rfl
  · simp only [cmj, e 9 0 (by omega) (by omega), e 10 0 (by omega) (by omega), e 11 0 (by omega) (by omega), e 12 0 (by omega) (by omega)]
  · rfl
  · rfl
  · rfl
  · rfl
  · simp only [cmj, e 14 i (by omega) (by omega), e 15 i (by omega) (by omega), e 16 i (by omega) (by omega), e 18 i (by omega) (by omega)]
  · rfl
  · rfl
  · simp only [cmj, e 17 i (by omega) (by omega)]
  · rfl
  · simp only [cmj, e 19 i (by omega) (by omega)]
  · rfl
