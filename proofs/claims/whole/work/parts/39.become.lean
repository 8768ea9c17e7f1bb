
/-! a mesh becomes another -/
theorem cp0 {s d : Nat → Int32} {n x : Nat} (h : x < n) : va_cpy s d ((0 : Int32)).toNatClampNeg ((0 : Int32)).toNatClampNeg n x = s x := by
  rw [show ((0 : Int32)).toNatClampNeg = 0 from rfl]
  unfold va_cpy
  rw [if_pos ⟨by omega, by omega⟩, show 0 + (x - 0) = x by omega]
def vw (j : Nat) (g : Mem) : Mem := fun k => g (k + 20 * j)
/-- p is what q is, as far as anybody looks -/
def Cp (p q : Mem) : Prop := (∀ k i x : Nat, Sc k i x → p k i x = q k i x) ∧ (∀ l i : Nat, l < 10 → i < mz q l → p 17 l i = q 17 l i) ∧ (∀ l i : Nat, l < 10 → i < kz q l → p 19 l i = q 19 l i) ∧ (∀ k i : Nat, 9 ≤ k → k ≤ 12 → i < az q → p k 0 i = q k 0 i)
theorem RC.cp {Bk Bt D δ : Nat} {p q : Mem} {σ : Nat → Int32} (h : RC Bk Bt D δ q σ) (hc : Cp p q) : RC Bk Bt D δ p σ := by
  obtain ⟨c1, c2, c3, c4⟩ := hc
  obtain ⟨h1, h2, h3, h4, h5, h6, h7, h8, h9⟩ := id h
  have em : ∀ l, l < 10 → mz p l = mz q l := fun l hl => by unfold mz; rw [c1 16 l 1 (by unfold Sc; omega)]
  have ek : ∀ l, l < 10 → kz p l = kz q l := fun l hl => by unfold kz; rw [c1 18 l 1 (by unfold Sc; omega)]
  have ea : az p = az q := by unfold az; rw [c1 8 0 4 (by unfold Sc; omega)]
  have et : tk p = tk q := by unfold tk; rw [c1 2 0 3 (by unfold Sc; omega)]
  refine ⟨fun k i x hs => (c1 k i x hs).trans (h1 k i x hs), fun k i x hs => by rw [c1 k i x hs]; exact h2 k i x hs, ?_, ?_, ?_, ?_, ?_, ?_, ?_⟩
  · intro l i hl hi
    rw [em l hl] at hi
    rw [c2 l i hl hi]
    exact h3 l i hl hi
  · intro l i hl hi
    rw [ek l hl] at hi
    rw [c3 l i hl hi]
    exact h4 l i hl hi
  · intro i hi
    rw [ea] at hi
    rw [c4 9 i (by omega) (by omega) hi, c4 10 i (by omega) (by omega) hi, c4 11 i (by omega) (by omega) hi, c4 12 i (by omega) (by omega) hi]
    exact h5 i hi
  · intro l hl
    rw [em l hl, c1 14 l 2 (by unfold Sc; omega)]
    exact h6 l hl
  · intro y
    rw [c1 2 0 5 (by unfold Sc; omega)] at y
    rw [c1 2 0 7 (by unfold Sc; omega)]
    exact h7 y
  · intro i hi
    rw [ea] at hi
    rw [c4 9 i (by omega) (by omega) hi, c4 10 i (by omega) (by omega) hi, c4 12 i (by omega) (by omega) hi, et]
    exact h8 i hi
  · intro l hl
    rw [c1 13 l 4 (by unfold Sc; omega)]
    exact h9 l hl

theorem bm_a {g : Mem} {j l a : Nat} (hj : 1 ≤ j) (ha : a ≤ 8) (e : g 16 l 1 = nI a) : ∃ g' : Mem, m_X3_becomema j l l g = some (0, g') ∧ (∀ k i : Nat, ¬ ((k = (16 + 20 * j) ∨ k = (17 + 20 * j)) ∧ i = l) → g' k i = g k i) ∧ g' (16 + 20 * j) l 1 = nI a ∧ (∀ x : Nat, x < a → g' (17 + 20 * j) l x = g 17 l x) := by
  have c1 : ¬ ((8 : Int32) < nI a) := fun z => by have := (nI_ltI (a := 8) (by omega) (by omega)).mp z; omega
  have c : ¬ ((0 : Int32) < 0 ∨ (0 : Int32) < 0 ∨ nI a < 0 ∨ 8 < ((0 : Int32)).toNatClampNeg + (nI a).toNatClampNeg ∨ 8 < ((0 : Int32)).toNatClampNeg + (nI a).toNatClampNeg) := ckC (sp := 0) (dp := 0) (n := a) (N := 8) (by omega) (by omega) (by omega)
  have n1 : (nI a).toNatClampNeg = a := nI_clamp (by omega)
  unfold m_X3_becomema
  simp only [ltm, e, if_neg c1, upr_eq, upd_s, if_neg c]
  refine ⟨_, rfl, fun k i y => by rw [upr_ne (by omega), upr_ne (by omega)], by rw [upr_ne (by omega), upr_eq, upd_s], fun x hx => ?_⟩
  rw [upr_eq, n1, cp0 hx, upr_ne (by omega)]
theorem bk_a {g : Mem} {j l a : Nat} (hj : 1 ≤ j) (ha : a ≤ 3) (e : g 18 l 1 = nI a) : ∃ g' : Mem, m_X3_becomeka j l l g = some (0, g') ∧ (∀ k i : Nat, ¬ ((k = (18 + 20 * j) ∨ k = (19 + 20 * j)) ∧ i = l) → g' k i = g k i) ∧ g' (18 + 20 * j) l 1 = nI a ∧ (∀ x : Nat, x < a → g' (19 + 20 * j) l x = g 19 l x) := by
  have c1 : ¬ ((3 : Int32) < nI a) := fun z => by have := (nI_ltI (a := 3) (by omega) (by omega)).mp z; omega
  have c : ¬ ((0 : Int32) < 0 ∨ (0 : Int32) < 0 ∨ nI a < 0 ∨ 3 < ((0 : Int32)).toNatClampNeg + (nI a).toNatClampNeg ∨ 3 < ((0 : Int32)).toNatClampNeg + (nI a).toNatClampNeg) := ckC (sp := 0) (dp := 0) (n := a) (N := 3) (by omega) (by omega) (by omega)
  have n1 : (nI a).toNatClampNeg = a := nI_clamp (by omega)
  unfold m_X3_becomeka
  simp only [ltm, e, if_neg c1, upr_eq, upd_s, if_neg c]
  refine ⟨_, rfl, fun k i y => by rw [upr_ne (by omega), upr_ne (by omega)], by rw [upr_ne (by omega), upr_eq, upd_s], fun x hx => ?_⟩
  rw [upr_eq, n1, cp0 hx, upr_ne (by omega)]
/-- a lamp's numbers as they stand in the other mesh -/
def LS_a (j : Nat) (g' g : Mem) (l : Nat) : Prop := (∀ x : Nat, 4 ≤ x → x ≤ 14 → g' (13 + 20 * j) l x = g 13 l x) ∧ (∀ x : Nat, x < 4 → g' (14 + 20 * j) l x = g 14 l x) ∧ (∀ x : Nat, x < 10 → g' (15 + 20 * j) l x = g 15 l x) ∧ g' (16 + 20 * j) l 1 = g 16 l 1 ∧ (∀ x : Nat, x < (g 16 l 1).toNatClampNeg → g' (17 + 20 * j) l x = g 17 l x) ∧ g' (18 + 20 * j) l 1 = g 18 l 1 ∧ (∀ x : Nat, x < (g 18 l 1).toNatClampNeg → g' (19 + 20 * j) l x = g 19 l x)
def HS_a (j : Nat) (g : Mem) : Prop := ∀ l : Nat, l < 10 → (∃ a : Nat, a ≤ 8 ∧ g 16 l 1 = nI a) ∧ (∃ a : Nat, a ≤ 3 ∧ g 18 l 1 = nI a) ∧ (g 13 l 6 = 0 ∨ g 13 l 6 = 1)
theorem bl_a {g : Mem} {j l : Nat} (hj : 1 ≤ j) (hl : l < 10) (hs : HS_a j g) : ∃ g' : Mem, m_X1_becomea j l l g = some (0, g') ∧ (∀ k i : Nat, ¬ (((13 + 20 * j) ≤ k ∧ k ≤ (19 + 20 * j)) ∧ i = l) → g' k i = g k i) ∧ LS_a j g' g l := by
  obtain ⟨⟨a, ha, ea⟩, ⟨b, hb, eb⟩, e6⟩ := hs l hl
  unfold m_X1_becomea
  rw [if_neg (by decide)]
  simp only [ltm]
  rw [if_neg (by decide)]
  have f1 : ∀ r : Nat → Int32, ∀ k i : Nat, ¬ (k = (14 + 20 * j) ∧ i = l) → upr g (14 + 20 * j) l r k i = g k i := fun r k i y => upr_ne y
  have f1' : ∀ x : Nat, x < 4 → upr g (14 + 20 * j) l (va_cpy (g 14 l) (g (14 + 20 * j) l) ((0 : Int32)).toNatClampNeg ((0 : Int32)).toNatClampNeg ((4 : Int32)).toNatClampNeg) (14 + 20 * j) l x = g 14 l x := fun x hx => by rw [upr_eq]; exact cp0 hx
  have f1 := f1 (va_cpy (g 14 l) (g (14 + 20 * j) l) ((0 : Int32)).toNatClampNeg ((0 : Int32)).toNatClampNeg ((4 : Int32)).toNatClampNeg)
  generalize upr g (14 + 20 * j) l (va_cpy (g 14 l) (g (14 + 20 * j) l) ((0 : Int32)).toNatClampNeg ((0 : Int32)).toNatClampNeg ((4 : Int32)).toNatClampNeg) = g1 at f1 f1' ⊢
  have f2 : ∀ r : Nat → Int32, ∀ k i : Nat, ¬ (k = (15 + 20 * j) ∧ i = l) → upr g1 (15 + 20 * j) l r k i = g1 k i := fun r k i y => upr_ne y
  have f2' : ∀ x : Nat, x < 10 → upr g1 (15 + 20 * j) l (va_cpy (g1 15 l) (g1 (15 + 20 * j) l) ((0 : Int32)).toNatClampNeg ((0 : Int32)).toNatClampNeg ((10 : Int32)).toNatClampNeg) (15 + 20 * j) l x = g1 15 l x := fun x hx => by rw [upr_eq]; exact cp0 hx
  have f2 := f2 (va_cpy (g1 15 l) (g1 (15 + 20 * j) l) ((0 : Int32)).toNatClampNeg ((0 : Int32)).toNatClampNeg ((10 : Int32)).toNatClampNeg)
  generalize upr g1 (15 + 20 * j) l (va_cpy (g1 15 l) (g1 (15 + 20 * j) l) ((0 : Int32)).toNatClampNeg ((0 : Int32)).toNatClampNeg ((10 : Int32)).toNatClampNeg) = g2 at f2 f2' ⊢
  obtain ⟨g3, m1, m2, m3, m4⟩ := bm_a (g := g2) (j := j) (l := l) (a := a) hj ha (by rw [f2 _ _ (by omega), f1 _ _ (by omega), ea])
  rw [m1, Option.bind_some]
  dsimp only
  obtain ⟨g4, k1, k2, k3, k4⟩ := bk_a (g := g3) (j := j) (l := l) (a := b) hj hb (by rw [m2 _ _ (by omega), f2 _ _ (by omega), f1 _ _ (by omega), eb])
  rw [k1, Option.bind_some]
  dsimp only
  have fr : ∀ k i : Nat, ¬ (((14 + 20 * j) ≤ k ∧ k ≤ (19 + 20 * j)) ∧ i = l) → g4 k i = g k i := fun k i y => by rw [k2 _ _ (by omega), m2 _ _ (by omega), f2 _ _ (by omega), f1 _ _ (by omega)]
  have ns : ∀ (G : Mem) (r : Nat → Int32), upr G (13 + 20 * j) l r 13 = G 13 := fun G r => upr_k (by omega)
  have s13 : g4 13 l = g 13 l := fr _ _ (by omega)
  simp only [ns, upr_upr, upr_eq, s13]
  rw [if_neg (not_not_intro e6)]
  refine ⟨_, rfl, fun k i y => by rw [upr_ne (by omega), fr _ _ (by omega)], ?_, ?_, ?_, ?_, ?_, ?_, ?_⟩
  · intro x h1 h2
    have hx : x = 4 ∨ x = 5 ∨ x = 6 ∨ x = 7 ∨ x = 8 ∨ x = 9 ∨ x = 10 ∨ x = 11 ∨ x = 12 ∨ x = 13 ∨ x = 14 := by omega
    rw [upr_eq]
    rcases hx with rfl | rfl | rfl | rfl | rfl | rfl | rfl | rfl | rfl | rfl | rfl <;> simp [upd]
  · intro x hx
    rw [upr_ne (by omega), k2 _ _ (by omega), m2 _ _ (by omega), f2 _ _ (by omega), f1' x hx]
  · intro x hx
    rw [upr_ne (by omega), k2 _ _ (by omega), m2 _ _ (by omega), f2' x hx, f1 _ _ (by omega)]
  · rw [upr_ne (by omega), k2 _ _ (by omega), m3, ea]
  · intro x hx
    rw [ea, nI_clamp (by omega)] at hx
    rw [upr_ne (by omega), k2 _ _ (by omega), m4 x hx, f2 _ _ (by omega), f1 _ _ (by omega)]
  · rw [upr_ne (by omega), k3, eb]
  · intro x hx
    rw [eb, nI_clamp (by omega)] at hx
    rw [upr_ne (by omega), k4 x hx, m2 _ _ (by omega), f2 _ _ (by omega), f1 _ _ (by omega)]
theorem bls_a {F j : Nat} (hj : 1 ≤ j) : ∀ (n i : Nat) (g : Mem), i + n = 10 → HS_a j g → ∃ g' : Mem, (∀ k : Nat, lp_X4_becomea_2 F (k + n) j g (nI i) = lp_X4_becomea_2 F k j g' (nI 10)) ∧ (∀ k i' : Nat, ¬ (((13 + 20 * j) ≤ k ∧ k ≤ (19 + 20 * j)) ∧ i ≤ i') → g' k i' = g k i') ∧ (∀ l : Nat, i ≤ l → l < 10 → LS_a j g' g l)
  | 0, i, g, hi, hs => ⟨g, fun k => by rw [show i = 10 by omega]; rfl, fun _ _ _ => rfl, fun l h1 h2 => by omega⟩
  | n + 1, i, g, hi, hs => by
    obtain ⟨g1, b1, b2, b3⟩ := bl_a (g := g) (j := j) (l := i) hj (by omega) hs
    have sm : ∀ k i' : Nat, ¬ ((13 + 20 * j) ≤ k ∧ k ≤ (19 + 20 * j)) → g1 k i' = g k i' := fun k i' y => b2 k i' (by omega)
    obtain ⟨g2, c1, c2, c3⟩ := bls_a (F := F) hj n (i + 1) g1 (by omega) (fun l hl => by
      rw [sm _ _ (by omega), sm _ _ (by omega), sm _ _ (by omega)]
      exact hs l hl)
    refine ⟨g2, fun k => ?_, fun k i' y => by rw [c2 _ _ (by omega), b2 _ _ (by omega)], fun l h1 h2 => ?_⟩
    · rw [← c1, show k + (n + 1) = k + n + 1 by omega, lp_X4_becomea_2]
      unfold st_X4_becomea_2
      rw [if_neg (fun y => by have := (nI_leI (a := 10) (by omega) (by omega)).mp y; omega), if_neg (ckI (by omega) (by omega)), if_neg (ckI (by omega) (by omega)), nI_clamp (by omega), b1, Option.bind_some, nI_1]
    · by_cases y : l = i
      · subst y
        obtain ⟨p1, p2, p3, p4, p5, p6, p7⟩ := b3
        unfold LS_a
        rw [c2 _ _ (by omega), c2 _ _ (by omega), c2 _ _ (by omega), c2 _ _ (by omega), c2 _ _ (by omega), c2 _ _ (by omega), c2 _ _ (by omega)]
        exact ⟨p1, p2, p3, p4, p5, p6, p7⟩
      · obtain ⟨p1, p2, p3, p4, p5, p6, p7⟩ := c3 l (by omega) h2
        rw [sm _ _ (by omega)] at p1 p2 p3 p4 p5 p6 p7
        rw [sm _ _ (by omega)] at p5 p7
        exact ⟨p1, p2, p3, p4, p5, p6, p7⟩
theorem bt_a {g : Mem} {j : Nat} (hj : 1 ≤ j) : ∃ g' : Mem, m_X2_becomea j g = some (0, g') ∧ (∀ k i : Nat, ¬ (((5 + 20 * j) ≤ k ∧ k ≤ (7 + 20 * j)) ∧ i = 0) → g' k i = g k i) ∧ (∀ x : Nat, x < 2000 → g' (5 + 20 * j) 0 x = g 5 0 x ∧ g' (6 + 20 * j) 0 x = g 6 0 x ∧ g' (7 + 20 * j) 0 x = g 7 0 x) := by
  unfold m_X2_becomea
  rw [if_neg (by decide)]
  simp only [ltm]
  rw [if_neg (by decide), if_neg (by decide)]
  refine ⟨_, rfl, fun k i y => by rw [upr_ne (by omega), upr_ne (by omega), upr_ne (by omega)], fun x hx => ⟨?_, ?_, ?_⟩⟩
  · rw [upr_ne (by omega), upr_ne (by omega), upr_eq]
    exact cp0 hx
  · rw [upr_ne (by omega), upr_eq, upr_ne (k' := 6) (by omega)]
    exact cp0 hx
  · rw [upr_eq, upr_ne (k' := 7) (by omega), upr_ne (k' := 7) (by omega)]
    exact cp0 hx
theorem ba_a {g : Mem} {j a : Nat} (hj : 1 ≤ j) (ha : a ≤ 64) (e : g 8 0 4 = nI a) : ∃ g' : Mem, m_X0_becomea j g = some (0, g') ∧ (∀ k i : Nat, ¬ (((8 + 20 * j) ≤ k ∧ k ≤ (12 + 20 * j)) ∧ i = 0) → g' k i = g k i) ∧ g' (8 + 20 * j) 0 4 = nI a ∧ (∀ x : Nat, x < a → g' (9 + 20 * j) 0 x = g 9 0 x ∧ g' (10 + 20 * j) 0 x = g 10 0 x ∧ g' (11 + 20 * j) 0 x = g 11 0 x ∧ g' (12 + 20 * j) 0 x = g 12 0 x) := by
  have c : ¬ ((0 : Int32) < 0 ∨ (0 : Int32) < 0 ∨ nI a < 0 ∨ 64 < ((0 : Int32)).toNatClampNeg + (nI a).toNatClampNeg ∨ 64 < ((0 : Int32)).toNatClampNeg + (nI a).toNatClampNeg) := ckC (sp := 0) (dp := 0) (n := a) (N := 64) (by omega) (by omega) (by omega)
  have n1 : (nI a).toNatClampNeg = a := nI_clamp (by omega)
  have m9 : ∀ (G : Mem) (r : Nat → Int32), upr G (9 + 20 * j) 0 r (8 + 20 * j) = G (8 + 20 * j) := fun G r => upr_k (by omega)
  have m10 : ∀ (G : Mem) (r : Nat → Int32), upr G (10 + 20 * j) 0 r (8 + 20 * j) = G (8 + 20 * j) := fun G r => upr_k (by omega)
  have m11 : ∀ (G : Mem) (r : Nat → Int32), upr G (11 + 20 * j) 0 r (8 + 20 * j) = G (8 + 20 * j) := fun G r => upr_k (by omega)
  unfold m_X0_becomea
  simp only [ltm, e, m9, m10, m11, upr_eq, upd_s, if_neg c]
  refine ⟨_, rfl, fun k i y => by rw [upr_ne (by omega), upr_ne (by omega), upr_ne (by omega), upr_ne (by omega), upr_ne (by omega)], by rw [upr_ne (by omega), upr_ne (by omega), upr_ne (by omega), upr_ne (by omega), upr_eq, upd_s], fun x hx => ⟨?_, ?_, ?_, ?_⟩⟩
  · rw [upr_ne (by omega), upr_ne (by omega), upr_ne (by omega), upr_eq, n1, cp0 hx, upr_ne (by omega)]
  · rw [upr_ne (by omega), upr_ne (by omega), upr_eq, n1, cp0 hx, upr_ne (by omega), upr_ne (by omega)]
  · rw [upr_ne (by omega), upr_eq, n1, cp0 hx, upr_ne (by omega), upr_ne (by omega), upr_ne (by omega)]
  · rw [upr_eq, n1, cp0 hx, upr_ne (by omega), upr_ne (by omega), upr_ne (by omega), upr_ne (by omega)]
/-- the whole of it -/
theorem bcm_a {g : Mem} {F j Bk Bt D δ : Nat} {σ : Nat → Int32} (hj : 1 ≤ j) (hF : 20 ≤ F) (h : RC Bk Bt D δ g σ) : ∃ g' : Mem, m_X4_becomea F j g = some (0, g') ∧ (∀ k : Nat, ¬ ((2 + 20 * j) ≤ k ∧ k ≤ (19 + 20 * j)) → g' k = g k) ∧ RC Bk Bt D δ (vw j g') σ := by
  obtain ⟨ea, ha⟩ := h.a
  obtain ⟨g1, p1, p2, p3⟩ := bls_a (F := F) hj 10 0 g (by omega) (fun l hl => ⟨⟨mz g l, (h.m hl).2, (h.m hl).1⟩, ⟨kz g l, (h.k hl).2, (h.k hl).1⟩, h.sl hl⟩)
  obtain ⟨g2, q1, q2, q3⟩ := bt_a (g := g1) (j := j) hj
  obtain ⟨g3, r1, r2, r3, r4⟩ := ba_a (g := g2) (j := j) (a := az g) hj ha (by rw [q2 _ _ (by omega), p2 _ _ (by omega)]; exact ea)
  have ns : ∀ (G : Mem) (r : Nat → Int32), upr G (2 + 20 * j) 0 r 2 = G 2 := fun G r => upr_k (by omega)
  have s2 : g3 2 0 = g 2 0 := by rw [r2 _ _ (by omega), q2 _ _ (by omega), p2 _ _ (by omega)]
  obtain ⟨f, rfl⟩ : ∃ f, F = f + 1 + 10 := ⟨F - 11, by omega⟩
  have run : m_X4_becomea (f + 1 + 10) j g = some (0, upr g3 (2 + 20 * j) 0 (upd (upd (upd (upd (upd (upd (upd (upd (g3 (2 + 20 * j) 0) 3 (g 2 0 3)) 4 (g 2 0 4)) 5 (g 2 0 5)) 6 (g 2 0 6)) 7 (g 2 0 7)) 8 (g 2 0 8)) 9 (g 2 0 9)) 10 (g 2 0 10))) := by
    unfold m_X4_becomea
    rw [show (0 : Int32) = nI 0 from rfl, p1, lp_X4_becomea_2]
    unfold st_X4_becomea_2
    rw [if_pos (by decide), q1, Option.bind_some]
    dsimp only
    rw [r1, Option.bind_some]
    simp only [ltm, ns, upr_upr, upr_eq, s2]
    rfl
  have fr : ∀ k i : Nat, ¬ ((2 + 20 * j) ≤ k ∧ k ≤ (12 + 20 * j)) → g3 k i = g1 k i := fun k i y => by rw [r2 _ _ (by omega), q2 _ _ (by omega)]
  refine ⟨_, run, fun k y => ?_, ?_⟩
  · rw [upr_k (by omega)]
    funext i
    rw [fr _ _ (by omega), p2 _ _ (by omega)]
  · refine h.cp ⟨?_, ?_, ?_, ?_⟩
    · intro k i x hs
      unfold Sc at hs
      rcases hs with ⟨rfl, h1, h2, h3⟩ | ⟨rfl, h1, h2⟩ | ⟨rfl, h1, h2⟩ | ⟨rfl, h1, rfl⟩ | ⟨rfl, h1, rfl⟩ | ⟨rfl, rfl, h2⟩ | ⟨rfl, rfl, h2⟩ | ⟨rfl, rfl, h2⟩ | ⟨rfl, rfl, h2, h3⟩ | ⟨rfl, rfl, rfl⟩
      · show upr g3 (2 + 20 * j) 0 _ (13 + 20 * j) i x = _
        rw [upr_ne (by omega), fr _ _ (by omega), (p3 i (by omega) h1).1 x h2 h3] <;> rfl
      · show upr g3 (2 + 20 * j) 0 _ (14 + 20 * j) i x = _
        rw [upr_ne (by omega), fr _ _ (by omega), (p3 i (by omega) h1).2.1 x h2] <;> rfl
      · show upr g3 (2 + 20 * j) 0 _ (15 + 20 * j) i x = _
        rw [upr_ne (by omega), fr _ _ (by omega), (p3 i (by omega) h1).2.2.1 x h2] <;> rfl
      · show upr g3 (2 + 20 * j) 0 _ (16 + 20 * j) i 1 = _
        rw [upr_ne (by omega), fr _ _ (by omega), (p3 i (by omega) h1).2.2.2.1] <;> rfl
      · show upr g3 (2 + 20 * j) 0 _ (18 + 20 * j) i 1 = _
        rw [upr_ne (by omega), fr _ _ (by omega), (p3 i (by omega) h1).2.2.2.2.2.1] <;> rfl
      · show upr g3 (2 + 20 * j) 0 _ (5 + 20 * j) 0 x = _
        rw [upr_ne (by omega), r2 _ _ (by omega), (q3 x h2).1, p2 _ _ (by omega)] <;> rfl
      · show upr g3 (2 + 20 * j) 0 _ (6 + 20 * j) 0 x = _
        rw [upr_ne (by omega), r2 _ _ (by omega), (q3 x h2).2.1, p2 _ _ (by omega)] <;> rfl
      · show upr g3 (2 + 20 * j) 0 _ (7 + 20 * j) 0 x = _
        rw [upr_ne (by omega), r2 _ _ (by omega), (q3 x h2).2.2, p2 _ _ (by omega)] <;> rfl
      · show upr g3 (2 + 20 * j) 0 _ (2 + 20 * j) 0 x = g 2 0 x
        rw [upr_eq]
        have hx : x = 3 ∨ x = 4 ∨ x = 5 ∨ x = 6 ∨ x = 7 ∨ x = 8 ∨ x = 9 ∨ x = 10 := by omega
        rcases hx with rfl | rfl | rfl | rfl | rfl | rfl | rfl | rfl <;> simp [upd]
      · show upr g3 (2 + 20 * j) 0 _ (8 + 20 * j) 0 4 = _
        rw [upr_ne (by omega), r3]
        exact ea.symm
    · intro l i hl hi
      show upr g3 (2 + 20 * j) 0 _ (17 + 20 * j) l i = _
      rw [upr_ne (by omega), fr _ _ (by omega), (p3 l (by omega) hl).2.2.2.2.1 i hi] <;> rfl
    · intro l i hl hi
      show upr g3 (2 + 20 * j) 0 _ (19 + 20 * j) l i = _
      rw [upr_ne (by omega), fr _ _ (by omega), (p3 l (by omega) hl).2.2.2.2.2.2 i hi] <;> rfl
    · intro k i h1 h2 hi
      have hk : k = 9 ∨ k = 10 ∨ k = 11 ∨ k = 12 := by omega
      have r5 := r4 i hi
      rw [q2 _ _ (by omega), q2 _ _ (by omega), q2 _ _ (by omega), q2 _ _ (by omega), p2 _ _ (by omega), p2 _ _ (by omega), p2 _ _ (by omega), p2 _ _ (by omega)] at r5
      rcases hk with rfl | rfl | rfl | rfl
      · show upr g3 (2 + 20 * j) 0 _ (9 + 20 * j) 0 i = _
        rw [upr_ne (by omega), r5.1] <;> rfl
      · show upr g3 (2 + 20 * j) 0 _ (10 + 20 * j) 0 i = _
        rw [upr_ne (by omega), r5.2.1] <;> rfl
      · show upr g3 (2 + 20 * j) 0 _ (11 + 20 * j) 0 i = _
        rw [upr_ne (by omega), r5.2.2.1] <;> rfl
      · show upr g3 (2 + 20 * j) 0 _ (12 + 20 * j) 0 i = _
        rw [upr_ne (by omega), r5.2.2.2] <;> rfl

theorem bm_b {g : Mem} {j l a : Nat} (hj : 1 ≤ j) (ha : a ≤ 8) (e : g (16 + 20 * j) l 1 = nI a) : ∃ g' : Mem, m_X3_becomemb j l l g = some (0, g') ∧ (∀ k i : Nat, ¬ ((k = 16 ∨ k = 17) ∧ i = l) → g' k i = g k i) ∧ g' 16 l 1 = nI a ∧ (∀ x : Nat, x < a → g' 17 l x = g (17 + 20 * j) l x) := by
  have c1 : ¬ ((8 : Int32) < nI a) := fun z => by have := (nI_ltI (a := 8) (by omega) (by omega)).mp z; omega
  have c : ¬ ((0 : Int32) < 0 ∨ (0 : Int32) < 0 ∨ nI a < 0 ∨ 8 < ((0 : Int32)).toNatClampNeg + (nI a).toNatClampNeg ∨ 8 < ((0 : Int32)).toNatClampNeg + (nI a).toNatClampNeg) := ckC (sp := 0) (dp := 0) (n := a) (N := 8) (by omega) (by omega) (by omega)
  have n1 : (nI a).toNatClampNeg = a := nI_clamp (by omega)
  unfold m_X3_becomemb
  simp only [ltm, e, if_neg c1, upr_eq, upd_s, if_neg c]
  refine ⟨_, rfl, fun k i y => by rw [upr_ne (by omega), upr_ne (by omega)], by rw [upr_ne (by omega), upr_eq, upd_s], fun x hx => ?_⟩
  rw [upr_eq, n1, cp0 hx, upr_ne (by omega)]
theorem bk_b {g : Mem} {j l a : Nat} (hj : 1 ≤ j) (ha : a ≤ 3) (e : g (18 + 20 * j) l 1 = nI a) : ∃ g' : Mem, m_X3_becomekb j l l g = some (0, g') ∧ (∀ k i : Nat, ¬ ((k = 18 ∨ k = 19) ∧ i = l) → g' k i = g k i) ∧ g' 18 l 1 = nI a ∧ (∀ x : Nat, x < a → g' 19 l x = g (19 + 20 * j) l x) := by
  have c1 : ¬ ((3 : Int32) < nI a) := fun z => by have := (nI_ltI (a := 3) (by omega) (by omega)).mp z; omega
  have c : ¬ ((0 : Int32) < 0 ∨ (0 : Int32) < 0 ∨ nI a < 0 ∨ 3 < ((0 : Int32)).toNatClampNeg + (nI a).toNatClampNeg ∨ 3 < ((0 : Int32)).toNatClampNeg + (nI a).toNatClampNeg) := ckC (sp := 0) (dp := 0) (n := a) (N := 3) (by omega) (by omega) (by omega)
  have n1 : (nI a).toNatClampNeg = a := nI_clamp (by omega)
  unfold m_X3_becomekb
  simp only [ltm, e, if_neg c1, upr_eq, upd_s, if_neg c]
  refine ⟨_, rfl, fun k i y => by rw [upr_ne (by omega), upr_ne (by omega)], by rw [upr_ne (by omega), upr_eq, upd_s], fun x hx => ?_⟩
  rw [upr_eq, n1, cp0 hx, upr_ne (by omega)]
/-- a lamp's numbers as they stand in the other mesh -/
def LS_b (j : Nat) (g' g : Mem) (l : Nat) : Prop := (∀ x : Nat, 4 ≤ x → x ≤ 14 → g' 13 l x = g (13 + 20 * j) l x) ∧ (∀ x : Nat, x < 4 → g' 14 l x = g (14 + 20 * j) l x) ∧ (∀ x : Nat, x < 10 → g' 15 l x = g (15 + 20 * j) l x) ∧ g' 16 l 1 = g (16 + 20 * j) l 1 ∧ (∀ x : Nat, x < (g (16 + 20 * j) l 1).toNatClampNeg → g' 17 l x = g (17 + 20 * j) l x) ∧ g' 18 l 1 = g (18 + 20 * j) l 1 ∧ (∀ x : Nat, x < (g (18 + 20 * j) l 1).toNatClampNeg → g' 19 l x = g (19 + 20 * j) l x)
def HS_b (j : Nat) (g : Mem) : Prop := ∀ l : Nat, l < 10 → (∃ a : Nat, a ≤ 8 ∧ g (16 + 20 * j) l 1 = nI a) ∧ (∃ a : Nat, a ≤ 3 ∧ g (18 + 20 * j) l 1 = nI a) ∧ (g (13 + 20 * j) l 6 = 0 ∨ g (13 + 20 * j) l 6 = 1)
theorem bl_b {g : Mem} {j l : Nat} (hj : 1 ≤ j) (hl : l < 10) (hs : HS_b j g) : ∃ g' : Mem, m_X1_becomeb j l l g = some (0, g') ∧ (∀ k i : Nat, ¬ ((13 ≤ k ∧ k ≤ 19) ∧ i = l) → g' k i = g k i) ∧ LS_b j g' g l := by
  obtain ⟨⟨a, ha, ea⟩, ⟨b, hb, eb⟩, e6⟩ := hs l hl
  unfold m_X1_becomeb
  rw [if_neg (by decide)]
  simp only [ltm]
  rw [if_neg (by decide)]
  have f1 : ∀ r : Nat → Int32, ∀ k i : Nat, ¬ (k = 14 ∧ i = l) → upr g 14 l r k i = g k i := fun r k i y => upr_ne y
  have f1' : ∀ x : Nat, x < 4 → upr g 14 l (va_cpy (g (14 + 20 * j) l) (g 14 l) ((0 : Int32)).toNatClampNeg ((0 : Int32)).toNatClampNeg ((4 : Int32)).toNatClampNeg) 14 l x = g (14 + 20 * j) l x := fun x hx => by rw [upr_eq]; exact cp0 hx
  have f1 := f1 (va_cpy (g (14 + 20 * j) l) (g 14 l) ((0 : Int32)).toNatClampNeg ((0 : Int32)).toNatClampNeg ((4 : Int32)).toNatClampNeg)
  generalize upr g 14 l (va_cpy (g (14 + 20 * j) l) (g 14 l) ((0 : Int32)).toNatClampNeg ((0 : Int32)).toNatClampNeg ((4 : Int32)).toNatClampNeg) = g1 at f1 f1' ⊢
  have f2 : ∀ r : Nat → Int32, ∀ k i : Nat, ¬ (k = 15 ∧ i = l) → upr g1 15 l r k i = g1 k i := fun r k i y => upr_ne y
  have f2' : ∀ x : Nat, x < 10 → upr g1 15 l (va_cpy (g1 (15 + 20 * j) l) (g1 15 l) ((0 : Int32)).toNatClampNeg ((0 : Int32)).toNatClampNeg ((10 : Int32)).toNatClampNeg) 15 l x = g1 (15 + 20 * j) l x := fun x hx => by rw [upr_eq]; exact cp0 hx
  have f2 := f2 (va_cpy (g1 (15 + 20 * j) l) (g1 15 l) ((0 : Int32)).toNatClampNeg ((0 : Int32)).toNatClampNeg ((10 : Int32)).toNatClampNeg)
  generalize upr g1 15 l (va_cpy (g1 (15 + 20 * j) l) (g1 15 l) ((0 : Int32)).toNatClampNeg ((0 : Int32)).toNatClampNeg ((10 : Int32)).toNatClampNeg) = g2 at f2 f2' ⊢
  obtain ⟨g3, m1, m2, m3, m4⟩ := bm_b (g := g2) (j := j) (l := l) (a := a) hj ha (by rw [f2 _ _ (by omega), f1 _ _ (by omega), ea])
  rw [m1, Option.bind_some]
  dsimp only
  obtain ⟨g4, k1, k2, k3, k4⟩ := bk_b (g := g3) (j := j) (l := l) (a := b) hj hb (by rw [m2 _ _ (by omega), f2 _ _ (by omega), f1 _ _ (by omega), eb])
  rw [k1, Option.bind_some]
  dsimp only
  have fr : ∀ k i : Nat, ¬ ((14 ≤ k ∧ k ≤ 19) ∧ i = l) → g4 k i = g k i := fun k i y => by rw [k2 _ _ (by omega), m2 _ _ (by omega), f2 _ _ (by omega), f1 _ _ (by omega)]
  have ns : ∀ (G : Mem) (r : Nat → Int32), upr G 13 l r (13 + 20 * j) = G (13 + 20 * j) := fun G r => upr_k (by omega)
  have s13 : g4 (13 + 20 * j) l = g (13 + 20 * j) l := fr _ _ (by omega)
  simp only [ns, upr_upr, upr_eq, s13]
  rw [if_neg (not_not_intro e6)]
  refine ⟨_, rfl, fun k i y => by rw [upr_ne (by omega), fr _ _ (by omega)], ?_, ?_, ?_, ?_, ?_, ?_, ?_⟩
  · intro x h1 h2
    have hx : x = 4 ∨ x = 5 ∨ x = 6 ∨ x = 7 ∨ x = 8 ∨ x = 9 ∨ x = 10 ∨ x = 11 ∨ x = 12 ∨ x = 13 ∨ x = 14 := by omega
    rw [upr_eq]
    rcases hx with rfl | rfl | rfl | rfl | rfl | rfl | rfl | rfl | rfl | rfl | rfl <;> simp [upd]
  · intro x hx
    rw [upr_ne (by omega), k2 _ _ (by omega), m2 _ _ (by omega), f2 _ _ (by omega), f1' x hx]
  · intro x hx
    rw [upr_ne (by omega), k2 _ _ (by omega), m2 _ _ (by omega), f2' x hx, f1 _ _ (by omega)]
  · rw [upr_ne (by omega), k2 _ _ (by omega), m3, ea]
  · intro x hx
    rw [ea, nI_clamp (by omega)] at hx
    rw [upr_ne (by omega), k2 _ _ (by omega), m4 x hx, f2 _ _ (by omega), f1 _ _ (by omega)]
  · rw [upr_ne (by omega), k3, eb]
  · intro x hx
    rw [eb, nI_clamp (by omega)] at hx
    rw [upr_ne (by omega), k4 x hx, m2 _ _ (by omega), f2 _ _ (by omega), f1 _ _ (by omega)]
theorem bls_b {F j : Nat} (hj : 1 ≤ j) : ∀ (n i : Nat) (g : Mem), i + n = 10 → HS_b j g → ∃ g' : Mem, (∀ k : Nat, lp_X4_becomeb_2 F (k + n) j g (nI i) = lp_X4_becomeb_2 F k j g' (nI 10)) ∧ (∀ k i' : Nat, ¬ ((13 ≤ k ∧ k ≤ 19) ∧ i ≤ i') → g' k i' = g k i') ∧ (∀ l : Nat, i ≤ l → l < 10 → LS_b j g' g l)
  | 0, i, g, hi, hs => ⟨g, fun k => by rw [show i = 10 by omega]; rfl, fun _ _ _ => rfl, fun l h1 h2 => by omega⟩
  | n + 1, i, g, hi, hs => by
    obtain ⟨g1, b1, b2, b3⟩ := bl_b (g := g) (j := j) (l := i) hj (by omega) hs
    have sm : ∀ k i' : Nat, ¬ (13 ≤ k ∧ k ≤ 19) → g1 k i' = g k i' := fun k i' y => b2 k i' (by omega)
    obtain ⟨g2, c1, c2, c3⟩ := bls_b (F := F) hj n (i + 1) g1 (by omega) (fun l hl => by
      rw [sm _ _ (by omega), sm _ _ (by omega), sm _ _ (by omega)]
      exact hs l hl)
    refine ⟨g2, fun k => ?_, fun k i' y => by rw [c2 _ _ (by omega), b2 _ _ (by omega)], fun l h1 h2 => ?_⟩
    · rw [← c1, show k + (n + 1) = k + n + 1 by omega, lp_X4_becomeb_2]
      unfold st_X4_becomeb_2
      rw [if_neg (fun y => by have := (nI_leI (a := 10) (by omega) (by omega)).mp y; omega), if_neg (ckI (by omega) (by omega)), if_neg (ckI (by omega) (by omega)), nI_clamp (by omega), b1, Option.bind_some, nI_1]
    · by_cases y : l = i
      · subst y
        obtain ⟨p1, p2, p3, p4, p5, p6, p7⟩ := b3
        unfold LS_b
        rw [c2 _ _ (by omega), c2 _ _ (by omega), c2 _ _ (by omega), c2 _ _ (by omega), c2 _ _ (by omega), c2 _ _ (by omega), c2 _ _ (by omega)]
        exact ⟨p1, p2, p3, p4, p5, p6, p7⟩
      · obtain ⟨p1, p2, p3, p4, p5, p6, p7⟩ := c3 l (by omega) h2
        rw [sm _ _ (by omega)] at p1 p2 p3 p4 p5 p6 p7
        rw [sm _ _ (by omega)] at p5 p7
        exact ⟨p1, p2, p3, p4, p5, p6, p7⟩
theorem bt_b {g : Mem} {j : Nat} (hj : 1 ≤ j) : ∃ g' : Mem, m_X2_becomeb j g = some (0, g') ∧ (∀ k i : Nat, ¬ ((5 ≤ k ∧ k ≤ 7) ∧ i = 0) → g' k i = g k i) ∧ (∀ x : Nat, x < 2000 → g' 5 0 x = g (5 + 20 * j) 0 x ∧ g' 6 0 x = g (6 + 20 * j) 0 x ∧ g' 7 0 x = g (7 + 20 * j) 0 x) := by
  unfold m_X2_becomeb
  rw [if_neg (by decide)]
  simp only [ltm]
  rw [if_neg (by decide), if_neg (by decide)]
  refine ⟨_, rfl, fun k i y => by rw [upr_ne (by omega), upr_ne (by omega), upr_ne (by omega)], fun x hx => ⟨?_, ?_, ?_⟩⟩
  · rw [upr_ne (by omega), upr_ne (by omega), upr_eq]
    exact cp0 hx
  · rw [upr_ne (by omega), upr_eq, upr_ne (k' := (6 + 20 * j)) (by omega)]
    exact cp0 hx
  · rw [upr_eq, upr_ne (k' := (7 + 20 * j)) (by omega), upr_ne (k' := (7 + 20 * j)) (by omega)]
    exact cp0 hx
theorem ba_b {g : Mem} {j a : Nat} (hj : 1 ≤ j) (ha : a ≤ 64) (e : g (8 + 20 * j) 0 4 = nI a) : ∃ g' : Mem, m_X0_becomeb j g = some (0, g') ∧ (∀ k i : Nat, ¬ ((8 ≤ k ∧ k ≤ 12) ∧ i = 0) → g' k i = g k i) ∧ g' 8 0 4 = nI a ∧ (∀ x : Nat, x < a → g' 9 0 x = g (9 + 20 * j) 0 x ∧ g' 10 0 x = g (10 + 20 * j) 0 x ∧ g' 11 0 x = g (11 + 20 * j) 0 x ∧ g' 12 0 x = g (12 + 20 * j) 0 x) := by
  have c : ¬ ((0 : Int32) < 0 ∨ (0 : Int32) < 0 ∨ nI a < 0 ∨ 64 < ((0 : Int32)).toNatClampNeg + (nI a).toNatClampNeg ∨ 64 < ((0 : Int32)).toNatClampNeg + (nI a).toNatClampNeg) := ckC (sp := 0) (dp := 0) (n := a) (N := 64) (by omega) (by omega) (by omega)
  have n1 : (nI a).toNatClampNeg = a := nI_clamp (by omega)
  have m9 : ∀ (G : Mem) (r : Nat → Int32), upr G 9 0 r 8 = G 8 := fun G r => upr_k (by omega)
  have m10 : ∀ (G : Mem) (r : Nat → Int32), upr G 10 0 r 8 = G 8 := fun G r => upr_k (by omega)
  have m11 : ∀ (G : Mem) (r : Nat → Int32), upr G 11 0 r 8 = G 8 := fun G r => upr_k (by omega)
  unfold m_X0_becomeb
  simp only [ltm, e, m9, m10, m11, upr_eq, upd_s, if_neg c]
  refine ⟨_, rfl, fun k i y => by rw [upr_ne (by omega), upr_ne (by omega), upr_ne (by omega), upr_ne (by omega), upr_ne (by omega)], by rw [upr_ne (by omega), upr_ne (by omega), upr_ne (by omega), upr_ne (by omega), upr_eq, upd_s], fun x hx => ⟨?_, ?_, ?_, ?_⟩⟩
  · rw [upr_ne (by omega), upr_ne (by omega), upr_ne (by omega), upr_eq, n1, cp0 hx, upr_ne (by omega)]
  · rw [upr_ne (by omega), upr_ne (by omega), upr_eq, n1, cp0 hx, upr_ne (by omega), upr_ne (by omega)]
  · rw [upr_ne (by omega), upr_eq, n1, cp0 hx, upr_ne (by omega), upr_ne (by omega), upr_ne (by omega)]
  · rw [upr_eq, n1, cp0 hx, upr_ne (by omega), upr_ne (by omega), upr_ne (by omega), upr_ne (by omega)]
/-- the whole of it -/
theorem bcm_b {g : Mem} {F j Bk Bt D δ : Nat} {σ : Nat → Int32} (hj : 1 ≤ j) (hF : 20 ≤ F) (h : RC Bk Bt D δ (vw j g) σ) : ∃ g' : Mem, m_X4_becomeb F j g = some (0, g') ∧ (∀ k : Nat, ¬ (2 ≤ k ∧ k ≤ 19) → g' k = g k) ∧ RC Bk Bt D δ g' σ := by
  obtain ⟨ea, ha⟩ := h.a
  obtain ⟨g1, p1, p2, p3⟩ := bls_b (F := F) hj 10 0 g (by omega) (fun l hl => ⟨⟨mz (vw j g) l, (h.m hl).2, (h.m hl).1⟩, ⟨kz (vw j g) l, (h.k hl).2, (h.k hl).1⟩, h.sl hl⟩)
  obtain ⟨g2, q1, q2, q3⟩ := bt_b (g := g1) (j := j) hj
  obtain ⟨g3, r1, r2, r3, r4⟩ := ba_b (g := g2) (j := j) (a := az (vw j g)) hj ha (by rw [q2 _ _ (by omega), p2 _ _ (by omega)]; exact ea)
  have ns : ∀ (G : Mem) (r : Nat → Int32), upr G 2 0 r (2 + 20 * j) = G (2 + 20 * j) := fun G r => upr_k (by omega)
  have s2 : g3 (2 + 20 * j) 0 = g (2 + 20 * j) 0 := by rw [r2 _ _ (by omega), q2 _ _ (by omega), p2 _ _ (by omega)]
  obtain ⟨f, rfl⟩ : ∃ f, F = f + 1 + 10 := ⟨F - 11, by omega⟩
  have run : m_X4_becomeb (f + 1 + 10) j g = some (0, upr g3 2 0 (upd (upd (upd (upd (upd (upd (upd (upd (g3 2 0) 3 (g (2 + 20 * j) 0 3)) 4 (g (2 + 20 * j) 0 4)) 5 (g (2 + 20 * j) 0 5)) 6 (g (2 + 20 * j) 0 6)) 7 (g (2 + 20 * j) 0 7)) 8 (g (2 + 20 * j) 0 8)) 9 (g (2 + 20 * j) 0 9)) 10 (g (2 + 20 * j) 0 10))) := by
    unfold m_X4_becomeb
    rw [show (0 : Int32) = nI 0 from rfl, p1, lp_X4_becomeb_2]
    unfold st_X4_becomeb_2
    rw [if_pos (by decide), q1, Option.bind_some]
    dsimp only
    rw [r1, Option.bind_some]
    simp only [ltm, ns, upr_upr, upr_eq, s2]
    rfl
  have fr : ∀ k i : Nat, ¬ (2 ≤ k ∧ k ≤ 12) → g3 k i = g1 k i := fun k i y => by rw [r2 _ _ (by omega), q2 _ _ (by omega)]
  refine ⟨_, run, fun k y => ?_, ?_⟩
  · rw [upr_k (by omega)]
    funext i
    rw [fr _ _ (by omega), p2 _ _ (by omega)]
  · refine h.cp ⟨?_, ?_, ?_, ?_⟩
    · intro k i x hs
      unfold Sc at hs
      rcases hs with ⟨rfl, h1, h2, h3⟩ | ⟨rfl, h1, h2⟩ | ⟨rfl, h1, h2⟩ | ⟨rfl, h1, rfl⟩ | ⟨rfl, h1, rfl⟩ | ⟨rfl, rfl, h2⟩ | ⟨rfl, rfl, h2⟩ | ⟨rfl, rfl, h2⟩ | ⟨rfl, rfl, h2, h3⟩ | ⟨rfl, rfl, rfl⟩
      · show upr g3 2 0 _ 13 i x = _
        rw [upr_ne (by omega), fr _ _ (by omega), (p3 i (by omega) h1).1 x h2 h3] <;> rfl
      · show upr g3 2 0 _ 14 i x = _
        rw [upr_ne (by omega), fr _ _ (by omega), (p3 i (by omega) h1).2.1 x h2] <;> rfl
      · show upr g3 2 0 _ 15 i x = _
        rw [upr_ne (by omega), fr _ _ (by omega), (p3 i (by omega) h1).2.2.1 x h2] <;> rfl
      · show upr g3 2 0 _ 16 i 1 = _
        rw [upr_ne (by omega), fr _ _ (by omega), (p3 i (by omega) h1).2.2.2.1] <;> rfl
      · show upr g3 2 0 _ 18 i 1 = _
        rw [upr_ne (by omega), fr _ _ (by omega), (p3 i (by omega) h1).2.2.2.2.2.1] <;> rfl
      · show upr g3 2 0 _ 5 0 x = _
        rw [upr_ne (by omega), r2 _ _ (by omega), (q3 x h2).1, p2 _ _ (by omega)] <;> rfl
      · show upr g3 2 0 _ 6 0 x = _
        rw [upr_ne (by omega), r2 _ _ (by omega), (q3 x h2).2.1, p2 _ _ (by omega)] <;> rfl
      · show upr g3 2 0 _ 7 0 x = _
        rw [upr_ne (by omega), r2 _ _ (by omega), (q3 x h2).2.2, p2 _ _ (by omega)] <;> rfl
      · show upr g3 2 0 _ 2 0 x = g (2 + 20 * j) 0 x
        rw [upr_eq]
        have hx : x = 3 ∨ x = 4 ∨ x = 5 ∨ x = 6 ∨ x = 7 ∨ x = 8 ∨ x = 9 ∨ x = 10 := by omega
        rcases hx with rfl | rfl | rfl | rfl | rfl | rfl | rfl | rfl <;> simp [upd]
      · show upr g3 2 0 _ 8 0 4 = _
        rw [upr_ne (by omega), r3]
        exact ea.symm
    · intro l i hl hi
      show upr g3 2 0 _ 17 l i = _
      rw [upr_ne (by omega), fr _ _ (by omega), (p3 l (by omega) hl).2.2.2.2.1 i hi] <;> rfl
    · intro l i hl hi
      show upr g3 2 0 _ 19 l i = _
      rw [upr_ne (by omega), fr _ _ (by omega), (p3 l (by omega) hl).2.2.2.2.2.2 i hi] <;> rfl
    · intro k i h1 h2 hi
      have hk : k = 9 ∨ k = 10 ∨ k = 11 ∨ k = 12 := by omega
      have r5 := r4 i hi
      rw [q2 _ _ (by omega), q2 _ _ (by omega), q2 _ _ (by omega), q2 _ _ (by omega), p2 _ _ (by omega), p2 _ _ (by omega), p2 _ _ (by omega), p2 _ _ (by omega)] at r5
      rcases hk with rfl | rfl | rfl | rfl
      · show upr g3 2 0 _ 9 0 i = _
        rw [upr_ne (by omega), r5.1] <;> rfl
      · show upr g3 2 0 _ 10 0 i = _
        rw [upr_ne (by omega), r5.2.1] <;> rfl
      · show upr g3 2 0 _ 11 0 i = _
        rw [upr_ne (by omega), r5.2.2.1] <;> rfl
      · show upr g3 2 0 _ 12 0 i = _
        rw [upr_ne (by omega), r5.2.2.2] <;> rfl
