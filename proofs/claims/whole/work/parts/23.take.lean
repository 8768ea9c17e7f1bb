section SIM
variable {g0 f0 g f : Mem} {Bk Bt D δ : Nat}
theorem okf {Bk Bt k x : Nat} {v : Int32} (h : k = 15 ∨ k = 5 ∨ k = 6 ∨ k = 7 ∨ (k = 13 ∧ (x = 5 ∨ 9 ≤ x)) ∨ (k = 14 ∧ (x = 1 ∨ x = 3)) ∨ (k = 2 ∧ 8 ≤ x)) : Okv Bk Bt k x v := by
  unfold Okv
  refine ⟨?_, ?_, ?_, ?_, ?_, ?_, ?_, ?_, ?_, ?_, ?_, ?_, ?_, ?_⟩ <;> (intros; omega)
theorem upr_f {g : Mem} {k i i' x y : Nat} {v : Int32} (h : y ≠ x) : upr g k i (upd (g k i) x v) k i' y = g k i' y := by
  by_cases e : i' = i
  · subst e
    rw [upr_eq, upd_n h]
  · rw [upr_ne (fun z => e z.2)]
/-- TAKE -/
theorem s_take (h : RR g0 f0 Bk Bt D δ g f) {l q : Nat} (hl : l < 10) (hq : q < 2000) : ∃ (b : Int32) (g' f' : Mem), (b = 0 ∨ b = 1) ∧ m_X4_take l g (nI q) = some (0, g') ∧ m_X6_takes f (nI l) (nI (q / 200)) (nI (q % 200 + 1)) = some (b, f') ∧ RR g0 f0 Bk Bt D δ g' f' ∧ g' 13 l 9 = g 13 l 9 + b ∧ (∀ k : Nat, k ≠ 13 → k ≠ 15 → g' k = g k) ∧ (∀ i : Nat, g' 13 i 4 = g 13 i 4) := by
  have e15 : g 15 l (q / 200) = f 1 0 (330 + 10 * l + q / 200) := h.2.2.s (by unfold Sc; omega) rfl
  have ix : ((330 : Int32) + (10 : Int32) * nI l + nI (q / 200)) = nI (330 + 10 * l + q / 200) := by simp only [L330, L10, pk_mul, nI_add]
  have i50 : ((50 : Int32) + nI l) = nI (50 + l) := nI_add 50 l
  have i90 : ((90 : Int32) + nI l) = nI (90 + l) := nI_add 90 l
  have i100 : ((100 : Int32) + nI l) = nI (100 + l) := nI_add 100 l
  have c10 : ¬ (nI (q / 200) < 0 ∨ 10 ≤ (nI (q / 200)).toNatClampNeg) := ckI (by omega) (by omega)
  have cq : ¬ (nI q < 0 ∨ 2000 ≤ (nI q).toNatClampNeg) := ckI (by omega) (by omega)
  have cx : ¬ (nI (330 + 10 * l + q / 200) < 0 ∨ 6819 ≤ (nI (330 + 10 * l + q / 200)).toNatClampNeg) := ckI (by omega) (by omega)
  have c50 : ¬ (nI (50 + l) < 0 ∨ 6819 ≤ (nI (50 + l)).toNatClampNeg) := ckI (by omega) (by omega)
  have c90 : ¬ (nI (90 + l) < 0 ∨ 6819 ≤ (nI (90 + l)).toNatClampNeg) := ckI (by omega) (by omega)
  have c100 : ¬ (nI (100 + l) < 0 ∨ 6819 ≤ (nI (100 + l)).toNatClampNeg) := ckI (by omega) (by omega)
  have n1 : (nI (q / 200)).toNatClampNeg = q / 200 := nI_clamp (by omega)
  have n2 : (nI q).toNatClampNeg = q := nI_clamp (by omega)
  have n3 : (nI (330 + 10 * l + q / 200)).toNatClampNeg = 330 + 10 * l + q / 200 := nI_clamp (by omega)
  have n4 : (nI (50 + l)).toNatClampNeg = 50 + l := nI_clamp (by omega)
  have n5 : (nI (90 + l)).toNatClampNeg = 90 + l := nI_clamp (by omega)
  have n6 : (nI (100 + l)).toNatClampNeg = 100 + l := nI_clamp (by omega)
  unfold m_X4_take m_X6_takes
  simp only [p_src hq, p_nbr hq, Option.bind_some, ix, i50, i90, i100, if_neg c10, if_neg cq, if_neg cx, if_neg c50, if_neg c90, if_neg c100, ltm]
  simp only [n1, n2, n3, n4, n5, n6, E_letter2 hq, Option.bind_some, e15]
  by_cases c : f 1 0 (330 + 10 * l + q / 200) < nI (q % 200 + 1)
  · rw [if_pos c, if_pos c]
    have h1 := h.set (k := 15) (i := l) (x := q / 200) (a := 330 + 10 * l + q / 200) (v := nI (q % 200 + 1)) (by unfold Sc; omega) (by unfold plain; omega) (okf (by omega)) rfl
    generalize hg1 : upr g 15 l (upd (g 15 l) (q / 200) (nI (q % 200 + 1))) = g1 at h1 ⊢
    generalize hf1 : upr f 1 0 (upd (f 1 0) (330 + 10 * l + q / 200) (nI (q % 200 + 1))) = f1 at h1 ⊢
    have e7 : g1 7 0 q = f1 1 0 (812 + 3 * q) := h1.2.2.s (by unfold Sc; omega) rfl
    have h2 := h1.set (k := 13) (i := l) (x := 5) (a := 50 + l) (v := g1 7 0 q) (by unfold Sc; omega) (by unfold plain; omega) (okf (by omega)) rfl
    rw [e7] at h2 ⊢
    generalize hg2 : upr g1 13 l (upd (g1 13 l) 5 (f1 1 0 (812 + 3 * q))) = g2 at h2 ⊢
    generalize hf2 : upr f1 1 0 (upd (f1 1 0) (50 + l) (f1 1 0 (812 + 3 * q))) = f2 at h2 ⊢
    have e9 : g2 13 l 9 = f2 1 0 (90 + l) := h2.2.2.s (by unfold Sc; omega) rfl
    have h3 := h2.set (k := 13) (i := l) (x := 9) (a := 90 + l) (v := g2 13 l 9 + 1) (by unfold Sc; omega) (by unfold plain; omega) (okf (by omega)) rfl
    rw [← e9]
    refine ⟨1, _, _, Or.inr rfl, rfl, rfl, h3, ?_, fun k k1 k2 => ?_, fun i => ?_⟩
    · rw [upr_eq, upd_s, ← hg2, upr_eq, upd_n (by omega), ← hg1, upr_k (by omega)]
    · rw [upr_k k1, ← hg2, upr_k k1, ← hg1, upr_k k2]
    · rw [upr_f (by omega), ← hg2, upr_f (by omega), ← hg1, upr_k (by omega)]
  · rw [if_neg c, if_neg c]
    have e10 : g 13 l 10 = f 1 0 (100 + l) := h.2.2.s (by unfold Sc; omega) rfl
    have h1 := h.set (k := 13) (i := l) (x := 10) (a := 100 + l) (v := g 13 l 10 + 1) (by unfold Sc; omega) (by unfold plain; omega) (okf (by omega)) rfl
    rw [← e10]
    refine ⟨0, _, _, Or.inl rfl, rfl, rfl, h1, ?_, fun k k1 k2 => ?_, fun i => ?_⟩
    · rw [upr_eq, upd_n (by omega), Int32.add_zero]
    · rw [upr_k k1]
    · rw [upr_f (by omega)]
/-- a counter goes up by one, on both sides -/
theorem s_inc (h : RR g0 f0 Bk Bt D δ g f) {l x : Nat} (hl : l < 10) (hx : 9 ≤ x) (hx2 : x ≤ 14) : RR g0 f0 Bk Bt D δ (upr g 13 l (upd (g 13 l) x (g 13 l x + 1))) (upr f 1 0 (upd (f 1 0) (10 * x + l) (f 1 0 (10 * x + l) + 1))) := by
  have e : g 13 l x = f 1 0 (10 * x + l) := h.2.2.s (by unfold Sc; omega) (by simp only [adr]; rw [if_neg (by omega)])
  rw [← e]
  exact h.set (by unfold Sc; omega) (by unfold plain; omega) (okf (by omega)) (by simp only [adr]; rw [if_neg (by omega)])
end SIM
