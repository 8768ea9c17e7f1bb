section SPEAK
variable {g0 f0 g f : Mem} {Bk Bt D δ : Nat}
theorem upd_id {r : Nat → Int32} {a : Nat} : upd r a (r a) = r := by
  funext x
  by_cases h : x = a
  · subst h
    exact upd_s
  · exact upd_n h
/-- one LAMP that may hear -/
theorem s_spk1 (h : RR g0 f0 Bk Bt D δ g f) {p q c x F : Nat} {Hs own : Int32} (hp : p < 10) (hx : x < 10) (hq : q < 2000) (hc1 : 1 ≤ c) (hc : c ≤ 7) (hδ : δ ≤ 1) (hB : Bt < 1000000) (hBk : Bk < 1000000) (hD : tk g + 9 * c ≤ D) (hF : 20 ≤ F) (hH : isI Hs (nI x) = 1 ↔ (isI (g 13 p 4) (nI x) = 1 ∨ (own = 0 ∧ x = p))) : ∃ g' f' : Mem, RR g0 f0 Bk Bt D δ g' f' ∧ AX g g' ∧ (∀ K, st_X4_speak_104 F K g (nI q) (nI c) Hs (nI x) = K g' (nI q) (nI c) Hs (nI (x + 1))) ∧ (∀ K, st_X6_speaks_159 F K f (nI (q / 200)) (nI (q % 200 + 1)) (nI c) own (nI p) (nI x) = K f' (nI (q / 200)) (nI (q % 200 + 1)) (nI c) own (nI p) (nI (x + 1))) := by
  have e4 : g 13 p 4 = f 1 0 p := h.2.2.s (by unfold Sc; omega) rfl
  have e6 : g 13 x 6 = f 1 0 (60 + x) := h.2.2.s (by unfold Sc; omega) rfl
  have ip : ((0 : Int32) + nI p) = nI p := by
    show nI 0 + nI p = nI p
    rw [nI_add, Nat.zero_add]
  have cp : ¬ (nI p < 0 ∨ 6819 ≤ (nI p).toNatClampNeg) := ckI (by omega) (by omega)
  have np : (nI p).toNatClampNeg = p := nI_clamp (by omega)
  have cx : ¬ (nI x < 0 ∨ 10 ≤ (nI x).toNatClampNeg) := ckI (by omega) (by omega)
  have nx : (nI x).toNatClampNeg = x := nI_clamp (by omega)
  have c10 : ¬ ((10 : Int32) ≤ nI x) := fun z => by have := (nI_leI (a := 10) (by omega) (by omega)).mp z; omega
  have p1 : (nI x + (1 : Int32)) = nI (x + 1) := nI_1 x
  have z10 : ¬ ((1 : Int32) = 0) := by decide
  have exp : (nI x = nI p) ↔ x = p := nI_eq (by omega) (by omega)
  have hsl : (if f 1 0 (60 + x) = 1 then (1 : Int32) else 0) = g 13 x 6 := by
    rcases h.2.2.sl hx with z | z
    · rw [if_neg (by rw [← e6, z]; decide), z]
    · rw [if_pos (by rw [← e6, z]), z]
  obtain ⟨gh, fh, k1, k2, k3, k4⟩ := s_hear h (F := F) hx hq hc1 hc hδ hB hBk hD hF
  -- what each side does, by whether it is near and whether it sleeps
  have hC : ∀ K, st_X4_speak_104 F K g (nI q) (nI c) Hs (nI x) = if isI Hs (nI x) = 0 then K g (nI q) (nI c) Hs (nI (x + 1)) else if g 13 x 6 = 0 then K gh (nI q) (nI c) Hs (nI (x + 1)) else K g (nI q) (nI c) Hs (nI (x + 1)) := by
    intro K
    unfold st_X4_speak_104
    simp only [if_neg c10, p_isIn, Option.bind_some, if_neg cx, p1, k1]
    simp only [nx]
  have hM : ∀ K, st_X6_speaks_159 F K f (nI (q / 200)) (nI (q % 200 + 1)) (nI c) own (nI p) (nI x) = if isI (g 13 p 4) (nI x) = 0 then (if own = 0 then (if nI x = nI p then (if g 13 x 6 = 0 then K fh (nI (q / 200)) (nI (q % 200 + 1)) (nI c) own (nI p) (nI (x + 1)) else K f (nI (q / 200)) (nI (q % 200 + 1)) (nI c) own (nI p) (nI (x + 1))) else K f (nI (q / 200)) (nI (q % 200 + 1)) (nI c) own (nI p) (nI (x + 1))) else K f (nI (q / 200)) (nI (q % 200 + 1)) (nI c) own (nI p) (nI (x + 1))) else (if g 13 x 6 = 0 then K fh (nI (q / 200)) (nI (q % 200 + 1)) (nI c) own (nI p) (nI (x + 1)) else K f (nI (q / 200)) (nI (q % 200 + 1)) (nI c) own (nI p) (nI (x + 1))) := by
    intro K
    unfold st_X6_speaks_159
    simp only [if_neg c10, ip, if_neg cp, p_isOf, Option.bind_some, p1, E_sleeps hx, k2, hsl]
    simp only [np, e4]
  have run : ∀ b : Prop, [Decidable b] → True := fun _ _ => trivial
  by_cases n1 : isI Hs (nI x) = 1
  · have n0 : ¬ isI Hs (nI x) = 0 := by rw [n1]; decide
    have hnear := hH.mp n1
    by_cases s0 : g 13 x 6 = 0
    · refine ⟨gh, fh, k3, k4, fun K => ?_, fun K => ?_⟩
      · rw [hC K, if_neg n0, if_pos s0]
      · rw [hM K]
        by_cases m1 : isI (g 13 p 4) (nI x) = 0
        · have hn := hnear.resolve_left (by rw [m1]; decide)
          rw [if_pos m1, if_pos hn.1, if_pos (exp.mpr hn.2), if_pos s0]
        · rw [if_neg m1, if_pos s0]
    · refine ⟨g, f, h, AX.rf, fun K => ?_, fun K => ?_⟩
      · rw [hC K, if_neg n0, if_neg s0]
      · rw [hM K]
        simp only [if_neg s0, ite_self]
  · have n0 : isI Hs (nI x) = 0 := (isI01 Hs (nI x)).resolve_right n1
    have hfar : ¬ (isI (g 13 p 4) (nI x) = 1 ∨ (own = 0 ∧ x = p)) := fun z => n1 (hH.mpr z)
    refine ⟨g, f, h, AX.rf, fun K => ?_, fun K => ?_⟩
    · rw [hC K, if_pos n0]
    · have m1 : isI (g 13 p 4) (nI x) = 0 := (isI01 _ _).resolve_right (fun z => hfar (Or.inl z))
      rw [hM K, if_pos m1]
      by_cases o : own = 0
      · rw [if_pos o, if_neg (fun z => hfar (Or.inr ⟨o, exp.mp z⟩))]
      · rw [if_neg o]
theorem s_spk {p q c F : Nat} {Hs own Lk : Int32} (hp : p < 10) (hq : q < 2000) (hc1 : 1 ≤ c) (hc : c ≤ 7) (hδ : δ ≤ 1) (hB : Bt < 1000000) (hBk : Bk < 1000000) (hF : 20 ≤ F) (hH : ∀ x : Nat, x < 10 → (isI Hs (nI x) = 1 ↔ (isI Lk (nI x) = 1 ∨ (own = 0 ∧ x = p)))) : ∀ (n x : Nat) (g f : Mem), x + n = 10 → RR g0 f0 Bk Bt D δ g f → tk g + 9 * c ≤ D → g 13 p 4 = Lk → ∃ g' f' : Mem, RR g0 f0 Bk Bt D δ g' f' ∧ AX g g' ∧ (∀ k : Nat, n < k → lp_X4_speak_104 F k g (nI q) (nI c) Hs (nI x) = some (0, g')) ∧ (∀ k : Nat, n < k → lp_X6_speaks_159 F k f (nI (q / 200)) (nI (q % 200 + 1)) (nI c) own (nI p) (nI x) = some (1, f')) := by
  intro n
  induction n with
  | zero =>
    intro x g f hx h hD hL
    obtain rfl : x = 10 := by omega
    refine ⟨g, f, h, AX.rf, fun k hk => ?_, fun k hk => ?_⟩
    · obtain ⟨k, rfl⟩ : ∃ z, k = z + 1 := ⟨k - 1, by omega⟩
      show st_X4_speak_104 F (lp_X4_speak_104 F k) g (nI q) (nI c) Hs (nI 10) = _
      unfold st_X4_speak_104
      rw [if_pos (by decide)]
    · obtain ⟨k, rfl⟩ : ∃ z, k = z + 1 := ⟨k - 1, by omega⟩
      show st_X6_speaks_159 F (lp_X6_speaks_159 F k) f (nI (q / 200)) (nI (q % 200 + 1)) (nI c) own (nI p) (nI 10) = _
      unfold st_X6_speaks_159
      rw [if_pos (by decide)]
  | succ n ih =>
    intro x g f hx h hD hL
    obtain ⟨g1, f1, k1, k2, k3, k4⟩ := s_spk1 h (x := x) (Hs := Hs) (own := own) (F := F) hp (by omega) hq hc1 hc hδ hB hBk hD hF (by rw [hL]; exact hH x (by omega))
    have ht : tk g1 = tk g := by unfold tk; rw [k2.1]
    obtain ⟨g2, f2, j1, j2, j3, j4⟩ := ih (x + 1) g1 f1 (by omega) k1 (by omega) (by rw [k2.2.2.2.2.2]; exact hL)
    refine ⟨g2, f2, j1, k2.tr j2, fun k hk => ?_, fun k hk => ?_⟩
    · obtain ⟨k, rfl⟩ : ∃ z, k = z + 1 := ⟨k - 1, by omega⟩
      show st_X4_speak_104 F (lp_X4_speak_104 F k) g (nI q) (nI c) Hs (nI x) = _
      rw [k3]
      exact j3 k (by omega)
    · obtain ⟨k, rfl⟩ : ∃ z, k = z + 1 := ⟨k - 1, by omega⟩
      show st_X6_speaks_159 F (lp_X6_speaks_159 F k) f (nI (q / 200)) (nI (q % 200 + 1)) (nI c) own (nI p) (nI x) = _
      rw [k4]
      exact j4 k (by omega)
end SPEAK
