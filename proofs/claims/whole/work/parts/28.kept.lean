section KEPT
theorem c_dropk {F l : Nat} : ∀ (n k i left gone : Nat) (g : Mem), i + n = left → left + gone ≤ 3 → 1 ≤ gone → n < k → lp_X3_dropOldestk_25 F k l g (nI left) (nI gone) (nI i) = some (0, upr (upr g 19 l (sh (g 19 l) i left gone)) 18 l (upd (g 18 l) 1 (nI left))) := by
  intro n
  induction n with
  | zero =>
    intro k i left gone g h1 h2 h3 h4
    obtain ⟨k, rfl⟩ : ∃ z, k = z + 1 := ⟨k - 1, by omega⟩
    show st_X3_dropOldestk_25 F (lp_X3_dropOldestk_25 F k l) l g (nI left) (nI gone) (nI i) = _
    unfold st_X3_dropOldestk_25
    rw [if_pos ((nI_leI (by omega) (by omega)).mpr (by omega)), sh_0 (by omega), upr_id]
    rfl
  | succ n ih =>
    intro k i left gone g h1 h2 h3 h4
    obtain ⟨k, rfl⟩ : ∃ z, k = z + 1 := ⟨k - 1, by omega⟩
    show st_X3_dropOldestk_25 F (lp_X3_dropOldestk_25 F k l) l g (nI left) (nI gone) (nI i) = _
    unfold st_X3_dropOldestk_25
    rw [if_neg (fun z => by have := (nI_leI (by omega) (by omega)).mp z; omega), nI_add, if_neg (ckI (by omega) (by omega)), if_neg (ckI (by omega) (by omega)), nI_clamp (by omega), nI_clamp (by omega), nI_1]
    simp only [ltm]
    rw [ih k (i + 1) left gone _ (by omega) h2 h3 (by omega), upr_eq, upr_upr, sh_s h3 (by omega), upr_k (by omega)]
theorem c_dropK {F l a m : Nat} {g : Mem} (hF : 20 ≤ F) (ha : a ≤ 3) (em : g 18 l 1 = nI a) : m_X3_dropOldestk F l g (nI m) = some (0, if a ≤ m then g else upr (upr g 19 l (sh (g 19 l) 0 m (a - m))) 18 l (upd (g 18 l) 1 (nI m))) ∨ ¬ m ≤ 3 := by
  by_cases hm : m ≤ 3
  · refine Or.inl ?_
    unfold m_X3_dropOldestk
    rw [em]
    by_cases h0 : m = 0
    · subst h0
      rw [if_pos (show nI 0 ≤ 0 by decide), show (nI a - (0 : Int32)) = nI a from sbI (Nat.zero_le a)]
      by_cases h1 : a ≤ 0
      · rw [if_neg (fun z => by have := (nI_ltI (a := 0) (by omega) (by omega)).mp z; omega), if_pos h1]
      · rw [if_pos (show 0 < nI a from (nI_ltI (a := 0) (by omega) (by omega)).mpr (by omega)), if_neg h1]
        exact c_dropk 0 F 0 0 a g (by omega) (by omega) (by omega) (by omega)
    · rw [if_neg (fun z => by have := (nI_leI (b := 0) (by omega) (by omega)).mp z; omega)]
      by_cases h1 : a ≤ m
      · rw [if_pos h1, if_neg]
        intro z
        by_cases e : a = m
        · subst e
          rw [sbI (Nat.le_refl a), Nat.sub_self] at z
          exact absurd z (by decide)
        · have k1 := pk_sneg (a := a) (b := m) (by omega) (by omega)
          have k2 := Int32.lt_iff_toInt_lt.mp z
          have k3 := Int32.lt_iff_toInt_lt.mp k1
          omega
      · rw [sbI (by omega), if_pos (show 0 < nI (a - m) from (nI_ltI (a := 0) (by omega) (by omega)).mpr (by omega)), if_neg h1]
        exact c_dropk m F 0 m (a - m) g (by omega) (by omega) (by omega) (by omega)
  · exact Or.inr hm
theorem c_addk {F l a c d q : Nat} {g : Mem} (hF : 20 ≤ F) (hc : c ≤ 3) (hd : (a < c ∧ d = 0) ∨ (a = c ∧ d = 1 ∧ 1 ≤ c)) (em : g 18 l 1 = nI a) : ∃ g' : Mem, m_X3_addk F l g (nI q) (nI c) = some (0, g') ∧ (∀ k i : Nat, ¬ ((k = 18 ∨ k = 19) ∧ i = l) → g' k i = g k i) ∧ g' 18 l 1 = nI (a + 1 - d) ∧ (∀ i : Nat, i < a - d → g' 19 l i = g 19 l (i + d)) ∧ g' 19 l (a - d) = nI q := by
  unfold m_X3_addk
  rw [show (nI c - (1 : Int32)) = nI (c - 1) from sbI (b := 1) (by omega)]
  have h1 := (c_dropK (F := F) (l := l) (m := c - 1) hF (by omega) em).resolve_right (by omega)
  rcases hd with ⟨h2, rfl⟩ | ⟨rfl, rfl, h3⟩
  · rw [if_pos (show a ≤ c - 1 by omega)] at h1
    rw [h1, Option.bind_some]
    dsimp only
    rw [em, if_neg (fun z => by have := (nI_leI (by omega) (by omega)).mp z; omega), if_neg (fun z => by have := (nI_leI (a := 3) (by omega) (by omega)).mp z; omega), if_neg (ckI (by omega) (by omega)), nI_clamp (by omega)]
    simp only [ltm]
    refine ⟨_, rfl, ?_, ?_, ?_, ?_⟩
    · intro k i h
      rw [upr_ne (by omega), upr_ne (by omega)]
    · rw [upr_eq, upd_s, upr_k (by omega), em, nI_1]
      rfl
    · intro i hi
      rw [upr_k (by omega), upr_eq, upd_n (by omega)]
      rfl
    · rw [upr_k (by omega), upr_eq]
      exact upd_s
  · rw [if_neg (show ¬ a ≤ a - 1 by omega), show a - (a - 1) = 1 by omega] at h1
    rw [h1, Option.bind_some]
    dsimp only
    rw [upr_eq, upd_s, if_neg (fun z => by have := (nI_leI (by omega) (by omega)).mp z; omega), if_neg (fun z => by have := (nI_leI (a := 3) (by omega) (by omega)).mp z; omega), if_neg (ckI (by omega) (by omega)), nI_clamp (by omega)]
    simp only [ltm]
    refine ⟨_, rfl, ?_, ?_, ?_, ?_⟩
    · intro k i h
      rw [upr_ne (by omega), upr_ne (by omega), upr_ne (by omega), upr_ne (by omega)]
    · rw [upr_eq, upd_s, upr_k (by omega), upr_eq, upd_s, nI_1]
      congr 1
      omega
    · intro i hi
      rw [upr_k (by omega), upr_eq, upd_n (by omega), upr_k (by omega), upr_eq, sh_in (by omega) (by omega)]
    · rw [upr_k (by omega), upr_eq]
      exact upd_s
/-- the reference's row behind keepFor -/
def kem (r : Nat → Int32) (l b : Nat) (s n : Int32) : Nat → Int32 := upd (upd (upd r (430 + 6 * l + 2 * b) s) (431 + 6 * l + 2 * b) n) (150 + l) (nI (b + 1))
theorem m_kf27 {F l : Nat} (hl : l < 10) {s t : Int32} : ∀ (n k x : Nat) (f : Mem), x + n = 4 → n < k → lp_X6_keepFor_27 F k f (nI l) s t (nI (430 + 6 * l)) (nI x) = some (0, upr f 1 0 (kem (upd (sh (f 1 0) (430 + 6 * l + x) (430 + 6 * l + 4) 2) (150 + l) (nI 2)) l 2 s t)) := by
  intro n
  have i150 : ((150 : Int32) + nI l) = nI (150 + l) := nI_add 150 l
  have c150 : ¬ (nI (150 + l) < 0 ∨ 6819 ≤ (nI (150 + l)).toNatClampNeg) := ckI (by omega) (by omega)
  have n150 : (nI (150 + l)).toNatClampNeg = 150 + l := nI_clamp (by omega)
  induction n with
  | zero =>
    intro k x f h1 h4
    obtain ⟨k, rfl⟩ : ∃ z, k = z + 1 := ⟨k - 1, by omega⟩
    obtain rfl : x = 4 := by omega
    show st_X6_keepFor_27 F (lp_X6_keepFor_27 F k) f (nI l) s t (nI (430 + 6 * l)) (nI 4) = _
    unfold st_X6_keepFor_27
    have ia : (nI (430 + 6 * l) + (2 : Int32) * (2 : Int32)) = nI (430 + 6 * l + 2 * 2) := by simp only [L2, pk_mul, nI_add]
    have ib : (nI (430 + 6 * l + 2 * 2) + (1 : Int32)) = nI (431 + 6 * l + 2 * 2) := by
      rw [L1, nI_add]
      congr 1
      omega
    have ca : ¬ (nI (430 + 6 * l + 2 * 2) < 0 ∨ 6819 ≤ (nI (430 + 6 * l + 2 * 2)).toNatClampNeg) := ckI (by omega) (by omega)
    have cb : ¬ (nI (431 + 6 * l + 2 * 2) < 0 ∨ 6819 ≤ (nI (431 + 6 * l + 2 * 2)).toNatClampNeg) := ckI (by omega) (by omega)
    have na : (nI (430 + 6 * l + 2 * 2)).toNatClampNeg = 430 + 6 * l + 2 * 2 := nI_clamp (by omega)
    have nb : (nI (431 + 6 * l + 2 * 2)).toNatClampNeg = 431 + 6 * l + 2 * 2 := nI_clamp (by omega)
    have k4 : (4 : Int32) ≤ nI 4 := by decide
    simp only [if_pos k4, i150, if_neg c150]
    simp only [n150, ltm, upr_eq, upr_upr, upd_s, ia, ib, if_neg ca]
    simp only [na]
    rw [upd_n (show 150 + l ≠ 430 + 6 * l + 2 * 2 by omega), upd_s, ia, ib, if_neg cb, nb]
    rw [upd_n (show 150 + l ≠ 431 + 6 * l + 2 * 2 by omega), upd_n (show 150 + l ≠ 430 + 6 * l + 2 * 2 by omega), upd_s, sh_0 (by omega)]
    rfl
  | succ n ih =>
    intro k x f h1 h4
    obtain ⟨k, rfl⟩ : ∃ z, k = z + 1 := ⟨k - 1, by omega⟩
    show st_X6_keepFor_27 F (lp_X6_keepFor_27 F k) f (nI l) s t (nI (430 + 6 * l)) (nI x) = _
    unfold st_X6_keepFor_27
    rw [if_neg (fun z => by have := (nI_leI (a := 4) (by omega) (by omega)).mp z; omega), nI_add, show (nI (430 + 6 * l + x) + (2 : Int32)) = nI (430 + 6 * l + x + 2) from nI_add _ 2, if_neg (ckI (show 430 + 6 * l + x + 2 < 6819 by omega) (by omega)), if_neg (ckI (show 430 + 6 * l + x < 6819 by omega) (by omega)), nI_clamp (show 430 + 6 * l + x < 2 ^ 31 by omega), nI_clamp (show 430 + 6 * l + x + 2 < 2 ^ 31 by omega), nI_1]
    simp only [ltm]
    rw [ih k (x + 1) _ (by omega) (by omega), upr_eq, upr_upr, show 430 + 6 * l + (x + 1) = 430 + 6 * l + x + 1 by omega, sh_s (by omega) (by omega)]
theorem m_keep {F l a d : Nat} {f : Mem} {s t : Int32} (hl : l < 10) (hF : 20 ≤ F) (hd : (a < 3 ∧ d = 0) ∨ (a = 3 ∧ d = 1)) (ea : f 1 0 (150 + l) = nI a) : ∃ σ : Nat → Int32, m_X6_keepFor F f (nI l) s t = some (0, upr f 1 0 σ) ∧ (∀ x : Nat, x ≠ 150 + l → ¬ (430 + 6 * l ≤ x ∧ x < 436 + 6 * l) → σ x = f 1 0 x) ∧ σ (150 + l) = nI (a + 1 - d) ∧ (∀ i : Nat, i < a - d → σ (430 + 6 * l + 2 * i) = f 1 0 (430 + 6 * l + 2 * (i + d)) ∧ σ (431 + 6 * l + 2 * i) = f 1 0 (431 + 6 * l + 2 * (i + d))) ∧ σ (430 + 6 * l + 2 * (a - d)) = s ∧ σ (431 + 6 * l + 2 * (a - d)) = t := by
  have i150 : ((150 : Int32) + nI l) = nI (150 + l) := nI_add 150 l
  have c150 : ¬ (nI (150 + l) < 0 ∨ 6819 ≤ (nI (150 + l)).toNatClampNeg) := ckI (by omega) (by omega)
  have n150 : (nI (150 + l)).toNatClampNeg = 150 + l := nI_clamp (by omega)
  have i430 : ((430 : Int32) + (6 : Int32) * nI l) = nI (430 + 6 * l) := by simp only [L430, L6, pk_mul, nI_add]
  unfold m_X6_keepFor
  simp only [i150, if_neg c150, i430]
  simp only [n150, ea]
  rcases hd with ⟨h2, rfl⟩ | ⟨rfl, rfl⟩
  · rw [if_neg (fun z => by have := nIi (b := 3) (by omega) (by omega) z; omega)]
    have ia : (nI (430 + 6 * l) + (2 : Int32) * nI a) = nI (430 + 6 * l + 2 * a) := by simp only [L2, pk_mul, nI_add]
    have ib : (nI (430 + 6 * l + 2 * a) + (1 : Int32)) = nI (431 + 6 * l + 2 * a) := by
      rw [L1, nI_add]
      congr 1
      omega
    simp only [ia, ltm, upr_eq, upr_upr]
    rw [if_neg (ckI (show 430 + 6 * l + 2 * a < 6819 by omega) (by omega)), nI_clamp (show 430 + 6 * l + 2 * a < 2 ^ 31 by omega)]
    rw [upd_n (show 150 + l ≠ 430 + 6 * l + 2 * a by omega), ea, ia, ib, if_neg (ckI (show 431 + 6 * l + 2 * a < 6819 by omega) (by omega)), nI_clamp (show 431 + 6 * l + 2 * a < 2 ^ 31 by omega)]
    rw [upd_n (show 150 + l ≠ 431 + 6 * l + 2 * a by omega), upd_n (show 150 + l ≠ 430 + 6 * l + 2 * a by omega), ea, nI_1]
    refine ⟨_, rfl, ?_, upd_s, ?_, ?_, ?_⟩
    · intro x h4 h5
      rw [upd_n h4, upd_n (by omega), upd_n (by omega)]
    · intro i hi
      rw [upd_n (by omega), upd_n (by omega), upd_n (by omega), upd_n (by omega), upd_n (by omega), upd_n (by omega)]
      exact ⟨rfl, rfl⟩
    · rw [upd_n (by omega), upd_n (by omega)]
      exact upd_s
    · rw [upd_n (by omega)]
      exact upd_s
  · rw [if_pos (show nI 3 = 3 from rfl), show (0 : Int32) = nI 0 from rfl, m_kf27 hl 4 F 0 f (by omega) (by omega)]
    refine ⟨_, rfl, ?_, ?_, ?_, ?_, ?_⟩
    · intro x h4 h5
      unfold kem
      rw [upd_n h4, upd_n (by omega), upd_n (by omega), upd_n h4, sh_out (by omega)]
    · unfold kem
      rw [upd_s]
    · intro i hi
      unfold kem
      rw [upd_n (by omega), upd_n (by omega), upd_n (by omega), upd_n (by omega), upd_n (by omega), upd_n (by omega), upd_n (by omega), upd_n (by omega), sh_in (by omega) (by omega), sh_in (by omega) (by omega)]
      exact ⟨rfl, by congr 1⟩
    · unfold kem
      rw [upd_n (by omega), upd_n (by omega), upd_s]
    · unfold kem
      rw [upd_n (by omega), upd_s]
variable {g0 f0 g f : Mem} {Bk Bt D δ : Nat}
/-- KEPT as the latest of up to three -/
theorem s_keep (h : RR g0 f0 Bk Bt D δ g f) {l q F : Nat} (hl : l < 10) (hq : q < 2000) (hF : 20 ≤ F) : ∃ g' f' : Mem, m_X3_addk F l g (nI q) 3 = some (0, g') ∧ m_X6_keepFor F f (nI l) (nI (q / 200)) (nI (q % 200 + 1)) = some (0, f') ∧ RR g0 f0 Bk Bt D δ g' f' ∧ (∀ k : Nat, k ≠ 18 → k ≠ 19 → g' k = g k) := by
  obtain ⟨em, hm⟩ := h.2.2.k hl
  have e18 : g 18 l 1 = f 1 0 (150 + l) := h.2.2.s (by unfold Sc; omega) rfl
  have hr := h.2.2.2.2.2.1
  generalize ha : kz g l = a at em hm
  obtain ⟨d, hd⟩ : ∃ d : Nat, (a < 3 ∧ d = 0) ∨ (a = 3 ∧ d = 1) := by
    rcases Nat.lt_or_ge a 3 with z | z
    · exact ⟨0, Or.inl ⟨z, rfl⟩⟩
    · exact ⟨1, Or.inr ⟨by omega, rfl⟩⟩
  obtain ⟨g', k1, k2, k3, k4, k5⟩ := c_addk (c := 3) (d := d) (q := q) hF (by omega) (by omega) em
  obtain ⟨σ, j1, j2, j3, j4, j5, j6⟩ := m_keep (f := f) (s := nI (q / 200)) (t := nI (q % 200 + 1)) hl hF hd (by rw [← e18, em])
  refine ⟨g', upr f 1 0 σ, k1, j1, ⟨fun k hk => ?_, fun k hk => ?_, ?_⟩, fun k z1 z2 => ?_⟩
  · rw [← h.1 k hk]
    funext i
    exact k2 k i (by omega)
  · rw [upr_k hk]
    exact h.2.1 k hk
  · rw [upr_eq]
    refine h.2.2.kept (a := a + 1 - d) hl (by omega) k2 k3 j2 j3 (fun i hi => ?_)
    by_cases e : i = a - d
    · subst e
      rw [k5, j5, j6]
      exact ⟨q, hq, rfl, rfl, rfl⟩
    · rw [k4 i (by omega), (j4 i (by omega)).1, (j4 i (by omega)).2]
      exact hr l (i + d) hl (by omega)
  · funext i
    exact k2 k i (by omega)
/-- nothing is KEPT for it any more -/
theorem s_k0 (h : RR g0 f0 Bk Bt D δ g f) {l F : Nat} (hl : l < 10) (hF : 20 ≤ F) : ∃ g' : Mem, m_X3_dropOldestk F l g 0 = some (0, g') ∧ RR g0 f0 Bk Bt D δ g' (upr f 1 0 (upd (f 1 0) (150 + l) 0)) ∧ (∀ k : Nat, k ≠ 18 → k ≠ 19 → g' k = g k) := by
  obtain ⟨em, hm⟩ := h.2.2.k hl
  generalize ha : kz g l = a at em hm
  have h1 := (c_dropK (F := F) (m := 0) hF hm em).resolve_right (by omega)
  obtain ⟨g', hg, k2, k3⟩ : ∃ g' : Mem, m_X3_dropOldestk F l g 0 = some (0, g') ∧ (∀ k i : Nat, ¬ ((k = 18 ∨ k = 19) ∧ i = l) → g' k i = g k i) ∧ g' 18 l 1 = nI 0 := by
    refine ⟨_, h1, ?_, ?_⟩
    · intro k i z
      split
      · rfl
      · rw [upr_ne (by omega), upr_ne (by omega)]
    · split
      · rw [em]
        congr 1
        omega
      · rw [upr_eq, upd_s]
  refine ⟨g', hg, ⟨fun k hk => ?_, fun k hk => ?_, ?_⟩, fun k z1 z2 => ?_⟩
  · rw [← h.1 k hk]
    funext i
    exact k2 k i (by omega)
  · rw [upr_k hk]
    exact h.2.1 k hk
  · rw [upr_eq]
    exact h.2.2.kept (a := 0) hl (by omega) k2 k3 (fun x z1 _ => upd_n z1) upd_s (fun i hi => by omega)
  · funext i
    exact k2 k i (by omega)
end KEPT
