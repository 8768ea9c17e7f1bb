theorem upr_c {g : Mem} {k i k' i' : Nat} {r r' : Nat → Int32} (h : k ≠ k') : upr (upr g k i r) k' i' r' = upr (upr g k' i' r') k i r := by
  funext x y
  by_cases h1 : x = k' ∧ y = i'
  · obtain ⟨rfl, rfl⟩ := h1
    rw [upr_eq, upr_ne (by omega), upr_eq]
  · rw [upr_ne h1]
    by_cases h2 : x = k ∧ y = i
    · obtain ⟨rfl, rfl⟩ := h2
      rw [upr_eq, upr_eq]
    · rw [upr_ne h2, upr_ne h2, upr_ne h1]
theorem sh_upd {r : Nat → Int32} {lo hi d b : Nat} {x : Int32} (h : b < lo) : sh (upd r b x) lo hi d = upd (sh r lo hi d) b x := by
  funext a
  by_cases h1 : lo ≤ a ∧ a < hi
  · rw [sh_in h1.1 h1.2, upd_n (by omega), upd_n (by omega), sh_in h1.1 h1.2]
  · rw [sh_out (by omega)]
    by_cases h2 : a = b
    · subst h2
      rw [upd_s, upd_s]
    · rw [upd_n h2, upd_n h2, sh_out (by omega)]
theorem X1.mset {g : Mem} {l v : Nat} (h : X1 g) (hm : mz g l ≤ v) (hv : v < 100) : X1 (upr g 14 l (upd (g 14 l) 2 (nI v))) := by
  intro l' hl'
  show mz g l' ≤ _
  by_cases y : l' = l
  · subst y
    rw [upr_eq, upd_s, nI_clamp (by omega)]
    exact hm
  · rw [upr_ne (by omega)]
    exact h l' hl'
section PUB3
variable {g0 f0 g f : Mem} {B Bk Bt D δ Bk' : Nat}
theorem pp_give (h : RP g0 f0 B g f) {F : Nat} (hF : 20 ≤ F) (a : Int32) : PS g0 f0 B (m_X5_give g a) (m_X6_give F f a) := by
  have e5 := h.2.2.s (k := 2) (i := 0) (x := 5) (a := 6812) (by unfold Sc; omega) rfl
  have e7 := h.2.2.s (k := 2) (i := 0) (x := 7) (a := 6814) (by unfold Sc; omega) rfl
  unfold m_X5_give m_X6_give
  simp only [p_lamp, p_lamp6, p_chg, Option.bind_some, ltm, ← e5, ← e7]
  by_cases z : btw a 0 9 = 0
  · simp only [if_pos z]
    exact PS.rd h rfl rfl
  · simp only [if_neg z]
    by_cases z2 : g 2 0 5 = 0
    · simp only [if_pos z2]
      exact PS.rd h rfl rfl
    · simp only [if_neg z2]
      obtain ⟨l, hl, rfl⟩ := btw_l z
      obtain ⟨b, hb, eb⟩ := (h.2.2.2.1 2 0 7 (by unfold Sc; omega)).2.2.2.2.2.2.2.2.2.2.2.2.2 rfl rfl
      obtain ⟨b', hb', eb'⟩ := chg_lt hb hl 1
      have e3 : ∀ (s i : Int32), s ||| (1 <<< (i &&& 31)) = chg s i 1 := fun s i => by unfold chg; rw [if_neg (by decide)]
      have h1 := RR.setx h (k := 2) (i := 0) (x := 7) (a := 6814) (v := nI b') (by unfold Sc; omega) (by omega) (by omega) (by omega) (Nat.le_refl _) ⟨by omega, by omega, by omega, by omega, by omega, by omega, by omega, by omega, by omega, by omega, by omega, by omega, by omega, fun _ _ => ⟨b', hb', rfl⟩⟩ rfl h.2.2.2.2.2.2.2.1 (fun y => absurd (by rw [upr_eq, upd_n (by omega)] at y; exact y) z2) h.2.2.2.2.2.2.2.2.2.1 h.2.2.2.2.2.2.2.2.2.2
      refine ⟨cnt10 (nI b'), _, _, ?_, ?_, RP.of h1 (by omega) (by omega)⟩
      · rw [eb, eb', upr_eq, upd_s, p_cnt hb']
        rfl
      · rw [e3, eb, eb', upr_eq, upd_s, p_bits hF]
        rfl
theorem pp_phase (h : RP g0 f0 B g f) (hB : B < 1000) : PS g0 f0 B (m_X5_phase g) (m_X6_phase f) := by
  have e4 := h.2.2.s (k := 2) (i := 0) (x := 4) (a := 6811) (by unfold Sc; omega) rfl
  have e5 := h.2.2.s (k := 2) (i := 0) (x := 5) (a := 6812) (by unfold Sc; omega) rfl
  have e7 := h.2.2.s (k := 2) (i := 0) (x := 7) (a := 6814) (by unfold Sc; omega) rfl
  obtain ⟨p, hp, ep⟩ := (h.2.2.2.1 2 0 5 (by unfold Sc; omega)).2.2.2.2.2.2.2.2.2.2.2.1 rfl rfl
  obtain ⟨kk, hk, ek⟩ := (h.2.2.2.1 2 0 4 (by unfold Sc; omega)).2.2.2.2.2.2.2.2.2.2.1 rfl rfl
  obtain ⟨b, hb, eb⟩ := (h.2.2.2.1 2 0 7 (by unfold Sc; omega)).2.2.2.2.2.2.2.2.2.2.2.2.2 rfl rfl
  have fp : f 1 0 6812 = nI p := by rw [← e5, ep]
  -- a PHASE that is not 0
  have st : ∀ v : Nat, 1 ≤ v → v ≤ 2 → RR g0 f0 B (100 * B) (tk g + 72) 1 (upr g 2 0 (upd (g 2 0) 5 (nI v))) (upr f 1 0 (upd (f 1 0) 6812 (nI v))) := by
    intro v hv1 hv2
    exact RR.setx h (k := 2) (i := 0) (x := 5) (a := 6812) (v := nI v) (by unfold Sc; omega) (by omega) (by omega) (by omega) (Nat.le_refl _) ⟨by omega, by omega, by omega, by omega, by omega, by omega, by omega, by omega, by omega, by omega, by omega, fun _ _ => ⟨v, hv2, rfl⟩, by omega, by omega⟩ rfl h.2.2.2.2.2.2.2.1 (fun y => absurd (by rw [upr_eq, upd_s] at y; exact nIi (b := 0) (by omega) (by omega) y) (by omega)) h.2.2.2.2.2.2.2.2.2.1 h.2.2.2.2.2.2.2.2.2.2
  have hp3 : p = 0 ∨ p = 1 ∨ p = 2 := by omega
  unfold m_X5_phase m_X4_nextPhase m_X6_phase
  simp only [ltm]
  rw [ep, fp]
  rcases hp3 with rfl | rfl | rfl
  · have x2 := h.2.2.2.2.2.2.2.2.1 ep
    have f7 : f 1 0 6814 = 0 := by rw [← e7, x2]
    have a1 : (nI 0 + 1 - (nI 0 + 1) / 3 * 3) = nI 1 := by decide
    have a2 : ¬ ((2 : Int32) ≤ nI 0) := by decide
    have a3 : nI 0 + (1 : Int32) = nI 1 := by decide
    have a4 : ¬ (nI 1 = 0) := by decide
    have a5 : ¬ ((2 : Int32) ≤ nI 1) := by decide
    have a6 : upr (upr f 1 0 (upd (f 1 0) 6812 (nI 1))) 1 0 (upd (upd (f 1 0) 6812 (nI 1)) 6814 0) = upr f 1 0 (upd (f 1 0) 6812 (nI 1)) := by
      rw [upr_upr, upd_c (by omega), ← f7, upd_id]
    rw [a1, a3, if_neg a2, Option.bind_some]
    dsimp only
    simp only [a6, upr_eq, upd_s, if_neg a4, if_neg a5]
    have st1 := RP.of (B := B + 1) (st 1 (by omega) (by omega)) (by omega) (by omega)
    exact ⟨nI 1, _, _, rfl, rfl, st1⟩
  · have a1 : (nI 1 + 1 - (nI 1 + 1) / 3 * 3) = nI 2 := by decide
    have a2 : ¬ ((2 : Int32) ≤ nI 1) := by decide
    have a3 : nI 1 + (1 : Int32) = nI 2 := by decide
    have a4 : ¬ (nI 2 = 0) := by decide
    have a5 : ((2 : Int32) ≤ nI 2) := by decide
    rw [a1, a3, if_neg a2, Option.bind_some]
    dsimp only
    simp only [upr_eq, upd_s, if_neg a4, if_pos a5]
    have st1 := RP.of (B := B + 1) (st 2 (by omega) (by omega)) (by omega) (by omega)
    exact ⟨nI 2, _, _, rfl, rfl, st1⟩
  · have a1 : (nI 2 + 1 - (nI 2 + 1) / 3 * 3) = 0 := by decide
    have a2 : ((2 : Int32) ≤ nI 2) := by decide
    have a5 : ¬ ((2 : Int32) ≤ 0) := by decide
    rw [a1, if_pos a2, Option.bind_some]
    dsimp only
    simp only [upr_upr, upr_eq, upd_s, if_true, if_neg a5, upd_n (show (6812 : Nat) ≠ 6814 by omega), upd_n (show (6812 : Nat) ≠ 6813 by omega), upd_n (show (6812 : Nat) ≠ 6811 by omega), upd_n (show (6811 : Nat) ≠ 6812 by omega), upd_n (show (6814 : Nat) ≠ 6811 by omega), upd_n (show (6814 : Nat) ≠ 6812 by omega), upd_n (show (4 : Nat) ≠ 5 by omega), upd_n (show (7 : Nat) ≠ 4 by omega), upd_n (show (7 : Nat) ≠ 5 by omega), upd_n (show (5 : Nat) ≠ 7 by omega), upd_n (show (5 : Nat) ≠ 6 by omega), upd_n (show (5 : Nat) ≠ 4 by omega), ← e4, ← e7]
    have h1 := RR.setx h (k := 2) (i := 0) (x := 7) (a := 6814) (v := 0) (by unfold Sc; omega) (by omega) (by omega) (by omega) (Nat.le_refl _) ⟨by omega, by omega, by omega, by omega, by omega, by omega, by omega, by omega, by omega, by omega, by omega, by omega, by omega, fun _ _ => ⟨0, by omega, rfl⟩⟩ rfl h.2.2.2.2.2.2.2.1 (fun _ => by rw [upr_eq, upd_s]) h.2.2.2.2.2.2.2.2.2.1 h.2.2.2.2.2.2.2.2.2.2
    have h2 := RR.setx h1 (k := 2) (i := 0) (x := 5) (a := 6812) (v := 0) (by unfold Sc; omega) (by omega) (by omega) (by omega) (Nat.le_refl _) ⟨by omega, by omega, by omega, by omega, by omega, by omega, by omega, by omega, by omega, by omega, by omega, fun _ _ => ⟨0, by omega, rfl⟩, by omega, by omega⟩ rfl h1.2.2.2.2.2.2.2.1 (fun _ => by rw [upr_eq, upd_n (by omega), upr_eq, upd_s]) h1.2.2.2.2.2.2.2.2.2.1 h1.2.2.2.2.2.2.2.2.2.2
    have h3 := RR.setx h2 (Bk' := B + 1) (k := 2) (i := 0) (x := 4) (a := 6811) (v := g 2 0 4 + 1) (by unfold Sc; omega) (by omega) (by omega) (by omega) (by omega) ⟨by omega, by omega, by omega, by omega, by omega, by omega, by omega, by omega, by omega, by omega, fun _ _ => ⟨kk + 1, by omega, by rw [ek]; exact nI_1 _⟩, by omega, by omega, by omega⟩ rfl h2.2.2.2.2.2.2.2.1 h2.2.2.2.2.2.2.2.2.1 h2.2.2.2.2.2.2.2.2.2.1 h2.2.2.2.2.2.2.2.2.2.2
    have h4 := RR.setx h3 (k := 2) (i := 0) (x := 6) (a := 6813) (v := g 2 0 7) (by unfold Sc; omega) (by omega) (by omega) (by omega) (Nat.le_refl _) ⟨by omega, by omega, by omega, by omega, by omega, by omega, by omega, by omega, by omega, by omega, by omega, by omega, fun _ _ => ⟨b, hb, eb⟩, by omega⟩ rfl h3.2.2.2.2.2.2.2.1 h3.2.2.2.2.2.2.2.2.1 h3.2.2.2.2.2.2.2.2.2.1 h3.2.2.2.2.2.2.2.2.2.2
    simp only [upr_upr, upr_eq] at h4
    refine ⟨0, _, _, rfl, rfl, RP.of (D := tk g + 72) ?_ (Nat.le_refl _) (show 100 * B ≤ _ by omega)⟩
    rw [upd_c (a := 6) (b := 7) (by omega), upd_c (a := 4) (b := 7) (by omega), upd_c (a := 5) (b := 7) (by omega), upd_c (a := 6813) (b := 6814) (by omega), upd_c (a := 6811) (b := 6814) (by omega), upd_c (a := 6812) (b := 6814) (by omega)]
    exact h4
theorem m_fgt {F l a c : Nat} {f : Mem} (hl : l < 10) (hF : 40 ≤ F) (ha : a ≤ 8) (hc : c ≤ 8) (ea : f 1 0 (160 + l) = nI a) (ec : f 1 0 (30 + l) = nI c) : m_X6_forget F f (nI l) = some (0, if a ≤ c then f else upr f 1 0 (sh (upd (f 1 0) (160 + l) (nI c)) (170 + 16 * l) (170 + 16 * l + 2 * c) (2 * (a - c)))) := by
  have i1 : ((160 : Int32) + nI l) = nI (160 + l) := nI_add 160 l
  have i2 : ((30 : Int32) + nI l) = nI (30 + l) := nI_add 30 l
  unfold m_X6_forget
  simp only [i1, i2, ltm]
  simp (disch := omega) only [ngF, leF, nI_clamp, or_self, if_false, ea, ec]
  by_cases h : a ≤ c
  · rw [if_pos h, if_pos]
    by_cases e : a = c
    · subst e
      rw [sbI (Nat.le_refl a), Nat.sub_self]
      decide
    · exact Int32.le_of_lt (pk_sneg (a := a) (b := c) (by omega) (by omega))
  · rw [if_neg h, sbI (by omega), if_neg (fun z => by have := (nI_leI (b := 0) (by omega) (by omega)).mp z; omega)]
    have := m_sh46 (F := F) hl (2 * c) F 0 c (a - c) (upr f 1 0 (upd (f 1 0) (160 + l) (nI c))) (by omega) (by omega) (by omega) (by omega) (by rw [upr_eq, upd_s])
    rw [show nI 0 = (0 : Int32) from rfl] at this
    rw [this, upr_upr, upr_eq]
    rfl
theorem s_set (h : RR g0 f0 Bk Bt D δ g f) {l w v F : Nat} (hl : l < 10) (hF : 40 ≤ F) (hw : w < 4) (h0 : w = 0 → 1 ≤ v ∧ v ≤ 9) (h2 : w = 2 → v ≤ 8) : ∃ g' f' : Mem, RR g0 f0 Bk Bt D δ g' f' ∧ m_X3_dropOldestm F l (upr g 14 l (upd (g 14 l) w (nI v))) (upr g 14 l (upd (g 14 l) w (nI v)) 14 l 2) = some (0, g') ∧ m_X6_forget F (upr f 1 0 (upd (f 1 0) (10 + 10 * w + l) (nI v))) (nI l) = some (0, f') := by
  obtain ⟨em, hm⟩ := h.2.2.m hl
  obtain ⟨c, hc, ec⟩ := (h.2.2.2.1 14 l 2 (by unfold Sc; omega)).2.2.2.2.2.1 rfl rfl
  have x1 := h.2.2.2.2.2.2.2.1 l hl
  rw [ec, nI_clamp (by omega)] at x1
  have fm := h.2.2.s (k := 16) (i := l) (x := 1) (a := 160 + l) (by unfold Sc; omega) rfl
  have fc := h.2.2.s (k := 14) (i := l) (x := 2) (a := 30 + l) (by unfold Sc; omega) rfl
  have ok : Okv Bk Bt 14 w (nI v) := ⟨by omega, by omega, by omega, by omega, fun _ y => ⟨v, (h0 y).1, (h0 y).2, rfl⟩, fun _ y => ⟨v, h2 y, rfl⟩, by omega, by omega, by omega, by omega, by omega, by omega, by omega, by omega⟩
  generalize hz : mz g l = a at em hm x1
  have G16 : upr g 14 l (upd (g 14 l) w (nI v)) 16 l 1 = nI a := by rw [upr_k (by omega), em]
  have F16 : upr f 1 0 (upd (f 1 0) (10 + 10 * w + l) (nI v)) 1 0 (160 + l) = nI a := by rw [upr_eq, upd_n (by omega), ← fm, em]
  -- nothing to drop
  have keep : ∀ m : Nat, m ≤ 8 → a ≤ m → upr g 14 l (upd (g 14 l) w (nI v)) 14 l 2 = nI m → RR g0 f0 Bk Bt D δ (upr g 14 l (upd (g 14 l) w (nI v))) (upr f 1 0 (upd (f 1 0) (10 + 10 * w + l) (nI v))) ∧ m_X3_dropOldestm F l (upr g 14 l (upd (g 14 l) w (nI v))) (nI m) = some (0, upr g 14 l (upd (g 14 l) w (nI v))) ∧ m_X6_forget F (upr f 1 0 (upd (f 1 0) (10 + 10 * w + l) (nI v))) (nI l) = some (0, upr f 1 0 (upd (f 1 0) (10 + 10 * w + l) (nI v))) := by
    intro m hm8 ham e2
    have hR : RR g0 f0 Bk Bt D δ (upr g 14 l (upd (g 14 l) w (nI v))) (upr f 1 0 (upd (f 1 0) (10 + 10 * w + l) (nI v))) := by
      refine h.setx (k := 14) (i := l) (x := w) (by unfold Sc; omega) (by omega) (by omega) (by omega) (Nat.le_refl _) ok rfl ?_ h.2.2.2.2.2.2.2.2.1 h.2.2.2.2.2.2.2.2.2.1 h.2.2.2.2.2.2.2.2.2.2
      intro l' hl'
      show mz g l' ≤ _
      by_cases y : l' = l
      · subst y
        rw [e2, nI_clamp (by omega), hz]
        exact ham
      · rw [upr_ne (by omega)]
        exact h.2.2.2.2.2.2.2.1 l' hl'
    refine ⟨hR, ?_, ?_⟩
    · rw [(c_dropM (F := F) (m := m) (by omega) hm G16).resolve_right (by omega), if_pos ham]
    · have fe := hR.2.2.s (k := 14) (i := l) (x := 2) (a := 30 + l) (by unfold Sc; omega) rfl
      rw [m_fgt hl hF hm hm8 F16 (by rw [← fe, e2]), if_pos ham]
  by_cases hw2 : w = 2
  · subst hw2
    have e2 : upr g 14 l (upd (g 14 l) 2 (nI v)) 14 l 2 = nI v := by rw [upr_eq, upd_s]
    by_cases hv : a ≤ v
    · obtain ⟨k1, k2, k3⟩ := keep v (h2 rfl) hv e2
      rw [e2]
      exact ⟨_, _, k1, k2, k3⟩
    · rw [e2, (c_dropM (F := F) (m := v) (by omega) hm G16).resolve_right (by have := h2 rfl; omega), if_neg hv, m_fgt hl hF hm (h2 rfl) F16 (show _ = nI v by rw [upr_eq, show 10 + 10 * 2 + l = 30 + l by omega, upd_s]), if_neg hv]
      refine ⟨_, _, ?_, rfl, rfl⟩
      have hr := h.2.2.2.2.1
      have h1 : RR g0 f0 Bk Bt D δ (upr (upr g 17 l (sh (g 17 l) 0 v (a - v))) 16 l (upd (g 16 l) 1 (nI v))) (upr f 1 0 (sh (upd (f 1 0) (160 + l) (nI v)) (170 + 16 * l) (170 + 16 * l + 2 * v) (2 * (a - v)))) := by
        refine ⟨fun k hk => ?_, fun k hk => ?_, ?_⟩
        · rw [upr_k (by omega), upr_k (by omega)]
          exact h.1 k hk
        · rw [upr_k hk]
          exact h.2.1 k hk
        · rw [upr_eq]
          refine h.2.2.mind (a := v) hl (by omega) (by rw [ec, nI_clamp (by omega)]; omega) (fun k i y => by rw [upr_ne (by omega), upr_ne (by omega)]) (by rw [upr_eq, upd_s]) (fun x y1 y2 => by rw [sh_out (by omega), upd_n y1]) (by rw [sh_out (by omega), upd_s]) (fun i hi => ?_)
          rw [upr_k (by omega), upr_eq, sh_in (by omega) hi, sh_in (by omega) (by omega), sh_in (by omega) (by omega), upd_n (by omega), upd_n (by omega), show 170 + 16 * l + 2 * i + 2 * (a - v) = 170 + 16 * l + 2 * (i + (a - v)) by omega, show 171 + 16 * l + 2 * i + 2 * (a - v) = 171 + 16 * l + 2 * (i + (a - v)) by omega]
          exact hr l (i + (a - v)) hl (by omega)
      have h3 := h1.setx (k := 14) (i := l) (x := 2) (a := 30 + l) (v := nI v) (by unfold Sc; omega) (by omega) (by omega) (by omega) (Nat.le_refl _) ok rfl (h1.2.2.2.2.2.2.2.1.mset (by unfold mz; rw [upr_eq, upd_s, nI_clamp (by omega)]; exact Nat.le_refl _) (by omega)) h1.2.2.2.2.2.2.2.2.1 h1.2.2.2.2.2.2.2.2.2.1 h1.2.2.2.2.2.2.2.2.2.2
      rw [upr_upr, upr_eq] at h3
      rw [upr_k (k' := 17) (by omega), upr_k (k' := 16) (by omega), upr_c (k := 14) (k' := 17) (by omega), upr_c (k := 14) (k' := 16) (by omega), upr_upr, upr_eq, upd_c (a := 10 + 10 * 2 + l) (by omega), sh_upd (by omega), show 10 + 10 * 2 + l = 30 + l by omega]
      rw [upr_k (k' := 14) (by omega), upr_k (k' := 14) (by omega)] at h3
      exact h3
  · have e2 : upr g 14 l (upd (g 14 l) w (nI v)) 14 l 2 = nI c := by rw [upr_eq, upd_n (fun y => hw2 y.symm), ec]
    obtain ⟨k1, k2, k3⟩ := keep c hc x1 e2
    rw [e2]
    exact ⟨_, _, k1, k2, k3⟩
end PUB3
