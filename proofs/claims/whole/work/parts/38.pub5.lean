section PUB5
variable {g0 f0 g f : Mem} {B Bk Bt D δ Bk' : Nat}
def tbn (g : Mem) (a : Int32) : Int32 := if g 2 0 5 = 2 then isI (g 2 0 7) a else 0
theorem p_tbn (g : Mem) (a : Int32) : m_X4_tellsByNext g a = some (tbn g a, g) := by
  unfold m_X4_tellsByNext tbn
  simp only [p_isIn, Option.bind_some]
  split
  · rcases isI01 (g 2 0 7) a with y | y
    · rw [y, if_pos rfl]
    · rw [y, if_neg (by decide)]
  · rfl
theorem tbn01 (g : Mem) (a : Int32) : tbn g a = 0 ∨ tbn g a = 1 := by
  unfold tbn
  split
  · exact isI01 _ _
  · exact Or.inl rfl
/-- by which KEY it may tell -/
theorem s_key (h : RR g0 f0 Bk Bt D δ g f) (hBk : Bk < 1000000) (l : Int32) : ∃ b kv : Int32, (b = 0 ∨ b = 1) ∧ m_X4_canTell g l = some (b, g) ∧ (b = 0 → m_X6_keyFor f l = some (-6, f)) ∧ (b = 1 → m_X6_keyFor f l = some (kv, f) ∧ 0 ≤ kv) ∧ (∀ g' : Mem, g' 2 = g 2 → m_X4_keyToTell g' l = some (kv, g')) := by
  have e4 := h.2.2.s (k := 2) (i := 0) (x := 4) (a := 6811) (by unfold Sc; omega) rfl
  have e5 := h.2.2.s (k := 2) (i := 0) (x := 5) (a := 6812) (by unfold Sc; omega) rfl
  have e6 := h.2.2.s (k := 2) (i := 0) (x := 6) (a := 6813) (by unfold Sc; omega) rfl
  have e7 := h.2.2.s (k := 2) (i := 0) (x := 7) (a := 6814) (by unfold Sc; omega) rfl
  obtain ⟨kk, hk, ek⟩ := (h.2.2.2.1 2 0 4 (by unfold Sc; omega)).2.2.2.2.2.2.2.2.2.2.1 rfl rfl
  have z10 : ¬ ((1 : Int32) = 0) := by decide
  have p0 : (0 : Int32) ≤ g 2 0 4 := by rw [ek]; exact Int32.not_lt.mp (nI_pos (by omega))
  have p1 : (0 : Int32) ≤ g 2 0 4 + 1 := by rw [ek, nI_1]; exact Int32.not_lt.mp (nI_pos (by omega))
  unfold m_X4_canTell m_X6_keyFor m_X4_keyToTell
  simp only [p_tbn, p_isIn, p_isOf, Option.bind_some, ← e4, ← e5, ← e6, ← e7]
  have tg : ∀ g' : Mem, g' 2 = g 2 → tbn g' l = tbn g l := fun g' y => by unfold tbn; rw [y]
  rcases tbn01 g l with t | t
  · -- by the KEY itself
    have m1 : (if g 2 0 5 = 2 then (if isI (g 2 0 7) l = 0 then (if isI (g 2 0 6) l = 0 then some ((-6 : Int32), f) else some (g 2 0 4, f)) else some (g 2 0 4 + 1, f)) else (if isI (g 2 0 6) l = 0 then some ((-6 : Int32), f) else some (g 2 0 4, f))) = if isI (g 2 0 6) l = 0 then some ((-6 : Int32), f) else some (g 2 0 4, f) := by
      unfold tbn at t
      by_cases y : g 2 0 5 = 2
      · rw [if_pos y] at t
        rw [if_pos y, if_pos t]
      · rw [if_neg y]
    rw [m1, t, if_pos rfl]
    rcases isI01 (g 2 0 6) l with y | y
    · refine ⟨0, g 2 0 4, Or.inl rfl, by rw [if_pos y], fun _ => by rw [if_pos y], fun w => absurd w (by decide), fun g' w => ?_⟩
      rw [tg g' w, t, if_pos rfl, w]
    · have y2 : ¬ isI (g 2 0 6) l = 0 := by rw [y]; exact z10
      refine ⟨1, g 2 0 4, Or.inr rfl, by rw [if_neg y2], fun w => absurd w z10, fun _ => ⟨by rw [if_neg y2], p0⟩, fun g' w => ?_⟩
      rw [tg g' w, t, if_pos rfl, w]
  · have m1 : (if g 2 0 5 = 2 then (if isI (g 2 0 7) l = 0 then (if isI (g 2 0 6) l = 0 then some ((-6 : Int32), f) else some (g 2 0 4, f)) else some (g 2 0 4 + 1, f)) else (if isI (g 2 0 6) l = 0 then some ((-6 : Int32), f) else some (g 2 0 4, f))) = some (g 2 0 4 + 1, f) := by
      unfold tbn at t
      by_cases y : g 2 0 5 = 2
      · rw [if_pos y] at t
        rw [if_pos y, if_neg (by rw [t]; exact z10)]
      · rw [if_neg y] at t
        exact absurd t.symm z10
    rw [m1, t, if_neg z10]
    refine ⟨1, g 2 0 4 + 1, Or.inr rfl, rfl, fun w => absurd w z10, fun _ => ⟨rfl, p1⟩, fun g' w => ?_⟩
    rw [tg g' w, t, if_neg z10, w]
theorem s_full (h : RR g0 f0 Bk Bt D δ g f) : (az g < 64 ∧ m_X0_isFull g = some (0, g) ∧ ¬ f 1 0 6815 = 64) ∨ (m_X0_isFull g = some (1, g) ∧ f 1 0 6815 = 64) := by
  obtain ⟨ea, ha⟩ := h.2.2.a
  have fe := h.2.2.s (k := 8) (i := 0) (x := 4) (a := 6815) (by unfold Sc; omega) rfl
  unfold m_X0_isFull
  rw [← fe, ea]
  by_cases y : az g < 64
  · refine Or.inl ⟨y, by rw [if_pos (show nI (az g) < (64 : Int32) from (nI_ltI (b := 64) (by omega) (by omega)).mpr y)], fun w => ?_⟩
    have := nIi (b := 64) (by omega) (by omega) w
    omega
  · have : az g = 64 := by omega
    rw [this]
    exact Or.inr ⟨rfl, rfl⟩
theorem pp_replay (h : RP g0 f0 B g f) (hB : B < 1000) (a b c : Int32) : PS g0 f0 B (m_X5_replay g a b c) (m_X6_replay f a b c) := by
  unfold m_X5_replay m_X6_replay
  simp only [p_lamp, p_lamp6, p_btw, p_in, Option.bind_some]
  by_cases z : btw a 0 9 = 0
  · simp only [if_pos z]
    exact PS.rd h rfl rfl
  · simp only [if_neg z]
    by_cases z2 : btw b 0 9 = 0
    · simp only [if_pos z2]
      exact PS.rd h rfl rfl
    · simp only [if_neg z2]
      obtain ⟨l, hl, rfl⟩ := btw_l z
      obtain ⟨o, ho, rfl⟩ := btw_l z2
      have co : ¬ (nI o < 0 ∨ 10 ≤ (nI o).toNatClampNeg) := ckI (by omega) (by omega)
      have no : (nI o).toNatClampNeg = o := nI_clamp (by omega)
      have i80 : ((80 : Int32) + nI o) = nI (80 + o) := nI_add 80 o
      have i10 : ((10 : Int32) + nI l) = nI (10 + l) := nI_add 10 l
      have c80 : ¬ (nI (80 + o) < 0 ∨ 6819 ≤ (nI (80 + o)).toNatClampNeg) := ckI (by omega) (by omega)
      have n80 : (nI (80 + o)).toNatClampNeg = 80 + o := nI_clamp (by omega)
      have e8 := h.2.2.s (k := 13) (i := o) (x := 8) (a := 80 + o) (by unfold Sc; omega) rfl
      have e3 := h.2.2.s (k := 2) (i := 0) (x := 3) (a := 6810) (by unfold Sc; omega) rfl
      obtain ⟨t, ht, et⟩ := (h.2.2.2.1 13 o 8 (by unfold Sc; omega)).2.2.2.1 rfl rfl
      obtain ⟨etk, htk⟩ := h.2.2.t (by omega)
      simp only [if_neg co, i80, if_neg c80, i10]
      simp only [no, n80, ← e8, et, ← e3]
      by_cases z3 : btw c 1 (nI t) = 0
      · simp only [if_pos z3]
        exact PS.rd h rfl rfl
      · simp only [if_neg z3]
        obtain ⟨v, v1, v2, rfl⟩ := btw_n (m := 1) (n := t) rfl rfl (by omega) (by omega) z3
        rcases s_full h with ⟨y1, y2, y3⟩ | ⟨y1, y2⟩
        · have et1 : g 2 0 3 + 1 = nI (tk g + 1) := by rw [etk]; exact nI_1 _
          obtain ⟨g', f', k1, k2, k3, k4, k5, k6⟩ := s_aadd h (x := 10 + l) (t := tk g + 1) (q := 200 * o + v - 1) (c := 7) y1 (by omega) (by omega) (by omega) (by omega) (by omega) (by omega) (by omega)
          rw [show (200 * o + v - 1) / 200 = o by omega, show (200 * o + v - 1) % 200 + 1 = v by omega] at k2
          have fe := k3.2.2.s (k := 8) (i := 0) (x := 4) (a := 6815) (by unfold Sc; omega) rfl
          simp only [y2, if_neg y3, p_place v1, Option.bind_some, if_true, et1]
          rw [show (7 : Int32) = nI 7 from rfl, k1, k2]
          exact ⟨g' 8 0 4, g', f', rfl, by rw [fe]; rfl, RP.of k3 (by omega) (by omega)⟩
        · simp only [y1, if_pos y2, Option.bind_some]
          rw [if_neg (by decide)]
          exact PS.rd h rfl rfl
theorem pp_tell (h : RP g0 f0 B g f) (hB : B < 1000) {F : Nat} (hF : 20 ≤ F) (a b c d : Int32) : PS g0 f0 B (m_X5_tell F g a b c d) (m_X6_tell F f a b c d) := by
  unfold m_X5_tell m_X6_tell
  simp only [p_lamp, p_lamp6, p_btw, p_in, Option.bind_some]
  by_cases z : btw a 0 9 = 0
  · simp only [if_pos z]
    exact PS.rd h rfl rfl
  simp only [if_neg z]
  by_cases z2 : btw b 0 13 = 0
  · simp only [if_pos z2]
    exact PS.rd h rfl rfl
  simp only [if_neg z2]
  by_cases z3 : btw c 0 99 = 0
  · simp only [if_pos z3]
    exact PS.rd h rfl rfl
  simp only [if_neg z3]
  by_cases z4 : btw d 1 7 = 0
  · simp only [if_pos z4]
    exact PS.rd h rfl rfl
  simp only [if_neg z4]
  obtain ⟨l, hl, rfl⟩ := btw_l z
  obtain ⟨s, s1, s2, rfl⟩ := btw_n (m := 1) (n := 7) rfl rfl (by omega) (by omega) z4
  have cl : ¬ (nI l < 0 ∨ 10 ≤ (nI l).toNatClampNeg) := ckI (by omega) (by omega)
  have nl : (nI l).toNatClampNeg = l := nI_clamp (by omega)
  have i80 : ((80 : Int32) + nI l) = nI (80 + l) := nI_add 80 l
  have c80 : ¬ (nI (80 + l) < 0 ∨ 6819 ≤ (nI (80 + l)).toNatClampNeg) := ckI (by omega) (by omega)
  have n80 : (nI (80 + l)).toNatClampNeg = 80 + l := nI_clamp (by omega)
  have e6 := h.2.2.s (k := 13) (i := l) (x := 6) (a := 60 + l) (by unfold Sc; omega) rfl
  have e8 := h.2.2.s (k := 13) (i := l) (x := 8) (a := 80 + l) (by unfold Sc; omega) rfl
  have z10 : ¬ ((1 : Int32) = 0) := by decide
  obtain ⟨t, ht, et⟩ := (h.2.2.2.1 13 l 8 (by unfold Sc; omega)).2.2.2.1 rfl rfl
  obtain ⟨etk, htk⟩ := h.2.2.t (by omega)
  simp only [if_neg cl, i80, if_neg c80, E_sleeps hl, Option.bind_some]
  simp only [nl, n80]
  rcases h.2.2.sl hl with y | y
  case inr =>
    have y2 : f 1 0 (60 + l) = 1 := by rw [← e6, y]
    have y3 : ¬ (g 13 l 6 = 0) := by rw [y]; exact z10
    simp only [if_neg y3, if_pos y2, if_neg z10]
    exact PS.rd h rfl rfl
  have y2 : ¬ (f 1 0 (60 + l) = 1) := by rw [← e6, y]; decide
  simp only [if_pos y, if_neg y2, if_true]
  obtain ⟨bb, kv, hb, k1, k2, k3, k4⟩ := s_key h (by omega) (nI l)
  rcases hb with rfl | rfl
  · rw [k1, k2 rfl, Option.bind_some, Option.bind_some]
    dsimp only
    rw [if_pos rfl, if_neg (by decide)]
    exact PS.rd h rfl rfl
  obtain ⟨k3, kp⟩ := k3 rfl
  rw [k1, k3, Option.bind_some, Option.bind_some]
  dsimp only
  rw [if_neg z10, if_pos kp]
  rcases s_full h with ⟨w1, w2, w3⟩ | ⟨w1, w2⟩
  case inr =>
    rw [w1, if_pos w2, Option.bind_some]
    dsimp only
    rw [if_neg z10]
    exact PS.rd h rfl rfl
  rw [w2, if_neg w3, Option.bind_some]
  dsimp only
  rw [if_pos rfl]
  simp only [← e8, et]
  by_cases ht2 : t = 200
  · subst ht2
    rw [if_neg (by decide), if_pos (show nI 200 = 200 from rfl)]
    exact PS.rd h rfl rfl
  rw [if_pos (show nI t < (200 : Int32) from (nI_ltI (b := 200) (by omega) (by omega)).mpr (by omega)), if_neg (show ¬ nI t = (200 : Int32) from fun w => ht2 (nIi (b := 200) (by omega) (by omega) w))]
  simp only [ltm, nI_1]
  have h1 := RR.set h (k := 13) (i := l) (x := 8) (a := 80 + l) (v := nI (t + 1)) (by unfold Sc; omega) (by unfold plain; omega) ⟨by omega, by omega, by omega, fun _ _ => ⟨t + 1, by omega, rfl⟩, by omega, by omega, by omega, by omega, by omega, by omega, by omega, by omega, by omega, by omega⟩ rfl
  have u8 : upr g 13 l (upd (g 13 l) 8 (nI (t + 1))) 13 l 8 = nI (t + 1) := by rw [upr_eq, upd_s]
  have v8 : upr f 1 0 (upd (f 1 0) (80 + l) (nI (t + 1))) 1 0 (80 + l) = nI (t + 1) := by rw [upr_eq, upd_s]
  have u2 : upr g 13 l (upd (g 13 l) 8 (nI (t + 1))) 2 = g 2 := upr_k (by omega)
  have u8a : upr g 13 l (upd (g 13 l) 8 (nI (t + 1))) 8 = g 8 := upr_k (by omega)
  rw [u8, p_place (by omega), Option.bind_some, k4 _ u2, Option.bind_some]
  simp only [v8]
  generalize upr g 13 l (upd (g 13 l) 8 (nI (t + 1))) = g1 at h1 u8 u2 u8a ⊢
  generalize upr f 1 0 (upd (f 1 0) (80 + l) (nI (t + 1))) = f1 at h1 v8 ⊢
  have iq : (((200 : Int32) * nI l + nI (t + 1)) - (1 : Int32)) = nI (200 * l + (t + 1) - 1) := by
    rw [show (200 : Int32) = nI 200 from rfl, pk_mul, nI_add]
    exact sbI (b := 1) (by omega)
  obtain ⟨q, hq⟩ : ∃ q : Nat, q = 200 * l + (t + 1) - 1 := ⟨_, rfl⟩
  rw [iq, ← hq]
  have ip : ((810 : Int32) + (3 : Int32) * nI q) = nI (810 + 3 * q) := by simp only [L810, L3, pk_mul, nI_add]
  have ip1 : (nI (810 + 3 * q) + (1 : Int32)) = nI (811 + 3 * q) := by rw [nI_1]; congr 1; omega
  have ip2 : (nI (810 + 3 * q) + (2 : Int32)) = nI (812 + 3 * q) := by rw [L2, nI_add]; congr 1; omega
  have cp : ¬ (nI (810 + 3 * q) < 0 ∨ 6819 ≤ (nI (810 + 3 * q)).toNatClampNeg) := ckI (by omega) (by omega)
  have cp1 : ¬ (nI (811 + 3 * q) < 0 ∨ 6819 ≤ (nI (811 + 3 * q)).toNatClampNeg) := ckI (by omega) (by omega)
  have cp2 : ¬ (nI (812 + 3 * q) < 0 ∨ 6819 ≤ (nI (812 + 3 * q)).toNatClampNeg) := ckI (by omega) (by omega)
  have np : (nI (810 + 3 * q)).toNatClampNeg = 810 + 3 * q := nI_clamp (by omega)
  have np1 : (nI (811 + 3 * q)).toNatClampNeg = 811 + 3 * q := nI_clamp (by omega)
  have np2 : (nI (812 + 3 * q)).toNatClampNeg = 812 + 3 * q := nI_clamp (by omega)
  have cq : ¬ (nI q < 0 ∨ 2000 ≤ (nI q).toNatClampNeg) := ckI (by omega) (by omega)
  have nq : (nI q).toNatClampNeg = q := nI_clamp (by omega)
  simp only [ip, ip1, ip2, if_neg cp, if_neg cp1, if_neg cp2]
  simp only [np, np1, np2]
  have h2 := h1.set (k := 5) (i := 0) (x := q) (a := 810 + 3 * q) (v := kv) (by unfold Sc; omega) (by unfold plain; omega) (okf (by omega)) rfl
  have h3 := h2.set (k := 6) (i := 0) (x := q) (a := 811 + 3 * q) (v := b) (by unfold Sc; omega) (by unfold plain; omega) (okf (by omega)) rfl
  have h4 := h3.set (k := 7) (i := 0) (x := q) (a := 812 + 3 * q) (v := c) (by unfold Sc; omega) (by unfold plain; omega) (okf (by omega)) rfl
  unfold m_X2_write
  simp only [if_neg cq, ltm]
  simp only [nq, Option.bind_some]
  have fr : ∀ k : Nat, k ≠ 5 → k ≠ 6 → k ≠ 7 → upr (upr (upr g1 5 0 (upd (g1 5 0) q kv)) 6 0 (upd (upr g1 5 0 (upd (g1 5 0) q kv) 6 0) q b)) 7 0 (upd (upr (upr g1 5 0 (upd (g1 5 0) q kv)) 6 0 (upd (upr g1 5 0 (upd (g1 5 0) q kv) 6 0) q b) 7 0) q c) k = g1 k := fun k y1 y2 y3 => by rw [upr_k y3, upr_k y2, upr_k y1]
  generalize upr (upr (upr g1 5 0 (upd (g1 5 0) q kv)) 6 0 (upd (upr g1 5 0 (upd (g1 5 0) q kv) 6 0) q b)) 7 0 (upd (upr (upr g1 5 0 (upd (g1 5 0) q kv)) 6 0 (upd (upr g1 5 0 (upd (g1 5 0) q kv) 6 0) q b) 7 0) q c) = g4 at h4 fr ⊢
  generalize upr (upr (upr f1 1 0 (upd (f1 1 0) (810 + 3 * q) kv)) 1 0 (upd (upr f1 1 0 (upd (f1 1 0) (810 + 3 * q) kv) 1 0) (811 + 3 * q) b)) 1 0 (upd (upr (upr f1 1 0 (upd (f1 1 0) (810 + 3 * q) kv)) 1 0 (upd (upr f1 1 0 (upd (f1 1 0) (810 + 3 * q) kv) 1 0) (811 + 3 * q) b) 1 0) (812 + 3 * q) c) = f4 at h4 ⊢
  obtain ⟨g5, f5, m1, m2, m3, m4⟩ := s_add h4 (l := l) (q := q) (F := F) hl (by omega) hF
  rw [show q / 200 = l by omega, show q % 200 + 1 = t + 1 by omega] at m2
  rw [m1, m2, Option.bind_some, Option.bind_some]
  dsimp only
  have az5 : az g5 = az g := by unfold az; rw [m4 8 (by omega) (by omega), fr 8 (by omega) (by omega) (by omega), u8a]
  have tk5 : g5 2 0 3 = g 2 0 3 := by rw [m4 2 (by omega) (by omega), fr 2 (by omega) (by omega) (by omega), u2]
  have tk5' : tk g5 = tk g := by unfold tk; rw [tk5]
  have e3 := m3.2.2.s (k := 2) (i := 0) (x := 3) (a := 6810) (by unfold Sc; omega) rfl
  have et1 : g 2 0 3 + 1 = nI (tk g + 1) := by rw [etk]; exact nI_1 _
  obtain ⟨g', f', j1, j2, j3, j4, j5, j6⟩ := s_aadd m3 (x := l) (t := tk g + 1) (q := q) (c := s) (by omega) (by omega) (by omega) (by omega) (by omega) (by omega) (by omega) (by omega)
  rw [show q / 200 = l by omega, show q % 200 + 1 = t + 1 by omega] at j2
  rw [← e3, tk5, et1, j1, j2]
  refine ⟨nI (t + 1), g', f', ?_, rfl, RP.of j3 (by omega) (by omega)⟩
  rw [Option.bind_some]
  dsimp only
  rw [j5 13 (by omega), m4 13 (by omega) (by omega), fr 13 (by omega) (by omega) (by omega), u8]
theorem s_sum1 (h : RR g0 f0 Bk Bt D δ g f) {F : Nat} : ∀ (n i : Nat), i + n = 10 → ∀ a : Int32, ∃ r : Int32, (∀ k : Nat, n < k → lp_X4_sleepers_4 F k g a (nI i) = some (r, g)) ∧ (∀ k : Nat, n < k → lp_X6_asleep_4 F k f a (nI i) = some (r, f))
  | 0, i, hi, a => by
    obtain rfl : i = 10 := by omega
    refine ⟨a, fun k hk => ?_, fun k hk => ?_⟩
    · obtain ⟨k, rfl⟩ : ∃ y, k = y + 1 := ⟨k - 1, by omega⟩
      rw [lp_X4_sleepers_4]
      unfold st_X4_sleepers_4
      rw [if_pos (by decide)]
    · obtain ⟨k, rfl⟩ : ∃ y, k = y + 1 := ⟨k - 1, by omega⟩
      rw [lp_X6_asleep_4]
      unfold st_X6_asleep_4
      rw [if_pos (by decide)]
  | n + 1, i, hi, a => by
    obtain ⟨r, h1, h2⟩ := s_sum1 h (F := F) n (i + 1) (by omega) (a + g 13 i 6)
    have ci : ¬ ((10 : Int32) ≤ nI i) := fun y => by have := (nI_leI (a := 10) (by omega) (by omega)).mp y; omega
    have e6 := h.2.2.s (k := 13) (i := i) (x := 6) (a := 60 + i) (by unfold Sc; omega) rfl
    have i60 : ((60 : Int32) + nI i) = nI (60 + i) := nI_add 60 i
    have e01 : (if g 13 i 6 = 0 then (0 : Int32) else 1) = g 13 i 6 := by
      rcases h.2.2.sl (show i < 10 by omega) with y | y
      · rw [y, if_pos rfl]
      · rw [y, if_neg (by decide)]
    refine ⟨r, fun k hk => ?_, fun k hk => ?_⟩
    · obtain ⟨k, rfl⟩ : ∃ y, k = y + 1 := ⟨k - 1, by omega⟩
      rw [lp_X4_sleepers_4]
      unfold st_X4_sleepers_4
      rw [if_neg ci, if_neg (ckI (by omega) (by omega)), p_num, Option.bind_some, nI_clamp (by omega), e01, nI_1]
      exact h1 k (by omega)
    · obtain ⟨k, rfl⟩ : ∃ y, k = y + 1 := ⟨k - 1, by omega⟩
      rw [lp_X6_asleep_4]
      unfold st_X6_asleep_4
      rw [if_neg ci, i60, if_neg (ckI (by omega) (by omega)), nI_clamp (by omega), ← e6, nI_1]
      exact h2 k (by omega)
theorem s_sum2 (h : RR g0 f0 Bk Bt D δ g f) {F : Nat} : ∀ (n i : Nat), i + n = 10 → ∀ a : Int32, ∃ r : Int32, (∀ k : Nat, n < k → lp_X4_allLights_4 F k g a (nI i) = some (r, g)) ∧ (∀ k : Nat, n < k → lp_X6_lights_4 F k f a (nI i) = some (r, f))
  | 0, i, hi, a => by
    obtain rfl : i = 10 := by omega
    refine ⟨a, fun k hk => ?_, fun k hk => ?_⟩
    · obtain ⟨k, rfl⟩ : ∃ y, k = y + 1 := ⟨k - 1, by omega⟩
      rw [lp_X4_allLights_4]
      unfold st_X4_allLights_4
      rw [if_pos (by decide)]
    · obtain ⟨k, rfl⟩ : ∃ y, k = y + 1 := ⟨k - 1, by omega⟩
      rw [lp_X6_lights_4]
      unfold st_X6_lights_4
      rw [if_pos (by decide)]
  | n + 1, i, hi, a => by
    obtain ⟨r, h1, h2⟩ := s_sum2 h (F := F) n (i + 1) (by omega) (a + g 13 i 5)
    have ci : ¬ ((10 : Int32) ≤ nI i) := fun y => by have := (nI_leI (a := 10) (by omega) (by omega)).mp y; omega
    have e6 := h.2.2.s (k := 13) (i := i) (x := 5) (a := 50 + i) (by unfold Sc; omega) rfl
    have i60 : ((50 : Int32) + nI i) = nI (50 + i) := nI_add 50 i
    refine ⟨r, fun k hk => ?_, fun k hk => ?_⟩
    · obtain ⟨k, rfl⟩ : ∃ y, k = y + 1 := ⟨k - 1, by omega⟩
      rw [lp_X4_allLights_4]
      unfold st_X4_allLights_4
      rw [if_neg ci, if_neg (ckI (by omega) (by omega)), nI_clamp (by omega), nI_1]
      exact h1 k (by omega)
    · obtain ⟨k, rfl⟩ : ∃ y, k = y + 1 := ⟨k - 1, by omega⟩
      rw [lp_X6_lights_4]
      unfold st_X6_lights_4
      rw [if_neg ci, i60, if_neg (ckI (by omega) (by omega)), nI_clamp (by omega), ← e6, nI_1]
      exact h2 k (by omega)
/-- which images are kept -/
theorem s_kept {F n : Nat} (hF : 20 ≤ F) (hk : ∀ k : Nat, k < 2 → (g 1 0 k = 0 ↔ f 3 0 k = 0) ∧ (g 1 0 k ≠ 0 → (g 1 0 k).toNatClampNeg < n)) : ∃ r : Int32, m_X5_keptImages F n g = some (r, g) ∧ (if (f 3 0 0) = 0 then (if (f 3 0 1) = 0 then some (((0 : Int32)) + ((0 : Int32)), f) else some (((0 : Int32)) + ((2 : Int32)), f)) else (if (f 3 0 1) = 0 then some (((1 : Int32)) + ((0 : Int32)), f) else some (((1 : Int32)) + ((2 : Int32)), f))) = some (r, f) := by
  obtain ⟨k, rfl⟩ : ∃ y, F = y + 3 := ⟨F - 3, by omega⟩
  obtain ⟨a1, a2⟩ := hk 0 (by omega)
  obtain ⟨b1, b2⟩ := hk 1 (by omega)
  have s1 : ∀ x : Int32, lp_X5_keptImages_4 (k + 3) (k + 1) n g x 2 = some (x, g) := fun x => by
    rw [lp_X5_keptImages_4]
    unfold st_X5_keptImages_4
    rw [if_pos (by decide)]
  have s2 : ∀ x : Int32, lp_X5_keptImages_4 (k + 3) (k + 2) n g x 1 = some (if f 3 0 1 = 0 then chg x 1 0 else chg x 1 1, g) := fun x => by
    rw [lp_X5_keptImages_4]
    unfold st_X5_keptImages_4
    simp only [p_chg, Option.bind_some]
    rw [if_neg (by decide), if_neg (by decide), show (1 : Int32).toNatClampNeg = 1 from rfl, show (1 : Int32) + 1 = 2 from rfl]
    by_cases y : f 3 0 1 = 0
    · rw [if_pos (b1.mpr y), if_pos y, s1]
    · rw [if_neg (fun w => y (b1.mp w)), if_neg (by have := b2 (fun w => y (b1.mp w)); omega), if_neg y, s1]
  have s3 : m_X5_keptImages (k + 3) n g = some (if f 3 0 1 = 0 then chg (if f 3 0 0 = 0 then chg 0 0 0 else chg 0 0 1) 1 0 else chg (if f 3 0 0 = 0 then chg 0 0 0 else chg 0 0 1) 1 1, g) := by
    unfold m_X5_keptImages
    rw [lp_X5_keptImages_4]
    unfold st_X5_keptImages_4
    simp only [p_chg, Option.bind_some]
    rw [if_neg (by decide), if_neg (by decide), show (0 : Int32).toNatClampNeg = 0 from rfl, show (0 : Int32) + 1 = 1 from rfl]
    by_cases y : f 3 0 0 = 0
    · rw [if_pos (a1.mpr y), if_pos y, s2]
    · rw [if_neg (fun w => y (a1.mp w)), if_neg (by have := a2 (fun w => y (a1.mp w)); omega), if_neg y, s2]
  refine ⟨_, s3, ?_⟩
  by_cases y : f 3 0 0 = 0
  · by_cases w : f 3 0 1 = 0
    · simp only [if_pos y, if_pos w]
      rfl
    · simp only [if_pos y, if_neg w]
      rfl
  · by_cases w : f 3 0 1 = 0
    · simp only [if_neg y, if_pos w]
      rfl
    · simp only [if_neg y, if_neg w]
      rfl
theorem pp_count (h : RP g0 f0 B g f) {F n : Nat} (hF : 20 ≤ F) (hk : ∀ k : Nat, k < 2 → (g 1 0 k = 0 ↔ f 3 0 k = 0) ∧ (g 1 0 k ≠ 0 → (g 1 0 k).toNatClampNeg < n)) (c : Int32) : PS g0 f0 B (m_X5_count F n g c) (m_X6_count F f c) := by
  have e3 := h.2.2.s (k := 2) (i := 0) (x := 3) (a := 6810) (by unfold Sc; omega) rfl
  have e4 := h.2.2.s (k := 2) (i := 0) (x := 4) (a := 6811) (by unfold Sc; omega) rfl
  have e5 := h.2.2.s (k := 2) (i := 0) (x := 5) (a := 6812) (by unfold Sc; omega) rfl
  have e8 := h.2.2.s (k := 2) (i := 0) (x := 8) (a := 6816) (by unfold Sc; omega) rfl
  have e9 := h.2.2.s (k := 2) (i := 0) (x := 9) (a := 6817) (by unfold Sc; omega) rfl
  have e10 := h.2.2.s (k := 2) (i := 0) (x := 10) (a := 6818) (by unfold Sc; omega) rfl
  have ea := h.2.2.s (k := 8) (i := 0) (x := 4) (a := 6815) (by unfold Sc; omega) rfl
  obtain ⟨r1, p1, p2⟩ := s_sum1 h (F := F) 10 0 (by omega) 0
  obtain ⟨r2, p3, p4⟩ := s_sum2 h (F := F) 10 0 (by omega) 0
  obtain ⟨r3, p5, p6⟩ := s_kept (F := F) hF hk
  have q1 : m_X4_sleepers F g = some (r1, g) := p1 F (by omega)
  have q2 : m_X6_asleep F f = some (r1, f) := p2 F (by omega)
  have q3 : m_X4_allLights F g = some (r2, g) := p3 F (by omega)
  have q4 : m_X6_lights F f = some (r2, f) := p4 F (by omega)
  unfold m_X5_count m_X6_count
  simp only [q1, q2, q3, q4, p5, p6, Option.bind_some, ← e3, ← e4, ← e5, ← e8, ← e9, ← e10, ← ea]
  by_cases c0 : c = 0
  · simp only [if_pos c0]
    exact PS.rd h rfl rfl
  simp only [if_neg c0]
  by_cases c1 : c = 1
  · simp only [if_pos c1]
    exact PS.rd h rfl rfl
  simp only [if_neg c1]
  by_cases c2 : c = 2
  · simp only [if_pos c2]
    exact PS.rd h rfl rfl
  simp only [if_neg c2]
  by_cases c3 : c = 3
  · simp only [if_pos c3]
    exact PS.rd h rfl rfl
  simp only [if_neg c3]
  by_cases c4 : c = 4
  · simp only [if_pos c4]
    exact PS.rd h rfl rfl
  simp only [if_neg c4]
  by_cases c5 : c = 5
  · simp only [if_pos c5]
    exact PS.rd h rfl rfl
  simp only [if_neg c5]
  by_cases c6 : c = 6
  · simp only [if_pos c6]
    exact PS.rd h rfl rfl
  simp only [if_neg c6]
  by_cases c7 : c = 7
  · simp only [if_pos c7]
    exact PS.rd h rfl rfl
  simp only [if_neg c7]
  by_cases c8 : c = 8
  · simp only [if_pos c8]
    exact PS.rd h rfl rfl
  simp only [if_neg c8]
  by_cases c9 : c = 9
  · simp only [if_pos c9]
    exact PS.rd h rfl rfl
  simp only [if_neg c9]
  exact PS.rd h rfl rfl
end PUB5
