/-! the whole of both sides: what is now, and the images -/
theorem RC.sg {Bk Bt D δ : Nat} {g : Mem} {σ σ' : Nat → Int32} (h : RC Bk Bt D δ g σ) (e : ∀ x : Nat, x < 6819 → σ' x = σ x) : RC Bk Bt D δ g σ' := by
  obtain ⟨h1, h2, h3, h4, h5, h6, h7, h8, h9⟩ := id h
  refine ⟨fun k i x hs => ?_, h2, fun l i hl hi => ?_, fun l i hl hi => ?_, fun i hi => ?_, h6, h7, h8, h9⟩
  · have := adr_off hs
    rw [e _ (by omega)]
    exact h1 k i x hs
  · have := (h.m hl).2
    rw [e _ (by omega), e _ (by omega)]
    exact h3 l i hl hi
  · have := (h.k hl).2
    rw [e _ (by omega), e _ (by omega)]
    exact h4 l i hl hi
  · have := h.a.2
    rw [e _ (by omega), e _ (by omega), e _ (by omega), e _ (by omega), e _ (by omega)]
    exact h5 i hi
/-- as long as B calls were made at most -/
def RB (B : Nat) (g : Mem) (σ : Nat → Int32) : Prop := RC B (100 * B) (tk g + 72) 1 g σ
theorem RB.up {B B' : Nat} {g : Mem} {σ : Nat → Int32} (h : RB B g σ) (hB : B ≤ B') : RB B' g σ := by
  obtain ⟨h1, h2, h3⟩ := h
  exact ⟨h1, h2.mono hB (by omega), h3⟩
def IM (n B : Nat) (g f : Mem) (k : Nat) : Prop := (g 1 0 k = 0 ∧ f 3 0 k = 0) ∨ ∃ j : Nat, 1 ≤ j ∧ j < n ∧ g 1 0 k = nI j ∧ f 3 0 k = 1 ∧ RB B (vw j g) (fun x => f 2 0 (6819 * k + x))
/-- how many meshes there are -/
def N3 (n : Nat) (g : Mem) : Prop := n ≤ 3 ∧ (g 1 0 0 = 0 → n ≤ 2) ∧ (g 1 0 1 = 0 → n ≤ 2) ∧ (g 1 0 0 = 0 → g 1 0 1 = 0 → n ≤ 1)
theorem N3.go {n : Nat} {g g' : Mem} (h : N3 n g) (e : g' 1 = g 1) : N3 n g' := by
  unfold N3
  rw [e]
  exact h
def TR (n B : Nat) (g f : Mem) : Prop := N3 n g ∧ RB B g (f 1 0) ∧ IM n B g f 0 ∧ IM n B g f 1 ∧ (g 1 0 0 = g 1 0 1 → g 1 0 0 = 0)
theorem IM.go {n n' B B' k : Nat} {g g' f f' : Mem} (h : IM n B g f k) (hn : n ≤ n') (hB : B ≤ B') (h1 : g' 1 0 k = g 1 0 k) (h3 : f' 3 0 k = f 3 0 k) (h2 : ∀ x : Nat, x < 6819 → f' 2 0 (6819 * k + x) = f 2 0 (6819 * k + x)) (hv : ∀ j : Nat, 1 ≤ j → j < n → g 1 0 k = nI j → ∀ x : Nat, x < 20 → vw j g' x = vw j g x) : IM n' B' g' f' k := by
  rcases h with ⟨a, b⟩ | ⟨j, a1, a2, a3, a4, a5⟩
  · exact Or.inl ⟨h1.trans a, h3.trans b⟩
  · refine Or.inr ⟨j, a1, by omega, h1.trans a3, h3.trans a4, ?_⟩
    have hv' := hv j a1 a2 a3
    have et : tk (vw j g') = tk (vw j g) := by unfold tk; rw [hv' 2 (by omega)]
    have a6 := RC.sg (a5.up hB) h2
    unfold RB
    rw [et]
    exact a6.cp ⟨fun k i x hs => by have := Sc_ne hs; rw [hv' k (by omega)], fun l i hl hi => by rw [hv' 17 (by omega)], fun l i hl hi => by rw [hv' 19 (by omega)], fun k i h1 h2 hi => by rw [hv' k (by omega)]⟩
theorem TR.rp {n B : Nat} {g f : Mem} (h : TR n B g f) : RP g f B g f := ⟨fun _ _ => rfl, fun _ _ => rfl, h.2.1⟩
theorem TR.ps {n B : Nat} {g f : Mem} {a c : Option (Int32 × Mem)} (h : TR n B g f) (hp : PS g f B a c) : ∃ (r : Int32) (g' f' : Mem), a = some (r, g') ∧ c = some (r, f') ∧ TR n (B + 1) g' f' := by
  obtain ⟨r, g', f', e1, e2, k1, k2, k3⟩ := hp
  obtain ⟨y1, y2, y3, y4, y5⟩ := h
  have v : ∀ j : Nat, 1 ≤ j → vw j g' = vw j g := fun j hj => by
    funext k
    exact k1 (k + 20 * j) (by omega)
  have e10 := k1 1 (by omega)
  have f2 := k2 2 (by omega)
  have f3 := k2 3 (by omega)
  exact ⟨r, g', f', e1, e2, y1.go e10, k3, y3.go (Nat.le_refl _) (by omega) (by rw [e10]) (by rw [f3]) (fun _ _ => by rw [f2]) (fun j hj _ _ x _ => by rw [v j hj]), y4.go (Nat.le_refl _) (by omega) (by rw [e10]) (by rw [f3]) (fun _ _ => by rw [f2]) (fun j hj _ _ x _ => by rw [v j hj]), by rw [e10]; exact y5⟩
theorem m_im1 {F kk : Nat} (hk : kk < 2) : ∀ (n k i : Nat) (f : Mem), i + n = 6819 → n < k → lp_X6_image_14 F k f (nI kk) (nI i) = some (1, upr (upr f 2 0 (fun x => if 6819 * kk + i ≤ x ∧ x < 6819 * kk + 6819 then f 1 0 (x - 6819 * kk) else f 2 0 x)) 3 0 (upd (f 3 0) kk 1))
  | 0, k + 1, i, f, hi, hk2 => by
    obtain rfl : i = 6819 := by omega
    rw [lp_X6_image_14]
    unfold st_X6_image_14
    rw [if_pos (by decide), if_neg (ckI (by omega) (by omega)), nI_clamp (by omega)]
    simp only [ltm]
    have e : (fun x => if 6819 * kk + 6819 ≤ x ∧ x < 6819 * kk + 6819 then f 1 0 (x - 6819 * kk) else f 2 0 x) = f 2 0 := by
      funext x
      exact if_neg (by omega)
    rw [e, upr_id]
  | n + 1, k + 1, i, f, hi, hk2 => by
    have ix : ((6819 : Int32) * nI kk + nI i) = nI (6819 * kk + i) := by rw [show (6819 : Int32) = nI 6819 from rfl, pk_mul, nI_add]
    rw [lp_X6_image_14]
    unfold st_X6_image_14
    rw [if_neg (show ¬ (6819 : Int32) ≤ nI i from fun y => by have := (nI_leI (a := 6819) (by omega) (by omega)).mp y; omega), if_neg (ckI (by omega) (by omega)), ix, if_neg (ckI (by omega) (by omega)), nI_clamp (show i < 2 ^ 31 by omega), nI_clamp (show 6819 * kk + i < 2 ^ 31 by omega)]
    simp only [ltm]
    rw [nI_1, m_im1 hk n k (i + 1) _ (by omega) (by omega), upr_upr, upr_k (k' := 3) (by omega), upr_k (k' := 1) (by omega), upr_eq]
    congr 4
    funext x
    by_cases h1 : 6819 * kk + (i + 1) ≤ x ∧ x < 6819 * kk + 6819
    · rw [if_pos h1, if_pos (by omega)]
    · rw [if_neg h1]
      by_cases h2 : x = 6819 * kk + i
      · subst h2
        rw [upd_s, if_pos (by omega), show 6819 * kk + i - 6819 * kk = i by omega]
      · rw [upd_n h2, if_neg (by omega)]
theorem m_re1 {F kk : Nat} (hk : kk < 2) : ∀ (n k i : Nat) (f : Mem), i + n = 6819 → n < k → lp_X6_restore_26 F k f (nI kk) (nI i) = some (1, upr f 1 0 (fun x => if i ≤ x ∧ x < 6819 then f 2 0 (6819 * kk + x) else f 1 0 x))
  | 0, k + 1, i, f, hi, hk2 => by
    obtain rfl : i = 6819 := by omega
    rw [lp_X6_restore_26]
    unfold st_X6_restore_26
    rw [if_pos (by decide)]
    have e : (fun x => if 6819 ≤ x ∧ x < 6819 then f 2 0 (6819 * kk + x) else f 1 0 x) = f 1 0 := by
      funext x
      exact if_neg (by omega)
    rw [e, upr_id]
  | n + 1, k + 1, i, f, hi, hk2 => by
    have ix : ((6819 : Int32) * nI kk + nI i) = nI (6819 * kk + i) := by rw [show (6819 : Int32) = nI 6819 from rfl, pk_mul, nI_add]
    rw [lp_X6_restore_26]
    unfold st_X6_restore_26
    rw [if_neg (show ¬ (6819 : Int32) ≤ nI i from fun y => by have := (nI_leI (a := 6819) (by omega) (by omega)).mp y; omega), ix, if_neg (ckI (by omega) (by omega)), if_neg (ckI (by omega) (by omega)), nI_clamp (show i < 2 ^ 31 by omega), nI_clamp (show 6819 * kk + i < 2 ^ 31 by omega)]
    simp only [ltm]
    rw [nI_1, m_re1 hk n k (i + 1) _ (by omega) (by omega), upr_upr, upr_k (k' := 2) (by omega), upr_eq]
    congr 3
    funext x
    by_cases h1 : i + 1 ≤ x ∧ x < 6819
    · rw [if_pos h1, if_pos (by omega)]
    · rw [if_neg h1]
      by_cases h2 : x = i
      · subst h2
        rw [upd_s, if_pos (by omega)]
      · rw [upd_n h2, if_neg (by omega)]
theorem btw01c {a : Int32} (z : ¬ btw a 0 1 = 0) : ∃ k : Nat, k < 2 ∧ a = nI k := by
  obtain ⟨k, -, h2, h3⟩ := btw_n (m := 0) (n := 1) rfl rfl (by omega) (by omega) z
  exact ⟨k, by omega, h3⟩
theorem TR.im {n B k : Nat} {g f : Mem} (h : TR n B g f) (hk : k < 2) : IM n B g f k := by
  have : k = 0 ∨ k = 1 := by omega
  rcases this with rfl | rfl
  · exact h.2.2.1
  · exact h.2.2.2.1
theorem pp_restore {n B F : Nat} {g f : Mem} (h : TR n B g f) (hF : 7000 ≤ F) (a : Int32) : ∃ (r : Int32) (g' f' : Mem), m_X5_restore F n g a = some (r, g') ∧ m_X6_restore F f a = some (r, f') ∧ TR n (B + 1) g' f' := by
  have up : TR n (B + 1) g f := ⟨h.1, h.2.1.up (by omega), h.2.2.1.go (Nat.le_refl _) (by omega) rfl rfl (fun _ _ => rfl) (fun _ _ _ _ _ _ => rfl), h.2.2.2.1.go (Nat.le_refl _) (by omega) rfl rfl (fun _ _ => rfl) (fun _ _ _ _ _ _ => rfl), h.2.2.2.2⟩
  unfold m_X5_restore m_X6_restore
  simp only [p_btw, p_in, Option.bind_some]
  by_cases z : btw a 0 1 = 0
  · simp only [if_pos z]
    exact ⟨_, g, f, rfl, rfl, up⟩
  · simp only [if_neg z]
    obtain ⟨k, hk, rfl⟩ := btw01c z
    have ck : ¬ (nI k < 0 ∨ 2 ≤ (nI k).toNatClampNeg) := ckI (by omega) (by omega)
    have nk : (nI k).toNatClampNeg = k := nI_clamp (by omega)
    simp only [if_neg ck]
    simp only [nk]
    rcases h.im hk with ⟨e1, e2⟩ | ⟨j, j1, j2, e1, e2, hj⟩
    · rw [if_pos e1, if_pos e2]
      exact ⟨_, g, f, rfl, rfl, up⟩
    · have hn := h.1.1
      have nj : (nI j).toNatClampNeg = j := nI_clamp (by omega)
      have c1 : ¬ (nI j = 0) := fun y => by have := nIi (b := 0) (by omega) (by omega) y; omega
      rw [e1, if_neg c1, nj, if_neg (by omega), e2, if_neg (by decide)]
      obtain ⟨g', k1, k2, k3⟩ := bcm_b (g := g) (F := F) (j := j) j1 (by omega) hj
      have fm := m_re1 (F := F) hk 6819 F 0 f (by omega) (by omega)
      rw [show nI 0 = (0 : Int32) from rfl] at fm
      rw [k1, fm, Option.bind_some]
      have tke : tk (vw j g) = tk g' := by
        have q1 := (hj.1 2 0 3 (by unfold Sc; omega))
        have q2 := (k3.1 2 0 3 (by unfold Sc; omega))
        unfold tk
        rw [q1, q2]
      have v : ∀ j' : Nat, 1 ≤ j' → vw j' g' = vw j' g := fun j' hj' => by
        funext x
        exact k2 (x + 20 * j') (by omega)
      have e10 := k2 1 (by omega)
      refine ⟨1, g', _, rfl, rfl, h.1.go e10, ?_, h.2.2.1.go (Nat.le_refl _) (by omega) (by rw [e10]) (by rw [upr_k (by omega)]) (fun _ _ => by rw [upr_k (by omega)]) (fun j hj _ _ x _ => by rw [v j hj]), h.2.2.2.1.go (Nat.le_refl _) (by omega) (by rw [e10]) (by rw [upr_k (by omega)]) (fun _ _ => by rw [upr_k (by omega)]) (fun j hj _ _ x _ => by rw [v j hj]), by rw [e10]; exact h.2.2.2.2⟩
      rw [tke] at k3
      refine RB.up (B := B) (RC.sg k3 (fun x hx => ?_)) (by omega)
      rw [upr_eq, if_pos ⟨by omega, hx⟩]
/-- an image is kept in a mesh that stands for it already -/
theorem pp_image {n B F k j : Nat} {g f : Mem} (hk : k < 2) (hn : N3 n g) (h : RB B g (f 1 0)) (ho : ∀ k' : Nat, k' < 2 → k' ≠ k → IM n B g f k' ∧ ¬ g 1 0 k' = nI j) (j1 : 1 ≤ j) (j2 : j < n) (e : g 1 0 k = nI j) (hF : 7000 ≤ F) : ∃ g' f' : Mem, m_X4_becomea F j g = some (0, g') ∧ m_X6_image F f (nI k) = some (1, f') ∧ TR n (B + 1) g' f' := by
  have hn33 := hn.1
  obtain ⟨g', k1, k2, k3⟩ := bcm_a (g := g) (F := F) (j := j) j1 (by omega) h
  have fm := m_im1 (F := F) hk 6819 F 0 f (by omega) (by omega)
  rw [show nI 0 = (0 : Int32) from rfl] at fm
  have bk : ¬ btw (nI k) 0 1 = 0 := by
    have : k = 0 ∨ k = 1 := by omega
    rcases this with rfl | rfl <;> decide
  have tke : tk g = tk (vw j g') := by
    have q1 := (h.1 2 0 3 (by unfold Sc; omega))
    have q2 := (k3.1 2 0 3 (by unfold Sc; omega))
    unfold tk
    rw [q1, q2]
  have e10 := k2 1 (by omega)
  have tkg : tk g' = tk g := by unfold tk; rw [k2 2 (by omega)]
  have main : RB (B + 1) g' (f 1 0) := by
    refine RB.up (B := B) ?_ (by omega)
    unfold RB
    rw [tkg]
    exact h.cp ⟨fun k i x hs => by have := Sc_ne hs; rw [k2 k (by omega)], fun l i hl hi => by rw [k2 17 (by omega)], fun l i hl hi => by rw [k2 19 (by omega)], fun k i h1 h2 hi => by rw [k2 k (by omega)]⟩
  generalize hf : upr (upr f 2 0 (fun x => if 6819 * k + 0 ≤ x ∧ x < 6819 * k + 6819 then f 1 0 (x - 6819 * k) else f 2 0 x)) 3 0 (upd (f 3 0) k 1) = f' at fm
  have f1 : f' 1 = f 1 := by rw [← hf, upr_k (by omega), upr_k (by omega)]
  have f2 : ∀ k' x : Nat, k' < 2 → x < 6819 → f' 2 0 (6819 * k' + x) = if k' = k then f 1 0 x else f 2 0 (6819 * k' + x) := by
    intro k' x h1 h2
    rw [← hf, upr_k (by omega), upr_eq]
    by_cases y : k' = k
    · subst y
      rw [if_pos rfl, if_pos (by omega), show 6819 * k' + x - 6819 * k' = x by omega]
    · rw [if_neg y, if_neg (by omega)]
  have f3 : ∀ k' : Nat, f' 3 0 k' = if k' = k then 1 else f 3 0 k' := by
    intro k'
    rw [← hf, upr_eq]
    by_cases y : k' = k
    · subst y
      rw [upd_s, if_pos rfl]
    · rw [upd_n y, if_neg y]
  have own : IM n (B + 1) g' f' k := by
    refine Or.inr ⟨j, j1, j2, by rw [e10, e], by rw [f3, if_pos rfl], ?_⟩
    rw [tke] at k3
    exact RB.up (B := B) (RC.sg k3 (fun x hx => by rw [f2 k x hk hx, if_pos rfl])) (by omega)
  have oth : ∀ k' : Nat, k' < 2 → k' ≠ k → IM n (B + 1) g' f' k' := by
    intro k' h1 h2
    obtain ⟨a1, a2⟩ := ho k' h1 h2
    refine a1.go (Nat.le_refl _) (by omega) (by rw [e10]) (by rw [f3, if_neg h2]) (fun x hx => by rw [f2 k' x h1 hx, if_neg h2]) (fun j' b1 b2 b3 x hx => ?_)
    have hne : j' ≠ j := fun y => a2 (by rw [b3, y])
    exact k2 (x + 20 * j') (by omega)
  have hn3 := hn.1
  refine ⟨g', f', k1, ?_, hn.go e10, by rw [f1]; exact main, ?_, ?_, ?_⟩
  · unfold m_X6_image
    rw [p_in, Option.bind_some, if_neg bk, fm]
  · by_cases y : (0 : Nat) = k
    · subst y
      exact own
    · exact oth 0 (by omega) y
  · by_cases y : (1 : Nat) = k
    · subst y
      exact own
    · exact oth 1 (by omega) y
  · intro y
    exfalso
    rw [e10] at y
    have : k = 0 ∨ k = 1 := by omega
    rcases this with rfl | rfl
    · exact (ho 1 (by omega) (by omega)).2 (by rw [← y, e])
    · exact (ho 0 (by omega) (by omega)).2 (by rw [y, e])
