/-! THE RELATION between the program's memory (a mesh) and the reference's row; what single changes do to it. -/
def adr (k i x : Nat) : Nat := match k with
  | 13 => if x = 4 then i else 10 * x + i
  | 14 => 10 + 10 * x + i
  | 15 => 330 + 10 * i + x
  | 16 => 160 + i
  | 18 => 150 + i
  | 5 => 810 + 3 * x
  | 6 => 811 + 3 * x
  | 7 => 812 + 3 * x
  | 2 => if x ≤ 7 then 6807 + x else 6808 + x
  | _ => 6815
def Sc (k i x : Nat) : Prop := (k = 13 ∧ i < 10 ∧ 4 ≤ x ∧ x ≤ 14) ∨ (k = 14 ∧ i < 10 ∧ x < 4) ∨ (k = 15 ∧ i < 10 ∧ x < 10) ∨ (k = 16 ∧ i < 10 ∧ x = 1) ∨ (k = 18 ∧ i < 10 ∧ x = 1) ∨ (k = 5 ∧ i = 0 ∧ x < 2000) ∨ (k = 6 ∧ i = 0 ∧ x < 2000) ∨ (k = 7 ∧ i = 0 ∧ x < 2000) ∨ (k = 2 ∧ i = 0 ∧ 3 ≤ x ∧ x ≤ 10) ∨ (k = 8 ∧ i = 0 ∧ x = 4)
theorem adr_off {k i x : Nat} (h : Sc k i x) : adr k i x < 170 ∨ (330 ≤ adr k i x ∧ adr k i x < 430) ∨ (810 ≤ adr k i x ∧ adr k i x < 6819) := by
  rcases h with ⟨rfl, h⟩ | ⟨rfl, h⟩ | ⟨rfl, h⟩ | ⟨rfl, h⟩ | ⟨rfl, h⟩ | ⟨rfl, h⟩ | ⟨rfl, h⟩ | ⟨rfl, h⟩ | ⟨rfl, h⟩ | ⟨rfl, h⟩ <;> simp only [adr] <;> (try split) <;> omega
theorem adr_inj {k i x k' i' x' : Nat} (h : Sc k i x) (h' : Sc k' i' x') (e : adr k i x = adr k' i' x') : k = k' ∧ i = i' ∧ x = x' := by
  rcases h with ⟨rfl, h⟩ | ⟨rfl, h⟩ | ⟨rfl, h⟩ | ⟨rfl, h⟩ | ⟨rfl, h⟩ | ⟨rfl, h⟩ | ⟨rfl, h⟩ | ⟨rfl, h⟩ | ⟨rfl, h⟩ | ⟨rfl, h⟩ <;>
  rcases h' with ⟨rfl, h'⟩ | ⟨rfl, h'⟩ | ⟨rfl, h'⟩ | ⟨rfl, h'⟩ | ⟨rfl, h'⟩ | ⟨rfl, h'⟩ | ⟨rfl, h'⟩ | ⟨rfl, h'⟩ | ⟨rfl, h'⟩ | ⟨rfl, h'⟩ <;>
  simp only [adr] at e <;> (repeat' (split at e)) <;> omega
theorem Sc_ne {k i x : Nat} (h : Sc k i x) : k ≠ 17 ∧ k ≠ 19 ∧ k ≠ 9 ∧ k ≠ 10 ∧ k ≠ 11 ∧ k ≠ 12 ∧ 2 ≤ k ∧ k < 20 := by
  rcases h with ⟨rfl, h⟩ | ⟨rfl, h⟩ | ⟨rfl, h⟩ | ⟨rfl, h⟩ | ⟨rfl, h⟩ | ⟨rfl, h⟩ | ⟨rfl, h⟩ | ⟨rfl, h⟩ | ⟨rfl, h⟩ | ⟨rfl, h⟩ <;> omega
def R1 (g : Mem) (σ : Nat → Int32) : Prop := ∀ k i x : Nat, Sc k i x → g k i x = σ (adr k i x)
/-- what a number of each kind may be -/
def Okv (Bk Bt k x : Nat) (v : Int32) : Prop := (k = 13 → x = 4 → ∃ b : Nat, b < 1024 ∧ v = nI b) ∧ (k = 13 → x = 6 → v = 0 ∨ v = 1) ∧ (k = 13 → x = 7 → v = -6 ∨ ∃ j : Nat, j < 10 ∧ v = nI j) ∧ (k = 13 → x = 8 → ∃ t : Nat, t ≤ 200 ∧ v = nI t) ∧ (k = 14 → x = 0 → ∃ w : Nat, 1 ≤ w ∧ w ≤ 9 ∧ v = nI w) ∧ (k = 14 → x = 2 → ∃ c : Nat, c ≤ 8 ∧ v = nI c) ∧ (k = 16 → ∃ a : Nat, a ≤ 8 ∧ v = nI a) ∧ (k = 18 → ∃ a : Nat, a ≤ 3 ∧ v = nI a) ∧ (k = 8 → ∃ a : Nat, a ≤ 64 ∧ v = nI a) ∧ (k = 2 → x = 3 → ∃ t : Nat, t ≤ Bt ∧ v = nI t) ∧ (k = 2 → x = 4 → ∃ t : Nat, t ≤ Bk ∧ v = nI t) ∧ (k = 2 → x = 5 → ∃ p : Nat, p ≤ 2 ∧ v = nI p) ∧ (k = 2 → x = 6 → ∃ b : Nat, b < 1024 ∧ v = nI b) ∧ (k = 2 → x = 7 → ∃ b : Nat, b < 1024 ∧ v = nI b)
def Jv (Bk Bt : Nat) (g : Mem) : Prop := ∀ k i x : Nat, Sc k i x → Okv Bk Bt k x (g k i x)
/-- a letter: its place here, its source and number there -/
def LR (a b c : Int32) : Prop := ∃ q : Nat, q < 2000 ∧ a = nI q ∧ b = nI (q / 200) ∧ c = nI (q % 200 + 1)
def mz (g : Mem) (l : Nat) : Nat := (g 16 l 1).toNatClampNeg
def kz (g : Mem) (l : Nat) : Nat := (g 18 l 1).toNatClampNeg
def az (g : Mem) : Nat := (g 8 0 4).toNatClampNeg
def tk (g : Mem) : Nat := (g 2 0 3).toNatClampNeg
def R2m (g : Mem) (σ : Nat → Int32) : Prop := ∀ l i : Nat, l < 10 → i < mz g l → LR (g 17 l i) (σ (170 + 16 * l + 2 * i)) (σ (171 + 16 * l + 2 * i))
def R2k (g : Mem) (σ : Nat → Int32) : Prop := ∀ l i : Nat, l < 10 → i < kz g l → LR (g 19 l i) (σ (430 + 6 * l + 2 * i)) (σ (431 + 6 * l + 2 * i))
def R2a (g : Mem) (σ : Nat → Int32) : Prop := ∀ i : Nat, i < az g → g 9 0 i = σ (490 + 5 * i) ∧ g 10 0 i = σ (491 + 5 * i) ∧ LR (g 11 0 i) (σ (492 + 5 * i)) (σ (493 + 5 * i)) ∧ g 12 0 i = σ (494 + 5 * i)
def X1 (g : Mem) : Prop := ∀ l : Nat, l < 10 → mz g l ≤ (g 14 l 2).toNatClampNeg
def X2 (g : Mem) : Prop := g 2 0 5 = 0 → g 2 0 7 = 0
def X3 (D δ : Nat) (g : Mem) : Prop := ∀ i : Nat, i < az g → (∃ x : Nat, x < 20 ∧ g 9 0 i = nI x) ∧ ∃ t c : Nat, g 10 0 i = nI t ∧ g 12 0 i = nI c ∧ tk g + δ ≤ t ∧ t ≤ tk g + 9 ∧ 1 ≤ c ∧ c ≤ 7 ∧ t + 9 * c ≤ D
/-- no lamp is linked to itself -/
def X4 (g : Mem) : Prop := ∀ l : Nat, l < 10 → isI (g 13 l 4) (nI l) = 0
def RC (Bk Bt D δ : Nat) (g : Mem) (σ : Nat → Int32) : Prop := R1 g σ ∧ Jv Bk Bt g ∧ R2m g σ ∧ R2k g σ ∧ R2a g σ ∧ X1 g ∧ X2 g ∧ X3 D δ g ∧ X4 g
theorem upr_k {g : Mem} {k i k' : Nat} {r : Nat → Int32} (h : k' ≠ k) : upr g k i r k' = g k' := by
  unfold upr
  rw [if_neg h]
theorem upd_s {f : Nat → Int32} {k : Nat} {x : Int32} : upd f k x k = x := by simp [upd]
theorem upd_n {f : Nat → Int32} {k j : Nat} {x : Int32} (h : j ≠ k) : upd f k x j = f j := by simp [upd, h]
theorem R1.set {g : Mem} {σ : Nat → Int32} (h : R1 g σ) {k i x : Nat} {v : Int32} (hs : Sc k i x) : R1 (upr g k i (upd (g k i) x v)) (upd σ (adr k i x) v) := by
  intro k' i' x' hs'
  by_cases e : k' = k ∧ i' = i
  · obtain ⟨rfl, rfl⟩ := e
    rw [upr_eq]
    by_cases e2 : x' = x
    · subst e2
      rw [upd_s, upd_s]
    · rw [upd_n e2, upd_n (fun z => e2 (adr_inj hs' hs z).2.2)]
      exact h _ _ _ hs'
  · rw [upr_ne e, upd_n (fun z => e ⟨(adr_inj hs' hs z).1, (adr_inj hs' hs z).2.1⟩)]
    exact h _ _ _ hs'
theorem Jv.set {Bk Bt : Nat} {g : Mem} (h : Jv Bk Bt g) {k i x : Nat} {v : Int32} (hv : Okv Bk Bt k x v) : Jv Bk Bt (upr g k i (upd (g k i) x v)) := by
  intro k' i' x' hs'
  by_cases e : k' = k ∧ i' = i
  · obtain ⟨rfl, rfl⟩ := e
    rw [upr_eq]
    by_cases e2 : x' = x
    · subst e2
      rw [upd_s]
      exact hv
    · rw [upd_n e2]
      exact h _ _ _ hs'
  · rw [upr_ne e]
    exact h _ _ _ hs'
/-- a number that no list hangs on -/
def plain (k x : Nat) : Prop := k ≠ 16 ∧ k ≠ 18 ∧ k ≠ 8 ∧ ¬ (k = 14 ∧ x = 2) ∧ ¬ (k = 2 ∧ (x = 3 ∨ x = 5 ∨ x = 7)) ∧ ¬ (k = 13 ∧ x = 4)
theorem RC.set {Bk Bt D δ : Nat} {g : Mem} {σ : Nat → Int32} (h : RC Bk Bt D δ g σ) {k i x a : Nat} {v : Int32} (hs : Sc k i x) (hp : plain k x) (hv : Okv Bk Bt k x v) (ha : a = adr k i x) : RC Bk Bt D δ (upr g k i (upd (g k i) x v)) (upd σ a v) := by
  subst ha
  obtain ⟨h1, h2, h3, h4, h5, h6, h7, h8, h9⟩ := h
  obtain ⟨p1, p2, p3, p4, p5, p6⟩ := hp
  have ho := adr_off hs
  obtain ⟨n1, n2, n3, n4, n5, n6, -, -⟩ := Sc_ne hs
  have k14 : ∀ l, upr g k i (upd (g k i) x v) 14 l 2 = g 14 l 2 := by
    intro l
    by_cases e : (14 : Nat) = k ∧ l = i
    · obtain ⟨rfl, rfl⟩ := e
      rw [upr_eq, upd_n (fun z => p4 ⟨rfl, z.symm⟩)]
    · rw [upr_ne e]
  have k2 : ∀ y, (y = 3 ∨ y = 5 ∨ y = 7) → upr g k i (upd (g k i) x v) 2 0 y = g 2 0 y := by
    intro y hy
    by_cases e : (2 : Nat) = k ∧ 0 = i
    · obtain ⟨rfl, rfl⟩ := e
      rw [upr_eq, upd_n (fun z => p5 ⟨rfl, by subst z; exact hy⟩)]
    · rw [upr_ne e]
  have e16 : upr g k i (upd (g k i) x v) 16 = g 16 := upr_k (Ne.symm p1)
  have e18 : upr g k i (upd (g k i) x v) 18 = g 18 := upr_k (Ne.symm p2)
  have e8 : upr g k i (upd (g k i) x v) 8 = g 8 := upr_k (Ne.symm p3)
  have e17 : upr g k i (upd (g k i) x v) 17 = g 17 := upr_k (Ne.symm n1)
  have e19 : upr g k i (upd (g k i) x v) 19 = g 19 := upr_k (Ne.symm n2)
  have e9 : upr g k i (upd (g k i) x v) 9 = g 9 := upr_k (Ne.symm n3)
  have e10 : upr g k i (upd (g k i) x v) 10 = g 10 := upr_k (Ne.symm n4)
  have e11 : upr g k i (upd (g k i) x v) 11 = g 11 := upr_k (Ne.symm n5)
  have e12 : upr g k i (upd (g k i) x v) 12 = g 12 := upr_k (Ne.symm n6)
  have k13 : ∀ l, upr g k i (upd (g k i) x v) 13 l 4 = g 13 l 4 := by
    intro l
    by_cases e : (13 : Nat) = k ∧ l = i
    · obtain ⟨rfl, rfl⟩ := e
      rw [upr_eq, upd_n (fun z => p6 ⟨rfl, z.symm⟩)]
    · rw [upr_ne e]
  refine ⟨h1.set hs, h2.set hv, ?_, ?_, ?_, ?_, ?_, ?_, ?_⟩
  · intro l j hl hj
    unfold mz at hj
    rw [e16] at hj
    have hm : g 16 l 1 = nI (mz g l) ∧ mz g l ≤ 8 := by
      obtain ⟨a, ha, e⟩ := (h2 16 l 1 (by unfold Sc; omega)).2.2.2.2.2.2.1 rfl
      have : mz g l = a := by unfold mz; rw [e, nI_clamp (by omega)]
      rw [this]
      exact ⟨e, ha⟩
    have hj2 : j < mz g l := hj
    rw [e17, upd_n (by omega), upd_n (by omega)]
    exact h3 l j hl hj
  · intro l j hl hj
    unfold kz at hj
    rw [e18] at hj
    have hm : kz g l ≤ 3 := by
      obtain ⟨a, ha, e⟩ := (h2 18 l 1 (by unfold Sc; omega)).2.2.2.2.2.2.2.1 rfl
      have : kz g l = a := by unfold kz; rw [e, nI_clamp (by omega)]
      omega
    have hj2 : j < kz g l := hj
    rw [e19, upd_n (by omega), upd_n (by omega)]
    exact h4 l j hl hj
  · intro j hj
    unfold az at hj
    rw [e8] at hj
    have hm : az g ≤ 64 := by
      obtain ⟨a, ha, e⟩ := (h2 8 0 4 (by unfold Sc; omega)).2.2.2.2.2.2.2.2.1 rfl
      have : az g = a := by unfold az; rw [e, nI_clamp (by omega)]
      omega
    have hj2 : j < az g := hj
    rw [e9, e10, e11, e12, upd_n (by omega), upd_n (by omega), upd_n (by omega), upd_n (by omega), upd_n (by omega)]
    exact h5 j hj
  · intro l hl
    unfold mz
    rw [e16, k14]
    exact h6 l hl
  · intro h
    rw [k2 5 (by omega)] at h
    rw [k2 7 (by omega)]
    exact h7 h
  · intro j hj
    unfold az at hj
    rw [e8] at hj
    unfold tk
    rw [e9, e10, e12, k2 3 (by omega)]
    exact h8 j hj
  · intro l hl
    rw [k13]
    exact h9 l hl
/-- what the relation says of each number -/
theorem RC.s {Bk Bt D δ : Nat} {g : Mem} {σ : Nat → Int32} (h : RC Bk Bt D δ g σ) {k i x a : Nat} (hs : Sc k i x) (ha : adr k i x = a) : g k i x = σ a := by rw [← ha]; exact h.1 k i x hs
theorem RC.m {Bk Bt D δ : Nat} {g : Mem} {σ : Nat → Int32} (h : RC Bk Bt D δ g σ) {l : Nat} (hl : l < 10) : g 16 l 1 = nI (mz g l) ∧ mz g l ≤ 8 := by
  obtain ⟨a, ha, e⟩ := (h.2.1 16 l 1 (by unfold Sc; omega)).2.2.2.2.2.2.1 rfl
  have : mz g l = a := by unfold mz; rw [e, nI_clamp (by omega)]
  rw [this]
  exact ⟨e, ha⟩
theorem RC.k {Bk Bt D δ : Nat} {g : Mem} {σ : Nat → Int32} (h : RC Bk Bt D δ g σ) {l : Nat} (hl : l < 10) : g 18 l 1 = nI (kz g l) ∧ kz g l ≤ 3 := by
  obtain ⟨a, ha, e⟩ := (h.2.1 18 l 1 (by unfold Sc; omega)).2.2.2.2.2.2.2.1 rfl
  have : kz g l = a := by unfold kz; rw [e, nI_clamp (by omega)]
  rw [this]
  exact ⟨e, ha⟩
theorem RC.a {Bk Bt D δ : Nat} {g : Mem} {σ : Nat → Int32} (h : RC Bk Bt D δ g σ) : g 8 0 4 = nI (az g) ∧ az g ≤ 64 := by
  obtain ⟨a, ha, e⟩ := (h.2.1 8 0 4 (by unfold Sc; omega)).2.2.2.2.2.2.2.2.1 rfl
  have : az g = a := by unfold az; rw [e, nI_clamp (by omega)]
  rw [this]
  exact ⟨e, ha⟩
theorem RC.t {Bk Bt D δ : Nat} {g : Mem} {σ : Nat → Int32} (h : RC Bk Bt D δ g σ) (hB : Bt < 1000000) : g 2 0 3 = nI (tk g) ∧ tk g ≤ Bt := by
  obtain ⟨a, ha, e⟩ := (h.2.1 2 0 3 (by unfold Sc; omega)).2.2.2.2.2.2.2.2.2.1 rfl rfl
  have : tk g = a := by unfold tk; rw [e, nI_clamp (by omega)]
  rw [this]
  exact ⟨e, ha⟩
/-- with what stays beside: the program's other kinds, the reference's other rows -/
def RR (g0 f0 : Mem) (Bk Bt D δ : Nat) (g f : Mem) : Prop := (∀ k : Nat, k < 2 ∨ 20 ≤ k → g k = g0 k) ∧ (∀ k : Nat, k ≠ 1 → f k = f0 k) ∧ RC Bk Bt D δ g (f 1 0)
theorem RR.set {g0 f0 : Mem} {Bk Bt D δ : Nat} {g f : Mem} (h : RR g0 f0 Bk Bt D δ g f) {k i x a : Nat} {v : Int32} (hs : Sc k i x) (hp : plain k x) (hv : Okv Bk Bt k x v) (ha : a = adr k i x) : RR g0 f0 Bk Bt D δ (upr g k i (upd (g k i) x v)) (upr f 1 0 (upd (f 1 0) a v)) := by
  obtain ⟨-, -, -, -, -, -, n1, n2⟩ := Sc_ne hs
  refine ⟨fun k' hk => ?_, fun k' hk => ?_, ?_⟩
  · rw [upr_k (by omega)]
    exact h.1 k' hk
  · rw [upr_k hk]
    exact h.2.1 k' hk
  · rw [upr_eq]
    exact h.2.2.set hs hp hv ha
