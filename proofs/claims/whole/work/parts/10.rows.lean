/-! A flat memory for a world of cells whose shape stays: kinds, indices, slots; the rows of instructions over it. -/
abbrev Mem : Type := Nat → Nat → Nat → Int32
/-- one cell's numbers are others -/
def upr (g : Mem) (k i : Nat) (r : Nat → Int32) : Mem := fun a => if a = k then (fun b => if b = i then r else g k b) else g a
/-- the tables' classes; how many cells of each kind; their addresses; what a cell is by its numbers; array classes; words of nest mates -/
abbrev Fx : Type := va_G × (Nat → Nat) × (Nat → Nat → Nat) × (Nat → Nat → (Nat → Int32) → va_E) × List (ClassId × FieldType) × List Cond
def fD (φ : Fx) : va_G := φ.1
def fC (φ : Fx) : Nat → Nat := φ.2.1
def fa (φ : Fx) : Nat → Nat → Nat := φ.2.2.1
def fm (φ : Fx) : Nat → Nat → (Nat → Int32) → va_E := φ.2.2.2.1
def fT (φ : Fx) : List (ClassId × FieldType) := φ.2.2.2.2.1
def fN (φ : Fx) : List Cond := φ.2.2.2.2.2
def fw (φ : Fx) (g : Mem) (H : Heap) : Prop := ∀ k i : Nat, i < fC φ k → va_at (fD φ) vwCl (fa φ k i, fm φ k i (g k i)) H
def fA (φ : Fx) : Nat → Prop := fun q => ∃ k i : Nat, i < fC φ k ∧ q = fa φ k i
def fok (φ : Fx) : Prop := (∀ k i k' i' : Nat, i < fC φ k → i' < fC φ k' → fa φ k i = fa φ k' i' → k = k' ∧ i = i') ∧ (∀ k : Nat, 64 ≤ k → fC φ k = 0) ∧ (∀ w ∈ fN φ, ∃ (a : String) (i : Nat) (x : MethodName) (h : String), w = .methodLinkNest a i x h)
def fE (φ : Fx) (U : State) : Prop := va_K (fD φ) vwCl (fT φ) U ∧ ∀ w ∈ fN φ, va_Nw w U
def wl (φ : Fx) (g : Mem) : va_W := (List.range 64).flatMap (fun k => (List.range (fC φ k)).map (fun i => (fa φ k i, fm φ k i (g k i))))
theorem wl_mem {φ : Fx} {g : Mem} {q : Nat × va_E} : q ∈ wl φ g ↔ ∃ k i : Nat, k < 64 ∧ i < fC φ k ∧ q = (fa φ k i, fm φ k i (g k i)) := by
  unfold wl
  simp only [List.mem_flatMap, List.mem_range, List.mem_map]
  constructor
  · rintro ⟨k, hk, i, hi, rfl⟩
    exact ⟨k, i, hk, hi, rfl⟩
  · rintro ⟨k, i, hk, hi, rfl⟩
    exact ⟨k, hk, i, hi, rfl⟩
theorem wl_pair {φ : Fx} {g : Mem} (hok : fok φ) : (wl φ g).Pairwise (fun p q => p.1 ≠ q.1) := by
  unfold wl
  rw [List.pairwise_flatMap]
  refine ⟨fun k _ => ?_, ?_⟩
  · rw [List.pairwise_map]
    refine List.Pairwise.imp_of_mem ?_ List.pairwise_lt_range
    intro a b ha hb hab e
    have := (hok.1 k a k b (List.mem_range.mp ha) (List.mem_range.mp hb) e).2
    omega
  · refine List.Pairwise.imp_of_mem ?_ List.pairwise_lt_range
    intro a b _ _ hab x hx y hy e
    obtain ⟨i, hi, rfl⟩ := List.mem_map.mp hx
    obtain ⟨j, hj, rfl⟩ := List.mem_map.mp hy
    have := (hok.1 a i b j (List.mem_range.mp hi) (List.mem_range.mp hj) e).1
    omega
theorem fw_P {φ : Fx} {g : Mem} {H : Heap} (hF : fw φ g H) : va_P (fD φ) vwCl (wl φ g) H := by
  intro p q h
  obtain ⟨k, i, -, hi, rfl⟩ := wl_mem.mp (List.mem_of_getElem? h)
  exact hF k i hi
theorem fw_D {φ : Fx} {g : Mem} (hok : fok φ) : va_D (fA φ) (wl φ g) := by
  have hp := List.pairwise_iff_getElem.mp (wl_pair (g := g) hok)
  refine ⟨fun i j p q hi hj e => ?_, fun p q h => ?_⟩
  · obtain ⟨li, ei⟩ := List.getElem?_eq_some_iff.mp hi
    obtain ⟨lj, ej⟩ := List.getElem?_eq_some_iff.mp hj
    rcases Nat.lt_trichotomy i j with h | h | h
    · exact absurd (by rw [ei, ej]; exact e) (hp i j li lj h)
    · exact h
    · exact absurd (by rw [ei, ej]; exact e.symm) (hp j i lj li h)
  · obtain ⟨k, i, -, hi, rfl⟩ := wl_mem.mp (List.mem_of_getElem? h)
    exact ⟨k, i, hi, rfl⟩
theorem fw_pos {φ : Fx} {g : Mem} (hok : fok φ) {k i : Nat} (hi : i < fC φ k) : ∃ p : Nat, (wl φ g)[p]? = some (fa φ k i, fm φ k i (g k i)) := by
  refine List.getElem?_of_mem (wl_mem.mpr ⟨k, i, ?_, hi, rfl⟩)
  rcases Nat.lt_or_ge k 64 with h | h
  · exact h
  · rw [hok.2.1 k h] at hi
    omega
theorem upr_ne {g : Mem} {k i k' i' : Nat} {r : Nat → Int32} (h : ¬ (k' = k ∧ i' = i)) : upr g k i r k' i' = g k' i' := by
  unfold upr
  by_cases h1 : k' = k
  · subst h1
    by_cases h2 : i' = i
    · exact absurd ⟨rfl, h2⟩ h
    · simp [h2]
  · simp [h1]
theorem upr_eq {g : Mem} {k i : Nat} {r : Nat → Int32} : upr g k i r k i = r := by simp [upr]
theorem fw_back {φ : Fx} {g : Mem} {H1 : Heap} (hok : fok φ) {k i p : Nat} {r : Nat → Int32} (hi : i < fC φ k) (hp : (wl φ g)[p]? = some (fa φ k i, fm φ k i (g k i))) (hP : va_P (fD φ) vwCl ((wl φ g).set p (fa φ k i, fm φ k i r)) H1) : fw φ (upr g k i r) H1 := by
  have hl := (List.getElem?_eq_some_iff.mp hp).1
  intro k' i' h'
  by_cases hk : k' = k ∧ i' = i
  · obtain ⟨rfl, rfl⟩ := hk
    rw [upr_eq]
    exact hP p _ (by rw [List.getElem?_set_self hl])
  · rw [upr_ne hk]
    obtain ⟨p', hp'⟩ := fw_pos (g := g) hok h'
    have hne : p ≠ p' := by
      intro e
      subst e
      have e2 := Option.some.inj (hp'.symm.trans hp)
      exact hk (hok.1 k' i' k i h' hi (congrArg Prod.fst e2))
    exact hP p' _ (by rw [List.getElem?_set_ne hne]; exact hp')
theorem va_P1 {D : va_G} {cl : List vw_C} {q : Nat × va_E} {H : Heap} (h : va_at D cl q H) : va_P D cl [q] H := by
  intro k x hx
  have hz : k < 1 := (List.getElem?_eq_some_iff.mp hx).1
  rw [show k = 0 by omega] at hx
  cases hx
  exact h
/-- the checks and branches of a decompiled method -/
theorem ck {α : Type} {c : Prop} [Decidable c] {r : Option α} {u : α} (h : (if c then none else r) = some u) : ¬ c ∧ r = some u := by
  by_cases hc : c
  · rw [if_pos hc] at h
    cases h
  · rw [if_neg hc] at h
    exact ⟨hc, h⟩
theorem ift {α : Type} {c : Prop} [Decidable c] {a b r : α} (h : (if c then a else b) = r) (hc : c) : a = r := by
  rw [if_pos hc] at h
  exact h
theorem iff0 {α : Type} {c : Prop} [Decidable c] {a b r : α} (h : (if c then a else b) = r) (hc : ¬ c) : b = r := by
  rw [if_neg hc] at h
  exact h
theorem bnd {α β : Type} {x : Option α} {f : α → Option β} {u : β} (h : x.bind f = some u) : ∃ a, x = some a ∧ f a = some u := Option.bind_eq_some_iff.mp h
theorem vpl {x : Int32} {n : Nat} (h : ¬ (x < 0 ∨ n ≤ x.toNatClampNeg)) : x.toNatClampNeg < n := Nat.not_le.mp fun q => h (Or.inr q)
theorem zok {x : Int32} (h : ¬ ¬ (x = 0 ∨ x = 1)) : narrow .boolean (.int x) = .int x ∧ fits .boolean (.int x) = true := by
  rcases Classical.not_not.mp h with rfl | rfl
  · exact ⟨rfl, rfl⟩
  · exact ⟨rfl, rfl⟩
section FW
variable {p : Program} {l : Launch} {e : Env} {R : Room} {s : State} {m : MethodId} {args : Array Value} {below : List Frame} {meth : Method} {c : Code} {H : Heap} {locs : List Loc} {cells slots : Nat} {Q : State → Prop}
variable {cc : ByteArray} {pc : Nat} {ls : Array Slot} {rest : List Value} {H0 : Heap} {φ : Fx} {g : Mem}
theorem fw_get (hexec : p.tables.exec = Jvm.exec) (hb : c.code = cc) {own C : String} {T : u_T} {N ci index : Nat} (hts : ∀ w ∈ u_ws C T N, w.before args s = true) (hown : s.vm.findClass own = some m.cls) (hE : fE φ s) (hF : fw φ g H) {k i : Nat} (hi : i < fC φ k) {fs : List Value} (he : fm φ k i (g k i) = .inr (ci, fs)) (hc : vwCl[ci]? = some (C, T, N)) (f : Nat) (hf : f < N) (hlink : (Cond.fieldLink own index (T f).1 (T f).2.1 (T f).2.2.1).before args s = true) {v : Value} (hv : fs[f]? = some v) (hdg : decode cc pc = .ok (.getfield index, 3))
    (kk : W p l e R s m args below meth c H locs cells slots Q (F0 m (pc + 3) ls (v :: rest))) : W p l e R s m args below meth c H locs cells slots Q (F0 m pc ls (.ref (fa φ k i) :: rest)) := by
  have h1 := hF k i hi
  rw [he] at h1
  exact va_get hexec hb hts (fun _ h => h) hown hE.1 (va_P1 h1) 0 rfl hc f hf hlink (fun _ h => h) hv hdg kk
theorem fw_put (hexec : p.tables.exec = Jvm.exec) (hb : c.code = cc) {own C : String} {T : u_T} {N ci index : Nat} (hts : ∀ w ∈ u_ws C T N, w.before args s = true) (ty0 : Nat → FieldType) (hty : ∀ k, k < N → parseFieldDescriptor (T k).2.2.1 = some (ty0 k)) (hnm : ∀ a, a < N → ∀ b, b < N → a ≠ b → (T a).2.1 ≠ (T b).2.1) (hown : s.vm.findClass own = some m.cls) (hE : fE φ s) (hok : fok φ) (hF : fw φ g H) (hS : va_S (fA φ) H0 H locs) {k i : Nat} (hi : i < fC φ k) {fs : List Value} (he : fm φ k i (g k i) = .inr (ci, fs)) (hc : vwCl[ci]? = some (C, T, N)) (f : Nat) (hf : f < N) (hlink : (Cond.fieldLink own index (T f).1 (T f).2.1 (T f).2.2.1).before args s = true) (hfin : (T f).2.2.2 = false) {ty : FieldType} {v : Value} (hd : parseFieldDescriptor (T f).2.2.1 = some ty) (hn : narrow ty v = v) (hfit : fits ty v = true) (hl : f < fs.length) {r : Nat → Int32} (he2 : fm φ k i r = .inr (ci, fs.set f v)) (hdg : decode cc pc = .ok (.putfield index, 3))
    (kk : ∀ (H1 : Heap) (locs1 : List Loc), fw φ (upr g k i r) H1 → va_S (fA φ) H0 H1 locs1 → W p l e R s m args below meth c H1 locs1 cells slots Q (F0 m (pc + 3) ls rest)) : W p l e R s m args below meth c H locs cells slots Q (F0 m pc ls (v :: .ref (fa φ k i) :: rest)) := by
  obtain ⟨q0, hq⟩ := fw_pos (g := g) hok hi
  exact va_put hexec hb hts (fun _ h => h) ty0 hty hnm hown hE.1 (fw_P hF) (fw_D hok) hS q0 (by rw [hq, he]) hc f hf hlink (fun _ h => h) hfin hd hn hfit hl hdg (fun H1 locs1 hP _ hS1 => kk H1 locs1 (fw_back hok hi hq (by rw [he2]; exact hP)) hS1)
theorem fw_iald (hexec : p.tables.exec = Jvm.exec) (hb : c.code = cc) (hE : fE φ s) (hF : fw φ g H) {k i : Nat} (hi : i < fC φ k) {cA : ClassId} {n : Nat} (he : ∀ h, fm φ k i h = .inl (cA, n, .inl h)) (t0 : Nat) (ht : (fT φ)[t0]? = some (cA, .int)) {x : Int32} (hin : ¬ (x < 0 ∨ n ≤ x.toNatClampNeg)) {q : Nat} (hq : x.toNatClampNeg = q) (hdg : decode cc pc = .ok (.iaload, 1))
    (kk : W p l e R s m args below meth c H locs cells slots Q (F0 m (pc + 1) ls (.int (g k i q) :: rest))) : W p l e R s m args below meth c H locs cells slots Q (F0 m pc ls (.int x :: .ref (fa φ k i) :: rest)) := by
  subst hq
  have h1 := hF k i hi
  rw [he] at h1
  exact va_iald hexec hb hE.1 (va_P1 h1) 0 t0 rfl ht hin hdg kk
theorem fw_zald (hexec : p.tables.exec = Jvm.exec) (hb : c.code = cc) (hE : fE φ s) (hF : fw φ g H) {k i : Nat} (hi : i < fC φ k) {cA : ClassId} {n : Nat} (he : ∀ h, fm φ k i h = .inl (cA, n, .inl h)) (t0 : Nat) (ht : (fT φ)[t0]? = some (cA, .boolean)) {x : Int32} (hin : ¬ (x < 0 ∨ n ≤ x.toNatClampNeg)) {q : Nat} (hq : x.toNatClampNeg = q) (hdg : decode cc pc = .ok (.baload, 1))
    (kk : W p l e R s m args below meth c H locs cells slots Q (F0 m (pc + 1) ls (.int (g k i q) :: rest))) : W p l e R s m args below meth c H locs cells slots Q (F0 m pc ls (.int x :: .ref (fa φ k i) :: rest)) := by
  subst hq
  have h1 := hF k i hi
  rw [he] at h1
  exact va_zald hexec hb hE.1 (va_P1 h1) 0 t0 rfl ht hin hdg kk
theorem fw_iast (hexec : p.tables.exec = Jvm.exec) (hb : c.code = cc) (hE : fE φ s) (hok : fok φ) (hF : fw φ g H) (hS : va_S (fA φ) H0 H locs) {k i : Nat} (hi : i < fC φ k) {cA : ClassId} {n : Nat} (he : ∀ h, fm φ k i h = .inl (cA, n, .inl h)) (t0 : Nat) (ht : (fT φ)[t0]? = some (cA, .int)) {x v : Int32} (hin : ¬ (x < 0 ∨ n ≤ x.toNatClampNeg)) {q : Nat} (hq : x.toNatClampNeg = q) (hdg : decode cc pc = .ok (.iastore, 1))
    (kk : ∀ (H1 : Heap) (locs1 : List Loc), fw φ (upr g k i (upd (g k i) q v)) H1 → va_S (fA φ) H0 H1 locs1 → W p l e R s m args below meth c H1 locs1 cells slots Q (F0 m (pc + 1) ls rest)) : W p l e R s m args below meth c H locs cells slots Q (F0 m pc ls (.int v :: .int x :: .ref (fa φ k i) :: rest)) := by
  subst hq
  obtain ⟨q0, hq⟩ := fw_pos (g := g) hok hi
  exact va_iast hexec hb hE.1 (fw_P hF) (fw_D hok) hS q0 t0 (by rw [hq, he]) ht hin hdg (fun H1 locs1 hP _ hS1 => kk H1 locs1 (fw_back hok hi hq (by rw [he]; exact hP)) hS1)
theorem fw_zast (hexec : p.tables.exec = Jvm.exec) (hb : c.code = cc) (hE : fE φ s) (hok : fok φ) (hF : fw φ g H) (hS : va_S (fA φ) H0 H locs) {k i : Nat} (hi : i < fC φ k) {cA : ClassId} {n : Nat} (he : ∀ h, fm φ k i h = .inl (cA, n, .inl h)) (t0 : Nat) (ht : (fT φ)[t0]? = some (cA, .boolean)) {x v : Int32} (hin : ¬ (x < 0 ∨ n ≤ x.toNatClampNeg)) {q : Nat} (hq : x.toNatClampNeg = q) (hv : vp_nar .boolean v = v) (hdg : decode cc pc = .ok (.bastore, 1))
    (kk : ∀ (H1 : Heap) (locs1 : List Loc), fw φ (upr g k i (upd (g k i) q v)) H1 → va_S (fA φ) H0 H1 locs1 → W p l e R s m args below meth c H1 locs1 cells slots Q (F0 m (pc + 1) ls rest)) : W p l e R s m args below meth c H locs cells slots Q (F0 m pc ls (.int v :: .int x :: .ref (fa φ k i) :: rest)) := by
  subst hq
  obtain ⟨q0, hq⟩ := fw_pos (g := g) hok hi
  refine va_zast hexec hb hE.1 (fw_P hF) (fw_D hok) hS q0 t0 (by rw [hq, he]) ht hin hdg (fun H1 locs1 hP _ hS1 => kk H1 locs1 (fw_back hok hi hq (by rw [he]; rw [hv] at hP; exact hP)) hS1)
theorem fw_aald (hexec : p.tables.exec = Jvm.exec) (hb : c.code = cc) (hE : fE φ s) (hF : fw φ g H) {k i : Nat} (hi : i < fC φ k) {cA : ClassId} {n : Nat} {f : Nat → Option Nat} (he : fm φ k i (g k i) = .inl (cA, n, .inr (.inr (.inr (.inr f))))) (t0 : Nat) {C : String} (ht : (fT φ)[t0]? = some (cA, .object C)) {x : Int32} (hin : ¬ (x < 0 ∨ n ≤ x.toNatClampNeg)) {a : Nat} (hv : f x.toNatClampNeg = some a) (hdg : decode cc pc = .ok (.aaload, 1))
    (kk : W p l e R s m args below meth c H locs cells slots Q (F0 m (pc + 1) ls (.ref a :: rest))) : W p l e R s m args below meth c H locs cells slots Q (F0 m pc ls (.int x :: .ref (fa φ k i) :: rest)) := by
  have h1 := hF k i hi
  rw [he] at h1
  exact va_aldq hexec hb hE.1 (va_P1 h1) 0 t0 rfl ht hin hdg (by rw [hv]; exact kk)
theorem fw_aaldN (hexec : p.tables.exec = Jvm.exec) (hb : c.code = cc) (hE : fE φ s) (hF : fw φ g H) {k i : Nat} (hi : i < fC φ k) {cA : ClassId} {n : Nat} {f : Nat → Option Nat} (he : fm φ k i (g k i) = .inl (cA, n, .inr (.inr (.inr (.inr f))))) (t0 : Nat) {C : String} (ht : (fT φ)[t0]? = some (cA, .object C)) {x : Int32} (hin : ¬ (x < 0 ∨ n ≤ x.toNatClampNeg)) (hv : f x.toNatClampNeg = none) (hdg : decode cc pc = .ok (.aaload, 1))
    (kk : W p l e R s m args below meth c H locs cells slots Q (F0 m (pc + 1) ls (.null :: rest))) : W p l e R s m args below meth c H locs cells slots Q (F0 m pc ls (.int x :: .ref (fa φ k i) :: rest)) := by
  have h1 := hF k i hi
  rw [he] at h1
  exact va_aldq hexec hb hE.1 (va_P1 h1) 0 t0 rfl ht hin hdg (by rw [hv]; exact kk)
theorem fw_alen (hexec : p.tables.exec = Jvm.exec) (hb : c.code = cc) (hE : fE φ s) (hF : fw φ g H) {k i : Nat} (hi : i < fC φ k) {cA : ClassId} {n : Nat} (he : ∀ h, fm φ k i h = .inl (cA, n, .inl h)) (t0 : Nat) (ht : (fT φ)[t0]? = some (cA, .int)) {v : Int32} (hv : Int32.ofNat n = v) (hdg : decode cc pc = .ok (.arraylength, 1))
    (kk : W p l e R s m args below meth c H locs cells slots Q (F0 m (pc + 1) ls (.int v :: rest))) : W p l e R s m args below meth c H locs cells slots Q (F0 m pc ls (.ref (fa φ k i) :: rest)) := by
  have h1 := hF k i hi
  rw [he] at h1
  exact va_alen hexec hb hE.1 (va_P1 h1) 0 t0 rfl ht hv hdg kk
theorem fw_copy (hexec : p.tables.exec = Jvm.exec) (hb : c.code = cc) (hml : c.maxLocals = ls.size) {own : String} {index : Nat} (hown : s.vm.findClass own = some m.cls) (hlink : (Cond.methodLink own index arraycopyName).before args s = true) (hnat : (Cond.native arraycopyName).before args s = true) (hstat : (Cond.static arraycopyName).before args s = true) (hini : (Cond.initialized "java/lang/System").before args s = true)
    (hE : fE φ s) (hok : fok φ) (hF : fw φ g H) (hS : va_S (fA φ) H0 H locs) {k0 i0 k1 i1 : Nat} (hi0 : i0 < fC φ k0) (hi1 : i1 < fC φ k1) {c0 c1 : ClassId} {n0 n1 : Nat} (he0 : ∀ h, fm φ k0 i0 h = .inl (c0, n0, .inl h)) (he1 : ∀ h, fm φ k1 i1 h = .inl (c1, n1, .inl h)) (t0 t1 : Nat) (ht0 : (fT φ)[t0]? = some (c0, .int)) (ht1 : (fT φ)[t1]? = some (c1, .int))
    {sp dp n : Int32} (hin : ¬ (sp < 0 ∨ dp < 0 ∨ n < 0 ∨ n0 < sp.toNatClampNeg + n.toNatClampNeg ∨ n1 < dp.toNatClampNeg + n.toNatClampNeg))
    (hframes : 1 ≤ R.frames) (hlocals : (rest.map fun v => v.category).sum + (nativeFrameWords "java/lang/System" "arraycopy" 5 + 11) ≤ R.locals) (hdg : decode cc pc = .ok (.invokestatic index, 3))
    (kk : ∀ (H1 : Heap) (locs1 : List Loc), fw φ (upr g k1 i1 (va_cpy (g k0 i0) (g k1 i1) sp.toNatClampNeg dp.toNatClampNeg n.toNatClampNeg)) H1 → va_S (fA φ) H0 H1 locs1 → W p l e R s m args below meth c H1 locs1 cells slots Q (F0 m (pc + 3) ls rest)) : W p l e R s m args below meth c H locs cells slots Q (F0 m pc ls (.int n :: .int dp :: .ref (fa φ k1 i1) :: .int sp :: .ref (fa φ k0 i0) :: rest)) := by
  obtain ⟨q0, hq0⟩ := fw_pos (g := g) hok hi0
  obtain ⟨q1, hq1⟩ := fw_pos (g := g) hok hi1
  exact va_copyi hexec hb hml hown hlink hnat hstat hini hE.1 (fw_P hF) (fw_D hok) hS q0 q1 t0 t1 (by rw [hq0, he0]) (by rw [hq1, he1]) ht0 ht1 rfl (fun q => hin (Or.inl q)) (fun q => hin (Or.inr (Or.inl q))) (fun q => hin (Or.inr (Or.inr (Or.inl q)))) (Nat.not_lt.mp fun q => hin (Or.inr (Or.inr (Or.inr (Or.inl q))))) (Nat.not_lt.mp fun q => hin (Or.inr (Or.inr (Or.inr (Or.inr q))))) (fun _ _ => rfl) hframes hlocals hdg (fun H1 locs1 hP _ hS1 => kk H1 locs1 (fw_back hok hi1 hq1 (by rw [he1]; exact hP)) hS1)
end FW
/-! contracts: a method whose decompiled run is 'some' does just that -/
def fP (φ : Fx) (g : Mem) (av : List Value) : Array Value → State → Prop := fun v U => v = av.toArray ∧ fw φ g U.heap ∧ fE φ U
def fQ (φ : Fx) (r : Option Value) (g' : Mem) : Array Value → State → Outcome → State → Prop := fun _ st oc t => oc = .returned r ∧ fw φ g' t.heap ∧ va_F (fA φ) st t
abbrev fM (l : Launch) (φ : Fx) (y : MethodName) (ws : List Cond) (fr lo : Nat) (av : List Value) (g : Mem) (r : Option Value) (g' : Mem) : Prop := Met l y ws ({ frames := fr, cells := 0, slots := 0, locals := lo }) (fP φ g av) (fQ φ r g') 0 0 (fA φ)
abbrev pM (l : Launch) (y : MethodName) (ws : List Cond) (fr lo : Nat) (av : List Value) (r : Int32) : Prop := Met l y ws ({ frames := fr, cells := 0, slots := 0, locals := lo }) (fun v _ => v = av.toArray) (QcRead r) 0 0 (fun _ => False)
theorem fE.warm {φ : Fx} (hok : fok φ) {s U : State} (hW : s.WarmedH U.vm) (h : fE φ s) : fE φ U := by
  refine ⟨va_K.moved hW.alike h.1, fun w hw => ?_⟩
  obtain ⟨a, i, x, hh, rfl⟩ := hok.2.2 w hw
  exact va_Nw.warmM hW (h.2 _ hw)
theorem fP.blind {φ : Fx} (hok : fok φ) {g : Mem} {av : List Value} : FrameBlind (fP φ g av) := by
  intro a U f mk h
  obtain ⟨h1, h2, h3, h4⟩ := h
  refine ⟨h1, h2, va_K.moved (u := U) (U := U.calling f mk a) (Vm.Alike.refl U.vm) h3, fun w hw => ?_⟩
  obtain ⟨b, i, x, hh, rfl⟩ := hok.2.2 w hw
  exact va_Nw.same (u := U) (U := U.calling f mk a) rfl rfl (h4 _ hw)
theorem fw_preV {φ : Fx} (hok : fok φ) {s : State} {H : Heap} {g : Mem} {k i ci N : Nat} {C : String} {T : u_T} {fs As : List Value} (hE : fE φ s) (hF : fw φ g H) (hi : i < fC φ k) (he : fm φ k i (g k i) = .inr (ci, fs)) (hc : vwCl[ci]? = some (C, T, N)) : PreV s H C (fa φ k i) (fP φ g (.ref (fa φ k i) :: As)) As := by
  have h1 := hF k i hi
  rw [he] at h1
  refine ⟨fP.blind hok, va_recv hE.1 (va_P1 h1) (ci := ci) (q0 := 0) hc rfl, fun U hU hW => ⟨rfl, by rw [hU]; exact hF, hE.warm hok hW⟩⟩
section FC
variable {p : Program} {l : Launch} {e : Env} {R : Room} {s : State} {m : MethodId} {args : Array Value} {below : List Frame} {meth : Method} {c : Code} {H : Heap} {locs : List Loc} {cells slots : Nat} {Q : State → Prop}
variable {cc : ByteArray} {pc : Nat} {ls : Array Slot} {rest st0 : List Value} {H0 : Heap} {φ : Fx} {g g' : Mem} {a : Array Value}
theorem fw_call {r : Option Value} (hr : va_Run p l e R s m args below meth c H locs cells slots 0 0 (F0 m pc ls st0) rest (fQ φ r g' a) (fA φ)) (hS : va_S (fA φ) H0 H locs)
    (kk : ∀ (H1 : Heap) (locs1 : List Loc), fw φ g' H1 → va_S (fA φ) H0 H1 locs1 → W p l e R s m args below meth c H1 locs1 cells slots Q (F0 m (pc + 3) ls (r.toList ++ rest))) : W p l e R s m args below meth c H locs cells slots Q (F0 m pc ls st0) := by
  intro T hT X
  obtain ⟨v, st₀, t, T', L, h0, X', hL, e1, e2, ⟨hv, hw, hz, hk⟩, st⟩ := hr T hT X
  have hv2 := Outcome.returned.inj hv
  subst hv2
  rw [h0] at hz hk
  obtain ⟨t2, a1, b1⟩ := kk T'.heap (locs ++ L) (by rw [e1]; exact hw)
    ⟨Nat.le_trans hS.1 (by rw [e1]; exact hz), fun q h1 h2 => by rw [e1, hk q (Nat.lt_of_lt_of_le h1 hS.1) h2]; exact hS.2.1 q h1 h2, fun q hq => by
      rcases List.mem_append.mp hq with h | h
      · exact hS.2.2 q h
      · exact hL q h⟩ T' rfl X'
  exact ⟨t2, st t2 a1, b1⟩
theorem fw_calli {r : Int32} (hr : va_Run p l e R s m args below meth c H locs cells slots 0 0 (F0 m pc ls st0) rest (fQ φ (some (.int r)) g' a) (fA φ)) (hS : va_S (fA φ) H0 H locs)
    (kk : ∀ (H1 : Heap) (locs1 : List Loc), fw φ g' H1 → va_S (fA φ) H0 H1 locs1 → W p l e R s m args below meth c H1 locs1 cells slots Q (F0 m (pc + 3) ls (.int r :: rest))) : W p l e R s m args below meth c H locs cells slots Q (F0 m pc ls st0) := fw_call hr hS kk
theorem fw_callv (hr : va_Run p l e R s m args below meth c H locs cells slots 0 0 (F0 m pc ls st0) rest (fQ φ none g' a) (fA φ)) (hS : va_S (fA φ) H0 H locs)
    (kk : ∀ (H1 : Heap) (locs1 : List Loc), fw φ g' H1 → va_S (fA φ) H0 H1 locs1 → W p l e R s m args below meth c H1 locs1 cells slots Q (F0 m (pc + 3) ls rest)) : W p l e R s m args below meth c H locs cells slots Q (F0 m pc ls st0) := fw_call hr hS kk
theorem pw_call {r : Int32} (hr : va_Run p l e R s m args below meth c H locs cells slots 0 0 (F0 m pc ls st0) rest (QcRead r a) (fun _ => False))
    (kk : W p l e R s m args below meth c H locs cells slots Q (F0 m (pc + 3) ls (.int r :: rest))) : W p l e R s m args below meth c H locs cells slots Q (F0 m pc ls st0) := by
  intro T hT X
  obtain ⟨v, st₀, t, T', L, h0, X', hL, e1, e2, ⟨hv, hh⟩, st⟩ := hr T hT X
  cases hv
  obtain ⟨t2, a1, b1⟩ := kk T' (by rw [e1, hh, h0]) (Stand.forget X' (fun q h => (hL q h).elim))
  exact ⟨t2, st t2 a1, b1⟩
theorem fw_iret (hexec : p.tables.exec = Jvm.exec) (hb : c.code = cc) (hr : meth.sig.returnType = some .int) (hlk : meth.locks = false) {v : Int32} {u : Int32 × Mem} (h : some (v, g) = some u) (hF : fw φ g H) (hS : va_S (fA φ) s.heap H locs) (hdg : decode cc pc = .ok (.ireturn, 1)) : W p l e R s m args below meth c H locs 0 0 (MQ below (fQ φ (some (.int u.1)) u.2) args s 0 0 (fA φ)) (F0 m pc ls [.int v]) := by
  cases h
  exact W.iret hexec hb hr (fun t ht _ => ⟨rfl, by rw [ht]; exact hF, hS.F ht⟩) hS.2.2 hdg hlk
theorem fw_zret (hexec : p.tables.exec = Jvm.exec) (hb : c.code = cc) (hr : meth.sig.returnType = some .boolean) (hlk : meth.locks = false) {v : Int32} (hn : narrow .boolean (.int v) = .int v) {u : Int32 × Mem} (h : some (v, g) = some u) (hF : fw φ g H) (hS : va_S (fA φ) s.heap H locs) (hdg : decode cc pc = .ok (.ireturn, 1)) : W p l e R s m args below meth c H locs 0 0 (MQ below (fQ φ (some (.int u.1)) u.2) args s 0 0 (fA φ)) (F0 m pc ls [.int v]) := by
  cases h
  exact W.zret hexec hb hr hn (fun t ht _ => ⟨rfl, by rw [ht]; exact hF, hS.F ht⟩) hS.2.2 hdg hlk
theorem fw_vret (hexec : p.tables.exec = Jvm.exec) (hb : c.code = cc) (hr : meth.sig.returnType = none) (hlk : meth.locks = false) {v : Int32} {u : Int32 × Mem} (h : some (v, g) = some u) (hF : fw φ g H) (hS : va_S (fA φ) s.heap H locs) (hdg : decode cc pc = .ok (.return_, 1)) : W p l e R s m args below meth c H locs 0 0 (MQ below (fQ φ none u.2) args s 0 0 (fA φ)) (F0 m pc ls []) := by
  cases h
  exact W.vret hexec hb hr (fun t ht _ => ⟨rfl, by rw [ht]; exact hF, hS.F ht⟩) hS.2.2 hdg hlk
theorem pw_iret (hexec : p.tables.exec = Jvm.exec) (hb : c.code = cc) (hr : meth.sig.returnType = some .int) (hlk : meth.locks = false) {v u : Int32} (h : some v = some u) (hdg : decode cc pc = .ok (.ireturn, 1)) : W p l e R s m args below meth c s.heap [] 0 0 (MQ below (QcRead u) args s 0 0 (fun _ => False)) (F0 m pc ls [.int v]) := by
  cases h
  exact W.iret hexec hb hr (fun t ht _ => ⟨rfl, ht⟩) (fun _ h => by cases h) hdg hlk
theorem pw_zret (hexec : p.tables.exec = Jvm.exec) (hb : c.code = cc) (hr : meth.sig.returnType = some .boolean) (hlk : meth.locks = false) {v u : Int32} (hn : narrow .boolean (.int v) = .int v) (h : some v = some u) (hdg : decode cc pc = .ok (.ireturn, 1)) : W p l e R s m args below meth c s.heap [] 0 0 (MQ below (QcRead u) args s 0 0 (fun _ => False)) (F0 m pc ls [.int v]) := by
  cases h
  exact W.zret hexec hb hr hn (fun t ht _ => ⟨rfl, ht⟩) (fun _ h => by cases h) hdg hlk
end FC
theorem fM.of {l : Launch} {φ : Fx} {y : MethodName} {ws ws' : List Cond} {fr lo : Nat} {av : List Value} {g g' : Mem} {r : Option Value} {cc : ByteArray} {maxL : Nat} {ret : Option FieldType} (lst : List (Nat × Value)) (hy : plainName y.cls = true) (hw : ws = Cond.code y cc maxL ret :: ws') (hlen : (lg_sl av).length ≤ maxL) (hlst : lv_args 0 av = lst)
    (body : ∀ (p : Program) (e : Env) (s : State) (m : MethodId) (below : List Frame) (meth : Method) (c : Code) (ls : Array Slot), p.tables.exec = Jvm.exec → c.code = cc → meth.sig.returnType = ret → c.maxLocals = maxL → s.vm.findClass y.cls = some m.cls → (∀ w ∈ ws, w.before av.toArray s = true) → meth.locks = false → fE φ s → fw φ g s.heap → va_S (fA φ) s.heap s.heap [] → lv_has ls maxL lst →
      W p l e ({ frames := fr, cells := 0, slots := 0, locals := lo }) s m av.toArray below meth c s.heap [] 0 0 (MQ below (fQ φ r g') av.toArray s 0 0 (fA φ)) (F0 m 0 ls [])) : fM l φ y ws fr lo av g r g' := by
  refine Met.ofW (cc := cc) (maxL := maxL) (ret := ret) hy hw ?_
  intro p e s m args below meth c s₁ B hml hv
  obtain ⟨rfl, hF, hE⟩ := hv
  have hl := lv_entry av (n := maxL) hlen
  rw [lg_entry_eq]
  rw [hlst] at hl
  exact body p e s m below meth c _ B.exec B.bytes B.returns hml (findClass_of_methodNamed B.named) (atoms_spec (ws := ws) B.pre) B.notSynchronized hE hF va_S.rf hl
theorem pM.of {l : Launch} {y : MethodName} {ws ws' : List Cond} {fr lo : Nat} {av : List Value} {r : Int32} {cc : ByteArray} {maxL : Nat} {ret : Option FieldType} (lst : List (Nat × Value)) (hy : plainName y.cls = true) (hw : ws = Cond.code y cc maxL ret :: ws') (hlen : (lg_sl av).length ≤ maxL) (hlst : lv_args 0 av = lst)
    (body : ∀ (p : Program) (e : Env) (s : State) (m : MethodId) (below : List Frame) (meth : Method) (c : Code) (ls : Array Slot), p.tables.exec = Jvm.exec → c.code = cc → meth.sig.returnType = ret → c.maxLocals = maxL → s.vm.findClass y.cls = some m.cls → (∀ w ∈ ws, w.before av.toArray s = true) → meth.locks = false → lv_has ls maxL lst →
      W p l e ({ frames := fr, cells := 0, slots := 0, locals := lo }) s m av.toArray below meth c s.heap [] 0 0 (MQ below (QcRead r) av.toArray s 0 0 (fun _ => False)) (F0 m 0 ls [])) : pM l y ws fr lo av r := by
  refine Met.ofW (cc := cc) (maxL := maxL) (ret := ret) hy hw ?_
  intro p e s m args below meth c s₁ B hml hv
  cases hv
  have hl := lv_entry av (n := maxL) hlen
  rw [lg_entry_eq]
  rw [hlst] at hl
  exact body p e s m below meth c _ B.exec B.bytes B.returns hml (findClass_of_methodNamed B.named) (atoms_spec (ws := ws) B.pre) B.notSynchronized hl
