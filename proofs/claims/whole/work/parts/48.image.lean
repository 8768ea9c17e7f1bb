/-! image: a new mesh joins the world -/
section GW
variable {p : Program} {l : Launch} {e : Env} {R : Room} {s : State} {m : MethodId} {args : Array Value} {below : List Frame} {meth : Method} {c : Code} {H : Heap} {locs : List Loc} {cells slots : Nat} {Q : State → Prop}
variable {cc : ByteArray} {pc : Nat} {ls : Array Slot} {rest st0 : List Value} {H0 : Heap} {φ : Fx} {g g' : Mem} {a : Array Value} {A : Nat → Prop}
theorem gw_call {r : Option Value} (hr : va_Run p l e R s m args below meth c H locs cells slots 0 0 (F0 m pc ls st0) rest (fQ φ r g' a) (fA φ)) (hS : va_S A H0 H locs) (hA : ∀ q, fA φ q → A q)
    (kk : ∀ (H1 : Heap) (locs1 : List Loc), fw φ g' H1 → H.size ≤ H1.size → (∀ q : Nat, q < H.size → ¬ fA φ q → H1[q]? = H[q]?) → va_S A H0 H1 locs1 → W p l e R s m args below meth c H1 locs1 cells slots Q (F0 m (pc + 3) ls (r.toList ++ rest))) : W p l e R s m args below meth c H locs cells slots Q (F0 m pc ls st0) := by
  intro T hT X
  obtain ⟨v, st₀, t, T', L, h0, X', hL, e1, e2, ⟨hv, hw, hz, hk⟩, st⟩ := hr T hT X
  have hv2 := Outcome.returned.inj hv
  subst hv2
  rw [h0] at hz hk
  obtain ⟨t2, a1, b1⟩ := kk T'.heap (locs ++ L) (by rw [e1]; exact hw) (by rw [e1]; exact hz) (fun q h1 h2 => by rw [e1]; exact hk q h1 h2)
    ⟨Nat.le_trans hS.1 (by rw [e1]; exact hz), fun q h1 h2 => by rw [e1, hk q (Nat.lt_of_lt_of_le h1 hS.1) (fun z => h2 (hA q z))]; exact hS.2.1 q h1 h2, fun q hq => by
      rcases List.mem_append.mp hq with h | h
      · exact hS.2.2 q h
      · exact hA _ (hL q h)⟩ T' rfl X'
  exact ⟨t2, st t2 a1, b1⟩
/-- a reference is put into an array of references of the world -/
theorem gw_aast (hexec : p.tables.exec = Jvm.exec) (hb : c.code = cc) (hE : fE φ s) (hok : fok φ) (hF : fw φ g H) (hS : va_S A H0 H locs) (hA : ∀ q, fA φ q → A q) {k i k2 i2 : Nat} (hi : i < fC φ k) (hi2 : i2 < fC φ k2) {cA : ClassId} {n ci : Nat} {r : vw_C} {vs : List Value} {f f' : Nat → Option Nat} {h' : Nat → Int32} (he : fm φ k i (g k i) = .inl (cA, n, .inr (.inr (.inr (.inr f))))) (he2 : fm φ k2 i2 (g k2 i2) = .inr (ci, vs)) (hc : vwCl[ci]? = some r) (t0 : Nat) (ht : (fT φ)[t0]? = some (cA, .object r.1)) {x : Int32} (hin : ¬ (x < 0 ∨ n ≤ x.toNatClampNeg)) (hf : va_up f x.toNatClampNeg (some (fa φ k2 i2)) = f') (hn : fm φ k i h' = .inl (cA, n, .inr (.inr (.inr (.inr f'))))) (hdg : decode cc pc = .ok (.aastore, 1))
    (kk : ∀ (H1 : Heap) (locs1 : List Loc), fw φ (upr g k i h') H1 → va_S A H0 H1 locs1 → W p l e R s m args below meth c H1 locs1 cells slots Q (F0 m (pc + 1) ls rest)) : W p l e R s m args below meth c H locs cells slots Q (F0 m pc ls (.ref (fa φ k2 i2) :: .int x :: .ref (fa φ k i) :: rest)) := by
  obtain ⟨q0, hq⟩ := fw_pos (g := g) hok hi
  obtain ⟨q2, hq2⟩ := fw_pos (g := g) hok hi2
  refine va_astq hexec hb hE.1 (fw_P hF) ((fw_D hok).weaken (fun _ _ _ z => hA _ z)) hS q0 t0 q2 ci (by rw [hq, he]) ht (by rw [hq2, he2]) hc hin hdg (fun H1 locs1 hP _ hS1 => kk H1 locs1 (fw_back hok hi hq ?_) hS1)
  rw [hn, ← hf]
  exact hP
end GW
theorem right_at {a L : va_W} {k : Nat} {x : Nat × va_E} (h : L[k]? = some x) : (a ++ L)[a.length + k]? = some x := by
  rw [List.getElem?_append_right (by omega), show a.length + k - a.length = k by omega]
  exact h
def adg (n : Nat) (ad am : Nat → Nat → Nat) : Nat → Nat → Nat := fun k i => if k < 20 * n then ad k i else am (k - 20 * n) i
def gg (n : Nat) (g : Mem) : Mem := fun k => if k < 20 * n then g k else gI (k - 20 * n)
theorem grow_fw {D : va_G} {cI cL cM : ClassId} {n : Nat} {ad am : Nat → Nat → Nat} {g : Mem} {H : Heap} {A : Nat → Prop} (hn : 1 ≤ n) (hn2 : n ≤ 2) (hok : fok (cφ (D, cI, cL, cM, n, ad))) (hP : va_P D vwCl (wl (cφ (D, cI, cL, cM, n, ad)) g ++ (mb cI cL am (laf am 10) ++ lmL cI am 10)) H) (hD : va_D A (wl (cφ (D, cI, cL, cM, n, ad)) g ++ (mb cI cL am (laf am 10) ++ lmL cI am 10))) (him : ∀ x : Nat, x < 2 → g 1 0 x = 0 ∨ ∃ j : Nat, j < n ∧ g 1 0 x = nI j) : fw (cφ (D, cI, cL, cM, n + 1, adg n ad am)) (gg n g) H ∧ fok (cφ (D, cI, cL, cM, n + 1, adg n ad am)) ∧ ∀ q, fA (cφ (D, cI, cL, cM, n + 1, adg n ad am)) q → A q := by
  have old : ∀ k i : Nat, k < 20 * n → adg n ad am k i = ad k i := fun k i h => if_pos h
  have new : ∀ k i : Nat, 2 ≤ k → k < 20 → adg n ad am (k + 20 * n) i = am k i := fun k i h1 h2 => by
    unfold adg
    rw [if_neg (by omega), show k + 20 * n - 20 * n = k by omega]
  have hPm : va_P D vwCl (mb cI cL am (laf am 10) ++ lmL cI am 10) H := fun k x hx => hP _ x (right_at hx)
  have cn1 : ∀ k i : Nat, k < 20 * n → (i < ccnt (n + 1) k ↔ i < ccnt n k) := fun k i h => by
    unfold ccnt
    rw [if_pos h, if_pos (by omega)]
  -- where each stands
  have pl : ∀ k i : Nat, i < ccnt (n + 1) k → ∃ (z : Nat) (e : va_E), (wl (cφ (D, cI, cL, cM, n, ad)) g ++ (mb cI cL am (laf am 10) ++ lmL cI am 10))[z]? = some (adg n ad am k i, e) ∧ ((k < 20 * n ∧ z < (wl (cφ (D, cI, cL, cM, n, ad)) g).length ∧ i < ccnt n k) ∨ (20 * n ≤ k ∧ 2 ≤ k - 20 * n ∧ k - 20 * n < 20 ∧ (i < if k - 20 * n < 13 then 1 else 10) ∧ z = (wl (cφ (D, cI, cL, cM, n, ad)) g).length + mpos (k - 20 * n) i)) := by
    intro k i hi
    by_cases hk : k < 20 * n
    · have hi' := (cn1 k i hk).mp hi
      obtain ⟨z, hz⟩ := fw_pos (φ := cφ (D, cI, cL, cM, n, ad)) (g := g) hok hi'
      have hl := (List.getElem?_eq_some_iff.mp hz).1
      refine ⟨z, cmj cI cL cM ad (k / 20) (k % 20) i (g k i), ?_, Or.inl ⟨hk, hl, hi'⟩⟩
      rw [List.getElem?_append_left hl, old k i hk]
      exact hz
    · obtain ⟨c1, c2, c3⟩ := cc_lt hi
      have hm : k % 20 = k - 20 * n := by omega
      rw [hm] at c2 c3
      have h2 : 2 ≤ k - 20 * n := by
        by_cases q : k - 20 * n < 2
        · have := (c2 q).1
          omega
        · omega
      obtain ⟨e, he⟩ := mesh_pl (cI := cI) (cL := cL) (am := am) (f := laf am 10) h2 (show k - 20 * n < 20 by omega) (c3 h2)
      refine ⟨_, e, ?_, Or.inr ⟨by omega, h2, by omega, c3 h2, rfl⟩⟩
      have := right_at (a := wl (cφ (D, cI, cL, cM, n, ad)) g) he
      rw [this]
      unfold adg
      rw [if_neg hk]
  refine ⟨?_, ⟨?_, ?_, cn_nw⟩, ?_⟩
  · intro k i hi
    show va_at D vwCl (adg n ad am k i, cmj cI cL cM (adg n ad am) (k / 20) (k % 20) i (gg n g k i)) H
    by_cases hk : k < 20 * n
    · have hi' := (cn1 k i hk).mp hi
      obtain ⟨z, hz⟩ := fw_pos (φ := cφ (D, cI, cL, cM, n, ad)) (g := g) hok hi'
      have hl := (List.getElem?_eq_some_iff.mp hz).1
      have q : va_at D vwCl (ad k i, cmj cI cL cM ad (k / 20) (k % 20) i (g k i)) H := hP z _ (by rw [List.getElem?_append_left hl]; exact hz)
      have eg : gg n g k = g k := if_pos hk
      rw [old k i hk, eg]
      obtain ⟨c1, c2, c3⟩ := cc_lt hi
      by_cases h2 : 2 ≤ k % 20
      · rw [cmj_cg h2 (by omega) (fun x y h3 h4 => old _ _ (by omega))]
        exact q
      · obtain ⟨k20, i0⟩ := c2 (by omega)
        subst i0
        have hk01 : k = 0 ∨ k = 1 := by omega
        rcases hk01 with rfl | rfl
        · show va_at D vwCl (ad 0 0, .inr (5, [.ref (adg n ad am 2 0), .ref (adg n ad am 1 0)])) H
          rw [old 2 0 (by omega), old 1 0 (by omega)]
          exact q
        · refine at_q q (fun x hx => ?_)
          rcases him x hx with e0 | ⟨j, hj, ej⟩
          · rw [e0, if_pos rfl, if_pos rfl]
          · by_cases ej0 : g 1 0 x = 0
            · rw [if_pos ej0, if_pos ej0]
            · rw [if_neg ej0, if_neg ej0, ej, nI_clamp (by omega), old _ _ (by omega)]
    · obtain ⟨z, e, -, h⟩ := pl k i hi
      rcases h with h | ⟨h1, h2, h3, h4, -⟩
      · omega
      · have q := mesh_at (cM := cM) hPm new (k := k - 20 * n) (i := i) h2 h3 h4
        have e1 : k - 20 * n + 20 * n = k := by omega
        have e2 : k / 20 = n := by omega
        have e3 : k % 20 = k - 20 * n := by omega
        have e4 : gg n g k = gI (k - 20 * n) := if_neg hk
        rw [e1] at q
        rw [e2, e3, e4]
        exact q
  · intro k i k' i' hi hi' e
    obtain ⟨z, x, hx, a1⟩ := pl k i hi
    obtain ⟨z', y, hy, a2⟩ := pl k' i' hi'
    have key := hD.1 _ _ _ _ hx hy e
    rcases a1 with ⟨a, b, c⟩ | ⟨a, b, c, d, f⟩
    · rcases a2 with ⟨a', b', c'⟩ | ⟨a', b', c', d', f'⟩
      · have e : adg n ad am k i = adg n ad am k' i' := e
        rw [old k i a, old k' i' a'] at e
        exact hok.1 k i k' i' c c' e
      · omega
    · rcases a2 with ⟨a', b', c'⟩ | ⟨a', b', c', d', f'⟩
      · omega
      · rw [f, f'] at key
        have key2 : mpos (k - 20 * n) i = mpos (k' - 20 * n) i' := by omega
        unfold mpos at key2
        by_cases u : k - 20 * n < 13
        · rw [if_pos u] at key2 d
          by_cases v : k' - 20 * n < 13
          · rw [if_pos v] at key2 d'
            omega
          · rw [if_neg v] at key2
            omega
        · rw [if_neg u] at key2
          by_cases v : k' - 20 * n < 13
          · rw [if_pos v] at key2
            omega
          · rw [if_neg v] at key2
            omega
  · intro k hk
    show ccnt (n + 1) k = 0
    unfold ccnt
    rw [if_neg (by omega)]
  · rintro q ⟨k, i, hi, rfl⟩
    obtain ⟨z, x, hx, -⟩ := pl k i hi
    exact hD.2 _ _ hx
/-- what an image asks and leaves -/
def iA (φ : Fx) (sz : Nat) : Nat → Prop := fun q => fA φ q ∨ sz ≤ q
def iQ (D : va_G) (cI cL cM : ClassId) (h0 : Nat) (F B : Nat) (f : Mem) (a : Int32) (A : Nat → Prop) : Array Value → State → Outcome → State → Prop := fun _ st oc t => ∃ (n' : Nat) (ad' : Nat → Nat → Nat) (r : Int32) (g' f' : Mem), oc = .returned (some (.int r)) ∧ m_X6_image F f a = some (r, f') ∧ TR n' (B + 1) g' f' ∧ 1 ≤ n' ∧ fw (cφ (D, cI, cL, cM, n', ad')) g' t.heap ∧ fok (cφ (D, cI, cL, cM, n', ad')) ∧ ad' 0 0 = h0 ∧ (∀ q, fA (cφ (D, cI, cL, cM, n', ad')) q → A q) ∧ va_F A st t
theorem TR.up {n B : Nat} {g f : Mem} (h : TR n B g f) : TR n (B + 1) g f := ⟨h.1, h.2.1.up (by omega), h.2.2.1.go (Nat.le_refl _) (by omega) rfl rfl (fun _ _ => rfl) (fun _ _ _ _ _ _ => rfl), h.2.2.2.1.go (Nat.le_refl _) (by omega) rfl rfl (fun _ _ => rfl) (fun _ _ _ _ _ _ => rfl), h.2.2.2.2⟩
set_option maxHeartbeats 4000000 in
set_option maxRecDepth 100000 in
theorem c_X5_image (l : Launch) {D : va_G} {cI cL cM : ClassId} {n : Nat} {ad : Nat → Nat → Nat} (hok : fok (cφ (D, cI, cL, cM, n, ad))) (hn : 1 ≤ n) {F B sz : Nat} {g f : Mem} {a : Int32} (hT : TR n B g f) (hF7 : 7000 ≤ F) : Met l yX5_image wsX5_image ({ frames := 5, cells := 81, slots := 6725, locals := 200 }) (fun v U => v = ([.ref (ad 0 0), .int a] : List Value).toArray ∧ U.heap.size = sz ∧ fw (cφ (D, cI, cL, cM, n, ad)) g U.heap ∧ fE (cφ (D, cI, cL, cM, n, ad)) U ∧ XM D cI cL cM (iA (cφ (D, cI, cL, cM, n, ad)) sz) U) (iQ D cI cL cM (ad 0 0) F B f a (iA (cφ (D, cI, cL, cM, n, ad)) sz)) 81 6725 (iA (cφ (D, cI, cL, cM, n, ad)) sz) := by
  refine Met.ofW (cc := cX5_image) (maxL := 3) (ret := some .int) (by decide) rfl ?_
  intro p e s m args below meth c s₁ B0 hml hv
  obtain ⟨rfl, hsz, hF, hE, xm⟩ := hv
  have hx := B0.exec
  have hb := B0.bytes
  have hr := B0.returns
  have hts := atoms_spec (ws := wsX5_image) B0.pre
  have hown : s.vm.findClass RX5 = some m.cls := findClass_of_methodNamed B0.named
  have hlocks := B0.notSynchronized
  subst hsz
  have hA : ∀ q : Nat, s.heap.size ≤ q → iA (cφ (D, cI, cL, cM, n, ad)) s.heap.size q := fun q h => Or.inr h
  have hAf : ∀ q : Nat, fA (cφ (D, cI, cL, cM, n, ad)) q → iA (cφ (D, cI, cL, cM, n, ad)) s.heap.size q := fun q h => Or.inl h
  have hS : va_S (iA (cφ (D, cI, cL, cM, n, ad)) s.heap.size) s.heap s.heap [] := va_S.rf
  generalize iA (cφ (D, cI, cL, cM, n, ad)) s.heap.size = A at hA hAf hS xm ⊢
  have hL5 : ∀ w ∈ u_ws RX5 TX5 2, w.before ([.ref (ad 0 0), .int a] : List Value).toArray s = true := fun w hw => hts w (by
    unfold wsX5_image
    simp only [List.mem_cons, List.mem_append]
    exact Or.inr (Or.inl (Or.inl (Or.inl (Or.inl (Or.inl (Or.inr hw)))))))
  have hL4 : ∀ w ∈ u_ws RX4 TX4 11, w ∈ wsX5_image := fun w hw => by
    unfold wsX5_image
    simp only [List.mem_cons, List.mem_append]
    exact Or.inr (Or.inl (Or.inl (Or.inl (Or.inl (Or.inr hw)))))
  have kw1 := hts (.fieldLink RX5 16 "MeshLamps" "images" "[LMeshLamps$Mesh;") (List.mem_of_getElem? (i := 1) rfl)
  have kw2 := hts (.fieldLink RX5 10 "MeshLamps" "mesh" "LMeshLamps$Mesh;") (List.mem_of_getElem? (i := 5) rfl)
  have hl := lv_entry ([.ref (ad 0 0), .int a]) (n := 3) (Nat.le_of_ble_eq_true rfl)
  rw [lg_entry_eq]
  generalize (lg_sl ([.ref (ad 0 0), .int a]) ++ List.replicate (3 - (lg_sl ([.ref (ad 0 0), .int a])).length) Slot.unset).toArray = ls at hl ⊢
  have hl : lv_has ls 3 [(0, .ref (ad 0 0)), (1, .int a)] := hl
  refine lv_iload_n hx hb dX5_image_0 rfl (lv_at hl 1 rfl) ?_
  refine lv_iconst (v := (0 : Int32)) hx hb dX5_image_1 (by decide) ?_
  refine lv_iconst (v := (1 : Int32)) hx hb dX5_image_2 (by decide) ?_
  refine pw_call (va_runS (As := [.int a, .int ((0 : Int32)), .int ((1 : Int32))]) (rest := []) ⟨hx, hb, hml, hown, hts⟩ (c_X5_isBetween l (p_btw a 0 1)) (va_cwS 3 hts gX5_image_X5_isBetween rfl rfl rfl qs_X5_isBetween ⟨Nat.le_of_ble_eq_true rfl, Nat.le_of_ble_eq_true rfl⟩) preEq rfl rfl hl.1 rfl (lv_room (Nat.le_of_ble_eq_true rfl)) dX5_image_3 ⟨Nat.zero_le _, Nat.zero_le _⟩) ?_
  -- the copy itself
  have TAIL : ∀ (n' : Nat) (ad' : Nat → Nat → Nat) (g2 : Mem) (k j : Nat) (H : Heap) (locs : List Loc) (ls : Array Slot), k < 2 → N3 n' g2 → a = nI k → ad' 0 0 = ad 0 0 → RB B g2 (f 1 0) → (∀ k' : Nat, k' < 2 → k' ≠ k → IM n' B g2 f k' ∧ ¬ g2 1 0 k' = nI j) → 1 ≤ j → j < n' → g2 1 0 k = nI j → fok (cφ (D, cI, cL, cM, n', ad')) → fw (cφ (D, cI, cL, cM, n', ad')) g2 H → (∀ q, fA (cφ (D, cI, cL, cM, n', ad')) q → A q) → va_S A s.heap H locs → lv_has ls 3 [(2, .ref (ad' (2 + 20 * j) 0)), (0, .ref (ad 0 0)), (1, .int a)] → W p l e ({ frames := 5, cells := 81, slots := 6725, locals := 200 }) s m ([.ref (ad 0 0), .int a] : List Value).toArray below meth c H locs 81 6725 (MQ below (iQ D cI cL cM (ad 0 0) F B f a A) ([.ref (ad 0 0), .int a] : List Value).toArray s 81 6725 A) (F0 m 38 ls []) := by
    intro n' ad' g2 k j H locs ls hk hn3 ea e0 hR ho j1 j2 ej hok' hF' hA' hS hl
    have hn' : 1 ≤ cn (D, cI, cL, cM, n', ad') := by show 1 ≤ n'; omega
    have hE' : fE (cφ (D, cI, cL, cM, n', ad')) s := hE
    obtain ⟨g3, f3, m1, m2, m3⟩ := pp_image (F := F) hk hn3 hR ho j1 j2 ej hF7
    refine lv_aload_n hx hb dX5_image_38 rfl (lv_at hl 0 rfl) ?_
    refine lv_aload_n hx hb dX5_image_39 rfl (lv_at hl 1 rfl) ?_
    rw [← e0]
    refine fw_get (φ := cφ (D, cI, cL, cM, n', ad')) (C := RX5) (T := TX5) (N := 2) (ci := 5) (v := .ref (ad' 2 0)) hx hb (by rw [e0]; exact hL5) hown hE' hF' (b0 (κ := (D, cI, cL, cM, n', ad')) hn') (cm0 (D, cI, cL, cM, n', ad') _ _) rfl 0 (by decide) (by rw [e0]; exact kw2) rfl dX5_image_40 ?_
    rw [e0]
    refine gw_call (va_runV (As := [.ref (ad' 2 0)]) (rest := []) ⟨hx, hb, hml, hown, hts⟩ (c_X4_becomea l (κ := (D, cI, cL, cM, n', ad')) hok' hn' (show j < cn (D, cI, cL, cM, n', ad') from j2) m1) (cwV 1 hts gX5_image_X4_become rfl rfl rfl qv_X4_become ⟨Nat.le_of_ble_eq_true rfl, Nat.le_of_ble_eq_true rfl⟩) (fw_preV (φ := cφ (D, cI, cL, cM, n', ad')) hok' hE' hF' (b2j (κ := (D, cI, cL, cM, n', ad')) (j := j) j2) (cm2j (D, cI, cL, cM, n', ad') j _ _) rfl) rfl rfl hl.1 rfl (lv_room (Nat.le_of_ble_eq_true rfl)) dX5_image_43 ⟨Nat.le_refl _, Nat.le_refl _⟩) hS hA' (fun H1 locs1 hF3 _ _ hS => ?_)
    refine lv_iconst (v := (1 : Int32)) hx hb dX5_image_46 (by decide) ?_
    exact W.iret hx hb hr (fun t ht hW => ⟨n', ad', 1, g3, f3, rfl, by rw [ea]; exact m2, m3, by omega, by rw [ht]; exact hF3, hok', e0, hA', hS.F ht⟩) hS.2.2 dX5_image_47 hlocks
  refine lv_if_ne (tgt := 12) hx hb dX5_image_6 (by decide) (fun c3 => ?_) (fun c3 => ?_)
  · obtain ⟨k, hk, rfl⟩ := btw01c c3
    have hnn : 1 ≤ cn (D, cI, cL, cM, n, ad) := hn
    have nk : (nI k).toNatClampNeg = k := nI_clamp (by omega)
    refine lv_aload_n hx hb dX5_image_12 rfl (lv_at hl 0 rfl) ?_
    refine fw_get (φ := cφ (D, cI, cL, cM, n, ad)) (C := RX5) (T := TX5) (N := 2) (ci := 5) (v := .ref (ad 1 0)) hx hb hL5 hown hE hF (b0 (κ := (D, cI, cL, cM, n, ad)) hnn) (cm0 (D, cI, cL, cM, n, ad) _ _) rfl 1 (by decide) kw1 rfl dX5_image_13 ?_
    refine lv_iload_n hx hb dX5_image_16 rfl (lv_at hl 1 rfl) ?_
    have ck4 : ¬ (nI k < 0 ∨ 2 ≤ (nI k).toNatClampNeg) := ckI (by omega) (by omega)
    -- the other image
    have oth : ∀ (j : Nat), (∀ k' : Nat, k' < 2 → k' ≠ k → ¬ g 1 0 k' = nI j) → ∀ k' : Nat, k' < 2 → k' ≠ k → IM n B g f k' ∧ ¬ g 1 0 k' = nI j := fun j h k' h1 h2 => ⟨hT.im h1, h k' h1 h2⟩
    rcases hT.im hk with ⟨e1, e2⟩ | ⟨j, j1, j2, e1, e2, hj⟩
    · refine fw_aaldN (φ := cφ (D, cI, cL, cM, n, ad)) hx hb hE hF (b1 (κ := (D, cI, cL, cM, n, ad)) hnn) (cm1 (D, cI, cL, cM, n, ad) _ _) 2 rfl ck4 (by rw [nk]; exact if_pos e1) dX5_image_17 ?_
      refine lv_astore_nN (lv' := [(2, .null), (0, .ref (ad 0 0)), (1, .int (nI k))]) hx hb dX5_image_18 rfl hl (by decide) rfl (fun ls hl => ?_)
      refine lv_aload_nN hx hb dX5_image_19 rfl (lv_at hl 0 rfl) ?_
      refine lv_ifnonnullN hx hb dX5_image_20 ?_
      have hP := fw_P hF
      have hD := (fw_D (g := g) hok).weaken (B := A) (fun _ _ _ z => hAf _ z)
      refine va_new (ci := 4) (fs := [.null, .null, .null, .int 0, .int 0, .int 0, .int 0, .int 0, .int 0, .int 0, .int 0]) (C := RX4) (T := TX4) (N := 11) hx hb hts hL4 tyX4 tyX4_ok hown (hts (.classLink RX5 7 RX4) (List.mem_of_getElem? (i := 2) rfl)) (hts (.instantiable RX4 11) (List.mem_of_getElem? (i := 3) rfl)) (hts (.initialized RX4) (List.mem_of_getElem? (i := 4) rfl)) hE.1 hP hD hS hA rfl (fun j hj => by rcases (show j = 0 ∨ j = 1 ∨ j = 2 ∨ j = 3 ∨ j = 4 ∨ j = 5 ∨ j = 6 ∨ j = 7 ∨ j = 8 ∨ j = 9 ∨ j = 10 by omega) with rfl | rfl | rfl | rfl | rfl | rfl | rfl | rfl | rfl | rfl | rfl <;> rfl) (Nat.le_of_ble_eq_true rfl) (Nat.le_of_ble_eq_true rfl) dX5_image_23 (fun q H hP hD hS => ?_)
      refine W.widen (k := 1) (n := 11) (by omega) (by omega) ?_
      refine lv_dup hx hb dX5_image_26 rfl ?_
      have hFc := kfree hD hS hA
      have hKi : va_K D vwCl [(cI, .int)] s := hE.1.sub (tys' := [(cI, .int)]) [0] rfl
      refine kw_call (va_runI (As := []) (rest := [.ref q]) ⟨hx, hb, hml, hown, hts⟩ (cn_X4 l D cI cL cM q H.size) (cwI 0 hts gX5_image_X4_init rfl rfl rfl (hts (.initialized RX4) (List.mem_of_getElem? (i := 4) rfl)) (hts (.methodLink RX5 9 yX4_init) (List.mem_of_getElem? (i := 10) rfl)) (hts (.instanceMethod yX4_init) (List.mem_of_getElem? (i := 11) rfl)) rfl (by decide +kernel) ⟨Nat.le_of_ble_eq_true rfl, Nat.le_of_ble_eq_true rfl⟩) ⟨kP.blind XM.blind, fun U hU hW => ⟨rfl, by rw [hU], by rw [hU]; exact hP (wl (cφ (D, cI, cL, cM, n, ad)) g).length _ (by rw [List.getElem?_append_right (Nat.le_refl _), Nat.sub_self]; rfl), va_K.moved hW.alike hKi, xm.at hW hS hU hFc⟩⟩ rfl rfl hl.1 rfl (lv_room (Nat.le_of_ble_eq_true rfl)) dX5_image_27 ⟨Nat.le_of_ble_eq_true rfl, Nat.le_of_ble_eq_true rfl⟩) hS hFc (fun H1 locs hB hz1 hk1 hS => ?_)
      obtain ⟨am, hm2, hP1, hD1⟩ := hB
      obtain ⟨hP, hD⟩ := kjoin hP hD hk1 hFc hP1 hD1
      generalize H1 = H at hP hS ⊢
      refine W.widen (k := 81) (n := 6725) (by omega) (by omega) ?_
      -- how many there are
      have hn2 : n ≤ 2 := by
        have : k = 0 ∨ k = 1 := by omega
        rcases this with rfl | rfl
        · exact hT.1.2.1 e1
        · exact hT.1.2.2.1 e1
      obtain ⟨y1, y2, y3⟩ := grow_fw hn hn2 hok hP hD (fun x hx => by
        rcases hT.im hx with ⟨z1, -⟩ | ⟨j, -, z2, z3, -, -⟩
        · exact Or.inl z1
        · exact Or.inr ⟨j, z2, z3⟩)
      have g1e : ∀ x : Nat, x < 20 → gg n g x = g x := fun x hx => if_pos (by omega)
      have q2e : adg n ad am (2 + 20 * n) 0 = q := by
        unfold adg
        rw [if_neg (by omega), show 2 + 20 * n - 20 * n = 2 by omega, hm2]
      have a0e : adg n ad am 0 0 = ad 0 0 := if_pos (by omega)
      have a1e : adg n ad am 1 0 = ad 1 0 := if_pos (by omega)
      have hnn' : 1 ≤ cn (D, cI, cL, cM, n + 1, adg n ad am) := by show 1 ≤ n + 1; omega
      have hE' : fE (cφ (D, cI, cL, cM, n + 1, adg n ad am)) s := hE
      refine lv_astore_n (lv' := [(2, .ref q), (0, .ref (ad 0 0)), (1, .int (nI k))]) hx hb dX5_image_30 rfl hl (by decide) rfl (fun ls hl => ?_)
      refine lv_aload_n hx hb dX5_image_31 rfl (lv_at hl 1 rfl) ?_
      have hL5' : ∀ w ∈ u_ws RX5 TX5 2, w.before ([.ref (ad 0 0), .int (nI k)] : List Value).toArray s = true := hL5
      have fg := fw_get (φ := cφ (D, cI, cL, cM, n + 1, adg n ad am)) (p := p) (l := l) (e := e) (R := { frames := 5, cells := 81, slots := 6725, locals := 200 }) (s := s) (m := m) (args := ([.ref (ad 0 0), .int (nI k)] : List Value).toArray) (below := below) (meth := meth) (c := c) (H := H) (locs := locs) (cells := 81) (slots := 6725) (Q := MQ below (iQ D cI cL cM (ad 0 0) F B f (nI k) A) ([.ref (ad 0 0), .int (nI k)] : List Value).toArray s 81 6725 A) (C := RX5) (T := TX5) (N := 2) (ci := 5) (ls := ls) (rest := []) (v := .ref (adg n ad am 1 0)) hx hb hL5' hown hE' y1 (b0 (κ := (D, cI, cL, cM, n + 1, adg n ad am)) hnn') (cm0 (D, cI, cL, cM, n + 1, adg n ad am) _ _) rfl 1 (by decide) kw1 rfl dX5_image_32
      have e00 : fa (cφ (D, cI, cL, cM, n + 1, adg n ad am)) 0 0 = ad 0 0 := a0e
      rw [e00] at fg
      refine fg ?_
      refine lv_iload_n hx hb dX5_image_35 rfl (lv_at hl 2 rfl) ?_
      refine lv_aload_n hx hb dX5_image_36 rfl (lv_at hl 0 rfl) ?_
      rw [← q2e] at hl ⊢
      have hup : va_up (fun x => if gg n g 1 0 x = 0 then none else some (adg n ad am (2 + 20 * (gg n g 1 0 x).toNatClampNeg) 0)) (nI k).toNatClampNeg (some (adg n ad am (2 + 20 * n) 0)) = (fun x => if upd (gg n g 1 0) k (nI n) x = 0 then none else some (adg n ad am (2 + 20 * (upd (gg n g 1 0) k (nI n) x).toNatClampNeg) 0)) := by
        funext x
        rw [nk]
        unfold va_up
        by_cases z : x = k
        · subst z
          rw [if_pos rfl, upd_s, if_neg (fun y => by have := nIi (b := 0) (by omega) (by omega) y; omega), nI_clamp (by omega)]
        · rw [if_neg z, upd_n z]
      refine gw_aast (φ := cφ (D, cI, cL, cM, n + 1, adg n ad am)) (k := 1) (i := 0) (k2 := 2 + 20 * n) (i2 := 0) (n := 2) (ci := 4) (r := (RX4, TX4, 11)) (h' := upd (gg n g 1 0) k (nI n)) hx hb hE' y2 y1 hS y3 (b1 (κ := (D, cI, cL, cM, n + 1, adg n ad am)) hnn') (b2j (κ := (D, cI, cL, cM, n + 1, adg n ad am)) (j := n) (show n < n + 1 by omega)) (cm1 (D, cI, cL, cM, n + 1, adg n ad am) _ _) (cm2j (D, cI, cL, cM, n + 1, adg n ad am) n _ _) rfl 2 rfl ck4 hup (cm1 (D, cI, cL, cM, n + 1, adg n ad am) _ _) dX5_image_37 (fun H locs hF2 hS => ?_)
      have gk : ∀ x : Nat, x < 20 → x ≠ 1 → upr (gg n g) 1 0 (upd (gg n g 1 0) k (nI n)) x = g x := fun x h1 h2 => by rw [upr_k h2, g1e x h1]
      have g1 : upr (gg n g) 1 0 (upd (gg n g 1 0) k (nI n)) 1 0 = upd (g 1 0) k (nI n) := by rw [upr_eq, g1e 1 (by omega)]
      have hi20 : ∀ x : Nat, 20 ≤ x → x < 20 * n → upr (gg n g) 1 0 (upd (gg n g 1 0) k (nI n)) x = g x := fun x h1 h2 => by
        rw [upr_k (by omega)]
        exact if_pos h2
      refine TAIL (n + 1) (adg n ad am) _ k n H locs ls hk ?_ rfl a0e ?_ (fun k' h1 h2 => ⟨?_, ?_⟩) hn (by omega) (by rw [g1, upd_s]) y2 hF2 y3 hS hl
      · have hN := hT.1
        have nz : ¬ nI n = 0 := fun y => by have := nIi (b := 0) (by omega) (by omega) y; omega
        refine ⟨by omega, ?_, ?_, ?_⟩
        · rw [g1]
          intro z
          by_cases y : (0 : Nat) = k
          · subst y
            rw [upd_s] at z
            exact absurd z nz
          · rw [upd_n y] at z
            have hk1 : k = 1 := by omega
            subst hk1
            have := hN.2.2.2 z e1
            omega
        · rw [g1]
          intro z
          by_cases y : (1 : Nat) = k
          · subst y
            rw [upd_s] at z
            exact absurd z nz
          · rw [upd_n y] at z
            have hk0 : k = 0 := by omega
            subst hk0
            have := hN.2.2.2 e1 z
            omega
        · rw [g1]
          intro z1 z2
          exfalso
          have : k = 0 ∨ k = 1 := by omega
          rcases this with rfl | rfl
          · rw [upd_s] at z1
            exact nz z1
          · rw [upd_s] at z2
            exact nz z2
      · have tke : tk (upr (gg n g) 1 0 (upd (gg n g 1 0) k (nI n))) = tk g := by unfold tk; rw [gk 2 (by omega) (by omega)]
        unfold RB
        rw [tke]
        exact hT.2.1.cp ⟨fun k i x hs => by have := Sc_ne hs; rw [gk k (by omega) (by omega)], fun l i hl hi => by rw [gk 17 (by omega) (by omega)], fun l i hl hi => by rw [gk 19 (by omega) (by omega)], fun k i h1 h2 hi => by rw [gk k (by omega) (by omega)]⟩
      · refine (hT.im h1).go (by omega) (Nat.le_refl _) (by rw [g1, upd_n h2]) rfl (fun _ _ => rfl) (fun j b1 b2 b3 x hx => ?_)
        show upr (gg n g) 1 0 (upd (gg n g 1 0) k (nI n)) (x + 20 * j) = g (x + 20 * j)
        exact hi20 _ (by omega) (by omega)
      · rw [g1, upd_n h2]
        rcases hT.im h1 with ⟨z1, -⟩ | ⟨j, -, z2, z3, -, -⟩
        · rw [z1]
          intro y
          have := nIi (a := 0) (by omega) (by omega) y
          omega
        · rw [z3]
          intro y
          have := nIi (by omega) (by omega) y
          omega
    · have nj0 : ¬ g 1 0 k = 0 := by
        rw [e1]
        intro y
        have hn3 := hT.1.1
        have := nIi (b := 0) (by omega) (by omega) y
        omega
      have hn3 := hT.1.1
      have njc : (nI j).toNatClampNeg = j := nI_clamp (by omega)
      refine fw_aald (φ := cφ (D, cI, cL, cM, n, ad)) (a := ad (2 + 20 * j) 0) hx hb hE hF (b1 (κ := (D, cI, cL, cM, n, ad)) hnn) (cm1 (D, cI, cL, cM, n, ad) _ _) 2 rfl ck4 (by rw [nk, if_neg nj0, e1, njc]; rfl) dX5_image_17 ?_
      refine lv_astore_n (lv' := [(2, .ref (ad (2 + 20 * j) 0)), (0, .ref (ad 0 0)), (1, .int (nI k))]) hx hb dX5_image_18 rfl hl (by decide) rfl (fun ls hl => ?_)
      refine lv_aload_n hx hb dX5_image_19 rfl (lv_at hl 0 rfl) ?_
      refine lv_ifnonnull (tgt := 38) hx hb dX5_image_20 (by decide) ?_
      refine W.widen (k := 81) (n := 6725) (by omega) (by omega) ?_
      refine TAIL n ad g k j _ _ ls hk hT.1 rfl rfl hT.2.1 (oth j (fun k' h1 h2 y => ?_)) j1 j2 e1 hok hF hAf hS hl
      have hd := hT.2.2.2.2
      have : k = 0 ∨ k = 1 := by omega
      rcases this with rfl | rfl
      · obtain rfl : k' = 1 := by omega
        exact nj0 (hd (by rw [e1, y]))
      · obtain rfl : k' = 0 := by omega
        have h0 := hd (by rw [e1, y])
        rw [y] at h0
        have := nIi (b := 0) (by omega) (by omega) h0
        omega
  · refine lv_bipush (v := (-2 : Int32)) hx hb dX5_image_9 (by decide) ?_
    refine W.widen (k := 81) (n := 6725) (by omega) (by omega) ?_
    exact W.iret hx hb hr (fun t ht hW => ⟨n, ad, -2, g, f, rfl, by unfold m_X6_image; rw [p_in, Option.bind_some, if_pos c3], hT.up, hn, by rw [ht]; exact hF, hok, rfl, hAf, hS.F ht⟩) hS.2.2 dX5_image_11 hlocks
