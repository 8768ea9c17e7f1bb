
/-! MeshLamps as it is made -/
theorem mid_at {a L b : va_W} {k : Nat} {x : Nat × va_E} (h : L[k]? = some x) : (a ++ L ++ b)[a.length + k]? = some x := by
  have hk := (List.getElem?_eq_some_iff.mp h).1
  rw [List.append_assoc, List.getElem?_append_right (by omega), show a.length + k - a.length = k by omega, List.getElem?_append_left hk]
  exact h
theorem mid_P {D : va_G} {a L b : va_W} {H : Heap} (h : va_P D vwCl (a ++ L ++ b) H) : va_P D vwCl L H := fun k x hx => h _ x (mid_at hx)
theorem mid_D {A : Nat → Prop} {a L b : va_W} (h : va_D A (a ++ L ++ b)) : va_D A L := ⟨fun i j p q hi hj e => by
  have := h.1 _ _ p q (mid_at (a := a) (b := b) hi) (mid_at (a := a) (b := b) hj) e
  omega, fun k x hx => h.2 _ x (mid_at hx)⟩
theorem cn_nw {κ : Cx} : ∀ w ∈ fN (cφ κ), ∃ (a : String) (i : Nat) (x : MethodName) (h : String), w = .methodLinkNest a i x h := by
  intro w hw
  have hw : w ∈ nwC := hw
  unfold nwC at hw
  simp only [List.mem_cons, List.not_mem_nil, or_false] at hw
  rcases hw with rfl | rfl | rfl
  · exact ⟨_, _, _, _, rfl⟩
  · exact ⟨_, _, _, _, rfl⟩
  · exact ⟨_, _, _, _, rfl⟩
theorem cc_lt {n k i : Nat} (h : i < ccnt n k) : k < 20 * n ∧ (k % 20 < 2 → k < 20 ∧ i = 0) ∧ (2 ≤ k % 20 → i < if k % 20 < 13 then 1 else 10) := by
  unfold ccnt at h
  by_cases h1 : k < 20 * n
  · rw [if_pos h1] at h
    refine ⟨h1, fun h2 => ?_, fun h2 => ?_⟩
    · rw [if_pos h2] at h
      by_cases h3 : k < 20
      · rw [if_pos h3] at h
        exact ⟨h3, by omega⟩
      · rw [if_neg h3] at h
        omega
    · rw [if_neg (by omega)] at h
      exact h
  · rw [if_neg h1] at h
    omega
/-- the addresses of MeshLamps with its one mesh -/
def ad1 (h0 qi : Nat) (am : Nat → Nat → Nat) : Nat → Nat → Nat := fun k i => if k = 0 then h0 else if k = 1 then qi else am k i
theorem first_fw {D : va_G} {cI cL cM : ClassId} {h0 qi : Nat} {am : Nat → Nat → Nat} {H : Heap} {A : Nat → Prop} (hP : va_P D vwCl ([(h0, .inr (5, [.ref (am 2 0), .ref qi]))] ++ (mb cI cL am (laf am 10) ++ lmL cI am 10) ++ [(qi, .inl (cM, 2, .inr (.inr (.inr (.inr (fun _ => none))))))]) H) (hD : va_D A ([(h0, .inr (5, [.ref (am 2 0), .ref qi]))] ++ (mb cI cL am (laf am 10) ++ lmL cI am 10) ++ [(qi, .inl (cM, 2, .inr (.inr (.inr (.inr (fun _ => none))))))])) : fw (cφ (D, cI, cL, cM, 1, ad1 h0 qi am)) gI H ∧ fok (cφ (D, cI, cL, cM, 1, ad1 h0 qi am)) ∧ ∀ q, fA (cφ (D, cI, cL, cM, 1, ad1 h0 qi am)) q → A q := by
  have hP1 := mid_P hP
  have hD1 := mid_D hD
  have hmk : ∀ k i : Nat, 2 ≤ k → k < 20 → ad1 h0 qi am (k + 20 * 0) i = am k i := fun k i h1 h2 => by
    unfold ad1
    rw [if_neg (by omega), if_neg (by omega)]
    rfl
  have last : ([(h0, .inr (5, [.ref (am 2 0), .ref qi]))] ++ (mb cI cL am (laf am 10) ++ lmL cI am 10) ++ [(qi, .inl (cM, 2, .inr (.inr (.inr (.inr (fun _ => none))))))] : va_W)[82]? = some (qi, .inl (cM, 2, .inr (.inr (.inr (.inr (fun _ => none)))))) := by
    rw [List.getElem?_append_right (by simp [mb, lmL_len])]
    simp [mb, lmL_len]
  -- where each stands
  have pl : ∀ k i : Nat, i < ccnt 1 k → ∃ e : va_E, ([(h0, .inr (5, [.ref (am 2 0), .ref qi]))] ++ (mb cI cL am (laf am 10) ++ lmL cI am 10) ++ [(qi, .inl (cM, 2, .inr (.inr (.inr (.inr (fun _ => none))))))] : va_W)[if k = 0 then 0 else if k = 1 then 82 else 1 + mpos k i]? = some (ad1 h0 qi am k i, e) := by
    intro k i hi
    obtain ⟨c1, c2, c3⟩ := cc_lt hi
    by_cases k0 : k = 0
    · subst k0
      rw [if_pos rfl]
      exact ⟨_, rfl⟩
    · rw [if_neg k0]
      by_cases k1 : k = 1
      · subst k1
        rw [if_pos rfl]
        exact ⟨_, last⟩
      · rw [if_neg k1]
        have hkm : k % 20 = k := by omega
        rw [hkm] at c3
        obtain ⟨e, he⟩ := mesh_pl (cI := cI) (cL := cL) (am := am) (f := laf am 10) (show 2 ≤ k by omega) (show k < 20 by omega) (c3 (by omega))
        have hm := hmk k i (by omega) (by omega)
        rw [show k + 20 * 0 = k by omega] at hm
        rw [hm]
        exact ⟨e, mid_at (a := [(h0, .inr (5, [.ref (am 2 0), .ref qi]))]) he⟩
  refine ⟨?_, ⟨?_, ?_, cn_nw⟩, ?_⟩
  · intro k i hi
    obtain ⟨c1, c2, c3⟩ := cc_lt (n := 1) (k := k) (i := i) hi
    show va_at D vwCl (ad1 h0 qi am k i, cmj cI cL cM (ad1 h0 qi am) (k / 20) (k % 20) i (gI k i)) H
    have hkm : k % 20 = k := by omega
    have hkd : k / 20 = 0 := by omega
    rw [hkm, hkd]
    by_cases k0 : k = 0
    · subst k0
      exact hP 0 _ rfl
    · by_cases k1 : k = 1
      · subst k1
        refine at_q (hP 82 _ last) (fun x hx => ?_)
        show none = if (0 : Int32) = 0 then none else _
        rw [if_pos rfl]
      · rw [hkm] at c3
        have q := mesh_at (cM := cM) hP1 hmk (k := k) (i := i) (by omega) (by omega) (c3 (by omega))
        rw [show k + 20 * 0 = k by omega] at q
        exact q
  · intro k i k' i' hi hi' e
    obtain ⟨x, hx⟩ := pl k i hi
    obtain ⟨y, hy⟩ := pl k' i' hi'
    have key := hD.1 _ _ _ _ hx hy e
    obtain ⟨c1, c2, c3⟩ := cc_lt (n := 1) (k := k) (i := i) hi
    obtain ⟨d1, d2, d3⟩ := cc_lt (n := 1) (k := k') (i := i') hi'
    rw [show k % 20 = k by omega] at c2 c3
    rw [show k' % 20 = k' by omega] at d2 d3
    unfold mpos at key
    (repeat' split at key) <;> (try split at c3) <;> (try split at d3) <;> omega
  · intro k hk
    show ccnt 1 k = 0
    unfold ccnt
    rw [if_neg (by omega)]
  · rintro q ⟨k, i, hi, rfl⟩
    obtain ⟨x, hx⟩ := pl k i hi
    exact hD.2 _ _ hx

theorem XM.at {D : va_G} {cI cL cM : ClassId} {A B : Nat → Prop} {s U : State} {H : Heap} {locs : List Loc} (h : XM D cI cL cM A s) (hW : s.WarmedH U.vm) (hS : va_S A s.heap H locs) (hU : U.heap = H) (hAB : ∀ q, B q → A q) : XM D cI cL cM B U := ⟨h.1.at hW hS hU hAB, va_Nw.warmM hW h.2.1, va_Nw.warmM hW h.2.2.1, va_Nw.warmM hW h.2.2.2.1, va_AO.moved hW.alike h.2.2.2.2.1, va_K.moved hW.alike h.2.2.2.2.2⟩
set_option maxHeartbeats 4000000 in
set_option maxRecDepth 100000 in
theorem cn_X5 (l : Launch) (D : va_G) (cI cL cM : ClassId) (h0 sz : Nat) : Met l yX5_init wsX5_init ({ frames := 4, cells := 82, slots := 6727, locals := 160 }) (kP D cI h0 (.inr (5, [.null, .null])) sz (fun U => XM D cI cL cM (kA h0 sz) U ∧ va_AO RX4 U) [.ref h0]) (kQ (fun H => ∃ ad : Nat → Nat → Nat, ad 0 0 = h0 ∧ fw (cφ (D, cI, cL, cM, 1, ad)) gI H ∧ fok (cφ (D, cI, cL, cM, 1, ad)) ∧ ∀ q, fA (cφ (D, cI, cL, cM, 1, ad)) q → kA h0 sz q) (kA h0 sz)) 82 6727 (kA h0 sz) := by
  refine Met.ofW (cc := cX5_init) (maxL := 1) (ret := none) (by decide) rfl ?_
  intro p e s m args below meth c s₁ B hml hv
  obtain ⟨rfl, hsz, hat, hK, hX⟩ := hv
  have hx := B.exec
  have hb := B.bytes
  have hr := B.returns
  have hts := atoms_spec (ws := wsX5_init) B.pre
  have hown : s.vm.findClass RX5 = some m.cls := findClass_of_methodNamed B.named
  have hlocks := B.notSynchronized
  have hin : meth.name = "<init>" := (name_of_methodNamed B.named B.method).1
  subst hsz
  have hA : ∀ q : Nat, s.heap.size ≤ q → kA h0 s.heap.size q := fun q h => Or.inr h
  have hS : va_S (kA h0 s.heap.size) s.heap s.heap [] := va_S.rf
  have hP := va_P1 hat
  have hD : va_D (kA h0 s.heap.size) [(h0, Sum.inr (5, [.null, .null]))] := va_D1 (Or.inl rfl)
  have hL : ∀ w ∈ u_ws RX5 TX5 2, w ∈ wsX5_init := fun w hw => by
    unfold wsX5_init
    simp only [List.mem_cons, List.mem_append]
    exact Or.inr (Or.inl (Or.inl (Or.inl (Or.inl (Or.inr hw)))))
  have hL4 : ∀ w ∈ u_ws RX4 TX4 11, w ∈ wsX5_init := fun w hw => by
    unfold wsX5_init
    simp only [List.mem_cons, List.mem_append]
    exact Or.inr (Or.inl (Or.inl (Or.inl (Or.inl (Or.inl (Or.inr hw))))))
  obtain ⟨xm, xo⟩ := hX
  have hK3 := xm.2.2.2.2.2
  generalize kA h0 s.heap.size = A at hD hA hS xm ⊢
  have hl := lv_entry ([.ref h0]) (n := 1) (Nat.le_of_ble_eq_true rfl)
  rw [lg_entry_eq]
  generalize (lg_sl ([.ref h0]) ++ List.replicate (1 - (lg_sl ([.ref h0])).length) Slot.unset).toArray = ls at hl ⊢
  have hl : lv_has ls 1 [(0, .ref h0)] := hl
  refine lv_aload_n hx hb dX5_init_0 rfl (lv_at hl 0 rfl) ?_
  refine W.objInit hx hb hown (hts (.methodLink RX5 1 objectInit) (List.mem_of_getElem? (i := 1) rfl)) (hts (.instanceMethod objectInit) (List.mem_of_getElem? (i := 2) rfl)) (hts _ (List.mem_of_getElem? (i := 3) rfl)) rfl (by rw [hml]; exact hl.1) rfl dX5_init_1 (Nat.le_of_ble_eq_true rfl) (Nat.le_of_ble_eq_true rfl) ?_
  refine W.eq (g2 := F0 m 4 ls []) rfl ?_
  refine lv_aload_n hx hb dX5_init_4 rfl (lv_at hl 0 rfl) ?_
  refine va_new (ci := 4) (fs := [.null, .null, .null, .int 0, .int 0, .int 0, .int 0, .int 0, .int 0, .int 0, .int 0]) (C := RX4) (T := TX4) (N := 11) hx hb hts hL4 tyX4 tyX4_ok hown (hts (.classLink RX5 7 RX4) (List.mem_of_getElem? (i := 4) rfl)) (hts (.instantiable RX4 11) (List.mem_of_getElem? (i := 5) rfl)) (hts (.initialized RX4) (List.mem_of_getElem? (i := 6) rfl)) hK hP hD hS hA rfl (fun j hj => by rcases (show j = 0 ∨ j = 1 ∨ j = 2 ∨ j = 3 ∨ j = 4 ∨ j = 5 ∨ j = 6 ∨ j = 7 ∨ j = 8 ∨ j = 9 ∨ j = 10 by omega) with rfl | rfl | rfl | rfl | rfl | rfl | rfl | rfl | rfl | rfl | rfl <;> rfl) (Nat.le_of_ble_eq_true rfl) (Nat.le_of_ble_eq_true rfl) dX5_init_5 (fun q H hP hD hS => ?_)
  refine W.widen (k := 1) (n := 11) (by omega) (by omega) ?_
  refine lv_dup hx hb dX5_init_8 rfl ?_
  have hFc := kfree hD hS hA
  refine kw_call (va_runI (As := []) (rest := [.ref q, .ref h0]) ⟨hx, hb, hml, hown, hts⟩ (cn_X4 l D cI cL cM q H.size) (cwI 0 hts gX5_init_X4_init rfl rfl rfl (hts (.initialized RX4) (List.mem_of_getElem? (i := 6) rfl)) (hts (.methodLink RX5 9 yX4_init) (List.mem_of_getElem? (i := 9) rfl)) (hts (.instanceMethod yX4_init) (List.mem_of_getElem? (i := 10) rfl)) rfl (by decide +kernel) ⟨Nat.le_of_ble_eq_true rfl, Nat.le_of_ble_eq_true rfl⟩) ⟨kP.blind XM.blind, fun U hU hW => ⟨rfl, by rw [hU], by rw [hU]; exact hP 1 _ rfl, va_K.moved hW.alike hK, xm.at hW hS hU hFc⟩⟩ rfl rfl hl.1 rfl (lv_room (Nat.le_of_ble_eq_true rfl)) dX5_init_9 ⟨Nat.le_of_ble_eq_true rfl, Nat.le_of_ble_eq_true rfl⟩) hS hFc (fun H1 locs hB hz1 hk1 hS => ?_)
  obtain ⟨am, hm2, hP1, hD1⟩ := hB
  obtain ⟨hP, hD⟩ := kjoin hP hD hk1 hFc hP1 hD1
  generalize H1 = H at hP hS ⊢
  refine W.widen (k := 81) (n := 6725) (by omega) (by omega) ?_
  refine va_putF (D := D) (ci := 5) (v := .ref q) (ty := .object "MeshLamps$Mesh") (C := RX5) (T := TX5) (N := 2) hx hb hts hL tyX5 tyX5_ok nmX5 hown hK hP hD hS 0 rfl rfl 0 (by decide) (hts (.fieldLink RX5 10 "MeshLamps" "mesh" "LMeshLamps$Mesh;") (List.mem_of_getElem? (i := 7) rfl)) (fun _ h9 => h9) rfl hin rfl (by decide +kernel) rfl rfl (Nat.le_of_ble_eq_true rfl) dX5_init_12 (fun H locs hP hD hS => ?_)
  refine lv_aload_n hx hb dX5_init_15 rfl (lv_at hl 0 rfl) ?_
  refine lv_iconst (v := (2 : Int32)) hx hb dX5_init_16 (by decide) ?_
  refine kw_newq (N' := 2) (C := RX4) (t0 := 2) hx hb hown (hts (.classLink RX5 7 RX4) (List.mem_of_getElem? (i := 4) rfl)) xo hK3 rfl hP hD hS hA (by decide) (by decide) (by decide) (Nat.le_of_ble_eq_true rfl) (Nat.le_of_ble_eq_true rfl) dX5_init_17 (fun qi H hP hD hS => ?_)
  refine W.widen (k := 82) (n := 6727) (by omega) (by omega) ?_
  refine va_putF (D := D) (ci := 5) (v := .ref qi) (ty := .array (.object "MeshLamps$Mesh")) (C := RX5) (T := TX5) (N := 2) hx hb hts hL tyX5 tyX5_ok nmX5 hown hK hP hD hS 0 rfl rfl 1 (by decide) (hts (.fieldLink RX5 16 "MeshLamps" "images" "[LMeshLamps$Mesh;") (List.mem_of_getElem? (i := 8) rfl)) (fun _ h9 => h9) rfl hin rfl (by decide +kernel) rfl rfl (Nat.le_of_ble_eq_true rfl) dX5_init_20 (fun H locs hP hD hS => ?_)
  subst hm2
  obtain ⟨y1, y2, y3⟩ := first_fw (D := D) (cI := cI) (cL := cL) (cM := cM) (h0 := h0) (qi := qi) (am := am) (H := H) (A := A) hP hD
  exact W.vret hx hb hr (fun t ht hW => ⟨rfl, ⟨ad1 h0 qi am, rfl, by rw [ht]; exact y1, y2, y3⟩, hS.F ht⟩) hS.2.2 dX5_init_23 hlocks
