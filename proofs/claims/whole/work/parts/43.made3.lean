theorem kA_A {q sz x : Nat} {e : va_E} (h : kA q sz x) : va_A [(q, e)] sz x := by
  rcases h with rfl | h
  · exact Or.inl ⟨0, e, rfl⟩
  · exact Or.inr h
theorem A_kA {q sz x : Nat} {e : va_E} (h : va_A [(q, e)] sz x) : kA q sz x := by
  rcases h with ⟨k, e', h⟩ | h
  · have hz : k < 1 := (List.getElem?_eq_some_iff.mp h).1
    rw [show k = 0 by omega] at h
    cases h
    exact Or.inl rfl
  · exact Or.inr h
theorem FS.blind {cI : ClassId} {A : Nat → Prop} {U : State} {f : JFrame} {mk : MethodId} {a : Array Value} (h : FS cI A U U.heap) : FS cI A (U.calling f mk a) (U.calling f mk a).heap := h.go (U := U) (V := U.calling f mk a) (H1 := U.heap) (Vm.Alike.refl U.vm) (fun _ _ _ => rfl) (fun _ z => z)
theorem XL.blind {cI : ClassId} {A : Nat → Prop} (U : State) (f : JFrame) (mk : MethodId) (a : Array Value) (h : XL cI A U) : XL cI A (U.calling f mk a) := ⟨h.1.blind, va_Nw.same (u := U) (U := U.calling f mk a) rfl rfl h.2.1, va_Nw.same (u := U) (U := U.calling f mk a) rfl rfl h.2.2⟩
/-- a lamp as it is made -/
def lampL (cI : ClassId) (h0 a14 a15 a16 a17 a18 a19 : Nat) : va_W := [(h0, .inr (1, [.ref a14, .ref a15, .ref a16, .ref a18, .int 0, .int 0, .int 0, .int (-6), .int 0, .int 0, .int 0, .int 0, .int 0, .int 0, .int 0])), (a14, .inl (cI, 4, .inl fs0)), (a15, .inl (cI, 10, .inl (fun _ => 0))), (a16, .inr (3, [.ref a17, .int 0])), (a17, .inl (cI, 8, .inl (fun _ => 0))), (a18, .inr (3, [.ref a19, .int 0])), (a19, .inl (cI, 3, .inl (fun _ => 0)))]
set_option maxHeartbeats 4000000 in
set_option maxRecDepth 100000 in
theorem cn_X1 (l : Launch) (D : va_G) (cI : ClassId) (h0 sz : Nat) : Met l yX1_init wsX1_init ({ frames := 2, cells := 6, slots := 29, locals := 60 }) (kP D cI h0 (.inr (1, [.null, .null, .null, .null, .int 0, .int 0, .int 0, .int 0, .int 0, .int 0, .int 0, .int 0, .int 0, .int 0, .int 0])) sz (XL cI (kA h0 sz)) [.ref h0]) (kQ (fun H => ∃ a14 a15 a16 a17 a18 a19 : Nat, kL D (kA h0 sz) (lampL cI h0 a14 a15 a16 a17 a18 a19) H) (kA h0 sz)) 6 29 (kA h0 sz) := by
  refine Met.ofW (cc := cX1_init) (maxL := 1) (ret := none) (by decide) rfl ?_
  intro p e s m args below meth c s₁ B hml hv
  obtain ⟨rfl, hsz, hat, hK, hX⟩ := hv
  have hx := B.exec
  have hb := B.bytes
  have hr := B.returns
  have hts := atoms_spec (ws := wsX1_init) B.pre
  have hown : s.vm.findClass RX1 = some m.cls := findClass_of_methodNamed B.named
  have hlocks := B.notSynchronized
  have hin : meth.name = "<init>" := (name_of_methodNamed B.named B.method).1
  subst hsz
  have hA : ∀ q : Nat, s.heap.size ≤ q → kA h0 s.heap.size q := fun q h => Or.inr h
  have hS : va_S (kA h0 s.heap.size) s.heap s.heap [] := va_S.rf
  have hP := va_P1 hat
  have hD : va_D (kA h0 s.heap.size) [(h0, Sum.inr (1, [.null, .null, .null, .null, .int 0, .int 0, .int 0, .int 0, .int 0, .int 0, .int 0, .int 0, .int 0, .int 0, .int 0]))] := va_D1 (Or.inl rfl)
  have hL : ∀ w ∈ u_ws RX1 TX1 15, w ∈ wsX1_init := fun w hw => by
    unfold wsX1_init
    simp only [List.mem_cons, List.mem_append]
    exact Or.inr (Or.inl (Or.inr hw))
  have hL3 : ∀ w ∈ u_ws RX3 TX3 2, w ∈ wsX1_init := fun w hw => by
    unfold wsX1_init
    simp only [List.mem_cons, List.mem_append]
    exact Or.inr (Or.inr hw)
  obtain ⟨⟨t0, cell, z1, z2, z3, z4, z5, z6⟩, x2, x3⟩ := hX
  generalize kA h0 s.heap.size = A at hD hA hS z1 z3 ⊢
  have hl := lv_entry ([.ref h0]) (n := 1) (Nat.le_of_ble_eq_true rfl)
  rw [lg_entry_eq]
  generalize (lg_sl ([.ref h0]) ++ List.replicate (1 - (lg_sl ([.ref h0])).length) Slot.unset).toArray = ls at hl ⊢
  have hl : lv_has ls 1 [(0, .ref h0)] := hl
  refine lv_aload_n hx hb dX1_init_0 rfl (lv_at hl 0 rfl) ?_
  refine W.objInit hx hb hown (hts (.methodLink RX1 3 objectInit) (List.mem_of_getElem? (i := 1) rfl)) (hts (.instanceMethod objectInit) (List.mem_of_getElem? (i := 2) rfl)) (hts _ (List.mem_of_getElem? (i := 3) rfl)) rfl (by rw [hml]; exact hl.1) rfl dX1_init_1 (Nat.le_of_ble_eq_true rfl) (Nat.le_of_ble_eq_true rfl) ?_
  refine W.eq (g2 := F0 m 4 ls []) rfl ?_
  refine lv_aload_n hx hb dX1_init_4 rfl (lv_at hl 0 rfl) ?_
  refine va_getsN (v := .ref t0) hx hb z1 hS hown (va_Nw.use rfl x2) (fun _ h9 => h9) dX1_init_5 ?_
  refine kw_clone hx hb (hml.trans hl.1.symm) hown (hts _ (List.mem_of_getElem? (i := 4) rfl)) (hts _ (List.mem_of_getElem? (i := 5) rfl)) (hts _ (List.mem_of_getElem? (i := 6) rfl)) (hts _ (List.mem_of_getElem? (i := 7) rfl)) (hts _ (List.mem_of_getElem? (i := 8) rfl)) x3 hK hP hD hS hA z2 z3 z4 z5 z6 (Nat.le_of_ble_eq_true rfl) (Nat.le_of_ble_eq_true rfl) (Nat.le_of_ble_eq_true rfl) (Nat.le_of_ble_eq_true rfl) dX1_init_8 (fun q1 H hP hD hS => ?_)
  refine W.widen (k := 1) (n := 4) (by omega) (by omega) ?_
  refine va_castA (nm := "[I") hx hb hown (hts (.classLink RX1 14 "[I") (List.mem_of_getElem? (i := 9) rfl)) hP 1 rfl (va_nm_int (hK.2 0 _ rfl).2) dX1_init_11 ?_
  refine va_putF (D := D) (ci := 1) (v := .ref q1) (ty := .array .int) (C := RX1) (T := TX1) (N := 15) hx hb hts hL tyX1 tyX1_ok nmX1 hown hK hP hD hS 0 rfl rfl 0 (by decide) (hts (.fieldLink RX1 18 "MeshLamps$Lamp" "settings" "[I") (List.mem_of_getElem? (i := 10) rfl)) (fun _ h9 => h9) rfl hin rfl (by decide +kernel) rfl rfl (Nat.le_of_ble_eq_true rfl) dX1_init_14 (fun H locs hP hD hS => ?_)
  refine lv_aload_n hx hb dX1_init_17 rfl (lv_at hl 0 rfl) ?_
  refine lv_bipush (v := (10 : Int32)) hx hb dX1_init_18 (by decide) ?_
  refine kw_newa (N := 10) hx hb (hts (.arrayClass .int) (List.mem_of_getElem? (i := 11) rfl)) hK hP hD hS hA (by decide) (by decide) (by decide) (Nat.le_of_ble_eq_true rfl) (Nat.le_of_ble_eq_true rfl) dX1_init_20 (fun q2 H hP hD hS => ?_)
  refine W.widen (k := 2) (n := 14) (by omega) (by omega) ?_
  refine va_putF (D := D) (ci := 1) (v := .ref q2) (ty := .array .int) (C := RX1) (T := TX1) (N := 15) hx hb hts hL tyX1 tyX1_ok nmX1 hown hK hP hD hS 0 rfl rfl 1 (by decide) (hts (.fieldLink RX1 23 "MeshLamps$Lamp" "greatestTaken" "[I") (List.mem_of_getElem? (i := 12) rfl)) (fun _ h9 => h9) rfl hin rfl (by decide +kernel) rfl rfl (Nat.le_of_ble_eq_true rfl) dX1_init_22 (fun H locs hP hD hS => ?_)
  refine lv_aload_n hx hb dX1_init_25 rfl (lv_at hl 0 rfl) ?_
  refine va_new (ci := 3) (fs := [.null, .int 0]) (C := RX3) (T := TX3) (N := 2) hx hb hts hL3 tyX3 tyX3_ok hown (hts (.classLink RX1 26 RX3) (List.mem_of_getElem? (i := 13) rfl)) (hts (.instantiable RX3 2) (List.mem_of_getElem? (i := 14) rfl)) (hts (.initialized RX3) (List.mem_of_getElem? (i := 15) rfl)) hK hP hD hS hA rfl (fun j hj => by rcases (show j = 0 ∨ j = 1 by omega) with rfl | rfl <;> rfl) (Nat.le_of_ble_eq_true rfl) (Nat.le_of_ble_eq_true rfl) dX1_init_26 (fun q3 H hP hD hS => ?_)
  refine W.widen (k := 3) (n := 16) (by omega) (by omega) ?_
  refine lv_dup hx hb dX1_init_29 rfl ?_
  refine lv_bipush (v := (8 : Int32)) hx hb dX1_init_30 (by decide) ?_
  have hFc := va_free (wc := [(q3, .inr (3, [.null, .int 0]))]) hD hS hA [3] rfl
  refine kw_call (va_runI (As := [.int (nI 8)]) (rest := [.ref q3, .ref h0]) ⟨hx, hb, hml, hown, hts⟩ (cn_X3 l D cI q3 H.size 8 (by omega)) (cwI 1 hts gX1_init_X3_init rfl rfl rfl (hts (.initialized RX3) (List.mem_of_getElem? (i := 15) rfl)) (hts (.methodLink RX1 28 yX3_init) (List.mem_of_getElem? (i := 29) rfl)) (hts (.instanceMethod yX3_init) (List.mem_of_getElem? (i := 30) rfl)) rfl (by decide +kernel) ⟨Nat.le_of_ble_eq_true rfl, Nat.le_of_ble_eq_true rfl⟩) ⟨kP.blind (fun _ _ _ _ h => h), fun U hU hW => ⟨rfl, by rw [hU], by rw [hU]; exact hP 3 _ rfl, va_K.moved hW.alike hK, trivial⟩⟩ rfl rfl hl.1 rfl (lv_room (Nat.le_of_ble_eq_true rfl)) dX1_init_32 ⟨Nat.le_of_ble_eq_true rfl, Nat.le_of_ble_eq_true rfl⟩) hS (fun q z => hFc q (kA_A z)) (fun H1 locs hB hz1 hk1 hS => ?_)
  obtain ⟨q4, hP1, hD1⟩ := hB
  obtain ⟨hP, hD⟩ := va_join (wr := [(h0, .inr (1, [.ref q1, .ref q2, .null, .null, .int 0, .int 0, .int 0, .int 0, .int 0, .int 0, .int 0, .int 0, .int 0, .int 0, .int 0])), (q1, .inl (cI, 4, .inl fs0)), (q2, .inl (cI, 10, .inl (fun _ => 0)))]) hP hD [3] [0, 1, 2] rfl rfl (by decide) (by decide) (fun q y1 y2 => hk1 q y1 (fun z => y2 (kA_A z))) hFc hP1 (hD1.weaken (fun _ _ _ z => kA_A z))
  generalize H1 = H at hP hS ⊢
  refine W.widen (k := 4) (n := 24) (by omega) (by omega) ?_
  refine va_putF (D := D) (ci := 1) (v := .ref q3) (ty := .object "MeshLamps$Line") (C := RX1) (T := TX1) (N := 15) hx hb hts hL tyX1 tyX1_ok nmX1 hown hK hP hD hS 0 rfl rfl 2 (by decide) (hts (.fieldLink RX1 31 "MeshLamps$Lamp" "mind" "LMeshLamps$Line;") (List.mem_of_getElem? (i := 16) rfl)) (fun _ h9 => h9) rfl hin rfl (by decide +kernel) rfl rfl (Nat.le_of_ble_eq_true rfl) dX1_init_35 (fun H locs hP hD hS => ?_)
  refine lv_aload_n hx hb dX1_init_38 rfl (lv_at hl 0 rfl) ?_
  refine va_new (ci := 3) (fs := [.null, .int 0]) (C := RX3) (T := TX3) (N := 2) hx hb hts hL3 tyX3 tyX3_ok hown (hts (.classLink RX1 26 RX3) (List.mem_of_getElem? (i := 13) rfl)) (hts (.instantiable RX3 2) (List.mem_of_getElem? (i := 14) rfl)) (hts (.initialized RX3) (List.mem_of_getElem? (i := 15) rfl)) hK hP hD hS hA rfl (fun j hj => by rcases (show j = 0 ∨ j = 1 by omega) with rfl | rfl <;> rfl) (Nat.le_of_ble_eq_true rfl) (Nat.le_of_ble_eq_true rfl) dX1_init_39 (fun q5 H hP hD hS => ?_)
  refine W.widen (k := 5) (n := 26) (by omega) (by omega) ?_
  refine lv_dup hx hb dX1_init_42 rfl ?_
  refine lv_iconst (v := (3 : Int32)) hx hb dX1_init_43 (by decide) ?_
  have hFc := va_free (wc := [(q5, .inr (3, [.null, .int 0]))]) hD hS hA [5] rfl
  refine kw_call (va_runI (As := [.int (nI 3)]) (rest := [.ref q5, .ref h0]) ⟨hx, hb, hml, hown, hts⟩ (cn_X3 l D cI q5 H.size 3 (by omega)) (cwI 1 hts gX1_init_X3_init rfl rfl rfl (hts (.initialized RX3) (List.mem_of_getElem? (i := 15) rfl)) (hts (.methodLink RX1 28 yX3_init) (List.mem_of_getElem? (i := 29) rfl)) (hts (.instanceMethod yX3_init) (List.mem_of_getElem? (i := 30) rfl)) rfl (by decide +kernel) ⟨Nat.le_of_ble_eq_true rfl, Nat.le_of_ble_eq_true rfl⟩) ⟨kP.blind (fun _ _ _ _ h => h), fun U hU hW => ⟨rfl, by rw [hU], by rw [hU]; exact hP 5 _ rfl, va_K.moved hW.alike hK, trivial⟩⟩ rfl rfl hl.1 rfl (lv_room (Nat.le_of_ble_eq_true rfl)) dX1_init_44 ⟨Nat.le_of_ble_eq_true rfl, Nat.le_of_ble_eq_true rfl⟩) hS (fun q z => hFc q (kA_A z)) (fun H1 locs hB hz1 hk1 hS => ?_)
  obtain ⟨q6, hP1, hD1⟩ := hB
  obtain ⟨hP, hD⟩ := va_join (wr := [(h0, .inr (1, [.ref q1, .ref q2, .ref q3, .null, .int 0, .int 0, .int 0, .int 0, .int 0, .int 0, .int 0, .int 0, .int 0, .int 0, .int 0])), (q1, .inl (cI, 4, .inl fs0)), (q2, .inl (cI, 10, .inl (fun _ => 0))), (q3, .inr (3, [.ref q4, .int 0])), (q4, .inl (cI, 8, .inl (fun _ => 0)))]) hP hD [5] [0, 1, 2, 3, 4] rfl rfl (by decide) (by decide) (fun q y1 y2 => hk1 q y1 (fun z => y2 (kA_A z))) hFc hP1 (hD1.weaken (fun _ _ _ z => kA_A z))
  generalize H1 = H at hP hS ⊢
  refine W.widen (k := 6) (n := 29) (by omega) (by omega) ?_
  refine va_putF (D := D) (ci := 1) (v := .ref q5) (ty := .object "MeshLamps$Line") (C := RX1) (T := TX1) (N := 15) hx hb hts hL tyX1 tyX1_ok nmX1 hown hK hP hD hS 0 rfl rfl 3 (by decide) (hts (.fieldLink RX1 35 "MeshLamps$Lamp" "kept" "LMeshLamps$Line;") (List.mem_of_getElem? (i := 17) rfl)) (fun _ h9 => h9) rfl hin rfl (by decide +kernel) rfl rfl (Nat.le_of_ble_eq_true rfl) dX1_init_47 (fun H locs hP hD hS => ?_)
  refine lv_aload_n hx hb dX1_init_50 rfl (lv_at hl 0 rfl) ?_
  refine lv_iconst (v := (0 : Int32)) hx hb dX1_init_51 (by decide) ?_
  refine va_put (D := D) (ci := 1) (v := .int (0)) (ty := .int) (C := RX1) (T := TX1) (N := 15) hx hb hts hL tyX1 tyX1_ok nmX1 hown hK hP hD hS 0 rfl rfl 4 (by decide) (hts (.fieldLink RX1 38 "MeshLamps$Lamp" "links" "I") (List.mem_of_getElem? (i := 18) rfl)) (fun _ h9 => h9) rfl (by decide +kernel) rfl rfl (Nat.le_of_ble_eq_true rfl) dX1_init_52 (fun H locs hP hD hS => ?_)
  refine lv_aload_n hx hb dX1_init_55 rfl (lv_at hl 0 rfl) ?_
  refine lv_iconst (v := (0 : Int32)) hx hb dX1_init_56 (by decide) ?_
  refine va_put (D := D) (ci := 1) (v := .int (0)) (ty := .int) (C := RX1) (T := TX1) (N := 15) hx hb hts hL tyX1 tyX1_ok nmX1 hown hK hP hD hS 0 rfl rfl 5 (by decide) (hts (.fieldLink RX1 42 "MeshLamps$Lamp" "light" "I") (List.mem_of_getElem? (i := 19) rfl)) (fun _ h9 => h9) rfl (by decide +kernel) rfl rfl (Nat.le_of_ble_eq_true rfl) dX1_init_57 (fun H locs hP hD hS => ?_)
  refine lv_aload_n hx hb dX1_init_60 rfl (lv_at hl 0 rfl) ?_
  refine lv_iconst (v := (0 : Int32)) hx hb dX1_init_61 (by decide) ?_
  refine va_put (D := D) (ci := 1) (v := .int (0)) (ty := .boolean) (C := RX1) (T := TX1) (N := 15) hx hb hts hL tyX1 tyX1_ok nmX1 hown hK hP hD hS 0 rfl rfl 6 (by decide) (hts (.fieldLink RX1 45 "MeshLamps$Lamp" "sleeps" "Z") (List.mem_of_getElem? (i := 20) rfl)) (fun _ h9 => h9) rfl (by decide +kernel) rfl rfl (Nat.le_of_ble_eq_true rfl) dX1_init_62 (fun H locs hP hD hS => ?_)
  refine lv_aload_n hx hb dX1_init_65 rfl (lv_at hl 0 rfl) ?_
  refine lv_bipush (v := (-6 : Int32)) hx hb dX1_init_66 (by decide) ?_
  refine va_put (D := D) (ci := 1) (v := .int (-6)) (ty := .int) (C := RX1) (T := TX1) (N := 15) hx hb hts hL tyX1 tyX1_ok nmX1 hown hK hP hD hS 0 rfl rfl 7 (by decide) (hts (.fieldLink RX1 49 "MeshLamps$Lamp" "friend" "I") (List.mem_of_getElem? (i := 21) rfl)) (fun _ h9 => h9) rfl (by decide +kernel) rfl rfl (Nat.le_of_ble_eq_true rfl) dX1_init_68 (fun H locs hP hD hS => ?_)
  refine lv_aload_n hx hb dX1_init_71 rfl (lv_at hl 0 rfl) ?_
  refine lv_iconst (v := (0 : Int32)) hx hb dX1_init_72 (by decide) ?_
  refine va_put (D := D) (ci := 1) (v := .int (0)) (ty := .int) (C := RX1) (T := TX1) (N := 15) hx hb hts hL tyX1 tyX1_ok nmX1 hown hK hP hD hS 0 rfl rfl 8 (by decide) (hts (.fieldLink RX1 52 "MeshLamps$Lamp" "told" "I") (List.mem_of_getElem? (i := 22) rfl)) (fun _ h9 => h9) rfl (by decide +kernel) rfl rfl (Nat.le_of_ble_eq_true rfl) dX1_init_73 (fun H locs hP hD hS => ?_)
  refine lv_aload_n hx hb dX1_init_76 rfl (lv_at hl 0 rfl) ?_
  refine lv_iconst (v := (0 : Int32)) hx hb dX1_init_77 (by decide) ?_
  refine va_put (D := D) (ci := 1) (v := .int (0)) (ty := .int) (C := RX1) (T := TX1) (N := 15) hx hb hts hL tyX1 tyX1_ok nmX1 hown hK hP hD hS 0 rfl rfl 9 (by decide) (hts (.fieldLink RX1 55 "MeshLamps$Lamp" "took" "I") (List.mem_of_getElem? (i := 23) rfl)) (fun _ h9 => h9) rfl (by decide +kernel) rfl rfl (Nat.le_of_ble_eq_true rfl) dX1_init_78 (fun H locs hP hD hS => ?_)
  refine lv_aload_n hx hb dX1_init_81 rfl (lv_at hl 0 rfl) ?_
  refine lv_iconst (v := (0 : Int32)) hx hb dX1_init_82 (by decide) ?_
  refine va_put (D := D) (ci := 1) (v := .int (0)) (ty := .int) (C := RX1) (T := TX1) (N := 15) hx hb hts hL tyX1 tyX1_ok nmX1 hown hK hP hD hS 0 rfl rfl 10 (by decide) (hts (.fieldLink RX1 58 "MeshLamps$Lamp" "refusedAsOld" "I") (List.mem_of_getElem? (i := 24) rfl)) (fun _ h9 => h9) rfl (by decide +kernel) rfl rfl (Nat.le_of_ble_eq_true rfl) dX1_init_83 (fun H locs hP hD hS => ?_)
  refine lv_aload_n hx hb dX1_init_86 rfl (lv_at hl 0 rfl) ?_
  refine lv_iconst (v := (0 : Int32)) hx hb dX1_init_87 (by decide) ?_
  refine va_put (D := D) (ci := 1) (v := .int (0)) (ty := .int) (C := RX1) (T := TX1) (N := 15) hx hb hts hL tyX1 tyX1_ok nmX1 hown hK hP hD hS 0 rfl rfl 11 (by decide) (hts (.fieldLink RX1 61 "MeshLamps$Lamp" "hadStrange" "I") (List.mem_of_getElem? (i := 25) rfl)) (fun _ h9 => h9) rfl (by decide +kernel) rfl rfl (Nat.le_of_ble_eq_true rfl) dX1_init_88 (fun H locs hP hD hS => ?_)
  refine lv_aload_n hx hb dX1_init_91 rfl (lv_at hl 0 rfl) ?_
  refine lv_iconst (v := (0 : Int32)) hx hb dX1_init_92 (by decide) ?_
  refine va_put (D := D) (ci := 1) (v := .int (0)) (ty := .int) (C := RX1) (T := TX1) (N := 15) hx hb hts hL tyX1 tyX1_ok nmX1 hown hK hP hD hS 0 rfl rfl 12 (by decide) (hts (.fieldLink RX1 64 "MeshLamps$Lamp" "hadStale" "I") (List.mem_of_getElem? (i := 26) rfl)) (fun _ h9 => h9) rfl (by decide +kernel) rfl rfl (Nat.le_of_ble_eq_true rfl) dX1_init_93 (fun H locs hP hD hS => ?_)
  refine lv_aload_n hx hb dX1_init_96 rfl (lv_at hl 0 rfl) ?_
  refine lv_iconst (v := (0 : Int32)) hx hb dX1_init_97 (by decide) ?_
  refine va_put (D := D) (ci := 1) (v := .int (0)) (ty := .int) (C := RX1) (T := TX1) (N := 15) hx hb hts hL tyX1 tyX1_ok nmX1 hown hK hP hD hS 0 rfl rfl 13 (by decide) (hts (.fieldLink RX1 67 "MeshLamps$Lamp" "hadNew" "I") (List.mem_of_getElem? (i := 27) rfl)) (fun _ h9 => h9) rfl (by decide +kernel) rfl rfl (Nat.le_of_ble_eq_true rfl) dX1_init_98 (fun H locs hP hD hS => ?_)
  refine lv_aload_n hx hb dX1_init_101 rfl (lv_at hl 0 rfl) ?_
  refine lv_iconst (v := (0 : Int32)) hx hb dX1_init_102 (by decide) ?_
  refine va_put (D := D) (ci := 1) (v := .int (0)) (ty := .int) (C := RX1) (T := TX1) (N := 15) hx hb hts hL tyX1 tyX1_ok nmX1 hown hK hP hD hS 0 rfl rfl 14 (by decide) (hts (.fieldLink RX1 70 "MeshLamps$Lamp" "spoke" "I") (List.mem_of_getElem? (i := 28) rfl)) (fun _ h9 => h9) rfl (by decide +kernel) rfl rfl (Nat.le_of_ble_eq_true rfl) dX1_init_103 (fun H locs hP hD hS => ?_)
  exact W.vret hx hb hr (fun t ht hW => ⟨rfl, ⟨q1, q2, q3, q4, q5, q6, by rw [ht]; exact hP, hD⟩, hS.F ht⟩) hS.2.2 dX1_init_106 hlocks
