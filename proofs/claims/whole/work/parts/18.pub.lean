/-! the calls of the program (by program) -/
def m_X5_link (g : Mem) (a0 a1 a2 : Int32) : Option (Int32 × Mem) := (m_X5_isLamp a0).bind (fun r2 => (if r2 = 0 then some ((-1 : Int32), g) else (m_X5_isLamp a1).bind (fun r5 => (if r5 = 0 then some ((-1 : Int32), g) else (if a0 = a1 then some ((-2 : Int32), g) else (m_X5_isBetween a2 ((0 : Int32)) ((1 : Int32))).bind (fun r9 => (if r9 = 0 then some ((-2 : Int32), g) else if (a0 < 0 ∨ 10 ≤ a0.toNatClampNeg) then none else if (a1 < 0 ∨ 10 ≤ a1.toNatClampNeg) then none else (if a2 = ((1 : Int32)) then (m_X5_changed (g 13 (a0.toNatClampNeg) 4) a1 ((1 : Int32))).bind (fun r32 => ltm (upr g 13 (a0.toNatClampNeg) (upd (g 13 (a0.toNatClampNeg)) 4 r32)) (fun g33 => (if a2 = ((1 : Int32)) then (m_X5_changed (g33 13 (a1.toNatClampNeg) 4) a0 ((1 : Int32))).bind (fun r43 => ltm (upr g33 13 (a1.toNatClampNeg) (upd (g33 13 (a1.toNatClampNeg)) 4 r43)) (fun g44 => (m_J6_bitCount_0f7a4 (g44 13 (a0.toNatClampNeg) 4)).bind (fun r47 => some (r47, g44)))) else (m_X5_changed (g33 13 (a1.toNatClampNeg) 4) a0 ((0 : Int32))).bind (fun r37 => ltm (upr g33 13 (a1.toNatClampNeg) (upd (g33 13 (a1.toNatClampNeg)) 4 r37)) (fun g38 => (m_J6_bitCount_0f7a4 (g38 13 (a0.toNatClampNeg) 4)).bind (fun r41 => some (r41, g38))))))) else (m_X5_changed (g 13 (a0.toNatClampNeg) 4) a1 ((0 : Int32))).bind (fun r15 => ltm (upr g 13 (a0.toNatClampNeg) (upd (g 13 (a0.toNatClampNeg)) 4 r15)) (fun g16 => (if a2 = ((1 : Int32)) then (m_X5_changed (g16 13 (a1.toNatClampNeg) 4) a0 ((1 : Int32))).bind (fun r26 => ltm (upr g16 13 (a1.toNatClampNeg) (upd (g16 13 (a1.toNatClampNeg)) 4 r26)) (fun g27 => (m_J6_bitCount_0f7a4 (g27 13 (a0.toNatClampNeg) 4)).bind (fun r30 => some (r30, g27)))) else (m_X5_changed (g16 13 (a1.toNatClampNeg) 4) a0 ((0 : Int32))).bind (fun r20 => ltm (upr g16 13 (a1.toNatClampNeg) (upd (g16 13 (a1.toNatClampNeg)) 4 r20)) (fun g21 => (m_J6_bitCount_0f7a4 (g21 13 (a0.toNatClampNeg) 4)).bind (fun r24 => some (r24, g21)))))))))))))))
set_option maxHeartbeats 4000000 in
set_option maxRecDepth 100000 in
theorem c_X5_link (l : Launch) {κ : Cx} (hok : fok (cφ κ)) (hn : 1 ≤ cn κ)  {g : Mem} {a0 a1 a2 : Int32} {u : Int32 × Mem} (h : m_X5_link g a0 a1 a2 = some u) : fM l (cφ κ) yX5_link wsX5_link 2 42 [.ref (fa (cφ κ) 0 0), .int a0, .int a1, .int a2] g (some (.int u.1)) u.2 := by
  refine fM.of (cc := cX5_link) (maxL := 6) (ret := (some .int)) [(0, .ref (fa (cφ κ) 0 0)), (1, .int a0), (2, .int a1), (3, .int a2)] (by decide) rfl (Nat.le_of_ble_eq_true rfl) rfl (fun p e s m below meth c ls hx hb hr hml hown hts hlk hE hF hS hl => ?_)
  replace hown : s.vm.findClass RX5 = some m.cls := hown
  have hL1 : ∀ w ∈ u_ws RX1 TX1 15, w.before ([.ref (fa (cφ κ) 0 0), .int a0, .int a1, .int a2] : List Value).toArray s = true := fun w hw => hts w (by
    unfold wsX5_link
    simp only [List.mem_cons, List.mem_append]
    exact Or.inr (Or.inr hw))
  have hL4 : ∀ w ∈ u_ws RX4 TX4 11, w.before ([.ref (fa (cφ κ) 0 0), .int a0, .int a1, .int a2] : List Value).toArray s = true := fun w hw => hts w (by
    unfold wsX5_link
    simp only [List.mem_cons, List.mem_append]
    exact Or.inr (Or.inl (Or.inr hw)))
  have hL5 : ∀ w ∈ u_ws RX5 TX5 2, w.before ([.ref (fa (cφ κ) 0 0), .int a0, .int a1, .int a2] : List Value).toArray s = true := fun w hw => hts w (by
    unfold wsX5_link
    simp only [List.mem_cons, List.mem_append]
    exact Or.inr (Or.inl (Or.inl (Or.inr hw))))
  have kw1 := hts (.fieldLink RX5 10 "MeshLamps" "mesh" "LMeshLamps$Mesh;") (List.mem_of_getElem? (i := 1) rfl)
  have kw2 := hts (.fieldLink RX5 28 "MeshLamps$Mesh" "lamps" "[LMeshLamps$Lamp;") (List.mem_of_getElem? (i := 2) rfl)
  have kw3 := hts (.fieldLink RX5 32 "MeshLamps$Lamp" "links" "I") (List.mem_of_getElem? (i := 3) rfl)
  unfold m_X5_link at h
  refine lv_iload_n hx hb dX5_link_0 rfl (lv_at hl 1 rfl) ?_
  obtain ⟨r2, q1, h⟩ := bnd h
  try dsimp only at h
  refine pw_call (va_runS (As := [.int a0]) (rest := []) ⟨hx, hb, hml, hown, hts⟩ (c_X5_isLamp l q1) (va_cwS 1 hts gX5_link_X5_isLamp rfl rfl rfl qs_X5_isLamp ⟨Nat.le_of_ble_eq_true rfl, Nat.le_of_ble_eq_true rfl⟩) preEq rfl rfl hl.1 rfl (lv_room (Nat.le_of_ble_eq_true rfl)) dX5_link_1 ⟨Nat.le_refl _, Nat.le_refl _⟩) ?_
  refine lv_if_eq (tgt := 14) hx hb dX5_link_4 (by decide) (fun c3 => ?_) (fun c3 => ?_)
  · have h := ift h c3
    refine lv_iconst (v := (-1 : Int32)) hx hb dX5_link_14 (by decide) ?_
    exact fw_iret hx hb hr hlk h hF hS dX5_link_15
  · have h := iff0 h c3
    refine lv_iload_n hx hb dX5_link_7 rfl (lv_at hl 2 rfl) ?_
    obtain ⟨r5, q4, h⟩ := bnd h
    try dsimp only at h
    refine pw_call (va_runS (As := [.int a1]) (rest := []) ⟨hx, hb, hml, hown, hts⟩ (c_X5_isLamp l q4) (va_cwS 1 hts gX5_link_X5_isLamp rfl rfl rfl qs_X5_isLamp ⟨Nat.le_of_ble_eq_true rfl, Nat.le_of_ble_eq_true rfl⟩) preEq rfl rfl hl.1 rfl (lv_room (Nat.le_of_ble_eq_true rfl)) dX5_link_8 ⟨Nat.le_refl _, Nat.le_refl _⟩) ?_
    refine lv_if_ne (tgt := 16) hx hb dX5_link_11 (by decide) (fun c6 => ?_) (fun c6 => ?_)
    · have h := iff0 h c6
      refine lv_iload_n hx hb dX5_link_16 rfl (lv_at hl 1 rfl) ?_
      refine lv_iload_n hx hb dX5_link_17 rfl (lv_at hl 2 rfl) ?_
      refine lv_icmp_eq (tgt := 30) hx hb dX5_link_18 (by decide) (fun c7 => ?_) (fun c7 => ?_)
      · have h := ift h c7
        refine lv_bipush (v := (-2 : Int32)) hx hb dX5_link_30 (by decide) ?_
        exact fw_iret hx hb hr hlk h hF hS dX5_link_32
      · have h := iff0 h c7
        refine lv_iload_n hx hb dX5_link_21 rfl (lv_at hl 3 rfl) ?_
        refine lv_iconst (v := (0 : Int32)) hx hb dX5_link_22 (by decide) ?_
        refine lv_iconst (v := (1 : Int32)) hx hb dX5_link_23 (by decide) ?_
        obtain ⟨r9, q8, h⟩ := bnd h
        try dsimp only at h
        refine pw_call (va_runS (As := [.int a2, .int ((0 : Int32)), .int ((1 : Int32))]) (rest := []) ⟨hx, hb, hml, hown, hts⟩ (c_X5_isBetween l q8) (va_cwS 3 hts gX5_link_X5_isBetween rfl rfl rfl qs_X5_isBetween ⟨Nat.le_of_ble_eq_true rfl, Nat.le_of_ble_eq_true rfl⟩) preEq rfl rfl hl.1 rfl (lv_room (Nat.le_of_ble_eq_true rfl)) dX5_link_24 ⟨Nat.le_refl _, Nat.le_refl _⟩) ?_
        refine lv_if_ne (tgt := 33) hx hb dX5_link_27 (by decide) (fun c10 => ?_) (fun c10 => ?_)
        · have h := iff0 h c10
          refine lv_aload_n hx hb dX5_link_33 rfl (lv_at hl 0 rfl) ?_
          refine fw_get (C := RX5) (T := TX5) (N := 2) (ci := 5) (v := .ref (fa (cφ κ) 2 0)) hx hb hL5 hown hE hF (b0 hn) (cm0 κ _ _) rfl 0 (by decide) kw1 rfl dX5_link_34 ?_
          refine fw_get (C := RX4) (T := TX4) (N := 11) (ci := 4) (v := .ref (fa (cφ κ) 3 0)) hx hb hL4 hown hE hF (b2 hn) (cm2 κ _ _) rfl 0 (by decide) kw2 rfl dX5_link_37 ?_
          refine lv_iload_n hx hb dX5_link_40 rfl (lv_at hl 1 rfl) ?_
          obtain ⟨k11, h⟩ := ck h
          refine fw_aald (a := fa (cφ κ) 13 (a0.toNatClampNeg)) hx hb hE hF (b3 hn) (cm3 κ _ _) 1 rfl k11 rfl dX5_link_41 ?_
          refine lv_astore (lv' := [(4, .ref (fa (cφ κ) 13 (a0.toNatClampNeg))), (0, .ref (fa (cφ κ) 0 0)), (1, .int a0), (2, .int a1), (3, .int a2)]) hx hb dX5_link_42 hl (by decide) rfl (fun ls hl => ?_)
          refine lv_aload_n hx hb dX5_link_44 rfl (lv_at hl 1 rfl) ?_
          refine fw_get (C := RX5) (T := TX5) (N := 2) (ci := 5) (v := .ref (fa (cφ κ) 2 0)) hx hb hL5 hown hE hF (b0 hn) (cm0 κ _ _) rfl 0 (by decide) kw1 rfl dX5_link_45 ?_
          refine fw_get (C := RX4) (T := TX4) (N := 11) (ci := 4) (v := .ref (fa (cφ κ) 3 0)) hx hb hL4 hown hE hF (b2 hn) (cm2 κ _ _) rfl 0 (by decide) kw2 rfl dX5_link_48 ?_
          refine lv_iload_n hx hb dX5_link_51 rfl (lv_at hl 3 rfl) ?_
          obtain ⟨k12, h⟩ := ck h
          refine fw_aald (a := fa (cφ κ) 13 (a1.toNatClampNeg)) hx hb hE hF (b3 hn) (cm3 κ _ _) 1 rfl k12 rfl dX5_link_52 ?_
          refine lv_astore (lv' := [(5, .ref (fa (cφ κ) 13 (a1.toNatClampNeg))), (4, .ref (fa (cφ κ) 13 (a0.toNatClampNeg))), (0, .ref (fa (cφ κ) 0 0)), (1, .int a0), (2, .int a1), (3, .int a2)]) hx hb dX5_link_53 hl (by decide) rfl (fun ls hl => ?_)
          refine lv_aload hx hb dX5_link_55 (lv_at hl 1 rfl) ?_
          refine lv_aload hx hb dX5_link_57 (lv_at hl 1 rfl) ?_
          refine fw_get (C := RX1) (T := TX1) (N := 15) (ci := 1) (v := .int (g 13 (a0.toNatClampNeg) 4)) hx hb hL1 hown hE hF (b13 hn (vpl k11)) (cm13 κ _ _) rfl 4 (by decide) kw3 rfl dX5_link_59 ?_
          refine lv_iload_n hx hb dX5_link_62 rfl (lv_at hl 4 rfl) ?_
          refine lv_iload_n hx hb dX5_link_63 rfl (lv_at hl 5 rfl) ?_
          refine lv_iconst (v := (1 : Int32)) hx hb dX5_link_64 (by decide) ?_
          refine lv_icmp_ne (tgt := 72) hx hb dX5_link_65 (by decide) (fun c13 => ?_) (fun c13 => ?_)
          · have h := iff0 h c13
            refine lv_iconst (v := (0 : Int32)) hx hb dX5_link_72 (by decide) ?_
            obtain ⟨r15, q14, h⟩ := bnd h
            try dsimp only at h
            refine pw_call (va_runS (As := [.int (g 13 (a0.toNatClampNeg) 4), .int a1, .int ((0 : Int32))]) (rest := [.ref (fa (cφ κ) 13 (a0.toNatClampNeg))]) ⟨hx, hb, hml, hown, hts⟩ (c_X5_changed l q14) (va_cwS 3 hts gX5_link_X5_changed rfl rfl rfl qs_X5_changed ⟨Nat.le_of_ble_eq_true rfl, Nat.le_of_ble_eq_true rfl⟩) preEq rfl rfl hl.1 rfl (lv_room (Nat.le_of_ble_eq_true rfl)) dX5_link_73 ⟨Nat.le_refl _, Nat.le_refl _⟩) ?_
            refine fw_put (C := RX1) (T := TX1) (N := 15) (ci := 1) (ty := .int) (v := .int r15) (r := upd (g 13 (a0.toNatClampNeg)) 4 r15) hx hb hL1 tyX1 tyX1_ok nmX1 hown hE hok hF hS (b13 hn (vpl k11)) (cm13 κ _ _) rfl 4 (by decide) kw3 rfl (tyX1_ok 4 (by decide)) rfl rfl (Nat.le_of_ble_eq_true rfl) rfl dX5_link_76 (fun H locs hF hS => ?_)
            obtain ⟨g16, e17, h⟩ := ltm_e h
            rw [e17] at hF
            refine lv_aload hx hb dX5_link_79 (lv_at hl 0 rfl) ?_
            refine lv_aload hx hb dX5_link_81 (lv_at hl 0 rfl) ?_
            refine fw_get (C := RX1) (T := TX1) (N := 15) (ci := 1) (v := .int (g16 13 (a1.toNatClampNeg) 4)) hx hb hL1 hown hE hF (b13 hn (vpl k12)) (cm13 κ _ _) rfl 4 (by decide) kw3 rfl dX5_link_83 ?_
            refine lv_iload_n hx hb dX5_link_86 rfl (lv_at hl 3 rfl) ?_
            refine lv_iload_n hx hb dX5_link_87 rfl (lv_at hl 5 rfl) ?_
            refine lv_iconst (v := (1 : Int32)) hx hb dX5_link_88 (by decide) ?_
            refine lv_icmp_ne (tgt := 96) hx hb dX5_link_89 (by decide) (fun c18 => ?_) (fun c18 => ?_)
            · have h := iff0 h c18
              refine lv_iconst (v := (0 : Int32)) hx hb dX5_link_96 (by decide) ?_
              obtain ⟨r20, q19, h⟩ := bnd h
              try dsimp only at h
              refine pw_call (va_runS (As := [.int (g16 13 (a1.toNatClampNeg) 4), .int a0, .int ((0 : Int32))]) (rest := [.ref (fa (cφ κ) 13 (a1.toNatClampNeg))]) ⟨hx, hb, hml, hown, hts⟩ (c_X5_changed l q19) (va_cwS 3 hts gX5_link_X5_changed rfl rfl rfl qs_X5_changed ⟨Nat.le_of_ble_eq_true rfl, Nat.le_of_ble_eq_true rfl⟩) preEq rfl rfl hl.1 rfl (lv_room (Nat.le_of_ble_eq_true rfl)) dX5_link_97 ⟨Nat.le_refl _, Nat.le_refl _⟩) ?_
              refine fw_put (C := RX1) (T := TX1) (N := 15) (ci := 1) (ty := .int) (v := .int r20) (r := upd (g16 13 (a1.toNatClampNeg)) 4 r20) hx hb hL1 tyX1 tyX1_ok nmX1 hown hE hok hF hS (b13 hn (vpl k12)) (cm13 κ _ _) rfl 4 (by decide) kw3 rfl (tyX1_ok 4 (by decide)) rfl rfl (Nat.le_of_ble_eq_true rfl) rfl dX5_link_100 (fun H locs hF hS => ?_)
              obtain ⟨g21, e22, h⟩ := ltm_e h
              rw [e22] at hF
              refine lv_aload hx hb dX5_link_103 (lv_at hl 1 rfl) ?_
              refine fw_get (C := RX1) (T := TX1) (N := 15) (ci := 1) (v := .int (g21 13 (a0.toNatClampNeg) 4)) hx hb hL1 hown hE hF (b13 hn (vpl k11)) (cm13 κ _ _) rfl 4 (by decide) kw3 rfl dX5_link_105 ?_
              obtain ⟨r24, q23, h⟩ := bnd h
              try dsimp only at h
              refine pw_call (va_runS (As := [.int (g21 13 (a0.toNatClampNeg) 4)]) (rest := []) ⟨hx, hb, hml, hown, hts⟩ (c_J6_bitCount_0f7a4 l q23) (va_cwS 1 hts gX5_link_J6_bitCount_0f7a4 rfl rfl rfl qs_J6_bitCount_0f7a4 ⟨Nat.le_of_ble_eq_true rfl, Nat.le_of_ble_eq_true rfl⟩) preEq rfl rfl hl.1 rfl (lv_room (Nat.le_of_ble_eq_true rfl)) dX5_link_108 ⟨Nat.le_refl _, Nat.le_refl _⟩) ?_
              exact fw_iret hx hb hr hlk h hF hS dX5_link_111
            · have h := ift h c18
              refine lv_iconst (v := (1 : Int32)) hx hb dX5_link_92 (by decide) ?_
              refine lv_goto (tgt := 97) hx hb dX5_link_93 (by decide) ?_
              obtain ⟨r26, q25, h⟩ := bnd h
              try dsimp only at h
              refine pw_call (va_runS (As := [.int (g16 13 (a1.toNatClampNeg) 4), .int a0, .int ((1 : Int32))]) (rest := [.ref (fa (cφ κ) 13 (a1.toNatClampNeg))]) ⟨hx, hb, hml, hown, hts⟩ (c_X5_changed l q25) (va_cwS 3 hts gX5_link_X5_changed rfl rfl rfl qs_X5_changed ⟨Nat.le_of_ble_eq_true rfl, Nat.le_of_ble_eq_true rfl⟩) preEq rfl rfl hl.1 rfl (lv_room (Nat.le_of_ble_eq_true rfl)) dX5_link_97 ⟨Nat.le_refl _, Nat.le_refl _⟩) ?_
              refine fw_put (C := RX1) (T := TX1) (N := 15) (ci := 1) (ty := .int) (v := .int r26) (r := upd (g16 13 (a1.toNatClampNeg)) 4 r26) hx hb hL1 tyX1 tyX1_ok nmX1 hown hE hok hF hS (b13 hn (vpl k12)) (cm13 κ _ _) rfl 4 (by decide) kw3 rfl (tyX1_ok 4 (by decide)) rfl rfl (Nat.le_of_ble_eq_true rfl) rfl dX5_link_100 (fun H locs hF hS => ?_)
              obtain ⟨g27, e28, h⟩ := ltm_e h
              rw [e28] at hF
              refine lv_aload hx hb dX5_link_103 (lv_at hl 1 rfl) ?_
              refine fw_get (C := RX1) (T := TX1) (N := 15) (ci := 1) (v := .int (g27 13 (a0.toNatClampNeg) 4)) hx hb hL1 hown hE hF (b13 hn (vpl k11)) (cm13 κ _ _) rfl 4 (by decide) kw3 rfl dX5_link_105 ?_
              obtain ⟨r30, q29, h⟩ := bnd h
              try dsimp only at h
              refine pw_call (va_runS (As := [.int (g27 13 (a0.toNatClampNeg) 4)]) (rest := []) ⟨hx, hb, hml, hown, hts⟩ (c_J6_bitCount_0f7a4 l q29) (va_cwS 1 hts gX5_link_J6_bitCount_0f7a4 rfl rfl rfl qs_J6_bitCount_0f7a4 ⟨Nat.le_of_ble_eq_true rfl, Nat.le_of_ble_eq_true rfl⟩) preEq rfl rfl hl.1 rfl (lv_room (Nat.le_of_ble_eq_true rfl)) dX5_link_108 ⟨Nat.le_refl _, Nat.le_refl _⟩) ?_
              exact fw_iret hx hb hr hlk h hF hS dX5_link_111
          · have h := ift h c13
            refine lv_iconst (v := (1 : Int32)) hx hb dX5_link_68 (by decide) ?_
            refine lv_goto (tgt := 73) hx hb dX5_link_69 (by decide) ?_
            obtain ⟨r32, q31, h⟩ := bnd h
            try dsimp only at h
            refine pw_call (va_runS (As := [.int (g 13 (a0.toNatClampNeg) 4), .int a1, .int ((1 : Int32))]) (rest := [.ref (fa (cφ κ) 13 (a0.toNatClampNeg))]) ⟨hx, hb, hml, hown, hts⟩ (c_X5_changed l q31) (va_cwS 3 hts gX5_link_X5_changed rfl rfl rfl qs_X5_changed ⟨Nat.le_of_ble_eq_true rfl, Nat.le_of_ble_eq_true rfl⟩) preEq rfl rfl hl.1 rfl (lv_room (Nat.le_of_ble_eq_true rfl)) dX5_link_73 ⟨Nat.le_refl _, Nat.le_refl _⟩) ?_
            refine fw_put (C := RX1) (T := TX1) (N := 15) (ci := 1) (ty := .int) (v := .int r32) (r := upd (g 13 (a0.toNatClampNeg)) 4 r32) hx hb hL1 tyX1 tyX1_ok nmX1 hown hE hok hF hS (b13 hn (vpl k11)) (cm13 κ _ _) rfl 4 (by decide) kw3 rfl (tyX1_ok 4 (by decide)) rfl rfl (Nat.le_of_ble_eq_true rfl) rfl dX5_link_76 (fun H locs hF hS => ?_)
            obtain ⟨g33, e34, h⟩ := ltm_e h
            rw [e34] at hF
            refine lv_aload hx hb dX5_link_79 (lv_at hl 0 rfl) ?_
            refine lv_aload hx hb dX5_link_81 (lv_at hl 0 rfl) ?_
            refine fw_get (C := RX1) (T := TX1) (N := 15) (ci := 1) (v := .int (g33 13 (a1.toNatClampNeg) 4)) hx hb hL1 hown hE hF (b13 hn (vpl k12)) (cm13 κ _ _) rfl 4 (by decide) kw3 rfl dX5_link_83 ?_
            refine lv_iload_n hx hb dX5_link_86 rfl (lv_at hl 3 rfl) ?_
            refine lv_iload_n hx hb dX5_link_87 rfl (lv_at hl 5 rfl) ?_
            refine lv_iconst (v := (1 : Int32)) hx hb dX5_link_88 (by decide) ?_
            refine lv_icmp_ne (tgt := 96) hx hb dX5_link_89 (by decide) (fun c35 => ?_) (fun c35 => ?_)
            · have h := iff0 h c35
              refine lv_iconst (v := (0 : Int32)) hx hb dX5_link_96 (by decide) ?_
              obtain ⟨r37, q36, h⟩ := bnd h
              try dsimp only at h
              refine pw_call (va_runS (As := [.int (g33 13 (a1.toNatClampNeg) 4), .int a0, .int ((0 : Int32))]) (rest := [.ref (fa (cφ κ) 13 (a1.toNatClampNeg))]) ⟨hx, hb, hml, hown, hts⟩ (c_X5_changed l q36) (va_cwS 3 hts gX5_link_X5_changed rfl rfl rfl qs_X5_changed ⟨Nat.le_of_ble_eq_true rfl, Nat.le_of_ble_eq_true rfl⟩) preEq rfl rfl hl.1 rfl (lv_room (Nat.le_of_ble_eq_true rfl)) dX5_link_97 ⟨Nat.le_refl _, Nat.le_refl _⟩) ?_
              refine fw_put (C := RX1) (T := TX1) (N := 15) (ci := 1) (ty := .int) (v := .int r37) (r := upd (g33 13 (a1.toNatClampNeg)) 4 r37) hx hb hL1 tyX1 tyX1_ok nmX1 hown hE hok hF hS (b13 hn (vpl k12)) (cm13 κ _ _) rfl 4 (by decide) kw3 rfl (tyX1_ok 4 (by decide)) rfl rfl (Nat.le_of_ble_eq_true rfl) rfl dX5_link_100 (fun H locs hF hS => ?_)
              obtain ⟨g38, e39, h⟩ := ltm_e h
              rw [e39] at hF
              refine lv_aload hx hb dX5_link_103 (lv_at hl 1 rfl) ?_
              refine fw_get (C := RX1) (T := TX1) (N := 15) (ci := 1) (v := .int (g38 13 (a0.toNatClampNeg) 4)) hx hb hL1 hown hE hF (b13 hn (vpl k11)) (cm13 κ _ _) rfl 4 (by decide) kw3 rfl dX5_link_105 ?_
              obtain ⟨r41, q40, h⟩ := bnd h
              try dsimp only at h
              refine pw_call (va_runS (As := [.int (g38 13 (a0.toNatClampNeg) 4)]) (rest := []) ⟨hx, hb, hml, hown, hts⟩ (c_J6_bitCount_0f7a4 l q40) (va_cwS 1 hts gX5_link_J6_bitCount_0f7a4 rfl rfl rfl qs_J6_bitCount_0f7a4 ⟨Nat.le_of_ble_eq_true rfl, Nat.le_of_ble_eq_true rfl⟩) preEq rfl rfl hl.1 rfl (lv_room (Nat.le_of_ble_eq_true rfl)) dX5_link_108 ⟨Nat.le_refl _, Nat.le_refl _⟩) ?_
              exact fw_iret hx hb hr hlk h hF hS dX5_link_111
            · have h := ift h c35
              refine lv_iconst (v := (1 : Int32)) hx hb dX5_link_92 (by decide) ?_
              refine lv_goto (tgt := 97) hx hb dX5_link_93 (by decide) ?_
              obtain ⟨r43, q42, h⟩ := bnd h
              try dsimp only at h
              refine pw_call (va_runS (As := [.int (g33 13 (a1.toNatClampNeg) 4), .int a0, .int ((1 : Int32))]) (rest := [.ref (fa (cφ κ) 13 (a1.toNatClampNeg))]) ⟨hx, hb, hml, hown, hts⟩ (c_X5_changed l q42) (va_cwS 3 hts gX5_link_X5_changed rfl rfl rfl qs_X5_changed ⟨Nat.le_of_ble_eq_true rfl, Nat.le_of_ble_eq_true rfl⟩) preEq rfl rfl hl.1 rfl (lv_room (Nat.le_of_ble_eq_true rfl)) dX5_link_97 ⟨Nat.le_refl _, Nat.le_refl _⟩) ?_
              refine fw_put (C := RX1) (T := TX1) (N := 15) (ci := 1) (ty := .int) (v := .int r43) (r := upd (g33 13 (a1.toNatClampNeg)) 4 r43) hx hb hL1 tyX1 tyX1_ok nmX1 hown hE hok hF hS (b13 hn (vpl k12)) (cm13 κ _ _) rfl 4 (by decide) kw3 rfl (tyX1_ok 4 (by decide)) rfl rfl (Nat.le_of_ble_eq_true rfl) rfl dX5_link_100 (fun H locs hF hS => ?_)
              obtain ⟨g44, e45, h⟩ := ltm_e h
              rw [e45] at hF
              refine lv_aload hx hb dX5_link_103 (lv_at hl 1 rfl) ?_
              refine fw_get (C := RX1) (T := TX1) (N := 15) (ci := 1) (v := .int (g44 13 (a0.toNatClampNeg) 4)) hx hb hL1 hown hE hF (b13 hn (vpl k11)) (cm13 κ _ _) rfl 4 (by decide) kw3 rfl dX5_link_105 ?_
              obtain ⟨r47, q46, h⟩ := bnd h
              try dsimp only at h
              refine pw_call (va_runS (As := [.int (g44 13 (a0.toNatClampNeg) 4)]) (rest := []) ⟨hx, hb, hml, hown, hts⟩ (c_J6_bitCount_0f7a4 l q46) (va_cwS 1 hts gX5_link_J6_bitCount_0f7a4 rfl rfl rfl qs_J6_bitCount_0f7a4 ⟨Nat.le_of_ble_eq_true rfl, Nat.le_of_ble_eq_true rfl⟩) preEq rfl rfl hl.1 rfl (lv_room (Nat.le_of_ble_eq_true rfl)) dX5_link_108 ⟨Nat.le_refl _, Nat.le_refl _⟩) ?_
              exact fw_iret hx hb hr hlk h hF hS dX5_link_111
        · have h := ift h c10
          refine lv_bipush (v := (-2 : Int32)) hx hb dX5_link_30 (by decide) ?_
          exact fw_iret hx hb hr hlk h hF hS dX5_link_32
    · have h := ift h c6
      refine lv_iconst (v := (-1 : Int32)) hx hb dX5_link_14 (by decide) ?_
      exact fw_iret hx hb hr hlk h hF hS dX5_link_15
def m_X5_friend (F : Nat) (g : Mem) (a0 a1 : Int32) : Option (Int32 × Mem) := (m_X5_isLamp a0).bind (fun r2 => (if r2 = 0 then some ((-1 : Int32), g) else (if a1 = ((-6 : Int32)) then (if a1 = a0 then some ((-2 : Int32), g) else if (a0 < 0 ∨ 10 ≤ a0.toNatClampNeg) then none else (if (g 13 (a0.toNatClampNeg) 6) = 0 then ltm (upr g 13 (a0.toNatClampNeg) (upd (g 13 (a0.toNatClampNeg)) 7 a1)) (fun g8 => (m_X3_dropOldestk F (a0.toNatClampNeg) g8 ((0 : Int32))).bind (fun (r11, g12) => some (g 13 (a0.toNatClampNeg) 7, g12))) else some ((-3 : Int32), g))) else (m_X5_isLamp a1).bind (fun r15 => (if r15 = 0 then some ((-2 : Int32), g) else (if a1 = a0 then some ((-2 : Int32), g) else if (a0 < 0 ∨ 10 ≤ a0.toNatClampNeg) then none else (if (g 13 (a0.toNatClampNeg) 6) = 0 then ltm (upr g 13 (a0.toNatClampNeg) (upd (g 13 (a0.toNatClampNeg)) 7 a1)) (fun g20 => (m_X3_dropOldestk F (a0.toNatClampNeg) g20 ((0 : Int32))).bind (fun (r23, g24) => some (g 13 (a0.toNatClampNeg) 7, g24))) else some ((-3 : Int32), g))))))))
set_option maxHeartbeats 4000000 in
set_option maxRecDepth 100000 in
theorem c_X5_friend (l : Launch) {κ : Cx} (hok : fok (cφ κ)) (hn : 1 ≤ cn κ)  {F : Nat} {g : Mem} {a0 a1 : Int32} {u : Int32 × Mem} (h : m_X5_friend F g a0 a1 = some u) : fM l (cφ κ) yX5_friend wsX5_friend 2 42 [.ref (fa (cφ κ) 0 0), .int a0, .int a1] g (some (.int u.1)) u.2 := by
  refine fM.of (cc := cX5_friend) (maxL := 5) (ret := (some .int)) [(0, .ref (fa (cφ κ) 0 0)), (1, .int a0), (2, .int a1)] (by decide) rfl (Nat.le_of_ble_eq_true rfl) rfl (fun p e s m below meth c ls hx hb hr hml hown hts hlk hE hF hS hl => ?_)
  replace hown : s.vm.findClass RX5 = some m.cls := hown
  have hL1 : ∀ w ∈ u_ws RX1 TX1 15, w.before ([.ref (fa (cφ κ) 0 0), .int a0, .int a1] : List Value).toArray s = true := fun w hw => hts w (by
    unfold wsX5_friend
    simp only [List.mem_cons, List.mem_append]
    exact Or.inr (Or.inl (Or.inr hw)))
  have hL4 : ∀ w ∈ u_ws RX4 TX4 11, w.before ([.ref (fa (cφ κ) 0 0), .int a0, .int a1] : List Value).toArray s = true := fun w hw => hts w (by
    unfold wsX5_friend
    simp only [List.mem_cons, List.mem_append]
    exact Or.inr (Or.inl (Or.inl (Or.inr hw))))
  have hL5 : ∀ w ∈ u_ws RX5 TX5 2, w.before ([.ref (fa (cφ κ) 0 0), .int a0, .int a1] : List Value).toArray s = true := fun w hw => hts w (by
    unfold wsX5_friend
    simp only [List.mem_cons, List.mem_append]
    exact Or.inr (Or.inl (Or.inl (Or.inl (Or.inr hw)))))
  have kw1 := hts (.fieldLink RX5 10 "MeshLamps" "mesh" "LMeshLamps$Mesh;") (List.mem_of_getElem? (i := 1) rfl)
  have kw2 := hts (.fieldLink RX5 28 "MeshLamps$Mesh" "lamps" "[LMeshLamps$Lamp;") (List.mem_of_getElem? (i := 2) rfl)
  have kw3 := hts (.fieldLink RX5 68 "MeshLamps$Lamp" "sleeps" "Z") (List.mem_of_getElem? (i := 3) rfl)
  have kw4 := hts (.fieldLink RX5 72 "MeshLamps$Lamp" "friend" "I") (List.mem_of_getElem? (i := 4) rfl)
  have kw5 := hts (.fieldLink RX5 75 "MeshLamps$Lamp" "kept" "LMeshLamps$Line;") (List.mem_of_getElem? (i := 5) rfl)
  unfold m_X5_friend at h
  refine lv_iload_n hx hb dX5_friend_0 rfl (lv_at hl 1 rfl) ?_
  obtain ⟨r2, q1, h⟩ := bnd h
  try dsimp only at h
  refine pw_call (va_runS (As := [.int a0]) (rest := []) ⟨hx, hb, hml, hown, hts⟩ (c_X5_isLamp l q1) (va_cwS 1 hts gX5_friend_X5_isLamp rfl rfl rfl qs_X5_isLamp ⟨Nat.le_of_ble_eq_true rfl, Nat.le_of_ble_eq_true rfl⟩) preEq rfl rfl hl.1 rfl (lv_room (Nat.le_of_ble_eq_true rfl)) dX5_friend_1 ⟨Nat.le_refl _, Nat.le_refl _⟩) ?_
  refine lv_if_ne (tgt := 9) hx hb dX5_friend_4 (by decide) (fun c3 => ?_) (fun c3 => ?_)
  · have h := iff0 h c3
    refine lv_iload_n hx hb dX5_friend_9 rfl (lv_at hl 2 rfl) ?_
    refine lv_bipush (v := (-6 : Int32)) hx hb dX5_friend_10 (by decide) ?_
    refine lv_icmp_eq (tgt := 22) hx hb dX5_friend_12 (by decide) (fun c4 => ?_) (fun c4 => ?_)
    · have h := ift h c4
      refine lv_iload_n hx hb dX5_friend_22 rfl (lv_at hl 2 rfl) ?_
      refine lv_iload_n hx hb dX5_friend_23 rfl (lv_at hl 1 rfl) ?_
      refine lv_icmp_ne (tgt := 30) hx hb dX5_friend_24 (by decide) (fun c5 => ?_) (fun c5 => ?_)
      · have h := iff0 h c5
        refine lv_aload_n hx hb dX5_friend_30 rfl (lv_at hl 0 rfl) ?_
        refine fw_get (C := RX5) (T := TX5) (N := 2) (ci := 5) (v := .ref (fa (cφ κ) 2 0)) hx hb hL5 hown hE hF (b0 hn) (cm0 κ _ _) rfl 0 (by decide) kw1 rfl dX5_friend_31 ?_
        refine fw_get (C := RX4) (T := TX4) (N := 11) (ci := 4) (v := .ref (fa (cφ κ) 3 0)) hx hb hL4 hown hE hF (b2 hn) (cm2 κ _ _) rfl 0 (by decide) kw2 rfl dX5_friend_34 ?_
        refine lv_iload_n hx hb dX5_friend_37 rfl (lv_at hl 1 rfl) ?_
        obtain ⟨k6, h⟩ := ck h
        refine fw_aald (a := fa (cφ κ) 13 (a0.toNatClampNeg)) hx hb hE hF (b3 hn) (cm3 κ _ _) 1 rfl k6 rfl dX5_friend_38 ?_
        refine lv_astore_n (lv' := [(3, .ref (fa (cφ κ) 13 (a0.toNatClampNeg))), (0, .ref (fa (cφ κ) 0 0)), (1, .int a0), (2, .int a1)]) hx hb dX5_friend_39 rfl hl (by decide) rfl (fun ls hl => ?_)
        refine lv_aload_n hx hb dX5_friend_40 rfl (lv_at hl 0 rfl) ?_
        refine fw_get (C := RX1) (T := TX1) (N := 15) (ci := 1) (v := .int (g 13 (a0.toNatClampNeg) 6)) hx hb hL1 hown hE hF (b13 hn (vpl k6)) (cm13 κ _ _) rfl 6 (by decide) kw3 rfl dX5_friend_41 ?_
        refine lv_if_eq (tgt := 50) hx hb dX5_friend_44 (by decide) (fun c7 => ?_) (fun c7 => ?_)
        · have h := ift h c7
          refine lv_aload_n hx hb dX5_friend_50 rfl (lv_at hl 0 rfl) ?_
          refine fw_get (C := RX1) (T := TX1) (N := 15) (ci := 1) (v := .int (g 13 (a0.toNatClampNeg) 7)) hx hb hL1 hown hE hF (b13 hn (vpl k6)) (cm13 κ _ _) rfl 7 (by decide) kw4 rfl dX5_friend_51 ?_
          refine lv_istore (lv' := [(4, .int (g 13 (a0.toNatClampNeg) 7)), (3, .ref (fa (cφ κ) 13 (a0.toNatClampNeg))), (0, .ref (fa (cφ κ) 0 0)), (1, .int a0), (2, .int a1)]) hx hb dX5_friend_54 hl (by decide) rfl (fun ls hl => ?_)
          refine lv_aload_n hx hb dX5_friend_56 rfl (lv_at hl 1 rfl) ?_
          refine lv_iload_n hx hb dX5_friend_57 rfl (lv_at hl 4 rfl) ?_
          refine fw_put (C := RX1) (T := TX1) (N := 15) (ci := 1) (ty := .int) (v := .int a1) (r := upd (g 13 (a0.toNatClampNeg)) 7 a1) hx hb hL1 tyX1 tyX1_ok nmX1 hown hE hok hF hS (b13 hn (vpl k6)) (cm13 κ _ _) rfl 7 (by decide) kw4 rfl (tyX1_ok 7 (by decide)) rfl rfl (Nat.le_of_ble_eq_true rfl) rfl dX5_friend_58 (fun H locs hF hS => ?_)
          obtain ⟨g8, e9, h⟩ := ltm_e h
          rw [e9] at hF
          refine lv_aload_n hx hb dX5_friend_61 rfl (lv_at hl 1 rfl) ?_
          refine fw_get (C := RX1) (T := TX1) (N := 15) (ci := 1) (v := .ref (fa (cφ κ) 18 (a0.toNatClampNeg))) hx hb hL1 hown hE hF (b13 hn (vpl k6)) (cm13 κ _ _) rfl 3 (by decide) kw5 rfl dX5_friend_62 ?_
          refine lv_iconst (v := (0 : Int32)) hx hb dX5_friend_65 (by decide) ?_
          obtain ⟨⟨r11, g12⟩, q10, h⟩ := bnd h
          try dsimp only at h
          refine fw_callv (va_runV (As := [.int ((0 : Int32))]) (rest := []) ⟨hx, hb, hml, hown, hts⟩ (c_X3_dropOldestk l hok hn (vpl k6) q10) (cwV 1 hts gX5_friend_X3_dropOldest rfl rfl rfl qv_X3_dropOldest ⟨Nat.le_of_ble_eq_true rfl, Nat.le_of_ble_eq_true rfl⟩) (fw_preV hok hE hF (b18 hn (vpl k6)) (cm18 κ _ _) rfl) rfl rfl hl.1 rfl (lv_room (Nat.le_of_ble_eq_true rfl)) dX5_friend_66 ⟨Nat.le_refl _, Nat.le_refl _⟩) hS (fun H locs hF hS => ?_)
          refine lv_iload hx hb dX5_friend_69 (lv_at hl 0 rfl) ?_
          exact fw_iret hx hb hr hlk h hF hS dX5_friend_71
        · have h := iff0 h c7
          refine lv_bipush (v := (-3 : Int32)) hx hb dX5_friend_47 (by decide) ?_
          exact fw_iret hx hb hr hlk h hF hS dX5_friend_49
      · have h := ift h c5
        refine lv_bipush (v := (-2 : Int32)) hx hb dX5_friend_27 (by decide) ?_
        exact fw_iret hx hb hr hlk h hF hS dX5_friend_29
    · have h := iff0 h c4
      refine lv_iload_n hx hb dX5_friend_15 rfl (lv_at hl 2 rfl) ?_
      obtain ⟨r15, q14, h⟩ := bnd h
      try dsimp only at h
      refine pw_call (va_runS (As := [.int a1]) (rest := []) ⟨hx, hb, hml, hown, hts⟩ (c_X5_isLamp l q14) (va_cwS 1 hts gX5_friend_X5_isLamp rfl rfl rfl qs_X5_isLamp ⟨Nat.le_of_ble_eq_true rfl, Nat.le_of_ble_eq_true rfl⟩) preEq rfl rfl hl.1 rfl (lv_room (Nat.le_of_ble_eq_true rfl)) dX5_friend_16 ⟨Nat.le_refl _, Nat.le_refl _⟩) ?_
      refine lv_if_eq (tgt := 27) hx hb dX5_friend_19 (by decide) (fun c16 => ?_) (fun c16 => ?_)
      · have h := ift h c16
        refine lv_bipush (v := (-2 : Int32)) hx hb dX5_friend_27 (by decide) ?_
        exact fw_iret hx hb hr hlk h hF hS dX5_friend_29
      · have h := iff0 h c16
        refine lv_iload_n hx hb dX5_friend_22 rfl (lv_at hl 2 rfl) ?_
        refine lv_iload_n hx hb dX5_friend_23 rfl (lv_at hl 1 rfl) ?_
        refine lv_icmp_ne (tgt := 30) hx hb dX5_friend_24 (by decide) (fun c17 => ?_) (fun c17 => ?_)
        · have h := iff0 h c17
          refine lv_aload_n hx hb dX5_friend_30 rfl (lv_at hl 0 rfl) ?_
          refine fw_get (C := RX5) (T := TX5) (N := 2) (ci := 5) (v := .ref (fa (cφ κ) 2 0)) hx hb hL5 hown hE hF (b0 hn) (cm0 κ _ _) rfl 0 (by decide) kw1 rfl dX5_friend_31 ?_
          refine fw_get (C := RX4) (T := TX4) (N := 11) (ci := 4) (v := .ref (fa (cφ κ) 3 0)) hx hb hL4 hown hE hF (b2 hn) (cm2 κ _ _) rfl 0 (by decide) kw2 rfl dX5_friend_34 ?_
          refine lv_iload_n hx hb dX5_friend_37 rfl (lv_at hl 1 rfl) ?_
          obtain ⟨k18, h⟩ := ck h
          refine fw_aald (a := fa (cφ κ) 13 (a0.toNatClampNeg)) hx hb hE hF (b3 hn) (cm3 κ _ _) 1 rfl k18 rfl dX5_friend_38 ?_
          refine lv_astore_n (lv' := [(3, .ref (fa (cφ κ) 13 (a0.toNatClampNeg))), (0, .ref (fa (cφ κ) 0 0)), (1, .int a0), (2, .int a1)]) hx hb dX5_friend_39 rfl hl (by decide) rfl (fun ls hl => ?_)
          refine lv_aload_n hx hb dX5_friend_40 rfl (lv_at hl 0 rfl) ?_
          refine fw_get (C := RX1) (T := TX1) (N := 15) (ci := 1) (v := .int (g 13 (a0.toNatClampNeg) 6)) hx hb hL1 hown hE hF (b13 hn (vpl k18)) (cm13 κ _ _) rfl 6 (by decide) kw3 rfl dX5_friend_41 ?_
          refine lv_if_eq (tgt := 50) hx hb dX5_friend_44 (by decide) (fun c19 => ?_) (fun c19 => ?_)
          · have h := ift h c19
            refine lv_aload_n hx hb dX5_friend_50 rfl (lv_at hl 0 rfl) ?_
            refine fw_get (C := RX1) (T := TX1) (N := 15) (ci := 1) (v := .int (g 13 (a0.toNatClampNeg) 7)) hx hb hL1 hown hE hF (b13 hn (vpl k18)) (cm13 κ _ _) rfl 7 (by decide) kw4 rfl dX5_friend_51 ?_
            refine lv_istore (lv' := [(4, .int (g 13 (a0.toNatClampNeg) 7)), (3, .ref (fa (cφ κ) 13 (a0.toNatClampNeg))), (0, .ref (fa (cφ κ) 0 0)), (1, .int a0), (2, .int a1)]) hx hb dX5_friend_54 hl (by decide) rfl (fun ls hl => ?_)
            refine lv_aload_n hx hb dX5_friend_56 rfl (lv_at hl 1 rfl) ?_
            refine lv_iload_n hx hb dX5_friend_57 rfl (lv_at hl 4 rfl) ?_
            refine fw_put (C := RX1) (T := TX1) (N := 15) (ci := 1) (ty := .int) (v := .int a1) (r := upd (g 13 (a0.toNatClampNeg)) 7 a1) hx hb hL1 tyX1 tyX1_ok nmX1 hown hE hok hF hS (b13 hn (vpl k18)) (cm13 κ _ _) rfl 7 (by decide) kw4 rfl (tyX1_ok 7 (by decide)) rfl rfl (Nat.le_of_ble_eq_true rfl) rfl dX5_friend_58 (fun H locs hF hS => ?_)
            obtain ⟨g20, e21, h⟩ := ltm_e h
            rw [e21] at hF
            refine lv_aload_n hx hb dX5_friend_61 rfl (lv_at hl 1 rfl) ?_
            refine fw_get (C := RX1) (T := TX1) (N := 15) (ci := 1) (v := .ref (fa (cφ κ) 18 (a0.toNatClampNeg))) hx hb hL1 hown hE hF (b13 hn (vpl k18)) (cm13 κ _ _) rfl 3 (by decide) kw5 rfl dX5_friend_62 ?_
            refine lv_iconst (v := (0 : Int32)) hx hb dX5_friend_65 (by decide) ?_
            obtain ⟨⟨r23, g24⟩, q22, h⟩ := bnd h
            try dsimp only at h
            refine fw_callv (va_runV (As := [.int ((0 : Int32))]) (rest := []) ⟨hx, hb, hml, hown, hts⟩ (c_X3_dropOldestk l hok hn (vpl k18) q22) (cwV 1 hts gX5_friend_X3_dropOldest rfl rfl rfl qv_X3_dropOldest ⟨Nat.le_of_ble_eq_true rfl, Nat.le_of_ble_eq_true rfl⟩) (fw_preV hok hE hF (b18 hn (vpl k18)) (cm18 κ _ _) rfl) rfl rfl hl.1 rfl (lv_room (Nat.le_of_ble_eq_true rfl)) dX5_friend_66 ⟨Nat.le_refl _, Nat.le_refl _⟩) hS (fun H locs hF hS => ?_)
            refine lv_iload hx hb dX5_friend_69 (lv_at hl 0 rfl) ?_
            exact fw_iret hx hb hr hlk h hF hS dX5_friend_71
          · have h := iff0 h c19
            refine lv_bipush (v := (-3 : Int32)) hx hb dX5_friend_47 (by decide) ?_
            exact fw_iret hx hb hr hlk h hF hS dX5_friend_49
        · have h := ift h c17
          refine lv_bipush (v := (-2 : Int32)) hx hb dX5_friend_27 (by decide) ?_
          exact fw_iret hx hb hr hlk h hF hS dX5_friend_29
  · have h := ift h c3
    refine lv_iconst (v := (-1 : Int32)) hx hb dX5_friend_7 (by decide) ?_
    exact fw_iret hx hb hr hlk h hF hS dX5_friend_8
def m_X5_sleep (F : Nat) (g : Mem) (a0 a1 : Int32) : Option (Int32 × Mem) := (m_X5_isLamp a0).bind (fun r2 => (if r2 = 0 then some ((-1 : Int32), g) else (m_X5_isBetween a1 ((0 : Int32)) ((1 : Int32))).bind (fun r5 => (if r5 = 0 then some ((-2 : Int32), g) else if (a0 < 0 ∨ 10 ≤ a0.toNatClampNeg) then none else (if a1 = ((1 : Int32)) then (if (g 13 (a0.toNatClampNeg) 7) = ((-6 : Int32)) then some ((-5 : Int32), g) else (if a1 = 0 then (if (g 13 (a0.toNatClampNeg) 6) = 0 then (if a1 = ((1 : Int32)) then ltm (upr g 13 (a0.toNatClampNeg) (upd (g 13 (a0.toNatClampNeg)) 6 ((1 : Int32)))) (fun g36 => some ((0 : Int32), g36)) else ltm (upr g 13 (a0.toNatClampNeg) (upd (g 13 (a0.toNatClampNeg)) 6 ((0 : Int32)))) (fun g34 => some ((0 : Int32), g34))) else (m_X4_wake F g a0).bind (fun (r39, g40) => some (r39, g40))) else (if a1 = ((1 : Int32)) then ltm (upr g 13 (a0.toNatClampNeg) (upd (g 13 (a0.toNatClampNeg)) 6 ((1 : Int32)))) (fun g30 => some ((0 : Int32), g30)) else ltm (upr g 13 (a0.toNatClampNeg) (upd (g 13 (a0.toNatClampNeg)) 6 ((0 : Int32)))) (fun g28 => some ((0 : Int32), g28))))) else (if a1 = 0 then (if (g 13 (a0.toNatClampNeg) 6) = 0 then (if a1 = ((1 : Int32)) then ltm (upr g 13 (a0.toNatClampNeg) (upd (g 13 (a0.toNatClampNeg)) 6 ((1 : Int32)))) (fun g19 => some ((0 : Int32), g19)) else ltm (upr g 13 (a0.toNatClampNeg) (upd (g 13 (a0.toNatClampNeg)) 6 ((0 : Int32)))) (fun g17 => some ((0 : Int32), g17))) else (m_X4_wake F g a0).bind (fun (r22, g23) => some (r22, g23))) else (if a1 = ((1 : Int32)) then ltm (upr g 13 (a0.toNatClampNeg) (upd (g 13 (a0.toNatClampNeg)) 6 ((1 : Int32)))) (fun g13 => some ((0 : Int32), g13)) else ltm (upr g 13 (a0.toNatClampNeg) (upd (g 13 (a0.toNatClampNeg)) 6 ((0 : Int32)))) (fun g11 => some ((0 : Int32), g11)))))))))
set_option maxHeartbeats 4000000 in
set_option maxRecDepth 100000 in
theorem c_X5_sleep (l : Launch) {κ : Cx} (hok : fok (cφ κ)) (hn : 1 ≤ cn κ)  {F : Nat} {g : Mem} {a0 a1 : Int32} {u : Int32 × Mem} (h : m_X5_sleep F g a0 a1 = some u) : fM l (cφ κ) yX5_sleep wsX5_sleep 3 69 [.ref (fa (cφ κ) 0 0), .int a0, .int a1] g (some (.int u.1)) u.2 := by
  refine fM.of (cc := cX5_sleep) (maxL := 4) (ret := (some .int)) [(0, .ref (fa (cφ κ) 0 0)), (1, .int a0), (2, .int a1)] (by decide) rfl (Nat.le_of_ble_eq_true rfl) rfl (fun p e s m below meth c ls hx hb hr hml hown hts hlk hE hF hS hl => ?_)
  replace hown : s.vm.findClass RX5 = some m.cls := hown
  have hL1 : ∀ w ∈ u_ws RX1 TX1 15, w.before ([.ref (fa (cφ κ) 0 0), .int a0, .int a1] : List Value).toArray s = true := fun w hw => hts w (by
    unfold wsX5_sleep
    simp only [List.mem_cons, List.mem_append]
    exact Or.inr (Or.inl (Or.inl (Or.inr hw))))
  have hL4 : ∀ w ∈ u_ws RX4 TX4 11, w.before ([.ref (fa (cφ κ) 0 0), .int a0, .int a1] : List Value).toArray s = true := fun w hw => hts w (by
    unfold wsX5_sleep
    simp only [List.mem_cons, List.mem_append]
    exact Or.inr (Or.inl (Or.inl (Or.inl (Or.inr hw)))))
  have hL5 : ∀ w ∈ u_ws RX5 TX5 2, w.before ([.ref (fa (cφ κ) 0 0), .int a0, .int a1] : List Value).toArray s = true := fun w hw => hts w (by
    unfold wsX5_sleep
    simp only [List.mem_cons, List.mem_append]
    exact Or.inr (Or.inl (Or.inl (Or.inl (Or.inl (Or.inr hw))))))
  have kw1 := hts (.fieldLink RX5 10 "MeshLamps" "mesh" "LMeshLamps$Mesh;") (List.mem_of_getElem? (i := 1) rfl)
  have kw2 := hts (.fieldLink RX5 28 "MeshLamps$Mesh" "lamps" "[LMeshLamps$Lamp;") (List.mem_of_getElem? (i := 2) rfl)
  have kw4 := hts (.fieldLink RX5 68 "MeshLamps$Lamp" "sleeps" "Z") (List.mem_of_getElem? (i := 4) rfl)
  have kw3 := hts (.fieldLink RX5 72 "MeshLamps$Lamp" "friend" "I") (List.mem_of_getElem? (i := 3) rfl)
  unfold m_X5_sleep at h
  refine lv_iload_n hx hb dX5_sleep_0 rfl (lv_at hl 1 rfl) ?_
  obtain ⟨r2, q1, h⟩ := bnd h
  try dsimp only at h
  refine pw_call (va_runS (As := [.int a0]) (rest := []) ⟨hx, hb, hml, hown, hts⟩ (c_X5_isLamp l q1) (va_cwS 1 hts gX5_sleep_X5_isLamp rfl rfl rfl qs_X5_isLamp ⟨Nat.le_of_ble_eq_true rfl, Nat.le_of_ble_eq_true rfl⟩) preEq rfl rfl hl.1 rfl (lv_room (Nat.le_of_ble_eq_true rfl)) dX5_sleep_1 ⟨Nat.le_refl _, Nat.le_refl _⟩) ?_
  refine lv_if_ne (tgt := 9) hx hb dX5_sleep_4 (by decide) (fun c3 => ?_) (fun c3 => ?_)
  · have h := iff0 h c3
    refine lv_iload_n hx hb dX5_sleep_9 rfl (lv_at hl 2 rfl) ?_
    refine lv_iconst (v := (0 : Int32)) hx hb dX5_sleep_10 (by decide) ?_
    refine lv_iconst (v := (1 : Int32)) hx hb dX5_sleep_11 (by decide) ?_
    obtain ⟨r5, q4, h⟩ := bnd h
    try dsimp only at h
    refine pw_call (va_runS (As := [.int a1, .int ((0 : Int32)), .int ((1 : Int32))]) (rest := []) ⟨hx, hb, hml, hown, hts⟩ (c_X5_isBetween l q4) (va_cwS 3 hts gX5_sleep_X5_isBetween rfl rfl rfl qs_X5_isBetween ⟨Nat.le_of_ble_eq_true rfl, Nat.le_of_ble_eq_true rfl⟩) preEq rfl rfl hl.1 rfl (lv_room (Nat.le_of_ble_eq_true rfl)) dX5_sleep_12 ⟨Nat.le_refl _, Nat.le_refl _⟩) ?_
    refine lv_if_ne (tgt := 21) hx hb dX5_sleep_15 (by decide) (fun c6 => ?_) (fun c6 => ?_)
    · have h := iff0 h c6
      refine lv_aload_n hx hb dX5_sleep_21 rfl (lv_at hl 0 rfl) ?_
      refine fw_get (C := RX5) (T := TX5) (N := 2) (ci := 5) (v := .ref (fa (cφ κ) 2 0)) hx hb hL5 hown hE hF (b0 hn) (cm0 κ _ _) rfl 0 (by decide) kw1 rfl dX5_sleep_22 ?_
      refine fw_get (C := RX4) (T := TX4) (N := 11) (ci := 4) (v := .ref (fa (cφ κ) 3 0)) hx hb hL4 hown hE hF (b2 hn) (cm2 κ _ _) rfl 0 (by decide) kw2 rfl dX5_sleep_25 ?_
      refine lv_iload_n hx hb dX5_sleep_28 rfl (lv_at hl 1 rfl) ?_
      obtain ⟨k7, h⟩ := ck h
      refine fw_aald (a := fa (cφ κ) 13 (a0.toNatClampNeg)) hx hb hE hF (b3 hn) (cm3 κ _ _) 1 rfl k7 rfl dX5_sleep_29 ?_
      refine lv_astore_n (lv' := [(3, .ref (fa (cφ κ) 13 (a0.toNatClampNeg))), (0, .ref (fa (cφ κ) 0 0)), (1, .int a0), (2, .int a1)]) hx hb dX5_sleep_30 rfl hl (by decide) rfl (fun ls hl => ?_)
      refine lv_iload_n hx hb dX5_sleep_31 rfl (lv_at hl 3 rfl) ?_
      refine lv_iconst (v := (1 : Int32)) hx hb dX5_sleep_32 (by decide) ?_
      refine lv_icmp_ne (tgt := 48) hx hb dX5_sleep_33 (by decide) (fun c8 => ?_) (fun c8 => ?_)
      · have h := iff0 h c8
        refine lv_iload_n hx hb dX5_sleep_48 rfl (lv_at hl 3 rfl) ?_
        refine lv_if_ne (tgt := 68) hx hb dX5_sleep_49 (by decide) (fun c9 => ?_) (fun c9 => ?_)
        · have h := iff0 h c9
          refine lv_aload_n hx hb dX5_sleep_68 rfl (lv_at hl 0 rfl) ?_
          refine lv_iload_n hx hb dX5_sleep_69 rfl (lv_at hl 3 rfl) ?_
          refine lv_iconst (v := (1 : Int32)) hx hb dX5_sleep_70 (by decide) ?_
          refine lv_icmp_ne (tgt := 78) hx hb dX5_sleep_71 (by decide) (fun c10 => ?_) (fun c10 => ?_)
          · have h := iff0 h c10
            refine lv_iconst (v := (0 : Int32)) hx hb dX5_sleep_78 (by decide) ?_
            refine fw_put (C := RX1) (T := TX1) (N := 15) (ci := 1) (ty := .boolean) (v := .int ((0 : Int32))) (r := upd (g 13 (a0.toNatClampNeg)) 6 ((0 : Int32))) hx hb hL1 tyX1 tyX1_ok nmX1 hown hE hok hF hS (b13 hn (vpl k7)) (cm13 κ _ _) rfl 6 (by decide) kw4 rfl (tyX1_ok 6 (by decide)) rfl rfl (Nat.le_of_ble_eq_true rfl) rfl dX5_sleep_79 (fun H locs hF hS => ?_)
            obtain ⟨g11, e12, h⟩ := ltm_e h
            rw [e12] at hF
            refine lv_iconst (v := (0 : Int32)) hx hb dX5_sleep_82 (by decide) ?_
            exact fw_iret hx hb hr hlk h hF hS dX5_sleep_83
          · have h := ift h c10
            refine lv_iconst (v := (1 : Int32)) hx hb dX5_sleep_74 (by decide) ?_
            refine lv_goto (tgt := 79) hx hb dX5_sleep_75 (by decide) ?_
            refine fw_put (C := RX1) (T := TX1) (N := 15) (ci := 1) (ty := .boolean) (v := .int ((1 : Int32))) (r := upd (g 13 (a0.toNatClampNeg)) 6 ((1 : Int32))) hx hb hL1 tyX1 tyX1_ok nmX1 hown hE hok hF hS (b13 hn (vpl k7)) (cm13 κ _ _) rfl 6 (by decide) kw4 rfl (tyX1_ok 6 (by decide)) rfl rfl (Nat.le_of_ble_eq_true rfl) rfl dX5_sleep_79 (fun H locs hF hS => ?_)
            obtain ⟨g13, e14, h⟩ := ltm_e h
            rw [e14] at hF
            refine lv_iconst (v := (0 : Int32)) hx hb dX5_sleep_82 (by decide) ?_
            exact fw_iret hx hb hr hlk h hF hS dX5_sleep_83
        · have h := ift h c9
          refine lv_aload_n hx hb dX5_sleep_52 rfl (lv_at hl 0 rfl) ?_
          refine fw_get (C := RX1) (T := TX1) (N := 15) (ci := 1) (v := .int (g 13 (a0.toNatClampNeg) 6)) hx hb hL1 hown hE hF (b13 hn (vpl k7)) (cm13 κ _ _) rfl 6 (by decide) kw4 rfl dX5_sleep_53 ?_
          refine lv_if_eq (tgt := 68) hx hb dX5_sleep_56 (by decide) (fun c15 => ?_) (fun c15 => ?_)
          · have h := ift h c15
            refine lv_aload_n hx hb dX5_sleep_68 rfl (lv_at hl 0 rfl) ?_
            refine lv_iload_n hx hb dX5_sleep_69 rfl (lv_at hl 3 rfl) ?_
            refine lv_iconst (v := (1 : Int32)) hx hb dX5_sleep_70 (by decide) ?_
            refine lv_icmp_ne (tgt := 78) hx hb dX5_sleep_71 (by decide) (fun c16 => ?_) (fun c16 => ?_)
            · have h := iff0 h c16
              refine lv_iconst (v := (0 : Int32)) hx hb dX5_sleep_78 (by decide) ?_
              refine fw_put (C := RX1) (T := TX1) (N := 15) (ci := 1) (ty := .boolean) (v := .int ((0 : Int32))) (r := upd (g 13 (a0.toNatClampNeg)) 6 ((0 : Int32))) hx hb hL1 tyX1 tyX1_ok nmX1 hown hE hok hF hS (b13 hn (vpl k7)) (cm13 κ _ _) rfl 6 (by decide) kw4 rfl (tyX1_ok 6 (by decide)) rfl rfl (Nat.le_of_ble_eq_true rfl) rfl dX5_sleep_79 (fun H locs hF hS => ?_)
              obtain ⟨g17, e18, h⟩ := ltm_e h
              rw [e18] at hF
              refine lv_iconst (v := (0 : Int32)) hx hb dX5_sleep_82 (by decide) ?_
              exact fw_iret hx hb hr hlk h hF hS dX5_sleep_83
            · have h := ift h c16
              refine lv_iconst (v := (1 : Int32)) hx hb dX5_sleep_74 (by decide) ?_
              refine lv_goto (tgt := 79) hx hb dX5_sleep_75 (by decide) ?_
              refine fw_put (C := RX1) (T := TX1) (N := 15) (ci := 1) (ty := .boolean) (v := .int ((1 : Int32))) (r := upd (g 13 (a0.toNatClampNeg)) 6 ((1 : Int32))) hx hb hL1 tyX1 tyX1_ok nmX1 hown hE hok hF hS (b13 hn (vpl k7)) (cm13 κ _ _) rfl 6 (by decide) kw4 rfl (tyX1_ok 6 (by decide)) rfl rfl (Nat.le_of_ble_eq_true rfl) rfl dX5_sleep_79 (fun H locs hF hS => ?_)
              obtain ⟨g19, e20, h⟩ := ltm_e h
              rw [e20] at hF
              refine lv_iconst (v := (0 : Int32)) hx hb dX5_sleep_82 (by decide) ?_
              exact fw_iret hx hb hr hlk h hF hS dX5_sleep_83
          · have h := iff0 h c15
            refine lv_aload_n hx hb dX5_sleep_59 rfl (lv_at hl 1 rfl) ?_
            refine fw_get (C := RX5) (T := TX5) (N := 2) (ci := 5) (v := .ref (fa (cφ κ) 2 0)) hx hb hL5 hown hE hF (b0 hn) (cm0 κ _ _) rfl 0 (by decide) kw1 rfl dX5_sleep_60 ?_
            refine lv_iload_n hx hb dX5_sleep_63 rfl (lv_at hl 2 rfl) ?_
            obtain ⟨⟨r22, g23⟩, q21, h⟩ := bnd h
            try dsimp only at h
            refine fw_calli (va_runV (As := [.int a0]) (rest := []) ⟨hx, hb, hml, hown, hts⟩ (c_X4_wake l hok hn q21) (cwV 1 hts gX5_sleep_X4_wake rfl rfl rfl qv_X4_wake ⟨Nat.le_of_ble_eq_true rfl, Nat.le_of_ble_eq_true rfl⟩) (fw_preV hok hE hF (b2 hn) (cm2 κ _ _) rfl) rfl rfl hl.1 rfl (lv_room (Nat.le_of_ble_eq_true rfl)) dX5_sleep_64 ⟨Nat.le_refl _, Nat.le_refl _⟩) hS (fun H locs hF hS => ?_)
            exact fw_iret hx hb hr hlk h hF hS dX5_sleep_67
      · have h := ift h c8
        refine lv_aload_n hx hb dX5_sleep_36 rfl (lv_at hl 0 rfl) ?_
        refine fw_get (C := RX1) (T := TX1) (N := 15) (ci := 1) (v := .int (g 13 (a0.toNatClampNeg) 7)) hx hb hL1 hown hE hF (b13 hn (vpl k7)) (cm13 κ _ _) rfl 7 (by decide) kw3 rfl dX5_sleep_37 ?_
        refine lv_bipush (v := (-6 : Int32)) hx hb dX5_sleep_40 (by decide) ?_
        refine lv_icmp_ne (tgt := 48) hx hb dX5_sleep_42 (by decide) (fun c25 => ?_) (fun c25 => ?_)
        · have h := iff0 h c25
          refine lv_iload_n hx hb dX5_sleep_48 rfl (lv_at hl 3 rfl) ?_
          refine lv_if_ne (tgt := 68) hx hb dX5_sleep_49 (by decide) (fun c26 => ?_) (fun c26 => ?_)
          · have h := iff0 h c26
            refine lv_aload_n hx hb dX5_sleep_68 rfl (lv_at hl 0 rfl) ?_
            refine lv_iload_n hx hb dX5_sleep_69 rfl (lv_at hl 3 rfl) ?_
            refine lv_iconst (v := (1 : Int32)) hx hb dX5_sleep_70 (by decide) ?_
            refine lv_icmp_ne (tgt := 78) hx hb dX5_sleep_71 (by decide) (fun c27 => ?_) (fun c27 => ?_)
            · have h := iff0 h c27
              refine lv_iconst (v := (0 : Int32)) hx hb dX5_sleep_78 (by decide) ?_
              refine fw_put (C := RX1) (T := TX1) (N := 15) (ci := 1) (ty := .boolean) (v := .int ((0 : Int32))) (r := upd (g 13 (a0.toNatClampNeg)) 6 ((0 : Int32))) hx hb hL1 tyX1 tyX1_ok nmX1 hown hE hok hF hS (b13 hn (vpl k7)) (cm13 κ _ _) rfl 6 (by decide) kw4 rfl (tyX1_ok 6 (by decide)) rfl rfl (Nat.le_of_ble_eq_true rfl) rfl dX5_sleep_79 (fun H locs hF hS => ?_)
              obtain ⟨g28, e29, h⟩ := ltm_e h
              rw [e29] at hF
              refine lv_iconst (v := (0 : Int32)) hx hb dX5_sleep_82 (by decide) ?_
              exact fw_iret hx hb hr hlk h hF hS dX5_sleep_83
            · have h := ift h c27
              refine lv_iconst (v := (1 : Int32)) hx hb dX5_sleep_74 (by decide) ?_
              refine lv_goto (tgt := 79) hx hb dX5_sleep_75 (by decide) ?_
              refine fw_put (C := RX1) (T := TX1) (N := 15) (ci := 1) (ty := .boolean) (v := .int ((1 : Int32))) (r := upd (g 13 (a0.toNatClampNeg)) 6 ((1 : Int32))) hx hb hL1 tyX1 tyX1_ok nmX1 hown hE hok hF hS (b13 hn (vpl k7)) (cm13 κ _ _) rfl 6 (by decide) kw4 rfl (tyX1_ok 6 (by decide)) rfl rfl (Nat.le_of_ble_eq_true rfl) rfl dX5_sleep_79 (fun H locs hF hS => ?_)
              obtain ⟨g30, e31, h⟩ := ltm_e h
              rw [e31] at hF
              refine lv_iconst (v := (0 : Int32)) hx hb dX5_sleep_82 (by decide) ?_
              exact fw_iret hx hb hr hlk h hF hS dX5_sleep_83
          · have h := ift h c26
            refine lv_aload_n hx hb dX5_sleep_52 rfl (lv_at hl 0 rfl) ?_
            refine fw_get (C := RX1) (T := TX1) (N := 15) (ci := 1) (v := .int (g 13 (a0.toNatClampNeg) 6)) hx hb hL1 hown hE hF (b13 hn (vpl k7)) (cm13 κ _ _) rfl 6 (by decide) kw4 rfl dX5_sleep_53 ?_
            refine lv_if_eq (tgt := 68) hx hb dX5_sleep_56 (by decide) (fun c32 => ?_) (fun c32 => ?_)
            · have h := ift h c32
              refine lv_aload_n hx hb dX5_sleep_68 rfl (lv_at hl 0 rfl) ?_
              refine lv_iload_n hx hb dX5_sleep_69 rfl (lv_at hl 3 rfl) ?_
              refine lv_iconst (v := (1 : Int32)) hx hb dX5_sleep_70 (by decide) ?_
              refine lv_icmp_ne (tgt := 78) hx hb dX5_sleep_71 (by decide) (fun c33 => ?_) (fun c33 => ?_)
              · have h := iff0 h c33
                refine lv_iconst (v := (0 : Int32)) hx hb dX5_sleep_78 (by decide) ?_
                refine fw_put (C := RX1) (T := TX1) (N := 15) (ci := 1) (ty := .boolean) (v := .int ((0 : Int32))) (r := upd (g 13 (a0.toNatClampNeg)) 6 ((0 : Int32))) hx hb hL1 tyX1 tyX1_ok nmX1 hown hE hok hF hS (b13 hn (vpl k7)) (cm13 κ _ _) rfl 6 (by decide) kw4 rfl (tyX1_ok 6 (by decide)) rfl rfl (Nat.le_of_ble_eq_true rfl) rfl dX5_sleep_79 (fun H locs hF hS => ?_)
                obtain ⟨g34, e35, h⟩ := ltm_e h
                rw [e35] at hF
                refine lv_iconst (v := (0 : Int32)) hx hb dX5_sleep_82 (by decide) ?_
                exact fw_iret hx hb hr hlk h hF hS dX5_sleep_83
              · have h := ift h c33
                refine lv_iconst (v := (1 : Int32)) hx hb dX5_sleep_74 (by decide) ?_
                refine lv_goto (tgt := 79) hx hb dX5_sleep_75 (by decide) ?_
                refine fw_put (C := RX1) (T := TX1) (N := 15) (ci := 1) (ty := .boolean) (v := .int ((1 : Int32))) (r := upd (g 13 (a0.toNatClampNeg)) 6 ((1 : Int32))) hx hb hL1 tyX1 tyX1_ok nmX1 hown hE hok hF hS (b13 hn (vpl k7)) (cm13 κ _ _) rfl 6 (by decide) kw4 rfl (tyX1_ok 6 (by decide)) rfl rfl (Nat.le_of_ble_eq_true rfl) rfl dX5_sleep_79 (fun H locs hF hS => ?_)
                obtain ⟨g36, e37, h⟩ := ltm_e h
                rw [e37] at hF
                refine lv_iconst (v := (0 : Int32)) hx hb dX5_sleep_82 (by decide) ?_
                exact fw_iret hx hb hr hlk h hF hS dX5_sleep_83
            · have h := iff0 h c32
              refine lv_aload_n hx hb dX5_sleep_59 rfl (lv_at hl 1 rfl) ?_
              refine fw_get (C := RX5) (T := TX5) (N := 2) (ci := 5) (v := .ref (fa (cφ κ) 2 0)) hx hb hL5 hown hE hF (b0 hn) (cm0 κ _ _) rfl 0 (by decide) kw1 rfl dX5_sleep_60 ?_
              refine lv_iload_n hx hb dX5_sleep_63 rfl (lv_at hl 2 rfl) ?_
              obtain ⟨⟨r39, g40⟩, q38, h⟩ := bnd h
              try dsimp only at h
              refine fw_calli (va_runV (As := [.int a0]) (rest := []) ⟨hx, hb, hml, hown, hts⟩ (c_X4_wake l hok hn q38) (cwV 1 hts gX5_sleep_X4_wake rfl rfl rfl qv_X4_wake ⟨Nat.le_of_ble_eq_true rfl, Nat.le_of_ble_eq_true rfl⟩) (fw_preV hok hE hF (b2 hn) (cm2 κ _ _) rfl) rfl rfl hl.1 rfl (lv_room (Nat.le_of_ble_eq_true rfl)) dX5_sleep_64 ⟨Nat.le_refl _, Nat.le_refl _⟩) hS (fun H locs hF hS => ?_)
              exact fw_iret hx hb hr hlk h hF hS dX5_sleep_67
        · have h := ift h c25
          refine lv_bipush (v := (-5 : Int32)) hx hb dX5_sleep_45 (by decide) ?_
          exact fw_iret hx hb hr hlk h hF hS dX5_sleep_47
    · have h := ift h c6
      refine lv_bipush (v := (-2 : Int32)) hx hb dX5_sleep_18 (by decide) ?_
      exact fw_iret hx hb hr hlk h hF hS dX5_sleep_20
  · have h := ift h c3
    refine lv_iconst (v := (-1 : Int32)) hx hb dX5_sleep_7 (by decide) ?_
    exact fw_iret hx hb hr hlk h hF hS dX5_sleep_8
def m_X5_phase (g : Mem) : Option (Int32 × Mem) := (m_X4_nextPhase g ).bind (fun (r2, g3) => some (g3 2 0 5, g3))
set_option maxHeartbeats 4000000 in
set_option maxRecDepth 100000 in
theorem c_X5_phase (l : Launch) {κ : Cx} (hok : fok (cφ κ)) (hn : 1 ≤ cn κ)  {g : Mem} {u : Int32 × Mem} (h : m_X5_phase g  = some u) : fM l (cφ κ) yX5_phase wsX5_phase 1 20 [.ref (fa (cφ κ) 0 0)] g (some (.int u.1)) u.2 := by
  refine fM.of (cc := cX5_phase) (maxL := 1) (ret := (some .int)) [(0, .ref (fa (cφ κ) 0 0))] (by decide) rfl (Nat.le_of_ble_eq_true rfl) rfl (fun p e s m below meth c ls hx hb hr hml hown hts hlk hE hF hS hl => ?_)
  replace hown : s.vm.findClass RX5 = some m.cls := hown
  have hL4 : ∀ w ∈ u_ws RX4 TX4 11, w.before ([.ref (fa (cφ κ) 0 0)] : List Value).toArray s = true := fun w hw => hts w (by
    unfold wsX5_phase
    simp only [List.mem_cons, List.mem_append]
    exact Or.inr (Or.inr hw))
  have hL5 : ∀ w ∈ u_ws RX5 TX5 2, w.before ([.ref (fa (cφ κ) 0 0)] : List Value).toArray s = true := fun w hw => hts w (by
    unfold wsX5_phase
    simp only [List.mem_cons, List.mem_append]
    exact Or.inr (Or.inl (Or.inr hw)))
  have kw1 := hts (.fieldLink RX5 10 "MeshLamps" "mesh" "LMeshLamps$Mesh;") (List.mem_of_getElem? (i := 1) rfl)
  have kw2 := hts (.fieldLink RX5 84 "MeshLamps$Mesh" "phase" "I") (List.mem_of_getElem? (i := 2) rfl)
  unfold m_X5_phase at h
  refine lv_aload_n hx hb dX5_phase_0 rfl (lv_at hl 0 rfl) ?_
  refine fw_get (C := RX5) (T := TX5) (N := 2) (ci := 5) (v := .ref (fa (cφ κ) 2 0)) hx hb hL5 hown hE hF (b0 hn) (cm0 κ _ _) rfl 0 (by decide) kw1 rfl dX5_phase_1 ?_
  obtain ⟨⟨r2, g3⟩, q1, h⟩ := bnd h
  try dsimp only at h
  refine fw_callv (va_runV (As := []) (rest := []) ⟨hx, hb, hml, hown, hts⟩ (c_X4_nextPhase l hok hn q1) (cwV 0 hts gX5_phase_X4_nextPhase rfl rfl rfl qv_X4_nextPhase ⟨Nat.le_of_ble_eq_true rfl, Nat.le_of_ble_eq_true rfl⟩) (fw_preV hok hE hF (b2 hn) (cm2 κ _ _) rfl) rfl rfl hl.1 rfl (lv_room (Nat.le_of_ble_eq_true rfl)) dX5_phase_4 ⟨Nat.le_refl _, Nat.le_refl _⟩) hS (fun H locs hF hS => ?_)
  refine lv_aload_n hx hb dX5_phase_7 rfl (lv_at hl 0 rfl) ?_
  refine fw_get (C := RX5) (T := TX5) (N := 2) (ci := 5) (v := .ref (fa (cφ κ) 2 0)) hx hb hL5 hown hE hF (b0 hn) (cm0 κ _ _) rfl 0 (by decide) kw1 rfl dX5_phase_8 ?_
  refine fw_get (C := RX4) (T := TX4) (N := 11) (ci := 4) (v := .int (g3 2 0 5)) hx hb hL4 hown hE hF (b2 hn) (cm2 κ _ _) rfl 5 (by decide) kw2 rfl dX5_phase_11 ?_
  exact fw_iret hx hb hr hlk h hF hS dX5_phase_14
def m_X5_give (g : Mem) (a0 : Int32) : Option (Int32 × Mem) := (m_X5_isLamp a0).bind (fun r2 => (if r2 = 0 then some ((-1 : Int32), g) else (if (g 2 0 5) = 0 then some ((-3 : Int32), g) else (m_X5_changed (g 2 0 7) a0 ((1 : Int32))).bind (fun r6 => ltm (upr g 2 0 (upd (g 2 0) 7 r6)) (fun g7 => (m_J6_bitCount_0f7a4 (g7 2 0 7)).bind (fun r10 => some (r10, g7)))))))
set_option maxHeartbeats 4000000 in
set_option maxRecDepth 100000 in
theorem c_X5_give (l : Launch) {κ : Cx} (hok : fok (cφ κ)) (hn : 1 ≤ cn κ)  {g : Mem} {a0 : Int32} {u : Int32 × Mem} (h : m_X5_give g a0 = some u) : fM l (cφ κ) yX5_give wsX5_give 2 42 [.ref (fa (cφ κ) 0 0), .int a0] g (some (.int u.1)) u.2 := by
  refine fM.of (cc := cX5_give) (maxL := 2) (ret := (some .int)) [(0, .ref (fa (cφ κ) 0 0)), (1, .int a0)] (by decide) rfl (Nat.le_of_ble_eq_true rfl) rfl (fun p e s m below meth c ls hx hb hr hml hown hts hlk hE hF hS hl => ?_)
  replace hown : s.vm.findClass RX5 = some m.cls := hown
  have hL4 : ∀ w ∈ u_ws RX4 TX4 11, w.before ([.ref (fa (cφ κ) 0 0), .int a0] : List Value).toArray s = true := fun w hw => hts w (by
    unfold wsX5_give
    simp only [List.mem_cons, List.mem_append]
    exact Or.inr (Or.inr hw))
  have hL5 : ∀ w ∈ u_ws RX5 TX5 2, w.before ([.ref (fa (cφ κ) 0 0), .int a0] : List Value).toArray s = true := fun w hw => hts w (by
    unfold wsX5_give
    simp only [List.mem_cons, List.mem_append]
    exact Or.inr (Or.inl (Or.inr hw)))
  have kw1 := hts (.fieldLink RX5 10 "MeshLamps" "mesh" "LMeshLamps$Mesh;") (List.mem_of_getElem? (i := 1) rfl)
  have kw2 := hts (.fieldLink RX5 84 "MeshLamps$Mesh" "phase" "I") (List.mem_of_getElem? (i := 2) rfl)
  have kw3 := hts (.fieldLink RX5 87 "MeshLamps$Mesh" "haveNext" "I") (List.mem_of_getElem? (i := 3) rfl)
  unfold m_X5_give at h
  refine lv_iload_n hx hb dX5_give_0 rfl (lv_at hl 1 rfl) ?_
  obtain ⟨r2, q1, h⟩ := bnd h
  try dsimp only at h
  refine pw_call (va_runS (As := [.int a0]) (rest := []) ⟨hx, hb, hml, hown, hts⟩ (c_X5_isLamp l q1) (va_cwS 1 hts gX5_give_X5_isLamp rfl rfl rfl qs_X5_isLamp ⟨Nat.le_of_ble_eq_true rfl, Nat.le_of_ble_eq_true rfl⟩) preEq rfl rfl hl.1 rfl (lv_room (Nat.le_of_ble_eq_true rfl)) dX5_give_1 ⟨Nat.le_refl _, Nat.le_refl _⟩) ?_
  refine lv_if_ne (tgt := 9) hx hb dX5_give_4 (by decide) (fun c3 => ?_) (fun c3 => ?_)
  · have h := iff0 h c3
    refine lv_aload_n hx hb dX5_give_9 rfl (lv_at hl 0 rfl) ?_
    refine fw_get (C := RX5) (T := TX5) (N := 2) (ci := 5) (v := .ref (fa (cφ κ) 2 0)) hx hb hL5 hown hE hF (b0 hn) (cm0 κ _ _) rfl 0 (by decide) kw1 rfl dX5_give_10 ?_
    refine fw_get (C := RX4) (T := TX4) (N := 11) (ci := 4) (v := .int (g 2 0 5)) hx hb hL4 hown hE hF (b2 hn) (cm2 κ _ _) rfl 5 (by decide) kw2 rfl dX5_give_13 ?_
    refine lv_if_ne (tgt := 22) hx hb dX5_give_16 (by decide) (fun c4 => ?_) (fun c4 => ?_)
    · have h := iff0 h c4
      refine lv_aload_n hx hb dX5_give_22 rfl (lv_at hl 0 rfl) ?_
      refine fw_get (C := RX5) (T := TX5) (N := 2) (ci := 5) (v := .ref (fa (cφ κ) 2 0)) hx hb hL5 hown hE hF (b0 hn) (cm0 κ _ _) rfl 0 (by decide) kw1 rfl dX5_give_23 ?_
      refine lv_aload_n hx hb dX5_give_26 rfl (lv_at hl 0 rfl) ?_
      refine fw_get (C := RX5) (T := TX5) (N := 2) (ci := 5) (v := .ref (fa (cφ κ) 2 0)) hx hb hL5 hown hE hF (b0 hn) (cm0 κ _ _) rfl 0 (by decide) kw1 rfl dX5_give_27 ?_
      refine fw_get (C := RX4) (T := TX4) (N := 11) (ci := 4) (v := .int (g 2 0 7)) hx hb hL4 hown hE hF (b2 hn) (cm2 κ _ _) rfl 7 (by decide) kw3 rfl dX5_give_30 ?_
      refine lv_iload_n hx hb dX5_give_33 rfl (lv_at hl 1 rfl) ?_
      refine lv_iconst (v := (1 : Int32)) hx hb dX5_give_34 (by decide) ?_
      obtain ⟨r6, q5, h⟩ := bnd h
      try dsimp only at h
      refine pw_call (va_runS (As := [.int (g 2 0 7), .int a0, .int ((1 : Int32))]) (rest := [.ref (fa (cφ κ) 2 0)]) ⟨hx, hb, hml, hown, hts⟩ (c_X5_changed l q5) (va_cwS 3 hts gX5_give_X5_changed rfl rfl rfl qs_X5_changed ⟨Nat.le_of_ble_eq_true rfl, Nat.le_of_ble_eq_true rfl⟩) preEq rfl rfl hl.1 rfl (lv_room (Nat.le_of_ble_eq_true rfl)) dX5_give_35 ⟨Nat.le_refl _, Nat.le_refl _⟩) ?_
      refine fw_put (C := RX4) (T := TX4) (N := 11) (ci := 4) (ty := .int) (v := .int r6) (r := upd (g 2 0) 7 r6) hx hb hL4 tyX4 tyX4_ok nmX4 hown hE hok hF hS (b2 hn) (cm2 κ _ _) rfl 7 (by decide) kw3 rfl (tyX4_ok 7 (by decide)) rfl rfl (Nat.le_of_ble_eq_true rfl) rfl dX5_give_38 (fun H locs hF hS => ?_)
      obtain ⟨g7, e8, h⟩ := ltm_e h
      rw [e8] at hF
      refine lv_aload_n hx hb dX5_give_41 rfl (lv_at hl 0 rfl) ?_
      refine fw_get (C := RX5) (T := TX5) (N := 2) (ci := 5) (v := .ref (fa (cφ κ) 2 0)) hx hb hL5 hown hE hF (b0 hn) (cm0 κ _ _) rfl 0 (by decide) kw1 rfl dX5_give_42 ?_
      refine fw_get (C := RX4) (T := TX4) (N := 11) (ci := 4) (v := .int (g7 2 0 7)) hx hb hL4 hown hE hF (b2 hn) (cm2 κ _ _) rfl 7 (by decide) kw3 rfl dX5_give_45 ?_
      obtain ⟨r10, q9, h⟩ := bnd h
      try dsimp only at h
      refine pw_call (va_runS (As := [.int (g7 2 0 7)]) (rest := []) ⟨hx, hb, hml, hown, hts⟩ (c_J6_bitCount_0f7a4 l q9) (va_cwS 1 hts gX5_give_J6_bitCount_0f7a4 rfl rfl rfl qs_J6_bitCount_0f7a4 ⟨Nat.le_of_ble_eq_true rfl, Nat.le_of_ble_eq_true rfl⟩) preEq rfl rfl hl.1 rfl (lv_room (Nat.le_of_ble_eq_true rfl)) dX5_give_48 ⟨Nat.le_refl _, Nat.le_refl _⟩) ?_
      exact fw_iret hx hb hr hlk h hF hS dX5_give_51
    · have h := ift h c4
      refine lv_bipush (v := (-3 : Int32)) hx hb dX5_give_19 (by decide) ?_
      exact fw_iret hx hb hr hlk h hF hS dX5_give_21
  · have h := ift h c3
    refine lv_iconst (v := (-1 : Int32)) hx hb dX5_give_7 (by decide) ?_
    exact fw_iret hx hb hr hlk h hF hS dX5_give_8
def m_X5_has (g : Mem) (a0 a1 : Int32) : Option (Int32 × Mem) := (m_X5_isLamp a0).bind (fun r2 => (if r2 = 0 then some ((-1 : Int32), g) else (m_X5_isBetween a1 ((0 : Int32)) ((1 : Int32))).bind (fun r5 => (if r5 = 0 then some ((-2 : Int32), g) else (if a1 = 0 then (m_X5_isIn (g 2 0 6) a0).bind (fun r13 => (m_X5_asNumber r13).bind (fun r15 => some (r15, g))) else (m_X5_isIn (g 2 0 7) a0).bind (fun r9 => (m_X5_asNumber r9).bind (fun r11 => some (r11, g))))))))
set_option maxHeartbeats 4000000 in
set_option maxRecDepth 100000 in
theorem c_X5_has (l : Launch) {κ : Cx} (hok : fok (cφ κ)) (hn : 1 ≤ cn κ)  {g : Mem} {a0 a1 : Int32} {u : Int32 × Mem} (h : m_X5_has g a0 a1 = some u) : fM l (cφ κ) yX5_has wsX5_has 2 42 [.ref (fa (cφ κ) 0 0), .int a0, .int a1] g (some (.int u.1)) u.2 := by
  refine fM.of (cc := cX5_has) (maxL := 3) (ret := (some .int)) [(0, .ref (fa (cφ κ) 0 0)), (1, .int a0), (2, .int a1)] (by decide) rfl (Nat.le_of_ble_eq_true rfl) rfl (fun p e s m below meth c ls hx hb hr hml hown hts hlk hE hF hS hl => ?_)
  replace hown : s.vm.findClass RX5 = some m.cls := hown
  have hL4 : ∀ w ∈ u_ws RX4 TX4 11, w.before ([.ref (fa (cφ κ) 0 0), .int a0, .int a1] : List Value).toArray s = true := fun w hw => hts w (by
    unfold wsX5_has
    simp only [List.mem_cons, List.mem_append]
    exact Or.inr (Or.inr hw))
  have hL5 : ∀ w ∈ u_ws RX5 TX5 2, w.before ([.ref (fa (cφ κ) 0 0), .int a0, .int a1] : List Value).toArray s = true := fun w hw => hts w (by
    unfold wsX5_has
    simp only [List.mem_cons, List.mem_append]
    exact Or.inr (Or.inl (Or.inr hw)))
  have kw1 := hts (.fieldLink RX5 10 "MeshLamps" "mesh" "LMeshLamps$Mesh;") (List.mem_of_getElem? (i := 1) rfl)
  have kw3 := hts (.fieldLink RX5 87 "MeshLamps$Mesh" "haveNext" "I") (List.mem_of_getElem? (i := 3) rfl)
  have kw2 := hts (.fieldLink RX5 90 "MeshLamps$Mesh" "haveKey" "I") (List.mem_of_getElem? (i := 2) rfl)
  unfold m_X5_has at h
  refine lv_iload_n hx hb dX5_has_0 rfl (lv_at hl 1 rfl) ?_
  obtain ⟨r2, q1, h⟩ := bnd h
  try dsimp only at h
  refine pw_call (va_runS (As := [.int a0]) (rest := []) ⟨hx, hb, hml, hown, hts⟩ (c_X5_isLamp l q1) (va_cwS 1 hts gX5_has_X5_isLamp rfl rfl rfl qs_X5_isLamp ⟨Nat.le_of_ble_eq_true rfl, Nat.le_of_ble_eq_true rfl⟩) preEq rfl rfl hl.1 rfl (lv_room (Nat.le_of_ble_eq_true rfl)) dX5_has_1 ⟨Nat.le_refl _, Nat.le_refl _⟩) ?_
  refine lv_if_ne (tgt := 9) hx hb dX5_has_4 (by decide) (fun c3 => ?_) (fun c3 => ?_)
  · have h := iff0 h c3
    refine lv_iload_n hx hb dX5_has_9 rfl (lv_at hl 2 rfl) ?_
    refine lv_iconst (v := (0 : Int32)) hx hb dX5_has_10 (by decide) ?_
    refine lv_iconst (v := (1 : Int32)) hx hb dX5_has_11 (by decide) ?_
    obtain ⟨r5, q4, h⟩ := bnd h
    try dsimp only at h
    refine pw_call (va_runS (As := [.int a1, .int ((0 : Int32)), .int ((1 : Int32))]) (rest := []) ⟨hx, hb, hml, hown, hts⟩ (c_X5_isBetween l q4) (va_cwS 3 hts gX5_has_X5_isBetween rfl rfl rfl qs_X5_isBetween ⟨Nat.le_of_ble_eq_true rfl, Nat.le_of_ble_eq_true rfl⟩) preEq rfl rfl hl.1 rfl (lv_room (Nat.le_of_ble_eq_true rfl)) dX5_has_12 ⟨Nat.le_refl _, Nat.le_refl _⟩) ?_
    refine lv_if_ne (tgt := 21) hx hb dX5_has_15 (by decide) (fun c6 => ?_) (fun c6 => ?_)
    · have h := iff0 h c6
      refine lv_iload_n hx hb dX5_has_21 rfl (lv_at hl 2 rfl) ?_
      refine lv_if_ne (tgt := 35) hx hb dX5_has_22 (by decide) (fun c7 => ?_) (fun c7 => ?_)
      · have h := iff0 h c7
        refine lv_aload_n hx hb dX5_has_35 rfl (lv_at hl 0 rfl) ?_
        refine fw_get (C := RX5) (T := TX5) (N := 2) (ci := 5) (v := .ref (fa (cφ κ) 2 0)) hx hb hL5 hown hE hF (b0 hn) (cm0 κ _ _) rfl 0 (by decide) kw1 rfl dX5_has_36 ?_
        refine fw_get (C := RX4) (T := TX4) (N := 11) (ci := 4) (v := .int (g 2 0 7)) hx hb hL4 hown hE hF (b2 hn) (cm2 κ _ _) rfl 7 (by decide) kw3 rfl dX5_has_39 ?_
        refine lv_iload_n hx hb dX5_has_42 rfl (lv_at hl 1 rfl) ?_
        obtain ⟨r9, q8, h⟩ := bnd h
        try dsimp only at h
        refine pw_call (va_runS (As := [.int (g 2 0 7), .int a0]) (rest := []) ⟨hx, hb, hml, hown, hts⟩ (c_X5_isIn l q8) (va_cwS 2 hts gX5_has_X5_isIn rfl rfl rfl qs_X5_isIn ⟨Nat.le_of_ble_eq_true rfl, Nat.le_of_ble_eq_true rfl⟩) preEq rfl rfl hl.1 rfl (lv_room (Nat.le_of_ble_eq_true rfl)) dX5_has_43 ⟨Nat.le_refl _, Nat.le_refl _⟩) ?_
        obtain ⟨r11, q10, h⟩ := bnd h
        try dsimp only at h
        refine pw_call (va_runS (As := [.int r9]) (rest := []) ⟨hx, hb, hml, hown, hts⟩ (c_X5_asNumber l q10) (va_cwS 1 hts gX5_has_X5_asNumber rfl rfl rfl qs_X5_asNumber ⟨Nat.le_of_ble_eq_true rfl, Nat.le_of_ble_eq_true rfl⟩) preEq rfl rfl hl.1 rfl (lv_room (Nat.le_of_ble_eq_true rfl)) dX5_has_46 ⟨Nat.le_refl _, Nat.le_refl _⟩) ?_
        exact fw_iret hx hb hr hlk h hF hS dX5_has_49
      · have h := ift h c7
        refine lv_aload_n hx hb dX5_has_25 rfl (lv_at hl 0 rfl) ?_
        refine fw_get (C := RX5) (T := TX5) (N := 2) (ci := 5) (v := .ref (fa (cφ κ) 2 0)) hx hb hL5 hown hE hF (b0 hn) (cm0 κ _ _) rfl 0 (by decide) kw1 rfl dX5_has_26 ?_
        refine fw_get (C := RX4) (T := TX4) (N := 11) (ci := 4) (v := .int (g 2 0 6)) hx hb hL4 hown hE hF (b2 hn) (cm2 κ _ _) rfl 6 (by decide) kw2 rfl dX5_has_29 ?_
        refine lv_goto (tgt := 42) hx hb dX5_has_32 (by decide) ?_
        refine lv_iload_n hx hb dX5_has_42 rfl (lv_at hl 1 rfl) ?_
        obtain ⟨r13, q12, h⟩ := bnd h
        try dsimp only at h
        refine pw_call (va_runS (As := [.int (g 2 0 6), .int a0]) (rest := []) ⟨hx, hb, hml, hown, hts⟩ (c_X5_isIn l q12) (va_cwS 2 hts gX5_has_X5_isIn rfl rfl rfl qs_X5_isIn ⟨Nat.le_of_ble_eq_true rfl, Nat.le_of_ble_eq_true rfl⟩) preEq rfl rfl hl.1 rfl (lv_room (Nat.le_of_ble_eq_true rfl)) dX5_has_43 ⟨Nat.le_refl _, Nat.le_refl _⟩) ?_
        obtain ⟨r15, q14, h⟩ := bnd h
        try dsimp only at h
        refine pw_call (va_runS (As := [.int r13]) (rest := []) ⟨hx, hb, hml, hown, hts⟩ (c_X5_asNumber l q14) (va_cwS 1 hts gX5_has_X5_asNumber rfl rfl rfl qs_X5_asNumber ⟨Nat.le_of_ble_eq_true rfl, Nat.le_of_ble_eq_true rfl⟩) preEq rfl rfl hl.1 rfl (lv_room (Nat.le_of_ble_eq_true rfl)) dX5_has_46 ⟨Nat.le_refl _, Nat.le_refl _⟩) ?_
        exact fw_iret hx hb hr hlk h hF hS dX5_has_49
    · have h := ift h c6
      refine lv_bipush (v := (-2 : Int32)) hx hb dX5_has_18 (by decide) ?_
      exact fw_iret hx hb hr hlk h hF hS dX5_has_20
  · have h := ift h c3
    refine lv_iconst (v := (-1 : Int32)) hx hb dX5_has_7 (by decide) ?_
    exact fw_iret hx hb hr hlk h hF hS dX5_has_8
def m_X5_tell (F : Nat) (g : Mem) (a0 a1 a2 a3 : Int32) : Option (Int32 × Mem) := (m_X5_isLamp a0).bind (fun r2 => (if r2 = 0 then some ((-1 : Int32), g) else (m_X5_isBetween a1 ((0 : Int32)) ((13 : Int32))).bind (fun r5 => (if r5 = 0 then some ((-2 : Int32), g) else (m_X5_isBetween a2 ((0 : Int32)) ((99 : Int32))).bind (fun r8 => (if r8 = 0 then some ((-2 : Int32), g) else (m_X5_isBetween a3 ((1 : Int32)) ((7 : Int32))).bind (fun r11 => (if r11 = 0 then some ((-2 : Int32), g) else if (a0 < 0 ∨ 10 ≤ a0.toNatClampNeg) then none else (if (g 13 (a0.toNatClampNeg) 6) = 0 then (m_X4_canTell g a0).bind (fun (r16, g17) => (if r16 = 0 then some ((-5 : Int32), g17) else (m_X0_isFull g17 ).bind (fun (r21, g22) => (if r21 = 0 then (if (g22 13 (a0.toNatClampNeg) 8) < ((200 : Int32)) then ltm (upr g22 13 (a0.toNatClampNeg) (upd (g22 13 (a0.toNatClampNeg)) 8 ((g22 13 (a0.toNatClampNeg) 8) + ((1 : Int32))))) (fun g26 => (m_X2_place a0 (g26 13 (a0.toNatClampNeg) 8)).bind (fun r29 => (m_X4_keyToTell g26 a0).bind (fun (r31, g32) => (m_X2_write g32 r29 r31 a1 a2).bind (fun (r35, g36) => (m_X3_addm F (a0.toNatClampNeg) g36 r29 (g36 14 (a0.toNatClampNeg) 2)).bind (fun (r40, g41) => (m_X0_add g41 a0 ((g41 2 0 3) + ((1 : Int32))) r29 a3).bind (fun (r44, g45) => some (g45 13 (a0.toNatClampNeg) 8, g45))))))) else some ((-4 : Int32), g22)) else some ((-4 : Int32), g22))))) else some ((-3 : Int32), g))))))))))
set_option maxHeartbeats 4000000 in
set_option maxRecDepth 100000 in
theorem c_X5_tell (l : Launch) {κ : Cx} (hok : fok (cφ κ)) (hn : 1 ≤ cn κ)  {F : Nat} {g : Mem} {a0 a1 a2 a3 : Int32} {u : Int32 × Mem} (h : m_X5_tell F g a0 a1 a2 a3 = some u) : fM l (cφ κ) yX5_tell wsX5_tell 3 63 [.ref (fa (cφ κ) 0 0), .int a0, .int a1, .int a2, .int a3] g (some (.int u.1)) u.2 := by
  refine fM.of (cc := cX5_tell) (maxL := 7) (ret := (some .int)) [(0, .ref (fa (cφ κ) 0 0)), (1, .int a0), (2, .int a1), (3, .int a2), (4, .int a3)] (by decide) rfl (Nat.le_of_ble_eq_true rfl) rfl (fun p e s m below meth c ls hx hb hr hml hown hts hlk hE hF hS hl => ?_)
  replace hown : s.vm.findClass RX5 = some m.cls := hown
  have hL1 : ∀ w ∈ u_ws RX1 TX1 15, w.before ([.ref (fa (cφ κ) 0 0), .int a0, .int a1, .int a2, .int a3] : List Value).toArray s = true := fun w hw => hts w (by
    unfold wsX5_tell
    simp only [List.mem_cons, List.mem_append]
    exact Or.inr (Or.inl (Or.inl (Or.inl (Or.inr hw)))))
  have hL4 : ∀ w ∈ u_ws RX4 TX4 11, w.before ([.ref (fa (cφ κ) 0 0), .int a0, .int a1, .int a2, .int a3] : List Value).toArray s = true := fun w hw => hts w (by
    unfold wsX5_tell
    simp only [List.mem_cons, List.mem_append]
    exact Or.inr (Or.inl (Or.inl (Or.inl (Or.inl (Or.inr hw))))))
  have hL5 : ∀ w ∈ u_ws RX5 TX5 2, w.before ([.ref (fa (cφ κ) 0 0), .int a0, .int a1, .int a2, .int a3] : List Value).toArray s = true := fun w hw => hts w (by
    unfold wsX5_tell
    simp only [List.mem_cons, List.mem_append]
    exact Or.inr (Or.inl (Or.inl (Or.inl (Or.inl (Or.inl (Or.inr hw)))))))
  have kw1 := hts (.fieldLink RX5 10 "MeshLamps" "mesh" "LMeshLamps$Mesh;") (List.mem_of_getElem? (i := 1) rfl)
  have kw2 := hts (.fieldLink RX5 28 "MeshLamps$Mesh" "lamps" "[LMeshLamps$Lamp;") (List.mem_of_getElem? (i := 2) rfl)
  have kw3 := hts (.fieldLink RX5 68 "MeshLamps$Lamp" "sleeps" "Z") (List.mem_of_getElem? (i := 3) rfl)
  have kw4 := hts (.fieldLink RX5 104 "MeshLamps$Mesh" "air" "LMeshLamps$Air;") (List.mem_of_getElem? (i := 4) rfl)
  have kw5 := hts (.fieldLink RX5 114 "MeshLamps$Lamp" "told" "I") (List.mem_of_getElem? (i := 5) rfl)
  have kw6 := hts (.fieldLink RX5 123 "MeshLamps$Mesh" "letters" "LMeshLamps$Letters;") (List.mem_of_getElem? (i := 6) rfl)
  have kw7 := hts (.fieldLink RX5 58 "MeshLamps$Lamp" "mind" "LMeshLamps$Line;") (List.mem_of_getElem? (i := 7) rfl)
  have kw8 := hts (.fieldLink RX5 55 "MeshLamps$Lamp" "settings" "[I") (List.mem_of_getElem? (i := 8) rfl)
  have kw9 := hts (.fieldLink RX5 138 "MeshLamps$Mesh" "tick" "I") (List.mem_of_getElem? (i := 9) rfl)
  unfold m_X5_tell at h
  refine lv_iload_n hx hb dX5_tell_0 rfl (lv_at hl 1 rfl) ?_
  obtain ⟨r2, q1, h⟩ := bnd h
  try dsimp only at h
  refine pw_call (va_runS (As := [.int a0]) (rest := []) ⟨hx, hb, hml, hown, hts⟩ (c_X5_isLamp l q1) (va_cwS 1 hts gX5_tell_X5_isLamp rfl rfl rfl qs_X5_isLamp ⟨Nat.le_of_ble_eq_true rfl, Nat.le_of_ble_eq_true rfl⟩) preEq rfl rfl hl.1 rfl (lv_room (Nat.le_of_ble_eq_true rfl)) dX5_tell_1 ⟨Nat.le_refl _, Nat.le_refl _⟩) ?_
  refine lv_if_ne (tgt := 9) hx hb dX5_tell_4 (by decide) (fun c3 => ?_) (fun c3 => ?_)
  · have h := iff0 h c3
    refine lv_iload_n hx hb dX5_tell_9 rfl (lv_at hl 2 rfl) ?_
    refine lv_iconst (v := (0 : Int32)) hx hb dX5_tell_10 (by decide) ?_
    refine lv_bipush (v := (13 : Int32)) hx hb dX5_tell_11 (by decide) ?_
    obtain ⟨r5, q4, h⟩ := bnd h
    try dsimp only at h
    refine pw_call (va_runS (As := [.int a1, .int ((0 : Int32)), .int ((13 : Int32))]) (rest := []) ⟨hx, hb, hml, hown, hts⟩ (c_X5_isBetween l q4) (va_cwS 3 hts gX5_tell_X5_isBetween rfl rfl rfl qs_X5_isBetween ⟨Nat.le_of_ble_eq_true rfl, Nat.le_of_ble_eq_true rfl⟩) preEq rfl rfl hl.1 rfl (lv_room (Nat.le_of_ble_eq_true rfl)) dX5_tell_13 ⟨Nat.le_refl _, Nat.le_refl _⟩) ?_
    refine lv_if_eq (tgt := 40) hx hb dX5_tell_16 (by decide) (fun c6 => ?_) (fun c6 => ?_)
    · have h := ift h c6
      refine lv_bipush (v := (-2 : Int32)) hx hb dX5_tell_40 (by decide) ?_
      exact fw_iret hx hb hr hlk h hF hS dX5_tell_42
    · have h := iff0 h c6
      refine lv_iload_n hx hb dX5_tell_19 rfl (lv_at hl 3 rfl) ?_
      refine lv_iconst (v := (0 : Int32)) hx hb dX5_tell_20 (by decide) ?_
      refine lv_bipush (v := (99 : Int32)) hx hb dX5_tell_21 (by decide) ?_
      obtain ⟨r8, q7, h⟩ := bnd h
      try dsimp only at h
      refine pw_call (va_runS (As := [.int a2, .int ((0 : Int32)), .int ((99 : Int32))]) (rest := []) ⟨hx, hb, hml, hown, hts⟩ (c_X5_isBetween l q7) (va_cwS 3 hts gX5_tell_X5_isBetween rfl rfl rfl qs_X5_isBetween ⟨Nat.le_of_ble_eq_true rfl, Nat.le_of_ble_eq_true rfl⟩) preEq rfl rfl hl.1 rfl (lv_room (Nat.le_of_ble_eq_true rfl)) dX5_tell_23 ⟨Nat.le_refl _, Nat.le_refl _⟩) ?_
      refine lv_if_eq (tgt := 40) hx hb dX5_tell_26 (by decide) (fun c9 => ?_) (fun c9 => ?_)
      · have h := ift h c9
        refine lv_bipush (v := (-2 : Int32)) hx hb dX5_tell_40 (by decide) ?_
        exact fw_iret hx hb hr hlk h hF hS dX5_tell_42
      · have h := iff0 h c9
        refine lv_iload hx hb dX5_tell_29 (lv_at hl 4 rfl) ?_
        refine lv_iconst (v := (1 : Int32)) hx hb dX5_tell_31 (by decide) ?_
        refine lv_bipush (v := (7 : Int32)) hx hb dX5_tell_32 (by decide) ?_
        obtain ⟨r11, q10, h⟩ := bnd h
        try dsimp only at h
        refine pw_call (va_runS (As := [.int a3, .int ((1 : Int32)), .int ((7 : Int32))]) (rest := []) ⟨hx, hb, hml, hown, hts⟩ (c_X5_isBetween l q10) (va_cwS 3 hts gX5_tell_X5_isBetween rfl rfl rfl qs_X5_isBetween ⟨Nat.le_of_ble_eq_true rfl, Nat.le_of_ble_eq_true rfl⟩) preEq rfl rfl hl.1 rfl (lv_room (Nat.le_of_ble_eq_true rfl)) dX5_tell_34 ⟨Nat.le_refl _, Nat.le_refl _⟩) ?_
        refine lv_if_ne (tgt := 43) hx hb dX5_tell_37 (by decide) (fun c12 => ?_) (fun c12 => ?_)
        · have h := iff0 h c12
          refine lv_aload_n hx hb dX5_tell_43 rfl (lv_at hl 0 rfl) ?_
          refine fw_get (C := RX5) (T := TX5) (N := 2) (ci := 5) (v := .ref (fa (cφ κ) 2 0)) hx hb hL5 hown hE hF (b0 hn) (cm0 κ _ _) rfl 0 (by decide) kw1 rfl dX5_tell_44 ?_
          refine fw_get (C := RX4) (T := TX4) (N := 11) (ci := 4) (v := .ref (fa (cφ κ) 3 0)) hx hb hL4 hown hE hF (b2 hn) (cm2 κ _ _) rfl 0 (by decide) kw2 rfl dX5_tell_47 ?_
          refine lv_iload_n hx hb dX5_tell_50 rfl (lv_at hl 1 rfl) ?_
          obtain ⟨k13, h⟩ := ck h
          refine fw_aald (a := fa (cφ κ) 13 (a0.toNatClampNeg)) hx hb hE hF (b3 hn) (cm3 κ _ _) 1 rfl k13 rfl dX5_tell_51 ?_
          refine lv_astore (lv' := [(5, .ref (fa (cφ κ) 13 (a0.toNatClampNeg))), (0, .ref (fa (cφ κ) 0 0)), (1, .int a0), (2, .int a1), (3, .int a2), (4, .int a3)]) hx hb dX5_tell_52 hl (by decide) rfl (fun ls hl => ?_)
          refine lv_aload hx hb dX5_tell_54 (lv_at hl 0 rfl) ?_
          refine fw_get (C := RX1) (T := TX1) (N := 15) (ci := 1) (v := .int (g 13 (a0.toNatClampNeg) 6)) hx hb hL1 hown hE hF (b13 hn (vpl k13)) (cm13 κ _ _) rfl 6 (by decide) kw3 rfl dX5_tell_56 ?_
          refine lv_if_eq (tgt := 65) hx hb dX5_tell_59 (by decide) (fun c14 => ?_) (fun c14 => ?_)
          · have h := ift h c14
            refine lv_aload_n hx hb dX5_tell_65 rfl (lv_at hl 1 rfl) ?_
            refine fw_get (C := RX5) (T := TX5) (N := 2) (ci := 5) (v := .ref (fa (cφ κ) 2 0)) hx hb hL5 hown hE hF (b0 hn) (cm0 κ _ _) rfl 0 (by decide) kw1 rfl dX5_tell_66 ?_
            refine lv_iload_n hx hb dX5_tell_69 rfl (lv_at hl 2 rfl) ?_
            obtain ⟨⟨r16, g17⟩, q15, h⟩ := bnd h
            try dsimp only at h
            refine fw_calli (va_runV (As := [.int a0]) (rest := []) ⟨hx, hb, hml, hown, hts⟩ (c_X4_canTell l hok hn q15) (cwV 1 hts gX5_tell_X4_canTell rfl rfl rfl qv_X4_canTell ⟨Nat.le_of_ble_eq_true rfl, Nat.le_of_ble_eq_true rfl⟩) (fw_preV hok hE hF (b2 hn) (cm2 κ _ _) rfl) rfl rfl hl.1 rfl (lv_room (Nat.le_of_ble_eq_true rfl)) dX5_tell_70 ⟨Nat.le_refl _, Nat.le_refl _⟩) hS (fun H locs hF hS => ?_)
            refine lv_if_ne (tgt := 79) hx hb dX5_tell_73 (by decide) (fun c19 => ?_) (fun c19 => ?_)
            · have h := iff0 h c19
              refine lv_aload_n hx hb dX5_tell_79 rfl (lv_at hl 1 rfl) ?_
              refine fw_get (C := RX5) (T := TX5) (N := 2) (ci := 5) (v := .ref (fa (cφ κ) 2 0)) hx hb hL5 hown hE hF (b0 hn) (cm0 κ _ _) rfl 0 (by decide) kw1 rfl dX5_tell_80 ?_
              refine fw_get (C := RX4) (T := TX4) (N := 11) (ci := 4) (v := .ref (fa (cφ κ) 8 0)) hx hb hL4 hown hE hF (b2 hn) (cm2 κ _ _) rfl 2 (by decide) kw4 rfl dX5_tell_83 ?_
              obtain ⟨⟨r21, g22⟩, q20, h⟩ := bnd h
              try dsimp only at h
              refine fw_calli (va_runV (As := []) (rest := []) ⟨hx, hb, hml, hown, hts⟩ (c_X0_isFull l hok hn q20) (cwV 0 hts gX5_tell_X0_isFull rfl rfl rfl qv_X0_isFull ⟨Nat.le_of_ble_eq_true rfl, Nat.le_of_ble_eq_true rfl⟩) (fw_preV hok hE hF (b8 hn) (cm8 κ _ _) rfl) rfl rfl hl.1 rfl (lv_room (Nat.le_of_ble_eq_true rfl)) dX5_tell_86 ⟨Nat.le_refl _, Nat.le_refl _⟩) hS (fun H locs hF hS => ?_)
              refine lv_if_ne (tgt := 103) hx hb dX5_tell_89 (by decide) (fun c24 => ?_) (fun c24 => ?_)
              · have h := iff0 h c24
                refine lv_bipush (v := (-4 : Int32)) hx hb dX5_tell_103 (by decide) ?_
                exact fw_iret hx hb hr hlk h hF hS dX5_tell_105
              · have h := ift h c24
                refine lv_aload hx hb dX5_tell_92 (lv_at hl 0 rfl) ?_
                refine fw_get (C := RX1) (T := TX1) (N := 15) (ci := 1) (v := .int (g22 13 (a0.toNatClampNeg) 8)) hx hb hL1 hown hE hF (b13 hn (vpl k13)) (cm13 κ _ _) rfl 8 (by decide) kw5 rfl dX5_tell_94 ?_
                refine lv_sipush (v := (200 : Int32)) hx hb dX5_tell_97 (by decide) ?_
                refine lv_icmp_lt (tgt := 106) hx hb dX5_tell_100 (by decide) (fun c25 => ?_) (fun c25 => ?_)
                · have h := ift h c25
                  refine lv_aload hx hb dX5_tell_106 (lv_at hl 0 rfl) ?_
                  refine lv_dup hx hb dX5_tell_108 rfl ?_
                  refine fw_get (C := RX1) (T := TX1) (N := 15) (ci := 1) (v := .int (g22 13 (a0.toNatClampNeg) 8)) hx hb hL1 hown hE hF (b13 hn (vpl k13)) (cm13 κ _ _) rfl 8 (by decide) kw5 rfl dX5_tell_109 ?_
                  refine lv_iconst (v := (1 : Int32)) hx hb dX5_tell_112 (by decide) ?_
                  refine lv_iadd hx hb dX5_tell_113 ?_
                  refine fw_put (C := RX1) (T := TX1) (N := 15) (ci := 1) (ty := .int) (v := .int ((g22 13 (a0.toNatClampNeg) 8) + ((1 : Int32)))) (r := upd (g22 13 (a0.toNatClampNeg)) 8 ((g22 13 (a0.toNatClampNeg) 8) + ((1 : Int32)))) hx hb hL1 tyX1 tyX1_ok nmX1 hown hE hok hF hS (b13 hn (vpl k13)) (cm13 κ _ _) rfl 8 (by decide) kw5 rfl (tyX1_ok 8 (by decide)) rfl rfl (Nat.le_of_ble_eq_true rfl) rfl dX5_tell_114 (fun H locs hF hS => ?_)
                  obtain ⟨g26, e27, h⟩ := ltm_e h
                  rw [e27] at hF
                  refine lv_iload_n hx hb dX5_tell_117 rfl (lv_at hl 2 rfl) ?_
                  refine lv_aload hx hb dX5_tell_118 (lv_at hl 0 rfl) ?_
                  refine fw_get (C := RX1) (T := TX1) (N := 15) (ci := 1) (v := .int (g26 13 (a0.toNatClampNeg) 8)) hx hb hL1 hown hE hF (b13 hn (vpl k13)) (cm13 κ _ _) rfl 8 (by decide) kw5 rfl dX5_tell_120 ?_
                  obtain ⟨r29, q28, h⟩ := bnd h
                  try dsimp only at h
                  refine pw_call (va_runS (As := [.int a0, .int (g26 13 (a0.toNatClampNeg) 8)]) (rest := []) ⟨hx, hb, hml, hown, hts⟩ (c_X2_place l q28) (va_cwS 2 hts gX5_tell_X2_place rfl rfl rfl qs_X2_place ⟨Nat.le_of_ble_eq_true rfl, Nat.le_of_ble_eq_true rfl⟩) preEq rfl rfl hl.1 rfl (lv_room (Nat.le_of_ble_eq_true rfl)) dX5_tell_123 ⟨Nat.le_refl _, Nat.le_refl _⟩) ?_
                  refine lv_istore (lv' := [(6, .int r29), (5, .ref (fa (cφ κ) 13 (a0.toNatClampNeg))), (0, .ref (fa (cφ κ) 0 0)), (1, .int a0), (2, .int a1), (3, .int a2), (4, .int a3)]) hx hb dX5_tell_126 hl (by decide) rfl (fun ls hl => ?_)
                  refine lv_aload_n hx hb dX5_tell_128 rfl (lv_at hl 2 rfl) ?_
                  refine fw_get (C := RX5) (T := TX5) (N := 2) (ci := 5) (v := .ref (fa (cφ κ) 2 0)) hx hb hL5 hown hE hF (b0 hn) (cm0 κ _ _) rfl 0 (by decide) kw1 rfl dX5_tell_129 ?_
                  refine fw_get (C := RX4) (T := TX4) (N := 11) (ci := 4) (v := .ref (fa (cφ κ) 4 0)) hx hb hL4 hown hE hF (b2 hn) (cm2 κ _ _) rfl 1 (by decide) kw6 rfl dX5_tell_132 ?_
                  refine lv_iload hx hb dX5_tell_135 (lv_at hl 0 rfl) ?_
                  refine lv_aload_n hx hb dX5_tell_137 rfl (lv_at hl 2 rfl) ?_
                  refine fw_get (C := RX5) (T := TX5) (N := 2) (ci := 5) (v := .ref (fa (cφ κ) 2 0)) hx hb hL5 hown hE hF (b0 hn) (cm0 κ _ _) rfl 0 (by decide) kw1 rfl dX5_tell_138 ?_
                  refine lv_iload_n hx hb dX5_tell_141 rfl (lv_at hl 3 rfl) ?_
                  obtain ⟨⟨r31, g32⟩, q30, h⟩ := bnd h
                  try dsimp only at h
                  refine fw_calli (va_runV (As := [.int a0]) (rest := [.int r29, .ref (fa (cφ κ) 4 0)]) ⟨hx, hb, hml, hown, hts⟩ (c_X4_keyToTell l hok hn q30) (cwV 1 hts gX5_tell_X4_keyToTell rfl rfl rfl qv_X4_keyToTell ⟨Nat.le_of_ble_eq_true rfl, Nat.le_of_ble_eq_true rfl⟩) (fw_preV hok hE hF (b2 hn) (cm2 κ _ _) rfl) rfl rfl hl.1 rfl (lv_room (Nat.le_of_ble_eq_true rfl)) dX5_tell_142 ⟨Nat.le_refl _, Nat.le_refl _⟩) hS (fun H locs hF hS => ?_)
                  refine lv_iload_n hx hb dX5_tell_145 rfl (lv_at hl 4 rfl) ?_
                  refine lv_iload_n hx hb dX5_tell_146 rfl (lv_at hl 5 rfl) ?_
                  obtain ⟨⟨r35, g36⟩, q34, h⟩ := bnd h
                  try dsimp only at h
                  refine fw_callv (va_runV (As := [.int r29, .int r31, .int a1, .int a2]) (rest := []) ⟨hx, hb, hml, hown, hts⟩ (c_X2_write l hok hn q34) (cwV 4 hts gX5_tell_X2_write rfl rfl rfl qv_X2_write ⟨Nat.le_of_ble_eq_true rfl, Nat.le_of_ble_eq_true rfl⟩) (fw_preV hok hE hF (b4 hn) (cm4 κ _ _) rfl) rfl rfl hl.1 rfl (lv_room (Nat.le_of_ble_eq_true rfl)) dX5_tell_147 ⟨Nat.le_refl _, Nat.le_refl _⟩) hS (fun H locs hF hS => ?_)
                  refine lv_aload hx hb dX5_tell_150 (lv_at hl 1 rfl) ?_
                  refine fw_get (C := RX1) (T := TX1) (N := 15) (ci := 1) (v := .ref (fa (cφ κ) 16 (a0.toNatClampNeg))) hx hb hL1 hown hE hF (b13 hn (vpl k13)) (cm13 κ _ _) rfl 2 (by decide) kw7 rfl dX5_tell_152 ?_
                  refine lv_iload hx hb dX5_tell_155 (lv_at hl 0 rfl) ?_
                  refine lv_aload hx hb dX5_tell_157 (lv_at hl 1 rfl) ?_
                  refine fw_get (C := RX1) (T := TX1) (N := 15) (ci := 1) (v := .ref (fa (cφ κ) 14 (a0.toNatClampNeg))) hx hb hL1 hown hE hF (b13 hn (vpl k13)) (cm13 κ _ _) rfl 0 (by decide) kw8 rfl dX5_tell_159 ?_
                  refine lv_iconst (v := (2 : Int32)) hx hb dX5_tell_162 (by decide) ?_
                  refine fw_iald (q := 2) hx hb hE hF (b14 hn (vpl k13)) (cm14 κ _) 0 rfl (by decide) (by decide) dX5_tell_163 ?_
                  obtain ⟨⟨r40, g41⟩, q39, h⟩ := bnd h
                  try dsimp only at h
                  refine fw_callv (va_runV (As := [.int r29, .int (g36 14 (a0.toNatClampNeg) 2)]) (rest := []) ⟨hx, hb, hml, hown, hts⟩ (c_X3_addm l hok hn (vpl k13) q39) (cwV 2 hts gX5_tell_X3_add rfl rfl rfl qv_X3_add ⟨Nat.le_of_ble_eq_true rfl, Nat.le_of_ble_eq_true rfl⟩) (fw_preV hok hE hF (b16 hn (vpl k13)) (cm16 κ _ _) rfl) rfl rfl hl.1 rfl (lv_room (Nat.le_of_ble_eq_true rfl)) dX5_tell_164 ⟨Nat.le_refl _, Nat.le_refl _⟩) hS (fun H locs hF hS => ?_)
                  refine lv_aload_n hx hb dX5_tell_167 rfl (lv_at hl 2 rfl) ?_
                  refine fw_get (C := RX5) (T := TX5) (N := 2) (ci := 5) (v := .ref (fa (cφ κ) 2 0)) hx hb hL5 hown hE hF (b0 hn) (cm0 κ _ _) rfl 0 (by decide) kw1 rfl dX5_tell_168 ?_
                  refine fw_get (C := RX4) (T := TX4) (N := 11) (ci := 4) (v := .ref (fa (cφ κ) 8 0)) hx hb hL4 hown hE hF (b2 hn) (cm2 κ _ _) rfl 2 (by decide) kw4 rfl dX5_tell_171 ?_
                  refine lv_iload_n hx hb dX5_tell_174 rfl (lv_at hl 3 rfl) ?_
                  refine lv_aload_n hx hb dX5_tell_175 rfl (lv_at hl 2 rfl) ?_
                  refine fw_get (C := RX5) (T := TX5) (N := 2) (ci := 5) (v := .ref (fa (cφ κ) 2 0)) hx hb hL5 hown hE hF (b0 hn) (cm0 κ _ _) rfl 0 (by decide) kw1 rfl dX5_tell_176 ?_
                  refine fw_get (C := RX4) (T := TX4) (N := 11) (ci := 4) (v := .int (g41 2 0 3)) hx hb hL4 hown hE hF (b2 hn) (cm2 κ _ _) rfl 3 (by decide) kw9 rfl dX5_tell_179 ?_
                  refine lv_iconst (v := (1 : Int32)) hx hb dX5_tell_182 (by decide) ?_
                  refine lv_iadd hx hb dX5_tell_183 ?_
                  refine lv_iload hx hb dX5_tell_184 (lv_at hl 0 rfl) ?_
                  refine lv_iload hx hb dX5_tell_186 (lv_at hl 6 rfl) ?_
                  obtain ⟨⟨r44, g45⟩, q43, h⟩ := bnd h
                  try dsimp only at h
                  refine fw_callv (va_runV (As := [.int a0, .int ((g41 2 0 3) + ((1 : Int32))), .int r29, .int a3]) (rest := []) ⟨hx, hb, hml, hown, hts⟩ (c_X0_add l hok hn q43) (cwV 4 hts gX5_tell_X0_add rfl rfl rfl qv_X0_add ⟨Nat.le_of_ble_eq_true rfl, Nat.le_of_ble_eq_true rfl⟩) (fw_preV hok hE hF (b8 hn) (cm8 κ _ _) rfl) rfl rfl hl.1 rfl (lv_room (Nat.le_of_ble_eq_true rfl)) dX5_tell_188 ⟨Nat.le_refl _, Nat.le_refl _⟩) hS (fun H locs hF hS => ?_)
                  refine lv_aload hx hb dX5_tell_191 (lv_at hl 1 rfl) ?_
                  refine fw_get (C := RX1) (T := TX1) (N := 15) (ci := 1) (v := .int (g45 13 (a0.toNatClampNeg) 8)) hx hb hL1 hown hE hF (b13 hn (vpl k13)) (cm13 κ _ _) rfl 8 (by decide) kw5 rfl dX5_tell_193 ?_
                  exact fw_iret hx hb hr hlk h hF hS dX5_tell_196
                · have h := iff0 h c25
                  refine lv_bipush (v := (-4 : Int32)) hx hb dX5_tell_103 (by decide) ?_
                  exact fw_iret hx hb hr hlk h hF hS dX5_tell_105
            · have h := ift h c19
              refine lv_bipush (v := (-5 : Int32)) hx hb dX5_tell_76 (by decide) ?_
              exact fw_iret hx hb hr hlk h hF hS dX5_tell_78
          · have h := iff0 h c14
            refine lv_bipush (v := (-3 : Int32)) hx hb dX5_tell_62 (by decide) ?_
            exact fw_iret hx hb hr hlk h hF hS dX5_tell_64
        · have h := ift h c12
          refine lv_bipush (v := (-2 : Int32)) hx hb dX5_tell_40 (by decide) ?_
          exact fw_iret hx hb hr hlk h hF hS dX5_tell_42
  · have h := ift h c3
    refine lv_iconst (v := (-1 : Int32)) hx hb dX5_tell_7 (by decide) ?_
    exact fw_iret hx hb hr hlk h hF hS dX5_tell_8
def m_X5_replay (g : Mem) (a0 a1 a2 : Int32) : Option (Int32 × Mem) := (m_X5_isLamp a0).bind (fun r2 => (if r2 = 0 then some ((-1 : Int32), g) else (m_X5_isLamp a1).bind (fun r5 => (if r5 = 0 then some ((-1 : Int32), g) else if (a1 < 0 ∨ 10 ≤ a1.toNatClampNeg) then none else (m_X5_isBetween a2 ((1 : Int32)) (g 13 (a1.toNatClampNeg) 8)).bind (fun r9 => (if r9 = 0 then some ((-2 : Int32), g) else (m_X0_isFull g ).bind (fun (r12, g13) => (if r12 = 0 then (m_X2_place a1 a2).bind (fun r17 => (m_X0_add g13 (((10 : Int32)) + a0) ((g13 2 0 3) + ((1 : Int32))) r17 ((7 : Int32))).bind (fun (r19, g20) => some (g20 8 0 4, g20))) else some ((-4 : Int32), g13)))))))))
set_option maxHeartbeats 4000000 in
set_option maxRecDepth 100000 in
theorem c_X5_replay (l : Launch) {κ : Cx} (hok : fok (cφ κ)) (hn : 1 ≤ cn κ)  {g : Mem} {a0 a1 a2 : Int32} {u : Int32 × Mem} (h : m_X5_replay g a0 a1 a2 = some u) : fM l (cφ κ) yX5_replay wsX5_replay 2 44 [.ref (fa (cφ κ) 0 0), .int a0, .int a1, .int a2] g (some (.int u.1)) u.2 := by
  refine fM.of (cc := cX5_replay) (maxL := 4) (ret := (some .int)) [(0, .ref (fa (cφ κ) 0 0)), (1, .int a0), (2, .int a1), (3, .int a2)] (by decide) rfl (Nat.le_of_ble_eq_true rfl) rfl (fun p e s m below meth c ls hx hb hr hml hown hts hlk hE hF hS hl => ?_)
  replace hown : s.vm.findClass RX5 = some m.cls := hown
  have hL0 : ∀ w ∈ u_ws RX0 TX0 5, w.before ([.ref (fa (cφ κ) 0 0), .int a0, .int a1, .int a2] : List Value).toArray s = true := fun w hw => hts w (by
    unfold wsX5_replay
    simp only [List.mem_cons, List.mem_append]
    exact Or.inr (Or.inr hw))
  have hL1 : ∀ w ∈ u_ws RX1 TX1 15, w.before ([.ref (fa (cφ κ) 0 0), .int a0, .int a1, .int a2] : List Value).toArray s = true := fun w hw => hts w (by
    unfold wsX5_replay
    simp only [List.mem_cons, List.mem_append]
    exact Or.inr (Or.inl (Or.inr hw)))
  have hL4 : ∀ w ∈ u_ws RX4 TX4 11, w.before ([.ref (fa (cφ κ) 0 0), .int a0, .int a1, .int a2] : List Value).toArray s = true := fun w hw => hts w (by
    unfold wsX5_replay
    simp only [List.mem_cons, List.mem_append]
    exact Or.inr (Or.inl (Or.inl (Or.inr hw))))
  have hL5 : ∀ w ∈ u_ws RX5 TX5 2, w.before ([.ref (fa (cφ κ) 0 0), .int a0, .int a1, .int a2] : List Value).toArray s = true := fun w hw => hts w (by
    unfold wsX5_replay
    simp only [List.mem_cons, List.mem_append]
    exact Or.inr (Or.inl (Or.inl (Or.inl (Or.inr hw)))))
  have kw1 := hts (.fieldLink RX5 10 "MeshLamps" "mesh" "LMeshLamps$Mesh;") (List.mem_of_getElem? (i := 1) rfl)
  have kw2 := hts (.fieldLink RX5 28 "MeshLamps$Mesh" "lamps" "[LMeshLamps$Lamp;") (List.mem_of_getElem? (i := 2) rfl)
  have kw3 := hts (.fieldLink RX5 114 "MeshLamps$Lamp" "told" "I") (List.mem_of_getElem? (i := 3) rfl)
  have kw4 := hts (.fieldLink RX5 104 "MeshLamps$Mesh" "air" "LMeshLamps$Air;") (List.mem_of_getElem? (i := 4) rfl)
  have kw5 := hts (.fieldLink RX5 138 "MeshLamps$Mesh" "tick" "I") (List.mem_of_getElem? (i := 5) rfl)
  have kw6 := hts (.fieldLink RX5 143 "MeshLamps$Air" "size" "I") (List.mem_of_getElem? (i := 6) rfl)
  unfold m_X5_replay at h
  refine lv_iload_n hx hb dX5_replay_0 rfl (lv_at hl 1 rfl) ?_
  obtain ⟨r2, q1, h⟩ := bnd h
  try dsimp only at h
  refine pw_call (va_runS (As := [.int a0]) (rest := []) ⟨hx, hb, hml, hown, hts⟩ (c_X5_isLamp l q1) (va_cwS 1 hts gX5_replay_X5_isLamp rfl rfl rfl qs_X5_isLamp ⟨Nat.le_of_ble_eq_true rfl, Nat.le_of_ble_eq_true rfl⟩) preEq rfl rfl hl.1 rfl (lv_room (Nat.le_of_ble_eq_true rfl)) dX5_replay_1 ⟨Nat.le_refl _, Nat.le_refl _⟩) ?_
  refine lv_if_eq (tgt := 14) hx hb dX5_replay_4 (by decide) (fun c3 => ?_) (fun c3 => ?_)
  · have h := ift h c3
    refine lv_iconst (v := (-1 : Int32)) hx hb dX5_replay_14 (by decide) ?_
    exact fw_iret hx hb hr hlk h hF hS dX5_replay_15
  · have h := iff0 h c3
    refine lv_iload_n hx hb dX5_replay_7 rfl (lv_at hl 2 rfl) ?_
    obtain ⟨r5, q4, h⟩ := bnd h
    try dsimp only at h
    refine pw_call (va_runS (As := [.int a1]) (rest := []) ⟨hx, hb, hml, hown, hts⟩ (c_X5_isLamp l q4) (va_cwS 1 hts gX5_replay_X5_isLamp rfl rfl rfl qs_X5_isLamp ⟨Nat.le_of_ble_eq_true rfl, Nat.le_of_ble_eq_true rfl⟩) preEq rfl rfl hl.1 rfl (lv_room (Nat.le_of_ble_eq_true rfl)) dX5_replay_8 ⟨Nat.le_refl _, Nat.le_refl _⟩) ?_
    refine lv_if_ne (tgt := 16) hx hb dX5_replay_11 (by decide) (fun c6 => ?_) (fun c6 => ?_)
    · have h := iff0 h c6
      refine lv_iload_n hx hb dX5_replay_16 rfl (lv_at hl 3 rfl) ?_
      refine lv_iconst (v := (1 : Int32)) hx hb dX5_replay_17 (by decide) ?_
      refine lv_aload_n hx hb dX5_replay_18 rfl (lv_at hl 0 rfl) ?_
      refine fw_get (C := RX5) (T := TX5) (N := 2) (ci := 5) (v := .ref (fa (cφ κ) 2 0)) hx hb hL5 hown hE hF (b0 hn) (cm0 κ _ _) rfl 0 (by decide) kw1 rfl dX5_replay_19 ?_
      refine fw_get (C := RX4) (T := TX4) (N := 11) (ci := 4) (v := .ref (fa (cφ κ) 3 0)) hx hb hL4 hown hE hF (b2 hn) (cm2 κ _ _) rfl 0 (by decide) kw2 rfl dX5_replay_22 ?_
      refine lv_iload_n hx hb dX5_replay_25 rfl (lv_at hl 2 rfl) ?_
      obtain ⟨k7, h⟩ := ck h
      refine fw_aald (a := fa (cφ κ) 13 (a1.toNatClampNeg)) hx hb hE hF (b3 hn) (cm3 κ _ _) 1 rfl k7 rfl dX5_replay_26 ?_
      refine fw_get (C := RX1) (T := TX1) (N := 15) (ci := 1) (v := .int (g 13 (a1.toNatClampNeg) 8)) hx hb hL1 hown hE hF (b13 hn (vpl k7)) (cm13 κ _ _) rfl 8 (by decide) kw3 rfl dX5_replay_27 ?_
      obtain ⟨r9, q8, h⟩ := bnd h
      try dsimp only at h
      refine pw_call (va_runS (As := [.int a2, .int ((1 : Int32)), .int (g 13 (a1.toNatClampNeg) 8)]) (rest := []) ⟨hx, hb, hml, hown, hts⟩ (c_X5_isBetween l q8) (va_cwS 3 hts gX5_replay_X5_isBetween rfl rfl rfl qs_X5_isBetween ⟨Nat.le_of_ble_eq_true rfl, Nat.le_of_ble_eq_true rfl⟩) preEq rfl rfl hl.1 rfl (lv_room (Nat.le_of_ble_eq_true rfl)) dX5_replay_30 ⟨Nat.le_refl _, Nat.le_refl _⟩) ?_
      refine lv_if_ne (tgt := 39) hx hb dX5_replay_33 (by decide) (fun c10 => ?_) (fun c10 => ?_)
      · have h := iff0 h c10
        refine lv_aload_n hx hb dX5_replay_39 rfl (lv_at hl 0 rfl) ?_
        refine fw_get (C := RX5) (T := TX5) (N := 2) (ci := 5) (v := .ref (fa (cφ κ) 2 0)) hx hb hL5 hown hE hF (b0 hn) (cm0 κ _ _) rfl 0 (by decide) kw1 rfl dX5_replay_40 ?_
        refine fw_get (C := RX4) (T := TX4) (N := 11) (ci := 4) (v := .ref (fa (cφ κ) 8 0)) hx hb hL4 hown hE hF (b2 hn) (cm2 κ _ _) rfl 2 (by decide) kw4 rfl dX5_replay_43 ?_
        obtain ⟨⟨r12, g13⟩, q11, h⟩ := bnd h
        try dsimp only at h
        refine fw_calli (va_runV (As := []) (rest := []) ⟨hx, hb, hml, hown, hts⟩ (c_X0_isFull l hok hn q11) (cwV 0 hts gX5_replay_X0_isFull rfl rfl rfl qv_X0_isFull ⟨Nat.le_of_ble_eq_true rfl, Nat.le_of_ble_eq_true rfl⟩) (fw_preV hok hE hF (b8 hn) (cm8 κ _ _) rfl) rfl rfl hl.1 rfl (lv_room (Nat.le_of_ble_eq_true rfl)) dX5_replay_46 ⟨Nat.le_refl _, Nat.le_refl _⟩) hS (fun H locs hF hS => ?_)
        refine lv_if_eq (tgt := 55) hx hb dX5_replay_49 (by decide) (fun c15 => ?_) (fun c15 => ?_)
        · have h := ift h c15
          refine lv_aload_n hx hb dX5_replay_55 rfl (lv_at hl 0 rfl) ?_
          refine fw_get (C := RX5) (T := TX5) (N := 2) (ci := 5) (v := .ref (fa (cφ κ) 2 0)) hx hb hL5 hown hE hF (b0 hn) (cm0 κ _ _) rfl 0 (by decide) kw1 rfl dX5_replay_56 ?_
          refine fw_get (C := RX4) (T := TX4) (N := 11) (ci := 4) (v := .ref (fa (cφ κ) 8 0)) hx hb hL4 hown hE hF (b2 hn) (cm2 κ _ _) rfl 2 (by decide) kw4 rfl dX5_replay_59 ?_
          refine lv_bipush (v := (10 : Int32)) hx hb dX5_replay_62 (by decide) ?_
          refine lv_iload_n hx hb dX5_replay_64 rfl (lv_at hl 1 rfl) ?_
          refine lv_iadd hx hb dX5_replay_65 ?_
          refine lv_aload_n hx hb dX5_replay_66 rfl (lv_at hl 0 rfl) ?_
          refine fw_get (C := RX5) (T := TX5) (N := 2) (ci := 5) (v := .ref (fa (cφ κ) 2 0)) hx hb hL5 hown hE hF (b0 hn) (cm0 κ _ _) rfl 0 (by decide) kw1 rfl dX5_replay_67 ?_
          refine fw_get (C := RX4) (T := TX4) (N := 11) (ci := 4) (v := .int (g13 2 0 3)) hx hb hL4 hown hE hF (b2 hn) (cm2 κ _ _) rfl 3 (by decide) kw5 rfl dX5_replay_70 ?_
          refine lv_iconst (v := (1 : Int32)) hx hb dX5_replay_73 (by decide) ?_
          refine lv_iadd hx hb dX5_replay_74 ?_
          refine lv_iload_n hx hb dX5_replay_75 rfl (lv_at hl 2 rfl) ?_
          refine lv_iload_n hx hb dX5_replay_76 rfl (lv_at hl 3 rfl) ?_
          obtain ⟨r17, q16, h⟩ := bnd h
          try dsimp only at h
          refine pw_call (va_runS (As := [.int a1, .int a2]) (rest := [.int ((g13 2 0 3) + ((1 : Int32))), .int (((10 : Int32)) + a0), .ref (fa (cφ κ) 8 0)]) ⟨hx, hb, hml, hown, hts⟩ (c_X2_place l q16) (va_cwS 2 hts gX5_replay_X2_place rfl rfl rfl qs_X2_place ⟨Nat.le_of_ble_eq_true rfl, Nat.le_of_ble_eq_true rfl⟩) preEq rfl rfl hl.1 rfl (lv_room (Nat.le_of_ble_eq_true rfl)) dX5_replay_77 ⟨Nat.le_refl _, Nat.le_refl _⟩) ?_
          refine lv_bipush (v := (7 : Int32)) hx hb dX5_replay_80 (by decide) ?_
          obtain ⟨⟨r19, g20⟩, q18, h⟩ := bnd h
          try dsimp only at h
          refine fw_callv (va_runV (As := [.int (((10 : Int32)) + a0), .int ((g13 2 0 3) + ((1 : Int32))), .int r17, .int ((7 : Int32))]) (rest := []) ⟨hx, hb, hml, hown, hts⟩ (c_X0_add l hok hn q18) (cwV 4 hts gX5_replay_X0_add rfl rfl rfl qv_X0_add ⟨Nat.le_of_ble_eq_true rfl, Nat.le_of_ble_eq_true rfl⟩) (fw_preV hok hE hF (b8 hn) (cm8 κ _ _) rfl) rfl rfl hl.1 rfl (lv_room (Nat.le_of_ble_eq_true rfl)) dX5_replay_82 ⟨Nat.le_refl _, Nat.le_refl _⟩) hS (fun H locs hF hS => ?_)
          refine lv_aload_n hx hb dX5_replay_85 rfl (lv_at hl 0 rfl) ?_
          refine fw_get (C := RX5) (T := TX5) (N := 2) (ci := 5) (v := .ref (fa (cφ κ) 2 0)) hx hb hL5 hown hE hF (b0 hn) (cm0 κ _ _) rfl 0 (by decide) kw1 rfl dX5_replay_86 ?_
          refine fw_get (C := RX4) (T := TX4) (N := 11) (ci := 4) (v := .ref (fa (cφ κ) 8 0)) hx hb hL4 hown hE hF (b2 hn) (cm2 κ _ _) rfl 2 (by decide) kw4 rfl dX5_replay_89 ?_
          refine fw_get (C := RX0) (T := TX0) (N := 5) (ci := 0) (v := .int (g20 8 0 4)) hx hb hL0 hown hE hF (b8 hn) (cm8 κ _ _) rfl 4 (by decide) kw6 rfl dX5_replay_92 ?_
          exact fw_iret hx hb hr hlk h hF hS dX5_replay_95
        · have h := iff0 h c15
          refine lv_bipush (v := (-4 : Int32)) hx hb dX5_replay_52 (by decide) ?_
          exact fw_iret hx hb hr hlk h hF hS dX5_replay_54
      · have h := ift h c10
        refine lv_bipush (v := (-2 : Int32)) hx hb dX5_replay_36 (by decide) ?_
        exact fw_iret hx hb hr hlk h hF hS dX5_replay_38
    · have h := ift h c6
      refine lv_iconst (v := (-1 : Int32)) hx hb dX5_replay_14 (by decide) ?_
      exact fw_iret hx hb hr hlk h hF hS dX5_replay_15
def st_X5_pass_23 (F : Nat) (K : Mem → Int32 → Int32 → Int32 → Option (Int32 × Mem)) (g : Mem) (x1 x2 x3 : Int32) : Option (Int32 × Mem) := (if x1 ≤ x3 then some ((g 2 0 8) - x2, g) else (m_X4_passTick F g ).bind (fun (r6, g7) => K g7 x1 x2 (x3 + (1 : Int32))))
def lp_X5_pass_23 (F : Nat) : Nat → Mem → Int32 → Int32 → Int32 → Option (Int32 × Mem)
  | 0, _, _, _, _ => none
  | f + 1, g, x1, x2, x3 => st_X5_pass_23 F (lp_X5_pass_23 F f ) g x1 x2 x3
def m_X5_pass (F : Nat) (g : Mem) (a0 : Int32) : Option (Int32 × Mem) := (m_X5_isBetween a0 ((1 : Int32)) ((100 : Int32))).bind (fun r2 => (if r2 = 0 then some ((-2 : Int32), g) else lp_X5_pass_23 F F g a0 (g 2 0 8) ((0 : Int32))))
set_option maxHeartbeats 4000000 in
set_option maxRecDepth 100000 in
theorem c_X5_pass (l : Launch) {κ : Cx} (hok : fok (cφ κ)) (hn : 1 ≤ cn κ)  {F : Nat} {g : Mem} {a0 : Int32} {u : Int32 × Mem} (h : m_X5_pass F g a0 = some u) : fM l (cφ κ) yX5_pass wsX5_pass 7 169 [.ref (fa (cφ κ) 0 0), .int a0] g (some (.int u.1)) u.2 := by
  refine fM.of (cc := cX5_pass) (maxL := 4) (ret := (some .int)) [(0, .ref (fa (cφ κ) 0 0)), (1, .int a0)] (by decide) rfl (Nat.le_of_ble_eq_true rfl) rfl (fun p e s m below meth c ls hx hb hr hml hown hts hlk hE hF hS hl => ?_)
  replace hown : s.vm.findClass RX5 = some m.cls := hown
  have hL4 : ∀ w ∈ u_ws RX4 TX4 11, w.before ([.ref (fa (cφ κ) 0 0), .int a0] : List Value).toArray s = true := fun w hw => hts w (by
    unfold wsX5_pass
    simp only [List.mem_cons, List.mem_append]
    exact Or.inr (Or.inl (Or.inl (Or.inl (Or.inl (Or.inr hw))))))
  have hL5 : ∀ w ∈ u_ws RX5 TX5 2, w.before ([.ref (fa (cφ κ) 0 0), .int a0] : List Value).toArray s = true := fun w hw => hts w (by
    unfold wsX5_pass
    simp only [List.mem_cons, List.mem_append]
    exact Or.inr (Or.inl (Or.inl (Or.inl (Or.inl (Or.inl (Or.inr hw)))))))
  have kw1 := hts (.fieldLink RX5 10 "MeshLamps" "mesh" "LMeshLamps$Mesh;") (List.mem_of_getElem? (i := 1) rfl)
  have kw2 := hts (.fieldLink RX5 146 "MeshLamps$Mesh" "spoken" "I") (List.mem_of_getElem? (i := 2) rfl)
  unfold m_X5_pass at h
  refine lv_iload_n hx hb dX5_pass_0 rfl (lv_at hl 1 rfl) ?_
  refine lv_iconst (v := (1 : Int32)) hx hb dX5_pass_1 (by decide) ?_
  refine lv_bipush (v := (100 : Int32)) hx hb dX5_pass_2 (by decide) ?_
  obtain ⟨r2, q1, h⟩ := bnd h
  try dsimp only at h
  refine pw_call (va_runS (As := [.int a0, .int ((1 : Int32)), .int ((100 : Int32))]) (rest := []) ⟨hx, hb, hml, hown, hts⟩ (c_X5_isBetween l q1) (va_cwS 3 hts gX5_pass_X5_isBetween rfl rfl rfl qs_X5_isBetween ⟨Nat.le_of_ble_eq_true rfl, Nat.le_of_ble_eq_true rfl⟩) preEq rfl rfl hl.1 rfl (lv_room (Nat.le_of_ble_eq_true rfl)) dX5_pass_4 ⟨Nat.le_refl _, Nat.le_refl _⟩) ?_
  refine lv_if_ne (tgt := 13) hx hb dX5_pass_7 (by decide) (fun c3 => ?_) (fun c3 => ?_)
  · have h := iff0 h c3
    refine lv_aload_n hx hb dX5_pass_13 rfl (lv_at hl 0 rfl) ?_
    refine fw_get (C := RX5) (T := TX5) (N := 2) (ci := 5) (v := .ref (fa (cφ κ) 2 0)) hx hb hL5 hown hE hF (b0 hn) (cm0 κ _ _) rfl 0 (by decide) kw1 rfl dX5_pass_14 ?_
    refine fw_get (C := RX4) (T := TX4) (N := 11) (ci := 4) (v := .int (g 2 0 8)) hx hb hL4 hown hE hF (b2 hn) (cm2 κ _ _) rfl 8 (by decide) kw2 rfl dX5_pass_17 ?_
    refine lv_istore_n (lv' := [(2, .int (g 2 0 8)), (0, .ref (fa (cφ κ) 0 0)), (1, .int a0)]) hx hb dX5_pass_20 rfl hl (by decide) rfl (fun ls hl => ?_)
    refine lv_iconst (v := (0 : Int32)) hx hb dX5_pass_21 (by decide) ?_
    refine lv_istore_n (lv' := [(3, .int ((0 : Int32))), (2, .int (g 2 0 8)), (0, .ref (fa (cφ κ) 0 0)), (1, .int a0)]) hx hb dX5_pass_22 rfl hl (by decide) rfl (fun ls hl => ?_)
    have LOOP23 : ∀ (f : Nat) (g : Mem) (x1 x2 x3 : Int32) (H : Heap) (locs : List Loc) (ls : Array Slot), lp_X5_pass_23 F f g x1 x2 x3 = some u → fw (cφ κ) g H → va_S (fA (cφ κ)) s.heap H locs → lv_has ls 4 [(0, .ref (fa (cφ κ) 0 0)), (1, .int x1), (2, .int x2), (3, .int x3)] → W p l e ({ frames := 7, cells := 0, slots := 0, locals := 169 }) s m ([.ref (fa (cφ κ) 0 0), .int a0] : List Value).toArray below meth c H locs 0 0 (MQ below (fQ (cφ κ) (some (.int u.1)) u.2) ([.ref (fa (cφ κ) 0 0), .int a0] : List Value).toArray s 0 0 (fA (cφ κ))) (F0 m 23 ls []) := by
      intro f
      induction f with
      | zero => intro g x1 x2 x3 H locs ls h hF hS hl; cases h
      | succ f ih =>
        intro g x1 x2 x3 H locs ls h hF hS hl
        replace h : st_X5_pass_23 F (lp_X5_pass_23 F f ) g x1 x2 x3 = some u := h
        unfold st_X5_pass_23 at h
        refine lv_iload_n hx hb dX5_pass_23 rfl (lv_at hl 3 rfl) ?_
        refine lv_iload_n hx hb dX5_pass_24 rfl (lv_at hl 1 rfl) ?_
        refine lv_icmp_ge (tgt := 41) hx hb dX5_pass_25 (by decide) (fun c4 => ?_) (fun c4 => ?_)
        · have h := ift h c4
          refine lv_aload_n hx hb dX5_pass_41 rfl (lv_at hl 0 rfl) ?_
          refine fw_get (C := RX5) (T := TX5) (N := 2) (ci := 5) (v := .ref (fa (cφ κ) 2 0)) hx hb hL5 hown hE hF (b0 hn) (cm0 κ _ _) rfl 0 (by decide) kw1 rfl dX5_pass_42 ?_
          refine fw_get (C := RX4) (T := TX4) (N := 11) (ci := 4) (v := .int (g 2 0 8)) hx hb hL4 hown hE hF (b2 hn) (cm2 κ _ _) rfl 8 (by decide) kw2 rfl dX5_pass_45 ?_
          refine lv_iload_n hx hb dX5_pass_48 rfl (lv_at hl 2 rfl) ?_
          refine lv_isub hx hb dX5_pass_49 ?_
          exact fw_iret hx hb hr hlk h hF hS dX5_pass_50
        · have h := iff0 h c4
          refine lv_aload_n hx hb dX5_pass_28 rfl (lv_at hl 0 rfl) ?_
          refine fw_get (C := RX5) (T := TX5) (N := 2) (ci := 5) (v := .ref (fa (cφ κ) 2 0)) hx hb hL5 hown hE hF (b0 hn) (cm0 κ _ _) rfl 0 (by decide) kw1 rfl dX5_pass_29 ?_
          obtain ⟨⟨r6, g7⟩, q5, h⟩ := bnd h
          try dsimp only at h
          refine fw_callv (va_runV (As := []) (rest := []) ⟨hx, hb, hml, hown, hts⟩ (c_X4_passTick l hok hn q5) (cwV 0 hts gX5_pass_X4_passTick rfl rfl rfl qv_X4_passTick ⟨Nat.le_of_ble_eq_true rfl, Nat.le_of_ble_eq_true rfl⟩) (fw_preV hok hE hF (b2 hn) (cm2 κ _ _) rfl) rfl rfl hl.1 rfl (lv_room (Nat.le_of_ble_eq_true rfl)) dX5_pass_32 ⟨Nat.le_refl _, Nat.le_refl _⟩) hS (fun H locs hF hS => ?_)
          refine lv_iinc (v := x3 + (1 : Int32)) (lv' := [(3, .int (x3 + (1 : Int32))), (0, .ref (fa (cφ κ) 0 0)), (1, .int x1), (2, .int x2)]) hx hb dX5_pass_35 hl (k := 3) rfl rfl (by decide) rfl (fun ls hl => ?_)
          refine lv_goto (tgt := 23) hx hb dX5_pass_38 (by decide) ?_
          exact ih g7 x1 x2 (x3 + (1 : Int32)) H locs ls h hF hS (lv_sub hl [1, 2, 3, 0] rfl)
    exact LOOP23 F g a0 (g 2 0 8) ((0 : Int32)) _ _ ls h hF hS (lv_sub hl [2, 3, 1, 0] rfl)
  · have h := ift h c3
    refine lv_bipush (v := (-2 : Int32)) hx hb dX5_pass_10 (by decide) ?_
    exact fw_iret hx hb hr hlk h hF hS dX5_pass_12
def st_X5_settle_2 (F : Nat) (K : Mem → Int32 → Option (Int32 × Mem)) (g : Mem) (x1 : Int32) : Option (Int32 × Mem) := (if ((1000 : Int32)) ≤ x1 then some (x1, g) else (if (g 8 0 4) ≤ 0 then some (x1, g) else (m_X4_passTick F g ).bind (fun (r4, g5) => K g5 (x1 + (1 : Int32)))))
def lp_X5_settle_2 (F : Nat) : Nat → Mem → Int32 → Option (Int32 × Mem)
  | 0, _, _ => none
  | f + 1, g, x1 => st_X5_settle_2 F (lp_X5_settle_2 F f ) g x1
def m_X5_settle (F : Nat) (g : Mem) : Option (Int32 × Mem) := lp_X5_settle_2 F F g ((0 : Int32))
set_option maxHeartbeats 4000000 in
set_option maxRecDepth 100000 in
theorem c_X5_settle (l : Launch) {κ : Cx} (hok : fok (cφ κ)) (hn : 1 ≤ cn κ)  {F : Nat} {g : Mem} {u : Int32 × Mem} (h : m_X5_settle F g  = some u) : fM l (cφ κ) yX5_settle wsX5_settle 7 169 [.ref (fa (cφ κ) 0 0)] g (some (.int u.1)) u.2 := by
  refine fM.of (cc := cX5_settle) (maxL := 2) (ret := (some .int)) [(0, .ref (fa (cφ κ) 0 0))] (by decide) rfl (Nat.le_of_ble_eq_true rfl) rfl (fun p e s m below meth c ls hx hb hr hml hown hts hlk hE hF hS hl => ?_)
  replace hown : s.vm.findClass RX5 = some m.cls := hown
  have hL0 : ∀ w ∈ u_ws RX0 TX0 5, w.before ([.ref (fa (cφ κ) 0 0)] : List Value).toArray s = true := fun w hw => hts w (by
    unfold wsX5_settle
    simp only [List.mem_cons, List.mem_append]
    exact Or.inr (Or.inl (Or.inl (Or.inl (Or.inr hw)))))
  have hL4 : ∀ w ∈ u_ws RX4 TX4 11, w.before ([.ref (fa (cφ κ) 0 0)] : List Value).toArray s = true := fun w hw => hts w (by
    unfold wsX5_settle
    simp only [List.mem_cons, List.mem_append]
    exact Or.inr (Or.inl (Or.inl (Or.inl (Or.inl (Or.inr hw))))))
  have hL5 : ∀ w ∈ u_ws RX5 TX5 2, w.before ([.ref (fa (cφ κ) 0 0)] : List Value).toArray s = true := fun w hw => hts w (by
    unfold wsX5_settle
    simp only [List.mem_cons, List.mem_append]
    exact Or.inr (Or.inl (Or.inl (Or.inl (Or.inl (Or.inl (Or.inr hw)))))))
  have kw1 := hts (.fieldLink RX5 10 "MeshLamps" "mesh" "LMeshLamps$Mesh;") (List.mem_of_getElem? (i := 1) rfl)
  have kw2 := hts (.fieldLink RX5 104 "MeshLamps$Mesh" "air" "LMeshLamps$Air;") (List.mem_of_getElem? (i := 2) rfl)
  have kw3 := hts (.fieldLink RX5 143 "MeshLamps$Air" "size" "I") (List.mem_of_getElem? (i := 3) rfl)
  unfold m_X5_settle at h
  refine lv_iconst (v := (0 : Int32)) hx hb dX5_settle_0 (by decide) ?_
  refine lv_istore_n (lv' := [(1, .int ((0 : Int32))), (0, .ref (fa (cφ κ) 0 0))]) hx hb dX5_settle_1 rfl hl (by decide) rfl (fun ls hl => ?_)
  have LOOP2 : ∀ (f : Nat) (g : Mem) (x1 : Int32) (H : Heap) (locs : List Loc) (ls : Array Slot), lp_X5_settle_2 F f g x1 = some u → fw (cφ κ) g H → va_S (fA (cφ κ)) s.heap H locs → lv_has ls 2 [(0, .ref (fa (cφ κ) 0 0)), (1, .int x1)] → W p l e ({ frames := 7, cells := 0, slots := 0, locals := 169 }) s m ([.ref (fa (cφ κ) 0 0)] : List Value).toArray below meth c H locs 0 0 (MQ below (fQ (cφ κ) (some (.int u.1)) u.2) ([.ref (fa (cφ κ) 0 0)] : List Value).toArray s 0 0 (fA (cφ κ))) (F0 m 2 ls []) := by
    intro f
    induction f with
    | zero => intro g x1 H locs ls h hF hS hl; cases h
    | succ f ih =>
      intro g x1 H locs ls h hF hS hl
      replace h : st_X5_settle_2 F (lp_X5_settle_2 F f ) g x1 = some u := h
      unfold st_X5_settle_2 at h
      refine lv_iload_n hx hb dX5_settle_2 rfl (lv_at hl 1 rfl) ?_
      refine lv_sipush (v := (1000 : Int32)) hx hb dX5_settle_3 (by decide) ?_
      refine lv_icmp_ge (tgt := 35) hx hb dX5_settle_6 (by decide) (fun c1 => ?_) (fun c1 => ?_)
      · have h := ift h c1
        refine lv_iload_n hx hb dX5_settle_35 rfl (lv_at hl 1 rfl) ?_
        exact fw_iret hx hb hr hlk h hF hS dX5_settle_36
      · have h := iff0 h c1
        refine lv_aload_n hx hb dX5_settle_9 rfl (lv_at hl 0 rfl) ?_
        refine fw_get (C := RX5) (T := TX5) (N := 2) (ci := 5) (v := .ref (fa (cφ κ) 2 0)) hx hb hL5 hown hE hF (b0 hn) (cm0 κ _ _) rfl 0 (by decide) kw1 rfl dX5_settle_10 ?_
        refine fw_get (C := RX4) (T := TX4) (N := 11) (ci := 4) (v := .ref (fa (cφ κ) 8 0)) hx hb hL4 hown hE hF (b2 hn) (cm2 κ _ _) rfl 2 (by decide) kw2 rfl dX5_settle_13 ?_
        refine fw_get (C := RX0) (T := TX0) (N := 5) (ci := 0) (v := .int (g 8 0 4)) hx hb hL0 hown hE hF (b8 hn) (cm8 κ _ _) rfl 4 (by decide) kw3 rfl dX5_settle_16 ?_
        refine lv_if_le (tgt := 35) hx hb dX5_settle_19 (by decide) (fun c2 => ?_) (fun c2 => ?_)
        · have h := ift h c2
          refine lv_iload_n hx hb dX5_settle_35 rfl (lv_at hl 1 rfl) ?_
          exact fw_iret hx hb hr hlk h hF hS dX5_settle_36
        · have h := iff0 h c2
          refine lv_aload_n hx hb dX5_settle_22 rfl (lv_at hl 0 rfl) ?_
          refine fw_get (C := RX5) (T := TX5) (N := 2) (ci := 5) (v := .ref (fa (cφ κ) 2 0)) hx hb hL5 hown hE hF (b0 hn) (cm0 κ _ _) rfl 0 (by decide) kw1 rfl dX5_settle_23 ?_
          obtain ⟨⟨r4, g5⟩, q3, h⟩ := bnd h
          try dsimp only at h
          refine fw_callv (va_runV (As := []) (rest := []) ⟨hx, hb, hml, hown, hts⟩ (c_X4_passTick l hok hn q3) (cwV 0 hts gX5_settle_X4_passTick rfl rfl rfl qv_X4_passTick ⟨Nat.le_of_ble_eq_true rfl, Nat.le_of_ble_eq_true rfl⟩) (fw_preV hok hE hF (b2 hn) (cm2 κ _ _) rfl) rfl rfl hl.1 rfl (lv_room (Nat.le_of_ble_eq_true rfl)) dX5_settle_26 ⟨Nat.le_refl _, Nat.le_refl _⟩) hS (fun H locs hF hS => ?_)
          refine lv_iinc (v := x1 + (1 : Int32)) (lv' := [(1, .int (x1 + (1 : Int32))), (0, .ref (fa (cφ κ) 0 0))]) hx hb dX5_settle_29 hl (k := 1) rfl rfl (by decide) rfl (fun ls hl => ?_)
          refine lv_goto (tgt := 2) hx hb dX5_settle_32 (by decide) ?_
          exact ih g5 (x1 + (1 : Int32)) H locs ls h hF hS (lv_sub hl [1, 0] rfl)
  exact LOOP2 F g ((0 : Int32)) _ _ ls h hF hS (lv_sub hl [1, 0] rfl)
def m_X5_lamp (g : Mem) (a0 a1 : Int32) : Option (Int32 × Mem) := (m_X5_isLamp a0).bind (fun r2 => (if r2 = 0 then some ((-1 : Int32), g) else if (a0 < 0 ∨ 10 ≤ a0.toNatClampNeg) then none else (if a1 = 0 then some (g 13 (a0.toNatClampNeg) 5, g) else (if a1 = 1 then (m_X5_asNumber (g 13 (a0.toNatClampNeg) 6)).bind (fun r8 => some (r8, g)) else (if a1 = 2 then some (g 13 (a0.toNatClampNeg) 7, g) else (if a1 = 3 then some (g 13 (a0.toNatClampNeg) 8, g) else (if a1 = 4 then some (g 13 (a0.toNatClampNeg) 9, g) else (if a1 = 5 then some (g 13 (a0.toNatClampNeg) 10, g) else (if a1 = 6 then some (g 13 (a0.toNatClampNeg) 11, g) else (if a1 = 7 then some (g 13 (a0.toNatClampNeg) 12, g) else (if a1 = 8 then some (g 13 (a0.toNatClampNeg) 13, g) else (if a1 = 9 then some (g 13 (a0.toNatClampNeg) 14, g) else (if a1 = 10 then some (g 18 (a0.toNatClampNeg) 1, g) else (if a1 = 11 then some (g 16 (a0.toNatClampNeg) 1, g) else (if a1 = 12 then (m_J6_bitCount_0f7a4 (g 13 (a0.toNatClampNeg) 4)).bind (fun r21 => some (r21, g)) else some ((-2 : Int32), g))))))))))))))))
set_option maxHeartbeats 4000000 in
set_option maxRecDepth 100000 in
theorem c_X5_lamp (l : Launch) {κ : Cx} (hok : fok (cφ κ)) (hn : 1 ≤ cn κ)  {g : Mem} {a0 a1 : Int32} {u : Int32 × Mem} (h : m_X5_lamp g a0 a1 = some u) : fM l (cφ κ) yX5_lamp wsX5_lamp 2 42 [.ref (fa (cφ κ) 0 0), .int a0, .int a1] g (some (.int u.1)) u.2 := by
  refine fM.of (cc := cX5_lamp) (maxL := 4) (ret := (some .int)) [(0, .ref (fa (cφ κ) 0 0)), (1, .int a0), (2, .int a1)] (by decide) rfl (Nat.le_of_ble_eq_true rfl) rfl (fun p e s m below meth c ls hx hb hr hml hown hts hlk hE hF hS hl => ?_)
  replace hown : s.vm.findClass RX5 = some m.cls := hown
  have hL1 : ∀ w ∈ u_ws RX1 TX1 15, w.before ([.ref (fa (cφ κ) 0 0), .int a0, .int a1] : List Value).toArray s = true := fun w hw => hts w (by
    unfold wsX5_lamp
    simp only [List.mem_cons, List.mem_append]
    exact Or.inr (Or.inl (Or.inr hw)))
  have hL3 : ∀ w ∈ u_ws RX3 TX3 2, w.before ([.ref (fa (cφ κ) 0 0), .int a0, .int a1] : List Value).toArray s = true := fun w hw => hts w (by
    unfold wsX5_lamp
    simp only [List.mem_cons, List.mem_append]
    exact Or.inr (Or.inr hw))
  have hL4 : ∀ w ∈ u_ws RX4 TX4 11, w.before ([.ref (fa (cφ κ) 0 0), .int a0, .int a1] : List Value).toArray s = true := fun w hw => hts w (by
    unfold wsX5_lamp
    simp only [List.mem_cons, List.mem_append]
    exact Or.inr (Or.inl (Or.inl (Or.inr hw))))
  have hL5 : ∀ w ∈ u_ws RX5 TX5 2, w.before ([.ref (fa (cφ κ) 0 0), .int a0, .int a1] : List Value).toArray s = true := fun w hw => hts w (by
    unfold wsX5_lamp
    simp only [List.mem_cons, List.mem_append]
    exact Or.inr (Or.inl (Or.inl (Or.inl (Or.inr hw)))))
  have kw1 := hts (.fieldLink RX5 10 "MeshLamps" "mesh" "LMeshLamps$Mesh;") (List.mem_of_getElem? (i := 1) rfl)
  have kw2 := hts (.fieldLink RX5 28 "MeshLamps$Mesh" "lamps" "[LMeshLamps$Lamp;") (List.mem_of_getElem? (i := 2) rfl)
  have kw3 := hts (.fieldLink RX5 152 "MeshLamps$Lamp" "light" "I") (List.mem_of_getElem? (i := 3) rfl)
  have kw4 := hts (.fieldLink RX5 68 "MeshLamps$Lamp" "sleeps" "Z") (List.mem_of_getElem? (i := 4) rfl)
  have kw5 := hts (.fieldLink RX5 72 "MeshLamps$Lamp" "friend" "I") (List.mem_of_getElem? (i := 5) rfl)
  have kw6 := hts (.fieldLink RX5 114 "MeshLamps$Lamp" "told" "I") (List.mem_of_getElem? (i := 6) rfl)
  have kw7 := hts (.fieldLink RX5 155 "MeshLamps$Lamp" "took" "I") (List.mem_of_getElem? (i := 7) rfl)
  have kw8 := hts (.fieldLink RX5 158 "MeshLamps$Lamp" "refusedAsOld" "I") (List.mem_of_getElem? (i := 8) rfl)
  have kw9 := hts (.fieldLink RX5 161 "MeshLamps$Lamp" "hadStrange" "I") (List.mem_of_getElem? (i := 9) rfl)
  have kw10 := hts (.fieldLink RX5 164 "MeshLamps$Lamp" "hadStale" "I") (List.mem_of_getElem? (i := 10) rfl)
  have kw11 := hts (.fieldLink RX5 167 "MeshLamps$Lamp" "hadNew" "I") (List.mem_of_getElem? (i := 11) rfl)
  have kw12 := hts (.fieldLink RX5 170 "MeshLamps$Lamp" "spoke" "I") (List.mem_of_getElem? (i := 12) rfl)
  have kw13 := hts (.fieldLink RX5 75 "MeshLamps$Lamp" "kept" "LMeshLamps$Line;") (List.mem_of_getElem? (i := 13) rfl)
  have kw14 := hts (.fieldLink RX5 173 "MeshLamps$Line" "size" "I") (List.mem_of_getElem? (i := 14) rfl)
  have kw15 := hts (.fieldLink RX5 58 "MeshLamps$Lamp" "mind" "LMeshLamps$Line;") (List.mem_of_getElem? (i := 15) rfl)
  have kw16 := hts (.fieldLink RX5 32 "MeshLamps$Lamp" "links" "I") (List.mem_of_getElem? (i := 16) rfl)
  unfold m_X5_lamp at h
  refine lv_iload_n hx hb dX5_lamp_0 rfl (lv_at hl 1 rfl) ?_
  obtain ⟨r2, q1, h⟩ := bnd h
  try dsimp only at h
  refine pw_call (va_runS (As := [.int a0]) (rest := []) ⟨hx, hb, hml, hown, hts⟩ (c_X5_isLamp l q1) (va_cwS 1 hts gX5_lamp_X5_isLamp rfl rfl rfl qs_X5_isLamp ⟨Nat.le_of_ble_eq_true rfl, Nat.le_of_ble_eq_true rfl⟩) preEq rfl rfl hl.1 rfl (lv_room (Nat.le_of_ble_eq_true rfl)) dX5_lamp_1 ⟨Nat.le_refl _, Nat.le_refl _⟩) ?_
  refine lv_if_ne (tgt := 9) hx hb dX5_lamp_4 (by decide) (fun c3 => ?_) (fun c3 => ?_)
  · have h := iff0 h c3
    refine lv_aload_n hx hb dX5_lamp_9 rfl (lv_at hl 0 rfl) ?_
    refine fw_get (C := RX5) (T := TX5) (N := 2) (ci := 5) (v := .ref (fa (cφ κ) 2 0)) hx hb hL5 hown hE hF (b0 hn) (cm0 κ _ _) rfl 0 (by decide) kw1 rfl dX5_lamp_10 ?_
    refine fw_get (C := RX4) (T := TX4) (N := 11) (ci := 4) (v := .ref (fa (cφ κ) 3 0)) hx hb hL4 hown hE hF (b2 hn) (cm2 κ _ _) rfl 0 (by decide) kw2 rfl dX5_lamp_13 ?_
    refine lv_iload_n hx hb dX5_lamp_16 rfl (lv_at hl 1 rfl) ?_
    obtain ⟨k4, h⟩ := ck h
    refine fw_aald (a := fa (cφ κ) 13 (a0.toNatClampNeg)) hx hb hE hF (b3 hn) (cm3 κ _ _) 1 rfl k4 rfl dX5_lamp_17 ?_
    refine lv_astore_n (lv' := [(3, .ref (fa (cφ κ) 13 (a0.toNatClampNeg))), (0, .ref (fa (cφ κ) 0 0)), (1, .int a0), (2, .int a1)]) hx hb dX5_lamp_18 rfl hl (by decide) rfl (fun ls hl => ?_)
    refine lv_iload_n hx hb dX5_lamp_19 rfl (lv_at hl 3 rfl) ?_
    by_cases c5 : a1 = 0
    · refine lv_tableIn (tgt := 88) (off := 68) hx hb dX5_lamp_20 (by rw [c5]; decide) (by rw [c5]; decide) (by rw [c5]; rfl) (by decide) ?_
      have h := ift h c5
      refine lv_aload_n hx hb dX5_lamp_88 rfl (lv_at hl 0 rfl) ?_
      refine fw_get (C := RX1) (T := TX1) (N := 15) (ci := 1) (v := .int (g 13 (a0.toNatClampNeg) 5)) hx hb hL1 hown hE hF (b13 hn (vpl k4)) (cm13 κ _ _) rfl 5 (by decide) kw3 rfl dX5_lamp_89 ?_
      exact fw_iret hx hb hr hlk h hF hS dX5_lamp_92
    have h := iff0 h c5
    by_cases c6 : a1 = 1
    · refine lv_tableIn (tgt := 93) (off := 73) hx hb dX5_lamp_20 (by rw [c6]; decide) (by rw [c6]; decide) (by rw [c6]; rfl) (by decide) ?_
      have h := ift h c6
      refine lv_aload_n hx hb dX5_lamp_93 rfl (lv_at hl 0 rfl) ?_
      refine fw_get (C := RX1) (T := TX1) (N := 15) (ci := 1) (v := .int (g 13 (a0.toNatClampNeg) 6)) hx hb hL1 hown hE hF (b13 hn (vpl k4)) (cm13 κ _ _) rfl 6 (by decide) kw4 rfl dX5_lamp_94 ?_
      obtain ⟨r8, q7, h⟩ := bnd h
      try dsimp only at h
      refine pw_call (va_runS (As := [.int (g 13 (a0.toNatClampNeg) 6)]) (rest := []) ⟨hx, hb, hml, hown, hts⟩ (c_X5_asNumber l q7) (va_cwS 1 hts gX5_lamp_X5_asNumber rfl rfl rfl qs_X5_asNumber ⟨Nat.le_of_ble_eq_true rfl, Nat.le_of_ble_eq_true rfl⟩) preEq rfl rfl hl.1 rfl (lv_room (Nat.le_of_ble_eq_true rfl)) dX5_lamp_97 ⟨Nat.le_refl _, Nat.le_refl _⟩) ?_
      exact fw_iret hx hb hr hlk h hF hS dX5_lamp_100
    have h := iff0 h c6
    by_cases c9 : a1 = 2
    · refine lv_tableIn (tgt := 101) (off := 81) hx hb dX5_lamp_20 (by rw [c9]; decide) (by rw [c9]; decide) (by rw [c9]; rfl) (by decide) ?_
      have h := ift h c9
      refine lv_aload_n hx hb dX5_lamp_101 rfl (lv_at hl 0 rfl) ?_
      refine fw_get (C := RX1) (T := TX1) (N := 15) (ci := 1) (v := .int (g 13 (a0.toNatClampNeg) 7)) hx hb hL1 hown hE hF (b13 hn (vpl k4)) (cm13 κ _ _) rfl 7 (by decide) kw5 rfl dX5_lamp_102 ?_
      exact fw_iret hx hb hr hlk h hF hS dX5_lamp_105
    have h := iff0 h c9
    by_cases c10 : a1 = 3
    · refine lv_tableIn (tgt := 106) (off := 86) hx hb dX5_lamp_20 (by rw [c10]; decide) (by rw [c10]; decide) (by rw [c10]; rfl) (by decide) ?_
      have h := ift h c10
      refine lv_aload_n hx hb dX5_lamp_106 rfl (lv_at hl 0 rfl) ?_
      refine fw_get (C := RX1) (T := TX1) (N := 15) (ci := 1) (v := .int (g 13 (a0.toNatClampNeg) 8)) hx hb hL1 hown hE hF (b13 hn (vpl k4)) (cm13 κ _ _) rfl 8 (by decide) kw6 rfl dX5_lamp_107 ?_
      exact fw_iret hx hb hr hlk h hF hS dX5_lamp_110
    have h := iff0 h c10
    by_cases c11 : a1 = 4
    · refine lv_tableIn (tgt := 111) (off := 91) hx hb dX5_lamp_20 (by rw [c11]; decide) (by rw [c11]; decide) (by rw [c11]; rfl) (by decide) ?_
      have h := ift h c11
      refine lv_aload_n hx hb dX5_lamp_111 rfl (lv_at hl 0 rfl) ?_
      refine fw_get (C := RX1) (T := TX1) (N := 15) (ci := 1) (v := .int (g 13 (a0.toNatClampNeg) 9)) hx hb hL1 hown hE hF (b13 hn (vpl k4)) (cm13 κ _ _) rfl 9 (by decide) kw7 rfl dX5_lamp_112 ?_
      exact fw_iret hx hb hr hlk h hF hS dX5_lamp_115
    have h := iff0 h c11
    by_cases c12 : a1 = 5
    · refine lv_tableIn (tgt := 116) (off := 96) hx hb dX5_lamp_20 (by rw [c12]; decide) (by rw [c12]; decide) (by rw [c12]; rfl) (by decide) ?_
      have h := ift h c12
      refine lv_aload_n hx hb dX5_lamp_116 rfl (lv_at hl 0 rfl) ?_
      refine fw_get (C := RX1) (T := TX1) (N := 15) (ci := 1) (v := .int (g 13 (a0.toNatClampNeg) 10)) hx hb hL1 hown hE hF (b13 hn (vpl k4)) (cm13 κ _ _) rfl 10 (by decide) kw8 rfl dX5_lamp_117 ?_
      exact fw_iret hx hb hr hlk h hF hS dX5_lamp_120
    have h := iff0 h c12
    by_cases c13 : a1 = 6
    · refine lv_tableIn (tgt := 121) (off := 101) hx hb dX5_lamp_20 (by rw [c13]; decide) (by rw [c13]; decide) (by rw [c13]; rfl) (by decide) ?_
      have h := ift h c13
      refine lv_aload_n hx hb dX5_lamp_121 rfl (lv_at hl 0 rfl) ?_
      refine fw_get (C := RX1) (T := TX1) (N := 15) (ci := 1) (v := .int (g 13 (a0.toNatClampNeg) 11)) hx hb hL1 hown hE hF (b13 hn (vpl k4)) (cm13 κ _ _) rfl 11 (by decide) kw9 rfl dX5_lamp_122 ?_
      exact fw_iret hx hb hr hlk h hF hS dX5_lamp_125
    have h := iff0 h c13
    by_cases c14 : a1 = 7
    · refine lv_tableIn (tgt := 126) (off := 106) hx hb dX5_lamp_20 (by rw [c14]; decide) (by rw [c14]; decide) (by rw [c14]; rfl) (by decide) ?_
      have h := ift h c14
      refine lv_aload_n hx hb dX5_lamp_126 rfl (lv_at hl 0 rfl) ?_
      refine fw_get (C := RX1) (T := TX1) (N := 15) (ci := 1) (v := .int (g 13 (a0.toNatClampNeg) 12)) hx hb hL1 hown hE hF (b13 hn (vpl k4)) (cm13 κ _ _) rfl 12 (by decide) kw10 rfl dX5_lamp_127 ?_
      exact fw_iret hx hb hr hlk h hF hS dX5_lamp_130
    have h := iff0 h c14
    by_cases c15 : a1 = 8
    · refine lv_tableIn (tgt := 131) (off := 111) hx hb dX5_lamp_20 (by rw [c15]; decide) (by rw [c15]; decide) (by rw [c15]; rfl) (by decide) ?_
      have h := ift h c15
      refine lv_aload_n hx hb dX5_lamp_131 rfl (lv_at hl 0 rfl) ?_
      refine fw_get (C := RX1) (T := TX1) (N := 15) (ci := 1) (v := .int (g 13 (a0.toNatClampNeg) 13)) hx hb hL1 hown hE hF (b13 hn (vpl k4)) (cm13 κ _ _) rfl 13 (by decide) kw11 rfl dX5_lamp_132 ?_
      exact fw_iret hx hb hr hlk h hF hS dX5_lamp_135
    have h := iff0 h c15
    by_cases c16 : a1 = 9
    · refine lv_tableIn (tgt := 136) (off := 116) hx hb dX5_lamp_20 (by rw [c16]; decide) (by rw [c16]; decide) (by rw [c16]; rfl) (by decide) ?_
      have h := ift h c16
      refine lv_aload_n hx hb dX5_lamp_136 rfl (lv_at hl 0 rfl) ?_
      refine fw_get (C := RX1) (T := TX1) (N := 15) (ci := 1) (v := .int (g 13 (a0.toNatClampNeg) 14)) hx hb hL1 hown hE hF (b13 hn (vpl k4)) (cm13 κ _ _) rfl 14 (by decide) kw12 rfl dX5_lamp_137 ?_
      exact fw_iret hx hb hr hlk h hF hS dX5_lamp_140
    have h := iff0 h c16
    by_cases c17 : a1 = 10
    · refine lv_tableIn (tgt := 141) (off := 121) hx hb dX5_lamp_20 (by rw [c17]; decide) (by rw [c17]; decide) (by rw [c17]; rfl) (by decide) ?_
      have h := ift h c17
      refine lv_aload_n hx hb dX5_lamp_141 rfl (lv_at hl 0 rfl) ?_
      refine fw_get (C := RX1) (T := TX1) (N := 15) (ci := 1) (v := .ref (fa (cφ κ) 18 (a0.toNatClampNeg))) hx hb hL1 hown hE hF (b13 hn (vpl k4)) (cm13 κ _ _) rfl 3 (by decide) kw13 rfl dX5_lamp_142 ?_
      refine fw_get (C := RX3) (T := TX3) (N := 2) (ci := 3) (v := .int (g 18 (a0.toNatClampNeg) 1)) hx hb hL3 hown hE hF (b18 hn (vpl k4)) (cm18 κ _ _) rfl 1 (by decide) kw14 rfl dX5_lamp_145 ?_
      exact fw_iret hx hb hr hlk h hF hS dX5_lamp_148
    have h := iff0 h c17
    by_cases c18 : a1 = 11
    · refine lv_tableIn (tgt := 149) (off := 129) hx hb dX5_lamp_20 (by rw [c18]; decide) (by rw [c18]; decide) (by rw [c18]; rfl) (by decide) ?_
      have h := ift h c18
      refine lv_aload_n hx hb dX5_lamp_149 rfl (lv_at hl 0 rfl) ?_
      refine fw_get (C := RX1) (T := TX1) (N := 15) (ci := 1) (v := .ref (fa (cφ κ) 16 (a0.toNatClampNeg))) hx hb hL1 hown hE hF (b13 hn (vpl k4)) (cm13 κ _ _) rfl 2 (by decide) kw15 rfl dX5_lamp_150 ?_
      refine fw_get (C := RX3) (T := TX3) (N := 2) (ci := 3) (v := .int (g 16 (a0.toNatClampNeg) 1)) hx hb hL3 hown hE hF (b16 hn (vpl k4)) (cm16 κ _ _) rfl 1 (by decide) kw14 rfl dX5_lamp_153 ?_
      exact fw_iret hx hb hr hlk h hF hS dX5_lamp_156
    have h := iff0 h c18
    by_cases c19 : a1 = 12
    · refine lv_tableIn (tgt := 157) (off := 137) hx hb dX5_lamp_20 (by rw [c19]; decide) (by rw [c19]; decide) (by rw [c19]; rfl) (by decide) ?_
      have h := ift h c19
      refine lv_aload_n hx hb dX5_lamp_157 rfl (lv_at hl 0 rfl) ?_
      refine fw_get (C := RX1) (T := TX1) (N := 15) (ci := 1) (v := .int (g 13 (a0.toNatClampNeg) 4)) hx hb hL1 hown hE hF (b13 hn (vpl k4)) (cm13 κ _ _) rfl 4 (by decide) kw16 rfl dX5_lamp_158 ?_
      obtain ⟨r21, q20, h⟩ := bnd h
      try dsimp only at h
      refine pw_call (va_runS (As := [.int (g 13 (a0.toNatClampNeg) 4)]) (rest := []) ⟨hx, hb, hml, hown, hts⟩ (c_J6_bitCount_0f7a4 l q20) (va_cwS 1 hts gX5_lamp_J6_bitCount_0f7a4 rfl rfl rfl qs_J6_bitCount_0f7a4 ⟨Nat.le_of_ble_eq_true rfl, Nat.le_of_ble_eq_true rfl⟩) preEq rfl rfl hl.1 rfl (lv_room (Nat.le_of_ble_eq_true rfl)) dX5_lamp_161 ⟨Nat.le_refl _, Nat.le_refl _⟩) ?_
      exact fw_iret hx hb hr hlk h hF hS dX5_lamp_164
    have h := iff0 h c19
    refine lv_tableOut (tgt := 165) hx hb dX5_lamp_20 (by
      have z0 := lv_neT c5 (a := 0) rfl
      have z1 := lv_neT c6 (a := 1) rfl
      have z2 := lv_neT c9 (a := 2) rfl
      have z3 := lv_neT c10 (a := 3) rfl
      have z4 := lv_neT c11 (a := 4) rfl
      have z5 := lv_neT c12 (a := 5) rfl
      have z6 := lv_neT c13 (a := 6) rfl
      have z7 := lv_neT c14 (a := 7) rfl
      have z8 := lv_neT c15 (a := 8) rfl
      have z9 := lv_neT c16 (a := 9) rfl
      have z10 := lv_neT c17 (a := 10) rfl
      have z11 := lv_neT c18 (a := 11) rfl
      have z12 := lv_neT c19 (a := 12) rfl
      omega) (by decide) ?_
    refine lv_bipush (v := (-2 : Int32)) hx hb dX5_lamp_165 (by decide) ?_
    exact fw_iret hx hb hr hlk h hF hS dX5_lamp_167
  · have h := ift h c3
    refine lv_iconst (v := (-1 : Int32)) hx hb dX5_lamp_7 (by decide) ?_
    exact fw_iret hx hb hr hlk h hF hS dX5_lamp_8
def m_X5_taken (g : Mem) (a0 a1 : Int32) : Option (Int32 × Mem) := (m_X5_isLamp a0).bind (fun r2 => (if r2 = 0 then some ((-1 : Int32), g) else (m_X5_isLamp a1).bind (fun r5 => (if r5 = 0 then some ((-1 : Int32), g) else if (a0 < 0 ∨ 10 ≤ a0.toNatClampNeg) then none else if (a1 < 0 ∨ 10 ≤ a1.toNatClampNeg) then none else some (g 15 (a0.toNatClampNeg) (a1.toNatClampNeg), g)))))
set_option maxHeartbeats 4000000 in
set_option maxRecDepth 100000 in
theorem c_X5_taken (l : Launch) {κ : Cx} (hok : fok (cφ κ)) (hn : 1 ≤ cn κ)  {g : Mem} {a0 a1 : Int32} {u : Int32 × Mem} (h : m_X5_taken g a0 a1 = some u) : fM l (cφ κ) yX5_taken wsX5_taken 2 42 [.ref (fa (cφ κ) 0 0), .int a0, .int a1] g (some (.int u.1)) u.2 := by
  refine fM.of (cc := cX5_taken) (maxL := 3) (ret := (some .int)) [(0, .ref (fa (cφ κ) 0 0)), (1, .int a0), (2, .int a1)] (by decide) rfl (Nat.le_of_ble_eq_true rfl) rfl (fun p e s m below meth c ls hx hb hr hml hown hts hlk hE hF hS hl => ?_)
  replace hown : s.vm.findClass RX5 = some m.cls := hown
  have hL1 : ∀ w ∈ u_ws RX1 TX1 15, w.before ([.ref (fa (cφ κ) 0 0), .int a0, .int a1] : List Value).toArray s = true := fun w hw => hts w (by
    unfold wsX5_taken
    simp only [List.mem_cons, List.mem_append]
    exact Or.inr (Or.inr hw))
  have hL4 : ∀ w ∈ u_ws RX4 TX4 11, w.before ([.ref (fa (cφ κ) 0 0), .int a0, .int a1] : List Value).toArray s = true := fun w hw => hts w (by
    unfold wsX5_taken
    simp only [List.mem_cons, List.mem_append]
    exact Or.inr (Or.inl (Or.inr hw)))
  have hL5 : ∀ w ∈ u_ws RX5 TX5 2, w.before ([.ref (fa (cφ κ) 0 0), .int a0, .int a1] : List Value).toArray s = true := fun w hw => hts w (by
    unfold wsX5_taken
    simp only [List.mem_cons, List.mem_append]
    exact Or.inr (Or.inl (Or.inl (Or.inr hw))))
  have kw1 := hts (.fieldLink RX5 10 "MeshLamps" "mesh" "LMeshLamps$Mesh;") (List.mem_of_getElem? (i := 1) rfl)
  have kw2 := hts (.fieldLink RX5 28 "MeshLamps$Mesh" "lamps" "[LMeshLamps$Lamp;") (List.mem_of_getElem? (i := 2) rfl)
  have kw3 := hts (.fieldLink RX5 174 "MeshLamps$Lamp" "greatestTaken" "[I") (List.mem_of_getElem? (i := 3) rfl)
  unfold m_X5_taken at h
  refine lv_iload_n hx hb dX5_taken_0 rfl (lv_at hl 1 rfl) ?_
  obtain ⟨r2, q1, h⟩ := bnd h
  try dsimp only at h
  refine pw_call (va_runS (As := [.int a0]) (rest := []) ⟨hx, hb, hml, hown, hts⟩ (c_X5_isLamp l q1) (va_cwS 1 hts gX5_taken_X5_isLamp rfl rfl rfl qs_X5_isLamp ⟨Nat.le_of_ble_eq_true rfl, Nat.le_of_ble_eq_true rfl⟩) preEq rfl rfl hl.1 rfl (lv_room (Nat.le_of_ble_eq_true rfl)) dX5_taken_1 ⟨Nat.le_refl _, Nat.le_refl _⟩) ?_
  refine lv_if_eq (tgt := 14) hx hb dX5_taken_4 (by decide) (fun c3 => ?_) (fun c3 => ?_)
  · have h := ift h c3
    refine lv_iconst (v := (-1 : Int32)) hx hb dX5_taken_14 (by decide) ?_
    exact fw_iret hx hb hr hlk h hF hS dX5_taken_15
  · have h := iff0 h c3
    refine lv_iload_n hx hb dX5_taken_7 rfl (lv_at hl 2 rfl) ?_
    obtain ⟨r5, q4, h⟩ := bnd h
    try dsimp only at h
    refine pw_call (va_runS (As := [.int a1]) (rest := []) ⟨hx, hb, hml, hown, hts⟩ (c_X5_isLamp l q4) (va_cwS 1 hts gX5_taken_X5_isLamp rfl rfl rfl qs_X5_isLamp ⟨Nat.le_of_ble_eq_true rfl, Nat.le_of_ble_eq_true rfl⟩) preEq rfl rfl hl.1 rfl (lv_room (Nat.le_of_ble_eq_true rfl)) dX5_taken_8 ⟨Nat.le_refl _, Nat.le_refl _⟩) ?_
    refine lv_if_ne (tgt := 16) hx hb dX5_taken_11 (by decide) (fun c6 => ?_) (fun c6 => ?_)
    · have h := iff0 h c6
      refine lv_aload_n hx hb dX5_taken_16 rfl (lv_at hl 0 rfl) ?_
      refine fw_get (C := RX5) (T := TX5) (N := 2) (ci := 5) (v := .ref (fa (cφ κ) 2 0)) hx hb hL5 hown hE hF (b0 hn) (cm0 κ _ _) rfl 0 (by decide) kw1 rfl dX5_taken_17 ?_
      refine fw_get (C := RX4) (T := TX4) (N := 11) (ci := 4) (v := .ref (fa (cφ κ) 3 0)) hx hb hL4 hown hE hF (b2 hn) (cm2 κ _ _) rfl 0 (by decide) kw2 rfl dX5_taken_20 ?_
      refine lv_iload_n hx hb dX5_taken_23 rfl (lv_at hl 1 rfl) ?_
      obtain ⟨k7, h⟩ := ck h
      refine fw_aald (a := fa (cφ κ) 13 (a0.toNatClampNeg)) hx hb hE hF (b3 hn) (cm3 κ _ _) 1 rfl k7 rfl dX5_taken_24 ?_
      refine fw_get (C := RX1) (T := TX1) (N := 15) (ci := 1) (v := .ref (fa (cφ κ) 15 (a0.toNatClampNeg))) hx hb hL1 hown hE hF (b13 hn (vpl k7)) (cm13 κ _ _) rfl 1 (by decide) kw3 rfl dX5_taken_25 ?_
      refine lv_iload_n hx hb dX5_taken_28 rfl (lv_at hl 2 rfl) ?_
      obtain ⟨k8, h⟩ := ck h
      refine fw_iald (q := a1.toNatClampNeg) hx hb hE hF (b15 hn (vpl k7)) (cm15 κ _) 0 rfl k8 rfl dX5_taken_29 ?_
      exact fw_iret hx hb hr hlk h hF hS dX5_taken_30
    · have h := ift h c6
      refine lv_iconst (v := (-1 : Int32)) hx hb dX5_taken_14 (by decide) ?_
      exact fw_iret hx hb hr hlk h hF hS dX5_taken_15
def m_X5_mind (g : Mem) (a0 a1 a2 : Int32) : Option (Int32 × Mem) := (m_X5_isLamp a0).bind (fun r2 => (if r2 = 0 then some ((-1 : Int32), g) else (m_X5_isBetween a2 ((0 : Int32)) ((1 : Int32))).bind (fun r5 => (if r5 = 0 then some ((-2 : Int32), g) else if (a0 < 0 ∨ 10 ≤ a0.toNatClampNeg) then none else (m_X5_isBetween a1 ((0 : Int32)) ((g 16 (a0.toNatClampNeg) 1) - ((1 : Int32)))).bind (fun r9 => (if r9 = 0 then some ((-6 : Int32), g) else if (a1 < 0 ∨ 8 ≤ a1.toNatClampNeg) then none else (if a2 = 0 then (m_X2_sourceOf (g 17 (a0.toNatClampNeg) (a1.toNatClampNeg))).bind (fun r16 => some (r16, g)) else (m_X2_numberOf (g 17 (a0.toNatClampNeg) (a1.toNatClampNeg))).bind (fun r14 => some (r14, g)))))))))
set_option maxHeartbeats 4000000 in
set_option maxRecDepth 100000 in
theorem c_X5_mind (l : Launch) {κ : Cx} (hok : fok (cφ κ)) (hn : 1 ≤ cn κ)  {g : Mem} {a0 a1 a2 : Int32} {u : Int32 × Mem} (h : m_X5_mind g a0 a1 a2 = some u) : fM l (cφ κ) yX5_mind wsX5_mind 2 42 [.ref (fa (cφ κ) 0 0), .int a0, .int a1, .int a2] g (some (.int u.1)) u.2 := by
  refine fM.of (cc := cX5_mind) (maxL := 6) (ret := (some .int)) [(0, .ref (fa (cφ κ) 0 0)), (1, .int a0), (2, .int a1), (3, .int a2)] (by decide) rfl (Nat.le_of_ble_eq_true rfl) rfl (fun p e s m below meth c ls hx hb hr hml hown hts hlk hE hF hS hl => ?_)
  replace hown : s.vm.findClass RX5 = some m.cls := hown
  have hL1 : ∀ w ∈ u_ws RX1 TX1 15, w.before ([.ref (fa (cφ κ) 0 0), .int a0, .int a1, .int a2] : List Value).toArray s = true := fun w hw => hts w (by
    unfold wsX5_mind
    simp only [List.mem_cons, List.mem_append]
    exact Or.inr (Or.inl (Or.inr hw)))
  have hL3 : ∀ w ∈ u_ws RX3 TX3 2, w.before ([.ref (fa (cφ κ) 0 0), .int a0, .int a1, .int a2] : List Value).toArray s = true := fun w hw => hts w (by
    unfold wsX5_mind
    simp only [List.mem_cons, List.mem_append]
    exact Or.inr (Or.inr hw))
  have hL4 : ∀ w ∈ u_ws RX4 TX4 11, w.before ([.ref (fa (cφ κ) 0 0), .int a0, .int a1, .int a2] : List Value).toArray s = true := fun w hw => hts w (by
    unfold wsX5_mind
    simp only [List.mem_cons, List.mem_append]
    exact Or.inr (Or.inl (Or.inl (Or.inr hw))))
  have hL5 : ∀ w ∈ u_ws RX5 TX5 2, w.before ([.ref (fa (cφ κ) 0 0), .int a0, .int a1, .int a2] : List Value).toArray s = true := fun w hw => hts w (by
    unfold wsX5_mind
    simp only [List.mem_cons, List.mem_append]
    exact Or.inr (Or.inl (Or.inl (Or.inl (Or.inr hw)))))
  have kw1 := hts (.fieldLink RX5 10 "MeshLamps" "mesh" "LMeshLamps$Mesh;") (List.mem_of_getElem? (i := 1) rfl)
  have kw2 := hts (.fieldLink RX5 28 "MeshLamps$Mesh" "lamps" "[LMeshLamps$Lamp;") (List.mem_of_getElem? (i := 2) rfl)
  have kw3 := hts (.fieldLink RX5 58 "MeshLamps$Lamp" "mind" "LMeshLamps$Line;") (List.mem_of_getElem? (i := 3) rfl)
  have kw4 := hts (.fieldLink RX5 173 "MeshLamps$Line" "size" "I") (List.mem_of_getElem? (i := 4) rfl)
  have kw5 := hts (.fieldLink RX5 177 "MeshLamps$Line" "letters" "[I") (List.mem_of_getElem? (i := 5) rfl)
  unfold m_X5_mind at h
  refine lv_iload_n hx hb dX5_mind_0 rfl (lv_at hl 1 rfl) ?_
  obtain ⟨r2, q1, h⟩ := bnd h
  try dsimp only at h
  refine pw_call (va_runS (As := [.int a0]) (rest := []) ⟨hx, hb, hml, hown, hts⟩ (c_X5_isLamp l q1) (va_cwS 1 hts gX5_mind_X5_isLamp rfl rfl rfl qs_X5_isLamp ⟨Nat.le_of_ble_eq_true rfl, Nat.le_of_ble_eq_true rfl⟩) preEq rfl rfl hl.1 rfl (lv_room (Nat.le_of_ble_eq_true rfl)) dX5_mind_1 ⟨Nat.le_refl _, Nat.le_refl _⟩) ?_
  refine lv_if_ne (tgt := 9) hx hb dX5_mind_4 (by decide) (fun c3 => ?_) (fun c3 => ?_)
  · have h := iff0 h c3
    refine lv_iload_n hx hb dX5_mind_9 rfl (lv_at hl 3 rfl) ?_
    refine lv_iconst (v := (0 : Int32)) hx hb dX5_mind_10 (by decide) ?_
    refine lv_iconst (v := (1 : Int32)) hx hb dX5_mind_11 (by decide) ?_
    obtain ⟨r5, q4, h⟩ := bnd h
    try dsimp only at h
    refine pw_call (va_runS (As := [.int a2, .int ((0 : Int32)), .int ((1 : Int32))]) (rest := []) ⟨hx, hb, hml, hown, hts⟩ (c_X5_isBetween l q4) (va_cwS 3 hts gX5_mind_X5_isBetween rfl rfl rfl qs_X5_isBetween ⟨Nat.le_of_ble_eq_true rfl, Nat.le_of_ble_eq_true rfl⟩) preEq rfl rfl hl.1 rfl (lv_room (Nat.le_of_ble_eq_true rfl)) dX5_mind_12 ⟨Nat.le_refl _, Nat.le_refl _⟩) ?_
    refine lv_if_ne (tgt := 21) hx hb dX5_mind_15 (by decide) (fun c6 => ?_) (fun c6 => ?_)
    · have h := iff0 h c6
      refine lv_aload_n hx hb dX5_mind_21 rfl (lv_at hl 0 rfl) ?_
      refine fw_get (C := RX5) (T := TX5) (N := 2) (ci := 5) (v := .ref (fa (cφ κ) 2 0)) hx hb hL5 hown hE hF (b0 hn) (cm0 κ _ _) rfl 0 (by decide) kw1 rfl dX5_mind_22 ?_
      refine fw_get (C := RX4) (T := TX4) (N := 11) (ci := 4) (v := .ref (fa (cφ κ) 3 0)) hx hb hL4 hown hE hF (b2 hn) (cm2 κ _ _) rfl 0 (by decide) kw2 rfl dX5_mind_25 ?_
      refine lv_iload_n hx hb dX5_mind_28 rfl (lv_at hl 1 rfl) ?_
      obtain ⟨k7, h⟩ := ck h
      refine fw_aald (a := fa (cφ κ) 13 (a0.toNatClampNeg)) hx hb hE hF (b3 hn) (cm3 κ _ _) 1 rfl k7 rfl dX5_mind_29 ?_
      refine fw_get (C := RX1) (T := TX1) (N := 15) (ci := 1) (v := .ref (fa (cφ κ) 16 (a0.toNatClampNeg))) hx hb hL1 hown hE hF (b13 hn (vpl k7)) (cm13 κ _ _) rfl 2 (by decide) kw3 rfl dX5_mind_30 ?_
      refine lv_astore (lv' := [(4, .ref (fa (cφ κ) 16 (a0.toNatClampNeg))), (0, .ref (fa (cφ κ) 0 0)), (1, .int a0), (2, .int a1), (3, .int a2)]) hx hb dX5_mind_33 hl (by decide) rfl (fun ls hl => ?_)
      refine lv_iload_n hx hb dX5_mind_35 rfl (lv_at hl 3 rfl) ?_
      refine lv_iconst (v := (0 : Int32)) hx hb dX5_mind_36 (by decide) ?_
      refine lv_aload hx hb dX5_mind_37 (lv_at hl 0 rfl) ?_
      refine fw_get (C := RX3) (T := TX3) (N := 2) (ci := 3) (v := .int (g 16 (a0.toNatClampNeg) 1)) hx hb hL3 hown hE hF (b16 hn (vpl k7)) (cm16 κ _ _) rfl 1 (by decide) kw4 rfl dX5_mind_39 ?_
      refine lv_iconst (v := (1 : Int32)) hx hb dX5_mind_42 (by decide) ?_
      refine lv_isub hx hb dX5_mind_43 ?_
      obtain ⟨r9, q8, h⟩ := bnd h
      try dsimp only at h
      refine pw_call (va_runS (As := [.int a1, .int ((0 : Int32)), .int ((g 16 (a0.toNatClampNeg) 1) - ((1 : Int32)))]) (rest := []) ⟨hx, hb, hml, hown, hts⟩ (c_X5_isBetween l q8) (va_cwS 3 hts gX5_mind_X5_isBetween rfl rfl rfl qs_X5_isBetween ⟨Nat.le_of_ble_eq_true rfl, Nat.le_of_ble_eq_true rfl⟩) preEq rfl rfl hl.1 rfl (lv_room (Nat.le_of_ble_eq_true rfl)) dX5_mind_44 ⟨Nat.le_refl _, Nat.le_refl _⟩) ?_
      refine lv_if_ne (tgt := 53) hx hb dX5_mind_47 (by decide) (fun c10 => ?_) (fun c10 => ?_)
      · have h := iff0 h c10
        refine lv_aload hx hb dX5_mind_53 (lv_at hl 0 rfl) ?_
        refine fw_get (C := RX3) (T := TX3) (N := 2) (ci := 3) (v := .ref (fa (cφ κ) 17 (a0.toNatClampNeg))) hx hb hL3 hown hE hF (b16 hn (vpl k7)) (cm16 κ _ _) rfl 0 (by decide) kw5 rfl dX5_mind_55 ?_
        refine lv_iload_n hx hb dX5_mind_58 rfl (lv_at hl 3 rfl) ?_
        obtain ⟨k11, h⟩ := ck h
        refine fw_iald (q := a1.toNatClampNeg) hx hb hE hF (b17 hn (vpl k7)) (cm17 κ _) 0 rfl k11 rfl dX5_mind_59 ?_
        refine lv_istore (lv' := [(5, .int (g 17 (a0.toNatClampNeg) (a1.toNatClampNeg))), (4, .ref (fa (cφ κ) 16 (a0.toNatClampNeg))), (0, .ref (fa (cφ κ) 0 0)), (1, .int a0), (2, .int a1), (3, .int a2)]) hx hb dX5_mind_60 hl (by decide) rfl (fun ls hl => ?_)
        refine lv_iload_n hx hb dX5_mind_62 rfl (lv_at hl 5 rfl) ?_
        refine lv_if_ne (tgt := 74) hx hb dX5_mind_63 (by decide) (fun c12 => ?_) (fun c12 => ?_)
        · have h := iff0 h c12
          refine lv_iload hx hb dX5_mind_74 (lv_at hl 0 rfl) ?_
          obtain ⟨r14, q13, h⟩ := bnd h
          try dsimp only at h
          refine pw_call (va_runS (As := [.int (g 17 (a0.toNatClampNeg) (a1.toNatClampNeg))]) (rest := []) ⟨hx, hb, hml, hown, hts⟩ (c_X2_numberOf l q13) (va_cwS 1 hts gX5_mind_X2_numberOf rfl rfl rfl qs_X2_numberOf ⟨Nat.le_of_ble_eq_true rfl, Nat.le_of_ble_eq_true rfl⟩) preEq rfl rfl hl.1 rfl (lv_room (Nat.le_of_ble_eq_true rfl)) dX5_mind_76 ⟨Nat.le_refl _, Nat.le_refl _⟩) ?_
          exact fw_iret hx hb hr hlk h hF hS dX5_mind_79
        · have h := ift h c12
          refine lv_iload hx hb dX5_mind_66 (lv_at hl 0 rfl) ?_
          obtain ⟨r16, q15, h⟩ := bnd h
          try dsimp only at h
          refine pw_call (va_runS (As := [.int (g 17 (a0.toNatClampNeg) (a1.toNatClampNeg))]) (rest := []) ⟨hx, hb, hml, hown, hts⟩ (c_X2_sourceOf l q15) (va_cwS 1 hts gX5_mind_X2_sourceOf rfl rfl rfl qs_X2_sourceOf ⟨Nat.le_of_ble_eq_true rfl, Nat.le_of_ble_eq_true rfl⟩) preEq rfl rfl hl.1 rfl (lv_room (Nat.le_of_ble_eq_true rfl)) dX5_mind_68 ⟨Nat.le_refl _, Nat.le_refl _⟩) ?_
          refine lv_goto (tgt := 79) hx hb dX5_mind_71 (by decide) ?_
          exact fw_iret hx hb hr hlk h hF hS dX5_mind_79
      · have h := ift h c10
        refine lv_bipush (v := (-6 : Int32)) hx hb dX5_mind_50 (by decide) ?_
        exact fw_iret hx hb hr hlk h hF hS dX5_mind_52
    · have h := ift h c6
      refine lv_bipush (v := (-2 : Int32)) hx hb dX5_mind_18 (by decide) ?_
      exact fw_iret hx hb hr hlk h hF hS dX5_mind_20
  · have h := ift h c3
    refine lv_iconst (v := (-1 : Int32)) hx hb dX5_mind_7 (by decide) ?_
    exact fw_iret hx hb hr hlk h hF hS dX5_mind_8
def m_X5_air (g : Mem) (a0 a1 : Int32) : Option (Int32 × Mem) := (m_X5_isBetween a1 ((0 : Int32)) ((4 : Int32))).bind (fun r2 => (if r2 = 0 then some ((-2 : Int32), g) else (m_X5_isBetween a0 ((0 : Int32)) ((g 8 0 4) - ((1 : Int32)))).bind (fun r5 => (if r5 = 0 then some ((-6 : Int32), g) else (if a1 = 0 then if (a0 < 0 ∨ 64 ≤ a0.toNatClampNeg) then none else some (g 9 0 (a0.toNatClampNeg), g) else (if a1 = 1 then if (a0 < 0 ∨ 64 ≤ a0.toNatClampNeg) then none else some (g 10 0 (a0.toNatClampNeg), g) else (if a1 = 2 then if (a0 < 0 ∨ 64 ≤ a0.toNatClampNeg) then none else (m_X2_sourceOf (g 11 0 (a0.toNatClampNeg))).bind (fun r14 => some (r14, g)) else (if a1 = 3 then if (a0 < 0 ∨ 64 ≤ a0.toNatClampNeg) then none else (m_X2_numberOf (g 11 0 (a0.toNatClampNeg))).bind (fun r18 => some (r18, g)) else if (a0 < 0 ∨ 64 ≤ a0.toNatClampNeg) then none else some (g 12 0 (a0.toNatClampNeg), g)))))))))
set_option maxHeartbeats 4000000 in
set_option maxRecDepth 100000 in
theorem c_X5_air (l : Launch) {κ : Cx} (hok : fok (cφ κ)) (hn : 1 ≤ cn κ)  {g : Mem} {a0 a1 : Int32} {u : Int32 × Mem} (h : m_X5_air g a0 a1 = some u) : fM l (cφ κ) yX5_air wsX5_air 1 22 [.ref (fa (cφ κ) 0 0), .int a0, .int a1] g (some (.int u.1)) u.2 := by
  refine fM.of (cc := cX5_air) (maxL := 4) (ret := (some .int)) [(0, .ref (fa (cφ κ) 0 0)), (1, .int a0), (2, .int a1)] (by decide) rfl (Nat.le_of_ble_eq_true rfl) rfl (fun p e s m below meth c ls hx hb hr hml hown hts hlk hE hF hS hl => ?_)
  replace hown : s.vm.findClass RX5 = some m.cls := hown
  have hL0 : ∀ w ∈ u_ws RX0 TX0 5, w.before ([.ref (fa (cφ κ) 0 0), .int a0, .int a1] : List Value).toArray s = true := fun w hw => hts w (by
    unfold wsX5_air
    simp only [List.mem_cons, List.mem_append]
    exact Or.inr (Or.inr hw))
  have hL4 : ∀ w ∈ u_ws RX4 TX4 11, w.before ([.ref (fa (cφ κ) 0 0), .int a0, .int a1] : List Value).toArray s = true := fun w hw => hts w (by
    unfold wsX5_air
    simp only [List.mem_cons, List.mem_append]
    exact Or.inr (Or.inl (Or.inr hw)))
  have hL5 : ∀ w ∈ u_ws RX5 TX5 2, w.before ([.ref (fa (cφ κ) 0 0), .int a0, .int a1] : List Value).toArray s = true := fun w hw => hts w (by
    unfold wsX5_air
    simp only [List.mem_cons, List.mem_append]
    exact Or.inr (Or.inl (Or.inl (Or.inr hw))))
  have kw1 := hts (.fieldLink RX5 10 "MeshLamps" "mesh" "LMeshLamps$Mesh;") (List.mem_of_getElem? (i := 1) rfl)
  have kw2 := hts (.fieldLink RX5 104 "MeshLamps$Mesh" "air" "LMeshLamps$Air;") (List.mem_of_getElem? (i := 2) rfl)
  have kw3 := hts (.fieldLink RX5 143 "MeshLamps$Air" "size" "I") (List.mem_of_getElem? (i := 3) rfl)
  have kw4 := hts (.fieldLink RX5 185 "MeshLamps$Air" "speaker" "[I") (List.mem_of_getElem? (i := 4) rfl)
  have kw5 := hts (.fieldLink RX5 188 "MeshLamps$Air" "tick" "[I") (List.mem_of_getElem? (i := 5) rfl)
  have kw6 := hts (.fieldLink RX5 190 "MeshLamps$Air" "letter" "[I") (List.mem_of_getElem? (i := 6) rfl)
  have kw7 := hts (.fieldLink RX5 193 "MeshLamps$Air" "steps" "[I") (List.mem_of_getElem? (i := 7) rfl)
  unfold m_X5_air at h
  refine lv_iload_n hx hb dX5_air_0 rfl (lv_at hl 2 rfl) ?_
  refine lv_iconst (v := (0 : Int32)) hx hb dX5_air_1 (by decide) ?_
  refine lv_iconst (v := (4 : Int32)) hx hb dX5_air_2 (by decide) ?_
  obtain ⟨r2, q1, h⟩ := bnd h
  try dsimp only at h
  refine pw_call (va_runS (As := [.int a1, .int ((0 : Int32)), .int ((4 : Int32))]) (rest := []) ⟨hx, hb, hml, hown, hts⟩ (c_X5_isBetween l q1) (va_cwS 3 hts gX5_air_X5_isBetween rfl rfl rfl qs_X5_isBetween ⟨Nat.le_of_ble_eq_true rfl, Nat.le_of_ble_eq_true rfl⟩) preEq rfl rfl hl.1 rfl (lv_room (Nat.le_of_ble_eq_true rfl)) dX5_air_3 ⟨Nat.le_refl _, Nat.le_refl _⟩) ?_
  refine lv_if_ne (tgt := 12) hx hb dX5_air_6 (by decide) (fun c3 => ?_) (fun c3 => ?_)
  · have h := iff0 h c3
    refine lv_aload_n hx hb dX5_air_12 rfl (lv_at hl 0 rfl) ?_
    refine fw_get (C := RX5) (T := TX5) (N := 2) (ci := 5) (v := .ref (fa (cφ κ) 2 0)) hx hb hL5 hown hE hF (b0 hn) (cm0 κ _ _) rfl 0 (by decide) kw1 rfl dX5_air_13 ?_
    refine fw_get (C := RX4) (T := TX4) (N := 11) (ci := 4) (v := .ref (fa (cφ κ) 8 0)) hx hb hL4 hown hE hF (b2 hn) (cm2 κ _ _) rfl 2 (by decide) kw2 rfl dX5_air_16 ?_
    refine lv_astore_n (lv' := [(3, .ref (fa (cφ κ) 8 0)), (0, .ref (fa (cφ κ) 0 0)), (1, .int a0), (2, .int a1)]) hx hb dX5_air_19 rfl hl (by decide) rfl (fun ls hl => ?_)
    refine lv_iload_n hx hb dX5_air_20 rfl (lv_at hl 2 rfl) ?_
    refine lv_iconst (v := (0 : Int32)) hx hb dX5_air_21 (by decide) ?_
    refine lv_aload_n hx hb dX5_air_22 rfl (lv_at hl 0 rfl) ?_
    refine fw_get (C := RX0) (T := TX0) (N := 5) (ci := 0) (v := .int (g 8 0 4)) hx hb hL0 hown hE hF (b8 hn) (cm8 κ _ _) rfl 4 (by decide) kw3 rfl dX5_air_23 ?_
    refine lv_iconst (v := (1 : Int32)) hx hb dX5_air_26 (by decide) ?_
    refine lv_isub hx hb dX5_air_27 ?_
    obtain ⟨r5, q4, h⟩ := bnd h
    try dsimp only at h
    refine pw_call (va_runS (As := [.int a0, .int ((0 : Int32)), .int ((g 8 0 4) - ((1 : Int32)))]) (rest := []) ⟨hx, hb, hml, hown, hts⟩ (c_X5_isBetween l q4) (va_cwS 3 hts gX5_air_X5_isBetween rfl rfl rfl qs_X5_isBetween ⟨Nat.le_of_ble_eq_true rfl, Nat.le_of_ble_eq_true rfl⟩) preEq rfl rfl hl.1 rfl (lv_room (Nat.le_of_ble_eq_true rfl)) dX5_air_28 ⟨Nat.le_refl _, Nat.le_refl _⟩) ?_
    refine lv_if_ne (tgt := 37) hx hb dX5_air_31 (by decide) (fun c6 => ?_) (fun c6 => ?_)
    · have h := iff0 h c6
      refine lv_iload_n hx hb dX5_air_37 rfl (lv_at hl 3 rfl) ?_
      by_cases c7 : a1 = 0
      · refine lv_tableIn (tgt := 68) (off := 30) hx hb dX5_air_38 (by rw [c7]; decide) (by rw [c7]; decide) (by rw [c7]; rfl) (by decide) ?_
        have h := ift h c7
        refine lv_aload_n hx hb dX5_air_68 rfl (lv_at hl 0 rfl) ?_
        refine fw_get (C := RX0) (T := TX0) (N := 5) (ci := 0) (v := .ref (fa (cφ κ) 9 0)) hx hb hL0 hown hE hF (b8 hn) (cm8 κ _ _) rfl 0 (by decide) kw4 rfl dX5_air_69 ?_
        refine lv_iload_n hx hb dX5_air_72 rfl (lv_at hl 2 rfl) ?_
        obtain ⟨k8, h⟩ := ck h
        refine fw_iald (q := a0.toNatClampNeg) hx hb hE hF (b9 hn) (cm9 κ _) 0 rfl k8 rfl dX5_air_73 ?_
        exact fw_iret hx hb hr hlk h hF hS dX5_air_74
      have h := iff0 h c7
      by_cases c9 : a1 = 1
      · refine lv_tableIn (tgt := 75) (off := 37) hx hb dX5_air_38 (by rw [c9]; decide) (by rw [c9]; decide) (by rw [c9]; rfl) (by decide) ?_
        have h := ift h c9
        refine lv_aload_n hx hb dX5_air_75 rfl (lv_at hl 0 rfl) ?_
        refine fw_get (C := RX0) (T := TX0) (N := 5) (ci := 0) (v := .ref (fa (cφ κ) 10 0)) hx hb hL0 hown hE hF (b8 hn) (cm8 κ _ _) rfl 1 (by decide) kw5 rfl dX5_air_76 ?_
        refine lv_iload_n hx hb dX5_air_79 rfl (lv_at hl 2 rfl) ?_
        obtain ⟨k10, h⟩ := ck h
        refine fw_iald (q := a0.toNatClampNeg) hx hb hE hF (b10 hn) (cm10 κ _) 0 rfl k10 rfl dX5_air_80 ?_
        exact fw_iret hx hb hr hlk h hF hS dX5_air_81
      have h := iff0 h c9
      by_cases c11 : a1 = 2
      · refine lv_tableIn (tgt := 82) (off := 44) hx hb dX5_air_38 (by rw [c11]; decide) (by rw [c11]; decide) (by rw [c11]; rfl) (by decide) ?_
        have h := ift h c11
        refine lv_aload_n hx hb dX5_air_82 rfl (lv_at hl 0 rfl) ?_
        refine fw_get (C := RX0) (T := TX0) (N := 5) (ci := 0) (v := .ref (fa (cφ κ) 11 0)) hx hb hL0 hown hE hF (b8 hn) (cm8 κ _ _) rfl 2 (by decide) kw6 rfl dX5_air_83 ?_
        refine lv_iload_n hx hb dX5_air_86 rfl (lv_at hl 2 rfl) ?_
        obtain ⟨k12, h⟩ := ck h
        refine fw_iald (q := a0.toNatClampNeg) hx hb hE hF (b11 hn) (cm11 κ _) 0 rfl k12 rfl dX5_air_87 ?_
        obtain ⟨r14, q13, h⟩ := bnd h
        try dsimp only at h
        refine pw_call (va_runS (As := [.int (g 11 0 (a0.toNatClampNeg))]) (rest := []) ⟨hx, hb, hml, hown, hts⟩ (c_X2_sourceOf l q13) (va_cwS 1 hts gX5_air_X2_sourceOf rfl rfl rfl qs_X2_sourceOf ⟨Nat.le_of_ble_eq_true rfl, Nat.le_of_ble_eq_true rfl⟩) preEq rfl rfl hl.1 rfl (lv_room (Nat.le_of_ble_eq_true rfl)) dX5_air_88 ⟨Nat.le_refl _, Nat.le_refl _⟩) ?_
        exact fw_iret hx hb hr hlk h hF hS dX5_air_91
      have h := iff0 h c11
      by_cases c15 : a1 = 3
      · refine lv_tableIn (tgt := 92) (off := 54) hx hb dX5_air_38 (by rw [c15]; decide) (by rw [c15]; decide) (by rw [c15]; rfl) (by decide) ?_
        have h := ift h c15
        refine lv_aload_n hx hb dX5_air_92 rfl (lv_at hl 0 rfl) ?_
        refine fw_get (C := RX0) (T := TX0) (N := 5) (ci := 0) (v := .ref (fa (cφ κ) 11 0)) hx hb hL0 hown hE hF (b8 hn) (cm8 κ _ _) rfl 2 (by decide) kw6 rfl dX5_air_93 ?_
        refine lv_iload_n hx hb dX5_air_96 rfl (lv_at hl 2 rfl) ?_
        obtain ⟨k16, h⟩ := ck h
        refine fw_iald (q := a0.toNatClampNeg) hx hb hE hF (b11 hn) (cm11 κ _) 0 rfl k16 rfl dX5_air_97 ?_
        obtain ⟨r18, q17, h⟩ := bnd h
        try dsimp only at h
        refine pw_call (va_runS (As := [.int (g 11 0 (a0.toNatClampNeg))]) (rest := []) ⟨hx, hb, hml, hown, hts⟩ (c_X2_numberOf l q17) (va_cwS 1 hts gX5_air_X2_numberOf rfl rfl rfl qs_X2_numberOf ⟨Nat.le_of_ble_eq_true rfl, Nat.le_of_ble_eq_true rfl⟩) preEq rfl rfl hl.1 rfl (lv_room (Nat.le_of_ble_eq_true rfl)) dX5_air_98 ⟨Nat.le_refl _, Nat.le_refl _⟩) ?_
        exact fw_iret hx hb hr hlk h hF hS dX5_air_101
      have h := iff0 h c15
      refine lv_tableOut (tgt := 102) hx hb dX5_air_38 (by
        have z0 := lv_neT c7 (a := 0) rfl
        have z1 := lv_neT c9 (a := 1) rfl
        have z2 := lv_neT c11 (a := 2) rfl
        have z3 := lv_neT c15 (a := 3) rfl
        omega) (by decide) ?_
      refine lv_aload_n hx hb dX5_air_102 rfl (lv_at hl 0 rfl) ?_
      refine fw_get (C := RX0) (T := TX0) (N := 5) (ci := 0) (v := .ref (fa (cφ κ) 12 0)) hx hb hL0 hown hE hF (b8 hn) (cm8 κ _ _) rfl 3 (by decide) kw7 rfl dX5_air_103 ?_
      refine lv_iload_n hx hb dX5_air_106 rfl (lv_at hl 2 rfl) ?_
      obtain ⟨k19, h⟩ := ck h
      refine fw_iald (q := a0.toNatClampNeg) hx hb hE hF (b12 hn) (cm12 κ _) 0 rfl k19 rfl dX5_air_107 ?_
      exact fw_iret hx hb hr hlk h hF hS dX5_air_108
    · have h := ift h c6
      refine lv_bipush (v := (-6 : Int32)) hx hb dX5_air_34 (by decide) ?_
      exact fw_iret hx hb hr hlk h hF hS dX5_air_36
  · have h := ift h c3
    refine lv_bipush (v := (-2 : Int32)) hx hb dX5_air_9 (by decide) ?_
    exact fw_iret hx hb hr hlk h hF hS dX5_air_11
def st_X5_keptImages_4 (F : Nat) (K : Mem → Int32 → Int32 → Option (Int32 × Mem)) (n : Nat) (g : Mem) (x1 x2 : Int32) : Option (Int32 × Mem) := (if ((2 : Int32)) ≤ x2 then some (x1, g) else if (x2 < 0 ∨ 2 ≤ x2.toNatClampNeg) then none else (if g 1 0 x2.toNatClampNeg = 0 then (m_X5_changed x1 x2 ((0 : Int32))).bind (fun r6 => K g r6 (x2 + (1 : Int32))) else if n ≤ (g 1 0 x2.toNatClampNeg).toNatClampNeg then none else (m_X5_changed x1 x2 ((1 : Int32))).bind (fun r8 => K g r8 (x2 + (1 : Int32)))))
def lp_X5_keptImages_4 (F : Nat) : Nat → Nat → Mem → Int32 → Int32 → Option (Int32 × Mem)
  | 0, _, _, _, _ => none
  | f + 1, n, g, x1, x2 => st_X5_keptImages_4 F (lp_X5_keptImages_4 F f n) n g x1 x2
def m_X5_keptImages (F : Nat) (n : Nat) (g : Mem) : Option (Int32 × Mem) := lp_X5_keptImages_4 F F n g ((0 : Int32)) ((0 : Int32))
set_option maxHeartbeats 4000000 in
set_option maxRecDepth 100000 in
theorem c_X5_keptImages (l : Launch) {κ : Cx} (hok : fok (cφ κ)) (hn : 1 ≤ cn κ) {n : Nat} (hnn : n = cn κ) {F : Nat} {g : Mem} {u : Int32 × Mem} (h : m_X5_keptImages F n g  = some u) : fM l (cφ κ) yX5_keptImages wsX5_keptImages 1 22 [.ref (fa (cφ κ) 0 0)] g (some (.int u.1)) u.2 := by
  refine fM.of (cc := cX5_keptImages) (maxL := 3) (ret := (some .int)) [(0, .ref (fa (cφ κ) 0 0))] (by decide) rfl (Nat.le_of_ble_eq_true rfl) rfl (fun p e s m below meth c ls hx hb hr hml hown hts hlk hE hF hS hl => ?_)
  replace hown : s.vm.findClass RX5 = some m.cls := hown
  have hL5 : ∀ w ∈ u_ws RX5 TX5 2, w.before ([.ref (fa (cφ κ) 0 0)] : List Value).toArray s = true := fun w hw => hts w (by
    unfold wsX5_keptImages
    simp only [List.mem_cons, List.mem_append]
    exact Or.inr (Or.inr hw))
  have kw1 := hts (.fieldLink RX5 16 "MeshLamps" "images" "[LMeshLamps$Mesh;") (List.mem_of_getElem? (i := 1) rfl)
  unfold m_X5_keptImages at h
  refine lv_iconst (v := (0 : Int32)) hx hb dX5_keptImages_0 (by decide) ?_
  refine lv_istore_n (lv' := [(1, .int ((0 : Int32))), (0, .ref (fa (cφ κ) 0 0))]) hx hb dX5_keptImages_1 rfl hl (by decide) rfl (fun ls hl => ?_)
  refine lv_iconst (v := (0 : Int32)) hx hb dX5_keptImages_2 (by decide) ?_
  refine lv_istore_n (lv' := [(2, .int ((0 : Int32))), (1, .int ((0 : Int32))), (0, .ref (fa (cφ κ) 0 0))]) hx hb dX5_keptImages_3 rfl hl (by decide) rfl (fun ls hl => ?_)
  have LOOP4 : ∀ (f : Nat) (g : Mem) (x1 x2 : Int32) (H : Heap) (locs : List Loc) (ls : Array Slot), lp_X5_keptImages_4 F f n g x1 x2 = some u → fw (cφ κ) g H → va_S (fA (cφ κ)) s.heap H locs → lv_has ls 3 [(0, .ref (fa (cφ κ) 0 0)), (1, .int x1), (2, .int x2)] → W p l e ({ frames := 1, cells := 0, slots := 0, locals := 22 }) s m ([.ref (fa (cφ κ) 0 0)] : List Value).toArray below meth c H locs 0 0 (MQ below (fQ (cφ κ) (some (.int u.1)) u.2) ([.ref (fa (cφ κ) 0 0)] : List Value).toArray s 0 0 (fA (cφ κ))) (F0 m 4 ls []) := by
    intro f
    induction f with
    | zero => intro g x1 x2 H locs ls h hF hS hl; cases h
    | succ f ih =>
      intro g x1 x2 H locs ls h hF hS hl
      replace h : st_X5_keptImages_4 F (lp_X5_keptImages_4 F f n) n g x1 x2 = some u := h
      unfold st_X5_keptImages_4 at h
      refine lv_iload_n hx hb dX5_keptImages_4 rfl (lv_at hl 2 rfl) ?_
      refine lv_iconst (v := (2 : Int32)) hx hb dX5_keptImages_5 (by decide) ?_
      refine lv_icmp_ge (tgt := 35) hx hb dX5_keptImages_6 (by decide) (fun c1 => ?_) (fun c1 => ?_)
      · have h := ift h c1
        refine lv_iload_n hx hb dX5_keptImages_35 rfl (lv_at hl 1 rfl) ?_
        exact fw_iret hx hb hr hlk h hF hS dX5_keptImages_36
      · have h := iff0 h c1
        refine lv_iload_n hx hb dX5_keptImages_9 rfl (lv_at hl 1 rfl) ?_
        refine lv_iload_n hx hb dX5_keptImages_10 rfl (lv_at hl 2 rfl) ?_
        refine lv_aload_n hx hb dX5_keptImages_11 rfl (lv_at hl 0 rfl) ?_
        refine fw_get (C := RX5) (T := TX5) (N := 2) (ci := 5) (v := .ref (fa (cφ κ) 1 0)) hx hb hL5 hown hE hF (b0 hn) (cm0 κ _ _) rfl 1 (by decide) kw1 rfl dX5_keptImages_12 ?_
        refine lv_iload_n hx hb dX5_keptImages_15 rfl (lv_at hl 2 rfl) ?_
        obtain ⟨k2, h⟩ := ck h
        by_cases c3 : g 1 0 x2.toNatClampNeg = 0
        · refine fw_aaldN hx hb hE hF (b1 hn) (cm1 κ _ _) 2 rfl k2 (if_pos c3) dX5_keptImages_16 ?_
          have h := ift h c3
          refine lv_ifnullN (tgt := 24) hx hb dX5_keptImages_17 (by decide) ?_
          refine lv_iconst (v := (0 : Int32)) hx hb dX5_keptImages_24 (by decide) ?_
          obtain ⟨r6, q5, h⟩ := bnd h
          try dsimp only at h
          refine pw_call (va_runS (As := [.int x1, .int x2, .int ((0 : Int32))]) (rest := []) ⟨hx, hb, hml, hown, hts⟩ (c_X5_changed l q5) (va_cwS 3 hts gX5_keptImages_X5_changed rfl rfl rfl qs_X5_changed ⟨Nat.le_of_ble_eq_true rfl, Nat.le_of_ble_eq_true rfl⟩) preEq rfl rfl hl.1 rfl (lv_room (Nat.le_of_ble_eq_true rfl)) dX5_keptImages_25 ⟨Nat.le_refl _, Nat.le_refl _⟩) ?_
          refine lv_istore_n (lv' := [(1, .int r6), (0, .ref (fa (cφ κ) 0 0)), (2, .int x2)]) hx hb dX5_keptImages_28 rfl hl (by decide) rfl (fun ls hl => ?_)
          refine lv_iinc (v := x2 + (1 : Int32)) (lv' := [(2, .int (x2 + (1 : Int32))), (1, .int r6), (0, .ref (fa (cφ κ) 0 0))]) hx hb dX5_keptImages_29 hl (k := 2) rfl rfl (by decide) rfl (fun ls hl => ?_)
          refine lv_goto (tgt := 4) hx hb dX5_keptImages_32 (by decide) ?_
          exact ih g r6 (x2 + (1 : Int32)) H locs ls h hF hS (lv_sub hl [2, 1, 0] rfl)
        · have h := iff0 h c3
          obtain ⟨k4, h⟩ := ck h
          refine fw_aald (a := fa (cφ κ) (2 + 20 * (g 1 0 x2.toNatClampNeg).toNatClampNeg) 0) hx hb hE hF (b1 hn) (cm1 κ _ _) 2 rfl k2 (if_neg c3) dX5_keptImages_16 ?_
          refine lv_ifnull hx hb dX5_keptImages_17 ?_
          refine lv_iconst (v := (1 : Int32)) hx hb dX5_keptImages_20 (by decide) ?_
          refine lv_goto (tgt := 25) hx hb dX5_keptImages_21 (by decide) ?_
          obtain ⟨r8, q7, h⟩ := bnd h
          try dsimp only at h
          refine pw_call (va_runS (As := [.int x1, .int x2, .int ((1 : Int32))]) (rest := []) ⟨hx, hb, hml, hown, hts⟩ (c_X5_changed l q7) (va_cwS 3 hts gX5_keptImages_X5_changed rfl rfl rfl qs_X5_changed ⟨Nat.le_of_ble_eq_true rfl, Nat.le_of_ble_eq_true rfl⟩) preEq rfl rfl hl.1 rfl (lv_room (Nat.le_of_ble_eq_true rfl)) dX5_keptImages_25 ⟨Nat.le_refl _, Nat.le_refl _⟩) ?_
          refine lv_istore_n (lv' := [(1, .int r8), (0, .ref (fa (cφ κ) 0 0)), (2, .int x2)]) hx hb dX5_keptImages_28 rfl hl (by decide) rfl (fun ls hl => ?_)
          refine lv_iinc (v := x2 + (1 : Int32)) (lv' := [(2, .int (x2 + (1 : Int32))), (1, .int r8), (0, .ref (fa (cφ κ) 0 0))]) hx hb dX5_keptImages_29 hl (k := 2) rfl rfl (by decide) rfl (fun ls hl => ?_)
          refine lv_goto (tgt := 4) hx hb dX5_keptImages_32 (by decide) ?_
          exact ih g r8 (x2 + (1 : Int32)) H locs ls h hF hS (lv_sub hl [2, 1, 0] rfl)
  exact LOOP4 F g ((0 : Int32)) ((0 : Int32)) _ _ ls h hF hS (lv_sub hl [2, 1, 0] rfl)
def m_X5_count (F : Nat) (n : Nat) (g : Mem) (a0 : Int32) : Option (Int32 × Mem) := (if a0 = 0 then some (g 2 0 3, g) else (if a0 = 1 then some (g 2 0 4, g) else (if a0 = 2 then some (g 2 0 5, g) else (if a0 = 3 then some (g 8 0 4, g) else (if a0 = 4 then (m_X4_sleepers F g ).bind (fun (r7, g8) => some (r7, g8)) else (if a0 = 5 then (m_X4_allLights F g ).bind (fun (r12, g13) => some (r12, g13)) else (if a0 = 6 then some (g 2 0 8, g) else (if a0 = 7 then some (g 2 0 9, g) else (if a0 = 8 then some (g 2 0 10, g) else (if a0 = 9 then (m_X5_keptImages F n g ).bind (fun (r20, g21) => some (r20, g21)) else some ((-2 : Int32), g)))))))))))
set_option maxHeartbeats 4000000 in
set_option maxRecDepth 100000 in
theorem c_X5_count (l : Launch) {κ : Cx} (hok : fok (cφ κ)) (hn : 1 ≤ cn κ) {n : Nat} (hnn : n = cn κ) {F : Nat} {g : Mem} {a0 : Int32} {u : Int32 × Mem} (h : m_X5_count F n g a0 = some u) : fM l (cφ κ) yX5_count wsX5_count 2 44 [.ref (fa (cφ κ) 0 0), .int a0] g (some (.int u.1)) u.2 := by
  refine fM.of (cc := cX5_count) (maxL := 2) (ret := (some .int)) [(0, .ref (fa (cφ κ) 0 0)), (1, .int a0)] (by decide) rfl (Nat.le_of_ble_eq_true rfl) rfl (fun p e s m below meth c ls hx hb hr hml hown hts hlk hE hF hS hl => ?_)
  replace hown : s.vm.findClass RX5 = some m.cls := hown
  have hL0 : ∀ w ∈ u_ws RX0 TX0 5, w.before ([.ref (fa (cφ κ) 0 0), .int a0] : List Value).toArray s = true := fun w hw => hts w (by
    unfold wsX5_count
    simp only [List.mem_cons, List.mem_append]
    exact Or.inr (Or.inl (Or.inr hw)))
  have hL4 : ∀ w ∈ u_ws RX4 TX4 11, w.before ([.ref (fa (cφ κ) 0 0), .int a0] : List Value).toArray s = true := fun w hw => hts w (by
    unfold wsX5_count
    simp only [List.mem_cons, List.mem_append]
    exact Or.inr (Or.inl (Or.inl (Or.inr hw))))
  have hL5 : ∀ w ∈ u_ws RX5 TX5 2, w.before ([.ref (fa (cφ κ) 0 0), .int a0] : List Value).toArray s = true := fun w hw => hts w (by
    unfold wsX5_count
    simp only [List.mem_cons, List.mem_append]
    exact Or.inr (Or.inl (Or.inl (Or.inl (Or.inr hw)))))
  have kw1 := hts (.fieldLink RX5 10 "MeshLamps" "mesh" "LMeshLamps$Mesh;") (List.mem_of_getElem? (i := 1) rfl)
  have kw2 := hts (.fieldLink RX5 138 "MeshLamps$Mesh" "tick" "I") (List.mem_of_getElem? (i := 2) rfl)
  have kw3 := hts (.fieldLink RX5 200 "MeshLamps$Mesh" "key" "I") (List.mem_of_getElem? (i := 3) rfl)
  have kw4 := hts (.fieldLink RX5 84 "MeshLamps$Mesh" "phase" "I") (List.mem_of_getElem? (i := 4) rfl)
  have kw5 := hts (.fieldLink RX5 104 "MeshLamps$Mesh" "air" "LMeshLamps$Air;") (List.mem_of_getElem? (i := 5) rfl)
  have kw6 := hts (.fieldLink RX5 143 "MeshLamps$Air" "size" "I") (List.mem_of_getElem? (i := 6) rfl)
  have kw7 := hts (.fieldLink RX5 146 "MeshLamps$Mesh" "spoken" "I") (List.mem_of_getElem? (i := 7) rfl)
  have kw8 := hts (.fieldLink RX5 210 "MeshLamps$Mesh" "lostAsFull" "I") (List.mem_of_getElem? (i := 8) rfl)
  have kw9 := hts (.fieldLink RX5 213 "MeshLamps$Mesh" "lostAsleep" "I") (List.mem_of_getElem? (i := 9) rfl)
  unfold m_X5_count at h
  refine lv_iload_n hx hb dX5_count_0 rfl (lv_at hl 1 rfl) ?_
  by_cases c1 : a0 = 0
  · refine lv_tableIn (tgt := 56) (off := 55) hx hb dX5_count_1 (by rw [c1]; decide) (by rw [c1]; decide) (by rw [c1]; rfl) (by decide) ?_
    have h := ift h c1
    refine lv_aload_n hx hb dX5_count_56 rfl (lv_at hl 0 rfl) ?_
    refine fw_get (C := RX5) (T := TX5) (N := 2) (ci := 5) (v := .ref (fa (cφ κ) 2 0)) hx hb hL5 hown hE hF (b0 hn) (cm0 κ _ _) rfl 0 (by decide) kw1 rfl dX5_count_57 ?_
    refine fw_get (C := RX4) (T := TX4) (N := 11) (ci := 4) (v := .int (g 2 0 3)) hx hb hL4 hown hE hF (b2 hn) (cm2 κ _ _) rfl 3 (by decide) kw2 rfl dX5_count_60 ?_
    exact fw_iret hx hb hr hlk h hF hS dX5_count_63
  have h := iff0 h c1
  by_cases c2 : a0 = 1
  · refine lv_tableIn (tgt := 64) (off := 63) hx hb dX5_count_1 (by rw [c2]; decide) (by rw [c2]; decide) (by rw [c2]; rfl) (by decide) ?_
    have h := ift h c2
    refine lv_aload_n hx hb dX5_count_64 rfl (lv_at hl 0 rfl) ?_
    refine fw_get (C := RX5) (T := TX5) (N := 2) (ci := 5) (v := .ref (fa (cφ κ) 2 0)) hx hb hL5 hown hE hF (b0 hn) (cm0 κ _ _) rfl 0 (by decide) kw1 rfl dX5_count_65 ?_
    refine fw_get (C := RX4) (T := TX4) (N := 11) (ci := 4) (v := .int (g 2 0 4)) hx hb hL4 hown hE hF (b2 hn) (cm2 κ _ _) rfl 4 (by decide) kw3 rfl dX5_count_68 ?_
    exact fw_iret hx hb hr hlk h hF hS dX5_count_71
  have h := iff0 h c2
  by_cases c3 : a0 = 2
  · refine lv_tableIn (tgt := 72) (off := 71) hx hb dX5_count_1 (by rw [c3]; decide) (by rw [c3]; decide) (by rw [c3]; rfl) (by decide) ?_
    have h := ift h c3
    refine lv_aload_n hx hb dX5_count_72 rfl (lv_at hl 0 rfl) ?_
    refine fw_get (C := RX5) (T := TX5) (N := 2) (ci := 5) (v := .ref (fa (cφ κ) 2 0)) hx hb hL5 hown hE hF (b0 hn) (cm0 κ _ _) rfl 0 (by decide) kw1 rfl dX5_count_73 ?_
    refine fw_get (C := RX4) (T := TX4) (N := 11) (ci := 4) (v := .int (g 2 0 5)) hx hb hL4 hown hE hF (b2 hn) (cm2 κ _ _) rfl 5 (by decide) kw4 rfl dX5_count_76 ?_
    exact fw_iret hx hb hr hlk h hF hS dX5_count_79
  have h := iff0 h c3
  by_cases c4 : a0 = 3
  · refine lv_tableIn (tgt := 80) (off := 79) hx hb dX5_count_1 (by rw [c4]; decide) (by rw [c4]; decide) (by rw [c4]; rfl) (by decide) ?_
    have h := ift h c4
    refine lv_aload_n hx hb dX5_count_80 rfl (lv_at hl 0 rfl) ?_
    refine fw_get (C := RX5) (T := TX5) (N := 2) (ci := 5) (v := .ref (fa (cφ κ) 2 0)) hx hb hL5 hown hE hF (b0 hn) (cm0 κ _ _) rfl 0 (by decide) kw1 rfl dX5_count_81 ?_
    refine fw_get (C := RX4) (T := TX4) (N := 11) (ci := 4) (v := .ref (fa (cφ κ) 8 0)) hx hb hL4 hown hE hF (b2 hn) (cm2 κ _ _) rfl 2 (by decide) kw5 rfl dX5_count_84 ?_
    refine fw_get (C := RX0) (T := TX0) (N := 5) (ci := 0) (v := .int (g 8 0 4)) hx hb hL0 hown hE hF (b8 hn) (cm8 κ _ _) rfl 4 (by decide) kw6 rfl dX5_count_87 ?_
    exact fw_iret hx hb hr hlk h hF hS dX5_count_90
  have h := iff0 h c4
  by_cases c5 : a0 = 4
  · refine lv_tableIn (tgt := 91) (off := 90) hx hb dX5_count_1 (by rw [c5]; decide) (by rw [c5]; decide) (by rw [c5]; rfl) (by decide) ?_
    have h := ift h c5
    refine lv_aload_n hx hb dX5_count_91 rfl (lv_at hl 0 rfl) ?_
    refine fw_get (C := RX5) (T := TX5) (N := 2) (ci := 5) (v := .ref (fa (cφ κ) 2 0)) hx hb hL5 hown hE hF (b0 hn) (cm0 κ _ _) rfl 0 (by decide) kw1 rfl dX5_count_92 ?_
    obtain ⟨⟨r7, g8⟩, q6, h⟩ := bnd h
    try dsimp only at h
    refine fw_calli (va_runV (As := []) (rest := []) ⟨hx, hb, hml, hown, hts⟩ (c_X4_sleepers l hok hn q6) (cwV 0 hts gX5_count_X4_sleepers rfl rfl rfl qv_X4_sleepers ⟨Nat.le_of_ble_eq_true rfl, Nat.le_of_ble_eq_true rfl⟩) (fw_preV hok hE hF (b2 hn) (cm2 κ _ _) rfl) rfl rfl hl.1 rfl (lv_room (Nat.le_of_ble_eq_true rfl)) dX5_count_95 ⟨Nat.le_refl _, Nat.le_refl _⟩) hS (fun H locs hF hS => ?_)
    exact fw_iret hx hb hr hlk h hF hS dX5_count_98
  have h := iff0 h c5
  by_cases c10 : a0 = 5
  · refine lv_tableIn (tgt := 99) (off := 98) hx hb dX5_count_1 (by rw [c10]; decide) (by rw [c10]; decide) (by rw [c10]; rfl) (by decide) ?_
    have h := ift h c10
    refine lv_aload_n hx hb dX5_count_99 rfl (lv_at hl 0 rfl) ?_
    refine fw_get (C := RX5) (T := TX5) (N := 2) (ci := 5) (v := .ref (fa (cφ κ) 2 0)) hx hb hL5 hown hE hF (b0 hn) (cm0 κ _ _) rfl 0 (by decide) kw1 rfl dX5_count_100 ?_
    obtain ⟨⟨r12, g13⟩, q11, h⟩ := bnd h
    try dsimp only at h
    refine fw_calli (va_runV (As := []) (rest := []) ⟨hx, hb, hml, hown, hts⟩ (c_X4_allLights l hok hn q11) (cwV 0 hts gX5_count_X4_allLights rfl rfl rfl qv_X4_allLights ⟨Nat.le_of_ble_eq_true rfl, Nat.le_of_ble_eq_true rfl⟩) (fw_preV hok hE hF (b2 hn) (cm2 κ _ _) rfl) rfl rfl hl.1 rfl (lv_room (Nat.le_of_ble_eq_true rfl)) dX5_count_103 ⟨Nat.le_refl _, Nat.le_refl _⟩) hS (fun H locs hF hS => ?_)
    exact fw_iret hx hb hr hlk h hF hS dX5_count_106
  have h := iff0 h c10
  by_cases c15 : a0 = 6
  · refine lv_tableIn (tgt := 107) (off := 106) hx hb dX5_count_1 (by rw [c15]; decide) (by rw [c15]; decide) (by rw [c15]; rfl) (by decide) ?_
    have h := ift h c15
    refine lv_aload_n hx hb dX5_count_107 rfl (lv_at hl 0 rfl) ?_
    refine fw_get (C := RX5) (T := TX5) (N := 2) (ci := 5) (v := .ref (fa (cφ κ) 2 0)) hx hb hL5 hown hE hF (b0 hn) (cm0 κ _ _) rfl 0 (by decide) kw1 rfl dX5_count_108 ?_
    refine fw_get (C := RX4) (T := TX4) (N := 11) (ci := 4) (v := .int (g 2 0 8)) hx hb hL4 hown hE hF (b2 hn) (cm2 κ _ _) rfl 8 (by decide) kw7 rfl dX5_count_111 ?_
    exact fw_iret hx hb hr hlk h hF hS dX5_count_114
  have h := iff0 h c15
  by_cases c16 : a0 = 7
  · refine lv_tableIn (tgt := 115) (off := 114) hx hb dX5_count_1 (by rw [c16]; decide) (by rw [c16]; decide) (by rw [c16]; rfl) (by decide) ?_
    have h := ift h c16
    refine lv_aload_n hx hb dX5_count_115 rfl (lv_at hl 0 rfl) ?_
    refine fw_get (C := RX5) (T := TX5) (N := 2) (ci := 5) (v := .ref (fa (cφ κ) 2 0)) hx hb hL5 hown hE hF (b0 hn) (cm0 κ _ _) rfl 0 (by decide) kw1 rfl dX5_count_116 ?_
    refine fw_get (C := RX4) (T := TX4) (N := 11) (ci := 4) (v := .int (g 2 0 9)) hx hb hL4 hown hE hF (b2 hn) (cm2 κ _ _) rfl 9 (by decide) kw8 rfl dX5_count_119 ?_
    exact fw_iret hx hb hr hlk h hF hS dX5_count_122
  have h := iff0 h c16
  by_cases c17 : a0 = 8
  · refine lv_tableIn (tgt := 123) (off := 122) hx hb dX5_count_1 (by rw [c17]; decide) (by rw [c17]; decide) (by rw [c17]; rfl) (by decide) ?_
    have h := ift h c17
    refine lv_aload_n hx hb dX5_count_123 rfl (lv_at hl 0 rfl) ?_
    refine fw_get (C := RX5) (T := TX5) (N := 2) (ci := 5) (v := .ref (fa (cφ κ) 2 0)) hx hb hL5 hown hE hF (b0 hn) (cm0 κ _ _) rfl 0 (by decide) kw1 rfl dX5_count_124 ?_
    refine fw_get (C := RX4) (T := TX4) (N := 11) (ci := 4) (v := .int (g 2 0 10)) hx hb hL4 hown hE hF (b2 hn) (cm2 κ _ _) rfl 10 (by decide) kw9 rfl dX5_count_127 ?_
    exact fw_iret hx hb hr hlk h hF hS dX5_count_130
  have h := iff0 h c17
  by_cases c18 : a0 = 9
  · refine lv_tableIn (tgt := 131) (off := 130) hx hb dX5_count_1 (by rw [c18]; decide) (by rw [c18]; decide) (by rw [c18]; rfl) (by decide) ?_
    have h := ift h c18
    refine lv_aload_n hx hb dX5_count_131 rfl (lv_at hl 0 rfl) ?_
    obtain ⟨⟨r20, g21⟩, q19, h⟩ := bnd h
    try dsimp only at h
    refine fw_calli (va_runV (As := []) (rest := []) ⟨hx, hb, hml, hown, hts⟩ (c_X5_keptImages l hok hn hnn q19) (cwV 0 hts gX5_count_X5_keptImages rfl rfl rfl qv_X5_keptImages ⟨Nat.le_of_ble_eq_true rfl, Nat.le_of_ble_eq_true rfl⟩) (fw_preV hok hE hF (b0 hn) (cm0 κ _ _) rfl) rfl rfl hl.1 rfl (lv_room (Nat.le_of_ble_eq_true rfl)) dX5_count_132 ⟨Nat.le_refl _, Nat.le_refl _⟩) hS (fun H locs hF hS => ?_)
    exact fw_iret hx hb hr hlk h hF hS dX5_count_135
  have h := iff0 h c18
  refine lv_tableOut (tgt := 136) hx hb dX5_count_1 (by
    have z0 := lv_neT c1 (a := 0) rfl
    have z1 := lv_neT c2 (a := 1) rfl
    have z2 := lv_neT c3 (a := 2) rfl
    have z3 := lv_neT c4 (a := 3) rfl
    have z4 := lv_neT c5 (a := 4) rfl
    have z5 := lv_neT c10 (a := 5) rfl
    have z6 := lv_neT c15 (a := 6) rfl
    have z7 := lv_neT c16 (a := 7) rfl
    have z8 := lv_neT c17 (a := 8) rfl
    have z9 := lv_neT c18 (a := 9) rfl
    omega) (by decide) ?_
  refine lv_bipush (v := (-2 : Int32)) hx hb dX5_count_136 (by decide) ?_
  exact fw_iret hx hb hr hlk h hF hS dX5_count_138
def m_X5_restore (F : Nat) (n : Nat) (g : Mem) (a0 : Int32) : Option (Int32 × Mem) := (m_X5_isBetween a0 ((0 : Int32)) ((1 : Int32))).bind (fun r2 => (if r2 = 0 then some ((-2 : Int32), g) else if (a0 < 0 ∨ 2 ≤ a0.toNatClampNeg) then none else (if g 1 0 a0.toNatClampNeg = 0 then some ((-3 : Int32), g) else if n ≤ (g 1 0 a0.toNatClampNeg).toNatClampNeg then none else (m_X4_becomeb F ((g 1 0 a0.toNatClampNeg).toNatClampNeg) g ).bind (fun (r8, g9) => some ((1 : Int32), g9)))))
set_option maxHeartbeats 4000000 in
set_option maxRecDepth 100000 in
theorem c_X5_restore (l : Launch) {κ : Cx} (hok : fok (cφ κ)) (hn : 1 ≤ cn κ) {n : Nat} (hnn : n = cn κ) {F : Nat} {g : Mem} {a0 : Int32} {u : Int32 × Mem} (h : m_X5_restore F n g a0 = some u) : fM l (cφ κ) yX5_restore wsX5_restore 4 82 [.ref (fa (cφ κ) 0 0), .int a0] g (some (.int u.1)) u.2 := by
  refine fM.of (cc := cX5_restore) (maxL := 3) (ret := (some .int)) [(0, .ref (fa (cφ κ) 0 0)), (1, .int a0)] (by decide) rfl (Nat.le_of_ble_eq_true rfl) rfl (fun p e s m below meth c ls hx hb hr hml hown hts hlk hE hF hS hl => ?_)
  replace hown : s.vm.findClass RX5 = some m.cls := hown
  have hL5 : ∀ w ∈ u_ws RX5 TX5 2, w.before ([.ref (fa (cφ κ) 0 0), .int a0] : List Value).toArray s = true := fun w hw => hts w (by
    unfold wsX5_restore
    simp only [List.mem_cons, List.mem_append]
    exact Or.inr (Or.inl (Or.inl (Or.inl (Or.inl (Or.inl (Or.inr hw)))))))
  have kw1 := hts (.fieldLink RX5 16 "MeshLamps" "images" "[LMeshLamps$Mesh;") (List.mem_of_getElem? (i := 1) rfl)
  have kw2 := hts (.fieldLink RX5 10 "MeshLamps" "mesh" "LMeshLamps$Mesh;") (List.mem_of_getElem? (i := 2) rfl)
  unfold m_X5_restore at h
  refine lv_iload_n hx hb dX5_restore_0 rfl (lv_at hl 1 rfl) ?_
  refine lv_iconst (v := (0 : Int32)) hx hb dX5_restore_1 (by decide) ?_
  refine lv_iconst (v := (1 : Int32)) hx hb dX5_restore_2 (by decide) ?_
  obtain ⟨r2, q1, h⟩ := bnd h
  try dsimp only at h
  refine pw_call (va_runS (As := [.int a0, .int ((0 : Int32)), .int ((1 : Int32))]) (rest := []) ⟨hx, hb, hml, hown, hts⟩ (c_X5_isBetween l q1) (va_cwS 3 hts gX5_restore_X5_isBetween rfl rfl rfl qs_X5_isBetween ⟨Nat.le_of_ble_eq_true rfl, Nat.le_of_ble_eq_true rfl⟩) preEq rfl rfl hl.1 rfl (lv_room (Nat.le_of_ble_eq_true rfl)) dX5_restore_3 ⟨Nat.le_refl _, Nat.le_refl _⟩) ?_
  refine lv_if_ne (tgt := 12) hx hb dX5_restore_6 (by decide) (fun c3 => ?_) (fun c3 => ?_)
  · have h := iff0 h c3
    refine lv_aload_n hx hb dX5_restore_12 rfl (lv_at hl 0 rfl) ?_
    refine fw_get (C := RX5) (T := TX5) (N := 2) (ci := 5) (v := .ref (fa (cφ κ) 1 0)) hx hb hL5 hown hE hF (b0 hn) (cm0 κ _ _) rfl 1 (by decide) kw1 rfl dX5_restore_13 ?_
    refine lv_iload_n hx hb dX5_restore_16 rfl (lv_at hl 1 rfl) ?_
    obtain ⟨k4, h⟩ := ck h
    by_cases c5 : g 1 0 a0.toNatClampNeg = 0
    · refine fw_aaldN hx hb hE hF (b1 hn) (cm1 κ _ _) 2 rfl k4 (if_pos c5) dX5_restore_17 ?_
      have h := ift h c5
      refine lv_astore_nN (lv' := [(2, .null), (0, .ref (fa (cφ κ) 0 0)), (1, .int a0)]) hx hb dX5_restore_18 rfl hl (by decide) rfl (fun ls hl => ?_)
      refine lv_aload_nN hx hb dX5_restore_19 rfl (lv_at hl 0 rfl) ?_
      refine lv_ifnonnullN hx hb dX5_restore_20 ?_
      refine lv_bipush (v := (-3 : Int32)) hx hb dX5_restore_23 (by decide) ?_
      exact fw_iret hx hb hr hlk h hF hS dX5_restore_25
    · have h := iff0 h c5
      obtain ⟨k6, h⟩ := ck h
      refine fw_aald (a := fa (cφ κ) (2 + 20 * (g 1 0 a0.toNatClampNeg).toNatClampNeg) 0) hx hb hE hF (b1 hn) (cm1 κ _ _) 2 rfl k4 (if_neg c5) dX5_restore_17 ?_
      refine lv_astore_n (lv' := [(2, .ref (fa (cφ κ) (2 + 20 * (g 1 0 a0.toNatClampNeg).toNatClampNeg) 0)), (0, .ref (fa (cφ κ) 0 0)), (1, .int a0)]) hx hb dX5_restore_18 rfl hl (by decide) rfl (fun ls hl => ?_)
      refine lv_aload_n hx hb dX5_restore_19 rfl (lv_at hl 0 rfl) ?_
      refine lv_ifnonnull (tgt := 26) hx hb dX5_restore_20 (by decide) ?_
      refine lv_aload_n hx hb dX5_restore_26 rfl (lv_at hl 1 rfl) ?_
      refine fw_get (C := RX5) (T := TX5) (N := 2) (ci := 5) (v := .ref (fa (cφ κ) 2 0)) hx hb hL5 hown hE hF (b0 hn) (cm0 κ _ _) rfl 0 (by decide) kw2 rfl dX5_restore_27 ?_
      refine lv_aload_n hx hb dX5_restore_30 rfl (lv_at hl 0 rfl) ?_
      obtain ⟨⟨r8, g9⟩, q7, h⟩ := bnd h
      try dsimp only at h
      refine fw_callv (va_runV (As := [.ref (fa (cφ κ) (2 + 20 * (g 1 0 a0.toNatClampNeg).toNatClampNeg) 0)]) (rest := []) ⟨hx, hb, hml, hown, hts⟩ (c_X4_becomeb l hok hn (Nat.lt_of_lt_of_eq (Nat.not_le.mp k6) hnn) q7) (cwV 1 hts gX5_restore_X4_become rfl rfl rfl qv_X4_become ⟨Nat.le_of_ble_eq_true rfl, Nat.le_of_ble_eq_true rfl⟩) (fw_preV hok hE hF (b2 hn) (cm2 κ _ _) rfl) rfl rfl hl.1 rfl (lv_room (Nat.le_of_ble_eq_true rfl)) dX5_restore_31 ⟨Nat.le_refl _, Nat.le_refl _⟩) hS (fun H locs hF hS => ?_)
      refine lv_iconst (v := (1 : Int32)) hx hb dX5_restore_34 (by decide) ?_
      exact fw_iret hx hb hr hlk h hF hS dX5_restore_35
  · have h := ift h c3
    refine lv_bipush (v := (-2 : Int32)) hx hb dX5_restore_9 (by decide) ?_
    exact fw_iret hx hb hr hlk h hF hS dX5_restore_11
/-! the settings' bounds: two static rows -/
def stL (k : Nat) : Int32 := if k = 0 then 1 else 0
def stM (k : Nat) : Int32 := if k = 0 then 9 else if k = 1 then 1 else if k = 2 then 8 else 15
def fSt (φ : Fx) (U : State) : Prop := ∃ tL tM : Nat, va_Z "MeshLamps" "LEAST_SETTING" "[I" (.ref tL) (fA φ) U U.heap ∧ va_T .int tL 4 (fun k => .int (stL k)) (fA φ) U U.heap ∧ va_Z "MeshLamps" "MOST_SETTING" "[I" (.ref tM) (fA φ) U U.heap ∧ va_T .int tM 4 (fun k => .int (stM k)) (fA φ) U U.heap
abbrev fMs (l : Launch) (φ : Fx) (y : MethodName) (ws : List Cond) (fr lo : Nat) (av : List Value) (g : Mem) (r : Option Value) (g' : Mem) : Prop := Met l y ws ({ frames := fr, cells := 0, slots := 0, locals := lo }) (fun v U => fP φ g av v U ∧ fSt φ U) (fQ φ r g') 0 0 (fA φ)
theorem fMs.of {l : Launch} {φ : Fx} {y : MethodName} {ws ws' : List Cond} {fr lo : Nat} {av : List Value} {g g' : Mem} {r : Option Value} {cc : ByteArray} {maxL : Nat} {ret : Option FieldType} (lst : List (Nat × Value)) (hy : plainName y.cls = true) (hw : ws = Cond.code y cc maxL ret :: ws') (hlen : (lg_sl av).length ≤ maxL) (hlst : lv_args 0 av = lst)
    (body : ∀ (p : Program) (e : Env) (s : State) (m : MethodId) (below : List Frame) (meth : Method) (c : Code) (ls : Array Slot), p.tables.exec = Jvm.exec → c.code = cc → meth.sig.returnType = ret → c.maxLocals = maxL → s.vm.findClass y.cls = some m.cls → (∀ w ∈ ws, w.before av.toArray s = true) → meth.locks = false → fE φ s → fw φ g s.heap → va_S (fA φ) s.heap s.heap [] → lv_has ls maxL lst → ∀ tL tM : Nat, va_Z "MeshLamps" "LEAST_SETTING" "[I" (.ref tL) (fA φ) s s.heap → va_T .int tL 4 (fun k => .int (stL k)) (fA φ) s s.heap → va_Z "MeshLamps" "MOST_SETTING" "[I" (.ref tM) (fA φ) s s.heap → va_T .int tM 4 (fun k => .int (stM k)) (fA φ) s s.heap →
      W p l e ({ frames := fr, cells := 0, slots := 0, locals := lo }) s m av.toArray below meth c s.heap [] 0 0 (MQ below (fQ φ r g') av.toArray s 0 0 (fA φ)) (F0 m 0 ls [])) : fMs l φ y ws fr lo av g r g' := by
  refine Met.ofW (cc := cc) (maxL := maxL) (ret := ret) hy hw ?_
  intro p e s m args below meth c s₁ B hml hv
  obtain ⟨⟨rfl, hF, hE⟩, tL, tM, z1, z2, z3, z4⟩ := hv
  have hl := lv_entry av (n := maxL) hlen
  rw [lg_entry_eq]
  rw [hlst] at hl
  exact body p e s m below meth c _ B.exec B.bytes B.returns hml (findClass_of_methodNamed B.named) (atoms_spec (ws := ws) B.pre) B.notSynchronized hE hF va_S.rf hl tL tM z1 z2 z3 z4
def m_X5_set (F : Nat) (g : Mem) (a0 a1 a2 : Int32) : Option (Int32 × Mem) := (m_X5_isLamp a0).bind (fun r2 => (if r2 = 0 then some ((-1 : Int32), g) else (m_X5_isBetween a1 ((0 : Int32)) ((3 : Int32))).bind (fun r5 => (if r5 = 0 then some ((-2 : Int32), g) else if (a1 < 0 ∨ 4 ≤ a1.toNatClampNeg) then none else if (a1 < 0 ∨ 4 ≤ a1.toNatClampNeg) then none else (m_X5_isBetween a2 (stL a1.toNatClampNeg) (stM a1.toNatClampNeg)).bind (fun r10 => (if r10 = 0 then some ((-2 : Int32), g) else if (a0 < 0 ∨ 10 ≤ a0.toNatClampNeg) then none else if (a1 < 0 ∨ 4 ≤ a1.toNatClampNeg) then none else if (a1 < 0 ∨ 4 ≤ a1.toNatClampNeg) then none else ltm (upr g 14 (a0.toNatClampNeg) (upd (g 14 (a0.toNatClampNeg)) a1.toNatClampNeg a2)) (fun g15 => (m_X3_dropOldestm F (a0.toNatClampNeg) g15 (g15 14 (a0.toNatClampNeg) 2)).bind (fun (r19, g20) => some (g 14 (a0.toNatClampNeg) (a1.toNatClampNeg), g20)))))))))
set_option maxHeartbeats 4000000 in
set_option maxRecDepth 100000 in
theorem c_X5_set (l : Launch) {κ : Cx} (hok : fok (cφ κ)) (hn : 1 ≤ cn κ)  {F : Nat} {g : Mem} {a0 a1 a2 : Int32} {u : Int32 × Mem} (h : m_X5_set F g a0 a1 a2 = some u) : fMs l (cφ κ) yX5_set wsX5_set 2 42 [.ref (fa (cφ κ) 0 0), .int a0, .int a1, .int a2] g (some (.int u.1)) u.2 := by
  refine fMs.of (cc := cX5_set) (maxL := 6) (ret := (some .int)) [(0, .ref (fa (cφ κ) 0 0)), (1, .int a0), (2, .int a1), (3, .int a2)] (by decide) rfl (Nat.le_of_ble_eq_true rfl) rfl (fun p e s m below meth c ls hx hb hr hml hown hts hlk hE hF hS hl tL tM hZtL hTtL hZtM hTtM => ?_)
  replace hown : s.vm.findClass RX5 = some m.cls := hown
  have hL1 : ∀ w ∈ u_ws RX1 TX1 15, w.before ([.ref (fa (cφ κ) 0 0), .int a0, .int a1, .int a2] : List Value).toArray s = true := fun w hw => hts w (by
    unfold wsX5_set
    simp only [List.mem_cons, List.mem_append]
    exact Or.inr (Or.inl (Or.inr hw)))
  have hL4 : ∀ w ∈ u_ws RX4 TX4 11, w.before ([.ref (fa (cφ κ) 0 0), .int a0, .int a1, .int a2] : List Value).toArray s = true := fun w hw => hts w (by
    unfold wsX5_set
    simp only [List.mem_cons, List.mem_append]
    exact Or.inr (Or.inl (Or.inl (Or.inr hw))))
  have hL5 : ∀ w ∈ u_ws RX5 TX5 2, w.before ([.ref (fa (cφ κ) 0 0), .int a0, .int a1, .int a2] : List Value).toArray s = true := fun w hw => hts w (by
    unfold wsX5_set
    simp only [List.mem_cons, List.mem_append]
    exact Or.inr (Or.inl (Or.inl (Or.inl (Or.inr hw)))))
  have kw1 := hts (.fieldLink RX5 48 "MeshLamps" "LEAST_SETTING" "[I") (List.mem_of_getElem? (i := 1) rfl)
  have kw2 := hts (.fieldLink RX5 52 "MeshLamps" "MOST_SETTING" "[I") (List.mem_of_getElem? (i := 2) rfl)
  have kw3 := hts (.fieldLink RX5 10 "MeshLamps" "mesh" "LMeshLamps$Mesh;") (List.mem_of_getElem? (i := 3) rfl)
  have kw4 := hts (.fieldLink RX5 28 "MeshLamps$Mesh" "lamps" "[LMeshLamps$Lamp;") (List.mem_of_getElem? (i := 4) rfl)
  have kw5 := hts (.fieldLink RX5 55 "MeshLamps$Lamp" "settings" "[I") (List.mem_of_getElem? (i := 5) rfl)
  have kw6 := hts (.fieldLink RX5 58 "MeshLamps$Lamp" "mind" "LMeshLamps$Line;") (List.mem_of_getElem? (i := 6) rfl)
  unfold m_X5_set at h
  refine lv_iload_n hx hb dX5_set_0 rfl (lv_at hl 1 rfl) ?_
  obtain ⟨r2, q1, h⟩ := bnd h
  try dsimp only at h
  refine pw_call (va_runS (As := [.int a0]) (rest := []) ⟨hx, hb, hml, hown, hts⟩ (c_X5_isLamp l q1) (va_cwS 1 hts gX5_set_X5_isLamp rfl rfl rfl qs_X5_isLamp ⟨Nat.le_of_ble_eq_true rfl, Nat.le_of_ble_eq_true rfl⟩) preEq rfl rfl hl.1 rfl (lv_room (Nat.le_of_ble_eq_true rfl)) dX5_set_1 ⟨Nat.le_refl _, Nat.le_refl _⟩) ?_
  refine lv_if_ne (tgt := 9) hx hb dX5_set_4 (by decide) (fun c3 => ?_) (fun c3 => ?_)
  · have h := iff0 h c3
    refine lv_iload_n hx hb dX5_set_9 rfl (lv_at hl 2 rfl) ?_
    refine lv_iconst (v := (0 : Int32)) hx hb dX5_set_10 (by decide) ?_
    refine lv_iconst (v := (3 : Int32)) hx hb dX5_set_11 (by decide) ?_
    obtain ⟨r5, q4, h⟩ := bnd h
    try dsimp only at h
    refine pw_call (va_runS (As := [.int a1, .int ((0 : Int32)), .int ((3 : Int32))]) (rest := []) ⟨hx, hb, hml, hown, hts⟩ (c_X5_isBetween l q4) (va_cwS 3 hts gX5_set_X5_isBetween rfl rfl rfl qs_X5_isBetween ⟨Nat.le_of_ble_eq_true rfl, Nat.le_of_ble_eq_true rfl⟩) preEq rfl rfl hl.1 rfl (lv_room (Nat.le_of_ble_eq_true rfl)) dX5_set_12 ⟨Nat.le_refl _, Nat.le_refl _⟩) ?_
    refine lv_if_eq (tgt := 35) hx hb dX5_set_15 (by decide) (fun c6 => ?_) (fun c6 => ?_)
    · have h := ift h c6
      refine lv_bipush (v := (-2 : Int32)) hx hb dX5_set_35 (by decide) ?_
      exact fw_iret hx hb hr hlk h hF hS dX5_set_37
    · have h := iff0 h c6
      refine lv_iload_n hx hb dX5_set_18 rfl (lv_at hl 3 rfl) ?_
      refine va_gets (v := .ref tL) hx hb hZtL hS hown kw1 (fun _ q => q) dX5_set_19 ?_
      refine lv_iload_n hx hb dX5_set_22 rfl (lv_at hl 2 rfl) ?_
      obtain ⟨k7, h⟩ := ck h
      refine va_ti (v := .int (stL a1.toNatClampNeg)) hx hb hTtL hS k7 rfl dX5_set_23 ?_
      refine va_gets (v := .ref tM) hx hb hZtM hS hown kw2 (fun _ q => q) dX5_set_24 ?_
      refine lv_iload_n hx hb dX5_set_27 rfl (lv_at hl 2 rfl) ?_
      obtain ⟨k8, h⟩ := ck h
      refine va_ti (v := .int (stM a1.toNatClampNeg)) hx hb hTtM hS k8 rfl dX5_set_28 ?_
      obtain ⟨r10, q9, h⟩ := bnd h
      try dsimp only at h
      refine pw_call (va_runS (As := [.int a2, .int (stL a1.toNatClampNeg), .int (stM a1.toNatClampNeg)]) (rest := []) ⟨hx, hb, hml, hown, hts⟩ (c_X5_isBetween l q9) (va_cwS 3 hts gX5_set_X5_isBetween rfl rfl rfl qs_X5_isBetween ⟨Nat.le_of_ble_eq_true rfl, Nat.le_of_ble_eq_true rfl⟩) preEq rfl rfl hl.1 rfl (lv_room (Nat.le_of_ble_eq_true rfl)) dX5_set_29 ⟨Nat.le_refl _, Nat.le_refl _⟩) ?_
      refine lv_if_ne (tgt := 38) hx hb dX5_set_32 (by decide) (fun c11 => ?_) (fun c11 => ?_)
      · have h := iff0 h c11
        refine lv_aload_n hx hb dX5_set_38 rfl (lv_at hl 0 rfl) ?_
        refine fw_get (C := RX5) (T := TX5) (N := 2) (ci := 5) (v := .ref (fa (cφ κ) 2 0)) hx hb hL5 hown hE hF (b0 hn) (cm0 κ _ _) rfl 0 (by decide) kw3 rfl dX5_set_39 ?_
        refine fw_get (C := RX4) (T := TX4) (N := 11) (ci := 4) (v := .ref (fa (cφ κ) 3 0)) hx hb hL4 hown hE hF (b2 hn) (cm2 κ _ _) rfl 0 (by decide) kw4 rfl dX5_set_42 ?_
        refine lv_iload_n hx hb dX5_set_45 rfl (lv_at hl 1 rfl) ?_
        obtain ⟨k12, h⟩ := ck h
        refine fw_aald (a := fa (cφ κ) 13 (a0.toNatClampNeg)) hx hb hE hF (b3 hn) (cm3 κ _ _) 1 rfl k12 rfl dX5_set_46 ?_
        refine lv_astore (lv' := [(4, .ref (fa (cφ κ) 13 (a0.toNatClampNeg))), (0, .ref (fa (cφ κ) 0 0)), (1, .int a0), (2, .int a1), (3, .int a2)]) hx hb dX5_set_47 hl (by decide) rfl (fun ls hl => ?_)
        refine lv_aload hx hb dX5_set_49 (lv_at hl 0 rfl) ?_
        refine fw_get (C := RX1) (T := TX1) (N := 15) (ci := 1) (v := .ref (fa (cφ κ) 14 (a0.toNatClampNeg))) hx hb hL1 hown hE hF (b13 hn (vpl k12)) (cm13 κ _ _) rfl 0 (by decide) kw5 rfl dX5_set_51 ?_
        refine lv_iload_n hx hb dX5_set_54 rfl (lv_at hl 3 rfl) ?_
        obtain ⟨k13, h⟩ := ck h
        refine fw_iald (q := a1.toNatClampNeg) hx hb hE hF (b14 hn (vpl k12)) (cm14 κ _) 0 rfl k13 rfl dX5_set_55 ?_
        refine lv_istore (lv' := [(5, .int (g 14 (a0.toNatClampNeg) (a1.toNatClampNeg))), (4, .ref (fa (cφ κ) 13 (a0.toNatClampNeg))), (0, .ref (fa (cφ κ) 0 0)), (1, .int a0), (2, .int a1), (3, .int a2)]) hx hb dX5_set_56 hl (by decide) rfl (fun ls hl => ?_)
        refine lv_aload hx hb dX5_set_58 (lv_at hl 1 rfl) ?_
        refine fw_get (C := RX1) (T := TX1) (N := 15) (ci := 1) (v := .ref (fa (cφ κ) 14 (a0.toNatClampNeg))) hx hb hL1 hown hE hF (b13 hn (vpl k12)) (cm13 κ _ _) rfl 0 (by decide) kw5 rfl dX5_set_60 ?_
        refine lv_iload_n hx hb dX5_set_63 rfl (lv_at hl 4 rfl) ?_
        refine lv_iload_n hx hb dX5_set_64 rfl (lv_at hl 5 rfl) ?_
        obtain ⟨k14, h⟩ := ck h
        refine fw_iast (q := a1.toNatClampNeg) hx hb hE hok hF hS (b14 hn (vpl k12)) (cm14 κ _) 0 rfl k14 rfl dX5_set_65 (fun H locs hF hS => ?_)
        obtain ⟨g15, e16, h⟩ := ltm_e h
        rw [e16] at hF
        refine lv_aload hx hb dX5_set_66 (lv_at hl 1 rfl) ?_
        refine fw_get (C := RX1) (T := TX1) (N := 15) (ci := 1) (v := .ref (fa (cφ κ) 16 (a0.toNatClampNeg))) hx hb hL1 hown hE hF (b13 hn (vpl k12)) (cm13 κ _ _) rfl 2 (by decide) kw6 rfl dX5_set_68 ?_
        refine lv_aload hx hb dX5_set_71 (lv_at hl 1 rfl) ?_
        refine fw_get (C := RX1) (T := TX1) (N := 15) (ci := 1) (v := .ref (fa (cφ κ) 14 (a0.toNatClampNeg))) hx hb hL1 hown hE hF (b13 hn (vpl k12)) (cm13 κ _ _) rfl 0 (by decide) kw5 rfl dX5_set_73 ?_
        refine lv_iconst (v := (2 : Int32)) hx hb dX5_set_76 (by decide) ?_
        refine fw_iald (q := 2) hx hb hE hF (b14 hn (vpl k12)) (cm14 κ _) 0 rfl (by decide) (by decide) dX5_set_77 ?_
        obtain ⟨⟨r19, g20⟩, q18, h⟩ := bnd h
        try dsimp only at h
        refine fw_callv (va_runV (As := [.int (g15 14 (a0.toNatClampNeg) 2)]) (rest := []) ⟨hx, hb, hml, hown, hts⟩ (c_X3_dropOldestm l hok hn (vpl k12) q18) (cwV 1 hts gX5_set_X3_dropOldest rfl rfl rfl qv_X3_dropOldest ⟨Nat.le_of_ble_eq_true rfl, Nat.le_of_ble_eq_true rfl⟩) (fw_preV hok hE hF (b16 hn (vpl k12)) (cm16 κ _ _) rfl) rfl rfl hl.1 rfl (lv_room (Nat.le_of_ble_eq_true rfl)) dX5_set_78 ⟨Nat.le_refl _, Nat.le_refl _⟩) hS (fun H locs hF hS => ?_)
        refine lv_iload hx hb dX5_set_81 (lv_at hl 0 rfl) ?_
        exact fw_iret hx hb hr hlk h hF hS dX5_set_83
      · have h := ift h c11
        refine lv_bipush (v := (-2 : Int32)) hx hb dX5_set_35 (by decide) ?_
        exact fw_iret hx hb hr hlk h hF hS dX5_set_37
  · have h := ift h c3
    refine lv_iconst (v := (-1 : Int32)) hx hb dX5_set_7 (by decide) ?_
    exact fw_iret hx hb hr hlk h hF hS dX5_set_8
