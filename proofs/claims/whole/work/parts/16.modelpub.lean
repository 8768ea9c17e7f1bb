/-! the reference, its calls (by program) -/
def m_X6_link (F : Nat) (g : Mem) (a0 a1 a2 : Int32) : Option (Int32 × Mem) := (m_X6_isLamp a0).bind (fun r2 => (if r2 = 0 then some ((-1 : Int32), g) else (m_X6_isLamp a1).bind (fun r5 => (if r5 = 0 then some ((-1 : Int32), g) else (if a0 = a1 then some ((-2 : Int32), g) else (m_X6_in a2 ((0 : Int32)) ((1 : Int32))).bind (fun r9 => (if r9 = 0 then some ((-2 : Int32), g) else (if a2 = ((1 : Int32)) then if (((0 : Int32)) + a0 < 0 ∨ 6819 ≤ (((0 : Int32)) + a0).toNatClampNeg) then none else if (((0 : Int32)) + a0 < 0 ∨ 6819 ≤ (((0 : Int32)) + a0).toNatClampNeg) then none else ltm (upr g 1 0 (upd (g 1 0) (((0 : Int32)) + a0).toNatClampNeg ((g 1 0 ((((0 : Int32)) + a0).toNatClampNeg)) ||| (((1 : Int32)) <<< (a1 &&& 31))))) (fun g33 => (if a2 = ((1 : Int32)) then if (((0 : Int32)) + a1 < 0 ∨ 6819 ≤ (((0 : Int32)) + a1).toNatClampNeg) then none else if (((0 : Int32)) + a1 < 0 ∨ 6819 ≤ (((0 : Int32)) + a1).toNatClampNeg) then none else ltm (upr g33 1 0 (upd (g33 1 0) (((0 : Int32)) + a1).toNatClampNeg ((g33 1 0 ((((0 : Int32)) + a1).toNatClampNeg)) ||| (((1 : Int32)) <<< (a0 &&& 31))))) (fun g45 => if (((0 : Int32)) + a0 < 0 ∨ 6819 ≤ (((0 : Int32)) + a0).toNatClampNeg) then none else (m_X6_bits F (g45 1 0 ((((0 : Int32)) + a0).toNatClampNeg))).bind (fun r49 => some (r49, g45))) else if (((0 : Int32)) + a1 < 0 ∨ 6819 ≤ (((0 : Int32)) + a1).toNatClampNeg) then none else if (((0 : Int32)) + a1 < 0 ∨ 6819 ≤ (((0 : Int32)) + a1).toNatClampNeg) then none else ltm (upr g33 1 0 (upd (g33 1 0) (((0 : Int32)) + a1).toNatClampNeg ((g33 1 0 ((((0 : Int32)) + a1).toNatClampNeg)) &&& ((((1 : Int32)) <<< (a0 &&& 31)) ^^^ ((-1 : Int32)))))) (fun g38 => if (((0 : Int32)) + a0 < 0 ∨ 6819 ≤ (((0 : Int32)) + a0).toNatClampNeg) then none else (m_X6_bits F (g38 1 0 ((((0 : Int32)) + a0).toNatClampNeg))).bind (fun r42 => some (r42, g38))))) else if (((0 : Int32)) + a0 < 0 ∨ 6819 ≤ (((0 : Int32)) + a0).toNatClampNeg) then none else if (((0 : Int32)) + a0 < 0 ∨ 6819 ≤ (((0 : Int32)) + a0).toNatClampNeg) then none else ltm (upr g 1 0 (upd (g 1 0) (((0 : Int32)) + a0).toNatClampNeg ((g 1 0 ((((0 : Int32)) + a0).toNatClampNeg)) &&& ((((1 : Int32)) <<< (a1 &&& 31)) ^^^ ((-1 : Int32)))))) (fun g14 => (if a2 = ((1 : Int32)) then if (((0 : Int32)) + a1 < 0 ∨ 6819 ≤ (((0 : Int32)) + a1).toNatClampNeg) then none else if (((0 : Int32)) + a1 < 0 ∨ 6819 ≤ (((0 : Int32)) + a1).toNatClampNeg) then none else ltm (upr g14 1 0 (upd (g14 1 0) (((0 : Int32)) + a1).toNatClampNeg ((g14 1 0 ((((0 : Int32)) + a1).toNatClampNeg)) ||| (((1 : Int32)) <<< (a0 &&& 31))))) (fun g26 => if (((0 : Int32)) + a0 < 0 ∨ 6819 ≤ (((0 : Int32)) + a0).toNatClampNeg) then none else (m_X6_bits F (g26 1 0 ((((0 : Int32)) + a0).toNatClampNeg))).bind (fun r30 => some (r30, g26))) else if (((0 : Int32)) + a1 < 0 ∨ 6819 ≤ (((0 : Int32)) + a1).toNatClampNeg) then none else if (((0 : Int32)) + a1 < 0 ∨ 6819 ≤ (((0 : Int32)) + a1).toNatClampNeg) then none else ltm (upr g14 1 0 (upd (g14 1 0) (((0 : Int32)) + a1).toNatClampNeg ((g14 1 0 ((((0 : Int32)) + a1).toNatClampNeg)) &&& ((((1 : Int32)) <<< (a0 &&& 31)) ^^^ ((-1 : Int32)))))) (fun g19 => if (((0 : Int32)) + a0 < 0 ∨ 6819 ≤ (((0 : Int32)) + a0).toNatClampNeg) then none else (m_X6_bits F (g19 1 0 ((((0 : Int32)) + a0).toNatClampNeg))).bind (fun r23 => some (r23, g19)))))))))))))
set_option maxHeartbeats 4000000 in
set_option maxRecDepth 100000 in
theorem c_X6_link (l : Launch) {μ : Mx} (hok : fok (mφ μ))  {F : Nat} {g : Mem} {a0 a1 a2 : Int32} {u : Int32 × Mem} (h : m_X6_link F g a0 a1 a2 = some u) : fM l (mφ μ) yX6_link wsX6_link 2 42 [.ref (fa (mφ μ) 0 0), .int a0, .int a1, .int a2] g (some (.int u.1)) u.2 := by
  refine fM.of (cc := cX6_link) (maxL := 4) (ret := (some .int)) [(0, .ref (fa (mφ μ) 0 0)), (1, .int a0), (2, .int a1), (3, .int a2)] (by decide) rfl (Nat.le_of_ble_eq_true rfl) rfl (fun p e s m below meth c ls hx hb hr hml hown hts hlk hE hF hS hl => ?_)
  replace hown : s.vm.findClass RX6 = some m.cls := hown
  have hL6 : ∀ w ∈ u_ws RX6 TX6 3, w.before ([.ref (fa (mφ μ) 0 0), .int a0, .int a1, .int a2] : List Value).toArray s = true := fun w hw => hts w (by
    unfold wsX6_link
    simp only [List.mem_cons, List.mem_append]
    exact Or.inr (Or.inr hw))
  have kw1 := hts (.fieldLink RX6 7 "MeshLampsModel" "state" "[I") (List.mem_of_getElem? (i := 1) rfl)
  unfold m_X6_link at h
  refine lv_iload_n hx hb dX6_link_0 rfl (lv_at hl 1 rfl) ?_
  obtain ⟨r2, q1, h⟩ := bnd h
  try dsimp only at h
  refine pw_call (va_runS (As := [.int a0]) (rest := []) ⟨hx, hb, hml, hown, hts⟩ (c_X6_isLamp l q1) (va_cwS 1 hts gX6_link_X6_isLamp rfl rfl rfl qs_X6_isLamp ⟨Nat.le_of_ble_eq_true rfl, Nat.le_of_ble_eq_true rfl⟩) preEq rfl rfl hl.1 rfl (lv_room (Nat.le_of_ble_eq_true rfl)) dX6_link_1 ⟨Nat.le_refl _, Nat.le_refl _⟩) ?_
  refine lv_if_eq (tgt := 14) hx hb dX6_link_4 (by decide) (fun c3 => ?_) (fun c3 => ?_)
  · have h := ift h c3
    refine lv_iconst (v := (-1 : Int32)) hx hb dX6_link_14 (by decide) ?_
    exact fw_iret hx hb hr hlk h hF hS dX6_link_15
  · have h := iff0 h c3
    refine lv_iload_n hx hb dX6_link_7 rfl (lv_at hl 2 rfl) ?_
    obtain ⟨r5, q4, h⟩ := bnd h
    try dsimp only at h
    refine pw_call (va_runS (As := [.int a1]) (rest := []) ⟨hx, hb, hml, hown, hts⟩ (c_X6_isLamp l q4) (va_cwS 1 hts gX6_link_X6_isLamp rfl rfl rfl qs_X6_isLamp ⟨Nat.le_of_ble_eq_true rfl, Nat.le_of_ble_eq_true rfl⟩) preEq rfl rfl hl.1 rfl (lv_room (Nat.le_of_ble_eq_true rfl)) dX6_link_8 ⟨Nat.le_refl _, Nat.le_refl _⟩) ?_
    refine lv_if_ne (tgt := 16) hx hb dX6_link_11 (by decide) (fun c6 => ?_) (fun c6 => ?_)
    · have h := iff0 h c6
      refine lv_iload_n hx hb dX6_link_16 rfl (lv_at hl 1 rfl) ?_
      refine lv_iload_n hx hb dX6_link_17 rfl (lv_at hl 2 rfl) ?_
      refine lv_icmp_eq (tgt := 30) hx hb dX6_link_18 (by decide) (fun c7 => ?_) (fun c7 => ?_)
      · have h := ift h c7
        refine lv_bipush (v := (-2 : Int32)) hx hb dX6_link_30 (by decide) ?_
        exact fw_iret hx hb hr hlk h hF hS dX6_link_32
      · have h := iff0 h c7
        refine lv_iload_n hx hb dX6_link_21 rfl (lv_at hl 3 rfl) ?_
        refine lv_iconst (v := (0 : Int32)) hx hb dX6_link_22 (by decide) ?_
        refine lv_iconst (v := (1 : Int32)) hx hb dX6_link_23 (by decide) ?_
        obtain ⟨r9, q8, h⟩ := bnd h
        try dsimp only at h
        refine pw_call (va_runS (As := [.int a2, .int ((0 : Int32)), .int ((1 : Int32))]) (rest := []) ⟨hx, hb, hml, hown, hts⟩ (c_X6_in l q8) (va_cwS 3 hts gX6_link_X6_in rfl rfl rfl qs_X6_in ⟨Nat.le_of_ble_eq_true rfl, Nat.le_of_ble_eq_true rfl⟩) preEq rfl rfl hl.1 rfl (lv_room (Nat.le_of_ble_eq_true rfl)) dX6_link_24 ⟨Nat.le_refl _, Nat.le_refl _⟩) ?_
        refine lv_if_ne (tgt := 33) hx hb dX6_link_27 (by decide) (fun c10 => ?_) (fun c10 => ?_)
        · have h := iff0 h c10
          refine lv_aload_n hx hb dX6_link_33 rfl (lv_at hl 0 rfl) ?_
          refine fw_get (C := RX6) (T := TX6) (N := 3) (ci := 6) (v := .ref (fa (mφ μ) 1 0)) hx hb hL6 hown hE hF (e0 μ) (mm0 μ _ _) rfl 0 (by decide) kw1 rfl dX6_link_34 ?_
          refine lv_iconst (v := (0 : Int32)) hx hb dX6_link_37 (by decide) ?_
          refine lv_iload_n hx hb dX6_link_38 rfl (lv_at hl 1 rfl) ?_
          refine lv_iadd hx hb dX6_link_39 ?_
          refine lv_iload_n hx hb dX6_link_40 rfl (lv_at hl 3 rfl) ?_
          refine lv_iconst (v := (1 : Int32)) hx hb dX6_link_41 (by decide) ?_
          refine lv_icmp_ne (tgt := 60) hx hb dX6_link_42 (by decide) (fun c11 => ?_) (fun c11 => ?_)
          · have h := iff0 h c11
            refine lv_aload_n hx hb dX6_link_60 rfl (lv_at hl 0 rfl) ?_
            refine fw_get (C := RX6) (T := TX6) (N := 3) (ci := 6) (v := .ref (fa (mφ μ) 1 0)) hx hb hL6 hown hE hF (e0 μ) (mm0 μ _ _) rfl 0 (by decide) kw1 rfl dX6_link_61 ?_
            refine lv_iconst (v := (0 : Int32)) hx hb dX6_link_64 (by decide) ?_
            refine lv_iload_n hx hb dX6_link_65 rfl (lv_at hl 1 rfl) ?_
            refine lv_iadd hx hb dX6_link_66 ?_
            obtain ⟨k12, h⟩ := ck h
            refine fw_iald (q := (((0 : Int32)) + a0).toNatClampNeg) hx hb hE hF (e1 μ) (mm1 μ _) 0 rfl k12 rfl dX6_link_67 ?_
            refine lv_iconst (v := (1 : Int32)) hx hb dX6_link_68 (by decide) ?_
            refine lv_iload_n hx hb dX6_link_69 rfl (lv_at hl 2 rfl) ?_
            refine lv_ishl hx hb dX6_link_70 ?_
            refine lv_iconst (v := (-1 : Int32)) hx hb dX6_link_71 (by decide) ?_
            refine lv_ixor hx hb dX6_link_72 ?_
            refine lv_iand hx hb dX6_link_73 ?_
            obtain ⟨k13, h⟩ := ck h
            refine fw_iast (q := (((0 : Int32)) + a0).toNatClampNeg) hx hb hE hok hF hS (e1 μ) (mm1 μ _) 0 rfl k13 rfl dX6_link_74 (fun H locs hF hS => ?_)
            obtain ⟨g14, e15, h⟩ := ltm_e h
            rw [e15] at hF
            refine lv_aload_n hx hb dX6_link_75 rfl (lv_at hl 0 rfl) ?_
            refine fw_get (C := RX6) (T := TX6) (N := 3) (ci := 6) (v := .ref (fa (mφ μ) 1 0)) hx hb hL6 hown hE hF (e0 μ) (mm0 μ _ _) rfl 0 (by decide) kw1 rfl dX6_link_76 ?_
            refine lv_iconst (v := (0 : Int32)) hx hb dX6_link_79 (by decide) ?_
            refine lv_iload_n hx hb dX6_link_80 rfl (lv_at hl 2 rfl) ?_
            refine lv_iadd hx hb dX6_link_81 ?_
            refine lv_iload_n hx hb dX6_link_82 rfl (lv_at hl 3 rfl) ?_
            refine lv_iconst (v := (1 : Int32)) hx hb dX6_link_83 (by decide) ?_
            refine lv_icmp_ne (tgt := 102) hx hb dX6_link_84 (by decide) (fun c16 => ?_) (fun c16 => ?_)
            · have h := iff0 h c16
              refine lv_aload_n hx hb dX6_link_102 rfl (lv_at hl 0 rfl) ?_
              refine fw_get (C := RX6) (T := TX6) (N := 3) (ci := 6) (v := .ref (fa (mφ μ) 1 0)) hx hb hL6 hown hE hF (e0 μ) (mm0 μ _ _) rfl 0 (by decide) kw1 rfl dX6_link_103 ?_
              refine lv_iconst (v := (0 : Int32)) hx hb dX6_link_106 (by decide) ?_
              refine lv_iload_n hx hb dX6_link_107 rfl (lv_at hl 2 rfl) ?_
              refine lv_iadd hx hb dX6_link_108 ?_
              obtain ⟨k17, h⟩ := ck h
              refine fw_iald (q := (((0 : Int32)) + a1).toNatClampNeg) hx hb hE hF (e1 μ) (mm1 μ _) 0 rfl k17 rfl dX6_link_109 ?_
              refine lv_iconst (v := (1 : Int32)) hx hb dX6_link_110 (by decide) ?_
              refine lv_iload_n hx hb dX6_link_111 rfl (lv_at hl 1 rfl) ?_
              refine lv_ishl hx hb dX6_link_112 ?_
              refine lv_iconst (v := (-1 : Int32)) hx hb dX6_link_113 (by decide) ?_
              refine lv_ixor hx hb dX6_link_114 ?_
              refine lv_iand hx hb dX6_link_115 ?_
              obtain ⟨k18, h⟩ := ck h
              refine fw_iast (q := (((0 : Int32)) + a1).toNatClampNeg) hx hb hE hok hF hS (e1 μ) (mm1 μ _) 0 rfl k18 rfl dX6_link_116 (fun H locs hF hS => ?_)
              obtain ⟨g19, e20, h⟩ := ltm_e h
              rw [e20] at hF
              refine lv_aload_n hx hb dX6_link_117 rfl (lv_at hl 0 rfl) ?_
              refine fw_get (C := RX6) (T := TX6) (N := 3) (ci := 6) (v := .ref (fa (mφ μ) 1 0)) hx hb hL6 hown hE hF (e0 μ) (mm0 μ _ _) rfl 0 (by decide) kw1 rfl dX6_link_118 ?_
              refine lv_iconst (v := (0 : Int32)) hx hb dX6_link_121 (by decide) ?_
              refine lv_iload_n hx hb dX6_link_122 rfl (lv_at hl 1 rfl) ?_
              refine lv_iadd hx hb dX6_link_123 ?_
              obtain ⟨k21, h⟩ := ck h
              refine fw_iald (q := (((0 : Int32)) + a0).toNatClampNeg) hx hb hE hF (e1 μ) (mm1 μ _) 0 rfl k21 rfl dX6_link_124 ?_
              obtain ⟨r23, q22, h⟩ := bnd h
              try dsimp only at h
              refine pw_call (va_runS (As := [.int (g19 1 0 ((((0 : Int32)) + a0).toNatClampNeg))]) (rest := []) ⟨hx, hb, hml, hown, hts⟩ (c_X6_bits l q22) (va_cwS 1 hts gX6_link_X6_bits rfl rfl rfl qs_X6_bits ⟨Nat.le_of_ble_eq_true rfl, Nat.le_of_ble_eq_true rfl⟩) preEq rfl rfl hl.1 rfl (lv_room (Nat.le_of_ble_eq_true rfl)) dX6_link_125 ⟨Nat.le_refl _, Nat.le_refl _⟩) ?_
              exact fw_iret hx hb hr hlk h hF hS dX6_link_128
            · have h := ift h c16
              refine lv_aload_n hx hb dX6_link_87 rfl (lv_at hl 0 rfl) ?_
              refine fw_get (C := RX6) (T := TX6) (N := 3) (ci := 6) (v := .ref (fa (mφ μ) 1 0)) hx hb hL6 hown hE hF (e0 μ) (mm0 μ _ _) rfl 0 (by decide) kw1 rfl dX6_link_88 ?_
              refine lv_iconst (v := (0 : Int32)) hx hb dX6_link_91 (by decide) ?_
              refine lv_iload_n hx hb dX6_link_92 rfl (lv_at hl 2 rfl) ?_
              refine lv_iadd hx hb dX6_link_93 ?_
              obtain ⟨k24, h⟩ := ck h
              refine fw_iald (q := (((0 : Int32)) + a1).toNatClampNeg) hx hb hE hF (e1 μ) (mm1 μ _) 0 rfl k24 rfl dX6_link_94 ?_
              refine lv_iconst (v := (1 : Int32)) hx hb dX6_link_95 (by decide) ?_
              refine lv_iload_n hx hb dX6_link_96 rfl (lv_at hl 1 rfl) ?_
              refine lv_ishl hx hb dX6_link_97 ?_
              refine lv_ior hx hb dX6_link_98 ?_
              refine lv_goto (tgt := 116) hx hb dX6_link_99 (by decide) ?_
              obtain ⟨k25, h⟩ := ck h
              refine fw_iast (q := (((0 : Int32)) + a1).toNatClampNeg) hx hb hE hok hF hS (e1 μ) (mm1 μ _) 0 rfl k25 rfl dX6_link_116 (fun H locs hF hS => ?_)
              obtain ⟨g26, e27, h⟩ := ltm_e h
              rw [e27] at hF
              refine lv_aload_n hx hb dX6_link_117 rfl (lv_at hl 0 rfl) ?_
              refine fw_get (C := RX6) (T := TX6) (N := 3) (ci := 6) (v := .ref (fa (mφ μ) 1 0)) hx hb hL6 hown hE hF (e0 μ) (mm0 μ _ _) rfl 0 (by decide) kw1 rfl dX6_link_118 ?_
              refine lv_iconst (v := (0 : Int32)) hx hb dX6_link_121 (by decide) ?_
              refine lv_iload_n hx hb dX6_link_122 rfl (lv_at hl 1 rfl) ?_
              refine lv_iadd hx hb dX6_link_123 ?_
              obtain ⟨k28, h⟩ := ck h
              refine fw_iald (q := (((0 : Int32)) + a0).toNatClampNeg) hx hb hE hF (e1 μ) (mm1 μ _) 0 rfl k28 rfl dX6_link_124 ?_
              obtain ⟨r30, q29, h⟩ := bnd h
              try dsimp only at h
              refine pw_call (va_runS (As := [.int (g26 1 0 ((((0 : Int32)) + a0).toNatClampNeg))]) (rest := []) ⟨hx, hb, hml, hown, hts⟩ (c_X6_bits l q29) (va_cwS 1 hts gX6_link_X6_bits rfl rfl rfl qs_X6_bits ⟨Nat.le_of_ble_eq_true rfl, Nat.le_of_ble_eq_true rfl⟩) preEq rfl rfl hl.1 rfl (lv_room (Nat.le_of_ble_eq_true rfl)) dX6_link_125 ⟨Nat.le_refl _, Nat.le_refl _⟩) ?_
              exact fw_iret hx hb hr hlk h hF hS dX6_link_128
          · have h := ift h c11
            refine lv_aload_n hx hb dX6_link_45 rfl (lv_at hl 0 rfl) ?_
            refine fw_get (C := RX6) (T := TX6) (N := 3) (ci := 6) (v := .ref (fa (mφ μ) 1 0)) hx hb hL6 hown hE hF (e0 μ) (mm0 μ _ _) rfl 0 (by decide) kw1 rfl dX6_link_46 ?_
            refine lv_iconst (v := (0 : Int32)) hx hb dX6_link_49 (by decide) ?_
            refine lv_iload_n hx hb dX6_link_50 rfl (lv_at hl 1 rfl) ?_
            refine lv_iadd hx hb dX6_link_51 ?_
            obtain ⟨k31, h⟩ := ck h
            refine fw_iald (q := (((0 : Int32)) + a0).toNatClampNeg) hx hb hE hF (e1 μ) (mm1 μ _) 0 rfl k31 rfl dX6_link_52 ?_
            refine lv_iconst (v := (1 : Int32)) hx hb dX6_link_53 (by decide) ?_
            refine lv_iload_n hx hb dX6_link_54 rfl (lv_at hl 2 rfl) ?_
            refine lv_ishl hx hb dX6_link_55 ?_
            refine lv_ior hx hb dX6_link_56 ?_
            refine lv_goto (tgt := 74) hx hb dX6_link_57 (by decide) ?_
            obtain ⟨k32, h⟩ := ck h
            refine fw_iast (q := (((0 : Int32)) + a0).toNatClampNeg) hx hb hE hok hF hS (e1 μ) (mm1 μ _) 0 rfl k32 rfl dX6_link_74 (fun H locs hF hS => ?_)
            obtain ⟨g33, e34, h⟩ := ltm_e h
            rw [e34] at hF
            refine lv_aload_n hx hb dX6_link_75 rfl (lv_at hl 0 rfl) ?_
            refine fw_get (C := RX6) (T := TX6) (N := 3) (ci := 6) (v := .ref (fa (mφ μ) 1 0)) hx hb hL6 hown hE hF (e0 μ) (mm0 μ _ _) rfl 0 (by decide) kw1 rfl dX6_link_76 ?_
            refine lv_iconst (v := (0 : Int32)) hx hb dX6_link_79 (by decide) ?_
            refine lv_iload_n hx hb dX6_link_80 rfl (lv_at hl 2 rfl) ?_
            refine lv_iadd hx hb dX6_link_81 ?_
            refine lv_iload_n hx hb dX6_link_82 rfl (lv_at hl 3 rfl) ?_
            refine lv_iconst (v := (1 : Int32)) hx hb dX6_link_83 (by decide) ?_
            refine lv_icmp_ne (tgt := 102) hx hb dX6_link_84 (by decide) (fun c35 => ?_) (fun c35 => ?_)
            · have h := iff0 h c35
              refine lv_aload_n hx hb dX6_link_102 rfl (lv_at hl 0 rfl) ?_
              refine fw_get (C := RX6) (T := TX6) (N := 3) (ci := 6) (v := .ref (fa (mφ μ) 1 0)) hx hb hL6 hown hE hF (e0 μ) (mm0 μ _ _) rfl 0 (by decide) kw1 rfl dX6_link_103 ?_
              refine lv_iconst (v := (0 : Int32)) hx hb dX6_link_106 (by decide) ?_
              refine lv_iload_n hx hb dX6_link_107 rfl (lv_at hl 2 rfl) ?_
              refine lv_iadd hx hb dX6_link_108 ?_
              obtain ⟨k36, h⟩ := ck h
              refine fw_iald (q := (((0 : Int32)) + a1).toNatClampNeg) hx hb hE hF (e1 μ) (mm1 μ _) 0 rfl k36 rfl dX6_link_109 ?_
              refine lv_iconst (v := (1 : Int32)) hx hb dX6_link_110 (by decide) ?_
              refine lv_iload_n hx hb dX6_link_111 rfl (lv_at hl 1 rfl) ?_
              refine lv_ishl hx hb dX6_link_112 ?_
              refine lv_iconst (v := (-1 : Int32)) hx hb dX6_link_113 (by decide) ?_
              refine lv_ixor hx hb dX6_link_114 ?_
              refine lv_iand hx hb dX6_link_115 ?_
              obtain ⟨k37, h⟩ := ck h
              refine fw_iast (q := (((0 : Int32)) + a1).toNatClampNeg) hx hb hE hok hF hS (e1 μ) (mm1 μ _) 0 rfl k37 rfl dX6_link_116 (fun H locs hF hS => ?_)
              obtain ⟨g38, e39, h⟩ := ltm_e h
              rw [e39] at hF
              refine lv_aload_n hx hb dX6_link_117 rfl (lv_at hl 0 rfl) ?_
              refine fw_get (C := RX6) (T := TX6) (N := 3) (ci := 6) (v := .ref (fa (mφ μ) 1 0)) hx hb hL6 hown hE hF (e0 μ) (mm0 μ _ _) rfl 0 (by decide) kw1 rfl dX6_link_118 ?_
              refine lv_iconst (v := (0 : Int32)) hx hb dX6_link_121 (by decide) ?_
              refine lv_iload_n hx hb dX6_link_122 rfl (lv_at hl 1 rfl) ?_
              refine lv_iadd hx hb dX6_link_123 ?_
              obtain ⟨k40, h⟩ := ck h
              refine fw_iald (q := (((0 : Int32)) + a0).toNatClampNeg) hx hb hE hF (e1 μ) (mm1 μ _) 0 rfl k40 rfl dX6_link_124 ?_
              obtain ⟨r42, q41, h⟩ := bnd h
              try dsimp only at h
              refine pw_call (va_runS (As := [.int (g38 1 0 ((((0 : Int32)) + a0).toNatClampNeg))]) (rest := []) ⟨hx, hb, hml, hown, hts⟩ (c_X6_bits l q41) (va_cwS 1 hts gX6_link_X6_bits rfl rfl rfl qs_X6_bits ⟨Nat.le_of_ble_eq_true rfl, Nat.le_of_ble_eq_true rfl⟩) preEq rfl rfl hl.1 rfl (lv_room (Nat.le_of_ble_eq_true rfl)) dX6_link_125 ⟨Nat.le_refl _, Nat.le_refl _⟩) ?_
              exact fw_iret hx hb hr hlk h hF hS dX6_link_128
            · have h := ift h c35
              refine lv_aload_n hx hb dX6_link_87 rfl (lv_at hl 0 rfl) ?_
              refine fw_get (C := RX6) (T := TX6) (N := 3) (ci := 6) (v := .ref (fa (mφ μ) 1 0)) hx hb hL6 hown hE hF (e0 μ) (mm0 μ _ _) rfl 0 (by decide) kw1 rfl dX6_link_88 ?_
              refine lv_iconst (v := (0 : Int32)) hx hb dX6_link_91 (by decide) ?_
              refine lv_iload_n hx hb dX6_link_92 rfl (lv_at hl 2 rfl) ?_
              refine lv_iadd hx hb dX6_link_93 ?_
              obtain ⟨k43, h⟩ := ck h
              refine fw_iald (q := (((0 : Int32)) + a1).toNatClampNeg) hx hb hE hF (e1 μ) (mm1 μ _) 0 rfl k43 rfl dX6_link_94 ?_
              refine lv_iconst (v := (1 : Int32)) hx hb dX6_link_95 (by decide) ?_
              refine lv_iload_n hx hb dX6_link_96 rfl (lv_at hl 1 rfl) ?_
              refine lv_ishl hx hb dX6_link_97 ?_
              refine lv_ior hx hb dX6_link_98 ?_
              refine lv_goto (tgt := 116) hx hb dX6_link_99 (by decide) ?_
              obtain ⟨k44, h⟩ := ck h
              refine fw_iast (q := (((0 : Int32)) + a1).toNatClampNeg) hx hb hE hok hF hS (e1 μ) (mm1 μ _) 0 rfl k44 rfl dX6_link_116 (fun H locs hF hS => ?_)
              obtain ⟨g45, e46, h⟩ := ltm_e h
              rw [e46] at hF
              refine lv_aload_n hx hb dX6_link_117 rfl (lv_at hl 0 rfl) ?_
              refine fw_get (C := RX6) (T := TX6) (N := 3) (ci := 6) (v := .ref (fa (mφ μ) 1 0)) hx hb hL6 hown hE hF (e0 μ) (mm0 μ _ _) rfl 0 (by decide) kw1 rfl dX6_link_118 ?_
              refine lv_iconst (v := (0 : Int32)) hx hb dX6_link_121 (by decide) ?_
              refine lv_iload_n hx hb dX6_link_122 rfl (lv_at hl 1 rfl) ?_
              refine lv_iadd hx hb dX6_link_123 ?_
              obtain ⟨k47, h⟩ := ck h
              refine fw_iald (q := (((0 : Int32)) + a0).toNatClampNeg) hx hb hE hF (e1 μ) (mm1 μ _) 0 rfl k47 rfl dX6_link_124 ?_
              obtain ⟨r49, q48, h⟩ := bnd h
              try dsimp only at h
              refine pw_call (va_runS (As := [.int (g45 1 0 ((((0 : Int32)) + a0).toNatClampNeg))]) (rest := []) ⟨hx, hb, hml, hown, hts⟩ (c_X6_bits l q48) (va_cwS 1 hts gX6_link_X6_bits rfl rfl rfl qs_X6_bits ⟨Nat.le_of_ble_eq_true rfl, Nat.le_of_ble_eq_true rfl⟩) preEq rfl rfl hl.1 rfl (lv_room (Nat.le_of_ble_eq_true rfl)) dX6_link_125 ⟨Nat.le_refl _, Nat.le_refl _⟩) ?_
              exact fw_iret hx hb hr hlk h hF hS dX6_link_128
        · have h := ift h c10
          refine lv_bipush (v := (-2 : Int32)) hx hb dX6_link_30 (by decide) ?_
          exact fw_iret hx hb hr hlk h hF hS dX6_link_32
    · have h := ift h c6
      refine lv_iconst (v := (-1 : Int32)) hx hb dX6_link_14 (by decide) ?_
      exact fw_iret hx hb hr hlk h hF hS dX6_link_15
def m_X6_set (F : Nat) (g : Mem) (a0 a1 a2 : Int32) : Option (Int32 × Mem) := (m_X6_isLamp a0).bind (fun r2 => (if r2 = 0 then some ((-1 : Int32), g) else (m_X6_in a1 ((0 : Int32)) ((3 : Int32))).bind (fun r5 => (if r5 = 0 then some ((-2 : Int32), g) else (if a1 = 0 then (if a1 = 0 then (m_X6_in a2 ((1 : Int32)) ((9 : Int32))).bind (fun r92 => (if r92 = 0 then some ((-2 : Int32), g) else if ((((10 : Int32)) + (((10 : Int32)) * a1)) + a0 < 0 ∨ 6819 ≤ ((((10 : Int32)) + (((10 : Int32)) * a1)) + a0).toNatClampNeg) then none else if ((((10 : Int32)) + (((10 : Int32)) * a1)) + a0 < 0 ∨ 6819 ≤ ((((10 : Int32)) + (((10 : Int32)) * a1)) + a0).toNatClampNeg) then none else ltm (upr g 1 0 (upd (g 1 0) ((((10 : Int32)) + (((10 : Int32)) * a1)) + a0).toNatClampNeg a2)) (fun g96 => (m_X6_forget F g96 a0).bind (fun (r99, g100) => some (g 1 0 (((((10 : Int32)) + (((10 : Int32)) * a1)) + a0).toNatClampNeg), g100))))) else (if a1 = ((1 : Int32)) then (m_X6_in a2 ((1 : Int32)) ((1 : Int32))).bind (fun r81 => (if r81 = 0 then some ((-2 : Int32), g) else if ((((10 : Int32)) + (((10 : Int32)) * a1)) + a0 < 0 ∨ 6819 ≤ ((((10 : Int32)) + (((10 : Int32)) * a1)) + a0).toNatClampNeg) then none else if ((((10 : Int32)) + (((10 : Int32)) * a1)) + a0 < 0 ∨ 6819 ≤ ((((10 : Int32)) + (((10 : Int32)) * a1)) + a0).toNatClampNeg) then none else ltm (upr g 1 0 (upd (g 1 0) ((((10 : Int32)) + (((10 : Int32)) * a1)) + a0).toNatClampNeg a2)) (fun g85 => (m_X6_forget F g85 a0).bind (fun (r88, g89) => some (g 1 0 (((((10 : Int32)) + (((10 : Int32)) * a1)) + a0).toNatClampNeg), g89))))) else (if a1 = ((2 : Int32)) then (m_X6_in a2 ((1 : Int32)) ((8 : Int32))).bind (fun r70 => (if r70 = 0 then some ((-2 : Int32), g) else if ((((10 : Int32)) + (((10 : Int32)) * a1)) + a0 < 0 ∨ 6819 ≤ ((((10 : Int32)) + (((10 : Int32)) * a1)) + a0).toNatClampNeg) then none else if ((((10 : Int32)) + (((10 : Int32)) * a1)) + a0 < 0 ∨ 6819 ≤ ((((10 : Int32)) + (((10 : Int32)) * a1)) + a0).toNatClampNeg) then none else ltm (upr g 1 0 (upd (g 1 0) ((((10 : Int32)) + (((10 : Int32)) * a1)) + a0).toNatClampNeg a2)) (fun g74 => (m_X6_forget F g74 a0).bind (fun (r77, g78) => some (g 1 0 (((((10 : Int32)) + (((10 : Int32)) * a1)) + a0).toNatClampNeg), g78))))) else (m_X6_in a2 ((1 : Int32)) ((15 : Int32))).bind (fun r59 => (if r59 = 0 then some ((-2 : Int32), g) else if ((((10 : Int32)) + (((10 : Int32)) * a1)) + a0 < 0 ∨ 6819 ≤ ((((10 : Int32)) + (((10 : Int32)) * a1)) + a0).toNatClampNeg) then none else if ((((10 : Int32)) + (((10 : Int32)) * a1)) + a0 < 0 ∨ 6819 ≤ ((((10 : Int32)) + (((10 : Int32)) * a1)) + a0).toNatClampNeg) then none else ltm (upr g 1 0 (upd (g 1 0) ((((10 : Int32)) + (((10 : Int32)) * a1)) + a0).toNatClampNeg a2)) (fun g63 => (m_X6_forget F g63 a0).bind (fun (r66, g67) => some (g 1 0 (((((10 : Int32)) + (((10 : Int32)) * a1)) + a0).toNatClampNeg), g67)))))))) else (if a1 = 0 then (m_X6_in a2 ((0 : Int32)) ((9 : Int32))).bind (fun r45 => (if r45 = 0 then some ((-2 : Int32), g) else if ((((10 : Int32)) + (((10 : Int32)) * a1)) + a0 < 0 ∨ 6819 ≤ ((((10 : Int32)) + (((10 : Int32)) * a1)) + a0).toNatClampNeg) then none else if ((((10 : Int32)) + (((10 : Int32)) * a1)) + a0 < 0 ∨ 6819 ≤ ((((10 : Int32)) + (((10 : Int32)) * a1)) + a0).toNatClampNeg) then none else ltm (upr g 1 0 (upd (g 1 0) ((((10 : Int32)) + (((10 : Int32)) * a1)) + a0).toNatClampNeg a2)) (fun g49 => (m_X6_forget F g49 a0).bind (fun (r52, g53) => some (g 1 0 (((((10 : Int32)) + (((10 : Int32)) * a1)) + a0).toNatClampNeg), g53))))) else (if a1 = ((1 : Int32)) then (m_X6_in a2 ((0 : Int32)) ((1 : Int32))).bind (fun r34 => (if r34 = 0 then some ((-2 : Int32), g) else if ((((10 : Int32)) + (((10 : Int32)) * a1)) + a0 < 0 ∨ 6819 ≤ ((((10 : Int32)) + (((10 : Int32)) * a1)) + a0).toNatClampNeg) then none else if ((((10 : Int32)) + (((10 : Int32)) * a1)) + a0 < 0 ∨ 6819 ≤ ((((10 : Int32)) + (((10 : Int32)) * a1)) + a0).toNatClampNeg) then none else ltm (upr g 1 0 (upd (g 1 0) ((((10 : Int32)) + (((10 : Int32)) * a1)) + a0).toNatClampNeg a2)) (fun g38 => (m_X6_forget F g38 a0).bind (fun (r41, g42) => some (g 1 0 (((((10 : Int32)) + (((10 : Int32)) * a1)) + a0).toNatClampNeg), g42))))) else (if a1 = ((2 : Int32)) then (m_X6_in a2 ((0 : Int32)) ((8 : Int32))).bind (fun r23 => (if r23 = 0 then some ((-2 : Int32), g) else if ((((10 : Int32)) + (((10 : Int32)) * a1)) + a0 < 0 ∨ 6819 ≤ ((((10 : Int32)) + (((10 : Int32)) * a1)) + a0).toNatClampNeg) then none else if ((((10 : Int32)) + (((10 : Int32)) * a1)) + a0 < 0 ∨ 6819 ≤ ((((10 : Int32)) + (((10 : Int32)) * a1)) + a0).toNatClampNeg) then none else ltm (upr g 1 0 (upd (g 1 0) ((((10 : Int32)) + (((10 : Int32)) * a1)) + a0).toNatClampNeg a2)) (fun g27 => (m_X6_forget F g27 a0).bind (fun (r30, g31) => some (g 1 0 (((((10 : Int32)) + (((10 : Int32)) * a1)) + a0).toNatClampNeg), g31))))) else (m_X6_in a2 ((0 : Int32)) ((15 : Int32))).bind (fun r12 => (if r12 = 0 then some ((-2 : Int32), g) else if ((((10 : Int32)) + (((10 : Int32)) * a1)) + a0 < 0 ∨ 6819 ≤ ((((10 : Int32)) + (((10 : Int32)) * a1)) + a0).toNatClampNeg) then none else if ((((10 : Int32)) + (((10 : Int32)) * a1)) + a0 < 0 ∨ 6819 ≤ ((((10 : Int32)) + (((10 : Int32)) * a1)) + a0).toNatClampNeg) then none else ltm (upr g 1 0 (upd (g 1 0) ((((10 : Int32)) + (((10 : Int32)) * a1)) + a0).toNatClampNeg a2)) (fun g16 => (m_X6_forget F g16 a0).bind (fun (r19, g20) => some (g 1 0 (((((10 : Int32)) + (((10 : Int32)) * a1)) + a0).toNatClampNeg), g20)))))))))))))
set_option maxHeartbeats 4000000 in
set_option maxRecDepth 100000 in
theorem c_X6_set (l : Launch) {μ : Mx} (hok : fok (mφ μ))  {F : Nat} {g : Mem} {a0 a1 a2 : Int32} {u : Int32 × Mem} (h : m_X6_set F g a0 a1 a2 = some u) : fM l (mφ μ) yX6_set wsX6_set 2 42 [.ref (fa (mφ μ) 0 0), .int a0, .int a1, .int a2] g (some (.int u.1)) u.2 := by
  refine fM.of (cc := cX6_set) (maxL := 6) (ret := (some .int)) [(0, .ref (fa (mφ μ) 0 0)), (1, .int a0), (2, .int a1), (3, .int a2)] (by decide) rfl (Nat.le_of_ble_eq_true rfl) rfl (fun p e s m below meth c ls hx hb hr hml hown hts hlk hE hF hS hl => ?_)
  replace hown : s.vm.findClass RX6 = some m.cls := hown
  have hL6 : ∀ w ∈ u_ws RX6 TX6 3, w.before ([.ref (fa (mφ μ) 0 0), .int a0, .int a1, .int a2] : List Value).toArray s = true := fun w hw => hts w (by
    unfold wsX6_set
    simp only [List.mem_cons, List.mem_append]
    exact Or.inr (Or.inr hw))
  have kw1 := hts (.fieldLink RX6 7 "MeshLampsModel" "state" "[I") (List.mem_of_getElem? (i := 1) rfl)
  unfold m_X6_set at h
  refine lv_iload_n hx hb dX6_set_0 rfl (lv_at hl 1 rfl) ?_
  obtain ⟨r2, q1, h⟩ := bnd h
  try dsimp only at h
  refine pw_call (va_runS (As := [.int a0]) (rest := []) ⟨hx, hb, hml, hown, hts⟩ (c_X6_isLamp l q1) (va_cwS 1 hts gX6_set_X6_isLamp rfl rfl rfl qs_X6_isLamp ⟨Nat.le_of_ble_eq_true rfl, Nat.le_of_ble_eq_true rfl⟩) preEq rfl rfl hl.1 rfl (lv_room (Nat.le_of_ble_eq_true rfl)) dX6_set_1 ⟨Nat.le_refl _, Nat.le_refl _⟩) ?_
  refine lv_if_ne (tgt := 9) hx hb dX6_set_4 (by decide) (fun c3 => ?_) (fun c3 => ?_)
  · have h := iff0 h c3
    refine lv_iload_n hx hb dX6_set_9 rfl (lv_at hl 2 rfl) ?_
    refine lv_iconst (v := (0 : Int32)) hx hb dX6_set_10 (by decide) ?_
    refine lv_iconst (v := (3 : Int32)) hx hb dX6_set_11 (by decide) ?_
    obtain ⟨r5, q4, h⟩ := bnd h
    try dsimp only at h
    refine pw_call (va_runS (As := [.int a1, .int ((0 : Int32)), .int ((3 : Int32))]) (rest := []) ⟨hx, hb, hml, hown, hts⟩ (c_X6_in l q4) (va_cwS 3 hts gX6_set_X6_in rfl rfl rfl qs_X6_in ⟨Nat.le_of_ble_eq_true rfl, Nat.le_of_ble_eq_true rfl⟩) preEq rfl rfl hl.1 rfl (lv_room (Nat.le_of_ble_eq_true rfl)) dX6_set_12 ⟨Nat.le_refl _, Nat.le_refl _⟩) ?_
    refine lv_if_eq (tgt := 64) hx hb dX6_set_15 (by decide) (fun c6 => ?_) (fun c6 => ?_)
    · have h := ift h c6
      refine lv_bipush (v := (-2 : Int32)) hx hb dX6_set_64 (by decide) ?_
      exact fw_iret hx hb hr hlk h hF hS dX6_set_66
    · have h := iff0 h c6
      refine lv_iload_n hx hb dX6_set_18 rfl (lv_at hl 3 rfl) ?_
      refine lv_iload_n hx hb dX6_set_19 rfl (lv_at hl 2 rfl) ?_
      refine lv_if_ne (tgt := 27) hx hb dX6_set_20 (by decide) (fun c7 => ?_) (fun c7 => ?_)
      · have h := iff0 h c7
        refine lv_iconst (v := (0 : Int32)) hx hb dX6_set_27 (by decide) ?_
        refine lv_iload_n hx hb dX6_set_28 rfl (lv_at hl 2 rfl) ?_
        refine lv_if_ne (tgt := 37) hx hb dX6_set_29 (by decide) (fun c8 => ?_) (fun c8 => ?_)
        · have h := iff0 h c8
          refine lv_iload_n hx hb dX6_set_37 rfl (lv_at hl 2 rfl) ?_
          refine lv_iconst (v := (1 : Int32)) hx hb dX6_set_38 (by decide) ?_
          refine lv_icmp_ne (tgt := 46) hx hb dX6_set_39 (by decide) (fun c9 => ?_) (fun c9 => ?_)
          · have h := iff0 h c9
            refine lv_iload_n hx hb dX6_set_46 rfl (lv_at hl 2 rfl) ?_
            refine lv_iconst (v := (2 : Int32)) hx hb dX6_set_47 (by decide) ?_
            refine lv_icmp_ne (tgt := 56) hx hb dX6_set_48 (by decide) (fun c10 => ?_) (fun c10 => ?_)
            · have h := iff0 h c10
              refine lv_bipush (v := (15 : Int32)) hx hb dX6_set_56 (by decide) ?_
              obtain ⟨r12, q11, h⟩ := bnd h
              try dsimp only at h
              refine pw_call (va_runS (As := [.int a2, .int ((0 : Int32)), .int ((15 : Int32))]) (rest := []) ⟨hx, hb, hml, hown, hts⟩ (c_X6_in l q11) (va_cwS 3 hts gX6_set_X6_in rfl rfl rfl qs_X6_in ⟨Nat.le_of_ble_eq_true rfl, Nat.le_of_ble_eq_true rfl⟩) preEq rfl rfl hl.1 rfl (lv_room (Nat.le_of_ble_eq_true rfl)) dX6_set_58 ⟨Nat.le_refl _, Nat.le_refl _⟩) ?_
              refine lv_if_ne (tgt := 67) hx hb dX6_set_61 (by decide) (fun c13 => ?_) (fun c13 => ?_)
              · have h := iff0 h c13
                refine lv_bipush (v := (10 : Int32)) hx hb dX6_set_67 (by decide) ?_
                refine lv_bipush (v := (10 : Int32)) hx hb dX6_set_69 (by decide) ?_
                refine lv_iload_n hx hb dX6_set_71 rfl (lv_at hl 2 rfl) ?_
                refine lv_imul hx hb dX6_set_72 ?_
                refine lv_iadd hx hb dX6_set_73 ?_
                refine lv_iload_n hx hb dX6_set_74 rfl (lv_at hl 1 rfl) ?_
                refine lv_iadd hx hb dX6_set_75 ?_
                refine lv_istore (lv' := [(4, .int ((((10 : Int32)) + (((10 : Int32)) * a1)) + a0)), (0, .ref (fa (mφ μ) 0 0)), (1, .int a0), (2, .int a1), (3, .int a2)]) hx hb dX6_set_76 hl (by decide) rfl (fun ls hl => ?_)
                refine lv_aload_n hx hb dX6_set_78 rfl (lv_at hl 1 rfl) ?_
                refine fw_get (C := RX6) (T := TX6) (N := 3) (ci := 6) (v := .ref (fa (mφ μ) 1 0)) hx hb hL6 hown hE hF (e0 μ) (mm0 μ _ _) rfl 0 (by decide) kw1 rfl dX6_set_79 ?_
                refine lv_iload hx hb dX6_set_82 (lv_at hl 0 rfl) ?_
                obtain ⟨k14, h⟩ := ck h
                refine fw_iald (q := ((((10 : Int32)) + (((10 : Int32)) * a1)) + a0).toNatClampNeg) hx hb hE hF (e1 μ) (mm1 μ _) 0 rfl k14 rfl dX6_set_84 ?_
                refine lv_istore (lv' := [(5, .int (g 1 0 (((((10 : Int32)) + (((10 : Int32)) * a1)) + a0).toNatClampNeg))), (4, .int ((((10 : Int32)) + (((10 : Int32)) * a1)) + a0)), (0, .ref (fa (mφ μ) 0 0)), (1, .int a0), (2, .int a1), (3, .int a2)]) hx hb dX6_set_85 hl (by decide) rfl (fun ls hl => ?_)
                refine lv_aload_n hx hb dX6_set_87 rfl (lv_at hl 2 rfl) ?_
                refine fw_get (C := RX6) (T := TX6) (N := 3) (ci := 6) (v := .ref (fa (mφ μ) 1 0)) hx hb hL6 hown hE hF (e0 μ) (mm0 μ _ _) rfl 0 (by decide) kw1 rfl dX6_set_88 ?_
                refine lv_iload hx hb dX6_set_91 (lv_at hl 1 rfl) ?_
                refine lv_iload_n hx hb dX6_set_93 rfl (lv_at hl 5 rfl) ?_
                obtain ⟨k15, h⟩ := ck h
                refine fw_iast (q := ((((10 : Int32)) + (((10 : Int32)) * a1)) + a0).toNatClampNeg) hx hb hE hok hF hS (e1 μ) (mm1 μ _) 0 rfl k15 rfl dX6_set_94 (fun H locs hF hS => ?_)
                obtain ⟨g16, e17, h⟩ := ltm_e h
                rw [e17] at hF
                refine lv_aload_n hx hb dX6_set_95 rfl (lv_at hl 2 rfl) ?_
                refine lv_iload_n hx hb dX6_set_96 rfl (lv_at hl 3 rfl) ?_
                obtain ⟨⟨r19, g20⟩, q18, h⟩ := bnd h
                try dsimp only at h
                refine fw_callv (va_runV (As := [.int a0]) (rest := []) ⟨hx, hb, hml, hown, hts⟩ (c_X6_forget l hok q18) (cwV 1 hts gX6_set_X6_forget rfl rfl rfl qv_X6_forget ⟨Nat.le_of_ble_eq_true rfl, Nat.le_of_ble_eq_true rfl⟩) (fw_preV hok hE hF (e0 μ) (mm0 μ _ _) rfl) rfl rfl hl.1 rfl (lv_room (Nat.le_of_ble_eq_true rfl)) dX6_set_97 ⟨Nat.le_refl _, Nat.le_refl _⟩) hS (fun H locs hF hS => ?_)
                refine lv_iload hx hb dX6_set_100 (lv_at hl 0 rfl) ?_
                exact fw_iret hx hb hr hlk h hF hS dX6_set_102
              · have h := ift h c13
                refine lv_bipush (v := (-2 : Int32)) hx hb dX6_set_64 (by decide) ?_
                exact fw_iret hx hb hr hlk h hF hS dX6_set_66
            · have h := ift h c10
              refine lv_bipush (v := (8 : Int32)) hx hb dX6_set_51 (by decide) ?_
              refine lv_goto (tgt := 58) hx hb dX6_set_53 (by decide) ?_
              obtain ⟨r23, q22, h⟩ := bnd h
              try dsimp only at h
              refine pw_call (va_runS (As := [.int a2, .int ((0 : Int32)), .int ((8 : Int32))]) (rest := []) ⟨hx, hb, hml, hown, hts⟩ (c_X6_in l q22) (va_cwS 3 hts gX6_set_X6_in rfl rfl rfl qs_X6_in ⟨Nat.le_of_ble_eq_true rfl, Nat.le_of_ble_eq_true rfl⟩) preEq rfl rfl hl.1 rfl (lv_room (Nat.le_of_ble_eq_true rfl)) dX6_set_58 ⟨Nat.le_refl _, Nat.le_refl _⟩) ?_
              refine lv_if_ne (tgt := 67) hx hb dX6_set_61 (by decide) (fun c24 => ?_) (fun c24 => ?_)
              · have h := iff0 h c24
                refine lv_bipush (v := (10 : Int32)) hx hb dX6_set_67 (by decide) ?_
                refine lv_bipush (v := (10 : Int32)) hx hb dX6_set_69 (by decide) ?_
                refine lv_iload_n hx hb dX6_set_71 rfl (lv_at hl 2 rfl) ?_
                refine lv_imul hx hb dX6_set_72 ?_
                refine lv_iadd hx hb dX6_set_73 ?_
                refine lv_iload_n hx hb dX6_set_74 rfl (lv_at hl 1 rfl) ?_
                refine lv_iadd hx hb dX6_set_75 ?_
                refine lv_istore (lv' := [(4, .int ((((10 : Int32)) + (((10 : Int32)) * a1)) + a0)), (0, .ref (fa (mφ μ) 0 0)), (1, .int a0), (2, .int a1), (3, .int a2)]) hx hb dX6_set_76 hl (by decide) rfl (fun ls hl => ?_)
                refine lv_aload_n hx hb dX6_set_78 rfl (lv_at hl 1 rfl) ?_
                refine fw_get (C := RX6) (T := TX6) (N := 3) (ci := 6) (v := .ref (fa (mφ μ) 1 0)) hx hb hL6 hown hE hF (e0 μ) (mm0 μ _ _) rfl 0 (by decide) kw1 rfl dX6_set_79 ?_
                refine lv_iload hx hb dX6_set_82 (lv_at hl 0 rfl) ?_
                obtain ⟨k25, h⟩ := ck h
                refine fw_iald (q := ((((10 : Int32)) + (((10 : Int32)) * a1)) + a0).toNatClampNeg) hx hb hE hF (e1 μ) (mm1 μ _) 0 rfl k25 rfl dX6_set_84 ?_
                refine lv_istore (lv' := [(5, .int (g 1 0 (((((10 : Int32)) + (((10 : Int32)) * a1)) + a0).toNatClampNeg))), (4, .int ((((10 : Int32)) + (((10 : Int32)) * a1)) + a0)), (0, .ref (fa (mφ μ) 0 0)), (1, .int a0), (2, .int a1), (3, .int a2)]) hx hb dX6_set_85 hl (by decide) rfl (fun ls hl => ?_)
                refine lv_aload_n hx hb dX6_set_87 rfl (lv_at hl 2 rfl) ?_
                refine fw_get (C := RX6) (T := TX6) (N := 3) (ci := 6) (v := .ref (fa (mφ μ) 1 0)) hx hb hL6 hown hE hF (e0 μ) (mm0 μ _ _) rfl 0 (by decide) kw1 rfl dX6_set_88 ?_
                refine lv_iload hx hb dX6_set_91 (lv_at hl 1 rfl) ?_
                refine lv_iload_n hx hb dX6_set_93 rfl (lv_at hl 5 rfl) ?_
                obtain ⟨k26, h⟩ := ck h
                refine fw_iast (q := ((((10 : Int32)) + (((10 : Int32)) * a1)) + a0).toNatClampNeg) hx hb hE hok hF hS (e1 μ) (mm1 μ _) 0 rfl k26 rfl dX6_set_94 (fun H locs hF hS => ?_)
                obtain ⟨g27, e28, h⟩ := ltm_e h
                rw [e28] at hF
                refine lv_aload_n hx hb dX6_set_95 rfl (lv_at hl 2 rfl) ?_
                refine lv_iload_n hx hb dX6_set_96 rfl (lv_at hl 3 rfl) ?_
                obtain ⟨⟨r30, g31⟩, q29, h⟩ := bnd h
                try dsimp only at h
                refine fw_callv (va_runV (As := [.int a0]) (rest := []) ⟨hx, hb, hml, hown, hts⟩ (c_X6_forget l hok q29) (cwV 1 hts gX6_set_X6_forget rfl rfl rfl qv_X6_forget ⟨Nat.le_of_ble_eq_true rfl, Nat.le_of_ble_eq_true rfl⟩) (fw_preV hok hE hF (e0 μ) (mm0 μ _ _) rfl) rfl rfl hl.1 rfl (lv_room (Nat.le_of_ble_eq_true rfl)) dX6_set_97 ⟨Nat.le_refl _, Nat.le_refl _⟩) hS (fun H locs hF hS => ?_)
                refine lv_iload hx hb dX6_set_100 (lv_at hl 0 rfl) ?_
                exact fw_iret hx hb hr hlk h hF hS dX6_set_102
              · have h := ift h c24
                refine lv_bipush (v := (-2 : Int32)) hx hb dX6_set_64 (by decide) ?_
                exact fw_iret hx hb hr hlk h hF hS dX6_set_66
          · have h := ift h c9
            refine lv_iconst (v := (1 : Int32)) hx hb dX6_set_42 (by decide) ?_
            refine lv_goto (tgt := 58) hx hb dX6_set_43 (by decide) ?_
            obtain ⟨r34, q33, h⟩ := bnd h
            try dsimp only at h
            refine pw_call (va_runS (As := [.int a2, .int ((0 : Int32)), .int ((1 : Int32))]) (rest := []) ⟨hx, hb, hml, hown, hts⟩ (c_X6_in l q33) (va_cwS 3 hts gX6_set_X6_in rfl rfl rfl qs_X6_in ⟨Nat.le_of_ble_eq_true rfl, Nat.le_of_ble_eq_true rfl⟩) preEq rfl rfl hl.1 rfl (lv_room (Nat.le_of_ble_eq_true rfl)) dX6_set_58 ⟨Nat.le_refl _, Nat.le_refl _⟩) ?_
            refine lv_if_ne (tgt := 67) hx hb dX6_set_61 (by decide) (fun c35 => ?_) (fun c35 => ?_)
            · have h := iff0 h c35
              refine lv_bipush (v := (10 : Int32)) hx hb dX6_set_67 (by decide) ?_
              refine lv_bipush (v := (10 : Int32)) hx hb dX6_set_69 (by decide) ?_
              refine lv_iload_n hx hb dX6_set_71 rfl (lv_at hl 2 rfl) ?_
              refine lv_imul hx hb dX6_set_72 ?_
              refine lv_iadd hx hb dX6_set_73 ?_
              refine lv_iload_n hx hb dX6_set_74 rfl (lv_at hl 1 rfl) ?_
              refine lv_iadd hx hb dX6_set_75 ?_
              refine lv_istore (lv' := [(4, .int ((((10 : Int32)) + (((10 : Int32)) * a1)) + a0)), (0, .ref (fa (mφ μ) 0 0)), (1, .int a0), (2, .int a1), (3, .int a2)]) hx hb dX6_set_76 hl (by decide) rfl (fun ls hl => ?_)
              refine lv_aload_n hx hb dX6_set_78 rfl (lv_at hl 1 rfl) ?_
              refine fw_get (C := RX6) (T := TX6) (N := 3) (ci := 6) (v := .ref (fa (mφ μ) 1 0)) hx hb hL6 hown hE hF (e0 μ) (mm0 μ _ _) rfl 0 (by decide) kw1 rfl dX6_set_79 ?_
              refine lv_iload hx hb dX6_set_82 (lv_at hl 0 rfl) ?_
              obtain ⟨k36, h⟩ := ck h
              refine fw_iald (q := ((((10 : Int32)) + (((10 : Int32)) * a1)) + a0).toNatClampNeg) hx hb hE hF (e1 μ) (mm1 μ _) 0 rfl k36 rfl dX6_set_84 ?_
              refine lv_istore (lv' := [(5, .int (g 1 0 (((((10 : Int32)) + (((10 : Int32)) * a1)) + a0).toNatClampNeg))), (4, .int ((((10 : Int32)) + (((10 : Int32)) * a1)) + a0)), (0, .ref (fa (mφ μ) 0 0)), (1, .int a0), (2, .int a1), (3, .int a2)]) hx hb dX6_set_85 hl (by decide) rfl (fun ls hl => ?_)
              refine lv_aload_n hx hb dX6_set_87 rfl (lv_at hl 2 rfl) ?_
              refine fw_get (C := RX6) (T := TX6) (N := 3) (ci := 6) (v := .ref (fa (mφ μ) 1 0)) hx hb hL6 hown hE hF (e0 μ) (mm0 μ _ _) rfl 0 (by decide) kw1 rfl dX6_set_88 ?_
              refine lv_iload hx hb dX6_set_91 (lv_at hl 1 rfl) ?_
              refine lv_iload_n hx hb dX6_set_93 rfl (lv_at hl 5 rfl) ?_
              obtain ⟨k37, h⟩ := ck h
              refine fw_iast (q := ((((10 : Int32)) + (((10 : Int32)) * a1)) + a0).toNatClampNeg) hx hb hE hok hF hS (e1 μ) (mm1 μ _) 0 rfl k37 rfl dX6_set_94 (fun H locs hF hS => ?_)
              obtain ⟨g38, e39, h⟩ := ltm_e h
              rw [e39] at hF
              refine lv_aload_n hx hb dX6_set_95 rfl (lv_at hl 2 rfl) ?_
              refine lv_iload_n hx hb dX6_set_96 rfl (lv_at hl 3 rfl) ?_
              obtain ⟨⟨r41, g42⟩, q40, h⟩ := bnd h
              try dsimp only at h
              refine fw_callv (va_runV (As := [.int a0]) (rest := []) ⟨hx, hb, hml, hown, hts⟩ (c_X6_forget l hok q40) (cwV 1 hts gX6_set_X6_forget rfl rfl rfl qv_X6_forget ⟨Nat.le_of_ble_eq_true rfl, Nat.le_of_ble_eq_true rfl⟩) (fw_preV hok hE hF (e0 μ) (mm0 μ _ _) rfl) rfl rfl hl.1 rfl (lv_room (Nat.le_of_ble_eq_true rfl)) dX6_set_97 ⟨Nat.le_refl _, Nat.le_refl _⟩) hS (fun H locs hF hS => ?_)
              refine lv_iload hx hb dX6_set_100 (lv_at hl 0 rfl) ?_
              exact fw_iret hx hb hr hlk h hF hS dX6_set_102
            · have h := ift h c35
              refine lv_bipush (v := (-2 : Int32)) hx hb dX6_set_64 (by decide) ?_
              exact fw_iret hx hb hr hlk h hF hS dX6_set_66
        · have h := ift h c8
          refine lv_bipush (v := (9 : Int32)) hx hb dX6_set_32 (by decide) ?_
          refine lv_goto (tgt := 58) hx hb dX6_set_34 (by decide) ?_
          obtain ⟨r45, q44, h⟩ := bnd h
          try dsimp only at h
          refine pw_call (va_runS (As := [.int a2, .int ((0 : Int32)), .int ((9 : Int32))]) (rest := []) ⟨hx, hb, hml, hown, hts⟩ (c_X6_in l q44) (va_cwS 3 hts gX6_set_X6_in rfl rfl rfl qs_X6_in ⟨Nat.le_of_ble_eq_true rfl, Nat.le_of_ble_eq_true rfl⟩) preEq rfl rfl hl.1 rfl (lv_room (Nat.le_of_ble_eq_true rfl)) dX6_set_58 ⟨Nat.le_refl _, Nat.le_refl _⟩) ?_
          refine lv_if_ne (tgt := 67) hx hb dX6_set_61 (by decide) (fun c46 => ?_) (fun c46 => ?_)
          · have h := iff0 h c46
            refine lv_bipush (v := (10 : Int32)) hx hb dX6_set_67 (by decide) ?_
            refine lv_bipush (v := (10 : Int32)) hx hb dX6_set_69 (by decide) ?_
            refine lv_iload_n hx hb dX6_set_71 rfl (lv_at hl 2 rfl) ?_
            refine lv_imul hx hb dX6_set_72 ?_
            refine lv_iadd hx hb dX6_set_73 ?_
            refine lv_iload_n hx hb dX6_set_74 rfl (lv_at hl 1 rfl) ?_
            refine lv_iadd hx hb dX6_set_75 ?_
            refine lv_istore (lv' := [(4, .int ((((10 : Int32)) + (((10 : Int32)) * a1)) + a0)), (0, .ref (fa (mφ μ) 0 0)), (1, .int a0), (2, .int a1), (3, .int a2)]) hx hb dX6_set_76 hl (by decide) rfl (fun ls hl => ?_)
            refine lv_aload_n hx hb dX6_set_78 rfl (lv_at hl 1 rfl) ?_
            refine fw_get (C := RX6) (T := TX6) (N := 3) (ci := 6) (v := .ref (fa (mφ μ) 1 0)) hx hb hL6 hown hE hF (e0 μ) (mm0 μ _ _) rfl 0 (by decide) kw1 rfl dX6_set_79 ?_
            refine lv_iload hx hb dX6_set_82 (lv_at hl 0 rfl) ?_
            obtain ⟨k47, h⟩ := ck h
            refine fw_iald (q := ((((10 : Int32)) + (((10 : Int32)) * a1)) + a0).toNatClampNeg) hx hb hE hF (e1 μ) (mm1 μ _) 0 rfl k47 rfl dX6_set_84 ?_
            refine lv_istore (lv' := [(5, .int (g 1 0 (((((10 : Int32)) + (((10 : Int32)) * a1)) + a0).toNatClampNeg))), (4, .int ((((10 : Int32)) + (((10 : Int32)) * a1)) + a0)), (0, .ref (fa (mφ μ) 0 0)), (1, .int a0), (2, .int a1), (3, .int a2)]) hx hb dX6_set_85 hl (by decide) rfl (fun ls hl => ?_)
            refine lv_aload_n hx hb dX6_set_87 rfl (lv_at hl 2 rfl) ?_
            refine fw_get (C := RX6) (T := TX6) (N := 3) (ci := 6) (v := .ref (fa (mφ μ) 1 0)) hx hb hL6 hown hE hF (e0 μ) (mm0 μ _ _) rfl 0 (by decide) kw1 rfl dX6_set_88 ?_
            refine lv_iload hx hb dX6_set_91 (lv_at hl 1 rfl) ?_
            refine lv_iload_n hx hb dX6_set_93 rfl (lv_at hl 5 rfl) ?_
            obtain ⟨k48, h⟩ := ck h
            refine fw_iast (q := ((((10 : Int32)) + (((10 : Int32)) * a1)) + a0).toNatClampNeg) hx hb hE hok hF hS (e1 μ) (mm1 μ _) 0 rfl k48 rfl dX6_set_94 (fun H locs hF hS => ?_)
            obtain ⟨g49, e50, h⟩ := ltm_e h
            rw [e50] at hF
            refine lv_aload_n hx hb dX6_set_95 rfl (lv_at hl 2 rfl) ?_
            refine lv_iload_n hx hb dX6_set_96 rfl (lv_at hl 3 rfl) ?_
            obtain ⟨⟨r52, g53⟩, q51, h⟩ := bnd h
            try dsimp only at h
            refine fw_callv (va_runV (As := [.int a0]) (rest := []) ⟨hx, hb, hml, hown, hts⟩ (c_X6_forget l hok q51) (cwV 1 hts gX6_set_X6_forget rfl rfl rfl qv_X6_forget ⟨Nat.le_of_ble_eq_true rfl, Nat.le_of_ble_eq_true rfl⟩) (fw_preV hok hE hF (e0 μ) (mm0 μ _ _) rfl) rfl rfl hl.1 rfl (lv_room (Nat.le_of_ble_eq_true rfl)) dX6_set_97 ⟨Nat.le_refl _, Nat.le_refl _⟩) hS (fun H locs hF hS => ?_)
            refine lv_iload hx hb dX6_set_100 (lv_at hl 0 rfl) ?_
            exact fw_iret hx hb hr hlk h hF hS dX6_set_102
          · have h := ift h c46
            refine lv_bipush (v := (-2 : Int32)) hx hb dX6_set_64 (by decide) ?_
            exact fw_iret hx hb hr hlk h hF hS dX6_set_66
      · have h := ift h c7
        refine lv_iconst (v := (1 : Int32)) hx hb dX6_set_23 (by decide) ?_
        refine lv_goto (tgt := 28) hx hb dX6_set_24 (by decide) ?_
        refine lv_iload_n hx hb dX6_set_28 rfl (lv_at hl 2 rfl) ?_
        refine lv_if_ne (tgt := 37) hx hb dX6_set_29 (by decide) (fun c55 => ?_) (fun c55 => ?_)
        · have h := iff0 h c55
          refine lv_iload_n hx hb dX6_set_37 rfl (lv_at hl 2 rfl) ?_
          refine lv_iconst (v := (1 : Int32)) hx hb dX6_set_38 (by decide) ?_
          refine lv_icmp_ne (tgt := 46) hx hb dX6_set_39 (by decide) (fun c56 => ?_) (fun c56 => ?_)
          · have h := iff0 h c56
            refine lv_iload_n hx hb dX6_set_46 rfl (lv_at hl 2 rfl) ?_
            refine lv_iconst (v := (2 : Int32)) hx hb dX6_set_47 (by decide) ?_
            refine lv_icmp_ne (tgt := 56) hx hb dX6_set_48 (by decide) (fun c57 => ?_) (fun c57 => ?_)
            · have h := iff0 h c57
              refine lv_bipush (v := (15 : Int32)) hx hb dX6_set_56 (by decide) ?_
              obtain ⟨r59, q58, h⟩ := bnd h
              try dsimp only at h
              refine pw_call (va_runS (As := [.int a2, .int ((1 : Int32)), .int ((15 : Int32))]) (rest := []) ⟨hx, hb, hml, hown, hts⟩ (c_X6_in l q58) (va_cwS 3 hts gX6_set_X6_in rfl rfl rfl qs_X6_in ⟨Nat.le_of_ble_eq_true rfl, Nat.le_of_ble_eq_true rfl⟩) preEq rfl rfl hl.1 rfl (lv_room (Nat.le_of_ble_eq_true rfl)) dX6_set_58 ⟨Nat.le_refl _, Nat.le_refl _⟩) ?_
              refine lv_if_ne (tgt := 67) hx hb dX6_set_61 (by decide) (fun c60 => ?_) (fun c60 => ?_)
              · have h := iff0 h c60
                refine lv_bipush (v := (10 : Int32)) hx hb dX6_set_67 (by decide) ?_
                refine lv_bipush (v := (10 : Int32)) hx hb dX6_set_69 (by decide) ?_
                refine lv_iload_n hx hb dX6_set_71 rfl (lv_at hl 2 rfl) ?_
                refine lv_imul hx hb dX6_set_72 ?_
                refine lv_iadd hx hb dX6_set_73 ?_
                refine lv_iload_n hx hb dX6_set_74 rfl (lv_at hl 1 rfl) ?_
                refine lv_iadd hx hb dX6_set_75 ?_
                refine lv_istore (lv' := [(4, .int ((((10 : Int32)) + (((10 : Int32)) * a1)) + a0)), (0, .ref (fa (mφ μ) 0 0)), (1, .int a0), (2, .int a1), (3, .int a2)]) hx hb dX6_set_76 hl (by decide) rfl (fun ls hl => ?_)
                refine lv_aload_n hx hb dX6_set_78 rfl (lv_at hl 1 rfl) ?_
                refine fw_get (C := RX6) (T := TX6) (N := 3) (ci := 6) (v := .ref (fa (mφ μ) 1 0)) hx hb hL6 hown hE hF (e0 μ) (mm0 μ _ _) rfl 0 (by decide) kw1 rfl dX6_set_79 ?_
                refine lv_iload hx hb dX6_set_82 (lv_at hl 0 rfl) ?_
                obtain ⟨k61, h⟩ := ck h
                refine fw_iald (q := ((((10 : Int32)) + (((10 : Int32)) * a1)) + a0).toNatClampNeg) hx hb hE hF (e1 μ) (mm1 μ _) 0 rfl k61 rfl dX6_set_84 ?_
                refine lv_istore (lv' := [(5, .int (g 1 0 (((((10 : Int32)) + (((10 : Int32)) * a1)) + a0).toNatClampNeg))), (4, .int ((((10 : Int32)) + (((10 : Int32)) * a1)) + a0)), (0, .ref (fa (mφ μ) 0 0)), (1, .int a0), (2, .int a1), (3, .int a2)]) hx hb dX6_set_85 hl (by decide) rfl (fun ls hl => ?_)
                refine lv_aload_n hx hb dX6_set_87 rfl (lv_at hl 2 rfl) ?_
                refine fw_get (C := RX6) (T := TX6) (N := 3) (ci := 6) (v := .ref (fa (mφ μ) 1 0)) hx hb hL6 hown hE hF (e0 μ) (mm0 μ _ _) rfl 0 (by decide) kw1 rfl dX6_set_88 ?_
                refine lv_iload hx hb dX6_set_91 (lv_at hl 1 rfl) ?_
                refine lv_iload_n hx hb dX6_set_93 rfl (lv_at hl 5 rfl) ?_
                obtain ⟨k62, h⟩ := ck h
                refine fw_iast (q := ((((10 : Int32)) + (((10 : Int32)) * a1)) + a0).toNatClampNeg) hx hb hE hok hF hS (e1 μ) (mm1 μ _) 0 rfl k62 rfl dX6_set_94 (fun H locs hF hS => ?_)
                obtain ⟨g63, e64, h⟩ := ltm_e h
                rw [e64] at hF
                refine lv_aload_n hx hb dX6_set_95 rfl (lv_at hl 2 rfl) ?_
                refine lv_iload_n hx hb dX6_set_96 rfl (lv_at hl 3 rfl) ?_
                obtain ⟨⟨r66, g67⟩, q65, h⟩ := bnd h
                try dsimp only at h
                refine fw_callv (va_runV (As := [.int a0]) (rest := []) ⟨hx, hb, hml, hown, hts⟩ (c_X6_forget l hok q65) (cwV 1 hts gX6_set_X6_forget rfl rfl rfl qv_X6_forget ⟨Nat.le_of_ble_eq_true rfl, Nat.le_of_ble_eq_true rfl⟩) (fw_preV hok hE hF (e0 μ) (mm0 μ _ _) rfl) rfl rfl hl.1 rfl (lv_room (Nat.le_of_ble_eq_true rfl)) dX6_set_97 ⟨Nat.le_refl _, Nat.le_refl _⟩) hS (fun H locs hF hS => ?_)
                refine lv_iload hx hb dX6_set_100 (lv_at hl 0 rfl) ?_
                exact fw_iret hx hb hr hlk h hF hS dX6_set_102
              · have h := ift h c60
                refine lv_bipush (v := (-2 : Int32)) hx hb dX6_set_64 (by decide) ?_
                exact fw_iret hx hb hr hlk h hF hS dX6_set_66
            · have h := ift h c57
              refine lv_bipush (v := (8 : Int32)) hx hb dX6_set_51 (by decide) ?_
              refine lv_goto (tgt := 58) hx hb dX6_set_53 (by decide) ?_
              obtain ⟨r70, q69, h⟩ := bnd h
              try dsimp only at h
              refine pw_call (va_runS (As := [.int a2, .int ((1 : Int32)), .int ((8 : Int32))]) (rest := []) ⟨hx, hb, hml, hown, hts⟩ (c_X6_in l q69) (va_cwS 3 hts gX6_set_X6_in rfl rfl rfl qs_X6_in ⟨Nat.le_of_ble_eq_true rfl, Nat.le_of_ble_eq_true rfl⟩) preEq rfl rfl hl.1 rfl (lv_room (Nat.le_of_ble_eq_true rfl)) dX6_set_58 ⟨Nat.le_refl _, Nat.le_refl _⟩) ?_
              refine lv_if_ne (tgt := 67) hx hb dX6_set_61 (by decide) (fun c71 => ?_) (fun c71 => ?_)
              · have h := iff0 h c71
                refine lv_bipush (v := (10 : Int32)) hx hb dX6_set_67 (by decide) ?_
                refine lv_bipush (v := (10 : Int32)) hx hb dX6_set_69 (by decide) ?_
                refine lv_iload_n hx hb dX6_set_71 rfl (lv_at hl 2 rfl) ?_
                refine lv_imul hx hb dX6_set_72 ?_
                refine lv_iadd hx hb dX6_set_73 ?_
                refine lv_iload_n hx hb dX6_set_74 rfl (lv_at hl 1 rfl) ?_
                refine lv_iadd hx hb dX6_set_75 ?_
                refine lv_istore (lv' := [(4, .int ((((10 : Int32)) + (((10 : Int32)) * a1)) + a0)), (0, .ref (fa (mφ μ) 0 0)), (1, .int a0), (2, .int a1), (3, .int a2)]) hx hb dX6_set_76 hl (by decide) rfl (fun ls hl => ?_)
                refine lv_aload_n hx hb dX6_set_78 rfl (lv_at hl 1 rfl) ?_
                refine fw_get (C := RX6) (T := TX6) (N := 3) (ci := 6) (v := .ref (fa (mφ μ) 1 0)) hx hb hL6 hown hE hF (e0 μ) (mm0 μ _ _) rfl 0 (by decide) kw1 rfl dX6_set_79 ?_
                refine lv_iload hx hb dX6_set_82 (lv_at hl 0 rfl) ?_
                obtain ⟨k72, h⟩ := ck h
                refine fw_iald (q := ((((10 : Int32)) + (((10 : Int32)) * a1)) + a0).toNatClampNeg) hx hb hE hF (e1 μ) (mm1 μ _) 0 rfl k72 rfl dX6_set_84 ?_
                refine lv_istore (lv' := [(5, .int (g 1 0 (((((10 : Int32)) + (((10 : Int32)) * a1)) + a0).toNatClampNeg))), (4, .int ((((10 : Int32)) + (((10 : Int32)) * a1)) + a0)), (0, .ref (fa (mφ μ) 0 0)), (1, .int a0), (2, .int a1), (3, .int a2)]) hx hb dX6_set_85 hl (by decide) rfl (fun ls hl => ?_)
                refine lv_aload_n hx hb dX6_set_87 rfl (lv_at hl 2 rfl) ?_
                refine fw_get (C := RX6) (T := TX6) (N := 3) (ci := 6) (v := .ref (fa (mφ μ) 1 0)) hx hb hL6 hown hE hF (e0 μ) (mm0 μ _ _) rfl 0 (by decide) kw1 rfl dX6_set_88 ?_
                refine lv_iload hx hb dX6_set_91 (lv_at hl 1 rfl) ?_
                refine lv_iload_n hx hb dX6_set_93 rfl (lv_at hl 5 rfl) ?_
                obtain ⟨k73, h⟩ := ck h
                refine fw_iast (q := ((((10 : Int32)) + (((10 : Int32)) * a1)) + a0).toNatClampNeg) hx hb hE hok hF hS (e1 μ) (mm1 μ _) 0 rfl k73 rfl dX6_set_94 (fun H locs hF hS => ?_)
                obtain ⟨g74, e75, h⟩ := ltm_e h
                rw [e75] at hF
                refine lv_aload_n hx hb dX6_set_95 rfl (lv_at hl 2 rfl) ?_
                refine lv_iload_n hx hb dX6_set_96 rfl (lv_at hl 3 rfl) ?_
                obtain ⟨⟨r77, g78⟩, q76, h⟩ := bnd h
                try dsimp only at h
                refine fw_callv (va_runV (As := [.int a0]) (rest := []) ⟨hx, hb, hml, hown, hts⟩ (c_X6_forget l hok q76) (cwV 1 hts gX6_set_X6_forget rfl rfl rfl qv_X6_forget ⟨Nat.le_of_ble_eq_true rfl, Nat.le_of_ble_eq_true rfl⟩) (fw_preV hok hE hF (e0 μ) (mm0 μ _ _) rfl) rfl rfl hl.1 rfl (lv_room (Nat.le_of_ble_eq_true rfl)) dX6_set_97 ⟨Nat.le_refl _, Nat.le_refl _⟩) hS (fun H locs hF hS => ?_)
                refine lv_iload hx hb dX6_set_100 (lv_at hl 0 rfl) ?_
                exact fw_iret hx hb hr hlk h hF hS dX6_set_102
              · have h := ift h c71
                refine lv_bipush (v := (-2 : Int32)) hx hb dX6_set_64 (by decide) ?_
                exact fw_iret hx hb hr hlk h hF hS dX6_set_66
          · have h := ift h c56
            refine lv_iconst (v := (1 : Int32)) hx hb dX6_set_42 (by decide) ?_
            refine lv_goto (tgt := 58) hx hb dX6_set_43 (by decide) ?_
            obtain ⟨r81, q80, h⟩ := bnd h
            try dsimp only at h
            refine pw_call (va_runS (As := [.int a2, .int ((1 : Int32)), .int ((1 : Int32))]) (rest := []) ⟨hx, hb, hml, hown, hts⟩ (c_X6_in l q80) (va_cwS 3 hts gX6_set_X6_in rfl rfl rfl qs_X6_in ⟨Nat.le_of_ble_eq_true rfl, Nat.le_of_ble_eq_true rfl⟩) preEq rfl rfl hl.1 rfl (lv_room (Nat.le_of_ble_eq_true rfl)) dX6_set_58 ⟨Nat.le_refl _, Nat.le_refl _⟩) ?_
            refine lv_if_ne (tgt := 67) hx hb dX6_set_61 (by decide) (fun c82 => ?_) (fun c82 => ?_)
            · have h := iff0 h c82
              refine lv_bipush (v := (10 : Int32)) hx hb dX6_set_67 (by decide) ?_
              refine lv_bipush (v := (10 : Int32)) hx hb dX6_set_69 (by decide) ?_
              refine lv_iload_n hx hb dX6_set_71 rfl (lv_at hl 2 rfl) ?_
              refine lv_imul hx hb dX6_set_72 ?_
              refine lv_iadd hx hb dX6_set_73 ?_
              refine lv_iload_n hx hb dX6_set_74 rfl (lv_at hl 1 rfl) ?_
              refine lv_iadd hx hb dX6_set_75 ?_
              refine lv_istore (lv' := [(4, .int ((((10 : Int32)) + (((10 : Int32)) * a1)) + a0)), (0, .ref (fa (mφ μ) 0 0)), (1, .int a0), (2, .int a1), (3, .int a2)]) hx hb dX6_set_76 hl (by decide) rfl (fun ls hl => ?_)
              refine lv_aload_n hx hb dX6_set_78 rfl (lv_at hl 1 rfl) ?_
              refine fw_get (C := RX6) (T := TX6) (N := 3) (ci := 6) (v := .ref (fa (mφ μ) 1 0)) hx hb hL6 hown hE hF (e0 μ) (mm0 μ _ _) rfl 0 (by decide) kw1 rfl dX6_set_79 ?_
              refine lv_iload hx hb dX6_set_82 (lv_at hl 0 rfl) ?_
              obtain ⟨k83, h⟩ := ck h
              refine fw_iald (q := ((((10 : Int32)) + (((10 : Int32)) * a1)) + a0).toNatClampNeg) hx hb hE hF (e1 μ) (mm1 μ _) 0 rfl k83 rfl dX6_set_84 ?_
              refine lv_istore (lv' := [(5, .int (g 1 0 (((((10 : Int32)) + (((10 : Int32)) * a1)) + a0).toNatClampNeg))), (4, .int ((((10 : Int32)) + (((10 : Int32)) * a1)) + a0)), (0, .ref (fa (mφ μ) 0 0)), (1, .int a0), (2, .int a1), (3, .int a2)]) hx hb dX6_set_85 hl (by decide) rfl (fun ls hl => ?_)
              refine lv_aload_n hx hb dX6_set_87 rfl (lv_at hl 2 rfl) ?_
              refine fw_get (C := RX6) (T := TX6) (N := 3) (ci := 6) (v := .ref (fa (mφ μ) 1 0)) hx hb hL6 hown hE hF (e0 μ) (mm0 μ _ _) rfl 0 (by decide) kw1 rfl dX6_set_88 ?_
              refine lv_iload hx hb dX6_set_91 (lv_at hl 1 rfl) ?_
              refine lv_iload_n hx hb dX6_set_93 rfl (lv_at hl 5 rfl) ?_
              obtain ⟨k84, h⟩ := ck h
              refine fw_iast (q := ((((10 : Int32)) + (((10 : Int32)) * a1)) + a0).toNatClampNeg) hx hb hE hok hF hS (e1 μ) (mm1 μ _) 0 rfl k84 rfl dX6_set_94 (fun H locs hF hS => ?_)
              obtain ⟨g85, e86, h⟩ := ltm_e h
              rw [e86] at hF
              refine lv_aload_n hx hb dX6_set_95 rfl (lv_at hl 2 rfl) ?_
              refine lv_iload_n hx hb dX6_set_96 rfl (lv_at hl 3 rfl) ?_
              obtain ⟨⟨r88, g89⟩, q87, h⟩ := bnd h
              try dsimp only at h
              refine fw_callv (va_runV (As := [.int a0]) (rest := []) ⟨hx, hb, hml, hown, hts⟩ (c_X6_forget l hok q87) (cwV 1 hts gX6_set_X6_forget rfl rfl rfl qv_X6_forget ⟨Nat.le_of_ble_eq_true rfl, Nat.le_of_ble_eq_true rfl⟩) (fw_preV hok hE hF (e0 μ) (mm0 μ _ _) rfl) rfl rfl hl.1 rfl (lv_room (Nat.le_of_ble_eq_true rfl)) dX6_set_97 ⟨Nat.le_refl _, Nat.le_refl _⟩) hS (fun H locs hF hS => ?_)
              refine lv_iload hx hb dX6_set_100 (lv_at hl 0 rfl) ?_
              exact fw_iret hx hb hr hlk h hF hS dX6_set_102
            · have h := ift h c82
              refine lv_bipush (v := (-2 : Int32)) hx hb dX6_set_64 (by decide) ?_
              exact fw_iret hx hb hr hlk h hF hS dX6_set_66
        · have h := ift h c55
          refine lv_bipush (v := (9 : Int32)) hx hb dX6_set_32 (by decide) ?_
          refine lv_goto (tgt := 58) hx hb dX6_set_34 (by decide) ?_
          obtain ⟨r92, q91, h⟩ := bnd h
          try dsimp only at h
          refine pw_call (va_runS (As := [.int a2, .int ((1 : Int32)), .int ((9 : Int32))]) (rest := []) ⟨hx, hb, hml, hown, hts⟩ (c_X6_in l q91) (va_cwS 3 hts gX6_set_X6_in rfl rfl rfl qs_X6_in ⟨Nat.le_of_ble_eq_true rfl, Nat.le_of_ble_eq_true rfl⟩) preEq rfl rfl hl.1 rfl (lv_room (Nat.le_of_ble_eq_true rfl)) dX6_set_58 ⟨Nat.le_refl _, Nat.le_refl _⟩) ?_
          refine lv_if_ne (tgt := 67) hx hb dX6_set_61 (by decide) (fun c93 => ?_) (fun c93 => ?_)
          · have h := iff0 h c93
            refine lv_bipush (v := (10 : Int32)) hx hb dX6_set_67 (by decide) ?_
            refine lv_bipush (v := (10 : Int32)) hx hb dX6_set_69 (by decide) ?_
            refine lv_iload_n hx hb dX6_set_71 rfl (lv_at hl 2 rfl) ?_
            refine lv_imul hx hb dX6_set_72 ?_
            refine lv_iadd hx hb dX6_set_73 ?_
            refine lv_iload_n hx hb dX6_set_74 rfl (lv_at hl 1 rfl) ?_
            refine lv_iadd hx hb dX6_set_75 ?_
            refine lv_istore (lv' := [(4, .int ((((10 : Int32)) + (((10 : Int32)) * a1)) + a0)), (0, .ref (fa (mφ μ) 0 0)), (1, .int a0), (2, .int a1), (3, .int a2)]) hx hb dX6_set_76 hl (by decide) rfl (fun ls hl => ?_)
            refine lv_aload_n hx hb dX6_set_78 rfl (lv_at hl 1 rfl) ?_
            refine fw_get (C := RX6) (T := TX6) (N := 3) (ci := 6) (v := .ref (fa (mφ μ) 1 0)) hx hb hL6 hown hE hF (e0 μ) (mm0 μ _ _) rfl 0 (by decide) kw1 rfl dX6_set_79 ?_
            refine lv_iload hx hb dX6_set_82 (lv_at hl 0 rfl) ?_
            obtain ⟨k94, h⟩ := ck h
            refine fw_iald (q := ((((10 : Int32)) + (((10 : Int32)) * a1)) + a0).toNatClampNeg) hx hb hE hF (e1 μ) (mm1 μ _) 0 rfl k94 rfl dX6_set_84 ?_
            refine lv_istore (lv' := [(5, .int (g 1 0 (((((10 : Int32)) + (((10 : Int32)) * a1)) + a0).toNatClampNeg))), (4, .int ((((10 : Int32)) + (((10 : Int32)) * a1)) + a0)), (0, .ref (fa (mφ μ) 0 0)), (1, .int a0), (2, .int a1), (3, .int a2)]) hx hb dX6_set_85 hl (by decide) rfl (fun ls hl => ?_)
            refine lv_aload_n hx hb dX6_set_87 rfl (lv_at hl 2 rfl) ?_
            refine fw_get (C := RX6) (T := TX6) (N := 3) (ci := 6) (v := .ref (fa (mφ μ) 1 0)) hx hb hL6 hown hE hF (e0 μ) (mm0 μ _ _) rfl 0 (by decide) kw1 rfl dX6_set_88 ?_
            refine lv_iload hx hb dX6_set_91 (lv_at hl 1 rfl) ?_
            refine lv_iload_n hx hb dX6_set_93 rfl (lv_at hl 5 rfl) ?_
            obtain ⟨k95, h⟩ := ck h
            refine fw_iast (q := ((((10 : Int32)) + (((10 : Int32)) * a1)) + a0).toNatClampNeg) hx hb hE hok hF hS (e1 μ) (mm1 μ _) 0 rfl k95 rfl dX6_set_94 (fun H locs hF hS => ?_)
            obtain ⟨g96, e97, h⟩ := ltm_e h
            rw [e97] at hF
            refine lv_aload_n hx hb dX6_set_95 rfl (lv_at hl 2 rfl) ?_
            refine lv_iload_n hx hb dX6_set_96 rfl (lv_at hl 3 rfl) ?_
            obtain ⟨⟨r99, g100⟩, q98, h⟩ := bnd h
            try dsimp only at h
            refine fw_callv (va_runV (As := [.int a0]) (rest := []) ⟨hx, hb, hml, hown, hts⟩ (c_X6_forget l hok q98) (cwV 1 hts gX6_set_X6_forget rfl rfl rfl qv_X6_forget ⟨Nat.le_of_ble_eq_true rfl, Nat.le_of_ble_eq_true rfl⟩) (fw_preV hok hE hF (e0 μ) (mm0 μ _ _) rfl) rfl rfl hl.1 rfl (lv_room (Nat.le_of_ble_eq_true rfl)) dX6_set_97 ⟨Nat.le_refl _, Nat.le_refl _⟩) hS (fun H locs hF hS => ?_)
            refine lv_iload hx hb dX6_set_100 (lv_at hl 0 rfl) ?_
            exact fw_iret hx hb hr hlk h hF hS dX6_set_102
          · have h := ift h c93
            refine lv_bipush (v := (-2 : Int32)) hx hb dX6_set_64 (by decide) ?_
            exact fw_iret hx hb hr hlk h hF hS dX6_set_66
  · have h := ift h c3
    refine lv_iconst (v := (-1 : Int32)) hx hb dX6_set_7 (by decide) ?_
    exact fw_iret hx hb hr hlk h hF hS dX6_set_8
def m_X6_friend (g : Mem) (a0 a1 : Int32) : Option (Int32 × Mem) := (m_X6_isLamp a0).bind (fun r2 => (if r2 = 0 then some ((-1 : Int32), g) else (m_X6_isLamp a1).bind (fun r5 => (if r5 = 0 then (if a1 = ((-6 : Int32)) then (if a0 = a1 then some ((-2 : Int32), g) else (m_X6_sleeps g a0).bind (fun (r23, g24) => (if r23 = 0 then if (((70 : Int32)) + a0 < 0 ∨ 6819 ≤ (((70 : Int32)) + a0).toNatClampNeg) then none else if (((70 : Int32)) + a0 < 0 ∨ 6819 ≤ (((70 : Int32)) + a0).toNatClampNeg) then none else ltm (upr g24 1 0 (upd (g24 1 0) (((70 : Int32)) + a0).toNatClampNeg a1)) (fun g29 => if (((150 : Int32)) + a0 < 0 ∨ 6819 ≤ (((150 : Int32)) + a0).toNatClampNeg) then none else ltm (upr g29 1 0 (upd (g29 1 0) (((150 : Int32)) + a0).toNatClampNeg ((0 : Int32)))) (fun g32 => some (g24 1 0 ((((70 : Int32)) + a0).toNatClampNeg), g32))) else some ((-3 : Int32), g24)))) else some ((-2 : Int32), g)) else (if a0 = a1 then some ((-2 : Int32), g) else (m_X6_sleeps g a0).bind (fun (r9, g10) => (if r9 = 0 then if (((70 : Int32)) + a0 < 0 ∨ 6819 ≤ (((70 : Int32)) + a0).toNatClampNeg) then none else if (((70 : Int32)) + a0 < 0 ∨ 6819 ≤ (((70 : Int32)) + a0).toNatClampNeg) then none else ltm (upr g10 1 0 (upd (g10 1 0) (((70 : Int32)) + a0).toNatClampNeg a1)) (fun g15 => if (((150 : Int32)) + a0 < 0 ∨ 6819 ≤ (((150 : Int32)) + a0).toNatClampNeg) then none else ltm (upr g15 1 0 (upd (g15 1 0) (((150 : Int32)) + a0).toNatClampNeg ((0 : Int32)))) (fun g18 => some (g10 1 0 ((((70 : Int32)) + a0).toNatClampNeg), g18))) else some ((-3 : Int32), g10))))))))
set_option maxHeartbeats 4000000 in
set_option maxRecDepth 100000 in
theorem c_X6_friend (l : Launch) {μ : Mx} (hok : fok (mφ μ))  {g : Mem} {a0 a1 : Int32} {u : Int32 × Mem} (h : m_X6_friend g a0 a1 = some u) : fM l (mφ μ) yX6_friend wsX6_friend 2 42 [.ref (fa (mφ μ) 0 0), .int a0, .int a1] g (some (.int u.1)) u.2 := by
  refine fM.of (cc := cX6_friend) (maxL := 4) (ret := (some .int)) [(0, .ref (fa (mφ μ) 0 0)), (1, .int a0), (2, .int a1)] (by decide) rfl (Nat.le_of_ble_eq_true rfl) rfl (fun p e s m below meth c ls hx hb hr hml hown hts hlk hE hF hS hl => ?_)
  replace hown : s.vm.findClass RX6 = some m.cls := hown
  have hL6 : ∀ w ∈ u_ws RX6 TX6 3, w.before ([.ref (fa (mφ μ) 0 0), .int a0, .int a1] : List Value).toArray s = true := fun w hw => hts w (by
    unfold wsX6_friend
    simp only [List.mem_cons, List.mem_append]
    exact Or.inr (Or.inr hw))
  have kw1 := hts (.fieldLink RX6 7 "MeshLampsModel" "state" "[I") (List.mem_of_getElem? (i := 1) rfl)
  unfold m_X6_friend at h
  refine lv_iload_n hx hb dX6_friend_0 rfl (lv_at hl 1 rfl) ?_
  obtain ⟨r2, q1, h⟩ := bnd h
  try dsimp only at h
  refine pw_call (va_runS (As := [.int a0]) (rest := []) ⟨hx, hb, hml, hown, hts⟩ (c_X6_isLamp l q1) (va_cwS 1 hts gX6_friend_X6_isLamp rfl rfl rfl qs_X6_isLamp ⟨Nat.le_of_ble_eq_true rfl, Nat.le_of_ble_eq_true rfl⟩) preEq rfl rfl hl.1 rfl (lv_room (Nat.le_of_ble_eq_true rfl)) dX6_friend_1 ⟨Nat.le_refl _, Nat.le_refl _⟩) ?_
  refine lv_if_ne (tgt := 9) hx hb dX6_friend_4 (by decide) (fun c3 => ?_) (fun c3 => ?_)
  · have h := iff0 h c3
    refine lv_iload_n hx hb dX6_friend_9 rfl (lv_at hl 2 rfl) ?_
    obtain ⟨r5, q4, h⟩ := bnd h
    try dsimp only at h
    refine pw_call (va_runS (As := [.int a1]) (rest := []) ⟨hx, hb, hml, hown, hts⟩ (c_X6_isLamp l q4) (va_cwS 1 hts gX6_friend_X6_isLamp rfl rfl rfl qs_X6_isLamp ⟨Nat.le_of_ble_eq_true rfl, Nat.le_of_ble_eq_true rfl⟩) preEq rfl rfl hl.1 rfl (lv_room (Nat.le_of_ble_eq_true rfl)) dX6_friend_10 ⟨Nat.le_refl _, Nat.le_refl _⟩) ?_
    refine lv_if_ne (tgt := 22) hx hb dX6_friend_13 (by decide) (fun c6 => ?_) (fun c6 => ?_)
    · have h := iff0 h c6
      refine lv_iload_n hx hb dX6_friend_22 rfl (lv_at hl 1 rfl) ?_
      refine lv_iload_n hx hb dX6_friend_23 rfl (lv_at hl 2 rfl) ?_
      refine lv_icmp_ne (tgt := 30) hx hb dX6_friend_24 (by decide) (fun c7 => ?_) (fun c7 => ?_)
      · have h := iff0 h c7
        refine lv_aload_n hx hb dX6_friend_30 rfl (lv_at hl 0 rfl) ?_
        refine lv_iload_n hx hb dX6_friend_31 rfl (lv_at hl 1 rfl) ?_
        obtain ⟨⟨r9, g10⟩, q8, h⟩ := bnd h
        try dsimp only at h
        refine fw_calli (va_runV (As := [.int a0]) (rest := []) ⟨hx, hb, hml, hown, hts⟩ (c_X6_sleeps l hok q8) (cwV 1 hts gX6_friend_X6_sleeps rfl rfl rfl qv_X6_sleeps ⟨Nat.le_of_ble_eq_true rfl, Nat.le_of_ble_eq_true rfl⟩) (fw_preV hok hE hF (e0 μ) (mm0 μ _ _) rfl) rfl rfl hl.1 rfl (lv_room (Nat.le_of_ble_eq_true rfl)) dX6_friend_32 ⟨Nat.le_refl _, Nat.le_refl _⟩) hS (fun H locs hF hS => ?_)
        refine lv_if_eq (tgt := 41) hx hb dX6_friend_35 (by decide) (fun c12 => ?_) (fun c12 => ?_)
        · have h := ift h c12
          refine lv_aload_n hx hb dX6_friend_41 rfl (lv_at hl 0 rfl) ?_
          refine fw_get (C := RX6) (T := TX6) (N := 3) (ci := 6) (v := .ref (fa (mφ μ) 1 0)) hx hb hL6 hown hE hF (e0 μ) (mm0 μ _ _) rfl 0 (by decide) kw1 rfl dX6_friend_42 ?_
          refine lv_bipush (v := (70 : Int32)) hx hb dX6_friend_45 (by decide) ?_
          refine lv_iload_n hx hb dX6_friend_47 rfl (lv_at hl 1 rfl) ?_
          refine lv_iadd hx hb dX6_friend_48 ?_
          obtain ⟨k13, h⟩ := ck h
          refine fw_iald (q := (((70 : Int32)) + a0).toNatClampNeg) hx hb hE hF (e1 μ) (mm1 μ _) 0 rfl k13 rfl dX6_friend_49 ?_
          refine lv_istore_n (lv' := [(3, .int (g10 1 0 ((((70 : Int32)) + a0).toNatClampNeg))), (0, .ref (fa (mφ μ) 0 0)), (1, .int a0), (2, .int a1)]) hx hb dX6_friend_50 rfl hl (by decide) rfl (fun ls hl => ?_)
          refine lv_aload_n hx hb dX6_friend_51 rfl (lv_at hl 1 rfl) ?_
          refine fw_get (C := RX6) (T := TX6) (N := 3) (ci := 6) (v := .ref (fa (mφ μ) 1 0)) hx hb hL6 hown hE hF (e0 μ) (mm0 μ _ _) rfl 0 (by decide) kw1 rfl dX6_friend_52 ?_
          refine lv_bipush (v := (70 : Int32)) hx hb dX6_friend_55 (by decide) ?_
          refine lv_iload_n hx hb dX6_friend_57 rfl (lv_at hl 2 rfl) ?_
          refine lv_iadd hx hb dX6_friend_58 ?_
          refine lv_iload_n hx hb dX6_friend_59 rfl (lv_at hl 3 rfl) ?_
          obtain ⟨k14, h⟩ := ck h
          refine fw_iast (q := (((70 : Int32)) + a0).toNatClampNeg) hx hb hE hok hF hS (e1 μ) (mm1 μ _) 0 rfl k14 rfl dX6_friend_60 (fun H locs hF hS => ?_)
          obtain ⟨g15, e16, h⟩ := ltm_e h
          rw [e16] at hF
          refine lv_aload_n hx hb dX6_friend_61 rfl (lv_at hl 1 rfl) ?_
          refine fw_get (C := RX6) (T := TX6) (N := 3) (ci := 6) (v := .ref (fa (mφ μ) 1 0)) hx hb hL6 hown hE hF (e0 μ) (mm0 μ _ _) rfl 0 (by decide) kw1 rfl dX6_friend_62 ?_
          refine lv_sipush (v := (150 : Int32)) hx hb dX6_friend_65 (by decide) ?_
          refine lv_iload_n hx hb dX6_friend_68 rfl (lv_at hl 2 rfl) ?_
          refine lv_iadd hx hb dX6_friend_69 ?_
          refine lv_iconst (v := (0 : Int32)) hx hb dX6_friend_70 (by decide) ?_
          obtain ⟨k17, h⟩ := ck h
          refine fw_iast (q := (((150 : Int32)) + a0).toNatClampNeg) hx hb hE hok hF hS (e1 μ) (mm1 μ _) 0 rfl k17 rfl dX6_friend_71 (fun H locs hF hS => ?_)
          obtain ⟨g18, e19, h⟩ := ltm_e h
          rw [e19] at hF
          refine lv_iload_n hx hb dX6_friend_72 rfl (lv_at hl 0 rfl) ?_
          exact fw_iret hx hb hr hlk h hF hS dX6_friend_73
        · have h := iff0 h c12
          refine lv_bipush (v := (-3 : Int32)) hx hb dX6_friend_38 (by decide) ?_
          exact fw_iret hx hb hr hlk h hF hS dX6_friend_40
      · have h := ift h c7
        refine lv_bipush (v := (-2 : Int32)) hx hb dX6_friend_27 (by decide) ?_
        exact fw_iret hx hb hr hlk h hF hS dX6_friend_29
    · have h := ift h c6
      refine lv_iload_n hx hb dX6_friend_16 rfl (lv_at hl 2 rfl) ?_
      refine lv_bipush (v := (-6 : Int32)) hx hb dX6_friend_17 (by decide) ?_
      refine lv_icmp_ne (tgt := 27) hx hb dX6_friend_19 (by decide) (fun c20 => ?_) (fun c20 => ?_)
      · have h := iff0 h c20
        refine lv_bipush (v := (-2 : Int32)) hx hb dX6_friend_27 (by decide) ?_
        exact fw_iret hx hb hr hlk h hF hS dX6_friend_29
      · have h := ift h c20
        refine lv_iload_n hx hb dX6_friend_22 rfl (lv_at hl 1 rfl) ?_
        refine lv_iload_n hx hb dX6_friend_23 rfl (lv_at hl 2 rfl) ?_
        refine lv_icmp_ne (tgt := 30) hx hb dX6_friend_24 (by decide) (fun c21 => ?_) (fun c21 => ?_)
        · have h := iff0 h c21
          refine lv_aload_n hx hb dX6_friend_30 rfl (lv_at hl 0 rfl) ?_
          refine lv_iload_n hx hb dX6_friend_31 rfl (lv_at hl 1 rfl) ?_
          obtain ⟨⟨r23, g24⟩, q22, h⟩ := bnd h
          try dsimp only at h
          refine fw_calli (va_runV (As := [.int a0]) (rest := []) ⟨hx, hb, hml, hown, hts⟩ (c_X6_sleeps l hok q22) (cwV 1 hts gX6_friend_X6_sleeps rfl rfl rfl qv_X6_sleeps ⟨Nat.le_of_ble_eq_true rfl, Nat.le_of_ble_eq_true rfl⟩) (fw_preV hok hE hF (e0 μ) (mm0 μ _ _) rfl) rfl rfl hl.1 rfl (lv_room (Nat.le_of_ble_eq_true rfl)) dX6_friend_32 ⟨Nat.le_refl _, Nat.le_refl _⟩) hS (fun H locs hF hS => ?_)
          refine lv_if_eq (tgt := 41) hx hb dX6_friend_35 (by decide) (fun c26 => ?_) (fun c26 => ?_)
          · have h := ift h c26
            refine lv_aload_n hx hb dX6_friend_41 rfl (lv_at hl 0 rfl) ?_
            refine fw_get (C := RX6) (T := TX6) (N := 3) (ci := 6) (v := .ref (fa (mφ μ) 1 0)) hx hb hL6 hown hE hF (e0 μ) (mm0 μ _ _) rfl 0 (by decide) kw1 rfl dX6_friend_42 ?_
            refine lv_bipush (v := (70 : Int32)) hx hb dX6_friend_45 (by decide) ?_
            refine lv_iload_n hx hb dX6_friend_47 rfl (lv_at hl 1 rfl) ?_
            refine lv_iadd hx hb dX6_friend_48 ?_
            obtain ⟨k27, h⟩ := ck h
            refine fw_iald (q := (((70 : Int32)) + a0).toNatClampNeg) hx hb hE hF (e1 μ) (mm1 μ _) 0 rfl k27 rfl dX6_friend_49 ?_
            refine lv_istore_n (lv' := [(3, .int (g24 1 0 ((((70 : Int32)) + a0).toNatClampNeg))), (0, .ref (fa (mφ μ) 0 0)), (1, .int a0), (2, .int a1)]) hx hb dX6_friend_50 rfl hl (by decide) rfl (fun ls hl => ?_)
            refine lv_aload_n hx hb dX6_friend_51 rfl (lv_at hl 1 rfl) ?_
            refine fw_get (C := RX6) (T := TX6) (N := 3) (ci := 6) (v := .ref (fa (mφ μ) 1 0)) hx hb hL6 hown hE hF (e0 μ) (mm0 μ _ _) rfl 0 (by decide) kw1 rfl dX6_friend_52 ?_
            refine lv_bipush (v := (70 : Int32)) hx hb dX6_friend_55 (by decide) ?_
            refine lv_iload_n hx hb dX6_friend_57 rfl (lv_at hl 2 rfl) ?_
            refine lv_iadd hx hb dX6_friend_58 ?_
            refine lv_iload_n hx hb dX6_friend_59 rfl (lv_at hl 3 rfl) ?_
            obtain ⟨k28, h⟩ := ck h
            refine fw_iast (q := (((70 : Int32)) + a0).toNatClampNeg) hx hb hE hok hF hS (e1 μ) (mm1 μ _) 0 rfl k28 rfl dX6_friend_60 (fun H locs hF hS => ?_)
            obtain ⟨g29, e30, h⟩ := ltm_e h
            rw [e30] at hF
            refine lv_aload_n hx hb dX6_friend_61 rfl (lv_at hl 1 rfl) ?_
            refine fw_get (C := RX6) (T := TX6) (N := 3) (ci := 6) (v := .ref (fa (mφ μ) 1 0)) hx hb hL6 hown hE hF (e0 μ) (mm0 μ _ _) rfl 0 (by decide) kw1 rfl dX6_friend_62 ?_
            refine lv_sipush (v := (150 : Int32)) hx hb dX6_friend_65 (by decide) ?_
            refine lv_iload_n hx hb dX6_friend_68 rfl (lv_at hl 2 rfl) ?_
            refine lv_iadd hx hb dX6_friend_69 ?_
            refine lv_iconst (v := (0 : Int32)) hx hb dX6_friend_70 (by decide) ?_
            obtain ⟨k31, h⟩ := ck h
            refine fw_iast (q := (((150 : Int32)) + a0).toNatClampNeg) hx hb hE hok hF hS (e1 μ) (mm1 μ _) 0 rfl k31 rfl dX6_friend_71 (fun H locs hF hS => ?_)
            obtain ⟨g32, e33, h⟩ := ltm_e h
            rw [e33] at hF
            refine lv_iload_n hx hb dX6_friend_72 rfl (lv_at hl 0 rfl) ?_
            exact fw_iret hx hb hr hlk h hF hS dX6_friend_73
          · have h := iff0 h c26
            refine lv_bipush (v := (-3 : Int32)) hx hb dX6_friend_38 (by decide) ?_
            exact fw_iret hx hb hr hlk h hF hS dX6_friend_40
        · have h := ift h c21
          refine lv_bipush (v := (-2 : Int32)) hx hb dX6_friend_27 (by decide) ?_
          exact fw_iret hx hb hr hlk h hF hS dX6_friend_29
  · have h := ift h c3
    refine lv_iconst (v := (-1 : Int32)) hx hb dX6_friend_7 (by decide) ?_
    exact fw_iret hx hb hr hlk h hF hS dX6_friend_8
def m_X6_phase (g : Mem) : Option (Int32 × Mem) := ltm (upr g 1 0 (upd (g 1 0) 6812 (((g 1 0 6812) + ((1 : Int32))) - ((g 1 0 6812) + ((1 : Int32))) / (3 : Int32) * (3 : Int32)))) (fun g3 => (if (g3 1 0 6812) = 0 then ltm (upr g3 1 0 (upd (g3 1 0) 6811 ((g3 1 0 6811) + ((1 : Int32))))) (fun g16 => ltm (upr g16 1 0 (upd (g16 1 0) 6813 (g16 1 0 6814))) (fun g20 => (if ((2 : Int32)) ≤ (g20 1 0 6812) then some (g20 1 0 6812, g20) else ltm (upr g20 1 0 (upd (g20 1 0) 6814 ((0 : Int32)))) (fun g26 => some (g26 1 0 6812, g26))))) else (if ((2 : Int32)) ≤ (g3 1 0 6812) then some (g3 1 0 6812, g3) else ltm (upr g3 1 0 (upd (g3 1 0) 6814 ((0 : Int32)))) (fun g11 => some (g11 1 0 6812, g11)))))
set_option maxHeartbeats 4000000 in
set_option maxRecDepth 100000 in
theorem c_X6_phase (l : Launch) {μ : Mx} (hok : fok (mφ μ))  {g : Mem} {u : Int32 × Mem} (h : m_X6_phase g  = some u) : fM l (mφ μ) yX6_phase wsX6_phase 0 0 [.ref (fa (mφ μ) 0 0)] g (some (.int u.1)) u.2 := by
  refine fM.of (cc := cX6_phase) (maxL := 1) (ret := (some .int)) [(0, .ref (fa (mφ μ) 0 0))] (by decide) rfl (Nat.le_of_ble_eq_true rfl) rfl (fun p e s m below meth c ls hx hb hr hml hown hts hlk hE hF hS hl => ?_)
  replace hown : s.vm.findClass RX6 = some m.cls := hown
  have hL6 : ∀ w ∈ u_ws RX6 TX6 3, w.before ([.ref (fa (mφ μ) 0 0)] : List Value).toArray s = true := fun w hw => hts w (by
    unfold wsX6_phase
    simp only [List.mem_cons, List.mem_append]
    exact Or.inr (Or.inr hw))
  have kw1 := hts (.fieldLink RX6 7 "MeshLampsModel" "state" "[I") (List.mem_of_getElem? (i := 1) rfl)
  unfold m_X6_phase at h
  refine lv_aload_n hx hb dX6_phase_0 rfl (lv_at hl 0 rfl) ?_
  refine fw_get (C := RX6) (T := TX6) (N := 3) (ci := 6) (v := .ref (fa (mφ μ) 1 0)) hx hb hL6 hown hE hF (e0 μ) (mm0 μ _ _) rfl 0 (by decide) kw1 rfl dX6_phase_1 ?_
  refine lv_sipush (v := (6812 : Int32)) hx hb dX6_phase_4 (by decide) ?_
  refine lv_aload_n hx hb dX6_phase_7 rfl (lv_at hl 0 rfl) ?_
  refine fw_get (C := RX6) (T := TX6) (N := 3) (ci := 6) (v := .ref (fa (mφ μ) 1 0)) hx hb hL6 hown hE hF (e0 μ) (mm0 μ _ _) rfl 0 (by decide) kw1 rfl dX6_phase_8 ?_
  refine lv_sipush (v := (6812 : Int32)) hx hb dX6_phase_11 (by decide) ?_
  refine fw_iald (q := 6812) hx hb hE hF (e1 μ) (mm1 μ _) 0 rfl (by decide) (by decide) dX6_phase_14 ?_
  refine lv_iconst (v := (1 : Int32)) hx hb dX6_phase_15 (by decide) ?_
  refine lv_iadd hx hb dX6_phase_16 ?_
  refine lv_iconst (v := (3 : Int32)) hx hb dX6_phase_17 (by decide) ?_
  refine lv_irem hx hb dX6_phase_18 (by decide) ?_
  refine fw_iast (q := 6812) hx hb hE hok hF hS (e1 μ) (mm1 μ _) 0 rfl (by decide) (by decide) dX6_phase_19 (fun H locs hF hS => ?_)
  obtain ⟨g3, e4, h⟩ := ltm_e h
  rw [e4] at hF
  refine lv_aload_n hx hb dX6_phase_20 rfl (lv_at hl 0 rfl) ?_
  refine fw_get (C := RX6) (T := TX6) (N := 3) (ci := 6) (v := .ref (fa (mφ μ) 1 0)) hx hb hL6 hown hE hF (e0 μ) (mm0 μ _ _) rfl 0 (by decide) kw1 rfl dX6_phase_21 ?_
  refine lv_sipush (v := (6812 : Int32)) hx hb dX6_phase_24 (by decide) ?_
  refine fw_iald (q := 6812) hx hb hE hF (e1 μ) (mm1 μ _) 0 rfl (by decide) (by decide) dX6_phase_27 ?_
  refine lv_if_ne (tgt := 59) hx hb dX6_phase_28 (by decide) (fun c6 => ?_) (fun c6 => ?_)
  · have h := iff0 h c6
    refine lv_aload_n hx hb dX6_phase_59 rfl (lv_at hl 0 rfl) ?_
    refine fw_get (C := RX6) (T := TX6) (N := 3) (ci := 6) (v := .ref (fa (mφ μ) 1 0)) hx hb hL6 hown hE hF (e0 μ) (mm0 μ _ _) rfl 0 (by decide) kw1 rfl dX6_phase_60 ?_
    refine lv_sipush (v := (6812 : Int32)) hx hb dX6_phase_63 (by decide) ?_
    refine fw_iald (q := 6812) hx hb hE hF (e1 μ) (mm1 μ _) 0 rfl (by decide) (by decide) dX6_phase_66 ?_
    refine lv_iconst (v := (2 : Int32)) hx hb dX6_phase_67 (by decide) ?_
    refine lv_icmp_ge (tgt := 80) hx hb dX6_phase_68 (by decide) (fun c8 => ?_) (fun c8 => ?_)
    · have h := ift h c8
      refine lv_aload_n hx hb dX6_phase_80 rfl (lv_at hl 0 rfl) ?_
      refine fw_get (C := RX6) (T := TX6) (N := 3) (ci := 6) (v := .ref (fa (mφ μ) 1 0)) hx hb hL6 hown hE hF (e0 μ) (mm0 μ _ _) rfl 0 (by decide) kw1 rfl dX6_phase_81 ?_
      refine lv_sipush (v := (6812 : Int32)) hx hb dX6_phase_84 (by decide) ?_
      refine fw_iald (q := 6812) hx hb hE hF (e1 μ) (mm1 μ _) 0 rfl (by decide) (by decide) dX6_phase_87 ?_
      exact fw_iret hx hb hr hlk h hF hS dX6_phase_88
    · have h := iff0 h c8
      refine lv_aload_n hx hb dX6_phase_71 rfl (lv_at hl 0 rfl) ?_
      refine fw_get (C := RX6) (T := TX6) (N := 3) (ci := 6) (v := .ref (fa (mφ μ) 1 0)) hx hb hL6 hown hE hF (e0 μ) (mm0 μ _ _) rfl 0 (by decide) kw1 rfl dX6_phase_72 ?_
      refine lv_sipush (v := (6814 : Int32)) hx hb dX6_phase_75 (by decide) ?_
      refine lv_iconst (v := (0 : Int32)) hx hb dX6_phase_78 (by decide) ?_
      refine fw_iast (q := 6814) hx hb hE hok hF hS (e1 μ) (mm1 μ _) 0 rfl (by decide) (by decide) dX6_phase_79 (fun H locs hF hS => ?_)
      obtain ⟨g11, e12, h⟩ := ltm_e h
      rw [e12] at hF
      refine lv_aload_n hx hb dX6_phase_80 rfl (lv_at hl 0 rfl) ?_
      refine fw_get (C := RX6) (T := TX6) (N := 3) (ci := 6) (v := .ref (fa (mφ μ) 1 0)) hx hb hL6 hown hE hF (e0 μ) (mm0 μ _ _) rfl 0 (by decide) kw1 rfl dX6_phase_81 ?_
      refine lv_sipush (v := (6812 : Int32)) hx hb dX6_phase_84 (by decide) ?_
      refine fw_iald (q := 6812) hx hb hE hF (e1 μ) (mm1 μ _) 0 rfl (by decide) (by decide) dX6_phase_87 ?_
      exact fw_iret hx hb hr hlk h hF hS dX6_phase_88
  · have h := ift h c6
    refine lv_aload_n hx hb dX6_phase_31 rfl (lv_at hl 0 rfl) ?_
    refine fw_get (C := RX6) (T := TX6) (N := 3) (ci := 6) (v := .ref (fa (mφ μ) 1 0)) hx hb hL6 hown hE hF (e0 μ) (mm0 μ _ _) rfl 0 (by decide) kw1 rfl dX6_phase_32 ?_
    refine lv_sipush (v := (6811 : Int32)) hx hb dX6_phase_35 (by decide) ?_
    refine lv_dup2_11 hx hb dX6_phase_38 rfl rfl ?_
    refine fw_iald (q := 6811) hx hb hE hF (e1 μ) (mm1 μ _) 0 rfl (by decide) (by decide) dX6_phase_39 ?_
    refine lv_iconst (v := (1 : Int32)) hx hb dX6_phase_40 (by decide) ?_
    refine lv_iadd hx hb dX6_phase_41 ?_
    refine fw_iast (q := 6811) hx hb hE hok hF hS (e1 μ) (mm1 μ _) 0 rfl (by decide) (by decide) dX6_phase_42 (fun H locs hF hS => ?_)
    obtain ⟨g16, e17, h⟩ := ltm_e h
    rw [e17] at hF
    refine lv_aload_n hx hb dX6_phase_43 rfl (lv_at hl 0 rfl) ?_
    refine fw_get (C := RX6) (T := TX6) (N := 3) (ci := 6) (v := .ref (fa (mφ μ) 1 0)) hx hb hL6 hown hE hF (e0 μ) (mm0 μ _ _) rfl 0 (by decide) kw1 rfl dX6_phase_44 ?_
    refine lv_sipush (v := (6813 : Int32)) hx hb dX6_phase_47 (by decide) ?_
    refine lv_aload_n hx hb dX6_phase_50 rfl (lv_at hl 0 rfl) ?_
    refine fw_get (C := RX6) (T := TX6) (N := 3) (ci := 6) (v := .ref (fa (mφ μ) 1 0)) hx hb hL6 hown hE hF (e0 μ) (mm0 μ _ _) rfl 0 (by decide) kw1 rfl dX6_phase_51 ?_
    refine lv_sipush (v := (6814 : Int32)) hx hb dX6_phase_54 (by decide) ?_
    refine fw_iald (q := 6814) hx hb hE hF (e1 μ) (mm1 μ _) 0 rfl (by decide) (by decide) dX6_phase_57 ?_
    refine fw_iast (q := 6813) hx hb hE hok hF hS (e1 μ) (mm1 μ _) 0 rfl (by decide) (by decide) dX6_phase_58 (fun H locs hF hS => ?_)
    obtain ⟨g20, e21, h⟩ := ltm_e h
    rw [e21] at hF
    refine lv_aload_n hx hb dX6_phase_59 rfl (lv_at hl 0 rfl) ?_
    refine fw_get (C := RX6) (T := TX6) (N := 3) (ci := 6) (v := .ref (fa (mφ μ) 1 0)) hx hb hL6 hown hE hF (e0 μ) (mm0 μ _ _) rfl 0 (by decide) kw1 rfl dX6_phase_60 ?_
    refine lv_sipush (v := (6812 : Int32)) hx hb dX6_phase_63 (by decide) ?_
    refine fw_iald (q := 6812) hx hb hE hF (e1 μ) (mm1 μ _) 0 rfl (by decide) (by decide) dX6_phase_66 ?_
    refine lv_iconst (v := (2 : Int32)) hx hb dX6_phase_67 (by decide) ?_
    refine lv_icmp_ge (tgt := 80) hx hb dX6_phase_68 (by decide) (fun c23 => ?_) (fun c23 => ?_)
    · have h := ift h c23
      refine lv_aload_n hx hb dX6_phase_80 rfl (lv_at hl 0 rfl) ?_
      refine fw_get (C := RX6) (T := TX6) (N := 3) (ci := 6) (v := .ref (fa (mφ μ) 1 0)) hx hb hL6 hown hE hF (e0 μ) (mm0 μ _ _) rfl 0 (by decide) kw1 rfl dX6_phase_81 ?_
      refine lv_sipush (v := (6812 : Int32)) hx hb dX6_phase_84 (by decide) ?_
      refine fw_iald (q := 6812) hx hb hE hF (e1 μ) (mm1 μ _) 0 rfl (by decide) (by decide) dX6_phase_87 ?_
      exact fw_iret hx hb hr hlk h hF hS dX6_phase_88
    · have h := iff0 h c23
      refine lv_aload_n hx hb dX6_phase_71 rfl (lv_at hl 0 rfl) ?_
      refine fw_get (C := RX6) (T := TX6) (N := 3) (ci := 6) (v := .ref (fa (mφ μ) 1 0)) hx hb hL6 hown hE hF (e0 μ) (mm0 μ _ _) rfl 0 (by decide) kw1 rfl dX6_phase_72 ?_
      refine lv_sipush (v := (6814 : Int32)) hx hb dX6_phase_75 (by decide) ?_
      refine lv_iconst (v := (0 : Int32)) hx hb dX6_phase_78 (by decide) ?_
      refine fw_iast (q := 6814) hx hb hE hok hF hS (e1 μ) (mm1 μ _) 0 rfl (by decide) (by decide) dX6_phase_79 (fun H locs hF hS => ?_)
      obtain ⟨g26, e27, h⟩ := ltm_e h
      rw [e27] at hF
      refine lv_aload_n hx hb dX6_phase_80 rfl (lv_at hl 0 rfl) ?_
      refine fw_get (C := RX6) (T := TX6) (N := 3) (ci := 6) (v := .ref (fa (mφ μ) 1 0)) hx hb hL6 hown hE hF (e0 μ) (mm0 μ _ _) rfl 0 (by decide) kw1 rfl dX6_phase_81 ?_
      refine lv_sipush (v := (6812 : Int32)) hx hb dX6_phase_84 (by decide) ?_
      refine fw_iald (q := 6812) hx hb hE hF (e1 μ) (mm1 μ _) 0 rfl (by decide) (by decide) dX6_phase_87 ?_
      exact fw_iret hx hb hr hlk h hF hS dX6_phase_88
def m_X6_give (F : Nat) (g : Mem) (a0 : Int32) : Option (Int32 × Mem) := (m_X6_isLamp a0).bind (fun r2 => (if r2 = 0 then some ((-1 : Int32), g) else (if (g 1 0 6812) = 0 then some ((-3 : Int32), g) else ltm (upr g 1 0 (upd (g 1 0) 6814 ((g 1 0 6814) ||| (((1 : Int32)) <<< (a0 &&& 31))))) (fun g8 => (m_X6_bits F (g8 1 0 6814)).bind (fun r12 => some (r12, g8))))))
set_option maxHeartbeats 4000000 in
set_option maxRecDepth 100000 in
theorem c_X6_give (l : Launch) {μ : Mx} (hok : fok (mφ μ))  {F : Nat} {g : Mem} {a0 : Int32} {u : Int32 × Mem} (h : m_X6_give F g a0 = some u) : fM l (mφ μ) yX6_give wsX6_give 2 42 [.ref (fa (mφ μ) 0 0), .int a0] g (some (.int u.1)) u.2 := by
  refine fM.of (cc := cX6_give) (maxL := 2) (ret := (some .int)) [(0, .ref (fa (mφ μ) 0 0)), (1, .int a0)] (by decide) rfl (Nat.le_of_ble_eq_true rfl) rfl (fun p e s m below meth c ls hx hb hr hml hown hts hlk hE hF hS hl => ?_)
  replace hown : s.vm.findClass RX6 = some m.cls := hown
  have hL6 : ∀ w ∈ u_ws RX6 TX6 3, w.before ([.ref (fa (mφ μ) 0 0), .int a0] : List Value).toArray s = true := fun w hw => hts w (by
    unfold wsX6_give
    simp only [List.mem_cons, List.mem_append]
    exact Or.inr (Or.inr hw))
  have kw1 := hts (.fieldLink RX6 7 "MeshLampsModel" "state" "[I") (List.mem_of_getElem? (i := 1) rfl)
  unfold m_X6_give at h
  refine lv_iload_n hx hb dX6_give_0 rfl (lv_at hl 1 rfl) ?_
  obtain ⟨r2, q1, h⟩ := bnd h
  try dsimp only at h
  refine pw_call (va_runS (As := [.int a0]) (rest := []) ⟨hx, hb, hml, hown, hts⟩ (c_X6_isLamp l q1) (va_cwS 1 hts gX6_give_X6_isLamp rfl rfl rfl qs_X6_isLamp ⟨Nat.le_of_ble_eq_true rfl, Nat.le_of_ble_eq_true rfl⟩) preEq rfl rfl hl.1 rfl (lv_room (Nat.le_of_ble_eq_true rfl)) dX6_give_1 ⟨Nat.le_refl _, Nat.le_refl _⟩) ?_
  refine lv_if_ne (tgt := 9) hx hb dX6_give_4 (by decide) (fun c3 => ?_) (fun c3 => ?_)
  · have h := iff0 h c3
    refine lv_aload_n hx hb dX6_give_9 rfl (lv_at hl 0 rfl) ?_
    refine fw_get (C := RX6) (T := TX6) (N := 3) (ci := 6) (v := .ref (fa (mφ μ) 1 0)) hx hb hL6 hown hE hF (e0 μ) (mm0 μ _ _) rfl 0 (by decide) kw1 rfl dX6_give_10 ?_
    refine lv_sipush (v := (6812 : Int32)) hx hb dX6_give_13 (by decide) ?_
    refine fw_iald (q := 6812) hx hb hE hF (e1 μ) (mm1 μ _) 0 rfl (by decide) (by decide) dX6_give_16 ?_
    refine lv_if_ne (tgt := 23) hx hb dX6_give_17 (by decide) (fun c5 => ?_) (fun c5 => ?_)
    · have h := iff0 h c5
      refine lv_aload_n hx hb dX6_give_23 rfl (lv_at hl 0 rfl) ?_
      refine fw_get (C := RX6) (T := TX6) (N := 3) (ci := 6) (v := .ref (fa (mφ μ) 1 0)) hx hb hL6 hown hE hF (e0 μ) (mm0 μ _ _) rfl 0 (by decide) kw1 rfl dX6_give_24 ?_
      refine lv_sipush (v := (6814 : Int32)) hx hb dX6_give_27 (by decide) ?_
      refine lv_dup2_11 hx hb dX6_give_30 rfl rfl ?_
      refine fw_iald (q := 6814) hx hb hE hF (e1 μ) (mm1 μ _) 0 rfl (by decide) (by decide) dX6_give_31 ?_
      refine lv_iconst (v := (1 : Int32)) hx hb dX6_give_32 (by decide) ?_
      refine lv_iload_n hx hb dX6_give_33 rfl (lv_at hl 1 rfl) ?_
      refine lv_ishl hx hb dX6_give_34 ?_
      refine lv_ior hx hb dX6_give_35 ?_
      refine fw_iast (q := 6814) hx hb hE hok hF hS (e1 μ) (mm1 μ _) 0 rfl (by decide) (by decide) dX6_give_36 (fun H locs hF hS => ?_)
      obtain ⟨g8, e9, h⟩ := ltm_e h
      rw [e9] at hF
      refine lv_aload_n hx hb dX6_give_37 rfl (lv_at hl 0 rfl) ?_
      refine fw_get (C := RX6) (T := TX6) (N := 3) (ci := 6) (v := .ref (fa (mφ μ) 1 0)) hx hb hL6 hown hE hF (e0 μ) (mm0 μ _ _) rfl 0 (by decide) kw1 rfl dX6_give_38 ?_
      refine lv_sipush (v := (6814 : Int32)) hx hb dX6_give_41 (by decide) ?_
      refine fw_iald (q := 6814) hx hb hE hF (e1 μ) (mm1 μ _) 0 rfl (by decide) (by decide) dX6_give_44 ?_
      obtain ⟨r12, q11, h⟩ := bnd h
      try dsimp only at h
      refine pw_call (va_runS (As := [.int (g8 1 0 6814)]) (rest := []) ⟨hx, hb, hml, hown, hts⟩ (c_X6_bits l q11) (va_cwS 1 hts gX6_give_X6_bits rfl rfl rfl qs_X6_bits ⟨Nat.le_of_ble_eq_true rfl, Nat.le_of_ble_eq_true rfl⟩) preEq rfl rfl hl.1 rfl (lv_room (Nat.le_of_ble_eq_true rfl)) dX6_give_45 ⟨Nat.le_refl _, Nat.le_refl _⟩) ?_
      exact fw_iret hx hb hr hlk h hF hS dX6_give_48
    · have h := ift h c5
      refine lv_bipush (v := (-3 : Int32)) hx hb dX6_give_20 (by decide) ?_
      exact fw_iret hx hb hr hlk h hF hS dX6_give_22
  · have h := ift h c3
    refine lv_iconst (v := (-1 : Int32)) hx hb dX6_give_7 (by decide) ?_
    exact fw_iret hx hb hr hlk h hF hS dX6_give_8
def m_X6_tell (F : Nat) (g : Mem) (a0 a1 a2 a3 : Int32) : Option (Int32 × Mem) := (m_X6_isLamp a0).bind (fun r2 => (if r2 = 0 then some ((-1 : Int32), g) else (m_X6_in a1 ((0 : Int32)) ((13 : Int32))).bind (fun r5 => (if r5 = 0 then some ((-2 : Int32), g) else (m_X6_in a2 ((0 : Int32)) ((99 : Int32))).bind (fun r8 => (if r8 = 0 then some ((-2 : Int32), g) else (m_X6_in a3 ((1 : Int32)) ((7 : Int32))).bind (fun r11 => (if r11 = 0 then some ((-2 : Int32), g) else (m_X6_sleeps g a0).bind (fun (r14, g15) => (if r14 = 0 then (m_X6_keyFor g15 a0).bind (fun (r19, g20) => (if 0 ≤ r19 then (if (g20 1 0 6815) = ((64 : Int32)) then some ((-4 : Int32), g20) else if (((80 : Int32)) + a0 < 0 ∨ 6819 ≤ (((80 : Int32)) + a0).toNatClampNeg) then none else (if (g20 1 0 ((((80 : Int32)) + a0).toNatClampNeg)) = ((200 : Int32)) then some ((-4 : Int32), g20) else if (((80 : Int32)) + a0 < 0 ∨ 6819 ≤ (((80 : Int32)) + a0).toNatClampNeg) then none else if (((80 : Int32)) + a0 < 0 ∨ 6819 ≤ (((80 : Int32)) + a0).toNatClampNeg) then none else ltm (upr g20 1 0 (upd (g20 1 0) (((80 : Int32)) + a0).toNatClampNeg ((g20 1 0 ((((80 : Int32)) + a0).toNatClampNeg)) + ((1 : Int32))))) (fun g29 => if (((80 : Int32)) + a0 < 0 ∨ 6819 ≤ (((80 : Int32)) + a0).toNatClampNeg) then none else if (((810 : Int32)) + (((3 : Int32)) * (((((200 : Int32)) * a0) + (g29 1 0 ((((80 : Int32)) + a0).toNatClampNeg))) - ((1 : Int32)))) < 0 ∨ 6819 ≤ (((810 : Int32)) + (((3 : Int32)) * (((((200 : Int32)) * a0) + (g29 1 0 ((((80 : Int32)) + a0).toNatClampNeg))) - ((1 : Int32))))).toNatClampNeg) then none else ltm (upr g29 1 0 (upd (g29 1 0) (((810 : Int32)) + (((3 : Int32)) * (((((200 : Int32)) * a0) + (g29 1 0 ((((80 : Int32)) + a0).toNatClampNeg))) - ((1 : Int32))))).toNatClampNeg r19)) (fun g33 => if ((((810 : Int32)) + (((3 : Int32)) * (((((200 : Int32)) * a0) + (g29 1 0 ((((80 : Int32)) + a0).toNatClampNeg))) - ((1 : Int32))))) + ((1 : Int32)) < 0 ∨ 6819 ≤ ((((810 : Int32)) + (((3 : Int32)) * (((((200 : Int32)) * a0) + (g29 1 0 ((((80 : Int32)) + a0).toNatClampNeg))) - ((1 : Int32))))) + ((1 : Int32))).toNatClampNeg) then none else ltm (upr g33 1 0 (upd (g33 1 0) ((((810 : Int32)) + (((3 : Int32)) * (((((200 : Int32)) * a0) + (g29 1 0 ((((80 : Int32)) + a0).toNatClampNeg))) - ((1 : Int32))))) + ((1 : Int32))).toNatClampNeg a1)) (fun g36 => if ((((810 : Int32)) + (((3 : Int32)) * (((((200 : Int32)) * a0) + (g29 1 0 ((((80 : Int32)) + a0).toNatClampNeg))) - ((1 : Int32))))) + ((2 : Int32)) < 0 ∨ 6819 ≤ ((((810 : Int32)) + (((3 : Int32)) * (((((200 : Int32)) * a0) + (g29 1 0 ((((80 : Int32)) + a0).toNatClampNeg))) - ((1 : Int32))))) + ((2 : Int32))).toNatClampNeg) then none else ltm (upr g36 1 0 (upd (g36 1 0) ((((810 : Int32)) + (((3 : Int32)) * (((((200 : Int32)) * a0) + (g29 1 0 ((((80 : Int32)) + a0).toNatClampNeg))) - ((1 : Int32))))) + ((2 : Int32))).toNatClampNeg a2)) (fun g39 => (m_X6_remember F g39 a0 a0 (g29 1 0 ((((80 : Int32)) + a0).toNatClampNeg))).bind (fun (r42, g43) => (m_X6_addToAir g43 a0 ((g43 1 0 6810) + ((1 : Int32))) a0 (g29 1 0 ((((80 : Int32)) + a0).toNatClampNeg)) a3).bind (fun (r47, g48) => some (g29 1 0 ((((80 : Int32)) + a0).toNatClampNeg), g48))))))))) else some ((-5 : Int32), g20))) else some ((-3 : Int32), g15)))))))))))
set_option maxHeartbeats 4000000 in
set_option maxRecDepth 100000 in
theorem c_X6_tell (l : Launch) {μ : Mx} (hok : fok (mφ μ))  {F : Nat} {g : Mem} {a0 a1 a2 a3 : Int32} {u : Int32 × Mem} (h : m_X6_tell F g a0 a1 a2 a3 = some u) : fM l (mφ μ) yX6_tell wsX6_tell 2 42 [.ref (fa (mφ μ) 0 0), .int a0, .int a1, .int a2, .int a3] g (some (.int u.1)) u.2 := by
  refine fM.of (cc := cX6_tell) (maxL := 8) (ret := (some .int)) [(0, .ref (fa (mφ μ) 0 0)), (1, .int a0), (2, .int a1), (3, .int a2), (4, .int a3)] (by decide) rfl (Nat.le_of_ble_eq_true rfl) rfl (fun p e s m below meth c ls hx hb hr hml hown hts hlk hE hF hS hl => ?_)
  replace hown : s.vm.findClass RX6 = some m.cls := hown
  have hL6 : ∀ w ∈ u_ws RX6 TX6 3, w.before ([.ref (fa (mφ μ) 0 0), .int a0, .int a1, .int a2, .int a3] : List Value).toArray s = true := fun w hw => hts w (by
    unfold wsX6_tell
    simp only [List.mem_cons, List.mem_append]
    exact Or.inr (Or.inr hw))
  have kw1 := hts (.fieldLink RX6 7 "MeshLampsModel" "state" "[I") (List.mem_of_getElem? (i := 1) rfl)
  unfold m_X6_tell at h
  refine lv_iload_n hx hb dX6_tell_0 rfl (lv_at hl 1 rfl) ?_
  obtain ⟨r2, q1, h⟩ := bnd h
  try dsimp only at h
  refine pw_call (va_runS (As := [.int a0]) (rest := []) ⟨hx, hb, hml, hown, hts⟩ (c_X6_isLamp l q1) (va_cwS 1 hts gX6_tell_X6_isLamp rfl rfl rfl qs_X6_isLamp ⟨Nat.le_of_ble_eq_true rfl, Nat.le_of_ble_eq_true rfl⟩) preEq rfl rfl hl.1 rfl (lv_room (Nat.le_of_ble_eq_true rfl)) dX6_tell_1 ⟨Nat.le_refl _, Nat.le_refl _⟩) ?_
  refine lv_if_ne (tgt := 9) hx hb dX6_tell_4 (by decide) (fun c3 => ?_) (fun c3 => ?_)
  · have h := iff0 h c3
    refine lv_iload_n hx hb dX6_tell_9 rfl (lv_at hl 2 rfl) ?_
    refine lv_iconst (v := (0 : Int32)) hx hb dX6_tell_10 (by decide) ?_
    refine lv_bipush (v := (13 : Int32)) hx hb dX6_tell_11 (by decide) ?_
    obtain ⟨r5, q4, h⟩ := bnd h
    try dsimp only at h
    refine pw_call (va_runS (As := [.int a1, .int ((0 : Int32)), .int ((13 : Int32))]) (rest := []) ⟨hx, hb, hml, hown, hts⟩ (c_X6_in l q4) (va_cwS 3 hts gX6_tell_X6_in rfl rfl rfl qs_X6_in ⟨Nat.le_of_ble_eq_true rfl, Nat.le_of_ble_eq_true rfl⟩) preEq rfl rfl hl.1 rfl (lv_room (Nat.le_of_ble_eq_true rfl)) dX6_tell_13 ⟨Nat.le_refl _, Nat.le_refl _⟩) ?_
    refine lv_if_eq (tgt := 40) hx hb dX6_tell_16 (by decide) (fun c6 => ?_) (fun c6 => ?_)
    · have h := ift h c6
      refine lv_bipush (v := (-2 : Int32)) hx hb dX6_tell_40 (by decide) ?_
      exact fw_iret hx hb hr hlk h hF hS dX6_tell_42
    · have h := iff0 h c6
      refine lv_iload_n hx hb dX6_tell_19 rfl (lv_at hl 3 rfl) ?_
      refine lv_iconst (v := (0 : Int32)) hx hb dX6_tell_20 (by decide) ?_
      refine lv_bipush (v := (99 : Int32)) hx hb dX6_tell_21 (by decide) ?_
      obtain ⟨r8, q7, h⟩ := bnd h
      try dsimp only at h
      refine pw_call (va_runS (As := [.int a2, .int ((0 : Int32)), .int ((99 : Int32))]) (rest := []) ⟨hx, hb, hml, hown, hts⟩ (c_X6_in l q7) (va_cwS 3 hts gX6_tell_X6_in rfl rfl rfl qs_X6_in ⟨Nat.le_of_ble_eq_true rfl, Nat.le_of_ble_eq_true rfl⟩) preEq rfl rfl hl.1 rfl (lv_room (Nat.le_of_ble_eq_true rfl)) dX6_tell_23 ⟨Nat.le_refl _, Nat.le_refl _⟩) ?_
      refine lv_if_eq (tgt := 40) hx hb dX6_tell_26 (by decide) (fun c9 => ?_) (fun c9 => ?_)
      · have h := ift h c9
        refine lv_bipush (v := (-2 : Int32)) hx hb dX6_tell_40 (by decide) ?_
        exact fw_iret hx hb hr hlk h hF hS dX6_tell_42
      · have h := iff0 h c9
        refine lv_iload hx hb dX6_tell_29 (lv_at hl 4 rfl) ?_
        refine lv_iconst (v := (1 : Int32)) hx hb dX6_tell_31 (by decide) ?_
        refine lv_bipush (v := (7 : Int32)) hx hb dX6_tell_32 (by decide) ?_
        obtain ⟨r11, q10, h⟩ := bnd h
        try dsimp only at h
        refine pw_call (va_runS (As := [.int a3, .int ((1 : Int32)), .int ((7 : Int32))]) (rest := []) ⟨hx, hb, hml, hown, hts⟩ (c_X6_in l q10) (va_cwS 3 hts gX6_tell_X6_in rfl rfl rfl qs_X6_in ⟨Nat.le_of_ble_eq_true rfl, Nat.le_of_ble_eq_true rfl⟩) preEq rfl rfl hl.1 rfl (lv_room (Nat.le_of_ble_eq_true rfl)) dX6_tell_34 ⟨Nat.le_refl _, Nat.le_refl _⟩) ?_
        refine lv_if_ne (tgt := 43) hx hb dX6_tell_37 (by decide) (fun c12 => ?_) (fun c12 => ?_)
        · have h := iff0 h c12
          refine lv_aload_n hx hb dX6_tell_43 rfl (lv_at hl 0 rfl) ?_
          refine lv_iload_n hx hb dX6_tell_44 rfl (lv_at hl 1 rfl) ?_
          obtain ⟨⟨r14, g15⟩, q13, h⟩ := bnd h
          try dsimp only at h
          refine fw_calli (va_runV (As := [.int a0]) (rest := []) ⟨hx, hb, hml, hown, hts⟩ (c_X6_sleeps l hok q13) (cwV 1 hts gX6_tell_X6_sleeps rfl rfl rfl qv_X6_sleeps ⟨Nat.le_of_ble_eq_true rfl, Nat.le_of_ble_eq_true rfl⟩) (fw_preV hok hE hF (e0 μ) (mm0 μ _ _) rfl) rfl rfl hl.1 rfl (lv_room (Nat.le_of_ble_eq_true rfl)) dX6_tell_45 ⟨Nat.le_refl _, Nat.le_refl _⟩) hS (fun H locs hF hS => ?_)
          refine lv_if_eq (tgt := 54) hx hb dX6_tell_48 (by decide) (fun c17 => ?_) (fun c17 => ?_)
          · have h := ift h c17
            refine lv_aload_n hx hb dX6_tell_54 rfl (lv_at hl 0 rfl) ?_
            refine lv_iload_n hx hb dX6_tell_55 rfl (lv_at hl 1 rfl) ?_
            obtain ⟨⟨r19, g20⟩, q18, h⟩ := bnd h
            try dsimp only at h
            refine fw_calli (va_runV (As := [.int a0]) (rest := []) ⟨hx, hb, hml, hown, hts⟩ (c_X6_keyFor l hok q18) (cwV 1 hts gX6_tell_X6_keyFor rfl rfl rfl qv_X6_keyFor ⟨Nat.le_of_ble_eq_true rfl, Nat.le_of_ble_eq_true rfl⟩) (fw_preV hok hE hF (e0 μ) (mm0 μ _ _) rfl) rfl rfl hl.1 rfl (lv_room (Nat.le_of_ble_eq_true rfl)) dX6_tell_56 ⟨Nat.le_refl _, Nat.le_refl _⟩) hS (fun H locs hF hS => ?_)
            refine lv_istore (lv' := [(5, .int r19), (0, .ref (fa (mφ μ) 0 0)), (1, .int a0), (2, .int a1), (3, .int a2), (4, .int a3)]) hx hb dX6_tell_59 hl (by decide) rfl (fun ls hl => ?_)
            refine lv_iload hx hb dX6_tell_61 (lv_at hl 0 rfl) ?_
            refine lv_if_ge (tgt := 69) hx hb dX6_tell_63 (by decide) (fun c22 => ?_) (fun c22 => ?_)
            · have h := ift h c22
              refine lv_aload_n hx hb dX6_tell_69 rfl (lv_at hl 1 rfl) ?_
              refine fw_get (C := RX6) (T := TX6) (N := 3) (ci := 6) (v := .ref (fa (mφ μ) 1 0)) hx hb hL6 hown hE hF (e0 μ) (mm0 μ _ _) rfl 0 (by decide) kw1 rfl dX6_tell_70 ?_
              refine lv_sipush (v := (6815 : Int32)) hx hb dX6_tell_73 (by decide) ?_
              refine fw_iald (q := 6815) hx hb hE hF (e1 μ) (mm1 μ _) 0 rfl (by decide) (by decide) dX6_tell_76 ?_
              refine lv_bipush (v := (64 : Int32)) hx hb dX6_tell_77 (by decide) ?_
              refine lv_icmp_eq (tgt := 97) hx hb dX6_tell_79 (by decide) (fun c24 => ?_) (fun c24 => ?_)
              · have h := ift h c24
                refine lv_bipush (v := (-4 : Int32)) hx hb dX6_tell_97 (by decide) ?_
                exact fw_iret hx hb hr hlk h hF hS dX6_tell_99
              · have h := iff0 h c24
                refine lv_aload_n hx hb dX6_tell_82 rfl (lv_at hl 1 rfl) ?_
                refine fw_get (C := RX6) (T := TX6) (N := 3) (ci := 6) (v := .ref (fa (mφ μ) 1 0)) hx hb hL6 hown hE hF (e0 μ) (mm0 μ _ _) rfl 0 (by decide) kw1 rfl dX6_tell_83 ?_
                refine lv_bipush (v := (80 : Int32)) hx hb dX6_tell_86 (by decide) ?_
                refine lv_iload_n hx hb dX6_tell_88 rfl (lv_at hl 2 rfl) ?_
                refine lv_iadd hx hb dX6_tell_89 ?_
                obtain ⟨k25, h⟩ := ck h
                refine fw_iald (q := (((80 : Int32)) + a0).toNatClampNeg) hx hb hE hF (e1 μ) (mm1 μ _) 0 rfl k25 rfl dX6_tell_90 ?_
                refine lv_sipush (v := (200 : Int32)) hx hb dX6_tell_91 (by decide) ?_
                refine lv_icmp_ne (tgt := 100) hx hb dX6_tell_94 (by decide) (fun c26 => ?_) (fun c26 => ?_)
                · have h := iff0 h c26
                  refine lv_aload_n hx hb dX6_tell_100 rfl (lv_at hl 1 rfl) ?_
                  refine fw_get (C := RX6) (T := TX6) (N := 3) (ci := 6) (v := .ref (fa (mφ μ) 1 0)) hx hb hL6 hown hE hF (e0 μ) (mm0 μ _ _) rfl 0 (by decide) kw1 rfl dX6_tell_101 ?_
                  refine lv_bipush (v := (80 : Int32)) hx hb dX6_tell_104 (by decide) ?_
                  refine lv_iload_n hx hb dX6_tell_106 rfl (lv_at hl 2 rfl) ?_
                  refine lv_iadd hx hb dX6_tell_107 ?_
                  refine lv_dup2_11 hx hb dX6_tell_108 rfl rfl ?_
                  obtain ⟨k27, h⟩ := ck h
                  refine fw_iald (q := (((80 : Int32)) + a0).toNatClampNeg) hx hb hE hF (e1 μ) (mm1 μ _) 0 rfl k27 rfl dX6_tell_109 ?_
                  refine lv_iconst (v := (1 : Int32)) hx hb dX6_tell_110 (by decide) ?_
                  refine lv_iadd hx hb dX6_tell_111 ?_
                  obtain ⟨k28, h⟩ := ck h
                  refine fw_iast (q := (((80 : Int32)) + a0).toNatClampNeg) hx hb hE hok hF hS (e1 μ) (mm1 μ _) 0 rfl k28 rfl dX6_tell_112 (fun H locs hF hS => ?_)
                  obtain ⟨g29, e30, h⟩ := ltm_e h
                  rw [e30] at hF
                  refine lv_aload_n hx hb dX6_tell_113 rfl (lv_at hl 1 rfl) ?_
                  refine fw_get (C := RX6) (T := TX6) (N := 3) (ci := 6) (v := .ref (fa (mφ μ) 1 0)) hx hb hL6 hown hE hF (e0 μ) (mm0 μ _ _) rfl 0 (by decide) kw1 rfl dX6_tell_114 ?_
                  refine lv_bipush (v := (80 : Int32)) hx hb dX6_tell_117 (by decide) ?_
                  refine lv_iload_n hx hb dX6_tell_119 rfl (lv_at hl 2 rfl) ?_
                  refine lv_iadd hx hb dX6_tell_120 ?_
                  obtain ⟨k31, h⟩ := ck h
                  refine fw_iald (q := (((80 : Int32)) + a0).toNatClampNeg) hx hb hE hF (e1 μ) (mm1 μ _) 0 rfl k31 rfl dX6_tell_121 ?_
                  refine lv_istore (lv' := [(6, .int (g29 1 0 ((((80 : Int32)) + a0).toNatClampNeg))), (5, .int r19), (0, .ref (fa (mφ μ) 0 0)), (1, .int a0), (2, .int a1), (3, .int a2), (4, .int a3)]) hx hb dX6_tell_122 hl (by decide) rfl (fun ls hl => ?_)
                  refine lv_sipush (v := (810 : Int32)) hx hb dX6_tell_124 (by decide) ?_
                  refine lv_iconst (v := (3 : Int32)) hx hb dX6_tell_127 (by decide) ?_
                  refine lv_sipush (v := (200 : Int32)) hx hb dX6_tell_128 (by decide) ?_
                  refine lv_iload_n hx hb dX6_tell_131 rfl (lv_at hl 3 rfl) ?_
                  refine lv_imul hx hb dX6_tell_132 ?_
                  refine lv_iload hx hb dX6_tell_133 (lv_at hl 0 rfl) ?_
                  refine lv_iadd hx hb dX6_tell_135 ?_
                  refine lv_iconst (v := (1 : Int32)) hx hb dX6_tell_136 (by decide) ?_
                  refine lv_isub hx hb dX6_tell_137 ?_
                  refine lv_imul hx hb dX6_tell_138 ?_
                  refine lv_iadd hx hb dX6_tell_139 ?_
                  refine lv_istore (lv' := [(7, .int (((810 : Int32)) + (((3 : Int32)) * (((((200 : Int32)) * a0) + (g29 1 0 ((((80 : Int32)) + a0).toNatClampNeg))) - ((1 : Int32)))))), (6, .int (g29 1 0 ((((80 : Int32)) + a0).toNatClampNeg))), (5, .int r19), (0, .ref (fa (mφ μ) 0 0)), (1, .int a0), (2, .int a1), (3, .int a2), (4, .int a3)]) hx hb dX6_tell_140 hl (by decide) rfl (fun ls hl => ?_)
                  refine lv_aload_n hx hb dX6_tell_142 rfl (lv_at hl 3 rfl) ?_
                  refine fw_get (C := RX6) (T := TX6) (N := 3) (ci := 6) (v := .ref (fa (mφ μ) 1 0)) hx hb hL6 hown hE hF (e0 μ) (mm0 μ _ _) rfl 0 (by decide) kw1 rfl dX6_tell_143 ?_
                  refine lv_iload hx hb dX6_tell_146 (lv_at hl 0 rfl) ?_
                  refine lv_iload hx hb dX6_tell_148 (lv_at hl 2 rfl) ?_
                  obtain ⟨k32, h⟩ := ck h
                  refine fw_iast (q := (((810 : Int32)) + (((3 : Int32)) * (((((200 : Int32)) * a0) + (g29 1 0 ((((80 : Int32)) + a0).toNatClampNeg))) - ((1 : Int32))))).toNatClampNeg) hx hb hE hok hF hS (e1 μ) (mm1 μ _) 0 rfl k32 rfl dX6_tell_150 (fun H locs hF hS => ?_)
                  obtain ⟨g33, e34, h⟩ := ltm_e h
                  rw [e34] at hF
                  refine lv_aload_n hx hb dX6_tell_151 rfl (lv_at hl 3 rfl) ?_
                  refine fw_get (C := RX6) (T := TX6) (N := 3) (ci := 6) (v := .ref (fa (mφ μ) 1 0)) hx hb hL6 hown hE hF (e0 μ) (mm0 μ _ _) rfl 0 (by decide) kw1 rfl dX6_tell_152 ?_
                  refine lv_iload hx hb dX6_tell_155 (lv_at hl 0 rfl) ?_
                  refine lv_iconst (v := (1 : Int32)) hx hb dX6_tell_157 (by decide) ?_
                  refine lv_iadd hx hb dX6_tell_158 ?_
                  refine lv_iload_n hx hb dX6_tell_159 rfl (lv_at hl 5 rfl) ?_
                  obtain ⟨k35, h⟩ := ck h
                  refine fw_iast (q := ((((810 : Int32)) + (((3 : Int32)) * (((((200 : Int32)) * a0) + (g29 1 0 ((((80 : Int32)) + a0).toNatClampNeg))) - ((1 : Int32))))) + ((1 : Int32))).toNatClampNeg) hx hb hE hok hF hS (e1 μ) (mm1 μ _) 0 rfl k35 rfl dX6_tell_160 (fun H locs hF hS => ?_)
                  obtain ⟨g36, e37, h⟩ := ltm_e h
                  rw [e37] at hF
                  refine lv_aload_n hx hb dX6_tell_161 rfl (lv_at hl 3 rfl) ?_
                  refine fw_get (C := RX6) (T := TX6) (N := 3) (ci := 6) (v := .ref (fa (mφ μ) 1 0)) hx hb hL6 hown hE hF (e0 μ) (mm0 μ _ _) rfl 0 (by decide) kw1 rfl dX6_tell_162 ?_
                  refine lv_iload hx hb dX6_tell_165 (lv_at hl 0 rfl) ?_
                  refine lv_iconst (v := (2 : Int32)) hx hb dX6_tell_167 (by decide) ?_
                  refine lv_iadd hx hb dX6_tell_168 ?_
                  refine lv_iload_n hx hb dX6_tell_169 rfl (lv_at hl 6 rfl) ?_
                  obtain ⟨k38, h⟩ := ck h
                  refine fw_iast (q := ((((810 : Int32)) + (((3 : Int32)) * (((((200 : Int32)) * a0) + (g29 1 0 ((((80 : Int32)) + a0).toNatClampNeg))) - ((1 : Int32))))) + ((2 : Int32))).toNatClampNeg) hx hb hE hok hF hS (e1 μ) (mm1 μ _) 0 rfl k38 rfl dX6_tell_170 (fun H locs hF hS => ?_)
                  obtain ⟨g39, e40, h⟩ := ltm_e h
                  rw [e40] at hF
                  refine lv_aload_n hx hb dX6_tell_171 rfl (lv_at hl 3 rfl) ?_
                  refine lv_iload_n hx hb dX6_tell_172 rfl (lv_at hl 4 rfl) ?_
                  refine lv_iload_n hx hb dX6_tell_173 rfl (lv_at hl 4 rfl) ?_
                  refine lv_iload hx hb dX6_tell_174 (lv_at hl 1 rfl) ?_
                  obtain ⟨⟨r42, g43⟩, q41, h⟩ := bnd h
                  try dsimp only at h
                  refine fw_callv (va_runV (As := [.int a0, .int a0, .int (g29 1 0 ((((80 : Int32)) + a0).toNatClampNeg))]) (rest := []) ⟨hx, hb, hml, hown, hts⟩ (c_X6_remember l hok q41) (cwV 3 hts gX6_tell_X6_remember rfl rfl rfl qv_X6_remember ⟨Nat.le_of_ble_eq_true rfl, Nat.le_of_ble_eq_true rfl⟩) (fw_preV hok hE hF (e0 μ) (mm0 μ _ _) rfl) rfl rfl hl.1 rfl (lv_room (Nat.le_of_ble_eq_true rfl)) dX6_tell_176 ⟨Nat.le_refl _, Nat.le_refl _⟩) hS (fun H locs hF hS => ?_)
                  refine lv_aload_n hx hb dX6_tell_179 rfl (lv_at hl 3 rfl) ?_
                  refine lv_iload_n hx hb dX6_tell_180 rfl (lv_at hl 4 rfl) ?_
                  refine lv_aload_n hx hb dX6_tell_181 rfl (lv_at hl 3 rfl) ?_
                  refine fw_get (C := RX6) (T := TX6) (N := 3) (ci := 6) (v := .ref (fa (mφ μ) 1 0)) hx hb hL6 hown hE hF (e0 μ) (mm0 μ _ _) rfl 0 (by decide) kw1 rfl dX6_tell_182 ?_
                  refine lv_sipush (v := (6810 : Int32)) hx hb dX6_tell_185 (by decide) ?_
                  refine fw_iald (q := 6810) hx hb hE hF (e1 μ) (mm1 μ _) 0 rfl (by decide) (by decide) dX6_tell_188 ?_
                  refine lv_iconst (v := (1 : Int32)) hx hb dX6_tell_189 (by decide) ?_
                  refine lv_iadd hx hb dX6_tell_190 ?_
                  refine lv_iload_n hx hb dX6_tell_191 rfl (lv_at hl 4 rfl) ?_
                  refine lv_iload hx hb dX6_tell_192 (lv_at hl 1 rfl) ?_
                  refine lv_iload hx hb dX6_tell_194 (lv_at hl 7 rfl) ?_
                  obtain ⟨⟨r47, g48⟩, q46, h⟩ := bnd h
                  try dsimp only at h
                  refine fw_callv (va_runV (As := [.int a0, .int ((g43 1 0 6810) + ((1 : Int32))), .int a0, .int (g29 1 0 ((((80 : Int32)) + a0).toNatClampNeg)), .int a3]) (rest := []) ⟨hx, hb, hml, hown, hts⟩ (c_X6_addToAir l hok q46) (cwV 5 hts gX6_tell_X6_addToAir rfl rfl rfl qv_X6_addToAir ⟨Nat.le_of_ble_eq_true rfl, Nat.le_of_ble_eq_true rfl⟩) (fw_preV hok hE hF (e0 μ) (mm0 μ _ _) rfl) rfl rfl hl.1 rfl (lv_room (Nat.le_of_ble_eq_true rfl)) dX6_tell_196 ⟨Nat.le_refl _, Nat.le_refl _⟩) hS (fun H locs hF hS => ?_)
                  refine lv_iload hx hb dX6_tell_199 (lv_at hl 1 rfl) ?_
                  exact fw_iret hx hb hr hlk h hF hS dX6_tell_201
                · have h := ift h c26
                  refine lv_bipush (v := (-4 : Int32)) hx hb dX6_tell_97 (by decide) ?_
                  exact fw_iret hx hb hr hlk h hF hS dX6_tell_99
            · have h := iff0 h c22
              refine lv_bipush (v := (-5 : Int32)) hx hb dX6_tell_66 (by decide) ?_
              exact fw_iret hx hb hr hlk h hF hS dX6_tell_68
          · have h := iff0 h c17
            refine lv_bipush (v := (-3 : Int32)) hx hb dX6_tell_51 (by decide) ?_
            exact fw_iret hx hb hr hlk h hF hS dX6_tell_53
        · have h := ift h c12
          refine lv_bipush (v := (-2 : Int32)) hx hb dX6_tell_40 (by decide) ?_
          exact fw_iret hx hb hr hlk h hF hS dX6_tell_42
  · have h := ift h c3
    refine lv_iconst (v := (-1 : Int32)) hx hb dX6_tell_7 (by decide) ?_
    exact fw_iret hx hb hr hlk h hF hS dX6_tell_8
def m_X6_replay (g : Mem) (a0 a1 a2 : Int32) : Option (Int32 × Mem) := (m_X6_isLamp a0).bind (fun r2 => (if r2 = 0 then some ((-1 : Int32), g) else (m_X6_isLamp a1).bind (fun r5 => (if r5 = 0 then some ((-1 : Int32), g) else if (((80 : Int32)) + a1 < 0 ∨ 6819 ≤ (((80 : Int32)) + a1).toNatClampNeg) then none else (m_X6_in a2 ((1 : Int32)) (g 1 0 ((((80 : Int32)) + a1).toNatClampNeg))).bind (fun r9 => (if r9 = 0 then some ((-2 : Int32), g) else (if (g 1 0 6815) = ((64 : Int32)) then some ((-4 : Int32), g) else (m_X6_addToAir g (((10 : Int32)) + a0) ((g 1 0 6810) + ((1 : Int32))) a1 a2 ((7 : Int32))).bind (fun (r15, g16) => some (g16 1 0 6815, g16)))))))))
set_option maxHeartbeats 4000000 in
set_option maxRecDepth 100000 in
theorem c_X6_replay (l : Launch) {μ : Mx} (hok : fok (mφ μ))  {g : Mem} {a0 a1 a2 : Int32} {u : Int32 × Mem} (h : m_X6_replay g a0 a1 a2 = some u) : fM l (mφ μ) yX6_replay wsX6_replay 2 42 [.ref (fa (mφ μ) 0 0), .int a0, .int a1, .int a2] g (some (.int u.1)) u.2 := by
  refine fM.of (cc := cX6_replay) (maxL := 4) (ret := (some .int)) [(0, .ref (fa (mφ μ) 0 0)), (1, .int a0), (2, .int a1), (3, .int a2)] (by decide) rfl (Nat.le_of_ble_eq_true rfl) rfl (fun p e s m below meth c ls hx hb hr hml hown hts hlk hE hF hS hl => ?_)
  replace hown : s.vm.findClass RX6 = some m.cls := hown
  have hL6 : ∀ w ∈ u_ws RX6 TX6 3, w.before ([.ref (fa (mφ μ) 0 0), .int a0, .int a1, .int a2] : List Value).toArray s = true := fun w hw => hts w (by
    unfold wsX6_replay
    simp only [List.mem_cons, List.mem_append]
    exact Or.inr (Or.inr hw))
  have kw1 := hts (.fieldLink RX6 7 "MeshLampsModel" "state" "[I") (List.mem_of_getElem? (i := 1) rfl)
  unfold m_X6_replay at h
  refine lv_iload_n hx hb dX6_replay_0 rfl (lv_at hl 1 rfl) ?_
  obtain ⟨r2, q1, h⟩ := bnd h
  try dsimp only at h
  refine pw_call (va_runS (As := [.int a0]) (rest := []) ⟨hx, hb, hml, hown, hts⟩ (c_X6_isLamp l q1) (va_cwS 1 hts gX6_replay_X6_isLamp rfl rfl rfl qs_X6_isLamp ⟨Nat.le_of_ble_eq_true rfl, Nat.le_of_ble_eq_true rfl⟩) preEq rfl rfl hl.1 rfl (lv_room (Nat.le_of_ble_eq_true rfl)) dX6_replay_1 ⟨Nat.le_refl _, Nat.le_refl _⟩) ?_
  refine lv_if_eq (tgt := 14) hx hb dX6_replay_4 (by decide) (fun c3 => ?_) (fun c3 => ?_)
  · have h := ift h c3
    refine lv_iconst (v := (-1 : Int32)) hx hb dX6_replay_14 (by decide) ?_
    exact fw_iret hx hb hr hlk h hF hS dX6_replay_15
  · have h := iff0 h c3
    refine lv_iload_n hx hb dX6_replay_7 rfl (lv_at hl 2 rfl) ?_
    obtain ⟨r5, q4, h⟩ := bnd h
    try dsimp only at h
    refine pw_call (va_runS (As := [.int a1]) (rest := []) ⟨hx, hb, hml, hown, hts⟩ (c_X6_isLamp l q4) (va_cwS 1 hts gX6_replay_X6_isLamp rfl rfl rfl qs_X6_isLamp ⟨Nat.le_of_ble_eq_true rfl, Nat.le_of_ble_eq_true rfl⟩) preEq rfl rfl hl.1 rfl (lv_room (Nat.le_of_ble_eq_true rfl)) dX6_replay_8 ⟨Nat.le_refl _, Nat.le_refl _⟩) ?_
    refine lv_if_ne (tgt := 16) hx hb dX6_replay_11 (by decide) (fun c6 => ?_) (fun c6 => ?_)
    · have h := iff0 h c6
      refine lv_iload_n hx hb dX6_replay_16 rfl (lv_at hl 3 rfl) ?_
      refine lv_iconst (v := (1 : Int32)) hx hb dX6_replay_17 (by decide) ?_
      refine lv_aload_n hx hb dX6_replay_18 rfl (lv_at hl 0 rfl) ?_
      refine fw_get (C := RX6) (T := TX6) (N := 3) (ci := 6) (v := .ref (fa (mφ μ) 1 0)) hx hb hL6 hown hE hF (e0 μ) (mm0 μ _ _) rfl 0 (by decide) kw1 rfl dX6_replay_19 ?_
      refine lv_bipush (v := (80 : Int32)) hx hb dX6_replay_22 (by decide) ?_
      refine lv_iload_n hx hb dX6_replay_24 rfl (lv_at hl 2 rfl) ?_
      refine lv_iadd hx hb dX6_replay_25 ?_
      obtain ⟨k7, h⟩ := ck h
      refine fw_iald (q := (((80 : Int32)) + a1).toNatClampNeg) hx hb hE hF (e1 μ) (mm1 μ _) 0 rfl k7 rfl dX6_replay_26 ?_
      obtain ⟨r9, q8, h⟩ := bnd h
      try dsimp only at h
      refine pw_call (va_runS (As := [.int a2, .int ((1 : Int32)), .int (g 1 0 ((((80 : Int32)) + a1).toNatClampNeg))]) (rest := []) ⟨hx, hb, hml, hown, hts⟩ (c_X6_in l q8) (va_cwS 3 hts gX6_replay_X6_in rfl rfl rfl qs_X6_in ⟨Nat.le_of_ble_eq_true rfl, Nat.le_of_ble_eq_true rfl⟩) preEq rfl rfl hl.1 rfl (lv_room (Nat.le_of_ble_eq_true rfl)) dX6_replay_27 ⟨Nat.le_refl _, Nat.le_refl _⟩) ?_
      refine lv_if_ne (tgt := 36) hx hb dX6_replay_30 (by decide) (fun c10 => ?_) (fun c10 => ?_)
      · have h := iff0 h c10
        refine lv_aload_n hx hb dX6_replay_36 rfl (lv_at hl 0 rfl) ?_
        refine fw_get (C := RX6) (T := TX6) (N := 3) (ci := 6) (v := .ref (fa (mφ μ) 1 0)) hx hb hL6 hown hE hF (e0 μ) (mm0 μ _ _) rfl 0 (by decide) kw1 rfl dX6_replay_37 ?_
        refine lv_sipush (v := (6815 : Int32)) hx hb dX6_replay_40 (by decide) ?_
        refine fw_iald (q := 6815) hx hb hE hF (e1 μ) (mm1 μ _) 0 rfl (by decide) (by decide) dX6_replay_43 ?_
        refine lv_bipush (v := (64 : Int32)) hx hb dX6_replay_44 (by decide) ?_
        refine lv_icmp_ne (tgt := 52) hx hb dX6_replay_46 (by decide) (fun c12 => ?_) (fun c12 => ?_)
        · have h := iff0 h c12
          refine lv_aload_n hx hb dX6_replay_52 rfl (lv_at hl 0 rfl) ?_
          refine lv_bipush (v := (10 : Int32)) hx hb dX6_replay_53 (by decide) ?_
          refine lv_iload_n hx hb dX6_replay_55 rfl (lv_at hl 1 rfl) ?_
          refine lv_iadd hx hb dX6_replay_56 ?_
          refine lv_aload_n hx hb dX6_replay_57 rfl (lv_at hl 0 rfl) ?_
          refine fw_get (C := RX6) (T := TX6) (N := 3) (ci := 6) (v := .ref (fa (mφ μ) 1 0)) hx hb hL6 hown hE hF (e0 μ) (mm0 μ _ _) rfl 0 (by decide) kw1 rfl dX6_replay_58 ?_
          refine lv_sipush (v := (6810 : Int32)) hx hb dX6_replay_61 (by decide) ?_
          refine fw_iald (q := 6810) hx hb hE hF (e1 μ) (mm1 μ _) 0 rfl (by decide) (by decide) dX6_replay_64 ?_
          refine lv_iconst (v := (1 : Int32)) hx hb dX6_replay_65 (by decide) ?_
          refine lv_iadd hx hb dX6_replay_66 ?_
          refine lv_iload_n hx hb dX6_replay_67 rfl (lv_at hl 2 rfl) ?_
          refine lv_iload_n hx hb dX6_replay_68 rfl (lv_at hl 3 rfl) ?_
          refine lv_bipush (v := (7 : Int32)) hx hb dX6_replay_69 (by decide) ?_
          obtain ⟨⟨r15, g16⟩, q14, h⟩ := bnd h
          try dsimp only at h
          refine fw_callv (va_runV (As := [.int (((10 : Int32)) + a0), .int ((g 1 0 6810) + ((1 : Int32))), .int a1, .int a2, .int ((7 : Int32))]) (rest := []) ⟨hx, hb, hml, hown, hts⟩ (c_X6_addToAir l hok q14) (cwV 5 hts gX6_replay_X6_addToAir rfl rfl rfl qv_X6_addToAir ⟨Nat.le_of_ble_eq_true rfl, Nat.le_of_ble_eq_true rfl⟩) (fw_preV hok hE hF (e0 μ) (mm0 μ _ _) rfl) rfl rfl hl.1 rfl (lv_room (Nat.le_of_ble_eq_true rfl)) dX6_replay_71 ⟨Nat.le_refl _, Nat.le_refl _⟩) hS (fun H locs hF hS => ?_)
          refine lv_aload_n hx hb dX6_replay_74 rfl (lv_at hl 0 rfl) ?_
          refine fw_get (C := RX6) (T := TX6) (N := 3) (ci := 6) (v := .ref (fa (mφ μ) 1 0)) hx hb hL6 hown hE hF (e0 μ) (mm0 μ _ _) rfl 0 (by decide) kw1 rfl dX6_replay_75 ?_
          refine lv_sipush (v := (6815 : Int32)) hx hb dX6_replay_78 (by decide) ?_
          refine fw_iald (q := 6815) hx hb hE hF (e1 μ) (mm1 μ _) 0 rfl (by decide) (by decide) dX6_replay_81 ?_
          exact fw_iret hx hb hr hlk h hF hS dX6_replay_82
        · have h := ift h c12
          refine lv_bipush (v := (-4 : Int32)) hx hb dX6_replay_49 (by decide) ?_
          exact fw_iret hx hb hr hlk h hF hS dX6_replay_51
      · have h := ift h c10
        refine lv_bipush (v := (-2 : Int32)) hx hb dX6_replay_33 (by decide) ?_
        exact fw_iret hx hb hr hlk h hF hS dX6_replay_35
    · have h := ift h c6
      refine lv_iconst (v := (-1 : Int32)) hx hb dX6_replay_14 (by decide) ?_
      exact fw_iret hx hb hr hlk h hF hS dX6_replay_15
def st_X6_sleep_75 (F : Nat) (K : Mem → Int32 → Int32 → Int32 → Int32 → Option (Int32 × Mem)) (g : Mem) (x1 x3 x4 x5 : Int32) : Option (Int32 × Mem) := if (((150 : Int32)) + x1 < 0 ∨ 6819 ≤ (((150 : Int32)) + x1).toNatClampNeg) then none else (if (g 1 0 ((((150 : Int32)) + x1).toNatClampNeg)) ≤ x5 then (if x3 = 0 then if (((150 : Int32)) + x1 < 0 ∨ 6819 ≤ (((150 : Int32)) + x1).toNatClampNeg) then none else if (((150 : Int32)) + x1 < 0 ∨ 6819 ≤ (((150 : Int32)) + x1).toNatClampNeg) then none else ltm (upr g 1 0 (upd (g 1 0) (((150 : Int32)) + x1).toNatClampNeg (g 1 0 ((((150 : Int32)) + x1).toNatClampNeg)))) (fun g17 => some (x4, g17)) else if (((150 : Int32)) + x1 < 0 ∨ 6819 ≤ (((150 : Int32)) + x1).toNatClampNeg) then none else ltm (upr g 1 0 (upd (g 1 0) (((150 : Int32)) + x1).toNatClampNeg ((0 : Int32)))) (fun g20 => some (x4, g20))) else (if x3 = 0 then (if x3 = 0 then if (((150 : Int32)) + x1 < 0 ∨ 6819 ≤ (((150 : Int32)) + x1).toNatClampNeg) then none else if (((150 : Int32)) + x1 < 0 ∨ 6819 ≤ (((150 : Int32)) + x1).toNatClampNeg) then none else ltm (upr g 1 0 (upd (g 1 0) (((150 : Int32)) + x1).toNatClampNeg (g 1 0 ((((150 : Int32)) + x1).toNatClampNeg)))) (fun g26 => some (x4, g26)) else if (((150 : Int32)) + x1 < 0 ∨ 6819 ≤ (((150 : Int32)) + x1).toNatClampNeg) then none else ltm (upr g 1 0 (upd (g 1 0) (((150 : Int32)) + x1).toNatClampNeg ((0 : Int32)))) (fun g29 => some (x4, g29))) else if ((((430 : Int32)) + (((6 : Int32)) * x1)) + (((2 : Int32)) * x5) < 0 ∨ 6819 ≤ ((((430 : Int32)) + (((6 : Int32)) * x1)) + (((2 : Int32)) * x5)).toNatClampNeg) then none else if (((((430 : Int32)) + (((6 : Int32)) * x1)) + (((2 : Int32)) * x5)) + ((1 : Int32)) < 0 ∨ 6819 ≤ (((((430 : Int32)) + (((6 : Int32)) * x1)) + (((2 : Int32)) * x5)) + ((1 : Int32))).toNatClampNeg) then none else (m_X6_knows g x1 (g 1 0 (((((430 : Int32)) + (((6 : Int32)) * x1)) + (((2 : Int32)) * x5)).toNatClampNeg)) (g 1 0 ((((((430 : Int32)) + (((6 : Int32)) * x1)) + (((2 : Int32)) * x5)) + ((1 : Int32))).toNatClampNeg))).bind (fun (r34, g35) => (if r34 = 0 then if (((110 : Int32)) + x1 < 0 ∨ 6819 ≤ (((110 : Int32)) + x1).toNatClampNeg) then none else if (((110 : Int32)) + x1 < 0 ∨ 6819 ≤ (((110 : Int32)) + x1).toNatClampNeg) then none else ltm (upr g35 1 0 (upd (g35 1 0) (((110 : Int32)) + x1).toNatClampNeg ((g35 1 0 ((((110 : Int32)) + x1).toNatClampNeg)) + ((1 : Int32))))) (fun g40 => K g40 x1 x3 x4 (x5 + (1 : Int32))) else (m_X6_takes g35 x1 (g 1 0 (((((430 : Int32)) + (((6 : Int32)) * x1)) + (((2 : Int32)) * x5)).toNatClampNeg)) (g 1 0 ((((((430 : Int32)) + (((6 : Int32)) * x1)) + (((2 : Int32)) * x5)) + ((1 : Int32))).toNatClampNeg))).bind (fun (r43, g44) => (if r43 = 0 then K g44 x1 x3 (x4 + ((0 : Int32))) (x5 + (1 : Int32)) else K g44 x1 x3 (x4 + ((1 : Int32))) (x5 + (1 : Int32))))))))
def lp_X6_sleep_75 (F : Nat) : Nat → Mem → Int32 → Int32 → Int32 → Int32 → Option (Int32 × Mem)
  | 0, _, _, _, _, _ => none
  | f + 1, g, x1, x3, x4, x5 => st_X6_sleep_75 F (lp_X6_sleep_75 F f ) g x1 x3 x4 x5
def m_X6_sleep (F : Nat) (g : Mem) (a0 a1 : Int32) : Option (Int32 × Mem) := (m_X6_isLamp a0).bind (fun r2 => (if r2 = 0 then some ((-1 : Int32), g) else (m_X6_in a1 ((0 : Int32)) ((1 : Int32))).bind (fun r5 => (if r5 = 0 then some ((-2 : Int32), g) else (if a1 = ((1 : Int32)) then if (((70 : Int32)) + a0 < 0 ∨ 6819 ≤ (((70 : Int32)) + a0).toNatClampNeg) then none else (if 0 ≤ (g 1 0 ((((70 : Int32)) + a0).toNatClampNeg)) then (if a1 = 0 then (m_X6_sleeps g a0).bind (fun (r65, g66) => (if r65 = 0 then if (((60 : Int32)) + a0 < 0 ∨ 6819 ≤ (((60 : Int32)) + a0).toNatClampNeg) then none else ltm (upr g66 1 0 (upd (g66 1 0) (((60 : Int32)) + a0).toNatClampNeg a1)) (fun g70 => lp_X6_sleep_75 F F g70 a0 ((0 : Int32)) ((0 : Int32)) ((0 : Int32))) else if (((60 : Int32)) + a0 < 0 ∨ 6819 ≤ (((60 : Int32)) + a0).toNatClampNeg) then none else ltm (upr g66 1 0 (upd (g66 1 0) (((60 : Int32)) + a0).toNatClampNeg a1)) (fun g73 => lp_X6_sleep_75 F F g73 a0 ((1 : Int32)) ((0 : Int32)) ((0 : Int32))))) else if (((60 : Int32)) + a0 < 0 ∨ 6819 ≤ (((60 : Int32)) + a0).toNatClampNeg) then none else ltm (upr g 1 0 (upd (g 1 0) (((60 : Int32)) + a0).toNatClampNeg a1)) (fun g62 => lp_X6_sleep_75 F F g62 a0 ((0 : Int32)) ((0 : Int32)) ((0 : Int32)))) else some ((-5 : Int32), g)) else (if a1 = 0 then (m_X6_sleeps g a0).bind (fun (r48, g49) => (if r48 = 0 then if (((60 : Int32)) + a0 < 0 ∨ 6819 ≤ (((60 : Int32)) + a0).toNatClampNeg) then none else ltm (upr g49 1 0 (upd (g49 1 0) (((60 : Int32)) + a0).toNatClampNeg a1)) (fun g53 => lp_X6_sleep_75 F F g53 a0 ((0 : Int32)) ((0 : Int32)) ((0 : Int32))) else if (((60 : Int32)) + a0 < 0 ∨ 6819 ≤ (((60 : Int32)) + a0).toNatClampNeg) then none else ltm (upr g49 1 0 (upd (g49 1 0) (((60 : Int32)) + a0).toNatClampNeg a1)) (fun g56 => lp_X6_sleep_75 F F g56 a0 ((1 : Int32)) ((0 : Int32)) ((0 : Int32))))) else if (((60 : Int32)) + a0 < 0 ∨ 6819 ≤ (((60 : Int32)) + a0).toNatClampNeg) then none else ltm (upr g 1 0 (upd (g 1 0) (((60 : Int32)) + a0).toNatClampNeg a1)) (fun g10 => lp_X6_sleep_75 F F g10 a0 ((0 : Int32)) ((0 : Int32)) ((0 : Int32)))))))))
set_option maxHeartbeats 4000000 in
set_option maxRecDepth 100000 in
theorem c_X6_sleep (l : Launch) {μ : Mx} (hok : fok (mφ μ))  {F : Nat} {g : Mem} {a0 a1 : Int32} {u : Int32 × Mem} (h : m_X6_sleep F g a0 a1 = some u) : fM l (mφ μ) yX6_sleep wsX6_sleep 2 47 [.ref (fa (mφ μ) 0 0), .int a0, .int a1] g (some (.int u.1)) u.2 := by
  refine fM.of (cc := cX6_sleep) (maxL := 8) (ret := (some .int)) [(0, .ref (fa (mφ μ) 0 0)), (1, .int a0), (2, .int a1)] (by decide) rfl (Nat.le_of_ble_eq_true rfl) rfl (fun p e s m below meth c ls hx hb hr hml hown hts hlk hE hF hS hl => ?_)
  replace hown : s.vm.findClass RX6 = some m.cls := hown
  have hL6 : ∀ w ∈ u_ws RX6 TX6 3, w.before ([.ref (fa (mφ μ) 0 0), .int a0, .int a1] : List Value).toArray s = true := fun w hw => hts w (by
    unfold wsX6_sleep
    simp only [List.mem_cons, List.mem_append]
    exact Or.inr (Or.inr hw))
  have kw1 := hts (.fieldLink RX6 7 "MeshLampsModel" "state" "[I") (List.mem_of_getElem? (i := 1) rfl)
  unfold m_X6_sleep at h
  have LOOP75 : ∀ (f : Nat) (g : Mem) (x1 x3 x4 x5 : Int32) (H : Heap) (locs : List Loc) (ls : Array Slot), lp_X6_sleep_75 F f g x1 x3 x4 x5 = some u → fw (mφ μ) g H → va_S (fA (mφ μ)) s.heap H locs → lv_has ls 8 [(0, .ref (fa (mφ μ) 0 0)), (1, .int x1), (3, .int x3), (4, .int x4), (5, .int x5)] → W p l e ({ frames := 2, cells := 0, slots := 0, locals := 47 }) s m ([.ref (fa (mφ μ) 0 0), .int a0, .int a1] : List Value).toArray below meth c H locs 0 0 (MQ below (fQ (mφ μ) (some (.int u.1)) u.2) ([.ref (fa (mφ μ) 0 0), .int a0, .int a1] : List Value).toArray s 0 0 (fA (mφ μ))) (F0 m 75 ls []) := by
    intro f
    induction f with
    | zero => intro g x1 x3 x4 x5 H locs ls h hF hS hl; cases h
    | succ f ih =>
      intro g x1 x3 x4 x5 H locs ls h hF hS hl
      replace h : st_X6_sleep_75 F (lp_X6_sleep_75 F f ) g x1 x3 x4 x5 = some u := h
      unfold st_X6_sleep_75 at h
      refine lv_iload hx hb dX6_sleep_75 (lv_at hl 4 rfl) ?_
      refine lv_aload_n hx hb dX6_sleep_77 rfl (lv_at hl 0 rfl) ?_
      refine fw_get (C := RX6) (T := TX6) (N := 3) (ci := 6) (v := .ref (fa (mφ μ) 1 0)) hx hb hL6 hown hE hF (e0 μ) (mm0 μ _ _) rfl 0 (by decide) kw1 rfl dX6_sleep_78 ?_
      refine lv_sipush (v := (150 : Int32)) hx hb dX6_sleep_81 (by decide) ?_
      refine lv_iload_n hx hb dX6_sleep_84 rfl (lv_at hl 1 rfl) ?_
      refine lv_iadd hx hb dX6_sleep_85 ?_
      obtain ⟨k12, h⟩ := ck h
      refine fw_iald (q := (((150 : Int32)) + x1).toNatClampNeg) hx hb hE hF (e1 μ) (mm1 μ _) 0 rfl k12 rfl dX6_sleep_86 ?_
      refine lv_icmp_ge (tgt := 192) hx hb dX6_sleep_87 (by decide) (fun c13 => ?_) (fun c13 => ?_)
      · have h := ift h c13
        refine lv_aload_n hx hb dX6_sleep_192 rfl (lv_at hl 0 rfl) ?_
        refine fw_get (C := RX6) (T := TX6) (N := 3) (ci := 6) (v := .ref (fa (mφ μ) 1 0)) hx hb hL6 hown hE hF (e0 μ) (mm0 μ _ _) rfl 0 (by decide) kw1 rfl dX6_sleep_193 ?_
        refine lv_sipush (v := (150 : Int32)) hx hb dX6_sleep_196 (by decide) ?_
        refine lv_iload_n hx hb dX6_sleep_199 rfl (lv_at hl 1 rfl) ?_
        refine lv_iadd hx hb dX6_sleep_200 ?_
        refine lv_iload_n hx hb dX6_sleep_201 rfl (lv_at hl 2 rfl) ?_
        refine lv_if_eq (tgt := 209) hx hb dX6_sleep_202 (by decide) (fun c14 => ?_) (fun c14 => ?_)
        · have h := ift h c14
          refine lv_aload_n hx hb dX6_sleep_209 rfl (lv_at hl 0 rfl) ?_
          refine fw_get (C := RX6) (T := TX6) (N := 3) (ci := 6) (v := .ref (fa (mφ μ) 1 0)) hx hb hL6 hown hE hF (e0 μ) (mm0 μ _ _) rfl 0 (by decide) kw1 rfl dX6_sleep_210 ?_
          refine lv_sipush (v := (150 : Int32)) hx hb dX6_sleep_213 (by decide) ?_
          refine lv_iload_n hx hb dX6_sleep_216 rfl (lv_at hl 1 rfl) ?_
          refine lv_iadd hx hb dX6_sleep_217 ?_
          obtain ⟨k15, h⟩ := ck h
          refine fw_iald (q := (((150 : Int32)) + x1).toNatClampNeg) hx hb hE hF (e1 μ) (mm1 μ _) 0 rfl k15 rfl dX6_sleep_218 ?_
          obtain ⟨k16, h⟩ := ck h
          refine fw_iast (q := (((150 : Int32)) + x1).toNatClampNeg) hx hb hE hok hF hS (e1 μ) (mm1 μ _) 0 rfl k16 rfl dX6_sleep_219 (fun H locs hF hS => ?_)
          obtain ⟨g17, e18, h⟩ := ltm_e h
          rw [e18] at hF
          refine lv_iload hx hb dX6_sleep_220 (lv_at hl 3 rfl) ?_
          exact fw_iret hx hb hr hlk h hF hS dX6_sleep_222
        · have h := iff0 h c14
          refine lv_iconst (v := (0 : Int32)) hx hb dX6_sleep_205 (by decide) ?_
          refine lv_goto (tgt := 219) hx hb dX6_sleep_206 (by decide) ?_
          obtain ⟨k19, h⟩ := ck h
          refine fw_iast (q := (((150 : Int32)) + x1).toNatClampNeg) hx hb hE hok hF hS (e1 μ) (mm1 μ _) 0 rfl k19 rfl dX6_sleep_219 (fun H locs hF hS => ?_)
          obtain ⟨g20, e21, h⟩ := ltm_e h
          rw [e21] at hF
          refine lv_iload hx hb dX6_sleep_220 (lv_at hl 3 rfl) ?_
          exact fw_iret hx hb hr hlk h hF hS dX6_sleep_222
      · have h := iff0 h c13
        refine lv_iload_n hx hb dX6_sleep_90 rfl (lv_at hl 2 rfl) ?_
        refine lv_if_eq (tgt := 192) hx hb dX6_sleep_91 (by decide) (fun c22 => ?_) (fun c22 => ?_)
        · have h := ift h c22
          refine lv_aload_n hx hb dX6_sleep_192 rfl (lv_at hl 0 rfl) ?_
          refine fw_get (C := RX6) (T := TX6) (N := 3) (ci := 6) (v := .ref (fa (mφ μ) 1 0)) hx hb hL6 hown hE hF (e0 μ) (mm0 μ _ _) rfl 0 (by decide) kw1 rfl dX6_sleep_193 ?_
          refine lv_sipush (v := (150 : Int32)) hx hb dX6_sleep_196 (by decide) ?_
          refine lv_iload_n hx hb dX6_sleep_199 rfl (lv_at hl 1 rfl) ?_
          refine lv_iadd hx hb dX6_sleep_200 ?_
          refine lv_iload_n hx hb dX6_sleep_201 rfl (lv_at hl 2 rfl) ?_
          refine lv_if_eq (tgt := 209) hx hb dX6_sleep_202 (by decide) (fun c23 => ?_) (fun c23 => ?_)
          · have h := ift h c23
            refine lv_aload_n hx hb dX6_sleep_209 rfl (lv_at hl 0 rfl) ?_
            refine fw_get (C := RX6) (T := TX6) (N := 3) (ci := 6) (v := .ref (fa (mφ μ) 1 0)) hx hb hL6 hown hE hF (e0 μ) (mm0 μ _ _) rfl 0 (by decide) kw1 rfl dX6_sleep_210 ?_
            refine lv_sipush (v := (150 : Int32)) hx hb dX6_sleep_213 (by decide) ?_
            refine lv_iload_n hx hb dX6_sleep_216 rfl (lv_at hl 1 rfl) ?_
            refine lv_iadd hx hb dX6_sleep_217 ?_
            obtain ⟨k24, h⟩ := ck h
            refine fw_iald (q := (((150 : Int32)) + x1).toNatClampNeg) hx hb hE hF (e1 μ) (mm1 μ _) 0 rfl k24 rfl dX6_sleep_218 ?_
            obtain ⟨k25, h⟩ := ck h
            refine fw_iast (q := (((150 : Int32)) + x1).toNatClampNeg) hx hb hE hok hF hS (e1 μ) (mm1 μ _) 0 rfl k25 rfl dX6_sleep_219 (fun H locs hF hS => ?_)
            obtain ⟨g26, e27, h⟩ := ltm_e h
            rw [e27] at hF
            refine lv_iload hx hb dX6_sleep_220 (lv_at hl 3 rfl) ?_
            exact fw_iret hx hb hr hlk h hF hS dX6_sleep_222
          · have h := iff0 h c23
            refine lv_iconst (v := (0 : Int32)) hx hb dX6_sleep_205 (by decide) ?_
            refine lv_goto (tgt := 219) hx hb dX6_sleep_206 (by decide) ?_
            obtain ⟨k28, h⟩ := ck h
            refine fw_iast (q := (((150 : Int32)) + x1).toNatClampNeg) hx hb hE hok hF hS (e1 μ) (mm1 μ _) 0 rfl k28 rfl dX6_sleep_219 (fun H locs hF hS => ?_)
            obtain ⟨g29, e30, h⟩ := ltm_e h
            rw [e30] at hF
            refine lv_iload hx hb dX6_sleep_220 (lv_at hl 3 rfl) ?_
            exact fw_iret hx hb hr hlk h hF hS dX6_sleep_222
        · have h := iff0 h c22
          refine lv_aload_n hx hb dX6_sleep_94 rfl (lv_at hl 0 rfl) ?_
          refine fw_get (C := RX6) (T := TX6) (N := 3) (ci := 6) (v := .ref (fa (mφ μ) 1 0)) hx hb hL6 hown hE hF (e0 μ) (mm0 μ _ _) rfl 0 (by decide) kw1 rfl dX6_sleep_95 ?_
          refine lv_sipush (v := (430 : Int32)) hx hb dX6_sleep_98 (by decide) ?_
          refine lv_bipush (v := (6 : Int32)) hx hb dX6_sleep_101 (by decide) ?_
          refine lv_iload_n hx hb dX6_sleep_103 rfl (lv_at hl 1 rfl) ?_
          refine lv_imul hx hb dX6_sleep_104 ?_
          refine lv_iadd hx hb dX6_sleep_105 ?_
          refine lv_iconst (v := (2 : Int32)) hx hb dX6_sleep_106 (by decide) ?_
          refine lv_iload hx hb dX6_sleep_107 (lv_at hl 4 rfl) ?_
          refine lv_imul hx hb dX6_sleep_109 ?_
          refine lv_iadd hx hb dX6_sleep_110 ?_
          obtain ⟨k31, h⟩ := ck h
          refine fw_iald (q := ((((430 : Int32)) + (((6 : Int32)) * x1)) + (((2 : Int32)) * x5)).toNatClampNeg) hx hb hE hF (e1 μ) (mm1 μ _) 0 rfl k31 rfl dX6_sleep_111 ?_
          refine lv_istore (lv' := [(6, .int (g 1 0 (((((430 : Int32)) + (((6 : Int32)) * x1)) + (((2 : Int32)) * x5)).toNatClampNeg))), (0, .ref (fa (mφ μ) 0 0)), (1, .int x1), (3, .int x3), (4, .int x4), (5, .int x5)]) hx hb dX6_sleep_112 hl (by decide) rfl (fun ls hl => ?_)
          refine lv_aload_n hx hb dX6_sleep_114 rfl (lv_at hl 1 rfl) ?_
          refine fw_get (C := RX6) (T := TX6) (N := 3) (ci := 6) (v := .ref (fa (mφ μ) 1 0)) hx hb hL6 hown hE hF (e0 μ) (mm0 μ _ _) rfl 0 (by decide) kw1 rfl dX6_sleep_115 ?_
          refine lv_sipush (v := (430 : Int32)) hx hb dX6_sleep_118 (by decide) ?_
          refine lv_bipush (v := (6 : Int32)) hx hb dX6_sleep_121 (by decide) ?_
          refine lv_iload_n hx hb dX6_sleep_123 rfl (lv_at hl 2 rfl) ?_
          refine lv_imul hx hb dX6_sleep_124 ?_
          refine lv_iadd hx hb dX6_sleep_125 ?_
          refine lv_iconst (v := (2 : Int32)) hx hb dX6_sleep_126 (by decide) ?_
          refine lv_iload hx hb dX6_sleep_127 (lv_at hl 5 rfl) ?_
          refine lv_imul hx hb dX6_sleep_129 ?_
          refine lv_iadd hx hb dX6_sleep_130 ?_
          refine lv_iconst (v := (1 : Int32)) hx hb dX6_sleep_131 (by decide) ?_
          refine lv_iadd hx hb dX6_sleep_132 ?_
          obtain ⟨k32, h⟩ := ck h
          refine fw_iald (q := (((((430 : Int32)) + (((6 : Int32)) * x1)) + (((2 : Int32)) * x5)) + ((1 : Int32))).toNatClampNeg) hx hb hE hF (e1 μ) (mm1 μ _) 0 rfl k32 rfl dX6_sleep_133 ?_
          refine lv_istore (lv' := [(7, .int (g 1 0 ((((((430 : Int32)) + (((6 : Int32)) * x1)) + (((2 : Int32)) * x5)) + ((1 : Int32))).toNatClampNeg))), (6, .int (g 1 0 (((((430 : Int32)) + (((6 : Int32)) * x1)) + (((2 : Int32)) * x5)).toNatClampNeg))), (0, .ref (fa (mφ μ) 0 0)), (1, .int x1), (3, .int x3), (4, .int x4), (5, .int x5)]) hx hb dX6_sleep_134 hl (by decide) rfl (fun ls hl => ?_)
          refine lv_aload_n hx hb dX6_sleep_136 rfl (lv_at hl 2 rfl) ?_
          refine lv_iload_n hx hb dX6_sleep_137 rfl (lv_at hl 3 rfl) ?_
          refine lv_iload hx hb dX6_sleep_138 (lv_at hl 1 rfl) ?_
          refine lv_iload hx hb dX6_sleep_140 (lv_at hl 0 rfl) ?_
          obtain ⟨⟨r34, g35⟩, q33, h⟩ := bnd h
          try dsimp only at h
          refine fw_calli (va_runV (As := [.int x1, .int (g 1 0 (((((430 : Int32)) + (((6 : Int32)) * x1)) + (((2 : Int32)) * x5)).toNatClampNeg)), .int (g 1 0 ((((((430 : Int32)) + (((6 : Int32)) * x1)) + (((2 : Int32)) * x5)) + ((1 : Int32))).toNatClampNeg))]) (rest := []) ⟨hx, hb, hml, hown, hts⟩ (c_X6_knows l hok q33) (cwV 3 hts gX6_sleep_X6_knows rfl rfl rfl qv_X6_knows ⟨Nat.le_of_ble_eq_true rfl, Nat.le_of_ble_eq_true rfl⟩) (fw_preV hok hE hF (e0 μ) (mm0 μ _ _) rfl) rfl rfl hl.1 rfl (lv_room (Nat.le_of_ble_eq_true rfl)) dX6_sleep_142 ⟨Nat.le_refl _, Nat.le_refl _⟩) hS (fun H locs hF hS => ?_)
          refine lv_if_eq (tgt := 173) hx hb dX6_sleep_145 (by decide) (fun c37 => ?_) (fun c37 => ?_)
          · have h := ift h c37
            refine lv_aload_n hx hb dX6_sleep_173 rfl (lv_at hl 2 rfl) ?_
            refine fw_get (C := RX6) (T := TX6) (N := 3) (ci := 6) (v := .ref (fa (mφ μ) 1 0)) hx hb hL6 hown hE hF (e0 μ) (mm0 μ _ _) rfl 0 (by decide) kw1 rfl dX6_sleep_174 ?_
            refine lv_bipush (v := (110 : Int32)) hx hb dX6_sleep_177 (by decide) ?_
            refine lv_iload_n hx hb dX6_sleep_179 rfl (lv_at hl 3 rfl) ?_
            refine lv_iadd hx hb dX6_sleep_180 ?_
            refine lv_dup2_11 hx hb dX6_sleep_181 rfl rfl ?_
            obtain ⟨k38, h⟩ := ck h
            refine fw_iald (q := (((110 : Int32)) + x1).toNatClampNeg) hx hb hE hF (e1 μ) (mm1 μ _) 0 rfl k38 rfl dX6_sleep_182 ?_
            refine lv_iconst (v := (1 : Int32)) hx hb dX6_sleep_183 (by decide) ?_
            refine lv_iadd hx hb dX6_sleep_184 ?_
            obtain ⟨k39, h⟩ := ck h
            refine fw_iast (q := (((110 : Int32)) + x1).toNatClampNeg) hx hb hE hok hF hS (e1 μ) (mm1 μ _) 0 rfl k39 rfl dX6_sleep_185 (fun H locs hF hS => ?_)
            obtain ⟨g40, e41, h⟩ := ltm_e h
            rw [e41] at hF
            refine lv_iinc (v := x5 + (1 : Int32)) (lv' := [(5, .int (x5 + (1 : Int32))), (7, .int (g 1 0 ((((((430 : Int32)) + (((6 : Int32)) * x1)) + (((2 : Int32)) * x5)) + ((1 : Int32))).toNatClampNeg))), (6, .int (g 1 0 (((((430 : Int32)) + (((6 : Int32)) * x1)) + (((2 : Int32)) * x5)).toNatClampNeg))), (0, .ref (fa (mφ μ) 0 0)), (1, .int x1), (3, .int x3), (4, .int x4)]) hx hb dX6_sleep_186 hl (k := 6) rfl rfl (by decide) rfl (fun ls hl => ?_)
            refine lv_goto (tgt := 75) hx hb dX6_sleep_189 (by decide) ?_
            exact ih g40 x1 x3 x4 (x5 + (1 : Int32)) H locs ls h hF hS (lv_sub hl [3, 4, 5, 6, 0] rfl)
          · have h := iff0 h c37
            refine lv_iload hx hb dX6_sleep_148 (lv_at hl 5 rfl) ?_
            refine lv_aload_n hx hb dX6_sleep_150 rfl (lv_at hl 2 rfl) ?_
            refine lv_iload_n hx hb dX6_sleep_151 rfl (lv_at hl 3 rfl) ?_
            refine lv_iload hx hb dX6_sleep_152 (lv_at hl 1 rfl) ?_
            refine lv_iload hx hb dX6_sleep_154 (lv_at hl 0 rfl) ?_
            obtain ⟨⟨r43, g44⟩, q42, h⟩ := bnd h
            try dsimp only at h
            refine fw_calli (va_runV (As := [.int x1, .int (g 1 0 (((((430 : Int32)) + (((6 : Int32)) * x1)) + (((2 : Int32)) * x5)).toNatClampNeg)), .int (g 1 0 ((((((430 : Int32)) + (((6 : Int32)) * x1)) + (((2 : Int32)) * x5)) + ((1 : Int32))).toNatClampNeg))]) (rest := [.int x4]) ⟨hx, hb, hml, hown, hts⟩ (c_X6_takes l hok q42) (cwV 3 hts gX6_sleep_X6_takes rfl rfl rfl qv_X6_takes ⟨Nat.le_of_ble_eq_true rfl, Nat.le_of_ble_eq_true rfl⟩) (fw_preV hok hE hF (e0 μ) (mm0 μ _ _) rfl) rfl rfl hl.1 rfl (lv_room (Nat.le_of_ble_eq_true rfl)) dX6_sleep_156 ⟨Nat.le_refl _, Nat.le_refl _⟩) hS (fun H locs hF hS => ?_)
            refine lv_if_eq (tgt := 166) hx hb dX6_sleep_159 (by decide) (fun c46 => ?_) (fun c46 => ?_)
            · have h := ift h c46
              refine lv_iconst (v := (0 : Int32)) hx hb dX6_sleep_166 (by decide) ?_
              refine lv_iadd hx hb dX6_sleep_167 ?_
              refine lv_istore (lv' := [(4, .int (x4 + ((0 : Int32)))), (7, .int (g 1 0 ((((((430 : Int32)) + (((6 : Int32)) * x1)) + (((2 : Int32)) * x5)) + ((1 : Int32))).toNatClampNeg))), (6, .int (g 1 0 (((((430 : Int32)) + (((6 : Int32)) * x1)) + (((2 : Int32)) * x5)).toNatClampNeg))), (0, .ref (fa (mφ μ) 0 0)), (1, .int x1), (3, .int x3), (5, .int x5)]) hx hb dX6_sleep_168 hl (by decide) rfl (fun ls hl => ?_)
              refine lv_goto (tgt := 186) hx hb dX6_sleep_170 (by decide) ?_
              refine lv_iinc (v := x5 + (1 : Int32)) (lv' := [(5, .int (x5 + (1 : Int32))), (4, .int (x4 + ((0 : Int32)))), (7, .int (g 1 0 ((((((430 : Int32)) + (((6 : Int32)) * x1)) + (((2 : Int32)) * x5)) + ((1 : Int32))).toNatClampNeg))), (6, .int (g 1 0 (((((430 : Int32)) + (((6 : Int32)) * x1)) + (((2 : Int32)) * x5)).toNatClampNeg))), (0, .ref (fa (mφ μ) 0 0)), (1, .int x1), (3, .int x3)]) hx hb dX6_sleep_186 hl (k := 6) rfl rfl (by decide) rfl (fun ls hl => ?_)
              refine lv_goto (tgt := 75) hx hb dX6_sleep_189 (by decide) ?_
              exact ih g44 x1 x3 (x4 + ((0 : Int32))) (x5 + (1 : Int32)) H locs ls h hF hS (lv_sub hl [4, 5, 6, 1, 0] rfl)
            · have h := iff0 h c46
              refine lv_iconst (v := (1 : Int32)) hx hb dX6_sleep_162 (by decide) ?_
              refine lv_goto (tgt := 167) hx hb dX6_sleep_163 (by decide) ?_
              refine lv_iadd hx hb dX6_sleep_167 ?_
              refine lv_istore (lv' := [(4, .int (x4 + ((1 : Int32)))), (7, .int (g 1 0 ((((((430 : Int32)) + (((6 : Int32)) * x1)) + (((2 : Int32)) * x5)) + ((1 : Int32))).toNatClampNeg))), (6, .int (g 1 0 (((((430 : Int32)) + (((6 : Int32)) * x1)) + (((2 : Int32)) * x5)).toNatClampNeg))), (0, .ref (fa (mφ μ) 0 0)), (1, .int x1), (3, .int x3), (5, .int x5)]) hx hb dX6_sleep_168 hl (by decide) rfl (fun ls hl => ?_)
              refine lv_goto (tgt := 186) hx hb dX6_sleep_170 (by decide) ?_
              refine lv_iinc (v := x5 + (1 : Int32)) (lv' := [(5, .int (x5 + (1 : Int32))), (4, .int (x4 + ((1 : Int32)))), (7, .int (g 1 0 ((((((430 : Int32)) + (((6 : Int32)) * x1)) + (((2 : Int32)) * x5)) + ((1 : Int32))).toNatClampNeg))), (6, .int (g 1 0 (((((430 : Int32)) + (((6 : Int32)) * x1)) + (((2 : Int32)) * x5)).toNatClampNeg))), (0, .ref (fa (mφ μ) 0 0)), (1, .int x1), (3, .int x3)]) hx hb dX6_sleep_186 hl (k := 6) rfl rfl (by decide) rfl (fun ls hl => ?_)
              refine lv_goto (tgt := 75) hx hb dX6_sleep_189 (by decide) ?_
              exact ih g44 x1 x3 (x4 + ((1 : Int32))) (x5 + (1 : Int32)) H locs ls h hF hS (lv_sub hl [4, 5, 6, 1, 0] rfl)
  refine lv_iload_n hx hb dX6_sleep_0 rfl (lv_at hl 1 rfl) ?_
  obtain ⟨r2, q1, h⟩ := bnd h
  try dsimp only at h
  refine pw_call (va_runS (As := [.int a0]) (rest := []) ⟨hx, hb, hml, hown, hts⟩ (c_X6_isLamp l q1) (va_cwS 1 hts gX6_sleep_X6_isLamp rfl rfl rfl qs_X6_isLamp ⟨Nat.le_of_ble_eq_true rfl, Nat.le_of_ble_eq_true rfl⟩) preEq rfl rfl hl.1 rfl (lv_room (Nat.le_of_ble_eq_true rfl)) dX6_sleep_1 ⟨Nat.le_refl _, Nat.le_refl _⟩) ?_
  refine lv_if_ne (tgt := 9) hx hb dX6_sleep_4 (by decide) (fun c3 => ?_) (fun c3 => ?_)
  · have h := iff0 h c3
    refine lv_iload_n hx hb dX6_sleep_9 rfl (lv_at hl 2 rfl) ?_
    refine lv_iconst (v := (0 : Int32)) hx hb dX6_sleep_10 (by decide) ?_
    refine lv_iconst (v := (1 : Int32)) hx hb dX6_sleep_11 (by decide) ?_
    obtain ⟨r5, q4, h⟩ := bnd h
    try dsimp only at h
    refine pw_call (va_runS (As := [.int a1, .int ((0 : Int32)), .int ((1 : Int32))]) (rest := []) ⟨hx, hb, hml, hown, hts⟩ (c_X6_in l q4) (va_cwS 3 hts gX6_sleep_X6_in rfl rfl rfl qs_X6_in ⟨Nat.le_of_ble_eq_true rfl, Nat.le_of_ble_eq_true rfl⟩) preEq rfl rfl hl.1 rfl (lv_room (Nat.le_of_ble_eq_true rfl)) dX6_sleep_12 ⟨Nat.le_refl _, Nat.le_refl _⟩) ?_
    refine lv_if_ne (tgt := 21) hx hb dX6_sleep_15 (by decide) (fun c6 => ?_) (fun c6 => ?_)
    · have h := iff0 h c6
      refine lv_iload_n hx hb dX6_sleep_21 rfl (lv_at hl 2 rfl) ?_
      refine lv_iconst (v := (1 : Int32)) hx hb dX6_sleep_22 (by decide) ?_
      refine lv_icmp_ne (tgt := 41) hx hb dX6_sleep_23 (by decide) (fun c7 => ?_) (fun c7 => ?_)
      · have h := iff0 h c7
        refine lv_iload_n hx hb dX6_sleep_41 rfl (lv_at hl 2 rfl) ?_
        refine lv_if_ne (tgt := 57) hx hb dX6_sleep_42 (by decide) (fun c8 => ?_) (fun c8 => ?_)
        · have h := iff0 h c8
          refine lv_iconst (v := (0 : Int32)) hx hb dX6_sleep_57 (by decide) ?_
          refine lv_istore_n (lv' := [(3, .int ((0 : Int32))), (0, .ref (fa (mφ μ) 0 0)), (1, .int a0), (2, .int a1)]) hx hb dX6_sleep_58 rfl hl (by decide) rfl (fun ls hl => ?_)
          refine lv_aload_n hx hb dX6_sleep_59 rfl (lv_at hl 1 rfl) ?_
          refine fw_get (C := RX6) (T := TX6) (N := 3) (ci := 6) (v := .ref (fa (mφ μ) 1 0)) hx hb hL6 hown hE hF (e0 μ) (mm0 μ _ _) rfl 0 (by decide) kw1 rfl dX6_sleep_60 ?_
          refine lv_bipush (v := (60 : Int32)) hx hb dX6_sleep_63 (by decide) ?_
          refine lv_iload_n hx hb dX6_sleep_65 rfl (lv_at hl 2 rfl) ?_
          refine lv_iadd hx hb dX6_sleep_66 ?_
          refine lv_iload_n hx hb dX6_sleep_67 rfl (lv_at hl 3 rfl) ?_
          obtain ⟨k9, h⟩ := ck h
          refine fw_iast (q := (((60 : Int32)) + a0).toNatClampNeg) hx hb hE hok hF hS (e1 μ) (mm1 μ _) 0 rfl k9 rfl dX6_sleep_68 (fun H locs hF hS => ?_)
          obtain ⟨g10, e11, h⟩ := ltm_e h
          rw [e11] at hF
          refine lv_iconst (v := (0 : Int32)) hx hb dX6_sleep_69 (by decide) ?_
          refine lv_istore (lv' := [(4, .int ((0 : Int32))), (3, .int ((0 : Int32))), (0, .ref (fa (mφ μ) 0 0)), (1, .int a0), (2, .int a1)]) hx hb dX6_sleep_70 hl (by decide) rfl (fun ls hl => ?_)
          refine lv_iconst (v := (0 : Int32)) hx hb dX6_sleep_72 (by decide) ?_
          refine lv_istore (lv' := [(5, .int ((0 : Int32))), (4, .int ((0 : Int32))), (3, .int ((0 : Int32))), (0, .ref (fa (mφ μ) 0 0)), (1, .int a0), (2, .int a1)]) hx hb dX6_sleep_73 hl (by decide) rfl (fun ls hl => ?_)
          exact LOOP75 F g10 a0 ((0 : Int32)) ((0 : Int32)) ((0 : Int32)) _ _ ls h hF hS (lv_sub hl [3, 4, 2, 1, 0] rfl)
        · have h := ift h c8
          refine lv_aload_n hx hb dX6_sleep_45 rfl (lv_at hl 0 rfl) ?_
          refine lv_iload_n hx hb dX6_sleep_46 rfl (lv_at hl 1 rfl) ?_
          obtain ⟨⟨r48, g49⟩, q47, h⟩ := bnd h
          try dsimp only at h
          refine fw_calli (va_runV (As := [.int a0]) (rest := []) ⟨hx, hb, hml, hown, hts⟩ (c_X6_sleeps l hok q47) (cwV 1 hts gX6_sleep_X6_sleeps rfl rfl rfl qv_X6_sleeps ⟨Nat.le_of_ble_eq_true rfl, Nat.le_of_ble_eq_true rfl⟩) (fw_preV hok hE hF (e0 μ) (mm0 μ _ _) rfl) rfl rfl hl.1 rfl (lv_room (Nat.le_of_ble_eq_true rfl)) dX6_sleep_47 ⟨Nat.le_refl _, Nat.le_refl _⟩) hS (fun H locs hF hS => ?_)
          refine lv_if_eq (tgt := 57) hx hb dX6_sleep_50 (by decide) (fun c51 => ?_) (fun c51 => ?_)
          · have h := ift h c51
            refine lv_iconst (v := (0 : Int32)) hx hb dX6_sleep_57 (by decide) ?_
            refine lv_istore_n (lv' := [(3, .int ((0 : Int32))), (0, .ref (fa (mφ μ) 0 0)), (1, .int a0), (2, .int a1)]) hx hb dX6_sleep_58 rfl hl (by decide) rfl (fun ls hl => ?_)
            refine lv_aload_n hx hb dX6_sleep_59 rfl (lv_at hl 1 rfl) ?_
            refine fw_get (C := RX6) (T := TX6) (N := 3) (ci := 6) (v := .ref (fa (mφ μ) 1 0)) hx hb hL6 hown hE hF (e0 μ) (mm0 μ _ _) rfl 0 (by decide) kw1 rfl dX6_sleep_60 ?_
            refine lv_bipush (v := (60 : Int32)) hx hb dX6_sleep_63 (by decide) ?_
            refine lv_iload_n hx hb dX6_sleep_65 rfl (lv_at hl 2 rfl) ?_
            refine lv_iadd hx hb dX6_sleep_66 ?_
            refine lv_iload_n hx hb dX6_sleep_67 rfl (lv_at hl 3 rfl) ?_
            obtain ⟨k52, h⟩ := ck h
            refine fw_iast (q := (((60 : Int32)) + a0).toNatClampNeg) hx hb hE hok hF hS (e1 μ) (mm1 μ _) 0 rfl k52 rfl dX6_sleep_68 (fun H locs hF hS => ?_)
            obtain ⟨g53, e54, h⟩ := ltm_e h
            rw [e54] at hF
            refine lv_iconst (v := (0 : Int32)) hx hb dX6_sleep_69 (by decide) ?_
            refine lv_istore (lv' := [(4, .int ((0 : Int32))), (3, .int ((0 : Int32))), (0, .ref (fa (mφ μ) 0 0)), (1, .int a0), (2, .int a1)]) hx hb dX6_sleep_70 hl (by decide) rfl (fun ls hl => ?_)
            refine lv_iconst (v := (0 : Int32)) hx hb dX6_sleep_72 (by decide) ?_
            refine lv_istore (lv' := [(5, .int ((0 : Int32))), (4, .int ((0 : Int32))), (3, .int ((0 : Int32))), (0, .ref (fa (mφ μ) 0 0)), (1, .int a0), (2, .int a1)]) hx hb dX6_sleep_73 hl (by decide) rfl (fun ls hl => ?_)
            exact LOOP75 F g53 a0 ((0 : Int32)) ((0 : Int32)) ((0 : Int32)) _ _ ls h hF hS (lv_sub hl [3, 4, 2, 1, 0] rfl)
          · have h := iff0 h c51
            refine lv_iconst (v := (1 : Int32)) hx hb dX6_sleep_53 (by decide) ?_
            refine lv_goto (tgt := 58) hx hb dX6_sleep_54 (by decide) ?_
            refine lv_istore_n (lv' := [(3, .int ((1 : Int32))), (0, .ref (fa (mφ μ) 0 0)), (1, .int a0), (2, .int a1)]) hx hb dX6_sleep_58 rfl hl (by decide) rfl (fun ls hl => ?_)
            refine lv_aload_n hx hb dX6_sleep_59 rfl (lv_at hl 1 rfl) ?_
            refine fw_get (C := RX6) (T := TX6) (N := 3) (ci := 6) (v := .ref (fa (mφ μ) 1 0)) hx hb hL6 hown hE hF (e0 μ) (mm0 μ _ _) rfl 0 (by decide) kw1 rfl dX6_sleep_60 ?_
            refine lv_bipush (v := (60 : Int32)) hx hb dX6_sleep_63 (by decide) ?_
            refine lv_iload_n hx hb dX6_sleep_65 rfl (lv_at hl 2 rfl) ?_
            refine lv_iadd hx hb dX6_sleep_66 ?_
            refine lv_iload_n hx hb dX6_sleep_67 rfl (lv_at hl 3 rfl) ?_
            obtain ⟨k55, h⟩ := ck h
            refine fw_iast (q := (((60 : Int32)) + a0).toNatClampNeg) hx hb hE hok hF hS (e1 μ) (mm1 μ _) 0 rfl k55 rfl dX6_sleep_68 (fun H locs hF hS => ?_)
            obtain ⟨g56, e57, h⟩ := ltm_e h
            rw [e57] at hF
            refine lv_iconst (v := (0 : Int32)) hx hb dX6_sleep_69 (by decide) ?_
            refine lv_istore (lv' := [(4, .int ((0 : Int32))), (3, .int ((1 : Int32))), (0, .ref (fa (mφ μ) 0 0)), (1, .int a0), (2, .int a1)]) hx hb dX6_sleep_70 hl (by decide) rfl (fun ls hl => ?_)
            refine lv_iconst (v := (0 : Int32)) hx hb dX6_sleep_72 (by decide) ?_
            refine lv_istore (lv' := [(5, .int ((0 : Int32))), (4, .int ((0 : Int32))), (3, .int ((1 : Int32))), (0, .ref (fa (mφ μ) 0 0)), (1, .int a0), (2, .int a1)]) hx hb dX6_sleep_73 hl (by decide) rfl (fun ls hl => ?_)
            exact LOOP75 F g56 a0 ((1 : Int32)) ((0 : Int32)) ((0 : Int32)) _ _ ls h hF hS (lv_sub hl [3, 4, 2, 1, 0] rfl)
      · have h := ift h c7
        refine lv_aload_n hx hb dX6_sleep_26 rfl (lv_at hl 0 rfl) ?_
        refine fw_get (C := RX6) (T := TX6) (N := 3) (ci := 6) (v := .ref (fa (mφ μ) 1 0)) hx hb hL6 hown hE hF (e0 μ) (mm0 μ _ _) rfl 0 (by decide) kw1 rfl dX6_sleep_27 ?_
        refine lv_bipush (v := (70 : Int32)) hx hb dX6_sleep_30 (by decide) ?_
        refine lv_iload_n hx hb dX6_sleep_32 rfl (lv_at hl 1 rfl) ?_
        refine lv_iadd hx hb dX6_sleep_33 ?_
        obtain ⟨k58, h⟩ := ck h
        refine fw_iald (q := (((70 : Int32)) + a0).toNatClampNeg) hx hb hE hF (e1 μ) (mm1 μ _) 0 rfl k58 rfl dX6_sleep_34 ?_
        refine lv_if_ge (tgt := 41) hx hb dX6_sleep_35 (by decide) (fun c59 => ?_) (fun c59 => ?_)
        · have h := ift h c59
          refine lv_iload_n hx hb dX6_sleep_41 rfl (lv_at hl 2 rfl) ?_
          refine lv_if_ne (tgt := 57) hx hb dX6_sleep_42 (by decide) (fun c60 => ?_) (fun c60 => ?_)
          · have h := iff0 h c60
            refine lv_iconst (v := (0 : Int32)) hx hb dX6_sleep_57 (by decide) ?_
            refine lv_istore_n (lv' := [(3, .int ((0 : Int32))), (0, .ref (fa (mφ μ) 0 0)), (1, .int a0), (2, .int a1)]) hx hb dX6_sleep_58 rfl hl (by decide) rfl (fun ls hl => ?_)
            refine lv_aload_n hx hb dX6_sleep_59 rfl (lv_at hl 1 rfl) ?_
            refine fw_get (C := RX6) (T := TX6) (N := 3) (ci := 6) (v := .ref (fa (mφ μ) 1 0)) hx hb hL6 hown hE hF (e0 μ) (mm0 μ _ _) rfl 0 (by decide) kw1 rfl dX6_sleep_60 ?_
            refine lv_bipush (v := (60 : Int32)) hx hb dX6_sleep_63 (by decide) ?_
            refine lv_iload_n hx hb dX6_sleep_65 rfl (lv_at hl 2 rfl) ?_
            refine lv_iadd hx hb dX6_sleep_66 ?_
            refine lv_iload_n hx hb dX6_sleep_67 rfl (lv_at hl 3 rfl) ?_
            obtain ⟨k61, h⟩ := ck h
            refine fw_iast (q := (((60 : Int32)) + a0).toNatClampNeg) hx hb hE hok hF hS (e1 μ) (mm1 μ _) 0 rfl k61 rfl dX6_sleep_68 (fun H locs hF hS => ?_)
            obtain ⟨g62, e63, h⟩ := ltm_e h
            rw [e63] at hF
            refine lv_iconst (v := (0 : Int32)) hx hb dX6_sleep_69 (by decide) ?_
            refine lv_istore (lv' := [(4, .int ((0 : Int32))), (3, .int ((0 : Int32))), (0, .ref (fa (mφ μ) 0 0)), (1, .int a0), (2, .int a1)]) hx hb dX6_sleep_70 hl (by decide) rfl (fun ls hl => ?_)
            refine lv_iconst (v := (0 : Int32)) hx hb dX6_sleep_72 (by decide) ?_
            refine lv_istore (lv' := [(5, .int ((0 : Int32))), (4, .int ((0 : Int32))), (3, .int ((0 : Int32))), (0, .ref (fa (mφ μ) 0 0)), (1, .int a0), (2, .int a1)]) hx hb dX6_sleep_73 hl (by decide) rfl (fun ls hl => ?_)
            exact LOOP75 F g62 a0 ((0 : Int32)) ((0 : Int32)) ((0 : Int32)) _ _ ls h hF hS (lv_sub hl [3, 4, 2, 1, 0] rfl)
          · have h := ift h c60
            refine lv_aload_n hx hb dX6_sleep_45 rfl (lv_at hl 0 rfl) ?_
            refine lv_iload_n hx hb dX6_sleep_46 rfl (lv_at hl 1 rfl) ?_
            obtain ⟨⟨r65, g66⟩, q64, h⟩ := bnd h
            try dsimp only at h
            refine fw_calli (va_runV (As := [.int a0]) (rest := []) ⟨hx, hb, hml, hown, hts⟩ (c_X6_sleeps l hok q64) (cwV 1 hts gX6_sleep_X6_sleeps rfl rfl rfl qv_X6_sleeps ⟨Nat.le_of_ble_eq_true rfl, Nat.le_of_ble_eq_true rfl⟩) (fw_preV hok hE hF (e0 μ) (mm0 μ _ _) rfl) rfl rfl hl.1 rfl (lv_room (Nat.le_of_ble_eq_true rfl)) dX6_sleep_47 ⟨Nat.le_refl _, Nat.le_refl _⟩) hS (fun H locs hF hS => ?_)
            refine lv_if_eq (tgt := 57) hx hb dX6_sleep_50 (by decide) (fun c68 => ?_) (fun c68 => ?_)
            · have h := ift h c68
              refine lv_iconst (v := (0 : Int32)) hx hb dX6_sleep_57 (by decide) ?_
              refine lv_istore_n (lv' := [(3, .int ((0 : Int32))), (0, .ref (fa (mφ μ) 0 0)), (1, .int a0), (2, .int a1)]) hx hb dX6_sleep_58 rfl hl (by decide) rfl (fun ls hl => ?_)
              refine lv_aload_n hx hb dX6_sleep_59 rfl (lv_at hl 1 rfl) ?_
              refine fw_get (C := RX6) (T := TX6) (N := 3) (ci := 6) (v := .ref (fa (mφ μ) 1 0)) hx hb hL6 hown hE hF (e0 μ) (mm0 μ _ _) rfl 0 (by decide) kw1 rfl dX6_sleep_60 ?_
              refine lv_bipush (v := (60 : Int32)) hx hb dX6_sleep_63 (by decide) ?_
              refine lv_iload_n hx hb dX6_sleep_65 rfl (lv_at hl 2 rfl) ?_
              refine lv_iadd hx hb dX6_sleep_66 ?_
              refine lv_iload_n hx hb dX6_sleep_67 rfl (lv_at hl 3 rfl) ?_
              obtain ⟨k69, h⟩ := ck h
              refine fw_iast (q := (((60 : Int32)) + a0).toNatClampNeg) hx hb hE hok hF hS (e1 μ) (mm1 μ _) 0 rfl k69 rfl dX6_sleep_68 (fun H locs hF hS => ?_)
              obtain ⟨g70, e71, h⟩ := ltm_e h
              rw [e71] at hF
              refine lv_iconst (v := (0 : Int32)) hx hb dX6_sleep_69 (by decide) ?_
              refine lv_istore (lv' := [(4, .int ((0 : Int32))), (3, .int ((0 : Int32))), (0, .ref (fa (mφ μ) 0 0)), (1, .int a0), (2, .int a1)]) hx hb dX6_sleep_70 hl (by decide) rfl (fun ls hl => ?_)
              refine lv_iconst (v := (0 : Int32)) hx hb dX6_sleep_72 (by decide) ?_
              refine lv_istore (lv' := [(5, .int ((0 : Int32))), (4, .int ((0 : Int32))), (3, .int ((0 : Int32))), (0, .ref (fa (mφ μ) 0 0)), (1, .int a0), (2, .int a1)]) hx hb dX6_sleep_73 hl (by decide) rfl (fun ls hl => ?_)
              exact LOOP75 F g70 a0 ((0 : Int32)) ((0 : Int32)) ((0 : Int32)) _ _ ls h hF hS (lv_sub hl [3, 4, 2, 1, 0] rfl)
            · have h := iff0 h c68
              refine lv_iconst (v := (1 : Int32)) hx hb dX6_sleep_53 (by decide) ?_
              refine lv_goto (tgt := 58) hx hb dX6_sleep_54 (by decide) ?_
              refine lv_istore_n (lv' := [(3, .int ((1 : Int32))), (0, .ref (fa (mφ μ) 0 0)), (1, .int a0), (2, .int a1)]) hx hb dX6_sleep_58 rfl hl (by decide) rfl (fun ls hl => ?_)
              refine lv_aload_n hx hb dX6_sleep_59 rfl (lv_at hl 1 rfl) ?_
              refine fw_get (C := RX6) (T := TX6) (N := 3) (ci := 6) (v := .ref (fa (mφ μ) 1 0)) hx hb hL6 hown hE hF (e0 μ) (mm0 μ _ _) rfl 0 (by decide) kw1 rfl dX6_sleep_60 ?_
              refine lv_bipush (v := (60 : Int32)) hx hb dX6_sleep_63 (by decide) ?_
              refine lv_iload_n hx hb dX6_sleep_65 rfl (lv_at hl 2 rfl) ?_
              refine lv_iadd hx hb dX6_sleep_66 ?_
              refine lv_iload_n hx hb dX6_sleep_67 rfl (lv_at hl 3 rfl) ?_
              obtain ⟨k72, h⟩ := ck h
              refine fw_iast (q := (((60 : Int32)) + a0).toNatClampNeg) hx hb hE hok hF hS (e1 μ) (mm1 μ _) 0 rfl k72 rfl dX6_sleep_68 (fun H locs hF hS => ?_)
              obtain ⟨g73, e74, h⟩ := ltm_e h
              rw [e74] at hF
              refine lv_iconst (v := (0 : Int32)) hx hb dX6_sleep_69 (by decide) ?_
              refine lv_istore (lv' := [(4, .int ((0 : Int32))), (3, .int ((1 : Int32))), (0, .ref (fa (mφ μ) 0 0)), (1, .int a0), (2, .int a1)]) hx hb dX6_sleep_70 hl (by decide) rfl (fun ls hl => ?_)
              refine lv_iconst (v := (0 : Int32)) hx hb dX6_sleep_72 (by decide) ?_
              refine lv_istore (lv' := [(5, .int ((0 : Int32))), (4, .int ((0 : Int32))), (3, .int ((1 : Int32))), (0, .ref (fa (mφ μ) 0 0)), (1, .int a0), (2, .int a1)]) hx hb dX6_sleep_73 hl (by decide) rfl (fun ls hl => ?_)
              exact LOOP75 F g73 a0 ((1 : Int32)) ((0 : Int32)) ((0 : Int32)) _ _ ls h hF hS (lv_sub hl [3, 4, 2, 1, 0] rfl)
        · have h := iff0 h c59
          refine lv_bipush (v := (-5 : Int32)) hx hb dX6_sleep_38 (by decide) ?_
          exact fw_iret hx hb hr hlk h hF hS dX6_sleep_40
    · have h := ift h c6
      refine lv_bipush (v := (-2 : Int32)) hx hb dX6_sleep_18 (by decide) ?_
      exact fw_iret hx hb hr hlk h hF hS dX6_sleep_20
  · have h := ift h c3
    refine lv_iconst (v := (-1 : Int32)) hx hb dX6_sleep_7 (by decide) ?_
    exact fw_iret hx hb hr hlk h hF hS dX6_sleep_8
def st_X6_pass_17 (F : Nat) (K : Mem → Int32 → Int32 → Int32 → Option (Int32 × Mem)) (g : Mem) (x1 x2 x3 : Int32) : Option (Int32 × Mem) := (if x1 ≤ x3 then some (x2, g) else (m_X6_goOn F g ).bind (fun (r6, g7) => K g7 x1 (x2 + r6) (x3 + (1 : Int32))))
def lp_X6_pass_17 (F : Nat) : Nat → Mem → Int32 → Int32 → Int32 → Option (Int32 × Mem)
  | 0, _, _, _, _ => none
  | f + 1, g, x1, x2, x3 => st_X6_pass_17 F (lp_X6_pass_17 F f ) g x1 x2 x3
def m_X6_pass (F : Nat) (g : Mem) (a0 : Int32) : Option (Int32 × Mem) := (m_X6_in a0 ((1 : Int32)) ((100 : Int32))).bind (fun r2 => (if r2 = 0 then some ((-2 : Int32), g) else lp_X6_pass_17 F F g a0 ((0 : Int32)) ((0 : Int32))))
set_option maxHeartbeats 4000000 in
set_option maxRecDepth 100000 in
theorem c_X6_pass (l : Launch) {μ : Mx} (hok : fok (mφ μ))  {F : Nat} {g : Mem} {a0 : Int32} {u : Int32 × Mem} (h : m_X6_pass F g a0 = some u) : fM l (mφ μ) yX6_pass wsX6_pass 5 123 [.ref (fa (mφ μ) 0 0), .int a0] g (some (.int u.1)) u.2 := by
  refine fM.of (cc := cX6_pass) (maxL := 4) (ret := (some .int)) [(0, .ref (fa (mφ μ) 0 0)), (1, .int a0)] (by decide) rfl (Nat.le_of_ble_eq_true rfl) rfl (fun p e s m below meth c ls hx hb hr hml hown hts hlk hE hF hS hl => ?_)
  replace hown : s.vm.findClass RX6 = some m.cls := hown
  unfold m_X6_pass at h
  refine lv_iload_n hx hb dX6_pass_0 rfl (lv_at hl 1 rfl) ?_
  refine lv_iconst (v := (1 : Int32)) hx hb dX6_pass_1 (by decide) ?_
  refine lv_bipush (v := (100 : Int32)) hx hb dX6_pass_2 (by decide) ?_
  obtain ⟨r2, q1, h⟩ := bnd h
  try dsimp only at h
  refine pw_call (va_runS (As := [.int a0, .int ((1 : Int32)), .int ((100 : Int32))]) (rest := []) ⟨hx, hb, hml, hown, hts⟩ (c_X6_in l q1) (va_cwS 3 hts gX6_pass_X6_in rfl rfl rfl qs_X6_in ⟨Nat.le_of_ble_eq_true rfl, Nat.le_of_ble_eq_true rfl⟩) preEq rfl rfl hl.1 rfl (lv_room (Nat.le_of_ble_eq_true rfl)) dX6_pass_4 ⟨Nat.le_refl _, Nat.le_refl _⟩) ?_
  refine lv_if_ne (tgt := 13) hx hb dX6_pass_7 (by decide) (fun c3 => ?_) (fun c3 => ?_)
  · have h := iff0 h c3
    refine lv_iconst (v := (0 : Int32)) hx hb dX6_pass_13 (by decide) ?_
    refine lv_istore_n (lv' := [(2, .int ((0 : Int32))), (0, .ref (fa (mφ μ) 0 0)), (1, .int a0)]) hx hb dX6_pass_14 rfl hl (by decide) rfl (fun ls hl => ?_)
    refine lv_iconst (v := (0 : Int32)) hx hb dX6_pass_15 (by decide) ?_
    refine lv_istore_n (lv' := [(3, .int ((0 : Int32))), (2, .int ((0 : Int32))), (0, .ref (fa (mφ μ) 0 0)), (1, .int a0)]) hx hb dX6_pass_16 rfl hl (by decide) rfl (fun ls hl => ?_)
    have LOOP17 : ∀ (f : Nat) (g : Mem) (x1 x2 x3 : Int32) (H : Heap) (locs : List Loc) (ls : Array Slot), lp_X6_pass_17 F f g x1 x2 x3 = some u → fw (mφ μ) g H → va_S (fA (mφ μ)) s.heap H locs → lv_has ls 4 [(0, .ref (fa (mφ μ) 0 0)), (1, .int x1), (2, .int x2), (3, .int x3)] → W p l e ({ frames := 5, cells := 0, slots := 0, locals := 123 }) s m ([.ref (fa (mφ μ) 0 0), .int a0] : List Value).toArray below meth c H locs 0 0 (MQ below (fQ (mφ μ) (some (.int u.1)) u.2) ([.ref (fa (mφ μ) 0 0), .int a0] : List Value).toArray s 0 0 (fA (mφ μ))) (F0 m 17 ls []) := by
      intro f
      induction f with
      | zero => intro g x1 x2 x3 H locs ls h hF hS hl; cases h
      | succ f ih =>
        intro g x1 x2 x3 H locs ls h hF hS hl
        replace h : st_X6_pass_17 F (lp_X6_pass_17 F f ) g x1 x2 x3 = some u := h
        unfold st_X6_pass_17 at h
        refine lv_iload_n hx hb dX6_pass_17 rfl (lv_at hl 3 rfl) ?_
        refine lv_iload_n hx hb dX6_pass_18 rfl (lv_at hl 1 rfl) ?_
        refine lv_icmp_ge (tgt := 35) hx hb dX6_pass_19 (by decide) (fun c4 => ?_) (fun c4 => ?_)
        · have h := ift h c4
          refine lv_iload_n hx hb dX6_pass_35 rfl (lv_at hl 2 rfl) ?_
          exact fw_iret hx hb hr hlk h hF hS dX6_pass_36
        · have h := iff0 h c4
          refine lv_iload_n hx hb dX6_pass_22 rfl (lv_at hl 2 rfl) ?_
          refine lv_aload_n hx hb dX6_pass_23 rfl (lv_at hl 0 rfl) ?_
          obtain ⟨⟨r6, g7⟩, q5, h⟩ := bnd h
          try dsimp only at h
          refine fw_calli (va_runV (As := []) (rest := [.int x2]) ⟨hx, hb, hml, hown, hts⟩ (c_X6_goOn l hok q5) (cwV 0 hts gX6_pass_X6_goOn rfl rfl rfl qv_X6_goOn ⟨Nat.le_of_ble_eq_true rfl, Nat.le_of_ble_eq_true rfl⟩) (fw_preV hok hE hF (e0 μ) (mm0 μ _ _) rfl) rfl rfl hl.1 rfl (lv_room (Nat.le_of_ble_eq_true rfl)) dX6_pass_24 ⟨Nat.le_refl _, Nat.le_refl _⟩) hS (fun H locs hF hS => ?_)
          refine lv_iadd hx hb dX6_pass_27 ?_
          refine lv_istore_n (lv' := [(2, .int (x2 + r6)), (0, .ref (fa (mφ μ) 0 0)), (1, .int x1), (3, .int x3)]) hx hb dX6_pass_28 rfl hl (by decide) rfl (fun ls hl => ?_)
          refine lv_iinc (v := x3 + (1 : Int32)) (lv' := [(3, .int (x3 + (1 : Int32))), (2, .int (x2 + r6)), (0, .ref (fa (mφ μ) 0 0)), (1, .int x1)]) hx hb dX6_pass_29 hl (k := 3) rfl rfl (by decide) rfl (fun ls hl => ?_)
          refine lv_goto (tgt := 17) hx hb dX6_pass_32 (by decide) ?_
          exact ih g7 x1 (x2 + r6) (x3 + (1 : Int32)) H locs ls h hF hS (lv_sub hl [2, 3, 1, 0] rfl)
    exact LOOP17 F g a0 ((0 : Int32)) ((0 : Int32)) _ _ ls h hF hS (lv_sub hl [2, 3, 1, 0] rfl)
  · have h := ift h c3
    refine lv_bipush (v := (-2 : Int32)) hx hb dX6_pass_10 (by decide) ?_
    exact fw_iret hx hb hr hlk h hF hS dX6_pass_12
def st_X6_settle_2 (F : Nat) (K : Mem → Int32 → Option (Int32 × Mem)) (g : Mem) (x1 : Int32) : Option (Int32 × Mem) := (if (g 1 0 6815) ≤ 0 then some (x1, g) else (m_X6_goOn F g ).bind (fun (r4, g5) => K g5 (x1 + (1 : Int32))))
def lp_X6_settle_2 (F : Nat) : Nat → Mem → Int32 → Option (Int32 × Mem)
  | 0, _, _ => none
  | f + 1, g, x1 => st_X6_settle_2 F (lp_X6_settle_2 F f ) g x1
def m_X6_settle (F : Nat) (g : Mem) : Option (Int32 × Mem) := lp_X6_settle_2 F F g ((0 : Int32))
set_option maxHeartbeats 4000000 in
set_option maxRecDepth 100000 in
theorem c_X6_settle (l : Launch) {μ : Mx} (hok : fok (mφ μ))  {F : Nat} {g : Mem} {u : Int32 × Mem} (h : m_X6_settle F g  = some u) : fM l (mφ μ) yX6_settle wsX6_settle 5 123 [.ref (fa (mφ μ) 0 0)] g (some (.int u.1)) u.2 := by
  refine fM.of (cc := cX6_settle) (maxL := 2) (ret := (some .int)) [(0, .ref (fa (mφ μ) 0 0))] (by decide) rfl (Nat.le_of_ble_eq_true rfl) rfl (fun p e s m below meth c ls hx hb hr hml hown hts hlk hE hF hS hl => ?_)
  replace hown : s.vm.findClass RX6 = some m.cls := hown
  have hL6 : ∀ w ∈ u_ws RX6 TX6 3, w.before ([.ref (fa (mφ μ) 0 0)] : List Value).toArray s = true := fun w hw => hts w (by
    unfold wsX6_settle
    simp only [List.mem_cons, List.mem_append]
    exact Or.inr (Or.inr hw))
  have kw1 := hts (.fieldLink RX6 7 "MeshLampsModel" "state" "[I") (List.mem_of_getElem? (i := 1) rfl)
  unfold m_X6_settle at h
  refine lv_iconst (v := (0 : Int32)) hx hb dX6_settle_0 (by decide) ?_
  refine lv_istore_n (lv' := [(1, .int ((0 : Int32))), (0, .ref (fa (mφ μ) 0 0))]) hx hb dX6_settle_1 rfl hl (by decide) rfl (fun ls hl => ?_)
  have LOOP2 : ∀ (f : Nat) (g : Mem) (x1 : Int32) (H : Heap) (locs : List Loc) (ls : Array Slot), lp_X6_settle_2 F f g x1 = some u → fw (mφ μ) g H → va_S (fA (mφ μ)) s.heap H locs → lv_has ls 2 [(0, .ref (fa (mφ μ) 0 0)), (1, .int x1)] → W p l e ({ frames := 5, cells := 0, slots := 0, locals := 123 }) s m ([.ref (fa (mφ μ) 0 0)] : List Value).toArray below meth c H locs 0 0 (MQ below (fQ (mφ μ) (some (.int u.1)) u.2) ([.ref (fa (mφ μ) 0 0)] : List Value).toArray s 0 0 (fA (mφ μ))) (F0 m 2 ls []) := by
    intro f
    induction f with
    | zero => intro g x1 H locs ls h hF hS hl; cases h
    | succ f ih =>
      intro g x1 H locs ls h hF hS hl
      replace h : st_X6_settle_2 F (lp_X6_settle_2 F f ) g x1 = some u := h
      unfold st_X6_settle_2 at h
      refine lv_aload_n hx hb dX6_settle_2 rfl (lv_at hl 0 rfl) ?_
      refine fw_get (C := RX6) (T := TX6) (N := 3) (ci := 6) (v := .ref (fa (mφ μ) 1 0)) hx hb hL6 hown hE hF (e0 μ) (mm0 μ _ _) rfl 0 (by decide) kw1 rfl dX6_settle_3 ?_
      refine lv_sipush (v := (6815 : Int32)) hx hb dX6_settle_6 (by decide) ?_
      refine fw_iald (q := 6815) hx hb hE hF (e1 μ) (mm1 μ _) 0 rfl (by decide) (by decide) dX6_settle_9 ?_
      refine lv_if_le (tgt := 24) hx hb dX6_settle_10 (by decide) (fun c2 => ?_) (fun c2 => ?_)
      · have h := ift h c2
        refine lv_iload_n hx hb dX6_settle_24 rfl (lv_at hl 1 rfl) ?_
        exact fw_iret hx hb hr hlk h hF hS dX6_settle_25
      · have h := iff0 h c2
        refine lv_aload_n hx hb dX6_settle_13 rfl (lv_at hl 0 rfl) ?_
        obtain ⟨⟨r4, g5⟩, q3, h⟩ := bnd h
        try dsimp only at h
        refine fw_calli (va_runV (As := []) (rest := []) ⟨hx, hb, hml, hown, hts⟩ (c_X6_goOn l hok q3) (cwV 0 hts gX6_settle_X6_goOn rfl rfl rfl qv_X6_goOn ⟨Nat.le_of_ble_eq_true rfl, Nat.le_of_ble_eq_true rfl⟩) (fw_preV hok hE hF (e0 μ) (mm0 μ _ _) rfl) rfl rfl hl.1 rfl (lv_room (Nat.le_of_ble_eq_true rfl)) dX6_settle_14 ⟨Nat.le_refl _, Nat.le_refl _⟩) hS (fun H locs hF hS => ?_)
        refine lv_pop hx hb dX6_settle_17 rfl ?_
        refine lv_iinc (v := x1 + (1 : Int32)) (lv' := [(1, .int (x1 + (1 : Int32))), (0, .ref (fa (mφ μ) 0 0))]) hx hb dX6_settle_18 hl (k := 1) rfl rfl (by decide) rfl (fun ls hl => ?_)
        refine lv_goto (tgt := 2) hx hb dX6_settle_21 (by decide) ?_
        exact ih g5 (x1 + (1 : Int32)) H locs ls h hF hS (lv_sub hl [1, 0] rfl)
  exact LOOP2 F g ((0 : Int32)) _ _ ls h hF hS (lv_sub hl [1, 0] rfl)
def m_X6_has (g : Mem) (a0 a1 : Int32) : Option (Int32 × Mem) := (m_X6_isLamp a0).bind (fun r2 => (if r2 = 0 then some ((-1 : Int32), g) else (m_X6_in a1 ((0 : Int32)) ((1 : Int32))).bind (fun r5 => (if r5 = 0 then some ((-2 : Int32), g) else (if a1 = 0 then (m_X6_isOf (g 1 0 6813) a0).bind (fun r14 => (if r14 = 0 then some ((0 : Int32), g) else some ((1 : Int32), g))) else (m_X6_isOf (g 1 0 6814) a0).bind (fun r10 => (if r10 = 0 then some ((0 : Int32), g) else some ((1 : Int32), g))))))))
set_option maxHeartbeats 4000000 in
set_option maxRecDepth 100000 in
theorem c_X6_has (l : Launch) {μ : Mx} (hok : fok (mφ μ))  {g : Mem} {a0 a1 : Int32} {u : Int32 × Mem} (h : m_X6_has g a0 a1 = some u) : fM l (mφ μ) yX6_has wsX6_has 2 42 [.ref (fa (mφ μ) 0 0), .int a0, .int a1] g (some (.int u.1)) u.2 := by
  refine fM.of (cc := cX6_has) (maxL := 3) (ret := (some .int)) [(0, .ref (fa (mφ μ) 0 0)), (1, .int a0), (2, .int a1)] (by decide) rfl (Nat.le_of_ble_eq_true rfl) rfl (fun p e s m below meth c ls hx hb hr hml hown hts hlk hE hF hS hl => ?_)
  replace hown : s.vm.findClass RX6 = some m.cls := hown
  have hL6 : ∀ w ∈ u_ws RX6 TX6 3, w.before ([.ref (fa (mφ μ) 0 0), .int a0, .int a1] : List Value).toArray s = true := fun w hw => hts w (by
    unfold wsX6_has
    simp only [List.mem_cons, List.mem_append]
    exact Or.inr (Or.inr hw))
  have kw1 := hts (.fieldLink RX6 7 "MeshLampsModel" "state" "[I") (List.mem_of_getElem? (i := 1) rfl)
  unfold m_X6_has at h
  refine lv_iload_n hx hb dX6_has_0 rfl (lv_at hl 1 rfl) ?_
  obtain ⟨r2, q1, h⟩ := bnd h
  try dsimp only at h
  refine pw_call (va_runS (As := [.int a0]) (rest := []) ⟨hx, hb, hml, hown, hts⟩ (c_X6_isLamp l q1) (va_cwS 1 hts gX6_has_X6_isLamp rfl rfl rfl qs_X6_isLamp ⟨Nat.le_of_ble_eq_true rfl, Nat.le_of_ble_eq_true rfl⟩) preEq rfl rfl hl.1 rfl (lv_room (Nat.le_of_ble_eq_true rfl)) dX6_has_1 ⟨Nat.le_refl _, Nat.le_refl _⟩) ?_
  refine lv_if_ne (tgt := 9) hx hb dX6_has_4 (by decide) (fun c3 => ?_) (fun c3 => ?_)
  · have h := iff0 h c3
    refine lv_iload_n hx hb dX6_has_9 rfl (lv_at hl 2 rfl) ?_
    refine lv_iconst (v := (0 : Int32)) hx hb dX6_has_10 (by decide) ?_
    refine lv_iconst (v := (1 : Int32)) hx hb dX6_has_11 (by decide) ?_
    obtain ⟨r5, q4, h⟩ := bnd h
    try dsimp only at h
    refine pw_call (va_runS (As := [.int a1, .int ((0 : Int32)), .int ((1 : Int32))]) (rest := []) ⟨hx, hb, hml, hown, hts⟩ (c_X6_in l q4) (va_cwS 3 hts gX6_has_X6_in rfl rfl rfl qs_X6_in ⟨Nat.le_of_ble_eq_true rfl, Nat.le_of_ble_eq_true rfl⟩) preEq rfl rfl hl.1 rfl (lv_room (Nat.le_of_ble_eq_true rfl)) dX6_has_12 ⟨Nat.le_refl _, Nat.le_refl _⟩) ?_
    refine lv_if_ne (tgt := 21) hx hb dX6_has_15 (by decide) (fun c6 => ?_) (fun c6 => ?_)
    · have h := iff0 h c6
      refine lv_iload_n hx hb dX6_has_21 rfl (lv_at hl 2 rfl) ?_
      refine lv_if_ne (tgt := 36) hx hb dX6_has_22 (by decide) (fun c7 => ?_) (fun c7 => ?_)
      · have h := iff0 h c7
        refine lv_aload_n hx hb dX6_has_36 rfl (lv_at hl 0 rfl) ?_
        refine fw_get (C := RX6) (T := TX6) (N := 3) (ci := 6) (v := .ref (fa (mφ μ) 1 0)) hx hb hL6 hown hE hF (e0 μ) (mm0 μ _ _) rfl 0 (by decide) kw1 rfl dX6_has_37 ?_
        refine lv_sipush (v := (6814 : Int32)) hx hb dX6_has_40 (by decide) ?_
        refine fw_iald (q := 6814) hx hb hE hF (e1 μ) (mm1 μ _) 0 rfl (by decide) (by decide) dX6_has_43 ?_
        refine lv_iload_n hx hb dX6_has_44 rfl (lv_at hl 1 rfl) ?_
        obtain ⟨r10, q9, h⟩ := bnd h
        try dsimp only at h
        refine pw_call (va_runS (As := [.int (g 1 0 6814), .int a0]) (rest := []) ⟨hx, hb, hml, hown, hts⟩ (c_X6_isOf l q9) (va_cwS 2 hts gX6_has_X6_isOf rfl rfl rfl qs_X6_isOf ⟨Nat.le_of_ble_eq_true rfl, Nat.le_of_ble_eq_true rfl⟩) preEq rfl rfl hl.1 rfl (lv_room (Nat.le_of_ble_eq_true rfl)) dX6_has_45 ⟨Nat.le_refl _, Nat.le_refl _⟩) ?_
        refine lv_if_eq (tgt := 55) hx hb dX6_has_48 (by decide) (fun c11 => ?_) (fun c11 => ?_)
        · have h := ift h c11
          refine lv_iconst (v := (0 : Int32)) hx hb dX6_has_55 (by decide) ?_
          exact fw_iret hx hb hr hlk h hF hS dX6_has_56
        · have h := iff0 h c11
          refine lv_iconst (v := (1 : Int32)) hx hb dX6_has_51 (by decide) ?_
          refine lv_goto (tgt := 56) hx hb dX6_has_52 (by decide) ?_
          exact fw_iret hx hb hr hlk h hF hS dX6_has_56
      · have h := ift h c7
        refine lv_aload_n hx hb dX6_has_25 rfl (lv_at hl 0 rfl) ?_
        refine fw_get (C := RX6) (T := TX6) (N := 3) (ci := 6) (v := .ref (fa (mφ μ) 1 0)) hx hb hL6 hown hE hF (e0 μ) (mm0 μ _ _) rfl 0 (by decide) kw1 rfl dX6_has_26 ?_
        refine lv_sipush (v := (6813 : Int32)) hx hb dX6_has_29 (by decide) ?_
        refine fw_iald (q := 6813) hx hb hE hF (e1 μ) (mm1 μ _) 0 rfl (by decide) (by decide) dX6_has_32 ?_
        refine lv_goto (tgt := 44) hx hb dX6_has_33 (by decide) ?_
        refine lv_iload_n hx hb dX6_has_44 rfl (lv_at hl 1 rfl) ?_
        obtain ⟨r14, q13, h⟩ := bnd h
        try dsimp only at h
        refine pw_call (va_runS (As := [.int (g 1 0 6813), .int a0]) (rest := []) ⟨hx, hb, hml, hown, hts⟩ (c_X6_isOf l q13) (va_cwS 2 hts gX6_has_X6_isOf rfl rfl rfl qs_X6_isOf ⟨Nat.le_of_ble_eq_true rfl, Nat.le_of_ble_eq_true rfl⟩) preEq rfl rfl hl.1 rfl (lv_room (Nat.le_of_ble_eq_true rfl)) dX6_has_45 ⟨Nat.le_refl _, Nat.le_refl _⟩) ?_
        refine lv_if_eq (tgt := 55) hx hb dX6_has_48 (by decide) (fun c15 => ?_) (fun c15 => ?_)
        · have h := ift h c15
          refine lv_iconst (v := (0 : Int32)) hx hb dX6_has_55 (by decide) ?_
          exact fw_iret hx hb hr hlk h hF hS dX6_has_56
        · have h := iff0 h c15
          refine lv_iconst (v := (1 : Int32)) hx hb dX6_has_51 (by decide) ?_
          refine lv_goto (tgt := 56) hx hb dX6_has_52 (by decide) ?_
          exact fw_iret hx hb hr hlk h hF hS dX6_has_56
    · have h := ift h c6
      refine lv_bipush (v := (-2 : Int32)) hx hb dX6_has_18 (by decide) ?_
      exact fw_iret hx hb hr hlk h hF hS dX6_has_20
  · have h := ift h c3
    refine lv_iconst (v := (-1 : Int32)) hx hb dX6_has_7 (by decide) ?_
    exact fw_iret hx hb hr hlk h hF hS dX6_has_8
def m_X6_lamp (F : Nat) (g : Mem) (a0 a1 : Int32) : Option (Int32 × Mem) := (m_X6_isLamp a0).bind (fun r2 => (if r2 = 0 then some ((-1 : Int32), g) else (if a1 = 0 then if (((50 : Int32)) + a0 < 0 ∨ 6819 ≤ (((50 : Int32)) + a0).toNatClampNeg) then none else some (g 1 0 ((((50 : Int32)) + a0).toNatClampNeg), g) else (if a1 = 1 then if (((60 : Int32)) + a0 < 0 ∨ 6819 ≤ (((60 : Int32)) + a0).toNatClampNeg) then none else some (g 1 0 ((((60 : Int32)) + a0).toNatClampNeg), g) else (if a1 = 2 then if (((70 : Int32)) + a0 < 0 ∨ 6819 ≤ (((70 : Int32)) + a0).toNatClampNeg) then none else some (g 1 0 ((((70 : Int32)) + a0).toNatClampNeg), g) else (if a1 = 3 then if (((80 : Int32)) + a0 < 0 ∨ 6819 ≤ (((80 : Int32)) + a0).toNatClampNeg) then none else some (g 1 0 ((((80 : Int32)) + a0).toNatClampNeg), g) else (if a1 = 4 then if (((90 : Int32)) + a0 < 0 ∨ 6819 ≤ (((90 : Int32)) + a0).toNatClampNeg) then none else some (g 1 0 ((((90 : Int32)) + a0).toNatClampNeg), g) else (if a1 = 5 then if (((100 : Int32)) + a0 < 0 ∨ 6819 ≤ (((100 : Int32)) + a0).toNatClampNeg) then none else some (g 1 0 ((((100 : Int32)) + a0).toNatClampNeg), g) else (if a1 = 6 then if (((110 : Int32)) + a0 < 0 ∨ 6819 ≤ (((110 : Int32)) + a0).toNatClampNeg) then none else some (g 1 0 ((((110 : Int32)) + a0).toNatClampNeg), g) else (if a1 = 7 then if (((120 : Int32)) + a0 < 0 ∨ 6819 ≤ (((120 : Int32)) + a0).toNatClampNeg) then none else some (g 1 0 ((((120 : Int32)) + a0).toNatClampNeg), g) else (if a1 = 8 then if (((130 : Int32)) + a0 < 0 ∨ 6819 ≤ (((130 : Int32)) + a0).toNatClampNeg) then none else some (g 1 0 ((((130 : Int32)) + a0).toNatClampNeg), g) else (if a1 = 9 then if (((140 : Int32)) + a0 < 0 ∨ 6819 ≤ (((140 : Int32)) + a0).toNatClampNeg) then none else some (g 1 0 ((((140 : Int32)) + a0).toNatClampNeg), g) else (if a1 = 10 then if (((150 : Int32)) + a0 < 0 ∨ 6819 ≤ (((150 : Int32)) + a0).toNatClampNeg) then none else some (g 1 0 ((((150 : Int32)) + a0).toNatClampNeg), g) else (if a1 = 11 then if (((160 : Int32)) + a0 < 0 ∨ 6819 ≤ (((160 : Int32)) + a0).toNatClampNeg) then none else some (g 1 0 ((((160 : Int32)) + a0).toNatClampNeg), g) else (if a1 = 12 then if (((0 : Int32)) + a0 < 0 ∨ 6819 ≤ (((0 : Int32)) + a0).toNatClampNeg) then none else (m_X6_bits F (g 1 0 ((((0 : Int32)) + a0).toNatClampNeg))).bind (fun r31 => some (r31, g)) else some ((-2 : Int32), g))))))))))))))))
set_option maxHeartbeats 4000000 in
set_option maxRecDepth 100000 in
theorem c_X6_lamp (l : Launch) {μ : Mx} (hok : fok (mφ μ))  {F : Nat} {g : Mem} {a0 a1 : Int32} {u : Int32 × Mem} (h : m_X6_lamp F g a0 a1 = some u) : fM l (mφ μ) yX6_lamp wsX6_lamp 2 42 [.ref (fa (mφ μ) 0 0), .int a0, .int a1] g (some (.int u.1)) u.2 := by
  refine fM.of (cc := cX6_lamp) (maxL := 3) (ret := (some .int)) [(0, .ref (fa (mφ μ) 0 0)), (1, .int a0), (2, .int a1)] (by decide) rfl (Nat.le_of_ble_eq_true rfl) rfl (fun p e s m below meth c ls hx hb hr hml hown hts hlk hE hF hS hl => ?_)
  replace hown : s.vm.findClass RX6 = some m.cls := hown
  have hL6 : ∀ w ∈ u_ws RX6 TX6 3, w.before ([.ref (fa (mφ μ) 0 0), .int a0, .int a1] : List Value).toArray s = true := fun w hw => hts w (by
    unfold wsX6_lamp
    simp only [List.mem_cons, List.mem_append]
    exact Or.inr (Or.inr hw))
  have kw1 := hts (.fieldLink RX6 7 "MeshLampsModel" "state" "[I") (List.mem_of_getElem? (i := 1) rfl)
  unfold m_X6_lamp at h
  refine lv_iload_n hx hb dX6_lamp_0 rfl (lv_at hl 1 rfl) ?_
  obtain ⟨r2, q1, h⟩ := bnd h
  try dsimp only at h
  refine pw_call (va_runS (As := [.int a0]) (rest := []) ⟨hx, hb, hml, hown, hts⟩ (c_X6_isLamp l q1) (va_cwS 1 hts gX6_lamp_X6_isLamp rfl rfl rfl qs_X6_isLamp ⟨Nat.le_of_ble_eq_true rfl, Nat.le_of_ble_eq_true rfl⟩) preEq rfl rfl hl.1 rfl (lv_room (Nat.le_of_ble_eq_true rfl)) dX6_lamp_1 ⟨Nat.le_refl _, Nat.le_refl _⟩) ?_
  refine lv_if_ne (tgt := 9) hx hb dX6_lamp_4 (by decide) (fun c3 => ?_) (fun c3 => ?_)
  · have h := iff0 h c3
    refine lv_iload_n hx hb dX6_lamp_9 rfl (lv_at hl 2 rfl) ?_
    by_cases c4 : a1 = 0
    · refine lv_tableIn (tgt := 76) (off := 66) hx hb dX6_lamp_10 (by rw [c4]; decide) (by rw [c4]; decide) (by rw [c4]; rfl) (by decide) ?_
      have h := ift h c4
      refine lv_aload_n hx hb dX6_lamp_76 rfl (lv_at hl 0 rfl) ?_
      refine fw_get (C := RX6) (T := TX6) (N := 3) (ci := 6) (v := .ref (fa (mφ μ) 1 0)) hx hb hL6 hown hE hF (e0 μ) (mm0 μ _ _) rfl 0 (by decide) kw1 rfl dX6_lamp_77 ?_
      refine lv_bipush (v := (50 : Int32)) hx hb dX6_lamp_80 (by decide) ?_
      refine lv_iload_n hx hb dX6_lamp_82 rfl (lv_at hl 1 rfl) ?_
      refine lv_iadd hx hb dX6_lamp_83 ?_
      obtain ⟨k5, h⟩ := ck h
      refine fw_iald (q := (((50 : Int32)) + a0).toNatClampNeg) hx hb hE hF (e1 μ) (mm1 μ _) 0 rfl k5 rfl dX6_lamp_84 ?_
      exact fw_iret hx hb hr hlk h hF hS dX6_lamp_85
    have h := iff0 h c4
    by_cases c6 : a1 = 1
    · refine lv_tableIn (tgt := 86) (off := 76) hx hb dX6_lamp_10 (by rw [c6]; decide) (by rw [c6]; decide) (by rw [c6]; rfl) (by decide) ?_
      have h := ift h c6
      refine lv_aload_n hx hb dX6_lamp_86 rfl (lv_at hl 0 rfl) ?_
      refine fw_get (C := RX6) (T := TX6) (N := 3) (ci := 6) (v := .ref (fa (mφ μ) 1 0)) hx hb hL6 hown hE hF (e0 μ) (mm0 μ _ _) rfl 0 (by decide) kw1 rfl dX6_lamp_87 ?_
      refine lv_bipush (v := (60 : Int32)) hx hb dX6_lamp_90 (by decide) ?_
      refine lv_iload_n hx hb dX6_lamp_92 rfl (lv_at hl 1 rfl) ?_
      refine lv_iadd hx hb dX6_lamp_93 ?_
      obtain ⟨k7, h⟩ := ck h
      refine fw_iald (q := (((60 : Int32)) + a0).toNatClampNeg) hx hb hE hF (e1 μ) (mm1 μ _) 0 rfl k7 rfl dX6_lamp_94 ?_
      exact fw_iret hx hb hr hlk h hF hS dX6_lamp_95
    have h := iff0 h c6
    by_cases c8 : a1 = 2
    · refine lv_tableIn (tgt := 96) (off := 86) hx hb dX6_lamp_10 (by rw [c8]; decide) (by rw [c8]; decide) (by rw [c8]; rfl) (by decide) ?_
      have h := ift h c8
      refine lv_aload_n hx hb dX6_lamp_96 rfl (lv_at hl 0 rfl) ?_
      refine fw_get (C := RX6) (T := TX6) (N := 3) (ci := 6) (v := .ref (fa (mφ μ) 1 0)) hx hb hL6 hown hE hF (e0 μ) (mm0 μ _ _) rfl 0 (by decide) kw1 rfl dX6_lamp_97 ?_
      refine lv_bipush (v := (70 : Int32)) hx hb dX6_lamp_100 (by decide) ?_
      refine lv_iload_n hx hb dX6_lamp_102 rfl (lv_at hl 1 rfl) ?_
      refine lv_iadd hx hb dX6_lamp_103 ?_
      obtain ⟨k9, h⟩ := ck h
      refine fw_iald (q := (((70 : Int32)) + a0).toNatClampNeg) hx hb hE hF (e1 μ) (mm1 μ _) 0 rfl k9 rfl dX6_lamp_104 ?_
      exact fw_iret hx hb hr hlk h hF hS dX6_lamp_105
    have h := iff0 h c8
    by_cases c10 : a1 = 3
    · refine lv_tableIn (tgt := 106) (off := 96) hx hb dX6_lamp_10 (by rw [c10]; decide) (by rw [c10]; decide) (by rw [c10]; rfl) (by decide) ?_
      have h := ift h c10
      refine lv_aload_n hx hb dX6_lamp_106 rfl (lv_at hl 0 rfl) ?_
      refine fw_get (C := RX6) (T := TX6) (N := 3) (ci := 6) (v := .ref (fa (mφ μ) 1 0)) hx hb hL6 hown hE hF (e0 μ) (mm0 μ _ _) rfl 0 (by decide) kw1 rfl dX6_lamp_107 ?_
      refine lv_bipush (v := (80 : Int32)) hx hb dX6_lamp_110 (by decide) ?_
      refine lv_iload_n hx hb dX6_lamp_112 rfl (lv_at hl 1 rfl) ?_
      refine lv_iadd hx hb dX6_lamp_113 ?_
      obtain ⟨k11, h⟩ := ck h
      refine fw_iald (q := (((80 : Int32)) + a0).toNatClampNeg) hx hb hE hF (e1 μ) (mm1 μ _) 0 rfl k11 rfl dX6_lamp_114 ?_
      exact fw_iret hx hb hr hlk h hF hS dX6_lamp_115
    have h := iff0 h c10
    by_cases c12 : a1 = 4
    · refine lv_tableIn (tgt := 116) (off := 106) hx hb dX6_lamp_10 (by rw [c12]; decide) (by rw [c12]; decide) (by rw [c12]; rfl) (by decide) ?_
      have h := ift h c12
      refine lv_aload_n hx hb dX6_lamp_116 rfl (lv_at hl 0 rfl) ?_
      refine fw_get (C := RX6) (T := TX6) (N := 3) (ci := 6) (v := .ref (fa (mφ μ) 1 0)) hx hb hL6 hown hE hF (e0 μ) (mm0 μ _ _) rfl 0 (by decide) kw1 rfl dX6_lamp_117 ?_
      refine lv_bipush (v := (90 : Int32)) hx hb dX6_lamp_120 (by decide) ?_
      refine lv_iload_n hx hb dX6_lamp_122 rfl (lv_at hl 1 rfl) ?_
      refine lv_iadd hx hb dX6_lamp_123 ?_
      obtain ⟨k13, h⟩ := ck h
      refine fw_iald (q := (((90 : Int32)) + a0).toNatClampNeg) hx hb hE hF (e1 μ) (mm1 μ _) 0 rfl k13 rfl dX6_lamp_124 ?_
      exact fw_iret hx hb hr hlk h hF hS dX6_lamp_125
    have h := iff0 h c12
    by_cases c14 : a1 = 5
    · refine lv_tableIn (tgt := 126) (off := 116) hx hb dX6_lamp_10 (by rw [c14]; decide) (by rw [c14]; decide) (by rw [c14]; rfl) (by decide) ?_
      have h := ift h c14
      refine lv_aload_n hx hb dX6_lamp_126 rfl (lv_at hl 0 rfl) ?_
      refine fw_get (C := RX6) (T := TX6) (N := 3) (ci := 6) (v := .ref (fa (mφ μ) 1 0)) hx hb hL6 hown hE hF (e0 μ) (mm0 μ _ _) rfl 0 (by decide) kw1 rfl dX6_lamp_127 ?_
      refine lv_bipush (v := (100 : Int32)) hx hb dX6_lamp_130 (by decide) ?_
      refine lv_iload_n hx hb dX6_lamp_132 rfl (lv_at hl 1 rfl) ?_
      refine lv_iadd hx hb dX6_lamp_133 ?_
      obtain ⟨k15, h⟩ := ck h
      refine fw_iald (q := (((100 : Int32)) + a0).toNatClampNeg) hx hb hE hF (e1 μ) (mm1 μ _) 0 rfl k15 rfl dX6_lamp_134 ?_
      exact fw_iret hx hb hr hlk h hF hS dX6_lamp_135
    have h := iff0 h c14
    by_cases c16 : a1 = 6
    · refine lv_tableIn (tgt := 136) (off := 126) hx hb dX6_lamp_10 (by rw [c16]; decide) (by rw [c16]; decide) (by rw [c16]; rfl) (by decide) ?_
      have h := ift h c16
      refine lv_aload_n hx hb dX6_lamp_136 rfl (lv_at hl 0 rfl) ?_
      refine fw_get (C := RX6) (T := TX6) (N := 3) (ci := 6) (v := .ref (fa (mφ μ) 1 0)) hx hb hL6 hown hE hF (e0 μ) (mm0 μ _ _) rfl 0 (by decide) kw1 rfl dX6_lamp_137 ?_
      refine lv_bipush (v := (110 : Int32)) hx hb dX6_lamp_140 (by decide) ?_
      refine lv_iload_n hx hb dX6_lamp_142 rfl (lv_at hl 1 rfl) ?_
      refine lv_iadd hx hb dX6_lamp_143 ?_
      obtain ⟨k17, h⟩ := ck h
      refine fw_iald (q := (((110 : Int32)) + a0).toNatClampNeg) hx hb hE hF (e1 μ) (mm1 μ _) 0 rfl k17 rfl dX6_lamp_144 ?_
      exact fw_iret hx hb hr hlk h hF hS dX6_lamp_145
    have h := iff0 h c16
    by_cases c18 : a1 = 7
    · refine lv_tableIn (tgt := 146) (off := 136) hx hb dX6_lamp_10 (by rw [c18]; decide) (by rw [c18]; decide) (by rw [c18]; rfl) (by decide) ?_
      have h := ift h c18
      refine lv_aload_n hx hb dX6_lamp_146 rfl (lv_at hl 0 rfl) ?_
      refine fw_get (C := RX6) (T := TX6) (N := 3) (ci := 6) (v := .ref (fa (mφ μ) 1 0)) hx hb hL6 hown hE hF (e0 μ) (mm0 μ _ _) rfl 0 (by decide) kw1 rfl dX6_lamp_147 ?_
      refine lv_bipush (v := (120 : Int32)) hx hb dX6_lamp_150 (by decide) ?_
      refine lv_iload_n hx hb dX6_lamp_152 rfl (lv_at hl 1 rfl) ?_
      refine lv_iadd hx hb dX6_lamp_153 ?_
      obtain ⟨k19, h⟩ := ck h
      refine fw_iald (q := (((120 : Int32)) + a0).toNatClampNeg) hx hb hE hF (e1 μ) (mm1 μ _) 0 rfl k19 rfl dX6_lamp_154 ?_
      exact fw_iret hx hb hr hlk h hF hS dX6_lamp_155
    have h := iff0 h c18
    by_cases c20 : a1 = 8
    · refine lv_tableIn (tgt := 156) (off := 146) hx hb dX6_lamp_10 (by rw [c20]; decide) (by rw [c20]; decide) (by rw [c20]; rfl) (by decide) ?_
      have h := ift h c20
      refine lv_aload_n hx hb dX6_lamp_156 rfl (lv_at hl 0 rfl) ?_
      refine fw_get (C := RX6) (T := TX6) (N := 3) (ci := 6) (v := .ref (fa (mφ μ) 1 0)) hx hb hL6 hown hE hF (e0 μ) (mm0 μ _ _) rfl 0 (by decide) kw1 rfl dX6_lamp_157 ?_
      refine lv_sipush (v := (130 : Int32)) hx hb dX6_lamp_160 (by decide) ?_
      refine lv_iload_n hx hb dX6_lamp_163 rfl (lv_at hl 1 rfl) ?_
      refine lv_iadd hx hb dX6_lamp_164 ?_
      obtain ⟨k21, h⟩ := ck h
      refine fw_iald (q := (((130 : Int32)) + a0).toNatClampNeg) hx hb hE hF (e1 μ) (mm1 μ _) 0 rfl k21 rfl dX6_lamp_165 ?_
      exact fw_iret hx hb hr hlk h hF hS dX6_lamp_166
    have h := iff0 h c20
    by_cases c22 : a1 = 9
    · refine lv_tableIn (tgt := 167) (off := 157) hx hb dX6_lamp_10 (by rw [c22]; decide) (by rw [c22]; decide) (by rw [c22]; rfl) (by decide) ?_
      have h := ift h c22
      refine lv_aload_n hx hb dX6_lamp_167 rfl (lv_at hl 0 rfl) ?_
      refine fw_get (C := RX6) (T := TX6) (N := 3) (ci := 6) (v := .ref (fa (mφ μ) 1 0)) hx hb hL6 hown hE hF (e0 μ) (mm0 μ _ _) rfl 0 (by decide) kw1 rfl dX6_lamp_168 ?_
      refine lv_sipush (v := (140 : Int32)) hx hb dX6_lamp_171 (by decide) ?_
      refine lv_iload_n hx hb dX6_lamp_174 rfl (lv_at hl 1 rfl) ?_
      refine lv_iadd hx hb dX6_lamp_175 ?_
      obtain ⟨k23, h⟩ := ck h
      refine fw_iald (q := (((140 : Int32)) + a0).toNatClampNeg) hx hb hE hF (e1 μ) (mm1 μ _) 0 rfl k23 rfl dX6_lamp_176 ?_
      exact fw_iret hx hb hr hlk h hF hS dX6_lamp_177
    have h := iff0 h c22
    by_cases c24 : a1 = 10
    · refine lv_tableIn (tgt := 178) (off := 168) hx hb dX6_lamp_10 (by rw [c24]; decide) (by rw [c24]; decide) (by rw [c24]; rfl) (by decide) ?_
      have h := ift h c24
      refine lv_aload_n hx hb dX6_lamp_178 rfl (lv_at hl 0 rfl) ?_
      refine fw_get (C := RX6) (T := TX6) (N := 3) (ci := 6) (v := .ref (fa (mφ μ) 1 0)) hx hb hL6 hown hE hF (e0 μ) (mm0 μ _ _) rfl 0 (by decide) kw1 rfl dX6_lamp_179 ?_
      refine lv_sipush (v := (150 : Int32)) hx hb dX6_lamp_182 (by decide) ?_
      refine lv_iload_n hx hb dX6_lamp_185 rfl (lv_at hl 1 rfl) ?_
      refine lv_iadd hx hb dX6_lamp_186 ?_
      obtain ⟨k25, h⟩ := ck h
      refine fw_iald (q := (((150 : Int32)) + a0).toNatClampNeg) hx hb hE hF (e1 μ) (mm1 μ _) 0 rfl k25 rfl dX6_lamp_187 ?_
      exact fw_iret hx hb hr hlk h hF hS dX6_lamp_188
    have h := iff0 h c24
    by_cases c26 : a1 = 11
    · refine lv_tableIn (tgt := 189) (off := 179) hx hb dX6_lamp_10 (by rw [c26]; decide) (by rw [c26]; decide) (by rw [c26]; rfl) (by decide) ?_
      have h := ift h c26
      refine lv_aload_n hx hb dX6_lamp_189 rfl (lv_at hl 0 rfl) ?_
      refine fw_get (C := RX6) (T := TX6) (N := 3) (ci := 6) (v := .ref (fa (mφ μ) 1 0)) hx hb hL6 hown hE hF (e0 μ) (mm0 μ _ _) rfl 0 (by decide) kw1 rfl dX6_lamp_190 ?_
      refine lv_sipush (v := (160 : Int32)) hx hb dX6_lamp_193 (by decide) ?_
      refine lv_iload_n hx hb dX6_lamp_196 rfl (lv_at hl 1 rfl) ?_
      refine lv_iadd hx hb dX6_lamp_197 ?_
      obtain ⟨k27, h⟩ := ck h
      refine fw_iald (q := (((160 : Int32)) + a0).toNatClampNeg) hx hb hE hF (e1 μ) (mm1 μ _) 0 rfl k27 rfl dX6_lamp_198 ?_
      exact fw_iret hx hb hr hlk h hF hS dX6_lamp_199
    have h := iff0 h c26
    by_cases c28 : a1 = 12
    · refine lv_tableIn (tgt := 200) (off := 190) hx hb dX6_lamp_10 (by rw [c28]; decide) (by rw [c28]; decide) (by rw [c28]; rfl) (by decide) ?_
      have h := ift h c28
      refine lv_aload_n hx hb dX6_lamp_200 rfl (lv_at hl 0 rfl) ?_
      refine fw_get (C := RX6) (T := TX6) (N := 3) (ci := 6) (v := .ref (fa (mφ μ) 1 0)) hx hb hL6 hown hE hF (e0 μ) (mm0 μ _ _) rfl 0 (by decide) kw1 rfl dX6_lamp_201 ?_
      refine lv_iconst (v := (0 : Int32)) hx hb dX6_lamp_204 (by decide) ?_
      refine lv_iload_n hx hb dX6_lamp_205 rfl (lv_at hl 1 rfl) ?_
      refine lv_iadd hx hb dX6_lamp_206 ?_
      obtain ⟨k29, h⟩ := ck h
      refine fw_iald (q := (((0 : Int32)) + a0).toNatClampNeg) hx hb hE hF (e1 μ) (mm1 μ _) 0 rfl k29 rfl dX6_lamp_207 ?_
      obtain ⟨r31, q30, h⟩ := bnd h
      try dsimp only at h
      refine pw_call (va_runS (As := [.int (g 1 0 ((((0 : Int32)) + a0).toNatClampNeg))]) (rest := []) ⟨hx, hb, hml, hown, hts⟩ (c_X6_bits l q30) (va_cwS 1 hts gX6_lamp_X6_bits rfl rfl rfl qs_X6_bits ⟨Nat.le_of_ble_eq_true rfl, Nat.le_of_ble_eq_true rfl⟩) preEq rfl rfl hl.1 rfl (lv_room (Nat.le_of_ble_eq_true rfl)) dX6_lamp_208 ⟨Nat.le_refl _, Nat.le_refl _⟩) ?_
      exact fw_iret hx hb hr hlk h hF hS dX6_lamp_211
    have h := iff0 h c28
    refine lv_tableOut (tgt := 212) hx hb dX6_lamp_10 (by
      have z0 := lv_neT c4 (a := 0) rfl
      have z1 := lv_neT c6 (a := 1) rfl
      have z2 := lv_neT c8 (a := 2) rfl
      have z3 := lv_neT c10 (a := 3) rfl
      have z4 := lv_neT c12 (a := 4) rfl
      have z5 := lv_neT c14 (a := 5) rfl
      have z6 := lv_neT c16 (a := 6) rfl
      have z7 := lv_neT c18 (a := 7) rfl
      have z8 := lv_neT c20 (a := 8) rfl
      have z9 := lv_neT c22 (a := 9) rfl
      have z10 := lv_neT c24 (a := 10) rfl
      have z11 := lv_neT c26 (a := 11) rfl
      have z12 := lv_neT c28 (a := 12) rfl
      omega) (by decide) ?_
    refine lv_bipush (v := (-2 : Int32)) hx hb dX6_lamp_212 (by decide) ?_
    exact fw_iret hx hb hr hlk h hF hS dX6_lamp_214
  · have h := ift h c3
    refine lv_iconst (v := (-1 : Int32)) hx hb dX6_lamp_7 (by decide) ?_
    exact fw_iret hx hb hr hlk h hF hS dX6_lamp_8
def m_X6_taken (g : Mem) (a0 a1 : Int32) : Option (Int32 × Mem) := (m_X6_isLamp a0).bind (fun r2 => (if r2 = 0 then some ((-1 : Int32), g) else (m_X6_isLamp a1).bind (fun r5 => (if r5 = 0 then some ((-1 : Int32), g) else if ((((330 : Int32)) + (((10 : Int32)) * a0)) + a1 < 0 ∨ 6819 ≤ ((((330 : Int32)) + (((10 : Int32)) * a0)) + a1).toNatClampNeg) then none else some (g 1 0 (((((330 : Int32)) + (((10 : Int32)) * a0)) + a1).toNatClampNeg), g)))))
set_option maxHeartbeats 4000000 in
set_option maxRecDepth 100000 in
theorem c_X6_taken (l : Launch) {μ : Mx} (hok : fok (mφ μ))  {g : Mem} {a0 a1 : Int32} {u : Int32 × Mem} (h : m_X6_taken g a0 a1 = some u) : fM l (mφ μ) yX6_taken wsX6_taken 2 42 [.ref (fa (mφ μ) 0 0), .int a0, .int a1] g (some (.int u.1)) u.2 := by
  refine fM.of (cc := cX6_taken) (maxL := 3) (ret := (some .int)) [(0, .ref (fa (mφ μ) 0 0)), (1, .int a0), (2, .int a1)] (by decide) rfl (Nat.le_of_ble_eq_true rfl) rfl (fun p e s m below meth c ls hx hb hr hml hown hts hlk hE hF hS hl => ?_)
  replace hown : s.vm.findClass RX6 = some m.cls := hown
  have hL6 : ∀ w ∈ u_ws RX6 TX6 3, w.before ([.ref (fa (mφ μ) 0 0), .int a0, .int a1] : List Value).toArray s = true := fun w hw => hts w (by
    unfold wsX6_taken
    simp only [List.mem_cons, List.mem_append]
    exact Or.inr (Or.inr hw))
  have kw1 := hts (.fieldLink RX6 7 "MeshLampsModel" "state" "[I") (List.mem_of_getElem? (i := 1) rfl)
  unfold m_X6_taken at h
  refine lv_iload_n hx hb dX6_taken_0 rfl (lv_at hl 1 rfl) ?_
  obtain ⟨r2, q1, h⟩ := bnd h
  try dsimp only at h
  refine pw_call (va_runS (As := [.int a0]) (rest := []) ⟨hx, hb, hml, hown, hts⟩ (c_X6_isLamp l q1) (va_cwS 1 hts gX6_taken_X6_isLamp rfl rfl rfl qs_X6_isLamp ⟨Nat.le_of_ble_eq_true rfl, Nat.le_of_ble_eq_true rfl⟩) preEq rfl rfl hl.1 rfl (lv_room (Nat.le_of_ble_eq_true rfl)) dX6_taken_1 ⟨Nat.le_refl _, Nat.le_refl _⟩) ?_
  refine lv_if_eq (tgt := 32) hx hb dX6_taken_4 (by decide) (fun c3 => ?_) (fun c3 => ?_)
  · have h := ift h c3
    refine lv_iconst (v := (-1 : Int32)) hx hb dX6_taken_32 (by decide) ?_
    exact fw_iret hx hb hr hlk h hF hS dX6_taken_33
  · have h := iff0 h c3
    refine lv_iload_n hx hb dX6_taken_7 rfl (lv_at hl 2 rfl) ?_
    obtain ⟨r5, q4, h⟩ := bnd h
    try dsimp only at h
    refine pw_call (va_runS (As := [.int a1]) (rest := []) ⟨hx, hb, hml, hown, hts⟩ (c_X6_isLamp l q4) (va_cwS 1 hts gX6_taken_X6_isLamp rfl rfl rfl qs_X6_isLamp ⟨Nat.le_of_ble_eq_true rfl, Nat.le_of_ble_eq_true rfl⟩) preEq rfl rfl hl.1 rfl (lv_room (Nat.le_of_ble_eq_true rfl)) dX6_taken_8 ⟨Nat.le_refl _, Nat.le_refl _⟩) ?_
    refine lv_if_eq (tgt := 32) hx hb dX6_taken_11 (by decide) (fun c6 => ?_) (fun c6 => ?_)
    · have h := ift h c6
      refine lv_iconst (v := (-1 : Int32)) hx hb dX6_taken_32 (by decide) ?_
      exact fw_iret hx hb hr hlk h hF hS dX6_taken_33
    · have h := iff0 h c6
      refine lv_aload_n hx hb dX6_taken_14 rfl (lv_at hl 0 rfl) ?_
      refine fw_get (C := RX6) (T := TX6) (N := 3) (ci := 6) (v := .ref (fa (mφ μ) 1 0)) hx hb hL6 hown hE hF (e0 μ) (mm0 μ _ _) rfl 0 (by decide) kw1 rfl dX6_taken_15 ?_
      refine lv_sipush (v := (330 : Int32)) hx hb dX6_taken_18 (by decide) ?_
      refine lv_bipush (v := (10 : Int32)) hx hb dX6_taken_21 (by decide) ?_
      refine lv_iload_n hx hb dX6_taken_23 rfl (lv_at hl 1 rfl) ?_
      refine lv_imul hx hb dX6_taken_24 ?_
      refine lv_iadd hx hb dX6_taken_25 ?_
      refine lv_iload_n hx hb dX6_taken_26 rfl (lv_at hl 2 rfl) ?_
      refine lv_iadd hx hb dX6_taken_27 ?_
      obtain ⟨k7, h⟩ := ck h
      refine fw_iald (q := ((((330 : Int32)) + (((10 : Int32)) * a0)) + a1).toNatClampNeg) hx hb hE hF (e1 μ) (mm1 μ _) 0 rfl k7 rfl dX6_taken_28 ?_
      refine lv_goto (tgt := 33) hx hb dX6_taken_29 (by decide) ?_
      exact fw_iret hx hb hr hlk h hF hS dX6_taken_33
def m_X6_mind (g : Mem) (a0 a1 a2 : Int32) : Option (Int32 × Mem) := (m_X6_isLamp a0).bind (fun r2 => (if r2 = 0 then some ((-1 : Int32), g) else (m_X6_in a2 ((0 : Int32)) ((1 : Int32))).bind (fun r5 => (if r5 = 0 then some ((-2 : Int32), g) else if (((160 : Int32)) + a0 < 0 ∨ 6819 ≤ (((160 : Int32)) + a0).toNatClampNeg) then none else (m_X6_in a1 ((0 : Int32)) ((g 1 0 ((((160 : Int32)) + a0).toNatClampNeg)) - ((1 : Int32)))).bind (fun r9 => (if r9 = 0 then some ((-6 : Int32), g) else if (((((170 : Int32)) + (((16 : Int32)) * a0)) + (((2 : Int32)) * a1)) + a2 < 0 ∨ 6819 ≤ (((((170 : Int32)) + (((16 : Int32)) * a0)) + (((2 : Int32)) * a1)) + a2).toNatClampNeg) then none else some (g 1 0 ((((((170 : Int32)) + (((16 : Int32)) * a0)) + (((2 : Int32)) * a1)) + a2).toNatClampNeg), g)))))))
set_option maxHeartbeats 4000000 in
set_option maxRecDepth 100000 in
theorem c_X6_mind (l : Launch) {μ : Mx} (hok : fok (mφ μ))  {g : Mem} {a0 a1 a2 : Int32} {u : Int32 × Mem} (h : m_X6_mind g a0 a1 a2 = some u) : fM l (mφ μ) yX6_mind wsX6_mind 2 42 [.ref (fa (mφ μ) 0 0), .int a0, .int a1, .int a2] g (some (.int u.1)) u.2 := by
  refine fM.of (cc := cX6_mind) (maxL := 4) (ret := (some .int)) [(0, .ref (fa (mφ μ) 0 0)), (1, .int a0), (2, .int a1), (3, .int a2)] (by decide) rfl (Nat.le_of_ble_eq_true rfl) rfl (fun p e s m below meth c ls hx hb hr hml hown hts hlk hE hF hS hl => ?_)
  replace hown : s.vm.findClass RX6 = some m.cls := hown
  have hL6 : ∀ w ∈ u_ws RX6 TX6 3, w.before ([.ref (fa (mφ μ) 0 0), .int a0, .int a1, .int a2] : List Value).toArray s = true := fun w hw => hts w (by
    unfold wsX6_mind
    simp only [List.mem_cons, List.mem_append]
    exact Or.inr (Or.inr hw))
  have kw1 := hts (.fieldLink RX6 7 "MeshLampsModel" "state" "[I") (List.mem_of_getElem? (i := 1) rfl)
  unfold m_X6_mind at h
  refine lv_iload_n hx hb dX6_mind_0 rfl (lv_at hl 1 rfl) ?_
  obtain ⟨r2, q1, h⟩ := bnd h
  try dsimp only at h
  refine pw_call (va_runS (As := [.int a0]) (rest := []) ⟨hx, hb, hml, hown, hts⟩ (c_X6_isLamp l q1) (va_cwS 1 hts gX6_mind_X6_isLamp rfl rfl rfl qs_X6_isLamp ⟨Nat.le_of_ble_eq_true rfl, Nat.le_of_ble_eq_true rfl⟩) preEq rfl rfl hl.1 rfl (lv_room (Nat.le_of_ble_eq_true rfl)) dX6_mind_1 ⟨Nat.le_refl _, Nat.le_refl _⟩) ?_
  refine lv_if_ne (tgt := 9) hx hb dX6_mind_4 (by decide) (fun c3 => ?_) (fun c3 => ?_)
  · have h := iff0 h c3
    refine lv_iload_n hx hb dX6_mind_9 rfl (lv_at hl 3 rfl) ?_
    refine lv_iconst (v := (0 : Int32)) hx hb dX6_mind_10 (by decide) ?_
    refine lv_iconst (v := (1 : Int32)) hx hb dX6_mind_11 (by decide) ?_
    obtain ⟨r5, q4, h⟩ := bnd h
    try dsimp only at h
    refine pw_call (va_runS (As := [.int a2, .int ((0 : Int32)), .int ((1 : Int32))]) (rest := []) ⟨hx, hb, hml, hown, hts⟩ (c_X6_in l q4) (va_cwS 3 hts gX6_mind_X6_in rfl rfl rfl qs_X6_in ⟨Nat.le_of_ble_eq_true rfl, Nat.le_of_ble_eq_true rfl⟩) preEq rfl rfl hl.1 rfl (lv_room (Nat.le_of_ble_eq_true rfl)) dX6_mind_12 ⟨Nat.le_refl _, Nat.le_refl _⟩) ?_
    refine lv_if_ne (tgt := 21) hx hb dX6_mind_15 (by decide) (fun c6 => ?_) (fun c6 => ?_)
    · have h := iff0 h c6
      refine lv_iload_n hx hb dX6_mind_21 rfl (lv_at hl 2 rfl) ?_
      refine lv_iconst (v := (0 : Int32)) hx hb dX6_mind_22 (by decide) ?_
      refine lv_aload_n hx hb dX6_mind_23 rfl (lv_at hl 0 rfl) ?_
      refine fw_get (C := RX6) (T := TX6) (N := 3) (ci := 6) (v := .ref (fa (mφ μ) 1 0)) hx hb hL6 hown hE hF (e0 μ) (mm0 μ _ _) rfl 0 (by decide) kw1 rfl dX6_mind_24 ?_
      refine lv_sipush (v := (160 : Int32)) hx hb dX6_mind_27 (by decide) ?_
      refine lv_iload_n hx hb dX6_mind_30 rfl (lv_at hl 1 rfl) ?_
      refine lv_iadd hx hb dX6_mind_31 ?_
      obtain ⟨k7, h⟩ := ck h
      refine fw_iald (q := (((160 : Int32)) + a0).toNatClampNeg) hx hb hE hF (e1 μ) (mm1 μ _) 0 rfl k7 rfl dX6_mind_32 ?_
      refine lv_iconst (v := (1 : Int32)) hx hb dX6_mind_33 (by decide) ?_
      refine lv_isub hx hb dX6_mind_34 ?_
      obtain ⟨r9, q8, h⟩ := bnd h
      try dsimp only at h
      refine pw_call (va_runS (As := [.int a1, .int ((0 : Int32)), .int ((g 1 0 ((((160 : Int32)) + a0).toNatClampNeg)) - ((1 : Int32)))]) (rest := []) ⟨hx, hb, hml, hown, hts⟩ (c_X6_in l q8) (va_cwS 3 hts gX6_mind_X6_in rfl rfl rfl qs_X6_in ⟨Nat.le_of_ble_eq_true rfl, Nat.le_of_ble_eq_true rfl⟩) preEq rfl rfl hl.1 rfl (lv_room (Nat.le_of_ble_eq_true rfl)) dX6_mind_35 ⟨Nat.le_refl _, Nat.le_refl _⟩) ?_
      refine lv_if_eq (tgt := 63) hx hb dX6_mind_38 (by decide) (fun c10 => ?_) (fun c10 => ?_)
      · have h := ift h c10
        refine lv_bipush (v := (-6 : Int32)) hx hb dX6_mind_63 (by decide) ?_
        exact fw_iret hx hb hr hlk h hF hS dX6_mind_65
      · have h := iff0 h c10
        refine lv_aload_n hx hb dX6_mind_41 rfl (lv_at hl 0 rfl) ?_
        refine fw_get (C := RX6) (T := TX6) (N := 3) (ci := 6) (v := .ref (fa (mφ μ) 1 0)) hx hb hL6 hown hE hF (e0 μ) (mm0 μ _ _) rfl 0 (by decide) kw1 rfl dX6_mind_42 ?_
        refine lv_sipush (v := (170 : Int32)) hx hb dX6_mind_45 (by decide) ?_
        refine lv_bipush (v := (16 : Int32)) hx hb dX6_mind_48 (by decide) ?_
        refine lv_iload_n hx hb dX6_mind_50 rfl (lv_at hl 1 rfl) ?_
        refine lv_imul hx hb dX6_mind_51 ?_
        refine lv_iadd hx hb dX6_mind_52 ?_
        refine lv_iconst (v := (2 : Int32)) hx hb dX6_mind_53 (by decide) ?_
        refine lv_iload_n hx hb dX6_mind_54 rfl (lv_at hl 2 rfl) ?_
        refine lv_imul hx hb dX6_mind_55 ?_
        refine lv_iadd hx hb dX6_mind_56 ?_
        refine lv_iload_n hx hb dX6_mind_57 rfl (lv_at hl 3 rfl) ?_
        refine lv_iadd hx hb dX6_mind_58 ?_
        obtain ⟨k11, h⟩ := ck h
        refine fw_iald (q := (((((170 : Int32)) + (((16 : Int32)) * a0)) + (((2 : Int32)) * a1)) + a2).toNatClampNeg) hx hb hE hF (e1 μ) (mm1 μ _) 0 rfl k11 rfl dX6_mind_59 ?_
        refine lv_goto (tgt := 65) hx hb dX6_mind_60 (by decide) ?_
        exact fw_iret hx hb hr hlk h hF hS dX6_mind_65
    · have h := ift h c6
      refine lv_bipush (v := (-2 : Int32)) hx hb dX6_mind_18 (by decide) ?_
      exact fw_iret hx hb hr hlk h hF hS dX6_mind_20
  · have h := ift h c3
    refine lv_iconst (v := (-1 : Int32)) hx hb dX6_mind_7 (by decide) ?_
    exact fw_iret hx hb hr hlk h hF hS dX6_mind_8
def m_X6_air (g : Mem) (a0 a1 : Int32) : Option (Int32 × Mem) := (m_X6_in a1 ((0 : Int32)) ((4 : Int32))).bind (fun r2 => (if r2 = 0 then some ((-2 : Int32), g) else (m_X6_in a0 ((0 : Int32)) ((g 1 0 6815) - ((1 : Int32)))).bind (fun r6 => (if r6 = 0 then some ((-6 : Int32), g) else if ((((490 : Int32)) + (((5 : Int32)) * a0)) + a1 < 0 ∨ 6819 ≤ ((((490 : Int32)) + (((5 : Int32)) * a0)) + a1).toNatClampNeg) then none else some (g 1 0 (((((490 : Int32)) + (((5 : Int32)) * a0)) + a1).toNatClampNeg), g)))))
set_option maxHeartbeats 4000000 in
set_option maxRecDepth 100000 in
theorem c_X6_air (l : Launch) {μ : Mx} (hok : fok (mφ μ))  {g : Mem} {a0 a1 : Int32} {u : Int32 × Mem} (h : m_X6_air g a0 a1 = some u) : fM l (mφ μ) yX6_air wsX6_air 1 22 [.ref (fa (mφ μ) 0 0), .int a0, .int a1] g (some (.int u.1)) u.2 := by
  refine fM.of (cc := cX6_air) (maxL := 3) (ret := (some .int)) [(0, .ref (fa (mφ μ) 0 0)), (1, .int a0), (2, .int a1)] (by decide) rfl (Nat.le_of_ble_eq_true rfl) rfl (fun p e s m below meth c ls hx hb hr hml hown hts hlk hE hF hS hl => ?_)
  replace hown : s.vm.findClass RX6 = some m.cls := hown
  have hL6 : ∀ w ∈ u_ws RX6 TX6 3, w.before ([.ref (fa (mφ μ) 0 0), .int a0, .int a1] : List Value).toArray s = true := fun w hw => hts w (by
    unfold wsX6_air
    simp only [List.mem_cons, List.mem_append]
    exact Or.inr (Or.inr hw))
  have kw1 := hts (.fieldLink RX6 7 "MeshLampsModel" "state" "[I") (List.mem_of_getElem? (i := 1) rfl)
  unfold m_X6_air at h
  refine lv_iload_n hx hb dX6_air_0 rfl (lv_at hl 2 rfl) ?_
  refine lv_iconst (v := (0 : Int32)) hx hb dX6_air_1 (by decide) ?_
  refine lv_iconst (v := (4 : Int32)) hx hb dX6_air_2 (by decide) ?_
  obtain ⟨r2, q1, h⟩ := bnd h
  try dsimp only at h
  refine pw_call (va_runS (As := [.int a1, .int ((0 : Int32)), .int ((4 : Int32))]) (rest := []) ⟨hx, hb, hml, hown, hts⟩ (c_X6_in l q1) (va_cwS 3 hts gX6_air_X6_in rfl rfl rfl qs_X6_in ⟨Nat.le_of_ble_eq_true rfl, Nat.le_of_ble_eq_true rfl⟩) preEq rfl rfl hl.1 rfl (lv_room (Nat.le_of_ble_eq_true rfl)) dX6_air_3 ⟨Nat.le_refl _, Nat.le_refl _⟩) ?_
  refine lv_if_ne (tgt := 12) hx hb dX6_air_6 (by decide) (fun c3 => ?_) (fun c3 => ?_)
  · have h := iff0 h c3
    refine lv_iload_n hx hb dX6_air_12 rfl (lv_at hl 1 rfl) ?_
    refine lv_iconst (v := (0 : Int32)) hx hb dX6_air_13 (by decide) ?_
    refine lv_aload_n hx hb dX6_air_14 rfl (lv_at hl 0 rfl) ?_
    refine fw_get (C := RX6) (T := TX6) (N := 3) (ci := 6) (v := .ref (fa (mφ μ) 1 0)) hx hb hL6 hown hE hF (e0 μ) (mm0 μ _ _) rfl 0 (by decide) kw1 rfl dX6_air_15 ?_
    refine lv_sipush (v := (6815 : Int32)) hx hb dX6_air_18 (by decide) ?_
    refine fw_iald (q := 6815) hx hb hE hF (e1 μ) (mm1 μ _) 0 rfl (by decide) (by decide) dX6_air_21 ?_
    refine lv_iconst (v := (1 : Int32)) hx hb dX6_air_22 (by decide) ?_
    refine lv_isub hx hb dX6_air_23 ?_
    obtain ⟨r6, q5, h⟩ := bnd h
    try dsimp only at h
    refine pw_call (va_runS (As := [.int a0, .int ((0 : Int32)), .int ((g 1 0 6815) - ((1 : Int32)))]) (rest := []) ⟨hx, hb, hml, hown, hts⟩ (c_X6_in l q5) (va_cwS 3 hts gX6_air_X6_in rfl rfl rfl qs_X6_in ⟨Nat.le_of_ble_eq_true rfl, Nat.le_of_ble_eq_true rfl⟩) preEq rfl rfl hl.1 rfl (lv_room (Nat.le_of_ble_eq_true rfl)) dX6_air_24 ⟨Nat.le_refl _, Nat.le_refl _⟩) ?_
    refine lv_if_eq (tgt := 47) hx hb dX6_air_27 (by decide) (fun c7 => ?_) (fun c7 => ?_)
    · have h := ift h c7
      refine lv_bipush (v := (-6 : Int32)) hx hb dX6_air_47 (by decide) ?_
      exact fw_iret hx hb hr hlk h hF hS dX6_air_49
    · have h := iff0 h c7
      refine lv_aload_n hx hb dX6_air_30 rfl (lv_at hl 0 rfl) ?_
      refine fw_get (C := RX6) (T := TX6) (N := 3) (ci := 6) (v := .ref (fa (mφ μ) 1 0)) hx hb hL6 hown hE hF (e0 μ) (mm0 μ _ _) rfl 0 (by decide) kw1 rfl dX6_air_31 ?_
      refine lv_sipush (v := (490 : Int32)) hx hb dX6_air_34 (by decide) ?_
      refine lv_iconst (v := (5 : Int32)) hx hb dX6_air_37 (by decide) ?_
      refine lv_iload_n hx hb dX6_air_38 rfl (lv_at hl 1 rfl) ?_
      refine lv_imul hx hb dX6_air_39 ?_
      refine lv_iadd hx hb dX6_air_40 ?_
      refine lv_iload_n hx hb dX6_air_41 rfl (lv_at hl 2 rfl) ?_
      refine lv_iadd hx hb dX6_air_42 ?_
      obtain ⟨k8, h⟩ := ck h
      refine fw_iald (q := ((((490 : Int32)) + (((5 : Int32)) * a0)) + a1).toNatClampNeg) hx hb hE hF (e1 μ) (mm1 μ _) 0 rfl k8 rfl dX6_air_43 ?_
      refine lv_goto (tgt := 49) hx hb dX6_air_44 (by decide) ?_
      exact fw_iret hx hb hr hlk h hF hS dX6_air_49
  · have h := ift h c3
    refine lv_bipush (v := (-2 : Int32)) hx hb dX6_air_9 (by decide) ?_
    exact fw_iret hx hb hr hlk h hF hS dX6_air_11
def st_X6_image_14 (F : Nat) (K : Mem → Int32 → Int32 → Option (Int32 × Mem)) (g : Mem) (x1 x2 : Int32) : Option (Int32 × Mem) := (if ((6819 : Int32)) ≤ x2 then if (x1 < 0 ∨ 2 ≤ x1.toNatClampNeg) then none else ltm (upr g 3 0 (upd (g 3 0) x1.toNatClampNeg ((1 : Int32)))) (fun g6 => some ((1 : Int32), g6)) else if (x2 < 0 ∨ 6819 ≤ x2.toNatClampNeg) then none else if ((((6819 : Int32)) * x1) + x2 < 0 ∨ 13638 ≤ ((((6819 : Int32)) * x1) + x2).toNatClampNeg) then none else ltm (upr g 2 0 (upd (g 2 0) ((((6819 : Int32)) * x1) + x2).toNatClampNeg (g 1 0 (x2.toNatClampNeg)))) (fun g10 => K g10 x1 (x2 + (1 : Int32))))
def lp_X6_image_14 (F : Nat) : Nat → Mem → Int32 → Int32 → Option (Int32 × Mem)
  | 0, _, _, _ => none
  | f + 1, g, x1, x2 => st_X6_image_14 F (lp_X6_image_14 F f ) g x1 x2
def m_X6_image (F : Nat) (g : Mem) (a0 : Int32) : Option (Int32 × Mem) := (m_X6_in a0 ((0 : Int32)) ((1 : Int32))).bind (fun r2 => (if r2 = 0 then some ((-2 : Int32), g) else lp_X6_image_14 F F g a0 ((0 : Int32))))
set_option maxHeartbeats 4000000 in
set_option maxRecDepth 100000 in
theorem c_X6_image (l : Launch) {μ : Mx} (hok : fok (mφ μ))  {F : Nat} {g : Mem} {a0 : Int32} {u : Int32 × Mem} (h : m_X6_image F g a0 = some u) : fM l (mφ μ) yX6_image wsX6_image 1 22 [.ref (fa (mφ μ) 0 0), .int a0] g (some (.int u.1)) u.2 := by
  refine fM.of (cc := cX6_image) (maxL := 3) (ret := (some .int)) [(0, .ref (fa (mφ μ) 0 0)), (1, .int a0)] (by decide) rfl (Nat.le_of_ble_eq_true rfl) rfl (fun p e s m below meth c ls hx hb hr hml hown hts hlk hE hF hS hl => ?_)
  replace hown : s.vm.findClass RX6 = some m.cls := hown
  have hL6 : ∀ w ∈ u_ws RX6 TX6 3, w.before ([.ref (fa (mφ μ) 0 0), .int a0] : List Value).toArray s = true := fun w hw => hts w (by
    unfold wsX6_image
    simp only [List.mem_cons, List.mem_append]
    exact Or.inr (Or.inr hw))
  have kw3 := hts (.fieldLink RX6 16 "MeshLampsModel" "isKept" "[Z") (List.mem_of_getElem? (i := 3) rfl)
  have kw1 := hts (.fieldLink RX6 13 "MeshLampsModel" "images" "[I") (List.mem_of_getElem? (i := 1) rfl)
  have kw2 := hts (.fieldLink RX6 7 "MeshLampsModel" "state" "[I") (List.mem_of_getElem? (i := 2) rfl)
  unfold m_X6_image at h
  refine lv_iload_n hx hb dX6_image_0 rfl (lv_at hl 1 rfl) ?_
  refine lv_iconst (v := (0 : Int32)) hx hb dX6_image_1 (by decide) ?_
  refine lv_iconst (v := (1 : Int32)) hx hb dX6_image_2 (by decide) ?_
  obtain ⟨r2, q1, h⟩ := bnd h
  try dsimp only at h
  refine pw_call (va_runS (As := [.int a0, .int ((0 : Int32)), .int ((1 : Int32))]) (rest := []) ⟨hx, hb, hml, hown, hts⟩ (c_X6_in l q1) (va_cwS 3 hts gX6_image_X6_in rfl rfl rfl qs_X6_in ⟨Nat.le_of_ble_eq_true rfl, Nat.le_of_ble_eq_true rfl⟩) preEq rfl rfl hl.1 rfl (lv_room (Nat.le_of_ble_eq_true rfl)) dX6_image_3 ⟨Nat.le_refl _, Nat.le_refl _⟩) ?_
  refine lv_if_ne (tgt := 12) hx hb dX6_image_6 (by decide) (fun c3 => ?_) (fun c3 => ?_)
  · have h := iff0 h c3
    refine lv_iconst (v := (0 : Int32)) hx hb dX6_image_12 (by decide) ?_
    refine lv_istore_n (lv' := [(2, .int ((0 : Int32))), (0, .ref (fa (mφ μ) 0 0)), (1, .int a0)]) hx hb dX6_image_13 rfl hl (by decide) rfl (fun ls hl => ?_)
    have LOOP14 : ∀ (f : Nat) (g : Mem) (x1 x2 : Int32) (H : Heap) (locs : List Loc) (ls : Array Slot), lp_X6_image_14 F f g x1 x2 = some u → fw (mφ μ) g H → va_S (fA (mφ μ)) s.heap H locs → lv_has ls 3 [(0, .ref (fa (mφ μ) 0 0)), (1, .int x1), (2, .int x2)] → W p l e ({ frames := 1, cells := 0, slots := 0, locals := 22 }) s m ([.ref (fa (mφ μ) 0 0), .int a0] : List Value).toArray below meth c H locs 0 0 (MQ below (fQ (mφ μ) (some (.int u.1)) u.2) ([.ref (fa (mφ μ) 0 0), .int a0] : List Value).toArray s 0 0 (fA (mφ μ))) (F0 m 14 ls []) := by
      intro f
      induction f with
      | zero => intro g x1 x2 H locs ls h hF hS hl; cases h
      | succ f ih =>
        intro g x1 x2 H locs ls h hF hS hl
        replace h : st_X6_image_14 F (lp_X6_image_14 F f ) g x1 x2 = some u := h
        unfold st_X6_image_14 at h
        refine lv_iload_n hx hb dX6_image_14 rfl (lv_at hl 2 rfl) ?_
        refine lv_sipush (v := (6819 : Int32)) hx hb dX6_image_15 (by decide) ?_
        refine lv_icmp_ge (tgt := 45) hx hb dX6_image_18 (by decide) (fun c4 => ?_) (fun c4 => ?_)
        · have h := ift h c4
          refine lv_aload_n hx hb dX6_image_45 rfl (lv_at hl 0 rfl) ?_
          refine fw_get (C := RX6) (T := TX6) (N := 3) (ci := 6) (v := .ref (fa (mφ μ) 3 0)) hx hb hL6 hown hE hF (e0 μ) (mm0 μ _ _) rfl 2 (by decide) kw3 rfl dX6_image_46 ?_
          refine lv_iload_n hx hb dX6_image_49 rfl (lv_at hl 1 rfl) ?_
          refine lv_iconst (v := (1 : Int32)) hx hb dX6_image_50 (by decide) ?_
          obtain ⟨k5, h⟩ := ck h
          refine fw_zast (q := x1.toNatClampNeg) hx hb hE hok hF hS (e3 μ) (mm3 μ _) 1 rfl k5 rfl rfl dX6_image_51 (fun H locs hF hS => ?_)
          obtain ⟨g6, e7, h⟩ := ltm_e h
          rw [e7] at hF
          refine lv_iconst (v := (1 : Int32)) hx hb dX6_image_52 (by decide) ?_
          exact fw_iret hx hb hr hlk h hF hS dX6_image_53
        · have h := iff0 h c4
          refine lv_aload_n hx hb dX6_image_21 rfl (lv_at hl 0 rfl) ?_
          refine fw_get (C := RX6) (T := TX6) (N := 3) (ci := 6) (v := .ref (fa (mφ μ) 2 0)) hx hb hL6 hown hE hF (e0 μ) (mm0 μ _ _) rfl 1 (by decide) kw1 rfl dX6_image_22 ?_
          refine lv_sipush (v := (6819 : Int32)) hx hb dX6_image_25 (by decide) ?_
          refine lv_iload_n hx hb dX6_image_28 rfl (lv_at hl 1 rfl) ?_
          refine lv_imul hx hb dX6_image_29 ?_
          refine lv_iload_n hx hb dX6_image_30 rfl (lv_at hl 2 rfl) ?_
          refine lv_iadd hx hb dX6_image_31 ?_
          refine lv_aload_n hx hb dX6_image_32 rfl (lv_at hl 0 rfl) ?_
          refine fw_get (C := RX6) (T := TX6) (N := 3) (ci := 6) (v := .ref (fa (mφ μ) 1 0)) hx hb hL6 hown hE hF (e0 μ) (mm0 μ _ _) rfl 0 (by decide) kw2 rfl dX6_image_33 ?_
          refine lv_iload_n hx hb dX6_image_36 rfl (lv_at hl 2 rfl) ?_
          obtain ⟨k8, h⟩ := ck h
          refine fw_iald (q := x2.toNatClampNeg) hx hb hE hF (e1 μ) (mm1 μ _) 0 rfl k8 rfl dX6_image_37 ?_
          obtain ⟨k9, h⟩ := ck h
          refine fw_iast (q := ((((6819 : Int32)) * x1) + x2).toNatClampNeg) hx hb hE hok hF hS (e2 μ) (mm2 μ _) 0 rfl k9 rfl dX6_image_38 (fun H locs hF hS => ?_)
          obtain ⟨g10, e11, h⟩ := ltm_e h
          rw [e11] at hF
          refine lv_iinc (v := x2 + (1 : Int32)) (lv' := [(2, .int (x2 + (1 : Int32))), (0, .ref (fa (mφ μ) 0 0)), (1, .int x1)]) hx hb dX6_image_39 hl (k := 2) rfl rfl (by decide) rfl (fun ls hl => ?_)
          refine lv_goto (tgt := 14) hx hb dX6_image_42 (by decide) ?_
          exact ih g10 x1 (x2 + (1 : Int32)) H locs ls h hF hS (lv_sub hl [1, 2, 0] rfl)
    exact LOOP14 F g a0 ((0 : Int32)) _ _ ls h hF hS (lv_sub hl [1, 2, 0] rfl)
  · have h := ift h c3
    refine lv_bipush (v := (-2 : Int32)) hx hb dX6_image_9 (by decide) ?_
    exact fw_iret hx hb hr hlk h hF hS dX6_image_11
def st_X6_restore_26 (F : Nat) (K : Mem → Int32 → Int32 → Option (Int32 × Mem)) (g : Mem) (x1 x2 : Int32) : Option (Int32 × Mem) := (if ((6819 : Int32)) ≤ x2 then some ((1 : Int32), g) else if ((((6819 : Int32)) * x1) + x2 < 0 ∨ 13638 ≤ ((((6819 : Int32)) * x1) + x2).toNatClampNeg) then none else if (x2 < 0 ∨ 6819 ≤ x2.toNatClampNeg) then none else ltm (upr g 1 0 (upd (g 1 0) x2.toNatClampNeg (g 2 0 (((((6819 : Int32)) * x1) + x2).toNatClampNeg)))) (fun g9 => K g9 x1 (x2 + (1 : Int32))))
def lp_X6_restore_26 (F : Nat) : Nat → Mem → Int32 → Int32 → Option (Int32 × Mem)
  | 0, _, _, _ => none
  | f + 1, g, x1, x2 => st_X6_restore_26 F (lp_X6_restore_26 F f ) g x1 x2
def m_X6_restore (F : Nat) (g : Mem) (a0 : Int32) : Option (Int32 × Mem) := (m_X6_in a0 ((0 : Int32)) ((1 : Int32))).bind (fun r2 => (if r2 = 0 then some ((-2 : Int32), g) else if (a0 < 0 ∨ 2 ≤ a0.toNatClampNeg) then none else (if (g 3 0 (a0.toNatClampNeg)) = 0 then some ((-3 : Int32), g) else lp_X6_restore_26 F F g a0 ((0 : Int32)))))
set_option maxHeartbeats 4000000 in
set_option maxRecDepth 100000 in
theorem c_X6_restore (l : Launch) {μ : Mx} (hok : fok (mφ μ))  {F : Nat} {g : Mem} {a0 : Int32} {u : Int32 × Mem} (h : m_X6_restore F g a0 = some u) : fM l (mφ μ) yX6_restore wsX6_restore 1 22 [.ref (fa (mφ μ) 0 0), .int a0] g (some (.int u.1)) u.2 := by
  refine fM.of (cc := cX6_restore) (maxL := 3) (ret := (some .int)) [(0, .ref (fa (mφ μ) 0 0)), (1, .int a0)] (by decide) rfl (Nat.le_of_ble_eq_true rfl) rfl (fun p e s m below meth c ls hx hb hr hml hown hts hlk hE hF hS hl => ?_)
  replace hown : s.vm.findClass RX6 = some m.cls := hown
  have hL6 : ∀ w ∈ u_ws RX6 TX6 3, w.before ([.ref (fa (mφ μ) 0 0), .int a0] : List Value).toArray s = true := fun w hw => hts w (by
    unfold wsX6_restore
    simp only [List.mem_cons, List.mem_append]
    exact Or.inr (Or.inr hw))
  have kw1 := hts (.fieldLink RX6 16 "MeshLampsModel" "isKept" "[Z") (List.mem_of_getElem? (i := 1) rfl)
  have kw2 := hts (.fieldLink RX6 7 "MeshLampsModel" "state" "[I") (List.mem_of_getElem? (i := 2) rfl)
  have kw3 := hts (.fieldLink RX6 13 "MeshLampsModel" "images" "[I") (List.mem_of_getElem? (i := 3) rfl)
  unfold m_X6_restore at h
  refine lv_iload_n hx hb dX6_restore_0 rfl (lv_at hl 1 rfl) ?_
  refine lv_iconst (v := (0 : Int32)) hx hb dX6_restore_1 (by decide) ?_
  refine lv_iconst (v := (1 : Int32)) hx hb dX6_restore_2 (by decide) ?_
  obtain ⟨r2, q1, h⟩ := bnd h
  try dsimp only at h
  refine pw_call (va_runS (As := [.int a0, .int ((0 : Int32)), .int ((1 : Int32))]) (rest := []) ⟨hx, hb, hml, hown, hts⟩ (c_X6_in l q1) (va_cwS 3 hts gX6_restore_X6_in rfl rfl rfl qs_X6_in ⟨Nat.le_of_ble_eq_true rfl, Nat.le_of_ble_eq_true rfl⟩) preEq rfl rfl hl.1 rfl (lv_room (Nat.le_of_ble_eq_true rfl)) dX6_restore_3 ⟨Nat.le_refl _, Nat.le_refl _⟩) ?_
  refine lv_if_ne (tgt := 12) hx hb dX6_restore_6 (by decide) (fun c3 => ?_) (fun c3 => ?_)
  · have h := iff0 h c3
    refine lv_aload_n hx hb dX6_restore_12 rfl (lv_at hl 0 rfl) ?_
    refine fw_get (C := RX6) (T := TX6) (N := 3) (ci := 6) (v := .ref (fa (mφ μ) 3 0)) hx hb hL6 hown hE hF (e0 μ) (mm0 μ _ _) rfl 2 (by decide) kw1 rfl dX6_restore_13 ?_
    refine lv_iload_n hx hb dX6_restore_16 rfl (lv_at hl 1 rfl) ?_
    obtain ⟨k4, h⟩ := ck h
    refine fw_zald (q := a0.toNatClampNeg) hx hb hE hF (e3 μ) (mm3 μ _) 1 rfl k4 rfl dX6_restore_17 ?_
    refine lv_if_ne (tgt := 24) hx hb dX6_restore_18 (by decide) (fun c5 => ?_) (fun c5 => ?_)
    · have h := iff0 h c5
      refine lv_iconst (v := (0 : Int32)) hx hb dX6_restore_24 (by decide) ?_
      refine lv_istore_n (lv' := [(2, .int ((0 : Int32))), (0, .ref (fa (mφ μ) 0 0)), (1, .int a0)]) hx hb dX6_restore_25 rfl hl (by decide) rfl (fun ls hl => ?_)
      have LOOP26 : ∀ (f : Nat) (g : Mem) (x1 x2 : Int32) (H : Heap) (locs : List Loc) (ls : Array Slot), lp_X6_restore_26 F f g x1 x2 = some u → fw (mφ μ) g H → va_S (fA (mφ μ)) s.heap H locs → lv_has ls 3 [(0, .ref (fa (mφ μ) 0 0)), (1, .int x1), (2, .int x2)] → W p l e ({ frames := 1, cells := 0, slots := 0, locals := 22 }) s m ([.ref (fa (mφ μ) 0 0), .int a0] : List Value).toArray below meth c H locs 0 0 (MQ below (fQ (mφ μ) (some (.int u.1)) u.2) ([.ref (fa (mφ μ) 0 0), .int a0] : List Value).toArray s 0 0 (fA (mφ μ))) (F0 m 26 ls []) := by
        intro f
        induction f with
        | zero => intro g x1 x2 H locs ls h hF hS hl; cases h
        | succ f ih =>
          intro g x1 x2 H locs ls h hF hS hl
          replace h : st_X6_restore_26 F (lp_X6_restore_26 F f ) g x1 x2 = some u := h
          unfold st_X6_restore_26 at h
          refine lv_iload_n hx hb dX6_restore_26 rfl (lv_at hl 2 rfl) ?_
          refine lv_sipush (v := (6819 : Int32)) hx hb dX6_restore_27 (by decide) ?_
          refine lv_icmp_ge (tgt := 57) hx hb dX6_restore_30 (by decide) (fun c6 => ?_) (fun c6 => ?_)
          · have h := ift h c6
            refine lv_iconst (v := (1 : Int32)) hx hb dX6_restore_57 (by decide) ?_
            exact fw_iret hx hb hr hlk h hF hS dX6_restore_58
          · have h := iff0 h c6
            refine lv_aload_n hx hb dX6_restore_33 rfl (lv_at hl 0 rfl) ?_
            refine fw_get (C := RX6) (T := TX6) (N := 3) (ci := 6) (v := .ref (fa (mφ μ) 1 0)) hx hb hL6 hown hE hF (e0 μ) (mm0 μ _ _) rfl 0 (by decide) kw2 rfl dX6_restore_34 ?_
            refine lv_iload_n hx hb dX6_restore_37 rfl (lv_at hl 2 rfl) ?_
            refine lv_aload_n hx hb dX6_restore_38 rfl (lv_at hl 0 rfl) ?_
            refine fw_get (C := RX6) (T := TX6) (N := 3) (ci := 6) (v := .ref (fa (mφ μ) 2 0)) hx hb hL6 hown hE hF (e0 μ) (mm0 μ _ _) rfl 1 (by decide) kw3 rfl dX6_restore_39 ?_
            refine lv_sipush (v := (6819 : Int32)) hx hb dX6_restore_42 (by decide) ?_
            refine lv_iload_n hx hb dX6_restore_45 rfl (lv_at hl 1 rfl) ?_
            refine lv_imul hx hb dX6_restore_46 ?_
            refine lv_iload_n hx hb dX6_restore_47 rfl (lv_at hl 2 rfl) ?_
            refine lv_iadd hx hb dX6_restore_48 ?_
            obtain ⟨k7, h⟩ := ck h
            refine fw_iald (q := ((((6819 : Int32)) * x1) + x2).toNatClampNeg) hx hb hE hF (e2 μ) (mm2 μ _) 0 rfl k7 rfl dX6_restore_49 ?_
            obtain ⟨k8, h⟩ := ck h
            refine fw_iast (q := x2.toNatClampNeg) hx hb hE hok hF hS (e1 μ) (mm1 μ _) 0 rfl k8 rfl dX6_restore_50 (fun H locs hF hS => ?_)
            obtain ⟨g9, e10, h⟩ := ltm_e h
            rw [e10] at hF
            refine lv_iinc (v := x2 + (1 : Int32)) (lv' := [(2, .int (x2 + (1 : Int32))), (0, .ref (fa (mφ μ) 0 0)), (1, .int x1)]) hx hb dX6_restore_51 hl (k := 2) rfl rfl (by decide) rfl (fun ls hl => ?_)
            refine lv_goto (tgt := 26) hx hb dX6_restore_54 (by decide) ?_
            exact ih g9 x1 (x2 + (1 : Int32)) H locs ls h hF hS (lv_sub hl [1, 2, 0] rfl)
      exact LOOP26 F g a0 ((0 : Int32)) _ _ ls h hF hS (lv_sub hl [1, 2, 0] rfl)
    · have h := ift h c5
      refine lv_bipush (v := (-3 : Int32)) hx hb dX6_restore_21 (by decide) ?_
      exact fw_iret hx hb hr hlk h hF hS dX6_restore_23
  · have h := ift h c3
    refine lv_bipush (v := (-2 : Int32)) hx hb dX6_restore_9 (by decide) ?_
    exact fw_iret hx hb hr hlk h hF hS dX6_restore_11
def m_X6_count (F : Nat) (g : Mem) (a0 : Int32) : Option (Int32 × Mem) := (if a0 = 0 then some (g 1 0 6810, g) else (if a0 = 1 then some (g 1 0 6811, g) else (if a0 = 2 then some (g 1 0 6812, g) else (if a0 = 3 then some (g 1 0 6815, g) else (if a0 = 4 then (m_X6_asleep F g ).bind (fun (r11, g12) => some (r11, g12)) else (if a0 = 5 then (m_X6_lights F g ).bind (fun (r16, g17) => some (r16, g17)) else (if a0 = 6 then some (g 1 0 6816, g) else (if a0 = 7 then some (g 1 0 6817, g) else (if a0 = 8 then some (g 1 0 6818, g) else (if a0 = 9 then (if (g 3 0 0) = 0 then (if (g 3 0 1) = 0 then some (((0 : Int32)) + ((0 : Int32)), g) else some (((0 : Int32)) + ((2 : Int32)), g)) else (if (g 3 0 1) = 0 then some (((1 : Int32)) + ((0 : Int32)), g) else some (((1 : Int32)) + ((2 : Int32)), g))) else some ((-2 : Int32), g)))))))))))
set_option maxHeartbeats 4000000 in
set_option maxRecDepth 100000 in
theorem c_X6_count (l : Launch) {μ : Mx} (hok : fok (mφ μ))  {F : Nat} {g : Mem} {a0 : Int32} {u : Int32 × Mem} (h : m_X6_count F g a0 = some u) : fM l (mφ μ) yX6_count wsX6_count 1 22 [.ref (fa (mφ μ) 0 0), .int a0] g (some (.int u.1)) u.2 := by
  refine fM.of (cc := cX6_count) (maxL := 2) (ret := (some .int)) [(0, .ref (fa (mφ μ) 0 0)), (1, .int a0)] (by decide) rfl (Nat.le_of_ble_eq_true rfl) rfl (fun p e s m below meth c ls hx hb hr hml hown hts hlk hE hF hS hl => ?_)
  replace hown : s.vm.findClass RX6 = some m.cls := hown
  have hL6 : ∀ w ∈ u_ws RX6 TX6 3, w.before ([.ref (fa (mφ μ) 0 0), .int a0] : List Value).toArray s = true := fun w hw => hts w (by
    unfold wsX6_count
    simp only [List.mem_cons, List.mem_append]
    exact Or.inr (Or.inr hw))
  have kw1 := hts (.fieldLink RX6 7 "MeshLampsModel" "state" "[I") (List.mem_of_getElem? (i := 1) rfl)
  have kw2 := hts (.fieldLink RX6 16 "MeshLampsModel" "isKept" "[Z") (List.mem_of_getElem? (i := 2) rfl)
  unfold m_X6_count at h
  refine lv_iload_n hx hb dX6_count_0 rfl (lv_at hl 1 rfl) ?_
  by_cases c1 : a0 = 0
  · refine lv_tableIn (tgt := 56) (off := 55) hx hb dX6_count_1 (by rw [c1]; decide) (by rw [c1]; decide) (by rw [c1]; rfl) (by decide) ?_
    have h := ift h c1
    refine lv_aload_n hx hb dX6_count_56 rfl (lv_at hl 0 rfl) ?_
    refine fw_get (C := RX6) (T := TX6) (N := 3) (ci := 6) (v := .ref (fa (mφ μ) 1 0)) hx hb hL6 hown hE hF (e0 μ) (mm0 μ _ _) rfl 0 (by decide) kw1 rfl dX6_count_57 ?_
    refine lv_sipush (v := (6810 : Int32)) hx hb dX6_count_60 (by decide) ?_
    refine fw_iald (q := 6810) hx hb hE hF (e1 μ) (mm1 μ _) 0 rfl (by decide) (by decide) dX6_count_63 ?_
    exact fw_iret hx hb hr hlk h hF hS dX6_count_64
  have h := iff0 h c1
  by_cases c3 : a0 = 1
  · refine lv_tableIn (tgt := 65) (off := 64) hx hb dX6_count_1 (by rw [c3]; decide) (by rw [c3]; decide) (by rw [c3]; rfl) (by decide) ?_
    have h := ift h c3
    refine lv_aload_n hx hb dX6_count_65 rfl (lv_at hl 0 rfl) ?_
    refine fw_get (C := RX6) (T := TX6) (N := 3) (ci := 6) (v := .ref (fa (mφ μ) 1 0)) hx hb hL6 hown hE hF (e0 μ) (mm0 μ _ _) rfl 0 (by decide) kw1 rfl dX6_count_66 ?_
    refine lv_sipush (v := (6811 : Int32)) hx hb dX6_count_69 (by decide) ?_
    refine fw_iald (q := 6811) hx hb hE hF (e1 μ) (mm1 μ _) 0 rfl (by decide) (by decide) dX6_count_72 ?_
    exact fw_iret hx hb hr hlk h hF hS dX6_count_73
  have h := iff0 h c3
  by_cases c5 : a0 = 2
  · refine lv_tableIn (tgt := 74) (off := 73) hx hb dX6_count_1 (by rw [c5]; decide) (by rw [c5]; decide) (by rw [c5]; rfl) (by decide) ?_
    have h := ift h c5
    refine lv_aload_n hx hb dX6_count_74 rfl (lv_at hl 0 rfl) ?_
    refine fw_get (C := RX6) (T := TX6) (N := 3) (ci := 6) (v := .ref (fa (mφ μ) 1 0)) hx hb hL6 hown hE hF (e0 μ) (mm0 μ _ _) rfl 0 (by decide) kw1 rfl dX6_count_75 ?_
    refine lv_sipush (v := (6812 : Int32)) hx hb dX6_count_78 (by decide) ?_
    refine fw_iald (q := 6812) hx hb hE hF (e1 μ) (mm1 μ _) 0 rfl (by decide) (by decide) dX6_count_81 ?_
    exact fw_iret hx hb hr hlk h hF hS dX6_count_82
  have h := iff0 h c5
  by_cases c7 : a0 = 3
  · refine lv_tableIn (tgt := 83) (off := 82) hx hb dX6_count_1 (by rw [c7]; decide) (by rw [c7]; decide) (by rw [c7]; rfl) (by decide) ?_
    have h := ift h c7
    refine lv_aload_n hx hb dX6_count_83 rfl (lv_at hl 0 rfl) ?_
    refine fw_get (C := RX6) (T := TX6) (N := 3) (ci := 6) (v := .ref (fa (mφ μ) 1 0)) hx hb hL6 hown hE hF (e0 μ) (mm0 μ _ _) rfl 0 (by decide) kw1 rfl dX6_count_84 ?_
    refine lv_sipush (v := (6815 : Int32)) hx hb dX6_count_87 (by decide) ?_
    refine fw_iald (q := 6815) hx hb hE hF (e1 μ) (mm1 μ _) 0 rfl (by decide) (by decide) dX6_count_90 ?_
    exact fw_iret hx hb hr hlk h hF hS dX6_count_91
  have h := iff0 h c7
  by_cases c9 : a0 = 4
  · refine lv_tableIn (tgt := 92) (off := 91) hx hb dX6_count_1 (by rw [c9]; decide) (by rw [c9]; decide) (by rw [c9]; rfl) (by decide) ?_
    have h := ift h c9
    refine lv_aload_n hx hb dX6_count_92 rfl (lv_at hl 0 rfl) ?_
    obtain ⟨⟨r11, g12⟩, q10, h⟩ := bnd h
    try dsimp only at h
    refine fw_calli (va_runV (As := []) (rest := []) ⟨hx, hb, hml, hown, hts⟩ (c_X6_asleep l hok q10) (cwV 0 hts gX6_count_X6_asleep rfl rfl rfl qv_X6_asleep ⟨Nat.le_of_ble_eq_true rfl, Nat.le_of_ble_eq_true rfl⟩) (fw_preV hok hE hF (e0 μ) (mm0 μ _ _) rfl) rfl rfl hl.1 rfl (lv_room (Nat.le_of_ble_eq_true rfl)) dX6_count_93 ⟨Nat.le_refl _, Nat.le_refl _⟩) hS (fun H locs hF hS => ?_)
    exact fw_iret hx hb hr hlk h hF hS dX6_count_96
  have h := iff0 h c9
  by_cases c14 : a0 = 5
  · refine lv_tableIn (tgt := 97) (off := 96) hx hb dX6_count_1 (by rw [c14]; decide) (by rw [c14]; decide) (by rw [c14]; rfl) (by decide) ?_
    have h := ift h c14
    refine lv_aload_n hx hb dX6_count_97 rfl (lv_at hl 0 rfl) ?_
    obtain ⟨⟨r16, g17⟩, q15, h⟩ := bnd h
    try dsimp only at h
    refine fw_calli (va_runV (As := []) (rest := []) ⟨hx, hb, hml, hown, hts⟩ (c_X6_lights l hok q15) (cwV 0 hts gX6_count_X6_lights rfl rfl rfl qv_X6_lights ⟨Nat.le_of_ble_eq_true rfl, Nat.le_of_ble_eq_true rfl⟩) (fw_preV hok hE hF (e0 μ) (mm0 μ _ _) rfl) rfl rfl hl.1 rfl (lv_room (Nat.le_of_ble_eq_true rfl)) dX6_count_98 ⟨Nat.le_refl _, Nat.le_refl _⟩) hS (fun H locs hF hS => ?_)
    exact fw_iret hx hb hr hlk h hF hS dX6_count_101
  have h := iff0 h c14
  by_cases c19 : a0 = 6
  · refine lv_tableIn (tgt := 102) (off := 101) hx hb dX6_count_1 (by rw [c19]; decide) (by rw [c19]; decide) (by rw [c19]; rfl) (by decide) ?_
    have h := ift h c19
    refine lv_aload_n hx hb dX6_count_102 rfl (lv_at hl 0 rfl) ?_
    refine fw_get (C := RX6) (T := TX6) (N := 3) (ci := 6) (v := .ref (fa (mφ μ) 1 0)) hx hb hL6 hown hE hF (e0 μ) (mm0 μ _ _) rfl 0 (by decide) kw1 rfl dX6_count_103 ?_
    refine lv_sipush (v := (6816 : Int32)) hx hb dX6_count_106 (by decide) ?_
    refine fw_iald (q := 6816) hx hb hE hF (e1 μ) (mm1 μ _) 0 rfl (by decide) (by decide) dX6_count_109 ?_
    exact fw_iret hx hb hr hlk h hF hS dX6_count_110
  have h := iff0 h c19
  by_cases c21 : a0 = 7
  · refine lv_tableIn (tgt := 111) (off := 110) hx hb dX6_count_1 (by rw [c21]; decide) (by rw [c21]; decide) (by rw [c21]; rfl) (by decide) ?_
    have h := ift h c21
    refine lv_aload_n hx hb dX6_count_111 rfl (lv_at hl 0 rfl) ?_
    refine fw_get (C := RX6) (T := TX6) (N := 3) (ci := 6) (v := .ref (fa (mφ μ) 1 0)) hx hb hL6 hown hE hF (e0 μ) (mm0 μ _ _) rfl 0 (by decide) kw1 rfl dX6_count_112 ?_
    refine lv_sipush (v := (6817 : Int32)) hx hb dX6_count_115 (by decide) ?_
    refine fw_iald (q := 6817) hx hb hE hF (e1 μ) (mm1 μ _) 0 rfl (by decide) (by decide) dX6_count_118 ?_
    exact fw_iret hx hb hr hlk h hF hS dX6_count_119
  have h := iff0 h c21
  by_cases c23 : a0 = 8
  · refine lv_tableIn (tgt := 120) (off := 119) hx hb dX6_count_1 (by rw [c23]; decide) (by rw [c23]; decide) (by rw [c23]; rfl) (by decide) ?_
    have h := ift h c23
    refine lv_aload_n hx hb dX6_count_120 rfl (lv_at hl 0 rfl) ?_
    refine fw_get (C := RX6) (T := TX6) (N := 3) (ci := 6) (v := .ref (fa (mφ μ) 1 0)) hx hb hL6 hown hE hF (e0 μ) (mm0 μ _ _) rfl 0 (by decide) kw1 rfl dX6_count_121 ?_
    refine lv_sipush (v := (6818 : Int32)) hx hb dX6_count_124 (by decide) ?_
    refine fw_iald (q := 6818) hx hb hE hF (e1 μ) (mm1 μ _) 0 rfl (by decide) (by decide) dX6_count_127 ?_
    exact fw_iret hx hb hr hlk h hF hS dX6_count_128
  have h := iff0 h c23
  by_cases c25 : a0 = 9
  · refine lv_tableIn (tgt := 129) (off := 128) hx hb dX6_count_1 (by rw [c25]; decide) (by rw [c25]; decide) (by rw [c25]; rfl) (by decide) ?_
    have h := ift h c25
    refine lv_aload_n hx hb dX6_count_129 rfl (lv_at hl 0 rfl) ?_
    refine fw_get (C := RX6) (T := TX6) (N := 3) (ci := 6) (v := .ref (fa (mφ μ) 3 0)) hx hb hL6 hown hE hF (e0 μ) (mm0 μ _ _) rfl 2 (by decide) kw2 rfl dX6_count_130 ?_
    refine lv_iconst (v := (0 : Int32)) hx hb dX6_count_133 (by decide) ?_
    refine fw_zald (q := 0) hx hb hE hF (e3 μ) (mm3 μ _) 1 rfl (by decide) (by decide) dX6_count_134 ?_
    refine lv_if_eq (tgt := 142) hx hb dX6_count_135 (by decide) (fun c27 => ?_) (fun c27 => ?_)
    · have h := ift h c27
      refine lv_iconst (v := (0 : Int32)) hx hb dX6_count_142 (by decide) ?_
      refine lv_aload_n hx hb dX6_count_143 rfl (lv_at hl 0 rfl) ?_
      refine fw_get (C := RX6) (T := TX6) (N := 3) (ci := 6) (v := .ref (fa (mφ μ) 3 0)) hx hb hL6 hown hE hF (e0 μ) (mm0 μ _ _) rfl 2 (by decide) kw2 rfl dX6_count_144 ?_
      refine lv_iconst (v := (1 : Int32)) hx hb dX6_count_147 (by decide) ?_
      refine fw_zald (q := 1) hx hb hE hF (e3 μ) (mm3 μ _) 1 rfl (by decide) (by decide) dX6_count_148 ?_
      refine lv_if_eq (tgt := 156) hx hb dX6_count_149 (by decide) (fun c29 => ?_) (fun c29 => ?_)
      · have h := ift h c29
        refine lv_iconst (v := (0 : Int32)) hx hb dX6_count_156 (by decide) ?_
        refine lv_iadd hx hb dX6_count_157 ?_
        exact fw_iret hx hb hr hlk h hF hS dX6_count_158
      · have h := iff0 h c29
        refine lv_iconst (v := (2 : Int32)) hx hb dX6_count_152 (by decide) ?_
        refine lv_goto (tgt := 157) hx hb dX6_count_153 (by decide) ?_
        refine lv_iadd hx hb dX6_count_157 ?_
        exact fw_iret hx hb hr hlk h hF hS dX6_count_158
    · have h := iff0 h c27
      refine lv_iconst (v := (1 : Int32)) hx hb dX6_count_138 (by decide) ?_
      refine lv_goto (tgt := 143) hx hb dX6_count_139 (by decide) ?_
      refine lv_aload_n hx hb dX6_count_143 rfl (lv_at hl 0 rfl) ?_
      refine fw_get (C := RX6) (T := TX6) (N := 3) (ci := 6) (v := .ref (fa (mφ μ) 3 0)) hx hb hL6 hown hE hF (e0 μ) (mm0 μ _ _) rfl 2 (by decide) kw2 rfl dX6_count_144 ?_
      refine lv_iconst (v := (1 : Int32)) hx hb dX6_count_147 (by decide) ?_
      refine fw_zald (q := 1) hx hb hE hF (e3 μ) (mm3 μ _) 1 rfl (by decide) (by decide) dX6_count_148 ?_
      refine lv_if_eq (tgt := 156) hx hb dX6_count_149 (by decide) (fun c31 => ?_) (fun c31 => ?_)
      · have h := ift h c31
        refine lv_iconst (v := (0 : Int32)) hx hb dX6_count_156 (by decide) ?_
        refine lv_iadd hx hb dX6_count_157 ?_
        exact fw_iret hx hb hr hlk h hF hS dX6_count_158
      · have h := iff0 h c31
        refine lv_iconst (v := (2 : Int32)) hx hb dX6_count_152 (by decide) ?_
        refine lv_goto (tgt := 157) hx hb dX6_count_153 (by decide) ?_
        refine lv_iadd hx hb dX6_count_157 ?_
        exact fw_iret hx hb hr hlk h hF hS dX6_count_158
  have h := iff0 h c25
  refine lv_tableOut (tgt := 159) hx hb dX6_count_1 (by
    have z0 := lv_neT c1 (a := 0) rfl
    have z1 := lv_neT c3 (a := 1) rfl
    have z2 := lv_neT c5 (a := 2) rfl
    have z3 := lv_neT c7 (a := 3) rfl
    have z4 := lv_neT c9 (a := 4) rfl
    have z5 := lv_neT c14 (a := 5) rfl
    have z6 := lv_neT c19 (a := 6) rfl
    have z7 := lv_neT c21 (a := 7) rfl
    have z8 := lv_neT c23 (a := 8) rfl
    have z9 := lv_neT c25 (a := 9) rfl
    omega) (by decide) ?_
  refine lv_bipush (v := (-2 : Int32)) hx hb dX6_count_159 (by decide) ?_
  exact fw_iret hx hb hr hlk h hF hS dX6_count_161
