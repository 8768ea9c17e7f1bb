/-! a mesh becomes another (by program) -/
def m_X0_becomea (j : Nat) (g : Mem) : Option (Int32 × Mem) := ltm (upr g (8 + 20 * j) 0 (upd (g (8 + 20 * j) 0) 4 (g 8 0 4))) (fun g1 => if ((0 : Int32) < 0 ∨ (0 : Int32) < 0 ∨ g1 (8 + 20 * j) 0 4 < 0 ∨ 64 < ((0 : Int32)).toNatClampNeg + (g1 (8 + 20 * j) 0 4).toNatClampNeg ∨ 64 < ((0 : Int32)).toNatClampNeg + (g1 (8 + 20 * j) 0 4).toNatClampNeg) then none else ltm (upr g1 (9 + 20 * j) 0 (va_cpy (g1 9 0) (g1 (9 + 20 * j) 0) ((0 : Int32)).toNatClampNeg ((0 : Int32)).toNatClampNeg (g1 (8 + 20 * j) 0 4).toNatClampNeg)) (fun g4 => if ((0 : Int32) < 0 ∨ (0 : Int32) < 0 ∨ g4 (8 + 20 * j) 0 4 < 0 ∨ 64 < ((0 : Int32)).toNatClampNeg + (g4 (8 + 20 * j) 0 4).toNatClampNeg ∨ 64 < ((0 : Int32)).toNatClampNeg + (g4 (8 + 20 * j) 0 4).toNatClampNeg) then none else ltm (upr g4 (10 + 20 * j) 0 (va_cpy (g4 10 0) (g4 (10 + 20 * j) 0) ((0 : Int32)).toNatClampNeg ((0 : Int32)).toNatClampNeg (g4 (8 + 20 * j) 0 4).toNatClampNeg)) (fun g7 => if ((0 : Int32) < 0 ∨ (0 : Int32) < 0 ∨ g7 (8 + 20 * j) 0 4 < 0 ∨ 64 < ((0 : Int32)).toNatClampNeg + (g7 (8 + 20 * j) 0 4).toNatClampNeg ∨ 64 < ((0 : Int32)).toNatClampNeg + (g7 (8 + 20 * j) 0 4).toNatClampNeg) then none else ltm (upr g7 (11 + 20 * j) 0 (va_cpy (g7 11 0) (g7 (11 + 20 * j) 0) ((0 : Int32)).toNatClampNeg ((0 : Int32)).toNatClampNeg (g7 (8 + 20 * j) 0 4).toNatClampNeg)) (fun g10 => if ((0 : Int32) < 0 ∨ (0 : Int32) < 0 ∨ g10 (8 + 20 * j) 0 4 < 0 ∨ 64 < ((0 : Int32)).toNatClampNeg + (g10 (8 + 20 * j) 0 4).toNatClampNeg ∨ 64 < ((0 : Int32)).toNatClampNeg + (g10 (8 + 20 * j) 0 4).toNatClampNeg) then none else ltm (upr g10 (12 + 20 * j) 0 (va_cpy (g10 12 0) (g10 (12 + 20 * j) 0) ((0 : Int32)).toNatClampNeg ((0 : Int32)).toNatClampNeg (g10 (8 + 20 * j) 0 4).toNatClampNeg)) (fun g13 => some (0, g13))))))
set_option maxHeartbeats 4000000 in
set_option maxRecDepth 100000 in
theorem c_X0_becomea (l : Launch) {κ : Cx} (hok : fok (cφ κ)) (hn : 1 ≤ cn κ) {j : Nat} (hj : j < cn κ) {g : Mem} {u : Int32 × Mem} (h : m_X0_becomea j g  = some u) : fM l (cφ κ) yX0_become wsX0_become 1 18 [.ref (fa (cφ κ) (8 + 20 * j) 0), .ref (fa (cφ κ) 8 0)] g none u.2 := by
  refine fM.of (cc := cX0_become) (maxL := 2) (ret := none) [(0, .ref (fa (cφ κ) (8 + 20 * j) 0)), (1, .ref (fa (cφ κ) 8 0))] (by decide) rfl (Nat.le_of_ble_eq_true rfl) rfl (fun p e s m below meth c ls hx hb hr hml hown hts hlk hE hF hS hl => ?_)
  replace hown : s.vm.findClass RX0 = some m.cls := hown
  have hL0 : ∀ w ∈ u_ws RX0 TX0 5, w.before ([.ref (fa (cφ κ) (8 + 20 * j) 0), .ref (fa (cφ κ) 8 0)] : List Value).toArray s = true := fun w hw => hts w (by
    unfold wsX0_become
    simp only [List.mem_cons, List.mem_append]
    exact Or.inr (Or.inr hw))
  have kw1 := hts (.fieldLink RX0 24 "MeshLamps$Air" "size" "I") (List.mem_of_getElem? (i := 1) rfl)
  have kw2 := hts (.fieldLink RX0 9 "MeshLamps$Air" "speaker" "[I") (List.mem_of_getElem? (i := 2) rfl)
  have kw3 := hts (.methodLink RX0 32 arraycopyName) (List.mem_of_getElem? (i := 3) rfl)
  have kw4 := hts (.native arraycopyName) (List.mem_of_getElem? (i := 4) rfl)
  have kw5 := hts (.static arraycopyName) (List.mem_of_getElem? (i := 5) rfl)
  have kw6 := hts (.initialized "java/lang/System") (List.mem_of_getElem? (i := 6) rfl)
  have kw7 := hts (.fieldLink RX0 15 "MeshLamps$Air" "tick" "[I") (List.mem_of_getElem? (i := 7) rfl)
  have kw8 := hts (.fieldLink RX0 18 "MeshLamps$Air" "letter" "[I") (List.mem_of_getElem? (i := 8) rfl)
  have kw9 := hts (.fieldLink RX0 21 "MeshLamps$Air" "steps" "[I") (List.mem_of_getElem? (i := 9) rfl)
  unfold m_X0_becomea at h
  refine lv_aload_n hx hb dX0_become_0 rfl (lv_at hl 0 rfl) ?_
  refine lv_aload_n hx hb dX0_become_1 rfl (lv_at hl 1 rfl) ?_
  refine fw_get (C := RX0) (T := TX0) (N := 5) (ci := 0) (v := .int (g 8 0 4)) hx hb hL0 hown hE hF (b8 hn) (cm8 κ _ _) rfl 4 (by decide) kw1 rfl dX0_become_2 ?_
  refine fw_put (C := RX0) (T := TX0) (N := 5) (ci := 0) (ty := .int) (v := .int (g 8 0 4)) (r := upd (g (8 + 20 * j) 0) 4 (g 8 0 4)) hx hb hL0 tyX0 tyX0_ok nmX0 hown hE hok hF hS (b8j hj) (cm8j κ _ _ _) rfl 4 (by decide) kw1 rfl (tyX0_ok 4 (by decide)) rfl rfl (Nat.le_of_ble_eq_true rfl) (by rw [cm8j]; rfl) dX0_become_5 (fun H locs hF hS => ?_)
  obtain ⟨g1, e2, h⟩ := ltm_e h
  rw [e2] at hF
  refine lv_aload_n hx hb dX0_become_8 rfl (lv_at hl 1 rfl) ?_
  refine fw_get (C := RX0) (T := TX0) (N := 5) (ci := 0) (v := .ref (fa (cφ κ) 9 0)) hx hb hL0 hown hE hF (b8 hn) (cm8 κ _ _) rfl 0 (by decide) kw2 rfl dX0_become_9 ?_
  refine lv_iconst (v := (0 : Int32)) hx hb dX0_become_12 (by decide) ?_
  refine lv_aload_n hx hb dX0_become_13 rfl (lv_at hl 0 rfl) ?_
  refine fw_get (C := RX0) (T := TX0) (N := 5) (ci := 0) (v := .ref (fa (cφ κ) (9 + 20 * j) 0)) hx hb hL0 hown hE hF (b8j hj) (cm8j κ _ _ _) rfl 0 (by decide) kw2 rfl dX0_become_14 ?_
  refine lv_iconst (v := (0 : Int32)) hx hb dX0_become_17 (by decide) ?_
  refine lv_aload_n hx hb dX0_become_18 rfl (lv_at hl 0 rfl) ?_
  refine fw_get (C := RX0) (T := TX0) (N := 5) (ci := 0) (v := .int (g1 (8 + 20 * j) 0 4)) hx hb hL0 hown hE hF (b8j hj) (cm8j κ _ _ _) rfl 4 (by decide) kw1 rfl dX0_become_19 ?_
  obtain ⟨k3, h⟩ := ck h
  refine fw_copy (rest := []) hx hb (hml.trans hl.1.symm) hown kw3 kw4 kw5 kw6 hE hok hF hS (b9 hn) (b9j hj) (cm9 κ _) (cm9j κ _ _) 0 0 rfl rfl k3 (Nat.le_of_ble_eq_true rfl) (Nat.le_of_ble_eq_true rfl) dX0_become_22 (fun H locs hF hS => ?_)
  obtain ⟨g4, e5, h⟩ := ltm_e h
  rw [e5] at hF
  refine lv_aload_n hx hb dX0_become_25 rfl (lv_at hl 1 rfl) ?_
  refine fw_get (C := RX0) (T := TX0) (N := 5) (ci := 0) (v := .ref (fa (cφ κ) 10 0)) hx hb hL0 hown hE hF (b8 hn) (cm8 κ _ _) rfl 1 (by decide) kw7 rfl dX0_become_26 ?_
  refine lv_iconst (v := (0 : Int32)) hx hb dX0_become_29 (by decide) ?_
  refine lv_aload_n hx hb dX0_become_30 rfl (lv_at hl 0 rfl) ?_
  refine fw_get (C := RX0) (T := TX0) (N := 5) (ci := 0) (v := .ref (fa (cφ κ) (10 + 20 * j) 0)) hx hb hL0 hown hE hF (b8j hj) (cm8j κ _ _ _) rfl 1 (by decide) kw7 rfl dX0_become_31 ?_
  refine lv_iconst (v := (0 : Int32)) hx hb dX0_become_34 (by decide) ?_
  refine lv_aload_n hx hb dX0_become_35 rfl (lv_at hl 0 rfl) ?_
  refine fw_get (C := RX0) (T := TX0) (N := 5) (ci := 0) (v := .int (g4 (8 + 20 * j) 0 4)) hx hb hL0 hown hE hF (b8j hj) (cm8j κ _ _ _) rfl 4 (by decide) kw1 rfl dX0_become_36 ?_
  obtain ⟨k6, h⟩ := ck h
  refine fw_copy (rest := []) hx hb (hml.trans hl.1.symm) hown kw3 kw4 kw5 kw6 hE hok hF hS (b10 hn) (b10j hj) (cm10 κ _) (cm10j κ _ _) 0 0 rfl rfl k6 (Nat.le_of_ble_eq_true rfl) (Nat.le_of_ble_eq_true rfl) dX0_become_39 (fun H locs hF hS => ?_)
  obtain ⟨g7, e8, h⟩ := ltm_e h
  rw [e8] at hF
  refine lv_aload_n hx hb dX0_become_42 rfl (lv_at hl 1 rfl) ?_
  refine fw_get (C := RX0) (T := TX0) (N := 5) (ci := 0) (v := .ref (fa (cφ κ) 11 0)) hx hb hL0 hown hE hF (b8 hn) (cm8 κ _ _) rfl 2 (by decide) kw8 rfl dX0_become_43 ?_
  refine lv_iconst (v := (0 : Int32)) hx hb dX0_become_46 (by decide) ?_
  refine lv_aload_n hx hb dX0_become_47 rfl (lv_at hl 0 rfl) ?_
  refine fw_get (C := RX0) (T := TX0) (N := 5) (ci := 0) (v := .ref (fa (cφ κ) (11 + 20 * j) 0)) hx hb hL0 hown hE hF (b8j hj) (cm8j κ _ _ _) rfl 2 (by decide) kw8 rfl dX0_become_48 ?_
  refine lv_iconst (v := (0 : Int32)) hx hb dX0_become_51 (by decide) ?_
  refine lv_aload_n hx hb dX0_become_52 rfl (lv_at hl 0 rfl) ?_
  refine fw_get (C := RX0) (T := TX0) (N := 5) (ci := 0) (v := .int (g7 (8 + 20 * j) 0 4)) hx hb hL0 hown hE hF (b8j hj) (cm8j κ _ _ _) rfl 4 (by decide) kw1 rfl dX0_become_53 ?_
  obtain ⟨k9, h⟩ := ck h
  refine fw_copy (rest := []) hx hb (hml.trans hl.1.symm) hown kw3 kw4 kw5 kw6 hE hok hF hS (b11 hn) (b11j hj) (cm11 κ _) (cm11j κ _ _) 0 0 rfl rfl k9 (Nat.le_of_ble_eq_true rfl) (Nat.le_of_ble_eq_true rfl) dX0_become_56 (fun H locs hF hS => ?_)
  obtain ⟨g10, e11, h⟩ := ltm_e h
  rw [e11] at hF
  refine lv_aload_n hx hb dX0_become_59 rfl (lv_at hl 1 rfl) ?_
  refine fw_get (C := RX0) (T := TX0) (N := 5) (ci := 0) (v := .ref (fa (cφ κ) 12 0)) hx hb hL0 hown hE hF (b8 hn) (cm8 κ _ _) rfl 3 (by decide) kw9 rfl dX0_become_60 ?_
  refine lv_iconst (v := (0 : Int32)) hx hb dX0_become_63 (by decide) ?_
  refine lv_aload_n hx hb dX0_become_64 rfl (lv_at hl 0 rfl) ?_
  refine fw_get (C := RX0) (T := TX0) (N := 5) (ci := 0) (v := .ref (fa (cφ κ) (12 + 20 * j) 0)) hx hb hL0 hown hE hF (b8j hj) (cm8j κ _ _ _) rfl 3 (by decide) kw9 rfl dX0_become_65 ?_
  refine lv_iconst (v := (0 : Int32)) hx hb dX0_become_68 (by decide) ?_
  refine lv_aload_n hx hb dX0_become_69 rfl (lv_at hl 0 rfl) ?_
  refine fw_get (C := RX0) (T := TX0) (N := 5) (ci := 0) (v := .int (g10 (8 + 20 * j) 0 4)) hx hb hL0 hown hE hF (b8j hj) (cm8j κ _ _ _) rfl 4 (by decide) kw1 rfl dX0_become_70 ?_
  obtain ⟨k12, h⟩ := ck h
  refine fw_copy (rest := []) hx hb (hml.trans hl.1.symm) hown kw3 kw4 kw5 kw6 hE hok hF hS (b12 hn) (b12j hj) (cm12 κ _) (cm12j κ _ _) 0 0 rfl rfl k12 (Nat.le_of_ble_eq_true rfl) (Nat.le_of_ble_eq_true rfl) dX0_become_73 (fun H locs hF hS => ?_)
  obtain ⟨g13, e14, h⟩ := ltm_e h
  rw [e14] at hF
  exact fw_vret hx hb hr hlk h hF hS dX0_become_76
def m_X2_becomea (j : Nat) (g : Mem) : Option (Int32 × Mem) := if ((0 : Int32) < 0 ∨ (0 : Int32) < 0 ∨ (2000 : Int32) < 0 ∨ 2000 < ((0 : Int32)).toNatClampNeg + ((2000 : Int32)).toNatClampNeg ∨ 2000 < ((0 : Int32)).toNatClampNeg + ((2000 : Int32)).toNatClampNeg) then none else ltm (upr g (5 + 20 * j) 0 (va_cpy (g 5 0) (g (5 + 20 * j) 0) ((0 : Int32)).toNatClampNeg ((0 : Int32)).toNatClampNeg ((2000 : Int32)).toNatClampNeg)) (fun g2 => if ((0 : Int32) < 0 ∨ (0 : Int32) < 0 ∨ (2000 : Int32) < 0 ∨ 2000 < ((0 : Int32)).toNatClampNeg + ((2000 : Int32)).toNatClampNeg ∨ 2000 < ((0 : Int32)).toNatClampNeg + ((2000 : Int32)).toNatClampNeg) then none else ltm (upr g2 (6 + 20 * j) 0 (va_cpy (g2 6 0) (g2 (6 + 20 * j) 0) ((0 : Int32)).toNatClampNeg ((0 : Int32)).toNatClampNeg ((2000 : Int32)).toNatClampNeg)) (fun g5 => if ((0 : Int32) < 0 ∨ (0 : Int32) < 0 ∨ (2000 : Int32) < 0 ∨ 2000 < ((0 : Int32)).toNatClampNeg + ((2000 : Int32)).toNatClampNeg ∨ 2000 < ((0 : Int32)).toNatClampNeg + ((2000 : Int32)).toNatClampNeg) then none else ltm (upr g5 (7 + 20 * j) 0 (va_cpy (g5 7 0) (g5 (7 + 20 * j) 0) ((0 : Int32)).toNatClampNeg ((0 : Int32)).toNatClampNeg ((2000 : Int32)).toNatClampNeg)) (fun g8 => some (0, g8))))
set_option maxHeartbeats 4000000 in
set_option maxRecDepth 100000 in
theorem c_X2_becomea (l : Launch) {κ : Cx} (hok : fok (cφ κ)) (hn : 1 ≤ cn κ) {j : Nat} (hj : j < cn κ) {g : Mem} {u : Int32 × Mem} (h : m_X2_becomea j g  = some u) : fM l (cφ κ) yX2_become wsX2_become 1 18 [.ref (fa (cφ κ) (4 + 20 * j) 0), .ref (fa (cφ κ) 4 0)] g none u.2 := by
  refine fM.of (cc := cX2_become) (maxL := 2) (ret := none) [(0, .ref (fa (cφ κ) (4 + 20 * j) 0)), (1, .ref (fa (cφ κ) 4 0))] (by decide) rfl (Nat.le_of_ble_eq_true rfl) rfl (fun p e s m below meth c ls hx hb hr hml hown hts hlk hE hF hS hl => ?_)
  replace hown : s.vm.findClass RX2 = some m.cls := hown
  have hL2 : ∀ w ∈ u_ws RX2 TX2 3, w.before ([.ref (fa (cφ κ) (4 + 20 * j) 0), .ref (fa (cφ κ) 4 0)] : List Value).toArray s = true := fun w hw => hts w (by
    unfold wsX2_become
    simp only [List.mem_cons, List.mem_append]
    exact Or.inr (Or.inr hw))
  have kw1 := hts (.fieldLink RX2 11 "MeshLamps$Letters" "key" "[I") (List.mem_of_getElem? (i := 1) rfl)
  have kw2 := hts (.methodLink RX2 21 arraycopyName) (List.mem_of_getElem? (i := 2) rfl)
  have kw3 := hts (.native arraycopyName) (List.mem_of_getElem? (i := 3) rfl)
  have kw4 := hts (.static arraycopyName) (List.mem_of_getElem? (i := 4) rfl)
  have kw5 := hts (.initialized "java/lang/System") (List.mem_of_getElem? (i := 5) rfl)
  have kw6 := hts (.fieldLink RX2 15 "MeshLamps$Letters" "aim" "[I") (List.mem_of_getElem? (i := 6) rfl)
  have kw7 := hts (.fieldLink RX2 18 "MeshLamps$Letters" "value" "[I") (List.mem_of_getElem? (i := 7) rfl)
  unfold m_X2_becomea at h
  refine lv_aload_n hx hb dX2_become_0 rfl (lv_at hl 1 rfl) ?_
  refine fw_get (C := RX2) (T := TX2) (N := 3) (ci := 2) (v := .ref (fa (cφ κ) 5 0)) hx hb hL2 hown hE hF (b4 hn) (cm4 κ _ _) rfl 0 (by decide) kw1 rfl dX2_become_1 ?_
  refine lv_iconst (v := (0 : Int32)) hx hb dX2_become_4 (by decide) ?_
  refine lv_aload_n hx hb dX2_become_5 rfl (lv_at hl 0 rfl) ?_
  refine fw_get (C := RX2) (T := TX2) (N := 3) (ci := 2) (v := .ref (fa (cφ κ) (5 + 20 * j) 0)) hx hb hL2 hown hE hF (b4j hj) (cm4j κ _ _ _) rfl 0 (by decide) kw1 rfl dX2_become_6 ?_
  refine lv_iconst (v := (0 : Int32)) hx hb dX2_become_9 (by decide) ?_
  refine lv_sipush (v := (2000 : Int32)) hx hb dX2_become_10 (by decide) ?_
  obtain ⟨k1, h⟩ := ck h
  refine fw_copy (rest := []) hx hb (hml.trans hl.1.symm) hown kw2 kw3 kw4 kw5 hE hok hF hS (b5 hn) (b5j hj) (cm5 κ _) (cm5j κ _ _) 0 0 rfl rfl k1 (Nat.le_of_ble_eq_true rfl) (Nat.le_of_ble_eq_true rfl) dX2_become_13 (fun H locs hF hS => ?_)
  obtain ⟨g2, e3, h⟩ := ltm_e h
  rw [e3] at hF
  refine lv_aload_n hx hb dX2_become_16 rfl (lv_at hl 1 rfl) ?_
  refine fw_get (C := RX2) (T := TX2) (N := 3) (ci := 2) (v := .ref (fa (cφ κ) 6 0)) hx hb hL2 hown hE hF (b4 hn) (cm4 κ _ _) rfl 1 (by decide) kw6 rfl dX2_become_17 ?_
  refine lv_iconst (v := (0 : Int32)) hx hb dX2_become_20 (by decide) ?_
  refine lv_aload_n hx hb dX2_become_21 rfl (lv_at hl 0 rfl) ?_
  refine fw_get (C := RX2) (T := TX2) (N := 3) (ci := 2) (v := .ref (fa (cφ κ) (6 + 20 * j) 0)) hx hb hL2 hown hE hF (b4j hj) (cm4j κ _ _ _) rfl 1 (by decide) kw6 rfl dX2_become_22 ?_
  refine lv_iconst (v := (0 : Int32)) hx hb dX2_become_25 (by decide) ?_
  refine lv_sipush (v := (2000 : Int32)) hx hb dX2_become_26 (by decide) ?_
  obtain ⟨k4, h⟩ := ck h
  refine fw_copy (rest := []) hx hb (hml.trans hl.1.symm) hown kw2 kw3 kw4 kw5 hE hok hF hS (b6 hn) (b6j hj) (cm6 κ _) (cm6j κ _ _) 0 0 rfl rfl k4 (Nat.le_of_ble_eq_true rfl) (Nat.le_of_ble_eq_true rfl) dX2_become_29 (fun H locs hF hS => ?_)
  obtain ⟨g5, e6, h⟩ := ltm_e h
  rw [e6] at hF
  refine lv_aload_n hx hb dX2_become_32 rfl (lv_at hl 1 rfl) ?_
  refine fw_get (C := RX2) (T := TX2) (N := 3) (ci := 2) (v := .ref (fa (cφ κ) 7 0)) hx hb hL2 hown hE hF (b4 hn) (cm4 κ _ _) rfl 2 (by decide) kw7 rfl dX2_become_33 ?_
  refine lv_iconst (v := (0 : Int32)) hx hb dX2_become_36 (by decide) ?_
  refine lv_aload_n hx hb dX2_become_37 rfl (lv_at hl 0 rfl) ?_
  refine fw_get (C := RX2) (T := TX2) (N := 3) (ci := 2) (v := .ref (fa (cφ κ) (7 + 20 * j) 0)) hx hb hL2 hown hE hF (b4j hj) (cm4j κ _ _ _) rfl 2 (by decide) kw7 rfl dX2_become_38 ?_
  refine lv_iconst (v := (0 : Int32)) hx hb dX2_become_41 (by decide) ?_
  refine lv_sipush (v := (2000 : Int32)) hx hb dX2_become_42 (by decide) ?_
  obtain ⟨k7, h⟩ := ck h
  refine fw_copy (rest := []) hx hb (hml.trans hl.1.symm) hown kw2 kw3 kw4 kw5 hE hok hF hS (b7 hn) (b7j hj) (cm7 κ _) (cm7j κ _ _) 0 0 rfl rfl k7 (Nat.le_of_ble_eq_true rfl) (Nat.le_of_ble_eq_true rfl) dX2_become_45 (fun H locs hF hS => ?_)
  obtain ⟨g8, e9, h⟩ := ltm_e h
  rw [e9] at hF
  exact fw_vret hx hb hr hlk h hF hS dX2_become_48
def m_X3_becomema (j : Nat) (i0 : Nat) (i1 : Nat) (g : Mem) : Option (Int32 × Mem) := ltm (upr g (16 + 20 * j) i0 (upd (g (16 + 20 * j) i0) 1 (if ((8 : Int32)) < (g 16 i1 1) then (8 : Int32) else g 16 i1 1))) (fun g1 => if ((0 : Int32) < 0 ∨ (0 : Int32) < 0 ∨ g1 (16 + 20 * j) i0 1 < 0 ∨ 8 < ((0 : Int32)).toNatClampNeg + (g1 (16 + 20 * j) i0 1).toNatClampNeg ∨ 8 < ((0 : Int32)).toNatClampNeg + (g1 (16 + 20 * j) i0 1).toNatClampNeg) then none else ltm (upr g1 (17 + 20 * j) i0 (va_cpy (g1 17 i1) (g1 (17 + 20 * j) i0) ((0 : Int32)).toNatClampNeg ((0 : Int32)).toNatClampNeg (g1 (16 + 20 * j) i0 1).toNatClampNeg)) (fun g4 => some (0, g4)))
set_option maxHeartbeats 4000000 in
set_option maxRecDepth 100000 in
theorem c_X3_becomema (l : Launch) {κ : Cx} (hok : fok (cφ κ)) (hn : 1 ≤ cn κ) {j : Nat} {i0 : Nat} {i1 : Nat} (hj : j < cn κ) (h0 : i0 < 10) (h1 : i1 < 10) {g : Mem} {u : Int32 × Mem} (h : m_X3_becomema j i0 i1 g  = some u) : fM l (cφ κ) yX3_become wsX3_become 1 18 [.ref (fa (cφ κ) (16 + 20 * j) i0), .ref (fa (cφ κ) 16 i1)] g none u.2 := by
  refine fM.of (cc := cX3_become) (maxL := 2) (ret := none) [(0, .ref (fa (cφ κ) (16 + 20 * j) i0)), (1, .ref (fa (cφ κ) 16 i1))] (by decide) rfl (Nat.le_of_ble_eq_true rfl) rfl (fun p e s m below meth c ls hx hb hr hml hown hts hlk hE hF hS hl => ?_)
  replace hown : s.vm.findClass RX3 = some m.cls := hown
  have hL3 : ∀ w ∈ u_ws RX3 TX3 2, w.before ([.ref (fa (cφ κ) (16 + 20 * j) i0), .ref (fa (cφ κ) 16 i1)] : List Value).toArray s = true := fun w hw => hts w (by
    unfold wsX3_become
    simp only [List.mem_cons, List.mem_append]
    exact Or.inr (Or.inr hw))
  have kw1 := hts (.fieldLink RX3 7 "MeshLamps$Line" "size" "I") (List.mem_of_getElem? (i := 1) rfl)
  have kw2 := hts (.fieldLink RX3 19 "MeshLamps$Line" "letters" "[I") (List.mem_of_getElem? (i := 2) rfl)
  have kw3 := hts (.methodLink RX3 27 Lib.Math.min.name) (List.mem_of_getElem? (i := 3) rfl)
  have kw4 := hts (.static Lib.Math.min.name) (List.mem_of_getElem? (i := 4) rfl)
  have kw5 := hts (.initialized "java/lang/Math") (List.mem_of_getElem? (i := 5) rfl)
  have kw6 := hts (.code Lib.Math.min.name Lib.Math.min.code 2 (some .int)) (List.mem_of_getElem? (i := 6) rfl)
  have kw7 := hts (.methodLink RX3 30 arraycopyName) (List.mem_of_getElem? (i := 7) rfl)
  have kw8 := hts (.native arraycopyName) (List.mem_of_getElem? (i := 8) rfl)
  have kw9 := hts (.static arraycopyName) (List.mem_of_getElem? (i := 9) rfl)
  have kw10 := hts (.initialized "java/lang/System") (List.mem_of_getElem? (i := 10) rfl)
  unfold m_X3_becomema at h
  refine lv_aload_n hx hb dX3_become_0 rfl (lv_at hl 0 rfl) ?_
  refine lv_aload_n hx hb dX3_become_1 rfl (lv_at hl 1 rfl) ?_
  refine fw_get (C := RX3) (T := TX3) (N := 2) (ci := 3) (v := .int (g 16 i1 1)) hx hb hL3 hown hE hF (b16 hn h1) (cm16 κ _ _) rfl 1 (by decide) kw1 rfl dX3_become_2 ?_
  refine lv_aload_n hx hb dX3_become_5 rfl (lv_at hl 0 rfl) ?_
  refine fw_get (C := RX3) (T := TX3) (N := 2) (ci := 3) (v := .ref (fa (cφ κ) (17 + 20 * j) i0)) hx hb hL3 hown hE hF (b16j hj h0) (cm16j κ _ _ _) rfl 0 (by decide) kw2 rfl dX3_become_6 ?_
  refine fw_alen (v := (8 : Int32)) hx hb hE hF (b17j hj h0) (cm17j κ _ _) 0 rfl (by decide) dX3_become_9 ?_
  refine va_mmin hx hb (hml.trans hl.1.symm) hown kw3 kw4 kw5 kw6 (Nat.le_of_ble_eq_true rfl) (Nat.le_of_ble_eq_true rfl) (Nat.le_refl _) (Nat.le_refl _) dX3_become_10 ?_
  refine fw_put (C := RX3) (T := TX3) (N := 2) (ci := 3) (ty := .int) (v := .int (if ((8 : Int32)) < (g 16 i1 1) then (8 : Int32) else g 16 i1 1)) (r := upd (g (16 + 20 * j) i0) 1 (if ((8 : Int32)) < (g 16 i1 1) then (8 : Int32) else g 16 i1 1)) hx hb hL3 tyX3 tyX3_ok nmX3 hown hE hok hF hS (b16j hj h0) (cm16j κ _ _ _) rfl 1 (by decide) kw1 rfl (tyX3_ok 1 (by decide)) rfl rfl (Nat.le_of_ble_eq_true rfl) (by rw [cm16j]; rfl) dX3_become_13 (fun H locs hF hS => ?_)
  obtain ⟨g1, e2, h⟩ := ltm_e h
  rw [e2] at hF
  refine lv_aload_n hx hb dX3_become_16 rfl (lv_at hl 1 rfl) ?_
  refine fw_get (C := RX3) (T := TX3) (N := 2) (ci := 3) (v := .ref (fa (cφ κ) 17 i1)) hx hb hL3 hown hE hF (b16 hn h1) (cm16 κ _ _) rfl 0 (by decide) kw2 rfl dX3_become_17 ?_
  refine lv_iconst (v := (0 : Int32)) hx hb dX3_become_20 (by decide) ?_
  refine lv_aload_n hx hb dX3_become_21 rfl (lv_at hl 0 rfl) ?_
  refine fw_get (C := RX3) (T := TX3) (N := 2) (ci := 3) (v := .ref (fa (cφ κ) (17 + 20 * j) i0)) hx hb hL3 hown hE hF (b16j hj h0) (cm16j κ _ _ _) rfl 0 (by decide) kw2 rfl dX3_become_22 ?_
  refine lv_iconst (v := (0 : Int32)) hx hb dX3_become_25 (by decide) ?_
  refine lv_aload_n hx hb dX3_become_26 rfl (lv_at hl 0 rfl) ?_
  refine fw_get (C := RX3) (T := TX3) (N := 2) (ci := 3) (v := .int (g1 (16 + 20 * j) i0 1)) hx hb hL3 hown hE hF (b16j hj h0) (cm16j κ _ _ _) rfl 1 (by decide) kw1 rfl dX3_become_27 ?_
  obtain ⟨k3, h⟩ := ck h
  refine fw_copy (rest := []) hx hb (hml.trans hl.1.symm) hown kw7 kw8 kw9 kw10 hE hok hF hS (b17 hn h1) (b17j hj h0) (cm17 κ _) (cm17j κ _ _) 0 0 rfl rfl k3 (Nat.le_of_ble_eq_true rfl) (Nat.le_of_ble_eq_true rfl) dX3_become_30 (fun H locs hF hS => ?_)
  obtain ⟨g4, e5, h⟩ := ltm_e h
  rw [e5] at hF
  exact fw_vret hx hb hr hlk h hF hS dX3_become_33
def m_X3_becomeka (j : Nat) (i0 : Nat) (i1 : Nat) (g : Mem) : Option (Int32 × Mem) := ltm (upr g (18 + 20 * j) i0 (upd (g (18 + 20 * j) i0) 1 (if ((3 : Int32)) < (g 18 i1 1) then (3 : Int32) else g 18 i1 1))) (fun g1 => if ((0 : Int32) < 0 ∨ (0 : Int32) < 0 ∨ g1 (18 + 20 * j) i0 1 < 0 ∨ 3 < ((0 : Int32)).toNatClampNeg + (g1 (18 + 20 * j) i0 1).toNatClampNeg ∨ 3 < ((0 : Int32)).toNatClampNeg + (g1 (18 + 20 * j) i0 1).toNatClampNeg) then none else ltm (upr g1 (19 + 20 * j) i0 (va_cpy (g1 19 i1) (g1 (19 + 20 * j) i0) ((0 : Int32)).toNatClampNeg ((0 : Int32)).toNatClampNeg (g1 (18 + 20 * j) i0 1).toNatClampNeg)) (fun g4 => some (0, g4)))
set_option maxHeartbeats 4000000 in
set_option maxRecDepth 100000 in
theorem c_X3_becomeka (l : Launch) {κ : Cx} (hok : fok (cφ κ)) (hn : 1 ≤ cn κ) {j : Nat} {i0 : Nat} {i1 : Nat} (hj : j < cn κ) (h0 : i0 < 10) (h1 : i1 < 10) {g : Mem} {u : Int32 × Mem} (h : m_X3_becomeka j i0 i1 g  = some u) : fM l (cφ κ) yX3_become wsX3_become 1 18 [.ref (fa (cφ κ) (18 + 20 * j) i0), .ref (fa (cφ κ) 18 i1)] g none u.2 := by
  refine fM.of (cc := cX3_become) (maxL := 2) (ret := none) [(0, .ref (fa (cφ κ) (18 + 20 * j) i0)), (1, .ref (fa (cφ κ) 18 i1))] (by decide) rfl (Nat.le_of_ble_eq_true rfl) rfl (fun p e s m below meth c ls hx hb hr hml hown hts hlk hE hF hS hl => ?_)
  replace hown : s.vm.findClass RX3 = some m.cls := hown
  have hL3 : ∀ w ∈ u_ws RX3 TX3 2, w.before ([.ref (fa (cφ κ) (18 + 20 * j) i0), .ref (fa (cφ κ) 18 i1)] : List Value).toArray s = true := fun w hw => hts w (by
    unfold wsX3_become
    simp only [List.mem_cons, List.mem_append]
    exact Or.inr (Or.inr hw))
  have kw1 := hts (.fieldLink RX3 7 "MeshLamps$Line" "size" "I") (List.mem_of_getElem? (i := 1) rfl)
  have kw2 := hts (.fieldLink RX3 19 "MeshLamps$Line" "letters" "[I") (List.mem_of_getElem? (i := 2) rfl)
  have kw3 := hts (.methodLink RX3 27 Lib.Math.min.name) (List.mem_of_getElem? (i := 3) rfl)
  have kw4 := hts (.static Lib.Math.min.name) (List.mem_of_getElem? (i := 4) rfl)
  have kw5 := hts (.initialized "java/lang/Math") (List.mem_of_getElem? (i := 5) rfl)
  have kw6 := hts (.code Lib.Math.min.name Lib.Math.min.code 2 (some .int)) (List.mem_of_getElem? (i := 6) rfl)
  have kw7 := hts (.methodLink RX3 30 arraycopyName) (List.mem_of_getElem? (i := 7) rfl)
  have kw8 := hts (.native arraycopyName) (List.mem_of_getElem? (i := 8) rfl)
  have kw9 := hts (.static arraycopyName) (List.mem_of_getElem? (i := 9) rfl)
  have kw10 := hts (.initialized "java/lang/System") (List.mem_of_getElem? (i := 10) rfl)
  unfold m_X3_becomeka at h
  refine lv_aload_n hx hb dX3_become_0 rfl (lv_at hl 0 rfl) ?_
  refine lv_aload_n hx hb dX3_become_1 rfl (lv_at hl 1 rfl) ?_
  refine fw_get (C := RX3) (T := TX3) (N := 2) (ci := 3) (v := .int (g 18 i1 1)) hx hb hL3 hown hE hF (b18 hn h1) (cm18 κ _ _) rfl 1 (by decide) kw1 rfl dX3_become_2 ?_
  refine lv_aload_n hx hb dX3_become_5 rfl (lv_at hl 0 rfl) ?_
  refine fw_get (C := RX3) (T := TX3) (N := 2) (ci := 3) (v := .ref (fa (cφ κ) (19 + 20 * j) i0)) hx hb hL3 hown hE hF (b18j hj h0) (cm18j κ _ _ _) rfl 0 (by decide) kw2 rfl dX3_become_6 ?_
  refine fw_alen (v := (3 : Int32)) hx hb hE hF (b19j hj h0) (cm19j κ _ _) 0 rfl (by decide) dX3_become_9 ?_
  refine va_mmin hx hb (hml.trans hl.1.symm) hown kw3 kw4 kw5 kw6 (Nat.le_of_ble_eq_true rfl) (Nat.le_of_ble_eq_true rfl) (Nat.le_refl _) (Nat.le_refl _) dX3_become_10 ?_
  refine fw_put (C := RX3) (T := TX3) (N := 2) (ci := 3) (ty := .int) (v := .int (if ((3 : Int32)) < (g 18 i1 1) then (3 : Int32) else g 18 i1 1)) (r := upd (g (18 + 20 * j) i0) 1 (if ((3 : Int32)) < (g 18 i1 1) then (3 : Int32) else g 18 i1 1)) hx hb hL3 tyX3 tyX3_ok nmX3 hown hE hok hF hS (b18j hj h0) (cm18j κ _ _ _) rfl 1 (by decide) kw1 rfl (tyX3_ok 1 (by decide)) rfl rfl (Nat.le_of_ble_eq_true rfl) (by rw [cm18j]; rfl) dX3_become_13 (fun H locs hF hS => ?_)
  obtain ⟨g1, e2, h⟩ := ltm_e h
  rw [e2] at hF
  refine lv_aload_n hx hb dX3_become_16 rfl (lv_at hl 1 rfl) ?_
  refine fw_get (C := RX3) (T := TX3) (N := 2) (ci := 3) (v := .ref (fa (cφ κ) 19 i1)) hx hb hL3 hown hE hF (b18 hn h1) (cm18 κ _ _) rfl 0 (by decide) kw2 rfl dX3_become_17 ?_
  refine lv_iconst (v := (0 : Int32)) hx hb dX3_become_20 (by decide) ?_
  refine lv_aload_n hx hb dX3_become_21 rfl (lv_at hl 0 rfl) ?_
  refine fw_get (C := RX3) (T := TX3) (N := 2) (ci := 3) (v := .ref (fa (cφ κ) (19 + 20 * j) i0)) hx hb hL3 hown hE hF (b18j hj h0) (cm18j κ _ _ _) rfl 0 (by decide) kw2 rfl dX3_become_22 ?_
  refine lv_iconst (v := (0 : Int32)) hx hb dX3_become_25 (by decide) ?_
  refine lv_aload_n hx hb dX3_become_26 rfl (lv_at hl 0 rfl) ?_
  refine fw_get (C := RX3) (T := TX3) (N := 2) (ci := 3) (v := .int (g1 (18 + 20 * j) i0 1)) hx hb hL3 hown hE hF (b18j hj h0) (cm18j κ _ _ _) rfl 1 (by decide) kw1 rfl dX3_become_27 ?_
  obtain ⟨k3, h⟩ := ck h
  refine fw_copy (rest := []) hx hb (hml.trans hl.1.symm) hown kw7 kw8 kw9 kw10 hE hok hF hS (b19 hn h1) (b19j hj h0) (cm19 κ _) (cm19j κ _ _) 0 0 rfl rfl k3 (Nat.le_of_ble_eq_true rfl) (Nat.le_of_ble_eq_true rfl) dX3_become_30 (fun H locs hF hS => ?_)
  obtain ⟨g4, e5, h⟩ := ltm_e h
  rw [e5] at hF
  exact fw_vret hx hb hr hlk h hF hS dX3_become_33
def m_X1_becomea (j : Nat) (i0 : Nat) (i1 : Nat) (g : Mem) : Option (Int32 × Mem) := if ((0 : Int32) < 0 ∨ (0 : Int32) < 0 ∨ (4 : Int32) < 0 ∨ 4 < ((0 : Int32)).toNatClampNeg + ((4 : Int32)).toNatClampNeg ∨ 4 < ((0 : Int32)).toNatClampNeg + ((4 : Int32)).toNatClampNeg) then none else ltm (upr g (14 + 20 * j) i0 (va_cpy (g 14 i1) (g (14 + 20 * j) i0) ((0 : Int32)).toNatClampNeg ((0 : Int32)).toNatClampNeg ((4 : Int32)).toNatClampNeg)) (fun g2 => if ((0 : Int32) < 0 ∨ (0 : Int32) < 0 ∨ (10 : Int32) < 0 ∨ 10 < ((0 : Int32)).toNatClampNeg + ((10 : Int32)).toNatClampNeg ∨ 10 < ((0 : Int32)).toNatClampNeg + ((10 : Int32)).toNatClampNeg) then none else ltm (upr g2 (15 + 20 * j) i0 (va_cpy (g2 15 i1) (g2 (15 + 20 * j) i0) ((0 : Int32)).toNatClampNeg ((0 : Int32)).toNatClampNeg ((10 : Int32)).toNatClampNeg)) (fun g5 => (m_X3_becomema j i0 i1 g5 ).bind (fun (r8, g9) => (m_X3_becomeka j i0 i1 g9 ).bind (fun (r12, g13) => ltm (upr g13 (13 + 20 * j) i0 (upd (g13 (13 + 20 * j) i0) 4 (g13 13 i1 4))) (fun g15 => ltm (upr g15 (13 + 20 * j) i0 (upd (g15 (13 + 20 * j) i0) 5 (g15 13 i1 5))) (fun g17 => if ¬ ((g17 13 i1 6) = 0 ∨ (g17 13 i1 6) = 1) then none else ltm (upr g17 (13 + 20 * j) i0 (upd (g17 (13 + 20 * j) i0) 6 (g17 13 i1 6))) (fun g20 => ltm (upr g20 (13 + 20 * j) i0 (upd (g20 (13 + 20 * j) i0) 7 (g20 13 i1 7))) (fun g22 => ltm (upr g22 (13 + 20 * j) i0 (upd (g22 (13 + 20 * j) i0) 8 (g22 13 i1 8))) (fun g24 => ltm (upr g24 (13 + 20 * j) i0 (upd (g24 (13 + 20 * j) i0) 9 (g24 13 i1 9))) (fun g26 => ltm (upr g26 (13 + 20 * j) i0 (upd (g26 (13 + 20 * j) i0) 10 (g26 13 i1 10))) (fun g28 => ltm (upr g28 (13 + 20 * j) i0 (upd (g28 (13 + 20 * j) i0) 11 (g28 13 i1 11))) (fun g30 => ltm (upr g30 (13 + 20 * j) i0 (upd (g30 (13 + 20 * j) i0) 12 (g30 13 i1 12))) (fun g32 => ltm (upr g32 (13 + 20 * j) i0 (upd (g32 (13 + 20 * j) i0) 13 (g32 13 i1 13))) (fun g34 => ltm (upr g34 (13 + 20 * j) i0 (upd (g34 (13 + 20 * j) i0) 14 (g34 13 i1 14))) (fun g36 => some (0, g36))))))))))))))))
set_option maxHeartbeats 4000000 in
set_option maxRecDepth 100000 in
theorem c_X1_becomea (l : Launch) {κ : Cx} (hok : fok (cφ κ)) (hn : 1 ≤ cn κ) {j : Nat} {i0 : Nat} {i1 : Nat} (hj : j < cn κ) (h0 : i0 < 10) (h1 : i1 < 10) {g : Mem} {u : Int32 × Mem} (h : m_X1_becomea j i0 i1 g  = some u) : fM l (cφ κ) yX1_become wsX1_become 2 39 [.ref (fa (cφ κ) (13 + 20 * j) i0), .ref (fa (cφ κ) 13 i1)] g none u.2 := by
  refine fM.of (cc := cX1_become) (maxL := 2) (ret := none) [(0, .ref (fa (cφ κ) (13 + 20 * j) i0)), (1, .ref (fa (cφ κ) 13 i1))] (by decide) rfl (Nat.le_of_ble_eq_true rfl) rfl (fun p e s m below meth c ls hx hb hr hml hown hts hlk hE hF hS hl => ?_)
  replace hown : s.vm.findClass RX1 = some m.cls := hown
  have hL1 : ∀ w ∈ u_ws RX1 TX1 15, w.before ([.ref (fa (cφ κ) (13 + 20 * j) i0), .ref (fa (cφ κ) 13 i1)] : List Value).toArray s = true := fun w hw => hts w (by
    unfold wsX1_become
    simp only [List.mem_cons, List.mem_append]
    exact Or.inr (Or.inl (Or.inr hw)))
  have kw1 := hts (.fieldLink RX1 18 "MeshLamps$Lamp" "settings" "[I") (List.mem_of_getElem? (i := 1) rfl)
  have kw2 := hts (.methodLink RX1 73 arraycopyName) (List.mem_of_getElem? (i := 2) rfl)
  have kw3 := hts (.native arraycopyName) (List.mem_of_getElem? (i := 3) rfl)
  have kw4 := hts (.static arraycopyName) (List.mem_of_getElem? (i := 4) rfl)
  have kw5 := hts (.initialized "java/lang/System") (List.mem_of_getElem? (i := 5) rfl)
  have kw6 := hts (.fieldLink RX1 23 "MeshLamps$Lamp" "greatestTaken" "[I") (List.mem_of_getElem? (i := 6) rfl)
  have kw7 := hts (.fieldLink RX1 31 "MeshLamps$Lamp" "mind" "LMeshLamps$Line;") (List.mem_of_getElem? (i := 7) rfl)
  have kw8 := hts (.fieldLink RX1 35 "MeshLamps$Lamp" "kept" "LMeshLamps$Line;") (List.mem_of_getElem? (i := 8) rfl)
  have kw9 := hts (.fieldLink RX1 38 "MeshLamps$Lamp" "links" "I") (List.mem_of_getElem? (i := 9) rfl)
  have kw10 := hts (.fieldLink RX1 42 "MeshLamps$Lamp" "light" "I") (List.mem_of_getElem? (i := 10) rfl)
  have kw11 := hts (.fieldLink RX1 45 "MeshLamps$Lamp" "sleeps" "Z") (List.mem_of_getElem? (i := 11) rfl)
  have kw12 := hts (.fieldLink RX1 49 "MeshLamps$Lamp" "friend" "I") (List.mem_of_getElem? (i := 12) rfl)
  have kw13 := hts (.fieldLink RX1 52 "MeshLamps$Lamp" "told" "I") (List.mem_of_getElem? (i := 13) rfl)
  have kw14 := hts (.fieldLink RX1 55 "MeshLamps$Lamp" "took" "I") (List.mem_of_getElem? (i := 14) rfl)
  have kw15 := hts (.fieldLink RX1 58 "MeshLamps$Lamp" "refusedAsOld" "I") (List.mem_of_getElem? (i := 15) rfl)
  have kw16 := hts (.fieldLink RX1 61 "MeshLamps$Lamp" "hadStrange" "I") (List.mem_of_getElem? (i := 16) rfl)
  have kw17 := hts (.fieldLink RX1 64 "MeshLamps$Lamp" "hadStale" "I") (List.mem_of_getElem? (i := 17) rfl)
  have kw18 := hts (.fieldLink RX1 67 "MeshLamps$Lamp" "hadNew" "I") (List.mem_of_getElem? (i := 18) rfl)
  have kw19 := hts (.fieldLink RX1 70 "MeshLamps$Lamp" "spoke" "I") (List.mem_of_getElem? (i := 19) rfl)
  unfold m_X1_becomea at h
  refine lv_aload_n hx hb dX1_become_0 rfl (lv_at hl 1 rfl) ?_
  refine fw_get (C := RX1) (T := TX1) (N := 15) (ci := 1) (v := .ref (fa (cφ κ) 14 i1)) hx hb hL1 hown hE hF (b13 hn h1) (cm13 κ _ _) rfl 0 (by decide) kw1 rfl dX1_become_1 ?_
  refine lv_iconst (v := (0 : Int32)) hx hb dX1_become_4 (by decide) ?_
  refine lv_aload_n hx hb dX1_become_5 rfl (lv_at hl 0 rfl) ?_
  refine fw_get (C := RX1) (T := TX1) (N := 15) (ci := 1) (v := .ref (fa (cφ κ) (14 + 20 * j) i0)) hx hb hL1 hown hE hF (b13j hj h0) (cm13j κ _ _ _) rfl 0 (by decide) kw1 rfl dX1_become_6 ?_
  refine lv_iconst (v := (0 : Int32)) hx hb dX1_become_9 (by decide) ?_
  refine lv_iconst (v := (4 : Int32)) hx hb dX1_become_10 (by decide) ?_
  obtain ⟨k1, h⟩ := ck h
  refine fw_copy (rest := []) hx hb (hml.trans hl.1.symm) hown kw2 kw3 kw4 kw5 hE hok hF hS (b14 hn h1) (b14j hj h0) (cm14 κ _) (cm14j κ _ _) 0 0 rfl rfl k1 (Nat.le_of_ble_eq_true rfl) (Nat.le_of_ble_eq_true rfl) dX1_become_11 (fun H locs hF hS => ?_)
  obtain ⟨g2, e3, h⟩ := ltm_e h
  rw [e3] at hF
  refine lv_aload_n hx hb dX1_become_14 rfl (lv_at hl 1 rfl) ?_
  refine fw_get (C := RX1) (T := TX1) (N := 15) (ci := 1) (v := .ref (fa (cφ κ) 15 i1)) hx hb hL1 hown hE hF (b13 hn h1) (cm13 κ _ _) rfl 1 (by decide) kw6 rfl dX1_become_15 ?_
  refine lv_iconst (v := (0 : Int32)) hx hb dX1_become_18 (by decide) ?_
  refine lv_aload_n hx hb dX1_become_19 rfl (lv_at hl 0 rfl) ?_
  refine fw_get (C := RX1) (T := TX1) (N := 15) (ci := 1) (v := .ref (fa (cφ κ) (15 + 20 * j) i0)) hx hb hL1 hown hE hF (b13j hj h0) (cm13j κ _ _ _) rfl 1 (by decide) kw6 rfl dX1_become_20 ?_
  refine lv_iconst (v := (0 : Int32)) hx hb dX1_become_23 (by decide) ?_
  refine lv_bipush (v := (10 : Int32)) hx hb dX1_become_24 (by decide) ?_
  obtain ⟨k4, h⟩ := ck h
  refine fw_copy (rest := []) hx hb (hml.trans hl.1.symm) hown kw2 kw3 kw4 kw5 hE hok hF hS (b15 hn h1) (b15j hj h0) (cm15 κ _) (cm15j κ _ _) 0 0 rfl rfl k4 (Nat.le_of_ble_eq_true rfl) (Nat.le_of_ble_eq_true rfl) dX1_become_26 (fun H locs hF hS => ?_)
  obtain ⟨g5, e6, h⟩ := ltm_e h
  rw [e6] at hF
  refine lv_aload_n hx hb dX1_become_29 rfl (lv_at hl 0 rfl) ?_
  refine fw_get (C := RX1) (T := TX1) (N := 15) (ci := 1) (v := .ref (fa (cφ κ) (16 + 20 * j) i0)) hx hb hL1 hown hE hF (b13j hj h0) (cm13j κ _ _ _) rfl 2 (by decide) kw7 rfl dX1_become_30 ?_
  refine lv_aload_n hx hb dX1_become_33 rfl (lv_at hl 1 rfl) ?_
  refine fw_get (C := RX1) (T := TX1) (N := 15) (ci := 1) (v := .ref (fa (cφ κ) 16 i1)) hx hb hL1 hown hE hF (b13 hn h1) (cm13 κ _ _) rfl 2 (by decide) kw7 rfl dX1_become_34 ?_
  obtain ⟨⟨r8, g9⟩, q7, h⟩ := bnd h
  try dsimp only at h
  refine fw_callv (va_runV (As := [.ref (fa (cφ κ) 16 i1)]) (rest := []) ⟨hx, hb, hml, hown, hts⟩ (c_X3_becomema l hok hn hj h0 h1 q7) (cwV 1 hts gX1_become_X3_become rfl rfl rfl qv_X3_become ⟨Nat.le_of_ble_eq_true rfl, Nat.le_of_ble_eq_true rfl⟩) (fw_preV hok hE hF (b16j hj h0) (cm16j κ _ _ _) rfl) rfl rfl hl.1 rfl (lv_room (Nat.le_of_ble_eq_true rfl)) dX1_become_37 ⟨Nat.le_refl _, Nat.le_refl _⟩) hS (fun H locs hF hS => ?_)
  refine lv_aload_n hx hb dX1_become_40 rfl (lv_at hl 0 rfl) ?_
  refine fw_get (C := RX1) (T := TX1) (N := 15) (ci := 1) (v := .ref (fa (cφ κ) (18 + 20 * j) i0)) hx hb hL1 hown hE hF (b13j hj h0) (cm13j κ _ _ _) rfl 3 (by decide) kw8 rfl dX1_become_41 ?_
  refine lv_aload_n hx hb dX1_become_44 rfl (lv_at hl 1 rfl) ?_
  refine fw_get (C := RX1) (T := TX1) (N := 15) (ci := 1) (v := .ref (fa (cφ κ) 18 i1)) hx hb hL1 hown hE hF (b13 hn h1) (cm13 κ _ _) rfl 3 (by decide) kw8 rfl dX1_become_45 ?_
  obtain ⟨⟨r12, g13⟩, q11, h⟩ := bnd h
  try dsimp only at h
  refine fw_callv (va_runV (As := [.ref (fa (cφ κ) 18 i1)]) (rest := []) ⟨hx, hb, hml, hown, hts⟩ (c_X3_becomeka l hok hn hj h0 h1 q11) (cwV 1 hts gX1_become_X3_become rfl rfl rfl qv_X3_become ⟨Nat.le_of_ble_eq_true rfl, Nat.le_of_ble_eq_true rfl⟩) (fw_preV hok hE hF (b18j hj h0) (cm18j κ _ _ _) rfl) rfl rfl hl.1 rfl (lv_room (Nat.le_of_ble_eq_true rfl)) dX1_become_48 ⟨Nat.le_refl _, Nat.le_refl _⟩) hS (fun H locs hF hS => ?_)
  refine lv_aload_n hx hb dX1_become_51 rfl (lv_at hl 0 rfl) ?_
  refine lv_aload_n hx hb dX1_become_52 rfl (lv_at hl 1 rfl) ?_
  refine fw_get (C := RX1) (T := TX1) (N := 15) (ci := 1) (v := .int (g13 13 i1 4)) hx hb hL1 hown hE hF (b13 hn h1) (cm13 κ _ _) rfl 4 (by decide) kw9 rfl dX1_become_53 ?_
  refine fw_put (C := RX1) (T := TX1) (N := 15) (ci := 1) (ty := .int) (v := .int (g13 13 i1 4)) (r := upd (g13 (13 + 20 * j) i0) 4 (g13 13 i1 4)) hx hb hL1 tyX1 tyX1_ok nmX1 hown hE hok hF hS (b13j hj h0) (cm13j κ _ _ _) rfl 4 (by decide) kw9 rfl (tyX1_ok 4 (by decide)) rfl rfl (Nat.le_of_ble_eq_true rfl) (by rw [cm13j]; rfl) dX1_become_56 (fun H locs hF hS => ?_)
  obtain ⟨g15, e16, h⟩ := ltm_e h
  rw [e16] at hF
  refine lv_aload_n hx hb dX1_become_59 rfl (lv_at hl 0 rfl) ?_
  refine lv_aload_n hx hb dX1_become_60 rfl (lv_at hl 1 rfl) ?_
  refine fw_get (C := RX1) (T := TX1) (N := 15) (ci := 1) (v := .int (g15 13 i1 5)) hx hb hL1 hown hE hF (b13 hn h1) (cm13 κ _ _) rfl 5 (by decide) kw10 rfl dX1_become_61 ?_
  refine fw_put (C := RX1) (T := TX1) (N := 15) (ci := 1) (ty := .int) (v := .int (g15 13 i1 5)) (r := upd (g15 (13 + 20 * j) i0) 5 (g15 13 i1 5)) hx hb hL1 tyX1 tyX1_ok nmX1 hown hE hok hF hS (b13j hj h0) (cm13j κ _ _ _) rfl 5 (by decide) kw10 rfl (tyX1_ok 5 (by decide)) rfl rfl (Nat.le_of_ble_eq_true rfl) (by rw [cm13j]; rfl) dX1_become_64 (fun H locs hF hS => ?_)
  obtain ⟨g17, e18, h⟩ := ltm_e h
  rw [e18] at hF
  refine lv_aload_n hx hb dX1_become_67 rfl (lv_at hl 0 rfl) ?_
  refine lv_aload_n hx hb dX1_become_68 rfl (lv_at hl 1 rfl) ?_
  refine fw_get (C := RX1) (T := TX1) (N := 15) (ci := 1) (v := .int (g17 13 i1 6)) hx hb hL1 hown hE hF (b13 hn h1) (cm13 κ _ _) rfl 6 (by decide) kw11 rfl dX1_become_69 ?_
  obtain ⟨k19, h⟩ := ck h
  refine fw_put (C := RX1) (T := TX1) (N := 15) (ci := 1) (ty := .boolean) (v := .int (g17 13 i1 6)) (r := upd (g17 (13 + 20 * j) i0) 6 (g17 13 i1 6)) hx hb hL1 tyX1 tyX1_ok nmX1 hown hE hok hF hS (b13j hj h0) (cm13j κ _ _ _) rfl 6 (by decide) kw11 rfl (tyX1_ok 6 (by decide)) (zok k19).1 (zok k19).2 (Nat.le_of_ble_eq_true rfl) (by rw [cm13j]; rfl) dX1_become_72 (fun H locs hF hS => ?_)
  obtain ⟨g20, e21, h⟩ := ltm_e h
  rw [e21] at hF
  refine lv_aload_n hx hb dX1_become_75 rfl (lv_at hl 0 rfl) ?_
  refine lv_aload_n hx hb dX1_become_76 rfl (lv_at hl 1 rfl) ?_
  refine fw_get (C := RX1) (T := TX1) (N := 15) (ci := 1) (v := .int (g20 13 i1 7)) hx hb hL1 hown hE hF (b13 hn h1) (cm13 κ _ _) rfl 7 (by decide) kw12 rfl dX1_become_77 ?_
  refine fw_put (C := RX1) (T := TX1) (N := 15) (ci := 1) (ty := .int) (v := .int (g20 13 i1 7)) (r := upd (g20 (13 + 20 * j) i0) 7 (g20 13 i1 7)) hx hb hL1 tyX1 tyX1_ok nmX1 hown hE hok hF hS (b13j hj h0) (cm13j κ _ _ _) rfl 7 (by decide) kw12 rfl (tyX1_ok 7 (by decide)) rfl rfl (Nat.le_of_ble_eq_true rfl) (by rw [cm13j]; rfl) dX1_become_80 (fun H locs hF hS => ?_)
  obtain ⟨g22, e23, h⟩ := ltm_e h
  rw [e23] at hF
  refine lv_aload_n hx hb dX1_become_83 rfl (lv_at hl 0 rfl) ?_
  refine lv_aload_n hx hb dX1_become_84 rfl (lv_at hl 1 rfl) ?_
  refine fw_get (C := RX1) (T := TX1) (N := 15) (ci := 1) (v := .int (g22 13 i1 8)) hx hb hL1 hown hE hF (b13 hn h1) (cm13 κ _ _) rfl 8 (by decide) kw13 rfl dX1_become_85 ?_
  refine fw_put (C := RX1) (T := TX1) (N := 15) (ci := 1) (ty := .int) (v := .int (g22 13 i1 8)) (r := upd (g22 (13 + 20 * j) i0) 8 (g22 13 i1 8)) hx hb hL1 tyX1 tyX1_ok nmX1 hown hE hok hF hS (b13j hj h0) (cm13j κ _ _ _) rfl 8 (by decide) kw13 rfl (tyX1_ok 8 (by decide)) rfl rfl (Nat.le_of_ble_eq_true rfl) (by rw [cm13j]; rfl) dX1_become_88 (fun H locs hF hS => ?_)
  obtain ⟨g24, e25, h⟩ := ltm_e h
  rw [e25] at hF
  refine lv_aload_n hx hb dX1_become_91 rfl (lv_at hl 0 rfl) ?_
  refine lv_aload_n hx hb dX1_become_92 rfl (lv_at hl 1 rfl) ?_
  refine fw_get (C := RX1) (T := TX1) (N := 15) (ci := 1) (v := .int (g24 13 i1 9)) hx hb hL1 hown hE hF (b13 hn h1) (cm13 κ _ _) rfl 9 (by decide) kw14 rfl dX1_become_93 ?_
  refine fw_put (C := RX1) (T := TX1) (N := 15) (ci := 1) (ty := .int) (v := .int (g24 13 i1 9)) (r := upd (g24 (13 + 20 * j) i0) 9 (g24 13 i1 9)) hx hb hL1 tyX1 tyX1_ok nmX1 hown hE hok hF hS (b13j hj h0) (cm13j κ _ _ _) rfl 9 (by decide) kw14 rfl (tyX1_ok 9 (by decide)) rfl rfl (Nat.le_of_ble_eq_true rfl) (by rw [cm13j]; rfl) dX1_become_96 (fun H locs hF hS => ?_)
  obtain ⟨g26, e27, h⟩ := ltm_e h
  rw [e27] at hF
  refine lv_aload_n hx hb dX1_become_99 rfl (lv_at hl 0 rfl) ?_
  refine lv_aload_n hx hb dX1_become_100 rfl (lv_at hl 1 rfl) ?_
  refine fw_get (C := RX1) (T := TX1) (N := 15) (ci := 1) (v := .int (g26 13 i1 10)) hx hb hL1 hown hE hF (b13 hn h1) (cm13 κ _ _) rfl 10 (by decide) kw15 rfl dX1_become_101 ?_
  refine fw_put (C := RX1) (T := TX1) (N := 15) (ci := 1) (ty := .int) (v := .int (g26 13 i1 10)) (r := upd (g26 (13 + 20 * j) i0) 10 (g26 13 i1 10)) hx hb hL1 tyX1 tyX1_ok nmX1 hown hE hok hF hS (b13j hj h0) (cm13j κ _ _ _) rfl 10 (by decide) kw15 rfl (tyX1_ok 10 (by decide)) rfl rfl (Nat.le_of_ble_eq_true rfl) (by rw [cm13j]; rfl) dX1_become_104 (fun H locs hF hS => ?_)
  obtain ⟨g28, e29, h⟩ := ltm_e h
  rw [e29] at hF
  refine lv_aload_n hx hb dX1_become_107 rfl (lv_at hl 0 rfl) ?_
  refine lv_aload_n hx hb dX1_become_108 rfl (lv_at hl 1 rfl) ?_
  refine fw_get (C := RX1) (T := TX1) (N := 15) (ci := 1) (v := .int (g28 13 i1 11)) hx hb hL1 hown hE hF (b13 hn h1) (cm13 κ _ _) rfl 11 (by decide) kw16 rfl dX1_become_109 ?_
  refine fw_put (C := RX1) (T := TX1) (N := 15) (ci := 1) (ty := .int) (v := .int (g28 13 i1 11)) (r := upd (g28 (13 + 20 * j) i0) 11 (g28 13 i1 11)) hx hb hL1 tyX1 tyX1_ok nmX1 hown hE hok hF hS (b13j hj h0) (cm13j κ _ _ _) rfl 11 (by decide) kw16 rfl (tyX1_ok 11 (by decide)) rfl rfl (Nat.le_of_ble_eq_true rfl) (by rw [cm13j]; rfl) dX1_become_112 (fun H locs hF hS => ?_)
  obtain ⟨g30, e31, h⟩ := ltm_e h
  rw [e31] at hF
  refine lv_aload_n hx hb dX1_become_115 rfl (lv_at hl 0 rfl) ?_
  refine lv_aload_n hx hb dX1_become_116 rfl (lv_at hl 1 rfl) ?_
  refine fw_get (C := RX1) (T := TX1) (N := 15) (ci := 1) (v := .int (g30 13 i1 12)) hx hb hL1 hown hE hF (b13 hn h1) (cm13 κ _ _) rfl 12 (by decide) kw17 rfl dX1_become_117 ?_
  refine fw_put (C := RX1) (T := TX1) (N := 15) (ci := 1) (ty := .int) (v := .int (g30 13 i1 12)) (r := upd (g30 (13 + 20 * j) i0) 12 (g30 13 i1 12)) hx hb hL1 tyX1 tyX1_ok nmX1 hown hE hok hF hS (b13j hj h0) (cm13j κ _ _ _) rfl 12 (by decide) kw17 rfl (tyX1_ok 12 (by decide)) rfl rfl (Nat.le_of_ble_eq_true rfl) (by rw [cm13j]; rfl) dX1_become_120 (fun H locs hF hS => ?_)
  obtain ⟨g32, e33, h⟩ := ltm_e h
  rw [e33] at hF
  refine lv_aload_n hx hb dX1_become_123 rfl (lv_at hl 0 rfl) ?_
  refine lv_aload_n hx hb dX1_become_124 rfl (lv_at hl 1 rfl) ?_
  refine fw_get (C := RX1) (T := TX1) (N := 15) (ci := 1) (v := .int (g32 13 i1 13)) hx hb hL1 hown hE hF (b13 hn h1) (cm13 κ _ _) rfl 13 (by decide) kw18 rfl dX1_become_125 ?_
  refine fw_put (C := RX1) (T := TX1) (N := 15) (ci := 1) (ty := .int) (v := .int (g32 13 i1 13)) (r := upd (g32 (13 + 20 * j) i0) 13 (g32 13 i1 13)) hx hb hL1 tyX1 tyX1_ok nmX1 hown hE hok hF hS (b13j hj h0) (cm13j κ _ _ _) rfl 13 (by decide) kw18 rfl (tyX1_ok 13 (by decide)) rfl rfl (Nat.le_of_ble_eq_true rfl) (by rw [cm13j]; rfl) dX1_become_128 (fun H locs hF hS => ?_)
  obtain ⟨g34, e35, h⟩ := ltm_e h
  rw [e35] at hF
  refine lv_aload_n hx hb dX1_become_131 rfl (lv_at hl 0 rfl) ?_
  refine lv_aload_n hx hb dX1_become_132 rfl (lv_at hl 1 rfl) ?_
  refine fw_get (C := RX1) (T := TX1) (N := 15) (ci := 1) (v := .int (g34 13 i1 14)) hx hb hL1 hown hE hF (b13 hn h1) (cm13 κ _ _) rfl 14 (by decide) kw19 rfl dX1_become_133 ?_
  refine fw_put (C := RX1) (T := TX1) (N := 15) (ci := 1) (ty := .int) (v := .int (g34 13 i1 14)) (r := upd (g34 (13 + 20 * j) i0) 14 (g34 13 i1 14)) hx hb hL1 tyX1 tyX1_ok nmX1 hown hE hok hF hS (b13j hj h0) (cm13j κ _ _ _) rfl 14 (by decide) kw19 rfl (tyX1_ok 14 (by decide)) rfl rfl (Nat.le_of_ble_eq_true rfl) (by rw [cm13j]; rfl) dX1_become_136 (fun H locs hF hS => ?_)
  obtain ⟨g36, e37, h⟩ := ltm_e h
  rw [e37] at hF
  exact fw_vret hx hb hr hlk h hF hS dX1_become_139
def st_X4_becomea_2 (F : Nat) (K : Mem → Int32 → Option (Int32 × Mem)) (j : Nat) (g : Mem) (x2 : Int32) : Option (Int32 × Mem) := (if ((10 : Int32)) ≤ x2 then (m_X2_becomea j g ).bind (fun (r3, g4) => (m_X0_becomea j g4 ).bind (fun (r7, g8) => ltm (upr g8 (2 + 20 * j) 0 (upd (g8 (2 + 20 * j) 0) 3 (g8 2 0 3))) (fun g10 => ltm (upr g10 (2 + 20 * j) 0 (upd (g10 (2 + 20 * j) 0) 4 (g10 2 0 4))) (fun g12 => ltm (upr g12 (2 + 20 * j) 0 (upd (g12 (2 + 20 * j) 0) 5 (g12 2 0 5))) (fun g14 => ltm (upr g14 (2 + 20 * j) 0 (upd (g14 (2 + 20 * j) 0) 6 (g14 2 0 6))) (fun g16 => ltm (upr g16 (2 + 20 * j) 0 (upd (g16 (2 + 20 * j) 0) 7 (g16 2 0 7))) (fun g18 => ltm (upr g18 (2 + 20 * j) 0 (upd (g18 (2 + 20 * j) 0) 8 (g18 2 0 8))) (fun g20 => ltm (upr g20 (2 + 20 * j) 0 (upd (g20 (2 + 20 * j) 0) 9 (g20 2 0 9))) (fun g22 => ltm (upr g22 (2 + 20 * j) 0 (upd (g22 (2 + 20 * j) 0) 10 (g22 2 0 10))) (fun g24 => some (0, g24))))))))))) else if (x2 < 0 ∨ 10 ≤ x2.toNatClampNeg) then none else if (x2 < 0 ∨ 10 ≤ x2.toNatClampNeg) then none else (m_X1_becomea j (x2.toNatClampNeg) (x2.toNatClampNeg) g ).bind (fun (r29, g30) => K g30 (x2 + (1 : Int32))))
def lp_X4_becomea_2 (F : Nat) : Nat → Nat → Mem → Int32 → Option (Int32 × Mem)
  | 0, _, _, _ => none
  | f + 1, j, g, x2 => st_X4_becomea_2 F (lp_X4_becomea_2 F f j) j g x2
def m_X4_becomea (F : Nat) (j : Nat) (g : Mem) : Option (Int32 × Mem) := lp_X4_becomea_2 F F j g ((0 : Int32))
set_option maxHeartbeats 4000000 in
set_option maxRecDepth 100000 in
theorem c_X4_becomea (l : Launch) {κ : Cx} (hok : fok (cφ κ)) (hn : 1 ≤ cn κ) {j : Nat} (hj : j < cn κ) {F : Nat} {g : Mem} {u : Int32 × Mem} (h : m_X4_becomea F j g  = some u) : fM l (cφ κ) yX4_become wsX4_become 3 60 [.ref (fa (cφ κ) (2 + 20 * j) 0), .ref (fa (cφ κ) 2 0)] g none u.2 := by
  refine fM.of (cc := cX4_become) (maxL := 3) (ret := none) [(0, .ref (fa (cφ κ) (2 + 20 * j) 0)), (1, .ref (fa (cφ κ) 2 0))] (by decide) rfl (Nat.le_of_ble_eq_true rfl) rfl (fun p e s m below meth c ls hx hb hr hml hown hts hlk hE hF hS hl => ?_)
  replace hown : s.vm.findClass RX4 = some m.cls := hown
  have hL4 : ∀ w ∈ u_ws RX4 TX4 11, w.before ([.ref (fa (cφ κ) (2 + 20 * j) 0), .ref (fa (cφ κ) 2 0)] : List Value).toArray s = true := fun w hw => hts w (by
    unfold wsX4_become
    simp only [List.mem_cons, List.mem_append]
    exact Or.inr (Or.inl (Or.inl (Or.inl (Or.inl (Or.inr hw))))))
  have kw2 := hts (.fieldLink RX4 20 "MeshLamps$Mesh" "letters" "LMeshLamps$Letters;") (List.mem_of_getElem? (i := 2) rfl)
  have kw3 := hts (.fieldLink RX4 27 "MeshLamps$Mesh" "air" "LMeshLamps$Air;") (List.mem_of_getElem? (i := 3) rfl)
  have kw4 := hts (.fieldLink RX4 31 "MeshLamps$Mesh" "tick" "I") (List.mem_of_getElem? (i := 4) rfl)
  have kw5 := hts (.fieldLink RX4 35 "MeshLamps$Mesh" "key" "I") (List.mem_of_getElem? (i := 5) rfl)
  have kw6 := hts (.fieldLink RX4 38 "MeshLamps$Mesh" "phase" "I") (List.mem_of_getElem? (i := 6) rfl)
  have kw7 := hts (.fieldLink RX4 41 "MeshLamps$Mesh" "haveKey" "I") (List.mem_of_getElem? (i := 7) rfl)
  have kw8 := hts (.fieldLink RX4 44 "MeshLamps$Mesh" "haveNext" "I") (List.mem_of_getElem? (i := 8) rfl)
  have kw9 := hts (.fieldLink RX4 47 "MeshLamps$Mesh" "spoken" "I") (List.mem_of_getElem? (i := 9) rfl)
  have kw10 := hts (.fieldLink RX4 50 "MeshLamps$Mesh" "lostAsFull" "I") (List.mem_of_getElem? (i := 10) rfl)
  have kw11 := hts (.fieldLink RX4 53 "MeshLamps$Mesh" "lostAsleep" "I") (List.mem_of_getElem? (i := 11) rfl)
  have kw1 := hts (.fieldLink RX4 11 "MeshLamps$Mesh" "lamps" "[LMeshLamps$Lamp;") (List.mem_of_getElem? (i := 1) rfl)
  unfold m_X4_becomea at h
  refine lv_iconst (v := (0 : Int32)) hx hb dX4_become_0 (by decide) ?_
  refine lv_istore_n (lv' := [(2, .int ((0 : Int32))), (0, .ref (fa (cφ κ) (2 + 20 * j) 0)), (1, .ref (fa (cφ κ) 2 0))]) hx hb dX4_become_1 rfl hl (by decide) rfl (fun ls hl => ?_)
  have LOOP2 : ∀ (f : Nat) (g : Mem) (x2 : Int32) (H : Heap) (locs : List Loc) (ls : Array Slot), lp_X4_becomea_2 F f j g x2 = some u → fw (cφ κ) g H → va_S (fA (cφ κ)) s.heap H locs → lv_has ls 3 [(0, .ref (fa (cφ κ) (2 + 20 * j) 0)), (1, .ref (fa (cφ κ) 2 0)), (2, .int x2)] → W p l e ({ frames := 3, cells := 0, slots := 0, locals := 60 }) s m ([.ref (fa (cφ κ) (2 + 20 * j) 0), .ref (fa (cφ κ) 2 0)] : List Value).toArray below meth c H locs 0 0 (MQ below (fQ (cφ κ) none u.2) ([.ref (fa (cφ κ) (2 + 20 * j) 0), .ref (fa (cφ κ) 2 0)] : List Value).toArray s 0 0 (fA (cφ κ))) (F0 m 2 ls []) := by
    intro f
    induction f with
    | zero => intro g x2 H locs ls h hF hS hl; cases h
    | succ f ih =>
      intro g x2 H locs ls h hF hS hl
      replace h : st_X4_becomea_2 F (lp_X4_becomea_2 F f j) j g x2 = some u := h
      unfold st_X4_becomea_2 at h
      refine lv_iload_n hx hb dX4_become_2 rfl (lv_at hl 2 rfl) ?_
      refine lv_bipush (v := (10 : Int32)) hx hb dX4_become_3 (by decide) ?_
      refine lv_icmp_ge (tgt := 29) hx hb dX4_become_5 (by decide) (fun c1 => ?_) (fun c1 => ?_)
      · have h := ift h c1
        refine lv_aload_n hx hb dX4_become_29 rfl (lv_at hl 0 rfl) ?_
        refine fw_get (C := RX4) (T := TX4) (N := 11) (ci := 4) (v := .ref (fa (cφ κ) (4 + 20 * j) 0)) hx hb hL4 hown hE hF (b2j hj) (cm2j κ _ _ _) rfl 1 (by decide) kw2 rfl dX4_become_30 ?_
        refine lv_aload_n hx hb dX4_become_33 rfl (lv_at hl 1 rfl) ?_
        refine fw_get (C := RX4) (T := TX4) (N := 11) (ci := 4) (v := .ref (fa (cφ κ) 4 0)) hx hb hL4 hown hE hF (b2 hn) (cm2 κ _ _) rfl 1 (by decide) kw2 rfl dX4_become_34 ?_
        obtain ⟨⟨r3, g4⟩, q2, h⟩ := bnd h
        try dsimp only at h
        refine fw_callv (va_runV (As := [.ref (fa (cφ κ) 4 0)]) (rest := []) ⟨hx, hb, hml, hown, hts⟩ (c_X2_becomea l hok hn hj q2) (cwV 1 hts gX4_become_X2_become rfl rfl rfl qv_X2_become ⟨Nat.le_of_ble_eq_true rfl, Nat.le_of_ble_eq_true rfl⟩) (fw_preV hok hE hF (b4j hj) (cm4j κ _ _ _) rfl) rfl rfl hl.1 rfl (lv_room (Nat.le_of_ble_eq_true rfl)) dX4_become_37 ⟨Nat.le_refl _, Nat.le_refl _⟩) hS (fun H locs hF hS => ?_)
        refine lv_aload_n hx hb dX4_become_40 rfl (lv_at hl 0 rfl) ?_
        refine fw_get (C := RX4) (T := TX4) (N := 11) (ci := 4) (v := .ref (fa (cφ κ) (8 + 20 * j) 0)) hx hb hL4 hown hE hF (b2j hj) (cm2j κ _ _ _) rfl 2 (by decide) kw3 rfl dX4_become_41 ?_
        refine lv_aload_n hx hb dX4_become_44 rfl (lv_at hl 1 rfl) ?_
        refine fw_get (C := RX4) (T := TX4) (N := 11) (ci := 4) (v := .ref (fa (cφ κ) 8 0)) hx hb hL4 hown hE hF (b2 hn) (cm2 κ _ _) rfl 2 (by decide) kw3 rfl dX4_become_45 ?_
        obtain ⟨⟨r7, g8⟩, q6, h⟩ := bnd h
        try dsimp only at h
        refine fw_callv (va_runV (As := [.ref (fa (cφ κ) 8 0)]) (rest := []) ⟨hx, hb, hml, hown, hts⟩ (c_X0_becomea l hok hn hj q6) (cwV 1 hts gX4_become_X0_become rfl rfl rfl qv_X0_become ⟨Nat.le_of_ble_eq_true rfl, Nat.le_of_ble_eq_true rfl⟩) (fw_preV hok hE hF (b8j hj) (cm8j κ _ _ _) rfl) rfl rfl hl.1 rfl (lv_room (Nat.le_of_ble_eq_true rfl)) dX4_become_48 ⟨Nat.le_refl _, Nat.le_refl _⟩) hS (fun H locs hF hS => ?_)
        refine lv_aload_n hx hb dX4_become_51 rfl (lv_at hl 0 rfl) ?_
        refine lv_aload_n hx hb dX4_become_52 rfl (lv_at hl 1 rfl) ?_
        refine fw_get (C := RX4) (T := TX4) (N := 11) (ci := 4) (v := .int (g8 2 0 3)) hx hb hL4 hown hE hF (b2 hn) (cm2 κ _ _) rfl 3 (by decide) kw4 rfl dX4_become_53 ?_
        refine fw_put (C := RX4) (T := TX4) (N := 11) (ci := 4) (ty := .int) (v := .int (g8 2 0 3)) (r := upd (g8 (2 + 20 * j) 0) 3 (g8 2 0 3)) hx hb hL4 tyX4 tyX4_ok nmX4 hown hE hok hF hS (b2j hj) (cm2j κ _ _ _) rfl 3 (by decide) kw4 rfl (tyX4_ok 3 (by decide)) rfl rfl (Nat.le_of_ble_eq_true rfl) (by rw [cm2j]; rfl) dX4_become_56 (fun H locs hF hS => ?_)
        obtain ⟨g10, e11, h⟩ := ltm_e h
        rw [e11] at hF
        refine lv_aload_n hx hb dX4_become_59 rfl (lv_at hl 0 rfl) ?_
        refine lv_aload_n hx hb dX4_become_60 rfl (lv_at hl 1 rfl) ?_
        refine fw_get (C := RX4) (T := TX4) (N := 11) (ci := 4) (v := .int (g10 2 0 4)) hx hb hL4 hown hE hF (b2 hn) (cm2 κ _ _) rfl 4 (by decide) kw5 rfl dX4_become_61 ?_
        refine fw_put (C := RX4) (T := TX4) (N := 11) (ci := 4) (ty := .int) (v := .int (g10 2 0 4)) (r := upd (g10 (2 + 20 * j) 0) 4 (g10 2 0 4)) hx hb hL4 tyX4 tyX4_ok nmX4 hown hE hok hF hS (b2j hj) (cm2j κ _ _ _) rfl 4 (by decide) kw5 rfl (tyX4_ok 4 (by decide)) rfl rfl (Nat.le_of_ble_eq_true rfl) (by rw [cm2j]; rfl) dX4_become_64 (fun H locs hF hS => ?_)
        obtain ⟨g12, e13, h⟩ := ltm_e h
        rw [e13] at hF
        refine lv_aload_n hx hb dX4_become_67 rfl (lv_at hl 0 rfl) ?_
        refine lv_aload_n hx hb dX4_become_68 rfl (lv_at hl 1 rfl) ?_
        refine fw_get (C := RX4) (T := TX4) (N := 11) (ci := 4) (v := .int (g12 2 0 5)) hx hb hL4 hown hE hF (b2 hn) (cm2 κ _ _) rfl 5 (by decide) kw6 rfl dX4_become_69 ?_
        refine fw_put (C := RX4) (T := TX4) (N := 11) (ci := 4) (ty := .int) (v := .int (g12 2 0 5)) (r := upd (g12 (2 + 20 * j) 0) 5 (g12 2 0 5)) hx hb hL4 tyX4 tyX4_ok nmX4 hown hE hok hF hS (b2j hj) (cm2j κ _ _ _) rfl 5 (by decide) kw6 rfl (tyX4_ok 5 (by decide)) rfl rfl (Nat.le_of_ble_eq_true rfl) (by rw [cm2j]; rfl) dX4_become_72 (fun H locs hF hS => ?_)
        obtain ⟨g14, e15, h⟩ := ltm_e h
        rw [e15] at hF
        refine lv_aload_n hx hb dX4_become_75 rfl (lv_at hl 0 rfl) ?_
        refine lv_aload_n hx hb dX4_become_76 rfl (lv_at hl 1 rfl) ?_
        refine fw_get (C := RX4) (T := TX4) (N := 11) (ci := 4) (v := .int (g14 2 0 6)) hx hb hL4 hown hE hF (b2 hn) (cm2 κ _ _) rfl 6 (by decide) kw7 rfl dX4_become_77 ?_
        refine fw_put (C := RX4) (T := TX4) (N := 11) (ci := 4) (ty := .int) (v := .int (g14 2 0 6)) (r := upd (g14 (2 + 20 * j) 0) 6 (g14 2 0 6)) hx hb hL4 tyX4 tyX4_ok nmX4 hown hE hok hF hS (b2j hj) (cm2j κ _ _ _) rfl 6 (by decide) kw7 rfl (tyX4_ok 6 (by decide)) rfl rfl (Nat.le_of_ble_eq_true rfl) (by rw [cm2j]; rfl) dX4_become_80 (fun H locs hF hS => ?_)
        obtain ⟨g16, e17, h⟩ := ltm_e h
        rw [e17] at hF
        refine lv_aload_n hx hb dX4_become_83 rfl (lv_at hl 0 rfl) ?_
        refine lv_aload_n hx hb dX4_become_84 rfl (lv_at hl 1 rfl) ?_
        refine fw_get (C := RX4) (T := TX4) (N := 11) (ci := 4) (v := .int (g16 2 0 7)) hx hb hL4 hown hE hF (b2 hn) (cm2 κ _ _) rfl 7 (by decide) kw8 rfl dX4_become_85 ?_
        refine fw_put (C := RX4) (T := TX4) (N := 11) (ci := 4) (ty := .int) (v := .int (g16 2 0 7)) (r := upd (g16 (2 + 20 * j) 0) 7 (g16 2 0 7)) hx hb hL4 tyX4 tyX4_ok nmX4 hown hE hok hF hS (b2j hj) (cm2j κ _ _ _) rfl 7 (by decide) kw8 rfl (tyX4_ok 7 (by decide)) rfl rfl (Nat.le_of_ble_eq_true rfl) (by rw [cm2j]; rfl) dX4_become_88 (fun H locs hF hS => ?_)
        obtain ⟨g18, e19, h⟩ := ltm_e h
        rw [e19] at hF
        refine lv_aload_n hx hb dX4_become_91 rfl (lv_at hl 0 rfl) ?_
        refine lv_aload_n hx hb dX4_become_92 rfl (lv_at hl 1 rfl) ?_
        refine fw_get (C := RX4) (T := TX4) (N := 11) (ci := 4) (v := .int (g18 2 0 8)) hx hb hL4 hown hE hF (b2 hn) (cm2 κ _ _) rfl 8 (by decide) kw9 rfl dX4_become_93 ?_
        refine fw_put (C := RX4) (T := TX4) (N := 11) (ci := 4) (ty := .int) (v := .int (g18 2 0 8)) (r := upd (g18 (2 + 20 * j) 0) 8 (g18 2 0 8)) hx hb hL4 tyX4 tyX4_ok nmX4 hown hE hok hF hS (b2j hj) (cm2j κ _ _ _) rfl 8 (by decide) kw9 rfl (tyX4_ok 8 (by decide)) rfl rfl (Nat.le_of_ble_eq_true rfl) (by rw [cm2j]; rfl) dX4_become_96 (fun H locs hF hS => ?_)
        obtain ⟨g20, e21, h⟩ := ltm_e h
        rw [e21] at hF
        refine lv_aload_n hx hb dX4_become_99 rfl (lv_at hl 0 rfl) ?_
        refine lv_aload_n hx hb dX4_become_100 rfl (lv_at hl 1 rfl) ?_
        refine fw_get (C := RX4) (T := TX4) (N := 11) (ci := 4) (v := .int (g20 2 0 9)) hx hb hL4 hown hE hF (b2 hn) (cm2 κ _ _) rfl 9 (by decide) kw10 rfl dX4_become_101 ?_
        refine fw_put (C := RX4) (T := TX4) (N := 11) (ci := 4) (ty := .int) (v := .int (g20 2 0 9)) (r := upd (g20 (2 + 20 * j) 0) 9 (g20 2 0 9)) hx hb hL4 tyX4 tyX4_ok nmX4 hown hE hok hF hS (b2j hj) (cm2j κ _ _ _) rfl 9 (by decide) kw10 rfl (tyX4_ok 9 (by decide)) rfl rfl (Nat.le_of_ble_eq_true rfl) (by rw [cm2j]; rfl) dX4_become_104 (fun H locs hF hS => ?_)
        obtain ⟨g22, e23, h⟩ := ltm_e h
        rw [e23] at hF
        refine lv_aload_n hx hb dX4_become_107 rfl (lv_at hl 0 rfl) ?_
        refine lv_aload_n hx hb dX4_become_108 rfl (lv_at hl 1 rfl) ?_
        refine fw_get (C := RX4) (T := TX4) (N := 11) (ci := 4) (v := .int (g22 2 0 10)) hx hb hL4 hown hE hF (b2 hn) (cm2 κ _ _) rfl 10 (by decide) kw11 rfl dX4_become_109 ?_
        refine fw_put (C := RX4) (T := TX4) (N := 11) (ci := 4) (ty := .int) (v := .int (g22 2 0 10)) (r := upd (g22 (2 + 20 * j) 0) 10 (g22 2 0 10)) hx hb hL4 tyX4 tyX4_ok nmX4 hown hE hok hF hS (b2j hj) (cm2j κ _ _ _) rfl 10 (by decide) kw11 rfl (tyX4_ok 10 (by decide)) rfl rfl (Nat.le_of_ble_eq_true rfl) (by rw [cm2j]; rfl) dX4_become_112 (fun H locs hF hS => ?_)
        obtain ⟨g24, e25, h⟩ := ltm_e h
        rw [e25] at hF
        exact fw_vret hx hb hr hlk h hF hS dX4_become_115
      · have h := iff0 h c1
        refine lv_aload_n hx hb dX4_become_8 rfl (lv_at hl 0 rfl) ?_
        refine fw_get (C := RX4) (T := TX4) (N := 11) (ci := 4) (v := .ref (fa (cφ κ) (3 + 20 * j) 0)) hx hb hL4 hown hE hF (b2j hj) (cm2j κ _ _ _) rfl 0 (by decide) kw1 rfl dX4_become_9 ?_
        refine lv_iload_n hx hb dX4_become_12 rfl (lv_at hl 2 rfl) ?_
        obtain ⟨k26, h⟩ := ck h
        refine fw_aald (a := fa (cφ κ) (13 + 20 * j) (x2.toNatClampNeg)) hx hb hE hF (b3j hj) (cm3j κ _ _ _) 1 rfl k26 rfl dX4_become_13 ?_
        refine lv_aload_n hx hb dX4_become_14 rfl (lv_at hl 1 rfl) ?_
        refine fw_get (C := RX4) (T := TX4) (N := 11) (ci := 4) (v := .ref (fa (cφ κ) 3 0)) hx hb hL4 hown hE hF (b2 hn) (cm2 κ _ _) rfl 0 (by decide) kw1 rfl dX4_become_15 ?_
        refine lv_iload_n hx hb dX4_become_18 rfl (lv_at hl 2 rfl) ?_
        obtain ⟨k27, h⟩ := ck h
        refine fw_aald (a := fa (cφ κ) 13 (x2.toNatClampNeg)) hx hb hE hF (b3 hn) (cm3 κ _ _) 1 rfl k27 rfl dX4_become_19 ?_
        obtain ⟨⟨r29, g30⟩, q28, h⟩ := bnd h
        try dsimp only at h
        refine fw_callv (va_runV (As := [.ref (fa (cφ κ) 13 (x2.toNatClampNeg))]) (rest := []) ⟨hx, hb, hml, hown, hts⟩ (c_X1_becomea l hok hn hj (vpl k26) (vpl k27) q28) (cwV 1 hts gX4_become_X1_become rfl rfl rfl qv_X1_become ⟨Nat.le_of_ble_eq_true rfl, Nat.le_of_ble_eq_true rfl⟩) (fw_preV hok hE hF (b13j hj (vpl k26)) (cm13j κ _ _ _) rfl) rfl rfl hl.1 rfl (lv_room (Nat.le_of_ble_eq_true rfl)) dX4_become_20 ⟨Nat.le_refl _, Nat.le_refl _⟩) hS (fun H locs hF hS => ?_)
        refine lv_iinc (v := x2 + (1 : Int32)) (lv' := [(2, .int (x2 + (1 : Int32))), (0, .ref (fa (cφ κ) (2 + 20 * j) 0)), (1, .ref (fa (cφ κ) 2 0))]) hx hb dX4_become_23 hl (k := 2) rfl rfl (by decide) rfl (fun ls hl => ?_)
        refine lv_goto (tgt := 2) hx hb dX4_become_26 (by decide) ?_
        exact ih g30 (x2 + (1 : Int32)) H locs ls h hF hS (lv_sub hl [1, 2, 0] rfl)
  exact LOOP2 F g ((0 : Int32)) _ _ ls h hF hS (lv_sub hl [1, 2, 0] rfl)
def m_X0_becomeb (j : Nat) (g : Mem) : Option (Int32 × Mem) := ltm (upr g 8 0 (upd (g 8 0) 4 (g (8 + 20 * j) 0 4))) (fun g1 => if ((0 : Int32) < 0 ∨ (0 : Int32) < 0 ∨ g1 8 0 4 < 0 ∨ 64 < ((0 : Int32)).toNatClampNeg + (g1 8 0 4).toNatClampNeg ∨ 64 < ((0 : Int32)).toNatClampNeg + (g1 8 0 4).toNatClampNeg) then none else ltm (upr g1 9 0 (va_cpy (g1 (9 + 20 * j) 0) (g1 9 0) ((0 : Int32)).toNatClampNeg ((0 : Int32)).toNatClampNeg (g1 8 0 4).toNatClampNeg)) (fun g4 => if ((0 : Int32) < 0 ∨ (0 : Int32) < 0 ∨ g4 8 0 4 < 0 ∨ 64 < ((0 : Int32)).toNatClampNeg + (g4 8 0 4).toNatClampNeg ∨ 64 < ((0 : Int32)).toNatClampNeg + (g4 8 0 4).toNatClampNeg) then none else ltm (upr g4 10 0 (va_cpy (g4 (10 + 20 * j) 0) (g4 10 0) ((0 : Int32)).toNatClampNeg ((0 : Int32)).toNatClampNeg (g4 8 0 4).toNatClampNeg)) (fun g7 => if ((0 : Int32) < 0 ∨ (0 : Int32) < 0 ∨ g7 8 0 4 < 0 ∨ 64 < ((0 : Int32)).toNatClampNeg + (g7 8 0 4).toNatClampNeg ∨ 64 < ((0 : Int32)).toNatClampNeg + (g7 8 0 4).toNatClampNeg) then none else ltm (upr g7 11 0 (va_cpy (g7 (11 + 20 * j) 0) (g7 11 0) ((0 : Int32)).toNatClampNeg ((0 : Int32)).toNatClampNeg (g7 8 0 4).toNatClampNeg)) (fun g10 => if ((0 : Int32) < 0 ∨ (0 : Int32) < 0 ∨ g10 8 0 4 < 0 ∨ 64 < ((0 : Int32)).toNatClampNeg + (g10 8 0 4).toNatClampNeg ∨ 64 < ((0 : Int32)).toNatClampNeg + (g10 8 0 4).toNatClampNeg) then none else ltm (upr g10 12 0 (va_cpy (g10 (12 + 20 * j) 0) (g10 12 0) ((0 : Int32)).toNatClampNeg ((0 : Int32)).toNatClampNeg (g10 8 0 4).toNatClampNeg)) (fun g13 => some (0, g13))))))
set_option maxHeartbeats 4000000 in
set_option maxRecDepth 100000 in
theorem c_X0_becomeb (l : Launch) {κ : Cx} (hok : fok (cφ κ)) (hn : 1 ≤ cn κ) {j : Nat} (hj : j < cn κ) {g : Mem} {u : Int32 × Mem} (h : m_X0_becomeb j g  = some u) : fM l (cφ κ) yX0_become wsX0_become 1 18 [.ref (fa (cφ κ) 8 0), .ref (fa (cφ κ) (8 + 20 * j) 0)] g none u.2 := by
  refine fM.of (cc := cX0_become) (maxL := 2) (ret := none) [(0, .ref (fa (cφ κ) 8 0)), (1, .ref (fa (cφ κ) (8 + 20 * j) 0))] (by decide) rfl (Nat.le_of_ble_eq_true rfl) rfl (fun p e s m below meth c ls hx hb hr hml hown hts hlk hE hF hS hl => ?_)
  replace hown : s.vm.findClass RX0 = some m.cls := hown
  have hL0 : ∀ w ∈ u_ws RX0 TX0 5, w.before ([.ref (fa (cφ κ) 8 0), .ref (fa (cφ κ) (8 + 20 * j) 0)] : List Value).toArray s = true := fun w hw => hts w (by
    unfold wsX0_become
    simp only [List.mem_cons, List.mem_append]
    exact Or.inr (Or.inr hw))
  have kw1 := hts (.fieldLink RX0 24 "MeshLamps$Air" "size" "I") (List.mem_of_getElem? (i := 1) rfl)
  have kw2 := hts (.fieldLink RX0 9 "MeshLamps$Air" "speaker" "[I") (List.mem_of_getElem? (i := 2) rfl)
  have kw3 := hts (.methodLink RX0 32 arraycopyName) (List.mem_of_getElem? (i := 3) rfl)
  have kw4 := hts (.native arraycopyName) (List.mem_of_getElem? (i := 4) rfl)
  have kw5 := hts (.static arraycopyName) (List.mem_of_getElem? (i := 5) rfl)
  have kw6 := hts (.initialized "java/lang/System") (List.mem_of_getElem? (i := 6) rfl)
  have kw7 := hts (.fieldLink RX0 15 "MeshLamps$Air" "tick" "[I") (List.mem_of_getElem? (i := 7) rfl)
  have kw8 := hts (.fieldLink RX0 18 "MeshLamps$Air" "letter" "[I") (List.mem_of_getElem? (i := 8) rfl)
  have kw9 := hts (.fieldLink RX0 21 "MeshLamps$Air" "steps" "[I") (List.mem_of_getElem? (i := 9) rfl)
  unfold m_X0_becomeb at h
  refine lv_aload_n hx hb dX0_become_0 rfl (lv_at hl 0 rfl) ?_
  refine lv_aload_n hx hb dX0_become_1 rfl (lv_at hl 1 rfl) ?_
  refine fw_get (C := RX0) (T := TX0) (N := 5) (ci := 0) (v := .int (g (8 + 20 * j) 0 4)) hx hb hL0 hown hE hF (b8j hj) (cm8j κ _ _ _) rfl 4 (by decide) kw1 rfl dX0_become_2 ?_
  refine fw_put (C := RX0) (T := TX0) (N := 5) (ci := 0) (ty := .int) (v := .int (g (8 + 20 * j) 0 4)) (r := upd (g 8 0) 4 (g (8 + 20 * j) 0 4)) hx hb hL0 tyX0 tyX0_ok nmX0 hown hE hok hF hS (b8 hn) (cm8 κ _ _) rfl 4 (by decide) kw1 rfl (tyX0_ok 4 (by decide)) rfl rfl (Nat.le_of_ble_eq_true rfl) rfl dX0_become_5 (fun H locs hF hS => ?_)
  obtain ⟨g1, e2, h⟩ := ltm_e h
  rw [e2] at hF
  refine lv_aload_n hx hb dX0_become_8 rfl (lv_at hl 1 rfl) ?_
  refine fw_get (C := RX0) (T := TX0) (N := 5) (ci := 0) (v := .ref (fa (cφ κ) (9 + 20 * j) 0)) hx hb hL0 hown hE hF (b8j hj) (cm8j κ _ _ _) rfl 0 (by decide) kw2 rfl dX0_become_9 ?_
  refine lv_iconst (v := (0 : Int32)) hx hb dX0_become_12 (by decide) ?_
  refine lv_aload_n hx hb dX0_become_13 rfl (lv_at hl 0 rfl) ?_
  refine fw_get (C := RX0) (T := TX0) (N := 5) (ci := 0) (v := .ref (fa (cφ κ) 9 0)) hx hb hL0 hown hE hF (b8 hn) (cm8 κ _ _) rfl 0 (by decide) kw2 rfl dX0_become_14 ?_
  refine lv_iconst (v := (0 : Int32)) hx hb dX0_become_17 (by decide) ?_
  refine lv_aload_n hx hb dX0_become_18 rfl (lv_at hl 0 rfl) ?_
  refine fw_get (C := RX0) (T := TX0) (N := 5) (ci := 0) (v := .int (g1 8 0 4)) hx hb hL0 hown hE hF (b8 hn) (cm8 κ _ _) rfl 4 (by decide) kw1 rfl dX0_become_19 ?_
  obtain ⟨k3, h⟩ := ck h
  refine fw_copy (rest := []) hx hb (hml.trans hl.1.symm) hown kw3 kw4 kw5 kw6 hE hok hF hS (b9j hj) (b9 hn) (cm9j κ _ _) (cm9 κ _) 0 0 rfl rfl k3 (Nat.le_of_ble_eq_true rfl) (Nat.le_of_ble_eq_true rfl) dX0_become_22 (fun H locs hF hS => ?_)
  obtain ⟨g4, e5, h⟩ := ltm_e h
  rw [e5] at hF
  refine lv_aload_n hx hb dX0_become_25 rfl (lv_at hl 1 rfl) ?_
  refine fw_get (C := RX0) (T := TX0) (N := 5) (ci := 0) (v := .ref (fa (cφ κ) (10 + 20 * j) 0)) hx hb hL0 hown hE hF (b8j hj) (cm8j κ _ _ _) rfl 1 (by decide) kw7 rfl dX0_become_26 ?_
  refine lv_iconst (v := (0 : Int32)) hx hb dX0_become_29 (by decide) ?_
  refine lv_aload_n hx hb dX0_become_30 rfl (lv_at hl 0 rfl) ?_
  refine fw_get (C := RX0) (T := TX0) (N := 5) (ci := 0) (v := .ref (fa (cφ κ) 10 0)) hx hb hL0 hown hE hF (b8 hn) (cm8 κ _ _) rfl 1 (by decide) kw7 rfl dX0_become_31 ?_
  refine lv_iconst (v := (0 : Int32)) hx hb dX0_become_34 (by decide) ?_
  refine lv_aload_n hx hb dX0_become_35 rfl (lv_at hl 0 rfl) ?_
  refine fw_get (C := RX0) (T := TX0) (N := 5) (ci := 0) (v := .int (g4 8 0 4)) hx hb hL0 hown hE hF (b8 hn) (cm8 κ _ _) rfl 4 (by decide) kw1 rfl dX0_become_36 ?_
  obtain ⟨k6, h⟩ := ck h
  refine fw_copy (rest := []) hx hb (hml.trans hl.1.symm) hown kw3 kw4 kw5 kw6 hE hok hF hS (b10j hj) (b10 hn) (cm10j κ _ _) (cm10 κ _) 0 0 rfl rfl k6 (Nat.le_of_ble_eq_true rfl) (Nat.le_of_ble_eq_true rfl) dX0_become_39 (fun H locs hF hS => ?_)
  obtain ⟨g7, e8, h⟩ := ltm_e h
  rw [e8] at hF
  refine lv_aload_n hx hb dX0_become_42 rfl (lv_at hl 1 rfl) ?_
  refine fw_get (C := RX0) (T := TX0) (N := 5) (ci := 0) (v := .ref (fa (cφ κ) (11 + 20 * j) 0)) hx hb hL0 hown hE hF (b8j hj) (cm8j κ _ _ _) rfl 2 (by decide) kw8 rfl dX0_become_43 ?_
  refine lv_iconst (v := (0 : Int32)) hx hb dX0_become_46 (by decide) ?_
  refine lv_aload_n hx hb dX0_become_47 rfl (lv_at hl 0 rfl) ?_
  refine fw_get (C := RX0) (T := TX0) (N := 5) (ci := 0) (v := .ref (fa (cφ κ) 11 0)) hx hb hL0 hown hE hF (b8 hn) (cm8 κ _ _) rfl 2 (by decide) kw8 rfl dX0_become_48 ?_
  refine lv_iconst (v := (0 : Int32)) hx hb dX0_become_51 (by decide) ?_
  refine lv_aload_n hx hb dX0_become_52 rfl (lv_at hl 0 rfl) ?_
  refine fw_get (C := RX0) (T := TX0) (N := 5) (ci := 0) (v := .int (g7 8 0 4)) hx hb hL0 hown hE hF (b8 hn) (cm8 κ _ _) rfl 4 (by decide) kw1 rfl dX0_become_53 ?_
  obtain ⟨k9, h⟩ := ck h
  refine fw_copy (rest := []) hx hb (hml.trans hl.1.symm) hown kw3 kw4 kw5 kw6 hE hok hF hS (b11j hj) (b11 hn) (cm11j κ _ _) (cm11 κ _) 0 0 rfl rfl k9 (Nat.le_of_ble_eq_true rfl) (Nat.le_of_ble_eq_true rfl) dX0_become_56 (fun H locs hF hS => ?_)
  obtain ⟨g10, e11, h⟩ := ltm_e h
  rw [e11] at hF
  refine lv_aload_n hx hb dX0_become_59 rfl (lv_at hl 1 rfl) ?_
  refine fw_get (C := RX0) (T := TX0) (N := 5) (ci := 0) (v := .ref (fa (cφ κ) (12 + 20 * j) 0)) hx hb hL0 hown hE hF (b8j hj) (cm8j κ _ _ _) rfl 3 (by decide) kw9 rfl dX0_become_60 ?_
  refine lv_iconst (v := (0 : Int32)) hx hb dX0_become_63 (by decide) ?_
  refine lv_aload_n hx hb dX0_become_64 rfl (lv_at hl 0 rfl) ?_
  refine fw_get (C := RX0) (T := TX0) (N := 5) (ci := 0) (v := .ref (fa (cφ κ) 12 0)) hx hb hL0 hown hE hF (b8 hn) (cm8 κ _ _) rfl 3 (by decide) kw9 rfl dX0_become_65 ?_
  refine lv_iconst (v := (0 : Int32)) hx hb dX0_become_68 (by decide) ?_
  refine lv_aload_n hx hb dX0_become_69 rfl (lv_at hl 0 rfl) ?_
  refine fw_get (C := RX0) (T := TX0) (N := 5) (ci := 0) (v := .int (g10 8 0 4)) hx hb hL0 hown hE hF (b8 hn) (cm8 κ _ _) rfl 4 (by decide) kw1 rfl dX0_become_70 ?_
  obtain ⟨k12, h⟩ := ck h
  refine fw_copy (rest := []) hx hb (hml.trans hl.1.symm) hown kw3 kw4 kw5 kw6 hE hok hF hS (b12j hj) (b12 hn) (cm12j κ _ _) (cm12 κ _) 0 0 rfl rfl k12 (Nat.le_of_ble_eq_true rfl) (Nat.le_of_ble_eq_true rfl) dX0_become_73 (fun H locs hF hS => ?_)
  obtain ⟨g13, e14, h⟩ := ltm_e h
  rw [e14] at hF
  exact fw_vret hx hb hr hlk h hF hS dX0_become_76
def m_X2_becomeb (j : Nat) (g : Mem) : Option (Int32 × Mem) := if ((0 : Int32) < 0 ∨ (0 : Int32) < 0 ∨ (2000 : Int32) < 0 ∨ 2000 < ((0 : Int32)).toNatClampNeg + ((2000 : Int32)).toNatClampNeg ∨ 2000 < ((0 : Int32)).toNatClampNeg + ((2000 : Int32)).toNatClampNeg) then none else ltm (upr g 5 0 (va_cpy (g (5 + 20 * j) 0) (g 5 0) ((0 : Int32)).toNatClampNeg ((0 : Int32)).toNatClampNeg ((2000 : Int32)).toNatClampNeg)) (fun g2 => if ((0 : Int32) < 0 ∨ (0 : Int32) < 0 ∨ (2000 : Int32) < 0 ∨ 2000 < ((0 : Int32)).toNatClampNeg + ((2000 : Int32)).toNatClampNeg ∨ 2000 < ((0 : Int32)).toNatClampNeg + ((2000 : Int32)).toNatClampNeg) then none else ltm (upr g2 6 0 (va_cpy (g2 (6 + 20 * j) 0) (g2 6 0) ((0 : Int32)).toNatClampNeg ((0 : Int32)).toNatClampNeg ((2000 : Int32)).toNatClampNeg)) (fun g5 => if ((0 : Int32) < 0 ∨ (0 : Int32) < 0 ∨ (2000 : Int32) < 0 ∨ 2000 < ((0 : Int32)).toNatClampNeg + ((2000 : Int32)).toNatClampNeg ∨ 2000 < ((0 : Int32)).toNatClampNeg + ((2000 : Int32)).toNatClampNeg) then none else ltm (upr g5 7 0 (va_cpy (g5 (7 + 20 * j) 0) (g5 7 0) ((0 : Int32)).toNatClampNeg ((0 : Int32)).toNatClampNeg ((2000 : Int32)).toNatClampNeg)) (fun g8 => some (0, g8))))
set_option maxHeartbeats 4000000 in
set_option maxRecDepth 100000 in
theorem c_X2_becomeb (l : Launch) {κ : Cx} (hok : fok (cφ κ)) (hn : 1 ≤ cn κ) {j : Nat} (hj : j < cn κ) {g : Mem} {u : Int32 × Mem} (h : m_X2_becomeb j g  = some u) : fM l (cφ κ) yX2_become wsX2_become 1 18 [.ref (fa (cφ κ) 4 0), .ref (fa (cφ κ) (4 + 20 * j) 0)] g none u.2 := by
  refine fM.of (cc := cX2_become) (maxL := 2) (ret := none) [(0, .ref (fa (cφ κ) 4 0)), (1, .ref (fa (cφ κ) (4 + 20 * j) 0))] (by decide) rfl (Nat.le_of_ble_eq_true rfl) rfl (fun p e s m below meth c ls hx hb hr hml hown hts hlk hE hF hS hl => ?_)
  replace hown : s.vm.findClass RX2 = some m.cls := hown
  have hL2 : ∀ w ∈ u_ws RX2 TX2 3, w.before ([.ref (fa (cφ κ) 4 0), .ref (fa (cφ κ) (4 + 20 * j) 0)] : List Value).toArray s = true := fun w hw => hts w (by
    unfold wsX2_become
    simp only [List.mem_cons, List.mem_append]
    exact Or.inr (Or.inr hw))
  have kw1 := hts (.fieldLink RX2 11 "MeshLamps$Letters" "key" "[I") (List.mem_of_getElem? (i := 1) rfl)
  have kw2 := hts (.methodLink RX2 21 arraycopyName) (List.mem_of_getElem? (i := 2) rfl)
  have kw3 := hts (.native arraycopyName) (List.mem_of_getElem? (i := 3) rfl)
  have kw4 := hts (.static arraycopyName) (List.mem_of_getElem? (i := 4) rfl)
  have kw5 := hts (.initialized "java/lang/System") (List.mem_of_getElem? (i := 5) rfl)
  have kw6 := hts (.fieldLink RX2 15 "MeshLamps$Letters" "aim" "[I") (List.mem_of_getElem? (i := 6) rfl)
  have kw7 := hts (.fieldLink RX2 18 "MeshLamps$Letters" "value" "[I") (List.mem_of_getElem? (i := 7) rfl)
  unfold m_X2_becomeb at h
  refine lv_aload_n hx hb dX2_become_0 rfl (lv_at hl 1 rfl) ?_
  refine fw_get (C := RX2) (T := TX2) (N := 3) (ci := 2) (v := .ref (fa (cφ κ) (5 + 20 * j) 0)) hx hb hL2 hown hE hF (b4j hj) (cm4j κ _ _ _) rfl 0 (by decide) kw1 rfl dX2_become_1 ?_
  refine lv_iconst (v := (0 : Int32)) hx hb dX2_become_4 (by decide) ?_
  refine lv_aload_n hx hb dX2_become_5 rfl (lv_at hl 0 rfl) ?_
  refine fw_get (C := RX2) (T := TX2) (N := 3) (ci := 2) (v := .ref (fa (cφ κ) 5 0)) hx hb hL2 hown hE hF (b4 hn) (cm4 κ _ _) rfl 0 (by decide) kw1 rfl dX2_become_6 ?_
  refine lv_iconst (v := (0 : Int32)) hx hb dX2_become_9 (by decide) ?_
  refine lv_sipush (v := (2000 : Int32)) hx hb dX2_become_10 (by decide) ?_
  obtain ⟨k1, h⟩ := ck h
  refine fw_copy (rest := []) hx hb (hml.trans hl.1.symm) hown kw2 kw3 kw4 kw5 hE hok hF hS (b5j hj) (b5 hn) (cm5j κ _ _) (cm5 κ _) 0 0 rfl rfl k1 (Nat.le_of_ble_eq_true rfl) (Nat.le_of_ble_eq_true rfl) dX2_become_13 (fun H locs hF hS => ?_)
  obtain ⟨g2, e3, h⟩ := ltm_e h
  rw [e3] at hF
  refine lv_aload_n hx hb dX2_become_16 rfl (lv_at hl 1 rfl) ?_
  refine fw_get (C := RX2) (T := TX2) (N := 3) (ci := 2) (v := .ref (fa (cφ κ) (6 + 20 * j) 0)) hx hb hL2 hown hE hF (b4j hj) (cm4j κ _ _ _) rfl 1 (by decide) kw6 rfl dX2_become_17 ?_
  refine lv_iconst (v := (0 : Int32)) hx hb dX2_become_20 (by decide) ?_
  refine lv_aload_n hx hb dX2_become_21 rfl (lv_at hl 0 rfl) ?_
  refine fw_get (C := RX2) (T := TX2) (N := 3) (ci := 2) (v := .ref (fa (cφ κ) 6 0)) hx hb hL2 hown hE hF (b4 hn) (cm4 κ _ _) rfl 1 (by decide) kw6 rfl dX2_become_22 ?_
  refine lv_iconst (v := (0 : Int32)) hx hb dX2_become_25 (by decide) ?_
  refine lv_sipush (v := (2000 : Int32)) hx hb dX2_become_26 (by decide) ?_
  obtain ⟨k4, h⟩ := ck h
  refine fw_copy (rest := []) hx hb (hml.trans hl.1.symm) hown kw2 kw3 kw4 kw5 hE hok hF hS (b6j hj) (b6 hn) (cm6j κ _ _) (cm6 κ _) 0 0 rfl rfl k4 (Nat.le_of_ble_eq_true rfl) (Nat.le_of_ble_eq_true rfl) dX2_become_29 (fun H locs hF hS => ?_)
  obtain ⟨g5, e6, h⟩ := ltm_e h
  rw [e6] at hF
  refine lv_aload_n hx hb dX2_become_32 rfl (lv_at hl 1 rfl) ?_
  refine fw_get (C := RX2) (T := TX2) (N := 3) (ci := 2) (v := .ref (fa (cφ κ) (7 + 20 * j) 0)) hx hb hL2 hown hE hF (b4j hj) (cm4j κ _ _ _) rfl 2 (by decide) kw7 rfl dX2_become_33 ?_
  refine lv_iconst (v := (0 : Int32)) hx hb dX2_become_36 (by decide) ?_
  refine lv_aload_n hx hb dX2_become_37 rfl (lv_at hl 0 rfl) ?_
  refine fw_get (C := RX2) (T := TX2) (N := 3) (ci := 2) (v := .ref (fa (cφ κ) 7 0)) hx hb hL2 hown hE hF (b4 hn) (cm4 κ _ _) rfl 2 (by decide) kw7 rfl dX2_become_38 ?_
  refine lv_iconst (v := (0 : Int32)) hx hb dX2_become_41 (by decide) ?_
  refine lv_sipush (v := (2000 : Int32)) hx hb dX2_become_42 (by decide) ?_
  obtain ⟨k7, h⟩ := ck h
  refine fw_copy (rest := []) hx hb (hml.trans hl.1.symm) hown kw2 kw3 kw4 kw5 hE hok hF hS (b7j hj) (b7 hn) (cm7j κ _ _) (cm7 κ _) 0 0 rfl rfl k7 (Nat.le_of_ble_eq_true rfl) (Nat.le_of_ble_eq_true rfl) dX2_become_45 (fun H locs hF hS => ?_)
  obtain ⟨g8, e9, h⟩ := ltm_e h
  rw [e9] at hF
  exact fw_vret hx hb hr hlk h hF hS dX2_become_48
def m_X3_becomemb (j : Nat) (i0 : Nat) (i1 : Nat) (g : Mem) : Option (Int32 × Mem) := ltm (upr g 16 i0 (upd (g 16 i0) 1 (if ((8 : Int32)) < (g (16 + 20 * j) i1 1) then (8 : Int32) else g (16 + 20 * j) i1 1))) (fun g1 => if ((0 : Int32) < 0 ∨ (0 : Int32) < 0 ∨ g1 16 i0 1 < 0 ∨ 8 < ((0 : Int32)).toNatClampNeg + (g1 16 i0 1).toNatClampNeg ∨ 8 < ((0 : Int32)).toNatClampNeg + (g1 16 i0 1).toNatClampNeg) then none else ltm (upr g1 17 i0 (va_cpy (g1 (17 + 20 * j) i1) (g1 17 i0) ((0 : Int32)).toNatClampNeg ((0 : Int32)).toNatClampNeg (g1 16 i0 1).toNatClampNeg)) (fun g4 => some (0, g4)))
set_option maxHeartbeats 4000000 in
set_option maxRecDepth 100000 in
theorem c_X3_becomemb (l : Launch) {κ : Cx} (hok : fok (cφ κ)) (hn : 1 ≤ cn κ) {j : Nat} {i0 : Nat} {i1 : Nat} (hj : j < cn κ) (h0 : i0 < 10) (h1 : i1 < 10) {g : Mem} {u : Int32 × Mem} (h : m_X3_becomemb j i0 i1 g  = some u) : fM l (cφ κ) yX3_become wsX3_become 1 18 [.ref (fa (cφ κ) 16 i0), .ref (fa (cφ κ) (16 + 20 * j) i1)] g none u.2 := by
  refine fM.of (cc := cX3_become) (maxL := 2) (ret := none) [(0, .ref (fa (cφ κ) 16 i0)), (1, .ref (fa (cφ κ) (16 + 20 * j) i1))] (by decide) rfl (Nat.le_of_ble_eq_true rfl) rfl (fun p e s m below meth c ls hx hb hr hml hown hts hlk hE hF hS hl => ?_)
  replace hown : s.vm.findClass RX3 = some m.cls := hown
  have hL3 : ∀ w ∈ u_ws RX3 TX3 2, w.before ([.ref (fa (cφ κ) 16 i0), .ref (fa (cφ κ) (16 + 20 * j) i1)] : List Value).toArray s = true := fun w hw => hts w (by
    unfold wsX3_become
    simp only [List.mem_cons, List.mem_append]
    exact Or.inr (Or.inr hw))
  have kw1 := hts (.fieldLink RX3 7 "MeshLamps$Line" "size" "I") (List.mem_of_getElem? (i := 1) rfl)
  have kw2 := hts (.fieldLink RX3 19 "MeshLamps$Line" "letters" "[I") (List.mem_of_getElem? (i := 2) rfl)
  have kw3 := hts (.methodLink RX3 27 Lib.Math.min.name) (List.mem_of_getElem? (i := 3) rfl)
  have kw4 := hts (.static Lib.Math.min.name) (List.mem_of_getElem? (i := 4) rfl)
  have kw5 := hts (.initialized "java/lang/Math") (List.mem_of_getElem? (i := 5) rfl)
  have kw6 := hts (.code Lib.Math.min.name Lib.Math.min.code 2 (some .int)) (List.mem_of_getElem? (i := 6) rfl)
  have kw7 := hts (.methodLink RX3 30 arraycopyName) (List.mem_of_getElem? (i := 7) rfl)
  have kw8 := hts (.native arraycopyName) (List.mem_of_getElem? (i := 8) rfl)
  have kw9 := hts (.static arraycopyName) (List.mem_of_getElem? (i := 9) rfl)
  have kw10 := hts (.initialized "java/lang/System") (List.mem_of_getElem? (i := 10) rfl)
  unfold m_X3_becomemb at h
  refine lv_aload_n hx hb dX3_become_0 rfl (lv_at hl 0 rfl) ?_
  refine lv_aload_n hx hb dX3_become_1 rfl (lv_at hl 1 rfl) ?_
  refine fw_get (C := RX3) (T := TX3) (N := 2) (ci := 3) (v := .int (g (16 + 20 * j) i1 1)) hx hb hL3 hown hE hF (b16j hj h1) (cm16j κ _ _ _) rfl 1 (by decide) kw1 rfl dX3_become_2 ?_
  refine lv_aload_n hx hb dX3_become_5 rfl (lv_at hl 0 rfl) ?_
  refine fw_get (C := RX3) (T := TX3) (N := 2) (ci := 3) (v := .ref (fa (cφ κ) 17 i0)) hx hb hL3 hown hE hF (b16 hn h0) (cm16 κ _ _) rfl 0 (by decide) kw2 rfl dX3_become_6 ?_
  refine fw_alen (v := (8 : Int32)) hx hb hE hF (b17 hn h0) (cm17 κ _) 0 rfl (by decide) dX3_become_9 ?_
  refine va_mmin hx hb (hml.trans hl.1.symm) hown kw3 kw4 kw5 kw6 (Nat.le_of_ble_eq_true rfl) (Nat.le_of_ble_eq_true rfl) (Nat.le_refl _) (Nat.le_refl _) dX3_become_10 ?_
  refine fw_put (C := RX3) (T := TX3) (N := 2) (ci := 3) (ty := .int) (v := .int (if ((8 : Int32)) < (g (16 + 20 * j) i1 1) then (8 : Int32) else g (16 + 20 * j) i1 1)) (r := upd (g 16 i0) 1 (if ((8 : Int32)) < (g (16 + 20 * j) i1 1) then (8 : Int32) else g (16 + 20 * j) i1 1)) hx hb hL3 tyX3 tyX3_ok nmX3 hown hE hok hF hS (b16 hn h0) (cm16 κ _ _) rfl 1 (by decide) kw1 rfl (tyX3_ok 1 (by decide)) rfl rfl (Nat.le_of_ble_eq_true rfl) rfl dX3_become_13 (fun H locs hF hS => ?_)
  obtain ⟨g1, e2, h⟩ := ltm_e h
  rw [e2] at hF
  refine lv_aload_n hx hb dX3_become_16 rfl (lv_at hl 1 rfl) ?_
  refine fw_get (C := RX3) (T := TX3) (N := 2) (ci := 3) (v := .ref (fa (cφ κ) (17 + 20 * j) i1)) hx hb hL3 hown hE hF (b16j hj h1) (cm16j κ _ _ _) rfl 0 (by decide) kw2 rfl dX3_become_17 ?_
  refine lv_iconst (v := (0 : Int32)) hx hb dX3_become_20 (by decide) ?_
  refine lv_aload_n hx hb dX3_become_21 rfl (lv_at hl 0 rfl) ?_
  refine fw_get (C := RX3) (T := TX3) (N := 2) (ci := 3) (v := .ref (fa (cφ κ) 17 i0)) hx hb hL3 hown hE hF (b16 hn h0) (cm16 κ _ _) rfl 0 (by decide) kw2 rfl dX3_become_22 ?_
  refine lv_iconst (v := (0 : Int32)) hx hb dX3_become_25 (by decide) ?_
  refine lv_aload_n hx hb dX3_become_26 rfl (lv_at hl 0 rfl) ?_
  refine fw_get (C := RX3) (T := TX3) (N := 2) (ci := 3) (v := .int (g1 16 i0 1)) hx hb hL3 hown hE hF (b16 hn h0) (cm16 κ _ _) rfl 1 (by decide) kw1 rfl dX3_become_27 ?_
  obtain ⟨k3, h⟩ := ck h
  refine fw_copy (rest := []) hx hb (hml.trans hl.1.symm) hown kw7 kw8 kw9 kw10 hE hok hF hS (b17j hj h1) (b17 hn h0) (cm17j κ _ _) (cm17 κ _) 0 0 rfl rfl k3 (Nat.le_of_ble_eq_true rfl) (Nat.le_of_ble_eq_true rfl) dX3_become_30 (fun H locs hF hS => ?_)
  obtain ⟨g4, e5, h⟩ := ltm_e h
  rw [e5] at hF
  exact fw_vret hx hb hr hlk h hF hS dX3_become_33
def m_X3_becomekb (j : Nat) (i0 : Nat) (i1 : Nat) (g : Mem) : Option (Int32 × Mem) := ltm (upr g 18 i0 (upd (g 18 i0) 1 (if ((3 : Int32)) < (g (18 + 20 * j) i1 1) then (3 : Int32) else g (18 + 20 * j) i1 1))) (fun g1 => if ((0 : Int32) < 0 ∨ (0 : Int32) < 0 ∨ g1 18 i0 1 < 0 ∨ 3 < ((0 : Int32)).toNatClampNeg + (g1 18 i0 1).toNatClampNeg ∨ 3 < ((0 : Int32)).toNatClampNeg + (g1 18 i0 1).toNatClampNeg) then none else ltm (upr g1 19 i0 (va_cpy (g1 (19 + 20 * j) i1) (g1 19 i0) ((0 : Int32)).toNatClampNeg ((0 : Int32)).toNatClampNeg (g1 18 i0 1).toNatClampNeg)) (fun g4 => some (0, g4)))
set_option maxHeartbeats 4000000 in
set_option maxRecDepth 100000 in
theorem c_X3_becomekb (l : Launch) {κ : Cx} (hok : fok (cφ κ)) (hn : 1 ≤ cn κ) {j : Nat} {i0 : Nat} {i1 : Nat} (hj : j < cn κ) (h0 : i0 < 10) (h1 : i1 < 10) {g : Mem} {u : Int32 × Mem} (h : m_X3_becomekb j i0 i1 g  = some u) : fM l (cφ κ) yX3_become wsX3_become 1 18 [.ref (fa (cφ κ) 18 i0), .ref (fa (cφ κ) (18 + 20 * j) i1)] g none u.2 := by
  refine fM.of (cc := cX3_become) (maxL := 2) (ret := none) [(0, .ref (fa (cφ κ) 18 i0)), (1, .ref (fa (cφ κ) (18 + 20 * j) i1))] (by decide) rfl (Nat.le_of_ble_eq_true rfl) rfl (fun p e s m below meth c ls hx hb hr hml hown hts hlk hE hF hS hl => ?_)
  replace hown : s.vm.findClass RX3 = some m.cls := hown
  have hL3 : ∀ w ∈ u_ws RX3 TX3 2, w.before ([.ref (fa (cφ κ) 18 i0), .ref (fa (cφ κ) (18 + 20 * j) i1)] : List Value).toArray s = true := fun w hw => hts w (by
    unfold wsX3_become
    simp only [List.mem_cons, List.mem_append]
    exact Or.inr (Or.inr hw))
  have kw1 := hts (.fieldLink RX3 7 "MeshLamps$Line" "size" "I") (List.mem_of_getElem? (i := 1) rfl)
  have kw2 := hts (.fieldLink RX3 19 "MeshLamps$Line" "letters" "[I") (List.mem_of_getElem? (i := 2) rfl)
  have kw3 := hts (.methodLink RX3 27 Lib.Math.min.name) (List.mem_of_getElem? (i := 3) rfl)
  have kw4 := hts (.static Lib.Math.min.name) (List.mem_of_getElem? (i := 4) rfl)
  have kw5 := hts (.initialized "java/lang/Math") (List.mem_of_getElem? (i := 5) rfl)
  have kw6 := hts (.code Lib.Math.min.name Lib.Math.min.code 2 (some .int)) (List.mem_of_getElem? (i := 6) rfl)
  have kw7 := hts (.methodLink RX3 30 arraycopyName) (List.mem_of_getElem? (i := 7) rfl)
  have kw8 := hts (.native arraycopyName) (List.mem_of_getElem? (i := 8) rfl)
  have kw9 := hts (.static arraycopyName) (List.mem_of_getElem? (i := 9) rfl)
  have kw10 := hts (.initialized "java/lang/System") (List.mem_of_getElem? (i := 10) rfl)
  unfold m_X3_becomekb at h
  refine lv_aload_n hx hb dX3_become_0 rfl (lv_at hl 0 rfl) ?_
  refine lv_aload_n hx hb dX3_become_1 rfl (lv_at hl 1 rfl) ?_
  refine fw_get (C := RX3) (T := TX3) (N := 2) (ci := 3) (v := .int (g (18 + 20 * j) i1 1)) hx hb hL3 hown hE hF (b18j hj h1) (cm18j κ _ _ _) rfl 1 (by decide) kw1 rfl dX3_become_2 ?_
  refine lv_aload_n hx hb dX3_become_5 rfl (lv_at hl 0 rfl) ?_
  refine fw_get (C := RX3) (T := TX3) (N := 2) (ci := 3) (v := .ref (fa (cφ κ) 19 i0)) hx hb hL3 hown hE hF (b18 hn h0) (cm18 κ _ _) rfl 0 (by decide) kw2 rfl dX3_become_6 ?_
  refine fw_alen (v := (3 : Int32)) hx hb hE hF (b19 hn h0) (cm19 κ _) 0 rfl (by decide) dX3_become_9 ?_
  refine va_mmin hx hb (hml.trans hl.1.symm) hown kw3 kw4 kw5 kw6 (Nat.le_of_ble_eq_true rfl) (Nat.le_of_ble_eq_true rfl) (Nat.le_refl _) (Nat.le_refl _) dX3_become_10 ?_
  refine fw_put (C := RX3) (T := TX3) (N := 2) (ci := 3) (ty := .int) (v := .int (if ((3 : Int32)) < (g (18 + 20 * j) i1 1) then (3 : Int32) else g (18 + 20 * j) i1 1)) (r := upd (g 18 i0) 1 (if ((3 : Int32)) < (g (18 + 20 * j) i1 1) then (3 : Int32) else g (18 + 20 * j) i1 1)) hx hb hL3 tyX3 tyX3_ok nmX3 hown hE hok hF hS (b18 hn h0) (cm18 κ _ _) rfl 1 (by decide) kw1 rfl (tyX3_ok 1 (by decide)) rfl rfl (Nat.le_of_ble_eq_true rfl) rfl dX3_become_13 (fun H locs hF hS => ?_)
  obtain ⟨g1, e2, h⟩ := ltm_e h
  rw [e2] at hF
  refine lv_aload_n hx hb dX3_become_16 rfl (lv_at hl 1 rfl) ?_
  refine fw_get (C := RX3) (T := TX3) (N := 2) (ci := 3) (v := .ref (fa (cφ κ) (19 + 20 * j) i1)) hx hb hL3 hown hE hF (b18j hj h1) (cm18j κ _ _ _) rfl 0 (by decide) kw2 rfl dX3_become_17 ?_
  refine lv_iconst (v := (0 : Int32)) hx hb dX3_become_20 (by decide) ?_
  refine lv_aload_n hx hb dX3_become_21 rfl (lv_at hl 0 rfl) ?_
  refine fw_get (C := RX3) (T := TX3) (N := 2) (ci := 3) (v := .ref (fa (cφ κ) 19 i0)) hx hb hL3 hown hE hF (b18 hn h0) (cm18 κ _ _) rfl 0 (by decide) kw2 rfl dX3_become_22 ?_
  refine lv_iconst (v := (0 : Int32)) hx hb dX3_become_25 (by decide) ?_
  refine lv_aload_n hx hb dX3_become_26 rfl (lv_at hl 0 rfl) ?_
  refine fw_get (C := RX3) (T := TX3) (N := 2) (ci := 3) (v := .int (g1 18 i0 1)) hx hb hL3 hown hE hF (b18 hn h0) (cm18 κ _ _) rfl 1 (by decide) kw1 rfl dX3_become_27 ?_
  obtain ⟨k3, h⟩ := ck h
  refine fw_copy (rest := []) hx hb (hml.trans hl.1.symm) hown kw7 kw8 kw9 kw10 hE hok hF hS (b19j hj h1) (b19 hn h0) (cm19j κ _ _) (cm19 κ _) 0 0 rfl rfl k3 (Nat.le_of_ble_eq_true rfl) (Nat.le_of_ble_eq_true rfl) dX3_become_30 (fun H locs hF hS => ?_)
  obtain ⟨g4, e5, h⟩ := ltm_e h
  rw [e5] at hF
  exact fw_vret hx hb hr hlk h hF hS dX3_become_33
def m_X1_becomeb (j : Nat) (i0 : Nat) (i1 : Nat) (g : Mem) : Option (Int32 × Mem) := if ((0 : Int32) < 0 ∨ (0 : Int32) < 0 ∨ (4 : Int32) < 0 ∨ 4 < ((0 : Int32)).toNatClampNeg + ((4 : Int32)).toNatClampNeg ∨ 4 < ((0 : Int32)).toNatClampNeg + ((4 : Int32)).toNatClampNeg) then none else ltm (upr g 14 i0 (va_cpy (g (14 + 20 * j) i1) (g 14 i0) ((0 : Int32)).toNatClampNeg ((0 : Int32)).toNatClampNeg ((4 : Int32)).toNatClampNeg)) (fun g2 => if ((0 : Int32) < 0 ∨ (0 : Int32) < 0 ∨ (10 : Int32) < 0 ∨ 10 < ((0 : Int32)).toNatClampNeg + ((10 : Int32)).toNatClampNeg ∨ 10 < ((0 : Int32)).toNatClampNeg + ((10 : Int32)).toNatClampNeg) then none else ltm (upr g2 15 i0 (va_cpy (g2 (15 + 20 * j) i1) (g2 15 i0) ((0 : Int32)).toNatClampNeg ((0 : Int32)).toNatClampNeg ((10 : Int32)).toNatClampNeg)) (fun g5 => (m_X3_becomemb j i0 i1 g5 ).bind (fun (r8, g9) => (m_X3_becomekb j i0 i1 g9 ).bind (fun (r12, g13) => ltm (upr g13 13 i0 (upd (g13 13 i0) 4 (g13 (13 + 20 * j) i1 4))) (fun g15 => ltm (upr g15 13 i0 (upd (g15 13 i0) 5 (g15 (13 + 20 * j) i1 5))) (fun g17 => if ¬ ((g17 (13 + 20 * j) i1 6) = 0 ∨ (g17 (13 + 20 * j) i1 6) = 1) then none else ltm (upr g17 13 i0 (upd (g17 13 i0) 6 (g17 (13 + 20 * j) i1 6))) (fun g20 => ltm (upr g20 13 i0 (upd (g20 13 i0) 7 (g20 (13 + 20 * j) i1 7))) (fun g22 => ltm (upr g22 13 i0 (upd (g22 13 i0) 8 (g22 (13 + 20 * j) i1 8))) (fun g24 => ltm (upr g24 13 i0 (upd (g24 13 i0) 9 (g24 (13 + 20 * j) i1 9))) (fun g26 => ltm (upr g26 13 i0 (upd (g26 13 i0) 10 (g26 (13 + 20 * j) i1 10))) (fun g28 => ltm (upr g28 13 i0 (upd (g28 13 i0) 11 (g28 (13 + 20 * j) i1 11))) (fun g30 => ltm (upr g30 13 i0 (upd (g30 13 i0) 12 (g30 (13 + 20 * j) i1 12))) (fun g32 => ltm (upr g32 13 i0 (upd (g32 13 i0) 13 (g32 (13 + 20 * j) i1 13))) (fun g34 => ltm (upr g34 13 i0 (upd (g34 13 i0) 14 (g34 (13 + 20 * j) i1 14))) (fun g36 => some (0, g36))))))))))))))))
set_option maxHeartbeats 4000000 in
set_option maxRecDepth 100000 in
theorem c_X1_becomeb (l : Launch) {κ : Cx} (hok : fok (cφ κ)) (hn : 1 ≤ cn κ) {j : Nat} {i0 : Nat} {i1 : Nat} (hj : j < cn κ) (h0 : i0 < 10) (h1 : i1 < 10) {g : Mem} {u : Int32 × Mem} (h : m_X1_becomeb j i0 i1 g  = some u) : fM l (cφ κ) yX1_become wsX1_become 2 39 [.ref (fa (cφ κ) 13 i0), .ref (fa (cφ κ) (13 + 20 * j) i1)] g none u.2 := by
  refine fM.of (cc := cX1_become) (maxL := 2) (ret := none) [(0, .ref (fa (cφ κ) 13 i0)), (1, .ref (fa (cφ κ) (13 + 20 * j) i1))] (by decide) rfl (Nat.le_of_ble_eq_true rfl) rfl (fun p e s m below meth c ls hx hb hr hml hown hts hlk hE hF hS hl => ?_)
  replace hown : s.vm.findClass RX1 = some m.cls := hown
  have hL1 : ∀ w ∈ u_ws RX1 TX1 15, w.before ([.ref (fa (cφ κ) 13 i0), .ref (fa (cφ κ) (13 + 20 * j) i1)] : List Value).toArray s = true := fun w hw => hts w (by
    unfold wsX1_become
    simp only [List.mem_cons, List.mem_append]
    exact Or.inr (Or.inl (Or.inr hw)))
  have kw1 := hts (.fieldLink RX1 18 "MeshLamps$Lamp" "settings" "[I") (List.mem_of_getElem? (i := 1) rfl)
  have kw2 := hts (.methodLink RX1 73 arraycopyName) (List.mem_of_getElem? (i := 2) rfl)
  have kw3 := hts (.native arraycopyName) (List.mem_of_getElem? (i := 3) rfl)
  have kw4 := hts (.static arraycopyName) (List.mem_of_getElem? (i := 4) rfl)
  have kw5 := hts (.initialized "java/lang/System") (List.mem_of_getElem? (i := 5) rfl)
  have kw6 := hts (.fieldLink RX1 23 "MeshLamps$Lamp" "greatestTaken" "[I") (List.mem_of_getElem? (i := 6) rfl)
  have kw7 := hts (.fieldLink RX1 31 "MeshLamps$Lamp" "mind" "LMeshLamps$Line;") (List.mem_of_getElem? (i := 7) rfl)
  have kw8 := hts (.fieldLink RX1 35 "MeshLamps$Lamp" "kept" "LMeshLamps$Line;") (List.mem_of_getElem? (i := 8) rfl)
  have kw9 := hts (.fieldLink RX1 38 "MeshLamps$Lamp" "links" "I") (List.mem_of_getElem? (i := 9) rfl)
  have kw10 := hts (.fieldLink RX1 42 "MeshLamps$Lamp" "light" "I") (List.mem_of_getElem? (i := 10) rfl)
  have kw11 := hts (.fieldLink RX1 45 "MeshLamps$Lamp" "sleeps" "Z") (List.mem_of_getElem? (i := 11) rfl)
  have kw12 := hts (.fieldLink RX1 49 "MeshLamps$Lamp" "friend" "I") (List.mem_of_getElem? (i := 12) rfl)
  have kw13 := hts (.fieldLink RX1 52 "MeshLamps$Lamp" "told" "I") (List.mem_of_getElem? (i := 13) rfl)
  have kw14 := hts (.fieldLink RX1 55 "MeshLamps$Lamp" "took" "I") (List.mem_of_getElem? (i := 14) rfl)
  have kw15 := hts (.fieldLink RX1 58 "MeshLamps$Lamp" "refusedAsOld" "I") (List.mem_of_getElem? (i := 15) rfl)
  have kw16 := hts (.fieldLink RX1 61 "MeshLamps$Lamp" "hadStrange" "I") (List.mem_of_getElem? (i := 16) rfl)
  have kw17 := hts (.fieldLink RX1 64 "MeshLamps$Lamp" "hadStale" "I") (List.mem_of_getElem? (i := 17) rfl)
  have kw18 := hts (.fieldLink RX1 67 "MeshLamps$Lamp" "hadNew" "I") (List.mem_of_getElem? (i := 18) rfl)
  have kw19 := hts (.fieldLink RX1 70 "MeshLamps$Lamp" "spoke" "I") (List.mem_of_getElem? (i := 19) rfl)
  unfold m_X1_becomeb at h
  refine lv_aload_n hx hb dX1_become_0 rfl (lv_at hl 1 rfl) ?_
  refine fw_get (C := RX1) (T := TX1) (N := 15) (ci := 1) (v := .ref (fa (cφ κ) (14 + 20 * j) i1)) hx hb hL1 hown hE hF (b13j hj h1) (cm13j κ _ _ _) rfl 0 (by decide) kw1 rfl dX1_become_1 ?_
  refine lv_iconst (v := (0 : Int32)) hx hb dX1_become_4 (by decide) ?_
  refine lv_aload_n hx hb dX1_become_5 rfl (lv_at hl 0 rfl) ?_
  refine fw_get (C := RX1) (T := TX1) (N := 15) (ci := 1) (v := .ref (fa (cφ κ) 14 i0)) hx hb hL1 hown hE hF (b13 hn h0) (cm13 κ _ _) rfl 0 (by decide) kw1 rfl dX1_become_6 ?_
  refine lv_iconst (v := (0 : Int32)) hx hb dX1_become_9 (by decide) ?_
  refine lv_iconst (v := (4 : Int32)) hx hb dX1_become_10 (by decide) ?_
  obtain ⟨k1, h⟩ := ck h
  refine fw_copy (rest := []) hx hb (hml.trans hl.1.symm) hown kw2 kw3 kw4 kw5 hE hok hF hS (b14j hj h1) (b14 hn h0) (cm14j κ _ _) (cm14 κ _) 0 0 rfl rfl k1 (Nat.le_of_ble_eq_true rfl) (Nat.le_of_ble_eq_true rfl) dX1_become_11 (fun H locs hF hS => ?_)
  obtain ⟨g2, e3, h⟩ := ltm_e h
  rw [e3] at hF
  refine lv_aload_n hx hb dX1_become_14 rfl (lv_at hl 1 rfl) ?_
  refine fw_get (C := RX1) (T := TX1) (N := 15) (ci := 1) (v := .ref (fa (cφ κ) (15 + 20 * j) i1)) hx hb hL1 hown hE hF (b13j hj h1) (cm13j κ _ _ _) rfl 1 (by decide) kw6 rfl dX1_become_15 ?_
  refine lv_iconst (v := (0 : Int32)) hx hb dX1_become_18 (by decide) ?_
  refine lv_aload_n hx hb dX1_become_19 rfl (lv_at hl 0 rfl) ?_
  refine fw_get (C := RX1) (T := TX1) (N := 15) (ci := 1) (v := .ref (fa (cφ κ) 15 i0)) hx hb hL1 hown hE hF (b13 hn h0) (cm13 κ _ _) rfl 1 (by decide) kw6 rfl dX1_become_20 ?_
  refine lv_iconst (v := (0 : Int32)) hx hb dX1_become_23 (by decide) ?_
  refine lv_bipush (v := (10 : Int32)) hx hb dX1_become_24 (by decide) ?_
  obtain ⟨k4, h⟩ := ck h
  refine fw_copy (rest := []) hx hb (hml.trans hl.1.symm) hown kw2 kw3 kw4 kw5 hE hok hF hS (b15j hj h1) (b15 hn h0) (cm15j κ _ _) (cm15 κ _) 0 0 rfl rfl k4 (Nat.le_of_ble_eq_true rfl) (Nat.le_of_ble_eq_true rfl) dX1_become_26 (fun H locs hF hS => ?_)
  obtain ⟨g5, e6, h⟩ := ltm_e h
  rw [e6] at hF
  refine lv_aload_n hx hb dX1_become_29 rfl (lv_at hl 0 rfl) ?_
  refine fw_get (C := RX1) (T := TX1) (N := 15) (ci := 1) (v := .ref (fa (cφ κ) 16 i0)) hx hb hL1 hown hE hF (b13 hn h0) (cm13 κ _ _) rfl 2 (by decide) kw7 rfl dX1_become_30 ?_
  refine lv_aload_n hx hb dX1_become_33 rfl (lv_at hl 1 rfl) ?_
  refine fw_get (C := RX1) (T := TX1) (N := 15) (ci := 1) (v := .ref (fa (cφ κ) (16 + 20 * j) i1)) hx hb hL1 hown hE hF (b13j hj h1) (cm13j κ _ _ _) rfl 2 (by decide) kw7 rfl dX1_become_34 ?_
  obtain ⟨⟨r8, g9⟩, q7, h⟩ := bnd h
  try dsimp only at h
  refine fw_callv (va_runV (As := [.ref (fa (cφ κ) (16 + 20 * j) i1)]) (rest := []) ⟨hx, hb, hml, hown, hts⟩ (c_X3_becomemb l hok hn hj h0 h1 q7) (cwV 1 hts gX1_become_X3_become rfl rfl rfl qv_X3_become ⟨Nat.le_of_ble_eq_true rfl, Nat.le_of_ble_eq_true rfl⟩) (fw_preV hok hE hF (b16 hn h0) (cm16 κ _ _) rfl) rfl rfl hl.1 rfl (lv_room (Nat.le_of_ble_eq_true rfl)) dX1_become_37 ⟨Nat.le_refl _, Nat.le_refl _⟩) hS (fun H locs hF hS => ?_)
  refine lv_aload_n hx hb dX1_become_40 rfl (lv_at hl 0 rfl) ?_
  refine fw_get (C := RX1) (T := TX1) (N := 15) (ci := 1) (v := .ref (fa (cφ κ) 18 i0)) hx hb hL1 hown hE hF (b13 hn h0) (cm13 κ _ _) rfl 3 (by decide) kw8 rfl dX1_become_41 ?_
  refine lv_aload_n hx hb dX1_become_44 rfl (lv_at hl 1 rfl) ?_
  refine fw_get (C := RX1) (T := TX1) (N := 15) (ci := 1) (v := .ref (fa (cφ κ) (18 + 20 * j) i1)) hx hb hL1 hown hE hF (b13j hj h1) (cm13j κ _ _ _) rfl 3 (by decide) kw8 rfl dX1_become_45 ?_
  obtain ⟨⟨r12, g13⟩, q11, h⟩ := bnd h
  try dsimp only at h
  refine fw_callv (va_runV (As := [.ref (fa (cφ κ) (18 + 20 * j) i1)]) (rest := []) ⟨hx, hb, hml, hown, hts⟩ (c_X3_becomekb l hok hn hj h0 h1 q11) (cwV 1 hts gX1_become_X3_become rfl rfl rfl qv_X3_become ⟨Nat.le_of_ble_eq_true rfl, Nat.le_of_ble_eq_true rfl⟩) (fw_preV hok hE hF (b18 hn h0) (cm18 κ _ _) rfl) rfl rfl hl.1 rfl (lv_room (Nat.le_of_ble_eq_true rfl)) dX1_become_48 ⟨Nat.le_refl _, Nat.le_refl _⟩) hS (fun H locs hF hS => ?_)
  refine lv_aload_n hx hb dX1_become_51 rfl (lv_at hl 0 rfl) ?_
  refine lv_aload_n hx hb dX1_become_52 rfl (lv_at hl 1 rfl) ?_
  refine fw_get (C := RX1) (T := TX1) (N := 15) (ci := 1) (v := .int (g13 (13 + 20 * j) i1 4)) hx hb hL1 hown hE hF (b13j hj h1) (cm13j κ _ _ _) rfl 4 (by decide) kw9 rfl dX1_become_53 ?_
  refine fw_put (C := RX1) (T := TX1) (N := 15) (ci := 1) (ty := .int) (v := .int (g13 (13 + 20 * j) i1 4)) (r := upd (g13 13 i0) 4 (g13 (13 + 20 * j) i1 4)) hx hb hL1 tyX1 tyX1_ok nmX1 hown hE hok hF hS (b13 hn h0) (cm13 κ _ _) rfl 4 (by decide) kw9 rfl (tyX1_ok 4 (by decide)) rfl rfl (Nat.le_of_ble_eq_true rfl) rfl dX1_become_56 (fun H locs hF hS => ?_)
  obtain ⟨g15, e16, h⟩ := ltm_e h
  rw [e16] at hF
  refine lv_aload_n hx hb dX1_become_59 rfl (lv_at hl 0 rfl) ?_
  refine lv_aload_n hx hb dX1_become_60 rfl (lv_at hl 1 rfl) ?_
  refine fw_get (C := RX1) (T := TX1) (N := 15) (ci := 1) (v := .int (g15 (13 + 20 * j) i1 5)) hx hb hL1 hown hE hF (b13j hj h1) (cm13j κ _ _ _) rfl 5 (by decide) kw10 rfl dX1_become_61 ?_
  refine fw_put (C := RX1) (T := TX1) (N := 15) (ci := 1) (ty := .int) (v := .int (g15 (13 + 20 * j) i1 5)) (r := upd (g15 13 i0) 5 (g15 (13 + 20 * j) i1 5)) hx hb hL1 tyX1 tyX1_ok nmX1 hown hE hok hF hS (b13 hn h0) (cm13 κ _ _) rfl 5 (by decide) kw10 rfl (tyX1_ok 5 (by decide)) rfl rfl (Nat.le_of_ble_eq_true rfl) rfl dX1_become_64 (fun H locs hF hS => ?_)
  obtain ⟨g17, e18, h⟩ := ltm_e h
  rw [e18] at hF
  refine lv_aload_n hx hb dX1_become_67 rfl (lv_at hl 0 rfl) ?_
  refine lv_aload_n hx hb dX1_become_68 rfl (lv_at hl 1 rfl) ?_
  refine fw_get (C := RX1) (T := TX1) (N := 15) (ci := 1) (v := .int (g17 (13 + 20 * j) i1 6)) hx hb hL1 hown hE hF (b13j hj h1) (cm13j κ _ _ _) rfl 6 (by decide) kw11 rfl dX1_become_69 ?_
  obtain ⟨k19, h⟩ := ck h
  refine fw_put (C := RX1) (T := TX1) (N := 15) (ci := 1) (ty := .boolean) (v := .int (g17 (13 + 20 * j) i1 6)) (r := upd (g17 13 i0) 6 (g17 (13 + 20 * j) i1 6)) hx hb hL1 tyX1 tyX1_ok nmX1 hown hE hok hF hS (b13 hn h0) (cm13 κ _ _) rfl 6 (by decide) kw11 rfl (tyX1_ok 6 (by decide)) (zok k19).1 (zok k19).2 (Nat.le_of_ble_eq_true rfl) rfl dX1_become_72 (fun H locs hF hS => ?_)
  obtain ⟨g20, e21, h⟩ := ltm_e h
  rw [e21] at hF
  refine lv_aload_n hx hb dX1_become_75 rfl (lv_at hl 0 rfl) ?_
  refine lv_aload_n hx hb dX1_become_76 rfl (lv_at hl 1 rfl) ?_
  refine fw_get (C := RX1) (T := TX1) (N := 15) (ci := 1) (v := .int (g20 (13 + 20 * j) i1 7)) hx hb hL1 hown hE hF (b13j hj h1) (cm13j κ _ _ _) rfl 7 (by decide) kw12 rfl dX1_become_77 ?_
  refine fw_put (C := RX1) (T := TX1) (N := 15) (ci := 1) (ty := .int) (v := .int (g20 (13 + 20 * j) i1 7)) (r := upd (g20 13 i0) 7 (g20 (13 + 20 * j) i1 7)) hx hb hL1 tyX1 tyX1_ok nmX1 hown hE hok hF hS (b13 hn h0) (cm13 κ _ _) rfl 7 (by decide) kw12 rfl (tyX1_ok 7 (by decide)) rfl rfl (Nat.le_of_ble_eq_true rfl) rfl dX1_become_80 (fun H locs hF hS => ?_)
  obtain ⟨g22, e23, h⟩ := ltm_e h
  rw [e23] at hF
  refine lv_aload_n hx hb dX1_become_83 rfl (lv_at hl 0 rfl) ?_
  refine lv_aload_n hx hb dX1_become_84 rfl (lv_at hl 1 rfl) ?_
  refine fw_get (C := RX1) (T := TX1) (N := 15) (ci := 1) (v := .int (g22 (13 + 20 * j) i1 8)) hx hb hL1 hown hE hF (b13j hj h1) (cm13j κ _ _ _) rfl 8 (by decide) kw13 rfl dX1_become_85 ?_
  refine fw_put (C := RX1) (T := TX1) (N := 15) (ci := 1) (ty := .int) (v := .int (g22 (13 + 20 * j) i1 8)) (r := upd (g22 13 i0) 8 (g22 (13 + 20 * j) i1 8)) hx hb hL1 tyX1 tyX1_ok nmX1 hown hE hok hF hS (b13 hn h0) (cm13 κ _ _) rfl 8 (by decide) kw13 rfl (tyX1_ok 8 (by decide)) rfl rfl (Nat.le_of_ble_eq_true rfl) rfl dX1_become_88 (fun H locs hF hS => ?_)
  obtain ⟨g24, e25, h⟩ := ltm_e h
  rw [e25] at hF
  refine lv_aload_n hx hb dX1_become_91 rfl (lv_at hl 0 rfl) ?_
  refine lv_aload_n hx hb dX1_become_92 rfl (lv_at hl 1 rfl) ?_
  refine fw_get (C := RX1) (T := TX1) (N := 15) (ci := 1) (v := .int (g24 (13 + 20 * j) i1 9)) hx hb hL1 hown hE hF (b13j hj h1) (cm13j κ _ _ _) rfl 9 (by decide) kw14 rfl dX1_become_93 ?_
  refine fw_put (C := RX1) (T := TX1) (N := 15) (ci := 1) (ty := .int) (v := .int (g24 (13 + 20 * j) i1 9)) (r := upd (g24 13 i0) 9 (g24 (13 + 20 * j) i1 9)) hx hb hL1 tyX1 tyX1_ok nmX1 hown hE hok hF hS (b13 hn h0) (cm13 κ _ _) rfl 9 (by decide) kw14 rfl (tyX1_ok 9 (by decide)) rfl rfl (Nat.le_of_ble_eq_true rfl) rfl dX1_become_96 (fun H locs hF hS => ?_)
  obtain ⟨g26, e27, h⟩ := ltm_e h
  rw [e27] at hF
  refine lv_aload_n hx hb dX1_become_99 rfl (lv_at hl 0 rfl) ?_
  refine lv_aload_n hx hb dX1_become_100 rfl (lv_at hl 1 rfl) ?_
  refine fw_get (C := RX1) (T := TX1) (N := 15) (ci := 1) (v := .int (g26 (13 + 20 * j) i1 10)) hx hb hL1 hown hE hF (b13j hj h1) (cm13j κ _ _ _) rfl 10 (by decide) kw15 rfl dX1_become_101 ?_
  refine fw_put (C := RX1) (T := TX1) (N := 15) (ci := 1) (ty := .int) (v := .int (g26 (13 + 20 * j) i1 10)) (r := upd (g26 13 i0) 10 (g26 (13 + 20 * j) i1 10)) hx hb hL1 tyX1 tyX1_ok nmX1 hown hE hok hF hS (b13 hn h0) (cm13 κ _ _) rfl 10 (by decide) kw15 rfl (tyX1_ok 10 (by decide)) rfl rfl (Nat.le_of_ble_eq_true rfl) rfl dX1_become_104 (fun H locs hF hS => ?_)
  obtain ⟨g28, e29, h⟩ := ltm_e h
  rw [e29] at hF
  refine lv_aload_n hx hb dX1_become_107 rfl (lv_at hl 0 rfl) ?_
  refine lv_aload_n hx hb dX1_become_108 rfl (lv_at hl 1 rfl) ?_
  refine fw_get (C := RX1) (T := TX1) (N := 15) (ci := 1) (v := .int (g28 (13 + 20 * j) i1 11)) hx hb hL1 hown hE hF (b13j hj h1) (cm13j κ _ _ _) rfl 11 (by decide) kw16 rfl dX1_become_109 ?_
  refine fw_put (C := RX1) (T := TX1) (N := 15) (ci := 1) (ty := .int) (v := .int (g28 (13 + 20 * j) i1 11)) (r := upd (g28 13 i0) 11 (g28 (13 + 20 * j) i1 11)) hx hb hL1 tyX1 tyX1_ok nmX1 hown hE hok hF hS (b13 hn h0) (cm13 κ _ _) rfl 11 (by decide) kw16 rfl (tyX1_ok 11 (by decide)) rfl rfl (Nat.le_of_ble_eq_true rfl) rfl dX1_become_112 (fun H locs hF hS => ?_)
  obtain ⟨g30, e31, h⟩ := ltm_e h
  rw [e31] at hF
  refine lv_aload_n hx hb dX1_become_115 rfl (lv_at hl 0 rfl) ?_
  refine lv_aload_n hx hb dX1_become_116 rfl (lv_at hl 1 rfl) ?_
  refine fw_get (C := RX1) (T := TX1) (N := 15) (ci := 1) (v := .int (g30 (13 + 20 * j) i1 12)) hx hb hL1 hown hE hF (b13j hj h1) (cm13j κ _ _ _) rfl 12 (by decide) kw17 rfl dX1_become_117 ?_
  refine fw_put (C := RX1) (T := TX1) (N := 15) (ci := 1) (ty := .int) (v := .int (g30 (13 + 20 * j) i1 12)) (r := upd (g30 13 i0) 12 (g30 (13 + 20 * j) i1 12)) hx hb hL1 tyX1 tyX1_ok nmX1 hown hE hok hF hS (b13 hn h0) (cm13 κ _ _) rfl 12 (by decide) kw17 rfl (tyX1_ok 12 (by decide)) rfl rfl (Nat.le_of_ble_eq_true rfl) rfl dX1_become_120 (fun H locs hF hS => ?_)
  obtain ⟨g32, e33, h⟩ := ltm_e h
  rw [e33] at hF
  refine lv_aload_n hx hb dX1_become_123 rfl (lv_at hl 0 rfl) ?_
  refine lv_aload_n hx hb dX1_become_124 rfl (lv_at hl 1 rfl) ?_
  refine fw_get (C := RX1) (T := TX1) (N := 15) (ci := 1) (v := .int (g32 (13 + 20 * j) i1 13)) hx hb hL1 hown hE hF (b13j hj h1) (cm13j κ _ _ _) rfl 13 (by decide) kw18 rfl dX1_become_125 ?_
  refine fw_put (C := RX1) (T := TX1) (N := 15) (ci := 1) (ty := .int) (v := .int (g32 (13 + 20 * j) i1 13)) (r := upd (g32 13 i0) 13 (g32 (13 + 20 * j) i1 13)) hx hb hL1 tyX1 tyX1_ok nmX1 hown hE hok hF hS (b13 hn h0) (cm13 κ _ _) rfl 13 (by decide) kw18 rfl (tyX1_ok 13 (by decide)) rfl rfl (Nat.le_of_ble_eq_true rfl) rfl dX1_become_128 (fun H locs hF hS => ?_)
  obtain ⟨g34, e35, h⟩ := ltm_e h
  rw [e35] at hF
  refine lv_aload_n hx hb dX1_become_131 rfl (lv_at hl 0 rfl) ?_
  refine lv_aload_n hx hb dX1_become_132 rfl (lv_at hl 1 rfl) ?_
  refine fw_get (C := RX1) (T := TX1) (N := 15) (ci := 1) (v := .int (g34 (13 + 20 * j) i1 14)) hx hb hL1 hown hE hF (b13j hj h1) (cm13j κ _ _ _) rfl 14 (by decide) kw19 rfl dX1_become_133 ?_
  refine fw_put (C := RX1) (T := TX1) (N := 15) (ci := 1) (ty := .int) (v := .int (g34 (13 + 20 * j) i1 14)) (r := upd (g34 13 i0) 14 (g34 (13 + 20 * j) i1 14)) hx hb hL1 tyX1 tyX1_ok nmX1 hown hE hok hF hS (b13 hn h0) (cm13 κ _ _) rfl 14 (by decide) kw19 rfl (tyX1_ok 14 (by decide)) rfl rfl (Nat.le_of_ble_eq_true rfl) rfl dX1_become_136 (fun H locs hF hS => ?_)
  obtain ⟨g36, e37, h⟩ := ltm_e h
  rw [e37] at hF
  exact fw_vret hx hb hr hlk h hF hS dX1_become_139
def st_X4_becomeb_2 (F : Nat) (K : Mem → Int32 → Option (Int32 × Mem)) (j : Nat) (g : Mem) (x2 : Int32) : Option (Int32 × Mem) := (if ((10 : Int32)) ≤ x2 then (m_X2_becomeb j g ).bind (fun (r3, g4) => (m_X0_becomeb j g4 ).bind (fun (r7, g8) => ltm (upr g8 2 0 (upd (g8 2 0) 3 (g8 (2 + 20 * j) 0 3))) (fun g10 => ltm (upr g10 2 0 (upd (g10 2 0) 4 (g10 (2 + 20 * j) 0 4))) (fun g12 => ltm (upr g12 2 0 (upd (g12 2 0) 5 (g12 (2 + 20 * j) 0 5))) (fun g14 => ltm (upr g14 2 0 (upd (g14 2 0) 6 (g14 (2 + 20 * j) 0 6))) (fun g16 => ltm (upr g16 2 0 (upd (g16 2 0) 7 (g16 (2 + 20 * j) 0 7))) (fun g18 => ltm (upr g18 2 0 (upd (g18 2 0) 8 (g18 (2 + 20 * j) 0 8))) (fun g20 => ltm (upr g20 2 0 (upd (g20 2 0) 9 (g20 (2 + 20 * j) 0 9))) (fun g22 => ltm (upr g22 2 0 (upd (g22 2 0) 10 (g22 (2 + 20 * j) 0 10))) (fun g24 => some (0, g24))))))))))) else if (x2 < 0 ∨ 10 ≤ x2.toNatClampNeg) then none else if (x2 < 0 ∨ 10 ≤ x2.toNatClampNeg) then none else (m_X1_becomeb j (x2.toNatClampNeg) (x2.toNatClampNeg) g ).bind (fun (r29, g30) => K g30 (x2 + (1 : Int32))))
def lp_X4_becomeb_2 (F : Nat) : Nat → Nat → Mem → Int32 → Option (Int32 × Mem)
  | 0, _, _, _ => none
  | f + 1, j, g, x2 => st_X4_becomeb_2 F (lp_X4_becomeb_2 F f j) j g x2
def m_X4_becomeb (F : Nat) (j : Nat) (g : Mem) : Option (Int32 × Mem) := lp_X4_becomeb_2 F F j g ((0 : Int32))
set_option maxHeartbeats 4000000 in
set_option maxRecDepth 100000 in
theorem c_X4_becomeb (l : Launch) {κ : Cx} (hok : fok (cφ κ)) (hn : 1 ≤ cn κ) {j : Nat} (hj : j < cn κ) {F : Nat} {g : Mem} {u : Int32 × Mem} (h : m_X4_becomeb F j g  = some u) : fM l (cφ κ) yX4_become wsX4_become 3 60 [.ref (fa (cφ κ) 2 0), .ref (fa (cφ κ) (2 + 20 * j) 0)] g none u.2 := by
  refine fM.of (cc := cX4_become) (maxL := 3) (ret := none) [(0, .ref (fa (cφ κ) 2 0)), (1, .ref (fa (cφ κ) (2 + 20 * j) 0))] (by decide) rfl (Nat.le_of_ble_eq_true rfl) rfl (fun p e s m below meth c ls hx hb hr hml hown hts hlk hE hF hS hl => ?_)
  replace hown : s.vm.findClass RX4 = some m.cls := hown
  have hL4 : ∀ w ∈ u_ws RX4 TX4 11, w.before ([.ref (fa (cφ κ) 2 0), .ref (fa (cφ κ) (2 + 20 * j) 0)] : List Value).toArray s = true := fun w hw => hts w (by
    unfold wsX4_become
    simp only [List.mem_cons, List.mem_append]
    exact Or.inr (Or.inl (Or.inl (Or.inl (Or.inl (Or.inr hw))))))
  have kw2 := hts (.fieldLink RX4 20 "MeshLamps$Mesh" "letters" "LMeshLamps$Letters;") (List.mem_of_getElem? (i := 2) rfl)
  have kw3 := hts (.fieldLink RX4 27 "MeshLamps$Mesh" "air" "LMeshLamps$Air;") (List.mem_of_getElem? (i := 3) rfl)
  have kw4 := hts (.fieldLink RX4 31 "MeshLamps$Mesh" "tick" "I") (List.mem_of_getElem? (i := 4) rfl)
  have kw5 := hts (.fieldLink RX4 35 "MeshLamps$Mesh" "key" "I") (List.mem_of_getElem? (i := 5) rfl)
  have kw6 := hts (.fieldLink RX4 38 "MeshLamps$Mesh" "phase" "I") (List.mem_of_getElem? (i := 6) rfl)
  have kw7 := hts (.fieldLink RX4 41 "MeshLamps$Mesh" "haveKey" "I") (List.mem_of_getElem? (i := 7) rfl)
  have kw8 := hts (.fieldLink RX4 44 "MeshLamps$Mesh" "haveNext" "I") (List.mem_of_getElem? (i := 8) rfl)
  have kw9 := hts (.fieldLink RX4 47 "MeshLamps$Mesh" "spoken" "I") (List.mem_of_getElem? (i := 9) rfl)
  have kw10 := hts (.fieldLink RX4 50 "MeshLamps$Mesh" "lostAsFull" "I") (List.mem_of_getElem? (i := 10) rfl)
  have kw11 := hts (.fieldLink RX4 53 "MeshLamps$Mesh" "lostAsleep" "I") (List.mem_of_getElem? (i := 11) rfl)
  have kw1 := hts (.fieldLink RX4 11 "MeshLamps$Mesh" "lamps" "[LMeshLamps$Lamp;") (List.mem_of_getElem? (i := 1) rfl)
  unfold m_X4_becomeb at h
  refine lv_iconst (v := (0 : Int32)) hx hb dX4_become_0 (by decide) ?_
  refine lv_istore_n (lv' := [(2, .int ((0 : Int32))), (0, .ref (fa (cφ κ) 2 0)), (1, .ref (fa (cφ κ) (2 + 20 * j) 0))]) hx hb dX4_become_1 rfl hl (by decide) rfl (fun ls hl => ?_)
  have LOOP2 : ∀ (f : Nat) (g : Mem) (x2 : Int32) (H : Heap) (locs : List Loc) (ls : Array Slot), lp_X4_becomeb_2 F f j g x2 = some u → fw (cφ κ) g H → va_S (fA (cφ κ)) s.heap H locs → lv_has ls 3 [(0, .ref (fa (cφ κ) 2 0)), (1, .ref (fa (cφ κ) (2 + 20 * j) 0)), (2, .int x2)] → W p l e ({ frames := 3, cells := 0, slots := 0, locals := 60 }) s m ([.ref (fa (cφ κ) 2 0), .ref (fa (cφ κ) (2 + 20 * j) 0)] : List Value).toArray below meth c H locs 0 0 (MQ below (fQ (cφ κ) none u.2) ([.ref (fa (cφ κ) 2 0), .ref (fa (cφ κ) (2 + 20 * j) 0)] : List Value).toArray s 0 0 (fA (cφ κ))) (F0 m 2 ls []) := by
    intro f
    induction f with
    | zero => intro g x2 H locs ls h hF hS hl; cases h
    | succ f ih =>
      intro g x2 H locs ls h hF hS hl
      replace h : st_X4_becomeb_2 F (lp_X4_becomeb_2 F f j) j g x2 = some u := h
      unfold st_X4_becomeb_2 at h
      refine lv_iload_n hx hb dX4_become_2 rfl (lv_at hl 2 rfl) ?_
      refine lv_bipush (v := (10 : Int32)) hx hb dX4_become_3 (by decide) ?_
      refine lv_icmp_ge (tgt := 29) hx hb dX4_become_5 (by decide) (fun c1 => ?_) (fun c1 => ?_)
      · have h := ift h c1
        refine lv_aload_n hx hb dX4_become_29 rfl (lv_at hl 0 rfl) ?_
        refine fw_get (C := RX4) (T := TX4) (N := 11) (ci := 4) (v := .ref (fa (cφ κ) 4 0)) hx hb hL4 hown hE hF (b2 hn) (cm2 κ _ _) rfl 1 (by decide) kw2 rfl dX4_become_30 ?_
        refine lv_aload_n hx hb dX4_become_33 rfl (lv_at hl 1 rfl) ?_
        refine fw_get (C := RX4) (T := TX4) (N := 11) (ci := 4) (v := .ref (fa (cφ κ) (4 + 20 * j) 0)) hx hb hL4 hown hE hF (b2j hj) (cm2j κ _ _ _) rfl 1 (by decide) kw2 rfl dX4_become_34 ?_
        obtain ⟨⟨r3, g4⟩, q2, h⟩ := bnd h
        try dsimp only at h
        refine fw_callv (va_runV (As := [.ref (fa (cφ κ) (4 + 20 * j) 0)]) (rest := []) ⟨hx, hb, hml, hown, hts⟩ (c_X2_becomeb l hok hn hj q2) (cwV 1 hts gX4_become_X2_become rfl rfl rfl qv_X2_become ⟨Nat.le_of_ble_eq_true rfl, Nat.le_of_ble_eq_true rfl⟩) (fw_preV hok hE hF (b4 hn) (cm4 κ _ _) rfl) rfl rfl hl.1 rfl (lv_room (Nat.le_of_ble_eq_true rfl)) dX4_become_37 ⟨Nat.le_refl _, Nat.le_refl _⟩) hS (fun H locs hF hS => ?_)
        refine lv_aload_n hx hb dX4_become_40 rfl (lv_at hl 0 rfl) ?_
        refine fw_get (C := RX4) (T := TX4) (N := 11) (ci := 4) (v := .ref (fa (cφ κ) 8 0)) hx hb hL4 hown hE hF (b2 hn) (cm2 κ _ _) rfl 2 (by decide) kw3 rfl dX4_become_41 ?_
        refine lv_aload_n hx hb dX4_become_44 rfl (lv_at hl 1 rfl) ?_
        refine fw_get (C := RX4) (T := TX4) (N := 11) (ci := 4) (v := .ref (fa (cφ κ) (8 + 20 * j) 0)) hx hb hL4 hown hE hF (b2j hj) (cm2j κ _ _ _) rfl 2 (by decide) kw3 rfl dX4_become_45 ?_
        obtain ⟨⟨r7, g8⟩, q6, h⟩ := bnd h
        try dsimp only at h
        refine fw_callv (va_runV (As := [.ref (fa (cφ κ) (8 + 20 * j) 0)]) (rest := []) ⟨hx, hb, hml, hown, hts⟩ (c_X0_becomeb l hok hn hj q6) (cwV 1 hts gX4_become_X0_become rfl rfl rfl qv_X0_become ⟨Nat.le_of_ble_eq_true rfl, Nat.le_of_ble_eq_true rfl⟩) (fw_preV hok hE hF (b8 hn) (cm8 κ _ _) rfl) rfl rfl hl.1 rfl (lv_room (Nat.le_of_ble_eq_true rfl)) dX4_become_48 ⟨Nat.le_refl _, Nat.le_refl _⟩) hS (fun H locs hF hS => ?_)
        refine lv_aload_n hx hb dX4_become_51 rfl (lv_at hl 0 rfl) ?_
        refine lv_aload_n hx hb dX4_become_52 rfl (lv_at hl 1 rfl) ?_
        refine fw_get (C := RX4) (T := TX4) (N := 11) (ci := 4) (v := .int (g8 (2 + 20 * j) 0 3)) hx hb hL4 hown hE hF (b2j hj) (cm2j κ _ _ _) rfl 3 (by decide) kw4 rfl dX4_become_53 ?_
        refine fw_put (C := RX4) (T := TX4) (N := 11) (ci := 4) (ty := .int) (v := .int (g8 (2 + 20 * j) 0 3)) (r := upd (g8 2 0) 3 (g8 (2 + 20 * j) 0 3)) hx hb hL4 tyX4 tyX4_ok nmX4 hown hE hok hF hS (b2 hn) (cm2 κ _ _) rfl 3 (by decide) kw4 rfl (tyX4_ok 3 (by decide)) rfl rfl (Nat.le_of_ble_eq_true rfl) rfl dX4_become_56 (fun H locs hF hS => ?_)
        obtain ⟨g10, e11, h⟩ := ltm_e h
        rw [e11] at hF
        refine lv_aload_n hx hb dX4_become_59 rfl (lv_at hl 0 rfl) ?_
        refine lv_aload_n hx hb dX4_become_60 rfl (lv_at hl 1 rfl) ?_
        refine fw_get (C := RX4) (T := TX4) (N := 11) (ci := 4) (v := .int (g10 (2 + 20 * j) 0 4)) hx hb hL4 hown hE hF (b2j hj) (cm2j κ _ _ _) rfl 4 (by decide) kw5 rfl dX4_become_61 ?_
        refine fw_put (C := RX4) (T := TX4) (N := 11) (ci := 4) (ty := .int) (v := .int (g10 (2 + 20 * j) 0 4)) (r := upd (g10 2 0) 4 (g10 (2 + 20 * j) 0 4)) hx hb hL4 tyX4 tyX4_ok nmX4 hown hE hok hF hS (b2 hn) (cm2 κ _ _) rfl 4 (by decide) kw5 rfl (tyX4_ok 4 (by decide)) rfl rfl (Nat.le_of_ble_eq_true rfl) rfl dX4_become_64 (fun H locs hF hS => ?_)
        obtain ⟨g12, e13, h⟩ := ltm_e h
        rw [e13] at hF
        refine lv_aload_n hx hb dX4_become_67 rfl (lv_at hl 0 rfl) ?_
        refine lv_aload_n hx hb dX4_become_68 rfl (lv_at hl 1 rfl) ?_
        refine fw_get (C := RX4) (T := TX4) (N := 11) (ci := 4) (v := .int (g12 (2 + 20 * j) 0 5)) hx hb hL4 hown hE hF (b2j hj) (cm2j κ _ _ _) rfl 5 (by decide) kw6 rfl dX4_become_69 ?_
        refine fw_put (C := RX4) (T := TX4) (N := 11) (ci := 4) (ty := .int) (v := .int (g12 (2 + 20 * j) 0 5)) (r := upd (g12 2 0) 5 (g12 (2 + 20 * j) 0 5)) hx hb hL4 tyX4 tyX4_ok nmX4 hown hE hok hF hS (b2 hn) (cm2 κ _ _) rfl 5 (by decide) kw6 rfl (tyX4_ok 5 (by decide)) rfl rfl (Nat.le_of_ble_eq_true rfl) rfl dX4_become_72 (fun H locs hF hS => ?_)
        obtain ⟨g14, e15, h⟩ := ltm_e h
        rw [e15] at hF
        refine lv_aload_n hx hb dX4_become_75 rfl (lv_at hl 0 rfl) ?_
        refine lv_aload_n hx hb dX4_become_76 rfl (lv_at hl 1 rfl) ?_
        refine fw_get (C := RX4) (T := TX4) (N := 11) (ci := 4) (v := .int (g14 (2 + 20 * j) 0 6)) hx hb hL4 hown hE hF (b2j hj) (cm2j κ _ _ _) rfl 6 (by decide) kw7 rfl dX4_become_77 ?_
        refine fw_put (C := RX4) (T := TX4) (N := 11) (ci := 4) (ty := .int) (v := .int (g14 (2 + 20 * j) 0 6)) (r := upd (g14 2 0) 6 (g14 (2 + 20 * j) 0 6)) hx hb hL4 tyX4 tyX4_ok nmX4 hown hE hok hF hS (b2 hn) (cm2 κ _ _) rfl 6 (by decide) kw7 rfl (tyX4_ok 6 (by decide)) rfl rfl (Nat.le_of_ble_eq_true rfl) rfl dX4_become_80 (fun H locs hF hS => ?_)
        obtain ⟨g16, e17, h⟩ := ltm_e h
        rw [e17] at hF
        refine lv_aload_n hx hb dX4_become_83 rfl (lv_at hl 0 rfl) ?_
        refine lv_aload_n hx hb dX4_become_84 rfl (lv_at hl 1 rfl) ?_
        refine fw_get (C := RX4) (T := TX4) (N := 11) (ci := 4) (v := .int (g16 (2 + 20 * j) 0 7)) hx hb hL4 hown hE hF (b2j hj) (cm2j κ _ _ _) rfl 7 (by decide) kw8 rfl dX4_become_85 ?_
        refine fw_put (C := RX4) (T := TX4) (N := 11) (ci := 4) (ty := .int) (v := .int (g16 (2 + 20 * j) 0 7)) (r := upd (g16 2 0) 7 (g16 (2 + 20 * j) 0 7)) hx hb hL4 tyX4 tyX4_ok nmX4 hown hE hok hF hS (b2 hn) (cm2 κ _ _) rfl 7 (by decide) kw8 rfl (tyX4_ok 7 (by decide)) rfl rfl (Nat.le_of_ble_eq_true rfl) rfl dX4_become_88 (fun H locs hF hS => ?_)
        obtain ⟨g18, e19, h⟩ := ltm_e h
        rw [e19] at hF
        refine lv_aload_n hx hb dX4_become_91 rfl (lv_at hl 0 rfl) ?_
        refine lv_aload_n hx hb dX4_become_92 rfl (lv_at hl 1 rfl) ?_
        refine fw_get (C := RX4) (T := TX4) (N := 11) (ci := 4) (v := .int (g18 (2 + 20 * j) 0 8)) hx hb hL4 hown hE hF (b2j hj) (cm2j κ _ _ _) rfl 8 (by decide) kw9 rfl dX4_become_93 ?_
        refine fw_put (C := RX4) (T := TX4) (N := 11) (ci := 4) (ty := .int) (v := .int (g18 (2 + 20 * j) 0 8)) (r := upd (g18 2 0) 8 (g18 (2 + 20 * j) 0 8)) hx hb hL4 tyX4 tyX4_ok nmX4 hown hE hok hF hS (b2 hn) (cm2 κ _ _) rfl 8 (by decide) kw9 rfl (tyX4_ok 8 (by decide)) rfl rfl (Nat.le_of_ble_eq_true rfl) rfl dX4_become_96 (fun H locs hF hS => ?_)
        obtain ⟨g20, e21, h⟩ := ltm_e h
        rw [e21] at hF
        refine lv_aload_n hx hb dX4_become_99 rfl (lv_at hl 0 rfl) ?_
        refine lv_aload_n hx hb dX4_become_100 rfl (lv_at hl 1 rfl) ?_
        refine fw_get (C := RX4) (T := TX4) (N := 11) (ci := 4) (v := .int (g20 (2 + 20 * j) 0 9)) hx hb hL4 hown hE hF (b2j hj) (cm2j κ _ _ _) rfl 9 (by decide) kw10 rfl dX4_become_101 ?_
        refine fw_put (C := RX4) (T := TX4) (N := 11) (ci := 4) (ty := .int) (v := .int (g20 (2 + 20 * j) 0 9)) (r := upd (g20 2 0) 9 (g20 (2 + 20 * j) 0 9)) hx hb hL4 tyX4 tyX4_ok nmX4 hown hE hok hF hS (b2 hn) (cm2 κ _ _) rfl 9 (by decide) kw10 rfl (tyX4_ok 9 (by decide)) rfl rfl (Nat.le_of_ble_eq_true rfl) rfl dX4_become_104 (fun H locs hF hS => ?_)
        obtain ⟨g22, e23, h⟩ := ltm_e h
        rw [e23] at hF
        refine lv_aload_n hx hb dX4_become_107 rfl (lv_at hl 0 rfl) ?_
        refine lv_aload_n hx hb dX4_become_108 rfl (lv_at hl 1 rfl) ?_
        refine fw_get (C := RX4) (T := TX4) (N := 11) (ci := 4) (v := .int (g22 (2 + 20 * j) 0 10)) hx hb hL4 hown hE hF (b2j hj) (cm2j κ _ _ _) rfl 10 (by decide) kw11 rfl dX4_become_109 ?_
        refine fw_put (C := RX4) (T := TX4) (N := 11) (ci := 4) (ty := .int) (v := .int (g22 (2 + 20 * j) 0 10)) (r := upd (g22 2 0) 10 (g22 (2 + 20 * j) 0 10)) hx hb hL4 tyX4 tyX4_ok nmX4 hown hE hok hF hS (b2 hn) (cm2 κ _ _) rfl 10 (by decide) kw11 rfl (tyX4_ok 10 (by decide)) rfl rfl (Nat.le_of_ble_eq_true rfl) rfl dX4_become_112 (fun H locs hF hS => ?_)
        obtain ⟨g24, e25, h⟩ := ltm_e h
        rw [e25] at hF
        exact fw_vret hx hb hr hlk h hF hS dX4_become_115
      · have h := iff0 h c1
        refine lv_aload_n hx hb dX4_become_8 rfl (lv_at hl 0 rfl) ?_
        refine fw_get (C := RX4) (T := TX4) (N := 11) (ci := 4) (v := .ref (fa (cφ κ) 3 0)) hx hb hL4 hown hE hF (b2 hn) (cm2 κ _ _) rfl 0 (by decide) kw1 rfl dX4_become_9 ?_
        refine lv_iload_n hx hb dX4_become_12 rfl (lv_at hl 2 rfl) ?_
        obtain ⟨k26, h⟩ := ck h
        refine fw_aald (a := fa (cφ κ) 13 (x2.toNatClampNeg)) hx hb hE hF (b3 hn) (cm3 κ _ _) 1 rfl k26 rfl dX4_become_13 ?_
        refine lv_aload_n hx hb dX4_become_14 rfl (lv_at hl 1 rfl) ?_
        refine fw_get (C := RX4) (T := TX4) (N := 11) (ci := 4) (v := .ref (fa (cφ κ) (3 + 20 * j) 0)) hx hb hL4 hown hE hF (b2j hj) (cm2j κ _ _ _) rfl 0 (by decide) kw1 rfl dX4_become_15 ?_
        refine lv_iload_n hx hb dX4_become_18 rfl (lv_at hl 2 rfl) ?_
        obtain ⟨k27, h⟩ := ck h
        refine fw_aald (a := fa (cφ κ) (13 + 20 * j) (x2.toNatClampNeg)) hx hb hE hF (b3j hj) (cm3j κ _ _ _) 1 rfl k27 rfl dX4_become_19 ?_
        obtain ⟨⟨r29, g30⟩, q28, h⟩ := bnd h
        try dsimp only at h
        refine fw_callv (va_runV (As := [.ref (fa (cφ κ) (13 + 20 * j) (x2.toNatClampNeg))]) (rest := []) ⟨hx, hb, hml, hown, hts⟩ (c_X1_becomeb l hok hn hj (vpl k26) (vpl k27) q28) (cwV 1 hts gX4_become_X1_become rfl rfl rfl qv_X1_become ⟨Nat.le_of_ble_eq_true rfl, Nat.le_of_ble_eq_true rfl⟩) (fw_preV hok hE hF (b13 hn (vpl k26)) (cm13 κ _ _) rfl) rfl rfl hl.1 rfl (lv_room (Nat.le_of_ble_eq_true rfl)) dX4_become_20 ⟨Nat.le_refl _, Nat.le_refl _⟩) hS (fun H locs hF hS => ?_)
        refine lv_iinc (v := x2 + (1 : Int32)) (lv' := [(2, .int (x2 + (1 : Int32))), (0, .ref (fa (cφ κ) 2 0)), (1, .ref (fa (cφ κ) (2 + 20 * j) 0))]) hx hb dX4_become_23 hl (k := 2) rfl rfl (by decide) rfl (fun ls hl => ?_)
        refine lv_goto (tgt := 2) hx hb dX4_become_26 (by decide) ?_
        exact ih g30 (x2 + (1 : Int32)) H locs ls h hF hS (lv_sub hl [1, 2, 0] rfl)
  exact LOOP2 F g ((0 : Int32)) _ _ ls h hF hS (lv_sub hl [1, 2, 0] rfl)
