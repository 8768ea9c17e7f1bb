/-! the small classes of the program: Air, Letters, Line (by program) -/
def m_X0_isFull (g : Mem) : Option (Int32 × Mem) := (if (g 8 0 4) < ((64 : Int32)) then some ((0 : Int32), g) else some ((1 : Int32), g))
set_option maxHeartbeats 4000000 in
set_option maxRecDepth 100000 in
theorem c_X0_isFull (l : Launch) {κ : Cx} (hok : fok (cφ κ)) (hn : 1 ≤ cn κ)  {g : Mem} {u : Int32 × Mem} (h : m_X0_isFull g  = some u) : fM l (cφ κ) yX0_isFull wsX0_isFull 0 0 [.ref (fa (cφ κ) 8 0)] g (some (.int u.1)) u.2 := by
  refine fM.of (cc := cX0_isFull) (maxL := 1) (ret := (some .boolean)) [(0, .ref (fa (cφ κ) 8 0))] (by decide) rfl (Nat.le_of_ble_eq_true rfl) rfl (fun p e s m below meth c ls hx hb hr hml hown hts hlk hE hF hS hl => ?_)
  replace hown : s.vm.findClass RX0 = some m.cls := hown
  have hL0 : ∀ w ∈ u_ws RX0 TX0 5, w.before ([.ref (fa (cφ κ) 8 0)] : List Value).toArray s = true := fun w hw => hts w (by
    unfold wsX0_isFull
    simp only [List.mem_cons, List.mem_append]
    exact Or.inr (Or.inr hw))
  have kw1 := hts (.fieldLink RX0 24 "MeshLamps$Air" "size" "I") (List.mem_of_getElem? (i := 1) rfl)
  unfold m_X0_isFull at h
  refine lv_aload_n hx hb dX0_isFull_0 rfl (lv_at hl 0 rfl) ?_
  refine fw_get (C := RX0) (T := TX0) (N := 5) (ci := 0) (v := .int (g 8 0 4)) hx hb hL0 hown hE hF (b8 hn) (cm8 κ _ _) rfl 4 (by decide) kw1 rfl dX0_isFull_1 ?_
  refine lv_bipush (v := (64 : Int32)) hx hb dX0_isFull_4 (by decide) ?_
  refine lv_icmp_lt (tgt := 13) hx hb dX0_isFull_6 (by decide) (fun c1 => ?_) (fun c1 => ?_)
  · have h := ift h c1
    refine lv_iconst (v := (0 : Int32)) hx hb dX0_isFull_13 (by decide) ?_
    exact fw_zret hx hb hr hlk rfl h hF hS dX0_isFull_14
  · have h := iff0 h c1
    refine lv_iconst (v := (1 : Int32)) hx hb dX0_isFull_9 (by decide) ?_
    refine lv_goto (tgt := 14) hx hb dX0_isFull_10 (by decide) ?_
    exact fw_zret hx hb hr hlk rfl h hF hS dX0_isFull_14
def m_X0_add (g : Mem) (a0 a1 a2 a3 : Int32) : Option (Int32 × Mem) := (m_X0_isFull g ).bind (fun (r2, g3) => (if r2 = 0 then if (g3 8 0 4 < 0 ∨ 64 ≤ (g3 8 0 4).toNatClampNeg) then none else ltm (upr g3 9 0 (upd (g3 9 0) (g3 8 0 4).toNatClampNeg a0)) (fun g7 => if (g7 8 0 4 < 0 ∨ 64 ≤ (g7 8 0 4).toNatClampNeg) then none else ltm (upr g7 10 0 (upd (g7 10 0) (g7 8 0 4).toNatClampNeg a1)) (fun g10 => if (g10 8 0 4 < 0 ∨ 64 ≤ (g10 8 0 4).toNatClampNeg) then none else ltm (upr g10 11 0 (upd (g10 11 0) (g10 8 0 4).toNatClampNeg a2)) (fun g13 => if (g13 8 0 4 < 0 ∨ 64 ≤ (g13 8 0 4).toNatClampNeg) then none else ltm (upr g13 12 0 (upd (g13 12 0) (g13 8 0 4).toNatClampNeg a3)) (fun g16 => ltm (upr g16 8 0 (upd (g16 8 0) 4 ((g16 8 0 4) + ((1 : Int32))))) (fun g18 => some (0, g18)))))) else some (0, g3)))
set_option maxHeartbeats 4000000 in
set_option maxRecDepth 100000 in
theorem c_X0_add (l : Launch) {κ : Cx} (hok : fok (cφ κ)) (hn : 1 ≤ cn κ)  {g : Mem} {a0 a1 a2 a3 : Int32} {u : Int32 × Mem} (h : m_X0_add g a0 a1 a2 a3 = some u) : fM l (cφ κ) yX0_add wsX0_add 1 20 [.ref (fa (cφ κ) 8 0), .int a0, .int a1, .int a2, .int a3] g none u.2 := by
  refine fM.of (cc := cX0_add) (maxL := 5) (ret := none) [(0, .ref (fa (cφ κ) 8 0)), (1, .int a0), (2, .int a1), (3, .int a2), (4, .int a3)] (by decide) rfl (Nat.le_of_ble_eq_true rfl) rfl (fun p e s m below meth c ls hx hb hr hml hown hts hlk hE hF hS hl => ?_)
  replace hown : s.vm.findClass RX0 = some m.cls := hown
  have hL0 : ∀ w ∈ u_ws RX0 TX0 5, w.before ([.ref (fa (cφ κ) 8 0), .int a0, .int a1, .int a2, .int a3] : List Value).toArray s = true := fun w hw => hts w (by
    unfold wsX0_add
    simp only [List.mem_cons, List.mem_append]
    exact Or.inr (Or.inr hw))
  have kw1 := hts (.fieldLink RX0 9 "MeshLamps$Air" "speaker" "[I") (List.mem_of_getElem? (i := 1) rfl)
  have kw2 := hts (.fieldLink RX0 24 "MeshLamps$Air" "size" "I") (List.mem_of_getElem? (i := 2) rfl)
  have kw3 := hts (.fieldLink RX0 15 "MeshLamps$Air" "tick" "[I") (List.mem_of_getElem? (i := 3) rfl)
  have kw4 := hts (.fieldLink RX0 18 "MeshLamps$Air" "letter" "[I") (List.mem_of_getElem? (i := 4) rfl)
  have kw5 := hts (.fieldLink RX0 21 "MeshLamps$Air" "steps" "[I") (List.mem_of_getElem? (i := 5) rfl)
  unfold m_X0_add at h
  refine lv_aload_n hx hb dX0_add_0 rfl (lv_at hl 0 rfl) ?_
  obtain ⟨⟨r2, g3⟩, q1, h⟩ := bnd h
  try dsimp only at h
  refine fw_calli (va_runV (As := []) (rest := []) ⟨hx, hb, hml, hown, hts⟩ (c_X0_isFull l hok hn q1) (cwV 0 hts gX0_add_X0_isFull rfl rfl rfl qv_X0_isFull ⟨Nat.le_of_ble_eq_true rfl, Nat.le_of_ble_eq_true rfl⟩) (fw_preV hok hE hF (b8 hn) (cm8 κ _ _) rfl) rfl rfl hl.1 rfl (lv_room (Nat.le_of_ble_eq_true rfl)) dX0_add_1 ⟨Nat.le_refl _, Nat.le_refl _⟩) hS (fun H locs hF hS => ?_)
  refine lv_if_eq (tgt := 8) hx hb dX0_add_4 (by decide) (fun c5 => ?_) (fun c5 => ?_)
  · have h := ift h c5
    refine lv_aload_n hx hb dX0_add_8 rfl (lv_at hl 0 rfl) ?_
    refine fw_get (C := RX0) (T := TX0) (N := 5) (ci := 0) (v := .ref (fa (cφ κ) 9 0)) hx hb hL0 hown hE hF (b8 hn) (cm8 κ _ _) rfl 0 (by decide) kw1 rfl dX0_add_9 ?_
    refine lv_aload_n hx hb dX0_add_12 rfl (lv_at hl 0 rfl) ?_
    refine fw_get (C := RX0) (T := TX0) (N := 5) (ci := 0) (v := .int (g3 8 0 4)) hx hb hL0 hown hE hF (b8 hn) (cm8 κ _ _) rfl 4 (by decide) kw2 rfl dX0_add_13 ?_
    refine lv_iload_n hx hb dX0_add_16 rfl (lv_at hl 1 rfl) ?_
    obtain ⟨k6, h⟩ := ck h
    refine fw_iast (q := (g3 8 0 4).toNatClampNeg) hx hb hE hok hF hS (b9 hn) (cm9 κ _) 0 rfl k6 rfl dX0_add_17 (fun H locs hF hS => ?_)
    obtain ⟨g7, e8, h⟩ := ltm_e h
    rw [e8] at hF
    refine lv_aload_n hx hb dX0_add_18 rfl (lv_at hl 0 rfl) ?_
    refine fw_get (C := RX0) (T := TX0) (N := 5) (ci := 0) (v := .ref (fa (cφ κ) 10 0)) hx hb hL0 hown hE hF (b8 hn) (cm8 κ _ _) rfl 1 (by decide) kw3 rfl dX0_add_19 ?_
    refine lv_aload_n hx hb dX0_add_22 rfl (lv_at hl 0 rfl) ?_
    refine fw_get (C := RX0) (T := TX0) (N := 5) (ci := 0) (v := .int (g7 8 0 4)) hx hb hL0 hown hE hF (b8 hn) (cm8 κ _ _) rfl 4 (by decide) kw2 rfl dX0_add_23 ?_
    refine lv_iload_n hx hb dX0_add_26 rfl (lv_at hl 2 rfl) ?_
    obtain ⟨k9, h⟩ := ck h
    refine fw_iast (q := (g7 8 0 4).toNatClampNeg) hx hb hE hok hF hS (b10 hn) (cm10 κ _) 0 rfl k9 rfl dX0_add_27 (fun H locs hF hS => ?_)
    obtain ⟨g10, e11, h⟩ := ltm_e h
    rw [e11] at hF
    refine lv_aload_n hx hb dX0_add_28 rfl (lv_at hl 0 rfl) ?_
    refine fw_get (C := RX0) (T := TX0) (N := 5) (ci := 0) (v := .ref (fa (cφ κ) 11 0)) hx hb hL0 hown hE hF (b8 hn) (cm8 κ _ _) rfl 2 (by decide) kw4 rfl dX0_add_29 ?_
    refine lv_aload_n hx hb dX0_add_32 rfl (lv_at hl 0 rfl) ?_
    refine fw_get (C := RX0) (T := TX0) (N := 5) (ci := 0) (v := .int (g10 8 0 4)) hx hb hL0 hown hE hF (b8 hn) (cm8 κ _ _) rfl 4 (by decide) kw2 rfl dX0_add_33 ?_
    refine lv_iload_n hx hb dX0_add_36 rfl (lv_at hl 3 rfl) ?_
    obtain ⟨k12, h⟩ := ck h
    refine fw_iast (q := (g10 8 0 4).toNatClampNeg) hx hb hE hok hF hS (b11 hn) (cm11 κ _) 0 rfl k12 rfl dX0_add_37 (fun H locs hF hS => ?_)
    obtain ⟨g13, e14, h⟩ := ltm_e h
    rw [e14] at hF
    refine lv_aload_n hx hb dX0_add_38 rfl (lv_at hl 0 rfl) ?_
    refine fw_get (C := RX0) (T := TX0) (N := 5) (ci := 0) (v := .ref (fa (cφ κ) 12 0)) hx hb hL0 hown hE hF (b8 hn) (cm8 κ _ _) rfl 3 (by decide) kw5 rfl dX0_add_39 ?_
    refine lv_aload_n hx hb dX0_add_42 rfl (lv_at hl 0 rfl) ?_
    refine fw_get (C := RX0) (T := TX0) (N := 5) (ci := 0) (v := .int (g13 8 0 4)) hx hb hL0 hown hE hF (b8 hn) (cm8 κ _ _) rfl 4 (by decide) kw2 rfl dX0_add_43 ?_
    refine lv_iload hx hb dX0_add_46 (lv_at hl 4 rfl) ?_
    obtain ⟨k15, h⟩ := ck h
    refine fw_iast (q := (g13 8 0 4).toNatClampNeg) hx hb hE hok hF hS (b12 hn) (cm12 κ _) 0 rfl k15 rfl dX0_add_48 (fun H locs hF hS => ?_)
    obtain ⟨g16, e17, h⟩ := ltm_e h
    rw [e17] at hF
    refine lv_aload_n hx hb dX0_add_49 rfl (lv_at hl 0 rfl) ?_
    refine lv_dup hx hb dX0_add_50 rfl ?_
    refine fw_get (C := RX0) (T := TX0) (N := 5) (ci := 0) (v := .int (g16 8 0 4)) hx hb hL0 hown hE hF (b8 hn) (cm8 κ _ _) rfl 4 (by decide) kw2 rfl dX0_add_51 ?_
    refine lv_iconst (v := (1 : Int32)) hx hb dX0_add_54 (by decide) ?_
    refine lv_iadd hx hb dX0_add_55 ?_
    refine fw_put (C := RX0) (T := TX0) (N := 5) (ci := 0) (ty := .int) (v := .int ((g16 8 0 4) + ((1 : Int32)))) (r := upd (g16 8 0) 4 ((g16 8 0 4) + ((1 : Int32)))) hx hb hL0 tyX0 tyX0_ok nmX0 hown hE hok hF hS (b8 hn) (cm8 κ _ _) rfl 4 (by decide) kw2 rfl (tyX0_ok 4 (by decide)) rfl rfl (Nat.le_of_ble_eq_true rfl) rfl dX0_add_56 (fun H locs hF hS => ?_)
    obtain ⟨g18, e19, h⟩ := ltm_e h
    rw [e19] at hF
    exact fw_vret hx hb hr hlk h hF hS dX0_add_59
  · have h := iff0 h c5
    exact fw_vret hx hb hr hlk h hF hS dX0_add_7
def m_X0_dropAt (g : Mem) (a0 : Int32) : Option (Int32 × Mem) := (if a0 < 0 then some (0, g) else (if a0 < (g 8 0 4) then ltm (upr g 8 0 (upd (g 8 0) 4 ((g 8 0 4) - ((1 : Int32))))) (fun g3 => if (a0 + ((1 : Int32)) < 0 ∨ a0 < 0 ∨ (g3 8 0 4) - a0 < 0 ∨ 64 < (a0 + ((1 : Int32))).toNatClampNeg + ((g3 8 0 4) - a0).toNatClampNeg ∨ 64 < a0.toNatClampNeg + ((g3 8 0 4) - a0).toNatClampNeg) then none else ltm (upr g3 9 0 (va_cpy (g3 9 0) (g3 9 0) (a0 + ((1 : Int32))).toNatClampNeg a0.toNatClampNeg ((g3 8 0 4) - a0).toNatClampNeg)) (fun g6 => if (a0 + ((1 : Int32)) < 0 ∨ a0 < 0 ∨ (g3 8 0 4) - a0 < 0 ∨ 64 < (a0 + ((1 : Int32))).toNatClampNeg + ((g3 8 0 4) - a0).toNatClampNeg ∨ 64 < a0.toNatClampNeg + ((g3 8 0 4) - a0).toNatClampNeg) then none else ltm (upr g6 10 0 (va_cpy (g6 10 0) (g6 10 0) (a0 + ((1 : Int32))).toNatClampNeg a0.toNatClampNeg ((g3 8 0 4) - a0).toNatClampNeg)) (fun g9 => if (a0 + ((1 : Int32)) < 0 ∨ a0 < 0 ∨ (g3 8 0 4) - a0 < 0 ∨ 64 < (a0 + ((1 : Int32))).toNatClampNeg + ((g3 8 0 4) - a0).toNatClampNeg ∨ 64 < a0.toNatClampNeg + ((g3 8 0 4) - a0).toNatClampNeg) then none else ltm (upr g9 11 0 (va_cpy (g9 11 0) (g9 11 0) (a0 + ((1 : Int32))).toNatClampNeg a0.toNatClampNeg ((g3 8 0 4) - a0).toNatClampNeg)) (fun g12 => if (a0 + ((1 : Int32)) < 0 ∨ a0 < 0 ∨ (g3 8 0 4) - a0 < 0 ∨ 64 < (a0 + ((1 : Int32))).toNatClampNeg + ((g3 8 0 4) - a0).toNatClampNeg ∨ 64 < a0.toNatClampNeg + ((g3 8 0 4) - a0).toNatClampNeg) then none else ltm (upr g12 12 0 (va_cpy (g12 12 0) (g12 12 0) (a0 + ((1 : Int32))).toNatClampNeg a0.toNatClampNeg ((g3 8 0 4) - a0).toNatClampNeg)) (fun g15 => some (0, g15)))))) else some (0, g)))
set_option maxHeartbeats 4000000 in
set_option maxRecDepth 100000 in
theorem c_X0_dropAt (l : Launch) {κ : Cx} (hok : fok (cφ κ)) (hn : 1 ≤ cn κ)  {g : Mem} {a0 : Int32} {u : Int32 × Mem} (h : m_X0_dropAt g a0 = some u) : fM l (cφ κ) yX0_dropAt wsX0_dropAt 1 18 [.ref (fa (cφ κ) 8 0), .int a0] g none u.2 := by
  refine fM.of (cc := cX0_dropAt) (maxL := 3) (ret := none) [(0, .ref (fa (cφ κ) 8 0)), (1, .int a0)] (by decide) rfl (Nat.le_of_ble_eq_true rfl) rfl (fun p e s m below meth c ls hx hb hr hml hown hts hlk hE hF hS hl => ?_)
  replace hown : s.vm.findClass RX0 = some m.cls := hown
  have hL0 : ∀ w ∈ u_ws RX0 TX0 5, w.before ([.ref (fa (cφ κ) 8 0), .int a0] : List Value).toArray s = true := fun w hw => hts w (by
    unfold wsX0_dropAt
    simp only [List.mem_cons, List.mem_append]
    exact Or.inr (Or.inr hw))
  have kw1 := hts (.fieldLink RX0 24 "MeshLamps$Air" "size" "I") (List.mem_of_getElem? (i := 1) rfl)
  have kw2 := hts (.fieldLink RX0 9 "MeshLamps$Air" "speaker" "[I") (List.mem_of_getElem? (i := 2) rfl)
  have kw3 := hts (.methodLink RX0 32 arraycopyName) (List.mem_of_getElem? (i := 3) rfl)
  have kw4 := hts (.native arraycopyName) (List.mem_of_getElem? (i := 4) rfl)
  have kw5 := hts (.static arraycopyName) (List.mem_of_getElem? (i := 5) rfl)
  have kw6 := hts (.initialized "java/lang/System") (List.mem_of_getElem? (i := 6) rfl)
  have kw7 := hts (.fieldLink RX0 15 "MeshLamps$Air" "tick" "[I") (List.mem_of_getElem? (i := 7) rfl)
  have kw8 := hts (.fieldLink RX0 18 "MeshLamps$Air" "letter" "[I") (List.mem_of_getElem? (i := 8) rfl)
  have kw9 := hts (.fieldLink RX0 21 "MeshLamps$Air" "steps" "[I") (List.mem_of_getElem? (i := 9) rfl)
  unfold m_X0_dropAt at h
  refine lv_iload_n hx hb dX0_dropAt_0 rfl (lv_at hl 1 rfl) ?_
  refine lv_if_lt (tgt := 12) hx hb dX0_dropAt_1 (by decide) (fun c1 => ?_) (fun c1 => ?_)
  · have h := ift h c1
    exact fw_vret hx hb hr hlk h hF hS dX0_dropAt_12
  · have h := iff0 h c1
    refine lv_iload_n hx hb dX0_dropAt_4 rfl (lv_at hl 1 rfl) ?_
    refine lv_aload_n hx hb dX0_dropAt_5 rfl (lv_at hl 0 rfl) ?_
    refine fw_get (C := RX0) (T := TX0) (N := 5) (ci := 0) (v := .int (g 8 0 4)) hx hb hL0 hown hE hF (b8 hn) (cm8 κ _ _) rfl 4 (by decide) kw1 rfl dX0_dropAt_6 ?_
    refine lv_icmp_lt (tgt := 13) hx hb dX0_dropAt_9 (by decide) (fun c2 => ?_) (fun c2 => ?_)
    · have h := ift h c2
      refine lv_aload_n hx hb dX0_dropAt_13 rfl (lv_at hl 0 rfl) ?_
      refine lv_dup hx hb dX0_dropAt_14 rfl ?_
      refine fw_get (C := RX0) (T := TX0) (N := 5) (ci := 0) (v := .int (g 8 0 4)) hx hb hL0 hown hE hF (b8 hn) (cm8 κ _ _) rfl 4 (by decide) kw1 rfl dX0_dropAt_15 ?_
      refine lv_iconst (v := (1 : Int32)) hx hb dX0_dropAt_18 (by decide) ?_
      refine lv_isub hx hb dX0_dropAt_19 ?_
      refine fw_put (C := RX0) (T := TX0) (N := 5) (ci := 0) (ty := .int) (v := .int ((g 8 0 4) - ((1 : Int32)))) (r := upd (g 8 0) 4 ((g 8 0 4) - ((1 : Int32)))) hx hb hL0 tyX0 tyX0_ok nmX0 hown hE hok hF hS (b8 hn) (cm8 κ _ _) rfl 4 (by decide) kw1 rfl (tyX0_ok 4 (by decide)) rfl rfl (Nat.le_of_ble_eq_true rfl) rfl dX0_dropAt_20 (fun H locs hF hS => ?_)
      obtain ⟨g3, e4, h⟩ := ltm_e h
      rw [e4] at hF
      refine lv_aload_n hx hb dX0_dropAt_23 rfl (lv_at hl 0 rfl) ?_
      refine fw_get (C := RX0) (T := TX0) (N := 5) (ci := 0) (v := .int (g3 8 0 4)) hx hb hL0 hown hE hF (b8 hn) (cm8 κ _ _) rfl 4 (by decide) kw1 rfl dX0_dropAt_24 ?_
      refine lv_iload_n hx hb dX0_dropAt_27 rfl (lv_at hl 1 rfl) ?_
      refine lv_isub hx hb dX0_dropAt_28 ?_
      refine lv_istore_n (lv' := [(2, .int ((g3 8 0 4) - a0)), (0, .ref (fa (cφ κ) 8 0)), (1, .int a0)]) hx hb dX0_dropAt_29 rfl hl (by decide) rfl (fun ls hl => ?_)
      refine lv_aload_n hx hb dX0_dropAt_30 rfl (lv_at hl 1 rfl) ?_
      refine fw_get (C := RX0) (T := TX0) (N := 5) (ci := 0) (v := .ref (fa (cφ κ) 9 0)) hx hb hL0 hown hE hF (b8 hn) (cm8 κ _ _) rfl 0 (by decide) kw2 rfl dX0_dropAt_31 ?_
      refine lv_iload_n hx hb dX0_dropAt_34 rfl (lv_at hl 2 rfl) ?_
      refine lv_iconst (v := (1 : Int32)) hx hb dX0_dropAt_35 (by decide) ?_
      refine lv_iadd hx hb dX0_dropAt_36 ?_
      refine lv_aload_n hx hb dX0_dropAt_37 rfl (lv_at hl 1 rfl) ?_
      refine fw_get (C := RX0) (T := TX0) (N := 5) (ci := 0) (v := .ref (fa (cφ κ) 9 0)) hx hb hL0 hown hE hF (b8 hn) (cm8 κ _ _) rfl 0 (by decide) kw2 rfl dX0_dropAt_38 ?_
      refine lv_iload_n hx hb dX0_dropAt_41 rfl (lv_at hl 2 rfl) ?_
      refine lv_iload_n hx hb dX0_dropAt_42 rfl (lv_at hl 0 rfl) ?_
      obtain ⟨k5, h⟩ := ck h
      refine fw_copy (rest := []) hx hb (hml.trans hl.1.symm) hown kw3 kw4 kw5 kw6 hE hok hF hS (b9 hn) (b9 hn) (cm9 κ _) (cm9 κ _) 0 0 rfl rfl k5 (Nat.le_of_ble_eq_true rfl) (Nat.le_of_ble_eq_true rfl) dX0_dropAt_43 (fun H locs hF hS => ?_)
      obtain ⟨g6, e7, h⟩ := ltm_e h
      rw [e7] at hF
      refine lv_aload_n hx hb dX0_dropAt_46 rfl (lv_at hl 1 rfl) ?_
      refine fw_get (C := RX0) (T := TX0) (N := 5) (ci := 0) (v := .ref (fa (cφ κ) 10 0)) hx hb hL0 hown hE hF (b8 hn) (cm8 κ _ _) rfl 1 (by decide) kw7 rfl dX0_dropAt_47 ?_
      refine lv_iload_n hx hb dX0_dropAt_50 rfl (lv_at hl 2 rfl) ?_
      refine lv_iconst (v := (1 : Int32)) hx hb dX0_dropAt_51 (by decide) ?_
      refine lv_iadd hx hb dX0_dropAt_52 ?_
      refine lv_aload_n hx hb dX0_dropAt_53 rfl (lv_at hl 1 rfl) ?_
      refine fw_get (C := RX0) (T := TX0) (N := 5) (ci := 0) (v := .ref (fa (cφ κ) 10 0)) hx hb hL0 hown hE hF (b8 hn) (cm8 κ _ _) rfl 1 (by decide) kw7 rfl dX0_dropAt_54 ?_
      refine lv_iload_n hx hb dX0_dropAt_57 rfl (lv_at hl 2 rfl) ?_
      refine lv_iload_n hx hb dX0_dropAt_58 rfl (lv_at hl 0 rfl) ?_
      obtain ⟨k8, h⟩ := ck h
      refine fw_copy (rest := []) hx hb (hml.trans hl.1.symm) hown kw3 kw4 kw5 kw6 hE hok hF hS (b10 hn) (b10 hn) (cm10 κ _) (cm10 κ _) 0 0 rfl rfl k8 (Nat.le_of_ble_eq_true rfl) (Nat.le_of_ble_eq_true rfl) dX0_dropAt_59 (fun H locs hF hS => ?_)
      obtain ⟨g9, e10, h⟩ := ltm_e h
      rw [e10] at hF
      refine lv_aload_n hx hb dX0_dropAt_62 rfl (lv_at hl 1 rfl) ?_
      refine fw_get (C := RX0) (T := TX0) (N := 5) (ci := 0) (v := .ref (fa (cφ κ) 11 0)) hx hb hL0 hown hE hF (b8 hn) (cm8 κ _ _) rfl 2 (by decide) kw8 rfl dX0_dropAt_63 ?_
      refine lv_iload_n hx hb dX0_dropAt_66 rfl (lv_at hl 2 rfl) ?_
      refine lv_iconst (v := (1 : Int32)) hx hb dX0_dropAt_67 (by decide) ?_
      refine lv_iadd hx hb dX0_dropAt_68 ?_
      refine lv_aload_n hx hb dX0_dropAt_69 rfl (lv_at hl 1 rfl) ?_
      refine fw_get (C := RX0) (T := TX0) (N := 5) (ci := 0) (v := .ref (fa (cφ κ) 11 0)) hx hb hL0 hown hE hF (b8 hn) (cm8 κ _ _) rfl 2 (by decide) kw8 rfl dX0_dropAt_70 ?_
      refine lv_iload_n hx hb dX0_dropAt_73 rfl (lv_at hl 2 rfl) ?_
      refine lv_iload_n hx hb dX0_dropAt_74 rfl (lv_at hl 0 rfl) ?_
      obtain ⟨k11, h⟩ := ck h
      refine fw_copy (rest := []) hx hb (hml.trans hl.1.symm) hown kw3 kw4 kw5 kw6 hE hok hF hS (b11 hn) (b11 hn) (cm11 κ _) (cm11 κ _) 0 0 rfl rfl k11 (Nat.le_of_ble_eq_true rfl) (Nat.le_of_ble_eq_true rfl) dX0_dropAt_75 (fun H locs hF hS => ?_)
      obtain ⟨g12, e13, h⟩ := ltm_e h
      rw [e13] at hF
      refine lv_aload_n hx hb dX0_dropAt_78 rfl (lv_at hl 1 rfl) ?_
      refine fw_get (C := RX0) (T := TX0) (N := 5) (ci := 0) (v := .ref (fa (cφ κ) 12 0)) hx hb hL0 hown hE hF (b8 hn) (cm8 κ _ _) rfl 3 (by decide) kw9 rfl dX0_dropAt_79 ?_
      refine lv_iload_n hx hb dX0_dropAt_82 rfl (lv_at hl 2 rfl) ?_
      refine lv_iconst (v := (1 : Int32)) hx hb dX0_dropAt_83 (by decide) ?_
      refine lv_iadd hx hb dX0_dropAt_84 ?_
      refine lv_aload_n hx hb dX0_dropAt_85 rfl (lv_at hl 1 rfl) ?_
      refine fw_get (C := RX0) (T := TX0) (N := 5) (ci := 0) (v := .ref (fa (cφ κ) 12 0)) hx hb hL0 hown hE hF (b8 hn) (cm8 κ _ _) rfl 3 (by decide) kw9 rfl dX0_dropAt_86 ?_
      refine lv_iload_n hx hb dX0_dropAt_89 rfl (lv_at hl 2 rfl) ?_
      refine lv_iload_n hx hb dX0_dropAt_90 rfl (lv_at hl 0 rfl) ?_
      obtain ⟨k14, h⟩ := ck h
      refine fw_copy (rest := []) hx hb (hml.trans hl.1.symm) hown kw3 kw4 kw5 kw6 hE hok hF hS (b12 hn) (b12 hn) (cm12 κ _) (cm12 κ _) 0 0 rfl rfl k14 (Nat.le_of_ble_eq_true rfl) (Nat.le_of_ble_eq_true rfl) dX0_dropAt_91 (fun H locs hF hS => ?_)
      obtain ⟨g15, e16, h⟩ := ltm_e h
      rw [e16] at hF
      exact fw_vret hx hb hr hlk h hF hS dX0_dropAt_94
    · have h := iff0 h c2
      exact fw_vret hx hb hr hlk h hF hS dX0_dropAt_12
def m_X2_write (g : Mem) (a0 a1 a2 a3 : Int32) : Option (Int32 × Mem) := if (a0 < 0 ∨ 2000 ≤ a0.toNatClampNeg) then none else ltm (upr g 5 0 (upd (g 5 0) a0.toNatClampNeg a1)) (fun g2 => if (a0 < 0 ∨ 2000 ≤ a0.toNatClampNeg) then none else ltm (upr g2 6 0 (upd (g2 6 0) a0.toNatClampNeg a2)) (fun g5 => if (a0 < 0 ∨ 2000 ≤ a0.toNatClampNeg) then none else ltm (upr g5 7 0 (upd (g5 7 0) a0.toNatClampNeg a3)) (fun g8 => some (0, g8))))
set_option maxHeartbeats 4000000 in
set_option maxRecDepth 100000 in
theorem c_X2_write (l : Launch) {κ : Cx} (hok : fok (cφ κ)) (hn : 1 ≤ cn κ)  {g : Mem} {a0 a1 a2 a3 : Int32} {u : Int32 × Mem} (h : m_X2_write g a0 a1 a2 a3 = some u) : fM l (cφ κ) yX2_write wsX2_write 0 0 [.ref (fa (cφ κ) 4 0), .int a0, .int a1, .int a2, .int a3] g none u.2 := by
  refine fM.of (cc := cX2_write) (maxL := 5) (ret := none) [(0, .ref (fa (cφ κ) 4 0)), (1, .int a0), (2, .int a1), (3, .int a2), (4, .int a3)] (by decide) rfl (Nat.le_of_ble_eq_true rfl) rfl (fun p e s m below meth c ls hx hb hr hml hown hts hlk hE hF hS hl => ?_)
  replace hown : s.vm.findClass RX2 = some m.cls := hown
  have hL2 : ∀ w ∈ u_ws RX2 TX2 3, w.before ([.ref (fa (cφ κ) 4 0), .int a0, .int a1, .int a2, .int a3] : List Value).toArray s = true := fun w hw => hts w (by
    unfold wsX2_write
    simp only [List.mem_cons, List.mem_append]
    exact Or.inr (Or.inr hw))
  have kw1 := hts (.fieldLink RX2 11 "MeshLamps$Letters" "key" "[I") (List.mem_of_getElem? (i := 1) rfl)
  have kw2 := hts (.fieldLink RX2 15 "MeshLamps$Letters" "aim" "[I") (List.mem_of_getElem? (i := 2) rfl)
  have kw3 := hts (.fieldLink RX2 18 "MeshLamps$Letters" "value" "[I") (List.mem_of_getElem? (i := 3) rfl)
  unfold m_X2_write at h
  refine lv_aload_n hx hb dX2_write_0 rfl (lv_at hl 0 rfl) ?_
  refine fw_get (C := RX2) (T := TX2) (N := 3) (ci := 2) (v := .ref (fa (cφ κ) 5 0)) hx hb hL2 hown hE hF (b4 hn) (cm4 κ _ _) rfl 0 (by decide) kw1 rfl dX2_write_1 ?_
  refine lv_iload_n hx hb dX2_write_4 rfl (lv_at hl 1 rfl) ?_
  refine lv_iload_n hx hb dX2_write_5 rfl (lv_at hl 2 rfl) ?_
  obtain ⟨k1, h⟩ := ck h
  refine fw_iast (q := a0.toNatClampNeg) hx hb hE hok hF hS (b5 hn) (cm5 κ _) 0 rfl k1 rfl dX2_write_6 (fun H locs hF hS => ?_)
  obtain ⟨g2, e3, h⟩ := ltm_e h
  rw [e3] at hF
  refine lv_aload_n hx hb dX2_write_7 rfl (lv_at hl 0 rfl) ?_
  refine fw_get (C := RX2) (T := TX2) (N := 3) (ci := 2) (v := .ref (fa (cφ κ) 6 0)) hx hb hL2 hown hE hF (b4 hn) (cm4 κ _ _) rfl 1 (by decide) kw2 rfl dX2_write_8 ?_
  refine lv_iload_n hx hb dX2_write_11 rfl (lv_at hl 1 rfl) ?_
  refine lv_iload_n hx hb dX2_write_12 rfl (lv_at hl 3 rfl) ?_
  obtain ⟨k4, h⟩ := ck h
  refine fw_iast (q := a0.toNatClampNeg) hx hb hE hok hF hS (b6 hn) (cm6 κ _) 0 rfl k4 rfl dX2_write_13 (fun H locs hF hS => ?_)
  obtain ⟨g5, e6, h⟩ := ltm_e h
  rw [e6] at hF
  refine lv_aload_n hx hb dX2_write_14 rfl (lv_at hl 0 rfl) ?_
  refine fw_get (C := RX2) (T := TX2) (N := 3) (ci := 2) (v := .ref (fa (cφ κ) 7 0)) hx hb hL2 hown hE hF (b4 hn) (cm4 κ _ _) rfl 2 (by decide) kw3 rfl dX2_write_15 ?_
  refine lv_iload_n hx hb dX2_write_18 rfl (lv_at hl 1 rfl) ?_
  refine lv_iload hx hb dX2_write_19 (lv_at hl 4 rfl) ?_
  obtain ⟨k7, h⟩ := ck h
  refine fw_iast (q := a0.toNatClampNeg) hx hb hE hok hF hS (b7 hn) (cm7 κ _) 0 rfl k7 rfl dX2_write_21 (fun H locs hF hS => ?_)
  obtain ⟨g8, e9, h⟩ := ltm_e h
  rw [e9] at hF
  exact fw_vret hx hb hr hlk h hF hS dX2_write_22
def st_X3_holdsm_2 (F : Nat) (K : Mem → Int32 → Int32 → Option (Int32 × Mem)) (i0 : Nat) (g : Mem) (x1 x2 : Int32) : Option (Int32 × Mem) := (if (g 16 i0 1) ≤ x2 then some ((0 : Int32), g) else if (x2 < 0 ∨ 8 ≤ x2.toNatClampNeg) then none else (if (g 17 i0 (x2.toNatClampNeg)) = x1 then some ((1 : Int32), g) else K g x1 (x2 + (1 : Int32))))
def lp_X3_holdsm_2 (F : Nat) : Nat → Nat → Mem → Int32 → Int32 → Option (Int32 × Mem)
  | 0, _, _, _, _ => none
  | f + 1, i0, g, x1, x2 => st_X3_holdsm_2 F (lp_X3_holdsm_2 F f i0) i0 g x1 x2
def m_X3_holdsm (F : Nat) (i0 : Nat) (g : Mem) (a0 : Int32) : Option (Int32 × Mem) := lp_X3_holdsm_2 F F i0 g a0 ((0 : Int32))
set_option maxHeartbeats 4000000 in
set_option maxRecDepth 100000 in
theorem c_X3_holdsm (l : Launch) {κ : Cx} (hok : fok (cφ κ)) (hn : 1 ≤ cn κ) {i0 : Nat} (h0 : i0 < 10) {F : Nat} {g : Mem} {a0 : Int32} {u : Int32 × Mem} (h : m_X3_holdsm F i0 g a0 = some u) : fM l (cφ κ) yX3_holds wsX3_holds 0 0 [.ref (fa (cφ κ) 16 i0), .int a0] g (some (.int u.1)) u.2 := by
  refine fM.of (cc := cX3_holds) (maxL := 3) (ret := (some .boolean)) [(0, .ref (fa (cφ κ) 16 i0)), (1, .int a0)] (by decide) rfl (Nat.le_of_ble_eq_true rfl) rfl (fun p e s m below meth c ls hx hb hr hml hown hts hlk hE hF hS hl => ?_)
  replace hown : s.vm.findClass RX3 = some m.cls := hown
  have hL3 : ∀ w ∈ u_ws RX3 TX3 2, w.before ([.ref (fa (cφ κ) 16 i0), .int a0] : List Value).toArray s = true := fun w hw => hts w (by
    unfold wsX3_holds
    simp only [List.mem_cons, List.mem_append]
    exact Or.inr (Or.inr hw))
  have kw1 := hts (.fieldLink RX3 7 "MeshLamps$Line" "size" "I") (List.mem_of_getElem? (i := 1) rfl)
  have kw2 := hts (.fieldLink RX3 19 "MeshLamps$Line" "letters" "[I") (List.mem_of_getElem? (i := 2) rfl)
  unfold m_X3_holdsm at h
  refine lv_iconst (v := (0 : Int32)) hx hb dX3_holds_0 (by decide) ?_
  refine lv_istore_n (lv' := [(2, .int ((0 : Int32))), (0, .ref (fa (cφ κ) 16 i0)), (1, .int a0)]) hx hb dX3_holds_1 rfl hl (by decide) rfl (fun ls hl => ?_)
  have LOOP2 : ∀ (f : Nat) (g : Mem) (x1 x2 : Int32) (H : Heap) (locs : List Loc) (ls : Array Slot), lp_X3_holdsm_2 F f i0 g x1 x2 = some u → fw (cφ κ) g H → va_S (fA (cφ κ)) s.heap H locs → lv_has ls 3 [(0, .ref (fa (cφ κ) 16 i0)), (1, .int x1), (2, .int x2)] → W p l e ({ frames := 0, cells := 0, slots := 0, locals := 0 }) s m ([.ref (fa (cφ κ) 16 i0), .int a0] : List Value).toArray below meth c H locs 0 0 (MQ below (fQ (cφ κ) (some (.int u.1)) u.2) ([.ref (fa (cφ κ) 16 i0), .int a0] : List Value).toArray s 0 0 (fA (cφ κ))) (F0 m 2 ls []) := by
    intro f
    induction f with
    | zero => intro g x1 x2 H locs ls h hF hS hl; cases h
    | succ f ih =>
      intro g x1 x2 H locs ls h hF hS hl
      replace h : st_X3_holdsm_2 F (lp_X3_holdsm_2 F f i0) i0 g x1 x2 = some u := h
      unfold st_X3_holdsm_2 at h
      refine lv_iload_n hx hb dX3_holds_2 rfl (lv_at hl 2 rfl) ?_
      refine lv_aload_n hx hb dX3_holds_3 rfl (lv_at hl 0 rfl) ?_
      refine fw_get (C := RX3) (T := TX3) (N := 2) (ci := 3) (v := .int (g 16 i0 1)) hx hb hL3 hown hE hF (b16 hn h0) (cm16 κ _ _) rfl 1 (by decide) kw1 rfl dX3_holds_4 ?_
      refine lv_icmp_ge (tgt := 28) hx hb dX3_holds_7 (by decide) (fun c1 => ?_) (fun c1 => ?_)
      · have h := ift h c1
        refine lv_iconst (v := (0 : Int32)) hx hb dX3_holds_28 (by decide) ?_
        exact fw_zret hx hb hr hlk rfl h hF hS dX3_holds_29
      · have h := iff0 h c1
        refine lv_aload_n hx hb dX3_holds_10 rfl (lv_at hl 0 rfl) ?_
        refine fw_get (C := RX3) (T := TX3) (N := 2) (ci := 3) (v := .ref (fa (cφ κ) 17 i0)) hx hb hL3 hown hE hF (b16 hn h0) (cm16 κ _ _) rfl 0 (by decide) kw2 rfl dX3_holds_11 ?_
        refine lv_iload_n hx hb dX3_holds_14 rfl (lv_at hl 2 rfl) ?_
        obtain ⟨k2, h⟩ := ck h
        refine fw_iald (q := x2.toNatClampNeg) hx hb hE hF (b17 hn h0) (cm17 κ _) 0 rfl k2 rfl dX3_holds_15 ?_
        refine lv_iload_n hx hb dX3_holds_16 rfl (lv_at hl 1 rfl) ?_
        refine lv_icmp_ne (tgt := 22) hx hb dX3_holds_17 (by decide) (fun c3 => ?_) (fun c3 => ?_)
        · have h := iff0 h c3
          refine lv_iinc (v := x2 + (1 : Int32)) (lv' := [(2, .int (x2 + (1 : Int32))), (0, .ref (fa (cφ κ) 16 i0)), (1, .int x1)]) hx hb dX3_holds_22 hl (k := 2) rfl rfl (by decide) rfl (fun ls hl => ?_)
          refine lv_goto (tgt := 2) hx hb dX3_holds_25 (by decide) ?_
          exact ih g x1 (x2 + (1 : Int32)) H locs ls h hF hS (lv_sub hl [1, 2, 0] rfl)
        · have h := ift h c3
          refine lv_iconst (v := (1 : Int32)) hx hb dX3_holds_20 (by decide) ?_
          exact fw_zret hx hb hr hlk rfl h hF hS dX3_holds_21
  exact LOOP2 F g a0 ((0 : Int32)) _ _ ls h hF hS (lv_sub hl [1, 2, 0] rfl)
def st_X3_dropOldestm_25 (F : Nat) (K : Mem → Int32 → Int32 → Int32 → Option (Int32 × Mem)) (i0 : Nat) (g : Mem) (x2 x3 x4 : Int32) : Option (Int32 × Mem) := (if x2 ≤ x4 then ltm (upr g 16 i0 (upd (g 16 i0) 1 x2)) (fun g4 => some (0, g4)) else if (x4 + x3 < 0 ∨ 8 ≤ (x4 + x3).toNatClampNeg) then none else if (x4 < 0 ∨ 8 ≤ x4.toNatClampNeg) then none else ltm (upr g 17 i0 (upd (g 17 i0) x4.toNatClampNeg (g 17 i0 ((x4 + x3).toNatClampNeg)))) (fun g8 => K g8 x2 x3 (x4 + (1 : Int32))))
def lp_X3_dropOldestm_25 (F : Nat) : Nat → Nat → Mem → Int32 → Int32 → Int32 → Option (Int32 × Mem)
  | 0, _, _, _, _, _ => none
  | f + 1, i0, g, x2, x3, x4 => st_X3_dropOldestm_25 F (lp_X3_dropOldestm_25 F f i0) i0 g x2 x3 x4
def m_X3_dropOldestm (F : Nat) (i0 : Nat) (g : Mem) (a0 : Int32) : Option (Int32 × Mem) := (if a0 ≤ 0 then (if 0 < ((g 16 i0 1) - ((0 : Int32))) then lp_X3_dropOldestm_25 F F i0 g ((0 : Int32)) ((g 16 i0 1) - ((0 : Int32))) ((0 : Int32)) else some (0, g)) else (if 0 < ((g 16 i0 1) - a0) then lp_X3_dropOldestm_25 F F i0 g a0 ((g 16 i0 1) - a0) ((0 : Int32)) else some (0, g)))
set_option maxHeartbeats 4000000 in
set_option maxRecDepth 100000 in
theorem c_X3_dropOldestm (l : Launch) {κ : Cx} (hok : fok (cφ κ)) (hn : 1 ≤ cn κ) {i0 : Nat} (h0 : i0 < 10) {F : Nat} {g : Mem} {a0 : Int32} {u : Int32 × Mem} (h : m_X3_dropOldestm F i0 g a0 = some u) : fM l (cφ κ) yX3_dropOldest wsX3_dropOldest 0 0 [.ref (fa (cφ κ) 16 i0), .int a0] g none u.2 := by
  refine fM.of (cc := cX3_dropOldest) (maxL := 5) (ret := none) [(0, .ref (fa (cφ κ) 16 i0)), (1, .int a0)] (by decide) rfl (Nat.le_of_ble_eq_true rfl) rfl (fun p e s m below meth c ls hx hb hr hml hown hts hlk hE hF hS hl => ?_)
  replace hown : s.vm.findClass RX3 = some m.cls := hown
  have hL3 : ∀ w ∈ u_ws RX3 TX3 2, w.before ([.ref (fa (cφ κ) 16 i0), .int a0] : List Value).toArray s = true := fun w hw => hts w (by
    unfold wsX3_dropOldest
    simp only [List.mem_cons, List.mem_append]
    exact Or.inr (Or.inr hw))
  have kw1 := hts (.fieldLink RX3 7 "MeshLamps$Line" "size" "I") (List.mem_of_getElem? (i := 1) rfl)
  have kw2 := hts (.fieldLink RX3 19 "MeshLamps$Line" "letters" "[I") (List.mem_of_getElem? (i := 2) rfl)
  unfold m_X3_dropOldestm at h
  have LOOP25 : ∀ (f : Nat) (g : Mem) (x2 x3 x4 : Int32) (H : Heap) (locs : List Loc) (ls : Array Slot), lp_X3_dropOldestm_25 F f i0 g x2 x3 x4 = some u → fw (cφ κ) g H → va_S (fA (cφ κ)) s.heap H locs → lv_has ls 5 [(0, .ref (fa (cφ κ) 16 i0)), (2, .int x2), (3, .int x3), (4, .int x4)] → W p l e ({ frames := 0, cells := 0, slots := 0, locals := 0 }) s m ([.ref (fa (cφ κ) 16 i0), .int a0] : List Value).toArray below meth c H locs 0 0 (MQ below (fQ (cφ κ) none u.2) ([.ref (fa (cφ κ) 16 i0), .int a0] : List Value).toArray s 0 0 (fA (cφ κ))) (F0 m 25 ls []) := by
    intro f
    induction f with
    | zero => intro g x2 x3 x4 H locs ls h hF hS hl; cases h
    | succ f ih =>
      intro g x2 x3 x4 H locs ls h hF hS hl
      replace h : st_X3_dropOldestm_25 F (lp_X3_dropOldestm_25 F f i0) i0 g x2 x3 x4 = some u := h
      unfold st_X3_dropOldestm_25 at h
      refine lv_iload hx hb dX3_dropOldest_25 (lv_at hl 3 rfl) ?_
      refine lv_iload_n hx hb dX3_dropOldest_27 rfl (lv_at hl 1 rfl) ?_
      refine lv_icmp_ge (tgt := 53) hx hb dX3_dropOldest_28 (by decide) (fun c3 => ?_) (fun c3 => ?_)
      · have h := ift h c3
        refine lv_aload_n hx hb dX3_dropOldest_53 rfl (lv_at hl 0 rfl) ?_
        refine lv_iload_n hx hb dX3_dropOldest_54 rfl (lv_at hl 1 rfl) ?_
        refine fw_put (C := RX3) (T := TX3) (N := 2) (ci := 3) (ty := .int) (v := .int x2) (r := upd (g 16 i0) 1 x2) hx hb hL3 tyX3 tyX3_ok nmX3 hown hE hok hF hS (b16 hn h0) (cm16 κ _ _) rfl 1 (by decide) kw1 rfl (tyX3_ok 1 (by decide)) rfl rfl (Nat.le_of_ble_eq_true rfl) rfl dX3_dropOldest_55 (fun H locs hF hS => ?_)
        obtain ⟨g4, e5, h⟩ := ltm_e h
        rw [e5] at hF
        exact fw_vret hx hb hr hlk h hF hS dX3_dropOldest_58
      · have h := iff0 h c3
        refine lv_aload_n hx hb dX3_dropOldest_31 rfl (lv_at hl 0 rfl) ?_
        refine fw_get (C := RX3) (T := TX3) (N := 2) (ci := 3) (v := .ref (fa (cφ κ) 17 i0)) hx hb hL3 hown hE hF (b16 hn h0) (cm16 κ _ _) rfl 0 (by decide) kw2 rfl dX3_dropOldest_32 ?_
        refine lv_iload hx hb dX3_dropOldest_35 (lv_at hl 3 rfl) ?_
        refine lv_aload_n hx hb dX3_dropOldest_37 rfl (lv_at hl 0 rfl) ?_
        refine fw_get (C := RX3) (T := TX3) (N := 2) (ci := 3) (v := .ref (fa (cφ κ) 17 i0)) hx hb hL3 hown hE hF (b16 hn h0) (cm16 κ _ _) rfl 0 (by decide) kw2 rfl dX3_dropOldest_38 ?_
        refine lv_iload hx hb dX3_dropOldest_41 (lv_at hl 3 rfl) ?_
        refine lv_iload_n hx hb dX3_dropOldest_43 rfl (lv_at hl 2 rfl) ?_
        refine lv_iadd hx hb dX3_dropOldest_44 ?_
        obtain ⟨k6, h⟩ := ck h
        refine fw_iald (q := (x4 + x3).toNatClampNeg) hx hb hE hF (b17 hn h0) (cm17 κ _) 0 rfl k6 rfl dX3_dropOldest_45 ?_
        obtain ⟨k7, h⟩ := ck h
        refine fw_iast (q := x4.toNatClampNeg) hx hb hE hok hF hS (b17 hn h0) (cm17 κ _) 0 rfl k7 rfl dX3_dropOldest_46 (fun H locs hF hS => ?_)
        obtain ⟨g8, e9, h⟩ := ltm_e h
        rw [e9] at hF
        refine lv_iinc (v := x4 + (1 : Int32)) (lv' := [(4, .int (x4 + (1 : Int32))), (0, .ref (fa (cφ κ) 16 i0)), (2, .int x2), (3, .int x3)]) hx hb dX3_dropOldest_47 hl (k := 3) rfl rfl (by decide) rfl (fun ls hl => ?_)
        refine lv_goto (tgt := 25) hx hb dX3_dropOldest_50 (by decide) ?_
        exact ih g8 x2 x3 (x4 + (1 : Int32)) H locs ls h hF hS (lv_sub hl [1, 2, 3, 0] rfl)
  refine lv_iload_n hx hb dX3_dropOldest_0 rfl (lv_at hl 1 rfl) ?_
  refine lv_if_le (tgt := 8) hx hb dX3_dropOldest_1 (by decide) (fun c1 => ?_) (fun c1 => ?_)
  · have h := ift h c1
    refine lv_iconst (v := (0 : Int32)) hx hb dX3_dropOldest_8 (by decide) ?_
    refine lv_istore_n (lv' := [(2, .int ((0 : Int32))), (0, .ref (fa (cφ κ) 16 i0)), (1, .int a0)]) hx hb dX3_dropOldest_9 rfl hl (by decide) rfl (fun ls hl => ?_)
    refine lv_aload_n hx hb dX3_dropOldest_10 rfl (lv_at hl 1 rfl) ?_
    refine fw_get (C := RX3) (T := TX3) (N := 2) (ci := 3) (v := .int (g 16 i0 1)) hx hb hL3 hown hE hF (b16 hn h0) (cm16 κ _ _) rfl 1 (by decide) kw1 rfl dX3_dropOldest_11 ?_
    refine lv_iload_n hx hb dX3_dropOldest_14 rfl (lv_at hl 0 rfl) ?_
    refine lv_isub hx hb dX3_dropOldest_15 ?_
    refine lv_istore_n (lv' := [(3, .int ((g 16 i0 1) - ((0 : Int32)))), (2, .int ((0 : Int32))), (0, .ref (fa (cφ κ) 16 i0)), (1, .int a0)]) hx hb dX3_dropOldest_16 rfl hl (by decide) rfl (fun ls hl => ?_)
    refine lv_iload_n hx hb dX3_dropOldest_17 rfl (lv_at hl 0 rfl) ?_
    refine lv_if_gt (tgt := 22) hx hb dX3_dropOldest_18 (by decide) (fun c2 => ?_) (fun c2 => ?_)
    · have h := ift h c2
      refine lv_iconst (v := (0 : Int32)) hx hb dX3_dropOldest_22 (by decide) ?_
      refine lv_istore (lv' := [(4, .int ((0 : Int32))), (3, .int ((g 16 i0 1) - ((0 : Int32)))), (2, .int ((0 : Int32))), (0, .ref (fa (cφ κ) 16 i0)), (1, .int a0)]) hx hb dX3_dropOldest_23 hl (by decide) rfl (fun ls hl => ?_)
      exact LOOP25 F g ((0 : Int32)) ((g 16 i0 1) - ((0 : Int32))) ((0 : Int32)) _ _ ls h hF hS (lv_sub hl [3, 2, 1, 0] rfl)
    · have h := iff0 h c2
      exact fw_vret hx hb hr hlk h hF hS dX3_dropOldest_21
  · have h := iff0 h c1
    refine lv_iload_n hx hb dX3_dropOldest_4 rfl (lv_at hl 1 rfl) ?_
    refine lv_goto (tgt := 9) hx hb dX3_dropOldest_5 (by decide) ?_
    refine lv_istore_n (lv' := [(2, .int a0), (0, .ref (fa (cφ κ) 16 i0)), (1, .int a0)]) hx hb dX3_dropOldest_9 rfl hl (by decide) rfl (fun ls hl => ?_)
    refine lv_aload_n hx hb dX3_dropOldest_10 rfl (lv_at hl 1 rfl) ?_
    refine fw_get (C := RX3) (T := TX3) (N := 2) (ci := 3) (v := .int (g 16 i0 1)) hx hb hL3 hown hE hF (b16 hn h0) (cm16 κ _ _) rfl 1 (by decide) kw1 rfl dX3_dropOldest_11 ?_
    refine lv_iload_n hx hb dX3_dropOldest_14 rfl (lv_at hl 0 rfl) ?_
    refine lv_isub hx hb dX3_dropOldest_15 ?_
    refine lv_istore_n (lv' := [(3, .int ((g 16 i0 1) - a0)), (2, .int a0), (0, .ref (fa (cφ κ) 16 i0)), (1, .int a0)]) hx hb dX3_dropOldest_16 rfl hl (by decide) rfl (fun ls hl => ?_)
    refine lv_iload_n hx hb dX3_dropOldest_17 rfl (lv_at hl 0 rfl) ?_
    refine lv_if_gt (tgt := 22) hx hb dX3_dropOldest_18 (by decide) (fun c10 => ?_) (fun c10 => ?_)
    · have h := ift h c10
      refine lv_iconst (v := (0 : Int32)) hx hb dX3_dropOldest_22 (by decide) ?_
      refine lv_istore (lv' := [(4, .int ((0 : Int32))), (3, .int ((g 16 i0 1) - a0)), (2, .int a0), (0, .ref (fa (cφ κ) 16 i0)), (1, .int a0)]) hx hb dX3_dropOldest_23 hl (by decide) rfl (fun ls hl => ?_)
      exact LOOP25 F g a0 ((g 16 i0 1) - a0) ((0 : Int32)) _ _ ls h hF hS (lv_sub hl [3, 2, 1, 0] rfl)
    · have h := iff0 h c10
      exact fw_vret hx hb hr hlk h hF hS dX3_dropOldest_21
def m_X3_addm (F : Nat) (i0 : Nat) (g : Mem) (a0 a1 : Int32) : Option (Int32 × Mem) := (m_X3_dropOldestm F i0 g (a1 - ((1 : Int32)))).bind (fun (r2, g3) => (if a1 ≤ (g3 16 i0 1) then some (0, g3) else (if ((8 : Int32)) ≤ (g3 16 i0 1) then some (0, g3) else if (g3 16 i0 1 < 0 ∨ 8 ≤ (g3 16 i0 1).toNatClampNeg) then none else ltm (upr g3 17 i0 (upd (g3 17 i0) (g3 16 i0 1).toNatClampNeg a0)) (fun g8 => ltm (upr g8 16 i0 (upd (g8 16 i0) 1 ((g8 16 i0 1) + ((1 : Int32))))) (fun g10 => some (0, g10))))))
set_option maxHeartbeats 4000000 in
set_option maxRecDepth 100000 in
theorem c_X3_addm (l : Launch) {κ : Cx} (hok : fok (cφ κ)) (hn : 1 ≤ cn κ) {i0 : Nat} (h0 : i0 < 10) {F : Nat} {g : Mem} {a0 a1 : Int32} {u : Int32 × Mem} (h : m_X3_addm F i0 g a0 a1 = some u) : fM l (cφ κ) yX3_add wsX3_add 1 24 [.ref (fa (cφ κ) 16 i0), .int a0, .int a1] g none u.2 := by
  refine fM.of (cc := cX3_add) (maxL := 3) (ret := none) [(0, .ref (fa (cφ κ) 16 i0)), (1, .int a0), (2, .int a1)] (by decide) rfl (Nat.le_of_ble_eq_true rfl) rfl (fun p e s m below meth c ls hx hb hr hml hown hts hlk hE hF hS hl => ?_)
  replace hown : s.vm.findClass RX3 = some m.cls := hown
  have hL3 : ∀ w ∈ u_ws RX3 TX3 2, w.before ([.ref (fa (cφ κ) 16 i0), .int a0, .int a1] : List Value).toArray s = true := fun w hw => hts w (by
    unfold wsX3_add
    simp only [List.mem_cons, List.mem_append]
    exact Or.inr (Or.inr hw))
  have kw1 := hts (.fieldLink RX3 7 "MeshLamps$Line" "size" "I") (List.mem_of_getElem? (i := 1) rfl)
  have kw2 := hts (.fieldLink RX3 19 "MeshLamps$Line" "letters" "[I") (List.mem_of_getElem? (i := 2) rfl)
  unfold m_X3_addm at h
  refine lv_aload_n hx hb dX3_add_0 rfl (lv_at hl 0 rfl) ?_
  refine lv_iload_n hx hb dX3_add_1 rfl (lv_at hl 2 rfl) ?_
  refine lv_iconst (v := (1 : Int32)) hx hb dX3_add_2 (by decide) ?_
  refine lv_isub hx hb dX3_add_3 ?_
  obtain ⟨⟨r2, g3⟩, q1, h⟩ := bnd h
  try dsimp only at h
  refine fw_callv (va_runV (As := [.int (a1 - ((1 : Int32)))]) (rest := []) ⟨hx, hb, hml, hown, hts⟩ (c_X3_dropOldestm l hok hn h0 q1) (cwV 1 hts gX3_add_X3_dropOldest rfl rfl rfl qv_X3_dropOldest ⟨Nat.le_of_ble_eq_true rfl, Nat.le_of_ble_eq_true rfl⟩) (fw_preV hok hE hF (b16 hn h0) (cm16 κ _ _) rfl) rfl rfl hl.1 rfl (lv_room (Nat.le_of_ble_eq_true rfl)) dX3_add_4 ⟨Nat.le_refl _, Nat.le_refl _⟩) hS (fun H locs hF hS => ?_)
  refine lv_aload_n hx hb dX3_add_7 rfl (lv_at hl 0 rfl) ?_
  refine fw_get (C := RX3) (T := TX3) (N := 2) (ci := 3) (v := .int (g3 16 i0 1)) hx hb hL3 hown hE hF (b16 hn h0) (cm16 κ _ _) rfl 1 (by decide) kw1 rfl dX3_add_8 ?_
  refine lv_iload_n hx hb dX3_add_11 rfl (lv_at hl 2 rfl) ?_
  refine lv_icmp_ge (tgt := 47) hx hb dX3_add_12 (by decide) (fun c5 => ?_) (fun c5 => ?_)
  · have h := ift h c5
    exact fw_vret hx hb hr hlk h hF hS dX3_add_47
  · have h := iff0 h c5
    refine lv_aload_n hx hb dX3_add_15 rfl (lv_at hl 0 rfl) ?_
    refine fw_get (C := RX3) (T := TX3) (N := 2) (ci := 3) (v := .int (g3 16 i0 1)) hx hb hL3 hown hE hF (b16 hn h0) (cm16 κ _ _) rfl 1 (by decide) kw1 rfl dX3_add_16 ?_
    refine lv_aload_n hx hb dX3_add_19 rfl (lv_at hl 0 rfl) ?_
    refine fw_get (C := RX3) (T := TX3) (N := 2) (ci := 3) (v := .ref (fa (cφ κ) 17 i0)) hx hb hL3 hown hE hF (b16 hn h0) (cm16 κ _ _) rfl 0 (by decide) kw2 rfl dX3_add_20 ?_
    refine fw_alen (v := (8 : Int32)) hx hb hE hF (b17 hn h0) (cm17 κ _) 0 rfl (by decide) dX3_add_23 ?_
    refine lv_icmp_ge (tgt := 47) hx hb dX3_add_24 (by decide) (fun c6 => ?_) (fun c6 => ?_)
    · have h := ift h c6
      exact fw_vret hx hb hr hlk h hF hS dX3_add_47
    · have h := iff0 h c6
      refine lv_aload_n hx hb dX3_add_27 rfl (lv_at hl 0 rfl) ?_
      refine fw_get (C := RX3) (T := TX3) (N := 2) (ci := 3) (v := .ref (fa (cφ κ) 17 i0)) hx hb hL3 hown hE hF (b16 hn h0) (cm16 κ _ _) rfl 0 (by decide) kw2 rfl dX3_add_28 ?_
      refine lv_aload_n hx hb dX3_add_31 rfl (lv_at hl 0 rfl) ?_
      refine fw_get (C := RX3) (T := TX3) (N := 2) (ci := 3) (v := .int (g3 16 i0 1)) hx hb hL3 hown hE hF (b16 hn h0) (cm16 κ _ _) rfl 1 (by decide) kw1 rfl dX3_add_32 ?_
      refine lv_iload_n hx hb dX3_add_35 rfl (lv_at hl 1 rfl) ?_
      obtain ⟨k7, h⟩ := ck h
      refine fw_iast (q := (g3 16 i0 1).toNatClampNeg) hx hb hE hok hF hS (b17 hn h0) (cm17 κ _) 0 rfl k7 rfl dX3_add_36 (fun H locs hF hS => ?_)
      obtain ⟨g8, e9, h⟩ := ltm_e h
      rw [e9] at hF
      refine lv_aload_n hx hb dX3_add_37 rfl (lv_at hl 0 rfl) ?_
      refine lv_dup hx hb dX3_add_38 rfl ?_
      refine fw_get (C := RX3) (T := TX3) (N := 2) (ci := 3) (v := .int (g8 16 i0 1)) hx hb hL3 hown hE hF (b16 hn h0) (cm16 κ _ _) rfl 1 (by decide) kw1 rfl dX3_add_39 ?_
      refine lv_iconst (v := (1 : Int32)) hx hb dX3_add_42 (by decide) ?_
      refine lv_iadd hx hb dX3_add_43 ?_
      refine fw_put (C := RX3) (T := TX3) (N := 2) (ci := 3) (ty := .int) (v := .int ((g8 16 i0 1) + ((1 : Int32)))) (r := upd (g8 16 i0) 1 ((g8 16 i0 1) + ((1 : Int32)))) hx hb hL3 tyX3 tyX3_ok nmX3 hown hE hok hF hS (b16 hn h0) (cm16 κ _ _) rfl 1 (by decide) kw1 rfl (tyX3_ok 1 (by decide)) rfl rfl (Nat.le_of_ble_eq_true rfl) rfl dX3_add_44 (fun H locs hF hS => ?_)
      obtain ⟨g10, e11, h⟩ := ltm_e h
      rw [e11] at hF
      exact fw_vret hx hb hr hlk h hF hS dX3_add_47
def st_X3_dropOldestk_25 (F : Nat) (K : Mem → Int32 → Int32 → Int32 → Option (Int32 × Mem)) (i0 : Nat) (g : Mem) (x2 x3 x4 : Int32) : Option (Int32 × Mem) := (if x2 ≤ x4 then ltm (upr g 18 i0 (upd (g 18 i0) 1 x2)) (fun g4 => some (0, g4)) else if (x4 + x3 < 0 ∨ 3 ≤ (x4 + x3).toNatClampNeg) then none else if (x4 < 0 ∨ 3 ≤ x4.toNatClampNeg) then none else ltm (upr g 19 i0 (upd (g 19 i0) x4.toNatClampNeg (g 19 i0 ((x4 + x3).toNatClampNeg)))) (fun g8 => K g8 x2 x3 (x4 + (1 : Int32))))
def lp_X3_dropOldestk_25 (F : Nat) : Nat → Nat → Mem → Int32 → Int32 → Int32 → Option (Int32 × Mem)
  | 0, _, _, _, _, _ => none
  | f + 1, i0, g, x2, x3, x4 => st_X3_dropOldestk_25 F (lp_X3_dropOldestk_25 F f i0) i0 g x2 x3 x4
def m_X3_dropOldestk (F : Nat) (i0 : Nat) (g : Mem) (a0 : Int32) : Option (Int32 × Mem) := (if a0 ≤ 0 then (if 0 < ((g 18 i0 1) - ((0 : Int32))) then lp_X3_dropOldestk_25 F F i0 g ((0 : Int32)) ((g 18 i0 1) - ((0 : Int32))) ((0 : Int32)) else some (0, g)) else (if 0 < ((g 18 i0 1) - a0) then lp_X3_dropOldestk_25 F F i0 g a0 ((g 18 i0 1) - a0) ((0 : Int32)) else some (0, g)))
set_option maxHeartbeats 4000000 in
set_option maxRecDepth 100000 in
theorem c_X3_dropOldestk (l : Launch) {κ : Cx} (hok : fok (cφ κ)) (hn : 1 ≤ cn κ) {i0 : Nat} (h0 : i0 < 10) {F : Nat} {g : Mem} {a0 : Int32} {u : Int32 × Mem} (h : m_X3_dropOldestk F i0 g a0 = some u) : fM l (cφ κ) yX3_dropOldest wsX3_dropOldest 0 0 [.ref (fa (cφ κ) 18 i0), .int a0] g none u.2 := by
  refine fM.of (cc := cX3_dropOldest) (maxL := 5) (ret := none) [(0, .ref (fa (cφ κ) 18 i0)), (1, .int a0)] (by decide) rfl (Nat.le_of_ble_eq_true rfl) rfl (fun p e s m below meth c ls hx hb hr hml hown hts hlk hE hF hS hl => ?_)
  replace hown : s.vm.findClass RX3 = some m.cls := hown
  have hL3 : ∀ w ∈ u_ws RX3 TX3 2, w.before ([.ref (fa (cφ κ) 18 i0), .int a0] : List Value).toArray s = true := fun w hw => hts w (by
    unfold wsX3_dropOldest
    simp only [List.mem_cons, List.mem_append]
    exact Or.inr (Or.inr hw))
  have kw1 := hts (.fieldLink RX3 7 "MeshLamps$Line" "size" "I") (List.mem_of_getElem? (i := 1) rfl)
  have kw2 := hts (.fieldLink RX3 19 "MeshLamps$Line" "letters" "[I") (List.mem_of_getElem? (i := 2) rfl)
  unfold m_X3_dropOldestk at h
  have LOOP25 : ∀ (f : Nat) (g : Mem) (x2 x3 x4 : Int32) (H : Heap) (locs : List Loc) (ls : Array Slot), lp_X3_dropOldestk_25 F f i0 g x2 x3 x4 = some u → fw (cφ κ) g H → va_S (fA (cφ κ)) s.heap H locs → lv_has ls 5 [(0, .ref (fa (cφ κ) 18 i0)), (2, .int x2), (3, .int x3), (4, .int x4)] → W p l e ({ frames := 0, cells := 0, slots := 0, locals := 0 }) s m ([.ref (fa (cφ κ) 18 i0), .int a0] : List Value).toArray below meth c H locs 0 0 (MQ below (fQ (cφ κ) none u.2) ([.ref (fa (cφ κ) 18 i0), .int a0] : List Value).toArray s 0 0 (fA (cφ κ))) (F0 m 25 ls []) := by
    intro f
    induction f with
    | zero => intro g x2 x3 x4 H locs ls h hF hS hl; cases h
    | succ f ih =>
      intro g x2 x3 x4 H locs ls h hF hS hl
      replace h : st_X3_dropOldestk_25 F (lp_X3_dropOldestk_25 F f i0) i0 g x2 x3 x4 = some u := h
      unfold st_X3_dropOldestk_25 at h
      refine lv_iload hx hb dX3_dropOldest_25 (lv_at hl 3 rfl) ?_
      refine lv_iload_n hx hb dX3_dropOldest_27 rfl (lv_at hl 1 rfl) ?_
      refine lv_icmp_ge (tgt := 53) hx hb dX3_dropOldest_28 (by decide) (fun c3 => ?_) (fun c3 => ?_)
      · have h := ift h c3
        refine lv_aload_n hx hb dX3_dropOldest_53 rfl (lv_at hl 0 rfl) ?_
        refine lv_iload_n hx hb dX3_dropOldest_54 rfl (lv_at hl 1 rfl) ?_
        refine fw_put (C := RX3) (T := TX3) (N := 2) (ci := 3) (ty := .int) (v := .int x2) (r := upd (g 18 i0) 1 x2) hx hb hL3 tyX3 tyX3_ok nmX3 hown hE hok hF hS (b18 hn h0) (cm18 κ _ _) rfl 1 (by decide) kw1 rfl (tyX3_ok 1 (by decide)) rfl rfl (Nat.le_of_ble_eq_true rfl) rfl dX3_dropOldest_55 (fun H locs hF hS => ?_)
        obtain ⟨g4, e5, h⟩ := ltm_e h
        rw [e5] at hF
        exact fw_vret hx hb hr hlk h hF hS dX3_dropOldest_58
      · have h := iff0 h c3
        refine lv_aload_n hx hb dX3_dropOldest_31 rfl (lv_at hl 0 rfl) ?_
        refine fw_get (C := RX3) (T := TX3) (N := 2) (ci := 3) (v := .ref (fa (cφ κ) 19 i0)) hx hb hL3 hown hE hF (b18 hn h0) (cm18 κ _ _) rfl 0 (by decide) kw2 rfl dX3_dropOldest_32 ?_
        refine lv_iload hx hb dX3_dropOldest_35 (lv_at hl 3 rfl) ?_
        refine lv_aload_n hx hb dX3_dropOldest_37 rfl (lv_at hl 0 rfl) ?_
        refine fw_get (C := RX3) (T := TX3) (N := 2) (ci := 3) (v := .ref (fa (cφ κ) 19 i0)) hx hb hL3 hown hE hF (b18 hn h0) (cm18 κ _ _) rfl 0 (by decide) kw2 rfl dX3_dropOldest_38 ?_
        refine lv_iload hx hb dX3_dropOldest_41 (lv_at hl 3 rfl) ?_
        refine lv_iload_n hx hb dX3_dropOldest_43 rfl (lv_at hl 2 rfl) ?_
        refine lv_iadd hx hb dX3_dropOldest_44 ?_
        obtain ⟨k6, h⟩ := ck h
        refine fw_iald (q := (x4 + x3).toNatClampNeg) hx hb hE hF (b19 hn h0) (cm19 κ _) 0 rfl k6 rfl dX3_dropOldest_45 ?_
        obtain ⟨k7, h⟩ := ck h
        refine fw_iast (q := x4.toNatClampNeg) hx hb hE hok hF hS (b19 hn h0) (cm19 κ _) 0 rfl k7 rfl dX3_dropOldest_46 (fun H locs hF hS => ?_)
        obtain ⟨g8, e9, h⟩ := ltm_e h
        rw [e9] at hF
        refine lv_iinc (v := x4 + (1 : Int32)) (lv' := [(4, .int (x4 + (1 : Int32))), (0, .ref (fa (cφ κ) 18 i0)), (2, .int x2), (3, .int x3)]) hx hb dX3_dropOldest_47 hl (k := 3) rfl rfl (by decide) rfl (fun ls hl => ?_)
        refine lv_goto (tgt := 25) hx hb dX3_dropOldest_50 (by decide) ?_
        exact ih g8 x2 x3 (x4 + (1 : Int32)) H locs ls h hF hS (lv_sub hl [1, 2, 3, 0] rfl)
  refine lv_iload_n hx hb dX3_dropOldest_0 rfl (lv_at hl 1 rfl) ?_
  refine lv_if_le (tgt := 8) hx hb dX3_dropOldest_1 (by decide) (fun c1 => ?_) (fun c1 => ?_)
  · have h := ift h c1
    refine lv_iconst (v := (0 : Int32)) hx hb dX3_dropOldest_8 (by decide) ?_
    refine lv_istore_n (lv' := [(2, .int ((0 : Int32))), (0, .ref (fa (cφ κ) 18 i0)), (1, .int a0)]) hx hb dX3_dropOldest_9 rfl hl (by decide) rfl (fun ls hl => ?_)
    refine lv_aload_n hx hb dX3_dropOldest_10 rfl (lv_at hl 1 rfl) ?_
    refine fw_get (C := RX3) (T := TX3) (N := 2) (ci := 3) (v := .int (g 18 i0 1)) hx hb hL3 hown hE hF (b18 hn h0) (cm18 κ _ _) rfl 1 (by decide) kw1 rfl dX3_dropOldest_11 ?_
    refine lv_iload_n hx hb dX3_dropOldest_14 rfl (lv_at hl 0 rfl) ?_
    refine lv_isub hx hb dX3_dropOldest_15 ?_
    refine lv_istore_n (lv' := [(3, .int ((g 18 i0 1) - ((0 : Int32)))), (2, .int ((0 : Int32))), (0, .ref (fa (cφ κ) 18 i0)), (1, .int a0)]) hx hb dX3_dropOldest_16 rfl hl (by decide) rfl (fun ls hl => ?_)
    refine lv_iload_n hx hb dX3_dropOldest_17 rfl (lv_at hl 0 rfl) ?_
    refine lv_if_gt (tgt := 22) hx hb dX3_dropOldest_18 (by decide) (fun c2 => ?_) (fun c2 => ?_)
    · have h := ift h c2
      refine lv_iconst (v := (0 : Int32)) hx hb dX3_dropOldest_22 (by decide) ?_
      refine lv_istore (lv' := [(4, .int ((0 : Int32))), (3, .int ((g 18 i0 1) - ((0 : Int32)))), (2, .int ((0 : Int32))), (0, .ref (fa (cφ κ) 18 i0)), (1, .int a0)]) hx hb dX3_dropOldest_23 hl (by decide) rfl (fun ls hl => ?_)
      exact LOOP25 F g ((0 : Int32)) ((g 18 i0 1) - ((0 : Int32))) ((0 : Int32)) _ _ ls h hF hS (lv_sub hl [3, 2, 1, 0] rfl)
    · have h := iff0 h c2
      exact fw_vret hx hb hr hlk h hF hS dX3_dropOldest_21
  · have h := iff0 h c1
    refine lv_iload_n hx hb dX3_dropOldest_4 rfl (lv_at hl 1 rfl) ?_
    refine lv_goto (tgt := 9) hx hb dX3_dropOldest_5 (by decide) ?_
    refine lv_istore_n (lv' := [(2, .int a0), (0, .ref (fa (cφ κ) 18 i0)), (1, .int a0)]) hx hb dX3_dropOldest_9 rfl hl (by decide) rfl (fun ls hl => ?_)
    refine lv_aload_n hx hb dX3_dropOldest_10 rfl (lv_at hl 1 rfl) ?_
    refine fw_get (C := RX3) (T := TX3) (N := 2) (ci := 3) (v := .int (g 18 i0 1)) hx hb hL3 hown hE hF (b18 hn h0) (cm18 κ _ _) rfl 1 (by decide) kw1 rfl dX3_dropOldest_11 ?_
    refine lv_iload_n hx hb dX3_dropOldest_14 rfl (lv_at hl 0 rfl) ?_
    refine lv_isub hx hb dX3_dropOldest_15 ?_
    refine lv_istore_n (lv' := [(3, .int ((g 18 i0 1) - a0)), (2, .int a0), (0, .ref (fa (cφ κ) 18 i0)), (1, .int a0)]) hx hb dX3_dropOldest_16 rfl hl (by decide) rfl (fun ls hl => ?_)
    refine lv_iload_n hx hb dX3_dropOldest_17 rfl (lv_at hl 0 rfl) ?_
    refine lv_if_gt (tgt := 22) hx hb dX3_dropOldest_18 (by decide) (fun c10 => ?_) (fun c10 => ?_)
    · have h := ift h c10
      refine lv_iconst (v := (0 : Int32)) hx hb dX3_dropOldest_22 (by decide) ?_
      refine lv_istore (lv' := [(4, .int ((0 : Int32))), (3, .int ((g 18 i0 1) - a0)), (2, .int a0), (0, .ref (fa (cφ κ) 18 i0)), (1, .int a0)]) hx hb dX3_dropOldest_23 hl (by decide) rfl (fun ls hl => ?_)
      exact LOOP25 F g a0 ((g 18 i0 1) - a0) ((0 : Int32)) _ _ ls h hF hS (lv_sub hl [3, 2, 1, 0] rfl)
    · have h := iff0 h c10
      exact fw_vret hx hb hr hlk h hF hS dX3_dropOldest_21
def m_X3_addk (F : Nat) (i0 : Nat) (g : Mem) (a0 a1 : Int32) : Option (Int32 × Mem) := (m_X3_dropOldestk F i0 g (a1 - ((1 : Int32)))).bind (fun (r2, g3) => (if a1 ≤ (g3 18 i0 1) then some (0, g3) else (if ((3 : Int32)) ≤ (g3 18 i0 1) then some (0, g3) else if (g3 18 i0 1 < 0 ∨ 3 ≤ (g3 18 i0 1).toNatClampNeg) then none else ltm (upr g3 19 i0 (upd (g3 19 i0) (g3 18 i0 1).toNatClampNeg a0)) (fun g8 => ltm (upr g8 18 i0 (upd (g8 18 i0) 1 ((g8 18 i0 1) + ((1 : Int32))))) (fun g10 => some (0, g10))))))
set_option maxHeartbeats 4000000 in
set_option maxRecDepth 100000 in
theorem c_X3_addk (l : Launch) {κ : Cx} (hok : fok (cφ κ)) (hn : 1 ≤ cn κ) {i0 : Nat} (h0 : i0 < 10) {F : Nat} {g : Mem} {a0 a1 : Int32} {u : Int32 × Mem} (h : m_X3_addk F i0 g a0 a1 = some u) : fM l (cφ κ) yX3_add wsX3_add 1 24 [.ref (fa (cφ κ) 18 i0), .int a0, .int a1] g none u.2 := by
  refine fM.of (cc := cX3_add) (maxL := 3) (ret := none) [(0, .ref (fa (cφ κ) 18 i0)), (1, .int a0), (2, .int a1)] (by decide) rfl (Nat.le_of_ble_eq_true rfl) rfl (fun p e s m below meth c ls hx hb hr hml hown hts hlk hE hF hS hl => ?_)
  replace hown : s.vm.findClass RX3 = some m.cls := hown
  have hL3 : ∀ w ∈ u_ws RX3 TX3 2, w.before ([.ref (fa (cφ κ) 18 i0), .int a0, .int a1] : List Value).toArray s = true := fun w hw => hts w (by
    unfold wsX3_add
    simp only [List.mem_cons, List.mem_append]
    exact Or.inr (Or.inr hw))
  have kw1 := hts (.fieldLink RX3 7 "MeshLamps$Line" "size" "I") (List.mem_of_getElem? (i := 1) rfl)
  have kw2 := hts (.fieldLink RX3 19 "MeshLamps$Line" "letters" "[I") (List.mem_of_getElem? (i := 2) rfl)
  unfold m_X3_addk at h
  refine lv_aload_n hx hb dX3_add_0 rfl (lv_at hl 0 rfl) ?_
  refine lv_iload_n hx hb dX3_add_1 rfl (lv_at hl 2 rfl) ?_
  refine lv_iconst (v := (1 : Int32)) hx hb dX3_add_2 (by decide) ?_
  refine lv_isub hx hb dX3_add_3 ?_
  obtain ⟨⟨r2, g3⟩, q1, h⟩ := bnd h
  try dsimp only at h
  refine fw_callv (va_runV (As := [.int (a1 - ((1 : Int32)))]) (rest := []) ⟨hx, hb, hml, hown, hts⟩ (c_X3_dropOldestk l hok hn h0 q1) (cwV 1 hts gX3_add_X3_dropOldest rfl rfl rfl qv_X3_dropOldest ⟨Nat.le_of_ble_eq_true rfl, Nat.le_of_ble_eq_true rfl⟩) (fw_preV hok hE hF (b18 hn h0) (cm18 κ _ _) rfl) rfl rfl hl.1 rfl (lv_room (Nat.le_of_ble_eq_true rfl)) dX3_add_4 ⟨Nat.le_refl _, Nat.le_refl _⟩) hS (fun H locs hF hS => ?_)
  refine lv_aload_n hx hb dX3_add_7 rfl (lv_at hl 0 rfl) ?_
  refine fw_get (C := RX3) (T := TX3) (N := 2) (ci := 3) (v := .int (g3 18 i0 1)) hx hb hL3 hown hE hF (b18 hn h0) (cm18 κ _ _) rfl 1 (by decide) kw1 rfl dX3_add_8 ?_
  refine lv_iload_n hx hb dX3_add_11 rfl (lv_at hl 2 rfl) ?_
  refine lv_icmp_ge (tgt := 47) hx hb dX3_add_12 (by decide) (fun c5 => ?_) (fun c5 => ?_)
  · have h := ift h c5
    exact fw_vret hx hb hr hlk h hF hS dX3_add_47
  · have h := iff0 h c5
    refine lv_aload_n hx hb dX3_add_15 rfl (lv_at hl 0 rfl) ?_
    refine fw_get (C := RX3) (T := TX3) (N := 2) (ci := 3) (v := .int (g3 18 i0 1)) hx hb hL3 hown hE hF (b18 hn h0) (cm18 κ _ _) rfl 1 (by decide) kw1 rfl dX3_add_16 ?_
    refine lv_aload_n hx hb dX3_add_19 rfl (lv_at hl 0 rfl) ?_
    refine fw_get (C := RX3) (T := TX3) (N := 2) (ci := 3) (v := .ref (fa (cφ κ) 19 i0)) hx hb hL3 hown hE hF (b18 hn h0) (cm18 κ _ _) rfl 0 (by decide) kw2 rfl dX3_add_20 ?_
    refine fw_alen (v := (3 : Int32)) hx hb hE hF (b19 hn h0) (cm19 κ _) 0 rfl (by decide) dX3_add_23 ?_
    refine lv_icmp_ge (tgt := 47) hx hb dX3_add_24 (by decide) (fun c6 => ?_) (fun c6 => ?_)
    · have h := ift h c6
      exact fw_vret hx hb hr hlk h hF hS dX3_add_47
    · have h := iff0 h c6
      refine lv_aload_n hx hb dX3_add_27 rfl (lv_at hl 0 rfl) ?_
      refine fw_get (C := RX3) (T := TX3) (N := 2) (ci := 3) (v := .ref (fa (cφ κ) 19 i0)) hx hb hL3 hown hE hF (b18 hn h0) (cm18 κ _ _) rfl 0 (by decide) kw2 rfl dX3_add_28 ?_
      refine lv_aload_n hx hb dX3_add_31 rfl (lv_at hl 0 rfl) ?_
      refine fw_get (C := RX3) (T := TX3) (N := 2) (ci := 3) (v := .int (g3 18 i0 1)) hx hb hL3 hown hE hF (b18 hn h0) (cm18 κ _ _) rfl 1 (by decide) kw1 rfl dX3_add_32 ?_
      refine lv_iload_n hx hb dX3_add_35 rfl (lv_at hl 1 rfl) ?_
      obtain ⟨k7, h⟩ := ck h
      refine fw_iast (q := (g3 18 i0 1).toNatClampNeg) hx hb hE hok hF hS (b19 hn h0) (cm19 κ _) 0 rfl k7 rfl dX3_add_36 (fun H locs hF hS => ?_)
      obtain ⟨g8, e9, h⟩ := ltm_e h
      rw [e9] at hF
      refine lv_aload_n hx hb dX3_add_37 rfl (lv_at hl 0 rfl) ?_
      refine lv_dup hx hb dX3_add_38 rfl ?_
      refine fw_get (C := RX3) (T := TX3) (N := 2) (ci := 3) (v := .int (g8 18 i0 1)) hx hb hL3 hown hE hF (b18 hn h0) (cm18 κ _ _) rfl 1 (by decide) kw1 rfl dX3_add_39 ?_
      refine lv_iconst (v := (1 : Int32)) hx hb dX3_add_42 (by decide) ?_
      refine lv_iadd hx hb dX3_add_43 ?_
      refine fw_put (C := RX3) (T := TX3) (N := 2) (ci := 3) (ty := .int) (v := .int ((g8 18 i0 1) + ((1 : Int32)))) (r := upd (g8 18 i0) 1 ((g8 18 i0 1) + ((1 : Int32)))) hx hb hL3 tyX3 tyX3_ok nmX3 hown hE hok hF hS (b18 hn h0) (cm18 κ _ _) rfl 1 (by decide) kw1 rfl (tyX3_ok 1 (by decide)) rfl rfl (Nat.le_of_ble_eq_true rfl) rfl dX3_add_44 (fun H locs hF hS => ?_)
      obtain ⟨g10, e11, h⟩ := ltm_e h
      rw [e11] at hF
      exact fw_vret hx hb hr hlk h hF hS dX3_add_47
