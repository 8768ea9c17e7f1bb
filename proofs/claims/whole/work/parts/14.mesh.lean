/-! Mesh (by program) -/
def m_X4_nextPhase (g : Mem) : Option (Int32 × Mem) := (if ((2 : Int32)) ≤ (g 2 0 5) then ltm (upr g 2 0 (upd (g 2 0) 5 ((0 : Int32)))) (fun g2 => ltm (upr g2 2 0 (upd (g2 2 0) 4 ((g2 2 0 4) + ((1 : Int32))))) (fun g4 => ltm (upr g4 2 0 (upd (g4 2 0) 6 (g4 2 0 7))) (fun g6 => ltm (upr g6 2 0 (upd (g6 2 0) 7 ((0 : Int32)))) (fun g8 => some (0, g8))))) else ltm (upr g 2 0 (upd (g 2 0) 5 ((g 2 0 5) + ((1 : Int32))))) (fun g10 => some (0, g10)))
set_option maxHeartbeats 4000000 in
set_option maxRecDepth 100000 in
theorem c_X4_nextPhase (l : Launch) {κ : Cx} (hok : fok (cφ κ)) (hn : 1 ≤ cn κ)  {g : Mem} {u : Int32 × Mem} (h : m_X4_nextPhase g  = some u) : fM l (cφ κ) yX4_nextPhase wsX4_nextPhase 0 0 [.ref (fa (cφ κ) 2 0)] g none u.2 := by
  refine fM.of (cc := cX4_nextPhase) (maxL := 1) (ret := none) [(0, .ref (fa (cφ κ) 2 0))] (by decide) rfl (Nat.le_of_ble_eq_true rfl) rfl (fun p e s m below meth c ls hx hb hr hml hown hts hlk hE hF hS hl => ?_)
  replace hown : s.vm.findClass RX4 = some m.cls := hown
  have hL4 : ∀ w ∈ u_ws RX4 TX4 11, w.before ([.ref (fa (cφ κ) 2 0)] : List Value).toArray s = true := fun w hw => hts w (by
    unfold wsX4_nextPhase
    simp only [List.mem_cons, List.mem_append]
    exact Or.inr (Or.inr hw))
  have kw1 := hts (.fieldLink RX4 38 "MeshLamps$Mesh" "phase" "I") (List.mem_of_getElem? (i := 1) rfl)
  have kw2 := hts (.fieldLink RX4 35 "MeshLamps$Mesh" "key" "I") (List.mem_of_getElem? (i := 2) rfl)
  have kw3 := hts (.fieldLink RX4 44 "MeshLamps$Mesh" "haveNext" "I") (List.mem_of_getElem? (i := 3) rfl)
  have kw4 := hts (.fieldLink RX4 41 "MeshLamps$Mesh" "haveKey" "I") (List.mem_of_getElem? (i := 4) rfl)
  unfold m_X4_nextPhase at h
  refine lv_aload_n hx hb dX4_nextPhase_0 rfl (lv_at hl 0 rfl) ?_
  refine fw_get (C := RX4) (T := TX4) (N := 11) (ci := 4) (v := .int (g 2 0 5)) hx hb hL4 hown hE hF (b2 hn) (cm2 κ _ _) rfl 5 (by decide) kw1 rfl dX4_nextPhase_1 ?_
  refine lv_iconst (v := (2 : Int32)) hx hb dX4_nextPhase_4 (by decide) ?_
  refine lv_icmp_ge (tgt := 19) hx hb dX4_nextPhase_5 (by decide) (fun c1 => ?_) (fun c1 => ?_)
  · have h := ift h c1
    refine lv_aload_n hx hb dX4_nextPhase_19 rfl (lv_at hl 0 rfl) ?_
    refine lv_iconst (v := (0 : Int32)) hx hb dX4_nextPhase_20 (by decide) ?_
    refine fw_put (C := RX4) (T := TX4) (N := 11) (ci := 4) (ty := .int) (v := .int ((0 : Int32))) (r := upd (g 2 0) 5 ((0 : Int32))) hx hb hL4 tyX4 tyX4_ok nmX4 hown hE hok hF hS (b2 hn) (cm2 κ _ _) rfl 5 (by decide) kw1 rfl (tyX4_ok 5 (by decide)) rfl rfl (Nat.le_of_ble_eq_true rfl) rfl dX4_nextPhase_21 (fun H locs hF hS => ?_)
    obtain ⟨g2, e3, h⟩ := ltm_e h
    rw [e3] at hF
    refine lv_aload_n hx hb dX4_nextPhase_24 rfl (lv_at hl 0 rfl) ?_
    refine lv_dup hx hb dX4_nextPhase_25 rfl ?_
    refine fw_get (C := RX4) (T := TX4) (N := 11) (ci := 4) (v := .int (g2 2 0 4)) hx hb hL4 hown hE hF (b2 hn) (cm2 κ _ _) rfl 4 (by decide) kw2 rfl dX4_nextPhase_26 ?_
    refine lv_iconst (v := (1 : Int32)) hx hb dX4_nextPhase_29 (by decide) ?_
    refine lv_iadd hx hb dX4_nextPhase_30 ?_
    refine fw_put (C := RX4) (T := TX4) (N := 11) (ci := 4) (ty := .int) (v := .int ((g2 2 0 4) + ((1 : Int32)))) (r := upd (g2 2 0) 4 ((g2 2 0 4) + ((1 : Int32)))) hx hb hL4 tyX4 tyX4_ok nmX4 hown hE hok hF hS (b2 hn) (cm2 κ _ _) rfl 4 (by decide) kw2 rfl (tyX4_ok 4 (by decide)) rfl rfl (Nat.le_of_ble_eq_true rfl) rfl dX4_nextPhase_31 (fun H locs hF hS => ?_)
    obtain ⟨g4, e5, h⟩ := ltm_e h
    rw [e5] at hF
    refine lv_aload_n hx hb dX4_nextPhase_34 rfl (lv_at hl 0 rfl) ?_
    refine lv_aload_n hx hb dX4_nextPhase_35 rfl (lv_at hl 0 rfl) ?_
    refine fw_get (C := RX4) (T := TX4) (N := 11) (ci := 4) (v := .int (g4 2 0 7)) hx hb hL4 hown hE hF (b2 hn) (cm2 κ _ _) rfl 7 (by decide) kw3 rfl dX4_nextPhase_36 ?_
    refine fw_put (C := RX4) (T := TX4) (N := 11) (ci := 4) (ty := .int) (v := .int (g4 2 0 7)) (r := upd (g4 2 0) 6 (g4 2 0 7)) hx hb hL4 tyX4 tyX4_ok nmX4 hown hE hok hF hS (b2 hn) (cm2 κ _ _) rfl 6 (by decide) kw4 rfl (tyX4_ok 6 (by decide)) rfl rfl (Nat.le_of_ble_eq_true rfl) rfl dX4_nextPhase_39 (fun H locs hF hS => ?_)
    obtain ⟨g6, e7, h⟩ := ltm_e h
    rw [e7] at hF
    refine lv_aload_n hx hb dX4_nextPhase_42 rfl (lv_at hl 0 rfl) ?_
    refine lv_iconst (v := (0 : Int32)) hx hb dX4_nextPhase_43 (by decide) ?_
    refine fw_put (C := RX4) (T := TX4) (N := 11) (ci := 4) (ty := .int) (v := .int ((0 : Int32))) (r := upd (g6 2 0) 7 ((0 : Int32))) hx hb hL4 tyX4 tyX4_ok nmX4 hown hE hok hF hS (b2 hn) (cm2 κ _ _) rfl 7 (by decide) kw3 rfl (tyX4_ok 7 (by decide)) rfl rfl (Nat.le_of_ble_eq_true rfl) rfl dX4_nextPhase_44 (fun H locs hF hS => ?_)
    obtain ⟨g8, e9, h⟩ := ltm_e h
    rw [e9] at hF
    exact fw_vret hx hb hr hlk h hF hS dX4_nextPhase_47
  · have h := iff0 h c1
    refine lv_aload_n hx hb dX4_nextPhase_8 rfl (lv_at hl 0 rfl) ?_
    refine lv_dup hx hb dX4_nextPhase_9 rfl ?_
    refine fw_get (C := RX4) (T := TX4) (N := 11) (ci := 4) (v := .int (g 2 0 5)) hx hb hL4 hown hE hF (b2 hn) (cm2 κ _ _) rfl 5 (by decide) kw1 rfl dX4_nextPhase_10 ?_
    refine lv_iconst (v := (1 : Int32)) hx hb dX4_nextPhase_13 (by decide) ?_
    refine lv_iadd hx hb dX4_nextPhase_14 ?_
    refine fw_put (C := RX4) (T := TX4) (N := 11) (ci := 4) (ty := .int) (v := .int ((g 2 0 5) + ((1 : Int32)))) (r := upd (g 2 0) 5 ((g 2 0 5) + ((1 : Int32)))) hx hb hL4 tyX4 tyX4_ok nmX4 hown hE hok hF hS (b2 hn) (cm2 κ _ _) rfl 5 (by decide) kw1 rfl (tyX4_ok 5 (by decide)) rfl rfl (Nat.le_of_ble_eq_true rfl) rfl dX4_nextPhase_15 (fun H locs hF hS => ?_)
    obtain ⟨g10, e11, h⟩ := ltm_e h
    rw [e11] at hF
    exact fw_vret hx hb hr hlk h hF hS dX4_nextPhase_18
def m_X4_tellsByNext (g : Mem) (a0 : Int32) : Option (Int32 × Mem) := (if (g 2 0 5) = ((2 : Int32)) then (m_X5_isIn (g 2 0 7) a0).bind (fun r3 => (if r3 = 0 then some ((0 : Int32), g) else some ((1 : Int32), g))) else some ((0 : Int32), g))
set_option maxHeartbeats 4000000 in
set_option maxRecDepth 100000 in
theorem c_X4_tellsByNext (l : Launch) {κ : Cx} (hok : fok (cφ κ)) (hn : 1 ≤ cn κ)  {g : Mem} {a0 : Int32} {u : Int32 × Mem} (h : m_X4_tellsByNext g a0 = some u) : fM l (cφ κ) yX4_tellsByNext wsX4_tellsByNext 1 21 [.ref (fa (cφ κ) 2 0), .int a0] g (some (.int u.1)) u.2 := by
  refine fM.of (cc := cX4_tellsByNext) (maxL := 2) (ret := (some .boolean)) [(0, .ref (fa (cφ κ) 2 0)), (1, .int a0)] (by decide) rfl (Nat.le_of_ble_eq_true rfl) rfl (fun p e s m below meth c ls hx hb hr hml hown hts hlk hE hF hS hl => ?_)
  replace hown : s.vm.findClass RX4 = some m.cls := hown
  have hL4 : ∀ w ∈ u_ws RX4 TX4 11, w.before ([.ref (fa (cφ κ) 2 0), .int a0] : List Value).toArray s = true := fun w hw => hts w (by
    unfold wsX4_tellsByNext
    simp only [List.mem_cons, List.mem_append]
    exact Or.inr (Or.inr hw))
  have kw1 := hts (.fieldLink RX4 38 "MeshLamps$Mesh" "phase" "I") (List.mem_of_getElem? (i := 1) rfl)
  have kw2 := hts (.fieldLink RX4 44 "MeshLamps$Mesh" "haveNext" "I") (List.mem_of_getElem? (i := 2) rfl)
  have kw4 := hts (.initialized RX5) (List.mem_of_getElem? (i := 4) rfl)
  have kw3 := hts (.static yX5_isIn) (List.mem_of_getElem? (i := 3) rfl)
  unfold m_X4_tellsByNext at h
  refine lv_aload_n hx hb dX4_tellsByNext_0 rfl (lv_at hl 0 rfl) ?_
  refine fw_get (C := RX4) (T := TX4) (N := 11) (ci := 4) (v := .int (g 2 0 5)) hx hb hL4 hown hE hF (b2 hn) (cm2 κ _ _) rfl 5 (by decide) kw1 rfl dX4_tellsByNext_1 ?_
  refine lv_iconst (v := (2 : Int32)) hx hb dX4_tellsByNext_4 (by decide) ?_
  refine lv_icmp_ne (tgt := 23) hx hb dX4_tellsByNext_5 (by decide) (fun c1 => ?_) (fun c1 => ?_)
  · have h := iff0 h c1
    refine lv_iconst (v := (0 : Int32)) hx hb dX4_tellsByNext_23 (by decide) ?_
    exact fw_zret hx hb hr hlk rfl h hF hS dX4_tellsByNext_24
  · have h := ift h c1
    refine lv_aload_n hx hb dX4_tellsByNext_8 rfl (lv_at hl 0 rfl) ?_
    refine fw_get (C := RX4) (T := TX4) (N := 11) (ci := 4) (v := .int (g 2 0 7)) hx hb hL4 hown hE hF (b2 hn) (cm2 κ _ _) rfl 7 (by decide) kw2 rfl dX4_tellsByNext_9 ?_
    refine lv_iload_n hx hb dX4_tellsByNext_12 rfl (lv_at hl 1 rfl) ?_
    obtain ⟨r3, q2, h⟩ := bnd h
    try dsimp only at h
    refine pw_call (va_runSN (As := [.int (g 2 0 7), .int a0]) (rest := []) ⟨hx, hb, hml, hown, hts⟩ (c_X5_isIn l q2) ⟨va_cnB 2 hts gX4_tellsByNext_X5_isIn_n67 rfl rfl rfl (hE.2 _ (List.mem_of_getElem? (i := 0) rfl)) kw4 qs_X5_isIn ⟨Nat.le_of_ble_eq_true rfl, Nat.le_of_ble_eq_true rfl⟩, kw3, trivial⟩ preEq rfl rfl hl.1 rfl (lv_room (Nat.le_of_ble_eq_true rfl)) dX4_tellsByNext_13 ⟨Nat.le_refl _, Nat.le_refl _⟩) ?_
    refine lv_if_eq (tgt := 23) hx hb dX4_tellsByNext_16 (by decide) (fun c4 => ?_) (fun c4 => ?_)
    · have h := ift h c4
      refine lv_iconst (v := (0 : Int32)) hx hb dX4_tellsByNext_23 (by decide) ?_
      exact fw_zret hx hb hr hlk rfl h hF hS dX4_tellsByNext_24
    · have h := iff0 h c4
      refine lv_iconst (v := (1 : Int32)) hx hb dX4_tellsByNext_19 (by decide) ?_
      refine lv_goto (tgt := 24) hx hb dX4_tellsByNext_20 (by decide) ?_
      exact fw_zret hx hb hr hlk rfl h hF hS dX4_tellsByNext_24
def m_X4_canTell (g : Mem) (a0 : Int32) : Option (Int32 × Mem) := (m_X4_tellsByNext g a0).bind (fun (r2, g3) => (if r2 = 0 then (m_X5_isIn (g3 2 0 6) a0).bind (fun r7 => (if r7 = 0 then some ((0 : Int32), g3) else some ((1 : Int32), g3))) else some ((1 : Int32), g3)))
set_option maxHeartbeats 4000000 in
set_option maxRecDepth 100000 in
theorem c_X4_canTell (l : Launch) {κ : Cx} (hok : fok (cφ κ)) (hn : 1 ≤ cn κ)  {g : Mem} {a0 : Int32} {u : Int32 × Mem} (h : m_X4_canTell g a0 = some u) : fM l (cφ κ) yX4_canTell wsX4_canTell 2 42 [.ref (fa (cφ κ) 2 0), .int a0] g (some (.int u.1)) u.2 := by
  refine fM.of (cc := cX4_canTell) (maxL := 2) (ret := (some .boolean)) [(0, .ref (fa (cφ κ) 2 0)), (1, .int a0)] (by decide) rfl (Nat.le_of_ble_eq_true rfl) rfl (fun p e s m below meth c ls hx hb hr hml hown hts hlk hE hF hS hl => ?_)
  replace hown : s.vm.findClass RX4 = some m.cls := hown
  have hL4 : ∀ w ∈ u_ws RX4 TX4 11, w.before ([.ref (fa (cφ κ) 2 0), .int a0] : List Value).toArray s = true := fun w hw => hts w (by
    unfold wsX4_canTell
    simp only [List.mem_cons, List.mem_append]
    exact Or.inr (Or.inr hw))
  have kw1 := hts (.fieldLink RX4 41 "MeshLamps$Mesh" "haveKey" "I") (List.mem_of_getElem? (i := 1) rfl)
  have kw10 := hts (.initialized RX5) (List.mem_of_getElem? (i := 10) rfl)
  have kw9 := hts (.static yX5_isIn) (List.mem_of_getElem? (i := 9) rfl)
  unfold m_X4_canTell at h
  refine lv_aload_n hx hb dX4_canTell_0 rfl (lv_at hl 0 rfl) ?_
  refine lv_iload_n hx hb dX4_canTell_1 rfl (lv_at hl 1 rfl) ?_
  obtain ⟨⟨r2, g3⟩, q1, h⟩ := bnd h
  try dsimp only at h
  refine fw_calli (va_runV (As := [.int a0]) (rest := []) ⟨hx, hb, hml, hown, hts⟩ (c_X4_tellsByNext l hok hn q1) (cwV 1 hts gX4_canTell_X4_tellsByNext rfl rfl rfl qv_X4_tellsByNext ⟨Nat.le_of_ble_eq_true rfl, Nat.le_of_ble_eq_true rfl⟩) (fw_preV hok hE hF (b2 hn) (cm2 κ _ _) rfl) rfl rfl hl.1 rfl (lv_room (Nat.le_of_ble_eq_true rfl)) dX4_canTell_2 ⟨Nat.le_refl _, Nat.le_refl _⟩) hS (fun H locs hF hS => ?_)
  refine lv_if_ne (tgt := 19) hx hb dX4_canTell_5 (by decide) (fun c5 => ?_) (fun c5 => ?_)
  · have h := iff0 h c5
    refine lv_iconst (v := (1 : Int32)) hx hb dX4_canTell_19 (by decide) ?_
    refine lv_goto (tgt := 24) hx hb dX4_canTell_20 (by decide) ?_
    exact fw_zret hx hb hr hlk rfl h hF hS dX4_canTell_24
  · have h := ift h c5
    refine lv_aload_n hx hb dX4_canTell_8 rfl (lv_at hl 0 rfl) ?_
    refine fw_get (C := RX4) (T := TX4) (N := 11) (ci := 4) (v := .int (g3 2 0 6)) hx hb hL4 hown hE hF (b2 hn) (cm2 κ _ _) rfl 6 (by decide) kw1 rfl dX4_canTell_9 ?_
    refine lv_iload_n hx hb dX4_canTell_12 rfl (lv_at hl 1 rfl) ?_
    obtain ⟨r7, q6, h⟩ := bnd h
    try dsimp only at h
    refine pw_call (va_runSN (As := [.int (g3 2 0 6), .int a0]) (rest := []) ⟨hx, hb, hml, hown, hts⟩ (c_X5_isIn l q6) ⟨va_cnB 2 hts gX4_canTell_X5_isIn_n67 rfl rfl rfl (hE.2 _ (List.mem_of_getElem? (i := 0) rfl)) kw10 qs_X5_isIn ⟨Nat.le_of_ble_eq_true rfl, Nat.le_of_ble_eq_true rfl⟩, kw9, trivial⟩ preEq rfl rfl hl.1 rfl (lv_room (Nat.le_of_ble_eq_true rfl)) dX4_canTell_13 ⟨Nat.le_refl _, Nat.le_refl _⟩) ?_
    refine lv_if_eq (tgt := 23) hx hb dX4_canTell_16 (by decide) (fun c8 => ?_) (fun c8 => ?_)
    · have h := ift h c8
      refine lv_iconst (v := (0 : Int32)) hx hb dX4_canTell_23 (by decide) ?_
      exact fw_zret hx hb hr hlk rfl h hF hS dX4_canTell_24
    · have h := iff0 h c8
      refine lv_iconst (v := (1 : Int32)) hx hb dX4_canTell_19 (by decide) ?_
      refine lv_goto (tgt := 24) hx hb dX4_canTell_20 (by decide) ?_
      exact fw_zret hx hb hr hlk rfl h hF hS dX4_canTell_24
def m_X4_keyToTell (g : Mem) (a0 : Int32) : Option (Int32 × Mem) := (m_X4_tellsByNext g a0).bind (fun (r2, g3) => (if r2 = 0 then some (g3 2 0 4, g3) else some ((g3 2 0 4) + ((1 : Int32)), g3)))
set_option maxHeartbeats 4000000 in
set_option maxRecDepth 100000 in
theorem c_X4_keyToTell (l : Launch) {κ : Cx} (hok : fok (cφ κ)) (hn : 1 ≤ cn κ)  {g : Mem} {a0 : Int32} {u : Int32 × Mem} (h : m_X4_keyToTell g a0 = some u) : fM l (cφ κ) yX4_keyToTell wsX4_keyToTell 2 42 [.ref (fa (cφ κ) 2 0), .int a0] g (some (.int u.1)) u.2 := by
  refine fM.of (cc := cX4_keyToTell) (maxL := 2) (ret := (some .int)) [(0, .ref (fa (cφ κ) 2 0)), (1, .int a0)] (by decide) rfl (Nat.le_of_ble_eq_true rfl) rfl (fun p e s m below meth c ls hx hb hr hml hown hts hlk hE hF hS hl => ?_)
  replace hown : s.vm.findClass RX4 = some m.cls := hown
  have hL4 : ∀ w ∈ u_ws RX4 TX4 11, w.before ([.ref (fa (cφ κ) 2 0), .int a0] : List Value).toArray s = true := fun w hw => hts w (by
    unfold wsX4_keyToTell
    simp only [List.mem_cons, List.mem_append]
    exact Or.inr (Or.inr hw))
  have kw1 := hts (.fieldLink RX4 35 "MeshLamps$Mesh" "key" "I") (List.mem_of_getElem? (i := 1) rfl)
  unfold m_X4_keyToTell at h
  refine lv_aload_n hx hb dX4_keyToTell_0 rfl (lv_at hl 0 rfl) ?_
  refine lv_iload_n hx hb dX4_keyToTell_1 rfl (lv_at hl 1 rfl) ?_
  obtain ⟨⟨r2, g3⟩, q1, h⟩ := bnd h
  try dsimp only at h
  refine fw_calli (va_runV (As := [.int a0]) (rest := []) ⟨hx, hb, hml, hown, hts⟩ (c_X4_tellsByNext l hok hn q1) (cwV 1 hts gX4_keyToTell_X4_tellsByNext rfl rfl rfl qv_X4_tellsByNext ⟨Nat.le_of_ble_eq_true rfl, Nat.le_of_ble_eq_true rfl⟩) (fw_preV hok hE hF (b2 hn) (cm2 κ _ _) rfl) rfl rfl hl.1 rfl (lv_room (Nat.le_of_ble_eq_true rfl)) dX4_keyToTell_2 ⟨Nat.le_refl _, Nat.le_refl _⟩) hS (fun H locs hF hS => ?_)
  refine lv_if_eq (tgt := 17) hx hb dX4_keyToTell_5 (by decide) (fun c5 => ?_) (fun c5 => ?_)
  · have h := ift h c5
    refine lv_aload_n hx hb dX4_keyToTell_17 rfl (lv_at hl 0 rfl) ?_
    refine fw_get (C := RX4) (T := TX4) (N := 11) (ci := 4) (v := .int (g3 2 0 4)) hx hb hL4 hown hE hF (b2 hn) (cm2 κ _ _) rfl 4 (by decide) kw1 rfl dX4_keyToTell_18 ?_
    exact fw_iret hx hb hr hlk h hF hS dX4_keyToTell_21
  · have h := iff0 h c5
    refine lv_aload_n hx hb dX4_keyToTell_8 rfl (lv_at hl 0 rfl) ?_
    refine fw_get (C := RX4) (T := TX4) (N := 11) (ci := 4) (v := .int (g3 2 0 4)) hx hb hL4 hown hE hF (b2 hn) (cm2 κ _ _) rfl 4 (by decide) kw1 rfl dX4_keyToTell_9 ?_
    refine lv_iconst (v := (1 : Int32)) hx hb dX4_keyToTell_12 (by decide) ?_
    refine lv_iadd hx hb dX4_keyToTell_13 ?_
    refine lv_goto (tgt := 21) hx hb dX4_keyToTell_14 (by decide) ?_
    exact fw_iret hx hb hr hlk h hF hS dX4_keyToTell_21
def m_X4_knows (g : Mem) (a0 a1 : Int32) : Option (Int32 × Mem) := if (a1 < 0 ∨ 2000 ≤ a1.toNatClampNeg) then none else (if (g 5 0 (a1.toNatClampNeg)) = (g 2 0 4) then (m_X5_isIn (g 2 0 6) a0).bind (fun r8 => (if r8 = 0 then (if (g 5 0 (a1.toNatClampNeg)) = ((g 2 0 4) + ((1 : Int32))) then (m_X5_isIn (g 2 0 7) a0).bind (fun r12 => (if r12 = 0 then some ((0 : Int32), g) else some ((1 : Int32), g))) else some ((0 : Int32), g)) else some ((1 : Int32), g))) else (if (g 5 0 (a1.toNatClampNeg)) = ((g 2 0 4) + ((1 : Int32))) then (m_X5_isIn (g 2 0 7) a0).bind (fun r5 => (if r5 = 0 then some ((0 : Int32), g) else some ((1 : Int32), g))) else some ((0 : Int32), g)))
set_option maxHeartbeats 4000000 in
set_option maxRecDepth 100000 in
theorem c_X4_knows (l : Launch) {κ : Cx} (hok : fok (cφ κ)) (hn : 1 ≤ cn κ)  {g : Mem} {a0 a1 : Int32} {u : Int32 × Mem} (h : m_X4_knows g a0 a1 = some u) : fM l (cφ κ) yX4_knows wsX4_knows 1 21 [.ref (fa (cφ κ) 2 0), .int a0, .int a1] g (some (.int u.1)) u.2 := by
  refine fM.of (cc := cX4_knows) (maxL := 4) (ret := (some .boolean)) [(0, .ref (fa (cφ κ) 2 0)), (1, .int a0), (2, .int a1)] (by decide) rfl (Nat.le_of_ble_eq_true rfl) rfl (fun p e s m below meth c ls hx hb hr hml hown hts hlk hE hF hS hl => ?_)
  replace hown : s.vm.findClass RX4 = some m.cls := hown
  have hL2 : ∀ w ∈ u_ws RX2 TX2 3, w.before ([.ref (fa (cφ κ) 2 0), .int a0, .int a1] : List Value).toArray s = true := fun w hw => hts w (by
    unfold wsX4_knows
    simp only [List.mem_cons, List.mem_append]
    exact Or.inr (Or.inr hw))
  have hL4 : ∀ w ∈ u_ws RX4 TX4 11, w.before ([.ref (fa (cφ κ) 2 0), .int a0, .int a1] : List Value).toArray s = true := fun w hw => hts w (by
    unfold wsX4_knows
    simp only [List.mem_cons, List.mem_append]
    exact Or.inr (Or.inl (Or.inr hw)))
  have kw1 := hts (.fieldLink RX4 20 "MeshLamps$Mesh" "letters" "LMeshLamps$Letters;") (List.mem_of_getElem? (i := 1) rfl)
  have kw2 := hts (.fieldLink RX4 75 "MeshLamps$Letters" "key" "[I") (List.mem_of_getElem? (i := 2) rfl)
  have kw3 := hts (.fieldLink RX4 35 "MeshLamps$Mesh" "key" "I") (List.mem_of_getElem? (i := 3) rfl)
  have kw5 := hts (.fieldLink RX4 44 "MeshLamps$Mesh" "haveNext" "I") (List.mem_of_getElem? (i := 5) rfl)
  have kw7 := hts (.initialized RX5) (List.mem_of_getElem? (i := 7) rfl)
  have kw6 := hts (.static yX5_isIn) (List.mem_of_getElem? (i := 6) rfl)
  have kw4 := hts (.fieldLink RX4 41 "MeshLamps$Mesh" "haveKey" "I") (List.mem_of_getElem? (i := 4) rfl)
  unfold m_X4_knows at h
  refine lv_aload_n hx hb dX4_knows_0 rfl (lv_at hl 0 rfl) ?_
  refine fw_get (C := RX4) (T := TX4) (N := 11) (ci := 4) (v := .ref (fa (cφ κ) 4 0)) hx hb hL4 hown hE hF (b2 hn) (cm2 κ _ _) rfl 1 (by decide) kw1 rfl dX4_knows_1 ?_
  refine fw_get (C := RX2) (T := TX2) (N := 3) (ci := 2) (v := .ref (fa (cφ κ) 5 0)) hx hb hL2 hown hE hF (b4 hn) (cm4 κ _ _) rfl 0 (by decide) kw2 rfl dX4_knows_4 ?_
  refine lv_iload_n hx hb dX4_knows_7 rfl (lv_at hl 2 rfl) ?_
  obtain ⟨k1, h⟩ := ck h
  refine fw_iald (q := a1.toNatClampNeg) hx hb hE hF (b5 hn) (cm5 κ _) 0 rfl k1 rfl dX4_knows_8 ?_
  refine lv_istore_n (lv' := [(3, .int (g 5 0 (a1.toNatClampNeg))), (0, .ref (fa (cφ κ) 2 0)), (1, .int a0), (2, .int a1)]) hx hb dX4_knows_9 rfl hl (by decide) rfl (fun ls hl => ?_)
  refine lv_iload_n hx hb dX4_knows_10 rfl (lv_at hl 0 rfl) ?_
  refine lv_aload_n hx hb dX4_knows_11 rfl (lv_at hl 1 rfl) ?_
  refine fw_get (C := RX4) (T := TX4) (N := 11) (ci := 4) (v := .int (g 2 0 4)) hx hb hL4 hown hE hF (b2 hn) (cm2 κ _ _) rfl 4 (by decide) kw3 rfl dX4_knows_12 ?_
  refine lv_icmp_ne (tgt := 29) hx hb dX4_knows_15 (by decide) (fun c2 => ?_) (fun c2 => ?_)
  · have h := iff0 h c2
    refine lv_iload_n hx hb dX4_knows_29 rfl (lv_at hl 0 rfl) ?_
    refine lv_aload_n hx hb dX4_knows_30 rfl (lv_at hl 1 rfl) ?_
    refine fw_get (C := RX4) (T := TX4) (N := 11) (ci := 4) (v := .int (g 2 0 4)) hx hb hL4 hown hE hF (b2 hn) (cm2 κ _ _) rfl 4 (by decide) kw3 rfl dX4_knows_31 ?_
    refine lv_iconst (v := (1 : Int32)) hx hb dX4_knows_34 (by decide) ?_
    refine lv_iadd hx hb dX4_knows_35 ?_
    refine lv_icmp_ne (tgt := 54) hx hb dX4_knows_36 (by decide) (fun c3 => ?_) (fun c3 => ?_)
    · have h := iff0 h c3
      refine lv_iconst (v := (0 : Int32)) hx hb dX4_knows_54 (by decide) ?_
      exact fw_zret hx hb hr hlk rfl h hF hS dX4_knows_55
    · have h := ift h c3
      refine lv_aload_n hx hb dX4_knows_39 rfl (lv_at hl 1 rfl) ?_
      refine fw_get (C := RX4) (T := TX4) (N := 11) (ci := 4) (v := .int (g 2 0 7)) hx hb hL4 hown hE hF (b2 hn) (cm2 κ _ _) rfl 7 (by decide) kw5 rfl dX4_knows_40 ?_
      refine lv_iload_n hx hb dX4_knows_43 rfl (lv_at hl 2 rfl) ?_
      obtain ⟨r5, q4, h⟩ := bnd h
      try dsimp only at h
      refine pw_call (va_runSN (As := [.int (g 2 0 7), .int a0]) (rest := []) ⟨hx, hb, hml, hown, hts⟩ (c_X5_isIn l q4) ⟨va_cnB 2 hts gX4_knows_X5_isIn_n67 rfl rfl rfl (hE.2 _ (List.mem_of_getElem? (i := 0) rfl)) kw7 qs_X5_isIn ⟨Nat.le_of_ble_eq_true rfl, Nat.le_of_ble_eq_true rfl⟩, kw6, trivial⟩ preEq rfl rfl hl.1 rfl (lv_room (Nat.le_of_ble_eq_true rfl)) dX4_knows_44 ⟨Nat.le_refl _, Nat.le_refl _⟩) ?_
      refine lv_if_eq (tgt := 54) hx hb dX4_knows_47 (by decide) (fun c6 => ?_) (fun c6 => ?_)
      · have h := ift h c6
        refine lv_iconst (v := (0 : Int32)) hx hb dX4_knows_54 (by decide) ?_
        exact fw_zret hx hb hr hlk rfl h hF hS dX4_knows_55
      · have h := iff0 h c6
        refine lv_iconst (v := (1 : Int32)) hx hb dX4_knows_50 (by decide) ?_
        refine lv_goto (tgt := 55) hx hb dX4_knows_51 (by decide) ?_
        exact fw_zret hx hb hr hlk rfl h hF hS dX4_knows_55
  · have h := ift h c2
    refine lv_aload_n hx hb dX4_knows_18 rfl (lv_at hl 1 rfl) ?_
    refine fw_get (C := RX4) (T := TX4) (N := 11) (ci := 4) (v := .int (g 2 0 6)) hx hb hL4 hown hE hF (b2 hn) (cm2 κ _ _) rfl 6 (by decide) kw4 rfl dX4_knows_19 ?_
    refine lv_iload_n hx hb dX4_knows_22 rfl (lv_at hl 2 rfl) ?_
    obtain ⟨r8, q7, h⟩ := bnd h
    try dsimp only at h
    refine pw_call (va_runSN (As := [.int (g 2 0 6), .int a0]) (rest := []) ⟨hx, hb, hml, hown, hts⟩ (c_X5_isIn l q7) ⟨va_cnB 2 hts gX4_knows_X5_isIn_n67 rfl rfl rfl (hE.2 _ (List.mem_of_getElem? (i := 0) rfl)) kw7 qs_X5_isIn ⟨Nat.le_of_ble_eq_true rfl, Nat.le_of_ble_eq_true rfl⟩, kw6, trivial⟩ preEq rfl rfl hl.1 rfl (lv_room (Nat.le_of_ble_eq_true rfl)) dX4_knows_23 ⟨Nat.le_refl _, Nat.le_refl _⟩) ?_
    refine lv_if_ne (tgt := 50) hx hb dX4_knows_26 (by decide) (fun c9 => ?_) (fun c9 => ?_)
    · have h := iff0 h c9
      refine lv_iconst (v := (1 : Int32)) hx hb dX4_knows_50 (by decide) ?_
      refine lv_goto (tgt := 55) hx hb dX4_knows_51 (by decide) ?_
      exact fw_zret hx hb hr hlk rfl h hF hS dX4_knows_55
    · have h := ift h c9
      refine lv_iload_n hx hb dX4_knows_29 rfl (lv_at hl 0 rfl) ?_
      refine lv_aload_n hx hb dX4_knows_30 rfl (lv_at hl 1 rfl) ?_
      refine fw_get (C := RX4) (T := TX4) (N := 11) (ci := 4) (v := .int (g 2 0 4)) hx hb hL4 hown hE hF (b2 hn) (cm2 κ _ _) rfl 4 (by decide) kw3 rfl dX4_knows_31 ?_
      refine lv_iconst (v := (1 : Int32)) hx hb dX4_knows_34 (by decide) ?_
      refine lv_iadd hx hb dX4_knows_35 ?_
      refine lv_icmp_ne (tgt := 54) hx hb dX4_knows_36 (by decide) (fun c10 => ?_) (fun c10 => ?_)
      · have h := iff0 h c10
        refine lv_iconst (v := (0 : Int32)) hx hb dX4_knows_54 (by decide) ?_
        exact fw_zret hx hb hr hlk rfl h hF hS dX4_knows_55
      · have h := ift h c10
        refine lv_aload_n hx hb dX4_knows_39 rfl (lv_at hl 1 rfl) ?_
        refine fw_get (C := RX4) (T := TX4) (N := 11) (ci := 4) (v := .int (g 2 0 7)) hx hb hL4 hown hE hF (b2 hn) (cm2 κ _ _) rfl 7 (by decide) kw5 rfl dX4_knows_40 ?_
        refine lv_iload_n hx hb dX4_knows_43 rfl (lv_at hl 2 rfl) ?_
        obtain ⟨r12, q11, h⟩ := bnd h
        try dsimp only at h
        refine pw_call (va_runSN (As := [.int (g 2 0 7), .int a0]) (rest := []) ⟨hx, hb, hml, hown, hts⟩ (c_X5_isIn l q11) ⟨va_cnB 2 hts gX4_knows_X5_isIn_n67 rfl rfl rfl (hE.2 _ (List.mem_of_getElem? (i := 0) rfl)) kw7 qs_X5_isIn ⟨Nat.le_of_ble_eq_true rfl, Nat.le_of_ble_eq_true rfl⟩, kw6, trivial⟩ preEq rfl rfl hl.1 rfl (lv_room (Nat.le_of_ble_eq_true rfl)) dX4_knows_44 ⟨Nat.le_refl _, Nat.le_refl _⟩) ?_
        refine lv_if_eq (tgt := 54) hx hb dX4_knows_47 (by decide) (fun c13 => ?_) (fun c13 => ?_)
        · have h := ift h c13
          refine lv_iconst (v := (0 : Int32)) hx hb dX4_knows_54 (by decide) ?_
          exact fw_zret hx hb hr hlk rfl h hF hS dX4_knows_55
        · have h := iff0 h c13
          refine lv_iconst (v := (1 : Int32)) hx hb dX4_knows_50 (by decide) ?_
          refine lv_goto (tgt := 55) hx hb dX4_knows_51 (by decide) ?_
          exact fw_zret hx hb hr hlk rfl h hF hS dX4_knows_55
def m_X4_isMeant (g : Mem) (a0 a1 : Int32) : Option (Int32 × Mem) := if (a1 < 0 ∨ 2000 ≤ a1.toNatClampNeg) then none else (if ((10 : Int32)) ≤ (g 6 0 (a1.toNatClampNeg)) then if (a0 < 0 ∨ 10 ≤ a0.toNatClampNeg) then none else (m_X5_isIn (g 14 (a0.toNatClampNeg) 3) ((g 6 0 (a1.toNatClampNeg)) - ((10 : Int32)))).bind (fun r6 => if ¬ (r6 = 0 ∨ r6 = 1) then none else some (r6, g)) else (if (g 6 0 (a1.toNatClampNeg)) = a0 then some ((1 : Int32), g) else some ((0 : Int32), g)))
set_option maxHeartbeats 4000000 in
set_option maxRecDepth 100000 in
theorem c_X4_isMeant (l : Launch) {κ : Cx} (hok : fok (cφ κ)) (hn : 1 ≤ cn κ)  {g : Mem} {a0 a1 : Int32} {u : Int32 × Mem} (h : m_X4_isMeant g a0 a1 = some u) : fM l (cφ κ) yX4_isMeant wsX4_isMeant 1 21 [.ref (fa (cφ κ) 2 0), .int a0, .int a1] g (some (.int u.1)) u.2 := by
  refine fM.of (cc := cX4_isMeant) (maxL := 4) (ret := (some .boolean)) [(0, .ref (fa (cφ κ) 2 0)), (1, .int a0), (2, .int a1)] (by decide) rfl (Nat.le_of_ble_eq_true rfl) rfl (fun p e s m below meth c ls hx hb hr hml hown hts hlk hE hF hS hl => ?_)
  replace hown : s.vm.findClass RX4 = some m.cls := hown
  have hL1 : ∀ w ∈ u_ws RX1 TX1 15, w.before ([.ref (fa (cφ κ) 2 0), .int a0, .int a1] : List Value).toArray s = true := fun w hw => hts w (by
    unfold wsX4_isMeant
    simp only [List.mem_cons, List.mem_append]
    exact Or.inr (Or.inr hw))
  have hL2 : ∀ w ∈ u_ws RX2 TX2 3, w.before ([.ref (fa (cφ κ) 2 0), .int a0, .int a1] : List Value).toArray s = true := fun w hw => hts w (by
    unfold wsX4_isMeant
    simp only [List.mem_cons, List.mem_append]
    exact Or.inr (Or.inl (Or.inr hw)))
  have hL4 : ∀ w ∈ u_ws RX4 TX4 11, w.before ([.ref (fa (cφ κ) 2 0), .int a0, .int a1] : List Value).toArray s = true := fun w hw => hts w (by
    unfold wsX4_isMeant
    simp only [List.mem_cons, List.mem_append]
    exact Or.inr (Or.inl (Or.inl (Or.inr hw))))
  have kw1 := hts (.fieldLink RX4 20 "MeshLamps$Mesh" "letters" "LMeshLamps$Letters;") (List.mem_of_getElem? (i := 1) rfl)
  have kw2 := hts (.fieldLink RX4 78 "MeshLamps$Letters" "aim" "[I") (List.mem_of_getElem? (i := 2) rfl)
  have kw3 := hts (.fieldLink RX4 11 "MeshLamps$Mesh" "lamps" "[LMeshLamps$Lamp;") (List.mem_of_getElem? (i := 3) rfl)
  have kw4 := hts (.fieldLink RX4 81 "MeshLamps$Lamp" "settings" "[I") (List.mem_of_getElem? (i := 4) rfl)
  have kw6 := hts (.initialized RX5) (List.mem_of_getElem? (i := 6) rfl)
  have kw5 := hts (.static yX5_isIn) (List.mem_of_getElem? (i := 5) rfl)
  unfold m_X4_isMeant at h
  refine lv_aload_n hx hb dX4_isMeant_0 rfl (lv_at hl 0 rfl) ?_
  refine fw_get (C := RX4) (T := TX4) (N := 11) (ci := 4) (v := .ref (fa (cφ κ) 4 0)) hx hb hL4 hown hE hF (b2 hn) (cm2 κ _ _) rfl 1 (by decide) kw1 rfl dX4_isMeant_1 ?_
  refine fw_get (C := RX2) (T := TX2) (N := 3) (ci := 2) (v := .ref (fa (cφ κ) 6 0)) hx hb hL2 hown hE hF (b4 hn) (cm4 κ _ _) rfl 1 (by decide) kw2 rfl dX4_isMeant_4 ?_
  refine lv_iload_n hx hb dX4_isMeant_7 rfl (lv_at hl 2 rfl) ?_
  obtain ⟨k1, h⟩ := ck h
  refine fw_iald (q := a1.toNatClampNeg) hx hb hE hF (b6 hn) (cm6 κ _) 0 rfl k1 rfl dX4_isMeant_8 ?_
  refine lv_istore_n (lv' := [(3, .int (g 6 0 (a1.toNatClampNeg))), (0, .ref (fa (cφ κ) 2 0)), (1, .int a0), (2, .int a1)]) hx hb dX4_isMeant_9 rfl hl (by decide) rfl (fun ls hl => ?_)
  refine lv_iload_n hx hb dX4_isMeant_10 rfl (lv_at hl 0 rfl) ?_
  refine lv_bipush (v := (10 : Int32)) hx hb dX4_isMeant_11 (by decide) ?_
  refine lv_icmp_ge (tgt := 29) hx hb dX4_isMeant_13 (by decide) (fun c2 => ?_) (fun c2 => ?_)
  · have h := ift h c2
    refine lv_aload_n hx hb dX4_isMeant_29 rfl (lv_at hl 1 rfl) ?_
    refine fw_get (C := RX4) (T := TX4) (N := 11) (ci := 4) (v := .ref (fa (cφ κ) 3 0)) hx hb hL4 hown hE hF (b2 hn) (cm2 κ _ _) rfl 0 (by decide) kw3 rfl dX4_isMeant_30 ?_
    refine lv_iload_n hx hb dX4_isMeant_33 rfl (lv_at hl 2 rfl) ?_
    obtain ⟨k3, h⟩ := ck h
    refine fw_aald (a := fa (cφ κ) 13 (a0.toNatClampNeg)) hx hb hE hF (b3 hn) (cm3 κ _ _) 1 rfl k3 rfl dX4_isMeant_34 ?_
    refine fw_get (C := RX1) (T := TX1) (N := 15) (ci := 1) (v := .ref (fa (cφ κ) 14 (a0.toNatClampNeg))) hx hb hL1 hown hE hF (b13 hn (vpl k3)) (cm13 κ _ _) rfl 0 (by decide) kw4 rfl dX4_isMeant_35 ?_
    refine lv_iconst (v := (3 : Int32)) hx hb dX4_isMeant_38 (by decide) ?_
    refine fw_iald (q := 3) hx hb hE hF (b14 hn (vpl k3)) (cm14 κ _) 0 rfl (by decide) (by decide) dX4_isMeant_39 ?_
    refine lv_iload_n hx hb dX4_isMeant_40 rfl (lv_at hl 0 rfl) ?_
    refine lv_bipush (v := (10 : Int32)) hx hb dX4_isMeant_41 (by decide) ?_
    refine lv_isub hx hb dX4_isMeant_43 ?_
    obtain ⟨r6, q5, h⟩ := bnd h
    try dsimp only at h
    refine pw_call (va_runSN (As := [.int (g 14 (a0.toNatClampNeg) 3), .int ((g 6 0 (a1.toNatClampNeg)) - ((10 : Int32)))]) (rest := []) ⟨hx, hb, hml, hown, hts⟩ (c_X5_isIn l q5) ⟨va_cnB 2 hts gX4_isMeant_X5_isIn_n67 rfl rfl rfl (hE.2 _ (List.mem_of_getElem? (i := 0) rfl)) kw6 qs_X5_isIn ⟨Nat.le_of_ble_eq_true rfl, Nat.le_of_ble_eq_true rfl⟩, kw5, trivial⟩ preEq rfl rfl hl.1 rfl (lv_room (Nat.le_of_ble_eq_true rfl)) dX4_isMeant_44 ⟨Nat.le_refl _, Nat.le_refl _⟩) ?_
    obtain ⟨k7, h⟩ := ck h
    exact fw_zret hx hb hr hlk (zok k7).1 h hF hS dX4_isMeant_47
  · have h := iff0 h c2
    refine lv_iload_n hx hb dX4_isMeant_16 rfl (lv_at hl 0 rfl) ?_
    refine lv_iload_n hx hb dX4_isMeant_17 rfl (lv_at hl 2 rfl) ?_
    refine lv_icmp_ne (tgt := 25) hx hb dX4_isMeant_18 (by decide) (fun c8 => ?_) (fun c8 => ?_)
    · have h := iff0 h c8
      refine lv_iconst (v := (0 : Int32)) hx hb dX4_isMeant_25 (by decide) ?_
      refine lv_goto (tgt := 47) hx hb dX4_isMeant_26 (by decide) ?_
      exact fw_zret hx hb hr hlk rfl h hF hS dX4_isMeant_47
    · have h := ift h c8
      refine lv_iconst (v := (1 : Int32)) hx hb dX4_isMeant_21 (by decide) ?_
      refine lv_goto (tgt := 47) hx hb dX4_isMeant_22 (by decide) ?_
      exact fw_zret hx hb hr hlk rfl h hF hS dX4_isMeant_47
def m_X4_take (i0 : Nat) (g : Mem) (a1 : Int32) : Option (Int32 × Mem) := (m_X2_sourceOf a1).bind (fun r2 => (m_X2_numberOf a1).bind (fun r4 => if (r2 < 0 ∨ 10 ≤ r2.toNatClampNeg) then none else (if (g 15 i0 (r2.toNatClampNeg)) < r4 then if (r2 < 0 ∨ 10 ≤ r2.toNatClampNeg) then none else ltm (upr g 15 i0 (upd (g 15 i0) r2.toNatClampNeg r4)) (fun g8 => if (a1 < 0 ∨ 2000 ≤ a1.toNatClampNeg) then none else ltm (upr g8 13 i0 (upd (g8 13 i0) 5 (g8 7 0 (a1.toNatClampNeg)))) (fun g11 => ltm (upr g11 13 i0 (upd (g11 13 i0) 9 ((g11 13 i0 9) + ((1 : Int32))))) (fun g13 => some (0, g13)))) else ltm (upr g 13 i0 (upd (g 13 i0) 10 ((g 13 i0 10) + ((1 : Int32))))) (fun g15 => some (0, g15)))))
set_option maxHeartbeats 4000000 in
set_option maxRecDepth 100000 in
theorem c_X4_take (l : Launch) {κ : Cx} (hok : fok (cφ κ)) (hn : 1 ≤ cn κ) {i0 : Nat} (h0 : i0 < 10) {g : Mem} {a1 : Int32} {u : Int32 × Mem} (h : m_X4_take i0 g a1 = some u) : fM l (cφ κ) yX4_take wsX4_take 1 20 [.ref (fa (cφ κ) 2 0), .ref (fa (cφ κ) 13 i0), .int a1] g none u.2 := by
  refine fM.of (cc := cX4_take) (maxL := 5) (ret := none) [(0, .ref (fa (cφ κ) 2 0)), (1, .ref (fa (cφ κ) 13 i0)), (2, .int a1)] (by decide) rfl (Nat.le_of_ble_eq_true rfl) rfl (fun p e s m below meth c ls hx hb hr hml hown hts hlk hE hF hS hl => ?_)
  replace hown : s.vm.findClass RX4 = some m.cls := hown
  have hL1 : ∀ w ∈ u_ws RX1 TX1 15, w.before ([.ref (fa (cφ κ) 2 0), .ref (fa (cφ κ) 13 i0), .int a1] : List Value).toArray s = true := fun w hw => hts w (by
    unfold wsX4_take
    simp only [List.mem_cons, List.mem_append]
    exact Or.inr (Or.inl (Or.inl (Or.inr hw))))
  have hL2 : ∀ w ∈ u_ws RX2 TX2 3, w.before ([.ref (fa (cφ κ) 2 0), .ref (fa (cφ κ) 13 i0), .int a1] : List Value).toArray s = true := fun w hw => hts w (by
    unfold wsX4_take
    simp only [List.mem_cons, List.mem_append]
    exact Or.inr (Or.inr hw))
  have hL4 : ∀ w ∈ u_ws RX4 TX4 11, w.before ([.ref (fa (cφ κ) 2 0), .ref (fa (cφ κ) 13 i0), .int a1] : List Value).toArray s = true := fun w hw => hts w (by
    unfold wsX4_take
    simp only [List.mem_cons, List.mem_append]
    exact Or.inr (Or.inl (Or.inr hw)))
  have kw1 := hts (.fieldLink RX4 184 "MeshLamps$Lamp" "greatestTaken" "[I") (List.mem_of_getElem? (i := 1) rfl)
  have kw3 := hts (.fieldLink RX4 20 "MeshLamps$Mesh" "letters" "LMeshLamps$Letters;") (List.mem_of_getElem? (i := 3) rfl)
  have kw4 := hts (.fieldLink RX4 190 "MeshLamps$Letters" "value" "[I") (List.mem_of_getElem? (i := 4) rfl)
  have kw5 := hts (.fieldLink RX4 193 "MeshLamps$Lamp" "light" "I") (List.mem_of_getElem? (i := 5) rfl)
  have kw6 := hts (.fieldLink RX4 196 "MeshLamps$Lamp" "took" "I") (List.mem_of_getElem? (i := 6) rfl)
  have kw2 := hts (.fieldLink RX4 187 "MeshLamps$Lamp" "refusedAsOld" "I") (List.mem_of_getElem? (i := 2) rfl)
  unfold m_X4_take at h
  refine lv_iload_n hx hb dX4_take_0 rfl (lv_at hl 2 rfl) ?_
  obtain ⟨r2, q1, h⟩ := bnd h
  try dsimp only at h
  refine pw_call (va_runS (As := [.int a1]) (rest := []) ⟨hx, hb, hml, hown, hts⟩ (c_X2_sourceOf l q1) (va_cwS 1 hts gX4_take_X2_sourceOf rfl rfl rfl qs_X2_sourceOf ⟨Nat.le_of_ble_eq_true rfl, Nat.le_of_ble_eq_true rfl⟩) preEq rfl rfl hl.1 rfl (lv_room (Nat.le_of_ble_eq_true rfl)) dX4_take_1 ⟨Nat.le_refl _, Nat.le_refl _⟩) ?_
  refine lv_istore_n (lv' := [(3, .int r2), (0, .ref (fa (cφ κ) 2 0)), (1, .ref (fa (cφ κ) 13 i0)), (2, .int a1)]) hx hb dX4_take_4 rfl hl (by decide) rfl (fun ls hl => ?_)
  refine lv_iload_n hx hb dX4_take_5 rfl (lv_at hl 3 rfl) ?_
  obtain ⟨r4, q3, h⟩ := bnd h
  try dsimp only at h
  refine pw_call (va_runS (As := [.int a1]) (rest := []) ⟨hx, hb, hml, hown, hts⟩ (c_X2_numberOf l q3) (va_cwS 1 hts gX4_take_X2_numberOf rfl rfl rfl qs_X2_numberOf ⟨Nat.le_of_ble_eq_true rfl, Nat.le_of_ble_eq_true rfl⟩) preEq rfl rfl hl.1 rfl (lv_room (Nat.le_of_ble_eq_true rfl)) dX4_take_6 ⟨Nat.le_refl _, Nat.le_refl _⟩) ?_
  refine lv_istore (lv' := [(4, .int r4), (3, .int r2), (0, .ref (fa (cφ κ) 2 0)), (1, .ref (fa (cφ κ) 13 i0)), (2, .int a1)]) hx hb dX4_take_9 hl (by decide) rfl (fun ls hl => ?_)
  refine lv_iload hx hb dX4_take_11 (lv_at hl 0 rfl) ?_
  refine lv_aload_n hx hb dX4_take_13 rfl (lv_at hl 3 rfl) ?_
  refine fw_get (C := RX1) (T := TX1) (N := 15) (ci := 1) (v := .ref (fa (cφ κ) 15 i0)) hx hb hL1 hown hE hF (b13 hn h0) (cm13 κ _ _) rfl 1 (by decide) kw1 rfl dX4_take_14 ?_
  refine lv_iload_n hx hb dX4_take_17 rfl (lv_at hl 1 rfl) ?_
  obtain ⟨k5, h⟩ := ck h
  refine fw_iald (q := r2.toNatClampNeg) hx hb hE hF (b15 hn h0) (cm15 κ _) 0 rfl k5 rfl dX4_take_18 ?_
  refine lv_icmp_gt (tgt := 33) hx hb dX4_take_19 (by decide) (fun c6 => ?_) (fun c6 => ?_)
  · have h := ift h c6
    refine lv_aload_n hx hb dX4_take_33 rfl (lv_at hl 3 rfl) ?_
    refine fw_get (C := RX1) (T := TX1) (N := 15) (ci := 1) (v := .ref (fa (cφ κ) 15 i0)) hx hb hL1 hown hE hF (b13 hn h0) (cm13 κ _ _) rfl 1 (by decide) kw1 rfl dX4_take_34 ?_
    refine lv_iload_n hx hb dX4_take_37 rfl (lv_at hl 1 rfl) ?_
    refine lv_iload hx hb dX4_take_38 (lv_at hl 0 rfl) ?_
    obtain ⟨k7, h⟩ := ck h
    refine fw_iast (q := r2.toNatClampNeg) hx hb hE hok hF hS (b15 hn h0) (cm15 κ _) 0 rfl k7 rfl dX4_take_40 (fun H locs hF hS => ?_)
    obtain ⟨g8, e9, h⟩ := ltm_e h
    rw [e9] at hF
    refine lv_aload_n hx hb dX4_take_41 rfl (lv_at hl 3 rfl) ?_
    refine lv_aload_n hx hb dX4_take_42 rfl (lv_at hl 2 rfl) ?_
    refine fw_get (C := RX4) (T := TX4) (N := 11) (ci := 4) (v := .ref (fa (cφ κ) 4 0)) hx hb hL4 hown hE hF (b2 hn) (cm2 κ _ _) rfl 1 (by decide) kw3 rfl dX4_take_43 ?_
    refine fw_get (C := RX2) (T := TX2) (N := 3) (ci := 2) (v := .ref (fa (cφ κ) 7 0)) hx hb hL2 hown hE hF (b4 hn) (cm4 κ _ _) rfl 2 (by decide) kw4 rfl dX4_take_46 ?_
    refine lv_iload_n hx hb dX4_take_49 rfl (lv_at hl 4 rfl) ?_
    obtain ⟨k10, h⟩ := ck h
    refine fw_iald (q := a1.toNatClampNeg) hx hb hE hF (b7 hn) (cm7 κ _) 0 rfl k10 rfl dX4_take_50 ?_
    refine fw_put (C := RX1) (T := TX1) (N := 15) (ci := 1) (ty := .int) (v := .int (g8 7 0 (a1.toNatClampNeg))) (r := upd (g8 13 i0) 5 (g8 7 0 (a1.toNatClampNeg))) hx hb hL1 tyX1 tyX1_ok nmX1 hown hE hok hF hS (b13 hn h0) (cm13 κ _ _) rfl 5 (by decide) kw5 rfl (tyX1_ok 5 (by decide)) rfl rfl (Nat.le_of_ble_eq_true rfl) rfl dX4_take_51 (fun H locs hF hS => ?_)
    obtain ⟨g11, e12, h⟩ := ltm_e h
    rw [e12] at hF
    refine lv_aload_n hx hb dX4_take_54 rfl (lv_at hl 3 rfl) ?_
    refine lv_dup hx hb dX4_take_55 rfl ?_
    refine fw_get (C := RX1) (T := TX1) (N := 15) (ci := 1) (v := .int (g11 13 i0 9)) hx hb hL1 hown hE hF (b13 hn h0) (cm13 κ _ _) rfl 9 (by decide) kw6 rfl dX4_take_56 ?_
    refine lv_iconst (v := (1 : Int32)) hx hb dX4_take_59 (by decide) ?_
    refine lv_iadd hx hb dX4_take_60 ?_
    refine fw_put (C := RX1) (T := TX1) (N := 15) (ci := 1) (ty := .int) (v := .int ((g11 13 i0 9) + ((1 : Int32)))) (r := upd (g11 13 i0) 9 ((g11 13 i0 9) + ((1 : Int32)))) hx hb hL1 tyX1 tyX1_ok nmX1 hown hE hok hF hS (b13 hn h0) (cm13 κ _ _) rfl 9 (by decide) kw6 rfl (tyX1_ok 9 (by decide)) rfl rfl (Nat.le_of_ble_eq_true rfl) rfl dX4_take_61 (fun H locs hF hS => ?_)
    obtain ⟨g13, e14, h⟩ := ltm_e h
    rw [e14] at hF
    exact fw_vret hx hb hr hlk h hF hS dX4_take_64
  · have h := iff0 h c6
    refine lv_aload_n hx hb dX4_take_22 rfl (lv_at hl 3 rfl) ?_
    refine lv_dup hx hb dX4_take_23 rfl ?_
    refine fw_get (C := RX1) (T := TX1) (N := 15) (ci := 1) (v := .int (g 13 i0 10)) hx hb hL1 hown hE hF (b13 hn h0) (cm13 κ _ _) rfl 10 (by decide) kw2 rfl dX4_take_24 ?_
    refine lv_iconst (v := (1 : Int32)) hx hb dX4_take_27 (by decide) ?_
    refine lv_iadd hx hb dX4_take_28 ?_
    refine fw_put (C := RX1) (T := TX1) (N := 15) (ci := 1) (ty := .int) (v := .int ((g 13 i0 10) + ((1 : Int32)))) (r := upd (g 13 i0) 10 ((g 13 i0 10) + ((1 : Int32)))) hx hb hL1 tyX1 tyX1_ok nmX1 hown hE hok hF hS (b13 hn h0) (cm13 κ _ _) rfl 10 (by decide) kw2 rfl (tyX1_ok 10 (by decide)) rfl rfl (Nat.le_of_ble_eq_true rfl) rfl dX4_take_29 (fun H locs hF hS => ?_)
    obtain ⟨g15, e16, h⟩ := ltm_e h
    rw [e16] at hF
    exact fw_vret hx hb hr hlk h hF hS dX4_take_32
def st_X4_keepForSleepers_2 (F : Nat) (K : Mem → Int32 → Int32 → Int32 → Option (Int32 × Mem)) (g : Mem) (x1 x2 x3 : Int32) : Option (Int32 × Mem) := (if ((10 : Int32)) ≤ x3 then some (0, g) else if (x3 < 0 ∨ 10 ≤ x3.toNatClampNeg) then none else (if (g 13 (x3.toNatClampNeg) 6) = 0 then K g x1 x2 (x3 + (1 : Int32)) else (if (g 13 (x3.toNatClampNeg) 7) = x1 then (m_X4_isMeant g x3 x2).bind (fun (r6, g7) => (if r6 = 0 then K g7 x1 x2 (x3 + (1 : Int32)) else (m_X2_sourceOf x2).bind (fun r11 => (if r11 = x3 then K g7 x1 x2 (x3 + (1 : Int32)) else (m_X3_addk F (x3.toNatClampNeg) g7 x2 ((3 : Int32))).bind (fun (r14, g15) => K g15 x1 x2 (x3 + (1 : Int32))))))) else K g x1 x2 (x3 + (1 : Int32)))))
def lp_X4_keepForSleepers_2 (F : Nat) : Nat → Mem → Int32 → Int32 → Int32 → Option (Int32 × Mem)
  | 0, _, _, _, _ => none
  | f + 1, g, x1, x2, x3 => st_X4_keepForSleepers_2 F (lp_X4_keepForSleepers_2 F f ) g x1 x2 x3
def m_X4_keepForSleepers (F : Nat) (g : Mem) (a0 a1 : Int32) : Option (Int32 × Mem) := lp_X4_keepForSleepers_2 F F g a0 a1 ((0 : Int32))
set_option maxHeartbeats 4000000 in
set_option maxRecDepth 100000 in
theorem c_X4_keepForSleepers (l : Launch) {κ : Cx} (hok : fok (cφ κ)) (hn : 1 ≤ cn κ)  {F : Nat} {g : Mem} {a0 a1 : Int32} {u : Int32 × Mem} (h : m_X4_keepForSleepers F g a0 a1 = some u) : fM l (cφ κ) yX4_keepForSleepers wsX4_keepForSleepers 2 46 [.ref (fa (cφ κ) 2 0), .int a0, .int a1] g none u.2 := by
  refine fM.of (cc := cX4_keepForSleepers) (maxL := 5) (ret := none) [(0, .ref (fa (cφ κ) 2 0)), (1, .int a0), (2, .int a1)] (by decide) rfl (Nat.le_of_ble_eq_true rfl) rfl (fun p e s m below meth c ls hx hb hr hml hown hts hlk hE hF hS hl => ?_)
  replace hown : s.vm.findClass RX4 = some m.cls := hown
  have hL1 : ∀ w ∈ u_ws RX1 TX1 15, w.before ([.ref (fa (cφ κ) 2 0), .int a0, .int a1] : List Value).toArray s = true := fun w hw => hts w (by
    unfold wsX4_keepForSleepers
    simp only [List.mem_cons, List.mem_append]
    exact Or.inr (Or.inl (Or.inl (Or.inr hw))))
  have hL4 : ∀ w ∈ u_ws RX4 TX4 11, w.before ([.ref (fa (cφ κ) 2 0), .int a0, .int a1] : List Value).toArray s = true := fun w hw => hts w (by
    unfold wsX4_keepForSleepers
    simp only [List.mem_cons, List.mem_append]
    exact Or.inr (Or.inl (Or.inl (Or.inl (Or.inr hw)))))
  have kw1 := hts (.fieldLink RX4 11 "MeshLamps$Mesh" "lamps" "[LMeshLamps$Lamp;") (List.mem_of_getElem? (i := 1) rfl)
  have kw2 := hts (.fieldLink RX4 109 "MeshLamps$Lamp" "sleeps" "Z") (List.mem_of_getElem? (i := 2) rfl)
  have kw3 := hts (.fieldLink RX4 168 "MeshLamps$Lamp" "friend" "I") (List.mem_of_getElem? (i := 3) rfl)
  have kw4 := hts (.fieldLink RX4 171 "MeshLamps$Lamp" "kept" "LMeshLamps$Line;") (List.mem_of_getElem? (i := 4) rfl)
  unfold m_X4_keepForSleepers at h
  refine lv_iconst (v := (0 : Int32)) hx hb dX4_keepForSleepers_0 (by decide) ?_
  refine lv_istore_n (lv' := [(3, .int ((0 : Int32))), (0, .ref (fa (cφ κ) 2 0)), (1, .int a0), (2, .int a1)]) hx hb dX4_keepForSleepers_1 rfl hl (by decide) rfl (fun ls hl => ?_)
  have LOOP2 : ∀ (f : Nat) (g : Mem) (x1 x2 x3 : Int32) (H : Heap) (locs : List Loc) (ls : Array Slot), lp_X4_keepForSleepers_2 F f g x1 x2 x3 = some u → fw (cφ κ) g H → va_S (fA (cφ κ)) s.heap H locs → lv_has ls 5 [(0, .ref (fa (cφ κ) 2 0)), (1, .int x1), (2, .int x2), (3, .int x3)] → W p l e ({ frames := 2, cells := 0, slots := 0, locals := 46 }) s m ([.ref (fa (cφ κ) 2 0), .int a0, .int a1] : List Value).toArray below meth c H locs 0 0 (MQ below (fQ (cφ κ) none u.2) ([.ref (fa (cφ κ) 2 0), .int a0, .int a1] : List Value).toArray s 0 0 (fA (cφ κ))) (F0 m 2 ls []) := by
    intro f
    induction f with
    | zero => intro g x1 x2 x3 H locs ls h hF hS hl; cases h
    | succ f ih =>
      intro g x1 x2 x3 H locs ls h hF hS hl
      replace h : st_X4_keepForSleepers_2 F (lp_X4_keepForSleepers_2 F f ) g x1 x2 x3 = some u := h
      unfold st_X4_keepForSleepers_2 at h
      refine lv_iload_n hx hb dX4_keepForSleepers_2 rfl (lv_at hl 3 rfl) ?_
      refine lv_bipush (v := (10 : Int32)) hx hb dX4_keepForSleepers_3 (by decide) ?_
      refine lv_icmp_ge (tgt := 66) hx hb dX4_keepForSleepers_5 (by decide) (fun c1 => ?_) (fun c1 => ?_)
      · have h := ift h c1
        exact fw_vret hx hb hr hlk h hF hS dX4_keepForSleepers_66
      · have h := iff0 h c1
        refine lv_aload_n hx hb dX4_keepForSleepers_8 rfl (lv_at hl 0 rfl) ?_
        refine fw_get (C := RX4) (T := TX4) (N := 11) (ci := 4) (v := .ref (fa (cφ κ) 3 0)) hx hb hL4 hown hE hF (b2 hn) (cm2 κ _ _) rfl 0 (by decide) kw1 rfl dX4_keepForSleepers_9 ?_
        refine lv_iload_n hx hb dX4_keepForSleepers_12 rfl (lv_at hl 3 rfl) ?_
        obtain ⟨k2, h⟩ := ck h
        refine fw_aald (a := fa (cφ κ) 13 (x3.toNatClampNeg)) hx hb hE hF (b3 hn) (cm3 κ _ _) 1 rfl k2 rfl dX4_keepForSleepers_13 ?_
        refine lv_astore (lv' := [(4, .ref (fa (cφ κ) 13 (x3.toNatClampNeg))), (0, .ref (fa (cφ κ) 2 0)), (1, .int x1), (2, .int x2), (3, .int x3)]) hx hb dX4_keepForSleepers_14 hl (by decide) rfl (fun ls hl => ?_)
        refine lv_aload hx hb dX4_keepForSleepers_16 (lv_at hl 0 rfl) ?_
        refine fw_get (C := RX1) (T := TX1) (N := 15) (ci := 1) (v := .int (g 13 (x3.toNatClampNeg) 6)) hx hb hL1 hown hE hF (b13 hn (vpl k2)) (cm13 κ _ _) rfl 6 (by decide) kw2 rfl dX4_keepForSleepers_18 ?_
        refine lv_if_eq (tgt := 60) hx hb dX4_keepForSleepers_21 (by decide) (fun c3 => ?_) (fun c3 => ?_)
        · have h := ift h c3
          refine lv_iinc (v := x3 + (1 : Int32)) (lv' := [(3, .int (x3 + (1 : Int32))), (4, .ref (fa (cφ κ) 13 (x3.toNatClampNeg))), (0, .ref (fa (cφ κ) 2 0)), (1, .int x1), (2, .int x2)]) hx hb dX4_keepForSleepers_60 hl (k := 4) rfl rfl (by decide) rfl (fun ls hl => ?_)
          refine lv_goto (tgt := 2) hx hb dX4_keepForSleepers_63 (by decide) ?_
          exact ih g x1 x2 (x3 + (1 : Int32)) H locs ls h hF hS (lv_sub hl [2, 3, 4, 0] rfl)
        · have h := iff0 h c3
          refine lv_aload hx hb dX4_keepForSleepers_24 (lv_at hl 0 rfl) ?_
          refine fw_get (C := RX1) (T := TX1) (N := 15) (ci := 1) (v := .int (g 13 (x3.toNatClampNeg) 7)) hx hb hL1 hown hE hF (b13 hn (vpl k2)) (cm13 κ _ _) rfl 7 (by decide) kw3 rfl dX4_keepForSleepers_26 ?_
          refine lv_iload_n hx hb dX4_keepForSleepers_29 rfl (lv_at hl 2 rfl) ?_
          refine lv_icmp_ne (tgt := 60) hx hb dX4_keepForSleepers_30 (by decide) (fun c4 => ?_) (fun c4 => ?_)
          · have h := iff0 h c4
            refine lv_iinc (v := x3 + (1 : Int32)) (lv' := [(3, .int (x3 + (1 : Int32))), (4, .ref (fa (cφ κ) 13 (x3.toNatClampNeg))), (0, .ref (fa (cφ κ) 2 0)), (1, .int x1), (2, .int x2)]) hx hb dX4_keepForSleepers_60 hl (k := 4) rfl rfl (by decide) rfl (fun ls hl => ?_)
            refine lv_goto (tgt := 2) hx hb dX4_keepForSleepers_63 (by decide) ?_
            exact ih g x1 x2 (x3 + (1 : Int32)) H locs ls h hF hS (lv_sub hl [2, 3, 4, 0] rfl)
          · have h := ift h c4
            refine lv_aload_n hx hb dX4_keepForSleepers_33 rfl (lv_at hl 1 rfl) ?_
            refine lv_iload_n hx hb dX4_keepForSleepers_34 rfl (lv_at hl 4 rfl) ?_
            refine lv_iload_n hx hb dX4_keepForSleepers_35 rfl (lv_at hl 3 rfl) ?_
            obtain ⟨⟨r6, g7⟩, q5, h⟩ := bnd h
            try dsimp only at h
            refine fw_calli (va_runV (As := [.int x3, .int x2]) (rest := []) ⟨hx, hb, hml, hown, hts⟩ (c_X4_isMeant l hok hn q5) (cwV 2 hts gX4_keepForSleepers_X4_isMeant rfl rfl rfl qv_X4_isMeant ⟨Nat.le_of_ble_eq_true rfl, Nat.le_of_ble_eq_true rfl⟩) (fw_preV hok hE hF (b2 hn) (cm2 κ _ _) rfl) rfl rfl hl.1 rfl (lv_room (Nat.le_of_ble_eq_true rfl)) dX4_keepForSleepers_36 ⟨Nat.le_refl _, Nat.le_refl _⟩) hS (fun H locs hF hS => ?_)
            refine lv_if_eq (tgt := 60) hx hb dX4_keepForSleepers_39 (by decide) (fun c9 => ?_) (fun c9 => ?_)
            · have h := ift h c9
              refine lv_iinc (v := x3 + (1 : Int32)) (lv' := [(3, .int (x3 + (1 : Int32))), (4, .ref (fa (cφ κ) 13 (x3.toNatClampNeg))), (0, .ref (fa (cφ κ) 2 0)), (1, .int x1), (2, .int x2)]) hx hb dX4_keepForSleepers_60 hl (k := 4) rfl rfl (by decide) rfl (fun ls hl => ?_)
              refine lv_goto (tgt := 2) hx hb dX4_keepForSleepers_63 (by decide) ?_
              exact ih g7 x1 x2 (x3 + (1 : Int32)) H locs ls h hF hS (lv_sub hl [2, 3, 4, 0] rfl)
            · have h := iff0 h c9
              refine lv_iload_n hx hb dX4_keepForSleepers_42 rfl (lv_at hl 3 rfl) ?_
              obtain ⟨r11, q10, h⟩ := bnd h
              try dsimp only at h
              refine pw_call (va_runS (As := [.int x2]) (rest := []) ⟨hx, hb, hml, hown, hts⟩ (c_X2_sourceOf l q10) (va_cwS 1 hts gX4_keepForSleepers_X2_sourceOf rfl rfl rfl qs_X2_sourceOf ⟨Nat.le_of_ble_eq_true rfl, Nat.le_of_ble_eq_true rfl⟩) preEq rfl rfl hl.1 rfl (lv_room (Nat.le_of_ble_eq_true rfl)) dX4_keepForSleepers_43 ⟨Nat.le_refl _, Nat.le_refl _⟩) ?_
              refine lv_iload_n hx hb dX4_keepForSleepers_46 rfl (lv_at hl 4 rfl) ?_
              refine lv_icmp_eq (tgt := 60) hx hb dX4_keepForSleepers_47 (by decide) (fun c12 => ?_) (fun c12 => ?_)
              · have h := ift h c12
                refine lv_iinc (v := x3 + (1 : Int32)) (lv' := [(3, .int (x3 + (1 : Int32))), (4, .ref (fa (cφ κ) 13 (x3.toNatClampNeg))), (0, .ref (fa (cφ κ) 2 0)), (1, .int x1), (2, .int x2)]) hx hb dX4_keepForSleepers_60 hl (k := 4) rfl rfl (by decide) rfl (fun ls hl => ?_)
                refine lv_goto (tgt := 2) hx hb dX4_keepForSleepers_63 (by decide) ?_
                exact ih g7 x1 x2 (x3 + (1 : Int32)) H locs ls h hF hS (lv_sub hl [2, 3, 4, 0] rfl)
              · have h := iff0 h c12
                refine lv_aload hx hb dX4_keepForSleepers_50 (lv_at hl 0 rfl) ?_
                refine fw_get (C := RX1) (T := TX1) (N := 15) (ci := 1) (v := .ref (fa (cφ κ) 18 (x3.toNatClampNeg))) hx hb hL1 hown hE hF (b13 hn (vpl k2)) (cm13 κ _ _) rfl 3 (by decide) kw4 rfl dX4_keepForSleepers_52 ?_
                refine lv_iload_n hx hb dX4_keepForSleepers_55 rfl (lv_at hl 3 rfl) ?_
                refine lv_iconst (v := (3 : Int32)) hx hb dX4_keepForSleepers_56 (by decide) ?_
                obtain ⟨⟨r14, g15⟩, q13, h⟩ := bnd h
                try dsimp only at h
                refine fw_callv (va_runV (As := [.int x2, .int ((3 : Int32))]) (rest := []) ⟨hx, hb, hml, hown, hts⟩ (c_X3_addk l hok hn (vpl k2) q13) (cwV 2 hts gX4_keepForSleepers_X3_add rfl rfl rfl qv_X3_add ⟨Nat.le_of_ble_eq_true rfl, Nat.le_of_ble_eq_true rfl⟩) (fw_preV hok hE hF (b18 hn (vpl k2)) (cm18 κ _ _) rfl) rfl rfl hl.1 rfl (lv_room (Nat.le_of_ble_eq_true rfl)) dX4_keepForSleepers_57 ⟨Nat.le_refl _, Nat.le_refl _⟩) hS (fun H locs hF hS => ?_)
                refine lv_iinc (v := x3 + (1 : Int32)) (lv' := [(3, .int (x3 + (1 : Int32))), (4, .ref (fa (cφ κ) 13 (x3.toNatClampNeg))), (0, .ref (fa (cφ κ) 2 0)), (1, .int x1), (2, .int x2)]) hx hb dX4_keepForSleepers_60 hl (k := 4) rfl rfl (by decide) rfl (fun ls hl => ?_)
                refine lv_goto (tgt := 2) hx hb dX4_keepForSleepers_63 (by decide) ?_
                exact ih g15 x1 x2 (x3 + (1 : Int32)) H locs ls h hF hS (lv_sub hl [2, 3, 4, 0] rfl)
  exact LOOP2 F g a0 a1 ((0 : Int32)) _ _ ls h hF hS (lv_sub hl [1, 2, 3, 0] rfl)
def m_X4_passOn (g : Mem) (a0 a1 a2 : Int32) : Option (Int32 × Mem) := (m_X0_isFull g ).bind (fun (r2, g3) => (if r2 = 0 then if (a0 < 0 ∨ 10 ≤ a0.toNatClampNeg) then none else (m_X0_add g3 a0 ((g3 2 0 3) + (g3 14 (a0.toNatClampNeg) 0)) a1 a2).bind (fun (r9, g10) => some (0, g10)) else ltm (upr g3 2 0 (upd (g3 2 0) 9 ((g3 2 0 9) + ((1 : Int32))))) (fun g12 => some (0, g12))))
set_option maxHeartbeats 4000000 in
set_option maxRecDepth 100000 in
theorem c_X4_passOn (l : Launch) {κ : Cx} (hok : fok (cφ κ)) (hn : 1 ≤ cn κ)  {g : Mem} {a0 a1 a2 : Int32} {u : Int32 × Mem} (h : m_X4_passOn g a0 a1 a2 = some u) : fM l (cφ κ) yX4_passOn wsX4_passOn 2 44 [.ref (fa (cφ κ) 2 0), .int a0, .int a1, .int a2] g none u.2 := by
  refine fM.of (cc := cX4_passOn) (maxL := 4) (ret := none) [(0, .ref (fa (cφ κ) 2 0)), (1, .int a0), (2, .int a1), (3, .int a2)] (by decide) rfl (Nat.le_of_ble_eq_true rfl) rfl (fun p e s m below meth c ls hx hb hr hml hown hts hlk hE hF hS hl => ?_)
  replace hown : s.vm.findClass RX4 = some m.cls := hown
  have hL1 : ∀ w ∈ u_ws RX1 TX1 15, w.before ([.ref (fa (cφ κ) 2 0), .int a0, .int a1, .int a2] : List Value).toArray s = true := fun w hw => hts w (by
    unfold wsX4_passOn
    simp only [List.mem_cons, List.mem_append]
    exact Or.inr (Or.inl (Or.inr hw)))
  have hL4 : ∀ w ∈ u_ws RX4 TX4 11, w.before ([.ref (fa (cφ κ) 2 0), .int a0, .int a1, .int a2] : List Value).toArray s = true := fun w hw => hts w (by
    unfold wsX4_passOn
    simp only [List.mem_cons, List.mem_append]
    exact Or.inr (Or.inl (Or.inl (Or.inr hw))))
  have kw1 := hts (.fieldLink RX4 27 "MeshLamps$Mesh" "air" "LMeshLamps$Air;") (List.mem_of_getElem? (i := 1) rfl)
  have kw3 := hts (.fieldLink RX4 31 "MeshLamps$Mesh" "tick" "I") (List.mem_of_getElem? (i := 3) rfl)
  have kw4 := hts (.fieldLink RX4 11 "MeshLamps$Mesh" "lamps" "[LMeshLamps$Lamp;") (List.mem_of_getElem? (i := 4) rfl)
  have kw5 := hts (.fieldLink RX4 81 "MeshLamps$Lamp" "settings" "[I") (List.mem_of_getElem? (i := 5) rfl)
  have kw2 := hts (.fieldLink RX4 50 "MeshLamps$Mesh" "lostAsFull" "I") (List.mem_of_getElem? (i := 2) rfl)
  unfold m_X4_passOn at h
  refine lv_aload_n hx hb dX4_passOn_0 rfl (lv_at hl 0 rfl) ?_
  refine fw_get (C := RX4) (T := TX4) (N := 11) (ci := 4) (v := .ref (fa (cφ κ) 8 0)) hx hb hL4 hown hE hF (b2 hn) (cm2 κ _ _) rfl 2 (by decide) kw1 rfl dX4_passOn_1 ?_
  obtain ⟨⟨r2, g3⟩, q1, h⟩ := bnd h
  try dsimp only at h
  refine fw_calli (va_runV (As := []) (rest := []) ⟨hx, hb, hml, hown, hts⟩ (c_X0_isFull l hok hn q1) (cwV 0 hts gX4_passOn_X0_isFull rfl rfl rfl qv_X0_isFull ⟨Nat.le_of_ble_eq_true rfl, Nat.le_of_ble_eq_true rfl⟩) (fw_preV hok hE hF (b8 hn) (cm8 κ _ _) rfl) rfl rfl hl.1 rfl (lv_room (Nat.le_of_ble_eq_true rfl)) dX4_passOn_4 ⟨Nat.le_refl _, Nat.le_refl _⟩) hS (fun H locs hF hS => ?_)
  refine lv_if_eq (tgt := 21) hx hb dX4_passOn_7 (by decide) (fun c5 => ?_) (fun c5 => ?_)
  · have h := ift h c5
    refine lv_aload_n hx hb dX4_passOn_21 rfl (lv_at hl 0 rfl) ?_
    refine fw_get (C := RX4) (T := TX4) (N := 11) (ci := 4) (v := .ref (fa (cφ κ) 8 0)) hx hb hL4 hown hE hF (b2 hn) (cm2 κ _ _) rfl 2 (by decide) kw1 rfl dX4_passOn_22 ?_
    refine lv_iload_n hx hb dX4_passOn_25 rfl (lv_at hl 1 rfl) ?_
    refine lv_aload_n hx hb dX4_passOn_26 rfl (lv_at hl 0 rfl) ?_
    refine fw_get (C := RX4) (T := TX4) (N := 11) (ci := 4) (v := .int (g3 2 0 3)) hx hb hL4 hown hE hF (b2 hn) (cm2 κ _ _) rfl 3 (by decide) kw3 rfl dX4_passOn_27 ?_
    refine lv_aload_n hx hb dX4_passOn_30 rfl (lv_at hl 0 rfl) ?_
    refine fw_get (C := RX4) (T := TX4) (N := 11) (ci := 4) (v := .ref (fa (cφ κ) 3 0)) hx hb hL4 hown hE hF (b2 hn) (cm2 κ _ _) rfl 0 (by decide) kw4 rfl dX4_passOn_31 ?_
    refine lv_iload_n hx hb dX4_passOn_34 rfl (lv_at hl 1 rfl) ?_
    obtain ⟨k6, h⟩ := ck h
    refine fw_aald (a := fa (cφ κ) 13 (a0.toNatClampNeg)) hx hb hE hF (b3 hn) (cm3 κ _ _) 1 rfl k6 rfl dX4_passOn_35 ?_
    refine fw_get (C := RX1) (T := TX1) (N := 15) (ci := 1) (v := .ref (fa (cφ κ) 14 (a0.toNatClampNeg))) hx hb hL1 hown hE hF (b13 hn (vpl k6)) (cm13 κ _ _) rfl 0 (by decide) kw5 rfl dX4_passOn_36 ?_
    refine lv_iconst (v := (0 : Int32)) hx hb dX4_passOn_39 (by decide) ?_
    refine fw_iald (q := 0) hx hb hE hF (b14 hn (vpl k6)) (cm14 κ _) 0 rfl (by decide) (by decide) dX4_passOn_40 ?_
    refine lv_iadd hx hb dX4_passOn_41 ?_
    refine lv_iload_n hx hb dX4_passOn_42 rfl (lv_at hl 2 rfl) ?_
    refine lv_iload_n hx hb dX4_passOn_43 rfl (lv_at hl 3 rfl) ?_
    obtain ⟨⟨r9, g10⟩, q8, h⟩ := bnd h
    try dsimp only at h
    refine fw_callv (va_runV (As := [.int a0, .int ((g3 2 0 3) + (g3 14 (a0.toNatClampNeg) 0)), .int a1, .int a2]) (rest := []) ⟨hx, hb, hml, hown, hts⟩ (c_X0_add l hok hn q8) (cwV 4 hts gX4_passOn_X0_add rfl rfl rfl qv_X0_add ⟨Nat.le_of_ble_eq_true rfl, Nat.le_of_ble_eq_true rfl⟩) (fw_preV hok hE hF (b8 hn) (cm8 κ _ _) rfl) rfl rfl hl.1 rfl (lv_room (Nat.le_of_ble_eq_true rfl)) dX4_passOn_44 ⟨Nat.le_refl _, Nat.le_refl _⟩) hS (fun H locs hF hS => ?_)
    exact fw_vret hx hb hr hlk h hF hS dX4_passOn_47
  · have h := iff0 h c5
    refine lv_aload_n hx hb dX4_passOn_10 rfl (lv_at hl 0 rfl) ?_
    refine lv_dup hx hb dX4_passOn_11 rfl ?_
    refine fw_get (C := RX4) (T := TX4) (N := 11) (ci := 4) (v := .int (g3 2 0 9)) hx hb hL4 hown hE hF (b2 hn) (cm2 κ _ _) rfl 9 (by decide) kw2 rfl dX4_passOn_12 ?_
    refine lv_iconst (v := (1 : Int32)) hx hb dX4_passOn_15 (by decide) ?_
    refine lv_iadd hx hb dX4_passOn_16 ?_
    refine fw_put (C := RX4) (T := TX4) (N := 11) (ci := 4) (ty := .int) (v := .int ((g3 2 0 9) + ((1 : Int32)))) (r := upd (g3 2 0) 9 ((g3 2 0 9) + ((1 : Int32)))) hx hb hL4 tyX4 tyX4_ok nmX4 hown hE hok hF hS (b2 hn) (cm2 κ _ _) rfl 9 (by decide) kw2 rfl (tyX4_ok 9 (by decide)) rfl rfl (Nat.le_of_ble_eq_true rfl) rfl dX4_passOn_17 (fun H locs hF hS => ?_)
    obtain ⟨g12, e13, h⟩ := ltm_e h
    rw [e13] at hF
    exact fw_vret hx hb hr hlk h hF hS dX4_passOn_20
def m_X4_hear (F : Nat) (g : Mem) (a0 a1 a2 : Int32) : Option (Int32 × Mem) := if (a0 < 0 ∨ 10 ≤ a0.toNatClampNeg) then none else (m_X4_knows g a0 a1).bind (fun (r3, g4) => (if r3 = 0 then ltm (upr g4 13 (a0.toNatClampNeg) (upd (g4 13 (a0.toNatClampNeg)) 11 ((g4 13 (a0.toNatClampNeg) 11) + ((1 : Int32))))) (fun g55 => some (0, g55)) else (m_X3_holdsm F (a0.toNatClampNeg) g4 a1).bind (fun (r8, g9) => (if r8 = 0 then ltm (upr g9 13 (a0.toNatClampNeg) (upd (g9 13 (a0.toNatClampNeg)) 13 ((g9 13 (a0.toNatClampNeg) 13) + ((1 : Int32))))) (fun g12 => (m_X3_addm F (a0.toNatClampNeg) g12 a1 (g12 14 (a0.toNatClampNeg) 2)).bind (fun (r16, g17) => (m_X2_sourceOf a1).bind (fun r20 => (if r20 = a0 then some (0, g17) else (m_X4_isMeant g17 a0 a1).bind (fun (r23, g24) => (if r23 = 0 then (m_X4_keepForSleepers F g24 a0 a1).bind (fun (r28, g29) => (if a2 ≤ ((1 : Int32)) then some (0, g29) else (if (g29 14 (a0.toNatClampNeg) 1) = ((1 : Int32)) then (m_X4_passOn g29 a0 a1 (a2 - ((1 : Int32)))).bind (fun (r35, g36) => some (0, g36)) else some (0, g29)))) else (m_X4_take (a0.toNatClampNeg) g24 a1).bind (fun (r39, g40) => (m_X4_keepForSleepers F g40 a0 a1).bind (fun (r43, g44) => (if a2 ≤ ((1 : Int32)) then some (0, g44) else (if (g44 14 (a0.toNatClampNeg) 1) = ((1 : Int32)) then (m_X4_passOn g44 a0 a1 (a2 - ((1 : Int32)))).bind (fun (r50, g51) => some (0, g51)) else some (0, g44))))))))))) else ltm (upr g9 13 (a0.toNatClampNeg) (upd (g9 13 (a0.toNatClampNeg)) 12 ((g9 13 (a0.toNatClampNeg) 12) + ((1 : Int32))))) (fun g53 => some (0, g53))))))
set_option maxHeartbeats 4000000 in
set_option maxRecDepth 100000 in
theorem c_X4_hear (l : Launch) {κ : Cx} (hok : fok (cφ κ)) (hn : 1 ≤ cn κ)  {F : Nat} {g : Mem} {a0 a1 a2 : Int32} {u : Int32 × Mem} (h : m_X4_hear F g a0 a1 a2 = some u) : fM l (cφ κ) yX4_hear wsX4_hear 3 70 [.ref (fa (cφ κ) 2 0), .int a0, .int a1, .int a2] g none u.2 := by
  refine fM.of (cc := cX4_hear) (maxL := 5) (ret := none) [(0, .ref (fa (cφ κ) 2 0)), (1, .int a0), (2, .int a1), (3, .int a2)] (by decide) rfl (Nat.le_of_ble_eq_true rfl) rfl (fun p e s m below meth c ls hx hb hr hml hown hts hlk hE hF hS hl => ?_)
  replace hown : s.vm.findClass RX4 = some m.cls := hown
  have hL1 : ∀ w ∈ u_ws RX1 TX1 15, w.before ([.ref (fa (cφ κ) 2 0), .int a0, .int a1, .int a2] : List Value).toArray s = true := fun w hw => hts w (by
    unfold wsX4_hear
    simp only [List.mem_cons, List.mem_append]
    exact Or.inr (Or.inl (Or.inl (Or.inl (Or.inr hw)))))
  have hL4 : ∀ w ∈ u_ws RX4 TX4 11, w.before ([.ref (fa (cφ κ) 2 0), .int a0, .int a1, .int a2] : List Value).toArray s = true := fun w hw => hts w (by
    unfold wsX4_hear
    simp only [List.mem_cons, List.mem_append]
    exact Or.inr (Or.inl (Or.inl (Or.inl (Or.inl (Or.inr hw))))))
  have kw1 := hts (.fieldLink RX4 11 "MeshLamps$Mesh" "lamps" "[LMeshLamps$Lamp;") (List.mem_of_getElem? (i := 1) rfl)
  have kw3 := hts (.fieldLink RX4 132 "MeshLamps$Lamp" "mind" "LMeshLamps$Line;") (List.mem_of_getElem? (i := 3) rfl)
  have kw5 := hts (.fieldLink RX4 144 "MeshLamps$Lamp" "hadNew" "I") (List.mem_of_getElem? (i := 5) rfl)
  have kw6 := hts (.fieldLink RX4 81 "MeshLamps$Lamp" "settings" "[I") (List.mem_of_getElem? (i := 6) rfl)
  have kw4 := hts (.fieldLink RX4 141 "MeshLamps$Lamp" "hadStale" "I") (List.mem_of_getElem? (i := 4) rfl)
  have kw2 := hts (.fieldLink RX4 129 "MeshLamps$Lamp" "hadStrange" "I") (List.mem_of_getElem? (i := 2) rfl)
  unfold m_X4_hear at h
  refine lv_aload_n hx hb dX4_hear_0 rfl (lv_at hl 0 rfl) ?_
  refine fw_get (C := RX4) (T := TX4) (N := 11) (ci := 4) (v := .ref (fa (cφ κ) 3 0)) hx hb hL4 hown hE hF (b2 hn) (cm2 κ _ _) rfl 0 (by decide) kw1 rfl dX4_hear_1 ?_
  refine lv_iload_n hx hb dX4_hear_4 rfl (lv_at hl 1 rfl) ?_
  obtain ⟨k1, h⟩ := ck h
  refine fw_aald (a := fa (cφ κ) 13 (a0.toNatClampNeg)) hx hb hE hF (b3 hn) (cm3 κ _ _) 1 rfl k1 rfl dX4_hear_5 ?_
  refine lv_astore (lv' := [(4, .ref (fa (cφ κ) 13 (a0.toNatClampNeg))), (0, .ref (fa (cφ κ) 2 0)), (1, .int a0), (2, .int a1), (3, .int a2)]) hx hb dX4_hear_6 hl (by decide) rfl (fun ls hl => ?_)
  refine lv_aload_n hx hb dX4_hear_8 rfl (lv_at hl 1 rfl) ?_
  refine lv_iload_n hx hb dX4_hear_9 rfl (lv_at hl 2 rfl) ?_
  refine lv_iload_n hx hb dX4_hear_10 rfl (lv_at hl 3 rfl) ?_
  obtain ⟨⟨r3, g4⟩, q2, h⟩ := bnd h
  try dsimp only at h
  refine fw_calli (va_runV (As := [.int a0, .int a1]) (rest := []) ⟨hx, hb, hml, hown, hts⟩ (c_X4_knows l hok hn q2) (cwV 2 hts gX4_hear_X4_knows rfl rfl rfl qv_X4_knows ⟨Nat.le_of_ble_eq_true rfl, Nat.le_of_ble_eq_true rfl⟩) (fw_preV hok hE hF (b2 hn) (cm2 κ _ _) rfl) rfl rfl hl.1 rfl (lv_room (Nat.le_of_ble_eq_true rfl)) dX4_hear_11 ⟨Nat.le_refl _, Nat.le_refl _⟩) hS (fun H locs hF hS => ?_)
  refine lv_if_ne (tgt := 29) hx hb dX4_hear_14 (by decide) (fun c6 => ?_) (fun c6 => ?_)
  · have h := iff0 h c6
    refine lv_aload hx hb dX4_hear_29 (lv_at hl 0 rfl) ?_
    refine fw_get (C := RX1) (T := TX1) (N := 15) (ci := 1) (v := .ref (fa (cφ κ) 16 (a0.toNatClampNeg))) hx hb hL1 hown hE hF (b13 hn (vpl k1)) (cm13 κ _ _) rfl 2 (by decide) kw3 rfl dX4_hear_31 ?_
    refine lv_iload_n hx hb dX4_hear_34 rfl (lv_at hl 3 rfl) ?_
    obtain ⟨⟨r8, g9⟩, q7, h⟩ := bnd h
    try dsimp only at h
    refine fw_calli (va_runV (As := [.int a1]) (rest := []) ⟨hx, hb, hml, hown, hts⟩ (c_X3_holdsm l hok hn (vpl k1) q7) (cwV 1 hts gX4_hear_X3_holds rfl rfl rfl qv_X3_holds ⟨Nat.le_of_ble_eq_true rfl, Nat.le_of_ble_eq_true rfl⟩) (fw_preV hok hE hF (b16 hn (vpl k1)) (cm16 κ _ _) rfl) rfl rfl hl.1 rfl (lv_room (Nat.le_of_ble_eq_true rfl)) dX4_hear_35 ⟨Nat.le_refl _, Nat.le_refl _⟩) hS (fun H locs hF hS => ?_)
    refine lv_if_eq (tgt := 53) hx hb dX4_hear_38 (by decide) (fun c11 => ?_) (fun c11 => ?_)
    · have h := ift h c11
      refine lv_aload hx hb dX4_hear_53 (lv_at hl 0 rfl) ?_
      refine lv_dup hx hb dX4_hear_55 rfl ?_
      refine fw_get (C := RX1) (T := TX1) (N := 15) (ci := 1) (v := .int (g9 13 (a0.toNatClampNeg) 13)) hx hb hL1 hown hE hF (b13 hn (vpl k1)) (cm13 κ _ _) rfl 13 (by decide) kw5 rfl dX4_hear_56 ?_
      refine lv_iconst (v := (1 : Int32)) hx hb dX4_hear_59 (by decide) ?_
      refine lv_iadd hx hb dX4_hear_60 ?_
      refine fw_put (C := RX1) (T := TX1) (N := 15) (ci := 1) (ty := .int) (v := .int ((g9 13 (a0.toNatClampNeg) 13) + ((1 : Int32)))) (r := upd (g9 13 (a0.toNatClampNeg)) 13 ((g9 13 (a0.toNatClampNeg) 13) + ((1 : Int32)))) hx hb hL1 tyX1 tyX1_ok nmX1 hown hE hok hF hS (b13 hn (vpl k1)) (cm13 κ _ _) rfl 13 (by decide) kw5 rfl (tyX1_ok 13 (by decide)) rfl rfl (Nat.le_of_ble_eq_true rfl) rfl dX4_hear_61 (fun H locs hF hS => ?_)
      obtain ⟨g12, e13, h⟩ := ltm_e h
      rw [e13] at hF
      refine lv_aload hx hb dX4_hear_64 (lv_at hl 0 rfl) ?_
      refine fw_get (C := RX1) (T := TX1) (N := 15) (ci := 1) (v := .ref (fa (cφ κ) 16 (a0.toNatClampNeg))) hx hb hL1 hown hE hF (b13 hn (vpl k1)) (cm13 κ _ _) rfl 2 (by decide) kw3 rfl dX4_hear_66 ?_
      refine lv_iload_n hx hb dX4_hear_69 rfl (lv_at hl 3 rfl) ?_
      refine lv_aload hx hb dX4_hear_70 (lv_at hl 0 rfl) ?_
      refine fw_get (C := RX1) (T := TX1) (N := 15) (ci := 1) (v := .ref (fa (cφ κ) 14 (a0.toNatClampNeg))) hx hb hL1 hown hE hF (b13 hn (vpl k1)) (cm13 κ _ _) rfl 0 (by decide) kw6 rfl dX4_hear_72 ?_
      refine lv_iconst (v := (2 : Int32)) hx hb dX4_hear_75 (by decide) ?_
      refine fw_iald (q := 2) hx hb hE hF (b14 hn (vpl k1)) (cm14 κ _) 0 rfl (by decide) (by decide) dX4_hear_76 ?_
      obtain ⟨⟨r16, g17⟩, q15, h⟩ := bnd h
      try dsimp only at h
      refine fw_callv (va_runV (As := [.int a1, .int (g12 14 (a0.toNatClampNeg) 2)]) (rest := []) ⟨hx, hb, hml, hown, hts⟩ (c_X3_addm l hok hn (vpl k1) q15) (cwV 2 hts gX4_hear_X3_add rfl rfl rfl qv_X3_add ⟨Nat.le_of_ble_eq_true rfl, Nat.le_of_ble_eq_true rfl⟩) (fw_preV hok hE hF (b16 hn (vpl k1)) (cm16 κ _ _) rfl) rfl rfl hl.1 rfl (lv_room (Nat.le_of_ble_eq_true rfl)) dX4_hear_77 ⟨Nat.le_refl _, Nat.le_refl _⟩) hS (fun H locs hF hS => ?_)
      refine lv_iload_n hx hb dX4_hear_80 rfl (lv_at hl 3 rfl) ?_
      obtain ⟨r20, q19, h⟩ := bnd h
      try dsimp only at h
      refine pw_call (va_runS (As := [.int a1]) (rest := []) ⟨hx, hb, hml, hown, hts⟩ (c_X2_sourceOf l q19) (va_cwS 1 hts gX4_hear_X2_sourceOf rfl rfl rfl qs_X2_sourceOf ⟨Nat.le_of_ble_eq_true rfl, Nat.le_of_ble_eq_true rfl⟩) preEq rfl rfl hl.1 rfl (lv_room (Nat.le_of_ble_eq_true rfl)) dX4_hear_81 ⟨Nat.le_refl _, Nat.le_refl _⟩) ?_
      refine lv_iload_n hx hb dX4_hear_84 rfl (lv_at hl 2 rfl) ?_
      refine lv_icmp_ne (tgt := 89) hx hb dX4_hear_85 (by decide) (fun c21 => ?_) (fun c21 => ?_)
      · have h := iff0 h c21
        refine lv_aload_n hx hb dX4_hear_89 rfl (lv_at hl 1 rfl) ?_
        refine lv_iload_n hx hb dX4_hear_90 rfl (lv_at hl 2 rfl) ?_
        refine lv_iload_n hx hb dX4_hear_91 rfl (lv_at hl 3 rfl) ?_
        obtain ⟨⟨r23, g24⟩, q22, h⟩ := bnd h
        try dsimp only at h
        refine fw_calli (va_runV (As := [.int a0, .int a1]) (rest := []) ⟨hx, hb, hml, hown, hts⟩ (c_X4_isMeant l hok hn q22) (cwV 2 hts gX4_hear_X4_isMeant rfl rfl rfl qv_X4_isMeant ⟨Nat.le_of_ble_eq_true rfl, Nat.le_of_ble_eq_true rfl⟩) (fw_preV hok hE hF (b2 hn) (cm2 κ _ _) rfl) rfl rfl hl.1 rfl (lv_room (Nat.le_of_ble_eq_true rfl)) dX4_hear_92 ⟨Nat.le_refl _, Nat.le_refl _⟩) hS (fun H locs hF hS => ?_)
        refine lv_if_eq (tgt := 105) hx hb dX4_hear_95 (by decide) (fun c26 => ?_) (fun c26 => ?_)
        · have h := ift h c26
          refine lv_aload_n hx hb dX4_hear_105 rfl (lv_at hl 1 rfl) ?_
          refine lv_iload_n hx hb dX4_hear_106 rfl (lv_at hl 2 rfl) ?_
          refine lv_iload_n hx hb dX4_hear_107 rfl (lv_at hl 3 rfl) ?_
          obtain ⟨⟨r28, g29⟩, q27, h⟩ := bnd h
          try dsimp only at h
          refine fw_callv (va_runV (As := [.int a0, .int a1]) (rest := []) ⟨hx, hb, hml, hown, hts⟩ (c_X4_keepForSleepers l hok hn q27) (cwV 2 hts gX4_hear_X4_keepForSleepers rfl rfl rfl qv_X4_keepForSleepers ⟨Nat.le_of_ble_eq_true rfl, Nat.le_of_ble_eq_true rfl⟩) (fw_preV hok hE hF (b2 hn) (cm2 κ _ _) rfl) rfl rfl hl.1 rfl (lv_room (Nat.le_of_ble_eq_true rfl)) dX4_hear_108 ⟨Nat.le_refl _, Nat.le_refl _⟩) hS (fun H locs hF hS => ?_)
          refine lv_iload_n hx hb dX4_hear_111 rfl (lv_at hl 4 rfl) ?_
          refine lv_iconst (v := (1 : Int32)) hx hb dX4_hear_112 (by decide) ?_
          refine lv_icmp_le (tgt := 136) hx hb dX4_hear_113 (by decide) (fun c31 => ?_) (fun c31 => ?_)
          · have h := ift h c31
            exact fw_vret hx hb hr hlk h hF hS dX4_hear_136
          · have h := iff0 h c31
            refine lv_aload hx hb dX4_hear_116 (lv_at hl 0 rfl) ?_
            refine fw_get (C := RX1) (T := TX1) (N := 15) (ci := 1) (v := .ref (fa (cφ κ) 14 (a0.toNatClampNeg))) hx hb hL1 hown hE hF (b13 hn (vpl k1)) (cm13 κ _ _) rfl 0 (by decide) kw6 rfl dX4_hear_118 ?_
            refine lv_iconst (v := (1 : Int32)) hx hb dX4_hear_121 (by decide) ?_
            refine fw_iald (q := 1) hx hb hE hF (b14 hn (vpl k1)) (cm14 κ _) 0 rfl (by decide) (by decide) dX4_hear_122 ?_
            refine lv_iconst (v := (1 : Int32)) hx hb dX4_hear_123 (by decide) ?_
            refine lv_icmp_ne (tgt := 136) hx hb dX4_hear_124 (by decide) (fun c33 => ?_) (fun c33 => ?_)
            · have h := iff0 h c33
              exact fw_vret hx hb hr hlk h hF hS dX4_hear_136
            · have h := ift h c33
              refine lv_aload_n hx hb dX4_hear_127 rfl (lv_at hl 1 rfl) ?_
              refine lv_iload_n hx hb dX4_hear_128 rfl (lv_at hl 2 rfl) ?_
              refine lv_iload_n hx hb dX4_hear_129 rfl (lv_at hl 3 rfl) ?_
              refine lv_iload_n hx hb dX4_hear_130 rfl (lv_at hl 4 rfl) ?_
              refine lv_iconst (v := (1 : Int32)) hx hb dX4_hear_131 (by decide) ?_
              refine lv_isub hx hb dX4_hear_132 ?_
              obtain ⟨⟨r35, g36⟩, q34, h⟩ := bnd h
              try dsimp only at h
              refine fw_callv (va_runV (As := [.int a0, .int a1, .int (a2 - ((1 : Int32)))]) (rest := []) ⟨hx, hb, hml, hown, hts⟩ (c_X4_passOn l hok hn q34) (cwV 3 hts gX4_hear_X4_passOn rfl rfl rfl qv_X4_passOn ⟨Nat.le_of_ble_eq_true rfl, Nat.le_of_ble_eq_true rfl⟩) (fw_preV hok hE hF (b2 hn) (cm2 κ _ _) rfl) rfl rfl hl.1 rfl (lv_room (Nat.le_of_ble_eq_true rfl)) dX4_hear_133 ⟨Nat.le_refl _, Nat.le_refl _⟩) hS (fun H locs hF hS => ?_)
              exact fw_vret hx hb hr hlk h hF hS dX4_hear_136
        · have h := iff0 h c26
          refine lv_aload_n hx hb dX4_hear_98 rfl (lv_at hl 1 rfl) ?_
          refine lv_aload hx hb dX4_hear_99 (lv_at hl 0 rfl) ?_
          refine lv_iload_n hx hb dX4_hear_101 rfl (lv_at hl 3 rfl) ?_
          obtain ⟨⟨r39, g40⟩, q38, h⟩ := bnd h
          try dsimp only at h
          refine fw_callv (va_runV (As := [.ref (fa (cφ κ) 13 (a0.toNatClampNeg)), .int a1]) (rest := []) ⟨hx, hb, hml, hown, hts⟩ (c_X4_take l hok hn (vpl k1) q38) (cwV 2 hts gX4_hear_X4_take rfl rfl rfl qv_X4_take ⟨Nat.le_of_ble_eq_true rfl, Nat.le_of_ble_eq_true rfl⟩) (fw_preV hok hE hF (b2 hn) (cm2 κ _ _) rfl) rfl rfl hl.1 rfl (lv_room (Nat.le_of_ble_eq_true rfl)) dX4_hear_102 ⟨Nat.le_refl _, Nat.le_refl _⟩) hS (fun H locs hF hS => ?_)
          refine lv_aload_n hx hb dX4_hear_105 rfl (lv_at hl 1 rfl) ?_
          refine lv_iload_n hx hb dX4_hear_106 rfl (lv_at hl 2 rfl) ?_
          refine lv_iload_n hx hb dX4_hear_107 rfl (lv_at hl 3 rfl) ?_
          obtain ⟨⟨r43, g44⟩, q42, h⟩ := bnd h
          try dsimp only at h
          refine fw_callv (va_runV (As := [.int a0, .int a1]) (rest := []) ⟨hx, hb, hml, hown, hts⟩ (c_X4_keepForSleepers l hok hn q42) (cwV 2 hts gX4_hear_X4_keepForSleepers rfl rfl rfl qv_X4_keepForSleepers ⟨Nat.le_of_ble_eq_true rfl, Nat.le_of_ble_eq_true rfl⟩) (fw_preV hok hE hF (b2 hn) (cm2 κ _ _) rfl) rfl rfl hl.1 rfl (lv_room (Nat.le_of_ble_eq_true rfl)) dX4_hear_108 ⟨Nat.le_refl _, Nat.le_refl _⟩) hS (fun H locs hF hS => ?_)
          refine lv_iload_n hx hb dX4_hear_111 rfl (lv_at hl 4 rfl) ?_
          refine lv_iconst (v := (1 : Int32)) hx hb dX4_hear_112 (by decide) ?_
          refine lv_icmp_le (tgt := 136) hx hb dX4_hear_113 (by decide) (fun c46 => ?_) (fun c46 => ?_)
          · have h := ift h c46
            exact fw_vret hx hb hr hlk h hF hS dX4_hear_136
          · have h := iff0 h c46
            refine lv_aload hx hb dX4_hear_116 (lv_at hl 0 rfl) ?_
            refine fw_get (C := RX1) (T := TX1) (N := 15) (ci := 1) (v := .ref (fa (cφ κ) 14 (a0.toNatClampNeg))) hx hb hL1 hown hE hF (b13 hn (vpl k1)) (cm13 κ _ _) rfl 0 (by decide) kw6 rfl dX4_hear_118 ?_
            refine lv_iconst (v := (1 : Int32)) hx hb dX4_hear_121 (by decide) ?_
            refine fw_iald (q := 1) hx hb hE hF (b14 hn (vpl k1)) (cm14 κ _) 0 rfl (by decide) (by decide) dX4_hear_122 ?_
            refine lv_iconst (v := (1 : Int32)) hx hb dX4_hear_123 (by decide) ?_
            refine lv_icmp_ne (tgt := 136) hx hb dX4_hear_124 (by decide) (fun c48 => ?_) (fun c48 => ?_)
            · have h := iff0 h c48
              exact fw_vret hx hb hr hlk h hF hS dX4_hear_136
            · have h := ift h c48
              refine lv_aload_n hx hb dX4_hear_127 rfl (lv_at hl 1 rfl) ?_
              refine lv_iload_n hx hb dX4_hear_128 rfl (lv_at hl 2 rfl) ?_
              refine lv_iload_n hx hb dX4_hear_129 rfl (lv_at hl 3 rfl) ?_
              refine lv_iload_n hx hb dX4_hear_130 rfl (lv_at hl 4 rfl) ?_
              refine lv_iconst (v := (1 : Int32)) hx hb dX4_hear_131 (by decide) ?_
              refine lv_isub hx hb dX4_hear_132 ?_
              obtain ⟨⟨r50, g51⟩, q49, h⟩ := bnd h
              try dsimp only at h
              refine fw_callv (va_runV (As := [.int a0, .int a1, .int (a2 - ((1 : Int32)))]) (rest := []) ⟨hx, hb, hml, hown, hts⟩ (c_X4_passOn l hok hn q49) (cwV 3 hts gX4_hear_X4_passOn rfl rfl rfl qv_X4_passOn ⟨Nat.le_of_ble_eq_true rfl, Nat.le_of_ble_eq_true rfl⟩) (fw_preV hok hE hF (b2 hn) (cm2 κ _ _) rfl) rfl rfl hl.1 rfl (lv_room (Nat.le_of_ble_eq_true rfl)) dX4_hear_133 ⟨Nat.le_refl _, Nat.le_refl _⟩) hS (fun H locs hF hS => ?_)
              exact fw_vret hx hb hr hlk h hF hS dX4_hear_136
      · have h := ift h c21
        exact fw_vret hx hb hr hlk h hF hS dX4_hear_88
    · have h := iff0 h c11
      refine lv_aload hx hb dX4_hear_41 (lv_at hl 0 rfl) ?_
      refine lv_dup hx hb dX4_hear_43 rfl ?_
      refine fw_get (C := RX1) (T := TX1) (N := 15) (ci := 1) (v := .int (g9 13 (a0.toNatClampNeg) 12)) hx hb hL1 hown hE hF (b13 hn (vpl k1)) (cm13 κ _ _) rfl 12 (by decide) kw4 rfl dX4_hear_44 ?_
      refine lv_iconst (v := (1 : Int32)) hx hb dX4_hear_47 (by decide) ?_
      refine lv_iadd hx hb dX4_hear_48 ?_
      refine fw_put (C := RX1) (T := TX1) (N := 15) (ci := 1) (ty := .int) (v := .int ((g9 13 (a0.toNatClampNeg) 12) + ((1 : Int32)))) (r := upd (g9 13 (a0.toNatClampNeg)) 12 ((g9 13 (a0.toNatClampNeg) 12) + ((1 : Int32)))) hx hb hL1 tyX1 tyX1_ok nmX1 hown hE hok hF hS (b13 hn (vpl k1)) (cm13 κ _ _) rfl 12 (by decide) kw4 rfl (tyX1_ok 12 (by decide)) rfl rfl (Nat.le_of_ble_eq_true rfl) rfl dX4_hear_49 (fun H locs hF hS => ?_)
      obtain ⟨g53, e54, h⟩ := ltm_e h
      rw [e54] at hF
      exact fw_vret hx hb hr hlk h hF hS dX4_hear_52
  · have h := ift h c6
    refine lv_aload hx hb dX4_hear_17 (lv_at hl 0 rfl) ?_
    refine lv_dup hx hb dX4_hear_19 rfl ?_
    refine fw_get (C := RX1) (T := TX1) (N := 15) (ci := 1) (v := .int (g4 13 (a0.toNatClampNeg) 11)) hx hb hL1 hown hE hF (b13 hn (vpl k1)) (cm13 κ _ _) rfl 11 (by decide) kw2 rfl dX4_hear_20 ?_
    refine lv_iconst (v := (1 : Int32)) hx hb dX4_hear_23 (by decide) ?_
    refine lv_iadd hx hb dX4_hear_24 ?_
    refine fw_put (C := RX1) (T := TX1) (N := 15) (ci := 1) (ty := .int) (v := .int ((g4 13 (a0.toNatClampNeg) 11) + ((1 : Int32)))) (r := upd (g4 13 (a0.toNatClampNeg)) 11 ((g4 13 (a0.toNatClampNeg) 11) + ((1 : Int32)))) hx hb hL1 tyX1 tyX1_ok nmX1 hown hE hok hF hS (b13 hn (vpl k1)) (cm13 κ _ _) rfl 11 (by decide) kw2 rfl (tyX1_ok 11 (by decide)) rfl rfl (Nat.le_of_ble_eq_true rfl) rfl dX4_hear_25 (fun H locs hF hS => ?_)
    obtain ⟨g55, e56, h⟩ := ltm_e h
    rw [e56] at hF
    exact fw_vret hx hb hr hlk h hF hS dX4_hear_28
def st_X4_speak_104 (F : Nat) (K : Mem → Int32 → Int32 → Int32 → Int32 → Option (Int32 × Mem)) (g : Mem) (x2 x3 x7 x8 : Int32) : Option (Int32 × Mem) := (if ((10 : Int32)) ≤ x8 then some (0, g) else (m_X5_isIn x7 x8).bind (fun r15 => (if r15 = 0 then K g x2 x3 x7 (x8 + (1 : Int32)) else if (x8 < 0 ∨ 10 ≤ x8.toNatClampNeg) then none else (if (g 13 (x8.toNatClampNeg) 6) = 0 then (m_X4_hear F g x8 x2 x3).bind (fun (r20, g21) => K g21 x2 x3 x7 (x8 + (1 : Int32))) else K g x2 x3 x7 (x8 + (1 : Int32))))))
def lp_X4_speak_104 (F : Nat) : Nat → Mem → Int32 → Int32 → Int32 → Int32 → Option (Int32 × Mem)
  | 0, _, _, _, _, _ => none
  | f + 1, g, x2, x3, x7, x8 => st_X4_speak_104 F (lp_X4_speak_104 F f ) g x2 x3 x7 x8
def m_X4_speak (F : Nat) (g : Mem) (a0 a1 a2 : Int32) : Option (Int32 × Mem) := (if a0 < ((10 : Int32)) then if (a0 < 0 ∨ 10 ≤ a0.toNatClampNeg) then none else (if (g 13 (a0.toNatClampNeg) 6) = 0 then ltm (upr g 2 0 (upd (g 2 0) 8 ((g 2 0 8) + ((1 : Int32))))) (fun g6 => ltm (upr g6 13 (a0.toNatClampNeg) (upd (g6 13 (a0.toNatClampNeg)) 14 ((g6 13 (a0.toNatClampNeg) 14) + ((1 : Int32))))) (fun g9 => (m_X5_changed (g9 13 (a0.toNatClampNeg) 4) a0 ((0 : Int32))).bind (fun r12 => lp_X4_speak_104 F F g9 a1 a2 r12 ((0 : Int32))))) else ltm (upr g 2 0 (upd (g 2 0) 10 ((g 2 0 10) + ((1 : Int32))))) (fun g23 => some (0, g23))) else if (a0 - ((10 : Int32)) < 0 ∨ 10 ≤ (a0 - ((10 : Int32))).toNatClampNeg) then none else ltm (upr g 2 0 (upd (g 2 0) 8 ((g 2 0 8) + ((1 : Int32))))) (fun g28 => (m_X5_changed (g28 13 ((a0 - ((10 : Int32))).toNatClampNeg) 4) (a0 - ((10 : Int32))) ((1 : Int32))).bind (fun r32 => lp_X4_speak_104 F F g28 a1 a2 r32 ((0 : Int32)))))
set_option maxHeartbeats 4000000 in
set_option maxRecDepth 100000 in
theorem c_X4_speak (l : Launch) {κ : Cx} (hok : fok (cφ κ)) (hn : 1 ≤ cn κ)  {F : Nat} {g : Mem} {a0 a1 a2 : Int32} {u : Int32 × Mem} (h : m_X4_speak F g a0 a1 a2 = some u) : fM l (cφ κ) yX4_speak wsX4_speak 4 94 [.ref (fa (cφ κ) 2 0), .int a0, .int a1, .int a2] g none u.2 := by
  refine fM.of (cc := cX4_speak) (maxL := 9) (ret := none) [(0, .ref (fa (cφ κ) 2 0)), (1, .int a0), (2, .int a1), (3, .int a2)] (by decide) rfl (Nat.le_of_ble_eq_true rfl) rfl (fun p e s m below meth c ls hx hb hr hml hown hts hlk hE hF hS hl => ?_)
  replace hown : s.vm.findClass RX4 = some m.cls := hown
  have hL1 : ∀ w ∈ u_ws RX1 TX1 15, w.before ([.ref (fa (cφ κ) 2 0), .int a0, .int a1, .int a2] : List Value).toArray s = true := fun w hw => hts w (by
    unfold wsX4_speak
    simp only [List.mem_cons, List.mem_append]
    exact Or.inr (Or.inl (Or.inl (Or.inl (Or.inr hw)))))
  have hL4 : ∀ w ∈ u_ws RX4 TX4 11, w.before ([.ref (fa (cφ κ) 2 0), .int a0, .int a1, .int a2] : List Value).toArray s = true := fun w hw => hts w (by
    unfold wsX4_speak
    simp only [List.mem_cons, List.mem_append]
    exact Or.inr (Or.inl (Or.inl (Or.inl (Or.inl (Or.inr hw))))))
  have kw1 := hts (.fieldLink RX4 11 "MeshLamps$Mesh" "lamps" "[LMeshLamps$Lamp;") (List.mem_of_getElem? (i := 1) rfl)
  have kw2 := hts (.fieldLink RX4 109 "MeshLamps$Lamp" "sleeps" "Z") (List.mem_of_getElem? (i := 2) rfl)
  have kw4 := hts (.fieldLink RX4 47 "MeshLamps$Mesh" "spoken" "I") (List.mem_of_getElem? (i := 4) rfl)
  have kw5 := hts (.fieldLink RX4 113 "MeshLamps$Lamp" "spoke" "I") (List.mem_of_getElem? (i := 5) rfl)
  have kw6 := hts (.fieldLink RX4 116 "MeshLamps$Lamp" "links" "I") (List.mem_of_getElem? (i := 6) rfl)
  have kw8 := hts (.initialized RX5) (List.mem_of_getElem? (i := 8) rfl)
  have kw7 := hts (.static yX5_changed) (List.mem_of_getElem? (i := 7) rfl)
  have kw10 := hts (.static yX5_isIn) (List.mem_of_getElem? (i := 10) rfl)
  have kw3 := hts (.fieldLink RX4 53 "MeshLamps$Mesh" "lostAsleep" "I") (List.mem_of_getElem? (i := 3) rfl)
  unfold m_X4_speak at h
  have LOOP104 : ∀ (f : Nat) (g : Mem) (x2 x3 x7 x8 : Int32) (H : Heap) (locs : List Loc) (ls : Array Slot), lp_X4_speak_104 F f g x2 x3 x7 x8 = some u → fw (cφ κ) g H → va_S (fA (cφ κ)) s.heap H locs → lv_has ls 9 [(0, .ref (fa (cφ κ) 2 0)), (2, .int x2), (3, .int x3), (7, .int x7), (8, .int x8)] → W p l e ({ frames := 4, cells := 0, slots := 0, locals := 94 }) s m ([.ref (fa (cφ κ) 2 0), .int a0, .int a1, .int a2] : List Value).toArray below meth c H locs 0 0 (MQ below (fQ (cφ κ) none u.2) ([.ref (fa (cφ κ) 2 0), .int a0, .int a1, .int a2] : List Value).toArray s 0 0 (fA (cφ κ))) (F0 m 104 ls []) := by
    intro f
    induction f with
    | zero => intro g x2 x3 x7 x8 H locs ls h hF hS hl; cases h
    | succ f ih =>
      intro g x2 x3 x7 x8 H locs ls h hF hS hl
      replace h : st_X4_speak_104 F (lp_X4_speak_104 F f ) g x2 x3 x7 x8 = some u := h
      unfold st_X4_speak_104 at h
      refine lv_iload hx hb dX4_speak_104 (lv_at hl 4 rfl) ?_
      refine lv_bipush (v := (10 : Int32)) hx hb dX4_speak_106 (by decide) ?_
      refine lv_icmp_ge (tgt := 148) hx hb dX4_speak_108 (by decide) (fun c13 => ?_) (fun c13 => ?_)
      · have h := ift h c13
        exact fw_vret hx hb hr hlk h hF hS dX4_speak_148
      · have h := iff0 h c13
        refine lv_iload hx hb dX4_speak_111 (lv_at hl 3 rfl) ?_
        refine lv_iload hx hb dX4_speak_113 (lv_at hl 4 rfl) ?_
        obtain ⟨r15, q14, h⟩ := bnd h
        try dsimp only at h
        refine pw_call (va_runSN (As := [.int x7, .int x8]) (rest := []) ⟨hx, hb, hml, hown, hts⟩ (c_X5_isIn l q14) ⟨va_cnB 2 hts gX4_speak_X5_isIn_n67 rfl rfl rfl (hE.2 _ (List.mem_of_getElem? (i := 0) rfl)) kw8 qs_X5_isIn ⟨Nat.le_of_ble_eq_true rfl, Nat.le_of_ble_eq_true rfl⟩, kw10, trivial⟩ preEq rfl rfl hl.1 rfl (lv_room (Nat.le_of_ble_eq_true rfl)) dX4_speak_115 ⟨Nat.le_refl _, Nat.le_refl _⟩) ?_
        refine lv_if_eq (tgt := 142) hx hb dX4_speak_118 (by decide) (fun c16 => ?_) (fun c16 => ?_)
        · have h := ift h c16
          refine lv_iinc (v := x8 + (1 : Int32)) (lv' := [(8, .int (x8 + (1 : Int32))), (0, .ref (fa (cφ κ) 2 0)), (2, .int x2), (3, .int x3), (7, .int x7)]) hx hb dX4_speak_142 hl (k := 4) rfl rfl (by decide) rfl (fun ls hl => ?_)
          refine lv_goto (tgt := 104) hx hb dX4_speak_145 (by decide) ?_
          exact ih g x2 x3 x7 (x8 + (1 : Int32)) H locs ls h hF hS (lv_sub hl [1, 2, 3, 4, 0] rfl)
        · have h := iff0 h c16
          refine lv_aload_n hx hb dX4_speak_121 rfl (lv_at hl 0 rfl) ?_
          refine fw_get (C := RX4) (T := TX4) (N := 11) (ci := 4) (v := .ref (fa (cφ κ) 3 0)) hx hb hL4 hown hE hF (b2 hn) (cm2 κ _ _) rfl 0 (by decide) kw1 rfl dX4_speak_122 ?_
          refine lv_iload hx hb dX4_speak_125 (lv_at hl 4 rfl) ?_
          obtain ⟨k17, h⟩ := ck h
          refine fw_aald (a := fa (cφ κ) 13 (x8.toNatClampNeg)) hx hb hE hF (b3 hn) (cm3 κ _ _) 1 rfl k17 rfl dX4_speak_127 ?_
          refine fw_get (C := RX1) (T := TX1) (N := 15) (ci := 1) (v := .int (g 13 (x8.toNatClampNeg) 6)) hx hb hL1 hown hE hF (b13 hn (vpl k17)) (cm13 κ _ _) rfl 6 (by decide) kw2 rfl dX4_speak_128 ?_
          refine lv_if_ne (tgt := 142) hx hb dX4_speak_131 (by decide) (fun c18 => ?_) (fun c18 => ?_)
          · have h := iff0 h c18
            refine lv_iinc (v := x8 + (1 : Int32)) (lv' := [(8, .int (x8 + (1 : Int32))), (0, .ref (fa (cφ κ) 2 0)), (2, .int x2), (3, .int x3), (7, .int x7)]) hx hb dX4_speak_142 hl (k := 4) rfl rfl (by decide) rfl (fun ls hl => ?_)
            refine lv_goto (tgt := 104) hx hb dX4_speak_145 (by decide) ?_
            exact ih g x2 x3 x7 (x8 + (1 : Int32)) H locs ls h hF hS (lv_sub hl [1, 2, 3, 4, 0] rfl)
          · have h := ift h c18
            refine lv_aload_n hx hb dX4_speak_134 rfl (lv_at hl 0 rfl) ?_
            refine lv_iload hx hb dX4_speak_135 (lv_at hl 4 rfl) ?_
            refine lv_iload_n hx hb dX4_speak_137 rfl (lv_at hl 1 rfl) ?_
            refine lv_iload_n hx hb dX4_speak_138 rfl (lv_at hl 2 rfl) ?_
            obtain ⟨⟨r20, g21⟩, q19, h⟩ := bnd h
            try dsimp only at h
            refine fw_callv (va_runV (As := [.int x8, .int x2, .int x3]) (rest := []) ⟨hx, hb, hml, hown, hts⟩ (c_X4_hear l hok hn q19) (cwV 3 hts gX4_speak_X4_hear rfl rfl rfl qv_X4_hear ⟨Nat.le_of_ble_eq_true rfl, Nat.le_of_ble_eq_true rfl⟩) (fw_preV hok hE hF (b2 hn) (cm2 κ _ _) rfl) rfl rfl hl.1 rfl (lv_room (Nat.le_of_ble_eq_true rfl)) dX4_speak_139 ⟨Nat.le_refl _, Nat.le_refl _⟩) hS (fun H locs hF hS => ?_)
            refine lv_iinc (v := x8 + (1 : Int32)) (lv' := [(8, .int (x8 + (1 : Int32))), (0, .ref (fa (cφ κ) 2 0)), (2, .int x2), (3, .int x3), (7, .int x7)]) hx hb dX4_speak_142 hl (k := 4) rfl rfl (by decide) rfl (fun ls hl => ?_)
            refine lv_goto (tgt := 104) hx hb dX4_speak_145 (by decide) ?_
            exact ih g21 x2 x3 x7 (x8 + (1 : Int32)) H locs ls h hF hS (lv_sub hl [1, 2, 3, 4, 0] rfl)
  refine lv_iload_n hx hb dX4_speak_0 rfl (lv_at hl 1 rfl) ?_
  refine lv_bipush (v := (10 : Int32)) hx hb dX4_speak_1 (by decide) ?_
  refine lv_icmp_lt (tgt := 10) hx hb dX4_speak_3 (by decide) (fun c1 => ?_) (fun c1 => ?_)
  · have h := ift h c1
    refine lv_iconst (v := (0 : Int32)) hx hb dX4_speak_10 (by decide) ?_
    refine lv_istore (lv' := [(4, .int ((0 : Int32))), (0, .ref (fa (cφ κ) 2 0)), (1, .int a0), (2, .int a1), (3, .int a2)]) hx hb dX4_speak_11 hl (by decide) rfl (fun ls hl => ?_)
    refine lv_iload hx hb dX4_speak_13 (lv_at hl 0 rfl) ?_
    refine lv_if_eq (tgt := 25) hx hb dX4_speak_15 (by decide) (fun _ => ?_) (fun c2 => absurd (by decide) c2)
    refine lv_iload_n hx hb dX4_speak_25 rfl (lv_at hl 2 rfl) ?_
    refine lv_istore (lv' := [(5, .int a0), (4, .int ((0 : Int32))), (0, .ref (fa (cφ κ) 2 0)), (1, .int a0), (2, .int a1), (3, .int a2)]) hx hb dX4_speak_26 hl (by decide) rfl (fun ls hl => ?_)
    refine lv_aload_n hx hb dX4_speak_28 rfl (lv_at hl 2 rfl) ?_
    refine fw_get (C := RX4) (T := TX4) (N := 11) (ci := 4) (v := .ref (fa (cφ κ) 3 0)) hx hb hL4 hown hE hF (b2 hn) (cm2 κ _ _) rfl 0 (by decide) kw1 rfl dX4_speak_29 ?_
    refine lv_iload hx hb dX4_speak_32 (lv_at hl 0 rfl) ?_
    obtain ⟨k3, h⟩ := ck h
    refine fw_aald (a := fa (cφ κ) 13 (a0.toNatClampNeg)) hx hb hE hF (b3 hn) (cm3 κ _ _) 1 rfl k3 rfl dX4_speak_34 ?_
    refine lv_astore (lv' := [(6, .ref (fa (cφ κ) 13 (a0.toNatClampNeg))), (5, .int a0), (4, .int ((0 : Int32))), (0, .ref (fa (cφ κ) 2 0)), (1, .int a0), (2, .int a1), (3, .int a2)]) hx hb dX4_speak_35 hl (by decide) rfl (fun ls hl => ?_)
    refine lv_iload hx hb dX4_speak_37 (lv_at hl 2 rfl) ?_
    refine lv_if_ne (tgt := 61) hx hb dX4_speak_39 (by decide) (fun c4 => absurd (by decide) c4) (fun _ => ?_)
    refine lv_aload hx hb dX4_speak_42 (lv_at hl 0 rfl) ?_
    refine fw_get (C := RX1) (T := TX1) (N := 15) (ci := 1) (v := .int (g 13 (a0.toNatClampNeg) 6)) hx hb hL1 hown hE hF (b13 hn (vpl k3)) (cm13 κ _ _) rfl 6 (by decide) kw2 rfl dX4_speak_44 ?_
    refine lv_if_eq (tgt := 61) hx hb dX4_speak_47 (by decide) (fun c5 => ?_) (fun c5 => ?_)
    · have h := ift h c5
      refine lv_aload_n hx hb dX4_speak_61 rfl (lv_at hl 3 rfl) ?_
      refine lv_dup hx hb dX4_speak_62 rfl ?_
      refine fw_get (C := RX4) (T := TX4) (N := 11) (ci := 4) (v := .int (g 2 0 8)) hx hb hL4 hown hE hF (b2 hn) (cm2 κ _ _) rfl 8 (by decide) kw4 rfl dX4_speak_63 ?_
      refine lv_iconst (v := (1 : Int32)) hx hb dX4_speak_66 (by decide) ?_
      refine lv_iadd hx hb dX4_speak_67 ?_
      refine fw_put (C := RX4) (T := TX4) (N := 11) (ci := 4) (ty := .int) (v := .int ((g 2 0 8) + ((1 : Int32)))) (r := upd (g 2 0) 8 ((g 2 0 8) + ((1 : Int32)))) hx hb hL4 tyX4 tyX4_ok nmX4 hown hE hok hF hS (b2 hn) (cm2 κ _ _) rfl 8 (by decide) kw4 rfl (tyX4_ok 8 (by decide)) rfl rfl (Nat.le_of_ble_eq_true rfl) rfl dX4_speak_68 (fun H locs hF hS => ?_)
      obtain ⟨g6, e7, h⟩ := ltm_e h
      rw [e7] at hF
      refine lv_iload hx hb dX4_speak_71 (lv_at hl 2 rfl) ?_
      refine lv_if_ne (tgt := 87) hx hb dX4_speak_73 (by decide) (fun c8 => absurd (by decide) c8) (fun _ => ?_)
      refine lv_aload hx hb dX4_speak_76 (lv_at hl 0 rfl) ?_
      refine lv_dup hx hb dX4_speak_78 rfl ?_
      refine fw_get (C := RX1) (T := TX1) (N := 15) (ci := 1) (v := .int (g6 13 (a0.toNatClampNeg) 14)) hx hb hL1 hown hE hF (b13 hn (vpl k3)) (cm13 κ _ _) rfl 14 (by decide) kw5 rfl dX4_speak_79 ?_
      refine lv_iconst (v := (1 : Int32)) hx hb dX4_speak_82 (by decide) ?_
      refine lv_iadd hx hb dX4_speak_83 ?_
      refine fw_put (C := RX1) (T := TX1) (N := 15) (ci := 1) (ty := .int) (v := .int ((g6 13 (a0.toNatClampNeg) 14) + ((1 : Int32)))) (r := upd (g6 13 (a0.toNatClampNeg)) 14 ((g6 13 (a0.toNatClampNeg) 14) + ((1 : Int32)))) hx hb hL1 tyX1 tyX1_ok nmX1 hown hE hok hF hS (b13 hn (vpl k3)) (cm13 κ _ _) rfl 14 (by decide) kw5 rfl (tyX1_ok 14 (by decide)) rfl rfl (Nat.le_of_ble_eq_true rfl) rfl dX4_speak_84 (fun H locs hF hS => ?_)
      obtain ⟨g9, e10, h⟩ := ltm_e h
      rw [e10] at hF
      refine lv_aload hx hb dX4_speak_87 (lv_at hl 0 rfl) ?_
      refine fw_get (C := RX1) (T := TX1) (N := 15) (ci := 1) (v := .int (g9 13 (a0.toNatClampNeg) 4)) hx hb hL1 hown hE hF (b13 hn (vpl k3)) (cm13 κ _ _) rfl 4 (by decide) kw6 rfl dX4_speak_89 ?_
      refine lv_iload hx hb dX4_speak_92 (lv_at hl 1 rfl) ?_
      refine lv_iload hx hb dX4_speak_94 (lv_at hl 2 rfl) ?_
      obtain ⟨r12, q11, h⟩ := bnd h
      try dsimp only at h
      refine pw_call (va_runSN (As := [.int (g9 13 (a0.toNatClampNeg) 4), .int a0, .int ((0 : Int32))]) (rest := []) ⟨hx, hb, hml, hown, hts⟩ (c_X5_changed l q11) ⟨va_cnB 3 hts gX4_speak_X5_changed_n119 rfl rfl rfl (hE.2 _ (List.mem_of_getElem? (i := 1) rfl)) kw8 qs_X5_changed ⟨Nat.le_of_ble_eq_true rfl, Nat.le_of_ble_eq_true rfl⟩, kw7, trivial⟩ preEq rfl rfl hl.1 rfl (lv_room (Nat.le_of_ble_eq_true rfl)) dX4_speak_96 ⟨Nat.le_refl _, Nat.le_refl _⟩) ?_
      refine lv_istore (lv' := [(7, .int r12), (6, .ref (fa (cφ κ) 13 (a0.toNatClampNeg))), (5, .int a0), (4, .int ((0 : Int32))), (0, .ref (fa (cφ κ) 2 0)), (1, .int a0), (2, .int a1), (3, .int a2)]) hx hb dX4_speak_99 hl (by decide) rfl (fun ls hl => ?_)
      refine lv_iconst (v := (0 : Int32)) hx hb dX4_speak_101 (by decide) ?_
      refine lv_istore (lv' := [(8, .int ((0 : Int32))), (7, .int r12), (6, .ref (fa (cφ κ) 13 (a0.toNatClampNeg))), (5, .int a0), (4, .int ((0 : Int32))), (0, .ref (fa (cφ κ) 2 0)), (1, .int a0), (2, .int a1), (3, .int a2)]) hx hb dX4_speak_102 hl (by decide) rfl (fun ls hl => ?_)
      exact LOOP104 F g9 a1 a2 r12 ((0 : Int32)) _ _ ls h hF hS (lv_sub hl [5, 7, 8, 1, 0] rfl)
    · have h := iff0 h c5
      refine lv_aload_n hx hb dX4_speak_50 rfl (lv_at hl 3 rfl) ?_
      refine lv_dup hx hb dX4_speak_51 rfl ?_
      refine fw_get (C := RX4) (T := TX4) (N := 11) (ci := 4) (v := .int (g 2 0 10)) hx hb hL4 hown hE hF (b2 hn) (cm2 κ _ _) rfl 10 (by decide) kw3 rfl dX4_speak_52 ?_
      refine lv_iconst (v := (1 : Int32)) hx hb dX4_speak_55 (by decide) ?_
      refine lv_iadd hx hb dX4_speak_56 ?_
      refine fw_put (C := RX4) (T := TX4) (N := 11) (ci := 4) (ty := .int) (v := .int ((g 2 0 10) + ((1 : Int32)))) (r := upd (g 2 0) 10 ((g 2 0 10) + ((1 : Int32)))) hx hb hL4 tyX4 tyX4_ok nmX4 hown hE hok hF hS (b2 hn) (cm2 κ _ _) rfl 10 (by decide) kw3 rfl (tyX4_ok 10 (by decide)) rfl rfl (Nat.le_of_ble_eq_true rfl) rfl dX4_speak_57 (fun H locs hF hS => ?_)
      obtain ⟨g23, e24, h⟩ := ltm_e h
      rw [e24] at hF
      exact fw_vret hx hb hr hlk h hF hS dX4_speak_60
  · have h := iff0 h c1
    refine lv_iconst (v := (1 : Int32)) hx hb dX4_speak_6 (by decide) ?_
    refine lv_goto (tgt := 11) hx hb dX4_speak_7 (by decide) ?_
    refine lv_istore (lv' := [(4, .int ((1 : Int32))), (0, .ref (fa (cφ κ) 2 0)), (1, .int a0), (2, .int a1), (3, .int a2)]) hx hb dX4_speak_11 hl (by decide) rfl (fun ls hl => ?_)
    refine lv_iload hx hb dX4_speak_13 (lv_at hl 0 rfl) ?_
    refine lv_if_eq (tgt := 25) hx hb dX4_speak_15 (by decide) (fun c25 => absurd c25 (by decide)) (fun _ => ?_)
    refine lv_iload_n hx hb dX4_speak_18 rfl (lv_at hl 2 rfl) ?_
    refine lv_bipush (v := (10 : Int32)) hx hb dX4_speak_19 (by decide) ?_
    refine lv_isub hx hb dX4_speak_21 ?_
    refine lv_goto (tgt := 26) hx hb dX4_speak_22 (by decide) ?_
    refine lv_istore (lv' := [(5, .int (a0 - ((10 : Int32)))), (4, .int ((1 : Int32))), (0, .ref (fa (cφ κ) 2 0)), (1, .int a0), (2, .int a1), (3, .int a2)]) hx hb dX4_speak_26 hl (by decide) rfl (fun ls hl => ?_)
    refine lv_aload_n hx hb dX4_speak_28 rfl (lv_at hl 2 rfl) ?_
    refine fw_get (C := RX4) (T := TX4) (N := 11) (ci := 4) (v := .ref (fa (cφ κ) 3 0)) hx hb hL4 hown hE hF (b2 hn) (cm2 κ _ _) rfl 0 (by decide) kw1 rfl dX4_speak_29 ?_
    refine lv_iload hx hb dX4_speak_32 (lv_at hl 0 rfl) ?_
    obtain ⟨k26, h⟩ := ck h
    refine fw_aald (a := fa (cφ κ) 13 ((a0 - ((10 : Int32))).toNatClampNeg)) hx hb hE hF (b3 hn) (cm3 κ _ _) 1 rfl k26 rfl dX4_speak_34 ?_
    refine lv_astore (lv' := [(6, .ref (fa (cφ κ) 13 ((a0 - ((10 : Int32))).toNatClampNeg))), (5, .int (a0 - ((10 : Int32)))), (4, .int ((1 : Int32))), (0, .ref (fa (cφ κ) 2 0)), (1, .int a0), (2, .int a1), (3, .int a2)]) hx hb dX4_speak_35 hl (by decide) rfl (fun ls hl => ?_)
    refine lv_iload hx hb dX4_speak_37 (lv_at hl 2 rfl) ?_
    refine lv_if_ne (tgt := 61) hx hb dX4_speak_39 (by decide) (fun _ => ?_) (fun c27 => absurd c27 (by decide))
    refine lv_aload_n hx hb dX4_speak_61 rfl (lv_at hl 3 rfl) ?_
    refine lv_dup hx hb dX4_speak_62 rfl ?_
    refine fw_get (C := RX4) (T := TX4) (N := 11) (ci := 4) (v := .int (g 2 0 8)) hx hb hL4 hown hE hF (b2 hn) (cm2 κ _ _) rfl 8 (by decide) kw4 rfl dX4_speak_63 ?_
    refine lv_iconst (v := (1 : Int32)) hx hb dX4_speak_66 (by decide) ?_
    refine lv_iadd hx hb dX4_speak_67 ?_
    refine fw_put (C := RX4) (T := TX4) (N := 11) (ci := 4) (ty := .int) (v := .int ((g 2 0 8) + ((1 : Int32)))) (r := upd (g 2 0) 8 ((g 2 0 8) + ((1 : Int32)))) hx hb hL4 tyX4 tyX4_ok nmX4 hown hE hok hF hS (b2 hn) (cm2 κ _ _) rfl 8 (by decide) kw4 rfl (tyX4_ok 8 (by decide)) rfl rfl (Nat.le_of_ble_eq_true rfl) rfl dX4_speak_68 (fun H locs hF hS => ?_)
    obtain ⟨g28, e29, h⟩ := ltm_e h
    rw [e29] at hF
    refine lv_iload hx hb dX4_speak_71 (lv_at hl 2 rfl) ?_
    refine lv_if_ne (tgt := 87) hx hb dX4_speak_73 (by decide) (fun _ => ?_) (fun c30 => absurd c30 (by decide))
    refine lv_aload hx hb dX4_speak_87 (lv_at hl 0 rfl) ?_
    refine fw_get (C := RX1) (T := TX1) (N := 15) (ci := 1) (v := .int (g28 13 ((a0 - ((10 : Int32))).toNatClampNeg) 4)) hx hb hL1 hown hE hF (b13 hn (vpl k26)) (cm13 κ _ _) rfl 4 (by decide) kw6 rfl dX4_speak_89 ?_
    refine lv_iload hx hb dX4_speak_92 (lv_at hl 1 rfl) ?_
    refine lv_iload hx hb dX4_speak_94 (lv_at hl 2 rfl) ?_
    obtain ⟨r32, q31, h⟩ := bnd h
    try dsimp only at h
    refine pw_call (va_runSN (As := [.int (g28 13 ((a0 - ((10 : Int32))).toNatClampNeg) 4), .int (a0 - ((10 : Int32))), .int ((1 : Int32))]) (rest := []) ⟨hx, hb, hml, hown, hts⟩ (c_X5_changed l q31) ⟨va_cnB 3 hts gX4_speak_X5_changed_n119 rfl rfl rfl (hE.2 _ (List.mem_of_getElem? (i := 1) rfl)) kw8 qs_X5_changed ⟨Nat.le_of_ble_eq_true rfl, Nat.le_of_ble_eq_true rfl⟩, kw7, trivial⟩ preEq rfl rfl hl.1 rfl (lv_room (Nat.le_of_ble_eq_true rfl)) dX4_speak_96 ⟨Nat.le_refl _, Nat.le_refl _⟩) ?_
    refine lv_istore (lv' := [(7, .int r32), (6, .ref (fa (cφ κ) 13 ((a0 - ((10 : Int32))).toNatClampNeg))), (5, .int (a0 - ((10 : Int32)))), (4, .int ((1 : Int32))), (0, .ref (fa (cφ κ) 2 0)), (1, .int a0), (2, .int a1), (3, .int a2)]) hx hb dX4_speak_99 hl (by decide) rfl (fun ls hl => ?_)
    refine lv_iconst (v := (0 : Int32)) hx hb dX4_speak_101 (by decide) ?_
    refine lv_istore (lv' := [(8, .int ((0 : Int32))), (7, .int r32), (6, .ref (fa (cφ κ) 13 ((a0 - ((10 : Int32))).toNatClampNeg))), (5, .int (a0 - ((10 : Int32)))), (4, .int ((1 : Int32))), (0, .ref (fa (cφ κ) 2 0)), (1, .int a0), (2, .int a1), (3, .int a2)]) hx hb dX4_speak_102 hl (by decide) rfl (fun ls hl => ?_)
    exact LOOP104 F g28 a1 a2 r32 ((0 : Int32)) _ _ ls h hF hS (lv_sub hl [5, 7, 8, 1, 0] rfl)
def m_X4_speakFromAir (F : Nat) (g : Mem) (a0 : Int32) : Option (Int32 × Mem) := if (a0 < 0 ∨ 64 ≤ a0.toNatClampNeg) then none else if (a0 < 0 ∨ 64 ≤ a0.toNatClampNeg) then none else if (a0 < 0 ∨ 64 ≤ a0.toNatClampNeg) then none else (m_X0_dropAt g a0).bind (fun (r5, g6) => (m_X4_speak F g6 (g 9 0 (a0.toNatClampNeg)) (g 11 0 (a0.toNatClampNeg)) (g 12 0 (a0.toNatClampNeg))).bind (fun (r9, g10) => some (0, g10)))
set_option maxHeartbeats 4000000 in
set_option maxRecDepth 100000 in
theorem c_X4_speakFromAir (l : Launch) {κ : Cx} (hok : fok (cφ κ)) (hn : 1 ≤ cn κ)  {F : Nat} {g : Mem} {a0 : Int32} {u : Int32 × Mem} (h : m_X4_speakFromAir F g a0 = some u) : fM l (cφ κ) yX4_speakFromAir wsX4_speakFromAir 5 122 [.ref (fa (cφ κ) 2 0), .int a0] g none u.2 := by
  refine fM.of (cc := cX4_speakFromAir) (maxL := 5) (ret := none) [(0, .ref (fa (cφ κ) 2 0)), (1, .int a0)] (by decide) rfl (Nat.le_of_ble_eq_true rfl) rfl (fun p e s m below meth c ls hx hb hr hml hown hts hlk hE hF hS hl => ?_)
  replace hown : s.vm.findClass RX4 = some m.cls := hown
  have hL0 : ∀ w ∈ u_ws RX0 TX0 5, w.before ([.ref (fa (cφ κ) 2 0), .int a0] : List Value).toArray s = true := fun w hw => hts w (by
    unfold wsX4_speakFromAir
    simp only [List.mem_cons, List.mem_append]
    exact Or.inr (Or.inl (Or.inl (Or.inl (Or.inr hw)))))
  have hL4 : ∀ w ∈ u_ws RX4 TX4 11, w.before ([.ref (fa (cφ κ) 2 0), .int a0] : List Value).toArray s = true := fun w hw => hts w (by
    unfold wsX4_speakFromAir
    simp only [List.mem_cons, List.mem_append]
    exact Or.inr (Or.inl (Or.inl (Or.inl (Or.inl (Or.inr hw))))))
  have kw1 := hts (.fieldLink RX4 27 "MeshLamps$Mesh" "air" "LMeshLamps$Air;") (List.mem_of_getElem? (i := 1) rfl)
  have kw2 := hts (.fieldLink RX4 93 "MeshLamps$Air" "speaker" "[I") (List.mem_of_getElem? (i := 2) rfl)
  have kw3 := hts (.fieldLink RX4 96 "MeshLamps$Air" "letter" "[I") (List.mem_of_getElem? (i := 3) rfl)
  have kw4 := hts (.fieldLink RX4 99 "MeshLamps$Air" "steps" "[I") (List.mem_of_getElem? (i := 4) rfl)
  unfold m_X4_speakFromAir at h
  refine lv_aload_n hx hb dX4_speakFromAir_0 rfl (lv_at hl 0 rfl) ?_
  refine fw_get (C := RX4) (T := TX4) (N := 11) (ci := 4) (v := .ref (fa (cφ κ) 8 0)) hx hb hL4 hown hE hF (b2 hn) (cm2 κ _ _) rfl 2 (by decide) kw1 rfl dX4_speakFromAir_1 ?_
  refine fw_get (C := RX0) (T := TX0) (N := 5) (ci := 0) (v := .ref (fa (cφ κ) 9 0)) hx hb hL0 hown hE hF (b8 hn) (cm8 κ _ _) rfl 0 (by decide) kw2 rfl dX4_speakFromAir_4 ?_
  refine lv_iload_n hx hb dX4_speakFromAir_7 rfl (lv_at hl 1 rfl) ?_
  obtain ⟨k1, h⟩ := ck h
  refine fw_iald (q := a0.toNatClampNeg) hx hb hE hF (b9 hn) (cm9 κ _) 0 rfl k1 rfl dX4_speakFromAir_8 ?_
  refine lv_istore_n (lv' := [(2, .int (g 9 0 (a0.toNatClampNeg))), (0, .ref (fa (cφ κ) 2 0)), (1, .int a0)]) hx hb dX4_speakFromAir_9 rfl hl (by decide) rfl (fun ls hl => ?_)
  refine lv_aload_n hx hb dX4_speakFromAir_10 rfl (lv_at hl 1 rfl) ?_
  refine fw_get (C := RX4) (T := TX4) (N := 11) (ci := 4) (v := .ref (fa (cφ κ) 8 0)) hx hb hL4 hown hE hF (b2 hn) (cm2 κ _ _) rfl 2 (by decide) kw1 rfl dX4_speakFromAir_11 ?_
  refine fw_get (C := RX0) (T := TX0) (N := 5) (ci := 0) (v := .ref (fa (cφ κ) 11 0)) hx hb hL0 hown hE hF (b8 hn) (cm8 κ _ _) rfl 2 (by decide) kw3 rfl dX4_speakFromAir_14 ?_
  refine lv_iload_n hx hb dX4_speakFromAir_17 rfl (lv_at hl 2 rfl) ?_
  obtain ⟨k2, h⟩ := ck h
  refine fw_iald (q := a0.toNatClampNeg) hx hb hE hF (b11 hn) (cm11 κ _) 0 rfl k2 rfl dX4_speakFromAir_18 ?_
  refine lv_istore_n (lv' := [(3, .int (g 11 0 (a0.toNatClampNeg))), (2, .int (g 9 0 (a0.toNatClampNeg))), (0, .ref (fa (cφ κ) 2 0)), (1, .int a0)]) hx hb dX4_speakFromAir_19 rfl hl (by decide) rfl (fun ls hl => ?_)
  refine lv_aload_n hx hb dX4_speakFromAir_20 rfl (lv_at hl 2 rfl) ?_
  refine fw_get (C := RX4) (T := TX4) (N := 11) (ci := 4) (v := .ref (fa (cφ κ) 8 0)) hx hb hL4 hown hE hF (b2 hn) (cm2 κ _ _) rfl 2 (by decide) kw1 rfl dX4_speakFromAir_21 ?_
  refine fw_get (C := RX0) (T := TX0) (N := 5) (ci := 0) (v := .ref (fa (cφ κ) 12 0)) hx hb hL0 hown hE hF (b8 hn) (cm8 κ _ _) rfl 3 (by decide) kw4 rfl dX4_speakFromAir_24 ?_
  refine lv_iload_n hx hb dX4_speakFromAir_27 rfl (lv_at hl 3 rfl) ?_
  obtain ⟨k3, h⟩ := ck h
  refine fw_iald (q := a0.toNatClampNeg) hx hb hE hF (b12 hn) (cm12 κ _) 0 rfl k3 rfl dX4_speakFromAir_28 ?_
  refine lv_istore (lv' := [(4, .int (g 12 0 (a0.toNatClampNeg))), (3, .int (g 11 0 (a0.toNatClampNeg))), (2, .int (g 9 0 (a0.toNatClampNeg))), (0, .ref (fa (cφ κ) 2 0)), (1, .int a0)]) hx hb dX4_speakFromAir_29 hl (by decide) rfl (fun ls hl => ?_)
  refine lv_aload_n hx hb dX4_speakFromAir_31 rfl (lv_at hl 3 rfl) ?_
  refine fw_get (C := RX4) (T := TX4) (N := 11) (ci := 4) (v := .ref (fa (cφ κ) 8 0)) hx hb hL4 hown hE hF (b2 hn) (cm2 κ _ _) rfl 2 (by decide) kw1 rfl dX4_speakFromAir_32 ?_
  refine lv_iload_n hx hb dX4_speakFromAir_35 rfl (lv_at hl 4 rfl) ?_
  obtain ⟨⟨r5, g6⟩, q4, h⟩ := bnd h
  try dsimp only at h
  refine fw_callv (va_runV (As := [.int a0]) (rest := []) ⟨hx, hb, hml, hown, hts⟩ (c_X0_dropAt l hok hn q4) (cwV 1 hts gX4_speakFromAir_X0_dropAt rfl rfl rfl qv_X0_dropAt ⟨Nat.le_of_ble_eq_true rfl, Nat.le_of_ble_eq_true rfl⟩) (fw_preV hok hE hF (b8 hn) (cm8 κ _ _) rfl) rfl rfl hl.1 rfl (lv_room (Nat.le_of_ble_eq_true rfl)) dX4_speakFromAir_36 ⟨Nat.le_refl _, Nat.le_refl _⟩) hS (fun H locs hF hS => ?_)
  refine lv_aload_n hx hb dX4_speakFromAir_39 rfl (lv_at hl 3 rfl) ?_
  refine lv_iload_n hx hb dX4_speakFromAir_40 rfl (lv_at hl 2 rfl) ?_
  refine lv_iload_n hx hb dX4_speakFromAir_41 rfl (lv_at hl 1 rfl) ?_
  refine lv_iload hx hb dX4_speakFromAir_42 (lv_at hl 0 rfl) ?_
  obtain ⟨⟨r9, g10⟩, q8, h⟩ := bnd h
  try dsimp only at h
  refine fw_callv (va_runV (As := [.int (g 9 0 (a0.toNatClampNeg)), .int (g 11 0 (a0.toNatClampNeg)), .int (g 12 0 (a0.toNatClampNeg))]) (rest := []) ⟨hx, hb, hml, hown, hts⟩ (c_X4_speak l hok hn q8) (cwV 3 hts gX4_speakFromAir_X4_speak rfl rfl rfl qv_X4_speak ⟨Nat.le_of_ble_eq_true rfl, Nat.le_of_ble_eq_true rfl⟩) (fw_preV hok hE hF (b2 hn) (cm2 κ _ _) rfl) rfl rfl hl.1 rfl (lv_room (Nat.le_of_ble_eq_true rfl)) dX4_speakFromAir_44 ⟨Nat.le_refl _, Nat.le_refl _⟩) hS (fun H locs hF hS => ?_)
  exact fw_vret hx hb hr hlk h hF hS dX4_speakFromAir_47
def st_X4_passTick_22 (F : Nat) (K : Mem → Int32 → Int32 → Int32 → Option (Int32 × Mem)) (g : Mem) (x1 x2 x3 : Int32) : Option (Int32 × Mem) := (if x1 ≤ x3 then some (0, g) else (if (g 8 0 4) ≤ x2 then some (0, g) else if (x2 < 0 ∨ 64 ≤ x2.toNatClampNeg) then none else (if (g 10 0 (x2.toNatClampNeg)) = (g 2 0 3) then (m_X4_speakFromAir F g x2).bind (fun (r8, g9) => K g9 x1 x2 (x3 + (1 : Int32))) else K g x1 (x2 + (1 : Int32)) (x3 + (1 : Int32)))))
def lp_X4_passTick_22 (F : Nat) : Nat → Mem → Int32 → Int32 → Int32 → Option (Int32 × Mem)
  | 0, _, _, _, _ => none
  | f + 1, g, x1, x2, x3 => st_X4_passTick_22 F (lp_X4_passTick_22 F f ) g x1 x2 x3
def m_X4_passTick (F : Nat) (g : Mem) : Option (Int32 × Mem) := ltm (upr g 2 0 (upd (g 2 0) 3 ((g 2 0 3) + ((1 : Int32))))) (fun g1 => lp_X4_passTick_22 F F g1 (g1 8 0 4) ((0 : Int32)) ((0 : Int32)))
set_option maxHeartbeats 4000000 in
set_option maxRecDepth 100000 in
theorem c_X4_passTick (l : Launch) {κ : Cx} (hok : fok (cφ κ)) (hn : 1 ≤ cn κ)  {F : Nat} {g : Mem} {u : Int32 × Mem} (h : m_X4_passTick F g  = some u) : fM l (cφ κ) yX4_passTick wsX4_passTick 6 146 [.ref (fa (cφ κ) 2 0)] g none u.2 := by
  refine fM.of (cc := cX4_passTick) (maxL := 4) (ret := none) [(0, .ref (fa (cφ κ) 2 0))] (by decide) rfl (Nat.le_of_ble_eq_true rfl) rfl (fun p e s m below meth c ls hx hb hr hml hown hts hlk hE hF hS hl => ?_)
  replace hown : s.vm.findClass RX4 = some m.cls := hown
  have hL0 : ∀ w ∈ u_ws RX0 TX0 5, w.before ([.ref (fa (cφ κ) 2 0)] : List Value).toArray s = true := fun w hw => hts w (by
    unfold wsX4_passTick
    simp only [List.mem_cons, List.mem_append]
    exact Or.inr (Or.inl (Or.inl (Or.inl (Or.inr hw)))))
  have hL4 : ∀ w ∈ u_ws RX4 TX4 11, w.before ([.ref (fa (cφ κ) 2 0)] : List Value).toArray s = true := fun w hw => hts w (by
    unfold wsX4_passTick
    simp only [List.mem_cons, List.mem_append]
    exact Or.inr (Or.inl (Or.inl (Or.inl (Or.inl (Or.inr hw))))))
  have kw1 := hts (.fieldLink RX4 31 "MeshLamps$Mesh" "tick" "I") (List.mem_of_getElem? (i := 1) rfl)
  have kw2 := hts (.fieldLink RX4 27 "MeshLamps$Mesh" "air" "LMeshLamps$Air;") (List.mem_of_getElem? (i := 2) rfl)
  have kw3 := hts (.fieldLink RX4 84 "MeshLamps$Air" "size" "I") (List.mem_of_getElem? (i := 3) rfl)
  have kw4 := hts (.fieldLink RX4 87 "MeshLamps$Air" "tick" "[I") (List.mem_of_getElem? (i := 4) rfl)
  unfold m_X4_passTick at h
  refine lv_aload_n hx hb dX4_passTick_0 rfl (lv_at hl 0 rfl) ?_
  refine lv_dup hx hb dX4_passTick_1 rfl ?_
  refine fw_get (C := RX4) (T := TX4) (N := 11) (ci := 4) (v := .int (g 2 0 3)) hx hb hL4 hown hE hF (b2 hn) (cm2 κ _ _) rfl 3 (by decide) kw1 rfl dX4_passTick_2 ?_
  refine lv_iconst (v := (1 : Int32)) hx hb dX4_passTick_5 (by decide) ?_
  refine lv_iadd hx hb dX4_passTick_6 ?_
  refine fw_put (C := RX4) (T := TX4) (N := 11) (ci := 4) (ty := .int) (v := .int ((g 2 0 3) + ((1 : Int32)))) (r := upd (g 2 0) 3 ((g 2 0 3) + ((1 : Int32)))) hx hb hL4 tyX4 tyX4_ok nmX4 hown hE hok hF hS (b2 hn) (cm2 κ _ _) rfl 3 (by decide) kw1 rfl (tyX4_ok 3 (by decide)) rfl rfl (Nat.le_of_ble_eq_true rfl) rfl dX4_passTick_7 (fun H locs hF hS => ?_)
  obtain ⟨g1, e2, h⟩ := ltm_e h
  rw [e2] at hF
  refine lv_aload_n hx hb dX4_passTick_10 rfl (lv_at hl 0 rfl) ?_
  refine fw_get (C := RX4) (T := TX4) (N := 11) (ci := 4) (v := .ref (fa (cφ κ) 8 0)) hx hb hL4 hown hE hF (b2 hn) (cm2 κ _ _) rfl 2 (by decide) kw2 rfl dX4_passTick_11 ?_
  refine fw_get (C := RX0) (T := TX0) (N := 5) (ci := 0) (v := .int (g1 8 0 4)) hx hb hL0 hown hE hF (b8 hn) (cm8 κ _ _) rfl 4 (by decide) kw3 rfl dX4_passTick_14 ?_
  refine lv_istore_n (lv' := [(1, .int (g1 8 0 4)), (0, .ref (fa (cφ κ) 2 0))]) hx hb dX4_passTick_17 rfl hl (by decide) rfl (fun ls hl => ?_)
  refine lv_iconst (v := (0 : Int32)) hx hb dX4_passTick_18 (by decide) ?_
  refine lv_istore_n (lv' := [(2, .int ((0 : Int32))), (1, .int (g1 8 0 4)), (0, .ref (fa (cφ κ) 2 0))]) hx hb dX4_passTick_19 rfl hl (by decide) rfl (fun ls hl => ?_)
  refine lv_iconst (v := (0 : Int32)) hx hb dX4_passTick_20 (by decide) ?_
  refine lv_istore_n (lv' := [(3, .int ((0 : Int32))), (2, .int ((0 : Int32))), (1, .int (g1 8 0 4)), (0, .ref (fa (cφ κ) 2 0))]) hx hb dX4_passTick_21 rfl hl (by decide) rfl (fun ls hl => ?_)
  have LOOP22 : ∀ (f : Nat) (g : Mem) (x1 x2 x3 : Int32) (H : Heap) (locs : List Loc) (ls : Array Slot), lp_X4_passTick_22 F f g x1 x2 x3 = some u → fw (cφ κ) g H → va_S (fA (cφ κ)) s.heap H locs → lv_has ls 4 [(0, .ref (fa (cφ κ) 2 0)), (1, .int x1), (2, .int x2), (3, .int x3)] → W p l e ({ frames := 6, cells := 0, slots := 0, locals := 146 }) s m ([.ref (fa (cφ κ) 2 0)] : List Value).toArray below meth c H locs 0 0 (MQ below (fQ (cφ κ) none u.2) ([.ref (fa (cφ κ) 2 0)] : List Value).toArray s 0 0 (fA (cφ κ))) (F0 m 22 ls []) := by
    intro f
    induction f with
    | zero => intro g x1 x2 x3 H locs ls h hF hS hl; cases h
    | succ f ih =>
      intro g x1 x2 x3 H locs ls h hF hS hl
      replace h : st_X4_passTick_22 F (lp_X4_passTick_22 F f ) g x1 x2 x3 = some u := h
      unfold st_X4_passTick_22 at h
      refine lv_iload_n hx hb dX4_passTick_22 rfl (lv_at hl 3 rfl) ?_
      refine lv_iload_n hx hb dX4_passTick_23 rfl (lv_at hl 1 rfl) ?_
      refine lv_icmp_ge (tgt := 71) hx hb dX4_passTick_24 (by decide) (fun c3 => ?_) (fun c3 => ?_)
      · have h := ift h c3
        exact fw_vret hx hb hr hlk h hF hS dX4_passTick_71
      · have h := iff0 h c3
        refine lv_iload_n hx hb dX4_passTick_27 rfl (lv_at hl 2 rfl) ?_
        refine lv_aload_n hx hb dX4_passTick_28 rfl (lv_at hl 0 rfl) ?_
        refine fw_get (C := RX4) (T := TX4) (N := 11) (ci := 4) (v := .ref (fa (cφ κ) 8 0)) hx hb hL4 hown hE hF (b2 hn) (cm2 κ _ _) rfl 2 (by decide) kw2 rfl dX4_passTick_29 ?_
        refine fw_get (C := RX0) (T := TX0) (N := 5) (ci := 0) (v := .int (g 8 0 4)) hx hb hL0 hown hE hF (b8 hn) (cm8 κ _ _) rfl 4 (by decide) kw3 rfl dX4_passTick_32 ?_
        refine lv_icmp_ge (tgt := 71) hx hb dX4_passTick_35 (by decide) (fun c4 => ?_) (fun c4 => ?_)
        · have h := ift h c4
          exact fw_vret hx hb hr hlk h hF hS dX4_passTick_71
        · have h := iff0 h c4
          refine lv_aload_n hx hb dX4_passTick_38 rfl (lv_at hl 0 rfl) ?_
          refine fw_get (C := RX4) (T := TX4) (N := 11) (ci := 4) (v := .ref (fa (cφ κ) 8 0)) hx hb hL4 hown hE hF (b2 hn) (cm2 κ _ _) rfl 2 (by decide) kw2 rfl dX4_passTick_39 ?_
          refine fw_get (C := RX0) (T := TX0) (N := 5) (ci := 0) (v := .ref (fa (cφ κ) 10 0)) hx hb hL0 hown hE hF (b8 hn) (cm8 κ _ _) rfl 1 (by decide) kw4 rfl dX4_passTick_42 ?_
          refine lv_iload_n hx hb dX4_passTick_45 rfl (lv_at hl 2 rfl) ?_
          obtain ⟨k5, h⟩ := ck h
          refine fw_iald (q := x2.toNatClampNeg) hx hb hE hF (b10 hn) (cm10 κ _) 0 rfl k5 rfl dX4_passTick_46 ?_
          refine lv_aload_n hx hb dX4_passTick_47 rfl (lv_at hl 0 rfl) ?_
          refine fw_get (C := RX4) (T := TX4) (N := 11) (ci := 4) (v := .int (g 2 0 3)) hx hb hL4 hown hE hF (b2 hn) (cm2 κ _ _) rfl 3 (by decide) kw1 rfl dX4_passTick_48 ?_
          refine lv_icmp_ne (tgt := 62) hx hb dX4_passTick_51 (by decide) (fun c6 => ?_) (fun c6 => ?_)
          · have h := iff0 h c6
            refine lv_iinc (v := x2 + (1 : Int32)) (lv' := [(2, .int (x2 + (1 : Int32))), (0, .ref (fa (cφ κ) 2 0)), (1, .int x1), (3, .int x3)]) hx hb dX4_passTick_62 hl (k := 2) rfl rfl (by decide) rfl (fun ls hl => ?_)
            refine lv_iinc (v := x3 + (1 : Int32)) (lv' := [(3, .int (x3 + (1 : Int32))), (2, .int (x2 + (1 : Int32))), (0, .ref (fa (cφ κ) 2 0)), (1, .int x1)]) hx hb dX4_passTick_65 hl (k := 3) rfl rfl (by decide) rfl (fun ls hl => ?_)
            refine lv_goto (tgt := 22) hx hb dX4_passTick_68 (by decide) ?_
            exact ih g x1 (x2 + (1 : Int32)) (x3 + (1 : Int32)) H locs ls h hF hS (lv_sub hl [2, 3, 1, 0] rfl)
          · have h := ift h c6
            refine lv_aload_n hx hb dX4_passTick_54 rfl (lv_at hl 0 rfl) ?_
            refine lv_iload_n hx hb dX4_passTick_55 rfl (lv_at hl 2 rfl) ?_
            obtain ⟨⟨r8, g9⟩, q7, h⟩ := bnd h
            try dsimp only at h
            refine fw_callv (va_runV (As := [.int x2]) (rest := []) ⟨hx, hb, hml, hown, hts⟩ (c_X4_speakFromAir l hok hn q7) (cwV 1 hts gX4_passTick_X4_speakFromAir rfl rfl rfl qv_X4_speakFromAir ⟨Nat.le_of_ble_eq_true rfl, Nat.le_of_ble_eq_true rfl⟩) (fw_preV hok hE hF (b2 hn) (cm2 κ _ _) rfl) rfl rfl hl.1 rfl (lv_room (Nat.le_of_ble_eq_true rfl)) dX4_passTick_56 ⟨Nat.le_refl _, Nat.le_refl _⟩) hS (fun H locs hF hS => ?_)
            refine lv_goto (tgt := 65) hx hb dX4_passTick_59 (by decide) ?_
            refine lv_iinc (v := x3 + (1 : Int32)) (lv' := [(3, .int (x3 + (1 : Int32))), (0, .ref (fa (cφ κ) 2 0)), (1, .int x1), (2, .int x2)]) hx hb dX4_passTick_65 hl (k := 3) rfl rfl (by decide) rfl (fun ls hl => ?_)
            refine lv_goto (tgt := 22) hx hb dX4_passTick_68 (by decide) ?_
            exact ih g9 x1 x2 (x3 + (1 : Int32)) H locs ls h hF hS (lv_sub hl [1, 2, 3, 0] rfl)
  exact LOOP22 F g1 (g1 8 0 4) ((0 : Int32)) ((0 : Int32)) _ _ ls h hF hS (lv_sub hl [3, 2, 1, 0] rfl)
def st_X4_wake_20 (F : Nat) (K : Mem → Int32 → Int32 → Int32 → Option (Int32 × Mem)) (w2 : Nat) (g : Mem) (x1 x3 x4 : Int32) : Option (Int32 × Mem) := (if (g 18 w2 1) ≤ x4 then (m_X3_dropOldestk F w2 g ((0 : Int32))).bind (fun (r6, g7) => some ((g7 13 w2 9) - x3, g7)) else if (x4 < 0 ∨ 3 ≤ x4.toNatClampNeg) then none else (m_X4_knows g x1 (g 19 w2 (x4.toNatClampNeg))).bind (fun (r11, g12) => (if r11 = 0 then ltm (upr g12 13 w2 (upd (g12 13 w2) 11 ((g12 13 w2 11) + ((1 : Int32))))) (fun g15 => K g15 x1 x3 (x4 + (1 : Int32))) else (m_X4_take w2 g12 (g 19 w2 (x4.toNatClampNeg))).bind (fun (r18, g19) => K g19 x1 x3 (x4 + (1 : Int32))))))
def lp_X4_wake_20 (F : Nat) : Nat → Nat → Mem → Int32 → Int32 → Int32 → Option (Int32 × Mem)
  | 0, _, _, _, _, _ => none
  | f + 1, w2, g, x1, x3, x4 => st_X4_wake_20 F (lp_X4_wake_20 F f w2) w2 g x1 x3 x4
def m_X4_wake (F : Nat) (g : Mem) (a0 : Int32) : Option (Int32 × Mem) := if (a0 < 0 ∨ 10 ≤ a0.toNatClampNeg) then none else ltm (upr g 13 (a0.toNatClampNeg) (upd (g 13 (a0.toNatClampNeg)) 6 ((0 : Int32)))) (fun g2 => lp_X4_wake_20 F F (a0.toNatClampNeg) g2 a0 (g 13 (a0.toNatClampNeg) 9) ((0 : Int32)))
set_option maxHeartbeats 4000000 in
set_option maxRecDepth 100000 in
theorem c_X4_wake (l : Launch) {κ : Cx} (hok : fok (cφ κ)) (hn : 1 ≤ cn κ)  {F : Nat} {g : Mem} {a0 : Int32} {u : Int32 × Mem} (h : m_X4_wake F g a0 = some u) : fM l (cφ κ) yX4_wake wsX4_wake 2 44 [.ref (fa (cφ κ) 2 0), .int a0] g (some (.int u.1)) u.2 := by
  refine fM.of (cc := cX4_wake) (maxL := 6) (ret := (some .int)) [(0, .ref (fa (cφ κ) 2 0)), (1, .int a0)] (by decide) rfl (Nat.le_of_ble_eq_true rfl) rfl (fun p e s m below meth c ls hx hb hr hml hown hts hlk hE hF hS hl => ?_)
  replace hown : s.vm.findClass RX4 = some m.cls := hown
  have hL1 : ∀ w ∈ u_ws RX1 TX1 15, w.before ([.ref (fa (cφ κ) 2 0), .int a0] : List Value).toArray s = true := fun w hw => hts w (by
    unfold wsX4_wake
    simp only [List.mem_cons, List.mem_append]
    exact Or.inr (Or.inl (Or.inl (Or.inr hw))))
  have hL3 : ∀ w ∈ u_ws RX3 TX3 2, w.before ([.ref (fa (cφ κ) 2 0), .int a0] : List Value).toArray s = true := fun w hw => hts w (by
    unfold wsX4_wake
    simp only [List.mem_cons, List.mem_append]
    exact Or.inr (Or.inl (Or.inr hw)))
  have hL4 : ∀ w ∈ u_ws RX4 TX4 11, w.before ([.ref (fa (cφ κ) 2 0), .int a0] : List Value).toArray s = true := fun w hw => hts w (by
    unfold wsX4_wake
    simp only [List.mem_cons, List.mem_append]
    exact Or.inr (Or.inl (Or.inl (Or.inl (Or.inr hw)))))
  have kw1 := hts (.fieldLink RX4 11 "MeshLamps$Mesh" "lamps" "[LMeshLamps$Lamp;") (List.mem_of_getElem? (i := 1) rfl)
  have kw2 := hts (.fieldLink RX4 196 "MeshLamps$Lamp" "took" "I") (List.mem_of_getElem? (i := 2) rfl)
  have kw3 := hts (.fieldLink RX4 109 "MeshLamps$Lamp" "sleeps" "Z") (List.mem_of_getElem? (i := 3) rfl)
  have kw4 := hts (.fieldLink RX4 171 "MeshLamps$Lamp" "kept" "LMeshLamps$Line;") (List.mem_of_getElem? (i := 4) rfl)
  have kw5 := hts (.fieldLink RX4 199 "MeshLamps$Line" "size" "I") (List.mem_of_getElem? (i := 5) rfl)
  have kw6 := hts (.fieldLink RX4 200 "MeshLamps$Line" "letters" "[I") (List.mem_of_getElem? (i := 6) rfl)
  have kw7 := hts (.fieldLink RX4 129 "MeshLamps$Lamp" "hadStrange" "I") (List.mem_of_getElem? (i := 7) rfl)
  unfold m_X4_wake at h
  refine lv_aload_n hx hb dX4_wake_0 rfl (lv_at hl 0 rfl) ?_
  refine fw_get (C := RX4) (T := TX4) (N := 11) (ci := 4) (v := .ref (fa (cφ κ) 3 0)) hx hb hL4 hown hE hF (b2 hn) (cm2 κ _ _) rfl 0 (by decide) kw1 rfl dX4_wake_1 ?_
  refine lv_iload_n hx hb dX4_wake_4 rfl (lv_at hl 1 rfl) ?_
  obtain ⟨k1, h⟩ := ck h
  refine fw_aald (a := fa (cφ κ) 13 (a0.toNatClampNeg)) hx hb hE hF (b3 hn) (cm3 κ _ _) 1 rfl k1 rfl dX4_wake_5 ?_
  refine lv_astore_n (lv' := [(2, .ref (fa (cφ κ) 13 (a0.toNatClampNeg))), (0, .ref (fa (cφ κ) 2 0)), (1, .int a0)]) hx hb dX4_wake_6 rfl hl (by decide) rfl (fun ls hl => ?_)
  refine lv_aload_n hx hb dX4_wake_7 rfl (lv_at hl 0 rfl) ?_
  refine fw_get (C := RX1) (T := TX1) (N := 15) (ci := 1) (v := .int (g 13 (a0.toNatClampNeg) 9)) hx hb hL1 hown hE hF (b13 hn (vpl k1)) (cm13 κ _ _) rfl 9 (by decide) kw2 rfl dX4_wake_8 ?_
  refine lv_istore_n (lv' := [(3, .int (g 13 (a0.toNatClampNeg) 9)), (2, .ref (fa (cφ κ) 13 (a0.toNatClampNeg))), (0, .ref (fa (cφ κ) 2 0)), (1, .int a0)]) hx hb dX4_wake_11 rfl hl (by decide) rfl (fun ls hl => ?_)
  refine lv_aload_n hx hb dX4_wake_12 rfl (lv_at hl 1 rfl) ?_
  refine lv_iconst (v := (0 : Int32)) hx hb dX4_wake_13 (by decide) ?_
  refine fw_put (C := RX1) (T := TX1) (N := 15) (ci := 1) (ty := .boolean) (v := .int ((0 : Int32))) (r := upd (g 13 (a0.toNatClampNeg)) 6 ((0 : Int32))) hx hb hL1 tyX1 tyX1_ok nmX1 hown hE hok hF hS (b13 hn (vpl k1)) (cm13 κ _ _) rfl 6 (by decide) kw3 rfl (tyX1_ok 6 (by decide)) rfl rfl (Nat.le_of_ble_eq_true rfl) rfl dX4_wake_14 (fun H locs hF hS => ?_)
  obtain ⟨g2, e3, h⟩ := ltm_e h
  rw [e3] at hF
  refine lv_iconst (v := (0 : Int32)) hx hb dX4_wake_17 (by decide) ?_
  refine lv_istore (lv' := [(4, .int ((0 : Int32))), (3, .int (g 13 (a0.toNatClampNeg) 9)), (2, .ref (fa (cφ κ) 13 (a0.toNatClampNeg))), (0, .ref (fa (cφ κ) 2 0)), (1, .int a0)]) hx hb dX4_wake_18 hl (by decide) rfl (fun ls hl => ?_)
  have LOOP20 : ∀ (f : Nat) (g : Mem) (x1 x3 x4 : Int32) (H : Heap) (locs : List Loc) (ls : Array Slot), lp_X4_wake_20 F f (a0.toNatClampNeg) g x1 x3 x4 = some u → fw (cφ κ) g H → va_S (fA (cφ κ)) s.heap H locs → lv_has ls 6 [(0, .ref (fa (cφ κ) 2 0)), (1, .int x1), (2, .ref (fa (cφ κ) 13 (a0.toNatClampNeg))), (3, .int x3), (4, .int x4)] → W p l e ({ frames := 2, cells := 0, slots := 0, locals := 44 }) s m ([.ref (fa (cφ κ) 2 0), .int a0] : List Value).toArray below meth c H locs 0 0 (MQ below (fQ (cφ κ) (some (.int u.1)) u.2) ([.ref (fa (cφ κ) 2 0), .int a0] : List Value).toArray s 0 0 (fA (cφ κ))) (F0 m 20 ls []) := by
    intro f
    induction f with
    | zero => intro g x1 x3 x4 H locs ls h hF hS hl; cases h
    | succ f ih =>
      intro g x1 x3 x4 H locs ls h hF hS hl
      replace h : st_X4_wake_20 F (lp_X4_wake_20 F f (a0.toNatClampNeg)) (a0.toNatClampNeg) g x1 x3 x4 = some u := h
      unfold st_X4_wake_20 at h
      refine lv_iload hx hb dX4_wake_20 (lv_at hl 4 rfl) ?_
      refine lv_aload_n hx hb dX4_wake_22 rfl (lv_at hl 2 rfl) ?_
      refine fw_get (C := RX1) (T := TX1) (N := 15) (ci := 1) (v := .ref (fa (cφ κ) 18 (a0.toNatClampNeg))) hx hb hL1 hown hE hF (b13 hn (vpl k1)) (cm13 κ _ _) rfl 3 (by decide) kw4 rfl dX4_wake_23 ?_
      refine fw_get (C := RX3) (T := TX3) (N := 2) (ci := 3) (v := .int (g 18 (a0.toNatClampNeg) 1)) hx hb hL3 hown hE hF (b18 hn (vpl k1)) (cm18 κ _ _) rfl 1 (by decide) kw5 rfl dX4_wake_26 ?_
      refine lv_icmp_ge (tgt := 80) hx hb dX4_wake_29 (by decide) (fun c4 => ?_) (fun c4 => ?_)
      · have h := ift h c4
        refine lv_aload_n hx hb dX4_wake_80 rfl (lv_at hl 2 rfl) ?_
        refine fw_get (C := RX1) (T := TX1) (N := 15) (ci := 1) (v := .ref (fa (cφ κ) 18 (a0.toNatClampNeg))) hx hb hL1 hown hE hF (b13 hn (vpl k1)) (cm13 κ _ _) rfl 3 (by decide) kw4 rfl dX4_wake_81 ?_
        refine lv_iconst (v := (0 : Int32)) hx hb dX4_wake_84 (by decide) ?_
        obtain ⟨⟨r6, g7⟩, q5, h⟩ := bnd h
        try dsimp only at h
        refine fw_callv (va_runV (As := [.int ((0 : Int32))]) (rest := []) ⟨hx, hb, hml, hown, hts⟩ (c_X3_dropOldestk l hok hn (vpl k1) q5) (cwV 1 hts gX4_wake_X3_dropOldest rfl rfl rfl qv_X3_dropOldest ⟨Nat.le_of_ble_eq_true rfl, Nat.le_of_ble_eq_true rfl⟩) (fw_preV hok hE hF (b18 hn (vpl k1)) (cm18 κ _ _) rfl) rfl rfl hl.1 rfl (lv_room (Nat.le_of_ble_eq_true rfl)) dX4_wake_85 ⟨Nat.le_refl _, Nat.le_refl _⟩) hS (fun H locs hF hS => ?_)
        refine lv_aload_n hx hb dX4_wake_88 rfl (lv_at hl 2 rfl) ?_
        refine fw_get (C := RX1) (T := TX1) (N := 15) (ci := 1) (v := .int (g7 13 (a0.toNatClampNeg) 9)) hx hb hL1 hown hE hF (b13 hn (vpl k1)) (cm13 κ _ _) rfl 9 (by decide) kw2 rfl dX4_wake_89 ?_
        refine lv_iload_n hx hb dX4_wake_92 rfl (lv_at hl 3 rfl) ?_
        refine lv_isub hx hb dX4_wake_93 ?_
        exact fw_iret hx hb hr hlk h hF hS dX4_wake_94
      · have h := iff0 h c4
        refine lv_aload_n hx hb dX4_wake_32 rfl (lv_at hl 2 rfl) ?_
        refine fw_get (C := RX1) (T := TX1) (N := 15) (ci := 1) (v := .ref (fa (cφ κ) 18 (a0.toNatClampNeg))) hx hb hL1 hown hE hF (b13 hn (vpl k1)) (cm13 κ _ _) rfl 3 (by decide) kw4 rfl dX4_wake_33 ?_
        refine fw_get (C := RX3) (T := TX3) (N := 2) (ci := 3) (v := .ref (fa (cφ κ) 19 (a0.toNatClampNeg))) hx hb hL3 hown hE hF (b18 hn (vpl k1)) (cm18 κ _ _) rfl 0 (by decide) kw6 rfl dX4_wake_36 ?_
        refine lv_iload hx hb dX4_wake_39 (lv_at hl 4 rfl) ?_
        obtain ⟨k9, h⟩ := ck h
        refine fw_iald (q := x4.toNatClampNeg) hx hb hE hF (b19 hn (vpl k1)) (cm19 κ _) 0 rfl k9 rfl dX4_wake_41 ?_
        refine lv_istore (lv' := [(5, .int (g 19 (a0.toNatClampNeg) (x4.toNatClampNeg))), (0, .ref (fa (cφ κ) 2 0)), (1, .int x1), (2, .ref (fa (cφ κ) 13 (a0.toNatClampNeg))), (3, .int x3), (4, .int x4)]) hx hb dX4_wake_42 hl (by decide) rfl (fun ls hl => ?_)
        refine lv_aload_n hx hb dX4_wake_44 rfl (lv_at hl 1 rfl) ?_
        refine lv_iload_n hx hb dX4_wake_45 rfl (lv_at hl 2 rfl) ?_
        refine lv_iload hx hb dX4_wake_46 (lv_at hl 0 rfl) ?_
        obtain ⟨⟨r11, g12⟩, q10, h⟩ := bnd h
        try dsimp only at h
        refine fw_calli (va_runV (As := [.int x1, .int (g 19 (a0.toNatClampNeg) (x4.toNatClampNeg))]) (rest := []) ⟨hx, hb, hml, hown, hts⟩ (c_X4_knows l hok hn q10) (cwV 2 hts gX4_wake_X4_knows rfl rfl rfl qv_X4_knows ⟨Nat.le_of_ble_eq_true rfl, Nat.le_of_ble_eq_true rfl⟩) (fw_preV hok hE hF (b2 hn) (cm2 κ _ _) rfl) rfl rfl hl.1 rfl (lv_room (Nat.le_of_ble_eq_true rfl)) dX4_wake_48 ⟨Nat.le_refl _, Nat.le_refl _⟩) hS (fun H locs hF hS => ?_)
        refine lv_if_eq (tgt := 64) hx hb dX4_wake_51 (by decide) (fun c14 => ?_) (fun c14 => ?_)
        · have h := ift h c14
          refine lv_aload_n hx hb dX4_wake_64 rfl (lv_at hl 3 rfl) ?_
          refine lv_dup hx hb dX4_wake_65 rfl ?_
          refine fw_get (C := RX1) (T := TX1) (N := 15) (ci := 1) (v := .int (g12 13 (a0.toNatClampNeg) 11)) hx hb hL1 hown hE hF (b13 hn (vpl k1)) (cm13 κ _ _) rfl 11 (by decide) kw7 rfl dX4_wake_66 ?_
          refine lv_iconst (v := (1 : Int32)) hx hb dX4_wake_69 (by decide) ?_
          refine lv_iadd hx hb dX4_wake_70 ?_
          refine fw_put (C := RX1) (T := TX1) (N := 15) (ci := 1) (ty := .int) (v := .int ((g12 13 (a0.toNatClampNeg) 11) + ((1 : Int32)))) (r := upd (g12 13 (a0.toNatClampNeg)) 11 ((g12 13 (a0.toNatClampNeg) 11) + ((1 : Int32)))) hx hb hL1 tyX1 tyX1_ok nmX1 hown hE hok hF hS (b13 hn (vpl k1)) (cm13 κ _ _) rfl 11 (by decide) kw7 rfl (tyX1_ok 11 (by decide)) rfl rfl (Nat.le_of_ble_eq_true rfl) rfl dX4_wake_71 (fun H locs hF hS => ?_)
          obtain ⟨g15, e16, h⟩ := ltm_e h
          rw [e16] at hF
          refine lv_iinc (v := x4 + (1 : Int32)) (lv' := [(4, .int (x4 + (1 : Int32))), (5, .int (g 19 (a0.toNatClampNeg) (x4.toNatClampNeg))), (0, .ref (fa (cφ κ) 2 0)), (1, .int x1), (2, .ref (fa (cφ κ) 13 (a0.toNatClampNeg))), (3, .int x3)]) hx hb dX4_wake_74 hl (k := 5) rfl rfl (by decide) rfl (fun ls hl => ?_)
          refine lv_goto (tgt := 20) hx hb dX4_wake_77 (by decide) ?_
          exact ih g15 x1 x3 (x4 + (1 : Int32)) H locs ls h hF hS (lv_sub hl [2, 3, 4, 5, 0] rfl)
        · have h := iff0 h c14
          refine lv_aload_n hx hb dX4_wake_54 rfl (lv_at hl 1 rfl) ?_
          refine lv_aload_n hx hb dX4_wake_55 rfl (lv_at hl 3 rfl) ?_
          refine lv_iload hx hb dX4_wake_56 (lv_at hl 0 rfl) ?_
          obtain ⟨⟨r18, g19⟩, q17, h⟩ := bnd h
          try dsimp only at h
          refine fw_callv (va_runV (As := [.ref (fa (cφ κ) 13 (a0.toNatClampNeg)), .int (g 19 (a0.toNatClampNeg) (x4.toNatClampNeg))]) (rest := []) ⟨hx, hb, hml, hown, hts⟩ (c_X4_take l hok hn (vpl k1) q17) (cwV 2 hts gX4_wake_X4_take rfl rfl rfl qv_X4_take ⟨Nat.le_of_ble_eq_true rfl, Nat.le_of_ble_eq_true rfl⟩) (fw_preV hok hE hF (b2 hn) (cm2 κ _ _) rfl) rfl rfl hl.1 rfl (lv_room (Nat.le_of_ble_eq_true rfl)) dX4_wake_58 ⟨Nat.le_refl _, Nat.le_refl _⟩) hS (fun H locs hF hS => ?_)
          refine lv_goto (tgt := 74) hx hb dX4_wake_61 (by decide) ?_
          refine lv_iinc (v := x4 + (1 : Int32)) (lv' := [(4, .int (x4 + (1 : Int32))), (5, .int (g 19 (a0.toNatClampNeg) (x4.toNatClampNeg))), (0, .ref (fa (cφ κ) 2 0)), (1, .int x1), (2, .ref (fa (cφ κ) 13 (a0.toNatClampNeg))), (3, .int x3)]) hx hb dX4_wake_74 hl (k := 5) rfl rfl (by decide) rfl (fun ls hl => ?_)
          refine lv_goto (tgt := 20) hx hb dX4_wake_77 (by decide) ?_
          exact ih g19 x1 x3 (x4 + (1 : Int32)) H locs ls h hF hS (lv_sub hl [2, 3, 4, 5, 0] rfl)
  exact LOOP20 F g2 a0 (g 13 (a0.toNatClampNeg) 9) ((0 : Int32)) _ _ ls h hF hS (lv_sub hl [3, 4, 2, 1, 0] rfl)
def st_X4_sleepers_4 (F : Nat) (K : Mem → Int32 → Int32 → Option (Int32 × Mem)) (g : Mem) (x1 x2 : Int32) : Option (Int32 × Mem) := (if ((10 : Int32)) ≤ x2 then some (x1, g) else if (x2 < 0 ∨ 10 ≤ x2.toNatClampNeg) then none else (m_X5_asNumber (g 13 (x2.toNatClampNeg) 6)).bind (fun r4 => K g (x1 + r4) (x2 + (1 : Int32))))
def lp_X4_sleepers_4 (F : Nat) : Nat → Mem → Int32 → Int32 → Option (Int32 × Mem)
  | 0, _, _, _ => none
  | f + 1, g, x1, x2 => st_X4_sleepers_4 F (lp_X4_sleepers_4 F f ) g x1 x2
def m_X4_sleepers (F : Nat) (g : Mem) : Option (Int32 × Mem) := lp_X4_sleepers_4 F F g ((0 : Int32)) ((0 : Int32))
set_option maxHeartbeats 4000000 in
set_option maxRecDepth 100000 in
theorem c_X4_sleepers (l : Launch) {κ : Cx} (hok : fok (cφ κ)) (hn : 1 ≤ cn κ)  {F : Nat} {g : Mem} {u : Int32 × Mem} (h : m_X4_sleepers F g  = some u) : fM l (cφ κ) yX4_sleepers wsX4_sleepers 1 20 [.ref (fa (cφ κ) 2 0)] g (some (.int u.1)) u.2 := by
  refine fM.of (cc := cX4_sleepers) (maxL := 3) (ret := (some .int)) [(0, .ref (fa (cφ κ) 2 0))] (by decide) rfl (Nat.le_of_ble_eq_true rfl) rfl (fun p e s m below meth c ls hx hb hr hml hown hts hlk hE hF hS hl => ?_)
  replace hown : s.vm.findClass RX4 = some m.cls := hown
  have hL1 : ∀ w ∈ u_ws RX1 TX1 15, w.before ([.ref (fa (cφ κ) 2 0)] : List Value).toArray s = true := fun w hw => hts w (by
    unfold wsX4_sleepers
    simp only [List.mem_cons, List.mem_append]
    exact Or.inr (Or.inr hw))
  have hL4 : ∀ w ∈ u_ws RX4 TX4 11, w.before ([.ref (fa (cφ κ) 2 0)] : List Value).toArray s = true := fun w hw => hts w (by
    unfold wsX4_sleepers
    simp only [List.mem_cons, List.mem_append]
    exact Or.inr (Or.inl (Or.inr hw)))
  have kw1 := hts (.fieldLink RX4 11 "MeshLamps$Mesh" "lamps" "[LMeshLamps$Lamp;") (List.mem_of_getElem? (i := 1) rfl)
  have kw2 := hts (.fieldLink RX4 109 "MeshLamps$Lamp" "sleeps" "Z") (List.mem_of_getElem? (i := 2) rfl)
  have kw4 := hts (.initialized RX5) (List.mem_of_getElem? (i := 4) rfl)
  have kw3 := hts (.static yX5_asNumber) (List.mem_of_getElem? (i := 3) rfl)
  unfold m_X4_sleepers at h
  refine lv_iconst (v := (0 : Int32)) hx hb dX4_sleepers_0 (by decide) ?_
  refine lv_istore_n (lv' := [(1, .int ((0 : Int32))), (0, .ref (fa (cφ κ) 2 0))]) hx hb dX4_sleepers_1 rfl hl (by decide) rfl (fun ls hl => ?_)
  refine lv_iconst (v := (0 : Int32)) hx hb dX4_sleepers_2 (by decide) ?_
  refine lv_istore_n (lv' := [(2, .int ((0 : Int32))), (1, .int ((0 : Int32))), (0, .ref (fa (cφ κ) 2 0))]) hx hb dX4_sleepers_3 rfl hl (by decide) rfl (fun ls hl => ?_)
  have LOOP4 : ∀ (f : Nat) (g : Mem) (x1 x2 : Int32) (H : Heap) (locs : List Loc) (ls : Array Slot), lp_X4_sleepers_4 F f g x1 x2 = some u → fw (cφ κ) g H → va_S (fA (cφ κ)) s.heap H locs → lv_has ls 3 [(0, .ref (fa (cφ κ) 2 0)), (1, .int x1), (2, .int x2)] → W p l e ({ frames := 1, cells := 0, slots := 0, locals := 20 }) s m ([.ref (fa (cφ κ) 2 0)] : List Value).toArray below meth c H locs 0 0 (MQ below (fQ (cφ κ) (some (.int u.1)) u.2) ([.ref (fa (cφ κ) 2 0)] : List Value).toArray s 0 0 (fA (cφ κ))) (F0 m 4 ls []) := by
    intro f
    induction f with
    | zero => intro g x1 x2 H locs ls h hF hS hl; cases h
    | succ f ih =>
      intro g x1 x2 H locs ls h hF hS hl
      replace h : st_X4_sleepers_4 F (lp_X4_sleepers_4 F f ) g x1 x2 = some u := h
      unfold st_X4_sleepers_4 at h
      refine lv_iload_n hx hb dX4_sleepers_4 rfl (lv_at hl 2 rfl) ?_
      refine lv_bipush (v := (10 : Int32)) hx hb dX4_sleepers_5 (by decide) ?_
      refine lv_icmp_ge (tgt := 31) hx hb dX4_sleepers_7 (by decide) (fun c1 => ?_) (fun c1 => ?_)
      · have h := ift h c1
        refine lv_iload_n hx hb dX4_sleepers_31 rfl (lv_at hl 1 rfl) ?_
        exact fw_iret hx hb hr hlk h hF hS dX4_sleepers_32
      · have h := iff0 h c1
        refine lv_iload_n hx hb dX4_sleepers_10 rfl (lv_at hl 1 rfl) ?_
        refine lv_aload_n hx hb dX4_sleepers_11 rfl (lv_at hl 0 rfl) ?_
        refine fw_get (C := RX4) (T := TX4) (N := 11) (ci := 4) (v := .ref (fa (cφ κ) 3 0)) hx hb hL4 hown hE hF (b2 hn) (cm2 κ _ _) rfl 0 (by decide) kw1 rfl dX4_sleepers_12 ?_
        refine lv_iload_n hx hb dX4_sleepers_15 rfl (lv_at hl 2 rfl) ?_
        obtain ⟨k2, h⟩ := ck h
        refine fw_aald (a := fa (cφ κ) 13 (x2.toNatClampNeg)) hx hb hE hF (b3 hn) (cm3 κ _ _) 1 rfl k2 rfl dX4_sleepers_16 ?_
        refine fw_get (C := RX1) (T := TX1) (N := 15) (ci := 1) (v := .int (g 13 (x2.toNatClampNeg) 6)) hx hb hL1 hown hE hF (b13 hn (vpl k2)) (cm13 κ _ _) rfl 6 (by decide) kw2 rfl dX4_sleepers_17 ?_
        obtain ⟨r4, q3, h⟩ := bnd h
        try dsimp only at h
        refine pw_call (va_runSN (As := [.int (g 13 (x2.toNatClampNeg) 6)]) (rest := [.int x1]) ⟨hx, hb, hml, hown, hts⟩ (c_X5_asNumber l q3) ⟨va_cnB 1 hts gX4_sleepers_X5_asNumber_n205 rfl rfl rfl (hE.2 _ (List.mem_of_getElem? (i := 2) rfl)) kw4 qs_X5_asNumber ⟨Nat.le_of_ble_eq_true rfl, Nat.le_of_ble_eq_true rfl⟩, kw3, trivial⟩ preEq rfl rfl hl.1 rfl (lv_room (Nat.le_of_ble_eq_true rfl)) dX4_sleepers_20 ⟨Nat.le_refl _, Nat.le_refl _⟩) ?_
        refine lv_iadd hx hb dX4_sleepers_23 ?_
        refine lv_istore_n (lv' := [(1, .int (x1 + r4)), (0, .ref (fa (cφ κ) 2 0)), (2, .int x2)]) hx hb dX4_sleepers_24 rfl hl (by decide) rfl (fun ls hl => ?_)
        refine lv_iinc (v := x2 + (1 : Int32)) (lv' := [(2, .int (x2 + (1 : Int32))), (1, .int (x1 + r4)), (0, .ref (fa (cφ κ) 2 0))]) hx hb dX4_sleepers_25 hl (k := 2) rfl rfl (by decide) rfl (fun ls hl => ?_)
        refine lv_goto (tgt := 4) hx hb dX4_sleepers_28 (by decide) ?_
        exact ih g (x1 + r4) (x2 + (1 : Int32)) H locs ls h hF hS (lv_sub hl [2, 1, 0] rfl)
  exact LOOP4 F g ((0 : Int32)) ((0 : Int32)) _ _ ls h hF hS (lv_sub hl [2, 1, 0] rfl)
def st_X4_allLights_4 (F : Nat) (K : Mem → Int32 → Int32 → Option (Int32 × Mem)) (g : Mem) (x1 x2 : Int32) : Option (Int32 × Mem) := (if ((10 : Int32)) ≤ x2 then some (x1, g) else if (x2 < 0 ∨ 10 ≤ x2.toNatClampNeg) then none else K g (x1 + (g 13 (x2.toNatClampNeg) 5)) (x2 + (1 : Int32)))
def lp_X4_allLights_4 (F : Nat) : Nat → Mem → Int32 → Int32 → Option (Int32 × Mem)
  | 0, _, _, _ => none
  | f + 1, g, x1, x2 => st_X4_allLights_4 F (lp_X4_allLights_4 F f ) g x1 x2
def m_X4_allLights (F : Nat) (g : Mem) : Option (Int32 × Mem) := lp_X4_allLights_4 F F g ((0 : Int32)) ((0 : Int32))
set_option maxHeartbeats 4000000 in
set_option maxRecDepth 100000 in
theorem c_X4_allLights (l : Launch) {κ : Cx} (hok : fok (cφ κ)) (hn : 1 ≤ cn κ)  {F : Nat} {g : Mem} {u : Int32 × Mem} (h : m_X4_allLights F g  = some u) : fM l (cφ κ) yX4_allLights wsX4_allLights 0 0 [.ref (fa (cφ κ) 2 0)] g (some (.int u.1)) u.2 := by
  refine fM.of (cc := cX4_allLights) (maxL := 3) (ret := (some .int)) [(0, .ref (fa (cφ κ) 2 0))] (by decide) rfl (Nat.le_of_ble_eq_true rfl) rfl (fun p e s m below meth c ls hx hb hr hml hown hts hlk hE hF hS hl => ?_)
  replace hown : s.vm.findClass RX4 = some m.cls := hown
  have hL1 : ∀ w ∈ u_ws RX1 TX1 15, w.before ([.ref (fa (cφ κ) 2 0)] : List Value).toArray s = true := fun w hw => hts w (by
    unfold wsX4_allLights
    simp only [List.mem_cons, List.mem_append]
    exact Or.inr (Or.inr hw))
  have hL4 : ∀ w ∈ u_ws RX4 TX4 11, w.before ([.ref (fa (cφ κ) 2 0)] : List Value).toArray s = true := fun w hw => hts w (by
    unfold wsX4_allLights
    simp only [List.mem_cons, List.mem_append]
    exact Or.inr (Or.inl (Or.inr hw)))
  have kw1 := hts (.fieldLink RX4 11 "MeshLamps$Mesh" "lamps" "[LMeshLamps$Lamp;") (List.mem_of_getElem? (i := 1) rfl)
  have kw2 := hts (.fieldLink RX4 193 "MeshLamps$Lamp" "light" "I") (List.mem_of_getElem? (i := 2) rfl)
  unfold m_X4_allLights at h
  refine lv_iconst (v := (0 : Int32)) hx hb dX4_allLights_0 (by decide) ?_
  refine lv_istore_n (lv' := [(1, .int ((0 : Int32))), (0, .ref (fa (cφ κ) 2 0))]) hx hb dX4_allLights_1 rfl hl (by decide) rfl (fun ls hl => ?_)
  refine lv_iconst (v := (0 : Int32)) hx hb dX4_allLights_2 (by decide) ?_
  refine lv_istore_n (lv' := [(2, .int ((0 : Int32))), (1, .int ((0 : Int32))), (0, .ref (fa (cφ κ) 2 0))]) hx hb dX4_allLights_3 rfl hl (by decide) rfl (fun ls hl => ?_)
  have LOOP4 : ∀ (f : Nat) (g : Mem) (x1 x2 : Int32) (H : Heap) (locs : List Loc) (ls : Array Slot), lp_X4_allLights_4 F f g x1 x2 = some u → fw (cφ κ) g H → va_S (fA (cφ κ)) s.heap H locs → lv_has ls 3 [(0, .ref (fa (cφ κ) 2 0)), (1, .int x1), (2, .int x2)] → W p l e ({ frames := 0, cells := 0, slots := 0, locals := 0 }) s m ([.ref (fa (cφ κ) 2 0)] : List Value).toArray below meth c H locs 0 0 (MQ below (fQ (cφ κ) (some (.int u.1)) u.2) ([.ref (fa (cφ κ) 2 0)] : List Value).toArray s 0 0 (fA (cφ κ))) (F0 m 4 ls []) := by
    intro f
    induction f with
    | zero => intro g x1 x2 H locs ls h hF hS hl; cases h
    | succ f ih =>
      intro g x1 x2 H locs ls h hF hS hl
      replace h : st_X4_allLights_4 F (lp_X4_allLights_4 F f ) g x1 x2 = some u := h
      unfold st_X4_allLights_4 at h
      refine lv_iload_n hx hb dX4_allLights_4 rfl (lv_at hl 2 rfl) ?_
      refine lv_bipush (v := (10 : Int32)) hx hb dX4_allLights_5 (by decide) ?_
      refine lv_icmp_ge (tgt := 28) hx hb dX4_allLights_7 (by decide) (fun c1 => ?_) (fun c1 => ?_)
      · have h := ift h c1
        refine lv_iload_n hx hb dX4_allLights_28 rfl (lv_at hl 1 rfl) ?_
        exact fw_iret hx hb hr hlk h hF hS dX4_allLights_29
      · have h := iff0 h c1
        refine lv_iload_n hx hb dX4_allLights_10 rfl (lv_at hl 1 rfl) ?_
        refine lv_aload_n hx hb dX4_allLights_11 rfl (lv_at hl 0 rfl) ?_
        refine fw_get (C := RX4) (T := TX4) (N := 11) (ci := 4) (v := .ref (fa (cφ κ) 3 0)) hx hb hL4 hown hE hF (b2 hn) (cm2 κ _ _) rfl 0 (by decide) kw1 rfl dX4_allLights_12 ?_
        refine lv_iload_n hx hb dX4_allLights_15 rfl (lv_at hl 2 rfl) ?_
        obtain ⟨k2, h⟩ := ck h
        refine fw_aald (a := fa (cφ κ) 13 (x2.toNatClampNeg)) hx hb hE hF (b3 hn) (cm3 κ _ _) 1 rfl k2 rfl dX4_allLights_16 ?_
        refine fw_get (C := RX1) (T := TX1) (N := 15) (ci := 1) (v := .int (g 13 (x2.toNatClampNeg) 5)) hx hb hL1 hown hE hF (b13 hn (vpl k2)) (cm13 κ _ _) rfl 5 (by decide) kw2 rfl dX4_allLights_17 ?_
        refine lv_iadd hx hb dX4_allLights_20 ?_
        refine lv_istore_n (lv' := [(1, .int (x1 + (g 13 (x2.toNatClampNeg) 5))), (0, .ref (fa (cφ κ) 2 0)), (2, .int x2)]) hx hb dX4_allLights_21 rfl hl (by decide) rfl (fun ls hl => ?_)
        refine lv_iinc (v := x2 + (1 : Int32)) (lv' := [(2, .int (x2 + (1 : Int32))), (1, .int (x1 + (g 13 (x2.toNatClampNeg) 5))), (0, .ref (fa (cφ κ) 2 0))]) hx hb dX4_allLights_22 hl (k := 2) rfl rfl (by decide) rfl (fun ls hl => ?_)
        refine lv_goto (tgt := 4) hx hb dX4_allLights_25 (by decide) ?_
        exact ih g (x1 + (g 13 (x2.toNatClampNeg) 5)) (x2 + (1 : Int32)) H locs ls h hF hS (lv_sub hl [2, 1, 0] rfl)
  exact LOOP4 F g ((0 : Int32)) ((0 : Int32)) _ _ ls h hF hS (lv_sub hl [2, 1, 0] rfl)
