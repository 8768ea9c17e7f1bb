/-! the reference, its own methods (by program) -/
def m_X6_sleeps (g : Mem) (a0 : Int32) : Option (Int32 × Mem) := if (((60 : Int32)) + a0 < 0 ∨ 6819 ≤ (((60 : Int32)) + a0).toNatClampNeg) then none else (if (g 1 0 ((((60 : Int32)) + a0).toNatClampNeg)) = ((1 : Int32)) then some ((1 : Int32), g) else some ((0 : Int32), g))
set_option maxHeartbeats 4000000 in
set_option maxRecDepth 100000 in
theorem c_X6_sleeps (l : Launch) {μ : Mx} (hok : fok (mφ μ))  {g : Mem} {a0 : Int32} {u : Int32 × Mem} (h : m_X6_sleeps g a0 = some u) : fM l (mφ μ) yX6_sleeps wsX6_sleeps 0 0 [.ref (fa (mφ μ) 0 0), .int a0] g (some (.int u.1)) u.2 := by
  refine fM.of (cc := cX6_sleeps) (maxL := 2) (ret := (some .boolean)) [(0, .ref (fa (mφ μ) 0 0)), (1, .int a0)] (by decide) rfl (Nat.le_of_ble_eq_true rfl) rfl (fun p e s m below meth c ls hx hb hr hml hown hts hlk hE hF hS hl => ?_)
  replace hown : s.vm.findClass RX6 = some m.cls := hown
  have hL6 : ∀ w ∈ u_ws RX6 TX6 3, w.before ([.ref (fa (mφ μ) 0 0), .int a0] : List Value).toArray s = true := fun w hw => hts w (by
    unfold wsX6_sleeps
    simp only [List.mem_cons, List.mem_append]
    exact Or.inr (Or.inr hw))
  have kw1 := hts (.fieldLink RX6 7 "MeshLampsModel" "state" "[I") (List.mem_of_getElem? (i := 1) rfl)
  unfold m_X6_sleeps at h
  refine lv_aload_n hx hb dX6_sleeps_0 rfl (lv_at hl 0 rfl) ?_
  refine fw_get (C := RX6) (T := TX6) (N := 3) (ci := 6) (v := .ref (fa (mφ μ) 1 0)) hx hb hL6 hown hE hF (e0 μ) (mm0 μ _ _) rfl 0 (by decide) kw1 rfl dX6_sleeps_1 ?_
  refine lv_bipush (v := (60 : Int32)) hx hb dX6_sleeps_4 (by decide) ?_
  refine lv_iload_n hx hb dX6_sleeps_6 rfl (lv_at hl 1 rfl) ?_
  refine lv_iadd hx hb dX6_sleeps_7 ?_
  obtain ⟨k1, h⟩ := ck h
  refine fw_iald (q := (((60 : Int32)) + a0).toNatClampNeg) hx hb hE hF (e1 μ) (mm1 μ _) 0 rfl k1 rfl dX6_sleeps_8 ?_
  refine lv_iconst (v := (1 : Int32)) hx hb dX6_sleeps_9 (by decide) ?_
  refine lv_icmp_ne (tgt := 17) hx hb dX6_sleeps_10 (by decide) (fun c2 => ?_) (fun c2 => ?_)
  · have h := iff0 h c2
    refine lv_iconst (v := (0 : Int32)) hx hb dX6_sleeps_17 (by decide) ?_
    exact fw_zret hx hb hr hlk rfl h hF hS dX6_sleeps_18
  · have h := ift h c2
    refine lv_iconst (v := (1 : Int32)) hx hb dX6_sleeps_13 (by decide) ?_
    refine lv_goto (tgt := 18) hx hb dX6_sleeps_14 (by decide) ?_
    exact fw_zret hx hb hr hlk rfl h hF hS dX6_sleeps_18
def m_X6_letter (g : Mem) (a0 a1 a2 : Int32) : Option (Int32 × Mem) := if ((((810 : Int32)) + (((3 : Int32)) * (((((200 : Int32)) * a0) + a1) - ((1 : Int32))))) + a2 < 0 ∨ 6819 ≤ ((((810 : Int32)) + (((3 : Int32)) * (((((200 : Int32)) * a0) + a1) - ((1 : Int32))))) + a2).toNatClampNeg) then none else some (g 1 0 (((((810 : Int32)) + (((3 : Int32)) * (((((200 : Int32)) * a0) + a1) - ((1 : Int32))))) + a2).toNatClampNeg), g)
set_option maxHeartbeats 4000000 in
set_option maxRecDepth 100000 in
theorem c_X6_letter (l : Launch) {μ : Mx} (hok : fok (mφ μ))  {g : Mem} {a0 a1 a2 : Int32} {u : Int32 × Mem} (h : m_X6_letter g a0 a1 a2 = some u) : fM l (mφ μ) yX6_letter wsX6_letter 0 0 [.ref (fa (mφ μ) 0 0), .int a0, .int a1, .int a2] g (some (.int u.1)) u.2 := by
  refine fM.of (cc := cX6_letter) (maxL := 4) (ret := (some .int)) [(0, .ref (fa (mφ μ) 0 0)), (1, .int a0), (2, .int a1), (3, .int a2)] (by decide) rfl (Nat.le_of_ble_eq_true rfl) rfl (fun p e s m below meth c ls hx hb hr hml hown hts hlk hE hF hS hl => ?_)
  replace hown : s.vm.findClass RX6 = some m.cls := hown
  have hL6 : ∀ w ∈ u_ws RX6 TX6 3, w.before ([.ref (fa (mφ μ) 0 0), .int a0, .int a1, .int a2] : List Value).toArray s = true := fun w hw => hts w (by
    unfold wsX6_letter
    simp only [List.mem_cons, List.mem_append]
    exact Or.inr (Or.inr hw))
  have kw1 := hts (.fieldLink RX6 7 "MeshLampsModel" "state" "[I") (List.mem_of_getElem? (i := 1) rfl)
  unfold m_X6_letter at h
  refine lv_aload_n hx hb dX6_letter_0 rfl (lv_at hl 0 rfl) ?_
  refine fw_get (C := RX6) (T := TX6) (N := 3) (ci := 6) (v := .ref (fa (mφ μ) 1 0)) hx hb hL6 hown hE hF (e0 μ) (mm0 μ _ _) rfl 0 (by decide) kw1 rfl dX6_letter_1 ?_
  refine lv_sipush (v := (810 : Int32)) hx hb dX6_letter_4 (by decide) ?_
  refine lv_iconst (v := (3 : Int32)) hx hb dX6_letter_7 (by decide) ?_
  refine lv_sipush (v := (200 : Int32)) hx hb dX6_letter_8 (by decide) ?_
  refine lv_iload_n hx hb dX6_letter_11 rfl (lv_at hl 1 rfl) ?_
  refine lv_imul hx hb dX6_letter_12 ?_
  refine lv_iload_n hx hb dX6_letter_13 rfl (lv_at hl 2 rfl) ?_
  refine lv_iadd hx hb dX6_letter_14 ?_
  refine lv_iconst (v := (1 : Int32)) hx hb dX6_letter_15 (by decide) ?_
  refine lv_isub hx hb dX6_letter_16 ?_
  refine lv_imul hx hb dX6_letter_17 ?_
  refine lv_iadd hx hb dX6_letter_18 ?_
  refine lv_iload_n hx hb dX6_letter_19 rfl (lv_at hl 3 rfl) ?_
  refine lv_iadd hx hb dX6_letter_20 ?_
  obtain ⟨k1, h⟩ := ck h
  refine fw_iald (q := ((((810 : Int32)) + (((3 : Int32)) * (((((200 : Int32)) * a0) + a1) - ((1 : Int32))))) + a2).toNatClampNeg) hx hb hE hF (e1 μ) (mm1 μ _) 0 rfl k1 rfl dX6_letter_21 ?_
  exact fw_iret hx hb hr hlk h hF hS dX6_letter_22
def st_X6_forget_46 (F : Nat) (K : Mem → Int32 → Int32 → Int32 → Option (Int32 × Mem)) (g : Mem) (x1 x2 x3 : Int32) : Option (Int32 × Mem) := if (((160 : Int32)) + x1 < 0 ∨ 6819 ≤ (((160 : Int32)) + x1).toNatClampNeg) then none else (if (((2 : Int32)) * (g 1 0 ((((160 : Int32)) + x1).toNatClampNeg))) ≤ x3 then some (0, g) else if (((((170 : Int32)) + (((16 : Int32)) * x1)) + x3) + (((2 : Int32)) * x2) < 0 ∨ 6819 ≤ (((((170 : Int32)) + (((16 : Int32)) * x1)) + x3) + (((2 : Int32)) * x2)).toNatClampNeg) then none else if ((((170 : Int32)) + (((16 : Int32)) * x1)) + x3 < 0 ∨ 6819 ≤ ((((170 : Int32)) + (((16 : Int32)) * x1)) + x3).toNatClampNeg) then none else ltm (upr g 1 0 (upd (g 1 0) ((((170 : Int32)) + (((16 : Int32)) * x1)) + x3).toNatClampNeg (g 1 0 ((((((170 : Int32)) + (((16 : Int32)) * x1)) + x3) + (((2 : Int32)) * x2)).toNatClampNeg)))) (fun g12 => K g12 x1 x2 (x3 + (1 : Int32))))
def lp_X6_forget_46 (F : Nat) : Nat → Mem → Int32 → Int32 → Int32 → Option (Int32 × Mem)
  | 0, _, _, _, _ => none
  | f + 1, g, x1, x2, x3 => st_X6_forget_46 F (lp_X6_forget_46 F f ) g x1 x2 x3
def m_X6_forget (F : Nat) (g : Mem) (a0 : Int32) : Option (Int32 × Mem) := if (((160 : Int32)) + a0 < 0 ∨ 6819 ≤ (((160 : Int32)) + a0).toNatClampNeg) then none else if (((30 : Int32)) + a0 < 0 ∨ 6819 ≤ (((30 : Int32)) + a0).toNatClampNeg) then none else (if ((g 1 0 ((((160 : Int32)) + a0).toNatClampNeg)) - (g 1 0 ((((30 : Int32)) + a0).toNatClampNeg))) ≤ 0 then some (0, g) else if (((30 : Int32)) + a0 < 0 ∨ 6819 ≤ (((30 : Int32)) + a0).toNatClampNeg) then none else if (((160 : Int32)) + a0 < 0 ∨ 6819 ≤ (((160 : Int32)) + a0).toNatClampNeg) then none else ltm (upr g 1 0 (upd (g 1 0) (((160 : Int32)) + a0).toNatClampNeg (g 1 0 ((((30 : Int32)) + a0).toNatClampNeg)))) (fun g6 => lp_X6_forget_46 F F g6 a0 ((g 1 0 ((((160 : Int32)) + a0).toNatClampNeg)) - (g 1 0 ((((30 : Int32)) + a0).toNatClampNeg))) ((0 : Int32))))
set_option maxHeartbeats 4000000 in
set_option maxRecDepth 100000 in
theorem c_X6_forget (l : Launch) {μ : Mx} (hok : fok (mφ μ))  {F : Nat} {g : Mem} {a0 : Int32} {u : Int32 × Mem} (h : m_X6_forget F g a0 = some u) : fM l (mφ μ) yX6_forget wsX6_forget 0 0 [.ref (fa (mφ μ) 0 0), .int a0] g none u.2 := by
  refine fM.of (cc := cX6_forget) (maxL := 4) (ret := none) [(0, .ref (fa (mφ μ) 0 0)), (1, .int a0)] (by decide) rfl (Nat.le_of_ble_eq_true rfl) rfl (fun p e s m below meth c ls hx hb hr hml hown hts hlk hE hF hS hl => ?_)
  replace hown : s.vm.findClass RX6 = some m.cls := hown
  have hL6 : ∀ w ∈ u_ws RX6 TX6 3, w.before ([.ref (fa (mφ μ) 0 0), .int a0] : List Value).toArray s = true := fun w hw => hts w (by
    unfold wsX6_forget
    simp only [List.mem_cons, List.mem_append]
    exact Or.inr (Or.inr hw))
  have kw1 := hts (.fieldLink RX6 7 "MeshLampsModel" "state" "[I") (List.mem_of_getElem? (i := 1) rfl)
  unfold m_X6_forget at h
  refine lv_aload_n hx hb dX6_forget_0 rfl (lv_at hl 0 rfl) ?_
  refine fw_get (C := RX6) (T := TX6) (N := 3) (ci := 6) (v := .ref (fa (mφ μ) 1 0)) hx hb hL6 hown hE hF (e0 μ) (mm0 μ _ _) rfl 0 (by decide) kw1 rfl dX6_forget_1 ?_
  refine lv_sipush (v := (160 : Int32)) hx hb dX6_forget_4 (by decide) ?_
  refine lv_iload_n hx hb dX6_forget_7 rfl (lv_at hl 1 rfl) ?_
  refine lv_iadd hx hb dX6_forget_8 ?_
  obtain ⟨k1, h⟩ := ck h
  refine fw_iald (q := (((160 : Int32)) + a0).toNatClampNeg) hx hb hE hF (e1 μ) (mm1 μ _) 0 rfl k1 rfl dX6_forget_9 ?_
  refine lv_aload_n hx hb dX6_forget_10 rfl (lv_at hl 0 rfl) ?_
  refine fw_get (C := RX6) (T := TX6) (N := 3) (ci := 6) (v := .ref (fa (mφ μ) 1 0)) hx hb hL6 hown hE hF (e0 μ) (mm0 μ _ _) rfl 0 (by decide) kw1 rfl dX6_forget_11 ?_
  refine lv_bipush (v := (30 : Int32)) hx hb dX6_forget_14 (by decide) ?_
  refine lv_iload_n hx hb dX6_forget_16 rfl (lv_at hl 1 rfl) ?_
  refine lv_iadd hx hb dX6_forget_17 ?_
  obtain ⟨k2, h⟩ := ck h
  refine fw_iald (q := (((30 : Int32)) + a0).toNatClampNeg) hx hb hE hF (e1 μ) (mm1 μ _) 0 rfl k2 rfl dX6_forget_18 ?_
  refine lv_isub hx hb dX6_forget_19 ?_
  refine lv_istore_n (lv' := [(2, .int ((g 1 0 ((((160 : Int32)) + a0).toNatClampNeg)) - (g 1 0 ((((30 : Int32)) + a0).toNatClampNeg)))), (0, .ref (fa (mφ μ) 0 0)), (1, .int a0)]) hx hb dX6_forget_20 rfl hl (by decide) rfl (fun ls hl => ?_)
  refine lv_iload_n hx hb dX6_forget_21 rfl (lv_at hl 0 rfl) ?_
  refine lv_if_le (tgt := 102) hx hb dX6_forget_22 (by decide) (fun c3 => ?_) (fun c3 => ?_)
  · have h := ift h c3
    exact fw_vret hx hb hr hlk h hF hS dX6_forget_102
  · have h := iff0 h c3
    refine lv_aload_n hx hb dX6_forget_25 rfl (lv_at hl 1 rfl) ?_
    refine fw_get (C := RX6) (T := TX6) (N := 3) (ci := 6) (v := .ref (fa (mφ μ) 1 0)) hx hb hL6 hown hE hF (e0 μ) (mm0 μ _ _) rfl 0 (by decide) kw1 rfl dX6_forget_26 ?_
    refine lv_sipush (v := (160 : Int32)) hx hb dX6_forget_29 (by decide) ?_
    refine lv_iload_n hx hb dX6_forget_32 rfl (lv_at hl 2 rfl) ?_
    refine lv_iadd hx hb dX6_forget_33 ?_
    refine lv_aload_n hx hb dX6_forget_34 rfl (lv_at hl 1 rfl) ?_
    refine fw_get (C := RX6) (T := TX6) (N := 3) (ci := 6) (v := .ref (fa (mφ μ) 1 0)) hx hb hL6 hown hE hF (e0 μ) (mm0 μ _ _) rfl 0 (by decide) kw1 rfl dX6_forget_35 ?_
    refine lv_bipush (v := (30 : Int32)) hx hb dX6_forget_38 (by decide) ?_
    refine lv_iload_n hx hb dX6_forget_40 rfl (lv_at hl 2 rfl) ?_
    refine lv_iadd hx hb dX6_forget_41 ?_
    obtain ⟨k4, h⟩ := ck h
    refine fw_iald (q := (((30 : Int32)) + a0).toNatClampNeg) hx hb hE hF (e1 μ) (mm1 μ _) 0 rfl k4 rfl dX6_forget_42 ?_
    obtain ⟨k5, h⟩ := ck h
    refine fw_iast (q := (((160 : Int32)) + a0).toNatClampNeg) hx hb hE hok hF hS (e1 μ) (mm1 μ _) 0 rfl k5 rfl dX6_forget_43 (fun H locs hF hS => ?_)
    obtain ⟨g6, e7, h⟩ := ltm_e h
    rw [e7] at hF
    refine lv_iconst (v := (0 : Int32)) hx hb dX6_forget_44 (by decide) ?_
    refine lv_istore_n (lv' := [(3, .int ((0 : Int32))), (2, .int ((g 1 0 ((((160 : Int32)) + a0).toNatClampNeg)) - (g 1 0 ((((30 : Int32)) + a0).toNatClampNeg)))), (0, .ref (fa (mφ μ) 0 0)), (1, .int a0)]) hx hb dX6_forget_45 rfl hl (by decide) rfl (fun ls hl => ?_)
    have LOOP46 : ∀ (f : Nat) (g : Mem) (x1 x2 x3 : Int32) (H : Heap) (locs : List Loc) (ls : Array Slot), lp_X6_forget_46 F f g x1 x2 x3 = some u → fw (mφ μ) g H → va_S (fA (mφ μ)) s.heap H locs → lv_has ls 4 [(0, .ref (fa (mφ μ) 0 0)), (1, .int x1), (2, .int x2), (3, .int x3)] → W p l e ({ frames := 0, cells := 0, slots := 0, locals := 0 }) s m ([.ref (fa (mφ μ) 0 0), .int a0] : List Value).toArray below meth c H locs 0 0 (MQ below (fQ (mφ μ) none u.2) ([.ref (fa (mφ μ) 0 0), .int a0] : List Value).toArray s 0 0 (fA (mφ μ))) (F0 m 46 ls []) := by
      intro f
      induction f with
      | zero => intro g x1 x2 x3 H locs ls h hF hS hl; cases h
      | succ f ih =>
        intro g x1 x2 x3 H locs ls h hF hS hl
        replace h : st_X6_forget_46 F (lp_X6_forget_46 F f ) g x1 x2 x3 = some u := h
        unfold st_X6_forget_46 at h
        refine lv_iload_n hx hb dX6_forget_46 rfl (lv_at hl 3 rfl) ?_
        refine lv_iconst (v := (2 : Int32)) hx hb dX6_forget_47 (by decide) ?_
        refine lv_aload_n hx hb dX6_forget_48 rfl (lv_at hl 0 rfl) ?_
        refine fw_get (C := RX6) (T := TX6) (N := 3) (ci := 6) (v := .ref (fa (mφ μ) 1 0)) hx hb hL6 hown hE hF (e0 μ) (mm0 μ _ _) rfl 0 (by decide) kw1 rfl dX6_forget_49 ?_
        refine lv_sipush (v := (160 : Int32)) hx hb dX6_forget_52 (by decide) ?_
        refine lv_iload_n hx hb dX6_forget_55 rfl (lv_at hl 1 rfl) ?_
        refine lv_iadd hx hb dX6_forget_56 ?_
        obtain ⟨k8, h⟩ := ck h
        refine fw_iald (q := (((160 : Int32)) + x1).toNatClampNeg) hx hb hE hF (e1 μ) (mm1 μ _) 0 rfl k8 rfl dX6_forget_57 ?_
        refine lv_imul hx hb dX6_forget_58 ?_
        refine lv_icmp_ge (tgt := 102) hx hb dX6_forget_59 (by decide) (fun c9 => ?_) (fun c9 => ?_)
        · have h := ift h c9
          exact fw_vret hx hb hr hlk h hF hS dX6_forget_102
        · have h := iff0 h c9
          refine lv_aload_n hx hb dX6_forget_62 rfl (lv_at hl 0 rfl) ?_
          refine fw_get (C := RX6) (T := TX6) (N := 3) (ci := 6) (v := .ref (fa (mφ μ) 1 0)) hx hb hL6 hown hE hF (e0 μ) (mm0 μ _ _) rfl 0 (by decide) kw1 rfl dX6_forget_63 ?_
          refine lv_sipush (v := (170 : Int32)) hx hb dX6_forget_66 (by decide) ?_
          refine lv_bipush (v := (16 : Int32)) hx hb dX6_forget_69 (by decide) ?_
          refine lv_iload_n hx hb dX6_forget_71 rfl (lv_at hl 1 rfl) ?_
          refine lv_imul hx hb dX6_forget_72 ?_
          refine lv_iadd hx hb dX6_forget_73 ?_
          refine lv_iload_n hx hb dX6_forget_74 rfl (lv_at hl 3 rfl) ?_
          refine lv_iadd hx hb dX6_forget_75 ?_
          refine lv_aload_n hx hb dX6_forget_76 rfl (lv_at hl 0 rfl) ?_
          refine fw_get (C := RX6) (T := TX6) (N := 3) (ci := 6) (v := .ref (fa (mφ μ) 1 0)) hx hb hL6 hown hE hF (e0 μ) (mm0 μ _ _) rfl 0 (by decide) kw1 rfl dX6_forget_77 ?_
          refine lv_sipush (v := (170 : Int32)) hx hb dX6_forget_80 (by decide) ?_
          refine lv_bipush (v := (16 : Int32)) hx hb dX6_forget_83 (by decide) ?_
          refine lv_iload_n hx hb dX6_forget_85 rfl (lv_at hl 1 rfl) ?_
          refine lv_imul hx hb dX6_forget_86 ?_
          refine lv_iadd hx hb dX6_forget_87 ?_
          refine lv_iload_n hx hb dX6_forget_88 rfl (lv_at hl 3 rfl) ?_
          refine lv_iadd hx hb dX6_forget_89 ?_
          refine lv_iconst (v := (2 : Int32)) hx hb dX6_forget_90 (by decide) ?_
          refine lv_iload_n hx hb dX6_forget_91 rfl (lv_at hl 2 rfl) ?_
          refine lv_imul hx hb dX6_forget_92 ?_
          refine lv_iadd hx hb dX6_forget_93 ?_
          obtain ⟨k10, h⟩ := ck h
          refine fw_iald (q := (((((170 : Int32)) + (((16 : Int32)) * x1)) + x3) + (((2 : Int32)) * x2)).toNatClampNeg) hx hb hE hF (e1 μ) (mm1 μ _) 0 rfl k10 rfl dX6_forget_94 ?_
          obtain ⟨k11, h⟩ := ck h
          refine fw_iast (q := ((((170 : Int32)) + (((16 : Int32)) * x1)) + x3).toNatClampNeg) hx hb hE hok hF hS (e1 μ) (mm1 μ _) 0 rfl k11 rfl dX6_forget_95 (fun H locs hF hS => ?_)
          obtain ⟨g12, e13, h⟩ := ltm_e h
          rw [e13] at hF
          refine lv_iinc (v := x3 + (1 : Int32)) (lv' := [(3, .int (x3 + (1 : Int32))), (0, .ref (fa (mφ μ) 0 0)), (1, .int x1), (2, .int x2)]) hx hb dX6_forget_96 hl (k := 3) rfl rfl (by decide) rfl (fun ls hl => ?_)
          refine lv_goto (tgt := 46) hx hb dX6_forget_99 (by decide) ?_
          exact ih g12 x1 x2 (x3 + (1 : Int32)) H locs ls h hF hS (lv_sub hl [1, 2, 3, 0] rfl)
    exact LOOP46 F g6 a0 ((g 1 0 ((((160 : Int32)) + a0).toNatClampNeg)) - (g 1 0 ((((30 : Int32)) + a0).toNatClampNeg))) ((0 : Int32)) _ _ ls h hF hS (lv_sub hl [2, 3, 1, 0] rfl)
def m_X6_knows (g : Mem) (a0 a1 a2 : Int32) : Option (Int32 × Mem) := (m_X6_letter g a1 a2 ((0 : Int32))).bind (fun (r2, g3) => (if r2 = (g3 1 0 6811) then (m_X6_isOf (g3 1 0 6813) a0).bind (fun r17 => if ¬ (r17 = 0 ∨ r17 = 1) then none else some (r17, g3)) else (if (g3 1 0 6812) ≤ 0 then some ((0 : Int32), g3) else (if r2 = ((g3 1 0 6811) + ((1 : Int32))) then (m_X6_isOf (g3 1 0 6814) a0).bind (fun r13 => (if r13 = 0 then some ((0 : Int32), g3) else some ((1 : Int32), g3))) else some ((0 : Int32), g3)))))
set_option maxHeartbeats 4000000 in
set_option maxRecDepth 100000 in
theorem c_X6_knows (l : Launch) {μ : Mx} (hok : fok (mφ μ))  {g : Mem} {a0 a1 a2 : Int32} {u : Int32 × Mem} (h : m_X6_knows g a0 a1 a2 = some u) : fM l (mφ μ) yX6_knows wsX6_knows 1 23 [.ref (fa (mφ μ) 0 0), .int a0, .int a1, .int a2] g (some (.int u.1)) u.2 := by
  refine fM.of (cc := cX6_knows) (maxL := 5) (ret := (some .boolean)) [(0, .ref (fa (mφ μ) 0 0)), (1, .int a0), (2, .int a1), (3, .int a2)] (by decide) rfl (Nat.le_of_ble_eq_true rfl) rfl (fun p e s m below meth c ls hx hb hr hml hown hts hlk hE hF hS hl => ?_)
  replace hown : s.vm.findClass RX6 = some m.cls := hown
  have hL6 : ∀ w ∈ u_ws RX6 TX6 3, w.before ([.ref (fa (mφ μ) 0 0), .int a0, .int a1, .int a2] : List Value).toArray s = true := fun w hw => hts w (by
    unfold wsX6_knows
    simp only [List.mem_cons, List.mem_append]
    exact Or.inr (Or.inr hw))
  have kw1 := hts (.fieldLink RX6 7 "MeshLampsModel" "state" "[I") (List.mem_of_getElem? (i := 1) rfl)
  unfold m_X6_knows at h
  refine lv_aload_n hx hb dX6_knows_0 rfl (lv_at hl 0 rfl) ?_
  refine lv_iload_n hx hb dX6_knows_1 rfl (lv_at hl 2 rfl) ?_
  refine lv_iload_n hx hb dX6_knows_2 rfl (lv_at hl 3 rfl) ?_
  refine lv_iconst (v := (0 : Int32)) hx hb dX6_knows_3 (by decide) ?_
  obtain ⟨⟨r2, g3⟩, q1, h⟩ := bnd h
  try dsimp only at h
  refine fw_calli (va_runV (As := [.int a1, .int a2, .int ((0 : Int32))]) (rest := []) ⟨hx, hb, hml, hown, hts⟩ (c_X6_letter l hok q1) (cwV 3 hts gX6_knows_X6_letter rfl rfl rfl qv_X6_letter ⟨Nat.le_of_ble_eq_true rfl, Nat.le_of_ble_eq_true rfl⟩) (fw_preV hok hE hF (e0 μ) (mm0 μ _ _) rfl) rfl rfl hl.1 rfl (lv_room (Nat.le_of_ble_eq_true rfl)) dX6_knows_4 ⟨Nat.le_refl _, Nat.le_refl _⟩) hS (fun H locs hF hS => ?_)
  refine lv_istore (lv' := [(4, .int r2), (0, .ref (fa (mφ μ) 0 0)), (1, .int a0), (2, .int a1), (3, .int a2)]) hx hb dX6_knows_7 hl (by decide) rfl (fun ls hl => ?_)
  refine lv_iload hx hb dX6_knows_9 (lv_at hl 0 rfl) ?_
  refine lv_aload_n hx hb dX6_knows_11 rfl (lv_at hl 1 rfl) ?_
  refine fw_get (C := RX6) (T := TX6) (N := 3) (ci := 6) (v := .ref (fa (mφ μ) 1 0)) hx hb hL6 hown hE hF (e0 μ) (mm0 μ _ _) rfl 0 (by decide) kw1 rfl dX6_knows_12 ?_
  refine lv_sipush (v := (6811 : Int32)) hx hb dX6_knows_15 (by decide) ?_
  refine fw_iald (q := 6811) hx hb hE hF (e1 μ) (mm1 μ _) 0 rfl (by decide) (by decide) dX6_knows_18 ?_
  refine lv_icmp_ne (tgt := 35) hx hb dX6_knows_19 (by decide) (fun c6 => ?_) (fun c6 => ?_)
  · have h := iff0 h c6
    refine lv_aload_n hx hb dX6_knows_35 rfl (lv_at hl 1 rfl) ?_
    refine fw_get (C := RX6) (T := TX6) (N := 3) (ci := 6) (v := .ref (fa (mφ μ) 1 0)) hx hb hL6 hown hE hF (e0 μ) (mm0 μ _ _) rfl 0 (by decide) kw1 rfl dX6_knows_36 ?_
    refine lv_sipush (v := (6812 : Int32)) hx hb dX6_knows_39 (by decide) ?_
    refine fw_iald (q := 6812) hx hb hE hF (e1 μ) (mm1 μ _) 0 rfl (by decide) (by decide) dX6_knows_42 ?_
    refine lv_if_le (tgt := 80) hx hb dX6_knows_43 (by decide) (fun c8 => ?_) (fun c8 => ?_)
    · have h := ift h c8
      refine lv_iconst (v := (0 : Int32)) hx hb dX6_knows_80 (by decide) ?_
      exact fw_zret hx hb hr hlk rfl h hF hS dX6_knows_81
    · have h := iff0 h c8
      refine lv_iload hx hb dX6_knows_46 (lv_at hl 0 rfl) ?_
      refine lv_aload_n hx hb dX6_knows_48 rfl (lv_at hl 1 rfl) ?_
      refine fw_get (C := RX6) (T := TX6) (N := 3) (ci := 6) (v := .ref (fa (mφ μ) 1 0)) hx hb hL6 hown hE hF (e0 μ) (mm0 μ _ _) rfl 0 (by decide) kw1 rfl dX6_knows_49 ?_
      refine lv_sipush (v := (6811 : Int32)) hx hb dX6_knows_52 (by decide) ?_
      refine fw_iald (q := 6811) hx hb hE hF (e1 μ) (mm1 μ _) 0 rfl (by decide) (by decide) dX6_knows_55 ?_
      refine lv_iconst (v := (1 : Int32)) hx hb dX6_knows_56 (by decide) ?_
      refine lv_iadd hx hb dX6_knows_57 ?_
      refine lv_icmp_ne (tgt := 80) hx hb dX6_knows_58 (by decide) (fun c10 => ?_) (fun c10 => ?_)
      · have h := iff0 h c10
        refine lv_iconst (v := (0 : Int32)) hx hb dX6_knows_80 (by decide) ?_
        exact fw_zret hx hb hr hlk rfl h hF hS dX6_knows_81
      · have h := ift h c10
        refine lv_aload_n hx hb dX6_knows_61 rfl (lv_at hl 1 rfl) ?_
        refine fw_get (C := RX6) (T := TX6) (N := 3) (ci := 6) (v := .ref (fa (mφ μ) 1 0)) hx hb hL6 hown hE hF (e0 μ) (mm0 μ _ _) rfl 0 (by decide) kw1 rfl dX6_knows_62 ?_
        refine lv_sipush (v := (6814 : Int32)) hx hb dX6_knows_65 (by decide) ?_
        refine fw_iald (q := 6814) hx hb hE hF (e1 μ) (mm1 μ _) 0 rfl (by decide) (by decide) dX6_knows_68 ?_
        refine lv_iload_n hx hb dX6_knows_69 rfl (lv_at hl 2 rfl) ?_
        obtain ⟨r13, q12, h⟩ := bnd h
        try dsimp only at h
        refine pw_call (va_runS (As := [.int (g3 1 0 6814), .int a0]) (rest := []) ⟨hx, hb, hml, hown, hts⟩ (c_X6_isOf l q12) (va_cwS 2 hts gX6_knows_X6_isOf rfl rfl rfl qs_X6_isOf ⟨Nat.le_of_ble_eq_true rfl, Nat.le_of_ble_eq_true rfl⟩) preEq rfl rfl hl.1 rfl (lv_room (Nat.le_of_ble_eq_true rfl)) dX6_knows_70 ⟨Nat.le_refl _, Nat.le_refl _⟩) ?_
        refine lv_if_eq (tgt := 80) hx hb dX6_knows_73 (by decide) (fun c14 => ?_) (fun c14 => ?_)
        · have h := ift h c14
          refine lv_iconst (v := (0 : Int32)) hx hb dX6_knows_80 (by decide) ?_
          exact fw_zret hx hb hr hlk rfl h hF hS dX6_knows_81
        · have h := iff0 h c14
          refine lv_iconst (v := (1 : Int32)) hx hb dX6_knows_76 (by decide) ?_
          refine lv_goto (tgt := 81) hx hb dX6_knows_77 (by decide) ?_
          exact fw_zret hx hb hr hlk rfl h hF hS dX6_knows_81
  · have h := ift h c6
    refine lv_aload_n hx hb dX6_knows_22 rfl (lv_at hl 1 rfl) ?_
    refine fw_get (C := RX6) (T := TX6) (N := 3) (ci := 6) (v := .ref (fa (mφ μ) 1 0)) hx hb hL6 hown hE hF (e0 μ) (mm0 μ _ _) rfl 0 (by decide) kw1 rfl dX6_knows_23 ?_
    refine lv_sipush (v := (6813 : Int32)) hx hb dX6_knows_26 (by decide) ?_
    refine fw_iald (q := 6813) hx hb hE hF (e1 μ) (mm1 μ _) 0 rfl (by decide) (by decide) dX6_knows_29 ?_
    refine lv_iload_n hx hb dX6_knows_30 rfl (lv_at hl 2 rfl) ?_
    obtain ⟨r17, q16, h⟩ := bnd h
    try dsimp only at h
    refine pw_call (va_runS (As := [.int (g3 1 0 6813), .int a0]) (rest := []) ⟨hx, hb, hml, hown, hts⟩ (c_X6_isOf l q16) (va_cwS 2 hts gX6_knows_X6_isOf rfl rfl rfl qs_X6_isOf ⟨Nat.le_of_ble_eq_true rfl, Nat.le_of_ble_eq_true rfl⟩) preEq rfl rfl hl.1 rfl (lv_room (Nat.le_of_ble_eq_true rfl)) dX6_knows_31 ⟨Nat.le_refl _, Nat.le_refl _⟩) ?_
    obtain ⟨k18, h⟩ := ck h
    exact fw_zret hx hb hr hlk (zok k18).1 h hF hS dX6_knows_34
def m_X6_isMeant (g : Mem) (a0 a1 a2 : Int32) : Option (Int32 × Mem) := (m_X6_letter g a1 a2 ((1 : Int32))).bind (fun (r2, g3) => (if r2 = a0 then some ((1 : Int32), g3) else (if r2 ≤ ((9 : Int32)) then some ((0 : Int32), g3) else if (((40 : Int32)) + a0 < 0 ∨ 6819 ≤ (((40 : Int32)) + a0).toNatClampNeg) then none else (m_X6_isOf (g3 1 0 ((((40 : Int32)) + a0).toNatClampNeg)) (r2 - ((10 : Int32)))).bind (fun r9 => (if r9 = 0 then some ((0 : Int32), g3) else some ((1 : Int32), g3))))))
set_option maxHeartbeats 4000000 in
set_option maxRecDepth 100000 in
theorem c_X6_isMeant (l : Launch) {μ : Mx} (hok : fok (mφ μ))  {g : Mem} {a0 a1 a2 : Int32} {u : Int32 × Mem} (h : m_X6_isMeant g a0 a1 a2 = some u) : fM l (mφ μ) yX6_isMeant wsX6_isMeant 1 23 [.ref (fa (mφ μ) 0 0), .int a0, .int a1, .int a2] g (some (.int u.1)) u.2 := by
  refine fM.of (cc := cX6_isMeant) (maxL := 5) (ret := (some .boolean)) [(0, .ref (fa (mφ μ) 0 0)), (1, .int a0), (2, .int a1), (3, .int a2)] (by decide) rfl (Nat.le_of_ble_eq_true rfl) rfl (fun p e s m below meth c ls hx hb hr hml hown hts hlk hE hF hS hl => ?_)
  replace hown : s.vm.findClass RX6 = some m.cls := hown
  have hL6 : ∀ w ∈ u_ws RX6 TX6 3, w.before ([.ref (fa (mφ μ) 0 0), .int a0, .int a1, .int a2] : List Value).toArray s = true := fun w hw => hts w (by
    unfold wsX6_isMeant
    simp only [List.mem_cons, List.mem_append]
    exact Or.inr (Or.inr hw))
  have kw1 := hts (.fieldLink RX6 7 "MeshLampsModel" "state" "[I") (List.mem_of_getElem? (i := 1) rfl)
  unfold m_X6_isMeant at h
  refine lv_aload_n hx hb dX6_isMeant_0 rfl (lv_at hl 0 rfl) ?_
  refine lv_iload_n hx hb dX6_isMeant_1 rfl (lv_at hl 2 rfl) ?_
  refine lv_iload_n hx hb dX6_isMeant_2 rfl (lv_at hl 3 rfl) ?_
  refine lv_iconst (v := (1 : Int32)) hx hb dX6_isMeant_3 (by decide) ?_
  obtain ⟨⟨r2, g3⟩, q1, h⟩ := bnd h
  try dsimp only at h
  refine fw_calli (va_runV (As := [.int a1, .int a2, .int ((1 : Int32))]) (rest := []) ⟨hx, hb, hml, hown, hts⟩ (c_X6_letter l hok q1) (cwV 3 hts gX6_isMeant_X6_letter rfl rfl rfl qv_X6_letter ⟨Nat.le_of_ble_eq_true rfl, Nat.le_of_ble_eq_true rfl⟩) (fw_preV hok hE hF (e0 μ) (mm0 μ _ _) rfl) rfl rfl hl.1 rfl (lv_room (Nat.le_of_ble_eq_true rfl)) dX6_isMeant_4 ⟨Nat.le_refl _, Nat.le_refl _⟩) hS (fun H locs hF hS => ?_)
  refine lv_istore (lv' := [(4, .int r2), (0, .ref (fa (mφ μ) 0 0)), (1, .int a0), (2, .int a1), (3, .int a2)]) hx hb dX6_isMeant_7 hl (by decide) rfl (fun ls hl => ?_)
  refine lv_iload hx hb dX6_isMeant_9 (lv_at hl 0 rfl) ?_
  refine lv_iload_n hx hb dX6_isMeant_11 rfl (lv_at hl 2 rfl) ?_
  refine lv_icmp_eq (tgt := 42) hx hb dX6_isMeant_12 (by decide) (fun c5 => ?_) (fun c5 => ?_)
  · have h := ift h c5
    refine lv_iconst (v := (1 : Int32)) hx hb dX6_isMeant_42 (by decide) ?_
    refine lv_goto (tgt := 47) hx hb dX6_isMeant_43 (by decide) ?_
    exact fw_zret hx hb hr hlk rfl h hF hS dX6_isMeant_47
  · have h := iff0 h c5
    refine lv_iload hx hb dX6_isMeant_15 (lv_at hl 0 rfl) ?_
    refine lv_bipush (v := (9 : Int32)) hx hb dX6_isMeant_17 (by decide) ?_
    refine lv_icmp_le (tgt := 46) hx hb dX6_isMeant_19 (by decide) (fun c6 => ?_) (fun c6 => ?_)
    · have h := ift h c6
      refine lv_iconst (v := (0 : Int32)) hx hb dX6_isMeant_46 (by decide) ?_
      exact fw_zret hx hb hr hlk rfl h hF hS dX6_isMeant_47
    · have h := iff0 h c6
      refine lv_aload_n hx hb dX6_isMeant_22 rfl (lv_at hl 1 rfl) ?_
      refine fw_get (C := RX6) (T := TX6) (N := 3) (ci := 6) (v := .ref (fa (mφ μ) 1 0)) hx hb hL6 hown hE hF (e0 μ) (mm0 μ _ _) rfl 0 (by decide) kw1 rfl dX6_isMeant_23 ?_
      refine lv_bipush (v := (40 : Int32)) hx hb dX6_isMeant_26 (by decide) ?_
      refine lv_iload_n hx hb dX6_isMeant_28 rfl (lv_at hl 2 rfl) ?_
      refine lv_iadd hx hb dX6_isMeant_29 ?_
      obtain ⟨k7, h⟩ := ck h
      refine fw_iald (q := (((40 : Int32)) + a0).toNatClampNeg) hx hb hE hF (e1 μ) (mm1 μ _) 0 rfl k7 rfl dX6_isMeant_30 ?_
      refine lv_iload hx hb dX6_isMeant_31 (lv_at hl 0 rfl) ?_
      refine lv_bipush (v := (10 : Int32)) hx hb dX6_isMeant_33 (by decide) ?_
      refine lv_isub hx hb dX6_isMeant_35 ?_
      obtain ⟨r9, q8, h⟩ := bnd h
      try dsimp only at h
      refine pw_call (va_runS (As := [.int (g3 1 0 ((((40 : Int32)) + a0).toNatClampNeg)), .int (r2 - ((10 : Int32)))]) (rest := []) ⟨hx, hb, hml, hown, hts⟩ (c_X6_isOf l q8) (va_cwS 2 hts gX6_isMeant_X6_isOf rfl rfl rfl qs_X6_isOf ⟨Nat.le_of_ble_eq_true rfl, Nat.le_of_ble_eq_true rfl⟩) preEq rfl rfl hl.1 rfl (lv_room (Nat.le_of_ble_eq_true rfl)) dX6_isMeant_36 ⟨Nat.le_refl _, Nat.le_refl _⟩) ?_
      refine lv_if_eq (tgt := 46) hx hb dX6_isMeant_39 (by decide) (fun c10 => ?_) (fun c10 => ?_)
      · have h := ift h c10
        refine lv_iconst (v := (0 : Int32)) hx hb dX6_isMeant_46 (by decide) ?_
        exact fw_zret hx hb hr hlk rfl h hF hS dX6_isMeant_47
      · have h := iff0 h c10
        refine lv_iconst (v := (1 : Int32)) hx hb dX6_isMeant_42 (by decide) ?_
        refine lv_goto (tgt := 47) hx hb dX6_isMeant_43 (by decide) ?_
        exact fw_zret hx hb hr hlk rfl h hF hS dX6_isMeant_47
def st_X6_hasInMind_6 (F : Nat) (K : Mem → Int32 → Int32 → Int32 → Int32 → Int32 → Option (Int32 × Mem)) (g : Mem) (x1 x2 x3 x4 x5 : Int32) : Option (Int32 × Mem) := if (((160 : Int32)) + x1 < 0 ∨ 6819 ≤ (((160 : Int32)) + x1).toNatClampNeg) then none else (if (g 1 0 ((((160 : Int32)) + x1).toNatClampNeg)) ≤ x5 then if ¬ (x4 = 0 ∨ x4 = 1) then none else some (x4, g) else (if x4 = 0 then if ((((170 : Int32)) + (((16 : Int32)) * x1)) + (((2 : Int32)) * x5) < 0 ∨ 6819 ≤ ((((170 : Int32)) + (((16 : Int32)) * x1)) + (((2 : Int32)) * x5)).toNatClampNeg) then none else (if (g 1 0 (((((170 : Int32)) + (((16 : Int32)) * x1)) + (((2 : Int32)) * x5)).toNatClampNeg)) = x2 then if (((((170 : Int32)) + (((16 : Int32)) * x1)) + (((2 : Int32)) * x5)) + ((1 : Int32)) < 0 ∨ 6819 ≤ (((((170 : Int32)) + (((16 : Int32)) * x1)) + (((2 : Int32)) * x5)) + ((1 : Int32))).toNatClampNeg) then none else (if (g 1 0 ((((((170 : Int32)) + (((16 : Int32)) * x1)) + (((2 : Int32)) * x5)) + ((1 : Int32))).toNatClampNeg)) = x3 then K g x1 x2 x3 ((1 : Int32)) (x5 + (1 : Int32)) else K g x1 x2 x3 ((0 : Int32)) (x5 + (1 : Int32))) else K g x1 x2 x3 ((0 : Int32)) (x5 + (1 : Int32))) else K g x1 x2 x3 ((1 : Int32)) (x5 + (1 : Int32))))
def lp_X6_hasInMind_6 (F : Nat) : Nat → Mem → Int32 → Int32 → Int32 → Int32 → Int32 → Option (Int32 × Mem)
  | 0, _, _, _, _, _, _ => none
  | f + 1, g, x1, x2, x3, x4, x5 => st_X6_hasInMind_6 F (lp_X6_hasInMind_6 F f ) g x1 x2 x3 x4 x5
def m_X6_hasInMind (F : Nat) (g : Mem) (a0 a1 a2 : Int32) : Option (Int32 × Mem) := lp_X6_hasInMind_6 F F g a0 a1 a2 ((0 : Int32)) ((0 : Int32))
set_option maxHeartbeats 4000000 in
set_option maxRecDepth 100000 in
theorem c_X6_hasInMind (l : Launch) {μ : Mx} (hok : fok (mφ μ))  {F : Nat} {g : Mem} {a0 a1 a2 : Int32} {u : Int32 × Mem} (h : m_X6_hasInMind F g a0 a1 a2 = some u) : fM l (mφ μ) yX6_hasInMind wsX6_hasInMind 0 0 [.ref (fa (mφ μ) 0 0), .int a0, .int a1, .int a2] g (some (.int u.1)) u.2 := by
  refine fM.of (cc := cX6_hasInMind) (maxL := 7) (ret := (some .boolean)) [(0, .ref (fa (mφ μ) 0 0)), (1, .int a0), (2, .int a1), (3, .int a2)] (by decide) rfl (Nat.le_of_ble_eq_true rfl) rfl (fun p e s m below meth c ls hx hb hr hml hown hts hlk hE hF hS hl => ?_)
  replace hown : s.vm.findClass RX6 = some m.cls := hown
  have hL6 : ∀ w ∈ u_ws RX6 TX6 3, w.before ([.ref (fa (mφ μ) 0 0), .int a0, .int a1, .int a2] : List Value).toArray s = true := fun w hw => hts w (by
    unfold wsX6_hasInMind
    simp only [List.mem_cons, List.mem_append]
    exact Or.inr (Or.inr hw))
  have kw1 := hts (.fieldLink RX6 7 "MeshLampsModel" "state" "[I") (List.mem_of_getElem? (i := 1) rfl)
  unfold m_X6_hasInMind at h
  refine lv_iconst (v := (0 : Int32)) hx hb dX6_hasInMind_0 (by decide) ?_
  refine lv_istore (lv' := [(4, .int ((0 : Int32))), (0, .ref (fa (mφ μ) 0 0)), (1, .int a0), (2, .int a1), (3, .int a2)]) hx hb dX6_hasInMind_1 hl (by decide) rfl (fun ls hl => ?_)
  refine lv_iconst (v := (0 : Int32)) hx hb dX6_hasInMind_3 (by decide) ?_
  refine lv_istore (lv' := [(5, .int ((0 : Int32))), (4, .int ((0 : Int32))), (0, .ref (fa (mφ μ) 0 0)), (1, .int a0), (2, .int a1), (3, .int a2)]) hx hb dX6_hasInMind_4 hl (by decide) rfl (fun ls hl => ?_)
  have LOOP6 : ∀ (f : Nat) (g : Mem) (x1 x2 x3 x4 x5 : Int32) (H : Heap) (locs : List Loc) (ls : Array Slot), lp_X6_hasInMind_6 F f g x1 x2 x3 x4 x5 = some u → fw (mφ μ) g H → va_S (fA (mφ μ)) s.heap H locs → lv_has ls 7 [(0, .ref (fa (mφ μ) 0 0)), (1, .int x1), (2, .int x2), (3, .int x3), (4, .int x4), (5, .int x5)] → W p l e ({ frames := 0, cells := 0, slots := 0, locals := 0 }) s m ([.ref (fa (mφ μ) 0 0), .int a0, .int a1, .int a2] : List Value).toArray below meth c H locs 0 0 (MQ below (fQ (mφ μ) (some (.int u.1)) u.2) ([.ref (fa (mφ μ) 0 0), .int a0, .int a1, .int a2] : List Value).toArray s 0 0 (fA (mφ μ))) (F0 m 6 ls []) := by
    intro f
    induction f with
    | zero => intro g x1 x2 x3 x4 x5 H locs ls h hF hS hl; cases h
    | succ f ih =>
      intro g x1 x2 x3 x4 x5 H locs ls h hF hS hl
      replace h : st_X6_hasInMind_6 F (lp_X6_hasInMind_6 F f ) g x1 x2 x3 x4 x5 = some u := h
      unfold st_X6_hasInMind_6 at h
      refine lv_iload hx hb dX6_hasInMind_6 (lv_at hl 5 rfl) ?_
      refine lv_aload_n hx hb dX6_hasInMind_8 rfl (lv_at hl 0 rfl) ?_
      refine fw_get (C := RX6) (T := TX6) (N := 3) (ci := 6) (v := .ref (fa (mφ μ) 1 0)) hx hb hL6 hown hE hF (e0 μ) (mm0 μ _ _) rfl 0 (by decide) kw1 rfl dX6_hasInMind_9 ?_
      refine lv_sipush (v := (160 : Int32)) hx hb dX6_hasInMind_12 (by decide) ?_
      refine lv_iload_n hx hb dX6_hasInMind_15 rfl (lv_at hl 1 rfl) ?_
      refine lv_iadd hx hb dX6_hasInMind_16 ?_
      obtain ⟨k1, h⟩ := ck h
      refine fw_iald (q := (((160 : Int32)) + x1).toNatClampNeg) hx hb hE hF (e1 μ) (mm1 μ _) 0 rfl k1 rfl dX6_hasInMind_17 ?_
      refine lv_icmp_ge (tgt := 78) hx hb dX6_hasInMind_18 (by decide) (fun c2 => ?_) (fun c2 => ?_)
      · have h := ift h c2
        refine lv_iload hx hb dX6_hasInMind_78 (lv_at hl 4 rfl) ?_
        obtain ⟨k3, h⟩ := ck h
        exact fw_zret hx hb hr hlk (zok k3).1 h hF hS dX6_hasInMind_80
      · have h := iff0 h c2
        refine lv_sipush (v := (170 : Int32)) hx hb dX6_hasInMind_21 (by decide) ?_
        refine lv_bipush (v := (16 : Int32)) hx hb dX6_hasInMind_24 (by decide) ?_
        refine lv_iload_n hx hb dX6_hasInMind_26 rfl (lv_at hl 1 rfl) ?_
        refine lv_imul hx hb dX6_hasInMind_27 ?_
        refine lv_iadd hx hb dX6_hasInMind_28 ?_
        refine lv_iconst (v := (2 : Int32)) hx hb dX6_hasInMind_29 (by decide) ?_
        refine lv_iload hx hb dX6_hasInMind_30 (lv_at hl 5 rfl) ?_
        refine lv_imul hx hb dX6_hasInMind_32 ?_
        refine lv_iadd hx hb dX6_hasInMind_33 ?_
        refine lv_istore (lv' := [(6, .int ((((170 : Int32)) + (((16 : Int32)) * x1)) + (((2 : Int32)) * x5))), (0, .ref (fa (mφ μ) 0 0)), (1, .int x1), (2, .int x2), (3, .int x3), (4, .int x4), (5, .int x5)]) hx hb dX6_hasInMind_34 hl (by decide) rfl (fun ls hl => ?_)
        refine lv_iload hx hb dX6_hasInMind_36 (lv_at hl 5 rfl) ?_
        refine lv_if_ne (tgt := 65) hx hb dX6_hasInMind_38 (by decide) (fun c4 => ?_) (fun c4 => ?_)
        · have h := iff0 h c4
          refine lv_iconst (v := (1 : Int32)) hx hb dX6_hasInMind_65 (by decide) ?_
          refine lv_goto (tgt := 70) hx hb dX6_hasInMind_66 (by decide) ?_
          refine lv_istore (lv' := [(4, .int ((1 : Int32))), (6, .int ((((170 : Int32)) + (((16 : Int32)) * x1)) + (((2 : Int32)) * x5))), (0, .ref (fa (mφ μ) 0 0)), (1, .int x1), (2, .int x2), (3, .int x3), (5, .int x5)]) hx hb dX6_hasInMind_70 hl (by decide) rfl (fun ls hl => ?_)
          refine lv_iinc (v := x5 + (1 : Int32)) (lv' := [(5, .int (x5 + (1 : Int32))), (4, .int ((1 : Int32))), (6, .int ((((170 : Int32)) + (((16 : Int32)) * x1)) + (((2 : Int32)) * x5))), (0, .ref (fa (mφ μ) 0 0)), (1, .int x1), (2, .int x2), (3, .int x3)]) hx hb dX6_hasInMind_72 hl (k := 6) rfl rfl (by decide) rfl (fun ls hl => ?_)
          refine lv_goto (tgt := 6) hx hb dX6_hasInMind_75 (by decide) ?_
          exact ih g x1 x2 x3 ((1 : Int32)) (x5 + (1 : Int32)) H locs ls h hF hS (lv_sub hl [3, 4, 5, 6, 1, 0] rfl)
        · have h := ift h c4
          refine lv_aload_n hx hb dX6_hasInMind_41 rfl (lv_at hl 1 rfl) ?_
          refine fw_get (C := RX6) (T := TX6) (N := 3) (ci := 6) (v := .ref (fa (mφ μ) 1 0)) hx hb hL6 hown hE hF (e0 μ) (mm0 μ _ _) rfl 0 (by decide) kw1 rfl dX6_hasInMind_42 ?_
          refine lv_iload hx hb dX6_hasInMind_45 (lv_at hl 0 rfl) ?_
          obtain ⟨k5, h⟩ := ck h
          refine fw_iald (q := ((((170 : Int32)) + (((16 : Int32)) * x1)) + (((2 : Int32)) * x5)).toNatClampNeg) hx hb hE hF (e1 μ) (mm1 μ _) 0 rfl k5 rfl dX6_hasInMind_47 ?_
          refine lv_iload_n hx hb dX6_hasInMind_48 rfl (lv_at hl 3 rfl) ?_
          refine lv_icmp_ne (tgt := 69) hx hb dX6_hasInMind_49 (by decide) (fun c6 => ?_) (fun c6 => ?_)
          · have h := iff0 h c6
            refine lv_iconst (v := (0 : Int32)) hx hb dX6_hasInMind_69 (by decide) ?_
            refine lv_istore (lv' := [(4, .int ((0 : Int32))), (6, .int ((((170 : Int32)) + (((16 : Int32)) * x1)) + (((2 : Int32)) * x5))), (0, .ref (fa (mφ μ) 0 0)), (1, .int x1), (2, .int x2), (3, .int x3), (5, .int x5)]) hx hb dX6_hasInMind_70 hl (by decide) rfl (fun ls hl => ?_)
            refine lv_iinc (v := x5 + (1 : Int32)) (lv' := [(5, .int (x5 + (1 : Int32))), (4, .int ((0 : Int32))), (6, .int ((((170 : Int32)) + (((16 : Int32)) * x1)) + (((2 : Int32)) * x5))), (0, .ref (fa (mφ μ) 0 0)), (1, .int x1), (2, .int x2), (3, .int x3)]) hx hb dX6_hasInMind_72 hl (k := 6) rfl rfl (by decide) rfl (fun ls hl => ?_)
            refine lv_goto (tgt := 6) hx hb dX6_hasInMind_75 (by decide) ?_
            exact ih g x1 x2 x3 ((0 : Int32)) (x5 + (1 : Int32)) H locs ls h hF hS (lv_sub hl [3, 4, 5, 6, 1, 0] rfl)
          · have h := ift h c6
            refine lv_aload_n hx hb dX6_hasInMind_52 rfl (lv_at hl 1 rfl) ?_
            refine fw_get (C := RX6) (T := TX6) (N := 3) (ci := 6) (v := .ref (fa (mφ μ) 1 0)) hx hb hL6 hown hE hF (e0 μ) (mm0 μ _ _) rfl 0 (by decide) kw1 rfl dX6_hasInMind_53 ?_
            refine lv_iload hx hb dX6_hasInMind_56 (lv_at hl 0 rfl) ?_
            refine lv_iconst (v := (1 : Int32)) hx hb dX6_hasInMind_58 (by decide) ?_
            refine lv_iadd hx hb dX6_hasInMind_59 ?_
            obtain ⟨k7, h⟩ := ck h
            refine fw_iald (q := (((((170 : Int32)) + (((16 : Int32)) * x1)) + (((2 : Int32)) * x5)) + ((1 : Int32))).toNatClampNeg) hx hb hE hF (e1 μ) (mm1 μ _) 0 rfl k7 rfl dX6_hasInMind_60 ?_
            refine lv_iload_n hx hb dX6_hasInMind_61 rfl (lv_at hl 4 rfl) ?_
            refine lv_icmp_ne (tgt := 69) hx hb dX6_hasInMind_62 (by decide) (fun c8 => ?_) (fun c8 => ?_)
            · have h := iff0 h c8
              refine lv_iconst (v := (0 : Int32)) hx hb dX6_hasInMind_69 (by decide) ?_
              refine lv_istore (lv' := [(4, .int ((0 : Int32))), (6, .int ((((170 : Int32)) + (((16 : Int32)) * x1)) + (((2 : Int32)) * x5))), (0, .ref (fa (mφ μ) 0 0)), (1, .int x1), (2, .int x2), (3, .int x3), (5, .int x5)]) hx hb dX6_hasInMind_70 hl (by decide) rfl (fun ls hl => ?_)
              refine lv_iinc (v := x5 + (1 : Int32)) (lv' := [(5, .int (x5 + (1 : Int32))), (4, .int ((0 : Int32))), (6, .int ((((170 : Int32)) + (((16 : Int32)) * x1)) + (((2 : Int32)) * x5))), (0, .ref (fa (mφ μ) 0 0)), (1, .int x1), (2, .int x2), (3, .int x3)]) hx hb dX6_hasInMind_72 hl (k := 6) rfl rfl (by decide) rfl (fun ls hl => ?_)
              refine lv_goto (tgt := 6) hx hb dX6_hasInMind_75 (by decide) ?_
              exact ih g x1 x2 x3 ((0 : Int32)) (x5 + (1 : Int32)) H locs ls h hF hS (lv_sub hl [3, 4, 5, 6, 1, 0] rfl)
            · have h := ift h c8
              refine lv_iconst (v := (1 : Int32)) hx hb dX6_hasInMind_65 (by decide) ?_
              refine lv_goto (tgt := 70) hx hb dX6_hasInMind_66 (by decide) ?_
              refine lv_istore (lv' := [(4, .int ((1 : Int32))), (6, .int ((((170 : Int32)) + (((16 : Int32)) * x1)) + (((2 : Int32)) * x5))), (0, .ref (fa (mφ μ) 0 0)), (1, .int x1), (2, .int x2), (3, .int x3), (5, .int x5)]) hx hb dX6_hasInMind_70 hl (by decide) rfl (fun ls hl => ?_)
              refine lv_iinc (v := x5 + (1 : Int32)) (lv' := [(5, .int (x5 + (1 : Int32))), (4, .int ((1 : Int32))), (6, .int ((((170 : Int32)) + (((16 : Int32)) * x1)) + (((2 : Int32)) * x5))), (0, .ref (fa (mφ μ) 0 0)), (1, .int x1), (2, .int x2), (3, .int x3)]) hx hb dX6_hasInMind_72 hl (k := 6) rfl rfl (by decide) rfl (fun ls hl => ?_)
              refine lv_goto (tgt := 6) hx hb dX6_hasInMind_75 (by decide) ?_
              exact ih g x1 x2 x3 ((1 : Int32)) (x5 + (1 : Int32)) H locs ls h hF hS (lv_sub hl [3, 4, 5, 6, 1, 0] rfl)
  exact LOOP6 F g a0 a1 a2 ((0 : Int32)) ((0 : Int32)) _ _ ls h hF hS (lv_sub hl [2, 3, 4, 5, 1, 0] rfl)
def st_X6_remember_38 (F : Nat) (K : Mem → Int32 → Int32 → Int32 → Int32 → Option (Int32 × Mem)) (g : Mem) (x1 x2 x3 x4 : Int32) : Option (Int32 × Mem) := if (((160 : Int32)) + x1 < 0 ∨ 6819 ≤ (((160 : Int32)) + x1).toNatClampNeg) then none else (if ((((2 : Int32)) * (g 1 0 ((((160 : Int32)) + x1).toNatClampNeg))) - ((2 : Int32))) ≤ x4 then if (((160 : Int32)) + x1 < 0 ∨ 6819 ≤ (((160 : Int32)) + x1).toNatClampNeg) then none else if (((160 : Int32)) + x1 < 0 ∨ 6819 ≤ (((160 : Int32)) + x1).toNatClampNeg) then none else ltm (upr g 1 0 (upd (g 1 0) (((160 : Int32)) + x1).toNatClampNeg ((g 1 0 ((((160 : Int32)) + x1).toNatClampNeg)) - ((1 : Int32))))) (fun g21 => if (((160 : Int32)) + x1 < 0 ∨ 6819 ≤ (((160 : Int32)) + x1).toNatClampNeg) then none else if ((((170 : Int32)) + (((16 : Int32)) * x1)) + (((2 : Int32)) * (g21 1 0 ((((160 : Int32)) + x1).toNatClampNeg))) < 0 ∨ 6819 ≤ ((((170 : Int32)) + (((16 : Int32)) * x1)) + (((2 : Int32)) * (g21 1 0 ((((160 : Int32)) + x1).toNatClampNeg)))).toNatClampNeg) then none else ltm (upr g21 1 0 (upd (g21 1 0) ((((170 : Int32)) + (((16 : Int32)) * x1)) + (((2 : Int32)) * (g21 1 0 ((((160 : Int32)) + x1).toNatClampNeg)))).toNatClampNeg x2)) (fun g25 => if (((((170 : Int32)) + (((16 : Int32)) * x1)) + (((2 : Int32)) * (g21 1 0 ((((160 : Int32)) + x1).toNatClampNeg)))) + ((1 : Int32)) < 0 ∨ 6819 ≤ (((((170 : Int32)) + (((16 : Int32)) * x1)) + (((2 : Int32)) * (g21 1 0 ((((160 : Int32)) + x1).toNatClampNeg)))) + ((1 : Int32))).toNatClampNeg) then none else ltm (upr g25 1 0 (upd (g25 1 0) (((((170 : Int32)) + (((16 : Int32)) * x1)) + (((2 : Int32)) * (g21 1 0 ((((160 : Int32)) + x1).toNatClampNeg)))) + ((1 : Int32))).toNatClampNeg x3)) (fun g28 => if (((160 : Int32)) + x1 < 0 ∨ 6819 ≤ (((160 : Int32)) + x1).toNatClampNeg) then none else if (((160 : Int32)) + x1 < 0 ∨ 6819 ≤ (((160 : Int32)) + x1).toNatClampNeg) then none else ltm (upr g28 1 0 (upd (g28 1 0) (((160 : Int32)) + x1).toNatClampNeg ((g28 1 0 ((((160 : Int32)) + x1).toNatClampNeg)) + ((1 : Int32))))) (fun g32 => some (0, g32))))) else if (((((170 : Int32)) + (((16 : Int32)) * x1)) + x4) + ((2 : Int32)) < 0 ∨ 6819 ≤ (((((170 : Int32)) + (((16 : Int32)) * x1)) + x4) + ((2 : Int32))).toNatClampNeg) then none else if ((((170 : Int32)) + (((16 : Int32)) * x1)) + x4 < 0 ∨ 6819 ≤ ((((170 : Int32)) + (((16 : Int32)) * x1)) + x4).toNatClampNeg) then none else ltm (upr g 1 0 (upd (g 1 0) ((((170 : Int32)) + (((16 : Int32)) * x1)) + x4).toNatClampNeg (g 1 0 ((((((170 : Int32)) + (((16 : Int32)) * x1)) + x4) + ((2 : Int32))).toNatClampNeg)))) (fun g36 => K g36 x1 x2 x3 (x4 + (1 : Int32))))
def lp_X6_remember_38 (F : Nat) : Nat → Mem → Int32 → Int32 → Int32 → Int32 → Option (Int32 × Mem)
  | 0, _, _, _, _, _ => none
  | f + 1, g, x1, x2, x3, x4 => st_X6_remember_38 F (lp_X6_remember_38 F f ) g x1 x2 x3 x4
def m_X6_remember (F : Nat) (g : Mem) (a0 a1 a2 : Int32) : Option (Int32 × Mem) := if (((30 : Int32)) + a0 < 0 ∨ 6819 ≤ (((30 : Int32)) + a0).toNatClampNeg) then none else (if (g 1 0 ((((30 : Int32)) + a0).toNatClampNeg)) = 0 then some (0, g) else if (((160 : Int32)) + a0 < 0 ∨ 6819 ≤ (((160 : Int32)) + a0).toNatClampNeg) then none else if (((30 : Int32)) + a0 < 0 ∨ 6819 ≤ (((30 : Int32)) + a0).toNatClampNeg) then none else (if (g 1 0 ((((160 : Int32)) + a0).toNatClampNeg)) = (g 1 0 ((((30 : Int32)) + a0).toNatClampNeg)) then lp_X6_remember_38 F F g a0 a1 a2 ((0 : Int32)) else if (((160 : Int32)) + a0 < 0 ∨ 6819 ≤ (((160 : Int32)) + a0).toNatClampNeg) then none else if ((((170 : Int32)) + (((16 : Int32)) * a0)) + (((2 : Int32)) * (g 1 0 ((((160 : Int32)) + a0).toNatClampNeg))) < 0 ∨ 6819 ≤ ((((170 : Int32)) + (((16 : Int32)) * a0)) + (((2 : Int32)) * (g 1 0 ((((160 : Int32)) + a0).toNatClampNeg)))).toNatClampNeg) then none else ltm (upr g 1 0 (upd (g 1 0) ((((170 : Int32)) + (((16 : Int32)) * a0)) + (((2 : Int32)) * (g 1 0 ((((160 : Int32)) + a0).toNatClampNeg)))).toNatClampNeg a1)) (fun g8 => if (((((170 : Int32)) + (((16 : Int32)) * a0)) + (((2 : Int32)) * (g 1 0 ((((160 : Int32)) + a0).toNatClampNeg)))) + ((1 : Int32)) < 0 ∨ 6819 ≤ (((((170 : Int32)) + (((16 : Int32)) * a0)) + (((2 : Int32)) * (g 1 0 ((((160 : Int32)) + a0).toNatClampNeg)))) + ((1 : Int32))).toNatClampNeg) then none else ltm (upr g8 1 0 (upd (g8 1 0) (((((170 : Int32)) + (((16 : Int32)) * a0)) + (((2 : Int32)) * (g 1 0 ((((160 : Int32)) + a0).toNatClampNeg)))) + ((1 : Int32))).toNatClampNeg a2)) (fun g11 => if (((160 : Int32)) + a0 < 0 ∨ 6819 ≤ (((160 : Int32)) + a0).toNatClampNeg) then none else if (((160 : Int32)) + a0 < 0 ∨ 6819 ≤ (((160 : Int32)) + a0).toNatClampNeg) then none else ltm (upr g11 1 0 (upd (g11 1 0) (((160 : Int32)) + a0).toNatClampNeg ((g11 1 0 ((((160 : Int32)) + a0).toNatClampNeg)) + ((1 : Int32))))) (fun g15 => some (0, g15))))))
set_option maxHeartbeats 4000000 in
set_option maxRecDepth 100000 in
theorem c_X6_remember (l : Launch) {μ : Mx} (hok : fok (mφ μ))  {F : Nat} {g : Mem} {a0 a1 a2 : Int32} {u : Int32 × Mem} (h : m_X6_remember F g a0 a1 a2 = some u) : fM l (mφ μ) yX6_remember wsX6_remember 0 0 [.ref (fa (mφ μ) 0 0), .int a0, .int a1, .int a2] g none u.2 := by
  refine fM.of (cc := cX6_remember) (maxL := 5) (ret := none) [(0, .ref (fa (mφ μ) 0 0)), (1, .int a0), (2, .int a1), (3, .int a2)] (by decide) rfl (Nat.le_of_ble_eq_true rfl) rfl (fun p e s m below meth c ls hx hb hr hml hown hts hlk hE hF hS hl => ?_)
  replace hown : s.vm.findClass RX6 = some m.cls := hown
  have hL6 : ∀ w ∈ u_ws RX6 TX6 3, w.before ([.ref (fa (mφ μ) 0 0), .int a0, .int a1, .int a2] : List Value).toArray s = true := fun w hw => hts w (by
    unfold wsX6_remember
    simp only [List.mem_cons, List.mem_append]
    exact Or.inr (Or.inr hw))
  have kw1 := hts (.fieldLink RX6 7 "MeshLampsModel" "state" "[I") (List.mem_of_getElem? (i := 1) rfl)
  unfold m_X6_remember at h
  refine lv_aload_n hx hb dX6_remember_0 rfl (lv_at hl 0 rfl) ?_
  refine fw_get (C := RX6) (T := TX6) (N := 3) (ci := 6) (v := .ref (fa (mφ μ) 1 0)) hx hb hL6 hown hE hF (e0 μ) (mm0 μ _ _) rfl 0 (by decide) kw1 rfl dX6_remember_1 ?_
  refine lv_bipush (v := (30 : Int32)) hx hb dX6_remember_4 (by decide) ?_
  refine lv_iload_n hx hb dX6_remember_6 rfl (lv_at hl 1 rfl) ?_
  refine lv_iadd hx hb dX6_remember_7 ?_
  obtain ⟨k1, h⟩ := ck h
  refine fw_iald (q := (((30 : Int32)) + a0).toNatClampNeg) hx hb hE hF (e1 μ) (mm1 μ _) 0 rfl k1 rfl dX6_remember_8 ?_
  refine lv_if_ne (tgt := 13) hx hb dX6_remember_9 (by decide) (fun c2 => ?_) (fun c2 => ?_)
  · have h := iff0 h c2
    refine lv_aload_n hx hb dX6_remember_13 rfl (lv_at hl 0 rfl) ?_
    refine fw_get (C := RX6) (T := TX6) (N := 3) (ci := 6) (v := .ref (fa (mφ μ) 1 0)) hx hb hL6 hown hE hF (e0 μ) (mm0 μ _ _) rfl 0 (by decide) kw1 rfl dX6_remember_14 ?_
    refine lv_sipush (v := (160 : Int32)) hx hb dX6_remember_17 (by decide) ?_
    refine lv_iload_n hx hb dX6_remember_20 rfl (lv_at hl 1 rfl) ?_
    refine lv_iadd hx hb dX6_remember_21 ?_
    obtain ⟨k3, h⟩ := ck h
    refine fw_iald (q := (((160 : Int32)) + a0).toNatClampNeg) hx hb hE hF (e1 μ) (mm1 μ _) 0 rfl k3 rfl dX6_remember_22 ?_
    refine lv_aload_n hx hb dX6_remember_23 rfl (lv_at hl 0 rfl) ?_
    refine fw_get (C := RX6) (T := TX6) (N := 3) (ci := 6) (v := .ref (fa (mφ μ) 1 0)) hx hb hL6 hown hE hF (e0 μ) (mm0 μ _ _) rfl 0 (by decide) kw1 rfl dX6_remember_24 ?_
    refine lv_bipush (v := (30 : Int32)) hx hb dX6_remember_27 (by decide) ?_
    refine lv_iload_n hx hb dX6_remember_29 rfl (lv_at hl 1 rfl) ?_
    refine lv_iadd hx hb dX6_remember_30 ?_
    obtain ⟨k4, h⟩ := ck h
    refine fw_iald (q := (((30 : Int32)) + a0).toNatClampNeg) hx hb hE hF (e1 μ) (mm1 μ _) 0 rfl k4 rfl dX6_remember_31 ?_
    refine lv_icmp_ne (tgt := 111) hx hb dX6_remember_32 (by decide) (fun c5 => ?_) (fun c5 => ?_)
    · have h := iff0 h c5
      refine lv_sipush (v := (170 : Int32)) hx hb dX6_remember_111 (by decide) ?_
      refine lv_bipush (v := (16 : Int32)) hx hb dX6_remember_114 (by decide) ?_
      refine lv_iload_n hx hb dX6_remember_116 rfl (lv_at hl 1 rfl) ?_
      refine lv_imul hx hb dX6_remember_117 ?_
      refine lv_iadd hx hb dX6_remember_118 ?_
      refine lv_iconst (v := (2 : Int32)) hx hb dX6_remember_119 (by decide) ?_
      refine lv_aload_n hx hb dX6_remember_120 rfl (lv_at hl 0 rfl) ?_
      refine fw_get (C := RX6) (T := TX6) (N := 3) (ci := 6) (v := .ref (fa (mφ μ) 1 0)) hx hb hL6 hown hE hF (e0 μ) (mm0 μ _ _) rfl 0 (by decide) kw1 rfl dX6_remember_121 ?_
      refine lv_sipush (v := (160 : Int32)) hx hb dX6_remember_124 (by decide) ?_
      refine lv_iload_n hx hb dX6_remember_127 rfl (lv_at hl 1 rfl) ?_
      refine lv_iadd hx hb dX6_remember_128 ?_
      obtain ⟨k6, h⟩ := ck h
      refine fw_iald (q := (((160 : Int32)) + a0).toNatClampNeg) hx hb hE hF (e1 μ) (mm1 μ _) 0 rfl k6 rfl dX6_remember_129 ?_
      refine lv_imul hx hb dX6_remember_130 ?_
      refine lv_iadd hx hb dX6_remember_131 ?_
      refine lv_istore (lv' := [(4, .int ((((170 : Int32)) + (((16 : Int32)) * a0)) + (((2 : Int32)) * (g 1 0 ((((160 : Int32)) + a0).toNatClampNeg))))), (0, .ref (fa (mφ μ) 0 0)), (1, .int a0), (2, .int a1), (3, .int a2)]) hx hb dX6_remember_132 hl (by decide) rfl (fun ls hl => ?_)
      refine lv_aload_n hx hb dX6_remember_134 rfl (lv_at hl 1 rfl) ?_
      refine fw_get (C := RX6) (T := TX6) (N := 3) (ci := 6) (v := .ref (fa (mφ μ) 1 0)) hx hb hL6 hown hE hF (e0 μ) (mm0 μ _ _) rfl 0 (by decide) kw1 rfl dX6_remember_135 ?_
      refine lv_iload hx hb dX6_remember_138 (lv_at hl 0 rfl) ?_
      refine lv_iload_n hx hb dX6_remember_140 rfl (lv_at hl 3 rfl) ?_
      obtain ⟨k7, h⟩ := ck h
      refine fw_iast (q := ((((170 : Int32)) + (((16 : Int32)) * a0)) + (((2 : Int32)) * (g 1 0 ((((160 : Int32)) + a0).toNatClampNeg)))).toNatClampNeg) hx hb hE hok hF hS (e1 μ) (mm1 μ _) 0 rfl k7 rfl dX6_remember_141 (fun H locs hF hS => ?_)
      obtain ⟨g8, e9, h⟩ := ltm_e h
      rw [e9] at hF
      refine lv_aload_n hx hb dX6_remember_142 rfl (lv_at hl 1 rfl) ?_
      refine fw_get (C := RX6) (T := TX6) (N := 3) (ci := 6) (v := .ref (fa (mφ μ) 1 0)) hx hb hL6 hown hE hF (e0 μ) (mm0 μ _ _) rfl 0 (by decide) kw1 rfl dX6_remember_143 ?_
      refine lv_iload hx hb dX6_remember_146 (lv_at hl 0 rfl) ?_
      refine lv_iconst (v := (1 : Int32)) hx hb dX6_remember_148 (by decide) ?_
      refine lv_iadd hx hb dX6_remember_149 ?_
      refine lv_iload_n hx hb dX6_remember_150 rfl (lv_at hl 4 rfl) ?_
      obtain ⟨k10, h⟩ := ck h
      refine fw_iast (q := (((((170 : Int32)) + (((16 : Int32)) * a0)) + (((2 : Int32)) * (g 1 0 ((((160 : Int32)) + a0).toNatClampNeg)))) + ((1 : Int32))).toNatClampNeg) hx hb hE hok hF hS (e1 μ) (mm1 μ _) 0 rfl k10 rfl dX6_remember_151 (fun H locs hF hS => ?_)
      obtain ⟨g11, e12, h⟩ := ltm_e h
      rw [e12] at hF
      refine lv_aload_n hx hb dX6_remember_152 rfl (lv_at hl 1 rfl) ?_
      refine fw_get (C := RX6) (T := TX6) (N := 3) (ci := 6) (v := .ref (fa (mφ μ) 1 0)) hx hb hL6 hown hE hF (e0 μ) (mm0 μ _ _) rfl 0 (by decide) kw1 rfl dX6_remember_153 ?_
      refine lv_sipush (v := (160 : Int32)) hx hb dX6_remember_156 (by decide) ?_
      refine lv_iload_n hx hb dX6_remember_159 rfl (lv_at hl 2 rfl) ?_
      refine lv_iadd hx hb dX6_remember_160 ?_
      refine lv_dup2_11 hx hb dX6_remember_161 rfl rfl ?_
      obtain ⟨k13, h⟩ := ck h
      refine fw_iald (q := (((160 : Int32)) + a0).toNatClampNeg) hx hb hE hF (e1 μ) (mm1 μ _) 0 rfl k13 rfl dX6_remember_162 ?_
      refine lv_iconst (v := (1 : Int32)) hx hb dX6_remember_163 (by decide) ?_
      refine lv_iadd hx hb dX6_remember_164 ?_
      obtain ⟨k14, h⟩ := ck h
      refine fw_iast (q := (((160 : Int32)) + a0).toNatClampNeg) hx hb hE hok hF hS (e1 μ) (mm1 μ _) 0 rfl k14 rfl dX6_remember_165 (fun H locs hF hS => ?_)
      obtain ⟨g15, e16, h⟩ := ltm_e h
      rw [e16] at hF
      exact fw_vret hx hb hr hlk h hF hS dX6_remember_166
    · have h := ift h c5
      refine lv_iconst (v := (0 : Int32)) hx hb dX6_remember_35 (by decide) ?_
      refine lv_istore (lv' := [(4, .int ((0 : Int32))), (0, .ref (fa (mφ μ) 0 0)), (1, .int a0), (2, .int a1), (3, .int a2)]) hx hb dX6_remember_36 hl (by decide) rfl (fun ls hl => ?_)
      have LOOP38 : ∀ (f : Nat) (g : Mem) (x1 x2 x3 x4 : Int32) (H : Heap) (locs : List Loc) (ls : Array Slot), lp_X6_remember_38 F f g x1 x2 x3 x4 = some u → fw (mφ μ) g H → va_S (fA (mφ μ)) s.heap H locs → lv_has ls 5 [(0, .ref (fa (mφ μ) 0 0)), (1, .int x1), (2, .int x2), (3, .int x3), (4, .int x4)] → W p l e ({ frames := 0, cells := 0, slots := 0, locals := 0 }) s m ([.ref (fa (mφ μ) 0 0), .int a0, .int a1, .int a2] : List Value).toArray below meth c H locs 0 0 (MQ below (fQ (mφ μ) none u.2) ([.ref (fa (mφ μ) 0 0), .int a0, .int a1, .int a2] : List Value).toArray s 0 0 (fA (mφ μ))) (F0 m 38 ls []) := by
        intro f
        induction f with
        | zero => intro g x1 x2 x3 x4 H locs ls h hF hS hl; cases h
        | succ f ih =>
          intro g x1 x2 x3 x4 H locs ls h hF hS hl
          replace h : st_X6_remember_38 F (lp_X6_remember_38 F f ) g x1 x2 x3 x4 = some u := h
          unfold st_X6_remember_38 at h
          refine lv_iload hx hb dX6_remember_38 (lv_at hl 4 rfl) ?_
          refine lv_iconst (v := (2 : Int32)) hx hb dX6_remember_40 (by decide) ?_
          refine lv_aload_n hx hb dX6_remember_41 rfl (lv_at hl 0 rfl) ?_
          refine fw_get (C := RX6) (T := TX6) (N := 3) (ci := 6) (v := .ref (fa (mφ μ) 1 0)) hx hb hL6 hown hE hF (e0 μ) (mm0 μ _ _) rfl 0 (by decide) kw1 rfl dX6_remember_42 ?_
          refine lv_sipush (v := (160 : Int32)) hx hb dX6_remember_45 (by decide) ?_
          refine lv_iload_n hx hb dX6_remember_48 rfl (lv_at hl 1 rfl) ?_
          refine lv_iadd hx hb dX6_remember_49 ?_
          obtain ⟨k17, h⟩ := ck h
          refine fw_iald (q := (((160 : Int32)) + x1).toNatClampNeg) hx hb hE hF (e1 μ) (mm1 μ _) 0 rfl k17 rfl dX6_remember_50 ?_
          refine lv_imul hx hb dX6_remember_51 ?_
          refine lv_iconst (v := (2 : Int32)) hx hb dX6_remember_52 (by decide) ?_
          refine lv_isub hx hb dX6_remember_53 ?_
          refine lv_icmp_ge (tgt := 97) hx hb dX6_remember_54 (by decide) (fun c18 => ?_) (fun c18 => ?_)
          · have h := ift h c18
            refine lv_aload_n hx hb dX6_remember_97 rfl (lv_at hl 0 rfl) ?_
            refine fw_get (C := RX6) (T := TX6) (N := 3) (ci := 6) (v := .ref (fa (mφ μ) 1 0)) hx hb hL6 hown hE hF (e0 μ) (mm0 μ _ _) rfl 0 (by decide) kw1 rfl dX6_remember_98 ?_
            refine lv_sipush (v := (160 : Int32)) hx hb dX6_remember_101 (by decide) ?_
            refine lv_iload_n hx hb dX6_remember_104 rfl (lv_at hl 1 rfl) ?_
            refine lv_iadd hx hb dX6_remember_105 ?_
            refine lv_dup2_11 hx hb dX6_remember_106 rfl rfl ?_
            obtain ⟨k19, h⟩ := ck h
            refine fw_iald (q := (((160 : Int32)) + x1).toNatClampNeg) hx hb hE hF (e1 μ) (mm1 μ _) 0 rfl k19 rfl dX6_remember_107 ?_
            refine lv_iconst (v := (1 : Int32)) hx hb dX6_remember_108 (by decide) ?_
            refine lv_isub hx hb dX6_remember_109 ?_
            obtain ⟨k20, h⟩ := ck h
            refine fw_iast (q := (((160 : Int32)) + x1).toNatClampNeg) hx hb hE hok hF hS (e1 μ) (mm1 μ _) 0 rfl k20 rfl dX6_remember_110 (fun H locs hF hS => ?_)
            obtain ⟨g21, e22, h⟩ := ltm_e h
            rw [e22] at hF
            refine lv_sipush (v := (170 : Int32)) hx hb dX6_remember_111 (by decide) ?_
            refine lv_bipush (v := (16 : Int32)) hx hb dX6_remember_114 (by decide) ?_
            refine lv_iload_n hx hb dX6_remember_116 rfl (lv_at hl 1 rfl) ?_
            refine lv_imul hx hb dX6_remember_117 ?_
            refine lv_iadd hx hb dX6_remember_118 ?_
            refine lv_iconst (v := (2 : Int32)) hx hb dX6_remember_119 (by decide) ?_
            refine lv_aload_n hx hb dX6_remember_120 rfl (lv_at hl 0 rfl) ?_
            refine fw_get (C := RX6) (T := TX6) (N := 3) (ci := 6) (v := .ref (fa (mφ μ) 1 0)) hx hb hL6 hown hE hF (e0 μ) (mm0 μ _ _) rfl 0 (by decide) kw1 rfl dX6_remember_121 ?_
            refine lv_sipush (v := (160 : Int32)) hx hb dX6_remember_124 (by decide) ?_
            refine lv_iload_n hx hb dX6_remember_127 rfl (lv_at hl 1 rfl) ?_
            refine lv_iadd hx hb dX6_remember_128 ?_
            obtain ⟨k23, h⟩ := ck h
            refine fw_iald (q := (((160 : Int32)) + x1).toNatClampNeg) hx hb hE hF (e1 μ) (mm1 μ _) 0 rfl k23 rfl dX6_remember_129 ?_
            refine lv_imul hx hb dX6_remember_130 ?_
            refine lv_iadd hx hb dX6_remember_131 ?_
            refine lv_istore (lv' := [(4, .int ((((170 : Int32)) + (((16 : Int32)) * x1)) + (((2 : Int32)) * (g21 1 0 ((((160 : Int32)) + x1).toNatClampNeg))))), (0, .ref (fa (mφ μ) 0 0)), (1, .int x1), (2, .int x2), (3, .int x3)]) hx hb dX6_remember_132 hl (by decide) rfl (fun ls hl => ?_)
            refine lv_aload_n hx hb dX6_remember_134 rfl (lv_at hl 1 rfl) ?_
            refine fw_get (C := RX6) (T := TX6) (N := 3) (ci := 6) (v := .ref (fa (mφ μ) 1 0)) hx hb hL6 hown hE hF (e0 μ) (mm0 μ _ _) rfl 0 (by decide) kw1 rfl dX6_remember_135 ?_
            refine lv_iload hx hb dX6_remember_138 (lv_at hl 0 rfl) ?_
            refine lv_iload_n hx hb dX6_remember_140 rfl (lv_at hl 3 rfl) ?_
            obtain ⟨k24, h⟩ := ck h
            refine fw_iast (q := ((((170 : Int32)) + (((16 : Int32)) * x1)) + (((2 : Int32)) * (g21 1 0 ((((160 : Int32)) + x1).toNatClampNeg)))).toNatClampNeg) hx hb hE hok hF hS (e1 μ) (mm1 μ _) 0 rfl k24 rfl dX6_remember_141 (fun H locs hF hS => ?_)
            obtain ⟨g25, e26, h⟩ := ltm_e h
            rw [e26] at hF
            refine lv_aload_n hx hb dX6_remember_142 rfl (lv_at hl 1 rfl) ?_
            refine fw_get (C := RX6) (T := TX6) (N := 3) (ci := 6) (v := .ref (fa (mφ μ) 1 0)) hx hb hL6 hown hE hF (e0 μ) (mm0 μ _ _) rfl 0 (by decide) kw1 rfl dX6_remember_143 ?_
            refine lv_iload hx hb dX6_remember_146 (lv_at hl 0 rfl) ?_
            refine lv_iconst (v := (1 : Int32)) hx hb dX6_remember_148 (by decide) ?_
            refine lv_iadd hx hb dX6_remember_149 ?_
            refine lv_iload_n hx hb dX6_remember_150 rfl (lv_at hl 4 rfl) ?_
            obtain ⟨k27, h⟩ := ck h
            refine fw_iast (q := (((((170 : Int32)) + (((16 : Int32)) * x1)) + (((2 : Int32)) * (g21 1 0 ((((160 : Int32)) + x1).toNatClampNeg)))) + ((1 : Int32))).toNatClampNeg) hx hb hE hok hF hS (e1 μ) (mm1 μ _) 0 rfl k27 rfl dX6_remember_151 (fun H locs hF hS => ?_)
            obtain ⟨g28, e29, h⟩ := ltm_e h
            rw [e29] at hF
            refine lv_aload_n hx hb dX6_remember_152 rfl (lv_at hl 1 rfl) ?_
            refine fw_get (C := RX6) (T := TX6) (N := 3) (ci := 6) (v := .ref (fa (mφ μ) 1 0)) hx hb hL6 hown hE hF (e0 μ) (mm0 μ _ _) rfl 0 (by decide) kw1 rfl dX6_remember_153 ?_
            refine lv_sipush (v := (160 : Int32)) hx hb dX6_remember_156 (by decide) ?_
            refine lv_iload_n hx hb dX6_remember_159 rfl (lv_at hl 2 rfl) ?_
            refine lv_iadd hx hb dX6_remember_160 ?_
            refine lv_dup2_11 hx hb dX6_remember_161 rfl rfl ?_
            obtain ⟨k30, h⟩ := ck h
            refine fw_iald (q := (((160 : Int32)) + x1).toNatClampNeg) hx hb hE hF (e1 μ) (mm1 μ _) 0 rfl k30 rfl dX6_remember_162 ?_
            refine lv_iconst (v := (1 : Int32)) hx hb dX6_remember_163 (by decide) ?_
            refine lv_iadd hx hb dX6_remember_164 ?_
            obtain ⟨k31, h⟩ := ck h
            refine fw_iast (q := (((160 : Int32)) + x1).toNatClampNeg) hx hb hE hok hF hS (e1 μ) (mm1 μ _) 0 rfl k31 rfl dX6_remember_165 (fun H locs hF hS => ?_)
            obtain ⟨g32, e33, h⟩ := ltm_e h
            rw [e33] at hF
            exact fw_vret hx hb hr hlk h hF hS dX6_remember_166
          · have h := iff0 h c18
            refine lv_aload_n hx hb dX6_remember_57 rfl (lv_at hl 0 rfl) ?_
            refine fw_get (C := RX6) (T := TX6) (N := 3) (ci := 6) (v := .ref (fa (mφ μ) 1 0)) hx hb hL6 hown hE hF (e0 μ) (mm0 μ _ _) rfl 0 (by decide) kw1 rfl dX6_remember_58 ?_
            refine lv_sipush (v := (170 : Int32)) hx hb dX6_remember_61 (by decide) ?_
            refine lv_bipush (v := (16 : Int32)) hx hb dX6_remember_64 (by decide) ?_
            refine lv_iload_n hx hb dX6_remember_66 rfl (lv_at hl 1 rfl) ?_
            refine lv_imul hx hb dX6_remember_67 ?_
            refine lv_iadd hx hb dX6_remember_68 ?_
            refine lv_iload hx hb dX6_remember_69 (lv_at hl 4 rfl) ?_
            refine lv_iadd hx hb dX6_remember_71 ?_
            refine lv_aload_n hx hb dX6_remember_72 rfl (lv_at hl 0 rfl) ?_
            refine fw_get (C := RX6) (T := TX6) (N := 3) (ci := 6) (v := .ref (fa (mφ μ) 1 0)) hx hb hL6 hown hE hF (e0 μ) (mm0 μ _ _) rfl 0 (by decide) kw1 rfl dX6_remember_73 ?_
            refine lv_sipush (v := (170 : Int32)) hx hb dX6_remember_76 (by decide) ?_
            refine lv_bipush (v := (16 : Int32)) hx hb dX6_remember_79 (by decide) ?_
            refine lv_iload_n hx hb dX6_remember_81 rfl (lv_at hl 1 rfl) ?_
            refine lv_imul hx hb dX6_remember_82 ?_
            refine lv_iadd hx hb dX6_remember_83 ?_
            refine lv_iload hx hb dX6_remember_84 (lv_at hl 4 rfl) ?_
            refine lv_iadd hx hb dX6_remember_86 ?_
            refine lv_iconst (v := (2 : Int32)) hx hb dX6_remember_87 (by decide) ?_
            refine lv_iadd hx hb dX6_remember_88 ?_
            obtain ⟨k34, h⟩ := ck h
            refine fw_iald (q := (((((170 : Int32)) + (((16 : Int32)) * x1)) + x4) + ((2 : Int32))).toNatClampNeg) hx hb hE hF (e1 μ) (mm1 μ _) 0 rfl k34 rfl dX6_remember_89 ?_
            obtain ⟨k35, h⟩ := ck h
            refine fw_iast (q := ((((170 : Int32)) + (((16 : Int32)) * x1)) + x4).toNatClampNeg) hx hb hE hok hF hS (e1 μ) (mm1 μ _) 0 rfl k35 rfl dX6_remember_90 (fun H locs hF hS => ?_)
            obtain ⟨g36, e37, h⟩ := ltm_e h
            rw [e37] at hF
            refine lv_iinc (v := x4 + (1 : Int32)) (lv' := [(4, .int (x4 + (1 : Int32))), (0, .ref (fa (mφ μ) 0 0)), (1, .int x1), (2, .int x2), (3, .int x3)]) hx hb dX6_remember_91 hl (k := 4) rfl rfl (by decide) rfl (fun ls hl => ?_)
            refine lv_goto (tgt := 38) hx hb dX6_remember_94 (by decide) ?_
            exact ih g36 x1 x2 x3 (x4 + (1 : Int32)) H locs ls h hF hS (lv_sub hl [1, 2, 3, 4, 0] rfl)
      exact LOOP38 F g a0 a1 a2 ((0 : Int32)) _ _ ls h hF hS (lv_sub hl [1, 2, 3, 4, 0] rfl)
  · have h := ift h c2
    exact fw_vret hx hb hr hlk h hF hS dX6_remember_12
def m_X6_addToAir (g : Mem) (a0 a1 a2 a3 a4 : Int32) : Option (Int32 × Mem) := if (((490 : Int32)) + (((5 : Int32)) * (g 1 0 6815)) < 0 ∨ 6819 ≤ (((490 : Int32)) + (((5 : Int32)) * (g 1 0 6815))).toNatClampNeg) then none else ltm (upr g 1 0 (upd (g 1 0) (((490 : Int32)) + (((5 : Int32)) * (g 1 0 6815))).toNatClampNeg a0)) (fun g3 => if ((((490 : Int32)) + (((5 : Int32)) * (g 1 0 6815))) + ((1 : Int32)) < 0 ∨ 6819 ≤ ((((490 : Int32)) + (((5 : Int32)) * (g 1 0 6815))) + ((1 : Int32))).toNatClampNeg) then none else ltm (upr g3 1 0 (upd (g3 1 0) ((((490 : Int32)) + (((5 : Int32)) * (g 1 0 6815))) + ((1 : Int32))).toNatClampNeg a1)) (fun g6 => if ((((490 : Int32)) + (((5 : Int32)) * (g 1 0 6815))) + ((2 : Int32)) < 0 ∨ 6819 ≤ ((((490 : Int32)) + (((5 : Int32)) * (g 1 0 6815))) + ((2 : Int32))).toNatClampNeg) then none else ltm (upr g6 1 0 (upd (g6 1 0) ((((490 : Int32)) + (((5 : Int32)) * (g 1 0 6815))) + ((2 : Int32))).toNatClampNeg a2)) (fun g9 => if ((((490 : Int32)) + (((5 : Int32)) * (g 1 0 6815))) + ((3 : Int32)) < 0 ∨ 6819 ≤ ((((490 : Int32)) + (((5 : Int32)) * (g 1 0 6815))) + ((3 : Int32))).toNatClampNeg) then none else ltm (upr g9 1 0 (upd (g9 1 0) ((((490 : Int32)) + (((5 : Int32)) * (g 1 0 6815))) + ((3 : Int32))).toNatClampNeg a3)) (fun g12 => if ((((490 : Int32)) + (((5 : Int32)) * (g 1 0 6815))) + ((4 : Int32)) < 0 ∨ 6819 ≤ ((((490 : Int32)) + (((5 : Int32)) * (g 1 0 6815))) + ((4 : Int32))).toNatClampNeg) then none else ltm (upr g12 1 0 (upd (g12 1 0) ((((490 : Int32)) + (((5 : Int32)) * (g 1 0 6815))) + ((4 : Int32))).toNatClampNeg a4)) (fun g15 => ltm (upr g15 1 0 (upd (g15 1 0) 6815 ((g15 1 0 6815) + ((1 : Int32))))) (fun g19 => some (0, g19)))))))
set_option maxHeartbeats 4000000 in
set_option maxRecDepth 100000 in
theorem c_X6_addToAir (l : Launch) {μ : Mx} (hok : fok (mφ μ))  {g : Mem} {a0 a1 a2 a3 a4 : Int32} {u : Int32 × Mem} (h : m_X6_addToAir g a0 a1 a2 a3 a4 = some u) : fM l (mφ μ) yX6_addToAir wsX6_addToAir 0 0 [.ref (fa (mφ μ) 0 0), .int a0, .int a1, .int a2, .int a3, .int a4] g none u.2 := by
  refine fM.of (cc := cX6_addToAir) (maxL := 7) (ret := none) [(0, .ref (fa (mφ μ) 0 0)), (1, .int a0), (2, .int a1), (3, .int a2), (4, .int a3), (5, .int a4)] (by decide) rfl (Nat.le_of_ble_eq_true rfl) rfl (fun p e s m below meth c ls hx hb hr hml hown hts hlk hE hF hS hl => ?_)
  replace hown : s.vm.findClass RX6 = some m.cls := hown
  have hL6 : ∀ w ∈ u_ws RX6 TX6 3, w.before ([.ref (fa (mφ μ) 0 0), .int a0, .int a1, .int a2, .int a3, .int a4] : List Value).toArray s = true := fun w hw => hts w (by
    unfold wsX6_addToAir
    simp only [List.mem_cons, List.mem_append]
    exact Or.inr (Or.inr hw))
  have kw1 := hts (.fieldLink RX6 7 "MeshLampsModel" "state" "[I") (List.mem_of_getElem? (i := 1) rfl)
  unfold m_X6_addToAir at h
  refine lv_sipush (v := (490 : Int32)) hx hb dX6_addToAir_0 (by decide) ?_
  refine lv_iconst (v := (5 : Int32)) hx hb dX6_addToAir_3 (by decide) ?_
  refine lv_aload_n hx hb dX6_addToAir_4 rfl (lv_at hl 0 rfl) ?_
  refine fw_get (C := RX6) (T := TX6) (N := 3) (ci := 6) (v := .ref (fa (mφ μ) 1 0)) hx hb hL6 hown hE hF (e0 μ) (mm0 μ _ _) rfl 0 (by decide) kw1 rfl dX6_addToAir_5 ?_
  refine lv_sipush (v := (6815 : Int32)) hx hb dX6_addToAir_8 (by decide) ?_
  refine fw_iald (q := 6815) hx hb hE hF (e1 μ) (mm1 μ _) 0 rfl (by decide) (by decide) dX6_addToAir_11 ?_
  refine lv_imul hx hb dX6_addToAir_12 ?_
  refine lv_iadd hx hb dX6_addToAir_13 ?_
  refine lv_istore (lv' := [(6, .int (((490 : Int32)) + (((5 : Int32)) * (g 1 0 6815)))), (0, .ref (fa (mφ μ) 0 0)), (1, .int a0), (2, .int a1), (3, .int a2), (4, .int a3), (5, .int a4)]) hx hb dX6_addToAir_14 hl (by decide) rfl (fun ls hl => ?_)
  refine lv_aload_n hx hb dX6_addToAir_16 rfl (lv_at hl 1 rfl) ?_
  refine fw_get (C := RX6) (T := TX6) (N := 3) (ci := 6) (v := .ref (fa (mφ μ) 1 0)) hx hb hL6 hown hE hF (e0 μ) (mm0 μ _ _) rfl 0 (by decide) kw1 rfl dX6_addToAir_17 ?_
  refine lv_iload hx hb dX6_addToAir_20 (lv_at hl 0 rfl) ?_
  refine lv_iload_n hx hb dX6_addToAir_22 rfl (lv_at hl 2 rfl) ?_
  obtain ⟨k2, h⟩ := ck h
  refine fw_iast (q := (((490 : Int32)) + (((5 : Int32)) * (g 1 0 6815))).toNatClampNeg) hx hb hE hok hF hS (e1 μ) (mm1 μ _) 0 rfl k2 rfl dX6_addToAir_23 (fun H locs hF hS => ?_)
  obtain ⟨g3, e4, h⟩ := ltm_e h
  rw [e4] at hF
  refine lv_aload_n hx hb dX6_addToAir_24 rfl (lv_at hl 1 rfl) ?_
  refine fw_get (C := RX6) (T := TX6) (N := 3) (ci := 6) (v := .ref (fa (mφ μ) 1 0)) hx hb hL6 hown hE hF (e0 μ) (mm0 μ _ _) rfl 0 (by decide) kw1 rfl dX6_addToAir_25 ?_
  refine lv_iload hx hb dX6_addToAir_28 (lv_at hl 0 rfl) ?_
  refine lv_iconst (v := (1 : Int32)) hx hb dX6_addToAir_30 (by decide) ?_
  refine lv_iadd hx hb dX6_addToAir_31 ?_
  refine lv_iload_n hx hb dX6_addToAir_32 rfl (lv_at hl 3 rfl) ?_
  obtain ⟨k5, h⟩ := ck h
  refine fw_iast (q := ((((490 : Int32)) + (((5 : Int32)) * (g 1 0 6815))) + ((1 : Int32))).toNatClampNeg) hx hb hE hok hF hS (e1 μ) (mm1 μ _) 0 rfl k5 rfl dX6_addToAir_33 (fun H locs hF hS => ?_)
  obtain ⟨g6, e7, h⟩ := ltm_e h
  rw [e7] at hF
  refine lv_aload_n hx hb dX6_addToAir_34 rfl (lv_at hl 1 rfl) ?_
  refine fw_get (C := RX6) (T := TX6) (N := 3) (ci := 6) (v := .ref (fa (mφ μ) 1 0)) hx hb hL6 hown hE hF (e0 μ) (mm0 μ _ _) rfl 0 (by decide) kw1 rfl dX6_addToAir_35 ?_
  refine lv_iload hx hb dX6_addToAir_38 (lv_at hl 0 rfl) ?_
  refine lv_iconst (v := (2 : Int32)) hx hb dX6_addToAir_40 (by decide) ?_
  refine lv_iadd hx hb dX6_addToAir_41 ?_
  refine lv_iload_n hx hb dX6_addToAir_42 rfl (lv_at hl 4 rfl) ?_
  obtain ⟨k8, h⟩ := ck h
  refine fw_iast (q := ((((490 : Int32)) + (((5 : Int32)) * (g 1 0 6815))) + ((2 : Int32))).toNatClampNeg) hx hb hE hok hF hS (e1 μ) (mm1 μ _) 0 rfl k8 rfl dX6_addToAir_43 (fun H locs hF hS => ?_)
  obtain ⟨g9, e10, h⟩ := ltm_e h
  rw [e10] at hF
  refine lv_aload_n hx hb dX6_addToAir_44 rfl (lv_at hl 1 rfl) ?_
  refine fw_get (C := RX6) (T := TX6) (N := 3) (ci := 6) (v := .ref (fa (mφ μ) 1 0)) hx hb hL6 hown hE hF (e0 μ) (mm0 μ _ _) rfl 0 (by decide) kw1 rfl dX6_addToAir_45 ?_
  refine lv_iload hx hb dX6_addToAir_48 (lv_at hl 0 rfl) ?_
  refine lv_iconst (v := (3 : Int32)) hx hb dX6_addToAir_50 (by decide) ?_
  refine lv_iadd hx hb dX6_addToAir_51 ?_
  refine lv_iload hx hb dX6_addToAir_52 (lv_at hl 5 rfl) ?_
  obtain ⟨k11, h⟩ := ck h
  refine fw_iast (q := ((((490 : Int32)) + (((5 : Int32)) * (g 1 0 6815))) + ((3 : Int32))).toNatClampNeg) hx hb hE hok hF hS (e1 μ) (mm1 μ _) 0 rfl k11 rfl dX6_addToAir_54 (fun H locs hF hS => ?_)
  obtain ⟨g12, e13, h⟩ := ltm_e h
  rw [e13] at hF
  refine lv_aload_n hx hb dX6_addToAir_55 rfl (lv_at hl 1 rfl) ?_
  refine fw_get (C := RX6) (T := TX6) (N := 3) (ci := 6) (v := .ref (fa (mφ μ) 1 0)) hx hb hL6 hown hE hF (e0 μ) (mm0 μ _ _) rfl 0 (by decide) kw1 rfl dX6_addToAir_56 ?_
  refine lv_iload hx hb dX6_addToAir_59 (lv_at hl 0 rfl) ?_
  refine lv_iconst (v := (4 : Int32)) hx hb dX6_addToAir_61 (by decide) ?_
  refine lv_iadd hx hb dX6_addToAir_62 ?_
  refine lv_iload hx hb dX6_addToAir_63 (lv_at hl 6 rfl) ?_
  obtain ⟨k14, h⟩ := ck h
  refine fw_iast (q := ((((490 : Int32)) + (((5 : Int32)) * (g 1 0 6815))) + ((4 : Int32))).toNatClampNeg) hx hb hE hok hF hS (e1 μ) (mm1 μ _) 0 rfl k14 rfl dX6_addToAir_65 (fun H locs hF hS => ?_)
  obtain ⟨g15, e16, h⟩ := ltm_e h
  rw [e16] at hF
  refine lv_aload_n hx hb dX6_addToAir_66 rfl (lv_at hl 1 rfl) ?_
  refine fw_get (C := RX6) (T := TX6) (N := 3) (ci := 6) (v := .ref (fa (mφ μ) 1 0)) hx hb hL6 hown hE hF (e0 μ) (mm0 μ _ _) rfl 0 (by decide) kw1 rfl dX6_addToAir_67 ?_
  refine lv_sipush (v := (6815 : Int32)) hx hb dX6_addToAir_70 (by decide) ?_
  refine lv_dup2_11 hx hb dX6_addToAir_73 rfl rfl ?_
  refine fw_iald (q := 6815) hx hb hE hF (e1 μ) (mm1 μ _) 0 rfl (by decide) (by decide) dX6_addToAir_74 ?_
  refine lv_iconst (v := (1 : Int32)) hx hb dX6_addToAir_75 (by decide) ?_
  refine lv_iadd hx hb dX6_addToAir_76 ?_
  refine fw_iast (q := 6815) hx hb hE hok hF hS (e1 μ) (mm1 μ _) 0 rfl (by decide) (by decide) dX6_addToAir_77 (fun H locs hF hS => ?_)
  obtain ⟨g19, e20, h⟩ := ltm_e h
  rw [e20] at hF
  exact fw_vret hx hb hr hlk h hF hS dX6_addToAir_78
def m_X6_keyFor (g : Mem) (a0 : Int32) : Option (Int32 × Mem) := (if (g 1 0 6812) = ((2 : Int32)) then (m_X6_isOf (g 1 0 6814) a0).bind (fun r10 => (if r10 = 0 then (m_X6_isOf (g 1 0 6813) a0).bind (fun r14 => (if r14 = 0 then some ((-6 : Int32), g) else some (g 1 0 6811, g))) else some ((g 1 0 6811) + ((1 : Int32)), g))) else (m_X6_isOf (g 1 0 6813) a0).bind (fun r5 => (if r5 = 0 then some ((-6 : Int32), g) else some (g 1 0 6811, g))))
set_option maxHeartbeats 4000000 in
set_option maxRecDepth 100000 in
theorem c_X6_keyFor (l : Launch) {μ : Mx} (hok : fok (mφ μ))  {g : Mem} {a0 : Int32} {u : Int32 × Mem} (h : m_X6_keyFor g a0 = some u) : fM l (mφ μ) yX6_keyFor wsX6_keyFor 1 21 [.ref (fa (mφ μ) 0 0), .int a0] g (some (.int u.1)) u.2 := by
  refine fM.of (cc := cX6_keyFor) (maxL := 2) (ret := (some .int)) [(0, .ref (fa (mφ μ) 0 0)), (1, .int a0)] (by decide) rfl (Nat.le_of_ble_eq_true rfl) rfl (fun p e s m below meth c ls hx hb hr hml hown hts hlk hE hF hS hl => ?_)
  replace hown : s.vm.findClass RX6 = some m.cls := hown
  have hL6 : ∀ w ∈ u_ws RX6 TX6 3, w.before ([.ref (fa (mφ μ) 0 0), .int a0] : List Value).toArray s = true := fun w hw => hts w (by
    unfold wsX6_keyFor
    simp only [List.mem_cons, List.mem_append]
    exact Or.inr (Or.inr hw))
  have kw1 := hts (.fieldLink RX6 7 "MeshLampsModel" "state" "[I") (List.mem_of_getElem? (i := 1) rfl)
  unfold m_X6_keyFor at h
  refine lv_aload_n hx hb dX6_keyFor_0 rfl (lv_at hl 0 rfl) ?_
  refine fw_get (C := RX6) (T := TX6) (N := 3) (ci := 6) (v := .ref (fa (mφ μ) 1 0)) hx hb hL6 hown hE hF (e0 μ) (mm0 μ _ _) rfl 0 (by decide) kw1 rfl dX6_keyFor_1 ?_
  refine lv_sipush (v := (6812 : Int32)) hx hb dX6_keyFor_4 (by decide) ?_
  refine fw_iald (q := 6812) hx hb hE hF (e1 μ) (mm1 μ _) 0 rfl (by decide) (by decide) dX6_keyFor_7 ?_
  refine lv_iconst (v := (2 : Int32)) hx hb dX6_keyFor_8 (by decide) ?_
  refine lv_icmp_ne (tgt := 38) hx hb dX6_keyFor_9 (by decide) (fun c2 => ?_) (fun c2 => ?_)
  · have h := iff0 h c2
    refine lv_aload_n hx hb dX6_keyFor_38 rfl (lv_at hl 0 rfl) ?_
    refine fw_get (C := RX6) (T := TX6) (N := 3) (ci := 6) (v := .ref (fa (mφ μ) 1 0)) hx hb hL6 hown hE hF (e0 μ) (mm0 μ _ _) rfl 0 (by decide) kw1 rfl dX6_keyFor_39 ?_
    refine lv_sipush (v := (6813 : Int32)) hx hb dX6_keyFor_42 (by decide) ?_
    refine fw_iald (q := 6813) hx hb hE hF (e1 μ) (mm1 μ _) 0 rfl (by decide) (by decide) dX6_keyFor_45 ?_
    refine lv_iload_n hx hb dX6_keyFor_46 rfl (lv_at hl 1 rfl) ?_
    obtain ⟨r5, q4, h⟩ := bnd h
    try dsimp only at h
    refine pw_call (va_runS (As := [.int (g 1 0 6813), .int a0]) (rest := []) ⟨hx, hb, hml, hown, hts⟩ (c_X6_isOf l q4) (va_cwS 2 hts gX6_keyFor_X6_isOf rfl rfl rfl qs_X6_isOf ⟨Nat.le_of_ble_eq_true rfl, Nat.le_of_ble_eq_true rfl⟩) preEq rfl rfl hl.1 rfl (lv_room (Nat.le_of_ble_eq_true rfl)) dX6_keyFor_47 ⟨Nat.le_refl _, Nat.le_refl _⟩) ?_
    refine lv_if_eq (tgt := 64) hx hb dX6_keyFor_50 (by decide) (fun c6 => ?_) (fun c6 => ?_)
    · have h := ift h c6
      refine lv_bipush (v := (-6 : Int32)) hx hb dX6_keyFor_64 (by decide) ?_
      exact fw_iret hx hb hr hlk h hF hS dX6_keyFor_66
    · have h := iff0 h c6
      refine lv_aload_n hx hb dX6_keyFor_53 rfl (lv_at hl 0 rfl) ?_
      refine fw_get (C := RX6) (T := TX6) (N := 3) (ci := 6) (v := .ref (fa (mφ μ) 1 0)) hx hb hL6 hown hE hF (e0 μ) (mm0 μ _ _) rfl 0 (by decide) kw1 rfl dX6_keyFor_54 ?_
      refine lv_sipush (v := (6811 : Int32)) hx hb dX6_keyFor_57 (by decide) ?_
      refine fw_iald (q := 6811) hx hb hE hF (e1 μ) (mm1 μ _) 0 rfl (by decide) (by decide) dX6_keyFor_60 ?_
      refine lv_goto (tgt := 66) hx hb dX6_keyFor_61 (by decide) ?_
      exact fw_iret hx hb hr hlk h hF hS dX6_keyFor_66
  · have h := ift h c2
    refine lv_aload_n hx hb dX6_keyFor_12 rfl (lv_at hl 0 rfl) ?_
    refine fw_get (C := RX6) (T := TX6) (N := 3) (ci := 6) (v := .ref (fa (mφ μ) 1 0)) hx hb hL6 hown hE hF (e0 μ) (mm0 μ _ _) rfl 0 (by decide) kw1 rfl dX6_keyFor_13 ?_
    refine lv_sipush (v := (6814 : Int32)) hx hb dX6_keyFor_16 (by decide) ?_
    refine fw_iald (q := 6814) hx hb hE hF (e1 μ) (mm1 μ _) 0 rfl (by decide) (by decide) dX6_keyFor_19 ?_
    refine lv_iload_n hx hb dX6_keyFor_20 rfl (lv_at hl 1 rfl) ?_
    obtain ⟨r10, q9, h⟩ := bnd h
    try dsimp only at h
    refine pw_call (va_runS (As := [.int (g 1 0 6814), .int a0]) (rest := []) ⟨hx, hb, hml, hown, hts⟩ (c_X6_isOf l q9) (va_cwS 2 hts gX6_keyFor_X6_isOf rfl rfl rfl qs_X6_isOf ⟨Nat.le_of_ble_eq_true rfl, Nat.le_of_ble_eq_true rfl⟩) preEq rfl rfl hl.1 rfl (lv_room (Nat.le_of_ble_eq_true rfl)) dX6_keyFor_21 ⟨Nat.le_refl _, Nat.le_refl _⟩) ?_
    refine lv_if_eq (tgt := 38) hx hb dX6_keyFor_24 (by decide) (fun c11 => ?_) (fun c11 => ?_)
    · have h := ift h c11
      refine lv_aload_n hx hb dX6_keyFor_38 rfl (lv_at hl 0 rfl) ?_
      refine fw_get (C := RX6) (T := TX6) (N := 3) (ci := 6) (v := .ref (fa (mφ μ) 1 0)) hx hb hL6 hown hE hF (e0 μ) (mm0 μ _ _) rfl 0 (by decide) kw1 rfl dX6_keyFor_39 ?_
      refine lv_sipush (v := (6813 : Int32)) hx hb dX6_keyFor_42 (by decide) ?_
      refine fw_iald (q := 6813) hx hb hE hF (e1 μ) (mm1 μ _) 0 rfl (by decide) (by decide) dX6_keyFor_45 ?_
      refine lv_iload_n hx hb dX6_keyFor_46 rfl (lv_at hl 1 rfl) ?_
      obtain ⟨r14, q13, h⟩ := bnd h
      try dsimp only at h
      refine pw_call (va_runS (As := [.int (g 1 0 6813), .int a0]) (rest := []) ⟨hx, hb, hml, hown, hts⟩ (c_X6_isOf l q13) (va_cwS 2 hts gX6_keyFor_X6_isOf rfl rfl rfl qs_X6_isOf ⟨Nat.le_of_ble_eq_true rfl, Nat.le_of_ble_eq_true rfl⟩) preEq rfl rfl hl.1 rfl (lv_room (Nat.le_of_ble_eq_true rfl)) dX6_keyFor_47 ⟨Nat.le_refl _, Nat.le_refl _⟩) ?_
      refine lv_if_eq (tgt := 64) hx hb dX6_keyFor_50 (by decide) (fun c15 => ?_) (fun c15 => ?_)
      · have h := ift h c15
        refine lv_bipush (v := (-6 : Int32)) hx hb dX6_keyFor_64 (by decide) ?_
        exact fw_iret hx hb hr hlk h hF hS dX6_keyFor_66
      · have h := iff0 h c15
        refine lv_aload_n hx hb dX6_keyFor_53 rfl (lv_at hl 0 rfl) ?_
        refine fw_get (C := RX6) (T := TX6) (N := 3) (ci := 6) (v := .ref (fa (mφ μ) 1 0)) hx hb hL6 hown hE hF (e0 μ) (mm0 μ _ _) rfl 0 (by decide) kw1 rfl dX6_keyFor_54 ?_
        refine lv_sipush (v := (6811 : Int32)) hx hb dX6_keyFor_57 (by decide) ?_
        refine fw_iald (q := 6811) hx hb hE hF (e1 μ) (mm1 μ _) 0 rfl (by decide) (by decide) dX6_keyFor_60 ?_
        refine lv_goto (tgt := 66) hx hb dX6_keyFor_61 (by decide) ?_
        exact fw_iret hx hb hr hlk h hF hS dX6_keyFor_66
    · have h := iff0 h c11
      refine lv_aload_n hx hb dX6_keyFor_27 rfl (lv_at hl 0 rfl) ?_
      refine fw_get (C := RX6) (T := TX6) (N := 3) (ci := 6) (v := .ref (fa (mφ μ) 1 0)) hx hb hL6 hown hE hF (e0 μ) (mm0 μ _ _) rfl 0 (by decide) kw1 rfl dX6_keyFor_28 ?_
      refine lv_sipush (v := (6811 : Int32)) hx hb dX6_keyFor_31 (by decide) ?_
      refine fw_iald (q := 6811) hx hb hE hF (e1 μ) (mm1 μ _) 0 rfl (by decide) (by decide) dX6_keyFor_34 ?_
      refine lv_iconst (v := (1 : Int32)) hx hb dX6_keyFor_35 (by decide) ?_
      refine lv_iadd hx hb dX6_keyFor_36 ?_
      exact fw_iret hx hb hr hlk h hF hS dX6_keyFor_37
def m_X6_takes (g : Mem) (a0 a1 a2 : Int32) : Option (Int32 × Mem) := if ((((330 : Int32)) + (((10 : Int32)) * a0)) + a1 < 0 ∨ 6819 ≤ ((((330 : Int32)) + (((10 : Int32)) * a0)) + a1).toNatClampNeg) then none else (if (g 1 0 (((((330 : Int32)) + (((10 : Int32)) * a0)) + a1).toNatClampNeg)) < a2 then if ((((330 : Int32)) + (((10 : Int32)) * a0)) + a1 < 0 ∨ 6819 ≤ ((((330 : Int32)) + (((10 : Int32)) * a0)) + a1).toNatClampNeg) then none else ltm (upr g 1 0 (upd (g 1 0) ((((330 : Int32)) + (((10 : Int32)) * a0)) + a1).toNatClampNeg a2)) (fun g4 => (m_X6_letter g4 a1 a2 ((2 : Int32))).bind (fun (r7, g8) => if (((50 : Int32)) + a0 < 0 ∨ 6819 ≤ (((50 : Int32)) + a0).toNatClampNeg) then none else ltm (upr g8 1 0 (upd (g8 1 0) (((50 : Int32)) + a0).toNatClampNeg r7)) (fun g11 => if (((90 : Int32)) + a0 < 0 ∨ 6819 ≤ (((90 : Int32)) + a0).toNatClampNeg) then none else if (((90 : Int32)) + a0 < 0 ∨ 6819 ≤ (((90 : Int32)) + a0).toNatClampNeg) then none else ltm (upr g11 1 0 (upd (g11 1 0) (((90 : Int32)) + a0).toNatClampNeg ((g11 1 0 ((((90 : Int32)) + a0).toNatClampNeg)) + ((1 : Int32))))) (fun g15 => some ((1 : Int32), g15))))) else if (((100 : Int32)) + a0 < 0 ∨ 6819 ≤ (((100 : Int32)) + a0).toNatClampNeg) then none else if (((100 : Int32)) + a0 < 0 ∨ 6819 ≤ (((100 : Int32)) + a0).toNatClampNeg) then none else ltm (upr g 1 0 (upd (g 1 0) (((100 : Int32)) + a0).toNatClampNeg ((g 1 0 ((((100 : Int32)) + a0).toNatClampNeg)) + ((1 : Int32))))) (fun g19 => some ((0 : Int32), g19)))
set_option maxHeartbeats 4000000 in
set_option maxRecDepth 100000 in
theorem c_X6_takes (l : Launch) {μ : Mx} (hok : fok (mφ μ))  {g : Mem} {a0 a1 a2 : Int32} {u : Int32 × Mem} (h : m_X6_takes g a0 a1 a2 = some u) : fM l (mφ μ) yX6_takes wsX6_takes 1 23 [.ref (fa (mφ μ) 0 0), .int a0, .int a1, .int a2] g (some (.int u.1)) u.2 := by
  refine fM.of (cc := cX6_takes) (maxL := 5) (ret := (some .boolean)) [(0, .ref (fa (mφ μ) 0 0)), (1, .int a0), (2, .int a1), (3, .int a2)] (by decide) rfl (Nat.le_of_ble_eq_true rfl) rfl (fun p e s m below meth c ls hx hb hr hml hown hts hlk hE hF hS hl => ?_)
  replace hown : s.vm.findClass RX6 = some m.cls := hown
  have hL6 : ∀ w ∈ u_ws RX6 TX6 3, w.before ([.ref (fa (mφ μ) 0 0), .int a0, .int a1, .int a2] : List Value).toArray s = true := fun w hw => hts w (by
    unfold wsX6_takes
    simp only [List.mem_cons, List.mem_append]
    exact Or.inr (Or.inr hw))
  have kw1 := hts (.fieldLink RX6 7 "MeshLampsModel" "state" "[I") (List.mem_of_getElem? (i := 1) rfl)
  unfold m_X6_takes at h
  refine lv_sipush (v := (330 : Int32)) hx hb dX6_takes_0 (by decide) ?_
  refine lv_bipush (v := (10 : Int32)) hx hb dX6_takes_3 (by decide) ?_
  refine lv_iload_n hx hb dX6_takes_5 rfl (lv_at hl 1 rfl) ?_
  refine lv_imul hx hb dX6_takes_6 ?_
  refine lv_iadd hx hb dX6_takes_7 ?_
  refine lv_iload_n hx hb dX6_takes_8 rfl (lv_at hl 2 rfl) ?_
  refine lv_iadd hx hb dX6_takes_9 ?_
  refine lv_istore (lv' := [(4, .int ((((330 : Int32)) + (((10 : Int32)) * a0)) + a1)), (0, .ref (fa (mφ μ) 0 0)), (1, .int a0), (2, .int a1), (3, .int a2)]) hx hb dX6_takes_10 hl (by decide) rfl (fun ls hl => ?_)
  refine lv_iload_n hx hb dX6_takes_12 rfl (lv_at hl 4 rfl) ?_
  refine lv_aload_n hx hb dX6_takes_13 rfl (lv_at hl 1 rfl) ?_
  refine fw_get (C := RX6) (T := TX6) (N := 3) (ci := 6) (v := .ref (fa (mφ μ) 1 0)) hx hb hL6 hown hE hF (e0 μ) (mm0 μ _ _) rfl 0 (by decide) kw1 rfl dX6_takes_14 ?_
  refine lv_iload hx hb dX6_takes_17 (lv_at hl 0 rfl) ?_
  obtain ⟨k1, h⟩ := ck h
  refine fw_iald (q := ((((330 : Int32)) + (((10 : Int32)) * a0)) + a1).toNatClampNeg) hx hb hE hF (e1 μ) (mm1 μ _) 0 rfl k1 rfl dX6_takes_19 ?_
  refine lv_icmp_gt (tgt := 38) hx hb dX6_takes_20 (by decide) (fun c2 => ?_) (fun c2 => ?_)
  · have h := ift h c2
    refine lv_aload_n hx hb dX6_takes_38 rfl (lv_at hl 1 rfl) ?_
    refine fw_get (C := RX6) (T := TX6) (N := 3) (ci := 6) (v := .ref (fa (mφ μ) 1 0)) hx hb hL6 hown hE hF (e0 μ) (mm0 μ _ _) rfl 0 (by decide) kw1 rfl dX6_takes_39 ?_
    refine lv_iload hx hb dX6_takes_42 (lv_at hl 0 rfl) ?_
    refine lv_iload_n hx hb dX6_takes_44 rfl (lv_at hl 4 rfl) ?_
    obtain ⟨k3, h⟩ := ck h
    refine fw_iast (q := ((((330 : Int32)) + (((10 : Int32)) * a0)) + a1).toNatClampNeg) hx hb hE hok hF hS (e1 μ) (mm1 μ _) 0 rfl k3 rfl dX6_takes_45 (fun H locs hF hS => ?_)
    obtain ⟨g4, e5, h⟩ := ltm_e h
    rw [e5] at hF
    refine lv_aload_n hx hb dX6_takes_46 rfl (lv_at hl 1 rfl) ?_
    refine fw_get (C := RX6) (T := TX6) (N := 3) (ci := 6) (v := .ref (fa (mφ μ) 1 0)) hx hb hL6 hown hE hF (e0 μ) (mm0 μ _ _) rfl 0 (by decide) kw1 rfl dX6_takes_47 ?_
    refine lv_bipush (v := (50 : Int32)) hx hb dX6_takes_50 (by decide) ?_
    refine lv_iload_n hx hb dX6_takes_52 rfl (lv_at hl 2 rfl) ?_
    refine lv_iadd hx hb dX6_takes_53 ?_
    refine lv_aload_n hx hb dX6_takes_54 rfl (lv_at hl 1 rfl) ?_
    refine lv_iload_n hx hb dX6_takes_55 rfl (lv_at hl 3 rfl) ?_
    refine lv_iload_n hx hb dX6_takes_56 rfl (lv_at hl 4 rfl) ?_
    refine lv_iconst (v := (2 : Int32)) hx hb dX6_takes_57 (by decide) ?_
    obtain ⟨⟨r7, g8⟩, q6, h⟩ := bnd h
    try dsimp only at h
    refine fw_calli (va_runV (As := [.int a1, .int a2, .int ((2 : Int32))]) (rest := [.int (((50 : Int32)) + a0), .ref (fa (mφ μ) 1 0)]) ⟨hx, hb, hml, hown, hts⟩ (c_X6_letter l hok q6) (cwV 3 hts gX6_takes_X6_letter rfl rfl rfl qv_X6_letter ⟨Nat.le_of_ble_eq_true rfl, Nat.le_of_ble_eq_true rfl⟩) (fw_preV hok hE hF (e0 μ) (mm0 μ _ _) rfl) rfl rfl hl.1 rfl (lv_room (Nat.le_of_ble_eq_true rfl)) dX6_takes_58 ⟨Nat.le_refl _, Nat.le_refl _⟩) hS (fun H locs hF hS => ?_)
    obtain ⟨k10, h⟩ := ck h
    refine fw_iast (q := (((50 : Int32)) + a0).toNatClampNeg) hx hb hE hok hF hS (e1 μ) (mm1 μ _) 0 rfl k10 rfl dX6_takes_61 (fun H locs hF hS => ?_)
    obtain ⟨g11, e12, h⟩ := ltm_e h
    rw [e12] at hF
    refine lv_aload_n hx hb dX6_takes_62 rfl (lv_at hl 1 rfl) ?_
    refine fw_get (C := RX6) (T := TX6) (N := 3) (ci := 6) (v := .ref (fa (mφ μ) 1 0)) hx hb hL6 hown hE hF (e0 μ) (mm0 μ _ _) rfl 0 (by decide) kw1 rfl dX6_takes_63 ?_
    refine lv_bipush (v := (90 : Int32)) hx hb dX6_takes_66 (by decide) ?_
    refine lv_iload_n hx hb dX6_takes_68 rfl (lv_at hl 2 rfl) ?_
    refine lv_iadd hx hb dX6_takes_69 ?_
    refine lv_dup2_11 hx hb dX6_takes_70 rfl rfl ?_
    obtain ⟨k13, h⟩ := ck h
    refine fw_iald (q := (((90 : Int32)) + a0).toNatClampNeg) hx hb hE hF (e1 μ) (mm1 μ _) 0 rfl k13 rfl dX6_takes_71 ?_
    refine lv_iconst (v := (1 : Int32)) hx hb dX6_takes_72 (by decide) ?_
    refine lv_iadd hx hb dX6_takes_73 ?_
    obtain ⟨k14, h⟩ := ck h
    refine fw_iast (q := (((90 : Int32)) + a0).toNatClampNeg) hx hb hE hok hF hS (e1 μ) (mm1 μ _) 0 rfl k14 rfl dX6_takes_74 (fun H locs hF hS => ?_)
    obtain ⟨g15, e16, h⟩ := ltm_e h
    rw [e16] at hF
    refine lv_iconst (v := (1 : Int32)) hx hb dX6_takes_75 (by decide) ?_
    exact fw_zret hx hb hr hlk rfl h hF hS dX6_takes_76
  · have h := iff0 h c2
    refine lv_aload_n hx hb dX6_takes_23 rfl (lv_at hl 1 rfl) ?_
    refine fw_get (C := RX6) (T := TX6) (N := 3) (ci := 6) (v := .ref (fa (mφ μ) 1 0)) hx hb hL6 hown hE hF (e0 μ) (mm0 μ _ _) rfl 0 (by decide) kw1 rfl dX6_takes_24 ?_
    refine lv_bipush (v := (100 : Int32)) hx hb dX6_takes_27 (by decide) ?_
    refine lv_iload_n hx hb dX6_takes_29 rfl (lv_at hl 2 rfl) ?_
    refine lv_iadd hx hb dX6_takes_30 ?_
    refine lv_dup2_11 hx hb dX6_takes_31 rfl rfl ?_
    obtain ⟨k17, h⟩ := ck h
    refine fw_iald (q := (((100 : Int32)) + a0).toNatClampNeg) hx hb hE hF (e1 μ) (mm1 μ _) 0 rfl k17 rfl dX6_takes_32 ?_
    refine lv_iconst (v := (1 : Int32)) hx hb dX6_takes_33 (by decide) ?_
    refine lv_iadd hx hb dX6_takes_34 ?_
    obtain ⟨k18, h⟩ := ck h
    refine fw_iast (q := (((100 : Int32)) + a0).toNatClampNeg) hx hb hE hok hF hS (e1 μ) (mm1 μ _) 0 rfl k18 rfl dX6_takes_35 (fun H locs hF hS => ?_)
    obtain ⟨g19, e20, h⟩ := ltm_e h
    rw [e20] at hF
    refine lv_iconst (v := (0 : Int32)) hx hb dX6_takes_36 (by decide) ?_
    exact fw_zret hx hb hr hlk rfl h hF hS dX6_takes_37
def st_X6_keepFor_27 (F : Nat) (K : Mem → Int32 → Int32 → Int32 → Int32 → Int32 → Option (Int32 × Mem)) (g : Mem) (x1 x2 x3 x4 x5 : Int32) : Option (Int32 × Mem) := (if ((4 : Int32)) ≤ x5 then if (((150 : Int32)) + x1 < 0 ∨ 6819 ≤ (((150 : Int32)) + x1).toNatClampNeg) then none else ltm (upr g 1 0 (upd (g 1 0) (((150 : Int32)) + x1).toNatClampNeg ((2 : Int32)))) (fun g17 => if (((150 : Int32)) + x1 < 0 ∨ 6819 ≤ (((150 : Int32)) + x1).toNatClampNeg) then none else if (x4 + (((2 : Int32)) * (g17 1 0 ((((150 : Int32)) + x1).toNatClampNeg))) < 0 ∨ 6819 ≤ (x4 + (((2 : Int32)) * (g17 1 0 ((((150 : Int32)) + x1).toNatClampNeg)))).toNatClampNeg) then none else ltm (upr g17 1 0 (upd (g17 1 0) (x4 + (((2 : Int32)) * (g17 1 0 ((((150 : Int32)) + x1).toNatClampNeg)))).toNatClampNeg x2)) (fun g21 => if (((150 : Int32)) + x1 < 0 ∨ 6819 ≤ (((150 : Int32)) + x1).toNatClampNeg) then none else if ((x4 + (((2 : Int32)) * (g21 1 0 ((((150 : Int32)) + x1).toNatClampNeg)))) + ((1 : Int32)) < 0 ∨ 6819 ≤ ((x4 + (((2 : Int32)) * (g21 1 0 ((((150 : Int32)) + x1).toNatClampNeg)))) + ((1 : Int32))).toNatClampNeg) then none else ltm (upr g21 1 0 (upd (g21 1 0) ((x4 + (((2 : Int32)) * (g21 1 0 ((((150 : Int32)) + x1).toNatClampNeg)))) + ((1 : Int32))).toNatClampNeg x3)) (fun g25 => if (((150 : Int32)) + x1 < 0 ∨ 6819 ≤ (((150 : Int32)) + x1).toNatClampNeg) then none else if (((150 : Int32)) + x1 < 0 ∨ 6819 ≤ (((150 : Int32)) + x1).toNatClampNeg) then none else ltm (upr g25 1 0 (upd (g25 1 0) (((150 : Int32)) + x1).toNatClampNeg ((g25 1 0 ((((150 : Int32)) + x1).toNatClampNeg)) + ((1 : Int32))))) (fun g29 => some (0, g29))))) else if ((x4 + x5) + ((2 : Int32)) < 0 ∨ 6819 ≤ ((x4 + x5) + ((2 : Int32))).toNatClampNeg) then none else if (x4 + x5 < 0 ∨ 6819 ≤ (x4 + x5).toNatClampNeg) then none else ltm (upr g 1 0 (upd (g 1 0) (x4 + x5).toNatClampNeg (g 1 0 (((x4 + x5) + ((2 : Int32))).toNatClampNeg)))) (fun g33 => K g33 x1 x2 x3 x4 (x5 + (1 : Int32))))
def lp_X6_keepFor_27 (F : Nat) : Nat → Mem → Int32 → Int32 → Int32 → Int32 → Int32 → Option (Int32 × Mem)
  | 0, _, _, _, _, _, _ => none
  | f + 1, g, x1, x2, x3, x4, x5 => st_X6_keepFor_27 F (lp_X6_keepFor_27 F f ) g x1 x2 x3 x4 x5
def m_X6_keepFor (F : Nat) (g : Mem) (a0 a1 a2 : Int32) : Option (Int32 × Mem) := if (((150 : Int32)) + a0 < 0 ∨ 6819 ≤ (((150 : Int32)) + a0).toNatClampNeg) then none else (if (g 1 0 ((((150 : Int32)) + a0).toNatClampNeg)) = ((3 : Int32)) then lp_X6_keepFor_27 F F g a0 a1 a2 (((430 : Int32)) + (((6 : Int32)) * a0)) ((0 : Int32)) else if (((150 : Int32)) + a0 < 0 ∨ 6819 ≤ (((150 : Int32)) + a0).toNatClampNeg) then none else if ((((430 : Int32)) + (((6 : Int32)) * a0)) + (((2 : Int32)) * (g 1 0 ((((150 : Int32)) + a0).toNatClampNeg))) < 0 ∨ 6819 ≤ ((((430 : Int32)) + (((6 : Int32)) * a0)) + (((2 : Int32)) * (g 1 0 ((((150 : Int32)) + a0).toNatClampNeg)))).toNatClampNeg) then none else ltm (upr g 1 0 (upd (g 1 0) ((((430 : Int32)) + (((6 : Int32)) * a0)) + (((2 : Int32)) * (g 1 0 ((((150 : Int32)) + a0).toNatClampNeg)))).toNatClampNeg a1)) (fun g5 => if (((150 : Int32)) + a0 < 0 ∨ 6819 ≤ (((150 : Int32)) + a0).toNatClampNeg) then none else if (((((430 : Int32)) + (((6 : Int32)) * a0)) + (((2 : Int32)) * (g5 1 0 ((((150 : Int32)) + a0).toNatClampNeg)))) + ((1 : Int32)) < 0 ∨ 6819 ≤ (((((430 : Int32)) + (((6 : Int32)) * a0)) + (((2 : Int32)) * (g5 1 0 ((((150 : Int32)) + a0).toNatClampNeg)))) + ((1 : Int32))).toNatClampNeg) then none else ltm (upr g5 1 0 (upd (g5 1 0) (((((430 : Int32)) + (((6 : Int32)) * a0)) + (((2 : Int32)) * (g5 1 0 ((((150 : Int32)) + a0).toNatClampNeg)))) + ((1 : Int32))).toNatClampNeg a2)) (fun g9 => if (((150 : Int32)) + a0 < 0 ∨ 6819 ≤ (((150 : Int32)) + a0).toNatClampNeg) then none else if (((150 : Int32)) + a0 < 0 ∨ 6819 ≤ (((150 : Int32)) + a0).toNatClampNeg) then none else ltm (upr g9 1 0 (upd (g9 1 0) (((150 : Int32)) + a0).toNatClampNeg ((g9 1 0 ((((150 : Int32)) + a0).toNatClampNeg)) + ((1 : Int32))))) (fun g13 => some (0, g13)))))
set_option maxHeartbeats 4000000 in
set_option maxRecDepth 100000 in
theorem c_X6_keepFor (l : Launch) {μ : Mx} (hok : fok (mφ μ))  {F : Nat} {g : Mem} {a0 a1 a2 : Int32} {u : Int32 × Mem} (h : m_X6_keepFor F g a0 a1 a2 = some u) : fM l (mφ μ) yX6_keepFor wsX6_keepFor 0 0 [.ref (fa (mφ μ) 0 0), .int a0, .int a1, .int a2] g none u.2 := by
  refine fM.of (cc := cX6_keepFor) (maxL := 6) (ret := none) [(0, .ref (fa (mφ μ) 0 0)), (1, .int a0), (2, .int a1), (3, .int a2)] (by decide) rfl (Nat.le_of_ble_eq_true rfl) rfl (fun p e s m below meth c ls hx hb hr hml hown hts hlk hE hF hS hl => ?_)
  replace hown : s.vm.findClass RX6 = some m.cls := hown
  have hL6 : ∀ w ∈ u_ws RX6 TX6 3, w.before ([.ref (fa (mφ μ) 0 0), .int a0, .int a1, .int a2] : List Value).toArray s = true := fun w hw => hts w (by
    unfold wsX6_keepFor
    simp only [List.mem_cons, List.mem_append]
    exact Or.inr (Or.inr hw))
  have kw1 := hts (.fieldLink RX6 7 "MeshLampsModel" "state" "[I") (List.mem_of_getElem? (i := 1) rfl)
  unfold m_X6_keepFor at h
  refine lv_sipush (v := (430 : Int32)) hx hb dX6_keepFor_0 (by decide) ?_
  refine lv_bipush (v := (6 : Int32)) hx hb dX6_keepFor_3 (by decide) ?_
  refine lv_iload_n hx hb dX6_keepFor_5 rfl (lv_at hl 1 rfl) ?_
  refine lv_imul hx hb dX6_keepFor_6 ?_
  refine lv_iadd hx hb dX6_keepFor_7 ?_
  refine lv_istore (lv' := [(4, .int (((430 : Int32)) + (((6 : Int32)) * a0))), (0, .ref (fa (mφ μ) 0 0)), (1, .int a0), (2, .int a1), (3, .int a2)]) hx hb dX6_keepFor_8 hl (by decide) rfl (fun ls hl => ?_)
  refine lv_aload_n hx hb dX6_keepFor_10 rfl (lv_at hl 1 rfl) ?_
  refine fw_get (C := RX6) (T := TX6) (N := 3) (ci := 6) (v := .ref (fa (mφ μ) 1 0)) hx hb hL6 hown hE hF (e0 μ) (mm0 μ _ _) rfl 0 (by decide) kw1 rfl dX6_keepFor_11 ?_
  refine lv_sipush (v := (150 : Int32)) hx hb dX6_keepFor_14 (by decide) ?_
  refine lv_iload_n hx hb dX6_keepFor_17 rfl (lv_at hl 2 rfl) ?_
  refine lv_iadd hx hb dX6_keepFor_18 ?_
  obtain ⟨k1, h⟩ := ck h
  refine fw_iald (q := (((150 : Int32)) + a0).toNatClampNeg) hx hb hE hF (e1 μ) (mm1 μ _) 0 rfl k1 rfl dX6_keepFor_19 ?_
  refine lv_iconst (v := (3 : Int32)) hx hb dX6_keepFor_20 (by decide) ?_
  refine lv_icmp_ne (tgt := 72) hx hb dX6_keepFor_21 (by decide) (fun c2 => ?_) (fun c2 => ?_)
  · have h := iff0 h c2
    refine lv_aload_n hx hb dX6_keepFor_72 rfl (lv_at hl 1 rfl) ?_
    refine fw_get (C := RX6) (T := TX6) (N := 3) (ci := 6) (v := .ref (fa (mφ μ) 1 0)) hx hb hL6 hown hE hF (e0 μ) (mm0 μ _ _) rfl 0 (by decide) kw1 rfl dX6_keepFor_73 ?_
    refine lv_iload hx hb dX6_keepFor_76 (lv_at hl 0 rfl) ?_
    refine lv_iconst (v := (2 : Int32)) hx hb dX6_keepFor_78 (by decide) ?_
    refine lv_aload_n hx hb dX6_keepFor_79 rfl (lv_at hl 1 rfl) ?_
    refine fw_get (C := RX6) (T := TX6) (N := 3) (ci := 6) (v := .ref (fa (mφ μ) 1 0)) hx hb hL6 hown hE hF (e0 μ) (mm0 μ _ _) rfl 0 (by decide) kw1 rfl dX6_keepFor_80 ?_
    refine lv_sipush (v := (150 : Int32)) hx hb dX6_keepFor_83 (by decide) ?_
    refine lv_iload_n hx hb dX6_keepFor_86 rfl (lv_at hl 2 rfl) ?_
    refine lv_iadd hx hb dX6_keepFor_87 ?_
    obtain ⟨k3, h⟩ := ck h
    refine fw_iald (q := (((150 : Int32)) + a0).toNatClampNeg) hx hb hE hF (e1 μ) (mm1 μ _) 0 rfl k3 rfl dX6_keepFor_88 ?_
    refine lv_imul hx hb dX6_keepFor_89 ?_
    refine lv_iadd hx hb dX6_keepFor_90 ?_
    refine lv_iload_n hx hb dX6_keepFor_91 rfl (lv_at hl 3 rfl) ?_
    obtain ⟨k4, h⟩ := ck h
    refine fw_iast (q := ((((430 : Int32)) + (((6 : Int32)) * a0)) + (((2 : Int32)) * (g 1 0 ((((150 : Int32)) + a0).toNatClampNeg)))).toNatClampNeg) hx hb hE hok hF hS (e1 μ) (mm1 μ _) 0 rfl k4 rfl dX6_keepFor_92 (fun H locs hF hS => ?_)
    obtain ⟨g5, e6, h⟩ := ltm_e h
    rw [e6] at hF
    refine lv_aload_n hx hb dX6_keepFor_93 rfl (lv_at hl 1 rfl) ?_
    refine fw_get (C := RX6) (T := TX6) (N := 3) (ci := 6) (v := .ref (fa (mφ μ) 1 0)) hx hb hL6 hown hE hF (e0 μ) (mm0 μ _ _) rfl 0 (by decide) kw1 rfl dX6_keepFor_94 ?_
    refine lv_iload hx hb dX6_keepFor_97 (lv_at hl 0 rfl) ?_
    refine lv_iconst (v := (2 : Int32)) hx hb dX6_keepFor_99 (by decide) ?_
    refine lv_aload_n hx hb dX6_keepFor_100 rfl (lv_at hl 1 rfl) ?_
    refine fw_get (C := RX6) (T := TX6) (N := 3) (ci := 6) (v := .ref (fa (mφ μ) 1 0)) hx hb hL6 hown hE hF (e0 μ) (mm0 μ _ _) rfl 0 (by decide) kw1 rfl dX6_keepFor_101 ?_
    refine lv_sipush (v := (150 : Int32)) hx hb dX6_keepFor_104 (by decide) ?_
    refine lv_iload_n hx hb dX6_keepFor_107 rfl (lv_at hl 2 rfl) ?_
    refine lv_iadd hx hb dX6_keepFor_108 ?_
    obtain ⟨k7, h⟩ := ck h
    refine fw_iald (q := (((150 : Int32)) + a0).toNatClampNeg) hx hb hE hF (e1 μ) (mm1 μ _) 0 rfl k7 rfl dX6_keepFor_109 ?_
    refine lv_imul hx hb dX6_keepFor_110 ?_
    refine lv_iadd hx hb dX6_keepFor_111 ?_
    refine lv_iconst (v := (1 : Int32)) hx hb dX6_keepFor_112 (by decide) ?_
    refine lv_iadd hx hb dX6_keepFor_113 ?_
    refine lv_iload_n hx hb dX6_keepFor_114 rfl (lv_at hl 4 rfl) ?_
    obtain ⟨k8, h⟩ := ck h
    refine fw_iast (q := (((((430 : Int32)) + (((6 : Int32)) * a0)) + (((2 : Int32)) * (g5 1 0 ((((150 : Int32)) + a0).toNatClampNeg)))) + ((1 : Int32))).toNatClampNeg) hx hb hE hok hF hS (e1 μ) (mm1 μ _) 0 rfl k8 rfl dX6_keepFor_115 (fun H locs hF hS => ?_)
    obtain ⟨g9, e10, h⟩ := ltm_e h
    rw [e10] at hF
    refine lv_aload_n hx hb dX6_keepFor_116 rfl (lv_at hl 1 rfl) ?_
    refine fw_get (C := RX6) (T := TX6) (N := 3) (ci := 6) (v := .ref (fa (mφ μ) 1 0)) hx hb hL6 hown hE hF (e0 μ) (mm0 μ _ _) rfl 0 (by decide) kw1 rfl dX6_keepFor_117 ?_
    refine lv_sipush (v := (150 : Int32)) hx hb dX6_keepFor_120 (by decide) ?_
    refine lv_iload_n hx hb dX6_keepFor_123 rfl (lv_at hl 2 rfl) ?_
    refine lv_iadd hx hb dX6_keepFor_124 ?_
    refine lv_dup2_11 hx hb dX6_keepFor_125 rfl rfl ?_
    obtain ⟨k11, h⟩ := ck h
    refine fw_iald (q := (((150 : Int32)) + a0).toNatClampNeg) hx hb hE hF (e1 μ) (mm1 μ _) 0 rfl k11 rfl dX6_keepFor_126 ?_
    refine lv_iconst (v := (1 : Int32)) hx hb dX6_keepFor_127 (by decide) ?_
    refine lv_iadd hx hb dX6_keepFor_128 ?_
    obtain ⟨k12, h⟩ := ck h
    refine fw_iast (q := (((150 : Int32)) + a0).toNatClampNeg) hx hb hE hok hF hS (e1 μ) (mm1 μ _) 0 rfl k12 rfl dX6_keepFor_129 (fun H locs hF hS => ?_)
    obtain ⟨g13, e14, h⟩ := ltm_e h
    rw [e14] at hF
    exact fw_vret hx hb hr hlk h hF hS dX6_keepFor_130
  · have h := ift h c2
    refine lv_iconst (v := (0 : Int32)) hx hb dX6_keepFor_24 (by decide) ?_
    refine lv_istore (lv' := [(5, .int ((0 : Int32))), (4, .int (((430 : Int32)) + (((6 : Int32)) * a0))), (0, .ref (fa (mφ μ) 0 0)), (1, .int a0), (2, .int a1), (3, .int a2)]) hx hb dX6_keepFor_25 hl (by decide) rfl (fun ls hl => ?_)
    have LOOP27 : ∀ (f : Nat) (g : Mem) (x1 x2 x3 x4 x5 : Int32) (H : Heap) (locs : List Loc) (ls : Array Slot), lp_X6_keepFor_27 F f g x1 x2 x3 x4 x5 = some u → fw (mφ μ) g H → va_S (fA (mφ μ)) s.heap H locs → lv_has ls 6 [(0, .ref (fa (mφ μ) 0 0)), (1, .int x1), (2, .int x2), (3, .int x3), (4, .int x4), (5, .int x5)] → W p l e ({ frames := 0, cells := 0, slots := 0, locals := 0 }) s m ([.ref (fa (mφ μ) 0 0), .int a0, .int a1, .int a2] : List Value).toArray below meth c H locs 0 0 (MQ below (fQ (mφ μ) none u.2) ([.ref (fa (mφ μ) 0 0), .int a0, .int a1, .int a2] : List Value).toArray s 0 0 (fA (mφ μ))) (F0 m 27 ls []) := by
      intro f
      induction f with
      | zero => intro g x1 x2 x3 x4 x5 H locs ls h hF hS hl; cases h
      | succ f ih =>
        intro g x1 x2 x3 x4 x5 H locs ls h hF hS hl
        replace h : st_X6_keepFor_27 F (lp_X6_keepFor_27 F f ) g x1 x2 x3 x4 x5 = some u := h
        unfold st_X6_keepFor_27 at h
        refine lv_iload hx hb dX6_keepFor_27 (lv_at hl 5 rfl) ?_
        refine lv_iconst (v := (4 : Int32)) hx hb dX6_keepFor_29 (by decide) ?_
        refine lv_icmp_ge (tgt := 61) hx hb dX6_keepFor_30 (by decide) (fun c15 => ?_) (fun c15 => ?_)
        · have h := ift h c15
          refine lv_aload_n hx hb dX6_keepFor_61 rfl (lv_at hl 0 rfl) ?_
          refine fw_get (C := RX6) (T := TX6) (N := 3) (ci := 6) (v := .ref (fa (mφ μ) 1 0)) hx hb hL6 hown hE hF (e0 μ) (mm0 μ _ _) rfl 0 (by decide) kw1 rfl dX6_keepFor_62 ?_
          refine lv_sipush (v := (150 : Int32)) hx hb dX6_keepFor_65 (by decide) ?_
          refine lv_iload_n hx hb dX6_keepFor_68 rfl (lv_at hl 1 rfl) ?_
          refine lv_iadd hx hb dX6_keepFor_69 ?_
          refine lv_iconst (v := (2 : Int32)) hx hb dX6_keepFor_70 (by decide) ?_
          obtain ⟨k16, h⟩ := ck h
          refine fw_iast (q := (((150 : Int32)) + x1).toNatClampNeg) hx hb hE hok hF hS (e1 μ) (mm1 μ _) 0 rfl k16 rfl dX6_keepFor_71 (fun H locs hF hS => ?_)
          obtain ⟨g17, e18, h⟩ := ltm_e h
          rw [e18] at hF
          refine lv_aload_n hx hb dX6_keepFor_72 rfl (lv_at hl 0 rfl) ?_
          refine fw_get (C := RX6) (T := TX6) (N := 3) (ci := 6) (v := .ref (fa (mφ μ) 1 0)) hx hb hL6 hown hE hF (e0 μ) (mm0 μ _ _) rfl 0 (by decide) kw1 rfl dX6_keepFor_73 ?_
          refine lv_iload hx hb dX6_keepFor_76 (lv_at hl 4 rfl) ?_
          refine lv_iconst (v := (2 : Int32)) hx hb dX6_keepFor_78 (by decide) ?_
          refine lv_aload_n hx hb dX6_keepFor_79 rfl (lv_at hl 0 rfl) ?_
          refine fw_get (C := RX6) (T := TX6) (N := 3) (ci := 6) (v := .ref (fa (mφ μ) 1 0)) hx hb hL6 hown hE hF (e0 μ) (mm0 μ _ _) rfl 0 (by decide) kw1 rfl dX6_keepFor_80 ?_
          refine lv_sipush (v := (150 : Int32)) hx hb dX6_keepFor_83 (by decide) ?_
          refine lv_iload_n hx hb dX6_keepFor_86 rfl (lv_at hl 1 rfl) ?_
          refine lv_iadd hx hb dX6_keepFor_87 ?_
          obtain ⟨k19, h⟩ := ck h
          refine fw_iald (q := (((150 : Int32)) + x1).toNatClampNeg) hx hb hE hF (e1 μ) (mm1 μ _) 0 rfl k19 rfl dX6_keepFor_88 ?_
          refine lv_imul hx hb dX6_keepFor_89 ?_
          refine lv_iadd hx hb dX6_keepFor_90 ?_
          refine lv_iload_n hx hb dX6_keepFor_91 rfl (lv_at hl 2 rfl) ?_
          obtain ⟨k20, h⟩ := ck h
          refine fw_iast (q := (x4 + (((2 : Int32)) * (g17 1 0 ((((150 : Int32)) + x1).toNatClampNeg)))).toNatClampNeg) hx hb hE hok hF hS (e1 μ) (mm1 μ _) 0 rfl k20 rfl dX6_keepFor_92 (fun H locs hF hS => ?_)
          obtain ⟨g21, e22, h⟩ := ltm_e h
          rw [e22] at hF
          refine lv_aload_n hx hb dX6_keepFor_93 rfl (lv_at hl 0 rfl) ?_
          refine fw_get (C := RX6) (T := TX6) (N := 3) (ci := 6) (v := .ref (fa (mφ μ) 1 0)) hx hb hL6 hown hE hF (e0 μ) (mm0 μ _ _) rfl 0 (by decide) kw1 rfl dX6_keepFor_94 ?_
          refine lv_iload hx hb dX6_keepFor_97 (lv_at hl 4 rfl) ?_
          refine lv_iconst (v := (2 : Int32)) hx hb dX6_keepFor_99 (by decide) ?_
          refine lv_aload_n hx hb dX6_keepFor_100 rfl (lv_at hl 0 rfl) ?_
          refine fw_get (C := RX6) (T := TX6) (N := 3) (ci := 6) (v := .ref (fa (mφ μ) 1 0)) hx hb hL6 hown hE hF (e0 μ) (mm0 μ _ _) rfl 0 (by decide) kw1 rfl dX6_keepFor_101 ?_
          refine lv_sipush (v := (150 : Int32)) hx hb dX6_keepFor_104 (by decide) ?_
          refine lv_iload_n hx hb dX6_keepFor_107 rfl (lv_at hl 1 rfl) ?_
          refine lv_iadd hx hb dX6_keepFor_108 ?_
          obtain ⟨k23, h⟩ := ck h
          refine fw_iald (q := (((150 : Int32)) + x1).toNatClampNeg) hx hb hE hF (e1 μ) (mm1 μ _) 0 rfl k23 rfl dX6_keepFor_109 ?_
          refine lv_imul hx hb dX6_keepFor_110 ?_
          refine lv_iadd hx hb dX6_keepFor_111 ?_
          refine lv_iconst (v := (1 : Int32)) hx hb dX6_keepFor_112 (by decide) ?_
          refine lv_iadd hx hb dX6_keepFor_113 ?_
          refine lv_iload_n hx hb dX6_keepFor_114 rfl (lv_at hl 3 rfl) ?_
          obtain ⟨k24, h⟩ := ck h
          refine fw_iast (q := ((x4 + (((2 : Int32)) * (g21 1 0 ((((150 : Int32)) + x1).toNatClampNeg)))) + ((1 : Int32))).toNatClampNeg) hx hb hE hok hF hS (e1 μ) (mm1 μ _) 0 rfl k24 rfl dX6_keepFor_115 (fun H locs hF hS => ?_)
          obtain ⟨g25, e26, h⟩ := ltm_e h
          rw [e26] at hF
          refine lv_aload_n hx hb dX6_keepFor_116 rfl (lv_at hl 0 rfl) ?_
          refine fw_get (C := RX6) (T := TX6) (N := 3) (ci := 6) (v := .ref (fa (mφ μ) 1 0)) hx hb hL6 hown hE hF (e0 μ) (mm0 μ _ _) rfl 0 (by decide) kw1 rfl dX6_keepFor_117 ?_
          refine lv_sipush (v := (150 : Int32)) hx hb dX6_keepFor_120 (by decide) ?_
          refine lv_iload_n hx hb dX6_keepFor_123 rfl (lv_at hl 1 rfl) ?_
          refine lv_iadd hx hb dX6_keepFor_124 ?_
          refine lv_dup2_11 hx hb dX6_keepFor_125 rfl rfl ?_
          obtain ⟨k27, h⟩ := ck h
          refine fw_iald (q := (((150 : Int32)) + x1).toNatClampNeg) hx hb hE hF (e1 μ) (mm1 μ _) 0 rfl k27 rfl dX6_keepFor_126 ?_
          refine lv_iconst (v := (1 : Int32)) hx hb dX6_keepFor_127 (by decide) ?_
          refine lv_iadd hx hb dX6_keepFor_128 ?_
          obtain ⟨k28, h⟩ := ck h
          refine fw_iast (q := (((150 : Int32)) + x1).toNatClampNeg) hx hb hE hok hF hS (e1 μ) (mm1 μ _) 0 rfl k28 rfl dX6_keepFor_129 (fun H locs hF hS => ?_)
          obtain ⟨g29, e30, h⟩ := ltm_e h
          rw [e30] at hF
          exact fw_vret hx hb hr hlk h hF hS dX6_keepFor_130
        · have h := iff0 h c15
          refine lv_aload_n hx hb dX6_keepFor_33 rfl (lv_at hl 0 rfl) ?_
          refine fw_get (C := RX6) (T := TX6) (N := 3) (ci := 6) (v := .ref (fa (mφ μ) 1 0)) hx hb hL6 hown hE hF (e0 μ) (mm0 μ _ _) rfl 0 (by decide) kw1 rfl dX6_keepFor_34 ?_
          refine lv_iload hx hb dX6_keepFor_37 (lv_at hl 4 rfl) ?_
          refine lv_iload hx hb dX6_keepFor_39 (lv_at hl 5 rfl) ?_
          refine lv_iadd hx hb dX6_keepFor_41 ?_
          refine lv_aload_n hx hb dX6_keepFor_42 rfl (lv_at hl 0 rfl) ?_
          refine fw_get (C := RX6) (T := TX6) (N := 3) (ci := 6) (v := .ref (fa (mφ μ) 1 0)) hx hb hL6 hown hE hF (e0 μ) (mm0 μ _ _) rfl 0 (by decide) kw1 rfl dX6_keepFor_43 ?_
          refine lv_iload hx hb dX6_keepFor_46 (lv_at hl 4 rfl) ?_
          refine lv_iload hx hb dX6_keepFor_48 (lv_at hl 5 rfl) ?_
          refine lv_iadd hx hb dX6_keepFor_50 ?_
          refine lv_iconst (v := (2 : Int32)) hx hb dX6_keepFor_51 (by decide) ?_
          refine lv_iadd hx hb dX6_keepFor_52 ?_
          obtain ⟨k31, h⟩ := ck h
          refine fw_iald (q := ((x4 + x5) + ((2 : Int32))).toNatClampNeg) hx hb hE hF (e1 μ) (mm1 μ _) 0 rfl k31 rfl dX6_keepFor_53 ?_
          obtain ⟨k32, h⟩ := ck h
          refine fw_iast (q := (x4 + x5).toNatClampNeg) hx hb hE hok hF hS (e1 μ) (mm1 μ _) 0 rfl k32 rfl dX6_keepFor_54 (fun H locs hF hS => ?_)
          obtain ⟨g33, e34, h⟩ := ltm_e h
          rw [e34] at hF
          refine lv_iinc (v := x5 + (1 : Int32)) (lv' := [(5, .int (x5 + (1 : Int32))), (0, .ref (fa (mφ μ) 0 0)), (1, .int x1), (2, .int x2), (3, .int x3), (4, .int x4)]) hx hb dX6_keepFor_55 hl (k := 5) rfl rfl (by decide) rfl (fun ls hl => ?_)
          refine lv_goto (tgt := 27) hx hb dX6_keepFor_58 (by decide) ?_
          exact ih g33 x1 x2 x3 x4 (x5 + (1 : Int32)) H locs ls h hF hS (lv_sub hl [1, 2, 3, 4, 5, 0] rfl)
    exact LOOP27 F g a0 a1 a2 (((430 : Int32)) + (((6 : Int32)) * a0)) ((0 : Int32)) _ _ ls h hF hS (lv_sub hl [2, 3, 4, 5, 1, 0] rfl)
def st_X6_hear_96 (F : Nat) (K : Mem → Int32 → Int32 → Int32 → Int32 → Int32 → Option (Int32 × Mem)) (g : Mem) (x1 x2 x3 x4 x5 : Int32) : Option (Int32 × Mem) := (if ((10 : Int32)) ≤ x5 then (if x4 ≤ ((1 : Int32)) then some (0, g) else if (((20 : Int32)) + x1 < 0 ∨ 6819 ≤ (((20 : Int32)) + x1).toNatClampNeg) then none else (if (g 1 0 ((((20 : Int32)) + x1).toNatClampNeg)) = ((1 : Int32)) then (if (g 1 0 6815) = ((64 : Int32)) then ltm (upr g 1 0 (upd (g 1 0) 6817 ((g 1 0 6817) + ((1 : Int32))))) (fun g39 => some (0, g39)) else if (((10 : Int32)) + x1 < 0 ∨ 6819 ≤ (((10 : Int32)) + x1).toNatClampNeg) then none else (m_X6_addToAir g x1 ((g 1 0 6810) + (g 1 0 ((((10 : Int32)) + x1).toNatClampNeg))) x2 x3 (x4 - ((1 : Int32)))).bind (fun (r34, g35) => some (0, g35))) else some (0, g))) else (m_X6_sleeps g x5).bind (fun (r42, g43) => (if r42 = 0 then K g43 x1 x2 x3 x4 (x5 + (1 : Int32)) else if (((70 : Int32)) + x5 < 0 ∨ 6819 ≤ (((70 : Int32)) + x5).toNatClampNeg) then none else (if (g43 1 0 ((((70 : Int32)) + x5).toNatClampNeg)) = x1 then (m_X6_isMeant g43 x5 x2 x3).bind (fun (r49, g50) => (if r49 = 0 then K g50 x1 x2 x3 x4 (x5 + (1 : Int32)) else (if x5 = x2 then K g50 x1 x2 x3 x4 (x5 + (1 : Int32)) else (m_X6_keepFor F g50 x5 x2 x3).bind (fun (r55, g56) => K g56 x1 x2 x3 x4 (x5 + (1 : Int32)))))) else K g43 x1 x2 x3 x4 (x5 + (1 : Int32))))))
def lp_X6_hear_96 (F : Nat) : Nat → Mem → Int32 → Int32 → Int32 → Int32 → Int32 → Option (Int32 × Mem)
  | 0, _, _, _, _, _, _ => none
  | f + 1, g, x1, x2, x3, x4, x5 => st_X6_hear_96 F (lp_X6_hear_96 F f ) g x1 x2 x3 x4 x5
def m_X6_hear (F : Nat) (g : Mem) (a0 a1 a2 a3 : Int32) : Option (Int32 × Mem) := (m_X6_knows g a0 a1 a2).bind (fun (r2, g3) => (if r2 = 0 then if (((110 : Int32)) + a0 < 0 ∨ 6819 ≤ (((110 : Int32)) + a0).toNatClampNeg) then none else if (((110 : Int32)) + a0 < 0 ∨ 6819 ≤ (((110 : Int32)) + a0).toNatClampNeg) then none else ltm (upr g3 1 0 (upd (g3 1 0) (((110 : Int32)) + a0).toNatClampNeg ((g3 1 0 ((((110 : Int32)) + a0).toNatClampNeg)) + ((1 : Int32))))) (fun g68 => some (0, g68)) else (m_X6_hasInMind F g3 a0 a1 a2).bind (fun (r7, g8) => (if r7 = 0 then if (((130 : Int32)) + a0 < 0 ∨ 6819 ≤ (((130 : Int32)) + a0).toNatClampNeg) then none else if (((130 : Int32)) + a0 < 0 ∨ 6819 ≤ (((130 : Int32)) + a0).toNatClampNeg) then none else ltm (upr g8 1 0 (upd (g8 1 0) (((130 : Int32)) + a0).toNatClampNeg ((g8 1 0 ((((130 : Int32)) + a0).toNatClampNeg)) + ((1 : Int32))))) (fun g13 => (m_X6_remember F g13 a0 a1 a2).bind (fun (r16, g17) => (if a0 = a1 then some (0, g17) else (m_X6_isMeant g17 a0 a1 a2).bind (fun (r21, g22) => (if r21 = 0 then lp_X6_hear_96 F F g22 a0 a1 a2 a3 ((0 : Int32)) else (m_X6_takes g22 a0 a1 a2).bind (fun (r59, g60) => lp_X6_hear_96 F F g60 a0 a1 a2 a3 ((0 : Int32)))))))) else if (((120 : Int32)) + a0 < 0 ∨ 6819 ≤ (((120 : Int32)) + a0).toNatClampNeg) then none else if (((120 : Int32)) + a0 < 0 ∨ 6819 ≤ (((120 : Int32)) + a0).toNatClampNeg) then none else ltm (upr g8 1 0 (upd (g8 1 0) (((120 : Int32)) + a0).toNatClampNeg ((g8 1 0 ((((120 : Int32)) + a0).toNatClampNeg)) + ((1 : Int32))))) (fun g64 => some (0, g64))))))
set_option maxHeartbeats 4000000 in
set_option maxRecDepth 100000 in
theorem c_X6_hear (l : Launch) {μ : Mx} (hok : fok (mφ μ))  {F : Nat} {g : Mem} {a0 a1 a2 a3 : Int32} {u : Int32 × Mem} (h : m_X6_hear F g a0 a1 a2 a3 = some u) : fM l (mφ μ) yX6_hear wsX6_hear 2 47 [.ref (fa (mφ μ) 0 0), .int a0, .int a1, .int a2, .int a3] g none u.2 := by
  refine fM.of (cc := cX6_hear) (maxL := 6) (ret := none) [(0, .ref (fa (mφ μ) 0 0)), (1, .int a0), (2, .int a1), (3, .int a2), (4, .int a3)] (by decide) rfl (Nat.le_of_ble_eq_true rfl) rfl (fun p e s m below meth c ls hx hb hr hml hown hts hlk hE hF hS hl => ?_)
  replace hown : s.vm.findClass RX6 = some m.cls := hown
  have hL6 : ∀ w ∈ u_ws RX6 TX6 3, w.before ([.ref (fa (mφ μ) 0 0), .int a0, .int a1, .int a2, .int a3] : List Value).toArray s = true := fun w hw => hts w (by
    unfold wsX6_hear
    simp only [List.mem_cons, List.mem_append]
    exact Or.inr (Or.inr hw))
  have kw1 := hts (.fieldLink RX6 7 "MeshLampsModel" "state" "[I") (List.mem_of_getElem? (i := 1) rfl)
  unfold m_X6_hear at h
  have LOOP96 : ∀ (f : Nat) (g : Mem) (x1 x2 x3 x4 x5 : Int32) (H : Heap) (locs : List Loc) (ls : Array Slot), lp_X6_hear_96 F f g x1 x2 x3 x4 x5 = some u → fw (mφ μ) g H → va_S (fA (mφ μ)) s.heap H locs → lv_has ls 6 [(0, .ref (fa (mφ μ) 0 0)), (1, .int x1), (2, .int x2), (3, .int x3), (4, .int x4), (5, .int x5)] → W p l e ({ frames := 2, cells := 0, slots := 0, locals := 47 }) s m ([.ref (fa (mφ μ) 0 0), .int a0, .int a1, .int a2, .int a3] : List Value).toArray below meth c H locs 0 0 (MQ below (fQ (mφ μ) none u.2) ([.ref (fa (mφ μ) 0 0), .int a0, .int a1, .int a2, .int a3] : List Value).toArray s 0 0 (fA (mφ μ))) (F0 m 96 ls []) := by
    intro f
    induction f with
    | zero => intro g x1 x2 x3 x4 x5 H locs ls h hF hS hl; cases h
    | succ f ih =>
      intro g x1 x2 x3 x4 x5 H locs ls h hF hS hl
      replace h : st_X6_hear_96 F (lp_X6_hear_96 F f ) g x1 x2 x3 x4 x5 = some u := h
      unfold st_X6_hear_96 at h
      refine lv_iload hx hb dX6_hear_96 (lv_at hl 5 rfl) ?_
      refine lv_bipush (v := (10 : Int32)) hx hb dX6_hear_98 (by decide) ?_
      refine lv_icmp_ge (tgt := 157) hx hb dX6_hear_100 (by decide) (fun c25 => ?_) (fun c25 => ?_)
      · have h := ift h c25
        refine lv_iload hx hb dX6_hear_157 (lv_at hl 4 rfl) ?_
        refine lv_iconst (v := (1 : Int32)) hx hb dX6_hear_159 (by decide) ?_
        refine lv_icmp_le (tgt := 233) hx hb dX6_hear_160 (by decide) (fun c26 => ?_) (fun c26 => ?_)
        · have h := ift h c26
          exact fw_vret hx hb hr hlk h hF hS dX6_hear_233
        · have h := iff0 h c26
          refine lv_aload_n hx hb dX6_hear_163 rfl (lv_at hl 0 rfl) ?_
          refine fw_get (C := RX6) (T := TX6) (N := 3) (ci := 6) (v := .ref (fa (mφ μ) 1 0)) hx hb hL6 hown hE hF (e0 μ) (mm0 μ _ _) rfl 0 (by decide) kw1 rfl dX6_hear_164 ?_
          refine lv_bipush (v := (20 : Int32)) hx hb dX6_hear_167 (by decide) ?_
          refine lv_iload_n hx hb dX6_hear_169 rfl (lv_at hl 1 rfl) ?_
          refine lv_iadd hx hb dX6_hear_170 ?_
          obtain ⟨k27, h⟩ := ck h
          refine fw_iald (q := (((20 : Int32)) + x1).toNatClampNeg) hx hb hE hF (e1 μ) (mm1 μ _) 0 rfl k27 rfl dX6_hear_171 ?_
          refine lv_iconst (v := (1 : Int32)) hx hb dX6_hear_172 (by decide) ?_
          refine lv_icmp_ne (tgt := 233) hx hb dX6_hear_173 (by decide) (fun c28 => ?_) (fun c28 => ?_)
          · have h := iff0 h c28
            exact fw_vret hx hb hr hlk h hF hS dX6_hear_233
          · have h := ift h c28
            refine lv_aload_n hx hb dX6_hear_176 rfl (lv_at hl 0 rfl) ?_
            refine fw_get (C := RX6) (T := TX6) (N := 3) (ci := 6) (v := .ref (fa (mφ μ) 1 0)) hx hb hL6 hown hE hF (e0 μ) (mm0 μ _ _) rfl 0 (by decide) kw1 rfl dX6_hear_177 ?_
            refine lv_sipush (v := (6815 : Int32)) hx hb dX6_hear_180 (by decide) ?_
            refine fw_iald (q := 6815) hx hb hE hF (e1 μ) (mm1 μ _) 0 rfl (by decide) (by decide) dX6_hear_183 ?_
            refine lv_bipush (v := (64 : Int32)) hx hb dX6_hear_184 (by decide) ?_
            refine lv_icmp_ne (tgt := 204) hx hb dX6_hear_186 (by decide) (fun c30 => ?_) (fun c30 => ?_)
            · have h := iff0 h c30
              refine lv_aload_n hx hb dX6_hear_204 rfl (lv_at hl 0 rfl) ?_
              refine lv_iload_n hx hb dX6_hear_205 rfl (lv_at hl 1 rfl) ?_
              refine lv_aload_n hx hb dX6_hear_206 rfl (lv_at hl 0 rfl) ?_
              refine fw_get (C := RX6) (T := TX6) (N := 3) (ci := 6) (v := .ref (fa (mφ μ) 1 0)) hx hb hL6 hown hE hF (e0 μ) (mm0 μ _ _) rfl 0 (by decide) kw1 rfl dX6_hear_207 ?_
              refine lv_sipush (v := (6810 : Int32)) hx hb dX6_hear_210 (by decide) ?_
              refine fw_iald (q := 6810) hx hb hE hF (e1 μ) (mm1 μ _) 0 rfl (by decide) (by decide) dX6_hear_213 ?_
              refine lv_aload_n hx hb dX6_hear_214 rfl (lv_at hl 0 rfl) ?_
              refine fw_get (C := RX6) (T := TX6) (N := 3) (ci := 6) (v := .ref (fa (mφ μ) 1 0)) hx hb hL6 hown hE hF (e0 μ) (mm0 μ _ _) rfl 0 (by decide) kw1 rfl dX6_hear_215 ?_
              refine lv_bipush (v := (10 : Int32)) hx hb dX6_hear_218 (by decide) ?_
              refine lv_iload_n hx hb dX6_hear_220 rfl (lv_at hl 1 rfl) ?_
              refine lv_iadd hx hb dX6_hear_221 ?_
              obtain ⟨k32, h⟩ := ck h
              refine fw_iald (q := (((10 : Int32)) + x1).toNatClampNeg) hx hb hE hF (e1 μ) (mm1 μ _) 0 rfl k32 rfl dX6_hear_222 ?_
              refine lv_iadd hx hb dX6_hear_223 ?_
              refine lv_iload_n hx hb dX6_hear_224 rfl (lv_at hl 2 rfl) ?_
              refine lv_iload_n hx hb dX6_hear_225 rfl (lv_at hl 3 rfl) ?_
              refine lv_iload hx hb dX6_hear_226 (lv_at hl 4 rfl) ?_
              refine lv_iconst (v := (1 : Int32)) hx hb dX6_hear_228 (by decide) ?_
              refine lv_isub hx hb dX6_hear_229 ?_
              obtain ⟨⟨r34, g35⟩, q33, h⟩ := bnd h
              try dsimp only at h
              refine fw_callv (va_runV (As := [.int x1, .int ((g 1 0 6810) + (g 1 0 ((((10 : Int32)) + x1).toNatClampNeg))), .int x2, .int x3, .int (x4 - ((1 : Int32)))]) (rest := []) ⟨hx, hb, hml, hown, hts⟩ (c_X6_addToAir l hok q33) (cwV 5 hts gX6_hear_X6_addToAir rfl rfl rfl qv_X6_addToAir ⟨Nat.le_of_ble_eq_true rfl, Nat.le_of_ble_eq_true rfl⟩) (fw_preV hok hE hF (e0 μ) (mm0 μ _ _) rfl) rfl rfl hl.1 rfl (lv_room (Nat.le_of_ble_eq_true rfl)) dX6_hear_230 ⟨Nat.le_refl _, Nat.le_refl _⟩) hS (fun H locs hF hS => ?_)
              exact fw_vret hx hb hr hlk h hF hS dX6_hear_233
            · have h := ift h c30
              refine lv_aload_n hx hb dX6_hear_189 rfl (lv_at hl 0 rfl) ?_
              refine fw_get (C := RX6) (T := TX6) (N := 3) (ci := 6) (v := .ref (fa (mφ μ) 1 0)) hx hb hL6 hown hE hF (e0 μ) (mm0 μ _ _) rfl 0 (by decide) kw1 rfl dX6_hear_190 ?_
              refine lv_sipush (v := (6817 : Int32)) hx hb dX6_hear_193 (by decide) ?_
              refine lv_dup2_11 hx hb dX6_hear_196 rfl rfl ?_
              refine fw_iald (q := 6817) hx hb hE hF (e1 μ) (mm1 μ _) 0 rfl (by decide) (by decide) dX6_hear_197 ?_
              refine lv_iconst (v := (1 : Int32)) hx hb dX6_hear_198 (by decide) ?_
              refine lv_iadd hx hb dX6_hear_199 ?_
              refine fw_iast (q := 6817) hx hb hE hok hF hS (e1 μ) (mm1 μ _) 0 rfl (by decide) (by decide) dX6_hear_200 (fun H locs hF hS => ?_)
              obtain ⟨g39, e40, h⟩ := ltm_e h
              rw [e40] at hF
              refine lv_goto (tgt := 233) hx hb dX6_hear_201 (by decide) ?_
              exact fw_vret hx hb hr hlk h hF hS dX6_hear_233
      · have h := iff0 h c25
        refine lv_aload_n hx hb dX6_hear_103 rfl (lv_at hl 0 rfl) ?_
        refine lv_iload hx hb dX6_hear_104 (lv_at hl 5 rfl) ?_
        obtain ⟨⟨r42, g43⟩, q41, h⟩ := bnd h
        try dsimp only at h
        refine fw_calli (va_runV (As := [.int x5]) (rest := []) ⟨hx, hb, hml, hown, hts⟩ (c_X6_sleeps l hok q41) (cwV 1 hts gX6_hear_X6_sleeps rfl rfl rfl qv_X6_sleeps ⟨Nat.le_of_ble_eq_true rfl, Nat.le_of_ble_eq_true rfl⟩) (fw_preV hok hE hF (e0 μ) (mm0 μ _ _) rfl) rfl rfl hl.1 rfl (lv_room (Nat.le_of_ble_eq_true rfl)) dX6_hear_106 ⟨Nat.le_refl _, Nat.le_refl _⟩) hS (fun H locs hF hS => ?_)
        refine lv_if_eq (tgt := 151) hx hb dX6_hear_109 (by decide) (fun c45 => ?_) (fun c45 => ?_)
        · have h := ift h c45
          refine lv_iinc (v := x5 + (1 : Int32)) (lv' := [(5, .int (x5 + (1 : Int32))), (0, .ref (fa (mφ μ) 0 0)), (1, .int x1), (2, .int x2), (3, .int x3), (4, .int x4)]) hx hb dX6_hear_151 hl (k := 5) rfl rfl (by decide) rfl (fun ls hl => ?_)
          refine lv_goto (tgt := 96) hx hb dX6_hear_154 (by decide) ?_
          exact ih g43 x1 x2 x3 x4 (x5 + (1 : Int32)) H locs ls h hF hS (lv_sub hl [1, 2, 3, 4, 5, 0] rfl)
        · have h := iff0 h c45
          refine lv_aload_n hx hb dX6_hear_112 rfl (lv_at hl 0 rfl) ?_
          refine fw_get (C := RX6) (T := TX6) (N := 3) (ci := 6) (v := .ref (fa (mφ μ) 1 0)) hx hb hL6 hown hE hF (e0 μ) (mm0 μ _ _) rfl 0 (by decide) kw1 rfl dX6_hear_113 ?_
          refine lv_bipush (v := (70 : Int32)) hx hb dX6_hear_116 (by decide) ?_
          refine lv_iload hx hb dX6_hear_118 (lv_at hl 5 rfl) ?_
          refine lv_iadd hx hb dX6_hear_120 ?_
          obtain ⟨k46, h⟩ := ck h
          refine fw_iald (q := (((70 : Int32)) + x5).toNatClampNeg) hx hb hE hF (e1 μ) (mm1 μ _) 0 rfl k46 rfl dX6_hear_121 ?_
          refine lv_iload_n hx hb dX6_hear_122 rfl (lv_at hl 1 rfl) ?_
          refine lv_icmp_ne (tgt := 151) hx hb dX6_hear_123 (by decide) (fun c47 => ?_) (fun c47 => ?_)
          · have h := iff0 h c47
            refine lv_iinc (v := x5 + (1 : Int32)) (lv' := [(5, .int (x5 + (1 : Int32))), (0, .ref (fa (mφ μ) 0 0)), (1, .int x1), (2, .int x2), (3, .int x3), (4, .int x4)]) hx hb dX6_hear_151 hl (k := 5) rfl rfl (by decide) rfl (fun ls hl => ?_)
            refine lv_goto (tgt := 96) hx hb dX6_hear_154 (by decide) ?_
            exact ih g43 x1 x2 x3 x4 (x5 + (1 : Int32)) H locs ls h hF hS (lv_sub hl [1, 2, 3, 4, 5, 0] rfl)
          · have h := ift h c47
            refine lv_aload_n hx hb dX6_hear_126 rfl (lv_at hl 0 rfl) ?_
            refine lv_iload hx hb dX6_hear_127 (lv_at hl 5 rfl) ?_
            refine lv_iload_n hx hb dX6_hear_129 rfl (lv_at hl 2 rfl) ?_
            refine lv_iload_n hx hb dX6_hear_130 rfl (lv_at hl 3 rfl) ?_
            obtain ⟨⟨r49, g50⟩, q48, h⟩ := bnd h
            try dsimp only at h
            refine fw_calli (va_runV (As := [.int x5, .int x2, .int x3]) (rest := []) ⟨hx, hb, hml, hown, hts⟩ (c_X6_isMeant l hok q48) (cwV 3 hts gX6_hear_X6_isMeant rfl rfl rfl qv_X6_isMeant ⟨Nat.le_of_ble_eq_true rfl, Nat.le_of_ble_eq_true rfl⟩) (fw_preV hok hE hF (e0 μ) (mm0 μ _ _) rfl) rfl rfl hl.1 rfl (lv_room (Nat.le_of_ble_eq_true rfl)) dX6_hear_131 ⟨Nat.le_refl _, Nat.le_refl _⟩) hS (fun H locs hF hS => ?_)
            refine lv_if_eq (tgt := 151) hx hb dX6_hear_134 (by decide) (fun c52 => ?_) (fun c52 => ?_)
            · have h := ift h c52
              refine lv_iinc (v := x5 + (1 : Int32)) (lv' := [(5, .int (x5 + (1 : Int32))), (0, .ref (fa (mφ μ) 0 0)), (1, .int x1), (2, .int x2), (3, .int x3), (4, .int x4)]) hx hb dX6_hear_151 hl (k := 5) rfl rfl (by decide) rfl (fun ls hl => ?_)
              refine lv_goto (tgt := 96) hx hb dX6_hear_154 (by decide) ?_
              exact ih g50 x1 x2 x3 x4 (x5 + (1 : Int32)) H locs ls h hF hS (lv_sub hl [1, 2, 3, 4, 5, 0] rfl)
            · have h := iff0 h c52
              refine lv_iload hx hb dX6_hear_137 (lv_at hl 5 rfl) ?_
              refine lv_iload_n hx hb dX6_hear_139 rfl (lv_at hl 2 rfl) ?_
              refine lv_icmp_eq (tgt := 151) hx hb dX6_hear_140 (by decide) (fun c53 => ?_) (fun c53 => ?_)
              · have h := ift h c53
                refine lv_iinc (v := x5 + (1 : Int32)) (lv' := [(5, .int (x5 + (1 : Int32))), (0, .ref (fa (mφ μ) 0 0)), (1, .int x1), (2, .int x2), (3, .int x3), (4, .int x4)]) hx hb dX6_hear_151 hl (k := 5) rfl rfl (by decide) rfl (fun ls hl => ?_)
                refine lv_goto (tgt := 96) hx hb dX6_hear_154 (by decide) ?_
                exact ih g50 x1 x2 x3 x4 (x5 + (1 : Int32)) H locs ls h hF hS (lv_sub hl [1, 2, 3, 4, 5, 0] rfl)
              · have h := iff0 h c53
                refine lv_aload_n hx hb dX6_hear_143 rfl (lv_at hl 0 rfl) ?_
                refine lv_iload hx hb dX6_hear_144 (lv_at hl 5 rfl) ?_
                refine lv_iload_n hx hb dX6_hear_146 rfl (lv_at hl 2 rfl) ?_
                refine lv_iload_n hx hb dX6_hear_147 rfl (lv_at hl 3 rfl) ?_
                obtain ⟨⟨r55, g56⟩, q54, h⟩ := bnd h
                try dsimp only at h
                refine fw_callv (va_runV (As := [.int x5, .int x2, .int x3]) (rest := []) ⟨hx, hb, hml, hown, hts⟩ (c_X6_keepFor l hok q54) (cwV 3 hts gX6_hear_X6_keepFor rfl rfl rfl qv_X6_keepFor ⟨Nat.le_of_ble_eq_true rfl, Nat.le_of_ble_eq_true rfl⟩) (fw_preV hok hE hF (e0 μ) (mm0 μ _ _) rfl) rfl rfl hl.1 rfl (lv_room (Nat.le_of_ble_eq_true rfl)) dX6_hear_148 ⟨Nat.le_refl _, Nat.le_refl _⟩) hS (fun H locs hF hS => ?_)
                refine lv_iinc (v := x5 + (1 : Int32)) (lv' := [(5, .int (x5 + (1 : Int32))), (0, .ref (fa (mφ μ) 0 0)), (1, .int x1), (2, .int x2), (3, .int x3), (4, .int x4)]) hx hb dX6_hear_151 hl (k := 5) rfl rfl (by decide) rfl (fun ls hl => ?_)
                refine lv_goto (tgt := 96) hx hb dX6_hear_154 (by decide) ?_
                exact ih g56 x1 x2 x3 x4 (x5 + (1 : Int32)) H locs ls h hF hS (lv_sub hl [1, 2, 3, 4, 5, 0] rfl)
  refine lv_aload_n hx hb dX6_hear_0 rfl (lv_at hl 0 rfl) ?_
  refine lv_iload_n hx hb dX6_hear_1 rfl (lv_at hl 1 rfl) ?_
  refine lv_iload_n hx hb dX6_hear_2 rfl (lv_at hl 2 rfl) ?_
  refine lv_iload_n hx hb dX6_hear_3 rfl (lv_at hl 3 rfl) ?_
  obtain ⟨⟨r2, g3⟩, q1, h⟩ := bnd h
  try dsimp only at h
  refine fw_calli (va_runV (As := [.int a0, .int a1, .int a2]) (rest := []) ⟨hx, hb, hml, hown, hts⟩ (c_X6_knows l hok q1) (cwV 3 hts gX6_hear_X6_knows rfl rfl rfl qv_X6_knows ⟨Nat.le_of_ble_eq_true rfl, Nat.le_of_ble_eq_true rfl⟩) (fw_preV hok hE hF (e0 μ) (mm0 μ _ _) rfl) rfl rfl hl.1 rfl (lv_room (Nat.le_of_ble_eq_true rfl)) dX6_hear_4 ⟨Nat.le_refl _, Nat.le_refl _⟩) hS (fun H locs hF hS => ?_)
  refine lv_if_ne (tgt := 24) hx hb dX6_hear_7 (by decide) (fun c5 => ?_) (fun c5 => ?_)
  · have h := iff0 h c5
    refine lv_aload_n hx hb dX6_hear_24 rfl (lv_at hl 0 rfl) ?_
    refine lv_iload_n hx hb dX6_hear_25 rfl (lv_at hl 1 rfl) ?_
    refine lv_iload_n hx hb dX6_hear_26 rfl (lv_at hl 2 rfl) ?_
    refine lv_iload_n hx hb dX6_hear_27 rfl (lv_at hl 3 rfl) ?_
    obtain ⟨⟨r7, g8⟩, q6, h⟩ := bnd h
    try dsimp only at h
    refine fw_calli (va_runV (As := [.int a0, .int a1, .int a2]) (rest := []) ⟨hx, hb, hml, hown, hts⟩ (c_X6_hasInMind l hok q6) (cwV 3 hts gX6_hear_X6_hasInMind rfl rfl rfl qv_X6_hasInMind ⟨Nat.le_of_ble_eq_true rfl, Nat.le_of_ble_eq_true rfl⟩) (fw_preV hok hE hF (e0 μ) (mm0 μ _ _) rfl) rfl rfl hl.1 rfl (lv_room (Nat.le_of_ble_eq_true rfl)) dX6_hear_28 ⟨Nat.le_refl _, Nat.le_refl _⟩) hS (fun H locs hF hS => ?_)
    refine lv_if_eq (tgt := 48) hx hb dX6_hear_31 (by decide) (fun c10 => ?_) (fun c10 => ?_)
    · have h := ift h c10
      refine lv_aload_n hx hb dX6_hear_48 rfl (lv_at hl 0 rfl) ?_
      refine fw_get (C := RX6) (T := TX6) (N := 3) (ci := 6) (v := .ref (fa (mφ μ) 1 0)) hx hb hL6 hown hE hF (e0 μ) (mm0 μ _ _) rfl 0 (by decide) kw1 rfl dX6_hear_49 ?_
      refine lv_sipush (v := (130 : Int32)) hx hb dX6_hear_52 (by decide) ?_
      refine lv_iload_n hx hb dX6_hear_55 rfl (lv_at hl 1 rfl) ?_
      refine lv_iadd hx hb dX6_hear_56 ?_
      refine lv_dup2_11 hx hb dX6_hear_57 rfl rfl ?_
      obtain ⟨k11, h⟩ := ck h
      refine fw_iald (q := (((130 : Int32)) + a0).toNatClampNeg) hx hb hE hF (e1 μ) (mm1 μ _) 0 rfl k11 rfl dX6_hear_58 ?_
      refine lv_iconst (v := (1 : Int32)) hx hb dX6_hear_59 (by decide) ?_
      refine lv_iadd hx hb dX6_hear_60 ?_
      obtain ⟨k12, h⟩ := ck h
      refine fw_iast (q := (((130 : Int32)) + a0).toNatClampNeg) hx hb hE hok hF hS (e1 μ) (mm1 μ _) 0 rfl k12 rfl dX6_hear_61 (fun H locs hF hS => ?_)
      obtain ⟨g13, e14, h⟩ := ltm_e h
      rw [e14] at hF
      refine lv_aload_n hx hb dX6_hear_62 rfl (lv_at hl 0 rfl) ?_
      refine lv_iload_n hx hb dX6_hear_63 rfl (lv_at hl 1 rfl) ?_
      refine lv_iload_n hx hb dX6_hear_64 rfl (lv_at hl 2 rfl) ?_
      refine lv_iload_n hx hb dX6_hear_65 rfl (lv_at hl 3 rfl) ?_
      obtain ⟨⟨r16, g17⟩, q15, h⟩ := bnd h
      try dsimp only at h
      refine fw_callv (va_runV (As := [.int a0, .int a1, .int a2]) (rest := []) ⟨hx, hb, hml, hown, hts⟩ (c_X6_remember l hok q15) (cwV 3 hts gX6_hear_X6_remember rfl rfl rfl qv_X6_remember ⟨Nat.le_of_ble_eq_true rfl, Nat.le_of_ble_eq_true rfl⟩) (fw_preV hok hE hF (e0 μ) (mm0 μ _ _) rfl) rfl rfl hl.1 rfl (lv_room (Nat.le_of_ble_eq_true rfl)) dX6_hear_66 ⟨Nat.le_refl _, Nat.le_refl _⟩) hS (fun H locs hF hS => ?_)
      refine lv_iload_n hx hb dX6_hear_69 rfl (lv_at hl 1 rfl) ?_
      refine lv_iload_n hx hb dX6_hear_70 rfl (lv_at hl 2 rfl) ?_
      refine lv_icmp_ne (tgt := 75) hx hb dX6_hear_71 (by decide) (fun c19 => ?_) (fun c19 => ?_)
      · have h := iff0 h c19
        refine lv_aload_n hx hb dX6_hear_75 rfl (lv_at hl 0 rfl) ?_
        refine lv_iload_n hx hb dX6_hear_76 rfl (lv_at hl 1 rfl) ?_
        refine lv_iload_n hx hb dX6_hear_77 rfl (lv_at hl 2 rfl) ?_
        refine lv_iload_n hx hb dX6_hear_78 rfl (lv_at hl 3 rfl) ?_
        obtain ⟨⟨r21, g22⟩, q20, h⟩ := bnd h
        try dsimp only at h
        refine fw_calli (va_runV (As := [.int a0, .int a1, .int a2]) (rest := []) ⟨hx, hb, hml, hown, hts⟩ (c_X6_isMeant l hok q20) (cwV 3 hts gX6_hear_X6_isMeant rfl rfl rfl qv_X6_isMeant ⟨Nat.le_of_ble_eq_true rfl, Nat.le_of_ble_eq_true rfl⟩) (fw_preV hok hE hF (e0 μ) (mm0 μ _ _) rfl) rfl rfl hl.1 rfl (lv_room (Nat.le_of_ble_eq_true rfl)) dX6_hear_79 ⟨Nat.le_refl _, Nat.le_refl _⟩) hS (fun H locs hF hS => ?_)
        refine lv_if_eq (tgt := 93) hx hb dX6_hear_82 (by decide) (fun c24 => ?_) (fun c24 => ?_)
        · have h := ift h c24
          refine lv_iconst (v := (0 : Int32)) hx hb dX6_hear_93 (by decide) ?_
          refine lv_istore (lv' := [(5, .int ((0 : Int32))), (0, .ref (fa (mφ μ) 0 0)), (1, .int a0), (2, .int a1), (3, .int a2), (4, .int a3)]) hx hb dX6_hear_94 hl (by decide) rfl (fun ls hl => ?_)
          exact LOOP96 F g22 a0 a1 a2 a3 ((0 : Int32)) _ _ ls h hF hS (lv_sub hl [1, 2, 3, 4, 5, 0] rfl)
        · have h := iff0 h c24
          refine lv_aload_n hx hb dX6_hear_85 rfl (lv_at hl 0 rfl) ?_
          refine lv_iload_n hx hb dX6_hear_86 rfl (lv_at hl 1 rfl) ?_
          refine lv_iload_n hx hb dX6_hear_87 rfl (lv_at hl 2 rfl) ?_
          refine lv_iload_n hx hb dX6_hear_88 rfl (lv_at hl 3 rfl) ?_
          obtain ⟨⟨r59, g60⟩, q58, h⟩ := bnd h
          try dsimp only at h
          refine fw_calli (va_runV (As := [.int a0, .int a1, .int a2]) (rest := []) ⟨hx, hb, hml, hown, hts⟩ (c_X6_takes l hok q58) (cwV 3 hts gX6_hear_X6_takes rfl rfl rfl qv_X6_takes ⟨Nat.le_of_ble_eq_true rfl, Nat.le_of_ble_eq_true rfl⟩) (fw_preV hok hE hF (e0 μ) (mm0 μ _ _) rfl) rfl rfl hl.1 rfl (lv_room (Nat.le_of_ble_eq_true rfl)) dX6_hear_89 ⟨Nat.le_refl _, Nat.le_refl _⟩) hS (fun H locs hF hS => ?_)
          refine lv_pop hx hb dX6_hear_92 rfl ?_
          refine lv_iconst (v := (0 : Int32)) hx hb dX6_hear_93 (by decide) ?_
          refine lv_istore (lv' := [(5, .int ((0 : Int32))), (0, .ref (fa (mφ μ) 0 0)), (1, .int a0), (2, .int a1), (3, .int a2), (4, .int a3)]) hx hb dX6_hear_94 hl (by decide) rfl (fun ls hl => ?_)
          exact LOOP96 F g60 a0 a1 a2 a3 ((0 : Int32)) _ _ ls h hF hS (lv_sub hl [1, 2, 3, 4, 5, 0] rfl)
      · have h := ift h c19
        exact fw_vret hx hb hr hlk h hF hS dX6_hear_74
    · have h := iff0 h c10
      refine lv_aload_n hx hb dX6_hear_34 rfl (lv_at hl 0 rfl) ?_
      refine fw_get (C := RX6) (T := TX6) (N := 3) (ci := 6) (v := .ref (fa (mφ μ) 1 0)) hx hb hL6 hown hE hF (e0 μ) (mm0 μ _ _) rfl 0 (by decide) kw1 rfl dX6_hear_35 ?_
      refine lv_bipush (v := (120 : Int32)) hx hb dX6_hear_38 (by decide) ?_
      refine lv_iload_n hx hb dX6_hear_40 rfl (lv_at hl 1 rfl) ?_
      refine lv_iadd hx hb dX6_hear_41 ?_
      refine lv_dup2_11 hx hb dX6_hear_42 rfl rfl ?_
      obtain ⟨k62, h⟩ := ck h
      refine fw_iald (q := (((120 : Int32)) + a0).toNatClampNeg) hx hb hE hF (e1 μ) (mm1 μ _) 0 rfl k62 rfl dX6_hear_43 ?_
      refine lv_iconst (v := (1 : Int32)) hx hb dX6_hear_44 (by decide) ?_
      refine lv_iadd hx hb dX6_hear_45 ?_
      obtain ⟨k63, h⟩ := ck h
      refine fw_iast (q := (((120 : Int32)) + a0).toNatClampNeg) hx hb hE hok hF hS (e1 μ) (mm1 μ _) 0 rfl k63 rfl dX6_hear_46 (fun H locs hF hS => ?_)
      obtain ⟨g64, e65, h⟩ := ltm_e h
      rw [e65] at hF
      exact fw_vret hx hb hr hlk h hF hS dX6_hear_47
  · have h := ift h c5
    refine lv_aload_n hx hb dX6_hear_10 rfl (lv_at hl 0 rfl) ?_
    refine fw_get (C := RX6) (T := TX6) (N := 3) (ci := 6) (v := .ref (fa (mφ μ) 1 0)) hx hb hL6 hown hE hF (e0 μ) (mm0 μ _ _) rfl 0 (by decide) kw1 rfl dX6_hear_11 ?_
    refine lv_bipush (v := (110 : Int32)) hx hb dX6_hear_14 (by decide) ?_
    refine lv_iload_n hx hb dX6_hear_16 rfl (lv_at hl 1 rfl) ?_
    refine lv_iadd hx hb dX6_hear_17 ?_
    refine lv_dup2_11 hx hb dX6_hear_18 rfl rfl ?_
    obtain ⟨k66, h⟩ := ck h
    refine fw_iald (q := (((110 : Int32)) + a0).toNatClampNeg) hx hb hE hF (e1 μ) (mm1 μ _) 0 rfl k66 rfl dX6_hear_19 ?_
    refine lv_iconst (v := (1 : Int32)) hx hb dX6_hear_20 (by decide) ?_
    refine lv_iadd hx hb dX6_hear_21 ?_
    obtain ⟨k67, h⟩ := ck h
    refine fw_iast (q := (((110 : Int32)) + a0).toNatClampNeg) hx hb hE hok hF hS (e1 μ) (mm1 μ _) 0 rfl k67 rfl dX6_hear_22 (fun H locs hF hS => ?_)
    obtain ⟨g68, e69, h⟩ := ltm_e h
    rw [e69] at hF
    exact fw_vret hx hb hr hlk h hF hS dX6_hear_23
def st_X6_dueNow_14 (F : Nat) (K : Mem → Int32 → Int32 → Option (Int32 × Mem)) (g : Mem) (x1 x2 : Int32) : Option (Int32 × Mem) := (if x2 < 0 then some (x1, g) else if ((((490 : Int32)) + (((5 : Int32)) * x2)) + ((1 : Int32)) < 0 ∨ 6819 ≤ ((((490 : Int32)) + (((5 : Int32)) * x2)) + ((1 : Int32))).toNatClampNeg) then none else (if (g 1 0 (((((490 : Int32)) + (((5 : Int32)) * x2)) + ((1 : Int32))).toNatClampNeg)) = (g 1 0 6810) then K g x2 (x2 + (-1 : Int32)) else K g x1 (x2 + (-1 : Int32))))
def lp_X6_dueNow_14 (F : Nat) : Nat → Mem → Int32 → Int32 → Option (Int32 × Mem)
  | 0, _, _, _ => none
  | f + 1, g, x1, x2 => st_X6_dueNow_14 F (lp_X6_dueNow_14 F f ) g x1 x2
def m_X6_dueNow (F : Nat) (g : Mem) : Option (Int32 × Mem) := lp_X6_dueNow_14 F F g ((-6 : Int32)) ((g 1 0 6815) - ((1 : Int32)))
set_option maxHeartbeats 4000000 in
set_option maxRecDepth 100000 in
theorem c_X6_dueNow (l : Launch) {μ : Mx} (hok : fok (mφ μ))  {F : Nat} {g : Mem} {u : Int32 × Mem} (h : m_X6_dueNow F g  = some u) : fM l (mφ μ) yX6_dueNow wsX6_dueNow 0 0 [.ref (fa (mφ μ) 0 0)] g (some (.int u.1)) u.2 := by
  refine fM.of (cc := cX6_dueNow) (maxL := 3) (ret := (some .int)) [(0, .ref (fa (mφ μ) 0 0))] (by decide) rfl (Nat.le_of_ble_eq_true rfl) rfl (fun p e s m below meth c ls hx hb hr hml hown hts hlk hE hF hS hl => ?_)
  replace hown : s.vm.findClass RX6 = some m.cls := hown
  have hL6 : ∀ w ∈ u_ws RX6 TX6 3, w.before ([.ref (fa (mφ μ) 0 0)] : List Value).toArray s = true := fun w hw => hts w (by
    unfold wsX6_dueNow
    simp only [List.mem_cons, List.mem_append]
    exact Or.inr (Or.inr hw))
  have kw1 := hts (.fieldLink RX6 7 "MeshLampsModel" "state" "[I") (List.mem_of_getElem? (i := 1) rfl)
  unfold m_X6_dueNow at h
  refine lv_bipush (v := (-6 : Int32)) hx hb dX6_dueNow_0 (by decide) ?_
  refine lv_istore_n (lv' := [(1, .int ((-6 : Int32))), (0, .ref (fa (mφ μ) 0 0))]) hx hb dX6_dueNow_2 rfl hl (by decide) rfl (fun ls hl => ?_)
  refine lv_aload_n hx hb dX6_dueNow_3 rfl (lv_at hl 1 rfl) ?_
  refine fw_get (C := RX6) (T := TX6) (N := 3) (ci := 6) (v := .ref (fa (mφ μ) 1 0)) hx hb hL6 hown hE hF (e0 μ) (mm0 μ _ _) rfl 0 (by decide) kw1 rfl dX6_dueNow_4 ?_
  refine lv_sipush (v := (6815 : Int32)) hx hb dX6_dueNow_7 (by decide) ?_
  refine fw_iald (q := 6815) hx hb hE hF (e1 μ) (mm1 μ _) 0 rfl (by decide) (by decide) dX6_dueNow_10 ?_
  refine lv_iconst (v := (1 : Int32)) hx hb dX6_dueNow_11 (by decide) ?_
  refine lv_isub hx hb dX6_dueNow_12 ?_
  refine lv_istore_n (lv' := [(2, .int ((g 1 0 6815) - ((1 : Int32)))), (1, .int ((-6 : Int32))), (0, .ref (fa (mφ μ) 0 0))]) hx hb dX6_dueNow_13 rfl hl (by decide) rfl (fun ls hl => ?_)
  have LOOP14 : ∀ (f : Nat) (g : Mem) (x1 x2 : Int32) (H : Heap) (locs : List Loc) (ls : Array Slot), lp_X6_dueNow_14 F f g x1 x2 = some u → fw (mφ μ) g H → va_S (fA (mφ μ)) s.heap H locs → lv_has ls 3 [(0, .ref (fa (mφ μ) 0 0)), (1, .int x1), (2, .int x2)] → W p l e ({ frames := 0, cells := 0, slots := 0, locals := 0 }) s m ([.ref (fa (mφ μ) 0 0)] : List Value).toArray below meth c H locs 0 0 (MQ below (fQ (mφ μ) (some (.int u.1)) u.2) ([.ref (fa (mφ μ) 0 0)] : List Value).toArray s 0 0 (fA (mφ μ))) (F0 m 14 ls []) := by
    intro f
    induction f with
    | zero => intro g x1 x2 H locs ls h hF hS hl; cases h
    | succ f ih =>
      intro g x1 x2 H locs ls h hF hS hl
      replace h : st_X6_dueNow_14 F (lp_X6_dueNow_14 F f ) g x1 x2 = some u := h
      unfold st_X6_dueNow_14 at h
      refine lv_iload_n hx hb dX6_dueNow_14 rfl (lv_at hl 2 rfl) ?_
      refine lv_if_lt (tgt := 55) hx hb dX6_dueNow_15 (by decide) (fun c2 => ?_) (fun c2 => ?_)
      · have h := ift h c2
        refine lv_iload_n hx hb dX6_dueNow_55 rfl (lv_at hl 1 rfl) ?_
        exact fw_iret hx hb hr hlk h hF hS dX6_dueNow_56
      · have h := iff0 h c2
        refine lv_aload_n hx hb dX6_dueNow_18 rfl (lv_at hl 0 rfl) ?_
        refine fw_get (C := RX6) (T := TX6) (N := 3) (ci := 6) (v := .ref (fa (mφ μ) 1 0)) hx hb hL6 hown hE hF (e0 μ) (mm0 μ _ _) rfl 0 (by decide) kw1 rfl dX6_dueNow_19 ?_
        refine lv_sipush (v := (490 : Int32)) hx hb dX6_dueNow_22 (by decide) ?_
        refine lv_iconst (v := (5 : Int32)) hx hb dX6_dueNow_25 (by decide) ?_
        refine lv_iload_n hx hb dX6_dueNow_26 rfl (lv_at hl 2 rfl) ?_
        refine lv_imul hx hb dX6_dueNow_27 ?_
        refine lv_iadd hx hb dX6_dueNow_28 ?_
        refine lv_iconst (v := (1 : Int32)) hx hb dX6_dueNow_29 (by decide) ?_
        refine lv_iadd hx hb dX6_dueNow_30 ?_
        obtain ⟨k3, h⟩ := ck h
        refine fw_iald (q := ((((490 : Int32)) + (((5 : Int32)) * x2)) + ((1 : Int32))).toNatClampNeg) hx hb hE hF (e1 μ) (mm1 μ _) 0 rfl k3 rfl dX6_dueNow_31 ?_
        refine lv_aload_n hx hb dX6_dueNow_32 rfl (lv_at hl 0 rfl) ?_
        refine fw_get (C := RX6) (T := TX6) (N := 3) (ci := 6) (v := .ref (fa (mφ μ) 1 0)) hx hb hL6 hown hE hF (e0 μ) (mm0 μ _ _) rfl 0 (by decide) kw1 rfl dX6_dueNow_33 ?_
        refine lv_sipush (v := (6810 : Int32)) hx hb dX6_dueNow_36 (by decide) ?_
        refine fw_iald (q := 6810) hx hb hE hF (e1 μ) (mm1 μ _) 0 rfl (by decide) (by decide) dX6_dueNow_39 ?_
        refine lv_icmp_ne (tgt := 47) hx hb dX6_dueNow_40 (by decide) (fun c5 => ?_) (fun c5 => ?_)
        · have h := iff0 h c5
          refine lv_iload_n hx hb dX6_dueNow_47 rfl (lv_at hl 1 rfl) ?_
          refine lv_istore_n (lv' := [(1, .int x1), (0, .ref (fa (mφ μ) 0 0)), (2, .int x2)]) hx hb dX6_dueNow_48 rfl hl (by decide) rfl (fun ls hl => ?_)
          refine lv_iinc (v := x2 + (-1 : Int32)) (lv' := [(2, .int (x2 + (-1 : Int32))), (1, .int x1), (0, .ref (fa (mφ μ) 0 0))]) hx hb dX6_dueNow_49 hl (k := 2) rfl rfl (by decide) rfl (fun ls hl => ?_)
          refine lv_goto (tgt := 14) hx hb dX6_dueNow_52 (by decide) ?_
          exact ih g x1 (x2 + (-1 : Int32)) H locs ls h hF hS (lv_sub hl [2, 1, 0] rfl)
        · have h := ift h c5
          refine lv_iload_n hx hb dX6_dueNow_43 rfl (lv_at hl 2 rfl) ?_
          refine lv_goto (tgt := 48) hx hb dX6_dueNow_44 (by decide) ?_
          refine lv_istore_n (lv' := [(1, .int x2), (0, .ref (fa (mφ μ) 0 0)), (2, .int x2)]) hx hb dX6_dueNow_48 rfl hl (by decide) rfl (fun ls hl => ?_)
          refine lv_iinc (v := x2 + (-1 : Int32)) (lv' := [(2, .int (x2 + (-1 : Int32))), (1, .int x2), (0, .ref (fa (mφ μ) 0 0))]) hx hb dX6_dueNow_49 hl (k := 2) rfl rfl (by decide) rfl (fun ls hl => ?_)
          refine lv_goto (tgt := 14) hx hb dX6_dueNow_52 (by decide) ?_
          exact ih g x2 (x2 + (-1 : Int32)) H locs ls h hF hS (lv_sub hl [2, 1, 0] rfl)
  exact LOOP14 F g ((-6 : Int32)) ((g 1 0 6815) - ((1 : Int32))) _ _ ls h hF hS (lv_sub hl [2, 1, 0] rfl)
def st_X6_removeFromAir_16 (F : Nat) (K : Mem → Int32 → Option (Int32 × Mem)) (g : Mem) (x2 : Int32) : Option (Int32 × Mem) := (if (((5 : Int32)) * (g 1 0 6815)) ≤ x2 then some (0, g) else if ((((490 : Int32)) + x2) + ((5 : Int32)) < 0 ∨ 6819 ≤ ((((490 : Int32)) + x2) + ((5 : Int32))).toNatClampNeg) then none else if (((490 : Int32)) + x2 < 0 ∨ 6819 ≤ (((490 : Int32)) + x2).toNatClampNeg) then none else ltm (upr g 1 0 (upd (g 1 0) (((490 : Int32)) + x2).toNatClampNeg (g 1 0 (((((490 : Int32)) + x2) + ((5 : Int32))).toNatClampNeg)))) (fun g9 => K g9 (x2 + (1 : Int32))))
def lp_X6_removeFromAir_16 (F : Nat) : Nat → Mem → Int32 → Option (Int32 × Mem)
  | 0, _, _ => none
  | f + 1, g, x2 => st_X6_removeFromAir_16 F (lp_X6_removeFromAir_16 F f ) g x2
def m_X6_removeFromAir (F : Nat) (g : Mem) (a0 : Int32) : Option (Int32 × Mem) := ltm (upr g 1 0 (upd (g 1 0) 6815 ((g 1 0 6815) - ((1 : Int32))))) (fun g3 => lp_X6_removeFromAir_16 F F g3 (((5 : Int32)) * a0))
set_option maxHeartbeats 4000000 in
set_option maxRecDepth 100000 in
theorem c_X6_removeFromAir (l : Launch) {μ : Mx} (hok : fok (mφ μ))  {F : Nat} {g : Mem} {a0 : Int32} {u : Int32 × Mem} (h : m_X6_removeFromAir F g a0 = some u) : fM l (mφ μ) yX6_removeFromAir wsX6_removeFromAir 0 0 [.ref (fa (mφ μ) 0 0), .int a0] g none u.2 := by
  refine fM.of (cc := cX6_removeFromAir) (maxL := 3) (ret := none) [(0, .ref (fa (mφ μ) 0 0)), (1, .int a0)] (by decide) rfl (Nat.le_of_ble_eq_true rfl) rfl (fun p e s m below meth c ls hx hb hr hml hown hts hlk hE hF hS hl => ?_)
  replace hown : s.vm.findClass RX6 = some m.cls := hown
  have hL6 : ∀ w ∈ u_ws RX6 TX6 3, w.before ([.ref (fa (mφ μ) 0 0), .int a0] : List Value).toArray s = true := fun w hw => hts w (by
    unfold wsX6_removeFromAir
    simp only [List.mem_cons, List.mem_append]
    exact Or.inr (Or.inr hw))
  have kw1 := hts (.fieldLink RX6 7 "MeshLampsModel" "state" "[I") (List.mem_of_getElem? (i := 1) rfl)
  unfold m_X6_removeFromAir at h
  refine lv_aload_n hx hb dX6_removeFromAir_0 rfl (lv_at hl 0 rfl) ?_
  refine fw_get (C := RX6) (T := TX6) (N := 3) (ci := 6) (v := .ref (fa (mφ μ) 1 0)) hx hb hL6 hown hE hF (e0 μ) (mm0 μ _ _) rfl 0 (by decide) kw1 rfl dX6_removeFromAir_1 ?_
  refine lv_sipush (v := (6815 : Int32)) hx hb dX6_removeFromAir_4 (by decide) ?_
  refine lv_dup2_11 hx hb dX6_removeFromAir_7 rfl rfl ?_
  refine fw_iald (q := 6815) hx hb hE hF (e1 μ) (mm1 μ _) 0 rfl (by decide) (by decide) dX6_removeFromAir_8 ?_
  refine lv_iconst (v := (1 : Int32)) hx hb dX6_removeFromAir_9 (by decide) ?_
  refine lv_isub hx hb dX6_removeFromAir_10 ?_
  refine fw_iast (q := 6815) hx hb hE hok hF hS (e1 μ) (mm1 μ _) 0 rfl (by decide) (by decide) dX6_removeFromAir_11 (fun H locs hF hS => ?_)
  obtain ⟨g3, e4, h⟩ := ltm_e h
  rw [e4] at hF
  refine lv_iconst (v := (5 : Int32)) hx hb dX6_removeFromAir_12 (by decide) ?_
  refine lv_iload_n hx hb dX6_removeFromAir_13 rfl (lv_at hl 1 rfl) ?_
  refine lv_imul hx hb dX6_removeFromAir_14 ?_
  refine lv_istore_n (lv' := [(2, .int (((5 : Int32)) * a0)), (0, .ref (fa (mφ μ) 0 0)), (1, .int a0)]) hx hb dX6_removeFromAir_15 rfl hl (by decide) rfl (fun ls hl => ?_)
  have LOOP16 : ∀ (f : Nat) (g : Mem) (x2 : Int32) (H : Heap) (locs : List Loc) (ls : Array Slot), lp_X6_removeFromAir_16 F f g x2 = some u → fw (mφ μ) g H → va_S (fA (mφ μ)) s.heap H locs → lv_has ls 3 [(0, .ref (fa (mφ μ) 0 0)), (2, .int x2)] → W p l e ({ frames := 0, cells := 0, slots := 0, locals := 0 }) s m ([.ref (fa (mφ μ) 0 0), .int a0] : List Value).toArray below meth c H locs 0 0 (MQ below (fQ (mφ μ) none u.2) ([.ref (fa (mφ μ) 0 0), .int a0] : List Value).toArray s 0 0 (fA (mφ μ))) (F0 m 16 ls []) := by
    intro f
    induction f with
    | zero => intro g x2 H locs ls h hF hS hl; cases h
    | succ f ih =>
      intro g x2 H locs ls h hF hS hl
      replace h : st_X6_removeFromAir_16 F (lp_X6_removeFromAir_16 F f ) g x2 = some u := h
      unfold st_X6_removeFromAir_16 at h
      refine lv_iload_n hx hb dX6_removeFromAir_16 rfl (lv_at hl 1 rfl) ?_
      refine lv_iconst (v := (5 : Int32)) hx hb dX6_removeFromAir_17 (by decide) ?_
      refine lv_aload_n hx hb dX6_removeFromAir_18 rfl (lv_at hl 0 rfl) ?_
      refine fw_get (C := RX6) (T := TX6) (N := 3) (ci := 6) (v := .ref (fa (mφ μ) 1 0)) hx hb hL6 hown hE hF (e0 μ) (mm0 μ _ _) rfl 0 (by decide) kw1 rfl dX6_removeFromAir_19 ?_
      refine lv_sipush (v := (6815 : Int32)) hx hb dX6_removeFromAir_22 (by decide) ?_
      refine fw_iald (q := 6815) hx hb hE hF (e1 μ) (mm1 μ _) 0 rfl (by decide) (by decide) dX6_removeFromAir_25 ?_
      refine lv_imul hx hb dX6_removeFromAir_26 ?_
      refine lv_icmp_ge (tgt := 58) hx hb dX6_removeFromAir_27 (by decide) (fun c6 => ?_) (fun c6 => ?_)
      · have h := ift h c6
        exact fw_vret hx hb hr hlk h hF hS dX6_removeFromAir_58
      · have h := iff0 h c6
        refine lv_aload_n hx hb dX6_removeFromAir_30 rfl (lv_at hl 0 rfl) ?_
        refine fw_get (C := RX6) (T := TX6) (N := 3) (ci := 6) (v := .ref (fa (mφ μ) 1 0)) hx hb hL6 hown hE hF (e0 μ) (mm0 μ _ _) rfl 0 (by decide) kw1 rfl dX6_removeFromAir_31 ?_
        refine lv_sipush (v := (490 : Int32)) hx hb dX6_removeFromAir_34 (by decide) ?_
        refine lv_iload_n hx hb dX6_removeFromAir_37 rfl (lv_at hl 1 rfl) ?_
        refine lv_iadd hx hb dX6_removeFromAir_38 ?_
        refine lv_aload_n hx hb dX6_removeFromAir_39 rfl (lv_at hl 0 rfl) ?_
        refine fw_get (C := RX6) (T := TX6) (N := 3) (ci := 6) (v := .ref (fa (mφ μ) 1 0)) hx hb hL6 hown hE hF (e0 μ) (mm0 μ _ _) rfl 0 (by decide) kw1 rfl dX6_removeFromAir_40 ?_
        refine lv_sipush (v := (490 : Int32)) hx hb dX6_removeFromAir_43 (by decide) ?_
        refine lv_iload_n hx hb dX6_removeFromAir_46 rfl (lv_at hl 1 rfl) ?_
        refine lv_iadd hx hb dX6_removeFromAir_47 ?_
        refine lv_iconst (v := (5 : Int32)) hx hb dX6_removeFromAir_48 (by decide) ?_
        refine lv_iadd hx hb dX6_removeFromAir_49 ?_
        obtain ⟨k7, h⟩ := ck h
        refine fw_iald (q := ((((490 : Int32)) + x2) + ((5 : Int32))).toNatClampNeg) hx hb hE hF (e1 μ) (mm1 μ _) 0 rfl k7 rfl dX6_removeFromAir_50 ?_
        obtain ⟨k8, h⟩ := ck h
        refine fw_iast (q := (((490 : Int32)) + x2).toNatClampNeg) hx hb hE hok hF hS (e1 μ) (mm1 μ _) 0 rfl k8 rfl dX6_removeFromAir_51 (fun H locs hF hS => ?_)
        obtain ⟨g9, e10, h⟩ := ltm_e h
        rw [e10] at hF
        refine lv_iinc (v := x2 + (1 : Int32)) (lv' := [(2, .int (x2 + (1 : Int32))), (0, .ref (fa (mφ μ) 0 0))]) hx hb dX6_removeFromAir_52 hl (k := 1) rfl rfl (by decide) rfl (fun ls hl => ?_)
        refine lv_goto (tgt := 16) hx hb dX6_removeFromAir_55 (by decide) ?_
        exact ih g9 (x2 + (1 : Int32)) H locs ls h hF hS (lv_sub hl [1, 0] rfl)
  exact LOOP16 F g3 (((5 : Int32)) * a0) _ _ ls h hF hS (lv_sub hl [1, 0] rfl)
def st_X6_speaks_159 (F : Nat) (K : Mem → Int32 → Int32 → Int32 → Int32 → Int32 → Int32 → Option (Int32 × Mem)) (g : Mem) (x3 x4 x5 x6 x7 x8 : Int32) : Option (Int32 × Mem) := (if ((10 : Int32)) ≤ x8 then some ((1 : Int32), g) else if (((0 : Int32)) + x7 < 0 ∨ 6819 ≤ (((0 : Int32)) + x7).toNatClampNeg) then none else (m_X6_isOf (g 1 0 ((((0 : Int32)) + x7).toNatClampNeg)) x8).bind (fun r24 => (if r24 = 0 then (if x6 = 0 then (if x8 = x7 then (m_X6_sleeps g x8).bind (fun (r42, g43) => (if r42 = 0 then (m_X6_hear F g43 x8 x3 x4 x5).bind (fun (r47, g48) => K g48 x3 x4 x5 x6 x7 (x8 + (1 : Int32))) else K g43 x3 x4 x5 x6 x7 (x8 + (1 : Int32)))) else K g x3 x4 x5 x6 x7 (x8 + (1 : Int32))) else K g x3 x4 x5 x6 x7 (x8 + (1 : Int32))) else (m_X6_sleeps g x8).bind (fun (r28, g29) => (if r28 = 0 then (m_X6_hear F g29 x8 x3 x4 x5).bind (fun (r33, g34) => K g34 x3 x4 x5 x6 x7 (x8 + (1 : Int32))) else K g29 x3 x4 x5 x6 x7 (x8 + (1 : Int32)))))))
def lp_X6_speaks_159 (F : Nat) : Nat → Mem → Int32 → Int32 → Int32 → Int32 → Int32 → Int32 → Option (Int32 × Mem)
  | 0, _, _, _, _, _, _, _ => none
  | f + 1, g, x3, x4, x5, x6, x7, x8 => st_X6_speaks_159 F (lp_X6_speaks_159 F f ) g x3 x4 x5 x6 x7 x8
def m_X6_speaks (F : Nat) (g : Mem) (a0 : Int32) : Option (Int32 × Mem) := if (((490 : Int32)) + (((5 : Int32)) * a0) < 0 ∨ 6819 ≤ (((490 : Int32)) + (((5 : Int32)) * a0)).toNatClampNeg) then none else if ((((490 : Int32)) + (((5 : Int32)) * a0)) + ((2 : Int32)) < 0 ∨ 6819 ≤ ((((490 : Int32)) + (((5 : Int32)) * a0)) + ((2 : Int32))).toNatClampNeg) then none else if ((((490 : Int32)) + (((5 : Int32)) * a0)) + ((3 : Int32)) < 0 ∨ 6819 ≤ ((((490 : Int32)) + (((5 : Int32)) * a0)) + ((3 : Int32))).toNatClampNeg) then none else if ((((490 : Int32)) + (((5 : Int32)) * a0)) + ((4 : Int32)) < 0 ∨ 6819 ≤ ((((490 : Int32)) + (((5 : Int32)) * a0)) + ((4 : Int32))).toNatClampNeg) then none else (m_X6_removeFromAir F g a0).bind (fun (r6, g7) => (if ((10 : Int32)) ≤ (g 1 0 ((((490 : Int32)) + (((5 : Int32)) * a0)).toNatClampNeg)) then ltm (upr g7 1 0 (upd (g7 1 0) 6816 ((g7 1 0 6816) + ((1 : Int32))))) (fun g14 => if (((140 : Int32)) + ((g 1 0 ((((490 : Int32)) + (((5 : Int32)) * a0)).toNatClampNeg)) - ((10 : Int32))) < 0 ∨ 6819 ≤ (((140 : Int32)) + ((g 1 0 ((((490 : Int32)) + (((5 : Int32)) * a0)).toNatClampNeg)) - ((10 : Int32)))).toNatClampNeg) then none else if (((140 : Int32)) + ((g 1 0 ((((490 : Int32)) + (((5 : Int32)) * a0)).toNatClampNeg)) - ((10 : Int32))) < 0 ∨ 6819 ≤ (((140 : Int32)) + ((g 1 0 ((((490 : Int32)) + (((5 : Int32)) * a0)).toNatClampNeg)) - ((10 : Int32)))).toNatClampNeg) then none else ltm (upr g14 1 0 (upd (g14 1 0) (((140 : Int32)) + ((g 1 0 ((((490 : Int32)) + (((5 : Int32)) * a0)).toNatClampNeg)) - ((10 : Int32)))).toNatClampNeg ((g14 1 0 ((((140 : Int32)) + ((g 1 0 ((((490 : Int32)) + (((5 : Int32)) * a0)).toNatClampNeg)) - ((10 : Int32)))).toNatClampNeg)) + ((0 : Int32))))) (fun g19 => lp_X6_speaks_159 F F g19 (g 1 0 (((((490 : Int32)) + (((5 : Int32)) * a0)) + ((2 : Int32))).toNatClampNeg)) (g 1 0 (((((490 : Int32)) + (((5 : Int32)) * a0)) + ((3 : Int32))).toNatClampNeg)) (g 1 0 (((((490 : Int32)) + (((5 : Int32)) * a0)) + ((4 : Int32))).toNatClampNeg)) ((0 : Int32)) ((g 1 0 ((((490 : Int32)) + (((5 : Int32)) * a0)).toNatClampNeg)) - ((10 : Int32))) ((0 : Int32)))) else (m_X6_sleeps g7 (g 1 0 ((((490 : Int32)) + (((5 : Int32)) * a0)).toNatClampNeg))).bind (fun (r52, g53) => (if r52 = 0 then ltm (upr g53 1 0 (upd (g53 1 0) 6816 ((g53 1 0 6816) + ((1 : Int32))))) (fun g59 => if (((140 : Int32)) + (g 1 0 ((((490 : Int32)) + (((5 : Int32)) * a0)).toNatClampNeg)) < 0 ∨ 6819 ≤ (((140 : Int32)) + (g 1 0 ((((490 : Int32)) + (((5 : Int32)) * a0)).toNatClampNeg))).toNatClampNeg) then none else if (((140 : Int32)) + (g 1 0 ((((490 : Int32)) + (((5 : Int32)) * a0)).toNatClampNeg)) < 0 ∨ 6819 ≤ (((140 : Int32)) + (g 1 0 ((((490 : Int32)) + (((5 : Int32)) * a0)).toNatClampNeg))).toNatClampNeg) then none else ltm (upr g59 1 0 (upd (g59 1 0) (((140 : Int32)) + (g 1 0 ((((490 : Int32)) + (((5 : Int32)) * a0)).toNatClampNeg))).toNatClampNeg ((g59 1 0 ((((140 : Int32)) + (g 1 0 ((((490 : Int32)) + (((5 : Int32)) * a0)).toNatClampNeg))).toNatClampNeg)) + ((1 : Int32))))) (fun g64 => lp_X6_speaks_159 F F g64 (g 1 0 (((((490 : Int32)) + (((5 : Int32)) * a0)) + ((2 : Int32))).toNatClampNeg)) (g 1 0 (((((490 : Int32)) + (((5 : Int32)) * a0)) + ((3 : Int32))).toNatClampNeg)) (g 1 0 (((((490 : Int32)) + (((5 : Int32)) * a0)) + ((4 : Int32))).toNatClampNeg)) ((1 : Int32)) (g 1 0 ((((490 : Int32)) + (((5 : Int32)) * a0)).toNatClampNeg)) ((0 : Int32)))) else ltm (upr g53 1 0 (upd (g53 1 0) 6818 ((g53 1 0 6818) + ((1 : Int32))))) (fun g68 => some ((0 : Int32), g68))))))
set_option maxHeartbeats 4000000 in
set_option maxRecDepth 100000 in
theorem c_X6_speaks (l : Launch) {μ : Mx} (hok : fok (mφ μ))  {F : Nat} {g : Mem} {a0 : Int32} {u : Int32 × Mem} (h : m_X6_speaks F g a0 = some u) : fM l (mφ μ) yX6_speaks wsX6_speaks 3 72 [.ref (fa (mφ μ) 0 0), .int a0] g (some (.int u.1)) u.2 := by
  refine fM.of (cc := cX6_speaks) (maxL := 10) (ret := (some .boolean)) [(0, .ref (fa (mφ μ) 0 0)), (1, .int a0)] (by decide) rfl (Nat.le_of_ble_eq_true rfl) rfl (fun p e s m below meth c ls hx hb hr hml hown hts hlk hE hF hS hl => ?_)
  replace hown : s.vm.findClass RX6 = some m.cls := hown
  have hL6 : ∀ w ∈ u_ws RX6 TX6 3, w.before ([.ref (fa (mφ μ) 0 0), .int a0] : List Value).toArray s = true := fun w hw => hts w (by
    unfold wsX6_speaks
    simp only [List.mem_cons, List.mem_append]
    exact Or.inr (Or.inr hw))
  have kw1 := hts (.fieldLink RX6 7 "MeshLampsModel" "state" "[I") (List.mem_of_getElem? (i := 1) rfl)
  unfold m_X6_speaks at h
  have LOOP159 : ∀ (f : Nat) (g : Mem) (x3 x4 x5 x6 x7 x8 : Int32) (H : Heap) (locs : List Loc) (ls : Array Slot), lp_X6_speaks_159 F f g x3 x4 x5 x6 x7 x8 = some u → fw (mφ μ) g H → va_S (fA (mφ μ)) s.heap H locs → lv_has ls 10 [(0, .ref (fa (mφ μ) 0 0)), (3, .int x3), (4, .int x4), (5, .int x5), (6, .int x6), (7, .int x7), (8, .int x8)] → W p l e ({ frames := 3, cells := 0, slots := 0, locals := 72 }) s m ([.ref (fa (mφ μ) 0 0), .int a0] : List Value).toArray below meth c H locs 0 0 (MQ below (fQ (mφ μ) (some (.int u.1)) u.2) ([.ref (fa (mφ μ) 0 0), .int a0] : List Value).toArray s 0 0 (fA (mφ μ))) (F0 m 159 ls []) := by
    intro f
    induction f with
    | zero => intro g x3 x4 x5 x6 x7 x8 H locs ls h hF hS hl; cases h
    | succ f ih =>
      intro g x3 x4 x5 x6 x7 x8 H locs ls h hF hS hl
      replace h : st_X6_speaks_159 F (lp_X6_speaks_159 F f ) g x3 x4 x5 x6 x7 x8 = some u := h
      unfold st_X6_speaks_159 at h
      refine lv_iload hx hb dX6_speaks_159 (lv_at hl 6 rfl) ?_
      refine lv_bipush (v := (10 : Int32)) hx hb dX6_speaks_161 (by decide) ?_
      refine lv_icmp_ge (tgt := 233) hx hb dX6_speaks_163 (by decide) (fun c21 => ?_) (fun c21 => ?_)
      · have h := ift h c21
        refine lv_iconst (v := (1 : Int32)) hx hb dX6_speaks_233 (by decide) ?_
        exact fw_zret hx hb hr hlk rfl h hF hS dX6_speaks_234
      · have h := iff0 h c21
        refine lv_aload_n hx hb dX6_speaks_166 rfl (lv_at hl 0 rfl) ?_
        refine fw_get (C := RX6) (T := TX6) (N := 3) (ci := 6) (v := .ref (fa (mφ μ) 1 0)) hx hb hL6 hown hE hF (e0 μ) (mm0 μ _ _) rfl 0 (by decide) kw1 rfl dX6_speaks_167 ?_
        refine lv_iconst (v := (0 : Int32)) hx hb dX6_speaks_170 (by decide) ?_
        refine lv_iload hx hb dX6_speaks_171 (lv_at hl 5 rfl) ?_
        refine lv_iadd hx hb dX6_speaks_173 ?_
        obtain ⟨k22, h⟩ := ck h
        refine fw_iald (q := (((0 : Int32)) + x7).toNatClampNeg) hx hb hE hF (e1 μ) (mm1 μ _) 0 rfl k22 rfl dX6_speaks_174 ?_
        refine lv_iload hx hb dX6_speaks_175 (lv_at hl 6 rfl) ?_
        obtain ⟨r24, q23, h⟩ := bnd h
        try dsimp only at h
        refine pw_call (va_runS (As := [.int (g 1 0 ((((0 : Int32)) + x7).toNatClampNeg)), .int x8]) (rest := []) ⟨hx, hb, hml, hown, hts⟩ (c_X6_isOf l q23) (va_cwS 2 hts gX6_speaks_X6_isOf rfl rfl rfl qs_X6_isOf ⟨Nat.le_of_ble_eq_true rfl, Nat.le_of_ble_eq_true rfl⟩) preEq rfl rfl hl.1 rfl (lv_room (Nat.le_of_ble_eq_true rfl)) dX6_speaks_177 ⟨Nat.le_refl _, Nat.le_refl _⟩) ?_
        refine lv_if_ne (tgt := 195) hx hb dX6_speaks_180 (by decide) (fun c25 => ?_) (fun c25 => ?_)
        · have h := iff0 h c25
          refine lv_iconst (v := (1 : Int32)) hx hb dX6_speaks_195 (by decide) ?_
          refine lv_goto (tgt := 200) hx hb dX6_speaks_196 (by decide) ?_
          refine lv_istore (lv' := [(9, .int ((1 : Int32))), (0, .ref (fa (mφ μ) 0 0)), (3, .int x3), (4, .int x4), (5, .int x5), (6, .int x6), (7, .int x7), (8, .int x8)]) hx hb dX6_speaks_200 hl (by decide) rfl (fun ls hl => ?_)
          refine lv_iload hx hb dX6_speaks_202 (lv_at hl 0 rfl) ?_
          refine lv_if_eq (tgt := 227) hx hb dX6_speaks_204 (by decide) (fun c26 => absurd c26 (by decide)) (fun _ => ?_)
          refine lv_aload_n hx hb dX6_speaks_207 rfl (lv_at hl 1 rfl) ?_
          refine lv_iload hx hb dX6_speaks_208 (lv_at hl 7 rfl) ?_
          obtain ⟨⟨r28, g29⟩, q27, h⟩ := bnd h
          try dsimp only at h
          refine fw_calli (va_runV (As := [.int x8]) (rest := []) ⟨hx, hb, hml, hown, hts⟩ (c_X6_sleeps l hok q27) (cwV 1 hts gX6_speaks_X6_sleeps rfl rfl rfl qv_X6_sleeps ⟨Nat.le_of_ble_eq_true rfl, Nat.le_of_ble_eq_true rfl⟩) (fw_preV hok hE hF (e0 μ) (mm0 μ _ _) rfl) rfl rfl hl.1 rfl (lv_room (Nat.le_of_ble_eq_true rfl)) dX6_speaks_210 ⟨Nat.le_refl _, Nat.le_refl _⟩) hS (fun H locs hF hS => ?_)
          refine lv_if_ne (tgt := 227) hx hb dX6_speaks_213 (by decide) (fun c31 => ?_) (fun c31 => ?_)
          · have h := iff0 h c31
            refine lv_iinc (v := x8 + (1 : Int32)) (lv' := [(8, .int (x8 + (1 : Int32))), (9, .int ((1 : Int32))), (0, .ref (fa (mφ μ) 0 0)), (3, .int x3), (4, .int x4), (5, .int x5), (6, .int x6), (7, .int x7)]) hx hb dX6_speaks_227 hl (k := 7) rfl rfl (by decide) rfl (fun ls hl => ?_)
            refine lv_goto (tgt := 159) hx hb dX6_speaks_230 (by decide) ?_
            exact ih g29 x3 x4 x5 x6 x7 (x8 + (1 : Int32)) H locs ls h hF hS (lv_sub hl [2, 3, 4, 5, 6, 7, 0] rfl)
          · have h := ift h c31
            refine lv_aload_n hx hb dX6_speaks_216 rfl (lv_at hl 1 rfl) ?_
            refine lv_iload hx hb dX6_speaks_217 (lv_at hl 7 rfl) ?_
            refine lv_iload_n hx hb dX6_speaks_219 rfl (lv_at hl 2 rfl) ?_
            refine lv_iload hx hb dX6_speaks_220 (lv_at hl 3 rfl) ?_
            refine lv_iload hx hb dX6_speaks_222 (lv_at hl 4 rfl) ?_
            obtain ⟨⟨r33, g34⟩, q32, h⟩ := bnd h
            try dsimp only at h
            refine fw_callv (va_runV (As := [.int x8, .int x3, .int x4, .int x5]) (rest := []) ⟨hx, hb, hml, hown, hts⟩ (c_X6_hear l hok q32) (cwV 4 hts gX6_speaks_X6_hear rfl rfl rfl qv_X6_hear ⟨Nat.le_of_ble_eq_true rfl, Nat.le_of_ble_eq_true rfl⟩) (fw_preV hok hE hF (e0 μ) (mm0 μ _ _) rfl) rfl rfl hl.1 rfl (lv_room (Nat.le_of_ble_eq_true rfl)) dX6_speaks_224 ⟨Nat.le_refl _, Nat.le_refl _⟩) hS (fun H locs hF hS => ?_)
            refine lv_iinc (v := x8 + (1 : Int32)) (lv' := [(8, .int (x8 + (1 : Int32))), (9, .int ((1 : Int32))), (0, .ref (fa (mφ μ) 0 0)), (3, .int x3), (4, .int x4), (5, .int x5), (6, .int x6), (7, .int x7)]) hx hb dX6_speaks_227 hl (k := 7) rfl rfl (by decide) rfl (fun ls hl => ?_)
            refine lv_goto (tgt := 159) hx hb dX6_speaks_230 (by decide) ?_
            exact ih g34 x3 x4 x5 x6 x7 (x8 + (1 : Int32)) H locs ls h hF hS (lv_sub hl [2, 3, 4, 5, 6, 7, 0] rfl)
        · have h := ift h c25
          refine lv_iload hx hb dX6_speaks_183 (lv_at hl 4 rfl) ?_
          refine lv_if_ne (tgt := 199) hx hb dX6_speaks_185 (by decide) (fun c36 => ?_) (fun c36 => ?_)
          · have h := iff0 h c36
            refine lv_iconst (v := (0 : Int32)) hx hb dX6_speaks_199 (by decide) ?_
            refine lv_istore (lv' := [(9, .int ((0 : Int32))), (0, .ref (fa (mφ μ) 0 0)), (3, .int x3), (4, .int x4), (5, .int x5), (6, .int x6), (7, .int x7), (8, .int x8)]) hx hb dX6_speaks_200 hl (by decide) rfl (fun ls hl => ?_)
            refine lv_iload hx hb dX6_speaks_202 (lv_at hl 0 rfl) ?_
            refine lv_if_eq (tgt := 227) hx hb dX6_speaks_204 (by decide) (fun _ => ?_) (fun c37 => absurd (by decide) c37)
            refine lv_iinc (v := x8 + (1 : Int32)) (lv' := [(8, .int (x8 + (1 : Int32))), (9, .int ((0 : Int32))), (0, .ref (fa (mφ μ) 0 0)), (3, .int x3), (4, .int x4), (5, .int x5), (6, .int x6), (7, .int x7)]) hx hb dX6_speaks_227 hl (k := 7) rfl rfl (by decide) rfl (fun ls hl => ?_)
            refine lv_goto (tgt := 159) hx hb dX6_speaks_230 (by decide) ?_
            exact ih g x3 x4 x5 x6 x7 (x8 + (1 : Int32)) H locs ls h hF hS (lv_sub hl [2, 3, 4, 5, 6, 7, 0] rfl)
          · have h := ift h c36
            refine lv_iload hx hb dX6_speaks_188 (lv_at hl 6 rfl) ?_
            refine lv_iload hx hb dX6_speaks_190 (lv_at hl 5 rfl) ?_
            refine lv_icmp_ne (tgt := 199) hx hb dX6_speaks_192 (by decide) (fun c38 => ?_) (fun c38 => ?_)
            · have h := iff0 h c38
              refine lv_iconst (v := (0 : Int32)) hx hb dX6_speaks_199 (by decide) ?_
              refine lv_istore (lv' := [(9, .int ((0 : Int32))), (0, .ref (fa (mφ μ) 0 0)), (3, .int x3), (4, .int x4), (5, .int x5), (6, .int x6), (7, .int x7), (8, .int x8)]) hx hb dX6_speaks_200 hl (by decide) rfl (fun ls hl => ?_)
              refine lv_iload hx hb dX6_speaks_202 (lv_at hl 0 rfl) ?_
              refine lv_if_eq (tgt := 227) hx hb dX6_speaks_204 (by decide) (fun _ => ?_) (fun c39 => absurd (by decide) c39)
              refine lv_iinc (v := x8 + (1 : Int32)) (lv' := [(8, .int (x8 + (1 : Int32))), (9, .int ((0 : Int32))), (0, .ref (fa (mφ μ) 0 0)), (3, .int x3), (4, .int x4), (5, .int x5), (6, .int x6), (7, .int x7)]) hx hb dX6_speaks_227 hl (k := 7) rfl rfl (by decide) rfl (fun ls hl => ?_)
              refine lv_goto (tgt := 159) hx hb dX6_speaks_230 (by decide) ?_
              exact ih g x3 x4 x5 x6 x7 (x8 + (1 : Int32)) H locs ls h hF hS (lv_sub hl [2, 3, 4, 5, 6, 7, 0] rfl)
            · have h := ift h c38
              refine lv_iconst (v := (1 : Int32)) hx hb dX6_speaks_195 (by decide) ?_
              refine lv_goto (tgt := 200) hx hb dX6_speaks_196 (by decide) ?_
              refine lv_istore (lv' := [(9, .int ((1 : Int32))), (0, .ref (fa (mφ μ) 0 0)), (3, .int x3), (4, .int x4), (5, .int x5), (6, .int x6), (7, .int x7), (8, .int x8)]) hx hb dX6_speaks_200 hl (by decide) rfl (fun ls hl => ?_)
              refine lv_iload hx hb dX6_speaks_202 (lv_at hl 0 rfl) ?_
              refine lv_if_eq (tgt := 227) hx hb dX6_speaks_204 (by decide) (fun c40 => absurd c40 (by decide)) (fun _ => ?_)
              refine lv_aload_n hx hb dX6_speaks_207 rfl (lv_at hl 1 rfl) ?_
              refine lv_iload hx hb dX6_speaks_208 (lv_at hl 7 rfl) ?_
              obtain ⟨⟨r42, g43⟩, q41, h⟩ := bnd h
              try dsimp only at h
              refine fw_calli (va_runV (As := [.int x8]) (rest := []) ⟨hx, hb, hml, hown, hts⟩ (c_X6_sleeps l hok q41) (cwV 1 hts gX6_speaks_X6_sleeps rfl rfl rfl qv_X6_sleeps ⟨Nat.le_of_ble_eq_true rfl, Nat.le_of_ble_eq_true rfl⟩) (fw_preV hok hE hF (e0 μ) (mm0 μ _ _) rfl) rfl rfl hl.1 rfl (lv_room (Nat.le_of_ble_eq_true rfl)) dX6_speaks_210 ⟨Nat.le_refl _, Nat.le_refl _⟩) hS (fun H locs hF hS => ?_)
              refine lv_if_ne (tgt := 227) hx hb dX6_speaks_213 (by decide) (fun c45 => ?_) (fun c45 => ?_)
              · have h := iff0 h c45
                refine lv_iinc (v := x8 + (1 : Int32)) (lv' := [(8, .int (x8 + (1 : Int32))), (9, .int ((1 : Int32))), (0, .ref (fa (mφ μ) 0 0)), (3, .int x3), (4, .int x4), (5, .int x5), (6, .int x6), (7, .int x7)]) hx hb dX6_speaks_227 hl (k := 7) rfl rfl (by decide) rfl (fun ls hl => ?_)
                refine lv_goto (tgt := 159) hx hb dX6_speaks_230 (by decide) ?_
                exact ih g43 x3 x4 x5 x6 x7 (x8 + (1 : Int32)) H locs ls h hF hS (lv_sub hl [2, 3, 4, 5, 6, 7, 0] rfl)
              · have h := ift h c45
                refine lv_aload_n hx hb dX6_speaks_216 rfl (lv_at hl 1 rfl) ?_
                refine lv_iload hx hb dX6_speaks_217 (lv_at hl 7 rfl) ?_
                refine lv_iload_n hx hb dX6_speaks_219 rfl (lv_at hl 2 rfl) ?_
                refine lv_iload hx hb dX6_speaks_220 (lv_at hl 3 rfl) ?_
                refine lv_iload hx hb dX6_speaks_222 (lv_at hl 4 rfl) ?_
                obtain ⟨⟨r47, g48⟩, q46, h⟩ := bnd h
                try dsimp only at h
                refine fw_callv (va_runV (As := [.int x8, .int x3, .int x4, .int x5]) (rest := []) ⟨hx, hb, hml, hown, hts⟩ (c_X6_hear l hok q46) (cwV 4 hts gX6_speaks_X6_hear rfl rfl rfl qv_X6_hear ⟨Nat.le_of_ble_eq_true rfl, Nat.le_of_ble_eq_true rfl⟩) (fw_preV hok hE hF (e0 μ) (mm0 μ _ _) rfl) rfl rfl hl.1 rfl (lv_room (Nat.le_of_ble_eq_true rfl)) dX6_speaks_224 ⟨Nat.le_refl _, Nat.le_refl _⟩) hS (fun H locs hF hS => ?_)
                refine lv_iinc (v := x8 + (1 : Int32)) (lv' := [(8, .int (x8 + (1 : Int32))), (9, .int ((1 : Int32))), (0, .ref (fa (mφ μ) 0 0)), (3, .int x3), (4, .int x4), (5, .int x5), (6, .int x6), (7, .int x7)]) hx hb dX6_speaks_227 hl (k := 7) rfl rfl (by decide) rfl (fun ls hl => ?_)
                refine lv_goto (tgt := 159) hx hb dX6_speaks_230 (by decide) ?_
                exact ih g48 x3 x4 x5 x6 x7 (x8 + (1 : Int32)) H locs ls h hF hS (lv_sub hl [2, 3, 4, 5, 6, 7, 0] rfl)
  refine lv_aload_n hx hb dX6_speaks_0 rfl (lv_at hl 0 rfl) ?_
  refine fw_get (C := RX6) (T := TX6) (N := 3) (ci := 6) (v := .ref (fa (mφ μ) 1 0)) hx hb hL6 hown hE hF (e0 μ) (mm0 μ _ _) rfl 0 (by decide) kw1 rfl dX6_speaks_1 ?_
  refine lv_sipush (v := (490 : Int32)) hx hb dX6_speaks_4 (by decide) ?_
  refine lv_iconst (v := (5 : Int32)) hx hb dX6_speaks_7 (by decide) ?_
  refine lv_iload_n hx hb dX6_speaks_8 rfl (lv_at hl 1 rfl) ?_
  refine lv_imul hx hb dX6_speaks_9 ?_
  refine lv_iadd hx hb dX6_speaks_10 ?_
  obtain ⟨k1, h⟩ := ck h
  refine fw_iald (q := (((490 : Int32)) + (((5 : Int32)) * a0)).toNatClampNeg) hx hb hE hF (e1 μ) (mm1 μ _) 0 rfl k1 rfl dX6_speaks_11 ?_
  refine lv_istore_n (lv' := [(2, .int (g 1 0 ((((490 : Int32)) + (((5 : Int32)) * a0)).toNatClampNeg))), (0, .ref (fa (mφ μ) 0 0)), (1, .int a0)]) hx hb dX6_speaks_12 rfl hl (by decide) rfl (fun ls hl => ?_)
  refine lv_aload_n hx hb dX6_speaks_13 rfl (lv_at hl 1 rfl) ?_
  refine fw_get (C := RX6) (T := TX6) (N := 3) (ci := 6) (v := .ref (fa (mφ μ) 1 0)) hx hb hL6 hown hE hF (e0 μ) (mm0 μ _ _) rfl 0 (by decide) kw1 rfl dX6_speaks_14 ?_
  refine lv_sipush (v := (490 : Int32)) hx hb dX6_speaks_17 (by decide) ?_
  refine lv_iconst (v := (5 : Int32)) hx hb dX6_speaks_20 (by decide) ?_
  refine lv_iload_n hx hb dX6_speaks_21 rfl (lv_at hl 2 rfl) ?_
  refine lv_imul hx hb dX6_speaks_22 ?_
  refine lv_iadd hx hb dX6_speaks_23 ?_
  refine lv_iconst (v := (2 : Int32)) hx hb dX6_speaks_24 (by decide) ?_
  refine lv_iadd hx hb dX6_speaks_25 ?_
  obtain ⟨k2, h⟩ := ck h
  refine fw_iald (q := ((((490 : Int32)) + (((5 : Int32)) * a0)) + ((2 : Int32))).toNatClampNeg) hx hb hE hF (e1 μ) (mm1 μ _) 0 rfl k2 rfl dX6_speaks_26 ?_
  refine lv_istore_n (lv' := [(3, .int (g 1 0 (((((490 : Int32)) + (((5 : Int32)) * a0)) + ((2 : Int32))).toNatClampNeg))), (2, .int (g 1 0 ((((490 : Int32)) + (((5 : Int32)) * a0)).toNatClampNeg))), (0, .ref (fa (mφ μ) 0 0)), (1, .int a0)]) hx hb dX6_speaks_27 rfl hl (by decide) rfl (fun ls hl => ?_)
  refine lv_aload_n hx hb dX6_speaks_28 rfl (lv_at hl 2 rfl) ?_
  refine fw_get (C := RX6) (T := TX6) (N := 3) (ci := 6) (v := .ref (fa (mφ μ) 1 0)) hx hb hL6 hown hE hF (e0 μ) (mm0 μ _ _) rfl 0 (by decide) kw1 rfl dX6_speaks_29 ?_
  refine lv_sipush (v := (490 : Int32)) hx hb dX6_speaks_32 (by decide) ?_
  refine lv_iconst (v := (5 : Int32)) hx hb dX6_speaks_35 (by decide) ?_
  refine lv_iload_n hx hb dX6_speaks_36 rfl (lv_at hl 3 rfl) ?_
  refine lv_imul hx hb dX6_speaks_37 ?_
  refine lv_iadd hx hb dX6_speaks_38 ?_
  refine lv_iconst (v := (3 : Int32)) hx hb dX6_speaks_39 (by decide) ?_
  refine lv_iadd hx hb dX6_speaks_40 ?_
  obtain ⟨k3, h⟩ := ck h
  refine fw_iald (q := ((((490 : Int32)) + (((5 : Int32)) * a0)) + ((3 : Int32))).toNatClampNeg) hx hb hE hF (e1 μ) (mm1 μ _) 0 rfl k3 rfl dX6_speaks_41 ?_
  refine lv_istore (lv' := [(4, .int (g 1 0 (((((490 : Int32)) + (((5 : Int32)) * a0)) + ((3 : Int32))).toNatClampNeg))), (3, .int (g 1 0 (((((490 : Int32)) + (((5 : Int32)) * a0)) + ((2 : Int32))).toNatClampNeg))), (2, .int (g 1 0 ((((490 : Int32)) + (((5 : Int32)) * a0)).toNatClampNeg))), (0, .ref (fa (mφ μ) 0 0)), (1, .int a0)]) hx hb dX6_speaks_42 hl (by decide) rfl (fun ls hl => ?_)
  refine lv_aload_n hx hb dX6_speaks_44 rfl (lv_at hl 3 rfl) ?_
  refine fw_get (C := RX6) (T := TX6) (N := 3) (ci := 6) (v := .ref (fa (mφ μ) 1 0)) hx hb hL6 hown hE hF (e0 μ) (mm0 μ _ _) rfl 0 (by decide) kw1 rfl dX6_speaks_45 ?_
  refine lv_sipush (v := (490 : Int32)) hx hb dX6_speaks_48 (by decide) ?_
  refine lv_iconst (v := (5 : Int32)) hx hb dX6_speaks_51 (by decide) ?_
  refine lv_iload_n hx hb dX6_speaks_52 rfl (lv_at hl 4 rfl) ?_
  refine lv_imul hx hb dX6_speaks_53 ?_
  refine lv_iadd hx hb dX6_speaks_54 ?_
  refine lv_iconst (v := (4 : Int32)) hx hb dX6_speaks_55 (by decide) ?_
  refine lv_iadd hx hb dX6_speaks_56 ?_
  obtain ⟨k4, h⟩ := ck h
  refine fw_iald (q := ((((490 : Int32)) + (((5 : Int32)) * a0)) + ((4 : Int32))).toNatClampNeg) hx hb hE hF (e1 μ) (mm1 μ _) 0 rfl k4 rfl dX6_speaks_57 ?_
  refine lv_istore (lv' := [(5, .int (g 1 0 (((((490 : Int32)) + (((5 : Int32)) * a0)) + ((4 : Int32))).toNatClampNeg))), (4, .int (g 1 0 (((((490 : Int32)) + (((5 : Int32)) * a0)) + ((3 : Int32))).toNatClampNeg))), (3, .int (g 1 0 (((((490 : Int32)) + (((5 : Int32)) * a0)) + ((2 : Int32))).toNatClampNeg))), (2, .int (g 1 0 ((((490 : Int32)) + (((5 : Int32)) * a0)).toNatClampNeg))), (0, .ref (fa (mφ μ) 0 0)), (1, .int a0)]) hx hb dX6_speaks_58 hl (by decide) rfl (fun ls hl => ?_)
  refine lv_aload_n hx hb dX6_speaks_60 rfl (lv_at hl 4 rfl) ?_
  refine lv_iload_n hx hb dX6_speaks_61 rfl (lv_at hl 5 rfl) ?_
  obtain ⟨⟨r6, g7⟩, q5, h⟩ := bnd h
  try dsimp only at h
  refine fw_callv (va_runV (As := [.int a0]) (rest := []) ⟨hx, hb, hml, hown, hts⟩ (c_X6_removeFromAir l hok q5) (cwV 1 hts gX6_speaks_X6_removeFromAir rfl rfl rfl qv_X6_removeFromAir ⟨Nat.le_of_ble_eq_true rfl, Nat.le_of_ble_eq_true rfl⟩) (fw_preV hok hE hF (e0 μ) (mm0 μ _ _) rfl) rfl rfl hl.1 rfl (lv_room (Nat.le_of_ble_eq_true rfl)) dX6_speaks_62 ⟨Nat.le_refl _, Nat.le_refl _⟩) hS (fun H locs hF hS => ?_)
  refine lv_iload_n hx hb dX6_speaks_65 rfl (lv_at hl 3 rfl) ?_
  refine lv_bipush (v := (10 : Int32)) hx hb dX6_speaks_66 (by decide) ?_
  refine lv_icmp_ge (tgt := 75) hx hb dX6_speaks_68 (by decide) (fun c9 => ?_) (fun c9 => ?_)
  · have h := ift h c9
    refine lv_iconst (v := (0 : Int32)) hx hb dX6_speaks_75 (by decide) ?_
    refine lv_istore (lv' := [(6, .int ((0 : Int32))), (5, .int (g 1 0 (((((490 : Int32)) + (((5 : Int32)) * a0)) + ((4 : Int32))).toNatClampNeg))), (4, .int (g 1 0 (((((490 : Int32)) + (((5 : Int32)) * a0)) + ((3 : Int32))).toNatClampNeg))), (3, .int (g 1 0 (((((490 : Int32)) + (((5 : Int32)) * a0)) + ((2 : Int32))).toNatClampNeg))), (2, .int (g 1 0 ((((490 : Int32)) + (((5 : Int32)) * a0)).toNatClampNeg))), (0, .ref (fa (mφ μ) 0 0)), (1, .int a0)]) hx hb dX6_speaks_76 hl (by decide) rfl (fun ls hl => ?_)
    refine lv_iload hx hb dX6_speaks_78 (lv_at hl 0 rfl) ?_
    refine lv_if_eq (tgt := 105) hx hb dX6_speaks_80 (by decide) (fun _ => ?_) (fun c10 => absurd (by decide) c10)
    refine lv_iload hx hb dX6_speaks_105 (lv_at hl 0 rfl) ?_
    refine lv_if_eq (tgt := 114) hx hb dX6_speaks_107 (by decide) (fun _ => ?_) (fun c11 => absurd (by decide) c11)
    refine lv_iload_n hx hb dX6_speaks_114 rfl (lv_at hl 4 rfl) ?_
    refine lv_bipush (v := (10 : Int32)) hx hb dX6_speaks_115 (by decide) ?_
    refine lv_isub hx hb dX6_speaks_117 ?_
    refine lv_istore (lv' := [(7, .int ((g 1 0 ((((490 : Int32)) + (((5 : Int32)) * a0)).toNatClampNeg)) - ((10 : Int32)))), (6, .int ((0 : Int32))), (5, .int (g 1 0 (((((490 : Int32)) + (((5 : Int32)) * a0)) + ((4 : Int32))).toNatClampNeg))), (4, .int (g 1 0 (((((490 : Int32)) + (((5 : Int32)) * a0)) + ((3 : Int32))).toNatClampNeg))), (3, .int (g 1 0 (((((490 : Int32)) + (((5 : Int32)) * a0)) + ((2 : Int32))).toNatClampNeg))), (2, .int (g 1 0 ((((490 : Int32)) + (((5 : Int32)) * a0)).toNatClampNeg))), (0, .ref (fa (mφ μ) 0 0)), (1, .int a0)]) hx hb dX6_speaks_118 hl (by decide) rfl (fun ls hl => ?_)
    refine lv_aload_n hx hb dX6_speaks_120 rfl (lv_at hl 6 rfl) ?_
    refine fw_get (C := RX6) (T := TX6) (N := 3) (ci := 6) (v := .ref (fa (mφ μ) 1 0)) hx hb hL6 hown hE hF (e0 μ) (mm0 μ _ _) rfl 0 (by decide) kw1 rfl dX6_speaks_121 ?_
    refine lv_sipush (v := (6816 : Int32)) hx hb dX6_speaks_124 (by decide) ?_
    refine lv_dup2_11 hx hb dX6_speaks_127 rfl rfl ?_
    refine fw_iald (q := 6816) hx hb hE hF (e1 μ) (mm1 μ _) 0 rfl (by decide) (by decide) dX6_speaks_128 ?_
    refine lv_iconst (v := (1 : Int32)) hx hb dX6_speaks_129 (by decide) ?_
    refine lv_iadd hx hb dX6_speaks_130 ?_
    refine fw_iast (q := 6816) hx hb hE hok hF hS (e1 μ) (mm1 μ _) 0 rfl (by decide) (by decide) dX6_speaks_131 (fun H locs hF hS => ?_)
    obtain ⟨g14, e15, h⟩ := ltm_e h
    rw [e15] at hF
    refine lv_aload_n hx hb dX6_speaks_132 rfl (lv_at hl 6 rfl) ?_
    refine fw_get (C := RX6) (T := TX6) (N := 3) (ci := 6) (v := .ref (fa (mφ μ) 1 0)) hx hb hL6 hown hE hF (e0 μ) (mm0 μ _ _) rfl 0 (by decide) kw1 rfl dX6_speaks_133 ?_
    refine lv_sipush (v := (140 : Int32)) hx hb dX6_speaks_136 (by decide) ?_
    refine lv_iload hx hb dX6_speaks_139 (lv_at hl 0 rfl) ?_
    refine lv_iadd hx hb dX6_speaks_141 ?_
    refine lv_dup2_11 hx hb dX6_speaks_142 rfl rfl ?_
    obtain ⟨k16, h⟩ := ck h
    refine fw_iald (q := (((140 : Int32)) + ((g 1 0 ((((490 : Int32)) + (((5 : Int32)) * a0)).toNatClampNeg)) - ((10 : Int32)))).toNatClampNeg) hx hb hE hF (e1 μ) (mm1 μ _) 0 rfl k16 rfl dX6_speaks_143 ?_
    refine lv_iload hx hb dX6_speaks_144 (lv_at hl 1 rfl) ?_
    refine lv_if_eq (tgt := 153) hx hb dX6_speaks_146 (by decide) (fun _ => ?_) (fun c17 => absurd (by decide) c17)
    refine lv_iconst (v := (0 : Int32)) hx hb dX6_speaks_153 (by decide) ?_
    refine lv_iadd hx hb dX6_speaks_154 ?_
    obtain ⟨k18, h⟩ := ck h
    refine fw_iast (q := (((140 : Int32)) + ((g 1 0 ((((490 : Int32)) + (((5 : Int32)) * a0)).toNatClampNeg)) - ((10 : Int32)))).toNatClampNeg) hx hb hE hok hF hS (e1 μ) (mm1 μ _) 0 rfl k18 rfl dX6_speaks_155 (fun H locs hF hS => ?_)
    obtain ⟨g19, e20, h⟩ := ltm_e h
    rw [e20] at hF
    refine lv_iconst (v := (0 : Int32)) hx hb dX6_speaks_156 (by decide) ?_
    refine lv_istore (lv' := [(8, .int ((0 : Int32))), (7, .int ((g 1 0 ((((490 : Int32)) + (((5 : Int32)) * a0)).toNatClampNeg)) - ((10 : Int32)))), (6, .int ((0 : Int32))), (5, .int (g 1 0 (((((490 : Int32)) + (((5 : Int32)) * a0)) + ((4 : Int32))).toNatClampNeg))), (4, .int (g 1 0 (((((490 : Int32)) + (((5 : Int32)) * a0)) + ((3 : Int32))).toNatClampNeg))), (3, .int (g 1 0 (((((490 : Int32)) + (((5 : Int32)) * a0)) + ((2 : Int32))).toNatClampNeg))), (2, .int (g 1 0 ((((490 : Int32)) + (((5 : Int32)) * a0)).toNatClampNeg))), (0, .ref (fa (mφ μ) 0 0)), (1, .int a0)]) hx hb dX6_speaks_157 hl (by decide) rfl (fun ls hl => ?_)
    exact LOOP159 F g19 (g 1 0 (((((490 : Int32)) + (((5 : Int32)) * a0)) + ((2 : Int32))).toNatClampNeg)) (g 1 0 (((((490 : Int32)) + (((5 : Int32)) * a0)) + ((3 : Int32))).toNatClampNeg)) (g 1 0 (((((490 : Int32)) + (((5 : Int32)) * a0)) + ((4 : Int32))).toNatClampNeg)) ((0 : Int32)) ((g 1 0 ((((490 : Int32)) + (((5 : Int32)) * a0)).toNatClampNeg)) - ((10 : Int32))) ((0 : Int32)) _ _ ls h hF hS (lv_sub hl [7, 5, 4, 3, 2, 1, 0] rfl)
  · have h := iff0 h c9
    refine lv_iconst (v := (1 : Int32)) hx hb dX6_speaks_71 (by decide) ?_
    refine lv_goto (tgt := 76) hx hb dX6_speaks_72 (by decide) ?_
    refine lv_istore (lv' := [(6, .int ((1 : Int32))), (5, .int (g 1 0 (((((490 : Int32)) + (((5 : Int32)) * a0)) + ((4 : Int32))).toNatClampNeg))), (4, .int (g 1 0 (((((490 : Int32)) + (((5 : Int32)) * a0)) + ((3 : Int32))).toNatClampNeg))), (3, .int (g 1 0 (((((490 : Int32)) + (((5 : Int32)) * a0)) + ((2 : Int32))).toNatClampNeg))), (2, .int (g 1 0 ((((490 : Int32)) + (((5 : Int32)) * a0)).toNatClampNeg))), (0, .ref (fa (mφ μ) 0 0)), (1, .int a0)]) hx hb dX6_speaks_76 hl (by decide) rfl (fun ls hl => ?_)
    refine lv_iload hx hb dX6_speaks_78 (lv_at hl 0 rfl) ?_
    refine lv_if_eq (tgt := 105) hx hb dX6_speaks_80 (by decide) (fun c50 => absurd c50 (by decide)) (fun _ => ?_)
    refine lv_aload_n hx hb dX6_speaks_83 rfl (lv_at hl 5 rfl) ?_
    refine lv_iload_n hx hb dX6_speaks_84 rfl (lv_at hl 4 rfl) ?_
    obtain ⟨⟨r52, g53⟩, q51, h⟩ := bnd h
    try dsimp only at h
    refine fw_calli (va_runV (As := [.int (g 1 0 ((((490 : Int32)) + (((5 : Int32)) * a0)).toNatClampNeg))]) (rest := []) ⟨hx, hb, hml, hown, hts⟩ (c_X6_sleeps l hok q51) (cwV 1 hts gX6_speaks_X6_sleeps rfl rfl rfl qv_X6_sleeps ⟨Nat.le_of_ble_eq_true rfl, Nat.le_of_ble_eq_true rfl⟩) (fw_preV hok hE hF (e0 μ) (mm0 μ _ _) rfl) rfl rfl hl.1 rfl (lv_room (Nat.le_of_ble_eq_true rfl)) dX6_speaks_85 ⟨Nat.le_refl _, Nat.le_refl _⟩) hS (fun H locs hF hS => ?_)
    refine lv_if_eq (tgt := 105) hx hb dX6_speaks_88 (by decide) (fun c55 => ?_) (fun c55 => ?_)
    · have h := ift h c55
      refine lv_iload hx hb dX6_speaks_105 (lv_at hl 0 rfl) ?_
      refine lv_if_eq (tgt := 114) hx hb dX6_speaks_107 (by decide) (fun c56 => absurd c56 (by decide)) (fun _ => ?_)
      refine lv_iload_n hx hb dX6_speaks_110 rfl (lv_at hl 4 rfl) ?_
      refine lv_goto (tgt := 118) hx hb dX6_speaks_111 (by decide) ?_
      refine lv_istore (lv' := [(7, .int (g 1 0 ((((490 : Int32)) + (((5 : Int32)) * a0)).toNatClampNeg))), (6, .int ((1 : Int32))), (5, .int (g 1 0 (((((490 : Int32)) + (((5 : Int32)) * a0)) + ((4 : Int32))).toNatClampNeg))), (4, .int (g 1 0 (((((490 : Int32)) + (((5 : Int32)) * a0)) + ((3 : Int32))).toNatClampNeg))), (3, .int (g 1 0 (((((490 : Int32)) + (((5 : Int32)) * a0)) + ((2 : Int32))).toNatClampNeg))), (2, .int (g 1 0 ((((490 : Int32)) + (((5 : Int32)) * a0)).toNatClampNeg))), (0, .ref (fa (mφ μ) 0 0)), (1, .int a0)]) hx hb dX6_speaks_118 hl (by decide) rfl (fun ls hl => ?_)
      refine lv_aload_n hx hb dX6_speaks_120 rfl (lv_at hl 6 rfl) ?_
      refine fw_get (C := RX6) (T := TX6) (N := 3) (ci := 6) (v := .ref (fa (mφ μ) 1 0)) hx hb hL6 hown hE hF (e0 μ) (mm0 μ _ _) rfl 0 (by decide) kw1 rfl dX6_speaks_121 ?_
      refine lv_sipush (v := (6816 : Int32)) hx hb dX6_speaks_124 (by decide) ?_
      refine lv_dup2_11 hx hb dX6_speaks_127 rfl rfl ?_
      refine fw_iald (q := 6816) hx hb hE hF (e1 μ) (mm1 μ _) 0 rfl (by decide) (by decide) dX6_speaks_128 ?_
      refine lv_iconst (v := (1 : Int32)) hx hb dX6_speaks_129 (by decide) ?_
      refine lv_iadd hx hb dX6_speaks_130 ?_
      refine fw_iast (q := 6816) hx hb hE hok hF hS (e1 μ) (mm1 μ _) 0 rfl (by decide) (by decide) dX6_speaks_131 (fun H locs hF hS => ?_)
      obtain ⟨g59, e60, h⟩ := ltm_e h
      rw [e60] at hF
      refine lv_aload_n hx hb dX6_speaks_132 rfl (lv_at hl 6 rfl) ?_
      refine fw_get (C := RX6) (T := TX6) (N := 3) (ci := 6) (v := .ref (fa (mφ μ) 1 0)) hx hb hL6 hown hE hF (e0 μ) (mm0 μ _ _) rfl 0 (by decide) kw1 rfl dX6_speaks_133 ?_
      refine lv_sipush (v := (140 : Int32)) hx hb dX6_speaks_136 (by decide) ?_
      refine lv_iload hx hb dX6_speaks_139 (lv_at hl 0 rfl) ?_
      refine lv_iadd hx hb dX6_speaks_141 ?_
      refine lv_dup2_11 hx hb dX6_speaks_142 rfl rfl ?_
      obtain ⟨k61, h⟩ := ck h
      refine fw_iald (q := (((140 : Int32)) + (g 1 0 ((((490 : Int32)) + (((5 : Int32)) * a0)).toNatClampNeg))).toNatClampNeg) hx hb hE hF (e1 μ) (mm1 μ _) 0 rfl k61 rfl dX6_speaks_143 ?_
      refine lv_iload hx hb dX6_speaks_144 (lv_at hl 1 rfl) ?_
      refine lv_if_eq (tgt := 153) hx hb dX6_speaks_146 (by decide) (fun c62 => absurd c62 (by decide)) (fun _ => ?_)
      refine lv_iconst (v := (1 : Int32)) hx hb dX6_speaks_149 (by decide) ?_
      refine lv_goto (tgt := 154) hx hb dX6_speaks_150 (by decide) ?_
      refine lv_iadd hx hb dX6_speaks_154 ?_
      obtain ⟨k63, h⟩ := ck h
      refine fw_iast (q := (((140 : Int32)) + (g 1 0 ((((490 : Int32)) + (((5 : Int32)) * a0)).toNatClampNeg))).toNatClampNeg) hx hb hE hok hF hS (e1 μ) (mm1 μ _) 0 rfl k63 rfl dX6_speaks_155 (fun H locs hF hS => ?_)
      obtain ⟨g64, e65, h⟩ := ltm_e h
      rw [e65] at hF
      refine lv_iconst (v := (0 : Int32)) hx hb dX6_speaks_156 (by decide) ?_
      refine lv_istore (lv' := [(8, .int ((0 : Int32))), (7, .int (g 1 0 ((((490 : Int32)) + (((5 : Int32)) * a0)).toNatClampNeg))), (6, .int ((1 : Int32))), (5, .int (g 1 0 (((((490 : Int32)) + (((5 : Int32)) * a0)) + ((4 : Int32))).toNatClampNeg))), (4, .int (g 1 0 (((((490 : Int32)) + (((5 : Int32)) * a0)) + ((3 : Int32))).toNatClampNeg))), (3, .int (g 1 0 (((((490 : Int32)) + (((5 : Int32)) * a0)) + ((2 : Int32))).toNatClampNeg))), (2, .int (g 1 0 ((((490 : Int32)) + (((5 : Int32)) * a0)).toNatClampNeg))), (0, .ref (fa (mφ μ) 0 0)), (1, .int a0)]) hx hb dX6_speaks_157 hl (by decide) rfl (fun ls hl => ?_)
      exact LOOP159 F g64 (g 1 0 (((((490 : Int32)) + (((5 : Int32)) * a0)) + ((2 : Int32))).toNatClampNeg)) (g 1 0 (((((490 : Int32)) + (((5 : Int32)) * a0)) + ((3 : Int32))).toNatClampNeg)) (g 1 0 (((((490 : Int32)) + (((5 : Int32)) * a0)) + ((4 : Int32))).toNatClampNeg)) ((1 : Int32)) (g 1 0 ((((490 : Int32)) + (((5 : Int32)) * a0)).toNatClampNeg)) ((0 : Int32)) _ _ ls h hF hS (lv_sub hl [7, 5, 4, 3, 2, 1, 0] rfl)
    · have h := iff0 h c55
      refine lv_aload_n hx hb dX6_speaks_91 rfl (lv_at hl 5 rfl) ?_
      refine fw_get (C := RX6) (T := TX6) (N := 3) (ci := 6) (v := .ref (fa (mφ μ) 1 0)) hx hb hL6 hown hE hF (e0 μ) (mm0 μ _ _) rfl 0 (by decide) kw1 rfl dX6_speaks_92 ?_
      refine lv_sipush (v := (6818 : Int32)) hx hb dX6_speaks_95 (by decide) ?_
      refine lv_dup2_11 hx hb dX6_speaks_98 rfl rfl ?_
      refine fw_iald (q := 6818) hx hb hE hF (e1 μ) (mm1 μ _) 0 rfl (by decide) (by decide) dX6_speaks_99 ?_
      refine lv_iconst (v := (1 : Int32)) hx hb dX6_speaks_100 (by decide) ?_
      refine lv_iadd hx hb dX6_speaks_101 ?_
      refine fw_iast (q := 6818) hx hb hE hok hF hS (e1 μ) (mm1 μ _) 0 rfl (by decide) (by decide) dX6_speaks_102 (fun H locs hF hS => ?_)
      obtain ⟨g68, e69, h⟩ := ltm_e h
      rw [e69] at hF
      refine lv_iconst (v := (0 : Int32)) hx hb dX6_speaks_103 (by decide) ?_
      exact fw_zret hx hb hr hlk rfl h hF hS dX6_speaks_104
def st_X6_goOn_19 (F : Nat) (K : Mem → Int32 → Int32 → Option (Int32 × Mem)) (g : Mem) (x1 x2 : Int32) : Option (Int32 × Mem) := (if x2 < 0 then some (x1, g) else (m_X6_speaks F g x2).bind (fun (r11, g12) => (if r11 = 0 then (m_X6_dueNow F g12 ).bind (fun (r16, g17) => K g17 (x1 + ((0 : Int32))) r16) else (m_X6_dueNow F g12 ).bind (fun (r20, g21) => K g21 (x1 + ((1 : Int32))) r20))))
def lp_X6_goOn_19 (F : Nat) : Nat → Mem → Int32 → Int32 → Option (Int32 × Mem)
  | 0, _, _, _ => none
  | f + 1, g, x1, x2 => st_X6_goOn_19 F (lp_X6_goOn_19 F f ) g x1 x2
def m_X6_goOn (F : Nat) (g : Mem) : Option (Int32 × Mem) := ltm (upr g 1 0 (upd (g 1 0) 6810 ((g 1 0 6810) + ((1 : Int32))))) (fun g3 => (m_X6_dueNow F g3 ).bind (fun (r6, g7) => lp_X6_goOn_19 F F g7 ((0 : Int32)) r6))
set_option maxHeartbeats 4000000 in
set_option maxRecDepth 100000 in
theorem c_X6_goOn (l : Launch) {μ : Mx} (hok : fok (mφ μ))  {F : Nat} {g : Mem} {u : Int32 × Mem} (h : m_X6_goOn F g  = some u) : fM l (mφ μ) yX6_goOn wsX6_goOn 4 101 [.ref (fa (mφ μ) 0 0)] g (some (.int u.1)) u.2 := by
  refine fM.of (cc := cX6_goOn) (maxL := 3) (ret := (some .int)) [(0, .ref (fa (mφ μ) 0 0))] (by decide) rfl (Nat.le_of_ble_eq_true rfl) rfl (fun p e s m below meth c ls hx hb hr hml hown hts hlk hE hF hS hl => ?_)
  replace hown : s.vm.findClass RX6 = some m.cls := hown
  have hL6 : ∀ w ∈ u_ws RX6 TX6 3, w.before ([.ref (fa (mφ μ) 0 0)] : List Value).toArray s = true := fun w hw => hts w (by
    unfold wsX6_goOn
    simp only [List.mem_cons, List.mem_append]
    exact Or.inr (Or.inr hw))
  have kw1 := hts (.fieldLink RX6 7 "MeshLampsModel" "state" "[I") (List.mem_of_getElem? (i := 1) rfl)
  unfold m_X6_goOn at h
  refine lv_aload_n hx hb dX6_goOn_0 rfl (lv_at hl 0 rfl) ?_
  refine fw_get (C := RX6) (T := TX6) (N := 3) (ci := 6) (v := .ref (fa (mφ μ) 1 0)) hx hb hL6 hown hE hF (e0 μ) (mm0 μ _ _) rfl 0 (by decide) kw1 rfl dX6_goOn_1 ?_
  refine lv_sipush (v := (6810 : Int32)) hx hb dX6_goOn_4 (by decide) ?_
  refine lv_dup2_11 hx hb dX6_goOn_7 rfl rfl ?_
  refine fw_iald (q := 6810) hx hb hE hF (e1 μ) (mm1 μ _) 0 rfl (by decide) (by decide) dX6_goOn_8 ?_
  refine lv_iconst (v := (1 : Int32)) hx hb dX6_goOn_9 (by decide) ?_
  refine lv_iadd hx hb dX6_goOn_10 ?_
  refine fw_iast (q := 6810) hx hb hE hok hF hS (e1 μ) (mm1 μ _) 0 rfl (by decide) (by decide) dX6_goOn_11 (fun H locs hF hS => ?_)
  obtain ⟨g3, e4, h⟩ := ltm_e h
  rw [e4] at hF
  refine lv_iconst (v := (0 : Int32)) hx hb dX6_goOn_12 (by decide) ?_
  refine lv_istore_n (lv' := [(1, .int ((0 : Int32))), (0, .ref (fa (mφ μ) 0 0))]) hx hb dX6_goOn_13 rfl hl (by decide) rfl (fun ls hl => ?_)
  refine lv_aload_n hx hb dX6_goOn_14 rfl (lv_at hl 1 rfl) ?_
  obtain ⟨⟨r6, g7⟩, q5, h⟩ := bnd h
  try dsimp only at h
  refine fw_calli (va_runV (As := []) (rest := []) ⟨hx, hb, hml, hown, hts⟩ (c_X6_dueNow l hok q5) (cwV 0 hts gX6_goOn_X6_dueNow rfl rfl rfl qv_X6_dueNow ⟨Nat.le_of_ble_eq_true rfl, Nat.le_of_ble_eq_true rfl⟩) (fw_preV hok hE hF (e0 μ) (mm0 μ _ _) rfl) rfl rfl hl.1 rfl (lv_room (Nat.le_of_ble_eq_true rfl)) dX6_goOn_15 ⟨Nat.le_refl _, Nat.le_refl _⟩) hS (fun H locs hF hS => ?_)
  refine lv_istore_n (lv' := [(2, .int r6), (1, .int ((0 : Int32))), (0, .ref (fa (mφ μ) 0 0))]) hx hb dX6_goOn_18 rfl hl (by decide) rfl (fun ls hl => ?_)
  have LOOP19 : ∀ (f : Nat) (g : Mem) (x1 x2 : Int32) (H : Heap) (locs : List Loc) (ls : Array Slot), lp_X6_goOn_19 F f g x1 x2 = some u → fw (mφ μ) g H → va_S (fA (mφ μ)) s.heap H locs → lv_has ls 3 [(0, .ref (fa (mφ μ) 0 0)), (1, .int x1), (2, .int x2)] → W p l e ({ frames := 4, cells := 0, slots := 0, locals := 101 }) s m ([.ref (fa (mφ μ) 0 0)] : List Value).toArray below meth c H locs 0 0 (MQ below (fQ (mφ μ) (some (.int u.1)) u.2) ([.ref (fa (mφ μ) 0 0)] : List Value).toArray s 0 0 (fA (mφ μ))) (F0 m 19 ls []) := by
    intro f
    induction f with
    | zero => intro g x1 x2 H locs ls h hF hS hl; cases h
    | succ f ih =>
      intro g x1 x2 H locs ls h hF hS hl
      replace h : st_X6_goOn_19 F (lp_X6_goOn_19 F f ) g x1 x2 = some u := h
      unfold st_X6_goOn_19 at h
      refine lv_iload_n hx hb dX6_goOn_19 rfl (lv_at hl 2 rfl) ?_
      refine lv_if_lt (tgt := 47) hx hb dX6_goOn_20 (by decide) (fun c9 => ?_) (fun c9 => ?_)
      · have h := ift h c9
        refine lv_iload_n hx hb dX6_goOn_47 rfl (lv_at hl 1 rfl) ?_
        exact fw_iret hx hb hr hlk h hF hS dX6_goOn_48
      · have h := iff0 h c9
        refine lv_iload_n hx hb dX6_goOn_23 rfl (lv_at hl 1 rfl) ?_
        refine lv_aload_n hx hb dX6_goOn_24 rfl (lv_at hl 0 rfl) ?_
        refine lv_iload_n hx hb dX6_goOn_25 rfl (lv_at hl 2 rfl) ?_
        obtain ⟨⟨r11, g12⟩, q10, h⟩ := bnd h
        try dsimp only at h
        refine fw_calli (va_runV (As := [.int x2]) (rest := [.int x1]) ⟨hx, hb, hml, hown, hts⟩ (c_X6_speaks l hok q10) (cwV 1 hts gX6_goOn_X6_speaks rfl rfl rfl qv_X6_speaks ⟨Nat.le_of_ble_eq_true rfl, Nat.le_of_ble_eq_true rfl⟩) (fw_preV hok hE hF (e0 μ) (mm0 μ _ _) rfl) rfl rfl hl.1 rfl (lv_room (Nat.le_of_ble_eq_true rfl)) dX6_goOn_26 ⟨Nat.le_refl _, Nat.le_refl _⟩) hS (fun H locs hF hS => ?_)
        refine lv_if_eq (tgt := 36) hx hb dX6_goOn_29 (by decide) (fun c14 => ?_) (fun c14 => ?_)
        · have h := ift h c14
          refine lv_iconst (v := (0 : Int32)) hx hb dX6_goOn_36 (by decide) ?_
          refine lv_iadd hx hb dX6_goOn_37 ?_
          refine lv_istore_n (lv' := [(1, .int (x1 + ((0 : Int32)))), (0, .ref (fa (mφ μ) 0 0)), (2, .int x2)]) hx hb dX6_goOn_38 rfl hl (by decide) rfl (fun ls hl => ?_)
          refine lv_aload_n hx hb dX6_goOn_39 rfl (lv_at hl 1 rfl) ?_
          obtain ⟨⟨r16, g17⟩, q15, h⟩ := bnd h
          try dsimp only at h
          refine fw_calli (va_runV (As := []) (rest := []) ⟨hx, hb, hml, hown, hts⟩ (c_X6_dueNow l hok q15) (cwV 0 hts gX6_goOn_X6_dueNow rfl rfl rfl qv_X6_dueNow ⟨Nat.le_of_ble_eq_true rfl, Nat.le_of_ble_eq_true rfl⟩) (fw_preV hok hE hF (e0 μ) (mm0 μ _ _) rfl) rfl rfl hl.1 rfl (lv_room (Nat.le_of_ble_eq_true rfl)) dX6_goOn_40 ⟨Nat.le_refl _, Nat.le_refl _⟩) hS (fun H locs hF hS => ?_)
          refine lv_istore_n (lv' := [(2, .int r16), (1, .int (x1 + ((0 : Int32)))), (0, .ref (fa (mφ μ) 0 0))]) hx hb dX6_goOn_43 rfl hl (by decide) rfl (fun ls hl => ?_)
          refine lv_goto (tgt := 19) hx hb dX6_goOn_44 (by decide) ?_
          exact ih g17 (x1 + ((0 : Int32))) r16 H locs ls h hF hS (lv_sub hl [2, 1, 0] rfl)
        · have h := iff0 h c14
          refine lv_iconst (v := (1 : Int32)) hx hb dX6_goOn_32 (by decide) ?_
          refine lv_goto (tgt := 37) hx hb dX6_goOn_33 (by decide) ?_
          refine lv_iadd hx hb dX6_goOn_37 ?_
          refine lv_istore_n (lv' := [(1, .int (x1 + ((1 : Int32)))), (0, .ref (fa (mφ μ) 0 0)), (2, .int x2)]) hx hb dX6_goOn_38 rfl hl (by decide) rfl (fun ls hl => ?_)
          refine lv_aload_n hx hb dX6_goOn_39 rfl (lv_at hl 1 rfl) ?_
          obtain ⟨⟨r20, g21⟩, q19, h⟩ := bnd h
          try dsimp only at h
          refine fw_calli (va_runV (As := []) (rest := []) ⟨hx, hb, hml, hown, hts⟩ (c_X6_dueNow l hok q19) (cwV 0 hts gX6_goOn_X6_dueNow rfl rfl rfl qv_X6_dueNow ⟨Nat.le_of_ble_eq_true rfl, Nat.le_of_ble_eq_true rfl⟩) (fw_preV hok hE hF (e0 μ) (mm0 μ _ _) rfl) rfl rfl hl.1 rfl (lv_room (Nat.le_of_ble_eq_true rfl)) dX6_goOn_40 ⟨Nat.le_refl _, Nat.le_refl _⟩) hS (fun H locs hF hS => ?_)
          refine lv_istore_n (lv' := [(2, .int r20), (1, .int (x1 + ((1 : Int32)))), (0, .ref (fa (mφ μ) 0 0))]) hx hb dX6_goOn_43 rfl hl (by decide) rfl (fun ls hl => ?_)
          refine lv_goto (tgt := 19) hx hb dX6_goOn_44 (by decide) ?_
          exact ih g21 (x1 + ((1 : Int32))) r20 H locs ls h hF hS (lv_sub hl [2, 1, 0] rfl)
  exact LOOP19 F g7 ((0 : Int32)) r6 _ _ ls h hF hS (lv_sub hl [2, 1, 0] rfl)
def st_X6_asleep_4 (F : Nat) (K : Mem → Int32 → Int32 → Option (Int32 × Mem)) (g : Mem) (x1 x2 : Int32) : Option (Int32 × Mem) := (if ((10 : Int32)) ≤ x2 then some (x1, g) else if (((60 : Int32)) + x2 < 0 ∨ 6819 ≤ (((60 : Int32)) + x2).toNatClampNeg) then none else K g (x1 + (g 1 0 ((((60 : Int32)) + x2).toNatClampNeg))) (x2 + (1 : Int32)))
def lp_X6_asleep_4 (F : Nat) : Nat → Mem → Int32 → Int32 → Option (Int32 × Mem)
  | 0, _, _, _ => none
  | f + 1, g, x1, x2 => st_X6_asleep_4 F (lp_X6_asleep_4 F f ) g x1 x2
def m_X6_asleep (F : Nat) (g : Mem) : Option (Int32 × Mem) := lp_X6_asleep_4 F F g ((0 : Int32)) ((0 : Int32))
set_option maxHeartbeats 4000000 in
set_option maxRecDepth 100000 in
theorem c_X6_asleep (l : Launch) {μ : Mx} (hok : fok (mφ μ))  {F : Nat} {g : Mem} {u : Int32 × Mem} (h : m_X6_asleep F g  = some u) : fM l (mφ μ) yX6_asleep wsX6_asleep 0 0 [.ref (fa (mφ μ) 0 0)] g (some (.int u.1)) u.2 := by
  refine fM.of (cc := cX6_asleep) (maxL := 3) (ret := (some .int)) [(0, .ref (fa (mφ μ) 0 0))] (by decide) rfl (Nat.le_of_ble_eq_true rfl) rfl (fun p e s m below meth c ls hx hb hr hml hown hts hlk hE hF hS hl => ?_)
  replace hown : s.vm.findClass RX6 = some m.cls := hown
  have hL6 : ∀ w ∈ u_ws RX6 TX6 3, w.before ([.ref (fa (mφ μ) 0 0)] : List Value).toArray s = true := fun w hw => hts w (by
    unfold wsX6_asleep
    simp only [List.mem_cons, List.mem_append]
    exact Or.inr (Or.inr hw))
  have kw1 := hts (.fieldLink RX6 7 "MeshLampsModel" "state" "[I") (List.mem_of_getElem? (i := 1) rfl)
  unfold m_X6_asleep at h
  refine lv_iconst (v := (0 : Int32)) hx hb dX6_asleep_0 (by decide) ?_
  refine lv_istore_n (lv' := [(1, .int ((0 : Int32))), (0, .ref (fa (mφ μ) 0 0))]) hx hb dX6_asleep_1 rfl hl (by decide) rfl (fun ls hl => ?_)
  refine lv_iconst (v := (0 : Int32)) hx hb dX6_asleep_2 (by decide) ?_
  refine lv_istore_n (lv' := [(2, .int ((0 : Int32))), (1, .int ((0 : Int32))), (0, .ref (fa (mφ μ) 0 0))]) hx hb dX6_asleep_3 rfl hl (by decide) rfl (fun ls hl => ?_)
  have LOOP4 : ∀ (f : Nat) (g : Mem) (x1 x2 : Int32) (H : Heap) (locs : List Loc) (ls : Array Slot), lp_X6_asleep_4 F f g x1 x2 = some u → fw (mφ μ) g H → va_S (fA (mφ μ)) s.heap H locs → lv_has ls 3 [(0, .ref (fa (mφ μ) 0 0)), (1, .int x1), (2, .int x2)] → W p l e ({ frames := 0, cells := 0, slots := 0, locals := 0 }) s m ([.ref (fa (mφ μ) 0 0)] : List Value).toArray below meth c H locs 0 0 (MQ below (fQ (mφ μ) (some (.int u.1)) u.2) ([.ref (fa (mφ μ) 0 0)] : List Value).toArray s 0 0 (fA (mφ μ))) (F0 m 4 ls []) := by
    intro f
    induction f with
    | zero => intro g x1 x2 H locs ls h hF hS hl; cases h
    | succ f ih =>
      intro g x1 x2 H locs ls h hF hS hl
      replace h : st_X6_asleep_4 F (lp_X6_asleep_4 F f ) g x1 x2 = some u := h
      unfold st_X6_asleep_4 at h
      refine lv_iload_n hx hb dX6_asleep_4 rfl (lv_at hl 2 rfl) ?_
      refine lv_bipush (v := (10 : Int32)) hx hb dX6_asleep_5 (by decide) ?_
      refine lv_icmp_ge (tgt := 28) hx hb dX6_asleep_7 (by decide) (fun c1 => ?_) (fun c1 => ?_)
      · have h := ift h c1
        refine lv_iload_n hx hb dX6_asleep_28 rfl (lv_at hl 1 rfl) ?_
        exact fw_iret hx hb hr hlk h hF hS dX6_asleep_29
      · have h := iff0 h c1
        refine lv_iload_n hx hb dX6_asleep_10 rfl (lv_at hl 1 rfl) ?_
        refine lv_aload_n hx hb dX6_asleep_11 rfl (lv_at hl 0 rfl) ?_
        refine fw_get (C := RX6) (T := TX6) (N := 3) (ci := 6) (v := .ref (fa (mφ μ) 1 0)) hx hb hL6 hown hE hF (e0 μ) (mm0 μ _ _) rfl 0 (by decide) kw1 rfl dX6_asleep_12 ?_
        refine lv_bipush (v := (60 : Int32)) hx hb dX6_asleep_15 (by decide) ?_
        refine lv_iload_n hx hb dX6_asleep_17 rfl (lv_at hl 2 rfl) ?_
        refine lv_iadd hx hb dX6_asleep_18 ?_
        obtain ⟨k2, h⟩ := ck h
        refine fw_iald (q := (((60 : Int32)) + x2).toNatClampNeg) hx hb hE hF (e1 μ) (mm1 μ _) 0 rfl k2 rfl dX6_asleep_19 ?_
        refine lv_iadd hx hb dX6_asleep_20 ?_
        refine lv_istore_n (lv' := [(1, .int (x1 + (g 1 0 ((((60 : Int32)) + x2).toNatClampNeg)))), (0, .ref (fa (mφ μ) 0 0)), (2, .int x2)]) hx hb dX6_asleep_21 rfl hl (by decide) rfl (fun ls hl => ?_)
        refine lv_iinc (v := x2 + (1 : Int32)) (lv' := [(2, .int (x2 + (1 : Int32))), (1, .int (x1 + (g 1 0 ((((60 : Int32)) + x2).toNatClampNeg)))), (0, .ref (fa (mφ μ) 0 0))]) hx hb dX6_asleep_22 hl (k := 2) rfl rfl (by decide) rfl (fun ls hl => ?_)
        refine lv_goto (tgt := 4) hx hb dX6_asleep_25 (by decide) ?_
        exact ih g (x1 + (g 1 0 ((((60 : Int32)) + x2).toNatClampNeg))) (x2 + (1 : Int32)) H locs ls h hF hS (lv_sub hl [2, 1, 0] rfl)
  exact LOOP4 F g ((0 : Int32)) ((0 : Int32)) _ _ ls h hF hS (lv_sub hl [2, 1, 0] rfl)
def st_X6_lights_4 (F : Nat) (K : Mem → Int32 → Int32 → Option (Int32 × Mem)) (g : Mem) (x1 x2 : Int32) : Option (Int32 × Mem) := (if ((10 : Int32)) ≤ x2 then some (x1, g) else if (((50 : Int32)) + x2 < 0 ∨ 6819 ≤ (((50 : Int32)) + x2).toNatClampNeg) then none else K g (x1 + (g 1 0 ((((50 : Int32)) + x2).toNatClampNeg))) (x2 + (1 : Int32)))
def lp_X6_lights_4 (F : Nat) : Nat → Mem → Int32 → Int32 → Option (Int32 × Mem)
  | 0, _, _, _ => none
  | f + 1, g, x1, x2 => st_X6_lights_4 F (lp_X6_lights_4 F f ) g x1 x2
def m_X6_lights (F : Nat) (g : Mem) : Option (Int32 × Mem) := lp_X6_lights_4 F F g ((0 : Int32)) ((0 : Int32))
set_option maxHeartbeats 4000000 in
set_option maxRecDepth 100000 in
theorem c_X6_lights (l : Launch) {μ : Mx} (hok : fok (mφ μ))  {F : Nat} {g : Mem} {u : Int32 × Mem} (h : m_X6_lights F g  = some u) : fM l (mφ μ) yX6_lights wsX6_lights 0 0 [.ref (fa (mφ μ) 0 0)] g (some (.int u.1)) u.2 := by
  refine fM.of (cc := cX6_lights) (maxL := 3) (ret := (some .int)) [(0, .ref (fa (mφ μ) 0 0))] (by decide) rfl (Nat.le_of_ble_eq_true rfl) rfl (fun p e s m below meth c ls hx hb hr hml hown hts hlk hE hF hS hl => ?_)
  replace hown : s.vm.findClass RX6 = some m.cls := hown
  have hL6 : ∀ w ∈ u_ws RX6 TX6 3, w.before ([.ref (fa (mφ μ) 0 0)] : List Value).toArray s = true := fun w hw => hts w (by
    unfold wsX6_lights
    simp only [List.mem_cons, List.mem_append]
    exact Or.inr (Or.inr hw))
  have kw1 := hts (.fieldLink RX6 7 "MeshLampsModel" "state" "[I") (List.mem_of_getElem? (i := 1) rfl)
  unfold m_X6_lights at h
  refine lv_iconst (v := (0 : Int32)) hx hb dX6_lights_0 (by decide) ?_
  refine lv_istore_n (lv' := [(1, .int ((0 : Int32))), (0, .ref (fa (mφ μ) 0 0))]) hx hb dX6_lights_1 rfl hl (by decide) rfl (fun ls hl => ?_)
  refine lv_iconst (v := (0 : Int32)) hx hb dX6_lights_2 (by decide) ?_
  refine lv_istore_n (lv' := [(2, .int ((0 : Int32))), (1, .int ((0 : Int32))), (0, .ref (fa (mφ μ) 0 0))]) hx hb dX6_lights_3 rfl hl (by decide) rfl (fun ls hl => ?_)
  have LOOP4 : ∀ (f : Nat) (g : Mem) (x1 x2 : Int32) (H : Heap) (locs : List Loc) (ls : Array Slot), lp_X6_lights_4 F f g x1 x2 = some u → fw (mφ μ) g H → va_S (fA (mφ μ)) s.heap H locs → lv_has ls 3 [(0, .ref (fa (mφ μ) 0 0)), (1, .int x1), (2, .int x2)] → W p l e ({ frames := 0, cells := 0, slots := 0, locals := 0 }) s m ([.ref (fa (mφ μ) 0 0)] : List Value).toArray below meth c H locs 0 0 (MQ below (fQ (mφ μ) (some (.int u.1)) u.2) ([.ref (fa (mφ μ) 0 0)] : List Value).toArray s 0 0 (fA (mφ μ))) (F0 m 4 ls []) := by
    intro f
    induction f with
    | zero => intro g x1 x2 H locs ls h hF hS hl; cases h
    | succ f ih =>
      intro g x1 x2 H locs ls h hF hS hl
      replace h : st_X6_lights_4 F (lp_X6_lights_4 F f ) g x1 x2 = some u := h
      unfold st_X6_lights_4 at h
      refine lv_iload_n hx hb dX6_lights_4 rfl (lv_at hl 2 rfl) ?_
      refine lv_bipush (v := (10 : Int32)) hx hb dX6_lights_5 (by decide) ?_
      refine lv_icmp_ge (tgt := 28) hx hb dX6_lights_7 (by decide) (fun c1 => ?_) (fun c1 => ?_)
      · have h := ift h c1
        refine lv_iload_n hx hb dX6_lights_28 rfl (lv_at hl 1 rfl) ?_
        exact fw_iret hx hb hr hlk h hF hS dX6_lights_29
      · have h := iff0 h c1
        refine lv_iload_n hx hb dX6_lights_10 rfl (lv_at hl 1 rfl) ?_
        refine lv_aload_n hx hb dX6_lights_11 rfl (lv_at hl 0 rfl) ?_
        refine fw_get (C := RX6) (T := TX6) (N := 3) (ci := 6) (v := .ref (fa (mφ μ) 1 0)) hx hb hL6 hown hE hF (e0 μ) (mm0 μ _ _) rfl 0 (by decide) kw1 rfl dX6_lights_12 ?_
        refine lv_bipush (v := (50 : Int32)) hx hb dX6_lights_15 (by decide) ?_
        refine lv_iload_n hx hb dX6_lights_17 rfl (lv_at hl 2 rfl) ?_
        refine lv_iadd hx hb dX6_lights_18 ?_
        obtain ⟨k2, h⟩ := ck h
        refine fw_iald (q := (((50 : Int32)) + x2).toNatClampNeg) hx hb hE hF (e1 μ) (mm1 μ _) 0 rfl k2 rfl dX6_lights_19 ?_
        refine lv_iadd hx hb dX6_lights_20 ?_
        refine lv_istore_n (lv' := [(1, .int (x1 + (g 1 0 ((((50 : Int32)) + x2).toNatClampNeg)))), (0, .ref (fa (mφ μ) 0 0)), (2, .int x2)]) hx hb dX6_lights_21 rfl hl (by decide) rfl (fun ls hl => ?_)
        refine lv_iinc (v := x2 + (1 : Int32)) (lv' := [(2, .int (x2 + (1 : Int32))), (1, .int (x1 + (g 1 0 ((((50 : Int32)) + x2).toNatClampNeg)))), (0, .ref (fa (mφ μ) 0 0))]) hx hb dX6_lights_22 hl (k := 2) rfl rfl (by decide) rfl (fun ls hl => ?_)
        refine lv_goto (tgt := 4) hx hb dX6_lights_25 (by decide) ?_
        exact ih g (x1 + (g 1 0 ((((50 : Int32)) + x2).toNatClampNeg))) (x2 + (1 : Int32)) H locs ls h hF hS (lv_sub hl [2, 1, 0] rfl)
  exact LOOP4 F g ((0 : Int32)) ((0 : Int32)) _ _ ls h hF hS (lv_sub hl [2, 1, 0] rfl)
