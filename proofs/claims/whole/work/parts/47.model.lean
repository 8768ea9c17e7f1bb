
/-! the reference as it is made -/
def rI (i : Nat) : Nat → Int32 := fun x => if 10 ≤ x ∧ x < 10 + i then 1 else if 20 ≤ x ∧ x < 20 + i then 1 else if 30 ≤ x ∧ x < 30 + i then 4 else if 70 ≤ x ∧ x < 70 + i then -6 else 0
theorem rI_0 : rI 0 = fun _ => 0 := by
  funext x
  unfold rI
  rw [if_neg (by omega), if_neg (by omega), if_neg (by omega), if_neg (by omega)]
theorem rI_s {i : Nat} (hi : i < 10) : upd (upd (upd (upd (rI i) (10 + i) 1) (20 + i) 1) (30 + i) 4) (70 + i) (-6) = rI (i + 1) := by
  funext x
  by_cases a : x = 70 + i
  · subst a
    rw [upd_s]
    unfold rI
    rw [if_neg (by omega), if_neg (by omega), if_neg (by omega), if_pos (by omega)]
  · rw [upd_n a]
    by_cases b : x = 30 + i
    · subst b
      rw [upd_s]
      unfold rI
      rw [if_neg (by omega), if_neg (by omega), if_pos (by omega)]
    · rw [upd_n b]
      by_cases c : x = 20 + i
      · subst c
        rw [upd_s]
        unfold rI
        rw [if_neg (by omega), if_pos (by omega)]
      · rw [upd_n c]
        by_cases d : x = 10 + i
        · subst d
          rw [upd_s]
          unfold rI
          rw [if_pos (by omega)]
        · rw [upd_n d]
          unfold rI
          have e1 : (10 ≤ x ∧ x < 10 + i) ↔ (10 ≤ x ∧ x < 10 + (i + 1)) := by omega
          have e2 : (20 ≤ x ∧ x < 20 + i) ↔ (20 ≤ x ∧ x < 20 + (i + 1)) := by omega
          have e3 : (30 ≤ x ∧ x < 30 + i) ↔ (30 ≤ x ∧ x < 30 + (i + 1)) := by omega
          have e4 : (70 ≤ x ∧ x < 70 + i) ↔ (70 ≤ x ∧ x < 70 + (i + 1)) := by omega
          simp only [e1, e2, e3, e4]
def fI : Mem := fun k _ => match k with
  | 1 => upd (rI 10) 6813 1023
  | _ => (fun _ => 0)
def mad (h0 q1 q2 q3 : Nat) : Nat → Nat → Nat := fun k _ => if k = 0 then h0 else if k = 1 then q1 else if k = 2 then q2 else q3
def mL (cI cZ : ClassId) (h0 q1 q2 q3 : Nat) (r : Nat → Int32) : va_W := [(h0, .inr (6, [.ref q1, .ref q2, .ref q3])), (q1, .inl (cI, 6819, .inl r)), (q2, .inl (cI, 13638, .inl (fun _ => 0))), (q3, .inl (cZ, 2, .inl (fun _ => 0)))]
theorem first_mw {D : va_G} {cI cZ : ClassId} {h0 q1 q2 q3 : Nat} {H : Heap} {A : Nat → Prop} (hP : va_P D vwCl (mL cI cZ h0 q1 q2 q3 (upd (rI 10) 6813 1023)) H) (hD : va_D A (mL cI cZ h0 q1 q2 q3 (upd (rI 10) 6813 1023))) : fw (mφ (D, cI, cZ, mad h0 q1 q2 q3)) fI H ∧ fok (mφ (D, cI, cZ, mad h0 q1 q2 q3)) ∧ ∀ q, fA (mφ (D, cI, cZ, mad h0 q1 q2 q3)) q → A q := by
  have cnt : ∀ k i : Nat, i < fC (mφ (D, cI, cZ, mad h0 q1 q2 q3)) k → k < 4 ∧ i = 0 := by
    intro k i hi
    have hi : i < if k < 4 then 1 else 0 := hi
    by_cases h : k < 4
    · rw [if_pos h] at hi
      exact ⟨h, by omega⟩
    · rw [if_neg h] at hi
      omega
  have pl : ∀ k : Nat, k < 4 → ∃ e : va_E, (mL cI cZ h0 q1 q2 q3 (upd (rI 10) 6813 1023))[k]? = some (mad h0 q1 q2 q3 k 0, e) := by
    intro k hk
    have : k = 0 ∨ k = 1 ∨ k = 2 ∨ k = 3 := by omega
    rcases this with rfl | rfl | rfl | rfl
    · exact ⟨_, rfl⟩
    · exact ⟨_, rfl⟩
    · exact ⟨_, rfl⟩
    · exact ⟨_, rfl⟩
  refine ⟨?_, ⟨?_, ?_, fun w hw => by cases hw⟩, ?_⟩
  · intro k i hi
    obtain ⟨h1, rfl⟩ := cnt k i hi
    have : k = 0 ∨ k = 1 ∨ k = 2 ∨ k = 3 := by omega
    rcases this with rfl | rfl | rfl | rfl
    · exact hP 0 _ rfl
    · exact hP 1 _ rfl
    · exact hP 2 _ rfl
    · exact hP 3 _ rfl
  · intro k i k' i' hi hi' e
    obtain ⟨h1, rfl⟩ := cnt k i hi
    obtain ⟨h1', rfl⟩ := cnt k' i' hi'
    obtain ⟨x, hx⟩ := pl k h1
    obtain ⟨y, hy⟩ := pl k' h1'
    exact ⟨hD.1 _ _ _ _ hx hy e, rfl⟩
  · intro k hk
    show (if k < 4 then 1 else 0) = 0
    rw [if_neg (by omega)]
  · rintro q ⟨k, i, hi, rfl⟩
    obtain ⟨h1, rfl⟩ := cnt k i hi
    obtain ⟨x, hx⟩ := pl k h1
    exact hD.2 _ _ hx
section KZ
variable {p : Program} {l : Launch} {e : Env} {R : Room} {s : State} {m : MethodId} {args : Array Value} {below : List Frame} {meth : Method} {c : Code} {H : Heap} {locs : List Loc} {cells slots : Nat} {Q : State → Prop}
variable {cc : ByteArray} {pc : Nat} {ls : Array Slot} {rest st0 : List Value} {H0 : Heap} {D : va_G} {A : Nat → Prop} {ws : va_W} {cI cZ : ClassId}
theorem kw_newz (hexec : p.tables.exec = Jvm.exec) (hb : c.code = cc) (harr : (Cond.arrayClass .boolean).before args s = true) (hK : va_K D vwCl [(cI, .int), (cZ, .boolean)] s) (hP : va_P D vwCl ws H) (hD : va_D A ws) (hS : va_S A H0 H locs) (hA : ∀ q, H0.size ≤ q → A q)
    {n : Int32} {N : Nat} (hn : ¬ n < 0) (hN : n.toNatClampNeg = N) (hbytes : N * componentBytes .boolean ≤ 536870912) (hcells : cells + 1 ≤ R.cells) (hslots : slots + N ≤ R.slots) (hdg : decode cc pc = .ok (.newarray .boolean, 2))
    (kk : ∀ (q : Nat) (H1 : Heap), va_P D vwCl (ws ++ [(q, .inl (cZ, N, .inl (fun _ => 0)))]) H1 → va_D A (ws ++ [(q, .inl (cZ, N, .inl (fun _ => 0)))]) → va_S A H0 H1 locs → W p l e R s m args below meth c H1 locs (cells + 1) (slots + N) Q (F0 m (pc + 2) ls (.ref q :: rest))) : W p l e R s m args below meth c H locs cells slots Q (F0 m pc ls (.int n :: rest)) := by
  refine va_newa (atype := .boolean) (ty := .boolean) (N' := N) (a0 := (N, .inl (fun _ => 0))) hexec hb harr rfl hK hP hD hS hA (fun _ => rfl) hn hN hbytes hcells hslots hdg (fun q cA H1 hK1 hP1 hD1 hS1 => ?_)
  have e1 := va_nm_boolean (hK1.2 1 (cZ, .boolean) rfl).2
  have e2 := va_nm_boolean (hK1.2 2 (cA, .boolean) rfl).2
  have e3 : cZ = cA := Option.some.inj (e1.symm.trans e2)
  subst e3
  exact kk q H1 hP1 hD1 hS1
end KZ
set_option maxHeartbeats 4000000 in
set_option maxRecDepth 100000 in
theorem cn_X6 (l : Launch) (D : va_G) (cI cZ : ClassId) (h0 sz : Nat) : Met l yX6_init wsX6_init ({ frames := 1, cells := 3, slots := 20459, locals := 20 }) (kP D cI h0 (.inr (6, [.null, .null, .null])) sz (fun U => va_K D vwCl [(cI, .int), (cZ, .boolean)] U) [.ref h0]) (kQ (fun H => ∃ ad : Nat → Nat → Nat, ad 0 0 = h0 ∧ fw (mφ (D, cI, cZ, ad)) fI H ∧ fok (mφ (D, cI, cZ, ad)) ∧ ∀ q, fA (mφ (D, cI, cZ, ad)) q → kA h0 sz q) (kA h0 sz)) 3 20459 (kA h0 sz) := by
  refine Met.ofW (cc := cX6_init) (maxL := 2) (ret := none) (by decide) rfl ?_
  intro p e s m args below meth c s₁ B hml hv
  obtain ⟨rfl, hsz, hat, hK, hX⟩ := hv
  have hx := B.exec
  have hb := B.bytes
  have hr := B.returns
  have hts := atoms_spec (ws := wsX6_init) B.pre
  have hown : s.vm.findClass RX6 = some m.cls := findClass_of_methodNamed B.named
  have hlocks := B.notSynchronized
  have hin : meth.name = "<init>" := (name_of_methodNamed B.named B.method).1
  subst hsz
  have hA : ∀ q : Nat, s.heap.size ≤ q → kA h0 s.heap.size q := fun q h => Or.inr h
  have hS : va_S (kA h0 s.heap.size) s.heap s.heap [] := va_S.rf
  have hP := va_P1 hat
  have hD : va_D (kA h0 s.heap.size) [(h0, Sum.inr (6, [.null, .null, .null]))] := va_D1 (Or.inl rfl)
  generalize kA h0 s.heap.size = A at hD hA hS ⊢
  have hL : ∀ w ∈ u_ws RX6 TX6 3, w ∈ wsX6_init := fun w hw => by
    unfold wsX6_init
    simp only [List.mem_cons, List.mem_append]
    exact Or.inr (Or.inr hw)
  have hl := lv_entry ([.ref h0]) (n := 2) (Nat.le_of_ble_eq_true rfl)
  rw [lg_entry_eq]
  generalize (lg_sl ([.ref h0]) ++ List.replicate (2 - (lg_sl ([.ref h0])).length) Slot.unset).toArray = ls at hl ⊢
  have hl : lv_has ls 2 [(0, .ref h0)] := hl
  refine lv_aload_n hx hb dX6_init_0 rfl (lv_at hl 0 rfl) ?_
  refine W.objInit hx hb hown (hts (.methodLink RX6 1 objectInit) (List.mem_of_getElem? (i := 1) rfl)) (hts (.instanceMethod objectInit) (List.mem_of_getElem? (i := 2) rfl)) (hts _ (List.mem_of_getElem? (i := 3) rfl)) rfl (by rw [hml]; exact hl.1) rfl dX6_init_1 (Nat.le_of_ble_eq_true rfl) (Nat.le_of_ble_eq_true rfl) ?_
  refine W.eq (g2 := F0 m 4 ls []) rfl ?_
  refine lv_aload_n hx hb dX6_init_4 rfl (lv_at hl 0 rfl) ?_
  refine lv_sipush (v := (6819 : Int32)) hx hb dX6_init_5 (by decide) ?_
  refine kw_newa (N := 6819) hx hb (hts (.arrayClass .int) (List.mem_of_getElem? (i := 4) rfl)) hK hP hD hS hA (by decide) (by decide) (by decide) (Nat.le_of_ble_eq_true rfl) (Nat.le_of_ble_eq_true rfl) dX6_init_8 (fun q1 H hP hD hS => ?_)
  refine W.widen (k := 1) (n := 6819) (by omega) (by omega) ?_
  refine va_putF (D := D) (ci := 6) (v := .ref q1) (ty := .array .int) (C := RX6) (T := TX6) (N := 3) hx hb hts hL tyX6 tyX6_ok nmX6 hown hK hP hD hS 0 rfl rfl 0 (by decide) (hts (.fieldLink RX6 7 "MeshLampsModel" "state" "[I") (List.mem_of_getElem? (i := 5) rfl)) (fun _ h9 => h9) rfl hin rfl (by decide +kernel) rfl rfl (Nat.le_of_ble_eq_true rfl) dX6_init_10 (fun H locs hP hD hS => ?_)
  refine lv_aload_n hx hb dX6_init_13 rfl (lv_at hl 0 rfl) ?_
  refine lv_sipush (v := (13638 : Int32)) hx hb dX6_init_14 (by decide) ?_
  refine kw_newa (N := 13638) hx hb (hts (.arrayClass .int) (List.mem_of_getElem? (i := 4) rfl)) hK hP hD hS hA (by decide) (by decide) (by decide) (Nat.le_of_ble_eq_true rfl) (Nat.le_of_ble_eq_true rfl) dX6_init_17 (fun q2 H hP hD hS => ?_)
  refine W.widen (k := 2) (n := 20457) (by omega) (by omega) ?_
  refine va_putF (D := D) (ci := 6) (v := .ref q2) (ty := .array .int) (C := RX6) (T := TX6) (N := 3) hx hb hts hL tyX6 tyX6_ok nmX6 hown hK hP hD hS 0 rfl rfl 1 (by decide) (hts (.fieldLink RX6 13 "MeshLampsModel" "images" "[I") (List.mem_of_getElem? (i := 6) rfl)) (fun _ h9 => h9) rfl hin rfl (by decide +kernel) rfl rfl (Nat.le_of_ble_eq_true rfl) dX6_init_19 (fun H locs hP hD hS => ?_)
  refine lv_aload_n hx hb dX6_init_22 rfl (lv_at hl 0 rfl) ?_
  refine lv_iconst (v := (2 : Int32)) hx hb dX6_init_23 (by decide) ?_
  refine kw_newz (N := 2) hx hb (hts (.arrayClass .boolean) (List.mem_of_getElem? (i := 7) rfl)) hX hP hD hS hA (by decide) (by decide) (by decide) (Nat.le_of_ble_eq_true rfl) (Nat.le_of_ble_eq_true rfl) dX6_init_24 (fun q3 H hP hD hS => ?_)
  refine W.widen (k := 3) (n := 20459) (by omega) (by omega) ?_
  refine va_putF (D := D) (ci := 6) (v := .ref q3) (ty := .array .boolean) (C := RX6) (T := TX6) (N := 3) hx hb hts hL tyX6 tyX6_ok nmX6 hown hK hP hD hS 0 rfl rfl 2 (by decide) (hts (.fieldLink RX6 16 "MeshLampsModel" "isKept" "[Z") (List.mem_of_getElem? (i := 8) rfl)) (fun _ h9 => h9) rfl hin rfl (by decide +kernel) rfl rfl (Nat.le_of_ble_eq_true rfl) dX6_init_26 (fun H locs hP hD hS => ?_)
  refine lv_iconst (v := (0 : Int32)) hx hb dX6_init_29 (by decide) ?_
  refine lv_istore_n (lv' := [(1, .int 0), (0, .ref h0)]) hx hb dX6_init_30 rfl hl (by decide) rfl (fun ls hl => ?_)
  have hg := hts (.fieldLink RX6 7 "MeshLampsModel" "state" "[I") (List.mem_of_getElem? (i := 5) rfl)
  have LOOP : ∀ (n i : Nat) (H : Heap) (locs : List Loc) (ls : Array Slot), i + n = 10 → va_P D vwCl (mL cI cZ h0 q1 q2 q3 (rI i)) H → va_D A (mL cI cZ h0 q1 q2 q3 (rI i)) → va_S A s.heap H locs → lv_has ls 2 [(1, .int (nI i)), (0, .ref h0)] → W p l e ({ frames := 1, cells := 3, slots := 20459, locals := 20 }) s m ([.ref h0] : List Value).toArray below meth c H locs 3 20459 (MQ below (kQ (fun H => ∃ ad : Nat → Nat → Nat, ad 0 0 = h0 ∧ fw (mφ (D, cI, cZ, ad)) fI H ∧ fok (mφ (D, cI, cZ, ad)) ∧ ∀ q, fA (mφ (D, cI, cZ, ad)) q → A q) A) ([.ref h0] : List Value).toArray s 3 20459 A) (F0 m 31 ls []) := by
    intro n
    induction n with
    | zero =>
      intro i H locs ls hi hP hD hS hl
      obtain rfl : i = 10 := by omega
      refine lv_iload_n hx hb dX6_init_31 rfl (lv_at hl 0 rfl) ?_
      refine lv_bipush (v := (10 : Int32)) hx hb dX6_init_32 (by decide) ?_
      refine lv_icmp_ge (tgt := 84) hx hb dX6_init_34 (by decide) (fun c5 => ?_) (fun c5 => absurd (show (10 : Int32) ≤ nI 10 by decide) c5)
      refine lv_aload_n hx hb dX6_init_84 rfl (lv_at hl 1 rfl) ?_
      refine va_get (D := D) (ci := 6) (v := .ref q1) (C := RX6) (T := TX6) (N := 3) hx hb hts hL hown hK hP 0 rfl rfl 0 (by decide) hg (fun _ h9 => h9) rfl dX6_init_85 ?_
      refine lv_sipush (v := (6813 : Int32)) hx hb dX6_init_88 (by decide) ?_
      refine lv_sipush (v := (1023 : Int32)) hx hb dX6_init_91 (by decide) ?_
      refine va_iast hx hb hK hP hD hS 1 0 rfl rfl (show ¬ ((6813 : Int32) < 0 ∨ 6819 ≤ (6813 : Int32).toNatClampNeg) by decide) dX6_init_94 (fun H locs hP hD hS => ?_)
      obtain ⟨y1, y2, y3⟩ := first_mw (D := D) (cI := cI) (cZ := cZ) (h0 := h0) (q1 := q1) (q2 := q2) (q3 := q3) (H := H) (A := A) hP hD
      exact W.vret hx hb hr (fun t ht hW => ⟨rfl, ⟨mad h0 q1 q2 q3, rfl, by rw [ht]; exact y1, y2, y3⟩, hS.F ht⟩) hS.2.2 dX6_init_95 hlocks
    | succ n ih =>
      intro i H locs ls hi hP hD hS hl
      have hi9 : i < 10 := by omega
      refine lv_iload_n hx hb dX6_init_31 rfl (lv_at hl 0 rfl) ?_
      refine lv_bipush (v := (10 : Int32)) hx hb dX6_init_32 (by decide) ?_
      refine lv_icmp_ge (tgt := 84) hx hb dX6_init_34 (by decide) (fun c5 => absurd ((nI_leI (a := 10) (by omega) (by omega)).mp c5) (by omega)) (fun c5 => ?_)
      refine lv_aload_n hx hb dX6_init_37 rfl (lv_at hl 1 rfl) ?_
      refine va_get (D := D) (ci := 6) (v := .ref q1) (C := RX6) (T := TX6) (N := 3) hx hb hts hL hown hK hP 0 rfl rfl 0 (by decide) hg (fun _ h9 => h9) rfl dX6_init_38 ?_
      refine lv_bipush (v := (10 : Int32)) hx hb dX6_init_41 (by decide) ?_
      refine lv_iload_n hx hb dX6_init_43 rfl (lv_at hl 0 rfl) ?_
      refine lv_iadd hx hb dX6_init_44 ?_
      rw [show (10 : Int32) + nI i = nI (10 + i) from nI_add 10 i]
      refine lv_iconst (v := (1 : Int32)) hx hb dX6_init_45 (by decide) ?_
      refine va_iast hx hb hK hP hD hS 1 0 rfl rfl (ckI (by omega) (by omega)) dX6_init_46 (fun H locs hP hD hS => ?_)
      rw [nI_clamp (by omega)] at hP hD
      refine lv_aload_n hx hb dX6_init_47 rfl (lv_at hl 1 rfl) ?_
      refine va_get (D := D) (ci := 6) (v := .ref q1) (C := RX6) (T := TX6) (N := 3) hx hb hts hL hown hK hP 0 rfl rfl 0 (by decide) hg (fun _ h9 => h9) rfl dX6_init_48 ?_
      refine lv_bipush (v := (20 : Int32)) hx hb dX6_init_51 (by decide) ?_
      refine lv_iload_n hx hb dX6_init_53 rfl (lv_at hl 0 rfl) ?_
      refine lv_iadd hx hb dX6_init_54 ?_
      rw [show (20 : Int32) + nI i = nI (20 + i) from nI_add 20 i]
      refine lv_iconst (v := (1 : Int32)) hx hb dX6_init_55 (by decide) ?_
      refine va_iast hx hb hK hP hD hS 1 0 rfl rfl (ckI (by omega) (by omega)) dX6_init_56 (fun H locs hP hD hS => ?_)
      rw [nI_clamp (by omega)] at hP hD
      refine lv_aload_n hx hb dX6_init_57 rfl (lv_at hl 1 rfl) ?_
      refine va_get (D := D) (ci := 6) (v := .ref q1) (C := RX6) (T := TX6) (N := 3) hx hb hts hL hown hK hP 0 rfl rfl 0 (by decide) hg (fun _ h9 => h9) rfl dX6_init_58 ?_
      refine lv_bipush (v := (30 : Int32)) hx hb dX6_init_61 (by decide) ?_
      refine lv_iload_n hx hb dX6_init_63 rfl (lv_at hl 0 rfl) ?_
      refine lv_iadd hx hb dX6_init_64 ?_
      rw [show (30 : Int32) + nI i = nI (30 + i) from nI_add 30 i]
      refine lv_iconst (v := (4 : Int32)) hx hb dX6_init_65 (by decide) ?_
      refine va_iast hx hb hK hP hD hS 1 0 rfl rfl (ckI (by omega) (by omega)) dX6_init_66 (fun H locs hP hD hS => ?_)
      rw [nI_clamp (by omega)] at hP hD
      refine lv_aload_n hx hb dX6_init_67 rfl (lv_at hl 1 rfl) ?_
      refine va_get (D := D) (ci := 6) (v := .ref q1) (C := RX6) (T := TX6) (N := 3) hx hb hts hL hown hK hP 0 rfl rfl 0 (by decide) hg (fun _ h9 => h9) rfl dX6_init_68 ?_
      refine lv_bipush (v := (70 : Int32)) hx hb dX6_init_71 (by decide) ?_
      refine lv_iload_n hx hb dX6_init_73 rfl (lv_at hl 0 rfl) ?_
      refine lv_iadd hx hb dX6_init_74 ?_
      rw [show (70 : Int32) + nI i = nI (70 + i) from nI_add 70 i]
      refine lv_bipush (v := (-6 : Int32)) hx hb dX6_init_75 (by decide) ?_
      refine va_iast hx hb hK hP hD hS 1 0 rfl rfl (ckI (by omega) (by omega)) dX6_init_77 (fun H locs hP hD hS => ?_)
      rw [nI_clamp (by omega)] at hP hD
      refine lv_iinc (v := nI i + (1 : Int32)) (lv' := [(1, .int (nI i + (1 : Int32))), (0, .ref h0)]) hx hb dX6_init_78 hl (k := 0) rfl rfl (by decide) rfl (fun ls hl => ?_)
      refine lv_goto (tgt := 31) hx hb dX6_init_81 (by decide) ?_
      rw [nI_1] at hl
      have hP : va_P D vwCl (mL cI cZ h0 q1 q2 q3 (upd (upd (upd (upd (rI i) (10 + i) 1) (20 + i) 1) (30 + i) 4) (70 + i) (-6))) H := hP
      have hD : va_D A (mL cI cZ h0 q1 q2 q3 (upd (upd (upd (upd (rI i) (10 + i) 1) (20 + i) 1) (30 + i) 4) (70 + i) (-6))) := hD
      rw [rI_s hi9] at hP hD
      exact ih (i + 1) H locs ls (by omega) hP hD hS hl
  have hP : va_P D vwCl (mL cI cZ h0 q1 q2 q3 (fun _ => 0)) H := hP
  have hD : va_D A (mL cI cZ h0 q1 q2 q3 (fun _ => 0)) := hD
  rw [← rI_0] at hP hD
  exact LOOP 10 0 H locs ls (by omega) hP hD hS hl

theorem rI_z {a : Nat} (h : ¬ (10 ≤ a ∧ a < 40)) (h2 : ¬ (70 ≤ a ∧ a < 80)) : rI 10 a = 0 := by
  unfold rI
  rw [if_neg (by omega), if_neg (by omega), if_neg (by omega), if_neg (by omega)]
theorem fI_z {a : Nat} (h : ¬ (10 ≤ a ∧ a < 40)) (h2 : ¬ (70 ≤ a ∧ a < 80)) (h3 : a ≠ 6813) : upd (rI 10) 6813 1023 a = 0 := by
  rw [upd_n h3, rI_z h h2]
theorem first_TR : TR 1 0 gI fI := by
  refine ⟨⟨by omega, fun _ => by omega, fun _ => by omega, fun _ _ => by omega⟩, ⟨?_, ?_, ?_, ?_, ?_, ?_, ?_, ?_, ?_⟩, Or.inl ⟨rfl, rfl⟩, Or.inl ⟨rfl, rfl⟩, fun _ => rfl⟩
  · intro k i x hs
    show gI k i x = upd (rI 10) 6813 1023 (adr k i x)
    unfold Sc at hs
    rcases hs with ⟨rfl, h1, h2, h3⟩ | ⟨rfl, h1, h2⟩ | ⟨rfl, h1, h2⟩ | ⟨rfl, h1, rfl⟩ | ⟨rfl, h1, rfl⟩ | ⟨rfl, rfl, h2⟩ | ⟨rfl, rfl, h2⟩ | ⟨rfl, rfl, h2⟩ | ⟨rfl, rfl, h2, h3⟩ | ⟨rfl, rfl, rfl⟩
    · show (if x = 7 then (-6 : Int32) else 0) = upd (rI 10) 6813 1023 (if x = 4 then i else 10 * x + i)
      by_cases a : x = 7
      · subst a
        rw [if_pos rfl, if_neg (by omega), upd_n (by omega)]
        unfold rI
        rw [if_neg (by omega), if_neg (by omega), if_neg (by omega), if_pos (by omega)]
      · rw [if_neg a]
        by_cases b : x = 4
        · rw [if_pos b, fI_z (by omega) (by omega) (by omega)]
        · rw [if_neg b, fI_z (by omega) (by omega) (by omega)]
    · show fs0 x = upd (rI 10) 6813 1023 (10 + 10 * x + i)
      have hx : x = 0 ∨ x = 1 ∨ x = 2 ∨ x = 3 := by omega
      rcases hx with rfl | rfl | rfl | rfl
      · rw [upd_n (by omega)]
        unfold rI
        rw [if_pos (by omega)]
        rfl
      · rw [upd_n (by omega)]
        unfold rI
        rw [if_neg (by omega), if_pos (by omega)]
        rfl
      · rw [upd_n (by omega)]
        unfold rI
        rw [if_neg (by omega), if_neg (by omega), if_pos (by omega)]
        rfl
      · rw [fI_z (by omega) (by omega) (by omega)]
        rfl
    · show (0 : Int32) = upd (rI 10) 6813 1023 (330 + 10 * i + x)
      rw [fI_z (by omega) (by omega) (by omega)]
    · show (0 : Int32) = upd (rI 10) 6813 1023 (160 + i)
      rw [fI_z (by omega) (by omega) (by omega)]
    · show (0 : Int32) = upd (rI 10) 6813 1023 (150 + i)
      rw [fI_z (by omega) (by omega) (by omega)]
    · show (0 : Int32) = upd (rI 10) 6813 1023 (810 + 3 * x)
      rw [fI_z (by omega) (by omega) (by omega)]
    · show (0 : Int32) = upd (rI 10) 6813 1023 (811 + 3 * x)
      rw [fI_z (by omega) (by omega) (by omega)]
    · show (0 : Int32) = upd (rI 10) 6813 1023 (812 + 3 * x)
      rw [fI_z (by omega) (by omega) (by omega)]
    · show (if x = 6 then (1023 : Int32) else 0) = upd (rI 10) 6813 1023 (if x ≤ 7 then 6807 + x else 6808 + x)
      by_cases a : x = 6
      · subst a
        rw [if_pos rfl, if_pos (by omega), upd_s]
      · rw [if_neg a]
        by_cases b : x ≤ 7
        · rw [if_pos b, fI_z (by omega) (by omega) (by omega)]
        · rw [if_neg b, fI_z (by omega) (by omega) (by omega)]
    · show (0 : Int32) = upd (rI 10) 6813 1023 6815
      rw [fI_z (by omega) (by omega) (by omega)]
  · intro k i x hs
    refine ⟨?_, ?_, ?_, ?_, ?_, ?_, ?_, ?_, ?_, ?_, ?_, ?_, ?_, ?_⟩
    · rintro rfl rfl
      exact ⟨0, by omega, rfl⟩
    · rintro rfl rfl
      exact Or.inl rfl
    · rintro rfl rfl
      exact Or.inl rfl
    · rintro rfl rfl
      exact ⟨0, by omega, rfl⟩
    · rintro rfl rfl
      exact ⟨1, by omega, by omega, rfl⟩
    · rintro rfl rfl
      exact ⟨4, by omega, rfl⟩
    · rintro rfl
      exact ⟨0, by omega, rfl⟩
    · rintro rfl
      exact ⟨0, by omega, rfl⟩
    · rintro rfl
      exact ⟨0, by omega, rfl⟩
    · rintro rfl rfl
      exact ⟨0, by omega, rfl⟩
    · rintro rfl rfl
      exact ⟨0, by omega, rfl⟩
    · rintro rfl rfl
      exact ⟨0, by omega, rfl⟩
    · rintro rfl rfl
      exact ⟨1023, by omega, rfl⟩
    · rintro rfl rfl
      exact ⟨0, by omega, rfl⟩
  · intro l i hl hi
    exact absurd (show i < 0 from hi) (by omega)
  · intro l i hl hi
    exact absurd (show i < 0 from hi) (by omega)
  · intro i hi
    exact absurd (show i < 0 from hi) (by omega)
  · intro l hl
    exact Nat.zero_le _
  · intro _
    rfl
  · intro i hi
    exact absurd (show i < 0 from hi) (by omega)
  · intro l hl
    exact isI_0 hl
