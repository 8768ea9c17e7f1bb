
/-- what a mesh's making asks of the tables -/
def XM (D : va_G) (cI cL cM : ClassId) (A : Nat → Prop) (U : State) : Prop := XL cI A U ∧ va_Nw (.methodLinkNest RX4 19 yX2_init "MeshLamps") U ∧ va_Nw (.methodLinkNest RX4 26 yX0_init "MeshLamps") U ∧ va_Nw (.methodLinkNest RX4 56 yX1_init "MeshLamps") U ∧ va_AO RX1 U ∧ va_K D vwCl [(cI, .int), (cL, .object "MeshLamps$Lamp"), (cM, .object "MeshLamps$Mesh")] U
theorem XM.blind {D : va_G} {cI cL cM : ClassId} {A : Nat → Prop} (U : State) (f : JFrame) (mk : MethodId) (a : Array Value) (h : XM D cI cL cM A U) : XM D cI cL cM A (U.calling f mk a) := ⟨XL.blind U f mk a h.1, va_Nw.same (u := U) (U := U.calling f mk a) rfl rfl h.2.1, va_Nw.same (u := U) (U := U.calling f mk a) rfl rfl h.2.2.1, va_Nw.same (u := U) (U := U.calling f mk a) rfl rfl h.2.2.2.1, va_AO.moved (u := U) (U := U.calling f mk a) (Vm.Alike.refl U.vm) h.2.2.2.2.1, va_K.moved (u := U) (U := U.calling f mk a) (Vm.Alike.refl U.vm) h.2.2.2.2.2⟩
/-- the cells of a mesh: kinds 2 to 12, then the lamps -/
def mb (cI cL : ClassId) (ad : Nat → Nat → Nat) (f : Nat → Option Nat) : va_W := [(ad 2 0, .inr (4, [.ref (ad 3 0), .ref (ad 4 0), .ref (ad 8 0), .int 0, .int 0, .int 0, .int 1023, .int 0, .int 0, .int 0, .int 0])), (ad 3 0, .inl (cL, 10, .inr (.inr (.inr (.inr f))))), (ad 4 0, .inr (2, [.ref (ad 5 0), .ref (ad 6 0), .ref (ad 7 0)])), (ad 5 0, .inl (cI, 2000, .inl (fun _ => 0))), (ad 6 0, .inl (cI, 2000, .inl (fun _ => 0))), (ad 7 0, .inl (cI, 2000, .inl (fun _ => 0))), (ad 8 0, .inr (0, [.ref (ad 9 0), .ref (ad 10 0), .ref (ad 11 0), .ref (ad 12 0), .int 0])), (ad 9 0, .inl (cI, 64, .inl (fun _ => 0))), (ad 10 0, .inl (cI, 64, .inl (fun _ => 0))), (ad 11 0, .inl (cI, 64, .inl (fun _ => 0))), (ad 12 0, .inl (cI, 64, .inl (fun _ => 0)))]
def lmL (cI : ClassId) (ad : Nat → Nat → Nat) : Nat → va_W
  | 0 => []
  | i + 1 => lmL cI ad i ++ lampL cI (ad 13 i) (ad 14 i) (ad 15 i) (ad 16 i) (ad 17 i) (ad 18 i) (ad 19 i)
theorem lmL_cg {cI : ClassId} {ad ad' : Nat → Nat → Nat} : ∀ n : Nat, (∀ k i : Nat, i < n → ad k i = ad' k i) → lmL cI ad n = lmL cI ad' n
  | 0, _ => rfl
  | n + 1, h => by
    rw [lmL, lmL, lmL_cg n (fun k i hi => h k i (by omega)), h 13 n (by omega), h 14 n (by omega), h 15 n (by omega), h 16 n (by omega), h 17 n (by omega), h 18 n (by omega), h 19 n (by omega)]
def laf (ad : Nat → Nat → Nat) (i : Nat) : Nat → Option Nat := fun x => if x < i then some (ad 13 x) else none
/-- behind a call that makes one: the others stand, and what was made -/
theorem kjoin {D : va_G} {A : Nat → Prop} {ws w1 : va_W} {q : Nat} {e : va_E} {H H1 : Heap} (hP : va_P D vwCl (ws ++ [(q, e)]) H) (hD : va_D A (ws ++ [(q, e)])) (hk : ∀ x : Nat, x < H.size → ¬ kA q H.size x → H1[x]? = H[x]?) (hF : ∀ x, kA q H.size x → A x) (hP1 : va_P D vwCl w1 H1) (hD1 : va_D (kA q H.size) w1) : va_P D vwCl (ws ++ w1) H1 ∧ va_D A (ws ++ w1) := by
  have at0 : ∀ (k : Nat) (x : Nat × va_E), ws[k]? = some x → (ws ++ [(q, e)])[k]? = some x := fun k x hx => by
    rw [List.getElem?_append_left (List.getElem?_eq_some_iff.mp hx).1]
    exact hx
  have lst : (ws ++ [(q, e)])[ws.length]? = some (q, e) := by
    rw [List.getElem?_append_right (Nat.le_refl _), Nat.sub_self]
    rfl
  have ne : ∀ (k : Nat) (x : Nat × va_E), ws[k]? = some x → x.1 ≠ q := fun k x hx y => by
    have h1 := hD.1 k ws.length x (q, e) (at0 k x hx) lst y
    have h2 := (List.getElem?_eq_some_iff.mp hx).1
    omega
  have sm : ∀ (k : Nat) (x : Nat × va_E), ws[k]? = some x → H1[x.1]? = H[x.1]? := fun k x hx => hk x.1 ((hP k x (at0 k x hx)).lt) (fun y => by
    rcases y with y | y
    · exact ne k x hx y
    · have := (hP k x (at0 k x hx)).lt
      omega)
  refine ⟨va_P.app (fun k x hx => (hP k x (at0 k x hx)).kept (sm k x hx)) hP1, fun i j p r hi hj y => ?_, fun k x hx => ?_⟩
  · by_cases h1 : i < ws.length
    · rw [List.getElem?_append_left h1] at hi
      by_cases h2 : j < ws.length
      · rw [List.getElem?_append_left h2] at hj
        exact hD.1 i j p r (at0 _ _ hi) (at0 _ _ hj) y
      · rw [List.getElem?_append_right (by omega)] at hj
        exfalso
        rcases hD1.2 _ _ hj with z | z
        · exact ne i p hi (y.trans z)
        · have := (hP i p (at0 i p hi)).lt
          omega
    · rw [List.getElem?_append_right (by omega)] at hi
      by_cases h2 : j < ws.length
      · rw [List.getElem?_append_left h2] at hj
        exfalso
        rcases hD1.2 _ _ hi with z | z
        · exact ne j r hj (y.symm.trans z)
        · have := (hP j r (at0 j r hj)).lt
          omega
      · rw [List.getElem?_append_right (by omega)] at hj
        have := hD1.1 _ _ p r hi hj y
        omega
  · by_cases h1 : k < ws.length
    · rw [List.getElem?_append_left h1] at hx
      exact hD.2 k x (at0 k x hx)
    · rw [List.getElem?_append_right (by omega)] at hx
      exact hF _ (hD1.2 _ _ hx)
theorem kfree {A : Nat → Prop} {ws : va_W} {q : Nat} {e : va_E} {H0 H : Heap} {locs : List Loc} (hD : va_D A (ws ++ [(q, e)])) (hS : va_S A H0 H locs) (hA : ∀ x, H0.size ≤ x → A x) : ∀ x, kA q H.size x → A x := by
  intro x y
  rcases y with rfl | y
  · exact hD.2 ws.length (x, e) (by rw [List.getElem?_append_right (Nat.le_refl _), Nat.sub_self]; rfl)
  · exact hA x (Nat.le_trans hS.1 y)
section KN
variable {p : Program} {l : Launch} {e : Env} {R : Room} {s : State} {m : MethodId} {args : Array Value} {below : List Frame} {meth : Method} {c : Code} {H : Heap} {locs : List Loc} {cells slots : Nat} {Q : State → Prop}
variable {cc : ByteArray} {pc : Nat} {ls : Array Slot} {rest st0 : List Value} {H0 : Heap} {D : va_G} {A : Nat → Prop} {ws : va_W} {cI cL cM : ClassId}
theorem kw_newq (hexec : p.tables.exec = Jvm.exec) (hb : c.code = cc) {own : String} {index : Nat} (hown : s.vm.findClass own = some m.cls) {C : String} {t0 : Nat} {cQ : ClassId} (hclink : (Cond.classLink own index C).before args s = true) (hover : va_AO C s) {tys : List (ClassId × FieldType)} (hK : va_K D vwCl tys s) (ht : tys[t0]? = some (cQ, .object C)) (hP : va_P D vwCl ws H) (hD : va_D A ws) (hS : va_S A H0 H locs) (hA : ∀ q, H0.size ≤ q → A q)
    {n : Int32} {N' : Nat} (hn : ¬ n < 0) (hN : n.toNatClampNeg = N') (hbytes : N' * 4 ≤ 536870912) (hcells : cells + 1 ≤ R.cells) (hslots : slots + N' ≤ R.slots) (hdg : decode cc pc = .ok (.anewarray index, 3))
    (kk : ∀ (q : Nat) (H1 : Heap), va_P D vwCl (ws ++ [(q, .inl (cQ, N', .inr (.inr (.inr (.inr (fun _ => none))))))]) H1 → va_D A (ws ++ [(q, .inl (cQ, N', .inr (.inr (.inr (.inr (fun _ => none))))))]) → va_S A H0 H1 locs → W p l e R s m args below meth c H1 locs (cells + 1) (slots + N') Q (F0 m (pc + 3) ls (.ref q :: rest))) : W p l e R s m args below meth c H locs cells slots Q (F0 m pc ls (.int n :: rest)) := by
  refine va_newq hexec hb hown hclink hover hK hP hD hS hA hn hN hbytes hcells hslots hdg (fun q cA H1 hK1 hP1 hD1 hS1 => ?_)
  obtain ⟨-, -, -, -, -, e1⟩ := (hK.2 t0 _ ht).2
  obtain ⟨-, -, -, -, -, e2⟩ := (hK1.2 tys.length (cA, .object C) (by rw [List.getElem?_append_right (Nat.le_refl _), Nat.sub_self]; rfl)).2
  have e3 : cQ = cA := Option.some.inj (e1.symm.trans e2)
  subst e3
  exact kk q H1 hP1 hD1 hS1
end KN
theorem FS.heap {cI : ClassId} {A : Nat → Prop} {U : State} {H H1 : Heap} (h : FS cI A U H) (e : H1 = H) : FS cI A U H1 := by rw [e]; exact h
/-- the words of XL at a call -/
theorem XL.at {cI : ClassId} {A B : Nat → Prop} {s U : State} {H : Heap} {locs : List Loc} (h : XL cI A s) (hW : s.WarmedH U.vm) (hS : va_S A s.heap H locs) (hU : U.heap = H) (hAB : ∀ q, B q → A q) : XL cI B U := ⟨h.1.go hW.alike (fun a h1 h2 => by rw [hU]; exact hS.2.1 a h1 h2) hAB, va_Nw.warmF hW h.2.1, va_Nw.warmC hW h.2.2⟩
set_option maxHeartbeats 4000000 in
set_option maxRecDepth 100000 in
theorem cn_X4 (l : Launch) (D : va_G) (cI cL cM : ClassId) (h0 sz : Nat) : Met l yX4_init wsX4_init ({ frames := 3, cells := 80, slots := 6714, locals := 120 }) (kP D cI h0 (.inr (4, [.null, .null, .null, .int 0, .int 0, .int 0, .int 0, .int 0, .int 0, .int 0, .int 0])) sz (XM D cI cL cM (kA h0 sz)) [.ref h0]) (kQ (fun H => ∃ ad : Nat → Nat → Nat, ad 2 0 = h0 ∧ kL D (kA h0 sz) (mb cI cL ad (laf ad 10) ++ lmL cI ad 10) H) (kA h0 sz)) 80 6714 (kA h0 sz) := by
  refine Met.ofW (cc := cX4_init) (maxL := 2) (ret := none) (by decide) rfl ?_
  intro p e s m args below meth c s₁ B hml hv
  obtain ⟨rfl, hsz, hat, hK, hX⟩ := hv
  have hx := B.exec
  have hb := B.bytes
  have hr := B.returns
  have hts := atoms_spec (ws := wsX4_init) B.pre
  have hown : s.vm.findClass RX4 = some m.cls := findClass_of_methodNamed B.named
  have hlocks := B.notSynchronized
  have hin : meth.name = "<init>" := (name_of_methodNamed B.named B.method).1
  subst hsz
  have hA : ∀ q : Nat, s.heap.size ≤ q → kA h0 s.heap.size q := fun q h => Or.inr h
  have hS : va_S (kA h0 s.heap.size) s.heap s.heap [] := va_S.rf
  have hP := va_P1 hat
  have hD : va_D (kA h0 s.heap.size) [(h0, Sum.inr (4, [.null, .null, .null, .int 0, .int 0, .int 0, .int 0, .int 0, .int 0, .int 0, .int 0]))] := va_D1 (Or.inl rfl)
  have hL : ∀ w ∈ u_ws RX4 TX4 11, w ∈ wsX4_init := fun w hw => by
    unfold wsX4_init
    simp only [List.mem_cons, List.mem_append]
    exact Or.inr (Or.inl (Or.inl (Or.inl (Or.inl (Or.inr hw)))))
  have hL2 : ∀ w ∈ u_ws RX2 TX2 3, w ∈ wsX4_init := fun w hw => by
    unfold wsX4_init
    simp only [List.mem_cons, List.mem_append]
    exact Or.inr (Or.inl (Or.inl (Or.inl (Or.inr hw))))
  have hL0 : ∀ w ∈ u_ws RX0 TX0 5, w ∈ wsX4_init := fun w hw => by
    unfold wsX4_init
    simp only [List.mem_cons, List.mem_append]
    exact Or.inr (Or.inl (Or.inl (Or.inr hw)))
  have hL1 : ∀ w ∈ u_ws RX1 TX1 15, w ∈ wsX4_init := fun w hw => by
    unfold wsX4_init
    simp only [List.mem_cons, List.mem_append]
    exact Or.inr (Or.inl (Or.inr hw))
  obtain ⟨xl, n2, n0, n1, xo, hK3⟩ := hX
  generalize kA h0 s.heap.size = A at hD hA hS xl ⊢
  have hl := lv_entry ([.ref h0]) (n := 2) (Nat.le_of_ble_eq_true rfl)
  rw [lg_entry_eq]
  generalize (lg_sl ([.ref h0]) ++ List.replicate (2 - (lg_sl ([.ref h0])).length) Slot.unset).toArray = ls at hl ⊢
  have hl : lv_has ls 2 [(0, .ref h0)] := hl
  refine lv_aload_n hx hb dX4_init_0 rfl (lv_at hl 0 rfl) ?_
  refine W.objInit hx hb hown (hts (.methodLink RX4 3 objectInit) (List.mem_of_getElem? (i := 1) rfl)) (hts (.instanceMethod objectInit) (List.mem_of_getElem? (i := 2) rfl)) (hts _ (List.mem_of_getElem? (i := 3) rfl)) rfl (by rw [hml]; exact hl.1) rfl dX4_init_1 (Nat.le_of_ble_eq_true rfl) (Nat.le_of_ble_eq_true rfl) ?_
  refine W.eq (g2 := F0 m 4 ls []) rfl ?_
  refine lv_aload_n hx hb dX4_init_4 rfl (lv_at hl 0 rfl) ?_
  refine lv_bipush (v := (10 : Int32)) hx hb dX4_init_5 (by decide) ?_
  refine kw_newq (N' := 10) (C := RX1) (t0 := 1) hx hb hown (hts (.classLink RX4 9 RX1) (List.mem_of_getElem? (i := 4) rfl)) xo hK3 rfl hP hD hS hA (by decide) (by decide) (by decide) (Nat.le_of_ble_eq_true rfl) (Nat.le_of_ble_eq_true rfl) dX4_init_7 (fun q3 H hP hD hS => ?_)
  refine W.widen (k := 1) (n := 10) (by omega) (by omega) ?_
  refine va_putF (D := D) (ci := 4) (v := .ref q3) (ty := .array (.object "MeshLamps$Lamp")) (C := RX4) (T := TX4) (N := 11) hx hb hts hL tyX4 tyX4_ok nmX4 hown hK hP hD hS 0 rfl rfl 0 (by decide) (hts (.fieldLink RX4 11 "MeshLamps$Mesh" "lamps" "[LMeshLamps$Lamp;") (List.mem_of_getElem? (i := 5) rfl)) (fun _ h9 => h9) rfl hin rfl (by decide +kernel) rfl rfl (Nat.le_of_ble_eq_true rfl) dX4_init_10 (fun H locs hP hD hS => ?_)
  refine lv_aload_n hx hb dX4_init_13 rfl (lv_at hl 0 rfl) ?_
  refine va_new (ci := 2) (fs := [.null, .null, .null]) (C := RX2) (T := TX2) (N := 3) hx hb hts hL2 tyX2 tyX2_ok hown (hts (.classLink RX4 17 RX2) (List.mem_of_getElem? (i := 6) rfl)) (hts (.instantiable RX2 3) (List.mem_of_getElem? (i := 7) rfl)) (hts (.initialized RX2) (List.mem_of_getElem? (i := 8) rfl)) hK hP hD hS hA rfl (fun j hj => by rcases (show j = 0 ∨ j = 1 ∨ j = 2 by omega) with rfl | rfl | rfl <;> rfl) (Nat.le_of_ble_eq_true rfl) (Nat.le_of_ble_eq_true rfl) dX4_init_14 (fun q4 H hP hD hS => ?_)
  refine W.widen (k := 2) (n := 13) (by omega) (by omega) ?_
  refine lv_dup hx hb dX4_init_17 rfl ?_
  have hFc := kfree hD hS hA
  refine kw_call (va_runIN (As := []) (rest := [.ref q4, .ref h0]) ⟨hx, hb, hml, hown, hts⟩ (cn_X2 l D cI q4 H.size) ⟨va_cnB 0 hts gX4_init_X2_init_n19 rfl rfl rfl n2 (hts (.initialized RX2) (List.mem_of_getElem? (i := 8) rfl)) (by decide +kernel) ⟨Nat.le_of_ble_eq_true rfl, Nat.le_of_ble_eq_true rfl⟩, rfl, hts (.instanceMethod yX2_init) (List.mem_of_getElem? (i := 24) rfl)⟩ ⟨kP.blind (fun _ _ _ _ h => h), fun U hU hW => ⟨rfl, by rw [hU], by rw [hU]; exact hP 2 _ rfl, va_K.moved hW.alike hK, trivial⟩⟩ rfl rfl hl.1 rfl (lv_room (Nat.le_of_ble_eq_true rfl)) dX4_init_18 ⟨Nat.le_of_ble_eq_true rfl, Nat.le_of_ble_eq_true rfl⟩) hS hFc (fun H1 locs hB hz1 hk1 hS => ?_)
  obtain ⟨q5, q6, q7, hP1, hD1⟩ := hB
  obtain ⟨hP, hD⟩ := kjoin hP hD hk1 hFc hP1 hD1
  generalize H1 = H at hP hS ⊢
  refine W.widen (k := 5) (n := 6013) (by omega) (by omega) ?_
  refine va_putF (D := D) (ci := 4) (v := .ref q4) (ty := .object "MeshLamps$Letters") (C := RX4) (T := TX4) (N := 11) hx hb hts hL tyX4 tyX4_ok nmX4 hown hK hP hD hS 0 rfl rfl 1 (by decide) (hts (.fieldLink RX4 20 "MeshLamps$Mesh" "letters" "LMeshLamps$Letters;") (List.mem_of_getElem? (i := 9) rfl)) (fun _ h9 => h9) rfl hin rfl (by decide +kernel) rfl rfl (Nat.le_of_ble_eq_true rfl) dX4_init_21 (fun H locs hP hD hS => ?_)
  refine lv_aload_n hx hb dX4_init_24 rfl (lv_at hl 0 rfl) ?_
  refine va_new (ci := 0) (fs := [.null, .null, .null, .null, .int 0]) (C := RX0) (T := TX0) (N := 5) hx hb hts hL0 tyX0 tyX0_ok hown (hts (.classLink RX4 24 RX0) (List.mem_of_getElem? (i := 10) rfl)) (hts (.instantiable RX0 5) (List.mem_of_getElem? (i := 11) rfl)) (hts (.initialized RX0) (List.mem_of_getElem? (i := 12) rfl)) hK hP hD hS hA rfl (fun j hj => by rcases (show j = 0 ∨ j = 1 ∨ j = 2 ∨ j = 3 ∨ j = 4 by omega) with rfl | rfl | rfl | rfl | rfl <;> rfl) (Nat.le_of_ble_eq_true rfl) (Nat.le_of_ble_eq_true rfl) dX4_init_25 (fun q8 H hP hD hS => ?_)
  refine W.widen (k := 6) (n := 6018) (by omega) (by omega) ?_
  refine lv_dup hx hb dX4_init_28 rfl ?_
  have hFc := kfree hD hS hA
  refine kw_call (va_runIN (As := []) (rest := [.ref q8, .ref h0]) ⟨hx, hb, hml, hown, hts⟩ (cn_X0 l D cI q8 H.size) ⟨va_cnB 0 hts gX4_init_X0_init_n26 rfl rfl rfl n0 (hts (.initialized RX0) (List.mem_of_getElem? (i := 12) rfl)) (by decide +kernel) ⟨Nat.le_of_ble_eq_true rfl, Nat.le_of_ble_eq_true rfl⟩, rfl, hts (.instanceMethod yX0_init) (List.mem_of_getElem? (i := 31) rfl)⟩ ⟨kP.blind (fun _ _ _ _ h => h), fun U hU hW => ⟨rfl, by rw [hU], by rw [hU]; exact hP 6 _ rfl, va_K.moved hW.alike hK, trivial⟩⟩ rfl rfl hl.1 rfl (lv_room (Nat.le_of_ble_eq_true rfl)) dX4_init_29 ⟨Nat.le_of_ble_eq_true rfl, Nat.le_of_ble_eq_true rfl⟩) hS hFc (fun H1 locs hB hz1 hk1 hS => ?_)
  obtain ⟨q9, q10, q11, q12, hP1, hD1⟩ := hB
  obtain ⟨hP, hD⟩ := kjoin hP hD hk1 hFc hP1 hD1
  generalize H1 = H at hP hS ⊢
  refine W.widen (k := 10) (n := 6274) (by omega) (by omega) ?_
  refine va_putF (D := D) (ci := 4) (v := .ref q8) (ty := .object "MeshLamps$Air") (C := RX4) (T := TX4) (N := 11) hx hb hts hL tyX4 tyX4_ok nmX4 hown hK hP hD hS 0 rfl rfl 2 (by decide) (hts (.fieldLink RX4 27 "MeshLamps$Mesh" "air" "LMeshLamps$Air;") (List.mem_of_getElem? (i := 13) rfl)) (fun _ h9 => h9) rfl hin rfl (by decide +kernel) rfl rfl (Nat.le_of_ble_eq_true rfl) dX4_init_32 (fun H locs hP hD hS => ?_)
  refine lv_aload_n hx hb dX4_init_35 rfl (lv_at hl 0 rfl) ?_
  refine lv_iconst (v := (0 : Int32)) hx hb dX4_init_36 (by decide) ?_
  refine va_put (D := D) (ci := 4) (v := .int (0)) (ty := .int) (C := RX4) (T := TX4) (N := 11) hx hb hts hL tyX4 tyX4_ok nmX4 hown hK hP hD hS 0 rfl rfl 3 (by decide) (hts (.fieldLink RX4 31 "MeshLamps$Mesh" "tick" "I") (List.mem_of_getElem? (i := 14) rfl)) (fun _ h9 => h9) rfl (by decide +kernel) rfl rfl (Nat.le_of_ble_eq_true rfl) dX4_init_37 (fun H locs hP hD hS => ?_)
  refine lv_aload_n hx hb dX4_init_40 rfl (lv_at hl 0 rfl) ?_
  refine lv_iconst (v := (0 : Int32)) hx hb dX4_init_41 (by decide) ?_
  refine va_put (D := D) (ci := 4) (v := .int (0)) (ty := .int) (C := RX4) (T := TX4) (N := 11) hx hb hts hL tyX4 tyX4_ok nmX4 hown hK hP hD hS 0 rfl rfl 4 (by decide) (hts (.fieldLink RX4 35 "MeshLamps$Mesh" "key" "I") (List.mem_of_getElem? (i := 15) rfl)) (fun _ h9 => h9) rfl (by decide +kernel) rfl rfl (Nat.le_of_ble_eq_true rfl) dX4_init_42 (fun H locs hP hD hS => ?_)
  refine lv_aload_n hx hb dX4_init_45 rfl (lv_at hl 0 rfl) ?_
  refine lv_iconst (v := (0 : Int32)) hx hb dX4_init_46 (by decide) ?_
  refine va_put (D := D) (ci := 4) (v := .int (0)) (ty := .int) (C := RX4) (T := TX4) (N := 11) hx hb hts hL tyX4 tyX4_ok nmX4 hown hK hP hD hS 0 rfl rfl 5 (by decide) (hts (.fieldLink RX4 38 "MeshLamps$Mesh" "phase" "I") (List.mem_of_getElem? (i := 16) rfl)) (fun _ h9 => h9) rfl (by decide +kernel) rfl rfl (Nat.le_of_ble_eq_true rfl) dX4_init_47 (fun H locs hP hD hS => ?_)
  refine lv_aload_n hx hb dX4_init_50 rfl (lv_at hl 0 rfl) ?_
  refine lv_sipush (v := (1023 : Int32)) hx hb dX4_init_51 (by decide) ?_
  refine va_put (D := D) (ci := 4) (v := .int (1023)) (ty := .int) (C := RX4) (T := TX4) (N := 11) hx hb hts hL tyX4 tyX4_ok nmX4 hown hK hP hD hS 0 rfl rfl 6 (by decide) (hts (.fieldLink RX4 41 "MeshLamps$Mesh" "haveKey" "I") (List.mem_of_getElem? (i := 17) rfl)) (fun _ h9 => h9) rfl (by decide +kernel) rfl rfl (Nat.le_of_ble_eq_true rfl) dX4_init_54 (fun H locs hP hD hS => ?_)
  refine lv_aload_n hx hb dX4_init_57 rfl (lv_at hl 0 rfl) ?_
  refine lv_iconst (v := (0 : Int32)) hx hb dX4_init_58 (by decide) ?_
  refine va_put (D := D) (ci := 4) (v := .int (0)) (ty := .int) (C := RX4) (T := TX4) (N := 11) hx hb hts hL tyX4 tyX4_ok nmX4 hown hK hP hD hS 0 rfl rfl 7 (by decide) (hts (.fieldLink RX4 44 "MeshLamps$Mesh" "haveNext" "I") (List.mem_of_getElem? (i := 18) rfl)) (fun _ h9 => h9) rfl (by decide +kernel) rfl rfl (Nat.le_of_ble_eq_true rfl) dX4_init_59 (fun H locs hP hD hS => ?_)
  refine lv_aload_n hx hb dX4_init_62 rfl (lv_at hl 0 rfl) ?_
  refine lv_iconst (v := (0 : Int32)) hx hb dX4_init_63 (by decide) ?_
  refine va_put (D := D) (ci := 4) (v := .int (0)) (ty := .int) (C := RX4) (T := TX4) (N := 11) hx hb hts hL tyX4 tyX4_ok nmX4 hown hK hP hD hS 0 rfl rfl 8 (by decide) (hts (.fieldLink RX4 47 "MeshLamps$Mesh" "spoken" "I") (List.mem_of_getElem? (i := 19) rfl)) (fun _ h9 => h9) rfl (by decide +kernel) rfl rfl (Nat.le_of_ble_eq_true rfl) dX4_init_64 (fun H locs hP hD hS => ?_)
  refine lv_aload_n hx hb dX4_init_67 rfl (lv_at hl 0 rfl) ?_
  refine lv_iconst (v := (0 : Int32)) hx hb dX4_init_68 (by decide) ?_
  refine va_put (D := D) (ci := 4) (v := .int (0)) (ty := .int) (C := RX4) (T := TX4) (N := 11) hx hb hts hL tyX4 tyX4_ok nmX4 hown hK hP hD hS 0 rfl rfl 9 (by decide) (hts (.fieldLink RX4 50 "MeshLamps$Mesh" "lostAsFull" "I") (List.mem_of_getElem? (i := 20) rfl)) (fun _ h9 => h9) rfl (by decide +kernel) rfl rfl (Nat.le_of_ble_eq_true rfl) dX4_init_69 (fun H locs hP hD hS => ?_)
  refine lv_aload_n hx hb dX4_init_72 rfl (lv_at hl 0 rfl) ?_
  refine lv_iconst (v := (0 : Int32)) hx hb dX4_init_73 (by decide) ?_
  refine va_put (D := D) (ci := 4) (v := .int (0)) (ty := .int) (C := RX4) (T := TX4) (N := 11) hx hb hts hL tyX4 tyX4_ok nmX4 hown hK hP hD hS 0 rfl rfl 10 (by decide) (hts (.fieldLink RX4 53 "MeshLamps$Mesh" "lostAsleep" "I") (List.mem_of_getElem? (i := 21) rfl)) (fun _ h9 => h9) rfl (by decide +kernel) rfl rfl (Nat.le_of_ble_eq_true rfl) dX4_init_74 (fun H locs hP hD hS => ?_)
  refine lv_iconst (v := (0 : Int32)) hx hb dX4_init_77 (by decide) ?_
  refine lv_istore_n (lv' := [(1, .int 0), (0, .ref h0)]) hx hb dX4_init_78 rfl hl (by decide) rfl (fun ls hl => ?_)
  have LOOP : ∀ (n i : Nat) (ad : Nat → Nat → Nat) (H : Heap) (locs : List Loc) (ls : Array Slot), i + n = 10 → ad 2 0 = h0 → va_P D vwCl (mb cI cL ad (laf ad i) ++ lmL cI ad i) H → va_D A (mb cI cL ad (laf ad i) ++ lmL cI ad i) → va_S A s.heap H locs → lv_has ls 2 [(1, .int (nI i)), (0, .ref h0)] → W p l e ({ frames := 3, cells := 80, slots := 6714, locals := 120 }) s m ([.ref h0] : List Value).toArray below meth c H locs (10 + 7 * i) (6274 + 44 * i) (MQ below (kQ (fun H => ∃ ad : Nat → Nat → Nat, ad 2 0 = h0 ∧ kL D A (mb cI cL ad (laf ad 10) ++ lmL cI ad 10) H) A) ([.ref h0] : List Value).toArray s 80 6714 A) (F0 m 79 ls []) := by
    intro n
    induction n with
    | zero =>
      intro i ad H locs ls hi h2 hP hD hS hl
      obtain rfl : i = 10 := by omega
      refine lv_iload_n hx hb dX4_init_79 rfl (lv_at hl 0 rfl) ?_
      refine lv_bipush (v := (10 : Int32)) hx hb dX4_init_80 (by decide) ?_
      refine lv_icmp_ge (tgt := 104) hx hb dX4_init_82 (by decide) (fun c5 => ?_) (fun c5 => absurd (show (10 : Int32) ≤ nI 10 by decide) c5)
      exact W.vret hx hb hr (fun t ht hW => ⟨rfl, ⟨ad, h2, by rw [ht]; exact hP, hD⟩, hS.F ht⟩) hS.2.2 dX4_init_104 hlocks
    | succ n ih =>
      intro i ad H locs ls hi h2 hP hD hS hl
      refine lv_iload_n hx hb dX4_init_79 rfl (lv_at hl 0 rfl) ?_
      refine lv_bipush (v := (10 : Int32)) hx hb dX4_init_80 (by decide) ?_
      refine lv_icmp_ge (tgt := 104) hx hb dX4_init_82 (by decide) (fun c5 => absurd ((nI_leI (a := 10) (by omega) (by omega)).mp c5) (by omega)) (fun c5 => ?_)
      refine lv_aload_n hx hb dX4_init_85 rfl (lv_at hl 1 rfl) ?_
      refine va_get (D := D) (ci := 4) (v := .ref (ad 3 0)) (C := RX4) (T := TX4) (N := 11) hx hb hts hL hown hK hP 0 (by rw [← h2]; rfl) rfl 0 (by decide) (hts (.fieldLink RX4 11 "MeshLamps$Mesh" "lamps" "[LMeshLamps$Lamp;") (List.mem_of_getElem? (i := 5) rfl)) (fun _ h9 => h9) rfl dX4_init_86 ?_
      refine lv_iload_n hx hb dX4_init_89 rfl (lv_at hl 0 rfl) ?_
      refine va_new (ci := 1) (fs := [.null, .null, .null, .null, .int 0, .int 0, .int 0, .int 0, .int 0, .int 0, .int 0, .int 0, .int 0, .int 0, .int 0]) (C := RX1) (T := TX1) (N := 15) hx hb hts hL1 tyX1 tyX1_ok hown (hts (.classLink RX4 9 RX1) (List.mem_of_getElem? (i := 4) rfl)) (hts (.instantiable RX1 15) (List.mem_of_getElem? (i := 22) rfl)) (hts (.initialized RX1) (List.mem_of_getElem? (i := 23) rfl)) hK hP hD hS hA rfl (fun j hj => by rcases (show j = 0 ∨ j = 1 ∨ j = 2 ∨ j = 3 ∨ j = 4 ∨ j = 5 ∨ j = 6 ∨ j = 7 ∨ j = 8 ∨ j = 9 ∨ j = 10 ∨ j = 11 ∨ j = 12 ∨ j = 13 ∨ j = 14 by omega) with rfl | rfl | rfl | rfl | rfl | rfl | rfl | rfl | rfl | rfl | rfl | rfl | rfl | rfl | rfl <;> rfl) (by show 10 + 7 * i + 1 ≤ 80; omega) (by show 6274 + 44 * i + 15 ≤ 6714; omega) dX4_init_90 (fun q H hP hD hS => ?_)
      refine lv_dup hx hb dX4_init_93 rfl ?_
      have hFc := kfree hD hS hA
      refine kw_call (va_runIN (As := []) (rest := [.ref q, .int (nI i), .ref (ad 3 0)]) ⟨hx, hb, hml, hown, hts⟩ (cn_X1 l D cI q H.size) ⟨va_cnB 0 hts gX4_init_X1_init_n56 rfl rfl rfl n1 (hts (.initialized RX1) (List.mem_of_getElem? (i := 23) rfl)) (by decide +kernel) ⟨Nat.le_of_ble_eq_true rfl, Nat.le_of_ble_eq_true rfl⟩, rfl, hts (.instanceMethod yX1_init) (List.mem_of_getElem? (i := 39) rfl)⟩ ⟨kP.blind XL.blind, fun U hU hW => ⟨rfl, by rw [hU], by rw [hU]; exact hP (mb cI cL ad (laf ad i) ++ lmL cI ad i).length _ (by rw [List.getElem?_append_right (Nat.le_refl _), Nat.sub_self]; rfl), va_K.moved hW.alike hK, xl.at hW hS hU hFc⟩⟩ rfl rfl hl.1 rfl (lv_room (Nat.le_of_ble_eq_true rfl)) dX4_init_94 ⟨by show 10 + 7 * i + 1 + 6 ≤ 80; omega, by show 6274 + 44 * i + 15 + 29 ≤ 6714; omega⟩) hS hFc (fun H1 locs hB hz1 hk1 hS => ?_)
      obtain ⟨a14, a15, a16, a17, a18, a19, hP1, hD1⟩ := hB
      obtain ⟨hP, hD⟩ := kjoin hP hD hk1 hFc hP1 hD1
      generalize H1 = H at hP hS ⊢
      refine va_astq hx hb hK3 hP hD hS 1 1 (mb cI cL ad (laf ad i) ++ lmL cI ad i).length 1 (n := 10) (r := (RX1, TX1, 15)) (f := laf ad i) rfl rfl (by rw [List.getElem?_append_right (Nat.le_refl _), Nat.sub_self]; rfl) rfl (ckI (by omega) (by omega)) dX4_init_97 (fun H locs hP hD hS => ?_)
      rw [nI_clamp (by omega)] at hP hD
      have ha2 : (fun k x : Nat => if x = i ∧ 13 ≤ k then (if k = 13 then q else if k = 14 then a14 else if k = 15 then a15 else if k = 16 then a16 else if k = 17 then a17 else if k = 18 then a18 else a19) else ad k x) = (fun k x : Nat => if x = i ∧ 13 ≤ k then (if k = 13 then q else if k = 14 then a14 else if k = 15 then a15 else if k = 16 then a16 else if k = 17 then a17 else if k = 18 then a18 else a19) else ad k x) := rfl
      generalize had : (fun k x : Nat => if x = i ∧ 13 ≤ k then (if k = 13 then q else if k = 14 then a14 else if k = 15 then a15 else if k = 16 then a16 else if k = 17 then a17 else if k = 18 then a18 else a19) else ad k x) = ad' at ha2
      have lo : ∀ k : Nat, k < 13 → ad' k 0 = ad k 0 := fun k hk => by rw [← had]; exact if_neg (by omega)
      have old : ∀ k x : Nat, x < i → ad k x = ad' k x := fun k x hx => by rw [← had]; exact (if_neg (by omega)).symm
      have nw : ad' 13 i = q ∧ ad' 14 i = a14 ∧ ad' 15 i = a15 ∧ ad' 16 i = a16 ∧ ad' 17 i = a17 ∧ ad' 18 i = a18 ∧ ad' 19 i = a19 := by
        rw [← had]
        simp
      have hf : va_up (laf ad i) i (some q) = laf ad' (i + 1) := by
        funext x
        unfold va_up laf
        by_cases y : x = i
        · subst y
          rw [if_pos rfl, if_pos (by omega), nw.1]
        · rw [if_neg y]
          by_cases z : x < i
          · rw [if_pos z, if_pos (by omega), old 13 x z]
          · rw [if_neg z, if_neg (by omega)]
      have eW : ∀ f : Nat → Option Nat, mb cI cL ad f ++ lmL cI ad i ++ lampL cI q a14 a15 a16 a17 a18 a19 = mb cI cL ad' f ++ lmL cI ad' (i + 1) := fun f => by
        rw [lmL, nw.1, nw.2.1, nw.2.2.1, nw.2.2.2.1, nw.2.2.2.2.1, nw.2.2.2.2.2.1, nw.2.2.2.2.2.2, lmL_cg i old, List.append_assoc]
        congr 1
        unfold mb
        rw [lo 2 (by omega), lo 3 (by omega), lo 4 (by omega), lo 5 (by omega), lo 6 (by omega), lo 7 (by omega), lo 8 (by omega), lo 9 (by omega), lo 10 (by omega), lo 11 (by omega), lo 12 (by omega)]
      have hP : va_P D vwCl (mb cI cL ad (va_up (laf ad i) i (some q)) ++ lmL cI ad i ++ lampL cI q a14 a15 a16 a17 a18 a19) H := hP
      have hD : va_D A (mb cI cL ad (va_up (laf ad i) i (some q)) ++ lmL cI ad i ++ lampL cI q a14 a15 a16 a17 a18 a19) := hD
      rw [eW, hf] at hP hD
      refine lv_iinc (v := nI i + (1 : Int32)) (lv' := [(1, .int (nI i + (1 : Int32))), (0, .ref h0)]) hx hb dX4_init_98 hl (k := 0) rfl rfl (by decide) rfl (fun ls hl => ?_)
      refine lv_goto (tgt := 79) hx hb dX4_init_101 (by decide) ?_
      rw [nI_1] at hl
      refine W.widen (k := 10 + 7 * (i + 1)) (n := 6274 + 44 * (i + 1)) (by omega) (by omega) ?_
      exact ih (i + 1) ad' H locs ls (by omega) ((lo 2 (by omega)).trans h2) hP hD hS hl
  exact LOOP 10 0 (fun k _ => match k with | 2 => h0 | 3 => q3 | 4 => q4 | 5 => q5 | 6 => q6 | 7 => q7 | 8 => q8 | 9 => q9 | 10 => q10 | 11 => q11 | _ => q12) H locs ls (by omega) rfl hP hD hS hl
