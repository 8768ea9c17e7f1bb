
/-! what holds at the start -/
abbrev sA (s : State) : Nat → Prop := fun q => s.heap.size ≤ q
theorem len_lt {args : Array Value} {s : State} {tm : Term} {a : Nat} {cell : Cell} {z : Int32} (h : (Term.length tm).eval args s none [] s = some (.int z)) (ht : tm.eval args s none [] s = some (.ref a)) (hat : s.arrayAt? a = some cell) : cell.slots.size < 2 ^ 31 := by
  by_cases hn : cell.slots.size < 2 ^ 31
  · exact hn
  · exfalso
    simp [Term.eval, ht, hat] at h
    omega
theorem tab_of {s : State} {args : Array Value} {nm : String} {v : Nat → Int32} (hl : (Cond.laysStatic "MeshLamps" nm "[I").before args s = true) (hini : (Cond.initialized "MeshLamps").before args s = true) (harr : (Cond.arrayOf (.static "MeshLamps" nm "[I") .int).before args s = true) (hlen : (Cond.eq (.length (.static "MeshLamps" nm "[I")) (.int 4)).before args s = true) (h0 : (Cond.eq (.elem (.static "MeshLamps" nm "[I") (.int 0)) (.int (v 0))).before args s = true) (h1 : (Cond.eq (.elem (.static "MeshLamps" nm "[I") (.int 1)) (.int (v 1))).before args s = true) (h2 : (Cond.eq (.elem (.static "MeshLamps" nm "[I") (.int 2)) (.int (v 2))).before args s = true) (h3 : (Cond.eq (.elem (.static "MeshLamps" nm "[I") (.int 3)) (.int (v 3))).before args s = true) : ∃ t : Nat, (Term.static "MeshLamps" nm "[I").eval args s none [] s = some (.ref t) ∧ va_Z "MeshLamps" nm "[I" (.ref t) (sA s) s s.heap ∧ va_T .int t 4 (fun k => .int (v k)) (sA s) s s.heap := by
  have hA : ∀ a : Nat, a < s.heap.size → ¬ sA s a := fun a h => Nat.not_le.mpr h
  obtain ⟨t, ht, hT⟩ := va_Tof (tm := .static "MeshLamps" nm "[I") (ty := .int) (N := 4) (f := fun k => .int (v k)) (A := sA s) (by omega) harr (va_eqt hlen) (fun j hj => by
    have hj4 : j = 0 ∨ j = 1 ∨ j = 2 ∨ j = 3 := by omega
    rcases hj4 with rfl | rfl | rfl | rfl
    · exact va_eqt h0
    · exact va_eqt h1
    · exact va_eqt h2
    · exact va_eqt h3) hA
  exact ⟨t, ht, va_Zref hl hini ht hA, hT⟩
theorem first_FS {s : State} {args : Array Value} {cI : ClassId} (hnm : s.vm.findClass "[I" = some cI) (hl : (Cond.laysStatic "MeshLamps" "FIRST_SETTING" "[I").before args s = true) (hini : (Cond.initialized "MeshLamps").before args s = true) (hs : ∀ w ∈ flatC (Jvm.Cond.and given_1 narrow_1), w.before args s = true) : FS cI (sA s) s s.heap := by
  have hlen : (Cond.eq (.length (.static "MeshLamps" "FIRST_SETTING" "[I")) (.int 4)).before args s = true := hs _ (by decide +kernel)
  obtain ⟨t, ht, hZ, cell, h1, h2, h3, h4, h5, h6, h7⟩ := tab_of (nm := "FIRST_SETTING") (v := fs0) hl hini (hs _ (by decide +kernel)) hlen (hs _ (by decide +kernel)) (hs _ (by decide +kernel)) (hs _ (by decide +kernel)) (hs _ (by decide +kernel))
  obtain ⟨t', c', cell', k', g1, g2, g3, g4, g5, g6, -⟩ := Cond.exactly_spec (show (Cond.exactly (.static "MeshLamps" "FIRST_SETTING" "[I") "[I").before args s = true from hs _ (by decide +kernel))
  cases ht.symm.trans g1
  cases h1.symm.trans g3
  cases hnm.symm.trans g2
  obtain ⟨a, cell2, q1, q2, -⟩ := Term.length_spec (va_eqt hlen)
  cases ht.symm.trans q1
  obtain ⟨q3, -, -, -⟩ := State.arrayAt?_spec q2
  cases h1.symm.trans q3
  have hlt := len_lt (va_eqt hlen) ht q2
  have hsz : cell.slots.size = 4 := by
    have e : Int32.ofNat cell.slots.size = Int32.ofNat 4 := h5
    exact nIi hlt (by omega) e
  refine ⟨t, cell, hZ, h1, h7, h3, h2.1, ?_⟩
  have hsl : cell.slots = (arrV cI 4 (fun j => .int (fs0 j))).slots := by
    apply Array.ext_getElem?
    intro i
    by_cases hi : i < 4
    · rw [arrV_read _ _ hi]
      exact h6 i hi
    · rw [Array.getElem?_eq_none (by omega), Array.getElem?_eq_none (by rw [arrV_size]; omega)]
  show ({ cls := cell.cls, slots := cell.slots } : Cell) = arrV cI 4 (fun j => .int (fs0 j))
  rw [hsl, g6]
  rfl
theorem arr_of {s : State} {args : Array Value} {ty : FieldType} (h : (Cond.arrayClass ty).before args s = true) (hty : ∀ c : ClassId, s.vm.findClass ("[" ++ ty.toString) = some c → va_RA s c ty) : ∃ c : ClassId, ArrOfT s c ty ∧ va_RA s c ty ∧ s.vm.findClass ("[" ++ ty.toString) = some c := by
  obtain ⟨c, k, comp, h1, h2, h3⟩ := Cond.arrayClass_spec h
  exact ⟨c, fun n z => ⟨(fun _ e => by cases e), k, h2, comp, h3⟩, hty c h1, h1⟩
theorem arrq_of {s : State} {C : String} (h : va_AO C s) : ∃ c : ClassId, ArrOfT s c (.object C) ∧ va_RA s c (.object C) := by
  obtain ⟨comp, c, k, h1, h2, h3, h4, h5⟩ := Cond.arrayOver_spec h
  exact ⟨c, fun n z => ⟨(fun _ e => by cases e), k, h3, comp, h4⟩, k, comp, h3, h4, h1, h5⟩
/-- all that the two worlds ask of the start -/
theorem start_facts {s : State} {args : Array Value} (hts : ∀ w ∈ lw_tbl, w.before args s = true) (hgv : (Jvm.Cond.and given_1 narrow_1).before args s = true) : ∃ (D : va_G) (cI cL cM cZ : ClassId), va_K D vwCl [(cI, .int), (cL, .object "MeshLamps$Lamp"), (cM, .object "MeshLamps$Mesh")] s ∧ va_K D vwCl [(cI, .int), (cZ, .boolean)] s ∧ (∀ w ∈ nwC, va_Nw w s) ∧ XM D cI cL cM (sA s) s ∧ va_AO RX4 s ∧ ∃ tL tM : Nat, va_Z "MeshLamps" "LEAST_SETTING" "[I" (.ref tL) (sA s) s s.heap ∧ va_T .int tL 4 (fun k => .int (stL k)) (sA s) s s.heap ∧ va_Z "MeshLamps" "MOST_SETTING" "[I" (.ref tM) (sA s) s s.heap ∧ va_T .int tM 4 (fun k => .int (stM k)) (sA s) s s.heap := by
  have hs := flat_of_before _ hgv
  obtain ⟨c0, i0, k0⟩ := u_known (C := RX0) (T := TX0) (N := 5) (n := 5) hts (fun w h => wsL_in w (inlX0 w h)) (hts (.instantiable RX0 5) (by decide +kernel))
  obtain ⟨c1, i1, k1⟩ := u_known (C := RX1) (T := TX1) (N := 15) (n := 15) hts (fun w h => wsL_in w (inlX1 w h)) (hts (.instantiable RX1 15) (by decide +kernel))
  obtain ⟨c2, i2, k2⟩ := u_known (C := RX2) (T := TX2) (N := 3) (n := 3) hts (fun w h => wsL_in w (inlX2 w h)) (hts (.instantiable RX2 3) (by decide +kernel))
  obtain ⟨c3, i3, k3⟩ := u_known (C := RX3) (T := TX3) (N := 2) (n := 2) hts (fun w h => wsL_in w (inlX3 w h)) (hts (.instantiable RX3 2) (by decide +kernel))
  obtain ⟨c4, i4, k4⟩ := u_known (C := RX4) (T := TX4) (N := 11) (n := 11) hts (fun w h => wsL_in w (inlX4 w h)) (hts (.instantiable RX4 11) (by decide +kernel))
  obtain ⟨c5, i5, k5⟩ := u_known (C := RX5) (T := TX5) (N := 2) (n := 2) hts (fun w h => wsL_in w (inlX5 w h)) (hts (.instantiable RX5 2) (by decide +kernel))
  obtain ⟨c6, i6, k6⟩ := u_known (C := RX6) (T := TX6) (N := 3) (n := 3) hts (fun w h => wsL_in w (inlX6 w h)) (hts (.instantiable RX6 3) (by decide +kernel))
  obtain ⟨dC, dI, hKc⟩ : ∃ (dC : Nat → ClassId) (dI : Nat → Nat → Nat), ∀ (k : Nat) (q : vw_C), vwCl[k]? = some q → u_Kn s q.1 q.2.1 q.2.2 (dC k) (dI k) := by
    refine ⟨fun k => match k with | 0 => c0 | 1 => c1 | 2 => c2 | 3 => c3 | 4 => c4 | 5 => c5 | _ => c6, fun k => match k with | 0 => i0 | 1 => i1 | 2 => i2 | 3 => i3 | 4 => i4 | 5 => i5 | _ => i6, ?_⟩
    intro k q hq
    match k, hq with
    | 0, hq => cases hq; exact k0
    | 1, hq => cases hq; exact k1
    | 2, hq => cases hq; exact k2
    | 3, hq => cases hq; exact k3
    | 4, hq => cases hq; exact k4
    | 5, hq => cases hq; exact k5
    | 6, hq => cases hq; exact k6
    | k + 7, hq => simp at hq
  obtain ⟨cI, aI, rI', nI'⟩ := arr_of (ty := .int) (hts (.arrayClass .int) (by decide +kernel)) (fun c h => h)
  obtain ⟨cZ, aZ, rZ, -⟩ := arr_of (ty := .boolean) (hts (.arrayClass .boolean) (by decide +kernel)) (fun c h => h)
  have oL : va_AO RX1 s := va_AO.of (hts (.arrayOver (.object "MeshLamps$Lamp")) (by decide +kernel))
  have oM : va_AO RX4 s := va_AO.of (hts (.arrayOver (.object "MeshLamps$Mesh")) (by decide +kernel))
  obtain ⟨cL, aL, rL⟩ := arrq_of oL
  obtain ⟨cM, aM, rM⟩ := arrq_of oM
  have K3 : va_K (dC, dI) vwCl [(cI, .int), (cL, .object "MeshLamps$Lamp"), (cM, .object "MeshLamps$Mesh")] s := ⟨hKc, fun k q hk => by
    match k, hk with
    | 0, hk => cases hk; exact ⟨aI, rI'⟩
    | 1, hk => cases hk; exact ⟨aL, rL⟩
    | 2, hk => cases hk; exact ⟨aM, rM⟩
    | k + 3, hk => simp at hk⟩
  have K2 : va_K (dC, dI) vwCl [(cI, .int), (cZ, .boolean)] s := ⟨hKc, fun k q hk => by
    match k, hk with
    | 0, hk => cases hk; exact ⟨aI, rI'⟩
    | 1, hk => cases hk; exact ⟨aZ, rZ⟩
    | k + 2, hk => simp at hk⟩
  have hini : (Cond.initialized "MeshLamps").before args s = true := hts _ (by decide +kernel)
  have hFS := first_FS (cI := cI) (va_nm_int rI') (hts _ (by decide +kernel)) hini hs
  obtain ⟨tL, -, zL, TL⟩ := tab_of (nm := "LEAST_SETTING") (v := stL) (hts _ (by decide +kernel)) hini (hs _ (by decide +kernel)) (hs _ (by decide +kernel)) (hs _ (by decide +kernel)) (hs _ (by decide +kernel)) (hs _ (by decide +kernel)) (hs _ (by decide +kernel))
  obtain ⟨tM, -, zM, TM⟩ := tab_of (nm := "MOST_SETTING") (v := stM) (hts _ (by decide +kernel)) hini (hs _ (by decide +kernel)) (hs _ (by decide +kernel)) (hs _ (by decide +kernel)) (hs _ (by decide +kernel)) (hs _ (by decide +kernel)) (hs _ (by decide +kernel))
  refine ⟨(dC, dI), cI, cL, cM, cZ, K3, K2, ?_, ⟨⟨hFS, va_Nw.of rfl (hts _ (by decide +kernel)), va_Nw.of rfl (hts _ (by decide +kernel))⟩, va_Nw.of rfl (hts _ (by decide +kernel)), va_Nw.of rfl (hts _ (by decide +kernel)), va_Nw.of rfl (hts _ (by decide +kernel)), oL, K3⟩, oM, tL, tM, zL, TL, zM, TM⟩
  intro w hw
  unfold nwC at hw
  simp only [List.mem_cons, List.not_mem_nil, or_false] at hw
  rcases hw with rfl | rfl | rfl
  · exact va_Nw.of rfl (hts _ (by decide +kernel))
  · exact va_Nw.of rfl (hts _ (by decide +kernel))
  · exact va_Nw.of rfl (hts _ (by decide +kernel))
