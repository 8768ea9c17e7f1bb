
/-- from the entry, for every script of at most 2560 ints, the law comes to its end with true -/
theorem whole_start {p : Program} {e : Env} {s : State} {m : MethodId} {below : List Frame} {meth : Method} {c : Code} (l : Launch) (hflags : l.flags = flags0) {b L : Nat} {xs : Nat → Int32} (hL : L ≤ 2560) (C0 : lw_At p s m meth c b L xs) : W p l e room_1 s m #[Value.ref b] below meth c s.heap [] 0 0 (lw_Z below #[Value.ref b] s) (entryFrame m ([Value.ref b] : List Value).toArray 4) := by
  obtain ⟨hx, hb, hr, hml, hown, hts, hX, hbl, hlocks, hgv⟩ := id C0
  have hb : c.code = cL_law := hb
  have hown : s.vm.findClass RL = some m.cls := hown
  obtain ⟨D, cI, cL, cM, cZ, hK3, hK2, hnw, xm, oM, tL, tM, z1, z2, z3, z4⟩ := start_facts hts hgv
  have htsL : ∀ w ∈ wsL_law, w.before #[Value.ref b] s = true := fun w hw => hts w (wsL_in w hw)
  have hA : ∀ q : Nat, s.heap.size ≤ q → sA s q := fun _ h => h
  have hS : va_S (sA s) s.heap s.heap [] := va_S.rf
  have hKi : va_K D vwCl [(cI, .int)] s := hK3.sub (tys' := [(cI, .int)]) [0] rfl
  have hP : va_P D vwCl ([] : va_W) s.heap := fun k q h => by simp at h
  have hD : va_D (sA s) ([] : va_W) := ⟨fun i j p q h => by simp at h, fun k q h => by simp at h⟩
  have hl := lv_entry ([.ref b]) (n := 4) (Nat.le_of_ble_eq_true rfl)
  rw [lg_entry_eq]
  generalize (lg_sl ([.ref b]) ++ List.replicate (4 - (lg_sl ([.ref b])).length) Slot.unset).toArray = ls at hl ⊢
  have hl : lv_has ls 4 [(0, .ref b)] := hl
  refine va_new (ci := 5) (fs := [.null, .null]) (C := RX5) (T := TX5) (N := 2) hx hb htsL inlX5 tyX5 tyX5_ok hown (htsL (.classLink RL 7 RX5) (List.mem_of_getElem? (i := 0) rfl)) (htsL (.instantiable RX5 2) (List.mem_of_getElem? (i := 1) rfl)) (htsL (.initialized RX5) (List.mem_of_getElem? (i := 2) rfl)) hK3 hP hD hS hA rfl (fun j hj => by rcases (show j = 0 ∨ j = 1 by omega) with rfl | rfl <;> rfl) (Nat.le_of_ble_eq_true rfl) (Nat.le_of_ble_eq_true rfl) dL_law_0 (fun q H hP hD hS => ?_)
  refine W.widen (k := 1) (n := 2) (by omega) (by omega) ?_
  refine lv_dup hx hb dL_law_3 rfl ?_
  have hFc := kfree (ws := []) hD hS hA
  refine kw_call (va_runI (As := []) (rest := [.ref q]) ⟨hx, hb, hml, hown, htsL⟩ (cn_X5 l D cI cL cM q H.size) (cwI 0 htsL gL_law_X5_init rfl rfl rfl (htsL (.initialized RX5) (List.mem_of_getElem? (i := 2) rfl)) (htsL (.methodLink RL 9 yX5_init) (List.mem_of_getElem? (i := 6) rfl)) (htsL (.instanceMethod yX5_init) (List.mem_of_getElem? (i := 7) rfl)) rfl (by decide +kernel) ⟨Nat.le_of_ble_eq_true rfl, Nat.le_of_ble_eq_true rfl⟩) ⟨kP.blind (fun U f mk a h => ⟨XM.blind U f mk a h.1, va_AO.moved (u := U) (U := U.calling f mk a) (Vm.Alike.refl U.vm) h.2⟩), fun U hU hW => ⟨rfl, by rw [hU], by rw [hU]; exact hP 0 _ rfl, va_K.moved hW.alike hKi, xm.at hW hS hU hFc, va_AO.moved hW.alike oM⟩⟩ rfl rfl hl.1 rfl (lv_room (Nat.le_of_ble_eq_true rfl)) dL_law_4 ⟨Nat.le_of_ble_eq_true rfl, Nat.le_of_ble_eq_true rfl⟩) hS hFc (fun H1 locs1 hB hz1 hk1 hS => ?_)
  obtain ⟨ad, h00, hF, hok, hAk⟩ := hB
  have hAc : ∀ x, fA (cφ (D, cI, cL, cM, 1, ad)) x → sA s x := fun x z => hFc x (hAk x z)
  refine W.widen (k := 83) (n := 6729) (by omega) (by omega) ?_
  refine lv_astore_n (lv' := [(1, .ref q), (0, .ref b)]) hx hb dL_law_7 rfl hl (by decide) rfl (fun ls hl => ?_)
  have hP2 := fw_P hF
  have hD2 := (fw_D (g := gI) hok).weaken (B := sA s) (fun _ _ _ z => hAc _ z)
  refine va_new (ci := 6) (fs := [.null, .null, .null]) (C := RX6) (T := TX6) (N := 3) hx hb htsL inlX6 tyX6 tyX6_ok hown (htsL (.classLink RL 10 RX6) (List.mem_of_getElem? (i := 3) rfl)) (htsL (.instantiable RX6 3) (List.mem_of_getElem? (i := 4) rfl)) (htsL (.initialized RX6) (List.mem_of_getElem? (i := 5) rfl)) hK3 hP2 hD2 hS hA rfl (fun j hj => by rcases (show j = 0 ∨ j = 1 ∨ j = 2 by omega) with rfl | rfl | rfl <;> rfl) (Nat.le_of_ble_eq_true rfl) (Nat.le_of_ble_eq_true rfl) dL_law_8 (fun q2 H2 hP3 hD3 hS => ?_)
  refine W.widen (k := 84) (n := 6732) (by omega) (by omega) ?_
  refine lv_dup hx hb dL_law_11 rfl ?_
  have hFm := kfree hD3 hS hA
  -- the first world stands
  have lst : (wl (cφ (D, cI, cL, cM, 1, ad)) gI ++ [(q2, .inr (6, [.null, .null, .null]))] : va_W)[(wl (cφ (D, cI, cL, cM, 1, ad)) gI).length]? = some (q2, .inr (6, [.null, .null, .null])) := by
    rw [List.getElem?_append_right (Nat.le_refl _), Nat.sub_self]
    rfl
  have hF2 : fw (cφ (D, cI, cL, cM, 1, ad)) gI H2 := fun k i hi => by
    obtain ⟨z, hz⟩ := fw_pos (φ := cφ (D, cI, cL, cM, 1, ad)) (g := gI) hok hi
    exact hP3 z _ (by rw [List.getElem?_append_left (List.getElem?_eq_some_iff.mp hz).1]; exact hz)
  have hne : ∀ x, fA (cφ (D, cI, cL, cM, 1, ad)) x → x ≠ q2 ∧ x < H2.size := by
    rintro x ⟨k, i, hi, rfl⟩
    refine ⟨fun y => ?_, (hF2 k i hi).lt⟩
    obtain ⟨z, hz⟩ := fw_pos (φ := cφ (D, cI, cL, cM, 1, ad)) (g := gI) hok hi
    have hzl := (List.getElem?_eq_some_iff.mp hz).1
    have := hD3.1 z _ _ _ (by rw [List.getElem?_append_left hzl]; exact hz) lst y
    omega
  refine kw_call (va_runI (As := []) (rest := [.ref q2]) ⟨hx, hb, hml, hown, htsL⟩ (cn_X6 l D cI cZ q2 H2.size) (cwI 0 htsL gL_law_X6_init rfl rfl rfl (htsL (.initialized RX6) (List.mem_of_getElem? (i := 5) rfl)) (htsL (.methodLink RL 12 yX6_init) (List.mem_of_getElem? (i := 93) rfl)) (htsL (.instanceMethod yX6_init) (List.mem_of_getElem? (i := 94) rfl)) rfl (by decide +kernel) ⟨Nat.le_of_ble_eq_true rfl, Nat.le_of_ble_eq_true rfl⟩) ⟨kP.blind (fun U f mk a h => va_K.moved (u := U) (U := U.calling f mk a) (Vm.Alike.refl U.vm) h), fun U hU hW => ⟨rfl, by rw [hU], by rw [hU]; exact hP3 _ _ lst, va_K.moved hW.alike hKi, va_K.moved hW.alike hK2⟩⟩ rfl rfl hl.1 rfl (lv_room (Nat.le_of_ble_eq_true rfl)) dL_law_12 ⟨Nat.le_of_ble_eq_true rfl, Nat.le_of_ble_eq_true rfl⟩) hS hFm (fun H3 locs3 hB hz3 hk3 hS => ?_)
  obtain ⟨amd, m00, hFm3, hokm, hAmk⟩ := hB
  have hF3 := fw_keep hF2 (fun x y1 y2 => hk3 x y1 (fun z => by
    have h := hne x y2
    rcases z with z | z
    · exact h.1 z
    · omega))
  refine lv_astore_n (lv' := [(2, .ref q2), (1, .ref q), (0, .ref b)]) hx hb dL_law_15 rfl hl (by decide) rfl (fun ls hl => ?_)
  refine lv_iconst (v := (0 : Int32)) hx hb dL_law_16 (by decide) ?_
  refine lv_istore_n (lv' := [(3, .int 0), (2, .ref q2), (1, .ref q), (0, .ref b)]) hx hb dL_law_17 rfl hl (by decide) rfl (fun ls hl => ?_)
  refine va_forget hS.2.2 ?_
  refine W.widen (k := 100 + 81 * 0) (n := 30000 + 6725 * 0) (by omega) (by omega) ?_
  subst h00
  subst m00
  exact law_loop l hL C0 hK3 hK2 hnw xm z1 z2 z3 z4 hokm (fun x z => hFm x (hAmk x z)) 513 0 1 (ad 0 0) ad gI fI H3 ls (by omega) (by omega) ⟨hS.1, hS.2.1, fun _ h => by cases h⟩ ⟨first_TR, by omega, rfl, hok, hF3, hAc, hFm3, fun x y1 y2 => by
    have h := hne x y1
    rcases hAmk x y2 with z | z
    · exact h.1 z
    · omega⟩ (lv_sub hl [0, 3, 2, 1] rfl)
-- ===== YOUR PART ENDS =====
set_option maxHeartbeats 4000000 in
theorem lw_walk (l : Launch) (hflags : l.flags = flags0) (b : Addr) (xs : List Int32) : MetFree l x (headSpec (Jvm.Cond.code x code maxLocals ret :: tables_1) room_1) (lw_P b xs) (fun _ _ _ _ _ => True) lw_Q := by
  refine MetFree.of_bodyS (code := code) (maxLocals := maxLocals) (ret := ret) (by decide) ?_ ?_
  · intro args s m h hn
    obtain ⟨meth, c, h1, h2, h3, h4, h5, h6, -, -⟩ := Cond.code_spec hn (atoms_spec (ws := Jvm.Cond.code x code maxLocals ret :: tables_1) h _ List.mem_cons_self)
    exact ⟨meth, c, h1, h2, h3, h4, h5, h6⟩
  · intro p e s m args below meth c s₁ B hml0 hP _
    obtain ⟨rfl, hx, hbd, hgv⟩ := hP
    obtain ⟨scr, harrAt, hlist, hof, hsmall⟩ := hx
    obtain ⟨hcb, hkn, -, -⟩ := State.arrayAt?_spec harrAt
    have hown : s.vm.findClass R_law = some m.cls := findClass_of_methodNamed B.named
    have hts0 : ∀ c ∈ (Jvm.Cond.code x code maxLocals ret :: tables_1), c.before #[Value.ref b] s = true := atoms_spec (ws := Jvm.Cond.code x code maxLocals ret :: tables_1) B.pre
    have hts : ∀ w ∈ lw_tbl, w.before #[Value.ref b] s = true := k2_hts_sels lw_privs (fun w hw => hts0 w (List.mem_cons_of_mem _ hw)) lw_privs_ok
    have hml : c.maxLocals = 4 := B.maxLocals_eq (hts0 _ List.mem_cons_self)
    have X₀ : Stand p l e room_1 s m #[Value.ref b] below meth c s₁ [] 0 0 := Stand.of_body B
    have hh0 : s₁.heap = s.heap := by rw [B.state]; rfl
    have hsz : scr.slots.size = xs.length := by rw [← Array.length_toList, hlist, List.length_map]
    have hval : ∀ j : Nat, j < xs.length → scr.slots[j]? = some (.int (xs.getD j 0)) := fun j hj => by
      rw [← Array.getElem?_toList, hlist]
      simp [hj]
    have hbl : b < s.heap.size := (Array.getElem?_eq_some_iff.mp hcb).1
    have hX : va_X b xs.length (fun j => xs.getD j 0) s s.heap := ⟨scr, hcb, hof, hkn, hsz, hval⟩
    have K : W p l e room_1 s m #[Value.ref b] below meth c s₁.heap [] 0 0 (lw_Z below #[Value.ref b] s) (entryFrame m ([Value.ref b] : List Value).toArray 4) := by
      rw [hh0]
      exact whole_start l hflags hbd ⟨B.exec, B.bytes, B.returns, hml, hown, hts, hX, hbl, B.notSynchronized, hgv⟩
    obtain ⟨t, a1, o, b1, b2, b3⟩ := K s₁ rfl X₀
    exact ⟨t, o, a1, b1, b2, b3⟩
theorem lw_pre_spec {args : Array Value} {s : State} (h : (Jvm.Cond.and given_1 narrow_1).before args s = true) (hr : rest_1_c.before args s = true) : ∃ (b : Addr) (xs : List Int32), lw_P b xs args s := by
  have hs := flat_of_before _ h
  have hq := flat_of_before _ hr
  have hc : (Cond.count 1).before args s = true := hs _ (by decide +kernel)
  have harr : (Cond.arrayOf (.arg 0) .int).before args s = true := hs _ (by decide +kernel)
  have hle : (Cond.le (.length (.arg 0)) (.int 2560)).before args s = true := hs _ (by decide +kernel)
  have hlen : (Cond.isInt (.length (.arg 0))).before args s = true := hq _ (by decide +kernel)
  have hall : (Cond.all (.arg 0) (.isInt (.elem (.arg 0) (.index 0)))).before args s = true := hq _ (by decide +kernel)
  obtain ⟨b, xs, hb, hx⟩ := State.ints_of_pre rfl harr hlen hall
  have hsm : xs.length < 2 ^ 31 := hx.choose_spec.2.2.2
  have hev : (Term.length (.arg 0)).eval args s none [] s = some (.int xs.length.toInt32) := hx.length_eval hb
  have hv := Cond.le_ints hev (show (Term.int 2560).eval args s none [] s = some (.int 2560) from rfl)
  have hd : xs.length.toInt32 ≤ 2560 := by
    simpa [Cond.before, Cond.holds, hv] using hle
  have hN : xs.length ≤ 2560 := (Int32.ofNat_le_ofNat hsm (by decide)).mp (show Int32.ofNat xs.length ≤ Int32.ofNat 2560 from hd)
  exact ⟨b, xs, Cond.one_arg hc (show args[0]? = some (.ref b) from hb), hx, hN, h⟩
theorem lw_comes (l : Launch) (hflags : l.flags = flags0) : Comes l x (Jvm.Cond.code x code maxLocals ret :: tables_1) room_1 (fun tb e args s => Calls_1 tb e args s ∧ rest_1 tb e args s ∧ Pre_1 tb e args s)
    (fun _ _ args s o t => lw_Q args s o t) := by
  intro p e ha hc hk s m args below hf hfit hheap happ hpre
  obtain ⟨b, xs, hP⟩ := lw_pre_spec hpre.2.2 hpre.2.1
  obtain ⟨k, o, h1, h2, h3, hQ⟩ := lw_walk l hflags b xs p e ha hc hk s m args below hf ((Spec.applies_iff_loose hf).mp happ).1 hP trivial
  exact ⟨k, o, h1, h2, h3, hQ⟩
theorem lw_frame {s t : State} {o : Outcome} {args : Array Value} (h : Framed s o t [] 490820 7629788) :
    Framed s o t (fieldLocs frame_1_writes args s ++ arrayLocs frame_1_arrays args s ++ staticLocs frame_1_statics s) 490820 7629788 := h
theorem lw_limb (L : Cond) (hL : ∀ (args : Array Value) (s t : State), L.after args s (.returned (some (.int 1))) t = true) :
    ArmFor flags0 classFile x code maxLocals ret World_1 tables_1 room_1 Calls_1 rest_1 Pre_1
      (fun tb e a s o t => postC L tb e a s o t ∧ Framed s o t (fieldLocs frame_1_writes a s ++ arrayLocs frame_1_arrays a s ++ staticLocs frame_1_statics s) 490820 7629788) := by
  intro l hflags _ _ p e ha hc hk s m args below hf hfit hheap happ hpre
  obtain ⟨k, o, h1, h2, h3, rfl, hF⟩ := lw_comes l hflags p e ha hc hk s m args below hf hfit hheap happ hpre
  exact ⟨k, _, h1, h2, h3, hL args s _, lw_frame hF⟩
theorem i_vc : Claimed_1_1 ∧ Claimed_1_2 := ⟨lw_limb limb_1_1 (fun args s t => by simp [limb_1_1, Cond.after, Cond.holds, Cond.value]), lw_limb limb_1_2 (fun args s t => Cond.after_iff.mpr (by
  first | (rw [show limb_1_2 = Cond.eq .result (.int 1) from rfl, Cond.eq_ints (x := 1) (y := 1) rfl rfl]; simp; done) | (simp [limb_1_2, Cond.value, Term.eval]; done)))⟩
