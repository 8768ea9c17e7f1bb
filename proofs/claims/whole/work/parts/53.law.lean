
set_option maxHeartbeats 40000000 in
set_option maxRecDepth 100000 in
theorem law_loop {p : Program} {e : Env} {s : State} {m : MethodId} {below : List Frame} {meth : Method} {c : Code} (l : Launch) {b L : Nat} {xs : Nat → Int32} (hL : L ≤ 2560) (C0 : lw_At p s m meth c b L xs) {D : va_G} {cI cL cM cZ : ClassId} (hK3 : va_K D vwCl [(cI, .int), (cL, .object "MeshLamps$Lamp"), (cM, .object "MeshLamps$Mesh")] s) (hK2 : va_K D vwCl [(cI, .int), (cZ, .boolean)] s) (hnw : ∀ w ∈ nwC, va_Nw w s) (xm : XM D cI cL cM (sA s) s) {tL tM : Nat} (z1 : va_Z "MeshLamps" "LEAST_SETTING" "[I" (.ref tL) (sA s) s s.heap) (z2 : va_T .int tL 4 (fun k => .int (stL k)) (sA s) s s.heap) (z3 : va_Z "MeshLamps" "MOST_SETTING" "[I" (.ref tM) (sA s) s s.heap) (z4 : va_T .int tM 4 (fun k => .int (stM k)) (sA s) s s.heap) {amd : Nat → Nat → Nat} (hokm : fok (mφ (D, cI, cZ, amd))) (hAm : ∀ q, fA (mφ (D, cI, cZ, amd)) q → sA s q) : ∀ (N B n : Nat) (x1 : Nat) (ad : Nat → Nat → Nat) (g f : Mem) (H : Heap) (ls : Array Slot), B + N = 513 → 5 * B ≤ L → va_S (sA s) s.heap H [] → LI s D cI cL cM cZ amd x1 B n ad g f H → lv_has ls 4 [(3, .int (nI (5 * B))), (0, .ref b), (1, .ref x1), (2, .ref (amd 0 0))] → W p l e room_1 s m #[Value.ref b] below meth c H [] (100 + 81 * B) (30000 + 6725 * B) (lw_Z below #[Value.ref b] s) (F0 m 18 ls []) := by
  obtain ⟨hx, hb, hr, hml, hown, hts, hX, hbl, hlocks, hgv⟩ := id C0
  have hb : c.code = cL_law := hb
  have hown : s.vm.findClass RL = some m.cls := hown
  have hbA : ¬ sA s b := Nat.not_le.mpr hbl
  have htsL : ∀ w ∈ wsL_law, w.before #[Value.ref b] s = true := fun w hw => hts w (wsL_in w hw)
  have hEm : fE (mφ (D, cI, cZ, amd)) s := ⟨hK2, fun w hw => by cases hw⟩
  have hE : ∀ (n : Nat) (ad : Nat → Nat → Nat), fE (cφ (D, cI, cL, cM, n, ad)) s := fun n ad => ⟨hK3, hnw⟩
  -- set looks into two tables
  have preSet : ∀ {n : Nat} {ad : Nat → Nat → Nat} {g : Mem} {H : Heap} {locs : List Loc} {As : List Value}, fok (cφ (D, cI, cL, cM, n, ad)) → fE (cφ (D, cI, cL, cM, n, ad)) s → fw (cφ (D, cI, cL, cM, n, ad)) g H → 1 ≤ cn (D, cI, cL, cM, n, ad) → va_S (sA s) s.heap H locs → (∀ q, fA (cφ (D, cI, cL, cM, n, ad)) q → sA s q) → PreV s H RX5 (fa (cφ (D, cI, cL, cM, n, ad)) 0 0) (fun v U => fP (cφ (D, cI, cL, cM, n, ad)) g (.ref (fa (cφ (D, cI, cL, cM, n, ad)) 0 0) :: As) v U ∧ fSt (cφ (D, cI, cL, cM, n, ad)) U) As := by
    intro n ad g H locs As hok hE hFc hn hS hAc
    obtain ⟨h1, h2, h3⟩ := fw_preV (φ := cφ (D, cI, cL, cM, n, ad)) (As := As) hok hE hFc (b0 (κ := (D, cI, cL, cM, n, ad)) hn) (cm0 (D, cI, cL, cM, n, ad) _ _) rfl
    exact ⟨fun a U f mk h => ⟨h1 a U f mk h.1, h.2.blind⟩, h2, fun U hU hW => ⟨h3 U hU hW, fSt.at z1 z2 z3 z4 hW.alike hS hU hAc⟩⟩
  have preImg : ∀ {n : Nat} {ad : Nat → Nat → Nat} {g : Mem} {H : Heap} {locs : List Loc} {a : Int32}, fok (cφ (D, cI, cL, cM, n, ad)) → fE (cφ (D, cI, cL, cM, n, ad)) s → fw (cφ (D, cI, cL, cM, n, ad)) g H → 1 ≤ cn (D, cI, cL, cM, n, ad) → va_S (sA s) s.heap H locs → (∀ q, fA (cφ (D, cI, cL, cM, n, ad)) q → sA s q) → PreV s H RX5 (ad 0 0) (fun v U => v = ([.ref (ad 0 0), .int a] : List Value).toArray ∧ U.heap.size = H.size ∧ fw (cφ (D, cI, cL, cM, n, ad)) g U.heap ∧ fE (cφ (D, cI, cL, cM, n, ad)) U ∧ XM D cI cL cM (iA (cφ (D, cI, cL, cM, n, ad)) H.size) U) [.int a] := by
    intro n ad g H locs a hok hE hFc hn hS hAc
    obtain ⟨h1, h2, h3⟩ := fw_preV (φ := cφ (D, cI, cL, cM, n, ad)) (As := [.int a]) hok hE hFc (b0 (κ := (D, cI, cL, cM, n, ad)) hn) (cm0 (D, cI, cL, cM, n, ad) _ _) rfl
    refine ⟨fun v U f mk h => ?_, h2, fun U hU hW => ?_⟩
    · obtain ⟨y1, y2, y3, y4, y5⟩ := h
      obtain ⟨-, w2, w3⟩ := h1 v U f mk ⟨y1, y3, y4⟩
      exact ⟨y1, y2, w2, w3, XM.blind U f mk v y5⟩
    · obtain ⟨-, w2, w3⟩ := h3 U hU hW
      exact ⟨rfl, by rw [hU], w2, w3, xm.at hW hS hU (fun q z => by
        rcases z with z | z
        · exact hAc q z
        · exact Nat.le_trans hS.1 z)⟩
  intro N
  induction N with
  | zero =>
    intro B n x1 ad g f H ls hBN hBL
    omega
  | succ N ih =>
    intro B n x1 ad g f H ls hBN hBL hS hLI hl
    obtain ⟨hT, hn, hx1, hok, hFc, hAc, hFm, hdj⟩ := hLI
    subst hx1
    have hE := hE n ad
    have hS0 := hS.1
    -- the next five
    have NXT : 5 * B + 5 ≤ L → ∀ (n' : Nat) (ad' : Nat → Nat → Nat) (g' f' : Mem) (H' : Heap) (ls : Array Slot) {locs : List Loc}, va_S (sA s) s.heap H' locs → LI s D cI cL cM cZ amd (ad 0 0) (B + 1) n' ad' g' f' H' → lv_has ls 4 [(3, .int (nI (5 * B))), (0, .ref b), (1, .ref (ad 0 0)), (2, .ref (amd 0 0))] → W p l e room_1 s m #[Value.ref b] below meth c H' [] (100 + 81 * (B + 1)) (30000 + 6725 * (B + 1)) (lw_Z below #[Value.ref b] s) (F0 m 684 ls []) := by
      intro h5 n' ad' g' f' H' ls locs hS' hLI' hl'
      refine lv_iinc (v := nI (5 * B) + (5 : Int32)) (lv' := [(3, .int (nI (5 * B) + (5 : Int32))), (0, .ref b), (1, .ref (ad 0 0)), (2, .ref (amd 0 0))]) hx hb dL_law_684 hl' (k := 0) rfl rfl (by decide) rfl (fun ls hl => ?_)
      refine lv_goto (tgt := 18) hx hb dL_law_687 (by decide) ?_
      rw [show nI (5 * B) + (5 : Int32) = nI (5 * (B + 1)) from nI_add _ 5] at hl
      exact ih (B + 1) n' (ad 0 0) ad' g' f' H' ls (by omega) (by omega) ⟨hS'.1, hS'.2.1, fun _ h => by cases h⟩ hLI' hl
    refine lv_iload_n hx hb dL_law_18 rfl (lv_at hl 0 rfl) ?_
    refine lv_aload_n hx hb dL_law_19 rfl (lv_at hl 1 rfl) ?_
    refine va_slen hx hb hX hbl hbA hS dL_law_20 ?_
    refine lv_iconst (v := (5 : Int32)) hx hb dL_law_21 (by decide) ?_
    refine lv_isub hx hb dL_law_22 ?_
    refine lv_icmp_gt (tgt := 690) hx hb dL_law_23 (by decide) (fun c5 => ?_) (fun c5 => ?_)
    · refine lv_iconst (v := (1 : Int32)) hx hb dL_law_690 (by decide) ?_
      refine W.widen (k := 490820) (n := 7629788) (by omega) (by omega) ?_
      exact lw_ret hx hb hr hlocks dL_law_691
    · have h5 : 5 * B + 5 ≤ L := by
        have c6 : ¬ (nI L - (5 : Int32) < nI (5 * B)) := c5
        rw [len5 (by omega) (by omega)] at c6
        omega
      have NXT := NXT h5
      refine lv_aload_n hx hb dL_law_26 rfl (lv_at hl 1 rfl) ?_
      refine lv_iload_n hx hb dL_law_27 rfl (lv_at hl 0 rfl) ?_
      refine va_sld hx hb hX hbl hbA hS (ckI (by omega) (by omega)) dL_law_28 ?_
      refine lv_bipush (v := (31 : Int32)) hx hb dL_law_29 (by decide) ?_
      refine lv_iand hx hb dL_law_31 ?_
      refine lv_topi (fun v _ => ?_)
      by_cases hz : btw v 0 17 = 0
      · refine lv_tableOut (tgt := 684) hx hb dL_law_32 (btw17 hz) (by decide) ?_
        refine W.widen (k := 100 + 81 * (B + 1)) (n := 30000 + 6725 * (B + 1)) (by omega) (by omega) ?_
        exact NXT n ad g f H ls hS ⟨hT.up, hn, rfl, hok, hFc, hAc, hFm, hdj⟩ hl
      obtain ⟨k, -, hk, rfl⟩ := btw_n (m := 0) (n := 17) rfl rfl (by omega) (by omega) hz
      have hk18 : k = 0 ∨ k = 1 ∨ k = 2 ∨ k = 3 ∨ k = 4 ∨ k = 5 ∨ k = 6 ∨ k = 7 ∨ k = 8 ∨ k = 9 ∨ k = 10 ∨ k = 11 ∨ k = 12 ∨ k = 13 ∨ k = 14 ∨ k = 15 ∨ k = 16 ∨ k = 17 := by omega
      rcases hk18 with rfl | rfl | rfl | rfl | rfl | rfl | rfl | rfl | rfl | rfl | rfl | rfl | rfl | rfl | rfl | rfl | rfl | rfl
      · -- link
        refine lv_tableIn (off := 88) (tgt := 120) hx hb dL_law_32 (by decide) (by decide) rfl (by decide) ?_
        obtain ⟨r, g1, f1, m1, m2, hT1⟩ := hT.ps (pp_link (F := 7000) hT.rp (by omega) (xs (5 * B + 1)) (xs (5 * B + 2)) (xs (5 * B + 3)))
        refine lv_aload_n hx hb dL_law_120 rfl (lv_at hl 2 rfl) ?_
        refine lv_aload_n hx hb dL_law_121 rfl (lv_at hl 1 rfl) ?_
        refine lv_iload_n hx hb dL_law_122 rfl (lv_at hl 0 rfl) ?_
        refine lv_iconst (v := (1 : Int32)) hx hb dL_law_123 (by decide) ?_
        refine lv_iadd hx hb dL_law_124 ?_
        rw [show nI (5 * B) + (1 : Int32) = nI (5 * B + 1) from nI_add _ 1]
        refine va_sld hx hb hX hbl hbA hS (ckI (by omega) (by omega)) dL_law_125 ?_
        rw [nI_clamp (show 5 * B + 1 < 2 ^ 31 by omega)]
        refine lv_aload_n hx hb dL_law_126 rfl (lv_at hl 1 rfl) ?_
        refine lv_iload_n hx hb dL_law_127 rfl (lv_at hl 0 rfl) ?_
        refine lv_iconst (v := (2 : Int32)) hx hb dL_law_128 (by decide) ?_
        refine lv_iadd hx hb dL_law_129 ?_
        rw [show nI (5 * B) + (2 : Int32) = nI (5 * B + 2) from nI_add _ 2]
        refine va_sld hx hb hX hbl hbA hS (ckI (by omega) (by omega)) dL_law_130 ?_
        rw [nI_clamp (show 5 * B + 2 < 2 ^ 31 by omega)]
        refine lv_aload_n hx hb dL_law_131 rfl (lv_at hl 1 rfl) ?_
        refine lv_iload_n hx hb dL_law_132 rfl (lv_at hl 0 rfl) ?_
        refine lv_iconst (v := (3 : Int32)) hx hb dL_law_133 (by decide) ?_
        refine lv_iadd hx hb dL_law_134 ?_
        rw [show nI (5 * B) + (3 : Int32) = nI (5 * B + 3) from nI_add _ 3]
        refine va_sld hx hb hX hbl hbA hS (ckI (by omega) (by omega)) dL_law_135 ?_
        rw [nI_clamp (show 5 * B + 3 < 2 ^ 31 by omega)]
        refine gw_call (va_runV (As := [.int (xs (5 * B + 1)), .int (xs (5 * B + 2)), .int (xs (5 * B + 3))]) (rest := []) ⟨hx, hb, hml, hown, htsL⟩ (c_X5_link l (κ := (D, cI, cL, cM, n, ad)) hok (show 1 ≤ cn (D, cI, cL, cM, n, ad) from hn) m1) (cwV 3 htsL gL_law_X5_link rfl rfl rfl qv_X5_link ⟨Nat.le_of_ble_eq_true rfl, Nat.le_of_ble_eq_true rfl⟩) (fw_preV (φ := cφ (D, cI, cL, cM, n, ad)) hok hE hFc (b0 (κ := (D, cI, cL, cM, n, ad)) (show 1 ≤ cn (D, cI, cL, cM, n, ad) from hn)) (cm0 (D, cI, cL, cM, n, ad) _ _) rfl) rfl rfl hl.1 rfl (lv_room (Nat.le_of_ble_eq_true rfl)) dL_law_136 ⟨by show 100 + 81 * B + 0 ≤ 490820; omega, by show 30000 + 6725 * B + 0 ≤ 7629788; omega⟩) hS hAc (fun H1 locs1 hFc1 hz1 hk1 hS1 => ?_)
        have hFm1 := fw_keep hFm (fun q y1 y2 => hk1 q y1 (fun z => hdj q z y2))
        refine W.widen (k := 100 + 81 * (B + 1)) (n := 30000 + 6725 * (B + 1)) (by omega) (by omega) ?_
        replace hS := hS1
        refine lv_aload_n hx hb dL_law_139 rfl (lv_at hl 3 rfl) ?_
        refine lv_aload_n hx hb dL_law_140 rfl (lv_at hl 1 rfl) ?_
        refine lv_iload_n hx hb dL_law_141 rfl (lv_at hl 0 rfl) ?_
        refine lv_iconst (v := (1 : Int32)) hx hb dL_law_142 (by decide) ?_
        refine lv_iadd hx hb dL_law_143 ?_
        rw [show nI (5 * B) + (1 : Int32) = nI (5 * B + 1) from nI_add _ 1]
        refine va_sld hx hb hX hbl hbA hS (ckI (by omega) (by omega)) dL_law_144 ?_
        rw [nI_clamp (show 5 * B + 1 < 2 ^ 31 by omega)]
        refine lv_aload_n hx hb dL_law_145 rfl (lv_at hl 1 rfl) ?_
        refine lv_iload_n hx hb dL_law_146 rfl (lv_at hl 0 rfl) ?_
        refine lv_iconst (v := (2 : Int32)) hx hb dL_law_147 (by decide) ?_
        refine lv_iadd hx hb dL_law_148 ?_
        rw [show nI (5 * B) + (2 : Int32) = nI (5 * B + 2) from nI_add _ 2]
        refine va_sld hx hb hX hbl hbA hS (ckI (by omega) (by omega)) dL_law_149 ?_
        rw [nI_clamp (show 5 * B + 2 < 2 ^ 31 by omega)]
        refine lv_aload_n hx hb dL_law_150 rfl (lv_at hl 1 rfl) ?_
        refine lv_iload_n hx hb dL_law_151 rfl (lv_at hl 0 rfl) ?_
        refine lv_iconst (v := (3 : Int32)) hx hb dL_law_152 (by decide) ?_
        refine lv_iadd hx hb dL_law_153 ?_
        rw [show nI (5 * B) + (3 : Int32) = nI (5 * B + 3) from nI_add _ 3]
        refine va_sld hx hb hX hbl hbA hS (ckI (by omega) (by omega)) dL_law_154 ?_
        rw [nI_clamp (show 5 * B + 3 < 2 ^ 31 by omega)]
        refine gw_call (va_runV (As := [.int (xs (5 * B + 1)), .int (xs (5 * B + 2)), .int (xs (5 * B + 3))]) (rest := [.int r]) ⟨hx, hb, hml, hown, htsL⟩ (c_X6_link l (μ := (D, cI, cZ, amd)) hokm m2) (cwV 3 htsL gL_law_X6_link rfl rfl rfl qv_X6_link ⟨Nat.le_of_ble_eq_true rfl, Nat.le_of_ble_eq_true rfl⟩) (fw_preV (φ := mφ (D, cI, cZ, amd)) hokm hEm hFm1 (e0 (D, cI, cZ, amd)) (mm0 (D, cI, cZ, amd) _ _) rfl) rfl rfl hl.1 rfl (lv_room (Nat.le_of_ble_eq_true rfl)) dL_law_155 ⟨by show 100 + 81 * (B + 1) + 0 ≤ 490820; omega, by show 30000 + 6725 * (B + 1) + 0 ≤ 7629788; omega⟩) hS hAm (fun H2 locs2 hFm2 hz2 hk2 hS2 => ?_)
        have hFc2 := fw_keep hFc1 (fun q y1 y2 => hk2 q y1 (fun z => hdj q y2 z))
        refine lv_icmp_eq (tgt := 684) hx hb dL_law_158 (by decide) (fun _ => ?_) (fun z => absurd rfl z)
        refine va_forget hS2.2.2 ?_
        exact NXT n ad g1 f1 H2 ls hS2 ⟨hT1, hn, rfl, hok, hFc2, hAc, hFm2, hdj⟩ hl
      · -- set
        refine lv_tableIn (off := 131) (tgt := 163) hx hb dL_law_32 (by decide) (by decide) rfl (by decide) ?_
        obtain ⟨r, g1, f1, m1, m2, hT1⟩ := hT.ps (pp_set (F := 7000) hT.rp (by omega) (xs (5 * B + 1)) (xs (5 * B + 2)) (xs (5 * B + 3)))
        refine lv_aload_n hx hb dL_law_163 rfl (lv_at hl 2 rfl) ?_
        refine lv_aload_n hx hb dL_law_164 rfl (lv_at hl 1 rfl) ?_
        refine lv_iload_n hx hb dL_law_165 rfl (lv_at hl 0 rfl) ?_
        refine lv_iconst (v := (1 : Int32)) hx hb dL_law_166 (by decide) ?_
        refine lv_iadd hx hb dL_law_167 ?_
        rw [show nI (5 * B) + (1 : Int32) = nI (5 * B + 1) from nI_add _ 1]
        refine va_sld hx hb hX hbl hbA hS (ckI (by omega) (by omega)) dL_law_168 ?_
        rw [nI_clamp (show 5 * B + 1 < 2 ^ 31 by omega)]
        refine lv_aload_n hx hb dL_law_169 rfl (lv_at hl 1 rfl) ?_
        refine lv_iload_n hx hb dL_law_170 rfl (lv_at hl 0 rfl) ?_
        refine lv_iconst (v := (2 : Int32)) hx hb dL_law_171 (by decide) ?_
        refine lv_iadd hx hb dL_law_172 ?_
        rw [show nI (5 * B) + (2 : Int32) = nI (5 * B + 2) from nI_add _ 2]
        refine va_sld hx hb hX hbl hbA hS (ckI (by omega) (by omega)) dL_law_173 ?_
        rw [nI_clamp (show 5 * B + 2 < 2 ^ 31 by omega)]
        refine lv_aload_n hx hb dL_law_174 rfl (lv_at hl 1 rfl) ?_
        refine lv_iload_n hx hb dL_law_175 rfl (lv_at hl 0 rfl) ?_
        refine lv_iconst (v := (3 : Int32)) hx hb dL_law_176 (by decide) ?_
        refine lv_iadd hx hb dL_law_177 ?_
        rw [show nI (5 * B) + (3 : Int32) = nI (5 * B + 3) from nI_add _ 3]
        refine va_sld hx hb hX hbl hbA hS (ckI (by omega) (by omega)) dL_law_178 ?_
        rw [nI_clamp (show 5 * B + 3 < 2 ^ 31 by omega)]
        refine gw_call (va_runV (As := [.int (xs (5 * B + 1)), .int (xs (5 * B + 2)), .int (xs (5 * B + 3))]) (rest := []) ⟨hx, hb, hml, hown, htsL⟩ (c_X5_set l (κ := (D, cI, cL, cM, n, ad)) hok (show 1 ≤ cn (D, cI, cL, cM, n, ad) from hn) m1) (cwV 3 htsL gL_law_X5_set rfl rfl rfl qv_X5_set ⟨Nat.le_of_ble_eq_true rfl, Nat.le_of_ble_eq_true rfl⟩) (preSet hok hE hFc (show 1 ≤ cn (D, cI, cL, cM, n, ad) from hn) hS hAc) rfl rfl hl.1 rfl (lv_room (Nat.le_of_ble_eq_true rfl)) dL_law_179 ⟨by show 100 + 81 * B + 0 ≤ 490820; omega, by show 30000 + 6725 * B + 0 ≤ 7629788; omega⟩) hS hAc (fun H1 locs1 hFc1 hz1 hk1 hS1 => ?_)
        have hFm1 := fw_keep hFm (fun q y1 y2 => hk1 q y1 (fun z => hdj q z y2))
        refine W.widen (k := 100 + 81 * (B + 1)) (n := 30000 + 6725 * (B + 1)) (by omega) (by omega) ?_
        replace hS := hS1
        refine lv_aload_n hx hb dL_law_182 rfl (lv_at hl 3 rfl) ?_
        refine lv_aload_n hx hb dL_law_183 rfl (lv_at hl 1 rfl) ?_
        refine lv_iload_n hx hb dL_law_184 rfl (lv_at hl 0 rfl) ?_
        refine lv_iconst (v := (1 : Int32)) hx hb dL_law_185 (by decide) ?_
        refine lv_iadd hx hb dL_law_186 ?_
        rw [show nI (5 * B) + (1 : Int32) = nI (5 * B + 1) from nI_add _ 1]
        refine va_sld hx hb hX hbl hbA hS (ckI (by omega) (by omega)) dL_law_187 ?_
        rw [nI_clamp (show 5 * B + 1 < 2 ^ 31 by omega)]
        refine lv_aload_n hx hb dL_law_188 rfl (lv_at hl 1 rfl) ?_
        refine lv_iload_n hx hb dL_law_189 rfl (lv_at hl 0 rfl) ?_
        refine lv_iconst (v := (2 : Int32)) hx hb dL_law_190 (by decide) ?_
        refine lv_iadd hx hb dL_law_191 ?_
        rw [show nI (5 * B) + (2 : Int32) = nI (5 * B + 2) from nI_add _ 2]
        refine va_sld hx hb hX hbl hbA hS (ckI (by omega) (by omega)) dL_law_192 ?_
        rw [nI_clamp (show 5 * B + 2 < 2 ^ 31 by omega)]
        refine lv_aload_n hx hb dL_law_193 rfl (lv_at hl 1 rfl) ?_
        refine lv_iload_n hx hb dL_law_194 rfl (lv_at hl 0 rfl) ?_
        refine lv_iconst (v := (3 : Int32)) hx hb dL_law_195 (by decide) ?_
        refine lv_iadd hx hb dL_law_196 ?_
        rw [show nI (5 * B) + (3 : Int32) = nI (5 * B + 3) from nI_add _ 3]
        refine va_sld hx hb hX hbl hbA hS (ckI (by omega) (by omega)) dL_law_197 ?_
        rw [nI_clamp (show 5 * B + 3 < 2 ^ 31 by omega)]
        refine gw_call (va_runV (As := [.int (xs (5 * B + 1)), .int (xs (5 * B + 2)), .int (xs (5 * B + 3))]) (rest := [.int r]) ⟨hx, hb, hml, hown, htsL⟩ (c_X6_set l (μ := (D, cI, cZ, amd)) hokm m2) (cwV 3 htsL gL_law_X6_set rfl rfl rfl qv_X6_set ⟨Nat.le_of_ble_eq_true rfl, Nat.le_of_ble_eq_true rfl⟩) (fw_preV (φ := mφ (D, cI, cZ, amd)) hokm hEm hFm1 (e0 (D, cI, cZ, amd)) (mm0 (D, cI, cZ, amd) _ _) rfl) rfl rfl hl.1 rfl (lv_room (Nat.le_of_ble_eq_true rfl)) dL_law_198 ⟨by show 100 + 81 * (B + 1) + 0 ≤ 490820; omega, by show 30000 + 6725 * (B + 1) + 0 ≤ 7629788; omega⟩) hS hAm (fun H2 locs2 hFm2 hz2 hk2 hS2 => ?_)
        have hFc2 := fw_keep hFc1 (fun q y1 y2 => hk2 q y1 (fun z => hdj q y2 z))
        refine lv_icmp_eq (tgt := 684) hx hb dL_law_201 (by decide) (fun _ => ?_) (fun z => absurd rfl z)
        refine va_forget hS2.2.2 ?_
        exact NXT n ad g1 f1 H2 ls hS2 ⟨hT1, hn, rfl, hok, hFc2, hAc, hFm2, hdj⟩ hl
      · -- friend
        refine lv_tableIn (off := 174) (tgt := 206) hx hb dL_law_32 (by decide) (by decide) rfl (by decide) ?_
        obtain ⟨r, g1, f1, m1, m2, hT1⟩ := hT.ps (pp_friend (F := 7000) hT.rp (by omega) (xs (5 * B + 1)) (xs (5 * B + 2)))
        refine lv_aload_n hx hb dL_law_206 rfl (lv_at hl 2 rfl) ?_
        refine lv_aload_n hx hb dL_law_207 rfl (lv_at hl 1 rfl) ?_
        refine lv_iload_n hx hb dL_law_208 rfl (lv_at hl 0 rfl) ?_
        refine lv_iconst (v := (1 : Int32)) hx hb dL_law_209 (by decide) ?_
        refine lv_iadd hx hb dL_law_210 ?_
        rw [show nI (5 * B) + (1 : Int32) = nI (5 * B + 1) from nI_add _ 1]
        refine va_sld hx hb hX hbl hbA hS (ckI (by omega) (by omega)) dL_law_211 ?_
        rw [nI_clamp (show 5 * B + 1 < 2 ^ 31 by omega)]
        refine lv_aload_n hx hb dL_law_212 rfl (lv_at hl 1 rfl) ?_
        refine lv_iload_n hx hb dL_law_213 rfl (lv_at hl 0 rfl) ?_
        refine lv_iconst (v := (2 : Int32)) hx hb dL_law_214 (by decide) ?_
        refine lv_iadd hx hb dL_law_215 ?_
        rw [show nI (5 * B) + (2 : Int32) = nI (5 * B + 2) from nI_add _ 2]
        refine va_sld hx hb hX hbl hbA hS (ckI (by omega) (by omega)) dL_law_216 ?_
        rw [nI_clamp (show 5 * B + 2 < 2 ^ 31 by omega)]
        refine gw_call (va_runV (As := [.int (xs (5 * B + 1)), .int (xs (5 * B + 2))]) (rest := []) ⟨hx, hb, hml, hown, htsL⟩ (c_X5_friend l (κ := (D, cI, cL, cM, n, ad)) hok (show 1 ≤ cn (D, cI, cL, cM, n, ad) from hn) m1) (cwV 2 htsL gL_law_X5_friend rfl rfl rfl qv_X5_friend ⟨Nat.le_of_ble_eq_true rfl, Nat.le_of_ble_eq_true rfl⟩) (fw_preV (φ := cφ (D, cI, cL, cM, n, ad)) hok hE hFc (b0 (κ := (D, cI, cL, cM, n, ad)) (show 1 ≤ cn (D, cI, cL, cM, n, ad) from hn)) (cm0 (D, cI, cL, cM, n, ad) _ _) rfl) rfl rfl hl.1 rfl (lv_room (Nat.le_of_ble_eq_true rfl)) dL_law_217 ⟨by show 100 + 81 * B + 0 ≤ 490820; omega, by show 30000 + 6725 * B + 0 ≤ 7629788; omega⟩) hS hAc (fun H1 locs1 hFc1 hz1 hk1 hS1 => ?_)
        have hFm1 := fw_keep hFm (fun q y1 y2 => hk1 q y1 (fun z => hdj q z y2))
        refine W.widen (k := 100 + 81 * (B + 1)) (n := 30000 + 6725 * (B + 1)) (by omega) (by omega) ?_
        replace hS := hS1
        refine lv_aload_n hx hb dL_law_220 rfl (lv_at hl 3 rfl) ?_
        refine lv_aload_n hx hb dL_law_221 rfl (lv_at hl 1 rfl) ?_
        refine lv_iload_n hx hb dL_law_222 rfl (lv_at hl 0 rfl) ?_
        refine lv_iconst (v := (1 : Int32)) hx hb dL_law_223 (by decide) ?_
        refine lv_iadd hx hb dL_law_224 ?_
        rw [show nI (5 * B) + (1 : Int32) = nI (5 * B + 1) from nI_add _ 1]
        refine va_sld hx hb hX hbl hbA hS (ckI (by omega) (by omega)) dL_law_225 ?_
        rw [nI_clamp (show 5 * B + 1 < 2 ^ 31 by omega)]
        refine lv_aload_n hx hb dL_law_226 rfl (lv_at hl 1 rfl) ?_
        refine lv_iload_n hx hb dL_law_227 rfl (lv_at hl 0 rfl) ?_
        refine lv_iconst (v := (2 : Int32)) hx hb dL_law_228 (by decide) ?_
        refine lv_iadd hx hb dL_law_229 ?_
        rw [show nI (5 * B) + (2 : Int32) = nI (5 * B + 2) from nI_add _ 2]
        refine va_sld hx hb hX hbl hbA hS (ckI (by omega) (by omega)) dL_law_230 ?_
        rw [nI_clamp (show 5 * B + 2 < 2 ^ 31 by omega)]
        refine gw_call (va_runV (As := [.int (xs (5 * B + 1)), .int (xs (5 * B + 2))]) (rest := [.int r]) ⟨hx, hb, hml, hown, htsL⟩ (c_X6_friend l (μ := (D, cI, cZ, amd)) hokm m2) (cwV 2 htsL gL_law_X6_friend rfl rfl rfl qv_X6_friend ⟨Nat.le_of_ble_eq_true rfl, Nat.le_of_ble_eq_true rfl⟩) (fw_preV (φ := mφ (D, cI, cZ, amd)) hokm hEm hFm1 (e0 (D, cI, cZ, amd)) (mm0 (D, cI, cZ, amd) _ _) rfl) rfl rfl hl.1 rfl (lv_room (Nat.le_of_ble_eq_true rfl)) dL_law_231 ⟨by show 100 + 81 * (B + 1) + 0 ≤ 490820; omega, by show 30000 + 6725 * (B + 1) + 0 ≤ 7629788; omega⟩) hS hAm (fun H2 locs2 hFm2 hz2 hk2 hS2 => ?_)
        have hFc2 := fw_keep hFc1 (fun q y1 y2 => hk2 q y1 (fun z => hdj q y2 z))
        refine lv_icmp_eq (tgt := 684) hx hb dL_law_234 (by decide) (fun _ => ?_) (fun z => absurd rfl z)
        refine va_forget hS2.2.2 ?_
        exact NXT n ad g1 f1 H2 ls hS2 ⟨hT1, hn, rfl, hok, hFc2, hAc, hFm2, hdj⟩ hl
      · -- sleep
        refine lv_tableIn (off := 207) (tgt := 239) hx hb dL_law_32 (by decide) (by decide) rfl (by decide) ?_
        obtain ⟨r, g1, f1, m1, m2, hT1⟩ := hT.ps (pp_sleep (F := 7000) hT.rp (by omega) (by omega) (xs (5 * B + 1)) (xs (5 * B + 2)))
        refine lv_aload_n hx hb dL_law_239 rfl (lv_at hl 2 rfl) ?_
        refine lv_aload_n hx hb dL_law_240 rfl (lv_at hl 1 rfl) ?_
        refine lv_iload_n hx hb dL_law_241 rfl (lv_at hl 0 rfl) ?_
        refine lv_iconst (v := (1 : Int32)) hx hb dL_law_242 (by decide) ?_
        refine lv_iadd hx hb dL_law_243 ?_
        rw [show nI (5 * B) + (1 : Int32) = nI (5 * B + 1) from nI_add _ 1]
        refine va_sld hx hb hX hbl hbA hS (ckI (by omega) (by omega)) dL_law_244 ?_
        rw [nI_clamp (show 5 * B + 1 < 2 ^ 31 by omega)]
        refine lv_aload_n hx hb dL_law_245 rfl (lv_at hl 1 rfl) ?_
        refine lv_iload_n hx hb dL_law_246 rfl (lv_at hl 0 rfl) ?_
        refine lv_iconst (v := (2 : Int32)) hx hb dL_law_247 (by decide) ?_
        refine lv_iadd hx hb dL_law_248 ?_
        rw [show nI (5 * B) + (2 : Int32) = nI (5 * B + 2) from nI_add _ 2]
        refine va_sld hx hb hX hbl hbA hS (ckI (by omega) (by omega)) dL_law_249 ?_
        rw [nI_clamp (show 5 * B + 2 < 2 ^ 31 by omega)]
        refine gw_call (va_runV (As := [.int (xs (5 * B + 1)), .int (xs (5 * B + 2))]) (rest := []) ⟨hx, hb, hml, hown, htsL⟩ (c_X5_sleep l (κ := (D, cI, cL, cM, n, ad)) hok (show 1 ≤ cn (D, cI, cL, cM, n, ad) from hn) m1) (cwV 2 htsL gL_law_X5_sleep rfl rfl rfl qv_X5_sleep ⟨Nat.le_of_ble_eq_true rfl, Nat.le_of_ble_eq_true rfl⟩) (fw_preV (φ := cφ (D, cI, cL, cM, n, ad)) hok hE hFc (b0 (κ := (D, cI, cL, cM, n, ad)) (show 1 ≤ cn (D, cI, cL, cM, n, ad) from hn)) (cm0 (D, cI, cL, cM, n, ad) _ _) rfl) rfl rfl hl.1 rfl (lv_room (Nat.le_of_ble_eq_true rfl)) dL_law_250 ⟨by show 100 + 81 * B + 0 ≤ 490820; omega, by show 30000 + 6725 * B + 0 ≤ 7629788; omega⟩) hS hAc (fun H1 locs1 hFc1 hz1 hk1 hS1 => ?_)
        have hFm1 := fw_keep hFm (fun q y1 y2 => hk1 q y1 (fun z => hdj q z y2))
        refine W.widen (k := 100 + 81 * (B + 1)) (n := 30000 + 6725 * (B + 1)) (by omega) (by omega) ?_
        replace hS := hS1
        refine lv_aload_n hx hb dL_law_253 rfl (lv_at hl 3 rfl) ?_
        refine lv_aload_n hx hb dL_law_254 rfl (lv_at hl 1 rfl) ?_
        refine lv_iload_n hx hb dL_law_255 rfl (lv_at hl 0 rfl) ?_
        refine lv_iconst (v := (1 : Int32)) hx hb dL_law_256 (by decide) ?_
        refine lv_iadd hx hb dL_law_257 ?_
        rw [show nI (5 * B) + (1 : Int32) = nI (5 * B + 1) from nI_add _ 1]
        refine va_sld hx hb hX hbl hbA hS (ckI (by omega) (by omega)) dL_law_258 ?_
        rw [nI_clamp (show 5 * B + 1 < 2 ^ 31 by omega)]
        refine lv_aload_n hx hb dL_law_259 rfl (lv_at hl 1 rfl) ?_
        refine lv_iload_n hx hb dL_law_260 rfl (lv_at hl 0 rfl) ?_
        refine lv_iconst (v := (2 : Int32)) hx hb dL_law_261 (by decide) ?_
        refine lv_iadd hx hb dL_law_262 ?_
        rw [show nI (5 * B) + (2 : Int32) = nI (5 * B + 2) from nI_add _ 2]
        refine va_sld hx hb hX hbl hbA hS (ckI (by omega) (by omega)) dL_law_263 ?_
        rw [nI_clamp (show 5 * B + 2 < 2 ^ 31 by omega)]
        refine gw_call (va_runV (As := [.int (xs (5 * B + 1)), .int (xs (5 * B + 2))]) (rest := [.int r]) ⟨hx, hb, hml, hown, htsL⟩ (c_X6_sleep l (μ := (D, cI, cZ, amd)) hokm m2) (cwV 2 htsL gL_law_X6_sleep rfl rfl rfl qv_X6_sleep ⟨Nat.le_of_ble_eq_true rfl, Nat.le_of_ble_eq_true rfl⟩) (fw_preV (φ := mφ (D, cI, cZ, amd)) hokm hEm hFm1 (e0 (D, cI, cZ, amd)) (mm0 (D, cI, cZ, amd) _ _) rfl) rfl rfl hl.1 rfl (lv_room (Nat.le_of_ble_eq_true rfl)) dL_law_264 ⟨by show 100 + 81 * (B + 1) + 0 ≤ 490820; omega, by show 30000 + 6725 * (B + 1) + 0 ≤ 7629788; omega⟩) hS hAm (fun H2 locs2 hFm2 hz2 hk2 hS2 => ?_)
        have hFc2 := fw_keep hFc1 (fun q y1 y2 => hk2 q y1 (fun z => hdj q y2 z))
        refine lv_icmp_eq (tgt := 684) hx hb dL_law_267 (by decide) (fun _ => ?_) (fun z => absurd rfl z)
        refine va_forget hS2.2.2 ?_
        exact NXT n ad g1 f1 H2 ls hS2 ⟨hT1, hn, rfl, hok, hFc2, hAc, hFm2, hdj⟩ hl
      · -- phase
        refine lv_tableIn (off := 240) (tgt := 272) hx hb dL_law_32 (by decide) (by decide) rfl (by decide) ?_
        obtain ⟨r, g1, f1, m1, m2, hT1⟩ := hT.ps (pp_phase hT.rp (by omega))
        refine lv_aload_n hx hb dL_law_272 rfl (lv_at hl 2 rfl) ?_
        refine gw_call (va_runV (As := []) (rest := []) ⟨hx, hb, hml, hown, htsL⟩ (c_X5_phase l (κ := (D, cI, cL, cM, n, ad)) hok (show 1 ≤ cn (D, cI, cL, cM, n, ad) from hn) m1) (cwV 0 htsL gL_law_X5_phase rfl rfl rfl qv_X5_phase ⟨Nat.le_of_ble_eq_true rfl, Nat.le_of_ble_eq_true rfl⟩) (fw_preV (φ := cφ (D, cI, cL, cM, n, ad)) hok hE hFc (b0 (κ := (D, cI, cL, cM, n, ad)) (show 1 ≤ cn (D, cI, cL, cM, n, ad) from hn)) (cm0 (D, cI, cL, cM, n, ad) _ _) rfl) rfl rfl hl.1 rfl (lv_room (Nat.le_of_ble_eq_true rfl)) dL_law_273 ⟨by show 100 + 81 * B + 0 ≤ 490820; omega, by show 30000 + 6725 * B + 0 ≤ 7629788; omega⟩) hS hAc (fun H1 locs1 hFc1 hz1 hk1 hS1 => ?_)
        have hFm1 := fw_keep hFm (fun q y1 y2 => hk1 q y1 (fun z => hdj q z y2))
        refine W.widen (k := 100 + 81 * (B + 1)) (n := 30000 + 6725 * (B + 1)) (by omega) (by omega) ?_
        replace hS := hS1
        refine lv_aload_n hx hb dL_law_276 rfl (lv_at hl 3 rfl) ?_
        refine gw_call (va_runV (As := []) (rest := [.int r]) ⟨hx, hb, hml, hown, htsL⟩ (c_X6_phase l (μ := (D, cI, cZ, amd)) hokm m2) (cwV 0 htsL gL_law_X6_phase rfl rfl rfl qv_X6_phase ⟨Nat.le_of_ble_eq_true rfl, Nat.le_of_ble_eq_true rfl⟩) (fw_preV (φ := mφ (D, cI, cZ, amd)) hokm hEm hFm1 (e0 (D, cI, cZ, amd)) (mm0 (D, cI, cZ, amd) _ _) rfl) rfl rfl hl.1 rfl (lv_room (Nat.le_of_ble_eq_true rfl)) dL_law_277 ⟨by show 100 + 81 * (B + 1) + 0 ≤ 490820; omega, by show 30000 + 6725 * (B + 1) + 0 ≤ 7629788; omega⟩) hS hAm (fun H2 locs2 hFm2 hz2 hk2 hS2 => ?_)
        have hFc2 := fw_keep hFc1 (fun q y1 y2 => hk2 q y1 (fun z => hdj q y2 z))
        refine lv_icmp_eq (tgt := 684) hx hb dL_law_280 (by decide) (fun _ => ?_) (fun z => absurd rfl z)
        refine va_forget hS2.2.2 ?_
        exact NXT n ad g1 f1 H2 ls hS2 ⟨hT1, hn, rfl, hok, hFc2, hAc, hFm2, hdj⟩ hl
      · -- give
        refine lv_tableIn (off := 253) (tgt := 285) hx hb dL_law_32 (by decide) (by decide) rfl (by decide) ?_
        obtain ⟨r, g1, f1, m1, m2, hT1⟩ := hT.ps (pp_give (F := 7000) hT.rp (by omega) (xs (5 * B + 1)))
        refine lv_aload_n hx hb dL_law_285 rfl (lv_at hl 2 rfl) ?_
        refine lv_aload_n hx hb dL_law_286 rfl (lv_at hl 1 rfl) ?_
        refine lv_iload_n hx hb dL_law_287 rfl (lv_at hl 0 rfl) ?_
        refine lv_iconst (v := (1 : Int32)) hx hb dL_law_288 (by decide) ?_
        refine lv_iadd hx hb dL_law_289 ?_
        rw [show nI (5 * B) + (1 : Int32) = nI (5 * B + 1) from nI_add _ 1]
        refine va_sld hx hb hX hbl hbA hS (ckI (by omega) (by omega)) dL_law_290 ?_
        rw [nI_clamp (show 5 * B + 1 < 2 ^ 31 by omega)]
        refine gw_call (va_runV (As := [.int (xs (5 * B + 1))]) (rest := []) ⟨hx, hb, hml, hown, htsL⟩ (c_X5_give l (κ := (D, cI, cL, cM, n, ad)) hok (show 1 ≤ cn (D, cI, cL, cM, n, ad) from hn) m1) (cwV 1 htsL gL_law_X5_give rfl rfl rfl qv_X5_give ⟨Nat.le_of_ble_eq_true rfl, Nat.le_of_ble_eq_true rfl⟩) (fw_preV (φ := cφ (D, cI, cL, cM, n, ad)) hok hE hFc (b0 (κ := (D, cI, cL, cM, n, ad)) (show 1 ≤ cn (D, cI, cL, cM, n, ad) from hn)) (cm0 (D, cI, cL, cM, n, ad) _ _) rfl) rfl rfl hl.1 rfl (lv_room (Nat.le_of_ble_eq_true rfl)) dL_law_291 ⟨by show 100 + 81 * B + 0 ≤ 490820; omega, by show 30000 + 6725 * B + 0 ≤ 7629788; omega⟩) hS hAc (fun H1 locs1 hFc1 hz1 hk1 hS1 => ?_)
        have hFm1 := fw_keep hFm (fun q y1 y2 => hk1 q y1 (fun z => hdj q z y2))
        refine W.widen (k := 100 + 81 * (B + 1)) (n := 30000 + 6725 * (B + 1)) (by omega) (by omega) ?_
        replace hS := hS1
        refine lv_aload_n hx hb dL_law_294 rfl (lv_at hl 3 rfl) ?_
        refine lv_aload_n hx hb dL_law_295 rfl (lv_at hl 1 rfl) ?_
        refine lv_iload_n hx hb dL_law_296 rfl (lv_at hl 0 rfl) ?_
        refine lv_iconst (v := (1 : Int32)) hx hb dL_law_297 (by decide) ?_
        refine lv_iadd hx hb dL_law_298 ?_
        rw [show nI (5 * B) + (1 : Int32) = nI (5 * B + 1) from nI_add _ 1]
        refine va_sld hx hb hX hbl hbA hS (ckI (by omega) (by omega)) dL_law_299 ?_
        rw [nI_clamp (show 5 * B + 1 < 2 ^ 31 by omega)]
        refine gw_call (va_runV (As := [.int (xs (5 * B + 1))]) (rest := [.int r]) ⟨hx, hb, hml, hown, htsL⟩ (c_X6_give l (μ := (D, cI, cZ, amd)) hokm m2) (cwV 1 htsL gL_law_X6_give rfl rfl rfl qv_X6_give ⟨Nat.le_of_ble_eq_true rfl, Nat.le_of_ble_eq_true rfl⟩) (fw_preV (φ := mφ (D, cI, cZ, amd)) hokm hEm hFm1 (e0 (D, cI, cZ, amd)) (mm0 (D, cI, cZ, amd) _ _) rfl) rfl rfl hl.1 rfl (lv_room (Nat.le_of_ble_eq_true rfl)) dL_law_300 ⟨by show 100 + 81 * (B + 1) + 0 ≤ 490820; omega, by show 30000 + 6725 * (B + 1) + 0 ≤ 7629788; omega⟩) hS hAm (fun H2 locs2 hFm2 hz2 hk2 hS2 => ?_)
        have hFc2 := fw_keep hFc1 (fun q y1 y2 => hk2 q y1 (fun z => hdj q y2 z))
        refine lv_icmp_eq (tgt := 684) hx hb dL_law_303 (by decide) (fun _ => ?_) (fun z => absurd rfl z)
        refine va_forget hS2.2.2 ?_
        exact NXT n ad g1 f1 H2 ls hS2 ⟨hT1, hn, rfl, hok, hFc2, hAc, hFm2, hdj⟩ hl
      · -- has
        refine lv_tableIn (off := 276) (tgt := 308) hx hb dL_law_32 (by decide) (by decide) rfl (by decide) ?_
        obtain ⟨r, g1, f1, m1, m2, hT1⟩ := hT.ps (pp_has hT.rp (xs (5 * B + 1)) (xs (5 * B + 2)))
        refine lv_aload_n hx hb dL_law_308 rfl (lv_at hl 2 rfl) ?_
        refine lv_aload_n hx hb dL_law_309 rfl (lv_at hl 1 rfl) ?_
        refine lv_iload_n hx hb dL_law_310 rfl (lv_at hl 0 rfl) ?_
        refine lv_iconst (v := (1 : Int32)) hx hb dL_law_311 (by decide) ?_
        refine lv_iadd hx hb dL_law_312 ?_
        rw [show nI (5 * B) + (1 : Int32) = nI (5 * B + 1) from nI_add _ 1]
        refine va_sld hx hb hX hbl hbA hS (ckI (by omega) (by omega)) dL_law_313 ?_
        rw [nI_clamp (show 5 * B + 1 < 2 ^ 31 by omega)]
        refine lv_aload_n hx hb dL_law_314 rfl (lv_at hl 1 rfl) ?_
        refine lv_iload_n hx hb dL_law_315 rfl (lv_at hl 0 rfl) ?_
        refine lv_iconst (v := (2 : Int32)) hx hb dL_law_316 (by decide) ?_
        refine lv_iadd hx hb dL_law_317 ?_
        rw [show nI (5 * B) + (2 : Int32) = nI (5 * B + 2) from nI_add _ 2]
        refine va_sld hx hb hX hbl hbA hS (ckI (by omega) (by omega)) dL_law_318 ?_
        rw [nI_clamp (show 5 * B + 2 < 2 ^ 31 by omega)]
        refine gw_call (va_runV (As := [.int (xs (5 * B + 1)), .int (xs (5 * B + 2))]) (rest := []) ⟨hx, hb, hml, hown, htsL⟩ (c_X5_has l (κ := (D, cI, cL, cM, n, ad)) hok (show 1 ≤ cn (D, cI, cL, cM, n, ad) from hn) m1) (cwV 2 htsL gL_law_X5_has rfl rfl rfl qv_X5_has ⟨Nat.le_of_ble_eq_true rfl, Nat.le_of_ble_eq_true rfl⟩) (fw_preV (φ := cφ (D, cI, cL, cM, n, ad)) hok hE hFc (b0 (κ := (D, cI, cL, cM, n, ad)) (show 1 ≤ cn (D, cI, cL, cM, n, ad) from hn)) (cm0 (D, cI, cL, cM, n, ad) _ _) rfl) rfl rfl hl.1 rfl (lv_room (Nat.le_of_ble_eq_true rfl)) dL_law_319 ⟨by show 100 + 81 * B + 0 ≤ 490820; omega, by show 30000 + 6725 * B + 0 ≤ 7629788; omega⟩) hS hAc (fun H1 locs1 hFc1 hz1 hk1 hS1 => ?_)
        have hFm1 := fw_keep hFm (fun q y1 y2 => hk1 q y1 (fun z => hdj q z y2))
        refine W.widen (k := 100 + 81 * (B + 1)) (n := 30000 + 6725 * (B + 1)) (by omega) (by omega) ?_
        replace hS := hS1
        refine lv_aload_n hx hb dL_law_322 rfl (lv_at hl 3 rfl) ?_
        refine lv_aload_n hx hb dL_law_323 rfl (lv_at hl 1 rfl) ?_
        refine lv_iload_n hx hb dL_law_324 rfl (lv_at hl 0 rfl) ?_
        refine lv_iconst (v := (1 : Int32)) hx hb dL_law_325 (by decide) ?_
        refine lv_iadd hx hb dL_law_326 ?_
        rw [show nI (5 * B) + (1 : Int32) = nI (5 * B + 1) from nI_add _ 1]
        refine va_sld hx hb hX hbl hbA hS (ckI (by omega) (by omega)) dL_law_327 ?_
        rw [nI_clamp (show 5 * B + 1 < 2 ^ 31 by omega)]
        refine lv_aload_n hx hb dL_law_328 rfl (lv_at hl 1 rfl) ?_
        refine lv_iload_n hx hb dL_law_329 rfl (lv_at hl 0 rfl) ?_
        refine lv_iconst (v := (2 : Int32)) hx hb dL_law_330 (by decide) ?_
        refine lv_iadd hx hb dL_law_331 ?_
        rw [show nI (5 * B) + (2 : Int32) = nI (5 * B + 2) from nI_add _ 2]
        refine va_sld hx hb hX hbl hbA hS (ckI (by omega) (by omega)) dL_law_332 ?_
        rw [nI_clamp (show 5 * B + 2 < 2 ^ 31 by omega)]
        refine gw_call (va_runV (As := [.int (xs (5 * B + 1)), .int (xs (5 * B + 2))]) (rest := [.int r]) ⟨hx, hb, hml, hown, htsL⟩ (c_X6_has l (μ := (D, cI, cZ, amd)) hokm m2) (cwV 2 htsL gL_law_X6_has rfl rfl rfl qv_X6_has ⟨Nat.le_of_ble_eq_true rfl, Nat.le_of_ble_eq_true rfl⟩) (fw_preV (φ := mφ (D, cI, cZ, amd)) hokm hEm hFm1 (e0 (D, cI, cZ, amd)) (mm0 (D, cI, cZ, amd) _ _) rfl) rfl rfl hl.1 rfl (lv_room (Nat.le_of_ble_eq_true rfl)) dL_law_333 ⟨by show 100 + 81 * (B + 1) + 0 ≤ 490820; omega, by show 30000 + 6725 * (B + 1) + 0 ≤ 7629788; omega⟩) hS hAm (fun H2 locs2 hFm2 hz2 hk2 hS2 => ?_)
        have hFc2 := fw_keep hFc1 (fun q y1 y2 => hk2 q y1 (fun z => hdj q y2 z))
        refine lv_icmp_eq (tgt := 684) hx hb dL_law_336 (by decide) (fun _ => ?_) (fun z => absurd rfl z)
        refine va_forget hS2.2.2 ?_
        exact NXT n ad g1 f1 H2 ls hS2 ⟨hT1, hn, rfl, hok, hFc2, hAc, hFm2, hdj⟩ hl
      · -- tell
        refine lv_tableIn (off := 309) (tgt := 341) hx hb dL_law_32 (by decide) (by decide) rfl (by decide) ?_
        obtain ⟨r, g1, f1, m1, m2, hT1⟩ := hT.ps (pp_tell (F := 7000) hT.rp (by omega) (by omega) (xs (5 * B + 1)) (xs (5 * B + 2)) (xs (5 * B + 3)) (xs (5 * B + 4)))
        refine lv_aload_n hx hb dL_law_341 rfl (lv_at hl 2 rfl) ?_
        refine lv_aload_n hx hb dL_law_342 rfl (lv_at hl 1 rfl) ?_
        refine lv_iload_n hx hb dL_law_343 rfl (lv_at hl 0 rfl) ?_
        refine lv_iconst (v := (1 : Int32)) hx hb dL_law_344 (by decide) ?_
        refine lv_iadd hx hb dL_law_345 ?_
        rw [show nI (5 * B) + (1 : Int32) = nI (5 * B + 1) from nI_add _ 1]
        refine va_sld hx hb hX hbl hbA hS (ckI (by omega) (by omega)) dL_law_346 ?_
        rw [nI_clamp (show 5 * B + 1 < 2 ^ 31 by omega)]
        refine lv_aload_n hx hb dL_law_347 rfl (lv_at hl 1 rfl) ?_
        refine lv_iload_n hx hb dL_law_348 rfl (lv_at hl 0 rfl) ?_
        refine lv_iconst (v := (2 : Int32)) hx hb dL_law_349 (by decide) ?_
        refine lv_iadd hx hb dL_law_350 ?_
        rw [show nI (5 * B) + (2 : Int32) = nI (5 * B + 2) from nI_add _ 2]
        refine va_sld hx hb hX hbl hbA hS (ckI (by omega) (by omega)) dL_law_351 ?_
        rw [nI_clamp (show 5 * B + 2 < 2 ^ 31 by omega)]
        refine lv_aload_n hx hb dL_law_352 rfl (lv_at hl 1 rfl) ?_
        refine lv_iload_n hx hb dL_law_353 rfl (lv_at hl 0 rfl) ?_
        refine lv_iconst (v := (3 : Int32)) hx hb dL_law_354 (by decide) ?_
        refine lv_iadd hx hb dL_law_355 ?_
        rw [show nI (5 * B) + (3 : Int32) = nI (5 * B + 3) from nI_add _ 3]
        refine va_sld hx hb hX hbl hbA hS (ckI (by omega) (by omega)) dL_law_356 ?_
        rw [nI_clamp (show 5 * B + 3 < 2 ^ 31 by omega)]
        refine lv_aload_n hx hb dL_law_357 rfl (lv_at hl 1 rfl) ?_
        refine lv_iload_n hx hb dL_law_358 rfl (lv_at hl 0 rfl) ?_
        refine lv_iconst (v := (4 : Int32)) hx hb dL_law_359 (by decide) ?_
        refine lv_iadd hx hb dL_law_360 ?_
        rw [show nI (5 * B) + (4 : Int32) = nI (5 * B + 4) from nI_add _ 4]
        refine va_sld hx hb hX hbl hbA hS (ckI (by omega) (by omega)) dL_law_361 ?_
        rw [nI_clamp (show 5 * B + 4 < 2 ^ 31 by omega)]
        refine gw_call (va_runV (As := [.int (xs (5 * B + 1)), .int (xs (5 * B + 2)), .int (xs (5 * B + 3)), .int (xs (5 * B + 4))]) (rest := []) ⟨hx, hb, hml, hown, htsL⟩ (c_X5_tell l (κ := (D, cI, cL, cM, n, ad)) hok (show 1 ≤ cn (D, cI, cL, cM, n, ad) from hn) m1) (cwV 4 htsL gL_law_X5_tell rfl rfl rfl qv_X5_tell ⟨Nat.le_of_ble_eq_true rfl, Nat.le_of_ble_eq_true rfl⟩) (fw_preV (φ := cφ (D, cI, cL, cM, n, ad)) hok hE hFc (b0 (κ := (D, cI, cL, cM, n, ad)) (show 1 ≤ cn (D, cI, cL, cM, n, ad) from hn)) (cm0 (D, cI, cL, cM, n, ad) _ _) rfl) rfl rfl hl.1 rfl (lv_room (Nat.le_of_ble_eq_true rfl)) dL_law_362 ⟨by show 100 + 81 * B + 0 ≤ 490820; omega, by show 30000 + 6725 * B + 0 ≤ 7629788; omega⟩) hS hAc (fun H1 locs1 hFc1 hz1 hk1 hS1 => ?_)
        have hFm1 := fw_keep hFm (fun q y1 y2 => hk1 q y1 (fun z => hdj q z y2))
        refine W.widen (k := 100 + 81 * (B + 1)) (n := 30000 + 6725 * (B + 1)) (by omega) (by omega) ?_
        replace hS := hS1
        refine lv_aload_n hx hb dL_law_365 rfl (lv_at hl 3 rfl) ?_
        refine lv_aload_n hx hb dL_law_366 rfl (lv_at hl 1 rfl) ?_
        refine lv_iload_n hx hb dL_law_367 rfl (lv_at hl 0 rfl) ?_
        refine lv_iconst (v := (1 : Int32)) hx hb dL_law_368 (by decide) ?_
        refine lv_iadd hx hb dL_law_369 ?_
        rw [show nI (5 * B) + (1 : Int32) = nI (5 * B + 1) from nI_add _ 1]
        refine va_sld hx hb hX hbl hbA hS (ckI (by omega) (by omega)) dL_law_370 ?_
        rw [nI_clamp (show 5 * B + 1 < 2 ^ 31 by omega)]
        refine lv_aload_n hx hb dL_law_371 rfl (lv_at hl 1 rfl) ?_
        refine lv_iload_n hx hb dL_law_372 rfl (lv_at hl 0 rfl) ?_
        refine lv_iconst (v := (2 : Int32)) hx hb dL_law_373 (by decide) ?_
        refine lv_iadd hx hb dL_law_374 ?_
        rw [show nI (5 * B) + (2 : Int32) = nI (5 * B + 2) from nI_add _ 2]
        refine va_sld hx hb hX hbl hbA hS (ckI (by omega) (by omega)) dL_law_375 ?_
        rw [nI_clamp (show 5 * B + 2 < 2 ^ 31 by omega)]
        refine lv_aload_n hx hb dL_law_376 rfl (lv_at hl 1 rfl) ?_
        refine lv_iload_n hx hb dL_law_377 rfl (lv_at hl 0 rfl) ?_
        refine lv_iconst (v := (3 : Int32)) hx hb dL_law_378 (by decide) ?_
        refine lv_iadd hx hb dL_law_379 ?_
        rw [show nI (5 * B) + (3 : Int32) = nI (5 * B + 3) from nI_add _ 3]
        refine va_sld hx hb hX hbl hbA hS (ckI (by omega) (by omega)) dL_law_380 ?_
        rw [nI_clamp (show 5 * B + 3 < 2 ^ 31 by omega)]
        refine lv_aload_n hx hb dL_law_381 rfl (lv_at hl 1 rfl) ?_
        refine lv_iload_n hx hb dL_law_382 rfl (lv_at hl 0 rfl) ?_
        refine lv_iconst (v := (4 : Int32)) hx hb dL_law_383 (by decide) ?_
        refine lv_iadd hx hb dL_law_384 ?_
        rw [show nI (5 * B) + (4 : Int32) = nI (5 * B + 4) from nI_add _ 4]
        refine va_sld hx hb hX hbl hbA hS (ckI (by omega) (by omega)) dL_law_385 ?_
        rw [nI_clamp (show 5 * B + 4 < 2 ^ 31 by omega)]
        refine gw_call (va_runV (As := [.int (xs (5 * B + 1)), .int (xs (5 * B + 2)), .int (xs (5 * B + 3)), .int (xs (5 * B + 4))]) (rest := [.int r]) ⟨hx, hb, hml, hown, htsL⟩ (c_X6_tell l (μ := (D, cI, cZ, amd)) hokm m2) (cwV 4 htsL gL_law_X6_tell rfl rfl rfl qv_X6_tell ⟨Nat.le_of_ble_eq_true rfl, Nat.le_of_ble_eq_true rfl⟩) (fw_preV (φ := mφ (D, cI, cZ, amd)) hokm hEm hFm1 (e0 (D, cI, cZ, amd)) (mm0 (D, cI, cZ, amd) _ _) rfl) rfl rfl hl.1 rfl (lv_room (Nat.le_of_ble_eq_true rfl)) dL_law_386 ⟨by show 100 + 81 * (B + 1) + 0 ≤ 490820; omega, by show 30000 + 6725 * (B + 1) + 0 ≤ 7629788; omega⟩) hS hAm (fun H2 locs2 hFm2 hz2 hk2 hS2 => ?_)
        have hFc2 := fw_keep hFc1 (fun q y1 y2 => hk2 q y1 (fun z => hdj q y2 z))
        refine lv_icmp_eq (tgt := 684) hx hb dL_law_389 (by decide) (fun _ => ?_) (fun z => absurd rfl z)
        refine va_forget hS2.2.2 ?_
        exact NXT n ad g1 f1 H2 ls hS2 ⟨hT1, hn, rfl, hok, hFc2, hAc, hFm2, hdj⟩ hl
      · -- replay
        refine lv_tableIn (off := 362) (tgt := 394) hx hb dL_law_32 (by decide) (by decide) rfl (by decide) ?_
        obtain ⟨r, g1, f1, m1, m2, hT1⟩ := hT.ps (pp_replay hT.rp (by omega) (xs (5 * B + 1)) (xs (5 * B + 2)) (xs (5 * B + 3)))
        refine lv_aload_n hx hb dL_law_394 rfl (lv_at hl 2 rfl) ?_
        refine lv_aload_n hx hb dL_law_395 rfl (lv_at hl 1 rfl) ?_
        refine lv_iload_n hx hb dL_law_396 rfl (lv_at hl 0 rfl) ?_
        refine lv_iconst (v := (1 : Int32)) hx hb dL_law_397 (by decide) ?_
        refine lv_iadd hx hb dL_law_398 ?_
        rw [show nI (5 * B) + (1 : Int32) = nI (5 * B + 1) from nI_add _ 1]
        refine va_sld hx hb hX hbl hbA hS (ckI (by omega) (by omega)) dL_law_399 ?_
        rw [nI_clamp (show 5 * B + 1 < 2 ^ 31 by omega)]
        refine lv_aload_n hx hb dL_law_400 rfl (lv_at hl 1 rfl) ?_
        refine lv_iload_n hx hb dL_law_401 rfl (lv_at hl 0 rfl) ?_
        refine lv_iconst (v := (2 : Int32)) hx hb dL_law_402 (by decide) ?_
        refine lv_iadd hx hb dL_law_403 ?_
        rw [show nI (5 * B) + (2 : Int32) = nI (5 * B + 2) from nI_add _ 2]
        refine va_sld hx hb hX hbl hbA hS (ckI (by omega) (by omega)) dL_law_404 ?_
        rw [nI_clamp (show 5 * B + 2 < 2 ^ 31 by omega)]
        refine lv_aload_n hx hb dL_law_405 rfl (lv_at hl 1 rfl) ?_
        refine lv_iload_n hx hb dL_law_406 rfl (lv_at hl 0 rfl) ?_
        refine lv_iconst (v := (3 : Int32)) hx hb dL_law_407 (by decide) ?_
        refine lv_iadd hx hb dL_law_408 ?_
        rw [show nI (5 * B) + (3 : Int32) = nI (5 * B + 3) from nI_add _ 3]
        refine va_sld hx hb hX hbl hbA hS (ckI (by omega) (by omega)) dL_law_409 ?_
        rw [nI_clamp (show 5 * B + 3 < 2 ^ 31 by omega)]
        refine gw_call (va_runV (As := [.int (xs (5 * B + 1)), .int (xs (5 * B + 2)), .int (xs (5 * B + 3))]) (rest := []) ⟨hx, hb, hml, hown, htsL⟩ (c_X5_replay l (κ := (D, cI, cL, cM, n, ad)) hok (show 1 ≤ cn (D, cI, cL, cM, n, ad) from hn) m1) (cwV 3 htsL gL_law_X5_replay rfl rfl rfl qv_X5_replay ⟨Nat.le_of_ble_eq_true rfl, Nat.le_of_ble_eq_true rfl⟩) (fw_preV (φ := cφ (D, cI, cL, cM, n, ad)) hok hE hFc (b0 (κ := (D, cI, cL, cM, n, ad)) (show 1 ≤ cn (D, cI, cL, cM, n, ad) from hn)) (cm0 (D, cI, cL, cM, n, ad) _ _) rfl) rfl rfl hl.1 rfl (lv_room (Nat.le_of_ble_eq_true rfl)) dL_law_410 ⟨by show 100 + 81 * B + 0 ≤ 490820; omega, by show 30000 + 6725 * B + 0 ≤ 7629788; omega⟩) hS hAc (fun H1 locs1 hFc1 hz1 hk1 hS1 => ?_)
        have hFm1 := fw_keep hFm (fun q y1 y2 => hk1 q y1 (fun z => hdj q z y2))
        refine W.widen (k := 100 + 81 * (B + 1)) (n := 30000 + 6725 * (B + 1)) (by omega) (by omega) ?_
        replace hS := hS1
        refine lv_aload_n hx hb dL_law_413 rfl (lv_at hl 3 rfl) ?_
        refine lv_aload_n hx hb dL_law_414 rfl (lv_at hl 1 rfl) ?_
        refine lv_iload_n hx hb dL_law_415 rfl (lv_at hl 0 rfl) ?_
        refine lv_iconst (v := (1 : Int32)) hx hb dL_law_416 (by decide) ?_
        refine lv_iadd hx hb dL_law_417 ?_
        rw [show nI (5 * B) + (1 : Int32) = nI (5 * B + 1) from nI_add _ 1]
        refine va_sld hx hb hX hbl hbA hS (ckI (by omega) (by omega)) dL_law_418 ?_
        rw [nI_clamp (show 5 * B + 1 < 2 ^ 31 by omega)]
        refine lv_aload_n hx hb dL_law_419 rfl (lv_at hl 1 rfl) ?_
        refine lv_iload_n hx hb dL_law_420 rfl (lv_at hl 0 rfl) ?_
        refine lv_iconst (v := (2 : Int32)) hx hb dL_law_421 (by decide) ?_
        refine lv_iadd hx hb dL_law_422 ?_
        rw [show nI (5 * B) + (2 : Int32) = nI (5 * B + 2) from nI_add _ 2]
        refine va_sld hx hb hX hbl hbA hS (ckI (by omega) (by omega)) dL_law_423 ?_
        rw [nI_clamp (show 5 * B + 2 < 2 ^ 31 by omega)]
        refine lv_aload_n hx hb dL_law_424 rfl (lv_at hl 1 rfl) ?_
        refine lv_iload_n hx hb dL_law_425 rfl (lv_at hl 0 rfl) ?_
        refine lv_iconst (v := (3 : Int32)) hx hb dL_law_426 (by decide) ?_
        refine lv_iadd hx hb dL_law_427 ?_
        rw [show nI (5 * B) + (3 : Int32) = nI (5 * B + 3) from nI_add _ 3]
        refine va_sld hx hb hX hbl hbA hS (ckI (by omega) (by omega)) dL_law_428 ?_
        rw [nI_clamp (show 5 * B + 3 < 2 ^ 31 by omega)]
        refine gw_call (va_runV (As := [.int (xs (5 * B + 1)), .int (xs (5 * B + 2)), .int (xs (5 * B + 3))]) (rest := [.int r]) ⟨hx, hb, hml, hown, htsL⟩ (c_X6_replay l (μ := (D, cI, cZ, amd)) hokm m2) (cwV 3 htsL gL_law_X6_replay rfl rfl rfl qv_X6_replay ⟨Nat.le_of_ble_eq_true rfl, Nat.le_of_ble_eq_true rfl⟩) (fw_preV (φ := mφ (D, cI, cZ, amd)) hokm hEm hFm1 (e0 (D, cI, cZ, amd)) (mm0 (D, cI, cZ, amd) _ _) rfl) rfl rfl hl.1 rfl (lv_room (Nat.le_of_ble_eq_true rfl)) dL_law_429 ⟨by show 100 + 81 * (B + 1) + 0 ≤ 490820; omega, by show 30000 + 6725 * (B + 1) + 0 ≤ 7629788; omega⟩) hS hAm (fun H2 locs2 hFm2 hz2 hk2 hS2 => ?_)
        have hFc2 := fw_keep hFc1 (fun q y1 y2 => hk2 q y1 (fun z => hdj q y2 z))
        refine lv_icmp_eq (tgt := 684) hx hb dL_law_432 (by decide) (fun _ => ?_) (fun z => absurd rfl z)
        refine va_forget hS2.2.2 ?_
        exact NXT n ad g1 f1 H2 ls hS2 ⟨hT1, hn, rfl, hok, hFc2, hAc, hFm2, hdj⟩ hl
      · -- pass
        refine lv_tableIn (off := 405) (tgt := 437) hx hb dL_law_32 (by decide) (by decide) rfl (by decide) ?_
        obtain ⟨r, g1, f1, m1, m2, hT1⟩ := hT.ps (pp_pass (F := 7000) hT.rp (by omega) (by omega) (xs (5 * B + 1)))
        refine lv_aload_n hx hb dL_law_437 rfl (lv_at hl 2 rfl) ?_
        refine lv_aload_n hx hb dL_law_438 rfl (lv_at hl 1 rfl) ?_
        refine lv_iload_n hx hb dL_law_439 rfl (lv_at hl 0 rfl) ?_
        refine lv_iconst (v := (1 : Int32)) hx hb dL_law_440 (by decide) ?_
        refine lv_iadd hx hb dL_law_441 ?_
        rw [show nI (5 * B) + (1 : Int32) = nI (5 * B + 1) from nI_add _ 1]
        refine va_sld hx hb hX hbl hbA hS (ckI (by omega) (by omega)) dL_law_442 ?_
        rw [nI_clamp (show 5 * B + 1 < 2 ^ 31 by omega)]
        refine gw_call (va_runV (As := [.int (xs (5 * B + 1))]) (rest := []) ⟨hx, hb, hml, hown, htsL⟩ (c_X5_pass l (κ := (D, cI, cL, cM, n, ad)) hok (show 1 ≤ cn (D, cI, cL, cM, n, ad) from hn) m1) (cwV 1 htsL gL_law_X5_pass rfl rfl rfl qv_X5_pass ⟨Nat.le_of_ble_eq_true rfl, Nat.le_of_ble_eq_true rfl⟩) (fw_preV (φ := cφ (D, cI, cL, cM, n, ad)) hok hE hFc (b0 (κ := (D, cI, cL, cM, n, ad)) (show 1 ≤ cn (D, cI, cL, cM, n, ad) from hn)) (cm0 (D, cI, cL, cM, n, ad) _ _) rfl) rfl rfl hl.1 rfl (lv_room (Nat.le_of_ble_eq_true rfl)) dL_law_443 ⟨by show 100 + 81 * B + 0 ≤ 490820; omega, by show 30000 + 6725 * B + 0 ≤ 7629788; omega⟩) hS hAc (fun H1 locs1 hFc1 hz1 hk1 hS1 => ?_)
        have hFm1 := fw_keep hFm (fun q y1 y2 => hk1 q y1 (fun z => hdj q z y2))
        refine W.widen (k := 100 + 81 * (B + 1)) (n := 30000 + 6725 * (B + 1)) (by omega) (by omega) ?_
        replace hS := hS1
        refine lv_aload_n hx hb dL_law_446 rfl (lv_at hl 3 rfl) ?_
        refine lv_aload_n hx hb dL_law_447 rfl (lv_at hl 1 rfl) ?_
        refine lv_iload_n hx hb dL_law_448 rfl (lv_at hl 0 rfl) ?_
        refine lv_iconst (v := (1 : Int32)) hx hb dL_law_449 (by decide) ?_
        refine lv_iadd hx hb dL_law_450 ?_
        rw [show nI (5 * B) + (1 : Int32) = nI (5 * B + 1) from nI_add _ 1]
        refine va_sld hx hb hX hbl hbA hS (ckI (by omega) (by omega)) dL_law_451 ?_
        rw [nI_clamp (show 5 * B + 1 < 2 ^ 31 by omega)]
        refine gw_call (va_runV (As := [.int (xs (5 * B + 1))]) (rest := [.int r]) ⟨hx, hb, hml, hown, htsL⟩ (c_X6_pass l (μ := (D, cI, cZ, amd)) hokm m2) (cwV 1 htsL gL_law_X6_pass rfl rfl rfl qv_X6_pass ⟨Nat.le_of_ble_eq_true rfl, Nat.le_of_ble_eq_true rfl⟩) (fw_preV (φ := mφ (D, cI, cZ, amd)) hokm hEm hFm1 (e0 (D, cI, cZ, amd)) (mm0 (D, cI, cZ, amd) _ _) rfl) rfl rfl hl.1 rfl (lv_room (Nat.le_of_ble_eq_true rfl)) dL_law_452 ⟨by show 100 + 81 * (B + 1) + 0 ≤ 490820; omega, by show 30000 + 6725 * (B + 1) + 0 ≤ 7629788; omega⟩) hS hAm (fun H2 locs2 hFm2 hz2 hk2 hS2 => ?_)
        have hFc2 := fw_keep hFc1 (fun q y1 y2 => hk2 q y1 (fun z => hdj q y2 z))
        refine lv_icmp_eq (tgt := 684) hx hb dL_law_455 (by decide) (fun _ => ?_) (fun z => absurd rfl z)
        refine va_forget hS2.2.2 ?_
        exact NXT n ad g1 f1 H2 ls hS2 ⟨hT1, hn, rfl, hok, hFc2, hAc, hFm2, hdj⟩ hl
      · -- settle
        refine lv_tableIn (off := 428) (tgt := 460) hx hb dL_law_32 (by decide) (by decide) rfl (by decide) ?_
        obtain ⟨r, g1, f1, m1, m2, hT1⟩ := hT.ps (pp_settle (F := 7000) hT.rp (by omega) (by omega))
        refine lv_aload_n hx hb dL_law_460 rfl (lv_at hl 2 rfl) ?_
        refine gw_call (va_runV (As := []) (rest := []) ⟨hx, hb, hml, hown, htsL⟩ (c_X5_settle l (κ := (D, cI, cL, cM, n, ad)) hok (show 1 ≤ cn (D, cI, cL, cM, n, ad) from hn) m1) (cwV 0 htsL gL_law_X5_settle rfl rfl rfl qv_X5_settle ⟨Nat.le_of_ble_eq_true rfl, Nat.le_of_ble_eq_true rfl⟩) (fw_preV (φ := cφ (D, cI, cL, cM, n, ad)) hok hE hFc (b0 (κ := (D, cI, cL, cM, n, ad)) (show 1 ≤ cn (D, cI, cL, cM, n, ad) from hn)) (cm0 (D, cI, cL, cM, n, ad) _ _) rfl) rfl rfl hl.1 rfl (lv_room (Nat.le_of_ble_eq_true rfl)) dL_law_461 ⟨by show 100 + 81 * B + 0 ≤ 490820; omega, by show 30000 + 6725 * B + 0 ≤ 7629788; omega⟩) hS hAc (fun H1 locs1 hFc1 hz1 hk1 hS1 => ?_)
        have hFm1 := fw_keep hFm (fun q y1 y2 => hk1 q y1 (fun z => hdj q z y2))
        refine W.widen (k := 100 + 81 * (B + 1)) (n := 30000 + 6725 * (B + 1)) (by omega) (by omega) ?_
        replace hS := hS1
        refine lv_aload_n hx hb dL_law_464 rfl (lv_at hl 3 rfl) ?_
        refine gw_call (va_runV (As := []) (rest := [.int r]) ⟨hx, hb, hml, hown, htsL⟩ (c_X6_settle l (μ := (D, cI, cZ, amd)) hokm m2) (cwV 0 htsL gL_law_X6_settle rfl rfl rfl qv_X6_settle ⟨Nat.le_of_ble_eq_true rfl, Nat.le_of_ble_eq_true rfl⟩) (fw_preV (φ := mφ (D, cI, cZ, amd)) hokm hEm hFm1 (e0 (D, cI, cZ, amd)) (mm0 (D, cI, cZ, amd) _ _) rfl) rfl rfl hl.1 rfl (lv_room (Nat.le_of_ble_eq_true rfl)) dL_law_465 ⟨by show 100 + 81 * (B + 1) + 0 ≤ 490820; omega, by show 30000 + 6725 * (B + 1) + 0 ≤ 7629788; omega⟩) hS hAm (fun H2 locs2 hFm2 hz2 hk2 hS2 => ?_)
        have hFc2 := fw_keep hFc1 (fun q y1 y2 => hk2 q y1 (fun z => hdj q y2 z))
        refine lv_icmp_eq (tgt := 684) hx hb dL_law_468 (by decide) (fun _ => ?_) (fun z => absurd rfl z)
        refine va_forget hS2.2.2 ?_
        exact NXT n ad g1 f1 H2 ls hS2 ⟨hT1, hn, rfl, hok, hFc2, hAc, hFm2, hdj⟩ hl
      · -- lamp
        refine lv_tableIn (off := 441) (tgt := 473) hx hb dL_law_32 (by decide) (by decide) rfl (by decide) ?_
        obtain ⟨r, g1, f1, m1, m2, hT1⟩ := hT.ps (pp_lamp (F := 7000) hT.rp (by omega) (xs (5 * B + 1)) (xs (5 * B + 2)))
        refine lv_aload_n hx hb dL_law_473 rfl (lv_at hl 2 rfl) ?_
        refine lv_aload_n hx hb dL_law_474 rfl (lv_at hl 1 rfl) ?_
        refine lv_iload_n hx hb dL_law_475 rfl (lv_at hl 0 rfl) ?_
        refine lv_iconst (v := (1 : Int32)) hx hb dL_law_476 (by decide) ?_
        refine lv_iadd hx hb dL_law_477 ?_
        rw [show nI (5 * B) + (1 : Int32) = nI (5 * B + 1) from nI_add _ 1]
        refine va_sld hx hb hX hbl hbA hS (ckI (by omega) (by omega)) dL_law_478 ?_
        rw [nI_clamp (show 5 * B + 1 < 2 ^ 31 by omega)]
        refine lv_aload_n hx hb dL_law_479 rfl (lv_at hl 1 rfl) ?_
        refine lv_iload_n hx hb dL_law_480 rfl (lv_at hl 0 rfl) ?_
        refine lv_iconst (v := (2 : Int32)) hx hb dL_law_481 (by decide) ?_
        refine lv_iadd hx hb dL_law_482 ?_
        rw [show nI (5 * B) + (2 : Int32) = nI (5 * B + 2) from nI_add _ 2]
        refine va_sld hx hb hX hbl hbA hS (ckI (by omega) (by omega)) dL_law_483 ?_
        rw [nI_clamp (show 5 * B + 2 < 2 ^ 31 by omega)]
        refine gw_call (va_runV (As := [.int (xs (5 * B + 1)), .int (xs (5 * B + 2))]) (rest := []) ⟨hx, hb, hml, hown, htsL⟩ (c_X5_lamp l (κ := (D, cI, cL, cM, n, ad)) hok (show 1 ≤ cn (D, cI, cL, cM, n, ad) from hn) m1) (cwV 2 htsL gL_law_X5_lamp rfl rfl rfl qv_X5_lamp ⟨Nat.le_of_ble_eq_true rfl, Nat.le_of_ble_eq_true rfl⟩) (fw_preV (φ := cφ (D, cI, cL, cM, n, ad)) hok hE hFc (b0 (κ := (D, cI, cL, cM, n, ad)) (show 1 ≤ cn (D, cI, cL, cM, n, ad) from hn)) (cm0 (D, cI, cL, cM, n, ad) _ _) rfl) rfl rfl hl.1 rfl (lv_room (Nat.le_of_ble_eq_true rfl)) dL_law_484 ⟨by show 100 + 81 * B + 0 ≤ 490820; omega, by show 30000 + 6725 * B + 0 ≤ 7629788; omega⟩) hS hAc (fun H1 locs1 hFc1 hz1 hk1 hS1 => ?_)
        have hFm1 := fw_keep hFm (fun q y1 y2 => hk1 q y1 (fun z => hdj q z y2))
        refine W.widen (k := 100 + 81 * (B + 1)) (n := 30000 + 6725 * (B + 1)) (by omega) (by omega) ?_
        replace hS := hS1
        refine lv_aload_n hx hb dL_law_487 rfl (lv_at hl 3 rfl) ?_
        refine lv_aload_n hx hb dL_law_488 rfl (lv_at hl 1 rfl) ?_
        refine lv_iload_n hx hb dL_law_489 rfl (lv_at hl 0 rfl) ?_
        refine lv_iconst (v := (1 : Int32)) hx hb dL_law_490 (by decide) ?_
        refine lv_iadd hx hb dL_law_491 ?_
        rw [show nI (5 * B) + (1 : Int32) = nI (5 * B + 1) from nI_add _ 1]
        refine va_sld hx hb hX hbl hbA hS (ckI (by omega) (by omega)) dL_law_492 ?_
        rw [nI_clamp (show 5 * B + 1 < 2 ^ 31 by omega)]
        refine lv_aload_n hx hb dL_law_493 rfl (lv_at hl 1 rfl) ?_
        refine lv_iload_n hx hb dL_law_494 rfl (lv_at hl 0 rfl) ?_
        refine lv_iconst (v := (2 : Int32)) hx hb dL_law_495 (by decide) ?_
        refine lv_iadd hx hb dL_law_496 ?_
        rw [show nI (5 * B) + (2 : Int32) = nI (5 * B + 2) from nI_add _ 2]
        refine va_sld hx hb hX hbl hbA hS (ckI (by omega) (by omega)) dL_law_497 ?_
        rw [nI_clamp (show 5 * B + 2 < 2 ^ 31 by omega)]
        refine gw_call (va_runV (As := [.int (xs (5 * B + 1)), .int (xs (5 * B + 2))]) (rest := [.int r]) ⟨hx, hb, hml, hown, htsL⟩ (c_X6_lamp l (μ := (D, cI, cZ, amd)) hokm m2) (cwV 2 htsL gL_law_X6_lamp rfl rfl rfl qv_X6_lamp ⟨Nat.le_of_ble_eq_true rfl, Nat.le_of_ble_eq_true rfl⟩) (fw_preV (φ := mφ (D, cI, cZ, amd)) hokm hEm hFm1 (e0 (D, cI, cZ, amd)) (mm0 (D, cI, cZ, amd) _ _) rfl) rfl rfl hl.1 rfl (lv_room (Nat.le_of_ble_eq_true rfl)) dL_law_498 ⟨by show 100 + 81 * (B + 1) + 0 ≤ 490820; omega, by show 30000 + 6725 * (B + 1) + 0 ≤ 7629788; omega⟩) hS hAm (fun H2 locs2 hFm2 hz2 hk2 hS2 => ?_)
        have hFc2 := fw_keep hFc1 (fun q y1 y2 => hk2 q y1 (fun z => hdj q y2 z))
        refine lv_icmp_eq (tgt := 684) hx hb dL_law_501 (by decide) (fun _ => ?_) (fun z => absurd rfl z)
        refine va_forget hS2.2.2 ?_
        exact NXT n ad g1 f1 H2 ls hS2 ⟨hT1, hn, rfl, hok, hFc2, hAc, hFm2, hdj⟩ hl
      · -- taken
        refine lv_tableIn (off := 474) (tgt := 506) hx hb dL_law_32 (by decide) (by decide) rfl (by decide) ?_
        obtain ⟨r, g1, f1, m1, m2, hT1⟩ := hT.ps (pp_taken hT.rp (xs (5 * B + 1)) (xs (5 * B + 2)))
        refine lv_aload_n hx hb dL_law_506 rfl (lv_at hl 2 rfl) ?_
        refine lv_aload_n hx hb dL_law_507 rfl (lv_at hl 1 rfl) ?_
        refine lv_iload_n hx hb dL_law_508 rfl (lv_at hl 0 rfl) ?_
        refine lv_iconst (v := (1 : Int32)) hx hb dL_law_509 (by decide) ?_
        refine lv_iadd hx hb dL_law_510 ?_
        rw [show nI (5 * B) + (1 : Int32) = nI (5 * B + 1) from nI_add _ 1]
        refine va_sld hx hb hX hbl hbA hS (ckI (by omega) (by omega)) dL_law_511 ?_
        rw [nI_clamp (show 5 * B + 1 < 2 ^ 31 by omega)]
        refine lv_aload_n hx hb dL_law_512 rfl (lv_at hl 1 rfl) ?_
        refine lv_iload_n hx hb dL_law_513 rfl (lv_at hl 0 rfl) ?_
        refine lv_iconst (v := (2 : Int32)) hx hb dL_law_514 (by decide) ?_
        refine lv_iadd hx hb dL_law_515 ?_
        rw [show nI (5 * B) + (2 : Int32) = nI (5 * B + 2) from nI_add _ 2]
        refine va_sld hx hb hX hbl hbA hS (ckI (by omega) (by omega)) dL_law_516 ?_
        rw [nI_clamp (show 5 * B + 2 < 2 ^ 31 by omega)]
        refine gw_call (va_runV (As := [.int (xs (5 * B + 1)), .int (xs (5 * B + 2))]) (rest := []) ⟨hx, hb, hml, hown, htsL⟩ (c_X5_taken l (κ := (D, cI, cL, cM, n, ad)) hok (show 1 ≤ cn (D, cI, cL, cM, n, ad) from hn) m1) (cwV 2 htsL gL_law_X5_taken rfl rfl rfl qv_X5_taken ⟨Nat.le_of_ble_eq_true rfl, Nat.le_of_ble_eq_true rfl⟩) (fw_preV (φ := cφ (D, cI, cL, cM, n, ad)) hok hE hFc (b0 (κ := (D, cI, cL, cM, n, ad)) (show 1 ≤ cn (D, cI, cL, cM, n, ad) from hn)) (cm0 (D, cI, cL, cM, n, ad) _ _) rfl) rfl rfl hl.1 rfl (lv_room (Nat.le_of_ble_eq_true rfl)) dL_law_517 ⟨by show 100 + 81 * B + 0 ≤ 490820; omega, by show 30000 + 6725 * B + 0 ≤ 7629788; omega⟩) hS hAc (fun H1 locs1 hFc1 hz1 hk1 hS1 => ?_)
        have hFm1 := fw_keep hFm (fun q y1 y2 => hk1 q y1 (fun z => hdj q z y2))
        refine W.widen (k := 100 + 81 * (B + 1)) (n := 30000 + 6725 * (B + 1)) (by omega) (by omega) ?_
        replace hS := hS1
        refine lv_aload_n hx hb dL_law_520 rfl (lv_at hl 3 rfl) ?_
        refine lv_aload_n hx hb dL_law_521 rfl (lv_at hl 1 rfl) ?_
        refine lv_iload_n hx hb dL_law_522 rfl (lv_at hl 0 rfl) ?_
        refine lv_iconst (v := (1 : Int32)) hx hb dL_law_523 (by decide) ?_
        refine lv_iadd hx hb dL_law_524 ?_
        rw [show nI (5 * B) + (1 : Int32) = nI (5 * B + 1) from nI_add _ 1]
        refine va_sld hx hb hX hbl hbA hS (ckI (by omega) (by omega)) dL_law_525 ?_
        rw [nI_clamp (show 5 * B + 1 < 2 ^ 31 by omega)]
        refine lv_aload_n hx hb dL_law_526 rfl (lv_at hl 1 rfl) ?_
        refine lv_iload_n hx hb dL_law_527 rfl (lv_at hl 0 rfl) ?_
        refine lv_iconst (v := (2 : Int32)) hx hb dL_law_528 (by decide) ?_
        refine lv_iadd hx hb dL_law_529 ?_
        rw [show nI (5 * B) + (2 : Int32) = nI (5 * B + 2) from nI_add _ 2]
        refine va_sld hx hb hX hbl hbA hS (ckI (by omega) (by omega)) dL_law_530 ?_
        rw [nI_clamp (show 5 * B + 2 < 2 ^ 31 by omega)]
        refine gw_call (va_runV (As := [.int (xs (5 * B + 1)), .int (xs (5 * B + 2))]) (rest := [.int r]) ⟨hx, hb, hml, hown, htsL⟩ (c_X6_taken l (μ := (D, cI, cZ, amd)) hokm m2) (cwV 2 htsL gL_law_X6_taken rfl rfl rfl qv_X6_taken ⟨Nat.le_of_ble_eq_true rfl, Nat.le_of_ble_eq_true rfl⟩) (fw_preV (φ := mφ (D, cI, cZ, amd)) hokm hEm hFm1 (e0 (D, cI, cZ, amd)) (mm0 (D, cI, cZ, amd) _ _) rfl) rfl rfl hl.1 rfl (lv_room (Nat.le_of_ble_eq_true rfl)) dL_law_531 ⟨by show 100 + 81 * (B + 1) + 0 ≤ 490820; omega, by show 30000 + 6725 * (B + 1) + 0 ≤ 7629788; omega⟩) hS hAm (fun H2 locs2 hFm2 hz2 hk2 hS2 => ?_)
        have hFc2 := fw_keep hFc1 (fun q y1 y2 => hk2 q y1 (fun z => hdj q y2 z))
        refine lv_icmp_eq (tgt := 684) hx hb dL_law_534 (by decide) (fun _ => ?_) (fun z => absurd rfl z)
        refine va_forget hS2.2.2 ?_
        exact NXT n ad g1 f1 H2 ls hS2 ⟨hT1, hn, rfl, hok, hFc2, hAc, hFm2, hdj⟩ hl
      · -- mind
        refine lv_tableIn (off := 507) (tgt := 539) hx hb dL_law_32 (by decide) (by decide) rfl (by decide) ?_
        obtain ⟨r, g1, f1, m1, m2, hT1⟩ := hT.ps (pp_mind hT.rp (xs (5 * B + 1)) (xs (5 * B + 2)) (xs (5 * B + 3)))
        refine lv_aload_n hx hb dL_law_539 rfl (lv_at hl 2 rfl) ?_
        refine lv_aload_n hx hb dL_law_540 rfl (lv_at hl 1 rfl) ?_
        refine lv_iload_n hx hb dL_law_541 rfl (lv_at hl 0 rfl) ?_
        refine lv_iconst (v := (1 : Int32)) hx hb dL_law_542 (by decide) ?_
        refine lv_iadd hx hb dL_law_543 ?_
        rw [show nI (5 * B) + (1 : Int32) = nI (5 * B + 1) from nI_add _ 1]
        refine va_sld hx hb hX hbl hbA hS (ckI (by omega) (by omega)) dL_law_544 ?_
        rw [nI_clamp (show 5 * B + 1 < 2 ^ 31 by omega)]
        refine lv_aload_n hx hb dL_law_545 rfl (lv_at hl 1 rfl) ?_
        refine lv_iload_n hx hb dL_law_546 rfl (lv_at hl 0 rfl) ?_
        refine lv_iconst (v := (2 : Int32)) hx hb dL_law_547 (by decide) ?_
        refine lv_iadd hx hb dL_law_548 ?_
        rw [show nI (5 * B) + (2 : Int32) = nI (5 * B + 2) from nI_add _ 2]
        refine va_sld hx hb hX hbl hbA hS (ckI (by omega) (by omega)) dL_law_549 ?_
        rw [nI_clamp (show 5 * B + 2 < 2 ^ 31 by omega)]
        refine lv_aload_n hx hb dL_law_550 rfl (lv_at hl 1 rfl) ?_
        refine lv_iload_n hx hb dL_law_551 rfl (lv_at hl 0 rfl) ?_
        refine lv_iconst (v := (3 : Int32)) hx hb dL_law_552 (by decide) ?_
        refine lv_iadd hx hb dL_law_553 ?_
        rw [show nI (5 * B) + (3 : Int32) = nI (5 * B + 3) from nI_add _ 3]
        refine va_sld hx hb hX hbl hbA hS (ckI (by omega) (by omega)) dL_law_554 ?_
        rw [nI_clamp (show 5 * B + 3 < 2 ^ 31 by omega)]
        refine gw_call (va_runV (As := [.int (xs (5 * B + 1)), .int (xs (5 * B + 2)), .int (xs (5 * B + 3))]) (rest := []) ⟨hx, hb, hml, hown, htsL⟩ (c_X5_mind l (κ := (D, cI, cL, cM, n, ad)) hok (show 1 ≤ cn (D, cI, cL, cM, n, ad) from hn) m1) (cwV 3 htsL gL_law_X5_mind rfl rfl rfl qv_X5_mind ⟨Nat.le_of_ble_eq_true rfl, Nat.le_of_ble_eq_true rfl⟩) (fw_preV (φ := cφ (D, cI, cL, cM, n, ad)) hok hE hFc (b0 (κ := (D, cI, cL, cM, n, ad)) (show 1 ≤ cn (D, cI, cL, cM, n, ad) from hn)) (cm0 (D, cI, cL, cM, n, ad) _ _) rfl) rfl rfl hl.1 rfl (lv_room (Nat.le_of_ble_eq_true rfl)) dL_law_555 ⟨by show 100 + 81 * B + 0 ≤ 490820; omega, by show 30000 + 6725 * B + 0 ≤ 7629788; omega⟩) hS hAc (fun H1 locs1 hFc1 hz1 hk1 hS1 => ?_)
        have hFm1 := fw_keep hFm (fun q y1 y2 => hk1 q y1 (fun z => hdj q z y2))
        refine W.widen (k := 100 + 81 * (B + 1)) (n := 30000 + 6725 * (B + 1)) (by omega) (by omega) ?_
        replace hS := hS1
        refine lv_aload_n hx hb dL_law_558 rfl (lv_at hl 3 rfl) ?_
        refine lv_aload_n hx hb dL_law_559 rfl (lv_at hl 1 rfl) ?_
        refine lv_iload_n hx hb dL_law_560 rfl (lv_at hl 0 rfl) ?_
        refine lv_iconst (v := (1 : Int32)) hx hb dL_law_561 (by decide) ?_
        refine lv_iadd hx hb dL_law_562 ?_
        rw [show nI (5 * B) + (1 : Int32) = nI (5 * B + 1) from nI_add _ 1]
        refine va_sld hx hb hX hbl hbA hS (ckI (by omega) (by omega)) dL_law_563 ?_
        rw [nI_clamp (show 5 * B + 1 < 2 ^ 31 by omega)]
        refine lv_aload_n hx hb dL_law_564 rfl (lv_at hl 1 rfl) ?_
        refine lv_iload_n hx hb dL_law_565 rfl (lv_at hl 0 rfl) ?_
        refine lv_iconst (v := (2 : Int32)) hx hb dL_law_566 (by decide) ?_
        refine lv_iadd hx hb dL_law_567 ?_
        rw [show nI (5 * B) + (2 : Int32) = nI (5 * B + 2) from nI_add _ 2]
        refine va_sld hx hb hX hbl hbA hS (ckI (by omega) (by omega)) dL_law_568 ?_
        rw [nI_clamp (show 5 * B + 2 < 2 ^ 31 by omega)]
        refine lv_aload_n hx hb dL_law_569 rfl (lv_at hl 1 rfl) ?_
        refine lv_iload_n hx hb dL_law_570 rfl (lv_at hl 0 rfl) ?_
        refine lv_iconst (v := (3 : Int32)) hx hb dL_law_571 (by decide) ?_
        refine lv_iadd hx hb dL_law_572 ?_
        rw [show nI (5 * B) + (3 : Int32) = nI (5 * B + 3) from nI_add _ 3]
        refine va_sld hx hb hX hbl hbA hS (ckI (by omega) (by omega)) dL_law_573 ?_
        rw [nI_clamp (show 5 * B + 3 < 2 ^ 31 by omega)]
        refine gw_call (va_runV (As := [.int (xs (5 * B + 1)), .int (xs (5 * B + 2)), .int (xs (5 * B + 3))]) (rest := [.int r]) ⟨hx, hb, hml, hown, htsL⟩ (c_X6_mind l (μ := (D, cI, cZ, amd)) hokm m2) (cwV 3 htsL gL_law_X6_mind rfl rfl rfl qv_X6_mind ⟨Nat.le_of_ble_eq_true rfl, Nat.le_of_ble_eq_true rfl⟩) (fw_preV (φ := mφ (D, cI, cZ, amd)) hokm hEm hFm1 (e0 (D, cI, cZ, amd)) (mm0 (D, cI, cZ, amd) _ _) rfl) rfl rfl hl.1 rfl (lv_room (Nat.le_of_ble_eq_true rfl)) dL_law_574 ⟨by show 100 + 81 * (B + 1) + 0 ≤ 490820; omega, by show 30000 + 6725 * (B + 1) + 0 ≤ 7629788; omega⟩) hS hAm (fun H2 locs2 hFm2 hz2 hk2 hS2 => ?_)
        have hFc2 := fw_keep hFc1 (fun q y1 y2 => hk2 q y1 (fun z => hdj q y2 z))
        refine lv_icmp_eq (tgt := 684) hx hb dL_law_577 (by decide) (fun _ => ?_) (fun z => absurd rfl z)
        refine va_forget hS2.2.2 ?_
        exact NXT n ad g1 f1 H2 ls hS2 ⟨hT1, hn, rfl, hok, hFc2, hAc, hFm2, hdj⟩ hl
      · -- air
        refine lv_tableIn (off := 550) (tgt := 582) hx hb dL_law_32 (by decide) (by decide) rfl (by decide) ?_
        obtain ⟨r, g1, f1, m1, m2, hT1⟩ := hT.ps (pp_air hT.rp (xs (5 * B + 1)) (xs (5 * B + 2)))
        refine lv_aload_n hx hb dL_law_582 rfl (lv_at hl 2 rfl) ?_
        refine lv_aload_n hx hb dL_law_583 rfl (lv_at hl 1 rfl) ?_
        refine lv_iload_n hx hb dL_law_584 rfl (lv_at hl 0 rfl) ?_
        refine lv_iconst (v := (1 : Int32)) hx hb dL_law_585 (by decide) ?_
        refine lv_iadd hx hb dL_law_586 ?_
        rw [show nI (5 * B) + (1 : Int32) = nI (5 * B + 1) from nI_add _ 1]
        refine va_sld hx hb hX hbl hbA hS (ckI (by omega) (by omega)) dL_law_587 ?_
        rw [nI_clamp (show 5 * B + 1 < 2 ^ 31 by omega)]
        refine lv_aload_n hx hb dL_law_588 rfl (lv_at hl 1 rfl) ?_
        refine lv_iload_n hx hb dL_law_589 rfl (lv_at hl 0 rfl) ?_
        refine lv_iconst (v := (2 : Int32)) hx hb dL_law_590 (by decide) ?_
        refine lv_iadd hx hb dL_law_591 ?_
        rw [show nI (5 * B) + (2 : Int32) = nI (5 * B + 2) from nI_add _ 2]
        refine va_sld hx hb hX hbl hbA hS (ckI (by omega) (by omega)) dL_law_592 ?_
        rw [nI_clamp (show 5 * B + 2 < 2 ^ 31 by omega)]
        refine gw_call (va_runV (As := [.int (xs (5 * B + 1)), .int (xs (5 * B + 2))]) (rest := []) ⟨hx, hb, hml, hown, htsL⟩ (c_X5_air l (κ := (D, cI, cL, cM, n, ad)) hok (show 1 ≤ cn (D, cI, cL, cM, n, ad) from hn) m1) (cwV 2 htsL gL_law_X5_air rfl rfl rfl qv_X5_air ⟨Nat.le_of_ble_eq_true rfl, Nat.le_of_ble_eq_true rfl⟩) (fw_preV (φ := cφ (D, cI, cL, cM, n, ad)) hok hE hFc (b0 (κ := (D, cI, cL, cM, n, ad)) (show 1 ≤ cn (D, cI, cL, cM, n, ad) from hn)) (cm0 (D, cI, cL, cM, n, ad) _ _) rfl) rfl rfl hl.1 rfl (lv_room (Nat.le_of_ble_eq_true rfl)) dL_law_593 ⟨by show 100 + 81 * B + 0 ≤ 490820; omega, by show 30000 + 6725 * B + 0 ≤ 7629788; omega⟩) hS hAc (fun H1 locs1 hFc1 hz1 hk1 hS1 => ?_)
        have hFm1 := fw_keep hFm (fun q y1 y2 => hk1 q y1 (fun z => hdj q z y2))
        refine W.widen (k := 100 + 81 * (B + 1)) (n := 30000 + 6725 * (B + 1)) (by omega) (by omega) ?_
        replace hS := hS1
        refine lv_aload_n hx hb dL_law_596 rfl (lv_at hl 3 rfl) ?_
        refine lv_aload_n hx hb dL_law_597 rfl (lv_at hl 1 rfl) ?_
        refine lv_iload_n hx hb dL_law_598 rfl (lv_at hl 0 rfl) ?_
        refine lv_iconst (v := (1 : Int32)) hx hb dL_law_599 (by decide) ?_
        refine lv_iadd hx hb dL_law_600 ?_
        rw [show nI (5 * B) + (1 : Int32) = nI (5 * B + 1) from nI_add _ 1]
        refine va_sld hx hb hX hbl hbA hS (ckI (by omega) (by omega)) dL_law_601 ?_
        rw [nI_clamp (show 5 * B + 1 < 2 ^ 31 by omega)]
        refine lv_aload_n hx hb dL_law_602 rfl (lv_at hl 1 rfl) ?_
        refine lv_iload_n hx hb dL_law_603 rfl (lv_at hl 0 rfl) ?_
        refine lv_iconst (v := (2 : Int32)) hx hb dL_law_604 (by decide) ?_
        refine lv_iadd hx hb dL_law_605 ?_
        rw [show nI (5 * B) + (2 : Int32) = nI (5 * B + 2) from nI_add _ 2]
        refine va_sld hx hb hX hbl hbA hS (ckI (by omega) (by omega)) dL_law_606 ?_
        rw [nI_clamp (show 5 * B + 2 < 2 ^ 31 by omega)]
        refine gw_call (va_runV (As := [.int (xs (5 * B + 1)), .int (xs (5 * B + 2))]) (rest := [.int r]) ⟨hx, hb, hml, hown, htsL⟩ (c_X6_air l (μ := (D, cI, cZ, amd)) hokm m2) (cwV 2 htsL gL_law_X6_air rfl rfl rfl qv_X6_air ⟨Nat.le_of_ble_eq_true rfl, Nat.le_of_ble_eq_true rfl⟩) (fw_preV (φ := mφ (D, cI, cZ, amd)) hokm hEm hFm1 (e0 (D, cI, cZ, amd)) (mm0 (D, cI, cZ, amd) _ _) rfl) rfl rfl hl.1 rfl (lv_room (Nat.le_of_ble_eq_true rfl)) dL_law_607 ⟨by show 100 + 81 * (B + 1) + 0 ≤ 490820; omega, by show 30000 + 6725 * (B + 1) + 0 ≤ 7629788; omega⟩) hS hAm (fun H2 locs2 hFm2 hz2 hk2 hS2 => ?_)
        have hFc2 := fw_keep hFc1 (fun q y1 y2 => hk2 q y1 (fun z => hdj q y2 z))
        refine lv_icmp_eq (tgt := 684) hx hb dL_law_610 (by decide) (fun _ => ?_) (fun z => absurd rfl z)
        refine va_forget hS2.2.2 ?_
        exact NXT n ad g1 f1 H2 ls hS2 ⟨hT1, hn, rfl, hok, hFc2, hAc, hFm2, hdj⟩ hl
      · -- image
        refine lv_tableIn (off := 583) (tgt := 615) hx hb dL_law_32 (by decide) (by decide) rfl (by decide) ?_
        refine lv_aload_n hx hb dL_law_615 rfl (lv_at hl 2 rfl) ?_
        refine lv_aload_n hx hb dL_law_616 rfl (lv_at hl 1 rfl) ?_
        refine lv_iload_n hx hb dL_law_617 rfl (lv_at hl 0 rfl) ?_
        refine lv_iconst (v := (1 : Int32)) hx hb dL_law_618 (by decide) ?_
        refine lv_iadd hx hb dL_law_619 ?_
        rw [show nI (5 * B) + (1 : Int32) = nI (5 * B + 1) from nI_add _ 1]
        refine va_sld hx hb hX hbl hbA hS (ckI (by omega) (by omega)) dL_law_620 ?_
        rw [nI_clamp (show 5 * B + 1 < 2 ^ 31 by omega)]
        refine iw_call (va_runV (As := [.int (xs (5 * B + 1))]) (rest := []) ⟨hx, hb, hml, hown, htsL⟩ (c_X5_image l (F := 7000) (B := B) (sz := H.size) (a := (xs (5 * B + 1))) hok hn hT (by omega)) (cwV 1 htsL gL_law_X5_image rfl rfl rfl qv_X5_image ⟨Nat.le_of_ble_eq_true rfl, Nat.le_of_ble_eq_true rfl⟩) (preImg hok hE hFc (show 1 ≤ cn (D, cI, cL, cM, n, ad) from hn) hS hAc) rfl rfl hl.1 rfl (lv_room (Nat.le_of_ble_eq_true rfl)) dL_law_621 ⟨by show 100 + 81 * B + 81 ≤ 490820; omega, by show 30000 + 6725 * B + 6725 ≤ 7629788; omega⟩) hS (fun q z => by
          rcases z with z | z
          · exact hAc q z
          · exact Nat.le_trans hS.1 z) (fun H1 locs1 n1 ad1 r g1 f1 m2 hT1 hn1 hFc1 hok1 h01 hA1 hz1 hk1 hS1 => ?_)
        have hFm1 := fw_keep hFm (fun q y1 y2 => hk1 q y1 (fun z => by
          rcases z with z | z
          · exact hdj q z y2
          · omega))
        refine W.widen (k := 100 + 81 * (B + 1)) (n := 30000 + 6725 * (B + 1)) (by omega) (by omega) ?_
        replace hS := hS1
        refine lv_aload_n hx hb dL_law_624 rfl (lv_at hl 3 rfl) ?_
        refine lv_aload_n hx hb dL_law_625 rfl (lv_at hl 1 rfl) ?_
        refine lv_iload_n hx hb dL_law_626 rfl (lv_at hl 0 rfl) ?_
        refine lv_iconst (v := (1 : Int32)) hx hb dL_law_627 (by decide) ?_
        refine lv_iadd hx hb dL_law_628 ?_
        rw [show nI (5 * B) + (1 : Int32) = nI (5 * B + 1) from nI_add _ 1]
        refine va_sld hx hb hX hbl hbA hS (ckI (by omega) (by omega)) dL_law_629 ?_
        rw [nI_clamp (show 5 * B + 1 < 2 ^ 31 by omega)]
        refine gw_call (va_runV (As := [.int (xs (5 * B + 1))]) (rest := [.int r]) ⟨hx, hb, hml, hown, htsL⟩ (c_X6_image l (μ := (D, cI, cZ, amd)) hokm m2) (cwV 1 htsL gL_law_X6_image rfl rfl rfl qv_X6_image ⟨Nat.le_of_ble_eq_true rfl, Nat.le_of_ble_eq_true rfl⟩) (fw_preV (φ := mφ (D, cI, cZ, amd)) hokm hEm hFm1 (e0 (D, cI, cZ, amd)) (mm0 (D, cI, cZ, amd) _ _) rfl) rfl rfl hl.1 rfl (lv_room (Nat.le_of_ble_eq_true rfl)) dL_law_630 ⟨by show 100 + 81 * (B + 1) + 0 ≤ 490820; omega, by show 30000 + 6725 * (B + 1) + 0 ≤ 7629788; omega⟩) hS hAm (fun H2 locs2 hFm2 hz2 hk2 hS2 => ?_)
        have hdj1 : ∀ q, fA (cφ (D, cI, cL, cM, n1, ad1)) q → ¬ fA (mφ (D, cI, cZ, amd)) q := fun q z1 z2 => by
          rcases hA1 q z1 with z | z
          · exact hdj q z z2
          · obtain ⟨k, i, hi, rfl⟩ := z2
            have := (hFm k i hi).lt
            omega
        have hFc2 := fw_keep hFc1 (fun q y1 y2 => hk2 q y1 (fun z => hdj1 q y2 z))
        refine lv_icmp_eq (tgt := 684) hx hb dL_law_633 (by decide) (fun _ => ?_) (fun z => absurd rfl z)
        refine va_forget hS2.2.2 ?_
        exact NXT n1 ad1 g1 f1 H2 ls hS2 ⟨hT1, hn1, h01, hok1, hFc2, fun q z => (by
          rcases hA1 q z with z | z
          · exact hAc q z
          · exact Nat.le_trans hS0 z), hFm2, hdj1⟩ hl
      · -- restore
        refine lv_tableIn (off := 606) (tgt := 638) hx hb dL_law_32 (by decide) (by decide) rfl (by decide) ?_
        obtain ⟨r, g1, f1, m1, m2, hT1⟩ := pp_restore (F := 7000) hT (by omega) (xs (5 * B + 1))
        refine lv_aload_n hx hb dL_law_638 rfl (lv_at hl 2 rfl) ?_
        refine lv_aload_n hx hb dL_law_639 rfl (lv_at hl 1 rfl) ?_
        refine lv_iload_n hx hb dL_law_640 rfl (lv_at hl 0 rfl) ?_
        refine lv_iconst (v := (1 : Int32)) hx hb dL_law_641 (by decide) ?_
        refine lv_iadd hx hb dL_law_642 ?_
        rw [show nI (5 * B) + (1 : Int32) = nI (5 * B + 1) from nI_add _ 1]
        refine va_sld hx hb hX hbl hbA hS (ckI (by omega) (by omega)) dL_law_643 ?_
        rw [nI_clamp (show 5 * B + 1 < 2 ^ 31 by omega)]
        refine gw_call (va_runV (As := [.int (xs (5 * B + 1))]) (rest := []) ⟨hx, hb, hml, hown, htsL⟩ (c_X5_restore l (κ := (D, cI, cL, cM, n, ad)) hok (show 1 ≤ cn (D, cI, cL, cM, n, ad) from hn) (n := n) rfl m1) (cwV 1 htsL gL_law_X5_restore rfl rfl rfl qv_X5_restore ⟨Nat.le_of_ble_eq_true rfl, Nat.le_of_ble_eq_true rfl⟩) (fw_preV (φ := cφ (D, cI, cL, cM, n, ad)) hok hE hFc (b0 (κ := (D, cI, cL, cM, n, ad)) (show 1 ≤ cn (D, cI, cL, cM, n, ad) from hn)) (cm0 (D, cI, cL, cM, n, ad) _ _) rfl) rfl rfl hl.1 rfl (lv_room (Nat.le_of_ble_eq_true rfl)) dL_law_644 ⟨by show 100 + 81 * B + 0 ≤ 490820; omega, by show 30000 + 6725 * B + 0 ≤ 7629788; omega⟩) hS hAc (fun H1 locs1 hFc1 hz1 hk1 hS1 => ?_)
        have hFm1 := fw_keep hFm (fun q y1 y2 => hk1 q y1 (fun z => hdj q z y2))
        refine W.widen (k := 100 + 81 * (B + 1)) (n := 30000 + 6725 * (B + 1)) (by omega) (by omega) ?_
        replace hS := hS1
        refine lv_aload_n hx hb dL_law_647 rfl (lv_at hl 3 rfl) ?_
        refine lv_aload_n hx hb dL_law_648 rfl (lv_at hl 1 rfl) ?_
        refine lv_iload_n hx hb dL_law_649 rfl (lv_at hl 0 rfl) ?_
        refine lv_iconst (v := (1 : Int32)) hx hb dL_law_650 (by decide) ?_
        refine lv_iadd hx hb dL_law_651 ?_
        rw [show nI (5 * B) + (1 : Int32) = nI (5 * B + 1) from nI_add _ 1]
        refine va_sld hx hb hX hbl hbA hS (ckI (by omega) (by omega)) dL_law_652 ?_
        rw [nI_clamp (show 5 * B + 1 < 2 ^ 31 by omega)]
        refine gw_call (va_runV (As := [.int (xs (5 * B + 1))]) (rest := [.int r]) ⟨hx, hb, hml, hown, htsL⟩ (c_X6_restore l (μ := (D, cI, cZ, amd)) hokm m2) (cwV 1 htsL gL_law_X6_restore rfl rfl rfl qv_X6_restore ⟨Nat.le_of_ble_eq_true rfl, Nat.le_of_ble_eq_true rfl⟩) (fw_preV (φ := mφ (D, cI, cZ, amd)) hokm hEm hFm1 (e0 (D, cI, cZ, amd)) (mm0 (D, cI, cZ, amd) _ _) rfl) rfl rfl hl.1 rfl (lv_room (Nat.le_of_ble_eq_true rfl)) dL_law_653 ⟨by show 100 + 81 * (B + 1) + 0 ≤ 490820; omega, by show 30000 + 6725 * (B + 1) + 0 ≤ 7629788; omega⟩) hS hAm (fun H2 locs2 hFm2 hz2 hk2 hS2 => ?_)
        have hFc2 := fw_keep hFc1 (fun q y1 y2 => hk2 q y1 (fun z => hdj q y2 z))
        refine lv_icmp_eq (tgt := 684) hx hb dL_law_656 (by decide) (fun _ => ?_) (fun z => absurd rfl z)
        refine va_forget hS2.2.2 ?_
        exact NXT n ad g1 f1 H2 ls hS2 ⟨hT1, hn, rfl, hok, hFc2, hAc, hFm2, hdj⟩ hl
      · -- count
        refine lv_tableIn (off := 629) (tgt := 661) hx hb dL_law_32 (by decide) (by decide) rfl (by decide) ?_
        obtain ⟨r, g1, f1, m1, m2, hT1⟩ := hT.ps (pp_count (F := 7000) (n := n) hT.rp (by omega) hT.kp (xs (5 * B + 1)))
        refine lv_aload_n hx hb dL_law_661 rfl (lv_at hl 2 rfl) ?_
        refine lv_aload_n hx hb dL_law_662 rfl (lv_at hl 1 rfl) ?_
        refine lv_iload_n hx hb dL_law_663 rfl (lv_at hl 0 rfl) ?_
        refine lv_iconst (v := (1 : Int32)) hx hb dL_law_664 (by decide) ?_
        refine lv_iadd hx hb dL_law_665 ?_
        rw [show nI (5 * B) + (1 : Int32) = nI (5 * B + 1) from nI_add _ 1]
        refine va_sld hx hb hX hbl hbA hS (ckI (by omega) (by omega)) dL_law_666 ?_
        rw [nI_clamp (show 5 * B + 1 < 2 ^ 31 by omega)]
        refine gw_call (va_runV (As := [.int (xs (5 * B + 1))]) (rest := []) ⟨hx, hb, hml, hown, htsL⟩ (c_X5_count l (κ := (D, cI, cL, cM, n, ad)) hok (show 1 ≤ cn (D, cI, cL, cM, n, ad) from hn) (n := n) rfl m1) (cwV 1 htsL gL_law_X5_count rfl rfl rfl qv_X5_count ⟨Nat.le_of_ble_eq_true rfl, Nat.le_of_ble_eq_true rfl⟩) (fw_preV (φ := cφ (D, cI, cL, cM, n, ad)) hok hE hFc (b0 (κ := (D, cI, cL, cM, n, ad)) (show 1 ≤ cn (D, cI, cL, cM, n, ad) from hn)) (cm0 (D, cI, cL, cM, n, ad) _ _) rfl) rfl rfl hl.1 rfl (lv_room (Nat.le_of_ble_eq_true rfl)) dL_law_667 ⟨by show 100 + 81 * B + 0 ≤ 490820; omega, by show 30000 + 6725 * B + 0 ≤ 7629788; omega⟩) hS hAc (fun H1 locs1 hFc1 hz1 hk1 hS1 => ?_)
        have hFm1 := fw_keep hFm (fun q y1 y2 => hk1 q y1 (fun z => hdj q z y2))
        refine W.widen (k := 100 + 81 * (B + 1)) (n := 30000 + 6725 * (B + 1)) (by omega) (by omega) ?_
        replace hS := hS1
        refine lv_aload_n hx hb dL_law_670 rfl (lv_at hl 3 rfl) ?_
        refine lv_aload_n hx hb dL_law_671 rfl (lv_at hl 1 rfl) ?_
        refine lv_iload_n hx hb dL_law_672 rfl (lv_at hl 0 rfl) ?_
        refine lv_iconst (v := (1 : Int32)) hx hb dL_law_673 (by decide) ?_
        refine lv_iadd hx hb dL_law_674 ?_
        rw [show nI (5 * B) + (1 : Int32) = nI (5 * B + 1) from nI_add _ 1]
        refine va_sld hx hb hX hbl hbA hS (ckI (by omega) (by omega)) dL_law_675 ?_
        rw [nI_clamp (show 5 * B + 1 < 2 ^ 31 by omega)]
        refine gw_call (va_runV (As := [.int (xs (5 * B + 1))]) (rest := [.int r]) ⟨hx, hb, hml, hown, htsL⟩ (c_X6_count l (μ := (D, cI, cZ, amd)) hokm m2) (cwV 1 htsL gL_law_X6_count rfl rfl rfl qv_X6_count ⟨Nat.le_of_ble_eq_true rfl, Nat.le_of_ble_eq_true rfl⟩) (fw_preV (φ := mφ (D, cI, cZ, amd)) hokm hEm hFm1 (e0 (D, cI, cZ, amd)) (mm0 (D, cI, cZ, amd) _ _) rfl) rfl rfl hl.1 rfl (lv_room (Nat.le_of_ble_eq_true rfl)) dL_law_676 ⟨by show 100 + 81 * (B + 1) + 0 ≤ 490820; omega, by show 30000 + 6725 * (B + 1) + 0 ≤ 7629788; omega⟩) hS hAm (fun H2 locs2 hFm2 hz2 hk2 hS2 => ?_)
        have hFc2 := fw_keep hFc1 (fun q y1 y2 => hk2 q y1 (fun z => hdj q y2 z))
        refine lv_icmp_eq (tgt := 684) hx hb dL_law_679 (by decide) (fun _ => ?_) (fun z => absurd rfl z)
        refine va_forget hS2.2.2 ?_
        exact NXT n ad g1 f1 H2 ls hS2 ⟨hT1, hn, rfl, hok, hFc2, hAc, hFm2, hdj⟩ hl
