/-! THE CLAIM OUT OF ONE WALK OF THE LAW'S BODY. Your part is whole_start (and what it stands on); all else here is the same for every law, but numbers. -/
def R_law : String := "MeshLampsLaw"
def lw_P (b : Addr) (xs : List Int32) (args : Array Value) (s : State) : Prop := args = #[.ref b] ∧ s.IntsAt b xs ∧ xs.length ≤ 2560 ∧ (Jvm.Cond.and given_1 narrow_1).before args s = true
def lw_Q (_ : Array Value) (s : State) (o : Outcome) (t : State) : Prop := o = .returned (some (.int 1)) ∧ Framed s o t [] 490820 7629788
def lw_Z (below : List Frame) (a : Array Value) (s : State) : State → Prop := fun t => ∃ o, t.status = .running ∧ Ended t below o ∧ lw_Q a s o t
/-- the law's own end, with 1 on the stack, nothing written that was there before, its room as the claim has it -/
theorem lw_ret {p : Program} {l : Launch} {e : Env} {s : State} {m : MethodId} {below : List Frame} {meth : Method} {c : Code} {b : Nat} (hx : p.tables.exec = Jvm.exec) (hb : c.code = code) (hr : meth.sig.returnType = ret) (hlocks : meth.locks = false) {pc : Nat} {H : Heap} {ls : Array Slot} (hdg : decode code pc = .ok (.ireturn, 1)) : W p l e room_1 s m #[Value.ref b] below meth c H [] 490820 7629788 (lw_Z below #[Value.ref b] s) (F0 m pc ls [.int 1]) := by
  intro T hT X
  obtain ⟨fs, hret, hrun, hended, hW, hframe⟩ := X.leave (v := some (.int 1)) (hlocks := hlocks) (fun h => by rw [hr] at h; cases h)
  have hmeth' : T.vm.method? m = some meth := X.method'
  refine ⟨T.setFrames fs, ?_, .returned (some (.int 1)), hrun, hended, rfl, ⟨_, rfl⟩, hW, hframe⟩
  jvm_step X.here [X.here.top, hx, hb, hdg, hmeth', hr, ret, narrow_b1]
  (try refine ⟨rfl, ?_⟩); (try refine ⟨rfl, ?_⟩)
  first | (intro acts; rw [hret _ acts rfl rfl rfl]) | rw [hret _ _ rfl rfl rfl]
  exact Steps.refl _
/-- what holds at the law's entry: the machine, the code, the tables' words (any of lw_tbl by 'hts w (by decide +kernel)'), the script of L ints xs at the cell b, what the Statement gives of the start (any of its parts by flat_of_before) -/
def lw_At (p : Program) (s : State) (m : MethodId) (meth : Method) (c : Code) (b L : Nat) (xs : Nat → Int32) : Prop :=
  p.tables.exec = Jvm.exec ∧ c.code = code ∧ meth.sig.returnType = ret ∧ c.maxLocals = 4 ∧ s.vm.findClass R_law = some m.cls ∧ (∀ w ∈ lw_tbl, w.before #[Value.ref b] s = true) ∧ va_X b L xs s s.heap ∧ b < s.heap.size ∧ meth.locks = false ∧ (Jvm.Cond.and given_1 narrow_1).before #[Value.ref b] s = true

theorem fw_keep {φ : Fx} {g : Mem} {H H1 : Heap} (h : fw φ g H) (hk : ∀ q : Nat, q < H.size → fA φ q → H1[q]? = H[q]?) : fw φ g H1 := fun k i hi => (h k i hi).kept (hk _ (h k i hi).lt ⟨k, i, hi, rfl⟩)
/-- between two calls of the law -/
def LI (s : State) (D : va_G) (cI cL cM cZ : ClassId) (amd : Nat → Nat → Nat) (x1 B n : Nat) (ad : Nat → Nat → Nat) (g f : Mem) (H : Heap) : Prop := TR n B g f ∧ 1 ≤ n ∧ ad 0 0 = x1 ∧ fok (cφ (D, cI, cL, cM, n, ad)) ∧ fw (cφ (D, cI, cL, cM, n, ad)) g H ∧ (∀ q, fA (cφ (D, cI, cL, cM, n, ad)) q → sA s q) ∧ fw (mφ (D, cI, cZ, amd)) f H ∧ (∀ q, fA (cφ (D, cI, cL, cM, n, ad)) q → ¬ fA (mφ (D, cI, cZ, amd)) q)
theorem len5 {L i : Nat} (hL : L < 10000) (hi : i < 10000) : (nI L - (5 : Int32) < nI i) ↔ L < i + 5 := by
  by_cases h : 5 ≤ L
  · rw [show nI L - (5 : Int32) = nI (L - 5) from sbI (b := 5) h, nI_ltI (by omega) (by omega)]
    omega
  · have h1 : nI L - (5 : Int32) < 0 := pk_sneg (a := L) (b := 5) (by omega) (by omega)
    refine ⟨fun _ => by omega, fun _ => Int32.lt_of_lt_of_le h1 (Int32.not_lt.mp (nI_pos (by omega)))⟩
theorem btw17 {v : Int32} (h : btw v 0 17 = 0) : v.toInt < 0 ∨ 17 < v.toInt := by
  unfold btw at h
  by_cases h1 : v < 0
  · exact Or.inl (Int32.lt_iff_toInt_lt.mp h1)
  · rw [if_neg h1] at h
    by_cases h2 : (17 : Int32) < v
    · exact Or.inr (Int32.lt_iff_toInt_lt.mp h2)
    · rw [if_neg h2] at h
      exact absurd h (by decide)
theorem TR.kp {n B : Nat} {g f : Mem} (h : TR n B g f) : ∀ k : Nat, k < 2 → (g 1 0 k = 0 ↔ f 3 0 k = 0) ∧ (g 1 0 k ≠ 0 → (g 1 0 k).toNatClampNeg < n) := by
  intro k hk
  have hn := h.1.1
  rcases h.im hk with ⟨e1, e2⟩ | ⟨j, j1, j2, e1, e2, -⟩
  · exact ⟨⟨fun _ => e2, fun _ => e1⟩, fun z => absurd e1 z⟩
  · refine ⟨⟨fun z => ?_, fun z => ?_⟩, fun _ => by rw [e1, nI_clamp (by omega)]; exact j2⟩
    · rw [e1] at z
      have := nIi (b := 0) (by omega) (by omega) z
      omega
    · rw [e2] at z
      exact absurd z (by decide)
theorem fSt.at {φ : Fx} {s U : State} {H : Heap} {locs : List Loc} {tL tM : Nat} (z1 : va_Z "MeshLamps" "LEAST_SETTING" "[I" (.ref tL) (sA s) s s.heap) (z2 : va_T .int tL 4 (fun k => .int (stL k)) (sA s) s s.heap) (z3 : va_Z "MeshLamps" "MOST_SETTING" "[I" (.ref tM) (sA s) s s.heap) (z4 : va_T .int tM 4 (fun k => .int (stM k)) (sA s) s s.heap) (hW : s.vm.Alike U.vm) (hS : va_S (sA s) s.heap H locs) (hU : U.heap = H) (hA : ∀ q, fA φ q → sA s q) : fSt φ U := by
  have hq : ∀ a : Nat, a < s.heap.size → ¬ sA s a → U.heap[a]? = s.heap[a]? := fun a h1 h2 => by rw [hU]; exact hS.2.1 a h1 h2
  exact ⟨tL, tM, ((z1.moved hW).kept hq).narrow hA, ((z2.moved hW).kept hq).narrow hA, ((z3.moved hW).kept hq).narrow hA, ((z4.moved hW).kept hq).narrow hA⟩
theorem fSt.blind {φ : Fx} {U : State} {f : JFrame} {mk : MethodId} {a : Array Value} (h : fSt φ U) : fSt φ (U.calling f mk a) := by
  obtain ⟨tL, tM, z1, z2, z3, z4⟩ := h
  have hA : U.vm.Alike (U.calling f mk a).vm := Vm.Alike.refl U.vm
  exact ⟨tL, tM, z1.moved (U := U.calling f mk a) hA, z2.moved (U := U.calling f mk a) hA, z3.moved (U := U.calling f mk a) hA, z4.moved (U := U.calling f mk a) hA⟩
section IW
variable {p : Program} {l : Launch} {e : Env} {R : Room} {s : State} {m : MethodId} {args : Array Value} {below : List Frame} {meth : Method} {c : Code} {H : Heap} {locs : List Loc} {cells slots : Nat} {Q : State → Prop}
variable {cc : ByteArray} {pc : Nat} {ls : Array Slot} {rest st0 : List Value} {H0 : Heap} {a : Array Value} {A A' : Nat → Prop}
theorem iw_call {D : va_G} {cI cL cM : ClassId} {h0 F B : Nat} {f : Mem} {x : Int32} (hr : va_Run p l e R s m args below meth c H locs cells slots 81 6725 (F0 m pc ls st0) rest (iQ D cI cL cM h0 F B f x A' a) A') (hS : va_S A H0 H locs) (hA : ∀ q, A' q → A q)
    (kk : ∀ (H1 : Heap) (locs1 : List Loc) (n' : Nat) (ad' : Nat → Nat → Nat) (r : Int32) (g' f' : Mem), m_X6_image F f x = some (r, f') → TR n' (B + 1) g' f' → 1 ≤ n' → fw (cφ (D, cI, cL, cM, n', ad')) g' H1 → fok (cφ (D, cI, cL, cM, n', ad')) → ad' 0 0 = h0 → (∀ q, fA (cφ (D, cI, cL, cM, n', ad')) q → A' q) → H.size ≤ H1.size → (∀ q : Nat, q < H.size → ¬ A' q → H1[q]? = H[q]?) → va_S A H0 H1 locs1 → W p l e R s m args below meth c H1 locs1 (cells + 81) (slots + 6725) Q (F0 m (pc + 3) ls (.int r :: rest))) : W p l e R s m args below meth c H locs cells slots Q (F0 m pc ls st0) := by
  intro T hT X
  obtain ⟨v, st₀, t, T', L, h0, X', hL, e1, e2, ⟨n', ad', r, g', f', hv, y1, y2, y3, y4, y5, y6, y7, hz, hk⟩, st⟩ := hr T hT X
  have hv2 := Outcome.returned.inj hv
  subst hv2
  rw [h0] at hz hk
  obtain ⟨t2, a1, b1⟩ := kk T'.heap (locs ++ L) n' ad' r g' f' y1 y2 y3 (by rw [e1]; exact y4) y5 y6 y7 (by rw [e1]; exact hz) (fun q h1 h2 => by rw [e1]; exact hk q h1 h2)
    ⟨Nat.le_trans hS.1 (by rw [e1]; exact hz), fun q h1 h2 => by rw [e1, hk q (Nat.lt_of_lt_of_le h1 hS.1) (fun z => h2 (hA q z))]; exact hS.2.1 q h1 h2, fun q hq => by
      rcases List.mem_append.mp hq with h | h
      · exact hS.2.2 q h
      · exact hA _ (hL q h)⟩ T' rfl X'
  exact ⟨t2, st t2 a1, b1⟩
end IW
