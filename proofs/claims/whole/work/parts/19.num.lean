/-! numbers: nI in sums and checks; the pure functions in plain words. The rows b_.. are out of kit/laws/BITS.to-paste. -/
def bt (x : Int32) (i : Nat) : Bool := x.toBitVec.getLsbD i
theorem b_ext {x y : Int32} (h : ∀ i, i < 32 → bt x i = bt y i) : x = y := Int32.toBitVec_inj.mp (BitVec.eq_of_getLsbD_eq (fun i hi => h i hi))
theorem b_or (x y : Int32) (i : Nat) : bt (x ||| y) i = (bt x i || bt y i) := by unfold bt; rw [Int32.toBitVec_or, BitVec.getLsbD_or]
theorem b_and (x y : Int32) (i : Nat) : bt (x &&& y) i = (bt x i && bt y i) := by unfold bt; rw [Int32.toBitVec_and, BitVec.getLsbD_and]
theorem b_xor (x y : Int32) (i : Nat) : bt (x ^^^ y) i = (bt x i ^^ bt y i) := by unfold bt; rw [Int32.toBitVec_xor, BitVec.getLsbD_xor]
theorem b_big {x : Int32} {i : Nat} (h : 32 ≤ i) : bt x i = false := BitVec.getLsbD_of_ge _ _ h
theorem b_m1 : ∀ i, i < 32 → bt (-1) i = true := by decide +kernel
theorem b_0 (i : Nat) : bt 0 i = false := BitVec.getLsbD_zero
theorem s_l : ∀ n, n < 32 → ((nI n &&& 31).toBitVec.smod 32).toNat = n := by decide +kernel
theorem s_u : ∀ n, n < 32 → (((nI n).toUInt32 &&& Int32.toUInt32 31).toBitVec % 32).toNat = n := by decide +kernel
theorem b_shl (n : Nat) (hn : n < 32) (x : Int32) {i : Nat} (hi : i < 32) : bt (x <<< (nI n &&& 31)) i = (decide (n ≤ i) && bt x (i - n)) := by
  unfold bt
  rw [Int32.toBitVec_shiftLeft]
  show (x.toBitVec <<< ((nI n &&& 31).toBitVec.smod 32).toNat).getLsbD i = _
  rw [s_l n hn, BitVec.getLsbD_shiftLeft]
  rcases Nat.lt_or_ge i n with h | h
  · simp [h, Nat.not_le.mpr h]
  · simp [hi, h, Nat.not_lt.mpr h]
theorem b_ushr (n : Nat) (hn : n < 32) (x : Int32) (i : Nat) : bt ((x.toUInt32 >>> ((nI n).toUInt32 &&& Int32.toUInt32 31)).toInt32) i = bt x (n + i) := by
  show (x.toUInt32 >>> ((nI n).toUInt32 &&& Int32.toUInt32 31)).toBitVec.getLsbD i = x.toUInt32.toBitVec.getLsbD (n + i)
  rw [UInt32.toBitVec_shiftRight]
  show (x.toUInt32.toBitVec >>> (((nI n).toUInt32 &&& Int32.toUInt32 31).toBitVec % 32).toNat).getLsbD i = _
  rw [s_u n hn, BitVec.getLsbD_ushiftRight]
theorem b_sshr (n : Nat) (hn : n < 32) (x : Int32) {i : Nat} (hi : i < 32) : bt (x >>> (nI n &&& 31)) i = if n + i < 32 then bt x (n + i) else bt x 31 := by
  unfold bt
  rw [Int32.toBitVec_shiftRight]
  show (x.toBitVec.sshiftRight ((nI n &&& 31).toBitVec.smod 32).toNat).getLsbD i = _
  rw [s_l n hn, BitVec.getLsbD_sshiftRight, BitVec.msb_eq_getLsbD_last]
  simp [hi]
theorem leF {a N : Nat} (h : a < N) : (N ≤ a) = False := eq_false (Nat.not_le.mpr h)
theorem ngF {a : Nat} (h : a < 2 ^ 31) : (nI a < 0) = False := eq_false (nI_pos h)
theorem ckI {a N : Nat} (h : a < N) (hN : N < 2 ^ 31) : ¬ (nI a < 0 ∨ N ≤ (nI a).toNatClampNeg) := by
  rw [nI_clamp (by omega)]
  intro q
  rcases q with q | q
  · exact nI_pos (by omega) q
  · omega
theorem sbI {a b : Nat} (h : b ≤ a) : nI a - nI b = nI (a - b) := pk_sub h
theorem nIi {a b : Nat} (ha : a < 2 ^ 31) (hb : b < 2 ^ 31) (h : nI a = nI b) : a = b := (nI_eq ha hb).mp h
theorem L1 : (1 : Int32) = nI 1 := rfl
theorem L2 : (2 : Int32) = nI 2 := rfl
theorem L3 : (3 : Int32) = nI 3 := rfl
theorem L4 : (4 : Int32) = nI 4 := rfl
theorem L5 : (5 : Int32) = nI 5 := rfl
theorem L6 : (6 : Int32) = nI 6 := rfl
theorem L7 : (7 : Int32) = nI 7 := rfl
theorem L8 : (8 : Int32) = nI 8 := rfl
theorem L9 : (9 : Int32) = nI 9 := rfl
theorem L10 : (10 : Int32) = nI 10 := rfl
theorem L13 : (13 : Int32) = nI 13 := rfl
theorem L16 : (16 : Int32) = nI 16 := rfl
theorem L20 : (20 : Int32) = nI 20 := rfl
theorem L30 : (30 : Int32) = nI 30 := rfl
theorem L31 : (31 : Int32) = nI 31 := rfl
theorem L40 : (40 : Int32) = nI 40 := rfl
theorem L50 : (50 : Int32) = nI 50 := rfl
theorem L60 : (60 : Int32) = nI 60 := rfl
theorem L64 : (64 : Int32) = nI 64 := rfl
theorem L70 : (70 : Int32) = nI 70 := rfl
theorem L80 : (80 : Int32) = nI 80 := rfl
theorem L90 : (90 : Int32) = nI 90 := rfl
theorem L99 : (99 : Int32) = nI 99 := rfl
theorem L100 : (100 : Int32) = nI 100 := rfl
theorem L110 : (110 : Int32) = nI 110 := rfl
theorem L120 : (120 : Int32) = nI 120 := rfl
theorem L130 : (130 : Int32) = nI 130 := rfl
theorem L140 : (140 : Int32) = nI 140 := rfl
theorem L150 : (150 : Int32) = nI 150 := rfl
theorem L160 : (160 : Int32) = nI 160 := rfl
theorem L170 : (170 : Int32) = nI 170 := rfl
theorem L200 : (200 : Int32) = nI 200 := rfl
theorem L330 : (330 : Int32) = nI 330 := rfl
theorem L430 : (430 : Int32) = nI 430 := rfl
theorem L490 : (490 : Int32) = nI 490 := rfl
theorem L810 : (810 : Int32) = nI 810 := rfl
theorem L1000 : (1000 : Int32) = nI 1000 := rfl
theorem L6819 : (6819 : Int32) = nI 6819 := rfl
def btw (x a b : Int32) : Int32 := if x < a then 0 else if b < x then 0 else 1
theorem btw01 (x a b : Int32) : btw x a b = 0 ∨ btw x a b = 1 := by
  unfold btw
  split
  · exact Or.inl rfl
  · split
    · exact Or.inl rfl
    · exact Or.inr rfl
theorem p_btw (x a b : Int32) : m_X5_isBetween x a b = some (btw x a b) := by
  unfold m_X5_isBetween btw
  split
  · rfl
  · split <;> rfl
theorem p_in (x a b : Int32) : m_X6_in x a b = some (btw x a b) := by
  unfold m_X6_in btw
  split
  · rfl
  · split <;> rfl
theorem p_lamp (x : Int32) : m_X5_isLamp x = some (btw x 0 9) := by
  unfold m_X5_isLamp
  rw [p_btw, Option.bind_some, if_neg (not_not_intro (btw01 x 0 9))]
theorem p_lamp6 (x : Int32) : m_X6_isLamp x = some (btw x 0 9) := by
  unfold m_X6_isLamp
  rw [p_in, Option.bind_some, if_neg (not_not_intro (btw01 x 0 9))]
theorem btw_n {x a b : Int32} {m n : Nat} (ha : a = nI m) (hb : b = nI n) (hm : m < 2 ^ 31) (hn : n < 2 ^ 31) (h : ¬ btw x a b = 0) : ∃ j : Nat, m ≤ j ∧ j ≤ n ∧ x = nI j := by
  unfold btw at h
  by_cases h1 : x < a
  · rw [if_pos h1] at h
    exact absurd rfl h
  · rw [if_neg h1] at h
    by_cases h2 : b < x
    · rw [if_pos h2] at h
      exact absurd rfl h
    · subst ha
      subst hb
      have k1 : ¬ x.toInt < (nI m).toInt := fun q => h1 (Int32.lt_iff_toInt_lt.mpr q)
      have k2 : ¬ (nI n).toInt < x.toInt := fun q => h2 (Int32.lt_iff_toInt_lt.mpr q)
      rw [nI_toInt hm] at k1
      rw [nI_toInt hn] at k2
      have hx : ¬ x < 0 := fun q => by
        have := Int32.lt_iff_toInt_lt.mp q
        have z : (0 : Int32).toInt = 0 := rfl
        omega
      obtain ⟨j, hj, rfl⟩ := nI_of hx
      rw [nI_toInt hj] at k1 k2
      exact ⟨j, by omega, by omega, rfl⟩
theorem btw_l {x : Int32} (h : ¬ btw x 0 9 = 0) : ∃ l : Nat, l < 10 ∧ x = nI l := by
  obtain ⟨j, -, h2, h3⟩ := btw_n (m := 0) (n := 9) rfl rfl (by omega) (by omega) h
  exact ⟨j, by omega, h3⟩
/-- whether a set has a place -/
def isI (s i : Int32) : Int32 := if (s >>> (i &&& 31)) &&& 1 = 1 then 1 else 0
theorem isI01 (s i : Int32) : isI s i = 0 ∨ isI s i = 1 := by
  unfold isI
  split
  · exact Or.inr rfl
  · exact Or.inl rfl
theorem p_isIn (s i : Int32) : m_X5_isIn s i = some (isI s i) := by
  unfold m_X5_isIn isI
  split <;> rfl
theorem p_isOf (s i : Int32) : m_X6_isOf s i = some (isI s i) := by
  unfold m_X6_isOf isI
  split <;> rfl
theorem p_num (x : Int32) : m_X5_asNumber x = some (if x = 0 then 0 else 1) := by
  unfold m_X5_asNumber
  split <;> rfl
def chg (s i c : Int32) : Int32 := if c = 0 then s &&& ((1 <<< (i &&& 31)) ^^^ (-1)) else s ||| (1 <<< (i &&& 31))
theorem p_chg (s i c : Int32) : m_X5_changed s i c = some (chg s i c) := by
  unfold m_X5_changed chg
  split <;> rfl
theorem bt1 (y : Int32) : (y &&& 1 = 1) ↔ bt y 0 = true := by
  have e1 : ∀ i, i < 32 → bt 1 i = decide (i = 0) := by decide +kernel
  constructor
  · intro h
    have := congrArg (fun z => bt z 0) h
    simp only [b_and, e1 0 (by omega)] at this
    simpa using this
  · intro h
    apply b_ext
    intro i hi
    rw [b_and, e1 i hi]
    by_cases hz : i = 0
    · subst hz
      simp [h]
    · simp [hz]
theorem isI_bt (s : Int32) {i : Nat} (hi : i < 31) : isI s (nI i) = if bt s i = true then 1 else 0 := by
  unfold isI
  have e : ((s >>> (nI i &&& 31)) &&& 1 = 1) ↔ bt s i = true := by
    rw [bt1, b_sshr i (by omega) s (by omega), if_pos (by omega)]
    rfl
  by_cases h : bt s i = true
  · rw [if_pos h, if_pos (e.mpr h)]
  · rw [if_neg h, if_neg (fun q => h (e.mp q))]
theorem bt_one {n i : Nat} (hn : n < 32) (hi : i < 32) : bt ((1 : Int32) <<< (nI n &&& 31)) i = decide (i = n) := by
  rw [b_shl n hn 1 hi]
  have e1 : ∀ i, i < 32 → bt 1 i = decide (i = 0) := by decide +kernel
  by_cases h : n ≤ i
  · rw [e1 (i - n) (by omega)]
    by_cases h2 : i = n
    · subst h2
      simp
    · rw [decide_eq_false h2, decide_eq_false (p := i - n = 0) (by omega)]
      simp
  · rw [decide_eq_false h, decide_eq_false (p := i = n) (by omega)]
    rfl
theorem isI_on (s : Int32) {n i : Nat} (hn : n < 10) (hi : i < 10) : isI (chg s (nI n) 1) (nI i) = if i = n then 1 else isI s (nI i) := by
  rw [isI_bt _ (by omega), isI_bt _ (by omega)]
  have e : chg s (nI n) 1 = s ||| ((1 : Int32) <<< (nI n &&& 31)) := by
    unfold chg
    exact if_neg (by decide)
  rw [e, b_or, bt_one (by omega) (by omega)]
  by_cases h : i = n
  · simp [h]
  · simp [h]
theorem isI_off (s : Int32) {n i : Nat} (hn : n < 10) (hi : i < 10) : isI (chg s (nI n) 0) (nI i) = if i = n then 0 else isI s (nI i) := by
  rw [isI_bt _ (by omega), isI_bt _ (by omega)]
  unfold chg
  rw [if_pos rfl, b_and, b_xor, bt_one (by omega) (by omega), b_m1 i (by omega)]
  by_cases h : i = n
  · simp [h]
  · simp [h]
theorem isI_0 {i : Nat} (hi : i < 10) : isI 0 (nI i) = 0 := by
  rw [isI_bt _ (by omega), b_0]
  rfl
theorem chg_lt {b n : Nat} (hb : b < 1024) (hn : n < 10) (c : Int32) : ∃ b' : Nat, b' < 1024 ∧ chg (nI b) (nI n) c = nI b' := by
  have key : ∀ b : Fin 1024, ∀ n : Fin 10, ((nI b.val ||| ((1 : Int32) <<< (nI n.val &&& 31))).toNatClampNeg < 1024 ∧ nI (nI b.val ||| ((1 : Int32) <<< (nI n.val &&& 31))).toNatClampNeg = nI b.val ||| ((1 : Int32) <<< (nI n.val &&& 31))) ∧ ((nI b.val &&& (((1 : Int32) <<< (nI n.val &&& 31)) ^^^ (-1))).toNatClampNeg < 1024 ∧ nI (nI b.val &&& (((1 : Int32) <<< (nI n.val &&& 31)) ^^^ (-1))).toNatClampNeg = nI b.val &&& (((1 : Int32) <<< (nI n.val &&& 31)) ^^^ (-1))) := by decide +kernel
  obtain ⟨⟨h1, h2⟩, h3, h4⟩ := key ⟨b, hb⟩ ⟨n, hn⟩
  unfold chg
  split
  · exact ⟨_, h3, h4.symm⟩
  · exact ⟨_, h1, h2.symm⟩
/-- how many are in a set of ten -/
def cnt10 (x : Int32) : Int32 := 0 + (x >>> ((0 : Int32) &&& 31) &&& 1) + (x >>> ((1 : Int32) &&& 31) &&& 1) + (x >>> ((2 : Int32) &&& 31) &&& 1) + (x >>> ((3 : Int32) &&& 31) &&& 1) + (x >>> ((4 : Int32) &&& 31) &&& 1) + (x >>> ((5 : Int32) &&& 31) &&& 1) + (x >>> ((6 : Int32) &&& 31) &&& 1) + (x >>> ((7 : Int32) &&& 31) &&& 1) + (x >>> ((8 : Int32) &&& 31) &&& 1) + (x >>> ((9 : Int32) &&& 31) &&& 1)
theorem p_bits {F : Nat} (hF : 20 ≤ F) (x : Int32) : m_X6_bits F x = some (cnt10 x) := by
  obtain ⟨f, rfl⟩ : ∃ f, F = f + 11 := ⟨F - 11, by omega⟩
  rfl
theorem p_cnt {b : Nat} (hb : b < 1024) : m_J6_bitCount_0f7a4 (nI b) = some (cnt10 (nI b)) := by
  have key : ∀ b : Fin 1024, m_J6_bitCount_0f7a4 (nI b.val) = some (cnt10 (nI b.val)) := by decide +kernel
  exact key ⟨b, hb⟩
theorem p_src {q : Nat} (hq : q < 2000) : m_X2_sourceOf (nI q) = some (nI (q / 200)) := by
  unfold m_X2_sourceOf
  rw [show (200 : Int32) = nI 200 from rfl, pk_div (by omega) (by omega) (by omega)]
theorem p_nbr {q : Nat} (hq : q < 2000) : m_X2_numberOf (nI q) = some (nI (q % 200 + 1)) := by
  unfold m_X2_numberOf
  rw [show (200 : Int32) = nI 200 from rfl, show (1 : Int32) = nI 1 from rfl, pk_rem (by omega) (by omega) (by omega), nI_add]
theorem p_place {l t : Nat} (ht : 1 ≤ t) : m_X2_place (nI l) (nI t) = some (nI (200 * l + t - 1)) := by
  unfold m_X2_place
  rw [show (200 : Int32) = nI 200 from rfl, show (1 : Int32) = nI 1 from rfl, pk_mul, nI_add, sbI (by omega), Nat.mul_comm l 200]
