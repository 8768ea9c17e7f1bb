section
-- ===== PART A: goes FIRST, ahead of the names: the tables' words, and 'selects' of the private methods out of them =====
/-- a private method of a class that the tables say can be made, by its rows of tables_1 -/
def lw_okq (q : MethodName × Nat) : Prop := (q.1.cls ≠ "java/lang/invoke/MethodHandle" ∧ q.1.cls ≠ "java/lang/invoke/VarHandle") ∧ Cond.instantiable q.1.cls q.2 ∈ tables_1 ∧ Cond.privateMethod q.1 ∈ tables_1 ∧ Cond.instanceMethod q.1 ∈ tables_1
theorem lw_p0 : lw_okq (⟨"MeshLamps", "keptImages", "()I"⟩, 2) := ⟨⟨by decide +kernel, by decide +kernel⟩, List.mem_of_getElem? (i := 12) (by decide +kernel), List.mem_of_getElem? (i := 480) (by decide +kernel), List.mem_of_getElem? (i := 481) (by decide +kernel)⟩
theorem lw_p1 : lw_okq (⟨"MeshLampsModel", "forget", "(I)V"⟩, 3) := ⟨⟨by decide +kernel, by decide +kernel⟩, List.mem_of_getElem? (i := 484) (by decide +kernel), List.mem_of_getElem? (i := 518) (by decide +kernel), List.mem_of_getElem? (i := 519) (by decide +kernel)⟩
theorem lw_p2 : lw_okq (⟨"MeshLampsModel", "sleeps", "(I)Z"⟩, 3) := ⟨⟨by decide +kernel, by decide +kernel⟩, List.mem_of_getElem? (i := 484) (by decide +kernel), List.mem_of_getElem? (i := 526) (by decide +kernel), List.mem_of_getElem? (i := 527) (by decide +kernel)⟩
theorem lw_p3 : lw_okq (⟨"MeshLampsModel", "keyFor", "(I)I"⟩, 3) := ⟨⟨by decide +kernel, by decide +kernel⟩, List.mem_of_getElem? (i := 484) (by decide +kernel), List.mem_of_getElem? (i := 542) (by decide +kernel), List.mem_of_getElem? (i := 543) (by decide +kernel)⟩
theorem lw_p4 : lw_okq (⟨"MeshLampsModel", "remember", "(III)V"⟩, 3) := ⟨⟨by decide +kernel, by decide +kernel⟩, List.mem_of_getElem? (i := 484) (by decide +kernel), List.mem_of_getElem? (i := 549) (by decide +kernel), List.mem_of_getElem? (i := 550) (by decide +kernel)⟩
theorem lw_p5 : lw_okq (⟨"MeshLampsModel", "addToAir", "(IIIII)V"⟩, 3) := ⟨⟨by decide +kernel, by decide +kernel⟩, List.mem_of_getElem? (i := 484) (by decide +kernel), List.mem_of_getElem? (i := 553) (by decide +kernel), List.mem_of_getElem? (i := 554) (by decide +kernel)⟩
theorem lw_p6 : lw_okq (⟨"MeshLampsModel", "knows", "(III)Z"⟩, 3) := ⟨⟨by decide +kernel, by decide +kernel⟩, List.mem_of_getElem? (i := 484) (by decide +kernel), List.mem_of_getElem? (i := 565) (by decide +kernel), List.mem_of_getElem? (i := 566) (by decide +kernel)⟩
theorem lw_p7 : lw_okq (⟨"MeshLampsModel", "letter", "(III)I"⟩, 3) := ⟨⟨by decide +kernel, by decide +kernel⟩, List.mem_of_getElem? (i := 484) (by decide +kernel), List.mem_of_getElem? (i := 569) (by decide +kernel), List.mem_of_getElem? (i := 570) (by decide +kernel)⟩
theorem lw_p8 : lw_okq (⟨"MeshLampsModel", "takes", "(III)Z"⟩, 3) := ⟨⟨by decide +kernel, by decide +kernel⟩, List.mem_of_getElem? (i := 484) (by decide +kernel), List.mem_of_getElem? (i := 573) (by decide +kernel), List.mem_of_getElem? (i := 574) (by decide +kernel)⟩
theorem lw_p9 : lw_okq (⟨"MeshLampsModel", "goOn", "()I"⟩, 3) := ⟨⟨by decide +kernel, by decide +kernel⟩, List.mem_of_getElem? (i := 484) (by decide +kernel), List.mem_of_getElem? (i := 581) (by decide +kernel), List.mem_of_getElem? (i := 582) (by decide +kernel)⟩
theorem lw_p10 : lw_okq (⟨"MeshLampsModel", "dueNow", "()I"⟩, 3) := ⟨⟨by decide +kernel, by decide +kernel⟩, List.mem_of_getElem? (i := 484) (by decide +kernel), List.mem_of_getElem? (i := 585) (by decide +kernel), List.mem_of_getElem? (i := 586) (by decide +kernel)⟩
theorem lw_p11 : lw_okq (⟨"MeshLampsModel", "speaks", "(I)Z"⟩, 3) := ⟨⟨by decide +kernel, by decide +kernel⟩, List.mem_of_getElem? (i := 484) (by decide +kernel), List.mem_of_getElem? (i := 589) (by decide +kernel), List.mem_of_getElem? (i := 590) (by decide +kernel)⟩
theorem lw_p12 : lw_okq (⟨"MeshLampsModel", "removeFromAir", "(I)V"⟩, 3) := ⟨⟨by decide +kernel, by decide +kernel⟩, List.mem_of_getElem? (i := 484) (by decide +kernel), List.mem_of_getElem? (i := 593) (by decide +kernel), List.mem_of_getElem? (i := 594) (by decide +kernel)⟩
theorem lw_p13 : lw_okq (⟨"MeshLampsModel", "hear", "(IIII)V"⟩, 3) := ⟨⟨by decide +kernel, by decide +kernel⟩, List.mem_of_getElem? (i := 484) (by decide +kernel), List.mem_of_getElem? (i := 597) (by decide +kernel), List.mem_of_getElem? (i := 598) (by decide +kernel)⟩
theorem lw_p14 : lw_okq (⟨"MeshLampsModel", "hasInMind", "(III)Z"⟩, 3) := ⟨⟨by decide +kernel, by decide +kernel⟩, List.mem_of_getElem? (i := 484) (by decide +kernel), List.mem_of_getElem? (i := 601) (by decide +kernel), List.mem_of_getElem? (i := 602) (by decide +kernel)⟩
theorem lw_p15 : lw_okq (⟨"MeshLampsModel", "isMeant", "(III)Z"⟩, 3) := ⟨⟨by decide +kernel, by decide +kernel⟩, List.mem_of_getElem? (i := 484) (by decide +kernel), List.mem_of_getElem? (i := 605) (by decide +kernel), List.mem_of_getElem? (i := 606) (by decide +kernel)⟩
def lw_privs_1 : List (MethodName × Nat) := [(⟨"MeshLamps", "keptImages", "()I"⟩, 2), (⟨"MeshLampsModel", "forget", "(I)V"⟩, 3), (⟨"MeshLampsModel", "sleeps", "(I)Z"⟩, 3), (⟨"MeshLampsModel", "keyFor", "(I)I"⟩, 3), (⟨"MeshLampsModel", "remember", "(III)V"⟩, 3), (⟨"MeshLampsModel", "addToAir", "(IIIII)V"⟩, 3), (⟨"MeshLampsModel", "knows", "(III)Z"⟩, 3), (⟨"MeshLampsModel", "letter", "(III)I"⟩, 3), (⟨"MeshLampsModel", "takes", "(III)Z"⟩, 3), (⟨"MeshLampsModel", "goOn", "()I"⟩, 3), (⟨"MeshLampsModel", "dueNow", "()I"⟩, 3), (⟨"MeshLampsModel", "speaks", "(I)Z"⟩, 3), (⟨"MeshLampsModel", "removeFromAir", "(I)V"⟩, 3), (⟨"MeshLampsModel", "hear", "(IIII)V"⟩, 3), (⟨"MeshLampsModel", "hasInMind", "(III)Z"⟩, 3), (⟨"MeshLampsModel", "isMeant", "(III)Z"⟩, 3)]
theorem lw_r1 : ∀ q ∈ lw_privs_1, lw_okq q := List.forall_mem_cons.mpr ⟨lw_p0, List.forall_mem_cons.mpr ⟨lw_p1, List.forall_mem_cons.mpr ⟨lw_p2, List.forall_mem_cons.mpr ⟨lw_p3, List.forall_mem_cons.mpr ⟨lw_p4, List.forall_mem_cons.mpr ⟨lw_p5, List.forall_mem_cons.mpr ⟨lw_p6, List.forall_mem_cons.mpr ⟨lw_p7, List.forall_mem_cons.mpr ⟨lw_p8, List.forall_mem_cons.mpr ⟨lw_p9, List.forall_mem_cons.mpr ⟨lw_p10, List.forall_mem_cons.mpr ⟨lw_p11, List.forall_mem_cons.mpr ⟨lw_p12, List.forall_mem_cons.mpr ⟨lw_p13, List.forall_mem_cons.mpr ⟨lw_p14, List.forall_mem_cons.mpr ⟨lw_p15, fun _ h => absurd h List.not_mem_nil⟩⟩⟩⟩⟩⟩⟩⟩⟩⟩⟩⟩⟩⟩⟩⟩
theorem lw_p16 : lw_okq (⟨"MeshLampsModel", "keepFor", "(III)V"⟩, 3) := ⟨⟨by decide +kernel, by decide +kernel⟩, List.mem_of_getElem? (i := 484) (by decide +kernel), List.mem_of_getElem? (i := 609) (by decide +kernel), List.mem_of_getElem? (i := 610) (by decide +kernel)⟩
theorem lw_p17 : lw_okq (⟨"MeshLampsModel", "asleep", "()I"⟩, 3) := ⟨⟨by decide +kernel, by decide +kernel⟩, List.mem_of_getElem? (i := 484) (by decide +kernel), List.mem_of_getElem? (i := 649) (by decide +kernel), List.mem_of_getElem? (i := 650) (by decide +kernel)⟩
theorem lw_p18 : lw_okq (⟨"MeshLampsModel", "lights", "()I"⟩, 3) := ⟨⟨by decide +kernel, by decide +kernel⟩, List.mem_of_getElem? (i := 484) (by decide +kernel), List.mem_of_getElem? (i := 653) (by decide +kernel), List.mem_of_getElem? (i := 654) (by decide +kernel)⟩
def lw_privs_2 : List (MethodName × Nat) := [(⟨"MeshLampsModel", "keepFor", "(III)V"⟩, 3), (⟨"MeshLampsModel", "asleep", "()I"⟩, 3), (⟨"MeshLampsModel", "lights", "()I"⟩, 3)]
theorem lw_r2 : ∀ q ∈ lw_privs_2, lw_okq q := List.forall_mem_cons.mpr ⟨lw_p16, List.forall_mem_cons.mpr ⟨lw_p17, List.forall_mem_cons.mpr ⟨lw_p18, fun _ h => absurd h List.not_mem_nil⟩⟩⟩
def lw_privs : List (MethodName × Nat) := lw_privs_1 ++ (lw_privs_2)
def lw_tbl : List Cond := k2_sels lw_privs ++ tables_1
theorem lw_privs_ok : ∀ q ∈ lw_privs, lw_okq q := by
  show ∀ q ∈ lw_privs_1 ++ (lw_privs_2), lw_okq q
  exact List.forall_mem_append.mpr ⟨lw_r1, lw_r2⟩
end
section
/-! ===== BEGIN words of one list among another's, by their places ===== -/
theorem goodIn_r {big : List Cond} (ws : List Cond) (ps : List Nat) (hp : ws = ps.filterMap (fun i => big[i]?)) (h : ws.all goodWord = true) : GoodIn big ws := by
  intro w hw
  have h1 := List.all_eq_true.mp h w hw
  rw [hp] at hw
  obtain ⟨i, -, hi⟩ := List.mem_filterMap.mp hw
  have hm : w ∈ big := by first | exact List.mem_of_getElem? hi | exact List.getElem?_mem hi
  exact ⟨hm, good_of_word h1⟩
theorem goodIn_app {big a b : List Cond} (ha : GoodIn big a) (hb : GoodIn big b) : GoodIn big (a ++ b) := fun w h => (List.mem_append.mp h).elim (ha w) (hb w)
theorem goodIn_ca {big a b : List Cond} {c : Cond} (ha : GoodIn big (c :: a)) (hb : GoodIn big b) : GoodIn big (c :: (a ++ b)) := fun w h => (List.mem_cons.mp h).elim (fun e => ha w (List.mem_cons.mpr (Or.inl e))) (fun h => (List.mem_append.mp h).elim (fun h => ha w (List.mem_cons.mpr (Or.inr h))) (hb w))
theorem goodIn_sub {big ws : List Cond} (hm : ∀ w ∈ ws, w ∈ big) (h : ws.all goodWord = true) : GoodIn big ws := fun w hw => ⟨hm w hw, good_of_word (List.all_eq_true.mp h w hw)⟩
/-! ===== END ===== -/

/-! ===== BEGIN printed: names, fields, word lists, decode rows ===== -/
def RX0 : String := "MeshLamps$Air"
def TX0 : u_T := fun k => match k with
  | 0 => ("MeshLamps$Air", "speaker", "[I", true)
  | 1 => ("MeshLamps$Air", "tick", "[I", true)
  | 2 => ("MeshLamps$Air", "letter", "[I", true)
  | 3 => ("MeshLamps$Air", "steps", "[I", true)
  | _ => ("MeshLamps$Air", "size", "I", false)
def tyX0 : Nat → FieldType := fun k => match k with
  | 0 => .array .int
  | 1 => .array .int
  | 2 => .array .int
  | 3 => .array .int
  | _ => .int
abbrev wsX00 : List Cond := u_ws RX0 TX0 5
theorem nmX0 : ∀ a, a < 5 → ∀ b, b < 5 → a ≠ b → (TX0 a).2.1 ≠ (TX0 b).2.1 := by decide +kernel
theorem tyX0_ok : ∀ k, k < 5 → parseFieldDescriptor (TX0 k).2.2.1 = some (tyX0 k) := by decide +kernel
abbrev cX0_init : ByteArray := prog_2_method_1_code
def yX0_init : MethodName := ⟨RX0, "<init>", "()V"⟩
abbrev cX0_isFull : ByteArray := prog_2_method_2_code
def yX0_isFull : MethodName := ⟨RX0, "isFull", "()Z"⟩
abbrev cX0_add : ByteArray := prog_2_method_3_code
def yX0_add : MethodName := ⟨RX0, "add", "(IIII)V"⟩
abbrev cX0_dropAt : ByteArray := prog_2_method_4_code
def yX0_dropAt : MethodName := ⟨RX0, "dropAt", "(I)V"⟩
abbrev cX0_become : ByteArray := prog_2_method_5_code
def yX0_become : MethodName := ⟨RX0, "become", "(LMeshLamps$Air;)V"⟩
def RX1 : String := "MeshLamps$Lamp"
def TX1 : u_T := fun k => match k with
  | 0 => ("MeshLamps$Lamp", "settings", "[I", true)
  | 1 => ("MeshLamps$Lamp", "greatestTaken", "[I", true)
  | 2 => ("MeshLamps$Lamp", "mind", "LMeshLamps$Line;", true)
  | 3 => ("MeshLamps$Lamp", "kept", "LMeshLamps$Line;", true)
  | 4 => ("MeshLamps$Lamp", "links", "I", false)
  | 5 => ("MeshLamps$Lamp", "light", "I", false)
  | 6 => ("MeshLamps$Lamp", "sleeps", "Z", false)
  | 7 => ("MeshLamps$Lamp", "friend", "I", false)
  | 8 => ("MeshLamps$Lamp", "told", "I", false)
  | 9 => ("MeshLamps$Lamp", "took", "I", false)
  | 10 => ("MeshLamps$Lamp", "refusedAsOld", "I", false)
  | 11 => ("MeshLamps$Lamp", "hadStrange", "I", false)
  | 12 => ("MeshLamps$Lamp", "hadStale", "I", false)
  | 13 => ("MeshLamps$Lamp", "hadNew", "I", false)
  | _ => ("MeshLamps$Lamp", "spoke", "I", false)
def tyX1 : Nat → FieldType := fun k => match k with
  | 0 => .array .int
  | 1 => .array .int
  | 2 => .object "MeshLamps$Line"
  | 3 => .object "MeshLamps$Line"
  | 4 => .int
  | 5 => .int
  | 6 => .boolean
  | 7 => .int
  | 8 => .int
  | 9 => .int
  | 10 => .int
  | 11 => .int
  | 12 => .int
  | 13 => .int
  | _ => .int
abbrev wsX10 : List Cond := u_ws RX1 TX1 15
theorem nmX1 : ∀ a, a < 15 → ∀ b, b < 15 → a ≠ b → (TX1 a).2.1 ≠ (TX1 b).2.1 := by decide +kernel
theorem tyX1_ok : ∀ k, k < 15 → parseFieldDescriptor (TX1 k).2.2.1 = some (tyX1 k) := by decide +kernel
abbrev cX1_init : ByteArray := prog_3_method_1_code
def yX1_init : MethodName := ⟨RX1, "<init>", "()V"⟩
abbrev cX1_become : ByteArray := prog_3_method_2_code
def yX1_become : MethodName := ⟨RX1, "become", "(LMeshLamps$Lamp;)V"⟩
def RX2 : String := "MeshLamps$Letters"
def TX2 : u_T := fun k => match k with
  | 0 => ("MeshLamps$Letters", "key", "[I", true)
  | 1 => ("MeshLamps$Letters", "aim", "[I", true)
  | _ => ("MeshLamps$Letters", "value", "[I", true)
def tyX2 : Nat → FieldType := fun k => match k with
  | 0 => .array .int
  | 1 => .array .int
  | _ => .array .int
abbrev wsX20 : List Cond := u_ws RX2 TX2 3
theorem nmX2 : ∀ a, a < 3 → ∀ b, b < 3 → a ≠ b → (TX2 a).2.1 ≠ (TX2 b).2.1 := by decide +kernel
theorem tyX2_ok : ∀ k, k < 3 → parseFieldDescriptor (TX2 k).2.2.1 = some (tyX2 k) := by decide +kernel
abbrev cX2_init : ByteArray := prog_4_method_1_code
def yX2_init : MethodName := ⟨RX2, "<init>", "()V"⟩
abbrev cX2_place : ByteArray := prog_4_method_2_code
def yX2_place : MethodName := ⟨RX2, "place", "(II)I"⟩
abbrev cX2_sourceOf : ByteArray := prog_4_method_3_code
def yX2_sourceOf : MethodName := ⟨RX2, "sourceOf", "(I)I"⟩
abbrev cX2_numberOf : ByteArray := prog_4_method_4_code
def yX2_numberOf : MethodName := ⟨RX2, "numberOf", "(I)I"⟩
abbrev cX2_write : ByteArray := prog_4_method_5_code
def yX2_write : MethodName := ⟨RX2, "write", "(IIII)V"⟩
abbrev cX2_become : ByteArray := prog_4_method_6_code
def yX2_become : MethodName := ⟨RX2, "become", "(LMeshLamps$Letters;)V"⟩
def RX3 : String := "MeshLamps$Line"
def TX3 : u_T := fun k => match k with
  | 0 => ("MeshLamps$Line", "letters", "[I", true)
  | _ => ("MeshLamps$Line", "size", "I", false)
def tyX3 : Nat → FieldType := fun k => match k with
  | 0 => .array .int
  | _ => .int
abbrev wsX30 : List Cond := u_ws RX3 TX3 2
theorem nmX3 : ∀ a, a < 2 → ∀ b, b < 2 → a ≠ b → (TX3 a).2.1 ≠ (TX3 b).2.1 := by decide +kernel
theorem tyX3_ok : ∀ k, k < 2 → parseFieldDescriptor (TX3 k).2.2.1 = some (tyX3 k) := by decide +kernel
abbrev cX3_init : ByteArray := prog_5_method_1_code
def yX3_init : MethodName := ⟨RX3, "<init>", "(I)V"⟩
abbrev cX3_holds : ByteArray := prog_5_method_2_code
def yX3_holds : MethodName := ⟨RX3, "holds", "(I)Z"⟩
abbrev cX3_add : ByteArray := prog_5_method_3_code
def yX3_add : MethodName := ⟨RX3, "add", "(II)V"⟩
abbrev cX3_dropOldest : ByteArray := prog_5_method_4_code
def yX3_dropOldest : MethodName := ⟨RX3, "dropOldest", "(I)V"⟩
abbrev cX3_become : ByteArray := prog_5_method_5_code
def yX3_become : MethodName := ⟨RX3, "become", "(LMeshLamps$Line;)V"⟩
def RX4 : String := "MeshLamps$Mesh"
def TX4 : u_T := fun k => match k with
  | 0 => ("MeshLamps$Mesh", "lamps", "[LMeshLamps$Lamp;", true)
  | 1 => ("MeshLamps$Mesh", "letters", "LMeshLamps$Letters;", true)
  | 2 => ("MeshLamps$Mesh", "air", "LMeshLamps$Air;", true)
  | 3 => ("MeshLamps$Mesh", "tick", "I", false)
  | 4 => ("MeshLamps$Mesh", "key", "I", false)
  | 5 => ("MeshLamps$Mesh", "phase", "I", false)
  | 6 => ("MeshLamps$Mesh", "haveKey", "I", false)
  | 7 => ("MeshLamps$Mesh", "haveNext", "I", false)
  | 8 => ("MeshLamps$Mesh", "spoken", "I", false)
  | 9 => ("MeshLamps$Mesh", "lostAsFull", "I", false)
  | _ => ("MeshLamps$Mesh", "lostAsleep", "I", false)
def tyX4 : Nat → FieldType := fun k => match k with
  | 0 => .array (.object "MeshLamps$Lamp")
  | 1 => .object "MeshLamps$Letters"
  | 2 => .object "MeshLamps$Air"
  | 3 => .int
  | 4 => .int
  | 5 => .int
  | 6 => .int
  | 7 => .int
  | 8 => .int
  | 9 => .int
  | _ => .int
abbrev wsX40 : List Cond := u_ws RX4 TX4 11
theorem nmX4 : ∀ a, a < 11 → ∀ b, b < 11 → a ≠ b → (TX4 a).2.1 ≠ (TX4 b).2.1 := by decide +kernel
theorem tyX4_ok : ∀ k, k < 11 → parseFieldDescriptor (TX4 k).2.2.1 = some (tyX4 k) := by decide +kernel
abbrev cX4_init : ByteArray := prog_6_method_1_code
def yX4_init : MethodName := ⟨RX4, "<init>", "()V"⟩
abbrev cX4_become : ByteArray := prog_6_method_2_code
def yX4_become : MethodName := ⟨RX4, "become", "(LMeshLamps$Mesh;)V"⟩
abbrev cX4_nextPhase : ByteArray := prog_6_method_3_code
def yX4_nextPhase : MethodName := ⟨RX4, "nextPhase", "()V"⟩
abbrev cX4_tellsByNext : ByteArray := prog_6_method_4_code
def yX4_tellsByNext : MethodName := ⟨RX4, "tellsByNext", "(I)Z"⟩
abbrev cX4_canTell : ByteArray := prog_6_method_5_code
def yX4_canTell : MethodName := ⟨RX4, "canTell", "(I)Z"⟩
abbrev cX4_keyToTell : ByteArray := prog_6_method_6_code
def yX4_keyToTell : MethodName := ⟨RX4, "keyToTell", "(I)I"⟩
abbrev cX4_knows : ByteArray := prog_6_method_7_code
def yX4_knows : MethodName := ⟨RX4, "knows", "(II)Z"⟩
abbrev cX4_isMeant : ByteArray := prog_6_method_8_code
def yX4_isMeant : MethodName := ⟨RX4, "isMeant", "(II)Z"⟩
abbrev cX4_passTick : ByteArray := prog_6_method_9_code
def yX4_passTick : MethodName := ⟨RX4, "passTick", "()V"⟩
abbrev cX4_speakFromAir : ByteArray := prog_6_method_10_code
def yX4_speakFromAir : MethodName := ⟨RX4, "speakFromAir", "(I)V"⟩
abbrev cX4_speak : ByteArray := prog_6_method_11_code
def yX4_speak : MethodName := ⟨RX4, "speak", "(III)V"⟩
abbrev cX4_hear : ByteArray := prog_6_method_12_code
def yX4_hear : MethodName := ⟨RX4, "hear", "(III)V"⟩
abbrev cX4_keepForSleepers : ByteArray := prog_6_method_13_code
def yX4_keepForSleepers : MethodName := ⟨RX4, "keepForSleepers", "(II)V"⟩
abbrev cX4_passOn : ByteArray := prog_6_method_14_code
def yX4_passOn : MethodName := ⟨RX4, "passOn", "(III)V"⟩
abbrev cX4_take : ByteArray := prog_6_method_15_code
def yX4_take : MethodName := ⟨RX4, "take", "(LMeshLamps$Lamp;I)V"⟩
abbrev cX4_wake : ByteArray := prog_6_method_16_code
def yX4_wake : MethodName := ⟨RX4, "wake", "(I)I"⟩
abbrev cX4_sleepers : ByteArray := prog_6_method_17_code
def yX4_sleepers : MethodName := ⟨RX4, "sleepers", "()I"⟩
abbrev cX4_allLights : ByteArray := prog_6_method_18_code
def yX4_allLights : MethodName := ⟨RX4, "allLights", "()I"⟩
def RX5 : String := "MeshLamps"
def TX5 : u_T := fun k => match k with
  | 0 => ("MeshLamps", "mesh", "LMeshLamps$Mesh;", true)
  | _ => ("MeshLamps", "images", "[LMeshLamps$Mesh;", true)
def tyX5 : Nat → FieldType := fun k => match k with
  | 0 => .object "MeshLamps$Mesh"
  | _ => .array (.object "MeshLamps$Mesh")
abbrev wsX50 : List Cond := u_ws RX5 TX5 2
theorem nmX5 : ∀ a, a < 2 → ∀ b, b < 2 → a ≠ b → (TX5 a).2.1 ≠ (TX5 b).2.1 := by decide +kernel
theorem tyX5_ok : ∀ k, k < 2 → parseFieldDescriptor (TX5 k).2.2.1 = some (tyX5 k) := by decide +kernel
abbrev cX5_init : ByteArray := prog_1_method_1_code
def yX5_init : MethodName := ⟨RX5, "<init>", "()V"⟩
abbrev cX5_link : ByteArray := prog_1_method_2_code
def yX5_link : MethodName := ⟨RX5, "link", "(III)I"⟩
abbrev cX5_set : ByteArray := prog_1_method_3_code
def yX5_set : MethodName := ⟨RX5, "set", "(III)I"⟩
abbrev cX5_friend : ByteArray := prog_1_method_4_code
def yX5_friend : MethodName := ⟨RX5, "friend", "(II)I"⟩
abbrev cX5_sleep : ByteArray := prog_1_method_5_code
def yX5_sleep : MethodName := ⟨RX5, "sleep", "(II)I"⟩
abbrev cX5_phase : ByteArray := prog_1_method_6_code
def yX5_phase : MethodName := ⟨RX5, "phase", "()I"⟩
abbrev cX5_give : ByteArray := prog_1_method_7_code
def yX5_give : MethodName := ⟨RX5, "give", "(I)I"⟩
abbrev cX5_has : ByteArray := prog_1_method_8_code
def yX5_has : MethodName := ⟨RX5, "has", "(II)I"⟩
abbrev cX5_tell : ByteArray := prog_1_method_9_code
def yX5_tell : MethodName := ⟨RX5, "tell", "(IIII)I"⟩
abbrev cX5_replay : ByteArray := prog_1_method_10_code
def yX5_replay : MethodName := ⟨RX5, "replay", "(III)I"⟩
abbrev cX5_pass : ByteArray := prog_1_method_11_code
def yX5_pass : MethodName := ⟨RX5, "pass", "(I)I"⟩
abbrev cX5_settle : ByteArray := prog_1_method_12_code
def yX5_settle : MethodName := ⟨RX5, "settle", "()I"⟩
abbrev cX5_lamp : ByteArray := prog_1_method_13_code
def yX5_lamp : MethodName := ⟨RX5, "lamp", "(II)I"⟩
abbrev cX5_taken : ByteArray := prog_1_method_14_code
def yX5_taken : MethodName := ⟨RX5, "taken", "(II)I"⟩
abbrev cX5_mind : ByteArray := prog_1_method_15_code
def yX5_mind : MethodName := ⟨RX5, "mind", "(III)I"⟩
abbrev cX5_air : ByteArray := prog_1_method_16_code
def yX5_air : MethodName := ⟨RX5, "air", "(II)I"⟩
abbrev cX5_image : ByteArray := prog_1_method_17_code
def yX5_image : MethodName := ⟨RX5, "image", "(I)I"⟩
abbrev cX5_restore : ByteArray := prog_1_method_18_code
def yX5_restore : MethodName := ⟨RX5, "restore", "(I)I"⟩
abbrev cX5_count : ByteArray := prog_1_method_19_code
def yX5_count : MethodName := ⟨RX5, "count", "(I)I"⟩
abbrev cX5_keptImages : ByteArray := prog_1_method_20_code
def yX5_keptImages : MethodName := ⟨RX5, "keptImages", "()I"⟩
abbrev cX5_isLamp : ByteArray := prog_1_method_21_code
def yX5_isLamp : MethodName := ⟨RX5, "isLamp", "(I)Z"⟩
abbrev cX5_isBetween : ByteArray := prog_1_method_22_code
def yX5_isBetween : MethodName := ⟨RX5, "isBetween", "(III)Z"⟩
abbrev cX5_isIn : ByteArray := prog_1_method_23_code
def yX5_isIn : MethodName := ⟨RX5, "isIn", "(II)Z"⟩
abbrev cX5_changed : ByteArray := prog_1_method_24_code
def yX5_changed : MethodName := ⟨RX5, "changed", "(IIZ)I"⟩
abbrev cX5_asNumber : ByteArray := prog_1_method_25_code
def yX5_asNumber : MethodName := ⟨RX5, "asNumber", "(Z)I"⟩
def RX6 : String := "MeshLampsModel"
def TX6 : u_T := fun k => match k with
  | 0 => ("MeshLampsModel", "state", "[I", true)
  | 1 => ("MeshLampsModel", "images", "[I", true)
  | _ => ("MeshLampsModel", "isKept", "[Z", true)
def tyX6 : Nat → FieldType := fun k => match k with
  | 0 => .array .int
  | 1 => .array .int
  | _ => .array .boolean
abbrev wsX60 : List Cond := u_ws RX6 TX6 3
theorem nmX6 : ∀ a, a < 3 → ∀ b, b < 3 → a ≠ b → (TX6 a).2.1 ≠ (TX6 b).2.1 := by decide +kernel
theorem tyX6_ok : ∀ k, k < 3 → parseFieldDescriptor (TX6 k).2.2.1 = some (tyX6 k) := by decide +kernel
abbrev cX6_init : ByteArray := prog_8_method_1_code
def yX6_init : MethodName := ⟨RX6, "<init>", "()V"⟩
abbrev cX6_in : ByteArray := prog_8_method_2_code
def yX6_in : MethodName := ⟨RX6, "in", "(III)Z"⟩
abbrev cX6_isLamp : ByteArray := prog_8_method_3_code
def yX6_isLamp : MethodName := ⟨RX6, "isLamp", "(I)Z"⟩
abbrev cX6_isOf : ByteArray := prog_8_method_4_code
def yX6_isOf : MethodName := ⟨RX6, "isOf", "(II)Z"⟩
abbrev cX6_bits : ByteArray := prog_8_method_5_code
def yX6_bits : MethodName := ⟨RX6, "bits", "(I)I"⟩
abbrev cX6_sleeps : ByteArray := prog_8_method_6_code
def yX6_sleeps : MethodName := ⟨RX6, "sleeps", "(I)Z"⟩
abbrev cX6_link : ByteArray := prog_8_method_7_code
def yX6_link : MethodName := ⟨RX6, "link", "(III)I"⟩
abbrev cX6_forget : ByteArray := prog_8_method_8_code
def yX6_forget : MethodName := ⟨RX6, "forget", "(I)V"⟩
abbrev cX6_set : ByteArray := prog_8_method_9_code
def yX6_set : MethodName := ⟨RX6, "set", "(III)I"⟩
abbrev cX6_friend : ByteArray := prog_8_method_10_code
def yX6_friend : MethodName := ⟨RX6, "friend", "(II)I"⟩
abbrev cX6_phase : ByteArray := prog_8_method_11_code
def yX6_phase : MethodName := ⟨RX6, "phase", "()I"⟩
abbrev cX6_give : ByteArray := prog_8_method_12_code
def yX6_give : MethodName := ⟨RX6, "give", "(I)I"⟩
abbrev cX6_letter : ByteArray := prog_8_method_13_code
def yX6_letter : MethodName := ⟨RX6, "letter", "(III)I"⟩
abbrev cX6_knows : ByteArray := prog_8_method_14_code
def yX6_knows : MethodName := ⟨RX6, "knows", "(III)Z"⟩
abbrev cX6_isMeant : ByteArray := prog_8_method_15_code
def yX6_isMeant : MethodName := ⟨RX6, "isMeant", "(III)Z"⟩
abbrev cX6_hasInMind : ByteArray := prog_8_method_16_code
def yX6_hasInMind : MethodName := ⟨RX6, "hasInMind", "(III)Z"⟩
abbrev cX6_remember : ByteArray := prog_8_method_17_code
def yX6_remember : MethodName := ⟨RX6, "remember", "(III)V"⟩
abbrev cX6_addToAir : ByteArray := prog_8_method_18_code
def yX6_addToAir : MethodName := ⟨RX6, "addToAir", "(IIIII)V"⟩
abbrev cX6_keyFor : ByteArray := prog_8_method_19_code
def yX6_keyFor : MethodName := ⟨RX6, "keyFor", "(I)I"⟩
abbrev cX6_tell : ByteArray := prog_8_method_20_code
def yX6_tell : MethodName := ⟨RX6, "tell", "(IIII)I"⟩
abbrev cX6_replay : ByteArray := prog_8_method_21_code
def yX6_replay : MethodName := ⟨RX6, "replay", "(III)I"⟩
abbrev cX6_takes : ByteArray := prog_8_method_22_code
def yX6_takes : MethodName := ⟨RX6, "takes", "(III)Z"⟩
abbrev cX6_keepFor : ByteArray := prog_8_method_23_code
def yX6_keepFor : MethodName := ⟨RX6, "keepFor", "(III)V"⟩
abbrev cX6_hear : ByteArray := prog_8_method_24_code
def yX6_hear : MethodName := ⟨RX6, "hear", "(IIII)V"⟩
abbrev cX6_sleep : ByteArray := prog_8_method_25_code
def yX6_sleep : MethodName := ⟨RX6, "sleep", "(II)I"⟩
abbrev cX6_dueNow : ByteArray := prog_8_method_26_code
def yX6_dueNow : MethodName := ⟨RX6, "dueNow", "()I"⟩
abbrev cX6_removeFromAir : ByteArray := prog_8_method_27_code
def yX6_removeFromAir : MethodName := ⟨RX6, "removeFromAir", "(I)V"⟩
abbrev cX6_speaks : ByteArray := prog_8_method_28_code
def yX6_speaks : MethodName := ⟨RX6, "speaks", "(I)Z"⟩
abbrev cX6_goOn : ByteArray := prog_8_method_29_code
def yX6_goOn : MethodName := ⟨RX6, "goOn", "()I"⟩
abbrev cX6_pass : ByteArray := prog_8_method_30_code
def yX6_pass : MethodName := ⟨RX6, "pass", "(I)I"⟩
abbrev cX6_settle : ByteArray := prog_8_method_31_code
def yX6_settle : MethodName := ⟨RX6, "settle", "()I"⟩
abbrev cX6_has : ByteArray := prog_8_method_32_code
def yX6_has : MethodName := ⟨RX6, "has", "(II)I"⟩
abbrev cX6_lamp : ByteArray := prog_8_method_33_code
def yX6_lamp : MethodName := ⟨RX6, "lamp", "(II)I"⟩
abbrev cX6_taken : ByteArray := prog_8_method_34_code
def yX6_taken : MethodName := ⟨RX6, "taken", "(II)I"⟩
abbrev cX6_mind : ByteArray := prog_8_method_35_code
def yX6_mind : MethodName := ⟨RX6, "mind", "(III)I"⟩
abbrev cX6_air : ByteArray := prog_8_method_36_code
def yX6_air : MethodName := ⟨RX6, "air", "(II)I"⟩
abbrev cX6_image : ByteArray := prog_8_method_37_code
def yX6_image : MethodName := ⟨RX6, "image", "(I)I"⟩
abbrev cX6_restore : ByteArray := prog_8_method_38_code
def yX6_restore : MethodName := ⟨RX6, "restore", "(I)I"⟩
abbrev cX6_asleep : ByteArray := prog_8_method_39_code
def yX6_asleep : MethodName := ⟨RX6, "asleep", "()I"⟩
abbrev cX6_lights : ByteArray := prog_8_method_40_code
def yX6_lights : MethodName := ⟨RX6, "lights", "()I"⟩
abbrev cX6_count : ByteArray := prog_8_method_41_code
def yX6_count : MethodName := ⟨RX6, "count", "(I)I"⟩
def RJx8e188 : String := "java/lang/Cloneable"
def TJx8e188 : u_T := fun k => match k with
  | _ => ("", "", "", false)
def tyJx8e188 : Nat → FieldType := fun k => match k with
  | _ => .int
abbrev wsJx8e1880 : List Cond := u_ws RJx8e188 TJx8e188 0
theorem nmJx8e188 : ∀ a, a < 0 → ∀ b, b < 0 → a ≠ b → (TJx8e188 a).2.1 ≠ (TJx8e188 b).2.1 := by decide +kernel
theorem tyJx8e188_ok : ∀ k, k < 0 → parseFieldDescriptor (TJx8e188 k).2.2.1 = some (tyJx8e188 k) := by decide +kernel
def RJ6 : String := "java/lang/Integer"
def TJ6 : u_T := fun k => match k with
  | _ => ("", "", "", false)
def tyJ6 : Nat → FieldType := fun k => match k with
  | _ => .int
abbrev wsJ60 : List Cond := u_ws RJ6 TJ6 0
theorem nmJ6 : ∀ a, a < 0 → ∀ b, b < 0 → a ≠ b → (TJ6 a).2.1 ≠ (TJ6 b).2.1 := by decide +kernel
theorem tyJ6_ok : ∀ k, k < 0 → parseFieldDescriptor (TJ6 k).2.2.1 = some (tyJ6 k) := by decide +kernel
abbrev cJ6_bitCount_0f7a4 : ByteArray := prog_10_method_49_code
def yJ6_bitCount_0f7a4 : MethodName := ⟨RJ6, "bitCount", "(I)I"⟩
def RJ9 : String := "java/lang/Math"
def TJ9 : u_T := fun k => match k with
  | _ => ("", "", "", false)
def tyJ9 : Nat → FieldType := fun k => match k with
  | _ => .int
abbrev wsJ90 : List Cond := u_ws RJ9 TJ9 0
theorem nmJ9 : ∀ a, a < 0 → ∀ b, b < 0 → a ≠ b → (TJ9 a).2.1 ≠ (TJ9 b).2.1 := by decide +kernel
theorem tyJ9_ok : ∀ k, k < 0 → parseFieldDescriptor (TJ9 k).2.2.1 = some (tyJ9 k) := by decide +kernel
abbrev cJ9_max_7cf53 : ByteArray := prog_11_method_65_code
def yJ9_max_7cf53 : MethodName := ⟨RJ9, "max", "(II)I"⟩
abbrev cJ9_min_7cf53 : ByteArray := prog_11_method_69_code
def yJ9_min_7cf53 : MethodName := ⟨RJ9, "min", "(II)I"⟩
def RJ10 : String := "java/lang/System"
def TJ10 : u_T := fun k => match k with
  | _ => ("", "", "", false)
def tyJ10 : Nat → FieldType := fun k => match k with
  | _ => .int
abbrev wsJ100 : List Cond := u_ws RJ10 TJ10 0
theorem nmJ10 : ∀ a, a < 0 → ∀ b, b < 0 → a ≠ b → (TJ10 a).2.1 ≠ (TJ10 b).2.1 := by decide +kernel
theorem tyJ10_ok : ∀ k, k < 0 → parseFieldDescriptor (TJ10 k).2.2.1 = some (tyJ10 k) := by decide +kernel
def RL : String := "MeshLampsLaw"
abbrev cL_law : ByteArray := code
def yL_law : MethodName := ⟨RL, "law", "([I)Z"⟩
def wsX0_init : List Cond := .code yX0_init cX0_init 1 none :: ([.methodLink RX0 3 objectInit, .instanceMethod objectInit, .code objectInit ⟨#[0xb1]⟩ 1 none, .arrayClass .int, .fieldLink RX0 9 "MeshLamps$Air" "speaker" "[I", .fieldLink RX0 15 "MeshLamps$Air" "tick" "[I", .fieldLink RX0 18 "MeshLamps$Air" "letter" "[I", .fieldLink RX0 21 "MeshLamps$Air" "steps" "[I", .fieldLink RX0 24 "MeshLamps$Air" "size" "I"] ++ wsX00)
def wsX0_isFull : List Cond := .code yX0_isFull cX0_isFull 1 (some .boolean) :: ([.fieldLink RX0 24 "MeshLamps$Air" "size" "I"] ++ wsX00)
def wsX0_add : List Cond := .code yX0_add cX0_add 5 none :: ([.fieldLink RX0 9 "MeshLamps$Air" "speaker" "[I", .fieldLink RX0 24 "MeshLamps$Air" "size" "I", .fieldLink RX0 15 "MeshLamps$Air" "tick" "[I", .fieldLink RX0 18 "MeshLamps$Air" "letter" "[I", .fieldLink RX0 21 "MeshLamps$Air" "steps" "[I", .methodLink RX0 28 yX0_isFull, .instanceMethod yX0_isFull, .selects RX0 yX0_isFull yX0_isFull, .initialized RX0, .code yX0_isFull cX0_isFull 1 (some .boolean)] ++ wsX00)
def wsX0_dropAt : List Cond := .code yX0_dropAt cX0_dropAt 3 none :: ([.fieldLink RX0 24 "MeshLamps$Air" "size" "I", .fieldLink RX0 9 "MeshLamps$Air" "speaker" "[I", .methodLink RX0 32 arraycopyName, .native arraycopyName, .static arraycopyName, .initialized "java/lang/System", .fieldLink RX0 15 "MeshLamps$Air" "tick" "[I", .fieldLink RX0 18 "MeshLamps$Air" "letter" "[I", .fieldLink RX0 21 "MeshLamps$Air" "steps" "[I"] ++ wsX00)
def wsX0_become : List Cond := .code yX0_become cX0_become 2 none :: ([.fieldLink RX0 24 "MeshLamps$Air" "size" "I", .fieldLink RX0 9 "MeshLamps$Air" "speaker" "[I", .methodLink RX0 32 arraycopyName, .native arraycopyName, .static arraycopyName, .initialized "java/lang/System", .fieldLink RX0 15 "MeshLamps$Air" "tick" "[I", .fieldLink RX0 18 "MeshLamps$Air" "letter" "[I", .fieldLink RX0 21 "MeshLamps$Air" "steps" "[I"] ++ wsX00)
def wsX3_init : List Cond := .code yX3_init cX3_init 2 none :: ([.methodLink RX3 1 objectInit, .instanceMethod objectInit, .code objectInit ⟨#[0xb1]⟩ 1 none, .fieldLink RX3 7 "MeshLamps$Line" "size" "I", .methodLink RX3 13 Lib.Math.max.name, .static Lib.Math.max.name, .initialized "java/lang/Math", .code Lib.Math.max.name Lib.Math.max.code 2 (some .int), .arrayClass .int, .fieldLink RX3 19 "MeshLamps$Line" "letters" "[I"] ++ wsX30)
def wsX1_init_r1 : List Cond := [Cond.methodLink RX1 3 objectInit, Cond.instanceMethod objectInit, Cond.code objectInit ⟨#[0xb1]⟩ 1 none, Cond.methodLink RX1 13 ⟨"[I", "clone", "()Ljava/lang/Object;"⟩, Cond.sameMethod "[I" "java/lang/Object" "clone" "()Ljava/lang/Object;", Cond.native ⟨"java/lang/Object", "clone", "()Ljava/lang/Object;"⟩, Cond.instanceMethod ⟨"java/lang/Object", "clone", "()Ljava/lang/Object;"⟩, Cond.selects "[I" ⟨"[I", "clone", "()Ljava/lang/Object;"⟩ ⟨"java/lang/Object", "clone", "()Ljava/lang/Object;"⟩, Cond.classLink RX1 14 "[I", Cond.fieldLink RX1 18 "MeshLamps$Lamp" "settings" "[I", Cond.arrayClass .int, Cond.fieldLink RX1 23 "MeshLamps$Lamp" "greatestTaken" "[I", Cond.classLink RX1 26 RX3, Cond.instantiable RX3 2, Cond.initialized RX3, Cond.fieldLink RX1 31 "MeshLamps$Lamp" "mind" "LMeshLamps$Line;", Cond.fieldLink RX1 35 "MeshLamps$Lamp" "kept" "LMeshLamps$Line;", Cond.fieldLink RX1 38 "MeshLamps$Lamp" "links" "I", Cond.fieldLink RX1 42 "MeshLamps$Lamp" "light" "I", Cond.fieldLink RX1 45 "MeshLamps$Lamp" "sleeps" "Z", Cond.fieldLink RX1 49 "MeshLamps$Lamp" "friend" "I", Cond.fieldLink RX1 52 "MeshLamps$Lamp" "told" "I", Cond.fieldLink RX1 55 "MeshLamps$Lamp" "took" "I", Cond.fieldLink RX1 58 "MeshLamps$Lamp" "refusedAsOld" "I"]
def wsX1_init_r2 : List Cond := [Cond.fieldLink RX1 61 "MeshLamps$Lamp" "hadStrange" "I", Cond.fieldLink RX1 64 "MeshLamps$Lamp" "hadStale" "I", Cond.fieldLink RX1 67 "MeshLamps$Lamp" "hadNew" "I", Cond.fieldLink RX1 70 "MeshLamps$Lamp" "spoke" "I", Cond.methodLink RX1 28 yX3_init, Cond.instanceMethod yX3_init, Cond.code yX3_init cX3_init 2 none, Cond.methodLink RX3 1 objectInit, Cond.fieldLink RX3 7 "MeshLamps$Line" "size" "I", Cond.methodLink RX3 13 Lib.Math.max.name, Cond.static Lib.Math.max.name, Cond.initialized "java/lang/Math", Cond.code Lib.Math.max.name Lib.Math.max.code 2 (some .int), Cond.fieldLink RX3 19 "MeshLamps$Line" "letters" "[I"]
def wsX1_init : List Cond := .code yX1_init cX1_init 1 none :: ((wsX1_init_r1 ++ wsX1_init_r2) ++ wsX10 ++ wsX30)
def wsX3_become : List Cond := .code yX3_become cX3_become 2 none :: ([.fieldLink RX3 7 "MeshLamps$Line" "size" "I", .fieldLink RX3 19 "MeshLamps$Line" "letters" "[I", .methodLink RX3 27 Lib.Math.min.name, .static Lib.Math.min.name, .initialized "java/lang/Math", .code Lib.Math.min.name Lib.Math.min.code 2 (some .int), .methodLink RX3 30 arraycopyName, .native arraycopyName, .static arraycopyName, .initialized "java/lang/System"] ++ wsX30)
def wsX1_become_r1 : List Cond := [Cond.fieldLink RX1 18 "MeshLamps$Lamp" "settings" "[I", Cond.methodLink RX1 73 arraycopyName, Cond.native arraycopyName, Cond.static arraycopyName, Cond.initialized "java/lang/System", Cond.fieldLink RX1 23 "MeshLamps$Lamp" "greatestTaken" "[I", Cond.fieldLink RX1 31 "MeshLamps$Lamp" "mind" "LMeshLamps$Line;", Cond.fieldLink RX1 35 "MeshLamps$Lamp" "kept" "LMeshLamps$Line;", Cond.fieldLink RX1 38 "MeshLamps$Lamp" "links" "I", Cond.fieldLink RX1 42 "MeshLamps$Lamp" "light" "I", Cond.fieldLink RX1 45 "MeshLamps$Lamp" "sleeps" "Z", Cond.fieldLink RX1 49 "MeshLamps$Lamp" "friend" "I", Cond.fieldLink RX1 52 "MeshLamps$Lamp" "told" "I", Cond.fieldLink RX1 55 "MeshLamps$Lamp" "took" "I", Cond.fieldLink RX1 58 "MeshLamps$Lamp" "refusedAsOld" "I", Cond.fieldLink RX1 61 "MeshLamps$Lamp" "hadStrange" "I", Cond.fieldLink RX1 64 "MeshLamps$Lamp" "hadStale" "I", Cond.fieldLink RX1 67 "MeshLamps$Lamp" "hadNew" "I", Cond.fieldLink RX1 70 "MeshLamps$Lamp" "spoke" "I", Cond.methodLink RX1 79 yX3_become, Cond.instanceMethod yX3_become, Cond.selects RX3 yX3_become yX3_become, Cond.initialized RX3, Cond.code yX3_become cX3_become 2 none]
def wsX1_become_r2 : List Cond := [Cond.fieldLink RX3 7 "MeshLamps$Line" "size" "I", Cond.fieldLink RX3 19 "MeshLamps$Line" "letters" "[I", Cond.methodLink RX3 27 Lib.Math.min.name, Cond.static Lib.Math.min.name, Cond.initialized "java/lang/Math", Cond.code Lib.Math.min.name Lib.Math.min.code 2 (some .int), Cond.methodLink RX3 30 arraycopyName]
def wsX1_become : List Cond := .code yX1_become cX1_become 2 none :: ((wsX1_become_r1 ++ wsX1_become_r2) ++ wsX10 ++ wsX30)
def wsX2_init : List Cond := .code yX2_init cX2_init 1 none :: ([.methodLink RX2 3 objectInit, .instanceMethod objectInit, .code objectInit ⟨#[0xb1]⟩ 1 none, .arrayClass .int, .fieldLink RX2 11 "MeshLamps$Letters" "key" "[I", .fieldLink RX2 15 "MeshLamps$Letters" "aim" "[I", .fieldLink RX2 18 "MeshLamps$Letters" "value" "[I"] ++ wsX20)
def wsX2_place : List Cond := .code yX2_place cX2_place 2 (some .int) :: ([])
def wsX2_sourceOf : List Cond := .code yX2_sourceOf cX2_sourceOf 1 (some .int) :: ([])
def wsX2_numberOf : List Cond := .code yX2_numberOf cX2_numberOf 1 (some .int) :: ([])
def wsX2_write : List Cond := .code yX2_write cX2_write 5 none :: ([.fieldLink RX2 11 "MeshLamps$Letters" "key" "[I", .fieldLink RX2 15 "MeshLamps$Letters" "aim" "[I", .fieldLink RX2 18 "MeshLamps$Letters" "value" "[I"] ++ wsX20)
def wsX2_become : List Cond := .code yX2_become cX2_become 2 none :: ([.fieldLink RX2 11 "MeshLamps$Letters" "key" "[I", .methodLink RX2 21 arraycopyName, .native arraycopyName, .static arraycopyName, .initialized "java/lang/System", .fieldLink RX2 15 "MeshLamps$Letters" "aim" "[I", .fieldLink RX2 18 "MeshLamps$Letters" "value" "[I"] ++ wsX20)
def wsX3_holds : List Cond := .code yX3_holds cX3_holds 3 (some .boolean) :: ([.fieldLink RX3 7 "MeshLamps$Line" "size" "I", .fieldLink RX3 19 "MeshLamps$Line" "letters" "[I"] ++ wsX30)
def wsX3_dropOldest : List Cond := .code yX3_dropOldest cX3_dropOldest 5 none :: ([.fieldLink RX3 7 "MeshLamps$Line" "size" "I", .fieldLink RX3 19 "MeshLamps$Line" "letters" "[I"] ++ wsX30)
def wsX3_add : List Cond := .code yX3_add cX3_add 3 none :: ([.fieldLink RX3 7 "MeshLamps$Line" "size" "I", .fieldLink RX3 19 "MeshLamps$Line" "letters" "[I", .methodLink RX3 23 yX3_dropOldest, .instanceMethod yX3_dropOldest, .selects RX3 yX3_dropOldest yX3_dropOldest, .initialized RX3, .code yX3_dropOldest cX3_dropOldest 5 none] ++ wsX30)
def wsX4_init_r1 : List Cond := [Cond.methodLink RX4 3 objectInit, Cond.instanceMethod objectInit, Cond.code objectInit ⟨#[0xb1]⟩ 1 none, Cond.classLink RX4 9 RX1, Cond.fieldLink RX4 11 "MeshLamps$Mesh" "lamps" "[LMeshLamps$Lamp;", Cond.classLink RX4 17 RX2, Cond.instantiable RX2 3, Cond.initialized RX2, Cond.fieldLink RX4 20 "MeshLamps$Mesh" "letters" "LMeshLamps$Letters;", Cond.classLink RX4 24 RX0, Cond.instantiable RX0 5, Cond.initialized RX0, Cond.fieldLink RX4 27 "MeshLamps$Mesh" "air" "LMeshLamps$Air;", Cond.fieldLink RX4 31 "MeshLamps$Mesh" "tick" "I", Cond.fieldLink RX4 35 "MeshLamps$Mesh" "key" "I", Cond.fieldLink RX4 38 "MeshLamps$Mesh" "phase" "I", Cond.fieldLink RX4 41 "MeshLamps$Mesh" "haveKey" "I", Cond.fieldLink RX4 44 "MeshLamps$Mesh" "haveNext" "I", Cond.fieldLink RX4 47 "MeshLamps$Mesh" "spoken" "I", Cond.fieldLink RX4 50 "MeshLamps$Mesh" "lostAsFull" "I", Cond.fieldLink RX4 53 "MeshLamps$Mesh" "lostAsleep" "I", Cond.instantiable RX1 15, Cond.initialized RX1, Cond.instanceMethod yX2_init]
def wsX4_init_r2 : List Cond := [Cond.code yX2_init cX2_init 1 none, Cond.methodLink RX2 3 objectInit, Cond.arrayClass .int, Cond.fieldLink RX2 11 "MeshLamps$Letters" "key" "[I", Cond.fieldLink RX2 15 "MeshLamps$Letters" "aim" "[I", Cond.fieldLink RX2 18 "MeshLamps$Letters" "value" "[I", Cond.instanceMethod yX0_init, Cond.code yX0_init cX0_init 1 none, Cond.methodLink RX0 3 objectInit, Cond.fieldLink RX0 9 "MeshLamps$Air" "speaker" "[I", Cond.fieldLink RX0 15 "MeshLamps$Air" "tick" "[I", Cond.fieldLink RX0 18 "MeshLamps$Air" "letter" "[I", Cond.fieldLink RX0 21 "MeshLamps$Air" "steps" "[I", Cond.fieldLink RX0 24 "MeshLamps$Air" "size" "I", Cond.instanceMethod yX1_init, Cond.code yX1_init cX1_init 1 none, Cond.methodLink RX1 3 objectInit, Cond.methodLink RX1 13 ⟨"[I", "clone", "()Ljava/lang/Object;"⟩, Cond.sameMethod "[I" "java/lang/Object" "clone" "()Ljava/lang/Object;", Cond.native ⟨"java/lang/Object", "clone", "()Ljava/lang/Object;"⟩, Cond.instanceMethod ⟨"java/lang/Object", "clone", "()Ljava/lang/Object;"⟩, Cond.selects "[I" ⟨"[I", "clone", "()Ljava/lang/Object;"⟩ ⟨"java/lang/Object", "clone", "()Ljava/lang/Object;"⟩, Cond.classLink RX1 14 "[I", Cond.fieldLink RX1 18 "MeshLamps$Lamp" "settings" "[I"]
def wsX4_init_r3 : List Cond := [Cond.fieldLink RX1 23 "MeshLamps$Lamp" "greatestTaken" "[I", Cond.classLink RX1 26 RX3, Cond.instantiable RX3 2, Cond.initialized RX3, Cond.fieldLink RX1 31 "MeshLamps$Lamp" "mind" "LMeshLamps$Line;", Cond.fieldLink RX1 35 "MeshLamps$Lamp" "kept" "LMeshLamps$Line;", Cond.fieldLink RX1 38 "MeshLamps$Lamp" "links" "I", Cond.fieldLink RX1 42 "MeshLamps$Lamp" "light" "I", Cond.fieldLink RX1 45 "MeshLamps$Lamp" "sleeps" "Z", Cond.fieldLink RX1 49 "MeshLamps$Lamp" "friend" "I", Cond.fieldLink RX1 52 "MeshLamps$Lamp" "told" "I", Cond.fieldLink RX1 55 "MeshLamps$Lamp" "took" "I", Cond.fieldLink RX1 58 "MeshLamps$Lamp" "refusedAsOld" "I", Cond.fieldLink RX1 61 "MeshLamps$Lamp" "hadStrange" "I", Cond.fieldLink RX1 64 "MeshLamps$Lamp" "hadStale" "I", Cond.fieldLink RX1 67 "MeshLamps$Lamp" "hadNew" "I", Cond.fieldLink RX1 70 "MeshLamps$Lamp" "spoke" "I", Cond.methodLink RX1 28 yX3_init, Cond.instanceMethod yX3_init, Cond.code yX3_init cX3_init 2 none, Cond.methodLink RX3 1 objectInit, Cond.fieldLink RX3 7 "MeshLamps$Line" "size" "I", Cond.methodLink RX3 13 Lib.Math.max.name, Cond.static Lib.Math.max.name]
def wsX4_init_r4 : List Cond := [Cond.initialized "java/lang/Math", Cond.code Lib.Math.max.name Lib.Math.max.code 2 (some .int), Cond.fieldLink RX3 19 "MeshLamps$Line" "letters" "[I"]
def wsX4_init : List Cond := .code yX4_init cX4_init 2 none :: ((wsX4_init_r1 ++ (wsX4_init_r2 ++ (wsX4_init_r3 ++ wsX4_init_r4))) ++ wsX40 ++ wsX20 ++ wsX00 ++ wsX10 ++ wsX30)
def wsX4_become_r1 : List Cond := [Cond.fieldLink RX4 11 "MeshLamps$Mesh" "lamps" "[LMeshLamps$Lamp;", Cond.fieldLink RX4 20 "MeshLamps$Mesh" "letters" "LMeshLamps$Letters;", Cond.fieldLink RX4 27 "MeshLamps$Mesh" "air" "LMeshLamps$Air;", Cond.fieldLink RX4 31 "MeshLamps$Mesh" "tick" "I", Cond.fieldLink RX4 35 "MeshLamps$Mesh" "key" "I", Cond.fieldLink RX4 38 "MeshLamps$Mesh" "phase" "I", Cond.fieldLink RX4 41 "MeshLamps$Mesh" "haveKey" "I", Cond.fieldLink RX4 44 "MeshLamps$Mesh" "haveNext" "I", Cond.fieldLink RX4 47 "MeshLamps$Mesh" "spoken" "I", Cond.fieldLink RX4 50 "MeshLamps$Mesh" "lostAsFull" "I", Cond.fieldLink RX4 53 "MeshLamps$Mesh" "lostAsleep" "I", Cond.methodLink RX4 57 yX1_become, Cond.instanceMethod yX1_become, Cond.selects RX1 yX1_become yX1_become, Cond.initialized RX1, Cond.code yX1_become cX1_become 2 none, Cond.fieldLink RX1 18 "MeshLamps$Lamp" "settings" "[I", Cond.methodLink RX1 73 arraycopyName, Cond.native arraycopyName, Cond.static arraycopyName, Cond.initialized "java/lang/System", Cond.fieldLink RX1 23 "MeshLamps$Lamp" "greatestTaken" "[I", Cond.fieldLink RX1 31 "MeshLamps$Lamp" "mind" "LMeshLamps$Line;", Cond.fieldLink RX1 35 "MeshLamps$Lamp" "kept" "LMeshLamps$Line;"]
def wsX4_become_r2 : List Cond := [Cond.fieldLink RX1 38 "MeshLamps$Lamp" "links" "I", Cond.fieldLink RX1 42 "MeshLamps$Lamp" "light" "I", Cond.fieldLink RX1 45 "MeshLamps$Lamp" "sleeps" "Z", Cond.fieldLink RX1 49 "MeshLamps$Lamp" "friend" "I", Cond.fieldLink RX1 52 "MeshLamps$Lamp" "told" "I", Cond.fieldLink RX1 55 "MeshLamps$Lamp" "took" "I", Cond.fieldLink RX1 58 "MeshLamps$Lamp" "refusedAsOld" "I", Cond.fieldLink RX1 61 "MeshLamps$Lamp" "hadStrange" "I", Cond.fieldLink RX1 64 "MeshLamps$Lamp" "hadStale" "I", Cond.fieldLink RX1 67 "MeshLamps$Lamp" "hadNew" "I", Cond.fieldLink RX1 70 "MeshLamps$Lamp" "spoke" "I", Cond.methodLink RX1 79 yX3_become, Cond.instanceMethod yX3_become, Cond.selects RX3 yX3_become yX3_become, Cond.initialized RX3, Cond.code yX3_become cX3_become 2 none, Cond.fieldLink RX3 7 "MeshLamps$Line" "size" "I", Cond.fieldLink RX3 19 "MeshLamps$Line" "letters" "[I", Cond.methodLink RX3 27 Lib.Math.min.name, Cond.static Lib.Math.min.name, Cond.initialized "java/lang/Math", Cond.code Lib.Math.min.name Lib.Math.min.code 2 (some .int), Cond.methodLink RX3 30 arraycopyName, Cond.methodLink RX4 61 yX2_become]
def wsX4_become_r3 : List Cond := [Cond.instanceMethod yX2_become, Cond.selects RX2 yX2_become yX2_become, Cond.initialized RX2, Cond.code yX2_become cX2_become 2 none, Cond.fieldLink RX2 11 "MeshLamps$Letters" "key" "[I", Cond.methodLink RX2 21 arraycopyName, Cond.fieldLink RX2 15 "MeshLamps$Letters" "aim" "[I", Cond.fieldLink RX2 18 "MeshLamps$Letters" "value" "[I", Cond.methodLink RX4 64 yX0_become, Cond.instanceMethod yX0_become, Cond.selects RX0 yX0_become yX0_become, Cond.initialized RX0, Cond.code yX0_become cX0_become 2 none, Cond.fieldLink RX0 24 "MeshLamps$Air" "size" "I", Cond.fieldLink RX0 9 "MeshLamps$Air" "speaker" "[I", Cond.methodLink RX0 32 arraycopyName, Cond.fieldLink RX0 15 "MeshLamps$Air" "tick" "[I", Cond.fieldLink RX0 18 "MeshLamps$Air" "letter" "[I", Cond.fieldLink RX0 21 "MeshLamps$Air" "steps" "[I"]
def wsX4_become : List Cond := .code yX4_become cX4_become 3 none :: ((wsX4_become_r1 ++ (wsX4_become_r2 ++ wsX4_become_r3)) ++ wsX40 ++ wsX10 ++ wsX30 ++ wsX20 ++ wsX00)
def wsX4_nextPhase : List Cond := .code yX4_nextPhase cX4_nextPhase 1 none :: ([.fieldLink RX4 38 "MeshLamps$Mesh" "phase" "I", .fieldLink RX4 35 "MeshLamps$Mesh" "key" "I", .fieldLink RX4 44 "MeshLamps$Mesh" "haveNext" "I", .fieldLink RX4 41 "MeshLamps$Mesh" "haveKey" "I"] ++ wsX40)
def wsX5_isIn : List Cond := .code yX5_isIn cX5_isIn 2 (some .boolean) :: ([])
def wsX4_tellsByNext : List Cond := .code yX4_tellsByNext cX4_tellsByNext 2 (some .boolean) :: ([.fieldLink RX4 38 "MeshLamps$Mesh" "phase" "I", .fieldLink RX4 44 "MeshLamps$Mesh" "haveNext" "I", .static yX5_isIn, .initialized RX5, .code yX5_isIn cX5_isIn 2 (some .boolean)] ++ wsX40)
def wsX4_canTell : List Cond := .code yX4_canTell cX4_canTell 2 (some .boolean) :: ([.fieldLink RX4 41 "MeshLamps$Mesh" "haveKey" "I", .methodLink RX4 71 yX4_tellsByNext, .instanceMethod yX4_tellsByNext, .selects RX4 yX4_tellsByNext yX4_tellsByNext, .initialized RX4, .code yX4_tellsByNext cX4_tellsByNext 2 (some .boolean), .fieldLink RX4 38 "MeshLamps$Mesh" "phase" "I", .fieldLink RX4 44 "MeshLamps$Mesh" "haveNext" "I", .static yX5_isIn, .initialized RX5, .code yX5_isIn cX5_isIn 2 (some .boolean)] ++ wsX40)
def wsX4_keyToTell : List Cond := .code yX4_keyToTell cX4_keyToTell 2 (some .int) :: ([.fieldLink RX4 35 "MeshLamps$Mesh" "key" "I", .methodLink RX4 71 yX4_tellsByNext, .instanceMethod yX4_tellsByNext, .selects RX4 yX4_tellsByNext yX4_tellsByNext, .initialized RX4, .code yX4_tellsByNext cX4_tellsByNext 2 (some .boolean), .fieldLink RX4 38 "MeshLamps$Mesh" "phase" "I", .fieldLink RX4 44 "MeshLamps$Mesh" "haveNext" "I", .static yX5_isIn, .initialized RX5, .code yX5_isIn cX5_isIn 2 (some .boolean)] ++ wsX40)
def wsX4_knows : List Cond := .code yX4_knows cX4_knows 4 (some .boolean) :: ([.fieldLink RX4 20 "MeshLamps$Mesh" "letters" "LMeshLamps$Letters;", .fieldLink RX4 75 "MeshLamps$Letters" "key" "[I", .fieldLink RX4 35 "MeshLamps$Mesh" "key" "I", .fieldLink RX4 41 "MeshLamps$Mesh" "haveKey" "I", .fieldLink RX4 44 "MeshLamps$Mesh" "haveNext" "I", .static yX5_isIn, .initialized RX5, .code yX5_isIn cX5_isIn 2 (some .boolean)] ++ wsX40 ++ wsX20)
def wsX4_isMeant : List Cond := .code yX4_isMeant cX4_isMeant 4 (some .boolean) :: ([.fieldLink RX4 20 "MeshLamps$Mesh" "letters" "LMeshLamps$Letters;", .fieldLink RX4 78 "MeshLamps$Letters" "aim" "[I", .fieldLink RX4 11 "MeshLamps$Mesh" "lamps" "[LMeshLamps$Lamp;", .fieldLink RX4 81 "MeshLamps$Lamp" "settings" "[I", .static yX5_isIn, .initialized RX5, .code yX5_isIn cX5_isIn 2 (some .boolean)] ++ wsX40 ++ wsX20 ++ wsX10)
def wsX5_changed : List Cond := .code yX5_changed cX5_changed 3 (some .int) :: ([])
def wsX4_take : List Cond := .code yX4_take cX4_take 5 none :: ([.fieldLink RX4 184 "MeshLamps$Lamp" "greatestTaken" "[I", .fieldLink RX4 187 "MeshLamps$Lamp" "refusedAsOld" "I", .fieldLink RX4 20 "MeshLamps$Mesh" "letters" "LMeshLamps$Letters;", .fieldLink RX4 190 "MeshLamps$Letters" "value" "[I", .fieldLink RX4 193 "MeshLamps$Lamp" "light" "I", .fieldLink RX4 196 "MeshLamps$Lamp" "took" "I", .methodLink RX4 151 yX2_sourceOf, .static yX2_sourceOf, .initialized RX2, .code yX2_sourceOf cX2_sourceOf 1 (some .int), .methodLink RX4 181 yX2_numberOf, .static yX2_numberOf, .code yX2_numberOf cX2_numberOf 1 (some .int)] ++ wsX10 ++ wsX40 ++ wsX20)
def wsX4_keepForSleepers_r1 : List Cond := [Cond.fieldLink RX4 11 "MeshLamps$Mesh" "lamps" "[LMeshLamps$Lamp;", Cond.fieldLink RX4 109 "MeshLamps$Lamp" "sleeps" "Z", Cond.fieldLink RX4 168 "MeshLamps$Lamp" "friend" "I", Cond.fieldLink RX4 171 "MeshLamps$Lamp" "kept" "LMeshLamps$Line;", Cond.methodLink RX4 155 yX4_isMeant, Cond.instanceMethod yX4_isMeant, Cond.selects RX4 yX4_isMeant yX4_isMeant, Cond.initialized RX4, Cond.code yX4_isMeant cX4_isMeant 4 (some .boolean), Cond.fieldLink RX4 20 "MeshLamps$Mesh" "letters" "LMeshLamps$Letters;", Cond.fieldLink RX4 78 "MeshLamps$Letters" "aim" "[I", Cond.fieldLink RX4 81 "MeshLamps$Lamp" "settings" "[I", Cond.static yX5_isIn, Cond.initialized RX5, Cond.code yX5_isIn cX5_isIn 2 (some .boolean), Cond.methodLink RX4 151 yX2_sourceOf, Cond.static yX2_sourceOf, Cond.initialized RX2, Cond.code yX2_sourceOf cX2_sourceOf 1 (some .int), Cond.methodLink RX4 147 yX3_add, Cond.instanceMethod yX3_add, Cond.selects RX3 yX3_add yX3_add, Cond.initialized RX3, Cond.code yX3_add cX3_add 3 none]
def wsX4_keepForSleepers_r2 : List Cond := [Cond.fieldLink RX3 7 "MeshLamps$Line" "size" "I", Cond.fieldLink RX3 19 "MeshLamps$Line" "letters" "[I", Cond.methodLink RX3 23 yX3_dropOldest, Cond.instanceMethod yX3_dropOldest, Cond.selects RX3 yX3_dropOldest yX3_dropOldest, Cond.code yX3_dropOldest cX3_dropOldest 5 none]
def wsX4_keepForSleepers : List Cond := .code yX4_keepForSleepers cX4_keepForSleepers 5 none :: ((wsX4_keepForSleepers_r1 ++ wsX4_keepForSleepers_r2) ++ wsX40 ++ wsX10 ++ wsX20 ++ wsX30)
def wsX4_passOn : List Cond := .code yX4_passOn cX4_passOn 4 none :: ([.fieldLink RX4 27 "MeshLamps$Mesh" "air" "LMeshLamps$Air;", .fieldLink RX4 50 "MeshLamps$Mesh" "lostAsFull" "I", .fieldLink RX4 31 "MeshLamps$Mesh" "tick" "I", .fieldLink RX4 11 "MeshLamps$Mesh" "lamps" "[LMeshLamps$Lamp;", .fieldLink RX4 81 "MeshLamps$Lamp" "settings" "[I", .methodLink RX4 174 yX0_isFull, .instanceMethod yX0_isFull, .selects RX0 yX0_isFull yX0_isFull, .initialized RX0, .code yX0_isFull cX0_isFull 1 (some .boolean), .fieldLink RX0 24 "MeshLamps$Air" "size" "I", .methodLink RX4 178 yX0_add, .instanceMethod yX0_add, .selects RX0 yX0_add yX0_add, .code yX0_add cX0_add 5 none, .fieldLink RX0 9 "MeshLamps$Air" "speaker" "[I", .fieldLink RX0 15 "MeshLamps$Air" "tick" "[I", .fieldLink RX0 18 "MeshLamps$Air" "letter" "[I", .fieldLink RX0 21 "MeshLamps$Air" "steps" "[I", .methodLink RX0 28 yX0_isFull] ++ wsX40 ++ wsX10 ++ wsX00)
def wsX4_hear_r1 : List Cond := [Cond.fieldLink RX4 11 "MeshLamps$Mesh" "lamps" "[LMeshLamps$Lamp;", Cond.fieldLink RX4 129 "MeshLamps$Lamp" "hadStrange" "I", Cond.fieldLink RX4 132 "MeshLamps$Lamp" "mind" "LMeshLamps$Line;", Cond.fieldLink RX4 141 "MeshLamps$Lamp" "hadStale" "I", Cond.fieldLink RX4 144 "MeshLamps$Lamp" "hadNew" "I", Cond.fieldLink RX4 81 "MeshLamps$Lamp" "settings" "[I", Cond.methodLink RX4 126 yX4_knows, Cond.instanceMethod yX4_knows, Cond.selects RX4 yX4_knows yX4_knows, Cond.initialized RX4, Cond.code yX4_knows cX4_knows 4 (some .boolean), Cond.fieldLink RX4 20 "MeshLamps$Mesh" "letters" "LMeshLamps$Letters;", Cond.fieldLink RX4 75 "MeshLamps$Letters" "key" "[I", Cond.fieldLink RX4 35 "MeshLamps$Mesh" "key" "I", Cond.fieldLink RX4 41 "MeshLamps$Mesh" "haveKey" "I", Cond.fieldLink RX4 44 "MeshLamps$Mesh" "haveNext" "I", Cond.static yX5_isIn, Cond.initialized RX5, Cond.code yX5_isIn cX5_isIn 2 (some .boolean), Cond.methodLink RX4 136 yX3_holds, Cond.instanceMethod yX3_holds, Cond.selects RX3 yX3_holds yX3_holds, Cond.initialized RX3, Cond.code yX3_holds cX3_holds 3 (some .boolean)]
def wsX4_hear_r2 : List Cond := [Cond.fieldLink RX3 7 "MeshLamps$Line" "size" "I", Cond.fieldLink RX3 19 "MeshLamps$Line" "letters" "[I", Cond.methodLink RX4 147 yX3_add, Cond.instanceMethod yX3_add, Cond.selects RX3 yX3_add yX3_add, Cond.code yX3_add cX3_add 3 none, Cond.methodLink RX3 23 yX3_dropOldest, Cond.instanceMethod yX3_dropOldest, Cond.selects RX3 yX3_dropOldest yX3_dropOldest, Cond.code yX3_dropOldest cX3_dropOldest 5 none, Cond.methodLink RX4 151 yX2_sourceOf, Cond.static yX2_sourceOf, Cond.initialized RX2, Cond.code yX2_sourceOf cX2_sourceOf 1 (some .int), Cond.methodLink RX4 155 yX4_isMeant, Cond.instanceMethod yX4_isMeant, Cond.selects RX4 yX4_isMeant yX4_isMeant, Cond.code yX4_isMeant cX4_isMeant 4 (some .boolean), Cond.fieldLink RX4 78 "MeshLamps$Letters" "aim" "[I", Cond.methodLink RX4 158 yX4_take, Cond.instanceMethod yX4_take, Cond.selects RX4 yX4_take yX4_take, Cond.code yX4_take cX4_take 5 none, Cond.fieldLink RX4 184 "MeshLamps$Lamp" "greatestTaken" "[I"]
def wsX4_hear_r3 : List Cond := [Cond.fieldLink RX4 187 "MeshLamps$Lamp" "refusedAsOld" "I", Cond.fieldLink RX4 190 "MeshLamps$Letters" "value" "[I", Cond.fieldLink RX4 193 "MeshLamps$Lamp" "light" "I", Cond.fieldLink RX4 196 "MeshLamps$Lamp" "took" "I", Cond.methodLink RX4 181 yX2_numberOf, Cond.static yX2_numberOf, Cond.code yX2_numberOf cX2_numberOf 1 (some .int), Cond.methodLink RX4 162 yX4_keepForSleepers, Cond.instanceMethod yX4_keepForSleepers, Cond.selects RX4 yX4_keepForSleepers yX4_keepForSleepers, Cond.code yX4_keepForSleepers cX4_keepForSleepers 5 none, Cond.fieldLink RX4 109 "MeshLamps$Lamp" "sleeps" "Z", Cond.fieldLink RX4 168 "MeshLamps$Lamp" "friend" "I", Cond.fieldLink RX4 171 "MeshLamps$Lamp" "kept" "LMeshLamps$Line;", Cond.methodLink RX4 165 yX4_passOn, Cond.instanceMethod yX4_passOn, Cond.selects RX4 yX4_passOn yX4_passOn, Cond.code yX4_passOn cX4_passOn 4 none, Cond.fieldLink RX4 27 "MeshLamps$Mesh" "air" "LMeshLamps$Air;", Cond.fieldLink RX4 50 "MeshLamps$Mesh" "lostAsFull" "I", Cond.fieldLink RX4 31 "MeshLamps$Mesh" "tick" "I", Cond.methodLink RX4 174 yX0_isFull, Cond.instanceMethod yX0_isFull, Cond.selects RX0 yX0_isFull yX0_isFull]
def wsX4_hear_r4 : List Cond := [Cond.initialized RX0, Cond.code yX0_isFull cX0_isFull 1 (some .boolean), Cond.fieldLink RX0 24 "MeshLamps$Air" "size" "I", Cond.methodLink RX4 178 yX0_add, Cond.instanceMethod yX0_add, Cond.selects RX0 yX0_add yX0_add, Cond.code yX0_add cX0_add 5 none, Cond.fieldLink RX0 9 "MeshLamps$Air" "speaker" "[I", Cond.fieldLink RX0 15 "MeshLamps$Air" "tick" "[I", Cond.fieldLink RX0 18 "MeshLamps$Air" "letter" "[I", Cond.fieldLink RX0 21 "MeshLamps$Air" "steps" "[I", Cond.methodLink RX0 28 yX0_isFull]
def wsX4_hear : List Cond := .code yX4_hear cX4_hear 5 none :: ((wsX4_hear_r1 ++ (wsX4_hear_r2 ++ (wsX4_hear_r3 ++ wsX4_hear_r4))) ++ wsX40 ++ wsX10 ++ wsX20 ++ wsX30 ++ wsX00)
def wsX4_speak_r1 : List Cond := [Cond.fieldLink RX4 11 "MeshLamps$Mesh" "lamps" "[LMeshLamps$Lamp;", Cond.fieldLink RX4 109 "MeshLamps$Lamp" "sleeps" "Z", Cond.fieldLink RX4 53 "MeshLamps$Mesh" "lostAsleep" "I", Cond.fieldLink RX4 47 "MeshLamps$Mesh" "spoken" "I", Cond.fieldLink RX4 113 "MeshLamps$Lamp" "spoke" "I", Cond.fieldLink RX4 116 "MeshLamps$Lamp" "links" "I", Cond.static yX5_changed, Cond.initialized RX5, Cond.code yX5_changed cX5_changed 3 (some .int), Cond.static yX5_isIn, Cond.code yX5_isIn cX5_isIn 2 (some .boolean), Cond.methodLink RX4 123 yX4_hear, Cond.instanceMethod yX4_hear, Cond.selects RX4 yX4_hear yX4_hear, Cond.initialized RX4, Cond.code yX4_hear cX4_hear 5 none, Cond.fieldLink RX4 129 "MeshLamps$Lamp" "hadStrange" "I", Cond.fieldLink RX4 132 "MeshLamps$Lamp" "mind" "LMeshLamps$Line;", Cond.fieldLink RX4 141 "MeshLamps$Lamp" "hadStale" "I", Cond.fieldLink RX4 144 "MeshLamps$Lamp" "hadNew" "I", Cond.fieldLink RX4 81 "MeshLamps$Lamp" "settings" "[I", Cond.methodLink RX4 126 yX4_knows, Cond.instanceMethod yX4_knows, Cond.selects RX4 yX4_knows yX4_knows]
def wsX4_speak_r2 : List Cond := [Cond.code yX4_knows cX4_knows 4 (some .boolean), Cond.fieldLink RX4 20 "MeshLamps$Mesh" "letters" "LMeshLamps$Letters;", Cond.fieldLink RX4 75 "MeshLamps$Letters" "key" "[I", Cond.fieldLink RX4 35 "MeshLamps$Mesh" "key" "I", Cond.fieldLink RX4 41 "MeshLamps$Mesh" "haveKey" "I", Cond.fieldLink RX4 44 "MeshLamps$Mesh" "haveNext" "I", Cond.methodLink RX4 136 yX3_holds, Cond.instanceMethod yX3_holds, Cond.selects RX3 yX3_holds yX3_holds, Cond.initialized RX3, Cond.code yX3_holds cX3_holds 3 (some .boolean), Cond.fieldLink RX3 7 "MeshLamps$Line" "size" "I", Cond.fieldLink RX3 19 "MeshLamps$Line" "letters" "[I", Cond.methodLink RX4 147 yX3_add, Cond.instanceMethod yX3_add, Cond.selects RX3 yX3_add yX3_add, Cond.code yX3_add cX3_add 3 none, Cond.methodLink RX3 23 yX3_dropOldest, Cond.instanceMethod yX3_dropOldest, Cond.selects RX3 yX3_dropOldest yX3_dropOldest, Cond.code yX3_dropOldest cX3_dropOldest 5 none, Cond.methodLink RX4 151 yX2_sourceOf, Cond.static yX2_sourceOf, Cond.initialized RX2]
def wsX4_speak_r3 : List Cond := [Cond.code yX2_sourceOf cX2_sourceOf 1 (some .int), Cond.methodLink RX4 155 yX4_isMeant, Cond.instanceMethod yX4_isMeant, Cond.selects RX4 yX4_isMeant yX4_isMeant, Cond.code yX4_isMeant cX4_isMeant 4 (some .boolean), Cond.fieldLink RX4 78 "MeshLamps$Letters" "aim" "[I", Cond.methodLink RX4 158 yX4_take, Cond.instanceMethod yX4_take, Cond.selects RX4 yX4_take yX4_take, Cond.code yX4_take cX4_take 5 none, Cond.fieldLink RX4 184 "MeshLamps$Lamp" "greatestTaken" "[I", Cond.fieldLink RX4 187 "MeshLamps$Lamp" "refusedAsOld" "I", Cond.fieldLink RX4 190 "MeshLamps$Letters" "value" "[I", Cond.fieldLink RX4 193 "MeshLamps$Lamp" "light" "I", Cond.fieldLink RX4 196 "MeshLamps$Lamp" "took" "I", Cond.methodLink RX4 181 yX2_numberOf, Cond.static yX2_numberOf, Cond.code yX2_numberOf cX2_numberOf 1 (some .int), Cond.methodLink RX4 162 yX4_keepForSleepers, Cond.instanceMethod yX4_keepForSleepers, Cond.selects RX4 yX4_keepForSleepers yX4_keepForSleepers, Cond.code yX4_keepForSleepers cX4_keepForSleepers 5 none, Cond.fieldLink RX4 168 "MeshLamps$Lamp" "friend" "I", Cond.fieldLink RX4 171 "MeshLamps$Lamp" "kept" "LMeshLamps$Line;"]
def wsX4_speak_r4 : List Cond := [Cond.methodLink RX4 165 yX4_passOn, Cond.instanceMethod yX4_passOn, Cond.selects RX4 yX4_passOn yX4_passOn, Cond.code yX4_passOn cX4_passOn 4 none, Cond.fieldLink RX4 27 "MeshLamps$Mesh" "air" "LMeshLamps$Air;", Cond.fieldLink RX4 50 "MeshLamps$Mesh" "lostAsFull" "I", Cond.fieldLink RX4 31 "MeshLamps$Mesh" "tick" "I", Cond.methodLink RX4 174 yX0_isFull, Cond.instanceMethod yX0_isFull, Cond.selects RX0 yX0_isFull yX0_isFull, Cond.initialized RX0, Cond.code yX0_isFull cX0_isFull 1 (some .boolean), Cond.fieldLink RX0 24 "MeshLamps$Air" "size" "I", Cond.methodLink RX4 178 yX0_add, Cond.instanceMethod yX0_add, Cond.selects RX0 yX0_add yX0_add, Cond.code yX0_add cX0_add 5 none, Cond.fieldLink RX0 9 "MeshLamps$Air" "speaker" "[I", Cond.fieldLink RX0 15 "MeshLamps$Air" "tick" "[I", Cond.fieldLink RX0 18 "MeshLamps$Air" "letter" "[I", Cond.fieldLink RX0 21 "MeshLamps$Air" "steps" "[I", Cond.methodLink RX0 28 yX0_isFull]
def wsX4_speak : List Cond := .code yX4_speak cX4_speak 9 none :: ((wsX4_speak_r1 ++ (wsX4_speak_r2 ++ (wsX4_speak_r3 ++ wsX4_speak_r4))) ++ wsX40 ++ wsX10 ++ wsX20 ++ wsX30 ++ wsX00)
def wsX4_speakFromAir_r1 : List Cond := [Cond.fieldLink RX4 27 "MeshLamps$Mesh" "air" "LMeshLamps$Air;", Cond.fieldLink RX4 93 "MeshLamps$Air" "speaker" "[I", Cond.fieldLink RX4 96 "MeshLamps$Air" "letter" "[I", Cond.fieldLink RX4 99 "MeshLamps$Air" "steps" "[I", Cond.methodLink RX4 102 yX0_dropAt, Cond.instanceMethod yX0_dropAt, Cond.selects RX0 yX0_dropAt yX0_dropAt, Cond.initialized RX0, Cond.code yX0_dropAt cX0_dropAt 3 none, Cond.fieldLink RX0 24 "MeshLamps$Air" "size" "I", Cond.fieldLink RX0 9 "MeshLamps$Air" "speaker" "[I", Cond.methodLink RX0 32 arraycopyName, Cond.native arraycopyName, Cond.static arraycopyName, Cond.initialized "java/lang/System", Cond.fieldLink RX0 15 "MeshLamps$Air" "tick" "[I", Cond.fieldLink RX0 18 "MeshLamps$Air" "letter" "[I", Cond.fieldLink RX0 21 "MeshLamps$Air" "steps" "[I", Cond.methodLink RX4 105 yX4_speak, Cond.instanceMethod yX4_speak, Cond.selects RX4 yX4_speak yX4_speak, Cond.initialized RX4, Cond.code yX4_speak cX4_speak 9 none, Cond.fieldLink RX4 11 "MeshLamps$Mesh" "lamps" "[LMeshLamps$Lamp;"]
def wsX4_speakFromAir_r2 : List Cond := [Cond.fieldLink RX4 109 "MeshLamps$Lamp" "sleeps" "Z", Cond.fieldLink RX4 53 "MeshLamps$Mesh" "lostAsleep" "I", Cond.fieldLink RX4 47 "MeshLamps$Mesh" "spoken" "I", Cond.fieldLink RX4 113 "MeshLamps$Lamp" "spoke" "I", Cond.fieldLink RX4 116 "MeshLamps$Lamp" "links" "I", Cond.static yX5_changed, Cond.initialized RX5, Cond.code yX5_changed cX5_changed 3 (some .int), Cond.static yX5_isIn, Cond.code yX5_isIn cX5_isIn 2 (some .boolean), Cond.methodLink RX4 123 yX4_hear, Cond.instanceMethod yX4_hear, Cond.selects RX4 yX4_hear yX4_hear, Cond.code yX4_hear cX4_hear 5 none, Cond.fieldLink RX4 129 "MeshLamps$Lamp" "hadStrange" "I", Cond.fieldLink RX4 132 "MeshLamps$Lamp" "mind" "LMeshLamps$Line;", Cond.fieldLink RX4 141 "MeshLamps$Lamp" "hadStale" "I", Cond.fieldLink RX4 144 "MeshLamps$Lamp" "hadNew" "I", Cond.fieldLink RX4 81 "MeshLamps$Lamp" "settings" "[I", Cond.methodLink RX4 126 yX4_knows, Cond.instanceMethod yX4_knows, Cond.selects RX4 yX4_knows yX4_knows, Cond.code yX4_knows cX4_knows 4 (some .boolean), Cond.fieldLink RX4 20 "MeshLamps$Mesh" "letters" "LMeshLamps$Letters;"]
def wsX4_speakFromAir_r3 : List Cond := [Cond.fieldLink RX4 75 "MeshLamps$Letters" "key" "[I", Cond.fieldLink RX4 35 "MeshLamps$Mesh" "key" "I", Cond.fieldLink RX4 41 "MeshLamps$Mesh" "haveKey" "I", Cond.fieldLink RX4 44 "MeshLamps$Mesh" "haveNext" "I", Cond.methodLink RX4 136 yX3_holds, Cond.instanceMethod yX3_holds, Cond.selects RX3 yX3_holds yX3_holds, Cond.initialized RX3, Cond.code yX3_holds cX3_holds 3 (some .boolean), Cond.fieldLink RX3 7 "MeshLamps$Line" "size" "I", Cond.fieldLink RX3 19 "MeshLamps$Line" "letters" "[I", Cond.methodLink RX4 147 yX3_add, Cond.instanceMethod yX3_add, Cond.selects RX3 yX3_add yX3_add, Cond.code yX3_add cX3_add 3 none, Cond.methodLink RX3 23 yX3_dropOldest, Cond.instanceMethod yX3_dropOldest, Cond.selects RX3 yX3_dropOldest yX3_dropOldest, Cond.code yX3_dropOldest cX3_dropOldest 5 none, Cond.methodLink RX4 151 yX2_sourceOf, Cond.static yX2_sourceOf, Cond.initialized RX2, Cond.code yX2_sourceOf cX2_sourceOf 1 (some .int), Cond.methodLink RX4 155 yX4_isMeant]
def wsX4_speakFromAir_r4 : List Cond := [Cond.instanceMethod yX4_isMeant, Cond.selects RX4 yX4_isMeant yX4_isMeant, Cond.code yX4_isMeant cX4_isMeant 4 (some .boolean), Cond.fieldLink RX4 78 "MeshLamps$Letters" "aim" "[I", Cond.methodLink RX4 158 yX4_take, Cond.instanceMethod yX4_take, Cond.selects RX4 yX4_take yX4_take, Cond.code yX4_take cX4_take 5 none, Cond.fieldLink RX4 184 "MeshLamps$Lamp" "greatestTaken" "[I", Cond.fieldLink RX4 187 "MeshLamps$Lamp" "refusedAsOld" "I", Cond.fieldLink RX4 190 "MeshLamps$Letters" "value" "[I", Cond.fieldLink RX4 193 "MeshLamps$Lamp" "light" "I", Cond.fieldLink RX4 196 "MeshLamps$Lamp" "took" "I", Cond.methodLink RX4 181 yX2_numberOf, Cond.static yX2_numberOf, Cond.code yX2_numberOf cX2_numberOf 1 (some .int), Cond.methodLink RX4 162 yX4_keepForSleepers, Cond.instanceMethod yX4_keepForSleepers, Cond.selects RX4 yX4_keepForSleepers yX4_keepForSleepers, Cond.code yX4_keepForSleepers cX4_keepForSleepers 5 none, Cond.fieldLink RX4 168 "MeshLamps$Lamp" "friend" "I", Cond.fieldLink RX4 171 "MeshLamps$Lamp" "kept" "LMeshLamps$Line;", Cond.methodLink RX4 165 yX4_passOn, Cond.instanceMethod yX4_passOn]
def wsX4_speakFromAir_r5 : List Cond := [Cond.selects RX4 yX4_passOn yX4_passOn, Cond.code yX4_passOn cX4_passOn 4 none, Cond.fieldLink RX4 50 "MeshLamps$Mesh" "lostAsFull" "I", Cond.fieldLink RX4 31 "MeshLamps$Mesh" "tick" "I", Cond.methodLink RX4 174 yX0_isFull, Cond.instanceMethod yX0_isFull, Cond.selects RX0 yX0_isFull yX0_isFull, Cond.code yX0_isFull cX0_isFull 1 (some .boolean), Cond.methodLink RX4 178 yX0_add, Cond.instanceMethod yX0_add, Cond.selects RX0 yX0_add yX0_add, Cond.code yX0_add cX0_add 5 none, Cond.methodLink RX0 28 yX0_isFull]
def wsX4_speakFromAir : List Cond := .code yX4_speakFromAir cX4_speakFromAir 5 none :: ((wsX4_speakFromAir_r1 ++ (wsX4_speakFromAir_r2 ++ (wsX4_speakFromAir_r3 ++ (wsX4_speakFromAir_r4 ++ wsX4_speakFromAir_r5)))) ++ wsX40 ++ wsX00 ++ wsX10 ++ wsX20 ++ wsX30)
def wsX4_passTick_r1 : List Cond := [Cond.fieldLink RX4 31 "MeshLamps$Mesh" "tick" "I", Cond.fieldLink RX4 27 "MeshLamps$Mesh" "air" "LMeshLamps$Air;", Cond.fieldLink RX4 84 "MeshLamps$Air" "size" "I", Cond.fieldLink RX4 87 "MeshLamps$Air" "tick" "[I", Cond.methodLink RX4 89 yX4_speakFromAir, Cond.instanceMethod yX4_speakFromAir, Cond.selects RX4 yX4_speakFromAir yX4_speakFromAir, Cond.initialized RX4, Cond.code yX4_speakFromAir cX4_speakFromAir 5 none, Cond.fieldLink RX4 93 "MeshLamps$Air" "speaker" "[I", Cond.fieldLink RX4 96 "MeshLamps$Air" "letter" "[I", Cond.fieldLink RX4 99 "MeshLamps$Air" "steps" "[I", Cond.methodLink RX4 102 yX0_dropAt, Cond.instanceMethod yX0_dropAt, Cond.selects RX0 yX0_dropAt yX0_dropAt, Cond.initialized RX0, Cond.code yX0_dropAt cX0_dropAt 3 none, Cond.fieldLink RX0 24 "MeshLamps$Air" "size" "I", Cond.fieldLink RX0 9 "MeshLamps$Air" "speaker" "[I", Cond.methodLink RX0 32 arraycopyName, Cond.native arraycopyName, Cond.static arraycopyName, Cond.initialized "java/lang/System", Cond.fieldLink RX0 15 "MeshLamps$Air" "tick" "[I"]
def wsX4_passTick_r2 : List Cond := [Cond.fieldLink RX0 18 "MeshLamps$Air" "letter" "[I", Cond.fieldLink RX0 21 "MeshLamps$Air" "steps" "[I", Cond.methodLink RX4 105 yX4_speak, Cond.instanceMethod yX4_speak, Cond.selects RX4 yX4_speak yX4_speak, Cond.code yX4_speak cX4_speak 9 none, Cond.fieldLink RX4 11 "MeshLamps$Mesh" "lamps" "[LMeshLamps$Lamp;", Cond.fieldLink RX4 109 "MeshLamps$Lamp" "sleeps" "Z", Cond.fieldLink RX4 53 "MeshLamps$Mesh" "lostAsleep" "I", Cond.fieldLink RX4 47 "MeshLamps$Mesh" "spoken" "I", Cond.fieldLink RX4 113 "MeshLamps$Lamp" "spoke" "I", Cond.fieldLink RX4 116 "MeshLamps$Lamp" "links" "I", Cond.static yX5_changed, Cond.initialized RX5, Cond.code yX5_changed cX5_changed 3 (some .int), Cond.static yX5_isIn, Cond.code yX5_isIn cX5_isIn 2 (some .boolean), Cond.methodLink RX4 123 yX4_hear, Cond.instanceMethod yX4_hear, Cond.selects RX4 yX4_hear yX4_hear, Cond.code yX4_hear cX4_hear 5 none, Cond.fieldLink RX4 129 "MeshLamps$Lamp" "hadStrange" "I", Cond.fieldLink RX4 132 "MeshLamps$Lamp" "mind" "LMeshLamps$Line;", Cond.fieldLink RX4 141 "MeshLamps$Lamp" "hadStale" "I"]
def wsX4_passTick_r3 : List Cond := [Cond.fieldLink RX4 144 "MeshLamps$Lamp" "hadNew" "I", Cond.fieldLink RX4 81 "MeshLamps$Lamp" "settings" "[I", Cond.methodLink RX4 126 yX4_knows, Cond.instanceMethod yX4_knows, Cond.selects RX4 yX4_knows yX4_knows, Cond.code yX4_knows cX4_knows 4 (some .boolean), Cond.fieldLink RX4 20 "MeshLamps$Mesh" "letters" "LMeshLamps$Letters;", Cond.fieldLink RX4 75 "MeshLamps$Letters" "key" "[I", Cond.fieldLink RX4 35 "MeshLamps$Mesh" "key" "I", Cond.fieldLink RX4 41 "MeshLamps$Mesh" "haveKey" "I", Cond.fieldLink RX4 44 "MeshLamps$Mesh" "haveNext" "I", Cond.methodLink RX4 136 yX3_holds, Cond.instanceMethod yX3_holds, Cond.selects RX3 yX3_holds yX3_holds, Cond.initialized RX3, Cond.code yX3_holds cX3_holds 3 (some .boolean), Cond.fieldLink RX3 7 "MeshLamps$Line" "size" "I", Cond.fieldLink RX3 19 "MeshLamps$Line" "letters" "[I", Cond.methodLink RX4 147 yX3_add, Cond.instanceMethod yX3_add, Cond.selects RX3 yX3_add yX3_add, Cond.code yX3_add cX3_add 3 none, Cond.methodLink RX3 23 yX3_dropOldest, Cond.instanceMethod yX3_dropOldest]
def wsX4_passTick_r4 : List Cond := [Cond.selects RX3 yX3_dropOldest yX3_dropOldest, Cond.code yX3_dropOldest cX3_dropOldest 5 none, Cond.methodLink RX4 151 yX2_sourceOf, Cond.static yX2_sourceOf, Cond.initialized RX2, Cond.code yX2_sourceOf cX2_sourceOf 1 (some .int), Cond.methodLink RX4 155 yX4_isMeant, Cond.instanceMethod yX4_isMeant, Cond.selects RX4 yX4_isMeant yX4_isMeant, Cond.code yX4_isMeant cX4_isMeant 4 (some .boolean), Cond.fieldLink RX4 78 "MeshLamps$Letters" "aim" "[I", Cond.methodLink RX4 158 yX4_take, Cond.instanceMethod yX4_take, Cond.selects RX4 yX4_take yX4_take, Cond.code yX4_take cX4_take 5 none, Cond.fieldLink RX4 184 "MeshLamps$Lamp" "greatestTaken" "[I", Cond.fieldLink RX4 187 "MeshLamps$Lamp" "refusedAsOld" "I", Cond.fieldLink RX4 190 "MeshLamps$Letters" "value" "[I", Cond.fieldLink RX4 193 "MeshLamps$Lamp" "light" "I", Cond.fieldLink RX4 196 "MeshLamps$Lamp" "took" "I", Cond.methodLink RX4 181 yX2_numberOf, Cond.static yX2_numberOf, Cond.code yX2_numberOf cX2_numberOf 1 (some .int), Cond.methodLink RX4 162 yX4_keepForSleepers]
def wsX4_passTick_r5 : List Cond := [Cond.instanceMethod yX4_keepForSleepers, Cond.selects RX4 yX4_keepForSleepers yX4_keepForSleepers, Cond.code yX4_keepForSleepers cX4_keepForSleepers 5 none, Cond.fieldLink RX4 168 "MeshLamps$Lamp" "friend" "I", Cond.fieldLink RX4 171 "MeshLamps$Lamp" "kept" "LMeshLamps$Line;", Cond.methodLink RX4 165 yX4_passOn, Cond.instanceMethod yX4_passOn, Cond.selects RX4 yX4_passOn yX4_passOn, Cond.code yX4_passOn cX4_passOn 4 none, Cond.fieldLink RX4 50 "MeshLamps$Mesh" "lostAsFull" "I", Cond.methodLink RX4 174 yX0_isFull, Cond.instanceMethod yX0_isFull, Cond.selects RX0 yX0_isFull yX0_isFull, Cond.code yX0_isFull cX0_isFull 1 (some .boolean), Cond.methodLink RX4 178 yX0_add, Cond.instanceMethod yX0_add, Cond.selects RX0 yX0_add yX0_add, Cond.code yX0_add cX0_add 5 none, Cond.methodLink RX0 28 yX0_isFull]
def wsX4_passTick : List Cond := .code yX4_passTick cX4_passTick 4 none :: ((wsX4_passTick_r1 ++ (wsX4_passTick_r2 ++ (wsX4_passTick_r3 ++ (wsX4_passTick_r4 ++ wsX4_passTick_r5)))) ++ wsX40 ++ wsX00 ++ wsX10 ++ wsX20 ++ wsX30)
def wsX4_wake_r1 : List Cond := [Cond.fieldLink RX4 11 "MeshLamps$Mesh" "lamps" "[LMeshLamps$Lamp;", Cond.fieldLink RX4 196 "MeshLamps$Lamp" "took" "I", Cond.fieldLink RX4 109 "MeshLamps$Lamp" "sleeps" "Z", Cond.fieldLink RX4 171 "MeshLamps$Lamp" "kept" "LMeshLamps$Line;", Cond.fieldLink RX4 199 "MeshLamps$Line" "size" "I", Cond.fieldLink RX4 200 "MeshLamps$Line" "letters" "[I", Cond.fieldLink RX4 129 "MeshLamps$Lamp" "hadStrange" "I", Cond.methodLink RX4 126 yX4_knows, Cond.instanceMethod yX4_knows, Cond.selects RX4 yX4_knows yX4_knows, Cond.initialized RX4, Cond.code yX4_knows cX4_knows 4 (some .boolean), Cond.fieldLink RX4 20 "MeshLamps$Mesh" "letters" "LMeshLamps$Letters;", Cond.fieldLink RX4 75 "MeshLamps$Letters" "key" "[I", Cond.fieldLink RX4 35 "MeshLamps$Mesh" "key" "I", Cond.fieldLink RX4 41 "MeshLamps$Mesh" "haveKey" "I", Cond.fieldLink RX4 44 "MeshLamps$Mesh" "haveNext" "I", Cond.static yX5_isIn, Cond.initialized RX5, Cond.code yX5_isIn cX5_isIn 2 (some .boolean), Cond.methodLink RX4 158 yX4_take, Cond.instanceMethod yX4_take, Cond.selects RX4 yX4_take yX4_take, Cond.code yX4_take cX4_take 5 none]
def wsX4_wake_r2 : List Cond := [Cond.fieldLink RX4 184 "MeshLamps$Lamp" "greatestTaken" "[I", Cond.fieldLink RX4 187 "MeshLamps$Lamp" "refusedAsOld" "I", Cond.fieldLink RX4 190 "MeshLamps$Letters" "value" "[I", Cond.fieldLink RX4 193 "MeshLamps$Lamp" "light" "I", Cond.methodLink RX4 151 yX2_sourceOf, Cond.static yX2_sourceOf, Cond.initialized RX2, Cond.code yX2_sourceOf cX2_sourceOf 1 (some .int), Cond.methodLink RX4 181 yX2_numberOf, Cond.static yX2_numberOf, Cond.code yX2_numberOf cX2_numberOf 1 (some .int), Cond.methodLink RX4 202 yX3_dropOldest, Cond.instanceMethod yX3_dropOldest, Cond.selects RX3 yX3_dropOldest yX3_dropOldest, Cond.initialized RX3, Cond.code yX3_dropOldest cX3_dropOldest 5 none, Cond.fieldLink RX3 7 "MeshLamps$Line" "size" "I", Cond.fieldLink RX3 19 "MeshLamps$Line" "letters" "[I"]
def wsX4_wake : List Cond := .code yX4_wake cX4_wake 6 (some .int) :: ((wsX4_wake_r1 ++ wsX4_wake_r2) ++ wsX40 ++ wsX10 ++ wsX30 ++ wsX20)
def wsX5_asNumber : List Cond := .code yX5_asNumber cX5_asNumber 1 (some .int) :: ([])
def wsX4_sleepers : List Cond := .code yX4_sleepers cX4_sleepers 3 (some .int) :: ([.fieldLink RX4 11 "MeshLamps$Mesh" "lamps" "[LMeshLamps$Lamp;", .fieldLink RX4 109 "MeshLamps$Lamp" "sleeps" "Z", .static yX5_asNumber, .initialized RX5, .code yX5_asNumber cX5_asNumber 1 (some .int)] ++ wsX40 ++ wsX10)
def wsX4_allLights : List Cond := .code yX4_allLights cX4_allLights 3 (some .int) :: ([.fieldLink RX4 11 "MeshLamps$Mesh" "lamps" "[LMeshLamps$Lamp;", .fieldLink RX4 193 "MeshLamps$Lamp" "light" "I"] ++ wsX40 ++ wsX10)
def wsX5_init_r1 : List Cond := [Cond.methodLink RX5 1 objectInit, Cond.instanceMethod objectInit, Cond.code objectInit ⟨#[0xb1]⟩ 1 none, Cond.classLink RX5 7 RX4, Cond.instantiable RX4 11, Cond.initialized RX4, Cond.fieldLink RX5 10 "MeshLamps" "mesh" "LMeshLamps$Mesh;", Cond.fieldLink RX5 16 "MeshLamps" "images" "[LMeshLamps$Mesh;", Cond.methodLink RX5 9 yX4_init, Cond.instanceMethod yX4_init, Cond.code yX4_init cX4_init 2 none, Cond.methodLink RX4 3 objectInit, Cond.classLink RX4 9 RX1, Cond.fieldLink RX4 11 "MeshLamps$Mesh" "lamps" "[LMeshLamps$Lamp;", Cond.classLink RX4 17 RX2, Cond.instantiable RX2 3, Cond.initialized RX2, Cond.fieldLink RX4 20 "MeshLamps$Mesh" "letters" "LMeshLamps$Letters;", Cond.classLink RX4 24 RX0, Cond.instantiable RX0 5, Cond.initialized RX0, Cond.fieldLink RX4 27 "MeshLamps$Mesh" "air" "LMeshLamps$Air;", Cond.fieldLink RX4 31 "MeshLamps$Mesh" "tick" "I", Cond.fieldLink RX4 35 "MeshLamps$Mesh" "key" "I"]
def wsX5_init_r2 : List Cond := [Cond.fieldLink RX4 38 "MeshLamps$Mesh" "phase" "I", Cond.fieldLink RX4 41 "MeshLamps$Mesh" "haveKey" "I", Cond.fieldLink RX4 44 "MeshLamps$Mesh" "haveNext" "I", Cond.fieldLink RX4 47 "MeshLamps$Mesh" "spoken" "I", Cond.fieldLink RX4 50 "MeshLamps$Mesh" "lostAsFull" "I", Cond.fieldLink RX4 53 "MeshLamps$Mesh" "lostAsleep" "I", Cond.instantiable RX1 15, Cond.initialized RX1, Cond.instanceMethod yX2_init, Cond.code yX2_init cX2_init 1 none, Cond.methodLink RX2 3 objectInit, Cond.arrayClass .int, Cond.fieldLink RX2 11 "MeshLamps$Letters" "key" "[I", Cond.fieldLink RX2 15 "MeshLamps$Letters" "aim" "[I", Cond.fieldLink RX2 18 "MeshLamps$Letters" "value" "[I", Cond.instanceMethod yX0_init, Cond.code yX0_init cX0_init 1 none, Cond.methodLink RX0 3 objectInit, Cond.fieldLink RX0 9 "MeshLamps$Air" "speaker" "[I", Cond.fieldLink RX0 15 "MeshLamps$Air" "tick" "[I", Cond.fieldLink RX0 18 "MeshLamps$Air" "letter" "[I", Cond.fieldLink RX0 21 "MeshLamps$Air" "steps" "[I", Cond.fieldLink RX0 24 "MeshLamps$Air" "size" "I", Cond.instanceMethod yX1_init]
def wsX5_init_r3 : List Cond := [Cond.code yX1_init cX1_init 1 none, Cond.methodLink RX1 3 objectInit, Cond.methodLink RX1 13 ⟨"[I", "clone", "()Ljava/lang/Object;"⟩, Cond.sameMethod "[I" "java/lang/Object" "clone" "()Ljava/lang/Object;", Cond.native ⟨"java/lang/Object", "clone", "()Ljava/lang/Object;"⟩, Cond.instanceMethod ⟨"java/lang/Object", "clone", "()Ljava/lang/Object;"⟩, Cond.selects "[I" ⟨"[I", "clone", "()Ljava/lang/Object;"⟩ ⟨"java/lang/Object", "clone", "()Ljava/lang/Object;"⟩, Cond.classLink RX1 14 "[I", Cond.fieldLink RX1 18 "MeshLamps$Lamp" "settings" "[I", Cond.fieldLink RX1 23 "MeshLamps$Lamp" "greatestTaken" "[I", Cond.classLink RX1 26 RX3, Cond.instantiable RX3 2, Cond.initialized RX3, Cond.fieldLink RX1 31 "MeshLamps$Lamp" "mind" "LMeshLamps$Line;", Cond.fieldLink RX1 35 "MeshLamps$Lamp" "kept" "LMeshLamps$Line;", Cond.fieldLink RX1 38 "MeshLamps$Lamp" "links" "I", Cond.fieldLink RX1 42 "MeshLamps$Lamp" "light" "I", Cond.fieldLink RX1 45 "MeshLamps$Lamp" "sleeps" "Z", Cond.fieldLink RX1 49 "MeshLamps$Lamp" "friend" "I", Cond.fieldLink RX1 52 "MeshLamps$Lamp" "told" "I", Cond.fieldLink RX1 55 "MeshLamps$Lamp" "took" "I", Cond.fieldLink RX1 58 "MeshLamps$Lamp" "refusedAsOld" "I", Cond.fieldLink RX1 61 "MeshLamps$Lamp" "hadStrange" "I", Cond.fieldLink RX1 64 "MeshLamps$Lamp" "hadStale" "I"]
def wsX5_init_r4 : List Cond := [Cond.fieldLink RX1 67 "MeshLamps$Lamp" "hadNew" "I", Cond.fieldLink RX1 70 "MeshLamps$Lamp" "spoke" "I", Cond.methodLink RX1 28 yX3_init, Cond.instanceMethod yX3_init, Cond.code yX3_init cX3_init 2 none, Cond.methodLink RX3 1 objectInit, Cond.fieldLink RX3 7 "MeshLamps$Line" "size" "I", Cond.methodLink RX3 13 Lib.Math.max.name, Cond.static Lib.Math.max.name, Cond.initialized "java/lang/Math", Cond.code Lib.Math.max.name Lib.Math.max.code 2 (some .int), Cond.fieldLink RX3 19 "MeshLamps$Line" "letters" "[I"]
def wsX5_init : List Cond := .code yX5_init cX5_init 1 none :: ((wsX5_init_r1 ++ (wsX5_init_r2 ++ (wsX5_init_r3 ++ wsX5_init_r4))) ++ wsX40 ++ wsX50 ++ wsX20 ++ wsX00 ++ wsX10 ++ wsX30)
def wsX5_isBetween : List Cond := .code yX5_isBetween cX5_isBetween 3 (some .boolean) :: ([])
def wsX5_isLamp : List Cond := .code yX5_isLamp cX5_isLamp 1 (some .boolean) :: ([.methodLink RX5 24 yX5_isBetween, .static yX5_isBetween, .initialized RX5, .code yX5_isBetween cX5_isBetween 3 (some .boolean)])
def wsJ6_bitCount_0f7a4 : List Cond := .code yJ6_bitCount_0f7a4 cJ6_bitCount_0f7a4 1 (some .int) :: ([.constant RJ6 265 (1431655765), .constant RJ6 266 (858993459), .constant RJ6 267 (252645135)])
def wsX5_link : List Cond := .code yX5_link cX5_link 6 (some .int) :: ([.fieldLink RX5 10 "MeshLamps" "mesh" "LMeshLamps$Mesh;", .fieldLink RX5 28 "MeshLamps$Mesh" "lamps" "[LMeshLamps$Lamp;", .fieldLink RX5 32 "MeshLamps$Lamp" "links" "I", .methodLink RX5 20 yX5_isLamp, .static yX5_isLamp, .initialized RX5, .code yX5_isLamp cX5_isLamp 1 (some .boolean), .methodLink RX5 24 yX5_isBetween, .static yX5_isBetween, .code yX5_isBetween cX5_isBetween 3 (some .boolean), .methodLink RX5 38 yX5_changed, .static yX5_changed, .code yX5_changed cX5_changed 3 (some .int), .methodLink RX5 42 yJ6_bitCount_0f7a4, .static yJ6_bitCount_0f7a4, .initialized RJ6, .code yJ6_bitCount_0f7a4 cJ6_bitCount_0f7a4 1 (some .int), .constant RJ6 265 (1431655765), .constant RJ6 266 (858993459), .constant RJ6 267 (252645135)] ++ wsX50 ++ wsX40 ++ wsX10)
def wsX5_set : List Cond := .code yX5_set cX5_set 6 (some .int) :: ([.fieldLink RX5 48 "MeshLamps" "LEAST_SETTING" "[I", .fieldLink RX5 52 "MeshLamps" "MOST_SETTING" "[I", .fieldLink RX5 10 "MeshLamps" "mesh" "LMeshLamps$Mesh;", .fieldLink RX5 28 "MeshLamps$Mesh" "lamps" "[LMeshLamps$Lamp;", .fieldLink RX5 55 "MeshLamps$Lamp" "settings" "[I", .fieldLink RX5 58 "MeshLamps$Lamp" "mind" "LMeshLamps$Line;", .methodLink RX5 20 yX5_isLamp, .static yX5_isLamp, .initialized RX5, .code yX5_isLamp cX5_isLamp 1 (some .boolean), .methodLink RX5 24 yX5_isBetween, .static yX5_isBetween, .code yX5_isBetween cX5_isBetween 3 (some .boolean), .methodLink RX5 62 yX3_dropOldest, .instanceMethod yX3_dropOldest, .selects RX3 yX3_dropOldest yX3_dropOldest, .initialized RX3, .code yX3_dropOldest cX3_dropOldest 5 none, .fieldLink RX3 7 "MeshLamps$Line" "size" "I", .fieldLink RX3 19 "MeshLamps$Line" "letters" "[I"] ++ wsX50 ++ wsX40 ++ wsX10 ++ wsX30)
def wsX5_friend : List Cond := .code yX5_friend cX5_friend 5 (some .int) :: ([.fieldLink RX5 10 "MeshLamps" "mesh" "LMeshLamps$Mesh;", .fieldLink RX5 28 "MeshLamps$Mesh" "lamps" "[LMeshLamps$Lamp;", .fieldLink RX5 68 "MeshLamps$Lamp" "sleeps" "Z", .fieldLink RX5 72 "MeshLamps$Lamp" "friend" "I", .fieldLink RX5 75 "MeshLamps$Lamp" "kept" "LMeshLamps$Line;", .methodLink RX5 20 yX5_isLamp, .static yX5_isLamp, .initialized RX5, .code yX5_isLamp cX5_isLamp 1 (some .boolean), .methodLink RX5 24 yX5_isBetween, .static yX5_isBetween, .code yX5_isBetween cX5_isBetween 3 (some .boolean), .methodLink RX5 62 yX3_dropOldest, .instanceMethod yX3_dropOldest, .selects RX3 yX3_dropOldest yX3_dropOldest, .initialized RX3, .code yX3_dropOldest cX3_dropOldest 5 none, .fieldLink RX3 7 "MeshLamps$Line" "size" "I", .fieldLink RX3 19 "MeshLamps$Line" "letters" "[I"] ++ wsX50 ++ wsX40 ++ wsX10 ++ wsX30)
def wsX5_sleep_r1 : List Cond := [Cond.fieldLink RX5 10 "MeshLamps" "mesh" "LMeshLamps$Mesh;", Cond.fieldLink RX5 28 "MeshLamps$Mesh" "lamps" "[LMeshLamps$Lamp;", Cond.fieldLink RX5 72 "MeshLamps$Lamp" "friend" "I", Cond.fieldLink RX5 68 "MeshLamps$Lamp" "sleeps" "Z", Cond.methodLink RX5 20 yX5_isLamp, Cond.static yX5_isLamp, Cond.initialized RX5, Cond.code yX5_isLamp cX5_isLamp 1 (some .boolean), Cond.methodLink RX5 24 yX5_isBetween, Cond.static yX5_isBetween, Cond.code yX5_isBetween cX5_isBetween 3 (some .boolean), Cond.methodLink RX5 78 yX4_wake, Cond.instanceMethod yX4_wake, Cond.selects RX4 yX4_wake yX4_wake, Cond.initialized RX4, Cond.code yX4_wake cX4_wake 6 (some .int), Cond.fieldLink RX4 11 "MeshLamps$Mesh" "lamps" "[LMeshLamps$Lamp;", Cond.fieldLink RX4 196 "MeshLamps$Lamp" "took" "I", Cond.fieldLink RX4 109 "MeshLamps$Lamp" "sleeps" "Z", Cond.fieldLink RX4 171 "MeshLamps$Lamp" "kept" "LMeshLamps$Line;", Cond.fieldLink RX4 199 "MeshLamps$Line" "size" "I", Cond.fieldLink RX4 200 "MeshLamps$Line" "letters" "[I", Cond.fieldLink RX4 129 "MeshLamps$Lamp" "hadStrange" "I", Cond.methodLink RX4 126 yX4_knows]
def wsX5_sleep_r2 : List Cond := [Cond.instanceMethod yX4_knows, Cond.selects RX4 yX4_knows yX4_knows, Cond.code yX4_knows cX4_knows 4 (some .boolean), Cond.fieldLink RX4 20 "MeshLamps$Mesh" "letters" "LMeshLamps$Letters;", Cond.fieldLink RX4 75 "MeshLamps$Letters" "key" "[I", Cond.fieldLink RX4 35 "MeshLamps$Mesh" "key" "I", Cond.fieldLink RX4 41 "MeshLamps$Mesh" "haveKey" "I", Cond.fieldLink RX4 44 "MeshLamps$Mesh" "haveNext" "I", Cond.static yX5_isIn, Cond.code yX5_isIn cX5_isIn 2 (some .boolean), Cond.methodLink RX4 158 yX4_take, Cond.instanceMethod yX4_take, Cond.selects RX4 yX4_take yX4_take, Cond.code yX4_take cX4_take 5 none, Cond.fieldLink RX4 184 "MeshLamps$Lamp" "greatestTaken" "[I", Cond.fieldLink RX4 187 "MeshLamps$Lamp" "refusedAsOld" "I", Cond.fieldLink RX4 190 "MeshLamps$Letters" "value" "[I", Cond.fieldLink RX4 193 "MeshLamps$Lamp" "light" "I", Cond.methodLink RX4 151 yX2_sourceOf, Cond.static yX2_sourceOf, Cond.initialized RX2, Cond.code yX2_sourceOf cX2_sourceOf 1 (some .int), Cond.methodLink RX4 181 yX2_numberOf, Cond.static yX2_numberOf]
def wsX5_sleep_r3 : List Cond := [Cond.code yX2_numberOf cX2_numberOf 1 (some .int), Cond.methodLink RX4 202 yX3_dropOldest, Cond.instanceMethod yX3_dropOldest, Cond.selects RX3 yX3_dropOldest yX3_dropOldest, Cond.initialized RX3, Cond.code yX3_dropOldest cX3_dropOldest 5 none, Cond.fieldLink RX3 7 "MeshLamps$Line" "size" "I", Cond.fieldLink RX3 19 "MeshLamps$Line" "letters" "[I"]
def wsX5_sleep : List Cond := .code yX5_sleep cX5_sleep 4 (some .int) :: ((wsX5_sleep_r1 ++ (wsX5_sleep_r2 ++ wsX5_sleep_r3)) ++ wsX50 ++ wsX40 ++ wsX10 ++ wsX30 ++ wsX20)
def wsX5_phase : List Cond := .code yX5_phase cX5_phase 1 (some .int) :: ([.fieldLink RX5 10 "MeshLamps" "mesh" "LMeshLamps$Mesh;", .fieldLink RX5 84 "MeshLamps$Mesh" "phase" "I", .methodLink RX5 81 yX4_nextPhase, .instanceMethod yX4_nextPhase, .selects RX4 yX4_nextPhase yX4_nextPhase, .initialized RX4, .code yX4_nextPhase cX4_nextPhase 1 none, .fieldLink RX4 38 "MeshLamps$Mesh" "phase" "I", .fieldLink RX4 35 "MeshLamps$Mesh" "key" "I", .fieldLink RX4 44 "MeshLamps$Mesh" "haveNext" "I", .fieldLink RX4 41 "MeshLamps$Mesh" "haveKey" "I"] ++ wsX50 ++ wsX40)
def wsX5_give : List Cond := .code yX5_give cX5_give 2 (some .int) :: ([.fieldLink RX5 10 "MeshLamps" "mesh" "LMeshLamps$Mesh;", .fieldLink RX5 84 "MeshLamps$Mesh" "phase" "I", .fieldLink RX5 87 "MeshLamps$Mesh" "haveNext" "I", .methodLink RX5 20 yX5_isLamp, .static yX5_isLamp, .initialized RX5, .code yX5_isLamp cX5_isLamp 1 (some .boolean), .methodLink RX5 24 yX5_isBetween, .static yX5_isBetween, .code yX5_isBetween cX5_isBetween 3 (some .boolean), .methodLink RX5 38 yX5_changed, .static yX5_changed, .code yX5_changed cX5_changed 3 (some .int), .methodLink RX5 42 yJ6_bitCount_0f7a4, .static yJ6_bitCount_0f7a4, .initialized RJ6, .code yJ6_bitCount_0f7a4 cJ6_bitCount_0f7a4 1 (some .int), .constant RJ6 265 (1431655765), .constant RJ6 266 (858993459), .constant RJ6 267 (252645135)] ++ wsX50 ++ wsX40)
def wsX5_has : List Cond := .code yX5_has cX5_has 3 (some .int) :: ([.fieldLink RX5 10 "MeshLamps" "mesh" "LMeshLamps$Mesh;", .fieldLink RX5 90 "MeshLamps$Mesh" "haveKey" "I", .fieldLink RX5 87 "MeshLamps$Mesh" "haveNext" "I", .methodLink RX5 20 yX5_isLamp, .static yX5_isLamp, .initialized RX5, .code yX5_isLamp cX5_isLamp 1 (some .boolean), .methodLink RX5 24 yX5_isBetween, .static yX5_isBetween, .code yX5_isBetween cX5_isBetween 3 (some .boolean), .methodLink RX5 93 yX5_isIn, .static yX5_isIn, .code yX5_isIn cX5_isIn 2 (some .boolean), .methodLink RX5 97 yX5_asNumber, .static yX5_asNumber, .code yX5_asNumber cX5_asNumber 1 (some .int)] ++ wsX50 ++ wsX40)
def wsX5_tell_r1 : List Cond := [Cond.fieldLink RX5 10 "MeshLamps" "mesh" "LMeshLamps$Mesh;", Cond.fieldLink RX5 28 "MeshLamps$Mesh" "lamps" "[LMeshLamps$Lamp;", Cond.fieldLink RX5 68 "MeshLamps$Lamp" "sleeps" "Z", Cond.fieldLink RX5 104 "MeshLamps$Mesh" "air" "LMeshLamps$Air;", Cond.fieldLink RX5 114 "MeshLamps$Lamp" "told" "I", Cond.fieldLink RX5 123 "MeshLamps$Mesh" "letters" "LMeshLamps$Letters;", Cond.fieldLink RX5 58 "MeshLamps$Lamp" "mind" "LMeshLamps$Line;", Cond.fieldLink RX5 55 "MeshLamps$Lamp" "settings" "[I", Cond.fieldLink RX5 138 "MeshLamps$Mesh" "tick" "I", Cond.methodLink RX5 20 yX5_isLamp, Cond.static yX5_isLamp, Cond.initialized RX5, Cond.code yX5_isLamp cX5_isLamp 1 (some .boolean), Cond.methodLink RX5 24 yX5_isBetween, Cond.static yX5_isBetween, Cond.code yX5_isBetween cX5_isBetween 3 (some .boolean), Cond.methodLink RX5 101 yX4_canTell, Cond.instanceMethod yX4_canTell, Cond.selects RX4 yX4_canTell yX4_canTell, Cond.initialized RX4, Cond.code yX4_canTell cX4_canTell 2 (some .boolean), Cond.fieldLink RX4 41 "MeshLamps$Mesh" "haveKey" "I", Cond.methodLink RX4 71 yX4_tellsByNext, Cond.instanceMethod yX4_tellsByNext]
def wsX5_tell_r2 : List Cond := [Cond.selects RX4 yX4_tellsByNext yX4_tellsByNext, Cond.code yX4_tellsByNext cX4_tellsByNext 2 (some .boolean), Cond.fieldLink RX4 38 "MeshLamps$Mesh" "phase" "I", Cond.fieldLink RX4 44 "MeshLamps$Mesh" "haveNext" "I", Cond.static yX5_isIn, Cond.code yX5_isIn cX5_isIn 2 (some .boolean), Cond.methodLink RX5 108 yX0_isFull, Cond.instanceMethod yX0_isFull, Cond.selects RX0 yX0_isFull yX0_isFull, Cond.initialized RX0, Cond.code yX0_isFull cX0_isFull 1 (some .boolean), Cond.fieldLink RX0 24 "MeshLamps$Air" "size" "I", Cond.methodLink RX5 117 yX2_place, Cond.static yX2_place, Cond.initialized RX2, Cond.code yX2_place cX2_place 2 (some .int), Cond.methodLink RX5 127 yX4_keyToTell, Cond.instanceMethod yX4_keyToTell, Cond.selects RX4 yX4_keyToTell yX4_keyToTell, Cond.code yX4_keyToTell cX4_keyToTell 2 (some .int), Cond.fieldLink RX4 35 "MeshLamps$Mesh" "key" "I", Cond.methodLink RX5 130 yX2_write, Cond.instanceMethod yX2_write, Cond.selects RX2 yX2_write yX2_write]
def wsX5_tell_r3 : List Cond := [Cond.code yX2_write cX2_write 5 none, Cond.fieldLink RX2 11 "MeshLamps$Letters" "key" "[I", Cond.fieldLink RX2 15 "MeshLamps$Letters" "aim" "[I", Cond.fieldLink RX2 18 "MeshLamps$Letters" "value" "[I", Cond.methodLink RX5 134 yX3_add, Cond.instanceMethod yX3_add, Cond.selects RX3 yX3_add yX3_add, Cond.initialized RX3, Cond.code yX3_add cX3_add 3 none, Cond.fieldLink RX3 7 "MeshLamps$Line" "size" "I", Cond.fieldLink RX3 19 "MeshLamps$Line" "letters" "[I", Cond.methodLink RX3 23 yX3_dropOldest, Cond.instanceMethod yX3_dropOldest, Cond.selects RX3 yX3_dropOldest yX3_dropOldest, Cond.code yX3_dropOldest cX3_dropOldest 5 none, Cond.methodLink RX5 141 yX0_add, Cond.instanceMethod yX0_add, Cond.selects RX0 yX0_add yX0_add, Cond.code yX0_add cX0_add 5 none, Cond.fieldLink RX0 9 "MeshLamps$Air" "speaker" "[I", Cond.fieldLink RX0 15 "MeshLamps$Air" "tick" "[I", Cond.fieldLink RX0 18 "MeshLamps$Air" "letter" "[I", Cond.fieldLink RX0 21 "MeshLamps$Air" "steps" "[I", Cond.methodLink RX0 28 yX0_isFull]
def wsX5_tell : List Cond := .code yX5_tell cX5_tell 7 (some .int) :: ((wsX5_tell_r1 ++ (wsX5_tell_r2 ++ wsX5_tell_r3)) ++ wsX50 ++ wsX40 ++ wsX10 ++ wsX00 ++ wsX20 ++ wsX30)
def wsX5_replay_r1 : List Cond := [Cond.fieldLink RX5 10 "MeshLamps" "mesh" "LMeshLamps$Mesh;", Cond.fieldLink RX5 28 "MeshLamps$Mesh" "lamps" "[LMeshLamps$Lamp;", Cond.fieldLink RX5 114 "MeshLamps$Lamp" "told" "I", Cond.fieldLink RX5 104 "MeshLamps$Mesh" "air" "LMeshLamps$Air;", Cond.fieldLink RX5 138 "MeshLamps$Mesh" "tick" "I", Cond.fieldLink RX5 143 "MeshLamps$Air" "size" "I", Cond.methodLink RX5 20 yX5_isLamp, Cond.static yX5_isLamp, Cond.initialized RX5, Cond.code yX5_isLamp cX5_isLamp 1 (some .boolean), Cond.methodLink RX5 24 yX5_isBetween, Cond.static yX5_isBetween, Cond.code yX5_isBetween cX5_isBetween 3 (some .boolean), Cond.methodLink RX5 108 yX0_isFull, Cond.instanceMethod yX0_isFull, Cond.selects RX0 yX0_isFull yX0_isFull, Cond.initialized RX0, Cond.code yX0_isFull cX0_isFull 1 (some .boolean), Cond.fieldLink RX0 24 "MeshLamps$Air" "size" "I", Cond.methodLink RX5 117 yX2_place, Cond.static yX2_place, Cond.initialized RX2, Cond.code yX2_place cX2_place 2 (some .int), Cond.methodLink RX5 141 yX0_add]
def wsX5_replay_r2 : List Cond := [Cond.instanceMethod yX0_add, Cond.selects RX0 yX0_add yX0_add, Cond.code yX0_add cX0_add 5 none, Cond.fieldLink RX0 9 "MeshLamps$Air" "speaker" "[I", Cond.fieldLink RX0 15 "MeshLamps$Air" "tick" "[I", Cond.fieldLink RX0 18 "MeshLamps$Air" "letter" "[I", Cond.fieldLink RX0 21 "MeshLamps$Air" "steps" "[I", Cond.methodLink RX0 28 yX0_isFull]
def wsX5_replay : List Cond := .code yX5_replay cX5_replay 4 (some .int) :: ((wsX5_replay_r1 ++ wsX5_replay_r2) ++ wsX50 ++ wsX40 ++ wsX10 ++ wsX00)
def wsX5_pass_r1 : List Cond := [Cond.fieldLink RX5 10 "MeshLamps" "mesh" "LMeshLamps$Mesh;", Cond.fieldLink RX5 146 "MeshLamps$Mesh" "spoken" "I", Cond.methodLink RX5 24 yX5_isBetween, Cond.static yX5_isBetween, Cond.initialized RX5, Cond.code yX5_isBetween cX5_isBetween 3 (some .boolean), Cond.methodLink RX5 149 yX4_passTick, Cond.instanceMethod yX4_passTick, Cond.selects RX4 yX4_passTick yX4_passTick, Cond.initialized RX4, Cond.code yX4_passTick cX4_passTick 4 none, Cond.fieldLink RX4 31 "MeshLamps$Mesh" "tick" "I", Cond.fieldLink RX4 27 "MeshLamps$Mesh" "air" "LMeshLamps$Air;", Cond.fieldLink RX4 84 "MeshLamps$Air" "size" "I", Cond.fieldLink RX4 87 "MeshLamps$Air" "tick" "[I", Cond.methodLink RX4 89 yX4_speakFromAir, Cond.instanceMethod yX4_speakFromAir, Cond.selects RX4 yX4_speakFromAir yX4_speakFromAir, Cond.code yX4_speakFromAir cX4_speakFromAir 5 none, Cond.fieldLink RX4 93 "MeshLamps$Air" "speaker" "[I", Cond.fieldLink RX4 96 "MeshLamps$Air" "letter" "[I", Cond.fieldLink RX4 99 "MeshLamps$Air" "steps" "[I", Cond.methodLink RX4 102 yX0_dropAt, Cond.instanceMethod yX0_dropAt]
def wsX5_pass_r2 : List Cond := [Cond.selects RX0 yX0_dropAt yX0_dropAt, Cond.initialized RX0, Cond.code yX0_dropAt cX0_dropAt 3 none, Cond.fieldLink RX0 24 "MeshLamps$Air" "size" "I", Cond.fieldLink RX0 9 "MeshLamps$Air" "speaker" "[I", Cond.methodLink RX0 32 arraycopyName, Cond.native arraycopyName, Cond.static arraycopyName, Cond.initialized "java/lang/System", Cond.fieldLink RX0 15 "MeshLamps$Air" "tick" "[I", Cond.fieldLink RX0 18 "MeshLamps$Air" "letter" "[I", Cond.fieldLink RX0 21 "MeshLamps$Air" "steps" "[I", Cond.methodLink RX4 105 yX4_speak, Cond.instanceMethod yX4_speak, Cond.selects RX4 yX4_speak yX4_speak, Cond.code yX4_speak cX4_speak 9 none, Cond.fieldLink RX4 11 "MeshLamps$Mesh" "lamps" "[LMeshLamps$Lamp;", Cond.fieldLink RX4 109 "MeshLamps$Lamp" "sleeps" "Z", Cond.fieldLink RX4 53 "MeshLamps$Mesh" "lostAsleep" "I", Cond.fieldLink RX4 47 "MeshLamps$Mesh" "spoken" "I", Cond.fieldLink RX4 113 "MeshLamps$Lamp" "spoke" "I", Cond.fieldLink RX4 116 "MeshLamps$Lamp" "links" "I", Cond.static yX5_changed, Cond.code yX5_changed cX5_changed 3 (some .int)]
def wsX5_pass_r3 : List Cond := [Cond.static yX5_isIn, Cond.code yX5_isIn cX5_isIn 2 (some .boolean), Cond.methodLink RX4 123 yX4_hear, Cond.instanceMethod yX4_hear, Cond.selects RX4 yX4_hear yX4_hear, Cond.code yX4_hear cX4_hear 5 none, Cond.fieldLink RX4 129 "MeshLamps$Lamp" "hadStrange" "I", Cond.fieldLink RX4 132 "MeshLamps$Lamp" "mind" "LMeshLamps$Line;", Cond.fieldLink RX4 141 "MeshLamps$Lamp" "hadStale" "I", Cond.fieldLink RX4 144 "MeshLamps$Lamp" "hadNew" "I", Cond.fieldLink RX4 81 "MeshLamps$Lamp" "settings" "[I", Cond.methodLink RX4 126 yX4_knows, Cond.instanceMethod yX4_knows, Cond.selects RX4 yX4_knows yX4_knows, Cond.code yX4_knows cX4_knows 4 (some .boolean), Cond.fieldLink RX4 20 "MeshLamps$Mesh" "letters" "LMeshLamps$Letters;", Cond.fieldLink RX4 75 "MeshLamps$Letters" "key" "[I", Cond.fieldLink RX4 35 "MeshLamps$Mesh" "key" "I", Cond.fieldLink RX4 41 "MeshLamps$Mesh" "haveKey" "I", Cond.fieldLink RX4 44 "MeshLamps$Mesh" "haveNext" "I", Cond.methodLink RX4 136 yX3_holds, Cond.instanceMethod yX3_holds, Cond.selects RX3 yX3_holds yX3_holds, Cond.initialized RX3]
def wsX5_pass_r4 : List Cond := [Cond.code yX3_holds cX3_holds 3 (some .boolean), Cond.fieldLink RX3 7 "MeshLamps$Line" "size" "I", Cond.fieldLink RX3 19 "MeshLamps$Line" "letters" "[I", Cond.methodLink RX4 147 yX3_add, Cond.instanceMethod yX3_add, Cond.selects RX3 yX3_add yX3_add, Cond.code yX3_add cX3_add 3 none, Cond.methodLink RX3 23 yX3_dropOldest, Cond.instanceMethod yX3_dropOldest, Cond.selects RX3 yX3_dropOldest yX3_dropOldest, Cond.code yX3_dropOldest cX3_dropOldest 5 none, Cond.methodLink RX4 151 yX2_sourceOf, Cond.static yX2_sourceOf, Cond.initialized RX2, Cond.code yX2_sourceOf cX2_sourceOf 1 (some .int), Cond.methodLink RX4 155 yX4_isMeant, Cond.instanceMethod yX4_isMeant, Cond.selects RX4 yX4_isMeant yX4_isMeant, Cond.code yX4_isMeant cX4_isMeant 4 (some .boolean), Cond.fieldLink RX4 78 "MeshLamps$Letters" "aim" "[I", Cond.methodLink RX4 158 yX4_take, Cond.instanceMethod yX4_take, Cond.selects RX4 yX4_take yX4_take, Cond.code yX4_take cX4_take 5 none]
def wsX5_pass_r5 : List Cond := [Cond.fieldLink RX4 184 "MeshLamps$Lamp" "greatestTaken" "[I", Cond.fieldLink RX4 187 "MeshLamps$Lamp" "refusedAsOld" "I", Cond.fieldLink RX4 190 "MeshLamps$Letters" "value" "[I", Cond.fieldLink RX4 193 "MeshLamps$Lamp" "light" "I", Cond.fieldLink RX4 196 "MeshLamps$Lamp" "took" "I", Cond.methodLink RX4 181 yX2_numberOf, Cond.static yX2_numberOf, Cond.code yX2_numberOf cX2_numberOf 1 (some .int), Cond.methodLink RX4 162 yX4_keepForSleepers, Cond.instanceMethod yX4_keepForSleepers, Cond.selects RX4 yX4_keepForSleepers yX4_keepForSleepers, Cond.code yX4_keepForSleepers cX4_keepForSleepers 5 none, Cond.fieldLink RX4 168 "MeshLamps$Lamp" "friend" "I", Cond.fieldLink RX4 171 "MeshLamps$Lamp" "kept" "LMeshLamps$Line;", Cond.methodLink RX4 165 yX4_passOn, Cond.instanceMethod yX4_passOn, Cond.selects RX4 yX4_passOn yX4_passOn, Cond.code yX4_passOn cX4_passOn 4 none, Cond.fieldLink RX4 50 "MeshLamps$Mesh" "lostAsFull" "I", Cond.methodLink RX4 174 yX0_isFull, Cond.instanceMethod yX0_isFull, Cond.selects RX0 yX0_isFull yX0_isFull, Cond.code yX0_isFull cX0_isFull 1 (some .boolean), Cond.methodLink RX4 178 yX0_add]
def wsX5_pass_r6 : List Cond := [Cond.instanceMethod yX0_add, Cond.selects RX0 yX0_add yX0_add, Cond.code yX0_add cX0_add 5 none, Cond.methodLink RX0 28 yX0_isFull]
def wsX5_pass : List Cond := .code yX5_pass cX5_pass 4 (some .int) :: ((wsX5_pass_r1 ++ (wsX5_pass_r2 ++ (wsX5_pass_r3 ++ (wsX5_pass_r4 ++ (wsX5_pass_r5 ++ wsX5_pass_r6))))) ++ wsX50 ++ wsX40 ++ wsX00 ++ wsX10 ++ wsX20 ++ wsX30)
def wsX5_settle_r1 : List Cond := [Cond.fieldLink RX5 10 "MeshLamps" "mesh" "LMeshLamps$Mesh;", Cond.fieldLink RX5 104 "MeshLamps$Mesh" "air" "LMeshLamps$Air;", Cond.fieldLink RX5 143 "MeshLamps$Air" "size" "I", Cond.methodLink RX5 149 yX4_passTick, Cond.instanceMethod yX4_passTick, Cond.selects RX4 yX4_passTick yX4_passTick, Cond.initialized RX4, Cond.code yX4_passTick cX4_passTick 4 none, Cond.fieldLink RX4 31 "MeshLamps$Mesh" "tick" "I", Cond.fieldLink RX4 27 "MeshLamps$Mesh" "air" "LMeshLamps$Air;", Cond.fieldLink RX4 84 "MeshLamps$Air" "size" "I", Cond.fieldLink RX4 87 "MeshLamps$Air" "tick" "[I", Cond.methodLink RX4 89 yX4_speakFromAir, Cond.instanceMethod yX4_speakFromAir, Cond.selects RX4 yX4_speakFromAir yX4_speakFromAir, Cond.code yX4_speakFromAir cX4_speakFromAir 5 none, Cond.fieldLink RX4 93 "MeshLamps$Air" "speaker" "[I", Cond.fieldLink RX4 96 "MeshLamps$Air" "letter" "[I", Cond.fieldLink RX4 99 "MeshLamps$Air" "steps" "[I", Cond.methodLink RX4 102 yX0_dropAt, Cond.instanceMethod yX0_dropAt, Cond.selects RX0 yX0_dropAt yX0_dropAt, Cond.initialized RX0, Cond.code yX0_dropAt cX0_dropAt 3 none]
def wsX5_settle_r2 : List Cond := [Cond.fieldLink RX0 24 "MeshLamps$Air" "size" "I", Cond.fieldLink RX0 9 "MeshLamps$Air" "speaker" "[I", Cond.methodLink RX0 32 arraycopyName, Cond.native arraycopyName, Cond.static arraycopyName, Cond.initialized "java/lang/System", Cond.fieldLink RX0 15 "MeshLamps$Air" "tick" "[I", Cond.fieldLink RX0 18 "MeshLamps$Air" "letter" "[I", Cond.fieldLink RX0 21 "MeshLamps$Air" "steps" "[I", Cond.methodLink RX4 105 yX4_speak, Cond.instanceMethod yX4_speak, Cond.selects RX4 yX4_speak yX4_speak, Cond.code yX4_speak cX4_speak 9 none, Cond.fieldLink RX4 11 "MeshLamps$Mesh" "lamps" "[LMeshLamps$Lamp;", Cond.fieldLink RX4 109 "MeshLamps$Lamp" "sleeps" "Z", Cond.fieldLink RX4 53 "MeshLamps$Mesh" "lostAsleep" "I", Cond.fieldLink RX4 47 "MeshLamps$Mesh" "spoken" "I", Cond.fieldLink RX4 113 "MeshLamps$Lamp" "spoke" "I", Cond.fieldLink RX4 116 "MeshLamps$Lamp" "links" "I", Cond.static yX5_changed, Cond.initialized RX5, Cond.code yX5_changed cX5_changed 3 (some .int), Cond.static yX5_isIn, Cond.code yX5_isIn cX5_isIn 2 (some .boolean)]
def wsX5_settle_r3 : List Cond := [Cond.methodLink RX4 123 yX4_hear, Cond.instanceMethod yX4_hear, Cond.selects RX4 yX4_hear yX4_hear, Cond.code yX4_hear cX4_hear 5 none, Cond.fieldLink RX4 129 "MeshLamps$Lamp" "hadStrange" "I", Cond.fieldLink RX4 132 "MeshLamps$Lamp" "mind" "LMeshLamps$Line;", Cond.fieldLink RX4 141 "MeshLamps$Lamp" "hadStale" "I", Cond.fieldLink RX4 144 "MeshLamps$Lamp" "hadNew" "I", Cond.fieldLink RX4 81 "MeshLamps$Lamp" "settings" "[I", Cond.methodLink RX4 126 yX4_knows, Cond.instanceMethod yX4_knows, Cond.selects RX4 yX4_knows yX4_knows, Cond.code yX4_knows cX4_knows 4 (some .boolean), Cond.fieldLink RX4 20 "MeshLamps$Mesh" "letters" "LMeshLamps$Letters;", Cond.fieldLink RX4 75 "MeshLamps$Letters" "key" "[I", Cond.fieldLink RX4 35 "MeshLamps$Mesh" "key" "I", Cond.fieldLink RX4 41 "MeshLamps$Mesh" "haveKey" "I", Cond.fieldLink RX4 44 "MeshLamps$Mesh" "haveNext" "I", Cond.methodLink RX4 136 yX3_holds, Cond.instanceMethod yX3_holds, Cond.selects RX3 yX3_holds yX3_holds, Cond.initialized RX3, Cond.code yX3_holds cX3_holds 3 (some .boolean), Cond.fieldLink RX3 7 "MeshLamps$Line" "size" "I"]
def wsX5_settle_r4 : List Cond := [Cond.fieldLink RX3 19 "MeshLamps$Line" "letters" "[I", Cond.methodLink RX4 147 yX3_add, Cond.instanceMethod yX3_add, Cond.selects RX3 yX3_add yX3_add, Cond.code yX3_add cX3_add 3 none, Cond.methodLink RX3 23 yX3_dropOldest, Cond.instanceMethod yX3_dropOldest, Cond.selects RX3 yX3_dropOldest yX3_dropOldest, Cond.code yX3_dropOldest cX3_dropOldest 5 none, Cond.methodLink RX4 151 yX2_sourceOf, Cond.static yX2_sourceOf, Cond.initialized RX2, Cond.code yX2_sourceOf cX2_sourceOf 1 (some .int), Cond.methodLink RX4 155 yX4_isMeant, Cond.instanceMethod yX4_isMeant, Cond.selects RX4 yX4_isMeant yX4_isMeant, Cond.code yX4_isMeant cX4_isMeant 4 (some .boolean), Cond.fieldLink RX4 78 "MeshLamps$Letters" "aim" "[I", Cond.methodLink RX4 158 yX4_take, Cond.instanceMethod yX4_take, Cond.selects RX4 yX4_take yX4_take, Cond.code yX4_take cX4_take 5 none, Cond.fieldLink RX4 184 "MeshLamps$Lamp" "greatestTaken" "[I", Cond.fieldLink RX4 187 "MeshLamps$Lamp" "refusedAsOld" "I"]
def wsX5_settle_r5 : List Cond := [Cond.fieldLink RX4 190 "MeshLamps$Letters" "value" "[I", Cond.fieldLink RX4 193 "MeshLamps$Lamp" "light" "I", Cond.fieldLink RX4 196 "MeshLamps$Lamp" "took" "I", Cond.methodLink RX4 181 yX2_numberOf, Cond.static yX2_numberOf, Cond.code yX2_numberOf cX2_numberOf 1 (some .int), Cond.methodLink RX4 162 yX4_keepForSleepers, Cond.instanceMethod yX4_keepForSleepers, Cond.selects RX4 yX4_keepForSleepers yX4_keepForSleepers, Cond.code yX4_keepForSleepers cX4_keepForSleepers 5 none, Cond.fieldLink RX4 168 "MeshLamps$Lamp" "friend" "I", Cond.fieldLink RX4 171 "MeshLamps$Lamp" "kept" "LMeshLamps$Line;", Cond.methodLink RX4 165 yX4_passOn, Cond.instanceMethod yX4_passOn, Cond.selects RX4 yX4_passOn yX4_passOn, Cond.code yX4_passOn cX4_passOn 4 none, Cond.fieldLink RX4 50 "MeshLamps$Mesh" "lostAsFull" "I", Cond.methodLink RX4 174 yX0_isFull, Cond.instanceMethod yX0_isFull, Cond.selects RX0 yX0_isFull yX0_isFull, Cond.code yX0_isFull cX0_isFull 1 (some .boolean), Cond.methodLink RX4 178 yX0_add, Cond.instanceMethod yX0_add, Cond.selects RX0 yX0_add yX0_add]
def wsX5_settle_r6 : List Cond := [Cond.code yX0_add cX0_add 5 none, Cond.methodLink RX0 28 yX0_isFull]
def wsX5_settle : List Cond := .code yX5_settle cX5_settle 2 (some .int) :: ((wsX5_settle_r1 ++ (wsX5_settle_r2 ++ (wsX5_settle_r3 ++ (wsX5_settle_r4 ++ (wsX5_settle_r5 ++ wsX5_settle_r6))))) ++ wsX50 ++ wsX40 ++ wsX00 ++ wsX10 ++ wsX20 ++ wsX30)
def wsX5_lamp_r1 : List Cond := [Cond.fieldLink RX5 10 "MeshLamps" "mesh" "LMeshLamps$Mesh;", Cond.fieldLink RX5 28 "MeshLamps$Mesh" "lamps" "[LMeshLamps$Lamp;", Cond.fieldLink RX5 152 "MeshLamps$Lamp" "light" "I", Cond.fieldLink RX5 68 "MeshLamps$Lamp" "sleeps" "Z", Cond.fieldLink RX5 72 "MeshLamps$Lamp" "friend" "I", Cond.fieldLink RX5 114 "MeshLamps$Lamp" "told" "I", Cond.fieldLink RX5 155 "MeshLamps$Lamp" "took" "I", Cond.fieldLink RX5 158 "MeshLamps$Lamp" "refusedAsOld" "I", Cond.fieldLink RX5 161 "MeshLamps$Lamp" "hadStrange" "I", Cond.fieldLink RX5 164 "MeshLamps$Lamp" "hadStale" "I", Cond.fieldLink RX5 167 "MeshLamps$Lamp" "hadNew" "I", Cond.fieldLink RX5 170 "MeshLamps$Lamp" "spoke" "I", Cond.fieldLink RX5 75 "MeshLamps$Lamp" "kept" "LMeshLamps$Line;", Cond.fieldLink RX5 173 "MeshLamps$Line" "size" "I", Cond.fieldLink RX5 58 "MeshLamps$Lamp" "mind" "LMeshLamps$Line;", Cond.fieldLink RX5 32 "MeshLamps$Lamp" "links" "I", Cond.methodLink RX5 20 yX5_isLamp, Cond.static yX5_isLamp, Cond.initialized RX5, Cond.code yX5_isLamp cX5_isLamp 1 (some .boolean), Cond.methodLink RX5 24 yX5_isBetween, Cond.static yX5_isBetween, Cond.code yX5_isBetween cX5_isBetween 3 (some .boolean), Cond.methodLink RX5 97 yX5_asNumber]
def wsX5_lamp_r2 : List Cond := [Cond.static yX5_asNumber, Cond.code yX5_asNumber cX5_asNumber 1 (some .int), Cond.methodLink RX5 42 yJ6_bitCount_0f7a4, Cond.static yJ6_bitCount_0f7a4, Cond.initialized RJ6, Cond.code yJ6_bitCount_0f7a4 cJ6_bitCount_0f7a4 1 (some .int), Cond.constant RJ6 265 (1431655765), Cond.constant RJ6 266 (858993459), Cond.constant RJ6 267 (252645135)]
def wsX5_lamp : List Cond := .code yX5_lamp cX5_lamp 4 (some .int) :: ((wsX5_lamp_r1 ++ wsX5_lamp_r2) ++ wsX50 ++ wsX40 ++ wsX10 ++ wsX30)
def wsX5_taken : List Cond := .code yX5_taken cX5_taken 3 (some .int) :: ([.fieldLink RX5 10 "MeshLamps" "mesh" "LMeshLamps$Mesh;", .fieldLink RX5 28 "MeshLamps$Mesh" "lamps" "[LMeshLamps$Lamp;", .fieldLink RX5 174 "MeshLamps$Lamp" "greatestTaken" "[I", .methodLink RX5 20 yX5_isLamp, .static yX5_isLamp, .initialized RX5, .code yX5_isLamp cX5_isLamp 1 (some .boolean), .methodLink RX5 24 yX5_isBetween, .static yX5_isBetween, .code yX5_isBetween cX5_isBetween 3 (some .boolean)] ++ wsX50 ++ wsX40 ++ wsX10)
def wsX5_mind : List Cond := .code yX5_mind cX5_mind 6 (some .int) :: ([.fieldLink RX5 10 "MeshLamps" "mesh" "LMeshLamps$Mesh;", .fieldLink RX5 28 "MeshLamps$Mesh" "lamps" "[LMeshLamps$Lamp;", .fieldLink RX5 58 "MeshLamps$Lamp" "mind" "LMeshLamps$Line;", .fieldLink RX5 173 "MeshLamps$Line" "size" "I", .fieldLink RX5 177 "MeshLamps$Line" "letters" "[I", .methodLink RX5 20 yX5_isLamp, .static yX5_isLamp, .initialized RX5, .code yX5_isLamp cX5_isLamp 1 (some .boolean), .methodLink RX5 24 yX5_isBetween, .static yX5_isBetween, .code yX5_isBetween cX5_isBetween 3 (some .boolean), .methodLink RX5 179 yX2_sourceOf, .static yX2_sourceOf, .initialized RX2, .code yX2_sourceOf cX2_sourceOf 1 (some .int), .methodLink RX5 182 yX2_numberOf, .static yX2_numberOf, .code yX2_numberOf cX2_numberOf 1 (some .int)] ++ wsX50 ++ wsX40 ++ wsX10 ++ wsX30)
def wsX5_air : List Cond := .code yX5_air cX5_air 4 (some .int) :: ([.fieldLink RX5 10 "MeshLamps" "mesh" "LMeshLamps$Mesh;", .fieldLink RX5 104 "MeshLamps$Mesh" "air" "LMeshLamps$Air;", .fieldLink RX5 143 "MeshLamps$Air" "size" "I", .fieldLink RX5 185 "MeshLamps$Air" "speaker" "[I", .fieldLink RX5 188 "MeshLamps$Air" "tick" "[I", .fieldLink RX5 190 "MeshLamps$Air" "letter" "[I", .fieldLink RX5 193 "MeshLamps$Air" "steps" "[I", .methodLink RX5 24 yX5_isBetween, .static yX5_isBetween, .initialized RX5, .code yX5_isBetween cX5_isBetween 3 (some .boolean), .methodLink RX5 179 yX2_sourceOf, .static yX2_sourceOf, .initialized RX2, .code yX2_sourceOf cX2_sourceOf 1 (some .int), .methodLink RX5 182 yX2_numberOf, .static yX2_numberOf, .code yX2_numberOf cX2_numberOf 1 (some .int)] ++ wsX50 ++ wsX40 ++ wsX00)
def wsX5_image_r1 : List Cond := [Cond.fieldLink RX5 16 "MeshLamps" "images" "[LMeshLamps$Mesh;", Cond.classLink RX5 7 RX4, Cond.instantiable RX4 11, Cond.initialized RX4, Cond.fieldLink RX5 10 "MeshLamps" "mesh" "LMeshLamps$Mesh;", Cond.methodLink RX5 24 yX5_isBetween, Cond.static yX5_isBetween, Cond.initialized RX5, Cond.code yX5_isBetween cX5_isBetween 3 (some .boolean), Cond.methodLink RX5 9 yX4_init, Cond.instanceMethod yX4_init, Cond.code yX4_init cX4_init 2 none, Cond.methodLink RX4 3 objectInit, Cond.instanceMethod objectInit, Cond.code objectInit ⟨#[0xb1]⟩ 1 none, Cond.classLink RX4 9 RX1, Cond.fieldLink RX4 11 "MeshLamps$Mesh" "lamps" "[LMeshLamps$Lamp;", Cond.classLink RX4 17 RX2, Cond.instantiable RX2 3, Cond.initialized RX2, Cond.fieldLink RX4 20 "MeshLamps$Mesh" "letters" "LMeshLamps$Letters;", Cond.classLink RX4 24 RX0, Cond.instantiable RX0 5, Cond.initialized RX0]
def wsX5_image_r2 : List Cond := [Cond.fieldLink RX4 27 "MeshLamps$Mesh" "air" "LMeshLamps$Air;", Cond.fieldLink RX4 31 "MeshLamps$Mesh" "tick" "I", Cond.fieldLink RX4 35 "MeshLamps$Mesh" "key" "I", Cond.fieldLink RX4 38 "MeshLamps$Mesh" "phase" "I", Cond.fieldLink RX4 41 "MeshLamps$Mesh" "haveKey" "I", Cond.fieldLink RX4 44 "MeshLamps$Mesh" "haveNext" "I", Cond.fieldLink RX4 47 "MeshLamps$Mesh" "spoken" "I", Cond.fieldLink RX4 50 "MeshLamps$Mesh" "lostAsFull" "I", Cond.fieldLink RX4 53 "MeshLamps$Mesh" "lostAsleep" "I", Cond.instantiable RX1 15, Cond.initialized RX1, Cond.instanceMethod yX2_init, Cond.code yX2_init cX2_init 1 none, Cond.methodLink RX2 3 objectInit, Cond.arrayClass .int, Cond.fieldLink RX2 11 "MeshLamps$Letters" "key" "[I", Cond.fieldLink RX2 15 "MeshLamps$Letters" "aim" "[I", Cond.fieldLink RX2 18 "MeshLamps$Letters" "value" "[I", Cond.instanceMethod yX0_init, Cond.code yX0_init cX0_init 1 none, Cond.methodLink RX0 3 objectInit, Cond.fieldLink RX0 9 "MeshLamps$Air" "speaker" "[I", Cond.fieldLink RX0 15 "MeshLamps$Air" "tick" "[I", Cond.fieldLink RX0 18 "MeshLamps$Air" "letter" "[I"]
def wsX5_image_r3 : List Cond := [Cond.fieldLink RX0 21 "MeshLamps$Air" "steps" "[I", Cond.fieldLink RX0 24 "MeshLamps$Air" "size" "I", Cond.instanceMethod yX1_init, Cond.code yX1_init cX1_init 1 none, Cond.methodLink RX1 3 objectInit, Cond.methodLink RX1 13 ⟨"[I", "clone", "()Ljava/lang/Object;"⟩, Cond.sameMethod "[I" "java/lang/Object" "clone" "()Ljava/lang/Object;", Cond.native ⟨"java/lang/Object", "clone", "()Ljava/lang/Object;"⟩, Cond.instanceMethod ⟨"java/lang/Object", "clone", "()Ljava/lang/Object;"⟩, Cond.selects "[I" ⟨"[I", "clone", "()Ljava/lang/Object;"⟩ ⟨"java/lang/Object", "clone", "()Ljava/lang/Object;"⟩, Cond.classLink RX1 14 "[I", Cond.fieldLink RX1 18 "MeshLamps$Lamp" "settings" "[I", Cond.fieldLink RX1 23 "MeshLamps$Lamp" "greatestTaken" "[I", Cond.classLink RX1 26 RX3, Cond.instantiable RX3 2, Cond.initialized RX3, Cond.fieldLink RX1 31 "MeshLamps$Lamp" "mind" "LMeshLamps$Line;", Cond.fieldLink RX1 35 "MeshLamps$Lamp" "kept" "LMeshLamps$Line;", Cond.fieldLink RX1 38 "MeshLamps$Lamp" "links" "I", Cond.fieldLink RX1 42 "MeshLamps$Lamp" "light" "I", Cond.fieldLink RX1 45 "MeshLamps$Lamp" "sleeps" "Z", Cond.fieldLink RX1 49 "MeshLamps$Lamp" "friend" "I", Cond.fieldLink RX1 52 "MeshLamps$Lamp" "told" "I", Cond.fieldLink RX1 55 "MeshLamps$Lamp" "took" "I"]
def wsX5_image_r4 : List Cond := [Cond.fieldLink RX1 58 "MeshLamps$Lamp" "refusedAsOld" "I", Cond.fieldLink RX1 61 "MeshLamps$Lamp" "hadStrange" "I", Cond.fieldLink RX1 64 "MeshLamps$Lamp" "hadStale" "I", Cond.fieldLink RX1 67 "MeshLamps$Lamp" "hadNew" "I", Cond.fieldLink RX1 70 "MeshLamps$Lamp" "spoke" "I", Cond.methodLink RX1 28 yX3_init, Cond.instanceMethod yX3_init, Cond.code yX3_init cX3_init 2 none, Cond.methodLink RX3 1 objectInit, Cond.fieldLink RX3 7 "MeshLamps$Line" "size" "I", Cond.methodLink RX3 13 Lib.Math.max.name, Cond.static Lib.Math.max.name, Cond.initialized "java/lang/Math", Cond.code Lib.Math.max.name Lib.Math.max.code 2 (some .int), Cond.fieldLink RX3 19 "MeshLamps$Line" "letters" "[I", Cond.methodLink RX5 196 yX4_become, Cond.instanceMethod yX4_become, Cond.selects RX4 yX4_become yX4_become, Cond.code yX4_become cX4_become 3 none, Cond.methodLink RX4 57 yX1_become, Cond.instanceMethod yX1_become, Cond.selects RX1 yX1_become yX1_become, Cond.code yX1_become cX1_become 2 none, Cond.methodLink RX1 73 arraycopyName]
def wsX5_image_r5 : List Cond := [Cond.native arraycopyName, Cond.static arraycopyName, Cond.initialized "java/lang/System", Cond.methodLink RX1 79 yX3_become, Cond.instanceMethod yX3_become, Cond.selects RX3 yX3_become yX3_become, Cond.code yX3_become cX3_become 2 none, Cond.methodLink RX3 27 Lib.Math.min.name, Cond.static Lib.Math.min.name, Cond.code Lib.Math.min.name Lib.Math.min.code 2 (some .int), Cond.methodLink RX3 30 arraycopyName, Cond.methodLink RX4 61 yX2_become, Cond.instanceMethod yX2_become, Cond.selects RX2 yX2_become yX2_become, Cond.code yX2_become cX2_become 2 none, Cond.methodLink RX2 21 arraycopyName, Cond.methodLink RX4 64 yX0_become, Cond.instanceMethod yX0_become, Cond.selects RX0 yX0_become yX0_become, Cond.code yX0_become cX0_become 2 none, Cond.methodLink RX0 32 arraycopyName]
def wsX5_image : List Cond := .code yX5_image cX5_image 3 (some .int) :: ((wsX5_image_r1 ++ (wsX5_image_r2 ++ (wsX5_image_r3 ++ (wsX5_image_r4 ++ wsX5_image_r5)))) ++ wsX50 ++ wsX40 ++ wsX20 ++ wsX00 ++ wsX10 ++ wsX30)
def wsX5_restore_r1 : List Cond := [Cond.fieldLink RX5 16 "MeshLamps" "images" "[LMeshLamps$Mesh;", Cond.fieldLink RX5 10 "MeshLamps" "mesh" "LMeshLamps$Mesh;", Cond.methodLink RX5 24 yX5_isBetween, Cond.static yX5_isBetween, Cond.initialized RX5, Cond.code yX5_isBetween cX5_isBetween 3 (some .boolean), Cond.methodLink RX5 196 yX4_become, Cond.instanceMethod yX4_become, Cond.selects RX4 yX4_become yX4_become, Cond.initialized RX4, Cond.code yX4_become cX4_become 3 none, Cond.fieldLink RX4 11 "MeshLamps$Mesh" "lamps" "[LMeshLamps$Lamp;", Cond.fieldLink RX4 20 "MeshLamps$Mesh" "letters" "LMeshLamps$Letters;", Cond.fieldLink RX4 27 "MeshLamps$Mesh" "air" "LMeshLamps$Air;", Cond.fieldLink RX4 31 "MeshLamps$Mesh" "tick" "I", Cond.fieldLink RX4 35 "MeshLamps$Mesh" "key" "I", Cond.fieldLink RX4 38 "MeshLamps$Mesh" "phase" "I", Cond.fieldLink RX4 41 "MeshLamps$Mesh" "haveKey" "I", Cond.fieldLink RX4 44 "MeshLamps$Mesh" "haveNext" "I", Cond.fieldLink RX4 47 "MeshLamps$Mesh" "spoken" "I", Cond.fieldLink RX4 50 "MeshLamps$Mesh" "lostAsFull" "I", Cond.fieldLink RX4 53 "MeshLamps$Mesh" "lostAsleep" "I", Cond.methodLink RX4 57 yX1_become, Cond.instanceMethod yX1_become]
def wsX5_restore_r2 : List Cond := [Cond.selects RX1 yX1_become yX1_become, Cond.initialized RX1, Cond.code yX1_become cX1_become 2 none, Cond.fieldLink RX1 18 "MeshLamps$Lamp" "settings" "[I", Cond.methodLink RX1 73 arraycopyName, Cond.native arraycopyName, Cond.static arraycopyName, Cond.initialized "java/lang/System", Cond.fieldLink RX1 23 "MeshLamps$Lamp" "greatestTaken" "[I", Cond.fieldLink RX1 31 "MeshLamps$Lamp" "mind" "LMeshLamps$Line;", Cond.fieldLink RX1 35 "MeshLamps$Lamp" "kept" "LMeshLamps$Line;", Cond.fieldLink RX1 38 "MeshLamps$Lamp" "links" "I", Cond.fieldLink RX1 42 "MeshLamps$Lamp" "light" "I", Cond.fieldLink RX1 45 "MeshLamps$Lamp" "sleeps" "Z", Cond.fieldLink RX1 49 "MeshLamps$Lamp" "friend" "I", Cond.fieldLink RX1 52 "MeshLamps$Lamp" "told" "I", Cond.fieldLink RX1 55 "MeshLamps$Lamp" "took" "I", Cond.fieldLink RX1 58 "MeshLamps$Lamp" "refusedAsOld" "I", Cond.fieldLink RX1 61 "MeshLamps$Lamp" "hadStrange" "I", Cond.fieldLink RX1 64 "MeshLamps$Lamp" "hadStale" "I", Cond.fieldLink RX1 67 "MeshLamps$Lamp" "hadNew" "I", Cond.fieldLink RX1 70 "MeshLamps$Lamp" "spoke" "I", Cond.methodLink RX1 79 yX3_become, Cond.instanceMethod yX3_become]
def wsX5_restore_r3 : List Cond := [Cond.selects RX3 yX3_become yX3_become, Cond.initialized RX3, Cond.code yX3_become cX3_become 2 none, Cond.fieldLink RX3 7 "MeshLamps$Line" "size" "I", Cond.fieldLink RX3 19 "MeshLamps$Line" "letters" "[I", Cond.methodLink RX3 27 Lib.Math.min.name, Cond.static Lib.Math.min.name, Cond.initialized "java/lang/Math", Cond.code Lib.Math.min.name Lib.Math.min.code 2 (some .int), Cond.methodLink RX3 30 arraycopyName, Cond.methodLink RX4 61 yX2_become, Cond.instanceMethod yX2_become, Cond.selects RX2 yX2_become yX2_become, Cond.initialized RX2, Cond.code yX2_become cX2_become 2 none, Cond.fieldLink RX2 11 "MeshLamps$Letters" "key" "[I", Cond.methodLink RX2 21 arraycopyName, Cond.fieldLink RX2 15 "MeshLamps$Letters" "aim" "[I", Cond.fieldLink RX2 18 "MeshLamps$Letters" "value" "[I", Cond.methodLink RX4 64 yX0_become, Cond.instanceMethod yX0_become, Cond.selects RX0 yX0_become yX0_become, Cond.initialized RX0, Cond.code yX0_become cX0_become 2 none]
def wsX5_restore_r4 : List Cond := [Cond.fieldLink RX0 24 "MeshLamps$Air" "size" "I", Cond.fieldLink RX0 9 "MeshLamps$Air" "speaker" "[I", Cond.methodLink RX0 32 arraycopyName, Cond.fieldLink RX0 15 "MeshLamps$Air" "tick" "[I", Cond.fieldLink RX0 18 "MeshLamps$Air" "letter" "[I", Cond.fieldLink RX0 21 "MeshLamps$Air" "steps" "[I"]
def wsX5_restore : List Cond := .code yX5_restore cX5_restore 3 (some .int) :: ((wsX5_restore_r1 ++ (wsX5_restore_r2 ++ (wsX5_restore_r3 ++ wsX5_restore_r4))) ++ wsX50 ++ wsX40 ++ wsX10 ++ wsX30 ++ wsX20 ++ wsX00)
def wsX5_keptImages : List Cond := .code yX5_keptImages cX5_keptImages 3 (some .int) :: ([.fieldLink RX5 16 "MeshLamps" "images" "[LMeshLamps$Mesh;", .methodLink RX5 38 yX5_changed, .static yX5_changed, .initialized RX5, .code yX5_changed cX5_changed 3 (some .int)] ++ wsX50)
def wsX5_count_r1 : List Cond := [Cond.fieldLink RX5 10 "MeshLamps" "mesh" "LMeshLamps$Mesh;", Cond.fieldLink RX5 138 "MeshLamps$Mesh" "tick" "I", Cond.fieldLink RX5 200 "MeshLamps$Mesh" "key" "I", Cond.fieldLink RX5 84 "MeshLamps$Mesh" "phase" "I", Cond.fieldLink RX5 104 "MeshLamps$Mesh" "air" "LMeshLamps$Air;", Cond.fieldLink RX5 143 "MeshLamps$Air" "size" "I", Cond.fieldLink RX5 146 "MeshLamps$Mesh" "spoken" "I", Cond.fieldLink RX5 210 "MeshLamps$Mesh" "lostAsFull" "I", Cond.fieldLink RX5 213 "MeshLamps$Mesh" "lostAsleep" "I", Cond.methodLink RX5 203 yX4_sleepers, Cond.instanceMethod yX4_sleepers, Cond.selects RX4 yX4_sleepers yX4_sleepers, Cond.initialized RX4, Cond.code yX4_sleepers cX4_sleepers 3 (some .int), Cond.fieldLink RX4 11 "MeshLamps$Mesh" "lamps" "[LMeshLamps$Lamp;", Cond.fieldLink RX4 109 "MeshLamps$Lamp" "sleeps" "Z", Cond.static yX5_asNumber, Cond.initialized RX5, Cond.code yX5_asNumber cX5_asNumber 1 (some .int), Cond.methodLink RX5 207 yX4_allLights, Cond.instanceMethod yX4_allLights, Cond.selects RX4 yX4_allLights yX4_allLights, Cond.code yX4_allLights cX4_allLights 3 (some .int), Cond.fieldLink RX4 193 "MeshLamps$Lamp" "light" "I"]
def wsX5_count_r2 : List Cond := [Cond.methodLink RX5 216 yX5_keptImages, Cond.instanceMethod yX5_keptImages, Cond.selects RX5 yX5_keptImages yX5_keptImages, Cond.code yX5_keptImages cX5_keptImages 3 (some .int), Cond.fieldLink RX5 16 "MeshLamps" "images" "[LMeshLamps$Mesh;", Cond.methodLink RX5 38 yX5_changed, Cond.static yX5_changed, Cond.code yX5_changed cX5_changed 3 (some .int)]
def wsX5_count : List Cond := .code yX5_count cX5_count 2 (some .int) :: ((wsX5_count_r1 ++ wsX5_count_r2) ++ wsX50 ++ wsX40 ++ wsX00 ++ wsX10)
def wsX6_init : List Cond := .code yX6_init cX6_init 2 none :: ([.methodLink RX6 1 objectInit, .instanceMethod objectInit, .code objectInit ⟨#[0xb1]⟩ 1 none, .arrayClass .int, .fieldLink RX6 7 "MeshLampsModel" "state" "[I", .fieldLink RX6 13 "MeshLampsModel" "images" "[I", .arrayClass .boolean, .fieldLink RX6 16 "MeshLampsModel" "isKept" "[Z"] ++ wsX60)
def wsX6_in : List Cond := .code yX6_in cX6_in 3 (some .boolean) :: ([])
def wsX6_isLamp : List Cond := .code yX6_isLamp cX6_isLamp 1 (some .boolean) :: ([.methodLink RX6 20 yX6_in, .static yX6_in, .initialized RX6, .code yX6_in cX6_in 3 (some .boolean)])
def wsX6_isOf : List Cond := .code yX6_isOf cX6_isOf 2 (some .boolean) :: ([])
def wsX6_bits : List Cond := .code yX6_bits cX6_bits 3 (some .int) :: ([])
def wsX6_sleeps : List Cond := .code yX6_sleeps cX6_sleeps 2 (some .boolean) :: ([.fieldLink RX6 7 "MeshLampsModel" "state" "[I"] ++ wsX60)
def wsX6_link : List Cond := .code yX6_link cX6_link 4 (some .int) :: ([.fieldLink RX6 7 "MeshLampsModel" "state" "[I", .methodLink RX6 24 yX6_isLamp, .static yX6_isLamp, .initialized RX6, .code yX6_isLamp cX6_isLamp 1 (some .boolean), .methodLink RX6 20 yX6_in, .static yX6_in, .code yX6_in cX6_in 3 (some .boolean), .methodLink RX6 28 yX6_bits, .static yX6_bits, .code yX6_bits cX6_bits 3 (some .int)] ++ wsX60)
def wsX6_forget : List Cond := .code yX6_forget cX6_forget 4 none :: ([.fieldLink RX6 7 "MeshLampsModel" "state" "[I"] ++ wsX60)
def wsX6_set : List Cond := .code yX6_set cX6_set 6 (some .int) :: ([.fieldLink RX6 7 "MeshLampsModel" "state" "[I", .methodLink RX6 24 yX6_isLamp, .static yX6_isLamp, .initialized RX6, .code yX6_isLamp cX6_isLamp 1 (some .boolean), .methodLink RX6 20 yX6_in, .static yX6_in, .code yX6_in cX6_in 3 (some .boolean), .methodLink RX6 32 yX6_forget, .instanceMethod yX6_forget, .selects RX6 yX6_forget yX6_forget, .code yX6_forget cX6_forget 4 none] ++ wsX60)
def wsX6_friend : List Cond := .code yX6_friend cX6_friend 4 (some .int) :: ([.fieldLink RX6 7 "MeshLampsModel" "state" "[I", .methodLink RX6 24 yX6_isLamp, .static yX6_isLamp, .initialized RX6, .code yX6_isLamp cX6_isLamp 1 (some .boolean), .methodLink RX6 20 yX6_in, .static yX6_in, .code yX6_in cX6_in 3 (some .boolean), .methodLink RX6 36 yX6_sleeps, .instanceMethod yX6_sleeps, .selects RX6 yX6_sleeps yX6_sleeps, .code yX6_sleeps cX6_sleeps 2 (some .boolean)] ++ wsX60)
def wsX6_phase : List Cond := .code yX6_phase cX6_phase 1 (some .int) :: ([.fieldLink RX6 7 "MeshLampsModel" "state" "[I"] ++ wsX60)
def wsX6_give : List Cond := .code yX6_give cX6_give 2 (some .int) :: ([.fieldLink RX6 7 "MeshLampsModel" "state" "[I", .methodLink RX6 24 yX6_isLamp, .static yX6_isLamp, .initialized RX6, .code yX6_isLamp cX6_isLamp 1 (some .boolean), .methodLink RX6 20 yX6_in, .static yX6_in, .code yX6_in cX6_in 3 (some .boolean), .methodLink RX6 28 yX6_bits, .static yX6_bits, .code yX6_bits cX6_bits 3 (some .int)] ++ wsX60)
def wsX6_letter : List Cond := .code yX6_letter cX6_letter 4 (some .int) :: ([.fieldLink RX6 7 "MeshLampsModel" "state" "[I"] ++ wsX60)
def wsX6_knows : List Cond := .code yX6_knows cX6_knows 5 (some .boolean) :: ([.fieldLink RX6 7 "MeshLampsModel" "state" "[I", .methodLink RX6 39 yX6_letter, .instanceMethod yX6_letter, .selects RX6 yX6_letter yX6_letter, .initialized RX6, .code yX6_letter cX6_letter 4 (some .int), .methodLink RX6 43 yX6_isOf, .static yX6_isOf, .code yX6_isOf cX6_isOf 2 (some .boolean)] ++ wsX60)
def wsX6_isMeant : List Cond := .code yX6_isMeant cX6_isMeant 5 (some .boolean) :: ([.fieldLink RX6 7 "MeshLampsModel" "state" "[I", .methodLink RX6 39 yX6_letter, .instanceMethod yX6_letter, .selects RX6 yX6_letter yX6_letter, .initialized RX6, .code yX6_letter cX6_letter 4 (some .int), .methodLink RX6 43 yX6_isOf, .static yX6_isOf, .code yX6_isOf cX6_isOf 2 (some .boolean)] ++ wsX60)
def wsX6_hasInMind : List Cond := .code yX6_hasInMind cX6_hasInMind 7 (some .boolean) :: ([.fieldLink RX6 7 "MeshLampsModel" "state" "[I"] ++ wsX60)
def wsX6_remember : List Cond := .code yX6_remember cX6_remember 5 none :: ([.fieldLink RX6 7 "MeshLampsModel" "state" "[I"] ++ wsX60)
def wsX6_addToAir : List Cond := .code yX6_addToAir cX6_addToAir 7 none :: ([.fieldLink RX6 7 "MeshLampsModel" "state" "[I"] ++ wsX60)
def wsX6_keyFor : List Cond := .code yX6_keyFor cX6_keyFor 2 (some .int) :: ([.fieldLink RX6 7 "MeshLampsModel" "state" "[I", .methodLink RX6 43 yX6_isOf, .static yX6_isOf, .initialized RX6, .code yX6_isOf cX6_isOf 2 (some .boolean)] ++ wsX60)
def wsX6_tell_r1 : List Cond := [Cond.fieldLink RX6 7 "MeshLampsModel" "state" "[I", Cond.methodLink RX6 24 yX6_isLamp, Cond.static yX6_isLamp, Cond.initialized RX6, Cond.code yX6_isLamp cX6_isLamp 1 (some .boolean), Cond.methodLink RX6 20 yX6_in, Cond.static yX6_in, Cond.code yX6_in cX6_in 3 (some .boolean), Cond.methodLink RX6 36 yX6_sleeps, Cond.instanceMethod yX6_sleeps, Cond.selects RX6 yX6_sleeps yX6_sleeps, Cond.code yX6_sleeps cX6_sleeps 2 (some .boolean), Cond.methodLink RX6 47 yX6_keyFor, Cond.instanceMethod yX6_keyFor, Cond.selects RX6 yX6_keyFor yX6_keyFor, Cond.code yX6_keyFor cX6_keyFor 2 (some .int), Cond.methodLink RX6 43 yX6_isOf, Cond.static yX6_isOf, Cond.code yX6_isOf cX6_isOf 2 (some .boolean), Cond.methodLink RX6 50 yX6_remember, Cond.instanceMethod yX6_remember, Cond.selects RX6 yX6_remember yX6_remember, Cond.code yX6_remember cX6_remember 5 none, Cond.methodLink RX6 54 yX6_addToAir]
def wsX6_tell_r2 : List Cond := [Cond.instanceMethod yX6_addToAir, Cond.selects RX6 yX6_addToAir yX6_addToAir, Cond.code yX6_addToAir cX6_addToAir 7 none]
def wsX6_tell : List Cond := .code yX6_tell cX6_tell 8 (some .int) :: ((wsX6_tell_r1 ++ wsX6_tell_r2) ++ wsX60)
def wsX6_replay : List Cond := .code yX6_replay cX6_replay 4 (some .int) :: ([.fieldLink RX6 7 "MeshLampsModel" "state" "[I", .methodLink RX6 24 yX6_isLamp, .static yX6_isLamp, .initialized RX6, .code yX6_isLamp cX6_isLamp 1 (some .boolean), .methodLink RX6 20 yX6_in, .static yX6_in, .code yX6_in cX6_in 3 (some .boolean), .methodLink RX6 54 yX6_addToAir, .instanceMethod yX6_addToAir, .selects RX6 yX6_addToAir yX6_addToAir, .code yX6_addToAir cX6_addToAir 7 none] ++ wsX60)
def wsX6_takes : List Cond := .code yX6_takes cX6_takes 5 (some .boolean) :: ([.fieldLink RX6 7 "MeshLampsModel" "state" "[I", .methodLink RX6 39 yX6_letter, .instanceMethod yX6_letter, .selects RX6 yX6_letter yX6_letter, .initialized RX6, .code yX6_letter cX6_letter 4 (some .int)] ++ wsX60)
def wsX6_keepFor : List Cond := .code yX6_keepFor cX6_keepFor 6 none :: ([.fieldLink RX6 7 "MeshLampsModel" "state" "[I"] ++ wsX60)
def wsX6_hear_r1 : List Cond := [Cond.fieldLink RX6 7 "MeshLampsModel" "state" "[I", Cond.methodLink RX6 58 yX6_knows, Cond.instanceMethod yX6_knows, Cond.selects RX6 yX6_knows yX6_knows, Cond.initialized RX6, Cond.code yX6_knows cX6_knows 5 (some .boolean), Cond.methodLink RX6 39 yX6_letter, Cond.instanceMethod yX6_letter, Cond.selects RX6 yX6_letter yX6_letter, Cond.code yX6_letter cX6_letter 4 (some .int), Cond.methodLink RX6 43 yX6_isOf, Cond.static yX6_isOf, Cond.code yX6_isOf cX6_isOf 2 (some .boolean), Cond.methodLink RX6 61 yX6_hasInMind, Cond.instanceMethod yX6_hasInMind, Cond.selects RX6 yX6_hasInMind yX6_hasInMind, Cond.code yX6_hasInMind cX6_hasInMind 7 (some .boolean), Cond.methodLink RX6 50 yX6_remember, Cond.instanceMethod yX6_remember, Cond.selects RX6 yX6_remember yX6_remember, Cond.code yX6_remember cX6_remember 5 none, Cond.methodLink RX6 64 yX6_isMeant, Cond.instanceMethod yX6_isMeant, Cond.selects RX6 yX6_isMeant yX6_isMeant]
def wsX6_hear_r2 : List Cond := [Cond.code yX6_isMeant cX6_isMeant 5 (some .boolean), Cond.methodLink RX6 67 yX6_takes, Cond.instanceMethod yX6_takes, Cond.selects RX6 yX6_takes yX6_takes, Cond.code yX6_takes cX6_takes 5 (some .boolean), Cond.methodLink RX6 36 yX6_sleeps, Cond.instanceMethod yX6_sleeps, Cond.selects RX6 yX6_sleeps yX6_sleeps, Cond.code yX6_sleeps cX6_sleeps 2 (some .boolean), Cond.methodLink RX6 70 yX6_keepFor, Cond.instanceMethod yX6_keepFor, Cond.selects RX6 yX6_keepFor yX6_keepFor, Cond.code yX6_keepFor cX6_keepFor 6 none, Cond.methodLink RX6 54 yX6_addToAir, Cond.instanceMethod yX6_addToAir, Cond.selects RX6 yX6_addToAir yX6_addToAir, Cond.code yX6_addToAir cX6_addToAir 7 none]
def wsX6_hear : List Cond := .code yX6_hear cX6_hear 6 none :: ((wsX6_hear_r1 ++ wsX6_hear_r2) ++ wsX60)
def wsX6_sleep_r1 : List Cond := [Cond.fieldLink RX6 7 "MeshLampsModel" "state" "[I", Cond.methodLink RX6 24 yX6_isLamp, Cond.static yX6_isLamp, Cond.initialized RX6, Cond.code yX6_isLamp cX6_isLamp 1 (some .boolean), Cond.methodLink RX6 20 yX6_in, Cond.static yX6_in, Cond.code yX6_in cX6_in 3 (some .boolean), Cond.methodLink RX6 36 yX6_sleeps, Cond.instanceMethod yX6_sleeps, Cond.selects RX6 yX6_sleeps yX6_sleeps, Cond.code yX6_sleeps cX6_sleeps 2 (some .boolean), Cond.methodLink RX6 58 yX6_knows, Cond.instanceMethod yX6_knows, Cond.selects RX6 yX6_knows yX6_knows, Cond.code yX6_knows cX6_knows 5 (some .boolean), Cond.methodLink RX6 39 yX6_letter, Cond.instanceMethod yX6_letter, Cond.selects RX6 yX6_letter yX6_letter, Cond.code yX6_letter cX6_letter 4 (some .int), Cond.methodLink RX6 43 yX6_isOf, Cond.static yX6_isOf, Cond.code yX6_isOf cX6_isOf 2 (some .boolean), Cond.methodLink RX6 67 yX6_takes]
def wsX6_sleep_r2 : List Cond := [Cond.instanceMethod yX6_takes, Cond.selects RX6 yX6_takes yX6_takes, Cond.code yX6_takes cX6_takes 5 (some .boolean)]
def wsX6_sleep : List Cond := .code yX6_sleep cX6_sleep 8 (some .int) :: ((wsX6_sleep_r1 ++ wsX6_sleep_r2) ++ wsX60)
def wsX6_dueNow : List Cond := .code yX6_dueNow cX6_dueNow 3 (some .int) :: ([.fieldLink RX6 7 "MeshLampsModel" "state" "[I"] ++ wsX60)
def wsX6_removeFromAir : List Cond := .code yX6_removeFromAir cX6_removeFromAir 3 none :: ([.fieldLink RX6 7 "MeshLampsModel" "state" "[I"] ++ wsX60)
def wsX6_speaks_r1 : List Cond := [Cond.fieldLink RX6 7 "MeshLampsModel" "state" "[I", Cond.methodLink RX6 73 yX6_removeFromAir, Cond.instanceMethod yX6_removeFromAir, Cond.selects RX6 yX6_removeFromAir yX6_removeFromAir, Cond.initialized RX6, Cond.code yX6_removeFromAir cX6_removeFromAir 3 none, Cond.methodLink RX6 36 yX6_sleeps, Cond.instanceMethod yX6_sleeps, Cond.selects RX6 yX6_sleeps yX6_sleeps, Cond.code yX6_sleeps cX6_sleeps 2 (some .boolean), Cond.methodLink RX6 43 yX6_isOf, Cond.static yX6_isOf, Cond.code yX6_isOf cX6_isOf 2 (some .boolean), Cond.methodLink RX6 76 yX6_hear, Cond.instanceMethod yX6_hear, Cond.selects RX6 yX6_hear yX6_hear, Cond.code yX6_hear cX6_hear 6 none, Cond.methodLink RX6 58 yX6_knows, Cond.instanceMethod yX6_knows, Cond.selects RX6 yX6_knows yX6_knows, Cond.code yX6_knows cX6_knows 5 (some .boolean), Cond.methodLink RX6 39 yX6_letter, Cond.instanceMethod yX6_letter, Cond.selects RX6 yX6_letter yX6_letter]
def wsX6_speaks_r2 : List Cond := [Cond.code yX6_letter cX6_letter 4 (some .int), Cond.methodLink RX6 61 yX6_hasInMind, Cond.instanceMethod yX6_hasInMind, Cond.selects RX6 yX6_hasInMind yX6_hasInMind, Cond.code yX6_hasInMind cX6_hasInMind 7 (some .boolean), Cond.methodLink RX6 50 yX6_remember, Cond.instanceMethod yX6_remember, Cond.selects RX6 yX6_remember yX6_remember, Cond.code yX6_remember cX6_remember 5 none, Cond.methodLink RX6 64 yX6_isMeant, Cond.instanceMethod yX6_isMeant, Cond.selects RX6 yX6_isMeant yX6_isMeant, Cond.code yX6_isMeant cX6_isMeant 5 (some .boolean), Cond.methodLink RX6 67 yX6_takes, Cond.instanceMethod yX6_takes, Cond.selects RX6 yX6_takes yX6_takes, Cond.code yX6_takes cX6_takes 5 (some .boolean), Cond.methodLink RX6 70 yX6_keepFor, Cond.instanceMethod yX6_keepFor, Cond.selects RX6 yX6_keepFor yX6_keepFor, Cond.code yX6_keepFor cX6_keepFor 6 none, Cond.methodLink RX6 54 yX6_addToAir, Cond.instanceMethod yX6_addToAir, Cond.selects RX6 yX6_addToAir yX6_addToAir]
def wsX6_speaks_r3 : List Cond := [Cond.code yX6_addToAir cX6_addToAir 7 none]
def wsX6_speaks : List Cond := .code yX6_speaks cX6_speaks 10 (some .boolean) :: ((wsX6_speaks_r1 ++ (wsX6_speaks_r2 ++ wsX6_speaks_r3)) ++ wsX60)
def wsX6_goOn_r1 : List Cond := [Cond.fieldLink RX6 7 "MeshLampsModel" "state" "[I", Cond.methodLink RX6 80 yX6_dueNow, Cond.instanceMethod yX6_dueNow, Cond.selects RX6 yX6_dueNow yX6_dueNow, Cond.initialized RX6, Cond.code yX6_dueNow cX6_dueNow 3 (some .int), Cond.methodLink RX6 84 yX6_speaks, Cond.instanceMethod yX6_speaks, Cond.selects RX6 yX6_speaks yX6_speaks, Cond.code yX6_speaks cX6_speaks 10 (some .boolean), Cond.methodLink RX6 73 yX6_removeFromAir, Cond.instanceMethod yX6_removeFromAir, Cond.selects RX6 yX6_removeFromAir yX6_removeFromAir, Cond.code yX6_removeFromAir cX6_removeFromAir 3 none, Cond.methodLink RX6 36 yX6_sleeps, Cond.instanceMethod yX6_sleeps, Cond.selects RX6 yX6_sleeps yX6_sleeps, Cond.code yX6_sleeps cX6_sleeps 2 (some .boolean), Cond.methodLink RX6 43 yX6_isOf, Cond.static yX6_isOf, Cond.code yX6_isOf cX6_isOf 2 (some .boolean), Cond.methodLink RX6 76 yX6_hear, Cond.instanceMethod yX6_hear, Cond.selects RX6 yX6_hear yX6_hear]
def wsX6_goOn_r2 : List Cond := [Cond.code yX6_hear cX6_hear 6 none, Cond.methodLink RX6 58 yX6_knows, Cond.instanceMethod yX6_knows, Cond.selects RX6 yX6_knows yX6_knows, Cond.code yX6_knows cX6_knows 5 (some .boolean), Cond.methodLink RX6 39 yX6_letter, Cond.instanceMethod yX6_letter, Cond.selects RX6 yX6_letter yX6_letter, Cond.code yX6_letter cX6_letter 4 (some .int), Cond.methodLink RX6 61 yX6_hasInMind, Cond.instanceMethod yX6_hasInMind, Cond.selects RX6 yX6_hasInMind yX6_hasInMind, Cond.code yX6_hasInMind cX6_hasInMind 7 (some .boolean), Cond.methodLink RX6 50 yX6_remember, Cond.instanceMethod yX6_remember, Cond.selects RX6 yX6_remember yX6_remember, Cond.code yX6_remember cX6_remember 5 none, Cond.methodLink RX6 64 yX6_isMeant, Cond.instanceMethod yX6_isMeant, Cond.selects RX6 yX6_isMeant yX6_isMeant, Cond.code yX6_isMeant cX6_isMeant 5 (some .boolean), Cond.methodLink RX6 67 yX6_takes, Cond.instanceMethod yX6_takes, Cond.selects RX6 yX6_takes yX6_takes]
def wsX6_goOn_r3 : List Cond := [Cond.code yX6_takes cX6_takes 5 (some .boolean), Cond.methodLink RX6 70 yX6_keepFor, Cond.instanceMethod yX6_keepFor, Cond.selects RX6 yX6_keepFor yX6_keepFor, Cond.code yX6_keepFor cX6_keepFor 6 none, Cond.methodLink RX6 54 yX6_addToAir, Cond.instanceMethod yX6_addToAir, Cond.selects RX6 yX6_addToAir yX6_addToAir, Cond.code yX6_addToAir cX6_addToAir 7 none]
def wsX6_goOn : List Cond := .code yX6_goOn cX6_goOn 3 (some .int) :: ((wsX6_goOn_r1 ++ (wsX6_goOn_r2 ++ wsX6_goOn_r3)) ++ wsX60)
def wsX6_pass_r1 : List Cond := [Cond.methodLink RX6 20 yX6_in, Cond.static yX6_in, Cond.initialized RX6, Cond.code yX6_in cX6_in 3 (some .boolean), Cond.methodLink RX6 87 yX6_goOn, Cond.instanceMethod yX6_goOn, Cond.selects RX6 yX6_goOn yX6_goOn, Cond.code yX6_goOn cX6_goOn 3 (some .int), Cond.fieldLink RX6 7 "MeshLampsModel" "state" "[I", Cond.methodLink RX6 80 yX6_dueNow, Cond.instanceMethod yX6_dueNow, Cond.selects RX6 yX6_dueNow yX6_dueNow, Cond.code yX6_dueNow cX6_dueNow 3 (some .int), Cond.methodLink RX6 84 yX6_speaks, Cond.instanceMethod yX6_speaks, Cond.selects RX6 yX6_speaks yX6_speaks, Cond.code yX6_speaks cX6_speaks 10 (some .boolean), Cond.methodLink RX6 73 yX6_removeFromAir, Cond.instanceMethod yX6_removeFromAir, Cond.selects RX6 yX6_removeFromAir yX6_removeFromAir, Cond.code yX6_removeFromAir cX6_removeFromAir 3 none, Cond.methodLink RX6 36 yX6_sleeps, Cond.instanceMethod yX6_sleeps, Cond.selects RX6 yX6_sleeps yX6_sleeps]
def wsX6_pass_r2 : List Cond := [Cond.code yX6_sleeps cX6_sleeps 2 (some .boolean), Cond.methodLink RX6 43 yX6_isOf, Cond.static yX6_isOf, Cond.code yX6_isOf cX6_isOf 2 (some .boolean), Cond.methodLink RX6 76 yX6_hear, Cond.instanceMethod yX6_hear, Cond.selects RX6 yX6_hear yX6_hear, Cond.code yX6_hear cX6_hear 6 none, Cond.methodLink RX6 58 yX6_knows, Cond.instanceMethod yX6_knows, Cond.selects RX6 yX6_knows yX6_knows, Cond.code yX6_knows cX6_knows 5 (some .boolean), Cond.methodLink RX6 39 yX6_letter, Cond.instanceMethod yX6_letter, Cond.selects RX6 yX6_letter yX6_letter, Cond.code yX6_letter cX6_letter 4 (some .int), Cond.methodLink RX6 61 yX6_hasInMind, Cond.instanceMethod yX6_hasInMind, Cond.selects RX6 yX6_hasInMind yX6_hasInMind, Cond.code yX6_hasInMind cX6_hasInMind 7 (some .boolean), Cond.methodLink RX6 50 yX6_remember, Cond.instanceMethod yX6_remember, Cond.selects RX6 yX6_remember yX6_remember, Cond.code yX6_remember cX6_remember 5 none]
def wsX6_pass_r3 : List Cond := [Cond.methodLink RX6 64 yX6_isMeant, Cond.instanceMethod yX6_isMeant, Cond.selects RX6 yX6_isMeant yX6_isMeant, Cond.code yX6_isMeant cX6_isMeant 5 (some .boolean), Cond.methodLink RX6 67 yX6_takes, Cond.instanceMethod yX6_takes, Cond.selects RX6 yX6_takes yX6_takes, Cond.code yX6_takes cX6_takes 5 (some .boolean), Cond.methodLink RX6 70 yX6_keepFor, Cond.instanceMethod yX6_keepFor, Cond.selects RX6 yX6_keepFor yX6_keepFor, Cond.code yX6_keepFor cX6_keepFor 6 none, Cond.methodLink RX6 54 yX6_addToAir, Cond.instanceMethod yX6_addToAir, Cond.selects RX6 yX6_addToAir yX6_addToAir, Cond.code yX6_addToAir cX6_addToAir 7 none]
def wsX6_pass : List Cond := .code yX6_pass cX6_pass 4 (some .int) :: ((wsX6_pass_r1 ++ (wsX6_pass_r2 ++ wsX6_pass_r3)) ++ wsX60)
def wsX6_settle_r1 : List Cond := [Cond.fieldLink RX6 7 "MeshLampsModel" "state" "[I", Cond.methodLink RX6 87 yX6_goOn, Cond.instanceMethod yX6_goOn, Cond.selects RX6 yX6_goOn yX6_goOn, Cond.initialized RX6, Cond.code yX6_goOn cX6_goOn 3 (some .int), Cond.methodLink RX6 80 yX6_dueNow, Cond.instanceMethod yX6_dueNow, Cond.selects RX6 yX6_dueNow yX6_dueNow, Cond.code yX6_dueNow cX6_dueNow 3 (some .int), Cond.methodLink RX6 84 yX6_speaks, Cond.instanceMethod yX6_speaks, Cond.selects RX6 yX6_speaks yX6_speaks, Cond.code yX6_speaks cX6_speaks 10 (some .boolean), Cond.methodLink RX6 73 yX6_removeFromAir, Cond.instanceMethod yX6_removeFromAir, Cond.selects RX6 yX6_removeFromAir yX6_removeFromAir, Cond.code yX6_removeFromAir cX6_removeFromAir 3 none, Cond.methodLink RX6 36 yX6_sleeps, Cond.instanceMethod yX6_sleeps, Cond.selects RX6 yX6_sleeps yX6_sleeps, Cond.code yX6_sleeps cX6_sleeps 2 (some .boolean), Cond.methodLink RX6 43 yX6_isOf, Cond.static yX6_isOf]
def wsX6_settle_r2 : List Cond := [Cond.code yX6_isOf cX6_isOf 2 (some .boolean), Cond.methodLink RX6 76 yX6_hear, Cond.instanceMethod yX6_hear, Cond.selects RX6 yX6_hear yX6_hear, Cond.code yX6_hear cX6_hear 6 none, Cond.methodLink RX6 58 yX6_knows, Cond.instanceMethod yX6_knows, Cond.selects RX6 yX6_knows yX6_knows, Cond.code yX6_knows cX6_knows 5 (some .boolean), Cond.methodLink RX6 39 yX6_letter, Cond.instanceMethod yX6_letter, Cond.selects RX6 yX6_letter yX6_letter, Cond.code yX6_letter cX6_letter 4 (some .int), Cond.methodLink RX6 61 yX6_hasInMind, Cond.instanceMethod yX6_hasInMind, Cond.selects RX6 yX6_hasInMind yX6_hasInMind, Cond.code yX6_hasInMind cX6_hasInMind 7 (some .boolean), Cond.methodLink RX6 50 yX6_remember, Cond.instanceMethod yX6_remember, Cond.selects RX6 yX6_remember yX6_remember, Cond.code yX6_remember cX6_remember 5 none, Cond.methodLink RX6 64 yX6_isMeant, Cond.instanceMethod yX6_isMeant, Cond.selects RX6 yX6_isMeant yX6_isMeant]
def wsX6_settle_r3 : List Cond := [Cond.code yX6_isMeant cX6_isMeant 5 (some .boolean), Cond.methodLink RX6 67 yX6_takes, Cond.instanceMethod yX6_takes, Cond.selects RX6 yX6_takes yX6_takes, Cond.code yX6_takes cX6_takes 5 (some .boolean), Cond.methodLink RX6 70 yX6_keepFor, Cond.instanceMethod yX6_keepFor, Cond.selects RX6 yX6_keepFor yX6_keepFor, Cond.code yX6_keepFor cX6_keepFor 6 none, Cond.methodLink RX6 54 yX6_addToAir, Cond.instanceMethod yX6_addToAir, Cond.selects RX6 yX6_addToAir yX6_addToAir, Cond.code yX6_addToAir cX6_addToAir 7 none]
def wsX6_settle : List Cond := .code yX6_settle cX6_settle 2 (some .int) :: ((wsX6_settle_r1 ++ (wsX6_settle_r2 ++ wsX6_settle_r3)) ++ wsX60)
def wsX6_has : List Cond := .code yX6_has cX6_has 3 (some .int) :: ([.fieldLink RX6 7 "MeshLampsModel" "state" "[I", .methodLink RX6 24 yX6_isLamp, .static yX6_isLamp, .initialized RX6, .code yX6_isLamp cX6_isLamp 1 (some .boolean), .methodLink RX6 20 yX6_in, .static yX6_in, .code yX6_in cX6_in 3 (some .boolean), .methodLink RX6 43 yX6_isOf, .static yX6_isOf, .code yX6_isOf cX6_isOf 2 (some .boolean)] ++ wsX60)
def wsX6_lamp : List Cond := .code yX6_lamp cX6_lamp 3 (some .int) :: ([.fieldLink RX6 7 "MeshLampsModel" "state" "[I", .methodLink RX6 24 yX6_isLamp, .static yX6_isLamp, .initialized RX6, .code yX6_isLamp cX6_isLamp 1 (some .boolean), .methodLink RX6 20 yX6_in, .static yX6_in, .code yX6_in cX6_in 3 (some .boolean), .methodLink RX6 28 yX6_bits, .static yX6_bits, .code yX6_bits cX6_bits 3 (some .int)] ++ wsX60)
def wsX6_taken : List Cond := .code yX6_taken cX6_taken 3 (some .int) :: ([.fieldLink RX6 7 "MeshLampsModel" "state" "[I", .methodLink RX6 24 yX6_isLamp, .static yX6_isLamp, .initialized RX6, .code yX6_isLamp cX6_isLamp 1 (some .boolean), .methodLink RX6 20 yX6_in, .static yX6_in, .code yX6_in cX6_in 3 (some .boolean)] ++ wsX60)
def wsX6_mind : List Cond := .code yX6_mind cX6_mind 4 (some .int) :: ([.fieldLink RX6 7 "MeshLampsModel" "state" "[I", .methodLink RX6 24 yX6_isLamp, .static yX6_isLamp, .initialized RX6, .code yX6_isLamp cX6_isLamp 1 (some .boolean), .methodLink RX6 20 yX6_in, .static yX6_in, .code yX6_in cX6_in 3 (some .boolean)] ++ wsX60)
def wsX6_air : List Cond := .code yX6_air cX6_air 3 (some .int) :: ([.fieldLink RX6 7 "MeshLampsModel" "state" "[I", .methodLink RX6 20 yX6_in, .static yX6_in, .initialized RX6, .code yX6_in cX6_in 3 (some .boolean)] ++ wsX60)
def wsX6_image : List Cond := .code yX6_image cX6_image 3 (some .int) :: ([.fieldLink RX6 13 "MeshLampsModel" "images" "[I", .fieldLink RX6 7 "MeshLampsModel" "state" "[I", .fieldLink RX6 16 "MeshLampsModel" "isKept" "[Z", .methodLink RX6 20 yX6_in, .static yX6_in, .initialized RX6, .code yX6_in cX6_in 3 (some .boolean)] ++ wsX60)
def wsX6_restore : List Cond := .code yX6_restore cX6_restore 3 (some .int) :: ([.fieldLink RX6 16 "MeshLampsModel" "isKept" "[Z", .fieldLink RX6 7 "MeshLampsModel" "state" "[I", .fieldLink RX6 13 "MeshLampsModel" "images" "[I", .methodLink RX6 20 yX6_in, .static yX6_in, .initialized RX6, .code yX6_in cX6_in 3 (some .boolean)] ++ wsX60)
def wsX6_asleep : List Cond := .code yX6_asleep cX6_asleep 3 (some .int) :: ([.fieldLink RX6 7 "MeshLampsModel" "state" "[I"] ++ wsX60)
def wsX6_lights : List Cond := .code yX6_lights cX6_lights 3 (some .int) :: ([.fieldLink RX6 7 "MeshLampsModel" "state" "[I"] ++ wsX60)
def wsX6_count : List Cond := .code yX6_count cX6_count 2 (some .int) :: ([.fieldLink RX6 7 "MeshLampsModel" "state" "[I", .fieldLink RX6 16 "MeshLampsModel" "isKept" "[Z", .methodLink RX6 90 yX6_asleep, .instanceMethod yX6_asleep, .selects RX6 yX6_asleep yX6_asleep, .initialized RX6, .code yX6_asleep cX6_asleep 3 (some .int), .methodLink RX6 93 yX6_lights, .instanceMethod yX6_lights, .selects RX6 yX6_lights yX6_lights, .code yX6_lights cX6_lights 3 (some .int)] ++ wsX60)
def wsJ9_max_7cf53 : List Cond := .code yJ9_max_7cf53 cJ9_max_7cf53 2 (some .int) :: ([])
def wsJ9_min_7cf53 : List Cond := .code yJ9_min_7cf53 cJ9_min_7cf53 2 (some .int) :: ([])
def wsL_law_r1 : List Cond := [Cond.classLink RL 7 RX5, Cond.instantiable RX5 2, Cond.initialized RX5, Cond.classLink RL 10 RX6, Cond.instantiable RX6 3, Cond.initialized RX6, Cond.methodLink RL 9 yX5_init, Cond.instanceMethod yX5_init, Cond.code yX5_init cX5_init 1 none, Cond.methodLink RX5 1 objectInit, Cond.instanceMethod objectInit, Cond.code objectInit ⟨#[0xb1]⟩ 1 none, Cond.classLink RX5 7 RX4, Cond.instantiable RX4 11, Cond.initialized RX4, Cond.fieldLink RX5 10 "MeshLamps" "mesh" "LMeshLamps$Mesh;", Cond.fieldLink RX5 16 "MeshLamps" "images" "[LMeshLamps$Mesh;", Cond.methodLink RX5 9 yX4_init, Cond.instanceMethod yX4_init, Cond.code yX4_init cX4_init 2 none, Cond.methodLink RX4 3 objectInit, Cond.classLink RX4 9 RX1, Cond.fieldLink RX4 11 "MeshLamps$Mesh" "lamps" "[LMeshLamps$Lamp;", Cond.classLink RX4 17 RX2]
def wsL_law_r2 : List Cond := [Cond.instantiable RX2 3, Cond.initialized RX2, Cond.fieldLink RX4 20 "MeshLamps$Mesh" "letters" "LMeshLamps$Letters;", Cond.classLink RX4 24 RX0, Cond.instantiable RX0 5, Cond.initialized RX0, Cond.fieldLink RX4 27 "MeshLamps$Mesh" "air" "LMeshLamps$Air;", Cond.fieldLink RX4 31 "MeshLamps$Mesh" "tick" "I", Cond.fieldLink RX4 35 "MeshLamps$Mesh" "key" "I", Cond.fieldLink RX4 38 "MeshLamps$Mesh" "phase" "I", Cond.fieldLink RX4 41 "MeshLamps$Mesh" "haveKey" "I", Cond.fieldLink RX4 44 "MeshLamps$Mesh" "haveNext" "I", Cond.fieldLink RX4 47 "MeshLamps$Mesh" "spoken" "I", Cond.fieldLink RX4 50 "MeshLamps$Mesh" "lostAsFull" "I", Cond.fieldLink RX4 53 "MeshLamps$Mesh" "lostAsleep" "I", Cond.instantiable RX1 15, Cond.initialized RX1, Cond.instanceMethod yX2_init, Cond.code yX2_init cX2_init 1 none, Cond.methodLink RX2 3 objectInit, Cond.arrayClass .int, Cond.fieldLink RX2 11 "MeshLamps$Letters" "key" "[I", Cond.fieldLink RX2 15 "MeshLamps$Letters" "aim" "[I", Cond.fieldLink RX2 18 "MeshLamps$Letters" "value" "[I"]
def wsL_law_r3 : List Cond := [Cond.instanceMethod yX0_init, Cond.code yX0_init cX0_init 1 none, Cond.methodLink RX0 3 objectInit, Cond.fieldLink RX0 9 "MeshLamps$Air" "speaker" "[I", Cond.fieldLink RX0 15 "MeshLamps$Air" "tick" "[I", Cond.fieldLink RX0 18 "MeshLamps$Air" "letter" "[I", Cond.fieldLink RX0 21 "MeshLamps$Air" "steps" "[I", Cond.fieldLink RX0 24 "MeshLamps$Air" "size" "I", Cond.instanceMethod yX1_init, Cond.code yX1_init cX1_init 1 none, Cond.methodLink RX1 3 objectInit, Cond.methodLink RX1 13 ⟨"[I", "clone", "()Ljava/lang/Object;"⟩, Cond.sameMethod "[I" "java/lang/Object" "clone" "()Ljava/lang/Object;", Cond.native ⟨"java/lang/Object", "clone", "()Ljava/lang/Object;"⟩, Cond.instanceMethod ⟨"java/lang/Object", "clone", "()Ljava/lang/Object;"⟩, Cond.selects "[I" ⟨"[I", "clone", "()Ljava/lang/Object;"⟩ ⟨"java/lang/Object", "clone", "()Ljava/lang/Object;"⟩, Cond.classLink RX1 14 "[I", Cond.fieldLink RX1 18 "MeshLamps$Lamp" "settings" "[I", Cond.fieldLink RX1 23 "MeshLamps$Lamp" "greatestTaken" "[I", Cond.classLink RX1 26 RX3, Cond.instantiable RX3 2, Cond.initialized RX3, Cond.fieldLink RX1 31 "MeshLamps$Lamp" "mind" "LMeshLamps$Line;", Cond.fieldLink RX1 35 "MeshLamps$Lamp" "kept" "LMeshLamps$Line;"]
def wsL_law_r4 : List Cond := [Cond.fieldLink RX1 38 "MeshLamps$Lamp" "links" "I", Cond.fieldLink RX1 42 "MeshLamps$Lamp" "light" "I", Cond.fieldLink RX1 45 "MeshLamps$Lamp" "sleeps" "Z", Cond.fieldLink RX1 49 "MeshLamps$Lamp" "friend" "I", Cond.fieldLink RX1 52 "MeshLamps$Lamp" "told" "I", Cond.fieldLink RX1 55 "MeshLamps$Lamp" "took" "I", Cond.fieldLink RX1 58 "MeshLamps$Lamp" "refusedAsOld" "I", Cond.fieldLink RX1 61 "MeshLamps$Lamp" "hadStrange" "I", Cond.fieldLink RX1 64 "MeshLamps$Lamp" "hadStale" "I", Cond.fieldLink RX1 67 "MeshLamps$Lamp" "hadNew" "I", Cond.fieldLink RX1 70 "MeshLamps$Lamp" "spoke" "I", Cond.methodLink RX1 28 yX3_init, Cond.instanceMethod yX3_init, Cond.code yX3_init cX3_init 2 none, Cond.methodLink RX3 1 objectInit, Cond.fieldLink RX3 7 "MeshLamps$Line" "size" "I", Cond.methodLink RX3 13 Lib.Math.max.name, Cond.static Lib.Math.max.name, Cond.initialized "java/lang/Math", Cond.code Lib.Math.max.name Lib.Math.max.code 2 (some .int), Cond.fieldLink RX3 19 "MeshLamps$Line" "letters" "[I", Cond.methodLink RL 12 yX6_init, Cond.instanceMethod yX6_init, Cond.code yX6_init cX6_init 2 none]
def wsL_law_r5 : List Cond := [Cond.methodLink RX6 1 objectInit, Cond.fieldLink RX6 7 "MeshLampsModel" "state" "[I", Cond.fieldLink RX6 13 "MeshLampsModel" "images" "[I", Cond.arrayClass .boolean, Cond.fieldLink RX6 16 "MeshLampsModel" "isKept" "[Z", Cond.methodLink RL 13 yX5_link, Cond.instanceMethod yX5_link, Cond.selects RX5 yX5_link yX5_link, Cond.code yX5_link cX5_link 6 (some .int), Cond.fieldLink RX5 28 "MeshLamps$Mesh" "lamps" "[LMeshLamps$Lamp;", Cond.fieldLink RX5 32 "MeshLamps$Lamp" "links" "I", Cond.methodLink RX5 20 yX5_isLamp, Cond.static yX5_isLamp, Cond.code yX5_isLamp cX5_isLamp 1 (some .boolean), Cond.methodLink RX5 24 yX5_isBetween, Cond.static yX5_isBetween, Cond.code yX5_isBetween cX5_isBetween 3 (some .boolean), Cond.methodLink RX5 38 yX5_changed, Cond.static yX5_changed, Cond.code yX5_changed cX5_changed 3 (some .int), Cond.methodLink RX5 42 yJ6_bitCount_0f7a4, Cond.static yJ6_bitCount_0f7a4, Cond.initialized RJ6, Cond.code yJ6_bitCount_0f7a4 cJ6_bitCount_0f7a4 1 (some .int)]
def wsL_law_r6 : List Cond := [Cond.constant RJ6 265 (1431655765), Cond.constant RJ6 266 (858993459), Cond.constant RJ6 267 (252645135), Cond.methodLink RL 17 yX6_link, Cond.instanceMethod yX6_link, Cond.selects RX6 yX6_link yX6_link, Cond.code yX6_link cX6_link 4 (some .int), Cond.methodLink RX6 24 yX6_isLamp, Cond.static yX6_isLamp, Cond.code yX6_isLamp cX6_isLamp 1 (some .boolean), Cond.methodLink RX6 20 yX6_in, Cond.static yX6_in, Cond.code yX6_in cX6_in 3 (some .boolean), Cond.methodLink RX6 28 yX6_bits, Cond.static yX6_bits, Cond.code yX6_bits cX6_bits 3 (some .int), Cond.methodLink RL 18 yX5_set, Cond.instanceMethod yX5_set, Cond.selects RX5 yX5_set yX5_set, Cond.code yX5_set cX5_set 6 (some .int), Cond.fieldLink RX5 48 "MeshLamps" "LEAST_SETTING" "[I", Cond.fieldLink RX5 52 "MeshLamps" "MOST_SETTING" "[I", Cond.fieldLink RX5 55 "MeshLamps$Lamp" "settings" "[I", Cond.fieldLink RX5 58 "MeshLamps$Lamp" "mind" "LMeshLamps$Line;"]
def wsL_law_r7 : List Cond := [Cond.methodLink RX5 62 yX3_dropOldest, Cond.instanceMethod yX3_dropOldest, Cond.selects RX3 yX3_dropOldest yX3_dropOldest, Cond.code yX3_dropOldest cX3_dropOldest 5 none, Cond.methodLink RL 21 yX6_set, Cond.instanceMethod yX6_set, Cond.selects RX6 yX6_set yX6_set, Cond.code yX6_set cX6_set 6 (some .int), Cond.methodLink RX6 32 yX6_forget, Cond.instanceMethod yX6_forget, Cond.selects RX6 yX6_forget yX6_forget, Cond.code yX6_forget cX6_forget 4 none, Cond.methodLink RL 22 yX5_friend, Cond.instanceMethod yX5_friend, Cond.selects RX5 yX5_friend yX5_friend, Cond.code yX5_friend cX5_friend 5 (some .int), Cond.fieldLink RX5 68 "MeshLamps$Lamp" "sleeps" "Z", Cond.fieldLink RX5 72 "MeshLamps$Lamp" "friend" "I", Cond.fieldLink RX5 75 "MeshLamps$Lamp" "kept" "LMeshLamps$Line;", Cond.methodLink RL 26 yX6_friend, Cond.instanceMethod yX6_friend, Cond.selects RX6 yX6_friend yX6_friend, Cond.code yX6_friend cX6_friend 4 (some .int), Cond.methodLink RX6 36 yX6_sleeps]
def wsL_law_r8 : List Cond := [Cond.instanceMethod yX6_sleeps, Cond.selects RX6 yX6_sleeps yX6_sleeps, Cond.code yX6_sleeps cX6_sleeps 2 (some .boolean), Cond.methodLink RL 27 yX5_sleep, Cond.instanceMethod yX5_sleep, Cond.selects RX5 yX5_sleep yX5_sleep, Cond.code yX5_sleep cX5_sleep 4 (some .int), Cond.methodLink RX5 78 yX4_wake, Cond.instanceMethod yX4_wake, Cond.selects RX4 yX4_wake yX4_wake, Cond.code yX4_wake cX4_wake 6 (some .int), Cond.fieldLink RX4 196 "MeshLamps$Lamp" "took" "I", Cond.fieldLink RX4 109 "MeshLamps$Lamp" "sleeps" "Z", Cond.fieldLink RX4 171 "MeshLamps$Lamp" "kept" "LMeshLamps$Line;", Cond.fieldLink RX4 199 "MeshLamps$Line" "size" "I", Cond.fieldLink RX4 200 "MeshLamps$Line" "letters" "[I", Cond.fieldLink RX4 129 "MeshLamps$Lamp" "hadStrange" "I", Cond.methodLink RX4 126 yX4_knows, Cond.instanceMethod yX4_knows, Cond.selects RX4 yX4_knows yX4_knows, Cond.code yX4_knows cX4_knows 4 (some .boolean), Cond.fieldLink RX4 75 "MeshLamps$Letters" "key" "[I", Cond.static yX5_isIn, Cond.code yX5_isIn cX5_isIn 2 (some .boolean)]
def wsL_law_r9 : List Cond := [Cond.methodLink RX4 158 yX4_take, Cond.instanceMethod yX4_take, Cond.selects RX4 yX4_take yX4_take, Cond.code yX4_take cX4_take 5 none, Cond.fieldLink RX4 184 "MeshLamps$Lamp" "greatestTaken" "[I", Cond.fieldLink RX4 187 "MeshLamps$Lamp" "refusedAsOld" "I", Cond.fieldLink RX4 190 "MeshLamps$Letters" "value" "[I", Cond.fieldLink RX4 193 "MeshLamps$Lamp" "light" "I", Cond.methodLink RX4 151 yX2_sourceOf, Cond.static yX2_sourceOf, Cond.code yX2_sourceOf cX2_sourceOf 1 (some .int), Cond.methodLink RX4 181 yX2_numberOf, Cond.static yX2_numberOf, Cond.code yX2_numberOf cX2_numberOf 1 (some .int), Cond.methodLink RX4 202 yX3_dropOldest, Cond.methodLink RL 30 yX6_sleep, Cond.instanceMethod yX6_sleep, Cond.selects RX6 yX6_sleep yX6_sleep, Cond.code yX6_sleep cX6_sleep 8 (some .int), Cond.methodLink RX6 58 yX6_knows, Cond.instanceMethod yX6_knows, Cond.selects RX6 yX6_knows yX6_knows, Cond.code yX6_knows cX6_knows 5 (some .boolean), Cond.methodLink RX6 39 yX6_letter]
def wsL_law_r10 : List Cond := [Cond.instanceMethod yX6_letter, Cond.selects RX6 yX6_letter yX6_letter, Cond.code yX6_letter cX6_letter 4 (some .int), Cond.methodLink RX6 43 yX6_isOf, Cond.static yX6_isOf, Cond.code yX6_isOf cX6_isOf 2 (some .boolean), Cond.methodLink RX6 67 yX6_takes, Cond.instanceMethod yX6_takes, Cond.selects RX6 yX6_takes yX6_takes, Cond.code yX6_takes cX6_takes 5 (some .boolean), Cond.methodLink RL 31 yX5_phase, Cond.instanceMethod yX5_phase, Cond.selects RX5 yX5_phase yX5_phase, Cond.code yX5_phase cX5_phase 1 (some .int), Cond.fieldLink RX5 84 "MeshLamps$Mesh" "phase" "I", Cond.methodLink RX5 81 yX4_nextPhase, Cond.instanceMethod yX4_nextPhase, Cond.selects RX4 yX4_nextPhase yX4_nextPhase, Cond.code yX4_nextPhase cX4_nextPhase 1 none, Cond.methodLink RL 35 yX6_phase, Cond.instanceMethod yX6_phase, Cond.selects RX6 yX6_phase yX6_phase, Cond.code yX6_phase cX6_phase 1 (some .int), Cond.methodLink RL 36 yX5_give]
def wsL_law_r11 : List Cond := [Cond.instanceMethod yX5_give, Cond.selects RX5 yX5_give yX5_give, Cond.code yX5_give cX5_give 2 (some .int), Cond.fieldLink RX5 87 "MeshLamps$Mesh" "haveNext" "I", Cond.methodLink RL 40 yX6_give, Cond.instanceMethod yX6_give, Cond.selects RX6 yX6_give yX6_give, Cond.code yX6_give cX6_give 2 (some .int), Cond.methodLink RL 41 yX5_has, Cond.instanceMethod yX5_has, Cond.selects RX5 yX5_has yX5_has, Cond.code yX5_has cX5_has 3 (some .int), Cond.fieldLink RX5 90 "MeshLamps$Mesh" "haveKey" "I", Cond.methodLink RX5 93 yX5_isIn, Cond.methodLink RX5 97 yX5_asNumber, Cond.static yX5_asNumber, Cond.code yX5_asNumber cX5_asNumber 1 (some .int), Cond.methodLink RL 44 yX6_has, Cond.instanceMethod yX6_has, Cond.selects RX6 yX6_has yX6_has, Cond.code yX6_has cX6_has 3 (some .int), Cond.methodLink RL 45 yX5_tell, Cond.instanceMethod yX5_tell, Cond.selects RX5 yX5_tell yX5_tell]
def wsL_law_r12 : List Cond := [Cond.code yX5_tell cX5_tell 7 (some .int), Cond.fieldLink RX5 104 "MeshLamps$Mesh" "air" "LMeshLamps$Air;", Cond.fieldLink RX5 114 "MeshLamps$Lamp" "told" "I", Cond.fieldLink RX5 123 "MeshLamps$Mesh" "letters" "LMeshLamps$Letters;", Cond.fieldLink RX5 138 "MeshLamps$Mesh" "tick" "I", Cond.methodLink RX5 101 yX4_canTell, Cond.instanceMethod yX4_canTell, Cond.selects RX4 yX4_canTell yX4_canTell, Cond.code yX4_canTell cX4_canTell 2 (some .boolean), Cond.methodLink RX4 71 yX4_tellsByNext, Cond.instanceMethod yX4_tellsByNext, Cond.selects RX4 yX4_tellsByNext yX4_tellsByNext, Cond.code yX4_tellsByNext cX4_tellsByNext 2 (some .boolean), Cond.methodLink RX5 108 yX0_isFull, Cond.instanceMethod yX0_isFull, Cond.selects RX0 yX0_isFull yX0_isFull, Cond.code yX0_isFull cX0_isFull 1 (some .boolean), Cond.methodLink RX5 117 yX2_place, Cond.static yX2_place, Cond.code yX2_place cX2_place 2 (some .int), Cond.methodLink RX5 127 yX4_keyToTell, Cond.instanceMethod yX4_keyToTell, Cond.selects RX4 yX4_keyToTell yX4_keyToTell, Cond.code yX4_keyToTell cX4_keyToTell 2 (some .int)]
def wsL_law_r13 : List Cond := [Cond.methodLink RX5 130 yX2_write, Cond.instanceMethod yX2_write, Cond.selects RX2 yX2_write yX2_write, Cond.code yX2_write cX2_write 5 none, Cond.methodLink RX5 134 yX3_add, Cond.instanceMethod yX3_add, Cond.selects RX3 yX3_add yX3_add, Cond.code yX3_add cX3_add 3 none, Cond.methodLink RX3 23 yX3_dropOldest, Cond.methodLink RX5 141 yX0_add, Cond.instanceMethod yX0_add, Cond.selects RX0 yX0_add yX0_add, Cond.code yX0_add cX0_add 5 none, Cond.methodLink RX0 28 yX0_isFull, Cond.methodLink RL 49 yX6_tell, Cond.instanceMethod yX6_tell, Cond.selects RX6 yX6_tell yX6_tell, Cond.code yX6_tell cX6_tell 8 (some .int), Cond.methodLink RX6 47 yX6_keyFor, Cond.instanceMethod yX6_keyFor, Cond.selects RX6 yX6_keyFor yX6_keyFor, Cond.code yX6_keyFor cX6_keyFor 2 (some .int), Cond.methodLink RX6 50 yX6_remember, Cond.instanceMethod yX6_remember]
def wsL_law_r14 : List Cond := [Cond.selects RX6 yX6_remember yX6_remember, Cond.code yX6_remember cX6_remember 5 none, Cond.methodLink RX6 54 yX6_addToAir, Cond.instanceMethod yX6_addToAir, Cond.selects RX6 yX6_addToAir yX6_addToAir, Cond.code yX6_addToAir cX6_addToAir 7 none, Cond.methodLink RL 50 yX5_replay, Cond.instanceMethod yX5_replay, Cond.selects RX5 yX5_replay yX5_replay, Cond.code yX5_replay cX5_replay 4 (some .int), Cond.fieldLink RX5 143 "MeshLamps$Air" "size" "I", Cond.methodLink RL 53 yX6_replay, Cond.instanceMethod yX6_replay, Cond.selects RX6 yX6_replay yX6_replay, Cond.code yX6_replay cX6_replay 4 (some .int), Cond.methodLink RL 54 yX5_pass, Cond.instanceMethod yX5_pass, Cond.selects RX5 yX5_pass yX5_pass, Cond.code yX5_pass cX5_pass 4 (some .int), Cond.fieldLink RX5 146 "MeshLamps$Mesh" "spoken" "I", Cond.methodLink RX5 149 yX4_passTick, Cond.instanceMethod yX4_passTick, Cond.selects RX4 yX4_passTick yX4_passTick, Cond.code yX4_passTick cX4_passTick 4 none]
def wsL_law_r15 : List Cond := [Cond.fieldLink RX4 84 "MeshLamps$Air" "size" "I", Cond.fieldLink RX4 87 "MeshLamps$Air" "tick" "[I", Cond.methodLink RX4 89 yX4_speakFromAir, Cond.instanceMethod yX4_speakFromAir, Cond.selects RX4 yX4_speakFromAir yX4_speakFromAir, Cond.code yX4_speakFromAir cX4_speakFromAir 5 none, Cond.fieldLink RX4 93 "MeshLamps$Air" "speaker" "[I", Cond.fieldLink RX4 96 "MeshLamps$Air" "letter" "[I", Cond.fieldLink RX4 99 "MeshLamps$Air" "steps" "[I", Cond.methodLink RX4 102 yX0_dropAt, Cond.instanceMethod yX0_dropAt, Cond.selects RX0 yX0_dropAt yX0_dropAt, Cond.code yX0_dropAt cX0_dropAt 3 none, Cond.methodLink RX0 32 arraycopyName, Cond.native arraycopyName, Cond.static arraycopyName, Cond.initialized "java/lang/System", Cond.methodLink RX4 105 yX4_speak, Cond.instanceMethod yX4_speak, Cond.selects RX4 yX4_speak yX4_speak, Cond.code yX4_speak cX4_speak 9 none, Cond.fieldLink RX4 113 "MeshLamps$Lamp" "spoke" "I", Cond.fieldLink RX4 116 "MeshLamps$Lamp" "links" "I", Cond.methodLink RX4 123 yX4_hear]
def wsL_law_r16 : List Cond := [Cond.instanceMethod yX4_hear, Cond.selects RX4 yX4_hear yX4_hear, Cond.code yX4_hear cX4_hear 5 none, Cond.fieldLink RX4 132 "MeshLamps$Lamp" "mind" "LMeshLamps$Line;", Cond.fieldLink RX4 141 "MeshLamps$Lamp" "hadStale" "I", Cond.fieldLink RX4 144 "MeshLamps$Lamp" "hadNew" "I", Cond.fieldLink RX4 81 "MeshLamps$Lamp" "settings" "[I", Cond.methodLink RX4 136 yX3_holds, Cond.instanceMethod yX3_holds, Cond.selects RX3 yX3_holds yX3_holds, Cond.code yX3_holds cX3_holds 3 (some .boolean), Cond.methodLink RX4 147 yX3_add, Cond.methodLink RX4 155 yX4_isMeant, Cond.instanceMethod yX4_isMeant, Cond.selects RX4 yX4_isMeant yX4_isMeant, Cond.code yX4_isMeant cX4_isMeant 4 (some .boolean), Cond.fieldLink RX4 78 "MeshLamps$Letters" "aim" "[I", Cond.methodLink RX4 162 yX4_keepForSleepers, Cond.instanceMethod yX4_keepForSleepers, Cond.selects RX4 yX4_keepForSleepers yX4_keepForSleepers, Cond.code yX4_keepForSleepers cX4_keepForSleepers 5 none, Cond.fieldLink RX4 168 "MeshLamps$Lamp" "friend" "I", Cond.methodLink RX4 165 yX4_passOn, Cond.instanceMethod yX4_passOn]
def wsL_law_r17 : List Cond := [Cond.selects RX4 yX4_passOn yX4_passOn, Cond.code yX4_passOn cX4_passOn 4 none, Cond.methodLink RX4 174 yX0_isFull, Cond.methodLink RX4 178 yX0_add, Cond.methodLink RL 57 yX6_pass, Cond.instanceMethod yX6_pass, Cond.selects RX6 yX6_pass yX6_pass, Cond.code yX6_pass cX6_pass 4 (some .int), Cond.methodLink RX6 87 yX6_goOn, Cond.instanceMethod yX6_goOn, Cond.selects RX6 yX6_goOn yX6_goOn, Cond.code yX6_goOn cX6_goOn 3 (some .int), Cond.methodLink RX6 80 yX6_dueNow, Cond.instanceMethod yX6_dueNow, Cond.selects RX6 yX6_dueNow yX6_dueNow, Cond.code yX6_dueNow cX6_dueNow 3 (some .int), Cond.methodLink RX6 84 yX6_speaks, Cond.instanceMethod yX6_speaks, Cond.selects RX6 yX6_speaks yX6_speaks, Cond.code yX6_speaks cX6_speaks 10 (some .boolean), Cond.methodLink RX6 73 yX6_removeFromAir, Cond.instanceMethod yX6_removeFromAir, Cond.selects RX6 yX6_removeFromAir yX6_removeFromAir, Cond.code yX6_removeFromAir cX6_removeFromAir 3 none]
def wsL_law_r18 : List Cond := [Cond.methodLink RX6 76 yX6_hear, Cond.instanceMethod yX6_hear, Cond.selects RX6 yX6_hear yX6_hear, Cond.code yX6_hear cX6_hear 6 none, Cond.methodLink RX6 61 yX6_hasInMind, Cond.instanceMethod yX6_hasInMind, Cond.selects RX6 yX6_hasInMind yX6_hasInMind, Cond.code yX6_hasInMind cX6_hasInMind 7 (some .boolean), Cond.methodLink RX6 64 yX6_isMeant, Cond.instanceMethod yX6_isMeant, Cond.selects RX6 yX6_isMeant yX6_isMeant, Cond.code yX6_isMeant cX6_isMeant 5 (some .boolean), Cond.methodLink RX6 70 yX6_keepFor, Cond.instanceMethod yX6_keepFor, Cond.selects RX6 yX6_keepFor yX6_keepFor, Cond.code yX6_keepFor cX6_keepFor 6 none, Cond.methodLink RL 58 yX5_settle, Cond.instanceMethod yX5_settle, Cond.selects RX5 yX5_settle yX5_settle, Cond.code yX5_settle cX5_settle 2 (some .int), Cond.methodLink RL 61 yX6_settle, Cond.instanceMethod yX6_settle, Cond.selects RX6 yX6_settle yX6_settle, Cond.code yX6_settle cX6_settle 2 (some .int)]
def wsL_law_r19 : List Cond := [Cond.methodLink RL 62 yX5_lamp, Cond.instanceMethod yX5_lamp, Cond.selects RX5 yX5_lamp yX5_lamp, Cond.code yX5_lamp cX5_lamp 4 (some .int), Cond.fieldLink RX5 152 "MeshLamps$Lamp" "light" "I", Cond.fieldLink RX5 155 "MeshLamps$Lamp" "took" "I", Cond.fieldLink RX5 158 "MeshLamps$Lamp" "refusedAsOld" "I", Cond.fieldLink RX5 161 "MeshLamps$Lamp" "hadStrange" "I", Cond.fieldLink RX5 164 "MeshLamps$Lamp" "hadStale" "I", Cond.fieldLink RX5 167 "MeshLamps$Lamp" "hadNew" "I", Cond.fieldLink RX5 170 "MeshLamps$Lamp" "spoke" "I", Cond.fieldLink RX5 173 "MeshLamps$Line" "size" "I", Cond.methodLink RL 65 yX6_lamp, Cond.instanceMethod yX6_lamp, Cond.selects RX6 yX6_lamp yX6_lamp, Cond.code yX6_lamp cX6_lamp 3 (some .int), Cond.methodLink RL 66 yX5_taken, Cond.instanceMethod yX5_taken, Cond.selects RX5 yX5_taken yX5_taken, Cond.code yX5_taken cX5_taken 3 (some .int), Cond.fieldLink RX5 174 "MeshLamps$Lamp" "greatestTaken" "[I", Cond.methodLink RL 69 yX6_taken, Cond.instanceMethod yX6_taken, Cond.selects RX6 yX6_taken yX6_taken]
def wsL_law_r20 : List Cond := [Cond.code yX6_taken cX6_taken 3 (some .int), Cond.methodLink RL 70 yX5_mind, Cond.instanceMethod yX5_mind, Cond.selects RX5 yX5_mind yX5_mind, Cond.code yX5_mind cX5_mind 6 (some .int), Cond.fieldLink RX5 177 "MeshLamps$Line" "letters" "[I", Cond.methodLink RX5 179 yX2_sourceOf, Cond.methodLink RX5 182 yX2_numberOf, Cond.methodLink RL 73 yX6_mind, Cond.instanceMethod yX6_mind, Cond.selects RX6 yX6_mind yX6_mind, Cond.code yX6_mind cX6_mind 4 (some .int), Cond.methodLink RL 74 yX5_air, Cond.instanceMethod yX5_air, Cond.selects RX5 yX5_air yX5_air, Cond.code yX5_air cX5_air 4 (some .int), Cond.fieldLink RX5 185 "MeshLamps$Air" "speaker" "[I", Cond.fieldLink RX5 188 "MeshLamps$Air" "tick" "[I", Cond.fieldLink RX5 190 "MeshLamps$Air" "letter" "[I", Cond.fieldLink RX5 193 "MeshLamps$Air" "steps" "[I", Cond.methodLink RL 77 yX6_air, Cond.instanceMethod yX6_air, Cond.selects RX6 yX6_air yX6_air, Cond.code yX6_air cX6_air 3 (some .int)]
def wsL_law_r21 : List Cond := [Cond.methodLink RL 78 yX5_image, Cond.instanceMethod yX5_image, Cond.selects RX5 yX5_image yX5_image, Cond.code yX5_image cX5_image 3 (some .int), Cond.methodLink RX5 196 yX4_become, Cond.instanceMethod yX4_become, Cond.selects RX4 yX4_become yX4_become, Cond.code yX4_become cX4_become 3 none, Cond.methodLink RX4 57 yX1_become, Cond.instanceMethod yX1_become, Cond.selects RX1 yX1_become yX1_become, Cond.code yX1_become cX1_become 2 none, Cond.methodLink RX1 73 arraycopyName, Cond.methodLink RX1 79 yX3_become, Cond.instanceMethod yX3_become, Cond.selects RX3 yX3_become yX3_become, Cond.code yX3_become cX3_become 2 none, Cond.methodLink RX3 27 Lib.Math.min.name, Cond.static Lib.Math.min.name, Cond.code Lib.Math.min.name Lib.Math.min.code 2 (some .int), Cond.methodLink RX3 30 arraycopyName, Cond.methodLink RX4 61 yX2_become, Cond.instanceMethod yX2_become, Cond.selects RX2 yX2_become yX2_become]
def wsL_law_r22 : List Cond := [Cond.code yX2_become cX2_become 2 none, Cond.methodLink RX2 21 arraycopyName, Cond.methodLink RX4 64 yX0_become, Cond.instanceMethod yX0_become, Cond.selects RX0 yX0_become yX0_become, Cond.code yX0_become cX0_become 2 none, Cond.methodLink RL 81 yX6_image, Cond.instanceMethod yX6_image, Cond.selects RX6 yX6_image yX6_image, Cond.code yX6_image cX6_image 3 (some .int), Cond.methodLink RL 82 yX5_restore, Cond.instanceMethod yX5_restore, Cond.selects RX5 yX5_restore yX5_restore, Cond.code yX5_restore cX5_restore 3 (some .int), Cond.methodLink RL 85 yX6_restore, Cond.instanceMethod yX6_restore, Cond.selects RX6 yX6_restore yX6_restore, Cond.code yX6_restore cX6_restore 3 (some .int), Cond.methodLink RL 86 yX5_count, Cond.instanceMethod yX5_count, Cond.selects RX5 yX5_count yX5_count, Cond.code yX5_count cX5_count 2 (some .int), Cond.fieldLink RX5 200 "MeshLamps$Mesh" "key" "I", Cond.fieldLink RX5 210 "MeshLamps$Mesh" "lostAsFull" "I"]
def wsL_law_r23 : List Cond := [Cond.fieldLink RX5 213 "MeshLamps$Mesh" "lostAsleep" "I", Cond.methodLink RX5 203 yX4_sleepers, Cond.instanceMethod yX4_sleepers, Cond.selects RX4 yX4_sleepers yX4_sleepers, Cond.code yX4_sleepers cX4_sleepers 3 (some .int), Cond.methodLink RX5 207 yX4_allLights, Cond.instanceMethod yX4_allLights, Cond.selects RX4 yX4_allLights yX4_allLights, Cond.code yX4_allLights cX4_allLights 3 (some .int), Cond.methodLink RX5 216 yX5_keptImages, Cond.instanceMethod yX5_keptImages, Cond.selects RX5 yX5_keptImages yX5_keptImages, Cond.code yX5_keptImages cX5_keptImages 3 (some .int), Cond.methodLink RL 89 yX6_count, Cond.instanceMethod yX6_count, Cond.selects RX6 yX6_count yX6_count, Cond.code yX6_count cX6_count 2 (some .int), Cond.methodLink RX6 90 yX6_asleep, Cond.instanceMethod yX6_asleep, Cond.selects RX6 yX6_asleep yX6_asleep, Cond.code yX6_asleep cX6_asleep 3 (some .int), Cond.methodLink RX6 93 yX6_lights, Cond.instanceMethod yX6_lights, Cond.selects RX6 yX6_lights yX6_lights]
def wsL_law_r24 : List Cond := [Cond.code yX6_lights cX6_lights 3 (some .int)]
def wsL_law : List Cond := (wsL_law_r1 ++ (wsL_law_r2 ++ (wsL_law_r3 ++ (wsL_law_r4 ++ (wsL_law_r5 ++ (wsL_law_r6 ++ (wsL_law_r7 ++ (wsL_law_r8 ++ (wsL_law_r9 ++ (wsL_law_r10 ++ (wsL_law_r11 ++ (wsL_law_r12 ++ (wsL_law_r13 ++ (wsL_law_r14 ++ (wsL_law_r15 ++ (wsL_law_r16 ++ (wsL_law_r17 ++ (wsL_law_r18 ++ (wsL_law_r19 ++ (wsL_law_r20 ++ (wsL_law_r21 ++ (wsL_law_r22 ++ (wsL_law_r23 ++ wsL_law_r24))))))))))))))))))))))) ++ wsX50 ++ wsX60 ++ wsX40 ++ wsX20 ++ wsX00 ++ wsX10 ++ wsX30 ++ ([] : List Cond)
theorem inlX0 : ∀ w ∈ wsX00, w ∈ wsL_law := fun _ h => List.mem_append_left _ (List.mem_append_left _ (List.mem_append_left _ (List.mem_append_right _ h)))
theorem inlX1 : ∀ w ∈ wsX10, w ∈ wsL_law := fun _ h => List.mem_append_left _ (List.mem_append_left _ (List.mem_append_right _ h))
theorem inlX2 : ∀ w ∈ wsX20, w ∈ wsL_law := fun _ h => List.mem_append_left _ (List.mem_append_left _ (List.mem_append_left _ (List.mem_append_left _ (List.mem_append_right _ h))))
theorem inlX3 : ∀ w ∈ wsX30, w ∈ wsL_law := fun _ h => List.mem_append_left _ (List.mem_append_right _ h)
theorem inlX4 : ∀ w ∈ wsX40, w ∈ wsL_law := fun _ h => List.mem_append_left _ (List.mem_append_left _ (List.mem_append_left _ (List.mem_append_left _ (List.mem_append_left _ (List.mem_append_right _ h)))))
theorem inlX5 : ∀ w ∈ wsX50, w ∈ wsL_law := fun _ h => List.mem_append_left _ (List.mem_append_left _ (List.mem_append_left _ (List.mem_append_left _ (List.mem_append_left _ (List.mem_append_left _ (List.mem_append_left _ (List.mem_append_right _ h)))))))
theorem inlX6 : ∀ w ∈ wsX60, w ∈ wsL_law := fun _ h => List.mem_append_left _ (List.mem_append_left _ (List.mem_append_left _ (List.mem_append_left _ (List.mem_append_left _ (List.mem_append_left _ (List.mem_append_right _ h))))))
abbrev vwCl : List vw_C := [(RX0, TX0, 5), (RX1, TX1, 15), (RX2, TX2, 3), (RX3, TX3, 2), (RX4, TX4, 11), (RX5, TX5, 2), (RX6, TX6, 3)]
end
section
theorem dX0_init_0 : decode cX0_init 0 = .ok (.aload_n 0, 1) := by decide +kernel
theorem dX0_init_1 : decode cX0_init 1 = .ok (.invokespecial 3, 3) := by decide +kernel
theorem dX0_init_4 : decode cX0_init 4 = .ok (.aload_n 0, 1) := by decide +kernel
theorem dX0_init_5 : decode cX0_init 5 = .ok (.bipush 64, 2) := by decide +kernel
theorem dX0_init_7 : decode cX0_init 7 = .ok (.newarray .int, 2) := by decide +kernel
theorem dX0_init_9 : decode cX0_init 9 = .ok (.putfield 9, 3) := by decide +kernel
theorem dX0_init_12 : decode cX0_init 12 = .ok (.aload_n 0, 1) := by decide +kernel
theorem dX0_init_13 : decode cX0_init 13 = .ok (.bipush 64, 2) := by decide +kernel
theorem dX0_init_15 : decode cX0_init 15 = .ok (.newarray .int, 2) := by decide +kernel
theorem dX0_init_17 : decode cX0_init 17 = .ok (.putfield 15, 3) := by decide +kernel
theorem dX0_init_20 : decode cX0_init 20 = .ok (.aload_n 0, 1) := by decide +kernel
theorem dX0_init_21 : decode cX0_init 21 = .ok (.bipush 64, 2) := by decide +kernel
theorem dX0_init_23 : decode cX0_init 23 = .ok (.newarray .int, 2) := by decide +kernel
theorem dX0_init_25 : decode cX0_init 25 = .ok (.putfield 18, 3) := by decide +kernel
theorem dX0_init_28 : decode cX0_init 28 = .ok (.aload_n 0, 1) := by decide +kernel
theorem dX0_init_29 : decode cX0_init 29 = .ok (.bipush 64, 2) := by decide +kernel
theorem dX0_init_31 : decode cX0_init 31 = .ok (.newarray .int, 2) := by decide +kernel
theorem dX0_init_33 : decode cX0_init 33 = .ok (.putfield 21, 3) := by decide +kernel
theorem dX0_init_36 : decode cX0_init 36 = .ok (.aload_n 0, 1) := by decide +kernel
theorem dX0_init_37 : decode cX0_init 37 = .ok (.iconst 0, 1) := by decide +kernel
theorem dX0_init_38 : decode cX0_init 38 = .ok (.putfield 24, 3) := by decide +kernel
theorem dX0_init_41 : decode cX0_init 41 = .ok (.return_, 1) := by decide +kernel
theorem dX0_isFull_0 : decode cX0_isFull 0 = .ok (.aload_n 0, 1) := by decide +kernel
theorem dX0_isFull_1 : decode cX0_isFull 1 = .ok (.getfield 24, 3) := by decide +kernel
theorem dX0_isFull_4 : decode cX0_isFull 4 = .ok (.bipush 64, 2) := by decide +kernel
theorem dX0_isFull_6 : decode cX0_isFull 6 = .ok (.if_icmp .lt 7, 3) := by decide +kernel
theorem dX0_isFull_9 : decode cX0_isFull 9 = .ok (.iconst 1, 1) := by decide +kernel
theorem dX0_isFull_10 : decode cX0_isFull 10 = .ok (.goto 4, 3) := by decide +kernel
theorem dX0_isFull_13 : decode cX0_isFull 13 = .ok (.iconst 0, 1) := by decide +kernel
theorem dX0_isFull_14 : decode cX0_isFull 14 = .ok (.ireturn, 1) := by decide +kernel
set_option maxRecDepth 20000 in
theorem ggX0_add_X0_isFull : GoodIn wsX0_add wsX0_isFull := goodIn_r _ [10, 2, 11, 12, 13, 14, 15] (by decide +kernel) (by decide +kernel)
set_option maxRecDepth 20000 in
theorem gX0_add_X0_isFull : GoodIn wsX0_add (wsV RX0 28 RX0 yX0_isFull wsX0_isFull) := goodIn_app (goodIn_of _ (by decide +kernel)) ggX0_add_X0_isFull
theorem dX0_add_0 : decode cX0_add 0 = .ok (.aload_n 0, 1) := by decide +kernel
theorem dX0_add_1 : decode cX0_add 1 = .ok (.invokevirtual 28, 3) := by decide +kernel
theorem dX0_add_4 : decode cX0_add 4 = .ok (.ifCond .eq 4, 3) := by decide +kernel
theorem dX0_add_7 : decode cX0_add 7 = .ok (.return_, 1) := by decide +kernel
theorem dX0_add_8 : decode cX0_add 8 = .ok (.aload_n 0, 1) := by decide +kernel
theorem dX0_add_9 : decode cX0_add 9 = .ok (.getfield 9, 3) := by decide +kernel
theorem dX0_add_12 : decode cX0_add 12 = .ok (.aload_n 0, 1) := by decide +kernel
theorem dX0_add_13 : decode cX0_add 13 = .ok (.getfield 24, 3) := by decide +kernel
theorem dX0_add_16 : decode cX0_add 16 = .ok (.iload_n 1, 1) := by decide +kernel
theorem dX0_add_17 : decode cX0_add 17 = .ok (.iastore, 1) := by decide +kernel
theorem dX0_add_18 : decode cX0_add 18 = .ok (.aload_n 0, 1) := by decide +kernel
theorem dX0_add_19 : decode cX0_add 19 = .ok (.getfield 15, 3) := by decide +kernel
theorem dX0_add_22 : decode cX0_add 22 = .ok (.aload_n 0, 1) := by decide +kernel
theorem dX0_add_23 : decode cX0_add 23 = .ok (.getfield 24, 3) := by decide +kernel
theorem dX0_add_26 : decode cX0_add 26 = .ok (.iload_n 2, 1) := by decide +kernel
theorem dX0_add_27 : decode cX0_add 27 = .ok (.iastore, 1) := by decide +kernel
theorem dX0_add_28 : decode cX0_add 28 = .ok (.aload_n 0, 1) := by decide +kernel
theorem dX0_add_29 : decode cX0_add 29 = .ok (.getfield 18, 3) := by decide +kernel
theorem dX0_add_32 : decode cX0_add 32 = .ok (.aload_n 0, 1) := by decide +kernel
theorem dX0_add_33 : decode cX0_add 33 = .ok (.getfield 24, 3) := by decide +kernel
theorem dX0_add_36 : decode cX0_add 36 = .ok (.iload_n 3, 1) := by decide +kernel
theorem dX0_add_37 : decode cX0_add 37 = .ok (.iastore, 1) := by decide +kernel
theorem dX0_add_38 : decode cX0_add 38 = .ok (.aload_n 0, 1) := by decide +kernel
theorem dX0_add_39 : decode cX0_add 39 = .ok (.getfield 21, 3) := by decide +kernel
theorem dX0_add_42 : decode cX0_add 42 = .ok (.aload_n 0, 1) := by decide +kernel
theorem dX0_add_43 : decode cX0_add 43 = .ok (.getfield 24, 3) := by decide +kernel
theorem dX0_add_46 : decode cX0_add 46 = .ok (.iload 4, 2) := by decide +kernel
theorem dX0_add_48 : decode cX0_add 48 = .ok (.iastore, 1) := by decide +kernel
theorem dX0_add_49 : decode cX0_add 49 = .ok (.aload_n 0, 1) := by decide +kernel
theorem dX0_add_50 : decode cX0_add 50 = .ok (.dup, 1) := by decide +kernel
theorem dX0_add_51 : decode cX0_add 51 = .ok (.getfield 24, 3) := by decide +kernel
theorem dX0_add_54 : decode cX0_add 54 = .ok (.iconst 1, 1) := by decide +kernel
theorem dX0_add_55 : decode cX0_add 55 = .ok (.iadd, 1) := by decide +kernel
theorem dX0_add_56 : decode cX0_add 56 = .ok (.putfield 24, 3) := by decide +kernel
theorem dX0_add_59 : decode cX0_add 59 = .ok (.return_, 1) := by decide +kernel
theorem dX0_dropAt_0 : decode cX0_dropAt 0 = .ok (.iload_n 1, 1) := by decide +kernel
theorem dX0_dropAt_1 : decode cX0_dropAt 1 = .ok (.ifCond .lt 11, 3) := by decide +kernel
theorem dX0_dropAt_4 : decode cX0_dropAt 4 = .ok (.iload_n 1, 1) := by decide +kernel
theorem dX0_dropAt_5 : decode cX0_dropAt 5 = .ok (.aload_n 0, 1) := by decide +kernel
theorem dX0_dropAt_6 : decode cX0_dropAt 6 = .ok (.getfield 24, 3) := by decide +kernel
theorem dX0_dropAt_9 : decode cX0_dropAt 9 = .ok (.if_icmp .lt 4, 3) := by decide +kernel
theorem dX0_dropAt_12 : decode cX0_dropAt 12 = .ok (.return_, 1) := by decide +kernel
theorem dX0_dropAt_13 : decode cX0_dropAt 13 = .ok (.aload_n 0, 1) := by decide +kernel
theorem dX0_dropAt_14 : decode cX0_dropAt 14 = .ok (.dup, 1) := by decide +kernel
theorem dX0_dropAt_15 : decode cX0_dropAt 15 = .ok (.getfield 24, 3) := by decide +kernel
theorem dX0_dropAt_18 : decode cX0_dropAt 18 = .ok (.iconst 1, 1) := by decide +kernel
theorem dX0_dropAt_19 : decode cX0_dropAt 19 = .ok (.isub, 1) := by decide +kernel
theorem dX0_dropAt_20 : decode cX0_dropAt 20 = .ok (.putfield 24, 3) := by decide +kernel
theorem dX0_dropAt_23 : decode cX0_dropAt 23 = .ok (.aload_n 0, 1) := by decide +kernel
theorem dX0_dropAt_24 : decode cX0_dropAt 24 = .ok (.getfield 24, 3) := by decide +kernel
theorem dX0_dropAt_27 : decode cX0_dropAt 27 = .ok (.iload_n 1, 1) := by decide +kernel
theorem dX0_dropAt_28 : decode cX0_dropAt 28 = .ok (.isub, 1) := by decide +kernel
theorem dX0_dropAt_29 : decode cX0_dropAt 29 = .ok (.istore_n 2, 1) := by decide +kernel
theorem dX0_dropAt_30 : decode cX0_dropAt 30 = .ok (.aload_n 0, 1) := by decide +kernel
theorem dX0_dropAt_31 : decode cX0_dropAt 31 = .ok (.getfield 9, 3) := by decide +kernel
theorem dX0_dropAt_34 : decode cX0_dropAt 34 = .ok (.iload_n 1, 1) := by decide +kernel
theorem dX0_dropAt_35 : decode cX0_dropAt 35 = .ok (.iconst 1, 1) := by decide +kernel
theorem dX0_dropAt_36 : decode cX0_dropAt 36 = .ok (.iadd, 1) := by decide +kernel
theorem dX0_dropAt_37 : decode cX0_dropAt 37 = .ok (.aload_n 0, 1) := by decide +kernel
theorem dX0_dropAt_38 : decode cX0_dropAt 38 = .ok (.getfield 9, 3) := by decide +kernel
theorem dX0_dropAt_41 : decode cX0_dropAt 41 = .ok (.iload_n 1, 1) := by decide +kernel
theorem dX0_dropAt_42 : decode cX0_dropAt 42 = .ok (.iload_n 2, 1) := by decide +kernel
theorem dX0_dropAt_43 : decode cX0_dropAt 43 = .ok (.invokestatic 32, 3) := by decide +kernel
theorem dX0_dropAt_46 : decode cX0_dropAt 46 = .ok (.aload_n 0, 1) := by decide +kernel
theorem dX0_dropAt_47 : decode cX0_dropAt 47 = .ok (.getfield 15, 3) := by decide +kernel
theorem dX0_dropAt_50 : decode cX0_dropAt 50 = .ok (.iload_n 1, 1) := by decide +kernel
theorem dX0_dropAt_51 : decode cX0_dropAt 51 = .ok (.iconst 1, 1) := by decide +kernel
theorem dX0_dropAt_52 : decode cX0_dropAt 52 = .ok (.iadd, 1) := by decide +kernel
theorem dX0_dropAt_53 : decode cX0_dropAt 53 = .ok (.aload_n 0, 1) := by decide +kernel
theorem dX0_dropAt_54 : decode cX0_dropAt 54 = .ok (.getfield 15, 3) := by decide +kernel
theorem dX0_dropAt_57 : decode cX0_dropAt 57 = .ok (.iload_n 1, 1) := by decide +kernel
theorem dX0_dropAt_58 : decode cX0_dropAt 58 = .ok (.iload_n 2, 1) := by decide +kernel
theorem dX0_dropAt_59 : decode cX0_dropAt 59 = .ok (.invokestatic 32, 3) := by decide +kernel
theorem dX0_dropAt_62 : decode cX0_dropAt 62 = .ok (.aload_n 0, 1) := by decide +kernel
theorem dX0_dropAt_63 : decode cX0_dropAt 63 = .ok (.getfield 18, 3) := by decide +kernel
theorem dX0_dropAt_66 : decode cX0_dropAt 66 = .ok (.iload_n 1, 1) := by decide +kernel
theorem dX0_dropAt_67 : decode cX0_dropAt 67 = .ok (.iconst 1, 1) := by decide +kernel
theorem dX0_dropAt_68 : decode cX0_dropAt 68 = .ok (.iadd, 1) := by decide +kernel
theorem dX0_dropAt_69 : decode cX0_dropAt 69 = .ok (.aload_n 0, 1) := by decide +kernel
theorem dX0_dropAt_70 : decode cX0_dropAt 70 = .ok (.getfield 18, 3) := by decide +kernel
theorem dX0_dropAt_73 : decode cX0_dropAt 73 = .ok (.iload_n 1, 1) := by decide +kernel
theorem dX0_dropAt_74 : decode cX0_dropAt 74 = .ok (.iload_n 2, 1) := by decide +kernel
theorem dX0_dropAt_75 : decode cX0_dropAt 75 = .ok (.invokestatic 32, 3) := by decide +kernel
theorem dX0_dropAt_78 : decode cX0_dropAt 78 = .ok (.aload_n 0, 1) := by decide +kernel
theorem dX0_dropAt_79 : decode cX0_dropAt 79 = .ok (.getfield 21, 3) := by decide +kernel
theorem dX0_dropAt_82 : decode cX0_dropAt 82 = .ok (.iload_n 1, 1) := by decide +kernel
theorem dX0_dropAt_83 : decode cX0_dropAt 83 = .ok (.iconst 1, 1) := by decide +kernel
theorem dX0_dropAt_84 : decode cX0_dropAt 84 = .ok (.iadd, 1) := by decide +kernel
theorem dX0_dropAt_85 : decode cX0_dropAt 85 = .ok (.aload_n 0, 1) := by decide +kernel
theorem dX0_dropAt_86 : decode cX0_dropAt 86 = .ok (.getfield 21, 3) := by decide +kernel
theorem dX0_dropAt_89 : decode cX0_dropAt 89 = .ok (.iload_n 1, 1) := by decide +kernel
theorem dX0_dropAt_90 : decode cX0_dropAt 90 = .ok (.iload_n 2, 1) := by decide +kernel
theorem dX0_dropAt_91 : decode cX0_dropAt 91 = .ok (.invokestatic 32, 3) := by decide +kernel
theorem dX0_dropAt_94 : decode cX0_dropAt 94 = .ok (.return_, 1) := by decide +kernel
theorem dX0_become_0 : decode cX0_become 0 = .ok (.aload_n 0, 1) := by decide +kernel
theorem dX0_become_1 : decode cX0_become 1 = .ok (.aload_n 1, 1) := by decide +kernel
theorem dX0_become_2 : decode cX0_become 2 = .ok (.getfield 24, 3) := by decide +kernel
theorem dX0_become_5 : decode cX0_become 5 = .ok (.putfield 24, 3) := by decide +kernel
theorem dX0_become_8 : decode cX0_become 8 = .ok (.aload_n 1, 1) := by decide +kernel
theorem dX0_become_9 : decode cX0_become 9 = .ok (.getfield 9, 3) := by decide +kernel
theorem dX0_become_12 : decode cX0_become 12 = .ok (.iconst 0, 1) := by decide +kernel
theorem dX0_become_13 : decode cX0_become 13 = .ok (.aload_n 0, 1) := by decide +kernel
theorem dX0_become_14 : decode cX0_become 14 = .ok (.getfield 9, 3) := by decide +kernel
theorem dX0_become_17 : decode cX0_become 17 = .ok (.iconst 0, 1) := by decide +kernel
theorem dX0_become_18 : decode cX0_become 18 = .ok (.aload_n 0, 1) := by decide +kernel
theorem dX0_become_19 : decode cX0_become 19 = .ok (.getfield 24, 3) := by decide +kernel
theorem dX0_become_22 : decode cX0_become 22 = .ok (.invokestatic 32, 3) := by decide +kernel
theorem dX0_become_25 : decode cX0_become 25 = .ok (.aload_n 1, 1) := by decide +kernel
theorem dX0_become_26 : decode cX0_become 26 = .ok (.getfield 15, 3) := by decide +kernel
theorem dX0_become_29 : decode cX0_become 29 = .ok (.iconst 0, 1) := by decide +kernel
theorem dX0_become_30 : decode cX0_become 30 = .ok (.aload_n 0, 1) := by decide +kernel
theorem dX0_become_31 : decode cX0_become 31 = .ok (.getfield 15, 3) := by decide +kernel
theorem dX0_become_34 : decode cX0_become 34 = .ok (.iconst 0, 1) := by decide +kernel
theorem dX0_become_35 : decode cX0_become 35 = .ok (.aload_n 0, 1) := by decide +kernel
theorem dX0_become_36 : decode cX0_become 36 = .ok (.getfield 24, 3) := by decide +kernel
theorem dX0_become_39 : decode cX0_become 39 = .ok (.invokestatic 32, 3) := by decide +kernel
theorem dX0_become_42 : decode cX0_become 42 = .ok (.aload_n 1, 1) := by decide +kernel
theorem dX0_become_43 : decode cX0_become 43 = .ok (.getfield 18, 3) := by decide +kernel
theorem dX0_become_46 : decode cX0_become 46 = .ok (.iconst 0, 1) := by decide +kernel
theorem dX0_become_47 : decode cX0_become 47 = .ok (.aload_n 0, 1) := by decide +kernel
theorem dX0_become_48 : decode cX0_become 48 = .ok (.getfield 18, 3) := by decide +kernel
theorem dX0_become_51 : decode cX0_become 51 = .ok (.iconst 0, 1) := by decide +kernel
theorem dX0_become_52 : decode cX0_become 52 = .ok (.aload_n 0, 1) := by decide +kernel
theorem dX0_become_53 : decode cX0_become 53 = .ok (.getfield 24, 3) := by decide +kernel
theorem dX0_become_56 : decode cX0_become 56 = .ok (.invokestatic 32, 3) := by decide +kernel
theorem dX0_become_59 : decode cX0_become 59 = .ok (.aload_n 1, 1) := by decide +kernel
theorem dX0_become_60 : decode cX0_become 60 = .ok (.getfield 21, 3) := by decide +kernel
theorem dX0_become_63 : decode cX0_become 63 = .ok (.iconst 0, 1) := by decide +kernel
theorem dX0_become_64 : decode cX0_become 64 = .ok (.aload_n 0, 1) := by decide +kernel
theorem dX0_become_65 : decode cX0_become 65 = .ok (.getfield 21, 3) := by decide +kernel
theorem dX0_become_68 : decode cX0_become 68 = .ok (.iconst 0, 1) := by decide +kernel
theorem dX0_become_69 : decode cX0_become 69 = .ok (.aload_n 0, 1) := by decide +kernel
theorem dX0_become_70 : decode cX0_become 70 = .ok (.getfield 24, 3) := by decide +kernel
theorem dX0_become_73 : decode cX0_become 73 = .ok (.invokestatic 32, 3) := by decide +kernel
theorem dX0_become_76 : decode cX0_become 76 = .ok (.return_, 1) := by decide +kernel
set_option maxRecDepth 20000 in
theorem ggX1_init_X3_init : GoodIn wsX1_init wsX3_init := goodIn_r _ [31, 32, 2, 3, 33, 34, 35, 36, 37, 11, 38, 54, 55] (by decide +kernel) (by decide +kernel)
set_option maxRecDepth 20000 in
theorem gX1_init_X3_init : GoodIn wsX1_init (wsX3_init) := ggX1_init_X3_init
theorem dX1_init_0 : decode cX1_init 0 = .ok (.aload_n 0, 1) := by decide +kernel
theorem dX1_init_1 : decode cX1_init 1 = .ok (.invokespecial 3, 3) := by decide +kernel
theorem dX1_init_4 : decode cX1_init 4 = .ok (.aload_n 0, 1) := by decide +kernel
theorem dX1_init_5 : decode cX1_init 5 = .ok (.getstatic 9, 3) := by decide +kernel
theorem dX1_init_8 : decode cX1_init 8 = .ok (.invokevirtual 13, 3) := by decide +kernel
theorem dX1_init_11 : decode cX1_init 11 = .ok (.checkcast 14, 3) := by decide +kernel
theorem dX1_init_14 : decode cX1_init 14 = .ok (.putfield 18, 3) := by decide +kernel
theorem dX1_init_17 : decode cX1_init 17 = .ok (.aload_n 0, 1) := by decide +kernel
theorem dX1_init_18 : decode cX1_init 18 = .ok (.bipush 10, 2) := by decide +kernel
theorem dX1_init_20 : decode cX1_init 20 = .ok (.newarray .int, 2) := by decide +kernel
theorem dX1_init_22 : decode cX1_init 22 = .ok (.putfield 23, 3) := by decide +kernel
theorem dX1_init_25 : decode cX1_init 25 = .ok (.aload_n 0, 1) := by decide +kernel
theorem dX1_init_26 : decode cX1_init 26 = .ok (.new 26, 3) := by decide +kernel
theorem dX1_init_29 : decode cX1_init 29 = .ok (.dup, 1) := by decide +kernel
theorem dX1_init_30 : decode cX1_init 30 = .ok (.bipush 8, 2) := by decide +kernel
theorem dX1_init_32 : decode cX1_init 32 = .ok (.invokespecial 28, 3) := by decide +kernel
theorem dX1_init_35 : decode cX1_init 35 = .ok (.putfield 31, 3) := by decide +kernel
theorem dX1_init_38 : decode cX1_init 38 = .ok (.aload_n 0, 1) := by decide +kernel
theorem dX1_init_39 : decode cX1_init 39 = .ok (.new 26, 3) := by decide +kernel
theorem dX1_init_42 : decode cX1_init 42 = .ok (.dup, 1) := by decide +kernel
theorem dX1_init_43 : decode cX1_init 43 = .ok (.iconst 3, 1) := by decide +kernel
theorem dX1_init_44 : decode cX1_init 44 = .ok (.invokespecial 28, 3) := by decide +kernel
theorem dX1_init_47 : decode cX1_init 47 = .ok (.putfield 35, 3) := by decide +kernel
theorem dX1_init_50 : decode cX1_init 50 = .ok (.aload_n 0, 1) := by decide +kernel
theorem dX1_init_51 : decode cX1_init 51 = .ok (.iconst 0, 1) := by decide +kernel
theorem dX1_init_52 : decode cX1_init 52 = .ok (.putfield 38, 3) := by decide +kernel
theorem dX1_init_55 : decode cX1_init 55 = .ok (.aload_n 0, 1) := by decide +kernel
theorem dX1_init_56 : decode cX1_init 56 = .ok (.iconst 0, 1) := by decide +kernel
theorem dX1_init_57 : decode cX1_init 57 = .ok (.putfield 42, 3) := by decide +kernel
theorem dX1_init_60 : decode cX1_init 60 = .ok (.aload_n 0, 1) := by decide +kernel
theorem dX1_init_61 : decode cX1_init 61 = .ok (.iconst 0, 1) := by decide +kernel
theorem dX1_init_62 : decode cX1_init 62 = .ok (.putfield 45, 3) := by decide +kernel
theorem dX1_init_65 : decode cX1_init 65 = .ok (.aload_n 0, 1) := by decide +kernel
theorem dX1_init_66 : decode cX1_init 66 = .ok (.bipush (-6), 2) := by decide +kernel
theorem dX1_init_68 : decode cX1_init 68 = .ok (.putfield 49, 3) := by decide +kernel
theorem dX1_init_71 : decode cX1_init 71 = .ok (.aload_n 0, 1) := by decide +kernel
theorem dX1_init_72 : decode cX1_init 72 = .ok (.iconst 0, 1) := by decide +kernel
theorem dX1_init_73 : decode cX1_init 73 = .ok (.putfield 52, 3) := by decide +kernel
theorem dX1_init_76 : decode cX1_init 76 = .ok (.aload_n 0, 1) := by decide +kernel
theorem dX1_init_77 : decode cX1_init 77 = .ok (.iconst 0, 1) := by decide +kernel
theorem dX1_init_78 : decode cX1_init 78 = .ok (.putfield 55, 3) := by decide +kernel
theorem dX1_init_81 : decode cX1_init 81 = .ok (.aload_n 0, 1) := by decide +kernel
theorem dX1_init_82 : decode cX1_init 82 = .ok (.iconst 0, 1) := by decide +kernel
theorem dX1_init_83 : decode cX1_init 83 = .ok (.putfield 58, 3) := by decide +kernel
theorem dX1_init_86 : decode cX1_init 86 = .ok (.aload_n 0, 1) := by decide +kernel
theorem dX1_init_87 : decode cX1_init 87 = .ok (.iconst 0, 1) := by decide +kernel
theorem dX1_init_88 : decode cX1_init 88 = .ok (.putfield 61, 3) := by decide +kernel
theorem dX1_init_91 : decode cX1_init 91 = .ok (.aload_n 0, 1) := by decide +kernel
theorem dX1_init_92 : decode cX1_init 92 = .ok (.iconst 0, 1) := by decide +kernel
theorem dX1_init_93 : decode cX1_init 93 = .ok (.putfield 64, 3) := by decide +kernel
theorem dX1_init_96 : decode cX1_init 96 = .ok (.aload_n 0, 1) := by decide +kernel
theorem dX1_init_97 : decode cX1_init 97 = .ok (.iconst 0, 1) := by decide +kernel
theorem dX1_init_98 : decode cX1_init 98 = .ok (.putfield 67, 3) := by decide +kernel
theorem dX1_init_101 : decode cX1_init 101 = .ok (.aload_n 0, 1) := by decide +kernel
theorem dX1_init_102 : decode cX1_init 102 = .ok (.iconst 0, 1) := by decide +kernel
theorem dX1_init_103 : decode cX1_init 103 = .ok (.putfield 70, 3) := by decide +kernel
theorem dX1_init_106 : decode cX1_init 106 = .ok (.return_, 1) := by decide +kernel
set_option maxRecDepth 20000 in
theorem ggX1_become_X3_become : GoodIn wsX1_become wsX3_become := goodIn_r _ [24, 25, 26, 27, 28, 29, 30, 31, 3, 4, 5, 47, 48] (by decide +kernel) (by decide +kernel)
set_option maxRecDepth 20000 in
theorem gX1_become_X3_become : GoodIn wsX1_become (wsV RX1 79 RX3 yX3_become wsX3_become) := goodIn_app (goodIn_of _ (by decide +kernel)) ggX1_become_X3_become
theorem dX1_become_0 : decode cX1_become 0 = .ok (.aload_n 1, 1) := by decide +kernel
theorem dX1_become_1 : decode cX1_become 1 = .ok (.getfield 18, 3) := by decide +kernel
theorem dX1_become_4 : decode cX1_become 4 = .ok (.iconst 0, 1) := by decide +kernel
theorem dX1_become_5 : decode cX1_become 5 = .ok (.aload_n 0, 1) := by decide +kernel
theorem dX1_become_6 : decode cX1_become 6 = .ok (.getfield 18, 3) := by decide +kernel
theorem dX1_become_9 : decode cX1_become 9 = .ok (.iconst 0, 1) := by decide +kernel
theorem dX1_become_10 : decode cX1_become 10 = .ok (.iconst 4, 1) := by decide +kernel
theorem dX1_become_11 : decode cX1_become 11 = .ok (.invokestatic 73, 3) := by decide +kernel
theorem dX1_become_14 : decode cX1_become 14 = .ok (.aload_n 1, 1) := by decide +kernel
theorem dX1_become_15 : decode cX1_become 15 = .ok (.getfield 23, 3) := by decide +kernel
theorem dX1_become_18 : decode cX1_become 18 = .ok (.iconst 0, 1) := by decide +kernel
theorem dX1_become_19 : decode cX1_become 19 = .ok (.aload_n 0, 1) := by decide +kernel
theorem dX1_become_20 : decode cX1_become 20 = .ok (.getfield 23, 3) := by decide +kernel
theorem dX1_become_23 : decode cX1_become 23 = .ok (.iconst 0, 1) := by decide +kernel
theorem dX1_become_24 : decode cX1_become 24 = .ok (.bipush 10, 2) := by decide +kernel
theorem dX1_become_26 : decode cX1_become 26 = .ok (.invokestatic 73, 3) := by decide +kernel
theorem dX1_become_29 : decode cX1_become 29 = .ok (.aload_n 0, 1) := by decide +kernel
theorem dX1_become_30 : decode cX1_become 30 = .ok (.getfield 31, 3) := by decide +kernel
theorem dX1_become_33 : decode cX1_become 33 = .ok (.aload_n 1, 1) := by decide +kernel
theorem dX1_become_34 : decode cX1_become 34 = .ok (.getfield 31, 3) := by decide +kernel
theorem dX1_become_37 : decode cX1_become 37 = .ok (.invokevirtual 79, 3) := by decide +kernel
theorem dX1_become_40 : decode cX1_become 40 = .ok (.aload_n 0, 1) := by decide +kernel
theorem dX1_become_41 : decode cX1_become 41 = .ok (.getfield 35, 3) := by decide +kernel
theorem dX1_become_44 : decode cX1_become 44 = .ok (.aload_n 1, 1) := by decide +kernel
theorem dX1_become_45 : decode cX1_become 45 = .ok (.getfield 35, 3) := by decide +kernel
theorem dX1_become_48 : decode cX1_become 48 = .ok (.invokevirtual 79, 3) := by decide +kernel
theorem dX1_become_51 : decode cX1_become 51 = .ok (.aload_n 0, 1) := by decide +kernel
theorem dX1_become_52 : decode cX1_become 52 = .ok (.aload_n 1, 1) := by decide +kernel
theorem dX1_become_53 : decode cX1_become 53 = .ok (.getfield 38, 3) := by decide +kernel
theorem dX1_become_56 : decode cX1_become 56 = .ok (.putfield 38, 3) := by decide +kernel
theorem dX1_become_59 : decode cX1_become 59 = .ok (.aload_n 0, 1) := by decide +kernel
theorem dX1_become_60 : decode cX1_become 60 = .ok (.aload_n 1, 1) := by decide +kernel
theorem dX1_become_61 : decode cX1_become 61 = .ok (.getfield 42, 3) := by decide +kernel
theorem dX1_become_64 : decode cX1_become 64 = .ok (.putfield 42, 3) := by decide +kernel
theorem dX1_become_67 : decode cX1_become 67 = .ok (.aload_n 0, 1) := by decide +kernel
theorem dX1_become_68 : decode cX1_become 68 = .ok (.aload_n 1, 1) := by decide +kernel
theorem dX1_become_69 : decode cX1_become 69 = .ok (.getfield 45, 3) := by decide +kernel
theorem dX1_become_72 : decode cX1_become 72 = .ok (.putfield 45, 3) := by decide +kernel
theorem dX1_become_75 : decode cX1_become 75 = .ok (.aload_n 0, 1) := by decide +kernel
theorem dX1_become_76 : decode cX1_become 76 = .ok (.aload_n 1, 1) := by decide +kernel
theorem dX1_become_77 : decode cX1_become 77 = .ok (.getfield 49, 3) := by decide +kernel
theorem dX1_become_80 : decode cX1_become 80 = .ok (.putfield 49, 3) := by decide +kernel
theorem dX1_become_83 : decode cX1_become 83 = .ok (.aload_n 0, 1) := by decide +kernel
theorem dX1_become_84 : decode cX1_become 84 = .ok (.aload_n 1, 1) := by decide +kernel
theorem dX1_become_85 : decode cX1_become 85 = .ok (.getfield 52, 3) := by decide +kernel
theorem dX1_become_88 : decode cX1_become 88 = .ok (.putfield 52, 3) := by decide +kernel
theorem dX1_become_91 : decode cX1_become 91 = .ok (.aload_n 0, 1) := by decide +kernel
theorem dX1_become_92 : decode cX1_become 92 = .ok (.aload_n 1, 1) := by decide +kernel
theorem dX1_become_93 : decode cX1_become 93 = .ok (.getfield 55, 3) := by decide +kernel
theorem dX1_become_96 : decode cX1_become 96 = .ok (.putfield 55, 3) := by decide +kernel
theorem dX1_become_99 : decode cX1_become 99 = .ok (.aload_n 0, 1) := by decide +kernel
theorem dX1_become_100 : decode cX1_become 100 = .ok (.aload_n 1, 1) := by decide +kernel
theorem dX1_become_101 : decode cX1_become 101 = .ok (.getfield 58, 3) := by decide +kernel
theorem dX1_become_104 : decode cX1_become 104 = .ok (.putfield 58, 3) := by decide +kernel
theorem dX1_become_107 : decode cX1_become 107 = .ok (.aload_n 0, 1) := by decide +kernel
theorem dX1_become_108 : decode cX1_become 108 = .ok (.aload_n 1, 1) := by decide +kernel
theorem dX1_become_109 : decode cX1_become 109 = .ok (.getfield 61, 3) := by decide +kernel
theorem dX1_become_112 : decode cX1_become 112 = .ok (.putfield 61, 3) := by decide +kernel
theorem dX1_become_115 : decode cX1_become 115 = .ok (.aload_n 0, 1) := by decide +kernel
theorem dX1_become_116 : decode cX1_become 116 = .ok (.aload_n 1, 1) := by decide +kernel
theorem dX1_become_117 : decode cX1_become 117 = .ok (.getfield 64, 3) := by decide +kernel
theorem dX1_become_120 : decode cX1_become 120 = .ok (.putfield 64, 3) := by decide +kernel
theorem dX1_become_123 : decode cX1_become 123 = .ok (.aload_n 0, 1) := by decide +kernel
theorem dX1_become_124 : decode cX1_become 124 = .ok (.aload_n 1, 1) := by decide +kernel
theorem dX1_become_125 : decode cX1_become 125 = .ok (.getfield 67, 3) := by decide +kernel
theorem dX1_become_128 : decode cX1_become 128 = .ok (.putfield 67, 3) := by decide +kernel
theorem dX1_become_131 : decode cX1_become 131 = .ok (.aload_n 0, 1) := by decide +kernel
theorem dX1_become_132 : decode cX1_become 132 = .ok (.aload_n 1, 1) := by decide +kernel
theorem dX1_become_133 : decode cX1_become 133 = .ok (.getfield 70, 3) := by decide +kernel
theorem dX1_become_136 : decode cX1_become 136 = .ok (.putfield 70, 3) := by decide +kernel
theorem dX1_become_139 : decode cX1_become 139 = .ok (.return_, 1) := by decide +kernel
theorem dX2_init_0 : decode cX2_init 0 = .ok (.aload_n 0, 1) := by decide +kernel
theorem dX2_init_1 : decode cX2_init 1 = .ok (.invokespecial 3, 3) := by decide +kernel
theorem dX2_init_4 : decode cX2_init 4 = .ok (.aload_n 0, 1) := by decide +kernel
theorem dX2_init_5 : decode cX2_init 5 = .ok (.sipush 2000, 3) := by decide +kernel
theorem dX2_init_8 : decode cX2_init 8 = .ok (.newarray .int, 2) := by decide +kernel
theorem dX2_init_10 : decode cX2_init 10 = .ok (.putfield 11, 3) := by decide +kernel
theorem dX2_init_13 : decode cX2_init 13 = .ok (.aload_n 0, 1) := by decide +kernel
theorem dX2_init_14 : decode cX2_init 14 = .ok (.sipush 2000, 3) := by decide +kernel
theorem dX2_init_17 : decode cX2_init 17 = .ok (.newarray .int, 2) := by decide +kernel
theorem dX2_init_19 : decode cX2_init 19 = .ok (.putfield 15, 3) := by decide +kernel
theorem dX2_init_22 : decode cX2_init 22 = .ok (.aload_n 0, 1) := by decide +kernel
theorem dX2_init_23 : decode cX2_init 23 = .ok (.sipush 2000, 3) := by decide +kernel
theorem dX2_init_26 : decode cX2_init 26 = .ok (.newarray .int, 2) := by decide +kernel
theorem dX2_init_28 : decode cX2_init 28 = .ok (.putfield 18, 3) := by decide +kernel
theorem dX2_init_31 : decode cX2_init 31 = .ok (.return_, 1) := by decide +kernel
theorem dX2_place_0 : decode cX2_place 0 = .ok (.iload_n 0, 1) := by decide +kernel
theorem dX2_place_1 : decode cX2_place 1 = .ok (.sipush 200, 3) := by decide +kernel
theorem dX2_place_4 : decode cX2_place 4 = .ok (.imul, 1) := by decide +kernel
theorem dX2_place_5 : decode cX2_place 5 = .ok (.iload_n 1, 1) := by decide +kernel
theorem dX2_place_6 : decode cX2_place 6 = .ok (.iadd, 1) := by decide +kernel
theorem dX2_place_7 : decode cX2_place 7 = .ok (.iconst 1, 1) := by decide +kernel
theorem dX2_place_8 : decode cX2_place 8 = .ok (.isub, 1) := by decide +kernel
theorem dX2_place_9 : decode cX2_place 9 = .ok (.ireturn, 1) := by decide +kernel
theorem dX2_sourceOf_0 : decode cX2_sourceOf 0 = .ok (.iload_n 0, 1) := by decide +kernel
theorem dX2_sourceOf_1 : decode cX2_sourceOf 1 = .ok (.sipush 200, 3) := by decide +kernel
theorem dX2_sourceOf_4 : decode cX2_sourceOf 4 = .ok (.idiv, 1) := by decide +kernel
theorem dX2_sourceOf_5 : decode cX2_sourceOf 5 = .ok (.ireturn, 1) := by decide +kernel
theorem dX2_numberOf_0 : decode cX2_numberOf 0 = .ok (.iload_n 0, 1) := by decide +kernel
theorem dX2_numberOf_1 : decode cX2_numberOf 1 = .ok (.sipush 200, 3) := by decide +kernel
theorem dX2_numberOf_4 : decode cX2_numberOf 4 = .ok (.irem, 1) := by decide +kernel
theorem dX2_numberOf_5 : decode cX2_numberOf 5 = .ok (.iconst 1, 1) := by decide +kernel
theorem dX2_numberOf_6 : decode cX2_numberOf 6 = .ok (.iadd, 1) := by decide +kernel
theorem dX2_numberOf_7 : decode cX2_numberOf 7 = .ok (.ireturn, 1) := by decide +kernel
theorem dX2_write_0 : decode cX2_write 0 = .ok (.aload_n 0, 1) := by decide +kernel
theorem dX2_write_1 : decode cX2_write 1 = .ok (.getfield 11, 3) := by decide +kernel
theorem dX2_write_4 : decode cX2_write 4 = .ok (.iload_n 1, 1) := by decide +kernel
theorem dX2_write_5 : decode cX2_write 5 = .ok (.iload_n 2, 1) := by decide +kernel
theorem dX2_write_6 : decode cX2_write 6 = .ok (.iastore, 1) := by decide +kernel
theorem dX2_write_7 : decode cX2_write 7 = .ok (.aload_n 0, 1) := by decide +kernel
theorem dX2_write_8 : decode cX2_write 8 = .ok (.getfield 15, 3) := by decide +kernel
theorem dX2_write_11 : decode cX2_write 11 = .ok (.iload_n 1, 1) := by decide +kernel
theorem dX2_write_12 : decode cX2_write 12 = .ok (.iload_n 3, 1) := by decide +kernel
theorem dX2_write_13 : decode cX2_write 13 = .ok (.iastore, 1) := by decide +kernel
theorem dX2_write_14 : decode cX2_write 14 = .ok (.aload_n 0, 1) := by decide +kernel
theorem dX2_write_15 : decode cX2_write 15 = .ok (.getfield 18, 3) := by decide +kernel
theorem dX2_write_18 : decode cX2_write 18 = .ok (.iload_n 1, 1) := by decide +kernel
theorem dX2_write_19 : decode cX2_write 19 = .ok (.iload 4, 2) := by decide +kernel
theorem dX2_write_21 : decode cX2_write 21 = .ok (.iastore, 1) := by decide +kernel
theorem dX2_write_22 : decode cX2_write 22 = .ok (.return_, 1) := by decide +kernel
theorem dX2_become_0 : decode cX2_become 0 = .ok (.aload_n 1, 1) := by decide +kernel
theorem dX2_become_1 : decode cX2_become 1 = .ok (.getfield 11, 3) := by decide +kernel
theorem dX2_become_4 : decode cX2_become 4 = .ok (.iconst 0, 1) := by decide +kernel
theorem dX2_become_5 : decode cX2_become 5 = .ok (.aload_n 0, 1) := by decide +kernel
theorem dX2_become_6 : decode cX2_become 6 = .ok (.getfield 11, 3) := by decide +kernel
theorem dX2_become_9 : decode cX2_become 9 = .ok (.iconst 0, 1) := by decide +kernel
theorem dX2_become_10 : decode cX2_become 10 = .ok (.sipush 2000, 3) := by decide +kernel
theorem dX2_become_13 : decode cX2_become 13 = .ok (.invokestatic 21, 3) := by decide +kernel
theorem dX2_become_16 : decode cX2_become 16 = .ok (.aload_n 1, 1) := by decide +kernel
theorem dX2_become_17 : decode cX2_become 17 = .ok (.getfield 15, 3) := by decide +kernel
theorem dX2_become_20 : decode cX2_become 20 = .ok (.iconst 0, 1) := by decide +kernel
theorem dX2_become_21 : decode cX2_become 21 = .ok (.aload_n 0, 1) := by decide +kernel
theorem dX2_become_22 : decode cX2_become 22 = .ok (.getfield 15, 3) := by decide +kernel
theorem dX2_become_25 : decode cX2_become 25 = .ok (.iconst 0, 1) := by decide +kernel
theorem dX2_become_26 : decode cX2_become 26 = .ok (.sipush 2000, 3) := by decide +kernel
theorem dX2_become_29 : decode cX2_become 29 = .ok (.invokestatic 21, 3) := by decide +kernel
theorem dX2_become_32 : decode cX2_become 32 = .ok (.aload_n 1, 1) := by decide +kernel
theorem dX2_become_33 : decode cX2_become 33 = .ok (.getfield 18, 3) := by decide +kernel
theorem dX2_become_36 : decode cX2_become 36 = .ok (.iconst 0, 1) := by decide +kernel
theorem dX2_become_37 : decode cX2_become 37 = .ok (.aload_n 0, 1) := by decide +kernel
theorem dX2_become_38 : decode cX2_become 38 = .ok (.getfield 18, 3) := by decide +kernel
theorem dX2_become_41 : decode cX2_become 41 = .ok (.iconst 0, 1) := by decide +kernel
theorem dX2_become_42 : decode cX2_become 42 = .ok (.sipush 2000, 3) := by decide +kernel
theorem dX2_become_45 : decode cX2_become 45 = .ok (.invokestatic 21, 3) := by decide +kernel
theorem dX2_become_48 : decode cX2_become 48 = .ok (.return_, 1) := by decide +kernel
theorem dX3_init_0 : decode cX3_init 0 = .ok (.aload_n 0, 1) := by decide +kernel
theorem dX3_init_1 : decode cX3_init 1 = .ok (.invokespecial 1, 3) := by decide +kernel
theorem dX3_init_4 : decode cX3_init 4 = .ok (.aload_n 0, 1) := by decide +kernel
theorem dX3_init_5 : decode cX3_init 5 = .ok (.iconst 0, 1) := by decide +kernel
theorem dX3_init_6 : decode cX3_init 6 = .ok (.putfield 7, 3) := by decide +kernel
theorem dX3_init_9 : decode cX3_init 9 = .ok (.aload_n 0, 1) := by decide +kernel
theorem dX3_init_10 : decode cX3_init 10 = .ok (.iload_n 1, 1) := by decide +kernel
theorem dX3_init_11 : decode cX3_init 11 = .ok (.iconst 0, 1) := by decide +kernel
theorem dX3_init_12 : decode cX3_init 12 = .ok (.invokestatic 13, 3) := by decide +kernel
theorem dX3_init_15 : decode cX3_init 15 = .ok (.newarray .int, 2) := by decide +kernel
theorem dX3_init_17 : decode cX3_init 17 = .ok (.putfield 19, 3) := by decide +kernel
theorem dX3_init_20 : decode cX3_init 20 = .ok (.return_, 1) := by decide +kernel
theorem dX3_holds_0 : decode cX3_holds 0 = .ok (.iconst 0, 1) := by decide +kernel
theorem dX3_holds_1 : decode cX3_holds 1 = .ok (.istore_n 2, 1) := by decide +kernel
theorem dX3_holds_2 : decode cX3_holds 2 = .ok (.iload_n 2, 1) := by decide +kernel
theorem dX3_holds_3 : decode cX3_holds 3 = .ok (.aload_n 0, 1) := by decide +kernel
theorem dX3_holds_4 : decode cX3_holds 4 = .ok (.getfield 7, 3) := by decide +kernel
theorem dX3_holds_7 : decode cX3_holds 7 = .ok (.if_icmp .ge 21, 3) := by decide +kernel
theorem dX3_holds_10 : decode cX3_holds 10 = .ok (.aload_n 0, 1) := by decide +kernel
theorem dX3_holds_11 : decode cX3_holds 11 = .ok (.getfield 19, 3) := by decide +kernel
theorem dX3_holds_14 : decode cX3_holds 14 = .ok (.iload_n 2, 1) := by decide +kernel
theorem dX3_holds_15 : decode cX3_holds 15 = .ok (.iaload, 1) := by decide +kernel
theorem dX3_holds_16 : decode cX3_holds 16 = .ok (.iload_n 1, 1) := by decide +kernel
theorem dX3_holds_17 : decode cX3_holds 17 = .ok (.if_icmp .ne 5, 3) := by decide +kernel
theorem dX3_holds_20 : decode cX3_holds 20 = .ok (.iconst 1, 1) := by decide +kernel
theorem dX3_holds_21 : decode cX3_holds 21 = .ok (.ireturn, 1) := by decide +kernel
theorem dX3_holds_22 : decode cX3_holds 22 = .ok (.iinc 2 1, 3) := by decide +kernel
theorem dX3_holds_25 : decode cX3_holds 25 = .ok (.goto (-23), 3) := by decide +kernel
theorem dX3_holds_28 : decode cX3_holds 28 = .ok (.iconst 0, 1) := by decide +kernel
theorem dX3_holds_29 : decode cX3_holds 29 = .ok (.ireturn, 1) := by decide +kernel
set_option maxRecDepth 20000 in
theorem ggX3_add_X3_dropOldest : GoodIn wsX3_add wsX3_dropOldest := goodIn_r _ [7, 1, 2, 8, 9] (by decide +kernel) (by decide +kernel)
set_option maxRecDepth 20000 in
theorem gX3_add_X3_dropOldest : GoodIn wsX3_add (wsV RX3 23 RX3 yX3_dropOldest wsX3_dropOldest) := goodIn_app (goodIn_of _ (by decide +kernel)) ggX3_add_X3_dropOldest
theorem dX3_add_0 : decode cX3_add 0 = .ok (.aload_n 0, 1) := by decide +kernel
theorem dX3_add_1 : decode cX3_add 1 = .ok (.iload_n 2, 1) := by decide +kernel
theorem dX3_add_2 : decode cX3_add 2 = .ok (.iconst 1, 1) := by decide +kernel
theorem dX3_add_3 : decode cX3_add 3 = .ok (.isub, 1) := by decide +kernel
theorem dX3_add_4 : decode cX3_add 4 = .ok (.invokevirtual 23, 3) := by decide +kernel
theorem dX3_add_7 : decode cX3_add 7 = .ok (.aload_n 0, 1) := by decide +kernel
theorem dX3_add_8 : decode cX3_add 8 = .ok (.getfield 7, 3) := by decide +kernel
theorem dX3_add_11 : decode cX3_add 11 = .ok (.iload_n 2, 1) := by decide +kernel
theorem dX3_add_12 : decode cX3_add 12 = .ok (.if_icmp .ge 35, 3) := by decide +kernel
theorem dX3_add_15 : decode cX3_add 15 = .ok (.aload_n 0, 1) := by decide +kernel
theorem dX3_add_16 : decode cX3_add 16 = .ok (.getfield 7, 3) := by decide +kernel
theorem dX3_add_19 : decode cX3_add 19 = .ok (.aload_n 0, 1) := by decide +kernel
theorem dX3_add_20 : decode cX3_add 20 = .ok (.getfield 19, 3) := by decide +kernel
theorem dX3_add_23 : decode cX3_add 23 = .ok (.arraylength, 1) := by decide +kernel
theorem dX3_add_24 : decode cX3_add 24 = .ok (.if_icmp .ge 23, 3) := by decide +kernel
theorem dX3_add_27 : decode cX3_add 27 = .ok (.aload_n 0, 1) := by decide +kernel
theorem dX3_add_28 : decode cX3_add 28 = .ok (.getfield 19, 3) := by decide +kernel
theorem dX3_add_31 : decode cX3_add 31 = .ok (.aload_n 0, 1) := by decide +kernel
theorem dX3_add_32 : decode cX3_add 32 = .ok (.getfield 7, 3) := by decide +kernel
theorem dX3_add_35 : decode cX3_add 35 = .ok (.iload_n 1, 1) := by decide +kernel
theorem dX3_add_36 : decode cX3_add 36 = .ok (.iastore, 1) := by decide +kernel
theorem dX3_add_37 : decode cX3_add 37 = .ok (.aload_n 0, 1) := by decide +kernel
theorem dX3_add_38 : decode cX3_add 38 = .ok (.dup, 1) := by decide +kernel
theorem dX3_add_39 : decode cX3_add 39 = .ok (.getfield 7, 3) := by decide +kernel
theorem dX3_add_42 : decode cX3_add 42 = .ok (.iconst 1, 1) := by decide +kernel
theorem dX3_add_43 : decode cX3_add 43 = .ok (.iadd, 1) := by decide +kernel
theorem dX3_add_44 : decode cX3_add 44 = .ok (.putfield 7, 3) := by decide +kernel
theorem dX3_add_47 : decode cX3_add 47 = .ok (.return_, 1) := by decide +kernel
theorem dX3_dropOldest_0 : decode cX3_dropOldest 0 = .ok (.iload_n 1, 1) := by decide +kernel
theorem dX3_dropOldest_1 : decode cX3_dropOldest 1 = .ok (.ifCond .le 7, 3) := by decide +kernel
theorem dX3_dropOldest_4 : decode cX3_dropOldest 4 = .ok (.iload_n 1, 1) := by decide +kernel
theorem dX3_dropOldest_5 : decode cX3_dropOldest 5 = .ok (.goto 4, 3) := by decide +kernel
theorem dX3_dropOldest_8 : decode cX3_dropOldest 8 = .ok (.iconst 0, 1) := by decide +kernel
theorem dX3_dropOldest_9 : decode cX3_dropOldest 9 = .ok (.istore_n 2, 1) := by decide +kernel
theorem dX3_dropOldest_10 : decode cX3_dropOldest 10 = .ok (.aload_n 0, 1) := by decide +kernel
theorem dX3_dropOldest_11 : decode cX3_dropOldest 11 = .ok (.getfield 7, 3) := by decide +kernel
theorem dX3_dropOldest_14 : decode cX3_dropOldest 14 = .ok (.iload_n 2, 1) := by decide +kernel
theorem dX3_dropOldest_15 : decode cX3_dropOldest 15 = .ok (.isub, 1) := by decide +kernel
theorem dX3_dropOldest_16 : decode cX3_dropOldest 16 = .ok (.istore_n 3, 1) := by decide +kernel
theorem dX3_dropOldest_17 : decode cX3_dropOldest 17 = .ok (.iload_n 3, 1) := by decide +kernel
theorem dX3_dropOldest_18 : decode cX3_dropOldest 18 = .ok (.ifCond .gt 4, 3) := by decide +kernel
theorem dX3_dropOldest_21 : decode cX3_dropOldest 21 = .ok (.return_, 1) := by decide +kernel
theorem dX3_dropOldest_22 : decode cX3_dropOldest 22 = .ok (.iconst 0, 1) := by decide +kernel
theorem dX3_dropOldest_23 : decode cX3_dropOldest 23 = .ok (.istore 4, 2) := by decide +kernel
theorem dX3_dropOldest_25 : decode cX3_dropOldest 25 = .ok (.iload 4, 2) := by decide +kernel
theorem dX3_dropOldest_27 : decode cX3_dropOldest 27 = .ok (.iload_n 2, 1) := by decide +kernel
theorem dX3_dropOldest_28 : decode cX3_dropOldest 28 = .ok (.if_icmp .ge 25, 3) := by decide +kernel
theorem dX3_dropOldest_31 : decode cX3_dropOldest 31 = .ok (.aload_n 0, 1) := by decide +kernel
theorem dX3_dropOldest_32 : decode cX3_dropOldest 32 = .ok (.getfield 19, 3) := by decide +kernel
theorem dX3_dropOldest_35 : decode cX3_dropOldest 35 = .ok (.iload 4, 2) := by decide +kernel
theorem dX3_dropOldest_37 : decode cX3_dropOldest 37 = .ok (.aload_n 0, 1) := by decide +kernel
theorem dX3_dropOldest_38 : decode cX3_dropOldest 38 = .ok (.getfield 19, 3) := by decide +kernel
theorem dX3_dropOldest_41 : decode cX3_dropOldest 41 = .ok (.iload 4, 2) := by decide +kernel
theorem dX3_dropOldest_43 : decode cX3_dropOldest 43 = .ok (.iload_n 3, 1) := by decide +kernel
theorem dX3_dropOldest_44 : decode cX3_dropOldest 44 = .ok (.iadd, 1) := by decide +kernel
theorem dX3_dropOldest_45 : decode cX3_dropOldest 45 = .ok (.iaload, 1) := by decide +kernel
theorem dX3_dropOldest_46 : decode cX3_dropOldest 46 = .ok (.iastore, 1) := by decide +kernel
theorem dX3_dropOldest_47 : decode cX3_dropOldest 47 = .ok (.iinc 4 1, 3) := by decide +kernel
theorem dX3_dropOldest_50 : decode cX3_dropOldest 50 = .ok (.goto (-25), 3) := by decide +kernel
theorem dX3_dropOldest_53 : decode cX3_dropOldest 53 = .ok (.aload_n 0, 1) := by decide +kernel
theorem dX3_dropOldest_54 : decode cX3_dropOldest 54 = .ok (.iload_n 2, 1) := by decide +kernel
theorem dX3_dropOldest_55 : decode cX3_dropOldest 55 = .ok (.putfield 7, 3) := by decide +kernel
theorem dX3_dropOldest_58 : decode cX3_dropOldest 58 = .ok (.return_, 1) := by decide +kernel
theorem dX3_become_0 : decode cX3_become 0 = .ok (.aload_n 0, 1) := by decide +kernel
theorem dX3_become_1 : decode cX3_become 1 = .ok (.aload_n 1, 1) := by decide +kernel
theorem dX3_become_2 : decode cX3_become 2 = .ok (.getfield 7, 3) := by decide +kernel
theorem dX3_become_5 : decode cX3_become 5 = .ok (.aload_n 0, 1) := by decide +kernel
theorem dX3_become_6 : decode cX3_become 6 = .ok (.getfield 19, 3) := by decide +kernel
theorem dX3_become_9 : decode cX3_become 9 = .ok (.arraylength, 1) := by decide +kernel
theorem dX3_become_10 : decode cX3_become 10 = .ok (.invokestatic 27, 3) := by decide +kernel
theorem dX3_become_13 : decode cX3_become 13 = .ok (.putfield 7, 3) := by decide +kernel
theorem dX3_become_16 : decode cX3_become 16 = .ok (.aload_n 1, 1) := by decide +kernel
theorem dX3_become_17 : decode cX3_become 17 = .ok (.getfield 19, 3) := by decide +kernel
theorem dX3_become_20 : decode cX3_become 20 = .ok (.iconst 0, 1) := by decide +kernel
theorem dX3_become_21 : decode cX3_become 21 = .ok (.aload_n 0, 1) := by decide +kernel
theorem dX3_become_22 : decode cX3_become 22 = .ok (.getfield 19, 3) := by decide +kernel
theorem dX3_become_25 : decode cX3_become 25 = .ok (.iconst 0, 1) := by decide +kernel
theorem dX3_become_26 : decode cX3_become 26 = .ok (.aload_n 0, 1) := by decide +kernel
theorem dX3_become_27 : decode cX3_become 27 = .ok (.getfield 7, 3) := by decide +kernel
theorem dX3_become_30 : decode cX3_become 30 = .ok (.invokestatic 30, 3) := by decide +kernel
theorem dX3_become_33 : decode cX3_become 33 = .ok (.return_, 1) := by decide +kernel
set_option maxRecDepth 20000 in
theorem ggX4_init_X2_init : GoodIn wsX4_init wsX2_init := goodIn_r _ [25, 26, 2, 3, 27, 28, 29, 30, 87, 88, 89] (by decide +kernel) (by decide +kernel)
set_option maxRecDepth 20000 in
theorem gX4_init_X2_init_n19 : GoodIn wsX4_init (wsX2_init) := ggX4_init_X2_init
set_option maxRecDepth 20000 in
theorem ggX4_init_X0_init : GoodIn wsX4_init wsX0_init := goodIn_r _ [32, 33, 2, 3, 27, 34, 35, 36, 37, 38, 90, 91, 92, 93, 94] (by decide +kernel) (by decide +kernel)
set_option maxRecDepth 20000 in
theorem gX4_init_X0_init_n26 : GoodIn wsX4_init (wsX0_init) := ggX4_init_X0_init
set_option maxRecDepth 20000 in
theorem ggX4_init_X1_init : GoodIn wsX4_init wsX1_init := goodIn_r _ [40, 41, 2, 3, 42, 43, 44, 45, 46, 47, 48, 27, 49, 50, 51, 52, 53, 54, 55, 56, 57, 58, 59, 60, 61, 62, 63, 64, 65, 66, 67, 68, 69, 70, 71, 72, 73, 74, 75, 95, 96, 97, 98, 99, 100, 101, 102, 103, 104, 105, 106, 107, 108, 109, 110, 111] (by decide +kernel) (by decide +kernel)
set_option maxRecDepth 20000 in
theorem gX4_init_X1_init_n56 : GoodIn wsX4_init (wsX1_init) := ggX4_init_X1_init
theorem dX4_init_0 : decode cX4_init 0 = .ok (.aload_n 0, 1) := by decide +kernel
theorem dX4_init_1 : decode cX4_init 1 = .ok (.invokespecial 3, 3) := by decide +kernel
theorem dX4_init_4 : decode cX4_init 4 = .ok (.aload_n 0, 1) := by decide +kernel
theorem dX4_init_5 : decode cX4_init 5 = .ok (.bipush 10, 2) := by decide +kernel
theorem dX4_init_7 : decode cX4_init 7 = .ok (.anewarray 9, 3) := by decide +kernel
theorem dX4_init_10 : decode cX4_init 10 = .ok (.putfield 11, 3) := by decide +kernel
theorem dX4_init_13 : decode cX4_init 13 = .ok (.aload_n 0, 1) := by decide +kernel
theorem dX4_init_14 : decode cX4_init 14 = .ok (.new 17, 3) := by decide +kernel
theorem dX4_init_17 : decode cX4_init 17 = .ok (.dup, 1) := by decide +kernel
theorem dX4_init_18 : decode cX4_init 18 = .ok (.invokespecial 19, 3) := by decide +kernel
theorem dX4_init_21 : decode cX4_init 21 = .ok (.putfield 20, 3) := by decide +kernel
theorem dX4_init_24 : decode cX4_init 24 = .ok (.aload_n 0, 1) := by decide +kernel
theorem dX4_init_25 : decode cX4_init 25 = .ok (.new 24, 3) := by decide +kernel
theorem dX4_init_28 : decode cX4_init 28 = .ok (.dup, 1) := by decide +kernel
theorem dX4_init_29 : decode cX4_init 29 = .ok (.invokespecial 26, 3) := by decide +kernel
theorem dX4_init_32 : decode cX4_init 32 = .ok (.putfield 27, 3) := by decide +kernel
theorem dX4_init_35 : decode cX4_init 35 = .ok (.aload_n 0, 1) := by decide +kernel
theorem dX4_init_36 : decode cX4_init 36 = .ok (.iconst 0, 1) := by decide +kernel
theorem dX4_init_37 : decode cX4_init 37 = .ok (.putfield 31, 3) := by decide +kernel
theorem dX4_init_40 : decode cX4_init 40 = .ok (.aload_n 0, 1) := by decide +kernel
theorem dX4_init_41 : decode cX4_init 41 = .ok (.iconst 0, 1) := by decide +kernel
theorem dX4_init_42 : decode cX4_init 42 = .ok (.putfield 35, 3) := by decide +kernel
theorem dX4_init_45 : decode cX4_init 45 = .ok (.aload_n 0, 1) := by decide +kernel
theorem dX4_init_46 : decode cX4_init 46 = .ok (.iconst 0, 1) := by decide +kernel
theorem dX4_init_47 : decode cX4_init 47 = .ok (.putfield 38, 3) := by decide +kernel
theorem dX4_init_50 : decode cX4_init 50 = .ok (.aload_n 0, 1) := by decide +kernel
theorem dX4_init_51 : decode cX4_init 51 = .ok (.sipush 1023, 3) := by decide +kernel
theorem dX4_init_54 : decode cX4_init 54 = .ok (.putfield 41, 3) := by decide +kernel
theorem dX4_init_57 : decode cX4_init 57 = .ok (.aload_n 0, 1) := by decide +kernel
theorem dX4_init_58 : decode cX4_init 58 = .ok (.iconst 0, 1) := by decide +kernel
theorem dX4_init_59 : decode cX4_init 59 = .ok (.putfield 44, 3) := by decide +kernel
theorem dX4_init_62 : decode cX4_init 62 = .ok (.aload_n 0, 1) := by decide +kernel
theorem dX4_init_63 : decode cX4_init 63 = .ok (.iconst 0, 1) := by decide +kernel
theorem dX4_init_64 : decode cX4_init 64 = .ok (.putfield 47, 3) := by decide +kernel
theorem dX4_init_67 : decode cX4_init 67 = .ok (.aload_n 0, 1) := by decide +kernel
theorem dX4_init_68 : decode cX4_init 68 = .ok (.iconst 0, 1) := by decide +kernel
theorem dX4_init_69 : decode cX4_init 69 = .ok (.putfield 50, 3) := by decide +kernel
theorem dX4_init_72 : decode cX4_init 72 = .ok (.aload_n 0, 1) := by decide +kernel
theorem dX4_init_73 : decode cX4_init 73 = .ok (.iconst 0, 1) := by decide +kernel
theorem dX4_init_74 : decode cX4_init 74 = .ok (.putfield 53, 3) := by decide +kernel
theorem dX4_init_77 : decode cX4_init 77 = .ok (.iconst 0, 1) := by decide +kernel
theorem dX4_init_78 : decode cX4_init 78 = .ok (.istore_n 1, 1) := by decide +kernel
theorem dX4_init_79 : decode cX4_init 79 = .ok (.iload_n 1, 1) := by decide +kernel
theorem dX4_init_80 : decode cX4_init 80 = .ok (.bipush 10, 2) := by decide +kernel
theorem dX4_init_82 : decode cX4_init 82 = .ok (.if_icmp .ge 22, 3) := by decide +kernel
theorem dX4_init_85 : decode cX4_init 85 = .ok (.aload_n 0, 1) := by decide +kernel
theorem dX4_init_86 : decode cX4_init 86 = .ok (.getfield 11, 3) := by decide +kernel
theorem dX4_init_89 : decode cX4_init 89 = .ok (.iload_n 1, 1) := by decide +kernel
theorem dX4_init_90 : decode cX4_init 90 = .ok (.new 9, 3) := by decide +kernel
theorem dX4_init_93 : decode cX4_init 93 = .ok (.dup, 1) := by decide +kernel
theorem dX4_init_94 : decode cX4_init 94 = .ok (.invokespecial 56, 3) := by decide +kernel
theorem dX4_init_97 : decode cX4_init 97 = .ok (.aastore, 1) := by decide +kernel
theorem dX4_init_98 : decode cX4_init 98 = .ok (.iinc 1 1, 3) := by decide +kernel
theorem dX4_init_101 : decode cX4_init 101 = .ok (.goto (-22), 3) := by decide +kernel
theorem dX4_init_104 : decode cX4_init 104 = .ok (.return_, 1) := by decide +kernel
set_option maxRecDepth 20000 in
theorem ggX4_become_X1_become : GoodIn wsX4_become wsX1_become := goodIn_r _ [16, 17, 18, 19, 20, 21, 22, 23, 24, 25, 26, 27, 28, 29, 30, 31, 32, 33, 34, 35, 36, 37, 38, 39, 40, 41, 42, 43, 44, 45, 46, 47, 79, 80, 81, 82, 83, 84, 85, 86, 87, 88, 89, 90, 91, 92, 93, 94, 95] (by decide +kernel) (by decide +kernel)
set_option maxRecDepth 20000 in
theorem gX4_become_X1_become : GoodIn wsX4_become (wsV RX4 57 RX1 yX1_become wsX1_become) := goodIn_app (goodIn_of _ (by decide +kernel)) ggX4_become_X1_become
set_option maxRecDepth 20000 in
theorem ggX4_become_X2_become : GoodIn wsX4_become wsX2_become := goodIn_r _ [52, 53, 54, 19, 20, 21, 55, 56, 96, 97, 98] (by decide +kernel) (by decide +kernel)
set_option maxRecDepth 20000 in
theorem gX4_become_X2_become : GoodIn wsX4_become (wsV RX4 61 RX2 yX2_become wsX2_become) := goodIn_app (goodIn_of _ (by decide +kernel)) ggX4_become_X2_become
set_option maxRecDepth 20000 in
theorem ggX4_become_X0_become : GoodIn wsX4_become wsX0_become := goodIn_r _ [61, 62, 63, 64, 19, 20, 21, 65, 66, 67, 99, 100, 101, 102, 103] (by decide +kernel) (by decide +kernel)
set_option maxRecDepth 20000 in
theorem gX4_become_X0_become : GoodIn wsX4_become (wsV RX4 64 RX0 yX0_become wsX0_become) := goodIn_app (goodIn_of _ (by decide +kernel)) ggX4_become_X0_become
theorem dX4_become_0 : decode cX4_become 0 = .ok (.iconst 0, 1) := by decide +kernel
theorem dX4_become_1 : decode cX4_become 1 = .ok (.istore_n 2, 1) := by decide +kernel
theorem dX4_become_2 : decode cX4_become 2 = .ok (.iload_n 2, 1) := by decide +kernel
theorem dX4_become_3 : decode cX4_become 3 = .ok (.bipush 10, 2) := by decide +kernel
theorem dX4_become_5 : decode cX4_become 5 = .ok (.if_icmp .ge 24, 3) := by decide +kernel
theorem dX4_become_8 : decode cX4_become 8 = .ok (.aload_n 0, 1) := by decide +kernel
theorem dX4_become_9 : decode cX4_become 9 = .ok (.getfield 11, 3) := by decide +kernel
theorem dX4_become_12 : decode cX4_become 12 = .ok (.iload_n 2, 1) := by decide +kernel
theorem dX4_become_13 : decode cX4_become 13 = .ok (.aaload, 1) := by decide +kernel
theorem dX4_become_14 : decode cX4_become 14 = .ok (.aload_n 1, 1) := by decide +kernel
theorem dX4_become_15 : decode cX4_become 15 = .ok (.getfield 11, 3) := by decide +kernel
theorem dX4_become_18 : decode cX4_become 18 = .ok (.iload_n 2, 1) := by decide +kernel
theorem dX4_become_19 : decode cX4_become 19 = .ok (.aaload, 1) := by decide +kernel
theorem dX4_become_20 : decode cX4_become 20 = .ok (.invokevirtual 57, 3) := by decide +kernel
theorem dX4_become_23 : decode cX4_become 23 = .ok (.iinc 2 1, 3) := by decide +kernel
theorem dX4_become_26 : decode cX4_become 26 = .ok (.goto (-24), 3) := by decide +kernel
theorem dX4_become_29 : decode cX4_become 29 = .ok (.aload_n 0, 1) := by decide +kernel
theorem dX4_become_30 : decode cX4_become 30 = .ok (.getfield 20, 3) := by decide +kernel
theorem dX4_become_33 : decode cX4_become 33 = .ok (.aload_n 1, 1) := by decide +kernel
theorem dX4_become_34 : decode cX4_become 34 = .ok (.getfield 20, 3) := by decide +kernel
theorem dX4_become_37 : decode cX4_become 37 = .ok (.invokevirtual 61, 3) := by decide +kernel
theorem dX4_become_40 : decode cX4_become 40 = .ok (.aload_n 0, 1) := by decide +kernel
theorem dX4_become_41 : decode cX4_become 41 = .ok (.getfield 27, 3) := by decide +kernel
theorem dX4_become_44 : decode cX4_become 44 = .ok (.aload_n 1, 1) := by decide +kernel
theorem dX4_become_45 : decode cX4_become 45 = .ok (.getfield 27, 3) := by decide +kernel
theorem dX4_become_48 : decode cX4_become 48 = .ok (.invokevirtual 64, 3) := by decide +kernel
theorem dX4_become_51 : decode cX4_become 51 = .ok (.aload_n 0, 1) := by decide +kernel
theorem dX4_become_52 : decode cX4_become 52 = .ok (.aload_n 1, 1) := by decide +kernel
theorem dX4_become_53 : decode cX4_become 53 = .ok (.getfield 31, 3) := by decide +kernel
theorem dX4_become_56 : decode cX4_become 56 = .ok (.putfield 31, 3) := by decide +kernel
theorem dX4_become_59 : decode cX4_become 59 = .ok (.aload_n 0, 1) := by decide +kernel
theorem dX4_become_60 : decode cX4_become 60 = .ok (.aload_n 1, 1) := by decide +kernel
theorem dX4_become_61 : decode cX4_become 61 = .ok (.getfield 35, 3) := by decide +kernel
theorem dX4_become_64 : decode cX4_become 64 = .ok (.putfield 35, 3) := by decide +kernel
theorem dX4_become_67 : decode cX4_become 67 = .ok (.aload_n 0, 1) := by decide +kernel
theorem dX4_become_68 : decode cX4_become 68 = .ok (.aload_n 1, 1) := by decide +kernel
theorem dX4_become_69 : decode cX4_become 69 = .ok (.getfield 38, 3) := by decide +kernel
theorem dX4_become_72 : decode cX4_become 72 = .ok (.putfield 38, 3) := by decide +kernel
theorem dX4_become_75 : decode cX4_become 75 = .ok (.aload_n 0, 1) := by decide +kernel
theorem dX4_become_76 : decode cX4_become 76 = .ok (.aload_n 1, 1) := by decide +kernel
theorem dX4_become_77 : decode cX4_become 77 = .ok (.getfield 41, 3) := by decide +kernel
theorem dX4_become_80 : decode cX4_become 80 = .ok (.putfield 41, 3) := by decide +kernel
theorem dX4_become_83 : decode cX4_become 83 = .ok (.aload_n 0, 1) := by decide +kernel
theorem dX4_become_84 : decode cX4_become 84 = .ok (.aload_n 1, 1) := by decide +kernel
theorem dX4_become_85 : decode cX4_become 85 = .ok (.getfield 44, 3) := by decide +kernel
theorem dX4_become_88 : decode cX4_become 88 = .ok (.putfield 44, 3) := by decide +kernel
theorem dX4_become_91 : decode cX4_become 91 = .ok (.aload_n 0, 1) := by decide +kernel
theorem dX4_become_92 : decode cX4_become 92 = .ok (.aload_n 1, 1) := by decide +kernel
theorem dX4_become_93 : decode cX4_become 93 = .ok (.getfield 47, 3) := by decide +kernel
theorem dX4_become_96 : decode cX4_become 96 = .ok (.putfield 47, 3) := by decide +kernel
theorem dX4_become_99 : decode cX4_become 99 = .ok (.aload_n 0, 1) := by decide +kernel
theorem dX4_become_100 : decode cX4_become 100 = .ok (.aload_n 1, 1) := by decide +kernel
theorem dX4_become_101 : decode cX4_become 101 = .ok (.getfield 50, 3) := by decide +kernel
theorem dX4_become_104 : decode cX4_become 104 = .ok (.putfield 50, 3) := by decide +kernel
theorem dX4_become_107 : decode cX4_become 107 = .ok (.aload_n 0, 1) := by decide +kernel
theorem dX4_become_108 : decode cX4_become 108 = .ok (.aload_n 1, 1) := by decide +kernel
theorem dX4_become_109 : decode cX4_become 109 = .ok (.getfield 53, 3) := by decide +kernel
theorem dX4_become_112 : decode cX4_become 112 = .ok (.putfield 53, 3) := by decide +kernel
theorem dX4_become_115 : decode cX4_become 115 = .ok (.return_, 1) := by decide +kernel
theorem dX4_nextPhase_0 : decode cX4_nextPhase 0 = .ok (.aload_n 0, 1) := by decide +kernel
theorem dX4_nextPhase_1 : decode cX4_nextPhase 1 = .ok (.getfield 38, 3) := by decide +kernel
theorem dX4_nextPhase_4 : decode cX4_nextPhase 4 = .ok (.iconst 2, 1) := by decide +kernel
theorem dX4_nextPhase_5 : decode cX4_nextPhase 5 = .ok (.if_icmp .ge 14, 3) := by decide +kernel
theorem dX4_nextPhase_8 : decode cX4_nextPhase 8 = .ok (.aload_n 0, 1) := by decide +kernel
theorem dX4_nextPhase_9 : decode cX4_nextPhase 9 = .ok (.dup, 1) := by decide +kernel
theorem dX4_nextPhase_10 : decode cX4_nextPhase 10 = .ok (.getfield 38, 3) := by decide +kernel
theorem dX4_nextPhase_13 : decode cX4_nextPhase 13 = .ok (.iconst 1, 1) := by decide +kernel
theorem dX4_nextPhase_14 : decode cX4_nextPhase 14 = .ok (.iadd, 1) := by decide +kernel
theorem dX4_nextPhase_15 : decode cX4_nextPhase 15 = .ok (.putfield 38, 3) := by decide +kernel
theorem dX4_nextPhase_18 : decode cX4_nextPhase 18 = .ok (.return_, 1) := by decide +kernel
theorem dX4_nextPhase_19 : decode cX4_nextPhase 19 = .ok (.aload_n 0, 1) := by decide +kernel
theorem dX4_nextPhase_20 : decode cX4_nextPhase 20 = .ok (.iconst 0, 1) := by decide +kernel
theorem dX4_nextPhase_21 : decode cX4_nextPhase 21 = .ok (.putfield 38, 3) := by decide +kernel
theorem dX4_nextPhase_24 : decode cX4_nextPhase 24 = .ok (.aload_n 0, 1) := by decide +kernel
theorem dX4_nextPhase_25 : decode cX4_nextPhase 25 = .ok (.dup, 1) := by decide +kernel
theorem dX4_nextPhase_26 : decode cX4_nextPhase 26 = .ok (.getfield 35, 3) := by decide +kernel
theorem dX4_nextPhase_29 : decode cX4_nextPhase 29 = .ok (.iconst 1, 1) := by decide +kernel
theorem dX4_nextPhase_30 : decode cX4_nextPhase 30 = .ok (.iadd, 1) := by decide +kernel
theorem dX4_nextPhase_31 : decode cX4_nextPhase 31 = .ok (.putfield 35, 3) := by decide +kernel
theorem dX4_nextPhase_34 : decode cX4_nextPhase 34 = .ok (.aload_n 0, 1) := by decide +kernel
theorem dX4_nextPhase_35 : decode cX4_nextPhase 35 = .ok (.aload_n 0, 1) := by decide +kernel
theorem dX4_nextPhase_36 : decode cX4_nextPhase 36 = .ok (.getfield 44, 3) := by decide +kernel
theorem dX4_nextPhase_39 : decode cX4_nextPhase 39 = .ok (.putfield 41, 3) := by decide +kernel
theorem dX4_nextPhase_42 : decode cX4_nextPhase 42 = .ok (.aload_n 0, 1) := by decide +kernel
theorem dX4_nextPhase_43 : decode cX4_nextPhase 43 = .ok (.iconst 0, 1) := by decide +kernel
theorem dX4_nextPhase_44 : decode cX4_nextPhase 44 = .ok (.putfield 44, 3) := by decide +kernel
theorem dX4_nextPhase_47 : decode cX4_nextPhase 47 = .ok (.return_, 1) := by decide +kernel
set_option maxRecDepth 20000 in
theorem ggX4_tellsByNext_X5_isIn : GoodIn wsX4_tellsByNext wsX5_isIn := goodIn_r _ [5] (by decide +kernel) (by decide +kernel)
set_option maxRecDepth 20000 in
theorem gX4_tellsByNext_X5_isIn_n67 : GoodIn wsX4_tellsByNext (wsX5_isIn) := ggX4_tellsByNext_X5_isIn
theorem dX4_tellsByNext_0 : decode cX4_tellsByNext 0 = .ok (.aload_n 0, 1) := by decide +kernel
theorem dX4_tellsByNext_1 : decode cX4_tellsByNext 1 = .ok (.getfield 38, 3) := by decide +kernel
theorem dX4_tellsByNext_4 : decode cX4_tellsByNext 4 = .ok (.iconst 2, 1) := by decide +kernel
theorem dX4_tellsByNext_5 : decode cX4_tellsByNext 5 = .ok (.if_icmp .ne 18, 3) := by decide +kernel
theorem dX4_tellsByNext_8 : decode cX4_tellsByNext 8 = .ok (.aload_n 0, 1) := by decide +kernel
theorem dX4_tellsByNext_9 : decode cX4_tellsByNext 9 = .ok (.getfield 44, 3) := by decide +kernel
theorem dX4_tellsByNext_12 : decode cX4_tellsByNext 12 = .ok (.iload_n 1, 1) := by decide +kernel
theorem dX4_tellsByNext_13 : decode cX4_tellsByNext 13 = .ok (.invokestatic 67, 3) := by decide +kernel
theorem dX4_tellsByNext_16 : decode cX4_tellsByNext 16 = .ok (.ifCond .eq 7, 3) := by decide +kernel
theorem dX4_tellsByNext_19 : decode cX4_tellsByNext 19 = .ok (.iconst 1, 1) := by decide +kernel
theorem dX4_tellsByNext_20 : decode cX4_tellsByNext 20 = .ok (.goto 4, 3) := by decide +kernel
theorem dX4_tellsByNext_23 : decode cX4_tellsByNext 23 = .ok (.iconst 0, 1) := by decide +kernel
theorem dX4_tellsByNext_24 : decode cX4_tellsByNext 24 = .ok (.ireturn, 1) := by decide +kernel
set_option maxRecDepth 20000 in
theorem ggX4_canTell_X4_tellsByNext : GoodIn wsX4_canTell wsX4_tellsByNext := goodIn_r _ [6, 7, 8, 9, 10, 11, 12, 13, 14, 15, 16, 17, 18, 19, 20, 21, 22] (by decide +kernel) (by decide +kernel)
set_option maxRecDepth 20000 in
theorem gX4_canTell_X4_tellsByNext : GoodIn wsX4_canTell (wsV RX4 71 RX4 yX4_tellsByNext wsX4_tellsByNext) := goodIn_app (goodIn_of _ (by decide +kernel)) ggX4_canTell_X4_tellsByNext
set_option maxRecDepth 20000 in
theorem ggX4_canTell_X5_isIn : GoodIn wsX4_canTell wsX5_isIn := goodIn_r _ [11] (by decide +kernel) (by decide +kernel)
set_option maxRecDepth 20000 in
theorem gX4_canTell_X5_isIn_n67 : GoodIn wsX4_canTell (wsX5_isIn) := ggX4_canTell_X5_isIn
theorem dX4_canTell_0 : decode cX4_canTell 0 = .ok (.aload_n 0, 1) := by decide +kernel
theorem dX4_canTell_1 : decode cX4_canTell 1 = .ok (.iload_n 1, 1) := by decide +kernel
theorem dX4_canTell_2 : decode cX4_canTell 2 = .ok (.invokevirtual 71, 3) := by decide +kernel
theorem dX4_canTell_5 : decode cX4_canTell 5 = .ok (.ifCond .ne 14, 3) := by decide +kernel
theorem dX4_canTell_8 : decode cX4_canTell 8 = .ok (.aload_n 0, 1) := by decide +kernel
theorem dX4_canTell_9 : decode cX4_canTell 9 = .ok (.getfield 41, 3) := by decide +kernel
theorem dX4_canTell_12 : decode cX4_canTell 12 = .ok (.iload_n 1, 1) := by decide +kernel
theorem dX4_canTell_13 : decode cX4_canTell 13 = .ok (.invokestatic 67, 3) := by decide +kernel
theorem dX4_canTell_16 : decode cX4_canTell 16 = .ok (.ifCond .eq 7, 3) := by decide +kernel
theorem dX4_canTell_19 : decode cX4_canTell 19 = .ok (.iconst 1, 1) := by decide +kernel
theorem dX4_canTell_20 : decode cX4_canTell 20 = .ok (.goto 4, 3) := by decide +kernel
theorem dX4_canTell_23 : decode cX4_canTell 23 = .ok (.iconst 0, 1) := by decide +kernel
theorem dX4_canTell_24 : decode cX4_canTell 24 = .ok (.ireturn, 1) := by decide +kernel
set_option maxRecDepth 20000 in
theorem ggX4_keyToTell_X4_tellsByNext : GoodIn wsX4_keyToTell wsX4_tellsByNext := goodIn_r _ [6, 7, 8, 9, 10, 11, 12, 13, 14, 15, 16, 17, 18, 19, 20, 21, 22] (by decide +kernel) (by decide +kernel)
set_option maxRecDepth 20000 in
theorem gX4_keyToTell_X4_tellsByNext : GoodIn wsX4_keyToTell (wsV RX4 71 RX4 yX4_tellsByNext wsX4_tellsByNext) := goodIn_app (goodIn_of _ (by decide +kernel)) ggX4_keyToTell_X4_tellsByNext
theorem dX4_keyToTell_0 : decode cX4_keyToTell 0 = .ok (.aload_n 0, 1) := by decide +kernel
theorem dX4_keyToTell_1 : decode cX4_keyToTell 1 = .ok (.iload_n 1, 1) := by decide +kernel
theorem dX4_keyToTell_2 : decode cX4_keyToTell 2 = .ok (.invokevirtual 71, 3) := by decide +kernel
theorem dX4_keyToTell_5 : decode cX4_keyToTell 5 = .ok (.ifCond .eq 12, 3) := by decide +kernel
theorem dX4_keyToTell_8 : decode cX4_keyToTell 8 = .ok (.aload_n 0, 1) := by decide +kernel
theorem dX4_keyToTell_9 : decode cX4_keyToTell 9 = .ok (.getfield 35, 3) := by decide +kernel
theorem dX4_keyToTell_12 : decode cX4_keyToTell 12 = .ok (.iconst 1, 1) := by decide +kernel
theorem dX4_keyToTell_13 : decode cX4_keyToTell 13 = .ok (.iadd, 1) := by decide +kernel
theorem dX4_keyToTell_14 : decode cX4_keyToTell 14 = .ok (.goto 7, 3) := by decide +kernel
theorem dX4_keyToTell_17 : decode cX4_keyToTell 17 = .ok (.aload_n 0, 1) := by decide +kernel
theorem dX4_keyToTell_18 : decode cX4_keyToTell 18 = .ok (.getfield 35, 3) := by decide +kernel
theorem dX4_keyToTell_21 : decode cX4_keyToTell 21 = .ok (.ireturn, 1) := by decide +kernel
set_option maxRecDepth 20000 in
theorem ggX4_knows_X5_isIn : GoodIn wsX4_knows wsX5_isIn := goodIn_r _ [8] (by decide +kernel) (by decide +kernel)
set_option maxRecDepth 20000 in
theorem gX4_knows_X5_isIn_n67 : GoodIn wsX4_knows (wsX5_isIn) := ggX4_knows_X5_isIn
theorem dX4_knows_0 : decode cX4_knows 0 = .ok (.aload_n 0, 1) := by decide +kernel
theorem dX4_knows_1 : decode cX4_knows 1 = .ok (.getfield 20, 3) := by decide +kernel
theorem dX4_knows_4 : decode cX4_knows 4 = .ok (.getfield 75, 3) := by decide +kernel
theorem dX4_knows_7 : decode cX4_knows 7 = .ok (.iload_n 2, 1) := by decide +kernel
theorem dX4_knows_8 : decode cX4_knows 8 = .ok (.iaload, 1) := by decide +kernel
theorem dX4_knows_9 : decode cX4_knows 9 = .ok (.istore_n 3, 1) := by decide +kernel
theorem dX4_knows_10 : decode cX4_knows 10 = .ok (.iload_n 3, 1) := by decide +kernel
theorem dX4_knows_11 : decode cX4_knows 11 = .ok (.aload_n 0, 1) := by decide +kernel
theorem dX4_knows_12 : decode cX4_knows 12 = .ok (.getfield 35, 3) := by decide +kernel
theorem dX4_knows_15 : decode cX4_knows 15 = .ok (.if_icmp .ne 14, 3) := by decide +kernel
theorem dX4_knows_18 : decode cX4_knows 18 = .ok (.aload_n 0, 1) := by decide +kernel
theorem dX4_knows_19 : decode cX4_knows 19 = .ok (.getfield 41, 3) := by decide +kernel
end
section
theorem dX4_knows_22 : decode cX4_knows 22 = .ok (.iload_n 1, 1) := by decide +kernel
theorem dX4_knows_23 : decode cX4_knows 23 = .ok (.invokestatic 67, 3) := by decide +kernel
theorem dX4_knows_26 : decode cX4_knows 26 = .ok (.ifCond .ne 24, 3) := by decide +kernel
theorem dX4_knows_29 : decode cX4_knows 29 = .ok (.iload_n 3, 1) := by decide +kernel
theorem dX4_knows_30 : decode cX4_knows 30 = .ok (.aload_n 0, 1) := by decide +kernel
theorem dX4_knows_31 : decode cX4_knows 31 = .ok (.getfield 35, 3) := by decide +kernel
theorem dX4_knows_34 : decode cX4_knows 34 = .ok (.iconst 1, 1) := by decide +kernel
theorem dX4_knows_35 : decode cX4_knows 35 = .ok (.iadd, 1) := by decide +kernel
theorem dX4_knows_36 : decode cX4_knows 36 = .ok (.if_icmp .ne 18, 3) := by decide +kernel
theorem dX4_knows_39 : decode cX4_knows 39 = .ok (.aload_n 0, 1) := by decide +kernel
theorem dX4_knows_40 : decode cX4_knows 40 = .ok (.getfield 44, 3) := by decide +kernel
theorem dX4_knows_43 : decode cX4_knows 43 = .ok (.iload_n 1, 1) := by decide +kernel
theorem dX4_knows_44 : decode cX4_knows 44 = .ok (.invokestatic 67, 3) := by decide +kernel
theorem dX4_knows_47 : decode cX4_knows 47 = .ok (.ifCond .eq 7, 3) := by decide +kernel
theorem dX4_knows_50 : decode cX4_knows 50 = .ok (.iconst 1, 1) := by decide +kernel
theorem dX4_knows_51 : decode cX4_knows 51 = .ok (.goto 4, 3) := by decide +kernel
theorem dX4_knows_54 : decode cX4_knows 54 = .ok (.iconst 0, 1) := by decide +kernel
theorem dX4_knows_55 : decode cX4_knows 55 = .ok (.ireturn, 1) := by decide +kernel
set_option maxRecDepth 20000 in
theorem ggX4_isMeant_X5_isIn : GoodIn wsX4_isMeant wsX5_isIn := goodIn_r _ [7] (by decide +kernel) (by decide +kernel)
set_option maxRecDepth 20000 in
theorem gX4_isMeant_X5_isIn_n67 : GoodIn wsX4_isMeant (wsX5_isIn) := ggX4_isMeant_X5_isIn
theorem dX4_isMeant_0 : decode cX4_isMeant 0 = .ok (.aload_n 0, 1) := by decide +kernel
theorem dX4_isMeant_1 : decode cX4_isMeant 1 = .ok (.getfield 20, 3) := by decide +kernel
theorem dX4_isMeant_4 : decode cX4_isMeant 4 = .ok (.getfield 78, 3) := by decide +kernel
theorem dX4_isMeant_7 : decode cX4_isMeant 7 = .ok (.iload_n 2, 1) := by decide +kernel
theorem dX4_isMeant_8 : decode cX4_isMeant 8 = .ok (.iaload, 1) := by decide +kernel
theorem dX4_isMeant_9 : decode cX4_isMeant 9 = .ok (.istore_n 3, 1) := by decide +kernel
theorem dX4_isMeant_10 : decode cX4_isMeant 10 = .ok (.iload_n 3, 1) := by decide +kernel
theorem dX4_isMeant_11 : decode cX4_isMeant 11 = .ok (.bipush 10, 2) := by decide +kernel
theorem dX4_isMeant_13 : decode cX4_isMeant 13 = .ok (.if_icmp .ge 16, 3) := by decide +kernel
theorem dX4_isMeant_16 : decode cX4_isMeant 16 = .ok (.iload_n 3, 1) := by decide +kernel
theorem dX4_isMeant_17 : decode cX4_isMeant 17 = .ok (.iload_n 1, 1) := by decide +kernel
theorem dX4_isMeant_18 : decode cX4_isMeant 18 = .ok (.if_icmp .ne 7, 3) := by decide +kernel
theorem dX4_isMeant_21 : decode cX4_isMeant 21 = .ok (.iconst 1, 1) := by decide +kernel
theorem dX4_isMeant_22 : decode cX4_isMeant 22 = .ok (.goto 25, 3) := by decide +kernel
theorem dX4_isMeant_25 : decode cX4_isMeant 25 = .ok (.iconst 0, 1) := by decide +kernel
theorem dX4_isMeant_26 : decode cX4_isMeant 26 = .ok (.goto 21, 3) := by decide +kernel
theorem dX4_isMeant_29 : decode cX4_isMeant 29 = .ok (.aload_n 0, 1) := by decide +kernel
theorem dX4_isMeant_30 : decode cX4_isMeant 30 = .ok (.getfield 11, 3) := by decide +kernel
theorem dX4_isMeant_33 : decode cX4_isMeant 33 = .ok (.iload_n 1, 1) := by decide +kernel
theorem dX4_isMeant_34 : decode cX4_isMeant 34 = .ok (.aaload, 1) := by decide +kernel
theorem dX4_isMeant_35 : decode cX4_isMeant 35 = .ok (.getfield 81, 3) := by decide +kernel
theorem dX4_isMeant_38 : decode cX4_isMeant 38 = .ok (.iconst 3, 1) := by decide +kernel
theorem dX4_isMeant_39 : decode cX4_isMeant 39 = .ok (.iaload, 1) := by decide +kernel
theorem dX4_isMeant_40 : decode cX4_isMeant 40 = .ok (.iload_n 3, 1) := by decide +kernel
theorem dX4_isMeant_41 : decode cX4_isMeant 41 = .ok (.bipush 10, 2) := by decide +kernel
theorem dX4_isMeant_43 : decode cX4_isMeant 43 = .ok (.isub, 1) := by decide +kernel
theorem dX4_isMeant_44 : decode cX4_isMeant 44 = .ok (.invokestatic 67, 3) := by decide +kernel
theorem dX4_isMeant_47 : decode cX4_isMeant 47 = .ok (.ireturn, 1) := by decide +kernel
set_option maxRecDepth 20000 in
theorem ggX4_passTick_X4_speakFromAir : GoodIn wsX4_passTick wsX4_speakFromAir := goodIn_r _ [9, 2, 10, 11, 12, 13, 14, 15, 16, 17, 18, 19, 20, 21, 22, 23, 24, 25, 26, 27, 28, 29, 8, 30, 31, 32, 33, 34, 35, 36, 37, 38, 39, 40, 41, 42, 43, 44, 45, 46, 47, 48, 49, 50, 51, 52, 53, 54, 55, 56, 57, 58, 59, 60, 61, 62, 63, 64, 65, 66, 67, 68, 69, 70, 71, 72, 73, 74, 75, 76, 77, 78, 79, 80, 81, 82, 83, 84, 85, 86, 87, 88, 89, 90, 91, 92, 93, 94, 95, 96, 97, 98, 99, 100, 101, 102, 103, 104, 105, 106, 1, 107, 108, 109, 110, 111, 112, 113, 114, 115, 116, 117, 118, 119, 120, 121, 122, 123, 124, 125, 126, 127, 128, 129, 130, 131, 132, 133, 134, 135, 136, 137, 138, 139, 140, 141, 142, 143, 144, 145, 146, 147, 148, 149, 150, 151] (by decide +kernel) (by decide +kernel)
set_option maxRecDepth 20000 in
theorem gX4_passTick_X4_speakFromAir : GoodIn wsX4_passTick (wsV RX4 89 RX4 yX4_speakFromAir wsX4_speakFromAir) := goodIn_app (goodIn_of _ (by decide +kernel)) ggX4_passTick_X4_speakFromAir
theorem dX4_passTick_0 : decode cX4_passTick 0 = .ok (.aload_n 0, 1) := by decide +kernel
theorem dX4_passTick_1 : decode cX4_passTick 1 = .ok (.dup, 1) := by decide +kernel
theorem dX4_passTick_2 : decode cX4_passTick 2 = .ok (.getfield 31, 3) := by decide +kernel
theorem dX4_passTick_5 : decode cX4_passTick 5 = .ok (.iconst 1, 1) := by decide +kernel
theorem dX4_passTick_6 : decode cX4_passTick 6 = .ok (.iadd, 1) := by decide +kernel
theorem dX4_passTick_7 : decode cX4_passTick 7 = .ok (.putfield 31, 3) := by decide +kernel
theorem dX4_passTick_10 : decode cX4_passTick 10 = .ok (.aload_n 0, 1) := by decide +kernel
theorem dX4_passTick_11 : decode cX4_passTick 11 = .ok (.getfield 27, 3) := by decide +kernel
theorem dX4_passTick_14 : decode cX4_passTick 14 = .ok (.getfield 84, 3) := by decide +kernel
theorem dX4_passTick_17 : decode cX4_passTick 17 = .ok (.istore_n 1, 1) := by decide +kernel
theorem dX4_passTick_18 : decode cX4_passTick 18 = .ok (.iconst 0, 1) := by decide +kernel
theorem dX4_passTick_19 : decode cX4_passTick 19 = .ok (.istore_n 2, 1) := by decide +kernel
theorem dX4_passTick_20 : decode cX4_passTick 20 = .ok (.iconst 0, 1) := by decide +kernel
theorem dX4_passTick_21 : decode cX4_passTick 21 = .ok (.istore_n 3, 1) := by decide +kernel
theorem dX4_passTick_22 : decode cX4_passTick 22 = .ok (.iload_n 3, 1) := by decide +kernel
theorem dX4_passTick_23 : decode cX4_passTick 23 = .ok (.iload_n 1, 1) := by decide +kernel
theorem dX4_passTick_24 : decode cX4_passTick 24 = .ok (.if_icmp .ge 47, 3) := by decide +kernel
theorem dX4_passTick_27 : decode cX4_passTick 27 = .ok (.iload_n 2, 1) := by decide +kernel
theorem dX4_passTick_28 : decode cX4_passTick 28 = .ok (.aload_n 0, 1) := by decide +kernel
theorem dX4_passTick_29 : decode cX4_passTick 29 = .ok (.getfield 27, 3) := by decide +kernel
theorem dX4_passTick_32 : decode cX4_passTick 32 = .ok (.getfield 84, 3) := by decide +kernel
theorem dX4_passTick_35 : decode cX4_passTick 35 = .ok (.if_icmp .ge 36, 3) := by decide +kernel
theorem dX4_passTick_38 : decode cX4_passTick 38 = .ok (.aload_n 0, 1) := by decide +kernel
theorem dX4_passTick_39 : decode cX4_passTick 39 = .ok (.getfield 27, 3) := by decide +kernel
theorem dX4_passTick_42 : decode cX4_passTick 42 = .ok (.getfield 87, 3) := by decide +kernel
theorem dX4_passTick_45 : decode cX4_passTick 45 = .ok (.iload_n 2, 1) := by decide +kernel
theorem dX4_passTick_46 : decode cX4_passTick 46 = .ok (.iaload, 1) := by decide +kernel
theorem dX4_passTick_47 : decode cX4_passTick 47 = .ok (.aload_n 0, 1) := by decide +kernel
theorem dX4_passTick_48 : decode cX4_passTick 48 = .ok (.getfield 31, 3) := by decide +kernel
theorem dX4_passTick_51 : decode cX4_passTick 51 = .ok (.if_icmp .ne 11, 3) := by decide +kernel
theorem dX4_passTick_54 : decode cX4_passTick 54 = .ok (.aload_n 0, 1) := by decide +kernel
theorem dX4_passTick_55 : decode cX4_passTick 55 = .ok (.iload_n 2, 1) := by decide +kernel
theorem dX4_passTick_56 : decode cX4_passTick 56 = .ok (.invokevirtual 89, 3) := by decide +kernel
theorem dX4_passTick_59 : decode cX4_passTick 59 = .ok (.goto 6, 3) := by decide +kernel
theorem dX4_passTick_62 : decode cX4_passTick 62 = .ok (.iinc 2 1, 3) := by decide +kernel
theorem dX4_passTick_65 : decode cX4_passTick 65 = .ok (.iinc 3 1, 3) := by decide +kernel
theorem dX4_passTick_68 : decode cX4_passTick 68 = .ok (.goto (-46), 3) := by decide +kernel
theorem dX4_passTick_71 : decode cX4_passTick 71 = .ok (.return_, 1) := by decide +kernel
set_option maxRecDepth 20000 in
theorem ggX4_speakFromAir_X0_dropAt : GoodIn wsX4_speakFromAir wsX0_dropAt := goodIn_r _ [9, 10, 11, 12, 13, 14, 15, 16, 17, 18, 121, 122, 123, 124, 125] (by decide +kernel) (by decide +kernel)
set_option maxRecDepth 20000 in
theorem gX4_speakFromAir_X0_dropAt : GoodIn wsX4_speakFromAir (wsV RX4 102 RX0 yX0_dropAt wsX0_dropAt) := goodIn_app (goodIn_of _ (by decide +kernel)) ggX4_speakFromAir_X0_dropAt
set_option maxRecDepth 20000 in
theorem ggX4_speakFromAir_X4_speak : GoodIn wsX4_speakFromAir wsX4_speak := goodIn_r _ [23, 24, 25, 26, 27, 28, 29, 30, 31, 32, 33, 34, 35, 36, 37, 22, 38, 39, 40, 41, 42, 43, 44, 45, 46, 47, 48, 49, 50, 51, 52, 53, 54, 55, 56, 57, 58, 59, 60, 61, 62, 63, 64, 65, 66, 67, 68, 69, 70, 71, 72, 73, 74, 75, 76, 77, 78, 79, 80, 81, 82, 83, 84, 85, 86, 87, 88, 89, 90, 91, 92, 93, 94, 95, 96, 97, 98, 1, 99, 100, 101, 102, 103, 8, 104, 10, 105, 106, 107, 108, 11, 16, 17, 18, 109, 110, 111, 112, 113, 114, 115, 116, 117, 118, 119, 120, 126, 127, 128, 129, 130, 131, 132, 133, 134, 135, 136, 137, 138, 139, 140, 141, 142, 143, 144, 145, 121, 122, 123, 124, 125] (by decide +kernel) (by decide +kernel)
set_option maxRecDepth 20000 in
theorem gX4_speakFromAir_X4_speak : GoodIn wsX4_speakFromAir (wsV RX4 105 RX4 yX4_speak wsX4_speak) := goodIn_app (goodIn_of _ (by decide +kernel)) ggX4_speakFromAir_X4_speak
theorem dX4_speakFromAir_0 : decode cX4_speakFromAir 0 = .ok (.aload_n 0, 1) := by decide +kernel
theorem dX4_speakFromAir_1 : decode cX4_speakFromAir 1 = .ok (.getfield 27, 3) := by decide +kernel
theorem dX4_speakFromAir_4 : decode cX4_speakFromAir 4 = .ok (.getfield 93, 3) := by decide +kernel
theorem dX4_speakFromAir_7 : decode cX4_speakFromAir 7 = .ok (.iload_n 1, 1) := by decide +kernel
theorem dX4_speakFromAir_8 : decode cX4_speakFromAir 8 = .ok (.iaload, 1) := by decide +kernel
theorem dX4_speakFromAir_9 : decode cX4_speakFromAir 9 = .ok (.istore_n 2, 1) := by decide +kernel
theorem dX4_speakFromAir_10 : decode cX4_speakFromAir 10 = .ok (.aload_n 0, 1) := by decide +kernel
theorem dX4_speakFromAir_11 : decode cX4_speakFromAir 11 = .ok (.getfield 27, 3) := by decide +kernel
theorem dX4_speakFromAir_14 : decode cX4_speakFromAir 14 = .ok (.getfield 96, 3) := by decide +kernel
theorem dX4_speakFromAir_17 : decode cX4_speakFromAir 17 = .ok (.iload_n 1, 1) := by decide +kernel
theorem dX4_speakFromAir_18 : decode cX4_speakFromAir 18 = .ok (.iaload, 1) := by decide +kernel
theorem dX4_speakFromAir_19 : decode cX4_speakFromAir 19 = .ok (.istore_n 3, 1) := by decide +kernel
theorem dX4_speakFromAir_20 : decode cX4_speakFromAir 20 = .ok (.aload_n 0, 1) := by decide +kernel
theorem dX4_speakFromAir_21 : decode cX4_speakFromAir 21 = .ok (.getfield 27, 3) := by decide +kernel
theorem dX4_speakFromAir_24 : decode cX4_speakFromAir 24 = .ok (.getfield 99, 3) := by decide +kernel
theorem dX4_speakFromAir_27 : decode cX4_speakFromAir 27 = .ok (.iload_n 1, 1) := by decide +kernel
theorem dX4_speakFromAir_28 : decode cX4_speakFromAir 28 = .ok (.iaload, 1) := by decide +kernel
theorem dX4_speakFromAir_29 : decode cX4_speakFromAir 29 = .ok (.istore 4, 2) := by decide +kernel
theorem dX4_speakFromAir_31 : decode cX4_speakFromAir 31 = .ok (.aload_n 0, 1) := by decide +kernel
theorem dX4_speakFromAir_32 : decode cX4_speakFromAir 32 = .ok (.getfield 27, 3) := by decide +kernel
theorem dX4_speakFromAir_35 : decode cX4_speakFromAir 35 = .ok (.iload_n 1, 1) := by decide +kernel
theorem dX4_speakFromAir_36 : decode cX4_speakFromAir 36 = .ok (.invokevirtual 102, 3) := by decide +kernel
theorem dX4_speakFromAir_39 : decode cX4_speakFromAir 39 = .ok (.aload_n 0, 1) := by decide +kernel
theorem dX4_speakFromAir_40 : decode cX4_speakFromAir 40 = .ok (.iload_n 2, 1) := by decide +kernel
theorem dX4_speakFromAir_41 : decode cX4_speakFromAir 41 = .ok (.iload_n 3, 1) := by decide +kernel
theorem dX4_speakFromAir_42 : decode cX4_speakFromAir 42 = .ok (.iload 4, 2) := by decide +kernel
theorem dX4_speakFromAir_44 : decode cX4_speakFromAir 44 = .ok (.invokevirtual 105, 3) := by decide +kernel
theorem dX4_speakFromAir_47 : decode cX4_speakFromAir 47 = .ok (.return_, 1) := by decide +kernel
set_option maxRecDepth 20000 in
theorem ggX4_speak_X5_changed : GoodIn wsX4_speak wsX5_changed := goodIn_r _ [9] (by decide +kernel) (by decide +kernel)
set_option maxRecDepth 20000 in
theorem gX4_speak_X5_changed_n119 : GoodIn wsX4_speak (wsX5_changed) := ggX4_speak_X5_changed
set_option maxRecDepth 20000 in
theorem ggX4_speak_X5_isIn : GoodIn wsX4_speak wsX5_isIn := goodIn_r _ [11] (by decide +kernel) (by decide +kernel)
set_option maxRecDepth 20000 in
theorem gX4_speak_X5_isIn_n67 : GoodIn wsX4_speak (wsX5_isIn) := ggX4_speak_X5_isIn
set_option maxRecDepth 20000 in
theorem ggX4_speak_X4_hear : GoodIn wsX4_speak wsX4_hear := goodIn_r _ [16, 1, 17, 18, 19, 20, 21, 22, 23, 24, 15, 25, 26, 27, 28, 29, 30, 10, 8, 11, 31, 32, 33, 34, 35, 36, 37, 38, 39, 40, 41, 42, 43, 44, 45, 46, 47, 48, 49, 50, 51, 52, 53, 54, 55, 56, 57, 58, 59, 60, 61, 62, 63, 64, 65, 66, 67, 68, 69, 70, 2, 71, 72, 73, 74, 75, 76, 77, 78, 79, 80, 81, 82, 83, 84, 85, 86, 87, 88, 89, 90, 91, 92, 93, 94, 95, 96, 97, 98, 99, 100, 101, 102, 103, 104, 105, 106, 107, 108, 109, 110, 111, 112, 113, 114, 115, 116, 117, 118, 119, 120, 121, 122, 123, 124, 125, 126, 127, 128, 129, 130] (by decide +kernel) (by decide +kernel)
set_option maxRecDepth 20000 in
theorem gX4_speak_X4_hear : GoodIn wsX4_speak (wsV RX4 123 RX4 yX4_hear wsX4_hear) := goodIn_app (goodIn_of _ (by decide +kernel)) ggX4_speak_X4_hear
theorem dX4_speak_0 : decode cX4_speak 0 = .ok (.iload_n 1, 1) := by decide +kernel
theorem dX4_speak_1 : decode cX4_speak 1 = .ok (.bipush 10, 2) := by decide +kernel
theorem dX4_speak_3 : decode cX4_speak 3 = .ok (.if_icmp .lt 7, 3) := by decide +kernel
theorem dX4_speak_6 : decode cX4_speak 6 = .ok (.iconst 1, 1) := by decide +kernel
theorem dX4_speak_7 : decode cX4_speak 7 = .ok (.goto 4, 3) := by decide +kernel
theorem dX4_speak_10 : decode cX4_speak 10 = .ok (.iconst 0, 1) := by decide +kernel
theorem dX4_speak_11 : decode cX4_speak 11 = .ok (.istore 4, 2) := by decide +kernel
theorem dX4_speak_13 : decode cX4_speak 13 = .ok (.iload 4, 2) := by decide +kernel
theorem dX4_speak_15 : decode cX4_speak 15 = .ok (.ifCond .eq 10, 3) := by decide +kernel
theorem dX4_speak_18 : decode cX4_speak 18 = .ok (.iload_n 1, 1) := by decide +kernel
theorem dX4_speak_19 : decode cX4_speak 19 = .ok (.bipush 10, 2) := by decide +kernel
theorem dX4_speak_21 : decode cX4_speak 21 = .ok (.isub, 1) := by decide +kernel
theorem dX4_speak_22 : decode cX4_speak 22 = .ok (.goto 4, 3) := by decide +kernel
theorem dX4_speak_25 : decode cX4_speak 25 = .ok (.iload_n 1, 1) := by decide +kernel
theorem dX4_speak_26 : decode cX4_speak 26 = .ok (.istore 5, 2) := by decide +kernel
theorem dX4_speak_28 : decode cX4_speak 28 = .ok (.aload_n 0, 1) := by decide +kernel
theorem dX4_speak_29 : decode cX4_speak 29 = .ok (.getfield 11, 3) := by decide +kernel
theorem dX4_speak_32 : decode cX4_speak 32 = .ok (.iload 5, 2) := by decide +kernel
theorem dX4_speak_34 : decode cX4_speak 34 = .ok (.aaload, 1) := by decide +kernel
theorem dX4_speak_35 : decode cX4_speak 35 = .ok (.astore 6, 2) := by decide +kernel
theorem dX4_speak_37 : decode cX4_speak 37 = .ok (.iload 4, 2) := by decide +kernel
theorem dX4_speak_39 : decode cX4_speak 39 = .ok (.ifCond .ne 22, 3) := by decide +kernel
theorem dX4_speak_42 : decode cX4_speak 42 = .ok (.aload 6, 2) := by decide +kernel
theorem dX4_speak_44 : decode cX4_speak 44 = .ok (.getfield 109, 3) := by decide +kernel
theorem dX4_speak_47 : decode cX4_speak 47 = .ok (.ifCond .eq 14, 3) := by decide +kernel
theorem dX4_speak_50 : decode cX4_speak 50 = .ok (.aload_n 0, 1) := by decide +kernel
theorem dX4_speak_51 : decode cX4_speak 51 = .ok (.dup, 1) := by decide +kernel
theorem dX4_speak_52 : decode cX4_speak 52 = .ok (.getfield 53, 3) := by decide +kernel
theorem dX4_speak_55 : decode cX4_speak 55 = .ok (.iconst 1, 1) := by decide +kernel
theorem dX4_speak_56 : decode cX4_speak 56 = .ok (.iadd, 1) := by decide +kernel
theorem dX4_speak_57 : decode cX4_speak 57 = .ok (.putfield 53, 3) := by decide +kernel
theorem dX4_speak_60 : decode cX4_speak 60 = .ok (.return_, 1) := by decide +kernel
theorem dX4_speak_61 : decode cX4_speak 61 = .ok (.aload_n 0, 1) := by decide +kernel
theorem dX4_speak_62 : decode cX4_speak 62 = .ok (.dup, 1) := by decide +kernel
theorem dX4_speak_63 : decode cX4_speak 63 = .ok (.getfield 47, 3) := by decide +kernel
theorem dX4_speak_66 : decode cX4_speak 66 = .ok (.iconst 1, 1) := by decide +kernel
theorem dX4_speak_67 : decode cX4_speak 67 = .ok (.iadd, 1) := by decide +kernel
theorem dX4_speak_68 : decode cX4_speak 68 = .ok (.putfield 47, 3) := by decide +kernel
theorem dX4_speak_71 : decode cX4_speak 71 = .ok (.iload 4, 2) := by decide +kernel
theorem dX4_speak_73 : decode cX4_speak 73 = .ok (.ifCond .ne 14, 3) := by decide +kernel
theorem dX4_speak_76 : decode cX4_speak 76 = .ok (.aload 6, 2) := by decide +kernel
theorem dX4_speak_78 : decode cX4_speak 78 = .ok (.dup, 1) := by decide +kernel
theorem dX4_speak_79 : decode cX4_speak 79 = .ok (.getfield 113, 3) := by decide +kernel
theorem dX4_speak_82 : decode cX4_speak 82 = .ok (.iconst 1, 1) := by decide +kernel
theorem dX4_speak_83 : decode cX4_speak 83 = .ok (.iadd, 1) := by decide +kernel
theorem dX4_speak_84 : decode cX4_speak 84 = .ok (.putfield 113, 3) := by decide +kernel
theorem dX4_speak_87 : decode cX4_speak 87 = .ok (.aload 6, 2) := by decide +kernel
theorem dX4_speak_89 : decode cX4_speak 89 = .ok (.getfield 116, 3) := by decide +kernel
theorem dX4_speak_92 : decode cX4_speak 92 = .ok (.iload 5, 2) := by decide +kernel
theorem dX4_speak_94 : decode cX4_speak 94 = .ok (.iload 4, 2) := by decide +kernel
theorem dX4_speak_96 : decode cX4_speak 96 = .ok (.invokestatic 119, 3) := by decide +kernel
theorem dX4_speak_99 : decode cX4_speak 99 = .ok (.istore 7, 2) := by decide +kernel
theorem dX4_speak_101 : decode cX4_speak 101 = .ok (.iconst 0, 1) := by decide +kernel
theorem dX4_speak_102 : decode cX4_speak 102 = .ok (.istore 8, 2) := by decide +kernel
theorem dX4_speak_104 : decode cX4_speak 104 = .ok (.iload 8, 2) := by decide +kernel
theorem dX4_speak_106 : decode cX4_speak 106 = .ok (.bipush 10, 2) := by decide +kernel
theorem dX4_speak_108 : decode cX4_speak 108 = .ok (.if_icmp .ge 40, 3) := by decide +kernel
theorem dX4_speak_111 : decode cX4_speak 111 = .ok (.iload 7, 2) := by decide +kernel
theorem dX4_speak_113 : decode cX4_speak 113 = .ok (.iload 8, 2) := by decide +kernel
theorem dX4_speak_115 : decode cX4_speak 115 = .ok (.invokestatic 67, 3) := by decide +kernel
theorem dX4_speak_118 : decode cX4_speak 118 = .ok (.ifCond .eq 24, 3) := by decide +kernel
theorem dX4_speak_121 : decode cX4_speak 121 = .ok (.aload_n 0, 1) := by decide +kernel
theorem dX4_speak_122 : decode cX4_speak 122 = .ok (.getfield 11, 3) := by decide +kernel
theorem dX4_speak_125 : decode cX4_speak 125 = .ok (.iload 8, 2) := by decide +kernel
theorem dX4_speak_127 : decode cX4_speak 127 = .ok (.aaload, 1) := by decide +kernel
theorem dX4_speak_128 : decode cX4_speak 128 = .ok (.getfield 109, 3) := by decide +kernel
theorem dX4_speak_131 : decode cX4_speak 131 = .ok (.ifCond .ne 11, 3) := by decide +kernel
theorem dX4_speak_134 : decode cX4_speak 134 = .ok (.aload_n 0, 1) := by decide +kernel
theorem dX4_speak_135 : decode cX4_speak 135 = .ok (.iload 8, 2) := by decide +kernel
theorem dX4_speak_137 : decode cX4_speak 137 = .ok (.iload_n 2, 1) := by decide +kernel
theorem dX4_speak_138 : decode cX4_speak 138 = .ok (.iload_n 3, 1) := by decide +kernel
theorem dX4_speak_139 : decode cX4_speak 139 = .ok (.invokevirtual 123, 3) := by decide +kernel
theorem dX4_speak_142 : decode cX4_speak 142 = .ok (.iinc 8 1, 3) := by decide +kernel
theorem dX4_speak_145 : decode cX4_speak 145 = .ok (.goto (-41), 3) := by decide +kernel
theorem dX4_speak_148 : decode cX4_speak 148 = .ok (.return_, 1) := by decide +kernel
set_option maxRecDepth 20000 in
theorem ggX4_hear_X4_knows : GoodIn wsX4_hear wsX4_knows := goodIn_r _ [11, 12, 13, 14, 15, 16, 17, 18, 19, 85, 86, 87, 88, 89, 90, 91, 92, 93, 94, 95, 111, 112, 113] (by decide +kernel) (by decide +kernel)
set_option maxRecDepth 20000 in
theorem gX4_hear_X4_knows : GoodIn wsX4_hear (wsV RX4 126 RX4 yX4_knows wsX4_knows) := goodIn_app (goodIn_of _ (by decide +kernel)) ggX4_hear_X4_knows
set_option maxRecDepth 20000 in
theorem ggX4_hear_X3_holds : GoodIn wsX4_hear wsX3_holds := goodIn_r _ [24, 25, 26, 114, 115] (by decide +kernel) (by decide +kernel)
set_option maxRecDepth 20000 in
theorem gX4_hear_X3_holds : GoodIn wsX4_hear (wsV RX4 136 RX3 yX3_holds wsX3_holds) := goodIn_app (goodIn_of _ (by decide +kernel)) ggX4_hear_X3_holds
set_option maxRecDepth 20000 in
theorem ggX4_hear_X3_add : GoodIn wsX4_hear wsX3_add := goodIn_r _ [30, 25, 26, 31, 32, 33, 23, 34, 114, 115] (by decide +kernel) (by decide +kernel)
set_option maxRecDepth 20000 in
theorem gX4_hear_X3_add : GoodIn wsX4_hear (wsV RX4 147 RX3 yX3_add wsX3_add) := goodIn_app (goodIn_of _ (by decide +kernel)) ggX4_hear_X3_add
set_option maxRecDepth 20000 in
theorem ggX4_hear_X2_sourceOf : GoodIn wsX4_hear wsX2_sourceOf := goodIn_r _ [38] (by decide +kernel) (by decide +kernel)
set_option maxRecDepth 20000 in
theorem gX4_hear_X2_sourceOf : GoodIn wsX4_hear (va_wsS RX4 151 yX2_sourceOf wsX2_sourceOf) := goodIn_app (goodIn_of _ (by decide +kernel)) ggX4_hear_X2_sourceOf
set_option maxRecDepth 20000 in
theorem ggX4_hear_X4_isMeant : GoodIn wsX4_hear wsX4_isMeant := goodIn_r _ [42, 12, 43, 1, 6, 17, 18, 19, 85, 86, 87, 88, 89, 90, 91, 92, 93, 94, 95, 111, 112, 113, 96, 97, 98, 99, 100, 101, 102, 103, 104, 105, 106, 107, 108, 109, 110] (by decide +kernel) (by decide +kernel)
set_option maxRecDepth 20000 in
theorem gX4_hear_X4_isMeant : GoodIn wsX4_hear (wsV RX4 155 RX4 yX4_isMeant wsX4_isMeant) := goodIn_app (goodIn_of _ (by decide +kernel)) ggX4_hear_X4_isMeant
set_option maxRecDepth 20000 in
theorem ggX4_hear_X4_take : GoodIn wsX4_hear wsX4_take := goodIn_r _ [47, 48, 49, 12, 50, 51, 52, 35, 36, 37, 38, 53, 54, 55, 96, 97, 98, 99, 100, 101, 102, 103, 104, 105, 106, 107, 108, 109, 110, 85, 86, 87, 88, 89, 90, 91, 92, 93, 94, 95, 111, 112, 113] (by decide +kernel) (by decide +kernel)
set_option maxRecDepth 20000 in
theorem gX4_hear_X4_take : GoodIn wsX4_hear (wsV RX4 158 RX4 yX4_take wsX4_take) := goodIn_app (goodIn_of _ (by decide +kernel)) ggX4_hear_X4_take
set_option maxRecDepth 20000 in
theorem ggX4_hear_X4_keepForSleepers : GoodIn wsX4_hear wsX4_keepForSleepers := goodIn_r _ [59, 1, 60, 61, 62, 39, 40, 41, 10, 42, 12, 43, 6, 17, 18, 19, 35, 36, 37, 38, 27, 28, 29, 23, 30, 25, 26, 31, 32, 33, 34, 85, 86, 87, 88, 89, 90, 91, 92, 93, 94, 95, 96, 97, 98, 99, 100, 101, 102, 103, 104, 105, 106, 107, 108, 109, 110, 111, 112, 113, 114, 115] (by decide +kernel) (by decide +kernel)
set_option maxRecDepth 20000 in
theorem gX4_hear_X4_keepForSleepers : GoodIn wsX4_hear (wsV RX4 162 RX4 yX4_keepForSleepers wsX4_keepForSleepers) := goodIn_app (goodIn_of _ (by decide +kernel)) ggX4_hear_X4_keepForSleepers
set_option maxRecDepth 20000 in
theorem ggX4_hear_X4_passOn : GoodIn wsX4_hear wsX4_passOn := goodIn_r _ [66, 67, 68, 69, 1, 6, 70, 71, 72, 73, 74, 75, 76, 77, 78, 79, 80, 81, 82, 83, 84, 85, 86, 87, 88, 89, 90, 91, 92, 93, 94, 95, 96, 97, 98, 99, 100, 101, 102, 103, 104, 105, 106, 107, 108, 109, 110, 116, 117, 118, 119, 120] (by decide +kernel) (by decide +kernel)
set_option maxRecDepth 20000 in
theorem gX4_hear_X4_passOn : GoodIn wsX4_hear (wsV RX4 165 RX4 yX4_passOn wsX4_passOn) := goodIn_app (goodIn_of _ (by decide +kernel)) ggX4_hear_X4_passOn
theorem dX4_hear_0 : decode cX4_hear 0 = .ok (.aload_n 0, 1) := by decide +kernel
theorem dX4_hear_1 : decode cX4_hear 1 = .ok (.getfield 11, 3) := by decide +kernel
theorem dX4_hear_4 : decode cX4_hear 4 = .ok (.iload_n 1, 1) := by decide +kernel
theorem dX4_hear_5 : decode cX4_hear 5 = .ok (.aaload, 1) := by decide +kernel
theorem dX4_hear_6 : decode cX4_hear 6 = .ok (.astore 4, 2) := by decide +kernel
theorem dX4_hear_8 : decode cX4_hear 8 = .ok (.aload_n 0, 1) := by decide +kernel
theorem dX4_hear_9 : decode cX4_hear 9 = .ok (.iload_n 1, 1) := by decide +kernel
theorem dX4_hear_10 : decode cX4_hear 10 = .ok (.iload_n 2, 1) := by decide +kernel
theorem dX4_hear_11 : decode cX4_hear 11 = .ok (.invokevirtual 126, 3) := by decide +kernel
theorem dX4_hear_14 : decode cX4_hear 14 = .ok (.ifCond .ne 15, 3) := by decide +kernel
theorem dX4_hear_17 : decode cX4_hear 17 = .ok (.aload 4, 2) := by decide +kernel
theorem dX4_hear_19 : decode cX4_hear 19 = .ok (.dup, 1) := by decide +kernel
theorem dX4_hear_20 : decode cX4_hear 20 = .ok (.getfield 129, 3) := by decide +kernel
theorem dX4_hear_23 : decode cX4_hear 23 = .ok (.iconst 1, 1) := by decide +kernel
theorem dX4_hear_24 : decode cX4_hear 24 = .ok (.iadd, 1) := by decide +kernel
theorem dX4_hear_25 : decode cX4_hear 25 = .ok (.putfield 129, 3) := by decide +kernel
theorem dX4_hear_28 : decode cX4_hear 28 = .ok (.return_, 1) := by decide +kernel
theorem dX4_hear_29 : decode cX4_hear 29 = .ok (.aload 4, 2) := by decide +kernel
theorem dX4_hear_31 : decode cX4_hear 31 = .ok (.getfield 132, 3) := by decide +kernel
theorem dX4_hear_34 : decode cX4_hear 34 = .ok (.iload_n 2, 1) := by decide +kernel
theorem dX4_hear_35 : decode cX4_hear 35 = .ok (.invokevirtual 136, 3) := by decide +kernel
theorem dX4_hear_38 : decode cX4_hear 38 = .ok (.ifCond .eq 15, 3) := by decide +kernel
theorem dX4_hear_41 : decode cX4_hear 41 = .ok (.aload 4, 2) := by decide +kernel
theorem dX4_hear_43 : decode cX4_hear 43 = .ok (.dup, 1) := by decide +kernel
theorem dX4_hear_44 : decode cX4_hear 44 = .ok (.getfield 141, 3) := by decide +kernel
theorem dX4_hear_47 : decode cX4_hear 47 = .ok (.iconst 1, 1) := by decide +kernel
theorem dX4_hear_48 : decode cX4_hear 48 = .ok (.iadd, 1) := by decide +kernel
theorem dX4_hear_49 : decode cX4_hear 49 = .ok (.putfield 141, 3) := by decide +kernel
theorem dX4_hear_52 : decode cX4_hear 52 = .ok (.return_, 1) := by decide +kernel
theorem dX4_hear_53 : decode cX4_hear 53 = .ok (.aload 4, 2) := by decide +kernel
theorem dX4_hear_55 : decode cX4_hear 55 = .ok (.dup, 1) := by decide +kernel
theorem dX4_hear_56 : decode cX4_hear 56 = .ok (.getfield 144, 3) := by decide +kernel
theorem dX4_hear_59 : decode cX4_hear 59 = .ok (.iconst 1, 1) := by decide +kernel
theorem dX4_hear_60 : decode cX4_hear 60 = .ok (.iadd, 1) := by decide +kernel
theorem dX4_hear_61 : decode cX4_hear 61 = .ok (.putfield 144, 3) := by decide +kernel
theorem dX4_hear_64 : decode cX4_hear 64 = .ok (.aload 4, 2) := by decide +kernel
theorem dX4_hear_66 : decode cX4_hear 66 = .ok (.getfield 132, 3) := by decide +kernel
theorem dX4_hear_69 : decode cX4_hear 69 = .ok (.iload_n 2, 1) := by decide +kernel
theorem dX4_hear_70 : decode cX4_hear 70 = .ok (.aload 4, 2) := by decide +kernel
theorem dX4_hear_72 : decode cX4_hear 72 = .ok (.getfield 81, 3) := by decide +kernel
theorem dX4_hear_75 : decode cX4_hear 75 = .ok (.iconst 2, 1) := by decide +kernel
theorem dX4_hear_76 : decode cX4_hear 76 = .ok (.iaload, 1) := by decide +kernel
theorem dX4_hear_77 : decode cX4_hear 77 = .ok (.invokevirtual 147, 3) := by decide +kernel
theorem dX4_hear_80 : decode cX4_hear 80 = .ok (.iload_n 2, 1) := by decide +kernel
theorem dX4_hear_81 : decode cX4_hear 81 = .ok (.invokestatic 151, 3) := by decide +kernel
theorem dX4_hear_84 : decode cX4_hear 84 = .ok (.iload_n 1, 1) := by decide +kernel
theorem dX4_hear_85 : decode cX4_hear 85 = .ok (.if_icmp .ne 4, 3) := by decide +kernel
theorem dX4_hear_88 : decode cX4_hear 88 = .ok (.return_, 1) := by decide +kernel
theorem dX4_hear_89 : decode cX4_hear 89 = .ok (.aload_n 0, 1) := by decide +kernel
theorem dX4_hear_90 : decode cX4_hear 90 = .ok (.iload_n 1, 1) := by decide +kernel
theorem dX4_hear_91 : decode cX4_hear 91 = .ok (.iload_n 2, 1) := by decide +kernel
theorem dX4_hear_92 : decode cX4_hear 92 = .ok (.invokevirtual 155, 3) := by decide +kernel
theorem dX4_hear_95 : decode cX4_hear 95 = .ok (.ifCond .eq 10, 3) := by decide +kernel
theorem dX4_hear_98 : decode cX4_hear 98 = .ok (.aload_n 0, 1) := by decide +kernel
theorem dX4_hear_99 : decode cX4_hear 99 = .ok (.aload 4, 2) := by decide +kernel
theorem dX4_hear_101 : decode cX4_hear 101 = .ok (.iload_n 2, 1) := by decide +kernel
theorem dX4_hear_102 : decode cX4_hear 102 = .ok (.invokevirtual 158, 3) := by decide +kernel
theorem dX4_hear_105 : decode cX4_hear 105 = .ok (.aload_n 0, 1) := by decide +kernel
theorem dX4_hear_106 : decode cX4_hear 106 = .ok (.iload_n 1, 1) := by decide +kernel
theorem dX4_hear_107 : decode cX4_hear 107 = .ok (.iload_n 2, 1) := by decide +kernel
theorem dX4_hear_108 : decode cX4_hear 108 = .ok (.invokevirtual 162, 3) := by decide +kernel
theorem dX4_hear_111 : decode cX4_hear 111 = .ok (.iload_n 3, 1) := by decide +kernel
theorem dX4_hear_112 : decode cX4_hear 112 = .ok (.iconst 1, 1) := by decide +kernel
theorem dX4_hear_113 : decode cX4_hear 113 = .ok (.if_icmp .le 23, 3) := by decide +kernel
theorem dX4_hear_116 : decode cX4_hear 116 = .ok (.aload 4, 2) := by decide +kernel
theorem dX4_hear_118 : decode cX4_hear 118 = .ok (.getfield 81, 3) := by decide +kernel
theorem dX4_hear_121 : decode cX4_hear 121 = .ok (.iconst 1, 1) := by decide +kernel
theorem dX4_hear_122 : decode cX4_hear 122 = .ok (.iaload, 1) := by decide +kernel
theorem dX4_hear_123 : decode cX4_hear 123 = .ok (.iconst 1, 1) := by decide +kernel
theorem dX4_hear_124 : decode cX4_hear 124 = .ok (.if_icmp .ne 12, 3) := by decide +kernel
theorem dX4_hear_127 : decode cX4_hear 127 = .ok (.aload_n 0, 1) := by decide +kernel
theorem dX4_hear_128 : decode cX4_hear 128 = .ok (.iload_n 1, 1) := by decide +kernel
theorem dX4_hear_129 : decode cX4_hear 129 = .ok (.iload_n 2, 1) := by decide +kernel
theorem dX4_hear_130 : decode cX4_hear 130 = .ok (.iload_n 3, 1) := by decide +kernel
theorem dX4_hear_131 : decode cX4_hear 131 = .ok (.iconst 1, 1) := by decide +kernel
theorem dX4_hear_132 : decode cX4_hear 132 = .ok (.isub, 1) := by decide +kernel
theorem dX4_hear_133 : decode cX4_hear 133 = .ok (.invokevirtual 165, 3) := by decide +kernel
theorem dX4_hear_136 : decode cX4_hear 136 = .ok (.return_, 1) := by decide +kernel
set_option maxRecDepth 20000 in
theorem ggX4_keepForSleepers_X4_isMeant : GoodIn wsX4_keepForSleepers wsX4_isMeant := goodIn_r _ [9, 10, 11, 1, 12, 13, 14, 15, 31, 32, 33, 34, 35, 36, 37, 38, 39, 40, 41, 57, 58, 59, 42, 43, 44, 45, 46, 47, 48, 49, 50, 51, 52, 53, 54, 55, 56] (by decide +kernel) (by decide +kernel)
set_option maxRecDepth 20000 in
theorem gX4_keepForSleepers_X4_isMeant : GoodIn wsX4_keepForSleepers (wsV RX4 155 RX4 yX4_isMeant wsX4_isMeant) := goodIn_app (goodIn_of _ (by decide +kernel)) ggX4_keepForSleepers_X4_isMeant
set_option maxRecDepth 20000 in
theorem ggX4_keepForSleepers_X2_sourceOf : GoodIn wsX4_keepForSleepers wsX2_sourceOf := goodIn_r _ [19] (by decide +kernel) (by decide +kernel)
set_option maxRecDepth 20000 in
theorem gX4_keepForSleepers_X2_sourceOf : GoodIn wsX4_keepForSleepers (va_wsS RX4 151 yX2_sourceOf wsX2_sourceOf) := goodIn_app (goodIn_of _ (by decide +kernel)) ggX4_keepForSleepers_X2_sourceOf
set_option maxRecDepth 20000 in
theorem ggX4_keepForSleepers_X3_add : GoodIn wsX4_keepForSleepers wsX3_add := goodIn_r _ [24, 25, 26, 27, 28, 29, 23, 30, 60, 61] (by decide +kernel) (by decide +kernel)
set_option maxRecDepth 20000 in
theorem gX4_keepForSleepers_X3_add : GoodIn wsX4_keepForSleepers (wsV RX4 147 RX3 yX3_add wsX3_add) := goodIn_app (goodIn_of _ (by decide +kernel)) ggX4_keepForSleepers_X3_add
theorem dX4_keepForSleepers_0 : decode cX4_keepForSleepers 0 = .ok (.iconst 0, 1) := by decide +kernel
theorem dX4_keepForSleepers_1 : decode cX4_keepForSleepers 1 = .ok (.istore_n 3, 1) := by decide +kernel
theorem dX4_keepForSleepers_2 : decode cX4_keepForSleepers 2 = .ok (.iload_n 3, 1) := by decide +kernel
theorem dX4_keepForSleepers_3 : decode cX4_keepForSleepers 3 = .ok (.bipush 10, 2) := by decide +kernel
theorem dX4_keepForSleepers_5 : decode cX4_keepForSleepers 5 = .ok (.if_icmp .ge 61, 3) := by decide +kernel
theorem dX4_keepForSleepers_8 : decode cX4_keepForSleepers 8 = .ok (.aload_n 0, 1) := by decide +kernel
theorem dX4_keepForSleepers_9 : decode cX4_keepForSleepers 9 = .ok (.getfield 11, 3) := by decide +kernel
theorem dX4_keepForSleepers_12 : decode cX4_keepForSleepers 12 = .ok (.iload_n 3, 1) := by decide +kernel
theorem dX4_keepForSleepers_13 : decode cX4_keepForSleepers 13 = .ok (.aaload, 1) := by decide +kernel
theorem dX4_keepForSleepers_14 : decode cX4_keepForSleepers 14 = .ok (.astore 4, 2) := by decide +kernel
theorem dX4_keepForSleepers_16 : decode cX4_keepForSleepers 16 = .ok (.aload 4, 2) := by decide +kernel
theorem dX4_keepForSleepers_18 : decode cX4_keepForSleepers 18 = .ok (.getfield 109, 3) := by decide +kernel
theorem dX4_keepForSleepers_21 : decode cX4_keepForSleepers 21 = .ok (.ifCond .eq 39, 3) := by decide +kernel
theorem dX4_keepForSleepers_24 : decode cX4_keepForSleepers 24 = .ok (.aload 4, 2) := by decide +kernel
theorem dX4_keepForSleepers_26 : decode cX4_keepForSleepers 26 = .ok (.getfield 168, 3) := by decide +kernel
theorem dX4_keepForSleepers_29 : decode cX4_keepForSleepers 29 = .ok (.iload_n 1, 1) := by decide +kernel
theorem dX4_keepForSleepers_30 : decode cX4_keepForSleepers 30 = .ok (.if_icmp .ne 30, 3) := by decide +kernel
theorem dX4_keepForSleepers_33 : decode cX4_keepForSleepers 33 = .ok (.aload_n 0, 1) := by decide +kernel
theorem dX4_keepForSleepers_34 : decode cX4_keepForSleepers 34 = .ok (.iload_n 3, 1) := by decide +kernel
theorem dX4_keepForSleepers_35 : decode cX4_keepForSleepers 35 = .ok (.iload_n 2, 1) := by decide +kernel
theorem dX4_keepForSleepers_36 : decode cX4_keepForSleepers 36 = .ok (.invokevirtual 155, 3) := by decide +kernel
theorem dX4_keepForSleepers_39 : decode cX4_keepForSleepers 39 = .ok (.ifCond .eq 21, 3) := by decide +kernel
theorem dX4_keepForSleepers_42 : decode cX4_keepForSleepers 42 = .ok (.iload_n 2, 1) := by decide +kernel
theorem dX4_keepForSleepers_43 : decode cX4_keepForSleepers 43 = .ok (.invokestatic 151, 3) := by decide +kernel
theorem dX4_keepForSleepers_46 : decode cX4_keepForSleepers 46 = .ok (.iload_n 3, 1) := by decide +kernel
theorem dX4_keepForSleepers_47 : decode cX4_keepForSleepers 47 = .ok (.if_icmp .eq 13, 3) := by decide +kernel
theorem dX4_keepForSleepers_50 : decode cX4_keepForSleepers 50 = .ok (.aload 4, 2) := by decide +kernel
theorem dX4_keepForSleepers_52 : decode cX4_keepForSleepers 52 = .ok (.getfield 171, 3) := by decide +kernel
theorem dX4_keepForSleepers_55 : decode cX4_keepForSleepers 55 = .ok (.iload_n 2, 1) := by decide +kernel
theorem dX4_keepForSleepers_56 : decode cX4_keepForSleepers 56 = .ok (.iconst 3, 1) := by decide +kernel
theorem dX4_keepForSleepers_57 : decode cX4_keepForSleepers 57 = .ok (.invokevirtual 147, 3) := by decide +kernel
theorem dX4_keepForSleepers_60 : decode cX4_keepForSleepers 60 = .ok (.iinc 3 1, 3) := by decide +kernel
theorem dX4_keepForSleepers_63 : decode cX4_keepForSleepers 63 = .ok (.goto (-61), 3) := by decide +kernel
theorem dX4_keepForSleepers_66 : decode cX4_keepForSleepers 66 = .ok (.return_, 1) := by decide +kernel
set_option maxRecDepth 20000 in
theorem ggX4_passOn_X0_isFull : GoodIn wsX4_passOn wsX0_isFull := goodIn_r _ [10, 11, 47, 48, 49, 50, 51] (by decide +kernel) (by decide +kernel)
set_option maxRecDepth 20000 in
theorem gX4_passOn_X0_isFull : GoodIn wsX4_passOn (wsV RX4 174 RX0 yX0_isFull wsX0_isFull) := goodIn_app (goodIn_of _ (by decide +kernel)) ggX4_passOn_X0_isFull
set_option maxRecDepth 20000 in
theorem ggX4_passOn_X0_add : GoodIn wsX4_passOn wsX0_add := goodIn_r _ [15, 16, 11, 17, 18, 19, 20, 7, 8, 9, 10, 47, 48, 49, 50, 51] (by decide +kernel) (by decide +kernel)
set_option maxRecDepth 20000 in
theorem gX4_passOn_X0_add : GoodIn wsX4_passOn (wsV RX4 178 RX0 yX0_add wsX0_add) := goodIn_app (goodIn_of _ (by decide +kernel)) ggX4_passOn_X0_add
theorem dX4_passOn_0 : decode cX4_passOn 0 = .ok (.aload_n 0, 1) := by decide +kernel
theorem dX4_passOn_1 : decode cX4_passOn 1 = .ok (.getfield 27, 3) := by decide +kernel
theorem dX4_passOn_4 : decode cX4_passOn 4 = .ok (.invokevirtual 174, 3) := by decide +kernel
theorem dX4_passOn_7 : decode cX4_passOn 7 = .ok (.ifCond .eq 14, 3) := by decide +kernel
theorem dX4_passOn_10 : decode cX4_passOn 10 = .ok (.aload_n 0, 1) := by decide +kernel
theorem dX4_passOn_11 : decode cX4_passOn 11 = .ok (.dup, 1) := by decide +kernel
theorem dX4_passOn_12 : decode cX4_passOn 12 = .ok (.getfield 50, 3) := by decide +kernel
theorem dX4_passOn_15 : decode cX4_passOn 15 = .ok (.iconst 1, 1) := by decide +kernel
theorem dX4_passOn_16 : decode cX4_passOn 16 = .ok (.iadd, 1) := by decide +kernel
theorem dX4_passOn_17 : decode cX4_passOn 17 = .ok (.putfield 50, 3) := by decide +kernel
theorem dX4_passOn_20 : decode cX4_passOn 20 = .ok (.return_, 1) := by decide +kernel
theorem dX4_passOn_21 : decode cX4_passOn 21 = .ok (.aload_n 0, 1) := by decide +kernel
theorem dX4_passOn_22 : decode cX4_passOn 22 = .ok (.getfield 27, 3) := by decide +kernel
theorem dX4_passOn_25 : decode cX4_passOn 25 = .ok (.iload_n 1, 1) := by decide +kernel
theorem dX4_passOn_26 : decode cX4_passOn 26 = .ok (.aload_n 0, 1) := by decide +kernel
theorem dX4_passOn_27 : decode cX4_passOn 27 = .ok (.getfield 31, 3) := by decide +kernel
theorem dX4_passOn_30 : decode cX4_passOn 30 = .ok (.aload_n 0, 1) := by decide +kernel
theorem dX4_passOn_31 : decode cX4_passOn 31 = .ok (.getfield 11, 3) := by decide +kernel
theorem dX4_passOn_34 : decode cX4_passOn 34 = .ok (.iload_n 1, 1) := by decide +kernel
theorem dX4_passOn_35 : decode cX4_passOn 35 = .ok (.aaload, 1) := by decide +kernel
theorem dX4_passOn_36 : decode cX4_passOn 36 = .ok (.getfield 81, 3) := by decide +kernel
theorem dX4_passOn_39 : decode cX4_passOn 39 = .ok (.iconst 0, 1) := by decide +kernel
theorem dX4_passOn_40 : decode cX4_passOn 40 = .ok (.iaload, 1) := by decide +kernel
theorem dX4_passOn_41 : decode cX4_passOn 41 = .ok (.iadd, 1) := by decide +kernel
theorem dX4_passOn_42 : decode cX4_passOn 42 = .ok (.iload_n 2, 1) := by decide +kernel
theorem dX4_passOn_43 : decode cX4_passOn 43 = .ok (.iload_n 3, 1) := by decide +kernel
theorem dX4_passOn_44 : decode cX4_passOn 44 = .ok (.invokevirtual 178, 3) := by decide +kernel
theorem dX4_passOn_47 : decode cX4_passOn 47 = .ok (.return_, 1) := by decide +kernel
set_option maxRecDepth 20000 in
theorem ggX4_take_X2_sourceOf : GoodIn wsX4_take wsX2_sourceOf := goodIn_r _ [10] (by decide +kernel) (by decide +kernel)
set_option maxRecDepth 20000 in
theorem gX4_take_X2_sourceOf : GoodIn wsX4_take (va_wsS RX4 151 yX2_sourceOf wsX2_sourceOf) := goodIn_app (goodIn_of _ (by decide +kernel)) ggX4_take_X2_sourceOf
set_option maxRecDepth 20000 in
theorem ggX4_take_X2_numberOf : GoodIn wsX4_take wsX2_numberOf := goodIn_r _ [13] (by decide +kernel) (by decide +kernel)
set_option maxRecDepth 20000 in
theorem gX4_take_X2_numberOf : GoodIn wsX4_take (va_wsS RX4 181 yX2_numberOf wsX2_numberOf) := goodIn_app (goodIn_of _ (by decide +kernel)) ggX4_take_X2_numberOf
theorem dX4_take_0 : decode cX4_take 0 = .ok (.iload_n 2, 1) := by decide +kernel
theorem dX4_take_1 : decode cX4_take 1 = .ok (.invokestatic 151, 3) := by decide +kernel
theorem dX4_take_4 : decode cX4_take 4 = .ok (.istore_n 3, 1) := by decide +kernel
theorem dX4_take_5 : decode cX4_take 5 = .ok (.iload_n 2, 1) := by decide +kernel
theorem dX4_take_6 : decode cX4_take 6 = .ok (.invokestatic 181, 3) := by decide +kernel
theorem dX4_take_9 : decode cX4_take 9 = .ok (.istore 4, 2) := by decide +kernel
theorem dX4_take_11 : decode cX4_take 11 = .ok (.iload 4, 2) := by decide +kernel
theorem dX4_take_13 : decode cX4_take 13 = .ok (.aload_n 1, 1) := by decide +kernel
theorem dX4_take_14 : decode cX4_take 14 = .ok (.getfield 184, 3) := by decide +kernel
theorem dX4_take_17 : decode cX4_take 17 = .ok (.iload_n 3, 1) := by decide +kernel
theorem dX4_take_18 : decode cX4_take 18 = .ok (.iaload, 1) := by decide +kernel
theorem dX4_take_19 : decode cX4_take 19 = .ok (.if_icmp .gt 14, 3) := by decide +kernel
theorem dX4_take_22 : decode cX4_take 22 = .ok (.aload_n 1, 1) := by decide +kernel
theorem dX4_take_23 : decode cX4_take 23 = .ok (.dup, 1) := by decide +kernel
theorem dX4_take_24 : decode cX4_take 24 = .ok (.getfield 187, 3) := by decide +kernel
theorem dX4_take_27 : decode cX4_take 27 = .ok (.iconst 1, 1) := by decide +kernel
theorem dX4_take_28 : decode cX4_take 28 = .ok (.iadd, 1) := by decide +kernel
theorem dX4_take_29 : decode cX4_take 29 = .ok (.putfield 187, 3) := by decide +kernel
theorem dX4_take_32 : decode cX4_take 32 = .ok (.return_, 1) := by decide +kernel
theorem dX4_take_33 : decode cX4_take 33 = .ok (.aload_n 1, 1) := by decide +kernel
theorem dX4_take_34 : decode cX4_take 34 = .ok (.getfield 184, 3) := by decide +kernel
theorem dX4_take_37 : decode cX4_take 37 = .ok (.iload_n 3, 1) := by decide +kernel
theorem dX4_take_38 : decode cX4_take 38 = .ok (.iload 4, 2) := by decide +kernel
theorem dX4_take_40 : decode cX4_take 40 = .ok (.iastore, 1) := by decide +kernel
theorem dX4_take_41 : decode cX4_take 41 = .ok (.aload_n 1, 1) := by decide +kernel
theorem dX4_take_42 : decode cX4_take 42 = .ok (.aload_n 0, 1) := by decide +kernel
theorem dX4_take_43 : decode cX4_take 43 = .ok (.getfield 20, 3) := by decide +kernel
theorem dX4_take_46 : decode cX4_take 46 = .ok (.getfield 190, 3) := by decide +kernel
theorem dX4_take_49 : decode cX4_take 49 = .ok (.iload_n 2, 1) := by decide +kernel
theorem dX4_take_50 : decode cX4_take 50 = .ok (.iaload, 1) := by decide +kernel
theorem dX4_take_51 : decode cX4_take 51 = .ok (.putfield 193, 3) := by decide +kernel
theorem dX4_take_54 : decode cX4_take 54 = .ok (.aload_n 1, 1) := by decide +kernel
theorem dX4_take_55 : decode cX4_take 55 = .ok (.dup, 1) := by decide +kernel
theorem dX4_take_56 : decode cX4_take 56 = .ok (.getfield 196, 3) := by decide +kernel
theorem dX4_take_59 : decode cX4_take 59 = .ok (.iconst 1, 1) := by decide +kernel
theorem dX4_take_60 : decode cX4_take 60 = .ok (.iadd, 1) := by decide +kernel
theorem dX4_take_61 : decode cX4_take 61 = .ok (.putfield 196, 3) := by decide +kernel
theorem dX4_take_64 : decode cX4_take 64 = .ok (.return_, 1) := by decide +kernel
set_option maxRecDepth 20000 in
theorem ggX4_wake_X4_knows : GoodIn wsX4_wake wsX4_knows := goodIn_r _ [12, 13, 14, 15, 16, 17, 18, 19, 20, 43, 44, 45, 46, 47, 48, 49, 50, 51, 52, 53, 71, 72, 73] (by decide +kernel) (by decide +kernel)
set_option maxRecDepth 20000 in
theorem gX4_wake_X4_knows : GoodIn wsX4_wake (wsV RX4 126 RX4 yX4_knows wsX4_knows) := goodIn_app (goodIn_of _ (by decide +kernel)) ggX4_wake_X4_knows
set_option maxRecDepth 20000 in
theorem ggX4_wake_X4_take : GoodIn wsX4_wake wsX4_take := goodIn_r _ [24, 25, 26, 13, 27, 28, 2, 29, 30, 31, 32, 33, 34, 35, 54, 55, 56, 57, 58, 59, 60, 61, 62, 63, 64, 65, 66, 67, 68, 43, 44, 45, 46, 47, 48, 49, 50, 51, 52, 53, 71, 72, 73] (by decide +kernel) (by decide +kernel)
set_option maxRecDepth 20000 in
theorem gX4_wake_X4_take : GoodIn wsX4_wake (wsV RX4 158 RX4 yX4_take wsX4_take) := goodIn_app (goodIn_of _ (by decide +kernel)) ggX4_wake_X4_take
set_option maxRecDepth 20000 in
theorem ggX4_wake_X3_dropOldest : GoodIn wsX4_wake wsX3_dropOldest := goodIn_r _ [40, 41, 42, 69, 70] (by decide +kernel) (by decide +kernel)
set_option maxRecDepth 20000 in
theorem gX4_wake_X3_dropOldest : GoodIn wsX4_wake (wsV RX4 202 RX3 yX3_dropOldest wsX3_dropOldest) := goodIn_app (goodIn_of _ (by decide +kernel)) ggX4_wake_X3_dropOldest
theorem dX4_wake_0 : decode cX4_wake 0 = .ok (.aload_n 0, 1) := by decide +kernel
theorem dX4_wake_1 : decode cX4_wake 1 = .ok (.getfield 11, 3) := by decide +kernel
theorem dX4_wake_4 : decode cX4_wake 4 = .ok (.iload_n 1, 1) := by decide +kernel
theorem dX4_wake_5 : decode cX4_wake 5 = .ok (.aaload, 1) := by decide +kernel
theorem dX4_wake_6 : decode cX4_wake 6 = .ok (.astore_n 2, 1) := by decide +kernel
theorem dX4_wake_7 : decode cX4_wake 7 = .ok (.aload_n 2, 1) := by decide +kernel
theorem dX4_wake_8 : decode cX4_wake 8 = .ok (.getfield 196, 3) := by decide +kernel
theorem dX4_wake_11 : decode cX4_wake 11 = .ok (.istore_n 3, 1) := by decide +kernel
theorem dX4_wake_12 : decode cX4_wake 12 = .ok (.aload_n 2, 1) := by decide +kernel
theorem dX4_wake_13 : decode cX4_wake 13 = .ok (.iconst 0, 1) := by decide +kernel
theorem dX4_wake_14 : decode cX4_wake 14 = .ok (.putfield 109, 3) := by decide +kernel
theorem dX4_wake_17 : decode cX4_wake 17 = .ok (.iconst 0, 1) := by decide +kernel
theorem dX4_wake_18 : decode cX4_wake 18 = .ok (.istore 4, 2) := by decide +kernel
theorem dX4_wake_20 : decode cX4_wake 20 = .ok (.iload 4, 2) := by decide +kernel
theorem dX4_wake_22 : decode cX4_wake 22 = .ok (.aload_n 2, 1) := by decide +kernel
theorem dX4_wake_23 : decode cX4_wake 23 = .ok (.getfield 171, 3) := by decide +kernel
theorem dX4_wake_26 : decode cX4_wake 26 = .ok (.getfield 199, 3) := by decide +kernel
theorem dX4_wake_29 : decode cX4_wake 29 = .ok (.if_icmp .ge 51, 3) := by decide +kernel
theorem dX4_wake_32 : decode cX4_wake 32 = .ok (.aload_n 2, 1) := by decide +kernel
theorem dX4_wake_33 : decode cX4_wake 33 = .ok (.getfield 171, 3) := by decide +kernel
theorem dX4_wake_36 : decode cX4_wake 36 = .ok (.getfield 200, 3) := by decide +kernel
theorem dX4_wake_39 : decode cX4_wake 39 = .ok (.iload 4, 2) := by decide +kernel
theorem dX4_wake_41 : decode cX4_wake 41 = .ok (.iaload, 1) := by decide +kernel
theorem dX4_wake_42 : decode cX4_wake 42 = .ok (.istore 5, 2) := by decide +kernel
theorem dX4_wake_44 : decode cX4_wake 44 = .ok (.aload_n 0, 1) := by decide +kernel
theorem dX4_wake_45 : decode cX4_wake 45 = .ok (.iload_n 1, 1) := by decide +kernel
theorem dX4_wake_46 : decode cX4_wake 46 = .ok (.iload 5, 2) := by decide +kernel
theorem dX4_wake_48 : decode cX4_wake 48 = .ok (.invokevirtual 126, 3) := by decide +kernel
theorem dX4_wake_51 : decode cX4_wake 51 = .ok (.ifCond .eq 13, 3) := by decide +kernel
theorem dX4_wake_54 : decode cX4_wake 54 = .ok (.aload_n 0, 1) := by decide +kernel
theorem dX4_wake_55 : decode cX4_wake 55 = .ok (.aload_n 2, 1) := by decide +kernel
theorem dX4_wake_56 : decode cX4_wake 56 = .ok (.iload 5, 2) := by decide +kernel
theorem dX4_wake_58 : decode cX4_wake 58 = .ok (.invokevirtual 158, 3) := by decide +kernel
theorem dX4_wake_61 : decode cX4_wake 61 = .ok (.goto 13, 3) := by decide +kernel
theorem dX4_wake_64 : decode cX4_wake 64 = .ok (.aload_n 2, 1) := by decide +kernel
theorem dX4_wake_65 : decode cX4_wake 65 = .ok (.dup, 1) := by decide +kernel
theorem dX4_wake_66 : decode cX4_wake 66 = .ok (.getfield 129, 3) := by decide +kernel
theorem dX4_wake_69 : decode cX4_wake 69 = .ok (.iconst 1, 1) := by decide +kernel
theorem dX4_wake_70 : decode cX4_wake 70 = .ok (.iadd, 1) := by decide +kernel
theorem dX4_wake_71 : decode cX4_wake 71 = .ok (.putfield 129, 3) := by decide +kernel
theorem dX4_wake_74 : decode cX4_wake 74 = .ok (.iinc 4 1, 3) := by decide +kernel
theorem dX4_wake_77 : decode cX4_wake 77 = .ok (.goto (-57), 3) := by decide +kernel
theorem dX4_wake_80 : decode cX4_wake 80 = .ok (.aload_n 2, 1) := by decide +kernel
theorem dX4_wake_81 : decode cX4_wake 81 = .ok (.getfield 171, 3) := by decide +kernel
theorem dX4_wake_84 : decode cX4_wake 84 = .ok (.iconst 0, 1) := by decide +kernel
theorem dX4_wake_85 : decode cX4_wake 85 = .ok (.invokevirtual 202, 3) := by decide +kernel
theorem dX4_wake_88 : decode cX4_wake 88 = .ok (.aload_n 2, 1) := by decide +kernel
theorem dX4_wake_89 : decode cX4_wake 89 = .ok (.getfield 196, 3) := by decide +kernel
theorem dX4_wake_92 : decode cX4_wake 92 = .ok (.iload_n 3, 1) := by decide +kernel
theorem dX4_wake_93 : decode cX4_wake 93 = .ok (.isub, 1) := by decide +kernel
theorem dX4_wake_94 : decode cX4_wake 94 = .ok (.ireturn, 1) := by decide +kernel
set_option maxRecDepth 20000 in
theorem ggX4_sleepers_X5_asNumber : GoodIn wsX4_sleepers wsX5_asNumber := goodIn_r _ [5] (by decide +kernel) (by decide +kernel)
set_option maxRecDepth 20000 in
theorem gX4_sleepers_X5_asNumber_n205 : GoodIn wsX4_sleepers (wsX5_asNumber) := ggX4_sleepers_X5_asNumber
theorem dX4_sleepers_0 : decode cX4_sleepers 0 = .ok (.iconst 0, 1) := by decide +kernel
theorem dX4_sleepers_1 : decode cX4_sleepers 1 = .ok (.istore_n 1, 1) := by decide +kernel
theorem dX4_sleepers_2 : decode cX4_sleepers 2 = .ok (.iconst 0, 1) := by decide +kernel
theorem dX4_sleepers_3 : decode cX4_sleepers 3 = .ok (.istore_n 2, 1) := by decide +kernel
theorem dX4_sleepers_4 : decode cX4_sleepers 4 = .ok (.iload_n 2, 1) := by decide +kernel
theorem dX4_sleepers_5 : decode cX4_sleepers 5 = .ok (.bipush 10, 2) := by decide +kernel
theorem dX4_sleepers_7 : decode cX4_sleepers 7 = .ok (.if_icmp .ge 24, 3) := by decide +kernel
theorem dX4_sleepers_10 : decode cX4_sleepers 10 = .ok (.iload_n 1, 1) := by decide +kernel
theorem dX4_sleepers_11 : decode cX4_sleepers 11 = .ok (.aload_n 0, 1) := by decide +kernel
theorem dX4_sleepers_12 : decode cX4_sleepers 12 = .ok (.getfield 11, 3) := by decide +kernel
theorem dX4_sleepers_15 : decode cX4_sleepers 15 = .ok (.iload_n 2, 1) := by decide +kernel
theorem dX4_sleepers_16 : decode cX4_sleepers 16 = .ok (.aaload, 1) := by decide +kernel
theorem dX4_sleepers_17 : decode cX4_sleepers 17 = .ok (.getfield 109, 3) := by decide +kernel
theorem dX4_sleepers_20 : decode cX4_sleepers 20 = .ok (.invokestatic 205, 3) := by decide +kernel
theorem dX4_sleepers_23 : decode cX4_sleepers 23 = .ok (.iadd, 1) := by decide +kernel
theorem dX4_sleepers_24 : decode cX4_sleepers 24 = .ok (.istore_n 1, 1) := by decide +kernel
theorem dX4_sleepers_25 : decode cX4_sleepers 25 = .ok (.iinc 2 1, 3) := by decide +kernel
theorem dX4_sleepers_28 : decode cX4_sleepers 28 = .ok (.goto (-24), 3) := by decide +kernel
theorem dX4_sleepers_31 : decode cX4_sleepers 31 = .ok (.iload_n 1, 1) := by decide +kernel
theorem dX4_sleepers_32 : decode cX4_sleepers 32 = .ok (.ireturn, 1) := by decide +kernel
theorem dX4_allLights_0 : decode cX4_allLights 0 = .ok (.iconst 0, 1) := by decide +kernel
theorem dX4_allLights_1 : decode cX4_allLights 1 = .ok (.istore_n 1, 1) := by decide +kernel
theorem dX4_allLights_2 : decode cX4_allLights 2 = .ok (.iconst 0, 1) := by decide +kernel
theorem dX4_allLights_3 : decode cX4_allLights 3 = .ok (.istore_n 2, 1) := by decide +kernel
theorem dX4_allLights_4 : decode cX4_allLights 4 = .ok (.iload_n 2, 1) := by decide +kernel
theorem dX4_allLights_5 : decode cX4_allLights 5 = .ok (.bipush 10, 2) := by decide +kernel
theorem dX4_allLights_7 : decode cX4_allLights 7 = .ok (.if_icmp .ge 21, 3) := by decide +kernel
theorem dX4_allLights_10 : decode cX4_allLights 10 = .ok (.iload_n 1, 1) := by decide +kernel
theorem dX4_allLights_11 : decode cX4_allLights 11 = .ok (.aload_n 0, 1) := by decide +kernel
theorem dX4_allLights_12 : decode cX4_allLights 12 = .ok (.getfield 11, 3) := by decide +kernel
theorem dX4_allLights_15 : decode cX4_allLights 15 = .ok (.iload_n 2, 1) := by decide +kernel
theorem dX4_allLights_16 : decode cX4_allLights 16 = .ok (.aaload, 1) := by decide +kernel
theorem dX4_allLights_17 : decode cX4_allLights 17 = .ok (.getfield 193, 3) := by decide +kernel
theorem dX4_allLights_20 : decode cX4_allLights 20 = .ok (.iadd, 1) := by decide +kernel
theorem dX4_allLights_21 : decode cX4_allLights 21 = .ok (.istore_n 1, 1) := by decide +kernel
theorem dX4_allLights_22 : decode cX4_allLights 22 = .ok (.iinc 2 1, 3) := by decide +kernel
theorem dX4_allLights_25 : decode cX4_allLights 25 = .ok (.goto (-21), 3) := by decide +kernel
theorem dX4_allLights_28 : decode cX4_allLights 28 = .ok (.iload_n 1, 1) := by decide +kernel
theorem dX4_allLights_29 : decode cX4_allLights 29 = .ok (.ireturn, 1) := by decide +kernel
set_option maxRecDepth 20000 in
theorem ggX5_init_X4_init : GoodIn wsX5_init wsX4_init := goodIn_r _ [11, 12, 2, 3, 13, 14, 15, 16, 17, 18, 19, 20, 21, 22, 23, 24, 25, 26, 27, 28, 29, 30, 31, 32, 33, 34, 35, 36, 37, 38, 39, 40, 41, 42, 43, 44, 45, 46, 47, 48, 49, 50, 51, 52, 53, 54, 55, 56, 57, 58, 59, 60, 61, 62, 63, 64, 65, 66, 67, 68, 69, 70, 71, 72, 73, 74, 75, 76, 77, 78, 79, 80, 81, 82, 83, 84, 85, 86, 87, 88, 89, 90, 91, 92, 93, 94, 95, 98, 99, 100, 101, 102, 103, 104, 105, 106, 107, 108, 109, 110, 111, 112, 113, 114, 115, 116, 117, 118, 119, 120, 121, 122] (by decide +kernel) (by decide +kernel)
set_option maxRecDepth 20000 in
theorem gX5_init_X4_init : GoodIn wsX5_init (wsX4_init) := ggX5_init_X4_init
theorem dX5_init_0 : decode cX5_init 0 = .ok (.aload_n 0, 1) := by decide +kernel
theorem dX5_init_1 : decode cX5_init 1 = .ok (.invokespecial 1, 3) := by decide +kernel
theorem dX5_init_4 : decode cX5_init 4 = .ok (.aload_n 0, 1) := by decide +kernel
theorem dX5_init_5 : decode cX5_init 5 = .ok (.new 7, 3) := by decide +kernel
theorem dX5_init_8 : decode cX5_init 8 = .ok (.dup, 1) := by decide +kernel
theorem dX5_init_9 : decode cX5_init 9 = .ok (.invokespecial 9, 3) := by decide +kernel
theorem dX5_init_12 : decode cX5_init 12 = .ok (.putfield 10, 3) := by decide +kernel
theorem dX5_init_15 : decode cX5_init 15 = .ok (.aload_n 0, 1) := by decide +kernel
theorem dX5_init_16 : decode cX5_init 16 = .ok (.iconst 2, 1) := by decide +kernel
theorem dX5_init_17 : decode cX5_init 17 = .ok (.anewarray 7, 3) := by decide +kernel
theorem dX5_init_20 : decode cX5_init 20 = .ok (.putfield 16, 3) := by decide +kernel
theorem dX5_init_23 : decode cX5_init 23 = .ok (.return_, 1) := by decide +kernel
set_option maxRecDepth 20000 in
theorem ggX5_link_X5_isLamp : GoodIn wsX5_link wsX5_isLamp := goodIn_r _ [7, 8, 9, 6, 10] (by decide +kernel) (by decide +kernel)
set_option maxRecDepth 20000 in
theorem gX5_link_X5_isLamp : GoodIn wsX5_link (va_wsS RX5 20 yX5_isLamp wsX5_isLamp) := goodIn_app (goodIn_of _ (by decide +kernel)) ggX5_link_X5_isLamp
set_option maxRecDepth 20000 in
theorem ggX5_link_X5_isBetween : GoodIn wsX5_link wsX5_isBetween := goodIn_r _ [10] (by decide +kernel) (by decide +kernel)
set_option maxRecDepth 20000 in
theorem gX5_link_X5_isBetween : GoodIn wsX5_link (va_wsS RX5 24 yX5_isBetween wsX5_isBetween) := goodIn_app (goodIn_of _ (by decide +kernel)) ggX5_link_X5_isBetween
set_option maxRecDepth 20000 in
theorem ggX5_link_X5_changed : GoodIn wsX5_link wsX5_changed := goodIn_r _ [13] (by decide +kernel) (by decide +kernel)
set_option maxRecDepth 20000 in
theorem gX5_link_X5_changed : GoodIn wsX5_link (va_wsS RX5 38 yX5_changed wsX5_changed) := goodIn_app (goodIn_of _ (by decide +kernel)) ggX5_link_X5_changed
set_option maxRecDepth 20000 in
theorem ggX5_link_J6_bitCount_0f7a4 : GoodIn wsX5_link wsJ6_bitCount_0f7a4 := goodIn_r _ [17, 18, 19, 20] (by decide +kernel) (by decide +kernel)
set_option maxRecDepth 20000 in
theorem gX5_link_J6_bitCount_0f7a4 : GoodIn wsX5_link (va_wsS RX5 42 yJ6_bitCount_0f7a4 wsJ6_bitCount_0f7a4) := goodIn_app (goodIn_of _ (by decide +kernel)) ggX5_link_J6_bitCount_0f7a4
theorem dX5_link_0 : decode cX5_link 0 = .ok (.iload_n 1, 1) := by decide +kernel
theorem dX5_link_1 : decode cX5_link 1 = .ok (.invokestatic 20, 3) := by decide +kernel
theorem dX5_link_4 : decode cX5_link 4 = .ok (.ifCond .eq 10, 3) := by decide +kernel
theorem dX5_link_7 : decode cX5_link 7 = .ok (.iload_n 2, 1) := by decide +kernel
theorem dX5_link_8 : decode cX5_link 8 = .ok (.invokestatic 20, 3) := by decide +kernel
theorem dX5_link_11 : decode cX5_link 11 = .ok (.ifCond .ne 5, 3) := by decide +kernel
theorem dX5_link_14 : decode cX5_link 14 = .ok (.iconst (-1), 1) := by decide +kernel
theorem dX5_link_15 : decode cX5_link 15 = .ok (.ireturn, 1) := by decide +kernel
theorem dX5_link_16 : decode cX5_link 16 = .ok (.iload_n 1, 1) := by decide +kernel
theorem dX5_link_17 : decode cX5_link 17 = .ok (.iload_n 2, 1) := by decide +kernel
theorem dX5_link_18 : decode cX5_link 18 = .ok (.if_icmp .eq 12, 3) := by decide +kernel
theorem dX5_link_21 : decode cX5_link 21 = .ok (.iload_n 3, 1) := by decide +kernel
theorem dX5_link_22 : decode cX5_link 22 = .ok (.iconst 0, 1) := by decide +kernel
theorem dX5_link_23 : decode cX5_link 23 = .ok (.iconst 1, 1) := by decide +kernel
theorem dX5_link_24 : decode cX5_link 24 = .ok (.invokestatic 24, 3) := by decide +kernel
theorem dX5_link_27 : decode cX5_link 27 = .ok (.ifCond .ne 6, 3) := by decide +kernel
theorem dX5_link_30 : decode cX5_link 30 = .ok (.bipush (-2), 2) := by decide +kernel
theorem dX5_link_32 : decode cX5_link 32 = .ok (.ireturn, 1) := by decide +kernel
theorem dX5_link_33 : decode cX5_link 33 = .ok (.aload_n 0, 1) := by decide +kernel
theorem dX5_link_34 : decode cX5_link 34 = .ok (.getfield 10, 3) := by decide +kernel
theorem dX5_link_37 : decode cX5_link 37 = .ok (.getfield 28, 3) := by decide +kernel
theorem dX5_link_40 : decode cX5_link 40 = .ok (.iload_n 1, 1) := by decide +kernel
theorem dX5_link_41 : decode cX5_link 41 = .ok (.aaload, 1) := by decide +kernel
theorem dX5_link_42 : decode cX5_link 42 = .ok (.astore 4, 2) := by decide +kernel
theorem dX5_link_44 : decode cX5_link 44 = .ok (.aload_n 0, 1) := by decide +kernel
theorem dX5_link_45 : decode cX5_link 45 = .ok (.getfield 10, 3) := by decide +kernel
theorem dX5_link_48 : decode cX5_link 48 = .ok (.getfield 28, 3) := by decide +kernel
theorem dX5_link_51 : decode cX5_link 51 = .ok (.iload_n 2, 1) := by decide +kernel
theorem dX5_link_52 : decode cX5_link 52 = .ok (.aaload, 1) := by decide +kernel
theorem dX5_link_53 : decode cX5_link 53 = .ok (.astore 5, 2) := by decide +kernel
theorem dX5_link_55 : decode cX5_link 55 = .ok (.aload 4, 2) := by decide +kernel
theorem dX5_link_57 : decode cX5_link 57 = .ok (.aload 4, 2) := by decide +kernel
theorem dX5_link_59 : decode cX5_link 59 = .ok (.getfield 32, 3) := by decide +kernel
theorem dX5_link_62 : decode cX5_link 62 = .ok (.iload_n 2, 1) := by decide +kernel
theorem dX5_link_63 : decode cX5_link 63 = .ok (.iload_n 3, 1) := by decide +kernel
theorem dX5_link_64 : decode cX5_link 64 = .ok (.iconst 1, 1) := by decide +kernel
theorem dX5_link_65 : decode cX5_link 65 = .ok (.if_icmp .ne 7, 3) := by decide +kernel
theorem dX5_link_68 : decode cX5_link 68 = .ok (.iconst 1, 1) := by decide +kernel
theorem dX5_link_69 : decode cX5_link 69 = .ok (.goto 4, 3) := by decide +kernel
theorem dX5_link_72 : decode cX5_link 72 = .ok (.iconst 0, 1) := by decide +kernel
theorem dX5_link_73 : decode cX5_link 73 = .ok (.invokestatic 38, 3) := by decide +kernel
theorem dX5_link_76 : decode cX5_link 76 = .ok (.putfield 32, 3) := by decide +kernel
theorem dX5_link_79 : decode cX5_link 79 = .ok (.aload 5, 2) := by decide +kernel
theorem dX5_link_81 : decode cX5_link 81 = .ok (.aload 5, 2) := by decide +kernel
theorem dX5_link_83 : decode cX5_link 83 = .ok (.getfield 32, 3) := by decide +kernel
theorem dX5_link_86 : decode cX5_link 86 = .ok (.iload_n 1, 1) := by decide +kernel
theorem dX5_link_87 : decode cX5_link 87 = .ok (.iload_n 3, 1) := by decide +kernel
theorem dX5_link_88 : decode cX5_link 88 = .ok (.iconst 1, 1) := by decide +kernel
theorem dX5_link_89 : decode cX5_link 89 = .ok (.if_icmp .ne 7, 3) := by decide +kernel
theorem dX5_link_92 : decode cX5_link 92 = .ok (.iconst 1, 1) := by decide +kernel
theorem dX5_link_93 : decode cX5_link 93 = .ok (.goto 4, 3) := by decide +kernel
theorem dX5_link_96 : decode cX5_link 96 = .ok (.iconst 0, 1) := by decide +kernel
theorem dX5_link_97 : decode cX5_link 97 = .ok (.invokestatic 38, 3) := by decide +kernel
theorem dX5_link_100 : decode cX5_link 100 = .ok (.putfield 32, 3) := by decide +kernel
theorem dX5_link_103 : decode cX5_link 103 = .ok (.aload 4, 2) := by decide +kernel
theorem dX5_link_105 : decode cX5_link 105 = .ok (.getfield 32, 3) := by decide +kernel
theorem dX5_link_108 : decode cX5_link 108 = .ok (.invokestatic 42, 3) := by decide +kernel
theorem dX5_link_111 : decode cX5_link 111 = .ok (.ireturn, 1) := by decide +kernel
set_option maxRecDepth 20000 in
theorem ggX5_set_X5_isLamp : GoodIn wsX5_set wsX5_isLamp := goodIn_r _ [10, 11, 12, 9, 13] (by decide +kernel) (by decide +kernel)
set_option maxRecDepth 20000 in
theorem gX5_set_X5_isLamp : GoodIn wsX5_set (va_wsS RX5 20 yX5_isLamp wsX5_isLamp) := goodIn_app (goodIn_of _ (by decide +kernel)) ggX5_set_X5_isLamp
set_option maxRecDepth 20000 in
theorem ggX5_set_X5_isBetween : GoodIn wsX5_set wsX5_isBetween := goodIn_r _ [13] (by decide +kernel) (by decide +kernel)
set_option maxRecDepth 20000 in
theorem gX5_set_X5_isBetween : GoodIn wsX5_set (va_wsS RX5 24 yX5_isBetween wsX5_isBetween) := goodIn_app (goodIn_of _ (by decide +kernel)) ggX5_set_X5_isBetween
set_option maxRecDepth 20000 in
theorem ggX5_set_X3_dropOldest : GoodIn wsX5_set wsX3_dropOldest := goodIn_r _ [18, 19, 20, 49, 50] (by decide +kernel) (by decide +kernel)
set_option maxRecDepth 20000 in
theorem gX5_set_X3_dropOldest : GoodIn wsX5_set (wsV RX5 62 RX3 yX3_dropOldest wsX3_dropOldest) := goodIn_app (goodIn_of _ (by decide +kernel)) ggX5_set_X3_dropOldest
theorem dX5_set_0 : decode cX5_set 0 = .ok (.iload_n 1, 1) := by decide +kernel
theorem dX5_set_1 : decode cX5_set 1 = .ok (.invokestatic 20, 3) := by decide +kernel
theorem dX5_set_4 : decode cX5_set 4 = .ok (.ifCond .ne 5, 3) := by decide +kernel
theorem dX5_set_7 : decode cX5_set 7 = .ok (.iconst (-1), 1) := by decide +kernel
theorem dX5_set_8 : decode cX5_set 8 = .ok (.ireturn, 1) := by decide +kernel
theorem dX5_set_9 : decode cX5_set 9 = .ok (.iload_n 2, 1) := by decide +kernel
theorem dX5_set_10 : decode cX5_set 10 = .ok (.iconst 0, 1) := by decide +kernel
theorem dX5_set_11 : decode cX5_set 11 = .ok (.iconst 3, 1) := by decide +kernel
theorem dX5_set_12 : decode cX5_set 12 = .ok (.invokestatic 24, 3) := by decide +kernel
theorem dX5_set_15 : decode cX5_set 15 = .ok (.ifCond .eq 20, 3) := by decide +kernel
theorem dX5_set_18 : decode cX5_set 18 = .ok (.iload_n 3, 1) := by decide +kernel
theorem dX5_set_19 : decode cX5_set 19 = .ok (.getstatic 48, 3) := by decide +kernel
theorem dX5_set_22 : decode cX5_set 22 = .ok (.iload_n 2, 1) := by decide +kernel
theorem dX5_set_23 : decode cX5_set 23 = .ok (.iaload, 1) := by decide +kernel
theorem dX5_set_24 : decode cX5_set 24 = .ok (.getstatic 52, 3) := by decide +kernel
theorem dX5_set_27 : decode cX5_set 27 = .ok (.iload_n 2, 1) := by decide +kernel
theorem dX5_set_28 : decode cX5_set 28 = .ok (.iaload, 1) := by decide +kernel
theorem dX5_set_29 : decode cX5_set 29 = .ok (.invokestatic 24, 3) := by decide +kernel
theorem dX5_set_32 : decode cX5_set 32 = .ok (.ifCond .ne 6, 3) := by decide +kernel
theorem dX5_set_35 : decode cX5_set 35 = .ok (.bipush (-2), 2) := by decide +kernel
theorem dX5_set_37 : decode cX5_set 37 = .ok (.ireturn, 1) := by decide +kernel
theorem dX5_set_38 : decode cX5_set 38 = .ok (.aload_n 0, 1) := by decide +kernel
theorem dX5_set_39 : decode cX5_set 39 = .ok (.getfield 10, 3) := by decide +kernel
theorem dX5_set_42 : decode cX5_set 42 = .ok (.getfield 28, 3) := by decide +kernel
theorem dX5_set_45 : decode cX5_set 45 = .ok (.iload_n 1, 1) := by decide +kernel
theorem dX5_set_46 : decode cX5_set 46 = .ok (.aaload, 1) := by decide +kernel
theorem dX5_set_47 : decode cX5_set 47 = .ok (.astore 4, 2) := by decide +kernel
theorem dX5_set_49 : decode cX5_set 49 = .ok (.aload 4, 2) := by decide +kernel
theorem dX5_set_51 : decode cX5_set 51 = .ok (.getfield 55, 3) := by decide +kernel
theorem dX5_set_54 : decode cX5_set 54 = .ok (.iload_n 2, 1) := by decide +kernel
theorem dX5_set_55 : decode cX5_set 55 = .ok (.iaload, 1) := by decide +kernel
theorem dX5_set_56 : decode cX5_set 56 = .ok (.istore 5, 2) := by decide +kernel
theorem dX5_set_58 : decode cX5_set 58 = .ok (.aload 4, 2) := by decide +kernel
theorem dX5_set_60 : decode cX5_set 60 = .ok (.getfield 55, 3) := by decide +kernel
theorem dX5_set_63 : decode cX5_set 63 = .ok (.iload_n 2, 1) := by decide +kernel
theorem dX5_set_64 : decode cX5_set 64 = .ok (.iload_n 3, 1) := by decide +kernel
theorem dX5_set_65 : decode cX5_set 65 = .ok (.iastore, 1) := by decide +kernel
theorem dX5_set_66 : decode cX5_set 66 = .ok (.aload 4, 2) := by decide +kernel
theorem dX5_set_68 : decode cX5_set 68 = .ok (.getfield 58, 3) := by decide +kernel
theorem dX5_set_71 : decode cX5_set 71 = .ok (.aload 4, 2) := by decide +kernel
theorem dX5_set_73 : decode cX5_set 73 = .ok (.getfield 55, 3) := by decide +kernel
theorem dX5_set_76 : decode cX5_set 76 = .ok (.iconst 2, 1) := by decide +kernel
theorem dX5_set_77 : decode cX5_set 77 = .ok (.iaload, 1) := by decide +kernel
theorem dX5_set_78 : decode cX5_set 78 = .ok (.invokevirtual 62, 3) := by decide +kernel
theorem dX5_set_81 : decode cX5_set 81 = .ok (.iload 5, 2) := by decide +kernel
theorem dX5_set_83 : decode cX5_set 83 = .ok (.ireturn, 1) := by decide +kernel
set_option maxRecDepth 20000 in
theorem ggX5_friend_X5_isLamp : GoodIn wsX5_friend wsX5_isLamp := goodIn_r _ [9, 10, 11, 8, 12] (by decide +kernel) (by decide +kernel)
set_option maxRecDepth 20000 in
theorem gX5_friend_X5_isLamp : GoodIn wsX5_friend (va_wsS RX5 20 yX5_isLamp wsX5_isLamp) := goodIn_app (goodIn_of _ (by decide +kernel)) ggX5_friend_X5_isLamp
set_option maxRecDepth 20000 in
theorem ggX5_friend_X3_dropOldest : GoodIn wsX5_friend wsX3_dropOldest := goodIn_r _ [17, 18, 19, 48, 49] (by decide +kernel) (by decide +kernel)
set_option maxRecDepth 20000 in
theorem gX5_friend_X3_dropOldest : GoodIn wsX5_friend (wsV RX5 62 RX3 yX3_dropOldest wsX3_dropOldest) := goodIn_app (goodIn_of _ (by decide +kernel)) ggX5_friend_X3_dropOldest
theorem dX5_friend_0 : decode cX5_friend 0 = .ok (.iload_n 1, 1) := by decide +kernel
theorem dX5_friend_1 : decode cX5_friend 1 = .ok (.invokestatic 20, 3) := by decide +kernel
theorem dX5_friend_4 : decode cX5_friend 4 = .ok (.ifCond .ne 5, 3) := by decide +kernel
theorem dX5_friend_7 : decode cX5_friend 7 = .ok (.iconst (-1), 1) := by decide +kernel
theorem dX5_friend_8 : decode cX5_friend 8 = .ok (.ireturn, 1) := by decide +kernel
theorem dX5_friend_9 : decode cX5_friend 9 = .ok (.iload_n 2, 1) := by decide +kernel
theorem dX5_friend_10 : decode cX5_friend 10 = .ok (.bipush (-6), 2) := by decide +kernel
theorem dX5_friend_12 : decode cX5_friend 12 = .ok (.if_icmp .eq 10, 3) := by decide +kernel
theorem dX5_friend_15 : decode cX5_friend 15 = .ok (.iload_n 2, 1) := by decide +kernel
theorem dX5_friend_16 : decode cX5_friend 16 = .ok (.invokestatic 20, 3) := by decide +kernel
theorem dX5_friend_19 : decode cX5_friend 19 = .ok (.ifCond .eq 8, 3) := by decide +kernel
theorem dX5_friend_22 : decode cX5_friend 22 = .ok (.iload_n 2, 1) := by decide +kernel
theorem dX5_friend_23 : decode cX5_friend 23 = .ok (.iload_n 1, 1) := by decide +kernel
theorem dX5_friend_24 : decode cX5_friend 24 = .ok (.if_icmp .ne 6, 3) := by decide +kernel
theorem dX5_friend_27 : decode cX5_friend 27 = .ok (.bipush (-2), 2) := by decide +kernel
theorem dX5_friend_29 : decode cX5_friend 29 = .ok (.ireturn, 1) := by decide +kernel
theorem dX5_friend_30 : decode cX5_friend 30 = .ok (.aload_n 0, 1) := by decide +kernel
theorem dX5_friend_31 : decode cX5_friend 31 = .ok (.getfield 10, 3) := by decide +kernel
theorem dX5_friend_34 : decode cX5_friend 34 = .ok (.getfield 28, 3) := by decide +kernel
theorem dX5_friend_37 : decode cX5_friend 37 = .ok (.iload_n 1, 1) := by decide +kernel
theorem dX5_friend_38 : decode cX5_friend 38 = .ok (.aaload, 1) := by decide +kernel
theorem dX5_friend_39 : decode cX5_friend 39 = .ok (.astore_n 3, 1) := by decide +kernel
theorem dX5_friend_40 : decode cX5_friend 40 = .ok (.aload_n 3, 1) := by decide +kernel
theorem dX5_friend_41 : decode cX5_friend 41 = .ok (.getfield 68, 3) := by decide +kernel
theorem dX5_friend_44 : decode cX5_friend 44 = .ok (.ifCond .eq 6, 3) := by decide +kernel
theorem dX5_friend_47 : decode cX5_friend 47 = .ok (.bipush (-3), 2) := by decide +kernel
theorem dX5_friend_49 : decode cX5_friend 49 = .ok (.ireturn, 1) := by decide +kernel
theorem dX5_friend_50 : decode cX5_friend 50 = .ok (.aload_n 3, 1) := by decide +kernel
theorem dX5_friend_51 : decode cX5_friend 51 = .ok (.getfield 72, 3) := by decide +kernel
theorem dX5_friend_54 : decode cX5_friend 54 = .ok (.istore 4, 2) := by decide +kernel
theorem dX5_friend_56 : decode cX5_friend 56 = .ok (.aload_n 3, 1) := by decide +kernel
theorem dX5_friend_57 : decode cX5_friend 57 = .ok (.iload_n 2, 1) := by decide +kernel
theorem dX5_friend_58 : decode cX5_friend 58 = .ok (.putfield 72, 3) := by decide +kernel
theorem dX5_friend_61 : decode cX5_friend 61 = .ok (.aload_n 3, 1) := by decide +kernel
theorem dX5_friend_62 : decode cX5_friend 62 = .ok (.getfield 75, 3) := by decide +kernel
theorem dX5_friend_65 : decode cX5_friend 65 = .ok (.iconst 0, 1) := by decide +kernel
theorem dX5_friend_66 : decode cX5_friend 66 = .ok (.invokevirtual 62, 3) := by decide +kernel
theorem dX5_friend_69 : decode cX5_friend 69 = .ok (.iload 4, 2) := by decide +kernel
theorem dX5_friend_71 : decode cX5_friend 71 = .ok (.ireturn, 1) := by decide +kernel
set_option maxRecDepth 20000 in
theorem ggX5_sleep_X5_isLamp : GoodIn wsX5_sleep wsX5_isLamp := goodIn_r _ [8, 9, 10, 7, 11] (by decide +kernel) (by decide +kernel)
set_option maxRecDepth 20000 in
theorem gX5_sleep_X5_isLamp : GoodIn wsX5_sleep (va_wsS RX5 20 yX5_isLamp wsX5_isLamp) := goodIn_app (goodIn_of _ (by decide +kernel)) ggX5_sleep_X5_isLamp
set_option maxRecDepth 20000 in
theorem ggX5_sleep_X5_isBetween : GoodIn wsX5_sleep wsX5_isBetween := goodIn_r _ [11] (by decide +kernel) (by decide +kernel)
set_option maxRecDepth 20000 in
theorem gX5_sleep_X5_isBetween : GoodIn wsX5_sleep (va_wsS RX5 24 yX5_isBetween wsX5_isBetween) := goodIn_app (goodIn_of _ (by decide +kernel)) ggX5_sleep_X5_isBetween
set_option maxRecDepth 20000 in
theorem ggX5_sleep_X4_wake : GoodIn wsX5_sleep wsX4_wake := goodIn_r _ [16, 17, 18, 19, 20, 21, 22, 23, 24, 25, 26, 15, 27, 28, 29, 30, 31, 32, 33, 7, 34, 35, 36, 37, 38, 39, 40, 41, 42, 43, 44, 45, 46, 47, 48, 49, 50, 51, 52, 53, 54, 55, 56, 59, 60, 61, 62, 63, 64, 65, 66, 67, 68, 69, 70, 71, 72, 73, 74, 75, 76, 77, 78, 79, 80, 81, 82, 83, 84, 85, 86, 87, 88, 89] (by decide +kernel) (by decide +kernel)
set_option maxRecDepth 20000 in
theorem gX5_sleep_X4_wake : GoodIn wsX5_sleep (wsV RX5 78 RX4 yX4_wake wsX4_wake) := goodIn_app (goodIn_of _ (by decide +kernel)) ggX5_sleep_X4_wake
theorem dX5_sleep_0 : decode cX5_sleep 0 = .ok (.iload_n 1, 1) := by decide +kernel
theorem dX5_sleep_1 : decode cX5_sleep 1 = .ok (.invokestatic 20, 3) := by decide +kernel
theorem dX5_sleep_4 : decode cX5_sleep 4 = .ok (.ifCond .ne 5, 3) := by decide +kernel
theorem dX5_sleep_7 : decode cX5_sleep 7 = .ok (.iconst (-1), 1) := by decide +kernel
theorem dX5_sleep_8 : decode cX5_sleep 8 = .ok (.ireturn, 1) := by decide +kernel
theorem dX5_sleep_9 : decode cX5_sleep 9 = .ok (.iload_n 2, 1) := by decide +kernel
theorem dX5_sleep_10 : decode cX5_sleep 10 = .ok (.iconst 0, 1) := by decide +kernel
theorem dX5_sleep_11 : decode cX5_sleep 11 = .ok (.iconst 1, 1) := by decide +kernel
theorem dX5_sleep_12 : decode cX5_sleep 12 = .ok (.invokestatic 24, 3) := by decide +kernel
theorem dX5_sleep_15 : decode cX5_sleep 15 = .ok (.ifCond .ne 6, 3) := by decide +kernel
theorem dX5_sleep_18 : decode cX5_sleep 18 = .ok (.bipush (-2), 2) := by decide +kernel
theorem dX5_sleep_20 : decode cX5_sleep 20 = .ok (.ireturn, 1) := by decide +kernel
end
section
theorem dX5_sleep_21 : decode cX5_sleep 21 = .ok (.aload_n 0, 1) := by decide +kernel
theorem dX5_sleep_22 : decode cX5_sleep 22 = .ok (.getfield 10, 3) := by decide +kernel
theorem dX5_sleep_25 : decode cX5_sleep 25 = .ok (.getfield 28, 3) := by decide +kernel
theorem dX5_sleep_28 : decode cX5_sleep 28 = .ok (.iload_n 1, 1) := by decide +kernel
theorem dX5_sleep_29 : decode cX5_sleep 29 = .ok (.aaload, 1) := by decide +kernel
theorem dX5_sleep_30 : decode cX5_sleep 30 = .ok (.astore_n 3, 1) := by decide +kernel
theorem dX5_sleep_31 : decode cX5_sleep 31 = .ok (.iload_n 2, 1) := by decide +kernel
theorem dX5_sleep_32 : decode cX5_sleep 32 = .ok (.iconst 1, 1) := by decide +kernel
theorem dX5_sleep_33 : decode cX5_sleep 33 = .ok (.if_icmp .ne 15, 3) := by decide +kernel
theorem dX5_sleep_36 : decode cX5_sleep 36 = .ok (.aload_n 3, 1) := by decide +kernel
theorem dX5_sleep_37 : decode cX5_sleep 37 = .ok (.getfield 72, 3) := by decide +kernel
theorem dX5_sleep_40 : decode cX5_sleep 40 = .ok (.bipush (-6), 2) := by decide +kernel
theorem dX5_sleep_42 : decode cX5_sleep 42 = .ok (.if_icmp .ne 6, 3) := by decide +kernel
theorem dX5_sleep_45 : decode cX5_sleep 45 = .ok (.bipush (-5), 2) := by decide +kernel
theorem dX5_sleep_47 : decode cX5_sleep 47 = .ok (.ireturn, 1) := by decide +kernel
theorem dX5_sleep_48 : decode cX5_sleep 48 = .ok (.iload_n 2, 1) := by decide +kernel
theorem dX5_sleep_49 : decode cX5_sleep 49 = .ok (.ifCond .ne 19, 3) := by decide +kernel
theorem dX5_sleep_52 : decode cX5_sleep 52 = .ok (.aload_n 3, 1) := by decide +kernel
theorem dX5_sleep_53 : decode cX5_sleep 53 = .ok (.getfield 68, 3) := by decide +kernel
theorem dX5_sleep_56 : decode cX5_sleep 56 = .ok (.ifCond .eq 12, 3) := by decide +kernel
theorem dX5_sleep_59 : decode cX5_sleep 59 = .ok (.aload_n 0, 1) := by decide +kernel
theorem dX5_sleep_60 : decode cX5_sleep 60 = .ok (.getfield 10, 3) := by decide +kernel
theorem dX5_sleep_63 : decode cX5_sleep 63 = .ok (.iload_n 1, 1) := by decide +kernel
theorem dX5_sleep_64 : decode cX5_sleep 64 = .ok (.invokevirtual 78, 3) := by decide +kernel
theorem dX5_sleep_67 : decode cX5_sleep 67 = .ok (.ireturn, 1) := by decide +kernel
theorem dX5_sleep_68 : decode cX5_sleep 68 = .ok (.aload_n 3, 1) := by decide +kernel
theorem dX5_sleep_69 : decode cX5_sleep 69 = .ok (.iload_n 2, 1) := by decide +kernel
theorem dX5_sleep_70 : decode cX5_sleep 70 = .ok (.iconst 1, 1) := by decide +kernel
theorem dX5_sleep_71 : decode cX5_sleep 71 = .ok (.if_icmp .ne 7, 3) := by decide +kernel
theorem dX5_sleep_74 : decode cX5_sleep 74 = .ok (.iconst 1, 1) := by decide +kernel
theorem dX5_sleep_75 : decode cX5_sleep 75 = .ok (.goto 4, 3) := by decide +kernel
theorem dX5_sleep_78 : decode cX5_sleep 78 = .ok (.iconst 0, 1) := by decide +kernel
theorem dX5_sleep_79 : decode cX5_sleep 79 = .ok (.putfield 68, 3) := by decide +kernel
theorem dX5_sleep_82 : decode cX5_sleep 82 = .ok (.iconst 0, 1) := by decide +kernel
theorem dX5_sleep_83 : decode cX5_sleep 83 = .ok (.ireturn, 1) := by decide +kernel
set_option maxRecDepth 20000 in
theorem ggX5_phase_X4_nextPhase : GoodIn wsX5_phase wsX4_nextPhase := goodIn_r _ [7, 8, 9, 10, 11, 14, 15, 16, 17, 18, 19, 20, 21, 22, 23, 24] (by decide +kernel) (by decide +kernel)
set_option maxRecDepth 20000 in
theorem gX5_phase_X4_nextPhase : GoodIn wsX5_phase (wsV RX5 81 RX4 yX4_nextPhase wsX4_nextPhase) := goodIn_app (goodIn_of _ (by decide +kernel)) ggX5_phase_X4_nextPhase
theorem dX5_phase_0 : decode cX5_phase 0 = .ok (.aload_n 0, 1) := by decide +kernel
theorem dX5_phase_1 : decode cX5_phase 1 = .ok (.getfield 10, 3) := by decide +kernel
theorem dX5_phase_4 : decode cX5_phase 4 = .ok (.invokevirtual 81, 3) := by decide +kernel
theorem dX5_phase_7 : decode cX5_phase 7 = .ok (.aload_n 0, 1) := by decide +kernel
theorem dX5_phase_8 : decode cX5_phase 8 = .ok (.getfield 10, 3) := by decide +kernel
theorem dX5_phase_11 : decode cX5_phase 11 = .ok (.getfield 84, 3) := by decide +kernel
theorem dX5_phase_14 : decode cX5_phase 14 = .ok (.ireturn, 1) := by decide +kernel
set_option maxRecDepth 20000 in
theorem ggX5_give_X5_isLamp : GoodIn wsX5_give wsX5_isLamp := goodIn_r _ [7, 8, 9, 6, 10] (by decide +kernel) (by decide +kernel)
set_option maxRecDepth 20000 in
theorem gX5_give_X5_isLamp : GoodIn wsX5_give (va_wsS RX5 20 yX5_isLamp wsX5_isLamp) := goodIn_app (goodIn_of _ (by decide +kernel)) ggX5_give_X5_isLamp
set_option maxRecDepth 20000 in
theorem ggX5_give_X5_changed : GoodIn wsX5_give wsX5_changed := goodIn_r _ [13] (by decide +kernel) (by decide +kernel)
set_option maxRecDepth 20000 in
theorem gX5_give_X5_changed : GoodIn wsX5_give (va_wsS RX5 38 yX5_changed wsX5_changed) := goodIn_app (goodIn_of _ (by decide +kernel)) ggX5_give_X5_changed
set_option maxRecDepth 20000 in
theorem ggX5_give_J6_bitCount_0f7a4 : GoodIn wsX5_give wsJ6_bitCount_0f7a4 := goodIn_r _ [17, 18, 19, 20] (by decide +kernel) (by decide +kernel)
set_option maxRecDepth 20000 in
theorem gX5_give_J6_bitCount_0f7a4 : GoodIn wsX5_give (va_wsS RX5 42 yJ6_bitCount_0f7a4 wsJ6_bitCount_0f7a4) := goodIn_app (goodIn_of _ (by decide +kernel)) ggX5_give_J6_bitCount_0f7a4
theorem dX5_give_0 : decode cX5_give 0 = .ok (.iload_n 1, 1) := by decide +kernel
theorem dX5_give_1 : decode cX5_give 1 = .ok (.invokestatic 20, 3) := by decide +kernel
theorem dX5_give_4 : decode cX5_give 4 = .ok (.ifCond .ne 5, 3) := by decide +kernel
theorem dX5_give_7 : decode cX5_give 7 = .ok (.iconst (-1), 1) := by decide +kernel
theorem dX5_give_8 : decode cX5_give 8 = .ok (.ireturn, 1) := by decide +kernel
theorem dX5_give_9 : decode cX5_give 9 = .ok (.aload_n 0, 1) := by decide +kernel
theorem dX5_give_10 : decode cX5_give 10 = .ok (.getfield 10, 3) := by decide +kernel
theorem dX5_give_13 : decode cX5_give 13 = .ok (.getfield 84, 3) := by decide +kernel
theorem dX5_give_16 : decode cX5_give 16 = .ok (.ifCond .ne 6, 3) := by decide +kernel
theorem dX5_give_19 : decode cX5_give 19 = .ok (.bipush (-3), 2) := by decide +kernel
theorem dX5_give_21 : decode cX5_give 21 = .ok (.ireturn, 1) := by decide +kernel
theorem dX5_give_22 : decode cX5_give 22 = .ok (.aload_n 0, 1) := by decide +kernel
theorem dX5_give_23 : decode cX5_give 23 = .ok (.getfield 10, 3) := by decide +kernel
theorem dX5_give_26 : decode cX5_give 26 = .ok (.aload_n 0, 1) := by decide +kernel
theorem dX5_give_27 : decode cX5_give 27 = .ok (.getfield 10, 3) := by decide +kernel
theorem dX5_give_30 : decode cX5_give 30 = .ok (.getfield 87, 3) := by decide +kernel
theorem dX5_give_33 : decode cX5_give 33 = .ok (.iload_n 1, 1) := by decide +kernel
theorem dX5_give_34 : decode cX5_give 34 = .ok (.iconst 1, 1) := by decide +kernel
theorem dX5_give_35 : decode cX5_give 35 = .ok (.invokestatic 38, 3) := by decide +kernel
theorem dX5_give_38 : decode cX5_give 38 = .ok (.putfield 87, 3) := by decide +kernel
theorem dX5_give_41 : decode cX5_give 41 = .ok (.aload_n 0, 1) := by decide +kernel
theorem dX5_give_42 : decode cX5_give 42 = .ok (.getfield 10, 3) := by decide +kernel
theorem dX5_give_45 : decode cX5_give 45 = .ok (.getfield 87, 3) := by decide +kernel
theorem dX5_give_48 : decode cX5_give 48 = .ok (.invokestatic 42, 3) := by decide +kernel
theorem dX5_give_51 : decode cX5_give 51 = .ok (.ireturn, 1) := by decide +kernel
set_option maxRecDepth 20000 in
theorem ggX5_has_X5_isLamp : GoodIn wsX5_has wsX5_isLamp := goodIn_r _ [7, 8, 9, 6, 10] (by decide +kernel) (by decide +kernel)
set_option maxRecDepth 20000 in
theorem gX5_has_X5_isLamp : GoodIn wsX5_has (va_wsS RX5 20 yX5_isLamp wsX5_isLamp) := goodIn_app (goodIn_of _ (by decide +kernel)) ggX5_has_X5_isLamp
set_option maxRecDepth 20000 in
theorem ggX5_has_X5_isBetween : GoodIn wsX5_has wsX5_isBetween := goodIn_r _ [10] (by decide +kernel) (by decide +kernel)
set_option maxRecDepth 20000 in
theorem gX5_has_X5_isBetween : GoodIn wsX5_has (va_wsS RX5 24 yX5_isBetween wsX5_isBetween) := goodIn_app (goodIn_of _ (by decide +kernel)) ggX5_has_X5_isBetween
set_option maxRecDepth 20000 in
theorem ggX5_has_X5_isIn : GoodIn wsX5_has wsX5_isIn := goodIn_r _ [13] (by decide +kernel) (by decide +kernel)
set_option maxRecDepth 20000 in
theorem gX5_has_X5_isIn : GoodIn wsX5_has (va_wsS RX5 93 yX5_isIn wsX5_isIn) := goodIn_app (goodIn_of _ (by decide +kernel)) ggX5_has_X5_isIn
set_option maxRecDepth 20000 in
theorem ggX5_has_X5_asNumber : GoodIn wsX5_has wsX5_asNumber := goodIn_r _ [16] (by decide +kernel) (by decide +kernel)
set_option maxRecDepth 20000 in
theorem gX5_has_X5_asNumber : GoodIn wsX5_has (va_wsS RX5 97 yX5_asNumber wsX5_asNumber) := goodIn_app (goodIn_of _ (by decide +kernel)) ggX5_has_X5_asNumber
theorem dX5_has_0 : decode cX5_has 0 = .ok (.iload_n 1, 1) := by decide +kernel
theorem dX5_has_1 : decode cX5_has 1 = .ok (.invokestatic 20, 3) := by decide +kernel
theorem dX5_has_4 : decode cX5_has 4 = .ok (.ifCond .ne 5, 3) := by decide +kernel
theorem dX5_has_7 : decode cX5_has 7 = .ok (.iconst (-1), 1) := by decide +kernel
theorem dX5_has_8 : decode cX5_has 8 = .ok (.ireturn, 1) := by decide +kernel
theorem dX5_has_9 : decode cX5_has 9 = .ok (.iload_n 2, 1) := by decide +kernel
theorem dX5_has_10 : decode cX5_has 10 = .ok (.iconst 0, 1) := by decide +kernel
theorem dX5_has_11 : decode cX5_has 11 = .ok (.iconst 1, 1) := by decide +kernel
theorem dX5_has_12 : decode cX5_has 12 = .ok (.invokestatic 24, 3) := by decide +kernel
theorem dX5_has_15 : decode cX5_has 15 = .ok (.ifCond .ne 6, 3) := by decide +kernel
theorem dX5_has_18 : decode cX5_has 18 = .ok (.bipush (-2), 2) := by decide +kernel
theorem dX5_has_20 : decode cX5_has 20 = .ok (.ireturn, 1) := by decide +kernel
theorem dX5_has_21 : decode cX5_has 21 = .ok (.iload_n 2, 1) := by decide +kernel
theorem dX5_has_22 : decode cX5_has 22 = .ok (.ifCond .ne 13, 3) := by decide +kernel
theorem dX5_has_25 : decode cX5_has 25 = .ok (.aload_n 0, 1) := by decide +kernel
theorem dX5_has_26 : decode cX5_has 26 = .ok (.getfield 10, 3) := by decide +kernel
theorem dX5_has_29 : decode cX5_has 29 = .ok (.getfield 90, 3) := by decide +kernel
theorem dX5_has_32 : decode cX5_has 32 = .ok (.goto 10, 3) := by decide +kernel
theorem dX5_has_35 : decode cX5_has 35 = .ok (.aload_n 0, 1) := by decide +kernel
theorem dX5_has_36 : decode cX5_has 36 = .ok (.getfield 10, 3) := by decide +kernel
theorem dX5_has_39 : decode cX5_has 39 = .ok (.getfield 87, 3) := by decide +kernel
theorem dX5_has_42 : decode cX5_has 42 = .ok (.iload_n 1, 1) := by decide +kernel
theorem dX5_has_43 : decode cX5_has 43 = .ok (.invokestatic 93, 3) := by decide +kernel
theorem dX5_has_46 : decode cX5_has 46 = .ok (.invokestatic 97, 3) := by decide +kernel
theorem dX5_has_49 : decode cX5_has 49 = .ok (.ireturn, 1) := by decide +kernel
set_option maxRecDepth 20000 in
theorem ggX5_tell_X5_isLamp : GoodIn wsX5_tell wsX5_isLamp := goodIn_r _ [13, 14, 15, 12, 16] (by decide +kernel) (by decide +kernel)
set_option maxRecDepth 20000 in
theorem gX5_tell_X5_isLamp : GoodIn wsX5_tell (va_wsS RX5 20 yX5_isLamp wsX5_isLamp) := goodIn_app (goodIn_of _ (by decide +kernel)) ggX5_tell_X5_isLamp
set_option maxRecDepth 20000 in
theorem ggX5_tell_X5_isBetween : GoodIn wsX5_tell wsX5_isBetween := goodIn_r _ [16] (by decide +kernel) (by decide +kernel)
set_option maxRecDepth 20000 in
theorem gX5_tell_X5_isBetween : GoodIn wsX5_tell (va_wsS RX5 24 yX5_isBetween wsX5_isBetween) := goodIn_app (goodIn_of _ (by decide +kernel)) ggX5_tell_X5_isBetween
set_option maxRecDepth 20000 in
theorem ggX5_tell_X4_canTell : GoodIn wsX5_tell wsX4_canTell := goodIn_r _ [21, 22, 23, 24, 25, 20, 26, 27, 28, 29, 12, 30, 75, 76, 77, 78, 79, 80, 81, 82, 83, 84, 85] (by decide +kernel) (by decide +kernel)
set_option maxRecDepth 20000 in
theorem gX5_tell_X4_canTell : GoodIn wsX5_tell (wsV RX5 101 RX4 yX4_canTell wsX4_canTell) := goodIn_app (goodIn_of _ (by decide +kernel)) ggX5_tell_X4_canTell
set_option maxRecDepth 20000 in
theorem ggX5_tell_X0_isFull : GoodIn wsX5_tell wsX0_isFull := goodIn_r _ [35, 36, 101, 102, 103, 104, 105] (by decide +kernel) (by decide +kernel)
set_option maxRecDepth 20000 in
theorem gX5_tell_X0_isFull : GoodIn wsX5_tell (wsV RX5 108 RX0 yX0_isFull wsX0_isFull) := goodIn_app (goodIn_of _ (by decide +kernel)) ggX5_tell_X0_isFull
set_option maxRecDepth 20000 in
theorem ggX5_tell_X2_place : GoodIn wsX5_tell wsX2_place := goodIn_r _ [40] (by decide +kernel) (by decide +kernel)
set_option maxRecDepth 20000 in
theorem gX5_tell_X2_place : GoodIn wsX5_tell (va_wsS RX5 117 yX2_place wsX2_place) := goodIn_app (goodIn_of _ (by decide +kernel)) ggX5_tell_X2_place
set_option maxRecDepth 20000 in
theorem ggX5_tell_X4_keyToTell : GoodIn wsX5_tell wsX4_keyToTell := goodIn_r _ [44, 45, 23, 24, 25, 20, 26, 27, 28, 29, 12, 30, 75, 76, 77, 78, 79, 80, 81, 82, 83, 84, 85] (by decide +kernel) (by decide +kernel)
set_option maxRecDepth 20000 in
theorem gX5_tell_X4_keyToTell : GoodIn wsX5_tell (wsV RX5 127 RX4 yX4_keyToTell wsX4_keyToTell) := goodIn_app (goodIn_of _ (by decide +kernel)) ggX5_tell_X4_keyToTell
set_option maxRecDepth 20000 in
theorem ggX5_tell_X2_write : GoodIn wsX5_tell wsX2_write := goodIn_r _ [49, 50, 51, 52, 106, 107, 108] (by decide +kernel) (by decide +kernel)
set_option maxRecDepth 20000 in
theorem gX5_tell_X2_write : GoodIn wsX5_tell (wsV RX5 130 RX2 yX2_write wsX2_write) := goodIn_app (goodIn_of _ (by decide +kernel)) ggX5_tell_X2_write
set_option maxRecDepth 20000 in
theorem ggX5_tell_X3_add : GoodIn wsX5_tell wsX3_add := goodIn_r _ [57, 58, 59, 60, 61, 62, 56, 63, 109, 110] (by decide +kernel) (by decide +kernel)
set_option maxRecDepth 20000 in
theorem gX5_tell_X3_add : GoodIn wsX5_tell (wsV RX5 134 RX3 yX3_add wsX3_add) := goodIn_app (goodIn_of _ (by decide +kernel)) ggX5_tell_X3_add
set_option maxRecDepth 20000 in
theorem ggX5_tell_X0_add : GoodIn wsX5_tell wsX0_add := goodIn_r _ [67, 68, 36, 69, 70, 71, 72, 32, 33, 34, 35, 101, 102, 103, 104, 105] (by decide +kernel) (by decide +kernel)
set_option maxRecDepth 20000 in
theorem gX5_tell_X0_add : GoodIn wsX5_tell (wsV RX5 141 RX0 yX0_add wsX0_add) := goodIn_app (goodIn_of _ (by decide +kernel)) ggX5_tell_X0_add
theorem dX5_tell_0 : decode cX5_tell 0 = .ok (.iload_n 1, 1) := by decide +kernel
theorem dX5_tell_1 : decode cX5_tell 1 = .ok (.invokestatic 20, 3) := by decide +kernel
theorem dX5_tell_4 : decode cX5_tell 4 = .ok (.ifCond .ne 5, 3) := by decide +kernel
theorem dX5_tell_7 : decode cX5_tell 7 = .ok (.iconst (-1), 1) := by decide +kernel
theorem dX5_tell_8 : decode cX5_tell 8 = .ok (.ireturn, 1) := by decide +kernel
theorem dX5_tell_9 : decode cX5_tell 9 = .ok (.iload_n 2, 1) := by decide +kernel
theorem dX5_tell_10 : decode cX5_tell 10 = .ok (.iconst 0, 1) := by decide +kernel
theorem dX5_tell_11 : decode cX5_tell 11 = .ok (.bipush 13, 2) := by decide +kernel
theorem dX5_tell_13 : decode cX5_tell 13 = .ok (.invokestatic 24, 3) := by decide +kernel
theorem dX5_tell_16 : decode cX5_tell 16 = .ok (.ifCond .eq 24, 3) := by decide +kernel
theorem dX5_tell_19 : decode cX5_tell 19 = .ok (.iload_n 3, 1) := by decide +kernel
theorem dX5_tell_20 : decode cX5_tell 20 = .ok (.iconst 0, 1) := by decide +kernel
theorem dX5_tell_21 : decode cX5_tell 21 = .ok (.bipush 99, 2) := by decide +kernel
theorem dX5_tell_23 : decode cX5_tell 23 = .ok (.invokestatic 24, 3) := by decide +kernel
theorem dX5_tell_26 : decode cX5_tell 26 = .ok (.ifCond .eq 14, 3) := by decide +kernel
theorem dX5_tell_29 : decode cX5_tell 29 = .ok (.iload 4, 2) := by decide +kernel
theorem dX5_tell_31 : decode cX5_tell 31 = .ok (.iconst 1, 1) := by decide +kernel
theorem dX5_tell_32 : decode cX5_tell 32 = .ok (.bipush 7, 2) := by decide +kernel
theorem dX5_tell_34 : decode cX5_tell 34 = .ok (.invokestatic 24, 3) := by decide +kernel
theorem dX5_tell_37 : decode cX5_tell 37 = .ok (.ifCond .ne 6, 3) := by decide +kernel
theorem dX5_tell_40 : decode cX5_tell 40 = .ok (.bipush (-2), 2) := by decide +kernel
theorem dX5_tell_42 : decode cX5_tell 42 = .ok (.ireturn, 1) := by decide +kernel
theorem dX5_tell_43 : decode cX5_tell 43 = .ok (.aload_n 0, 1) := by decide +kernel
theorem dX5_tell_44 : decode cX5_tell 44 = .ok (.getfield 10, 3) := by decide +kernel
theorem dX5_tell_47 : decode cX5_tell 47 = .ok (.getfield 28, 3) := by decide +kernel
theorem dX5_tell_50 : decode cX5_tell 50 = .ok (.iload_n 1, 1) := by decide +kernel
theorem dX5_tell_51 : decode cX5_tell 51 = .ok (.aaload, 1) := by decide +kernel
theorem dX5_tell_52 : decode cX5_tell 52 = .ok (.astore 5, 2) := by decide +kernel
theorem dX5_tell_54 : decode cX5_tell 54 = .ok (.aload 5, 2) := by decide +kernel
theorem dX5_tell_56 : decode cX5_tell 56 = .ok (.getfield 68, 3) := by decide +kernel
theorem dX5_tell_59 : decode cX5_tell 59 = .ok (.ifCond .eq 6, 3) := by decide +kernel
theorem dX5_tell_62 : decode cX5_tell 62 = .ok (.bipush (-3), 2) := by decide +kernel
theorem dX5_tell_64 : decode cX5_tell 64 = .ok (.ireturn, 1) := by decide +kernel
theorem dX5_tell_65 : decode cX5_tell 65 = .ok (.aload_n 0, 1) := by decide +kernel
theorem dX5_tell_66 : decode cX5_tell 66 = .ok (.getfield 10, 3) := by decide +kernel
theorem dX5_tell_69 : decode cX5_tell 69 = .ok (.iload_n 1, 1) := by decide +kernel
theorem dX5_tell_70 : decode cX5_tell 70 = .ok (.invokevirtual 101, 3) := by decide +kernel
theorem dX5_tell_73 : decode cX5_tell 73 = .ok (.ifCond .ne 6, 3) := by decide +kernel
theorem dX5_tell_76 : decode cX5_tell 76 = .ok (.bipush (-5), 2) := by decide +kernel
theorem dX5_tell_78 : decode cX5_tell 78 = .ok (.ireturn, 1) := by decide +kernel
theorem dX5_tell_79 : decode cX5_tell 79 = .ok (.aload_n 0, 1) := by decide +kernel
theorem dX5_tell_80 : decode cX5_tell 80 = .ok (.getfield 10, 3) := by decide +kernel
theorem dX5_tell_83 : decode cX5_tell 83 = .ok (.getfield 104, 3) := by decide +kernel
theorem dX5_tell_86 : decode cX5_tell 86 = .ok (.invokevirtual 108, 3) := by decide +kernel
theorem dX5_tell_89 : decode cX5_tell 89 = .ok (.ifCond .ne 14, 3) := by decide +kernel
theorem dX5_tell_92 : decode cX5_tell 92 = .ok (.aload 5, 2) := by decide +kernel
theorem dX5_tell_94 : decode cX5_tell 94 = .ok (.getfield 114, 3) := by decide +kernel
theorem dX5_tell_97 : decode cX5_tell 97 = .ok (.sipush 200, 3) := by decide +kernel
theorem dX5_tell_100 : decode cX5_tell 100 = .ok (.if_icmp .lt 6, 3) := by decide +kernel
theorem dX5_tell_103 : decode cX5_tell 103 = .ok (.bipush (-4), 2) := by decide +kernel
theorem dX5_tell_105 : decode cX5_tell 105 = .ok (.ireturn, 1) := by decide +kernel
theorem dX5_tell_106 : decode cX5_tell 106 = .ok (.aload 5, 2) := by decide +kernel
theorem dX5_tell_108 : decode cX5_tell 108 = .ok (.dup, 1) := by decide +kernel
theorem dX5_tell_109 : decode cX5_tell 109 = .ok (.getfield 114, 3) := by decide +kernel
theorem dX5_tell_112 : decode cX5_tell 112 = .ok (.iconst 1, 1) := by decide +kernel
theorem dX5_tell_113 : decode cX5_tell 113 = .ok (.iadd, 1) := by decide +kernel
theorem dX5_tell_114 : decode cX5_tell 114 = .ok (.putfield 114, 3) := by decide +kernel
theorem dX5_tell_117 : decode cX5_tell 117 = .ok (.iload_n 1, 1) := by decide +kernel
theorem dX5_tell_118 : decode cX5_tell 118 = .ok (.aload 5, 2) := by decide +kernel
theorem dX5_tell_120 : decode cX5_tell 120 = .ok (.getfield 114, 3) := by decide +kernel
theorem dX5_tell_123 : decode cX5_tell 123 = .ok (.invokestatic 117, 3) := by decide +kernel
theorem dX5_tell_126 : decode cX5_tell 126 = .ok (.istore 6, 2) := by decide +kernel
theorem dX5_tell_128 : decode cX5_tell 128 = .ok (.aload_n 0, 1) := by decide +kernel
theorem dX5_tell_129 : decode cX5_tell 129 = .ok (.getfield 10, 3) := by decide +kernel
theorem dX5_tell_132 : decode cX5_tell 132 = .ok (.getfield 123, 3) := by decide +kernel
theorem dX5_tell_135 : decode cX5_tell 135 = .ok (.iload 6, 2) := by decide +kernel
theorem dX5_tell_137 : decode cX5_tell 137 = .ok (.aload_n 0, 1) := by decide +kernel
theorem dX5_tell_138 : decode cX5_tell 138 = .ok (.getfield 10, 3) := by decide +kernel
theorem dX5_tell_141 : decode cX5_tell 141 = .ok (.iload_n 1, 1) := by decide +kernel
theorem dX5_tell_142 : decode cX5_tell 142 = .ok (.invokevirtual 127, 3) := by decide +kernel
theorem dX5_tell_145 : decode cX5_tell 145 = .ok (.iload_n 2, 1) := by decide +kernel
theorem dX5_tell_146 : decode cX5_tell 146 = .ok (.iload_n 3, 1) := by decide +kernel
theorem dX5_tell_147 : decode cX5_tell 147 = .ok (.invokevirtual 130, 3) := by decide +kernel
theorem dX5_tell_150 : decode cX5_tell 150 = .ok (.aload 5, 2) := by decide +kernel
theorem dX5_tell_152 : decode cX5_tell 152 = .ok (.getfield 58, 3) := by decide +kernel
theorem dX5_tell_155 : decode cX5_tell 155 = .ok (.iload 6, 2) := by decide +kernel
theorem dX5_tell_157 : decode cX5_tell 157 = .ok (.aload 5, 2) := by decide +kernel
theorem dX5_tell_159 : decode cX5_tell 159 = .ok (.getfield 55, 3) := by decide +kernel
theorem dX5_tell_162 : decode cX5_tell 162 = .ok (.iconst 2, 1) := by decide +kernel
theorem dX5_tell_163 : decode cX5_tell 163 = .ok (.iaload, 1) := by decide +kernel
theorem dX5_tell_164 : decode cX5_tell 164 = .ok (.invokevirtual 134, 3) := by decide +kernel
theorem dX5_tell_167 : decode cX5_tell 167 = .ok (.aload_n 0, 1) := by decide +kernel
theorem dX5_tell_168 : decode cX5_tell 168 = .ok (.getfield 10, 3) := by decide +kernel
theorem dX5_tell_171 : decode cX5_tell 171 = .ok (.getfield 104, 3) := by decide +kernel
theorem dX5_tell_174 : decode cX5_tell 174 = .ok (.iload_n 1, 1) := by decide +kernel
theorem dX5_tell_175 : decode cX5_tell 175 = .ok (.aload_n 0, 1) := by decide +kernel
theorem dX5_tell_176 : decode cX5_tell 176 = .ok (.getfield 10, 3) := by decide +kernel
theorem dX5_tell_179 : decode cX5_tell 179 = .ok (.getfield 138, 3) := by decide +kernel
theorem dX5_tell_182 : decode cX5_tell 182 = .ok (.iconst 1, 1) := by decide +kernel
theorem dX5_tell_183 : decode cX5_tell 183 = .ok (.iadd, 1) := by decide +kernel
theorem dX5_tell_184 : decode cX5_tell 184 = .ok (.iload 6, 2) := by decide +kernel
theorem dX5_tell_186 : decode cX5_tell 186 = .ok (.iload 4, 2) := by decide +kernel
theorem dX5_tell_188 : decode cX5_tell 188 = .ok (.invokevirtual 141, 3) := by decide +kernel
theorem dX5_tell_191 : decode cX5_tell 191 = .ok (.aload 5, 2) := by decide +kernel
theorem dX5_tell_193 : decode cX5_tell 193 = .ok (.getfield 114, 3) := by decide +kernel
theorem dX5_tell_196 : decode cX5_tell 196 = .ok (.ireturn, 1) := by decide +kernel
set_option maxRecDepth 20000 in
theorem ggX5_replay_X5_isLamp : GoodIn wsX5_replay wsX5_isLamp := goodIn_r _ [10, 11, 12, 9, 13] (by decide +kernel) (by decide +kernel)
set_option maxRecDepth 20000 in
theorem gX5_replay_X5_isLamp : GoodIn wsX5_replay (va_wsS RX5 20 yX5_isLamp wsX5_isLamp) := goodIn_app (goodIn_of _ (by decide +kernel)) ggX5_replay_X5_isLamp
set_option maxRecDepth 20000 in
theorem ggX5_replay_X5_isBetween : GoodIn wsX5_replay wsX5_isBetween := goodIn_r _ [13] (by decide +kernel) (by decide +kernel)
set_option maxRecDepth 20000 in
theorem gX5_replay_X5_isBetween : GoodIn wsX5_replay (va_wsS RX5 24 yX5_isBetween wsX5_isBetween) := goodIn_app (goodIn_of _ (by decide +kernel)) ggX5_replay_X5_isBetween
set_option maxRecDepth 20000 in
theorem ggX5_replay_X0_isFull : GoodIn wsX5_replay wsX0_isFull := goodIn_r _ [18, 19, 61, 62, 63, 64, 65] (by decide +kernel) (by decide +kernel)
set_option maxRecDepth 20000 in
theorem gX5_replay_X0_isFull : GoodIn wsX5_replay (wsV RX5 108 RX0 yX0_isFull wsX0_isFull) := goodIn_app (goodIn_of _ (by decide +kernel)) ggX5_replay_X0_isFull
set_option maxRecDepth 20000 in
theorem ggX5_replay_X2_place : GoodIn wsX5_replay wsX2_place := goodIn_r _ [23] (by decide +kernel) (by decide +kernel)
set_option maxRecDepth 20000 in
theorem gX5_replay_X2_place : GoodIn wsX5_replay (va_wsS RX5 117 yX2_place wsX2_place) := goodIn_app (goodIn_of _ (by decide +kernel)) ggX5_replay_X2_place
set_option maxRecDepth 20000 in
theorem ggX5_replay_X0_add : GoodIn wsX5_replay wsX0_add := goodIn_r _ [27, 28, 19, 29, 30, 31, 32, 15, 16, 17, 18, 61, 62, 63, 64, 65] (by decide +kernel) (by decide +kernel)
set_option maxRecDepth 20000 in
theorem gX5_replay_X0_add : GoodIn wsX5_replay (wsV RX5 141 RX0 yX0_add wsX0_add) := goodIn_app (goodIn_of _ (by decide +kernel)) ggX5_replay_X0_add
theorem dX5_replay_0 : decode cX5_replay 0 = .ok (.iload_n 1, 1) := by decide +kernel
theorem dX5_replay_1 : decode cX5_replay 1 = .ok (.invokestatic 20, 3) := by decide +kernel
theorem dX5_replay_4 : decode cX5_replay 4 = .ok (.ifCond .eq 10, 3) := by decide +kernel
theorem dX5_replay_7 : decode cX5_replay 7 = .ok (.iload_n 2, 1) := by decide +kernel
theorem dX5_replay_8 : decode cX5_replay 8 = .ok (.invokestatic 20, 3) := by decide +kernel
theorem dX5_replay_11 : decode cX5_replay 11 = .ok (.ifCond .ne 5, 3) := by decide +kernel
theorem dX5_replay_14 : decode cX5_replay 14 = .ok (.iconst (-1), 1) := by decide +kernel
theorem dX5_replay_15 : decode cX5_replay 15 = .ok (.ireturn, 1) := by decide +kernel
theorem dX5_replay_16 : decode cX5_replay 16 = .ok (.iload_n 3, 1) := by decide +kernel
theorem dX5_replay_17 : decode cX5_replay 17 = .ok (.iconst 1, 1) := by decide +kernel
theorem dX5_replay_18 : decode cX5_replay 18 = .ok (.aload_n 0, 1) := by decide +kernel
theorem dX5_replay_19 : decode cX5_replay 19 = .ok (.getfield 10, 3) := by decide +kernel
theorem dX5_replay_22 : decode cX5_replay 22 = .ok (.getfield 28, 3) := by decide +kernel
theorem dX5_replay_25 : decode cX5_replay 25 = .ok (.iload_n 2, 1) := by decide +kernel
theorem dX5_replay_26 : decode cX5_replay 26 = .ok (.aaload, 1) := by decide +kernel
theorem dX5_replay_27 : decode cX5_replay 27 = .ok (.getfield 114, 3) := by decide +kernel
theorem dX5_replay_30 : decode cX5_replay 30 = .ok (.invokestatic 24, 3) := by decide +kernel
theorem dX5_replay_33 : decode cX5_replay 33 = .ok (.ifCond .ne 6, 3) := by decide +kernel
theorem dX5_replay_36 : decode cX5_replay 36 = .ok (.bipush (-2), 2) := by decide +kernel
theorem dX5_replay_38 : decode cX5_replay 38 = .ok (.ireturn, 1) := by decide +kernel
theorem dX5_replay_39 : decode cX5_replay 39 = .ok (.aload_n 0, 1) := by decide +kernel
theorem dX5_replay_40 : decode cX5_replay 40 = .ok (.getfield 10, 3) := by decide +kernel
theorem dX5_replay_43 : decode cX5_replay 43 = .ok (.getfield 104, 3) := by decide +kernel
theorem dX5_replay_46 : decode cX5_replay 46 = .ok (.invokevirtual 108, 3) := by decide +kernel
theorem dX5_replay_49 : decode cX5_replay 49 = .ok (.ifCond .eq 6, 3) := by decide +kernel
theorem dX5_replay_52 : decode cX5_replay 52 = .ok (.bipush (-4), 2) := by decide +kernel
theorem dX5_replay_54 : decode cX5_replay 54 = .ok (.ireturn, 1) := by decide +kernel
theorem dX5_replay_55 : decode cX5_replay 55 = .ok (.aload_n 0, 1) := by decide +kernel
theorem dX5_replay_56 : decode cX5_replay 56 = .ok (.getfield 10, 3) := by decide +kernel
theorem dX5_replay_59 : decode cX5_replay 59 = .ok (.getfield 104, 3) := by decide +kernel
theorem dX5_replay_62 : decode cX5_replay 62 = .ok (.bipush 10, 2) := by decide +kernel
theorem dX5_replay_64 : decode cX5_replay 64 = .ok (.iload_n 1, 1) := by decide +kernel
theorem dX5_replay_65 : decode cX5_replay 65 = .ok (.iadd, 1) := by decide +kernel
theorem dX5_replay_66 : decode cX5_replay 66 = .ok (.aload_n 0, 1) := by decide +kernel
theorem dX5_replay_67 : decode cX5_replay 67 = .ok (.getfield 10, 3) := by decide +kernel
theorem dX5_replay_70 : decode cX5_replay 70 = .ok (.getfield 138, 3) := by decide +kernel
theorem dX5_replay_73 : decode cX5_replay 73 = .ok (.iconst 1, 1) := by decide +kernel
theorem dX5_replay_74 : decode cX5_replay 74 = .ok (.iadd, 1) := by decide +kernel
theorem dX5_replay_75 : decode cX5_replay 75 = .ok (.iload_n 2, 1) := by decide +kernel
theorem dX5_replay_76 : decode cX5_replay 76 = .ok (.iload_n 3, 1) := by decide +kernel
theorem dX5_replay_77 : decode cX5_replay 77 = .ok (.invokestatic 117, 3) := by decide +kernel
theorem dX5_replay_80 : decode cX5_replay 80 = .ok (.bipush 7, 2) := by decide +kernel
theorem dX5_replay_82 : decode cX5_replay 82 = .ok (.invokevirtual 141, 3) := by decide +kernel
theorem dX5_replay_85 : decode cX5_replay 85 = .ok (.aload_n 0, 1) := by decide +kernel
theorem dX5_replay_86 : decode cX5_replay 86 = .ok (.getfield 10, 3) := by decide +kernel
theorem dX5_replay_89 : decode cX5_replay 89 = .ok (.getfield 104, 3) := by decide +kernel
theorem dX5_replay_92 : decode cX5_replay 92 = .ok (.getfield 143, 3) := by decide +kernel
theorem dX5_replay_95 : decode cX5_replay 95 = .ok (.ireturn, 1) := by decide +kernel
set_option maxRecDepth 20000 in
theorem ggX5_pass_X5_isBetween : GoodIn wsX5_pass wsX5_isBetween := goodIn_r _ [6] (by decide +kernel) (by decide +kernel)
set_option maxRecDepth 20000 in
theorem gX5_pass_X5_isBetween : GoodIn wsX5_pass (va_wsS RX5 24 yX5_isBetween wsX5_isBetween) := goodIn_app (goodIn_of _ (by decide +kernel)) ggX5_pass_X5_isBetween
set_option maxRecDepth 20000 in
theorem ggX5_pass_X4_passTick : GoodIn wsX5_pass wsX4_passTick := goodIn_r _ [11, 12, 13, 14, 15, 16, 17, 18, 10, 19, 20, 21, 22, 23, 24, 25, 26, 27, 28, 29, 30, 31, 32, 33, 34, 35, 36, 37, 38, 39, 40, 41, 42, 43, 44, 45, 46, 47, 5, 48, 49, 50, 51, 52, 53, 54, 55, 56, 57, 58, 59, 60, 61, 62, 63, 64, 65, 66, 67, 68, 69, 70, 71, 72, 73, 74, 75, 76, 77, 78, 79, 80, 81, 82, 83, 84, 85, 86, 87, 88, 89, 90, 91, 92, 93, 94, 95, 96, 97, 98, 99, 100, 101, 102, 103, 104, 105, 106, 107, 108, 109, 110, 111, 112, 113, 114, 115, 116, 117, 118, 119, 120, 121, 122, 123, 124, 127, 128, 129, 130, 131, 132, 133, 134, 135, 136, 137, 138, 139, 140, 141, 142, 143, 144, 145, 146, 147, 148, 149, 150, 151, 152, 153, 154, 155, 156, 157, 158, 159, 160, 161, 162] (by decide +kernel) (by decide +kernel)
set_option maxRecDepth 20000 in
theorem gX5_pass_X4_passTick : GoodIn wsX5_pass (wsV RX5 149 RX4 yX4_passTick wsX4_passTick) := goodIn_app (goodIn_of _ (by decide +kernel)) ggX5_pass_X4_passTick
theorem dX5_pass_0 : decode cX5_pass 0 = .ok (.iload_n 1, 1) := by decide +kernel
theorem dX5_pass_1 : decode cX5_pass 1 = .ok (.iconst 1, 1) := by decide +kernel
theorem dX5_pass_2 : decode cX5_pass 2 = .ok (.bipush 100, 2) := by decide +kernel
theorem dX5_pass_4 : decode cX5_pass 4 = .ok (.invokestatic 24, 3) := by decide +kernel
theorem dX5_pass_7 : decode cX5_pass 7 = .ok (.ifCond .ne 6, 3) := by decide +kernel
theorem dX5_pass_10 : decode cX5_pass 10 = .ok (.bipush (-2), 2) := by decide +kernel
theorem dX5_pass_12 : decode cX5_pass 12 = .ok (.ireturn, 1) := by decide +kernel
theorem dX5_pass_13 : decode cX5_pass 13 = .ok (.aload_n 0, 1) := by decide +kernel
theorem dX5_pass_14 : decode cX5_pass 14 = .ok (.getfield 10, 3) := by decide +kernel
theorem dX5_pass_17 : decode cX5_pass 17 = .ok (.getfield 146, 3) := by decide +kernel
theorem dX5_pass_20 : decode cX5_pass 20 = .ok (.istore_n 2, 1) := by decide +kernel
theorem dX5_pass_21 : decode cX5_pass 21 = .ok (.iconst 0, 1) := by decide +kernel
theorem dX5_pass_22 : decode cX5_pass 22 = .ok (.istore_n 3, 1) := by decide +kernel
theorem dX5_pass_23 : decode cX5_pass 23 = .ok (.iload_n 3, 1) := by decide +kernel
theorem dX5_pass_24 : decode cX5_pass 24 = .ok (.iload_n 1, 1) := by decide +kernel
theorem dX5_pass_25 : decode cX5_pass 25 = .ok (.if_icmp .ge 16, 3) := by decide +kernel
theorem dX5_pass_28 : decode cX5_pass 28 = .ok (.aload_n 0, 1) := by decide +kernel
theorem dX5_pass_29 : decode cX5_pass 29 = .ok (.getfield 10, 3) := by decide +kernel
theorem dX5_pass_32 : decode cX5_pass 32 = .ok (.invokevirtual 149, 3) := by decide +kernel
theorem dX5_pass_35 : decode cX5_pass 35 = .ok (.iinc 3 1, 3) := by decide +kernel
theorem dX5_pass_38 : decode cX5_pass 38 = .ok (.goto (-15), 3) := by decide +kernel
theorem dX5_pass_41 : decode cX5_pass 41 = .ok (.aload_n 0, 1) := by decide +kernel
theorem dX5_pass_42 : decode cX5_pass 42 = .ok (.getfield 10, 3) := by decide +kernel
theorem dX5_pass_45 : decode cX5_pass 45 = .ok (.getfield 146, 3) := by decide +kernel
theorem dX5_pass_48 : decode cX5_pass 48 = .ok (.iload_n 2, 1) := by decide +kernel
theorem dX5_pass_49 : decode cX5_pass 49 = .ok (.isub, 1) := by decide +kernel
theorem dX5_pass_50 : decode cX5_pass 50 = .ok (.ireturn, 1) := by decide +kernel
set_option maxRecDepth 20000 in
theorem ggX5_settle_X4_passTick : GoodIn wsX5_settle wsX4_passTick := goodIn_r _ [8, 9, 10, 11, 12, 13, 14, 15, 7, 16, 17, 18, 19, 20, 21, 22, 23, 24, 25, 26, 27, 28, 29, 30, 31, 32, 33, 34, 35, 36, 37, 38, 39, 40, 41, 42, 43, 44, 45, 46, 47, 48, 49, 50, 51, 52, 53, 54, 55, 56, 57, 58, 59, 60, 61, 62, 63, 64, 65, 66, 67, 68, 69, 70, 71, 72, 73, 74, 75, 76, 77, 78, 79, 80, 81, 82, 83, 84, 85, 86, 87, 88, 89, 90, 91, 92, 93, 94, 95, 96, 97, 98, 99, 100, 101, 102, 103, 104, 105, 106, 107, 108, 109, 110, 111, 112, 113, 114, 115, 116, 117, 118, 119, 120, 121, 122, 125, 126, 127, 128, 129, 130, 131, 132, 133, 134, 135, 136, 137, 138, 139, 140, 141, 142, 143, 144, 145, 146, 147, 148, 149, 150, 151, 152, 153, 154, 155, 156, 157, 158, 159, 160] (by decide +kernel) (by decide +kernel)
set_option maxRecDepth 20000 in
theorem gX5_settle_X4_passTick : GoodIn wsX5_settle (wsV RX5 149 RX4 yX4_passTick wsX4_passTick) := goodIn_app (goodIn_of _ (by decide +kernel)) ggX5_settle_X4_passTick
theorem dX5_settle_0 : decode cX5_settle 0 = .ok (.iconst 0, 1) := by decide +kernel
theorem dX5_settle_1 : decode cX5_settle 1 = .ok (.istore_n 1, 1) := by decide +kernel
theorem dX5_settle_2 : decode cX5_settle 2 = .ok (.iload_n 1, 1) := by decide +kernel
theorem dX5_settle_3 : decode cX5_settle 3 = .ok (.sipush 1000, 3) := by decide +kernel
theorem dX5_settle_6 : decode cX5_settle 6 = .ok (.if_icmp .ge 29, 3) := by decide +kernel
theorem dX5_settle_9 : decode cX5_settle 9 = .ok (.aload_n 0, 1) := by decide +kernel
theorem dX5_settle_10 : decode cX5_settle 10 = .ok (.getfield 10, 3) := by decide +kernel
theorem dX5_settle_13 : decode cX5_settle 13 = .ok (.getfield 104, 3) := by decide +kernel
theorem dX5_settle_16 : decode cX5_settle 16 = .ok (.getfield 143, 3) := by decide +kernel
theorem dX5_settle_19 : decode cX5_settle 19 = .ok (.ifCond .le 16, 3) := by decide +kernel
theorem dX5_settle_22 : decode cX5_settle 22 = .ok (.aload_n 0, 1) := by decide +kernel
theorem dX5_settle_23 : decode cX5_settle 23 = .ok (.getfield 10, 3) := by decide +kernel
theorem dX5_settle_26 : decode cX5_settle 26 = .ok (.invokevirtual 149, 3) := by decide +kernel
theorem dX5_settle_29 : decode cX5_settle 29 = .ok (.iinc 1 1, 3) := by decide +kernel
theorem dX5_settle_32 : decode cX5_settle 32 = .ok (.goto (-30), 3) := by decide +kernel
theorem dX5_settle_35 : decode cX5_settle 35 = .ok (.iload_n 1, 1) := by decide +kernel
theorem dX5_settle_36 : decode cX5_settle 36 = .ok (.ireturn, 1) := by decide +kernel
set_option maxRecDepth 20000 in
theorem ggX5_lamp_X5_isLamp : GoodIn wsX5_lamp wsX5_isLamp := goodIn_r _ [20, 21, 22, 19, 23] (by decide +kernel) (by decide +kernel)
set_option maxRecDepth 20000 in
theorem gX5_lamp_X5_isLamp : GoodIn wsX5_lamp (va_wsS RX5 20 yX5_isLamp wsX5_isLamp) := goodIn_app (goodIn_of _ (by decide +kernel)) ggX5_lamp_X5_isLamp
set_option maxRecDepth 20000 in
theorem ggX5_lamp_X5_asNumber : GoodIn wsX5_lamp wsX5_asNumber := goodIn_r _ [26] (by decide +kernel) (by decide +kernel)
set_option maxRecDepth 20000 in
theorem gX5_lamp_X5_asNumber : GoodIn wsX5_lamp (va_wsS RX5 97 yX5_asNumber wsX5_asNumber) := goodIn_app (goodIn_of _ (by decide +kernel)) ggX5_lamp_X5_asNumber
set_option maxRecDepth 20000 in
theorem ggX5_lamp_J6_bitCount_0f7a4 : GoodIn wsX5_lamp wsJ6_bitCount_0f7a4 := goodIn_r _ [30, 31, 32, 33] (by decide +kernel) (by decide +kernel)
set_option maxRecDepth 20000 in
theorem gX5_lamp_J6_bitCount_0f7a4 : GoodIn wsX5_lamp (va_wsS RX5 42 yJ6_bitCount_0f7a4 wsJ6_bitCount_0f7a4) := goodIn_app (goodIn_of _ (by decide +kernel)) ggX5_lamp_J6_bitCount_0f7a4
theorem dX5_lamp_0 : decode cX5_lamp 0 = .ok (.iload_n 1, 1) := by decide +kernel
theorem dX5_lamp_1 : decode cX5_lamp 1 = .ok (.invokestatic 20, 3) := by decide +kernel
theorem dX5_lamp_4 : decode cX5_lamp 4 = .ok (.ifCond .ne 5, 3) := by decide +kernel
theorem dX5_lamp_7 : decode cX5_lamp 7 = .ok (.iconst (-1), 1) := by decide +kernel
theorem dX5_lamp_8 : decode cX5_lamp 8 = .ok (.ireturn, 1) := by decide +kernel
theorem dX5_lamp_9 : decode cX5_lamp 9 = .ok (.aload_n 0, 1) := by decide +kernel
theorem dX5_lamp_10 : decode cX5_lamp 10 = .ok (.getfield 10, 3) := by decide +kernel
theorem dX5_lamp_13 : decode cX5_lamp 13 = .ok (.getfield 28, 3) := by decide +kernel
theorem dX5_lamp_16 : decode cX5_lamp 16 = .ok (.iload_n 1, 1) := by decide +kernel
theorem dX5_lamp_17 : decode cX5_lamp 17 = .ok (.aaload, 1) := by decide +kernel
theorem dX5_lamp_18 : decode cX5_lamp 18 = .ok (.astore_n 3, 1) := by decide +kernel
theorem dX5_lamp_19 : decode cX5_lamp 19 = .ok (.iload_n 2, 1) := by decide +kernel
theorem dX5_lamp_20 : decode cX5_lamp 20 = .ok (.tableswitch 145 0 12 #[68, 73, 81, 86, 91, 96, 101, 106, 111, 116, 121, 129, 137], 68) := by decide +kernel
theorem dX5_lamp_88 : decode cX5_lamp 88 = .ok (.aload_n 3, 1) := by decide +kernel
theorem dX5_lamp_89 : decode cX5_lamp 89 = .ok (.getfield 152, 3) := by decide +kernel
theorem dX5_lamp_92 : decode cX5_lamp 92 = .ok (.ireturn, 1) := by decide +kernel
theorem dX5_lamp_93 : decode cX5_lamp 93 = .ok (.aload_n 3, 1) := by decide +kernel
theorem dX5_lamp_94 : decode cX5_lamp 94 = .ok (.getfield 68, 3) := by decide +kernel
theorem dX5_lamp_97 : decode cX5_lamp 97 = .ok (.invokestatic 97, 3) := by decide +kernel
theorem dX5_lamp_100 : decode cX5_lamp 100 = .ok (.ireturn, 1) := by decide +kernel
theorem dX5_lamp_101 : decode cX5_lamp 101 = .ok (.aload_n 3, 1) := by decide +kernel
theorem dX5_lamp_102 : decode cX5_lamp 102 = .ok (.getfield 72, 3) := by decide +kernel
theorem dX5_lamp_105 : decode cX5_lamp 105 = .ok (.ireturn, 1) := by decide +kernel
theorem dX5_lamp_106 : decode cX5_lamp 106 = .ok (.aload_n 3, 1) := by decide +kernel
theorem dX5_lamp_107 : decode cX5_lamp 107 = .ok (.getfield 114, 3) := by decide +kernel
theorem dX5_lamp_110 : decode cX5_lamp 110 = .ok (.ireturn, 1) := by decide +kernel
theorem dX5_lamp_111 : decode cX5_lamp 111 = .ok (.aload_n 3, 1) := by decide +kernel
theorem dX5_lamp_112 : decode cX5_lamp 112 = .ok (.getfield 155, 3) := by decide +kernel
theorem dX5_lamp_115 : decode cX5_lamp 115 = .ok (.ireturn, 1) := by decide +kernel
theorem dX5_lamp_116 : decode cX5_lamp 116 = .ok (.aload_n 3, 1) := by decide +kernel
theorem dX5_lamp_117 : decode cX5_lamp 117 = .ok (.getfield 158, 3) := by decide +kernel
theorem dX5_lamp_120 : decode cX5_lamp 120 = .ok (.ireturn, 1) := by decide +kernel
theorem dX5_lamp_121 : decode cX5_lamp 121 = .ok (.aload_n 3, 1) := by decide +kernel
theorem dX5_lamp_122 : decode cX5_lamp 122 = .ok (.getfield 161, 3) := by decide +kernel
theorem dX5_lamp_125 : decode cX5_lamp 125 = .ok (.ireturn, 1) := by decide +kernel
theorem dX5_lamp_126 : decode cX5_lamp 126 = .ok (.aload_n 3, 1) := by decide +kernel
theorem dX5_lamp_127 : decode cX5_lamp 127 = .ok (.getfield 164, 3) := by decide +kernel
theorem dX5_lamp_130 : decode cX5_lamp 130 = .ok (.ireturn, 1) := by decide +kernel
theorem dX5_lamp_131 : decode cX5_lamp 131 = .ok (.aload_n 3, 1) := by decide +kernel
theorem dX5_lamp_132 : decode cX5_lamp 132 = .ok (.getfield 167, 3) := by decide +kernel
theorem dX5_lamp_135 : decode cX5_lamp 135 = .ok (.ireturn, 1) := by decide +kernel
theorem dX5_lamp_136 : decode cX5_lamp 136 = .ok (.aload_n 3, 1) := by decide +kernel
theorem dX5_lamp_137 : decode cX5_lamp 137 = .ok (.getfield 170, 3) := by decide +kernel
theorem dX5_lamp_140 : decode cX5_lamp 140 = .ok (.ireturn, 1) := by decide +kernel
theorem dX5_lamp_141 : decode cX5_lamp 141 = .ok (.aload_n 3, 1) := by decide +kernel
theorem dX5_lamp_142 : decode cX5_lamp 142 = .ok (.getfield 75, 3) := by decide +kernel
theorem dX5_lamp_145 : decode cX5_lamp 145 = .ok (.getfield 173, 3) := by decide +kernel
theorem dX5_lamp_148 : decode cX5_lamp 148 = .ok (.ireturn, 1) := by decide +kernel
theorem dX5_lamp_149 : decode cX5_lamp 149 = .ok (.aload_n 3, 1) := by decide +kernel
theorem dX5_lamp_150 : decode cX5_lamp 150 = .ok (.getfield 58, 3) := by decide +kernel
theorem dX5_lamp_153 : decode cX5_lamp 153 = .ok (.getfield 173, 3) := by decide +kernel
theorem dX5_lamp_156 : decode cX5_lamp 156 = .ok (.ireturn, 1) := by decide +kernel
theorem dX5_lamp_157 : decode cX5_lamp 157 = .ok (.aload_n 3, 1) := by decide +kernel
theorem dX5_lamp_158 : decode cX5_lamp 158 = .ok (.getfield 32, 3) := by decide +kernel
theorem dX5_lamp_161 : decode cX5_lamp 161 = .ok (.invokestatic 42, 3) := by decide +kernel
theorem dX5_lamp_164 : decode cX5_lamp 164 = .ok (.ireturn, 1) := by decide +kernel
theorem dX5_lamp_165 : decode cX5_lamp 165 = .ok (.bipush (-2), 2) := by decide +kernel
theorem dX5_lamp_167 : decode cX5_lamp 167 = .ok (.ireturn, 1) := by decide +kernel
set_option maxRecDepth 20000 in
theorem ggX5_taken_X5_isLamp : GoodIn wsX5_taken wsX5_isLamp := goodIn_r _ [7, 8, 9, 6, 10] (by decide +kernel) (by decide +kernel)
set_option maxRecDepth 20000 in
theorem gX5_taken_X5_isLamp : GoodIn wsX5_taken (va_wsS RX5 20 yX5_isLamp wsX5_isLamp) := goodIn_app (goodIn_of _ (by decide +kernel)) ggX5_taken_X5_isLamp
theorem dX5_taken_0 : decode cX5_taken 0 = .ok (.iload_n 1, 1) := by decide +kernel
theorem dX5_taken_1 : decode cX5_taken 1 = .ok (.invokestatic 20, 3) := by decide +kernel
theorem dX5_taken_4 : decode cX5_taken 4 = .ok (.ifCond .eq 10, 3) := by decide +kernel
theorem dX5_taken_7 : decode cX5_taken 7 = .ok (.iload_n 2, 1) := by decide +kernel
theorem dX5_taken_8 : decode cX5_taken 8 = .ok (.invokestatic 20, 3) := by decide +kernel
theorem dX5_taken_11 : decode cX5_taken 11 = .ok (.ifCond .ne 5, 3) := by decide +kernel
theorem dX5_taken_14 : decode cX5_taken 14 = .ok (.iconst (-1), 1) := by decide +kernel
theorem dX5_taken_15 : decode cX5_taken 15 = .ok (.ireturn, 1) := by decide +kernel
theorem dX5_taken_16 : decode cX5_taken 16 = .ok (.aload_n 0, 1) := by decide +kernel
theorem dX5_taken_17 : decode cX5_taken 17 = .ok (.getfield 10, 3) := by decide +kernel
theorem dX5_taken_20 : decode cX5_taken 20 = .ok (.getfield 28, 3) := by decide +kernel
theorem dX5_taken_23 : decode cX5_taken 23 = .ok (.iload_n 1, 1) := by decide +kernel
theorem dX5_taken_24 : decode cX5_taken 24 = .ok (.aaload, 1) := by decide +kernel
theorem dX5_taken_25 : decode cX5_taken 25 = .ok (.getfield 174, 3) := by decide +kernel
theorem dX5_taken_28 : decode cX5_taken 28 = .ok (.iload_n 2, 1) := by decide +kernel
theorem dX5_taken_29 : decode cX5_taken 29 = .ok (.iaload, 1) := by decide +kernel
theorem dX5_taken_30 : decode cX5_taken 30 = .ok (.ireturn, 1) := by decide +kernel
set_option maxRecDepth 20000 in
theorem ggX5_mind_X5_isLamp : GoodIn wsX5_mind wsX5_isLamp := goodIn_r _ [9, 10, 11, 8, 12] (by decide +kernel) (by decide +kernel)
set_option maxRecDepth 20000 in
theorem gX5_mind_X5_isLamp : GoodIn wsX5_mind (va_wsS RX5 20 yX5_isLamp wsX5_isLamp) := goodIn_app (goodIn_of _ (by decide +kernel)) ggX5_mind_X5_isLamp
set_option maxRecDepth 20000 in
theorem ggX5_mind_X5_isBetween : GoodIn wsX5_mind wsX5_isBetween := goodIn_r _ [12] (by decide +kernel) (by decide +kernel)
set_option maxRecDepth 20000 in
theorem gX5_mind_X5_isBetween : GoodIn wsX5_mind (va_wsS RX5 24 yX5_isBetween wsX5_isBetween) := goodIn_app (goodIn_of _ (by decide +kernel)) ggX5_mind_X5_isBetween
set_option maxRecDepth 20000 in
theorem ggX5_mind_X2_sourceOf : GoodIn wsX5_mind wsX2_sourceOf := goodIn_r _ [16] (by decide +kernel) (by decide +kernel)
set_option maxRecDepth 20000 in
theorem gX5_mind_X2_sourceOf : GoodIn wsX5_mind (va_wsS RX5 179 yX2_sourceOf wsX2_sourceOf) := goodIn_app (goodIn_of _ (by decide +kernel)) ggX5_mind_X2_sourceOf
set_option maxRecDepth 20000 in
theorem ggX5_mind_X2_numberOf : GoodIn wsX5_mind wsX2_numberOf := goodIn_r _ [19] (by decide +kernel) (by decide +kernel)
set_option maxRecDepth 20000 in
theorem gX5_mind_X2_numberOf : GoodIn wsX5_mind (va_wsS RX5 182 yX2_numberOf wsX2_numberOf) := goodIn_app (goodIn_of _ (by decide +kernel)) ggX5_mind_X2_numberOf
theorem dX5_mind_0 : decode cX5_mind 0 = .ok (.iload_n 1, 1) := by decide +kernel
theorem dX5_mind_1 : decode cX5_mind 1 = .ok (.invokestatic 20, 3) := by decide +kernel
theorem dX5_mind_4 : decode cX5_mind 4 = .ok (.ifCond .ne 5, 3) := by decide +kernel
theorem dX5_mind_7 : decode cX5_mind 7 = .ok (.iconst (-1), 1) := by decide +kernel
theorem dX5_mind_8 : decode cX5_mind 8 = .ok (.ireturn, 1) := by decide +kernel
theorem dX5_mind_9 : decode cX5_mind 9 = .ok (.iload_n 3, 1) := by decide +kernel
theorem dX5_mind_10 : decode cX5_mind 10 = .ok (.iconst 0, 1) := by decide +kernel
theorem dX5_mind_11 : decode cX5_mind 11 = .ok (.iconst 1, 1) := by decide +kernel
theorem dX5_mind_12 : decode cX5_mind 12 = .ok (.invokestatic 24, 3) := by decide +kernel
theorem dX5_mind_15 : decode cX5_mind 15 = .ok (.ifCond .ne 6, 3) := by decide +kernel
theorem dX5_mind_18 : decode cX5_mind 18 = .ok (.bipush (-2), 2) := by decide +kernel
theorem dX5_mind_20 : decode cX5_mind 20 = .ok (.ireturn, 1) := by decide +kernel
theorem dX5_mind_21 : decode cX5_mind 21 = .ok (.aload_n 0, 1) := by decide +kernel
theorem dX5_mind_22 : decode cX5_mind 22 = .ok (.getfield 10, 3) := by decide +kernel
theorem dX5_mind_25 : decode cX5_mind 25 = .ok (.getfield 28, 3) := by decide +kernel
theorem dX5_mind_28 : decode cX5_mind 28 = .ok (.iload_n 1, 1) := by decide +kernel
theorem dX5_mind_29 : decode cX5_mind 29 = .ok (.aaload, 1) := by decide +kernel
theorem dX5_mind_30 : decode cX5_mind 30 = .ok (.getfield 58, 3) := by decide +kernel
theorem dX5_mind_33 : decode cX5_mind 33 = .ok (.astore 4, 2) := by decide +kernel
theorem dX5_mind_35 : decode cX5_mind 35 = .ok (.iload_n 2, 1) := by decide +kernel
theorem dX5_mind_36 : decode cX5_mind 36 = .ok (.iconst 0, 1) := by decide +kernel
theorem dX5_mind_37 : decode cX5_mind 37 = .ok (.aload 4, 2) := by decide +kernel
theorem dX5_mind_39 : decode cX5_mind 39 = .ok (.getfield 173, 3) := by decide +kernel
theorem dX5_mind_42 : decode cX5_mind 42 = .ok (.iconst 1, 1) := by decide +kernel
theorem dX5_mind_43 : decode cX5_mind 43 = .ok (.isub, 1) := by decide +kernel
theorem dX5_mind_44 : decode cX5_mind 44 = .ok (.invokestatic 24, 3) := by decide +kernel
theorem dX5_mind_47 : decode cX5_mind 47 = .ok (.ifCond .ne 6, 3) := by decide +kernel
theorem dX5_mind_50 : decode cX5_mind 50 = .ok (.bipush (-6), 2) := by decide +kernel
theorem dX5_mind_52 : decode cX5_mind 52 = .ok (.ireturn, 1) := by decide +kernel
theorem dX5_mind_53 : decode cX5_mind 53 = .ok (.aload 4, 2) := by decide +kernel
theorem dX5_mind_55 : decode cX5_mind 55 = .ok (.getfield 177, 3) := by decide +kernel
theorem dX5_mind_58 : decode cX5_mind 58 = .ok (.iload_n 2, 1) := by decide +kernel
theorem dX5_mind_59 : decode cX5_mind 59 = .ok (.iaload, 1) := by decide +kernel
theorem dX5_mind_60 : decode cX5_mind 60 = .ok (.istore 5, 2) := by decide +kernel
theorem dX5_mind_62 : decode cX5_mind 62 = .ok (.iload_n 3, 1) := by decide +kernel
theorem dX5_mind_63 : decode cX5_mind 63 = .ok (.ifCond .ne 11, 3) := by decide +kernel
theorem dX5_mind_66 : decode cX5_mind 66 = .ok (.iload 5, 2) := by decide +kernel
theorem dX5_mind_68 : decode cX5_mind 68 = .ok (.invokestatic 179, 3) := by decide +kernel
theorem dX5_mind_71 : decode cX5_mind 71 = .ok (.goto 8, 3) := by decide +kernel
theorem dX5_mind_74 : decode cX5_mind 74 = .ok (.iload 5, 2) := by decide +kernel
theorem dX5_mind_76 : decode cX5_mind 76 = .ok (.invokestatic 182, 3) := by decide +kernel
theorem dX5_mind_79 : decode cX5_mind 79 = .ok (.ireturn, 1) := by decide +kernel
set_option maxRecDepth 20000 in
theorem ggX5_air_X5_isBetween : GoodIn wsX5_air wsX5_isBetween := goodIn_r _ [11] (by decide +kernel) (by decide +kernel)
set_option maxRecDepth 20000 in
theorem gX5_air_X5_isBetween : GoodIn wsX5_air (va_wsS RX5 24 yX5_isBetween wsX5_isBetween) := goodIn_app (goodIn_of _ (by decide +kernel)) ggX5_air_X5_isBetween
set_option maxRecDepth 20000 in
theorem ggX5_air_X2_sourceOf : GoodIn wsX5_air wsX2_sourceOf := goodIn_r _ [15] (by decide +kernel) (by decide +kernel)
set_option maxRecDepth 20000 in
theorem gX5_air_X2_sourceOf : GoodIn wsX5_air (va_wsS RX5 179 yX2_sourceOf wsX2_sourceOf) := goodIn_app (goodIn_of _ (by decide +kernel)) ggX5_air_X2_sourceOf
set_option maxRecDepth 20000 in
theorem ggX5_air_X2_numberOf : GoodIn wsX5_air wsX2_numberOf := goodIn_r _ [18] (by decide +kernel) (by decide +kernel)
set_option maxRecDepth 20000 in
theorem gX5_air_X2_numberOf : GoodIn wsX5_air (va_wsS RX5 182 yX2_numberOf wsX2_numberOf) := goodIn_app (goodIn_of _ (by decide +kernel)) ggX5_air_X2_numberOf
theorem dX5_air_0 : decode cX5_air 0 = .ok (.iload_n 2, 1) := by decide +kernel
theorem dX5_air_1 : decode cX5_air 1 = .ok (.iconst 0, 1) := by decide +kernel
theorem dX5_air_2 : decode cX5_air 2 = .ok (.iconst 4, 1) := by decide +kernel
theorem dX5_air_3 : decode cX5_air 3 = .ok (.invokestatic 24, 3) := by decide +kernel
theorem dX5_air_6 : decode cX5_air 6 = .ok (.ifCond .ne 6, 3) := by decide +kernel
theorem dX5_air_9 : decode cX5_air 9 = .ok (.bipush (-2), 2) := by decide +kernel
theorem dX5_air_11 : decode cX5_air 11 = .ok (.ireturn, 1) := by decide +kernel
theorem dX5_air_12 : decode cX5_air 12 = .ok (.aload_n 0, 1) := by decide +kernel
theorem dX5_air_13 : decode cX5_air 13 = .ok (.getfield 10, 3) := by decide +kernel
theorem dX5_air_16 : decode cX5_air 16 = .ok (.getfield 104, 3) := by decide +kernel
theorem dX5_air_19 : decode cX5_air 19 = .ok (.astore_n 3, 1) := by decide +kernel
theorem dX5_air_20 : decode cX5_air 20 = .ok (.iload_n 1, 1) := by decide +kernel
theorem dX5_air_21 : decode cX5_air 21 = .ok (.iconst 0, 1) := by decide +kernel
theorem dX5_air_22 : decode cX5_air 22 = .ok (.aload_n 3, 1) := by decide +kernel
theorem dX5_air_23 : decode cX5_air 23 = .ok (.getfield 143, 3) := by decide +kernel
theorem dX5_air_26 : decode cX5_air 26 = .ok (.iconst 1, 1) := by decide +kernel
theorem dX5_air_27 : decode cX5_air 27 = .ok (.isub, 1) := by decide +kernel
theorem dX5_air_28 : decode cX5_air 28 = .ok (.invokestatic 24, 3) := by decide +kernel
theorem dX5_air_31 : decode cX5_air 31 = .ok (.ifCond .ne 6, 3) := by decide +kernel
theorem dX5_air_34 : decode cX5_air 34 = .ok (.bipush (-6), 2) := by decide +kernel
theorem dX5_air_36 : decode cX5_air 36 = .ok (.ireturn, 1) := by decide +kernel
theorem dX5_air_37 : decode cX5_air 37 = .ok (.iload_n 2, 1) := by decide +kernel
theorem dX5_air_38 : decode cX5_air 38 = .ok (.tableswitch 64 0 3 #[30, 37, 44, 54], 30) := by decide +kernel
theorem dX5_air_68 : decode cX5_air 68 = .ok (.aload_n 3, 1) := by decide +kernel
theorem dX5_air_69 : decode cX5_air 69 = .ok (.getfield 185, 3) := by decide +kernel
theorem dX5_air_72 : decode cX5_air 72 = .ok (.iload_n 1, 1) := by decide +kernel
theorem dX5_air_73 : decode cX5_air 73 = .ok (.iaload, 1) := by decide +kernel
theorem dX5_air_74 : decode cX5_air 74 = .ok (.ireturn, 1) := by decide +kernel
theorem dX5_air_75 : decode cX5_air 75 = .ok (.aload_n 3, 1) := by decide +kernel
theorem dX5_air_76 : decode cX5_air 76 = .ok (.getfield 188, 3) := by decide +kernel
theorem dX5_air_79 : decode cX5_air 79 = .ok (.iload_n 1, 1) := by decide +kernel
theorem dX5_air_80 : decode cX5_air 80 = .ok (.iaload, 1) := by decide +kernel
theorem dX5_air_81 : decode cX5_air 81 = .ok (.ireturn, 1) := by decide +kernel
theorem dX5_air_82 : decode cX5_air 82 = .ok (.aload_n 3, 1) := by decide +kernel
theorem dX5_air_83 : decode cX5_air 83 = .ok (.getfield 190, 3) := by decide +kernel
theorem dX5_air_86 : decode cX5_air 86 = .ok (.iload_n 1, 1) := by decide +kernel
theorem dX5_air_87 : decode cX5_air 87 = .ok (.iaload, 1) := by decide +kernel
theorem dX5_air_88 : decode cX5_air 88 = .ok (.invokestatic 179, 3) := by decide +kernel
theorem dX5_air_91 : decode cX5_air 91 = .ok (.ireturn, 1) := by decide +kernel
theorem dX5_air_92 : decode cX5_air 92 = .ok (.aload_n 3, 1) := by decide +kernel
theorem dX5_air_93 : decode cX5_air 93 = .ok (.getfield 190, 3) := by decide +kernel
theorem dX5_air_96 : decode cX5_air 96 = .ok (.iload_n 1, 1) := by decide +kernel
theorem dX5_air_97 : decode cX5_air 97 = .ok (.iaload, 1) := by decide +kernel
theorem dX5_air_98 : decode cX5_air 98 = .ok (.invokestatic 182, 3) := by decide +kernel
theorem dX5_air_101 : decode cX5_air 101 = .ok (.ireturn, 1) := by decide +kernel
theorem dX5_air_102 : decode cX5_air 102 = .ok (.aload_n 3, 1) := by decide +kernel
theorem dX5_air_103 : decode cX5_air 103 = .ok (.getfield 193, 3) := by decide +kernel
theorem dX5_air_106 : decode cX5_air 106 = .ok (.iload_n 1, 1) := by decide +kernel
theorem dX5_air_107 : decode cX5_air 107 = .ok (.iaload, 1) := by decide +kernel
theorem dX5_air_108 : decode cX5_air 108 = .ok (.ireturn, 1) := by decide +kernel
set_option maxRecDepth 20000 in
theorem ggX5_image_X5_isBetween : GoodIn wsX5_image wsX5_isBetween := goodIn_r _ [9] (by decide +kernel) (by decide +kernel)
set_option maxRecDepth 20000 in
theorem gX5_image_X5_isBetween : GoodIn wsX5_image (va_wsS RX5 24 yX5_isBetween wsX5_isBetween) := goodIn_app (goodIn_of _ (by decide +kernel)) ggX5_image_X5_isBetween
set_option maxRecDepth 20000 in
theorem ggX5_image_X4_init : GoodIn wsX5_image wsX4_init := goodIn_r _ [12, 13, 14, 15, 16, 17, 18, 19, 20, 21, 22, 23, 24, 25, 26, 27, 28, 29, 30, 31, 32, 33, 34, 35, 36, 37, 38, 39, 40, 41, 42, 43, 44, 45, 46, 47, 48, 49, 50, 51, 52, 53, 54, 55, 56, 57, 58, 59, 60, 61, 62, 63, 64, 65, 66, 67, 68, 69, 70, 71, 72, 73, 74, 75, 76, 77, 78, 79, 80, 81, 82, 83, 84, 85, 86, 87, 120, 121, 122, 123, 124, 125, 126, 127, 128, 129, 130, 131, 132, 133, 134, 135, 136, 137, 138, 139, 140, 141, 142, 143, 144, 145, 146, 147, 148, 149, 150, 151, 152, 153, 154, 155] (by decide +kernel) (by decide +kernel)
set_option maxRecDepth 20000 in
theorem gX5_image_X4_init : GoodIn wsX5_image (wsX4_init) := ggX5_image_X4_init
set_option maxRecDepth 20000 in
theorem ggX5_image_X4_become : GoodIn wsX5_image wsX4_become := goodIn_r _ [91, 17, 21, 25, 26, 27, 28, 29, 30, 31, 32, 33, 92, 93, 94, 35, 95, 60, 96, 97, 98, 99, 61, 65, 66, 67, 68, 69, 70, 71, 72, 73, 74, 75, 76, 77, 100, 101, 102, 64, 103, 82, 87, 104, 105, 85, 106, 107, 108, 109, 110, 20, 111, 40, 112, 41, 42, 113, 114, 115, 24, 116, 50, 46, 117, 47, 48, 49, 120, 121, 122, 123, 124, 125, 126, 127, 128, 129, 130, 139, 140, 141, 142, 143, 144, 145, 146, 147, 148, 149, 150, 151, 152, 153, 154, 155, 131, 132, 133, 134, 135, 136, 137, 138] (by decide +kernel) (by decide +kernel)
set_option maxRecDepth 20000 in
theorem gX5_image_X4_become : GoodIn wsX5_image (wsV RX5 196 RX4 yX4_become wsX4_become) := goodIn_app (goodIn_of _ (by decide +kernel)) ggX5_image_X4_become
theorem dX5_image_0 : decode cX5_image 0 = .ok (.iload_n 1, 1) := by decide +kernel
theorem dX5_image_1 : decode cX5_image 1 = .ok (.iconst 0, 1) := by decide +kernel
theorem dX5_image_2 : decode cX5_image 2 = .ok (.iconst 1, 1) := by decide +kernel
theorem dX5_image_3 : decode cX5_image 3 = .ok (.invokestatic 24, 3) := by decide +kernel
theorem dX5_image_6 : decode cX5_image 6 = .ok (.ifCond .ne 6, 3) := by decide +kernel
theorem dX5_image_9 : decode cX5_image 9 = .ok (.bipush (-2), 2) := by decide +kernel
theorem dX5_image_11 : decode cX5_image 11 = .ok (.ireturn, 1) := by decide +kernel
theorem dX5_image_12 : decode cX5_image 12 = .ok (.aload_n 0, 1) := by decide +kernel
theorem dX5_image_13 : decode cX5_image 13 = .ok (.getfield 16, 3) := by decide +kernel
theorem dX5_image_16 : decode cX5_image 16 = .ok (.iload_n 1, 1) := by decide +kernel
theorem dX5_image_17 : decode cX5_image 17 = .ok (.aaload, 1) := by decide +kernel
theorem dX5_image_18 : decode cX5_image 18 = .ok (.astore_n 2, 1) := by decide +kernel
theorem dX5_image_19 : decode cX5_image 19 = .ok (.aload_n 2, 1) := by decide +kernel
theorem dX5_image_20 : decode cX5_image 20 = .ok (.ifnonnull 18, 3) := by decide +kernel
theorem dX5_image_23 : decode cX5_image 23 = .ok (.new 7, 3) := by decide +kernel
theorem dX5_image_26 : decode cX5_image 26 = .ok (.dup, 1) := by decide +kernel
theorem dX5_image_27 : decode cX5_image 27 = .ok (.invokespecial 9, 3) := by decide +kernel
theorem dX5_image_30 : decode cX5_image 30 = .ok (.astore_n 2, 1) := by decide +kernel
theorem dX5_image_31 : decode cX5_image 31 = .ok (.aload_n 0, 1) := by decide +kernel
theorem dX5_image_32 : decode cX5_image 32 = .ok (.getfield 16, 3) := by decide +kernel
theorem dX5_image_35 : decode cX5_image 35 = .ok (.iload_n 1, 1) := by decide +kernel
theorem dX5_image_36 : decode cX5_image 36 = .ok (.aload_n 2, 1) := by decide +kernel
theorem dX5_image_37 : decode cX5_image 37 = .ok (.aastore, 1) := by decide +kernel
theorem dX5_image_38 : decode cX5_image 38 = .ok (.aload_n 2, 1) := by decide +kernel
theorem dX5_image_39 : decode cX5_image 39 = .ok (.aload_n 0, 1) := by decide +kernel
theorem dX5_image_40 : decode cX5_image 40 = .ok (.getfield 10, 3) := by decide +kernel
theorem dX5_image_43 : decode cX5_image 43 = .ok (.invokevirtual 196, 3) := by decide +kernel
theorem dX5_image_46 : decode cX5_image 46 = .ok (.iconst 1, 1) := by decide +kernel
theorem dX5_image_47 : decode cX5_image 47 = .ok (.ireturn, 1) := by decide +kernel
set_option maxRecDepth 20000 in
theorem ggX5_restore_X5_isBetween : GoodIn wsX5_restore wsX5_isBetween := goodIn_r _ [6] (by decide +kernel) (by decide +kernel)
set_option maxRecDepth 20000 in
theorem gX5_restore_X5_isBetween : GoodIn wsX5_restore (va_wsS RX5 24 yX5_isBetween wsX5_isBetween) := goodIn_app (goodIn_of _ (by decide +kernel)) ggX5_restore_X5_isBetween
set_option maxRecDepth 20000 in
theorem ggX5_restore_X4_become : GoodIn wsX5_restore wsX4_become := goodIn_r _ [11, 12, 13, 14, 15, 16, 17, 18, 19, 20, 21, 22, 23, 24, 25, 26, 27, 28, 29, 30, 31, 32, 33, 34, 35, 36, 37, 38, 39, 40, 41, 42, 43, 44, 45, 46, 47, 48, 49, 50, 51, 52, 53, 54, 55, 56, 57, 58, 59, 60, 61, 62, 63, 64, 65, 66, 67, 68, 69, 70, 71, 72, 73, 74, 75, 76, 77, 78, 81, 82, 83, 84, 85, 86, 87, 88, 89, 90, 91, 92, 93, 94, 95, 96, 97, 98, 99, 100, 101, 102, 103, 104, 105, 106, 107, 108, 109, 110, 111, 112, 113, 114, 115, 116] (by decide +kernel) (by decide +kernel)
set_option maxRecDepth 20000 in
theorem gX5_restore_X4_become : GoodIn wsX5_restore (wsV RX5 196 RX4 yX4_become wsX4_become) := goodIn_app (goodIn_of _ (by decide +kernel)) ggX5_restore_X4_become
theorem dX5_restore_0 : decode cX5_restore 0 = .ok (.iload_n 1, 1) := by decide +kernel
theorem dX5_restore_1 : decode cX5_restore 1 = .ok (.iconst 0, 1) := by decide +kernel
theorem dX5_restore_2 : decode cX5_restore 2 = .ok (.iconst 1, 1) := by decide +kernel
theorem dX5_restore_3 : decode cX5_restore 3 = .ok (.invokestatic 24, 3) := by decide +kernel
theorem dX5_restore_6 : decode cX5_restore 6 = .ok (.ifCond .ne 6, 3) := by decide +kernel
theorem dX5_restore_9 : decode cX5_restore 9 = .ok (.bipush (-2), 2) := by decide +kernel
theorem dX5_restore_11 : decode cX5_restore 11 = .ok (.ireturn, 1) := by decide +kernel
theorem dX5_restore_12 : decode cX5_restore 12 = .ok (.aload_n 0, 1) := by decide +kernel
theorem dX5_restore_13 : decode cX5_restore 13 = .ok (.getfield 16, 3) := by decide +kernel
theorem dX5_restore_16 : decode cX5_restore 16 = .ok (.iload_n 1, 1) := by decide +kernel
theorem dX5_restore_17 : decode cX5_restore 17 = .ok (.aaload, 1) := by decide +kernel
theorem dX5_restore_18 : decode cX5_restore 18 = .ok (.astore_n 2, 1) := by decide +kernel
theorem dX5_restore_19 : decode cX5_restore 19 = .ok (.aload_n 2, 1) := by decide +kernel
theorem dX5_restore_20 : decode cX5_restore 20 = .ok (.ifnonnull 6, 3) := by decide +kernel
theorem dX5_restore_23 : decode cX5_restore 23 = .ok (.bipush (-3), 2) := by decide +kernel
theorem dX5_restore_25 : decode cX5_restore 25 = .ok (.ireturn, 1) := by decide +kernel
theorem dX5_restore_26 : decode cX5_restore 26 = .ok (.aload_n 0, 1) := by decide +kernel
theorem dX5_restore_27 : decode cX5_restore 27 = .ok (.getfield 10, 3) := by decide +kernel
theorem dX5_restore_30 : decode cX5_restore 30 = .ok (.aload_n 2, 1) := by decide +kernel
theorem dX5_restore_31 : decode cX5_restore 31 = .ok (.invokevirtual 196, 3) := by decide +kernel
theorem dX5_restore_34 : decode cX5_restore 34 = .ok (.iconst 1, 1) := by decide +kernel
theorem dX5_restore_35 : decode cX5_restore 35 = .ok (.ireturn, 1) := by decide +kernel
set_option maxRecDepth 20000 in
theorem ggX5_count_X4_sleepers : GoodIn wsX5_count wsX4_sleepers := goodIn_r _ [14, 15, 16, 17, 18, 19, 35, 36, 37, 38, 39, 40, 41, 42, 43, 44, 45, 51, 52, 53, 54, 55, 56, 57, 58, 59, 60, 61, 62, 63, 64, 65] (by decide +kernel) (by decide +kernel)
set_option maxRecDepth 20000 in
theorem gX5_count_X4_sleepers : GoodIn wsX5_count (wsV RX5 203 RX4 yX4_sleepers wsX4_sleepers) := goodIn_app (goodIn_of _ (by decide +kernel)) ggX5_count_X4_sleepers
set_option maxRecDepth 20000 in
theorem ggX5_count_X4_allLights : GoodIn wsX5_count wsX4_allLights := goodIn_r _ [23, 15, 24, 35, 36, 37, 38, 39, 40, 41, 42, 43, 44, 45, 51, 52, 53, 54, 55, 56, 57, 58, 59, 60, 61, 62, 63, 64, 65] (by decide +kernel) (by decide +kernel)
set_option maxRecDepth 20000 in
theorem gX5_count_X4_allLights : GoodIn wsX5_count (wsV RX5 207 RX4 yX4_allLights wsX4_allLights) := goodIn_app (goodIn_of _ (by decide +kernel)) ggX5_count_X4_allLights
set_option maxRecDepth 20000 in
theorem ggX5_count_X5_keptImages : GoodIn wsX5_count wsX5_keptImages := goodIn_r _ [28, 29, 30, 31, 18, 32, 33, 34] (by decide +kernel) (by decide +kernel)
set_option maxRecDepth 20000 in
theorem gX5_count_X5_keptImages : GoodIn wsX5_count (wsV RX5 216 RX5 yX5_keptImages wsX5_keptImages) := goodIn_app (goodIn_of _ (by decide +kernel)) ggX5_count_X5_keptImages
theorem dX5_count_0 : decode cX5_count 0 = .ok (.iload_n 1, 1) := by decide +kernel
theorem dX5_count_1 : decode cX5_count 1 = .ok (.tableswitch 135 0 9 #[55, 63, 71, 79, 90, 98, 106, 114, 122, 130], 55) := by decide +kernel
theorem dX5_count_56 : decode cX5_count 56 = .ok (.aload_n 0, 1) := by decide +kernel
theorem dX5_count_57 : decode cX5_count 57 = .ok (.getfield 10, 3) := by decide +kernel
theorem dX5_count_60 : decode cX5_count 60 = .ok (.getfield 138, 3) := by decide +kernel
theorem dX5_count_63 : decode cX5_count 63 = .ok (.ireturn, 1) := by decide +kernel
theorem dX5_count_64 : decode cX5_count 64 = .ok (.aload_n 0, 1) := by decide +kernel
theorem dX5_count_65 : decode cX5_count 65 = .ok (.getfield 10, 3) := by decide +kernel
theorem dX5_count_68 : decode cX5_count 68 = .ok (.getfield 200, 3) := by decide +kernel
theorem dX5_count_71 : decode cX5_count 71 = .ok (.ireturn, 1) := by decide +kernel
theorem dX5_count_72 : decode cX5_count 72 = .ok (.aload_n 0, 1) := by decide +kernel
theorem dX5_count_73 : decode cX5_count 73 = .ok (.getfield 10, 3) := by decide +kernel
theorem dX5_count_76 : decode cX5_count 76 = .ok (.getfield 84, 3) := by decide +kernel
theorem dX5_count_79 : decode cX5_count 79 = .ok (.ireturn, 1) := by decide +kernel
theorem dX5_count_80 : decode cX5_count 80 = .ok (.aload_n 0, 1) := by decide +kernel
theorem dX5_count_81 : decode cX5_count 81 = .ok (.getfield 10, 3) := by decide +kernel
theorem dX5_count_84 : decode cX5_count 84 = .ok (.getfield 104, 3) := by decide +kernel
theorem dX5_count_87 : decode cX5_count 87 = .ok (.getfield 143, 3) := by decide +kernel
theorem dX5_count_90 : decode cX5_count 90 = .ok (.ireturn, 1) := by decide +kernel
theorem dX5_count_91 : decode cX5_count 91 = .ok (.aload_n 0, 1) := by decide +kernel
theorem dX5_count_92 : decode cX5_count 92 = .ok (.getfield 10, 3) := by decide +kernel
theorem dX5_count_95 : decode cX5_count 95 = .ok (.invokevirtual 203, 3) := by decide +kernel
theorem dX5_count_98 : decode cX5_count 98 = .ok (.ireturn, 1) := by decide +kernel
theorem dX5_count_99 : decode cX5_count 99 = .ok (.aload_n 0, 1) := by decide +kernel
theorem dX5_count_100 : decode cX5_count 100 = .ok (.getfield 10, 3) := by decide +kernel
theorem dX5_count_103 : decode cX5_count 103 = .ok (.invokevirtual 207, 3) := by decide +kernel
theorem dX5_count_106 : decode cX5_count 106 = .ok (.ireturn, 1) := by decide +kernel
theorem dX5_count_107 : decode cX5_count 107 = .ok (.aload_n 0, 1) := by decide +kernel
theorem dX5_count_108 : decode cX5_count 108 = .ok (.getfield 10, 3) := by decide +kernel
theorem dX5_count_111 : decode cX5_count 111 = .ok (.getfield 146, 3) := by decide +kernel
theorem dX5_count_114 : decode cX5_count 114 = .ok (.ireturn, 1) := by decide +kernel
theorem dX5_count_115 : decode cX5_count 115 = .ok (.aload_n 0, 1) := by decide +kernel
theorem dX5_count_116 : decode cX5_count 116 = .ok (.getfield 10, 3) := by decide +kernel
theorem dX5_count_119 : decode cX5_count 119 = .ok (.getfield 210, 3) := by decide +kernel
theorem dX5_count_122 : decode cX5_count 122 = .ok (.ireturn, 1) := by decide +kernel
theorem dX5_count_123 : decode cX5_count 123 = .ok (.aload_n 0, 1) := by decide +kernel
theorem dX5_count_124 : decode cX5_count 124 = .ok (.getfield 10, 3) := by decide +kernel
theorem dX5_count_127 : decode cX5_count 127 = .ok (.getfield 213, 3) := by decide +kernel
theorem dX5_count_130 : decode cX5_count 130 = .ok (.ireturn, 1) := by decide +kernel
theorem dX5_count_131 : decode cX5_count 131 = .ok (.aload_n 0, 1) := by decide +kernel
theorem dX5_count_132 : decode cX5_count 132 = .ok (.invokevirtual 216, 3) := by decide +kernel
theorem dX5_count_135 : decode cX5_count 135 = .ok (.ireturn, 1) := by decide +kernel
theorem dX5_count_136 : decode cX5_count 136 = .ok (.bipush (-2), 2) := by decide +kernel
theorem dX5_count_138 : decode cX5_count 138 = .ok (.ireturn, 1) := by decide +kernel
set_option maxRecDepth 20000 in
theorem ggX5_keptImages_X5_changed : GoodIn wsX5_keptImages wsX5_changed := goodIn_r _ [5] (by decide +kernel) (by decide +kernel)
set_option maxRecDepth 20000 in
theorem gX5_keptImages_X5_changed : GoodIn wsX5_keptImages (va_wsS RX5 38 yX5_changed wsX5_changed) := goodIn_app (goodIn_of _ (by decide +kernel)) ggX5_keptImages_X5_changed
theorem dX5_keptImages_0 : decode cX5_keptImages 0 = .ok (.iconst 0, 1) := by decide +kernel
theorem dX5_keptImages_1 : decode cX5_keptImages 1 = .ok (.istore_n 1, 1) := by decide +kernel
theorem dX5_keptImages_2 : decode cX5_keptImages 2 = .ok (.iconst 0, 1) := by decide +kernel
theorem dX5_keptImages_3 : decode cX5_keptImages 3 = .ok (.istore_n 2, 1) := by decide +kernel
theorem dX5_keptImages_4 : decode cX5_keptImages 4 = .ok (.iload_n 2, 1) := by decide +kernel
theorem dX5_keptImages_5 : decode cX5_keptImages 5 = .ok (.iconst 2, 1) := by decide +kernel
theorem dX5_keptImages_6 : decode cX5_keptImages 6 = .ok (.if_icmp .ge 29, 3) := by decide +kernel
theorem dX5_keptImages_9 : decode cX5_keptImages 9 = .ok (.iload_n 1, 1) := by decide +kernel
theorem dX5_keptImages_10 : decode cX5_keptImages 10 = .ok (.iload_n 2, 1) := by decide +kernel
theorem dX5_keptImages_11 : decode cX5_keptImages 11 = .ok (.aload_n 0, 1) := by decide +kernel
theorem dX5_keptImages_12 : decode cX5_keptImages 12 = .ok (.getfield 16, 3) := by decide +kernel
theorem dX5_keptImages_15 : decode cX5_keptImages 15 = .ok (.iload_n 2, 1) := by decide +kernel
theorem dX5_keptImages_16 : decode cX5_keptImages 16 = .ok (.aaload, 1) := by decide +kernel
theorem dX5_keptImages_17 : decode cX5_keptImages 17 = .ok (.ifnull 7, 3) := by decide +kernel
theorem dX5_keptImages_20 : decode cX5_keptImages 20 = .ok (.iconst 1, 1) := by decide +kernel
theorem dX5_keptImages_21 : decode cX5_keptImages 21 = .ok (.goto 4, 3) := by decide +kernel
theorem dX5_keptImages_24 : decode cX5_keptImages 24 = .ok (.iconst 0, 1) := by decide +kernel
theorem dX5_keptImages_25 : decode cX5_keptImages 25 = .ok (.invokestatic 38, 3) := by decide +kernel
theorem dX5_keptImages_28 : decode cX5_keptImages 28 = .ok (.istore_n 1, 1) := by decide +kernel
theorem dX5_keptImages_29 : decode cX5_keptImages 29 = .ok (.iinc 2 1, 3) := by decide +kernel
theorem dX5_keptImages_32 : decode cX5_keptImages 32 = .ok (.goto (-28), 3) := by decide +kernel
theorem dX5_keptImages_35 : decode cX5_keptImages 35 = .ok (.iload_n 1, 1) := by decide +kernel
theorem dX5_keptImages_36 : decode cX5_keptImages 36 = .ok (.ireturn, 1) := by decide +kernel
set_option maxRecDepth 20000 in
theorem ggX5_isLamp_X5_isBetween : GoodIn wsX5_isLamp wsX5_isBetween := goodIn_r _ [4] (by decide +kernel) (by decide +kernel)
set_option maxRecDepth 20000 in
theorem gX5_isLamp_X5_isBetween : GoodIn wsX5_isLamp (va_wsS RX5 24 yX5_isBetween wsX5_isBetween) := goodIn_app (goodIn_of _ (by decide +kernel)) ggX5_isLamp_X5_isBetween
theorem dX5_isLamp_0 : decode cX5_isLamp 0 = .ok (.iload_n 0, 1) := by decide +kernel
theorem dX5_isLamp_1 : decode cX5_isLamp 1 = .ok (.iconst 0, 1) := by decide +kernel
theorem dX5_isLamp_2 : decode cX5_isLamp 2 = .ok (.bipush 9, 2) := by decide +kernel
theorem dX5_isLamp_4 : decode cX5_isLamp 4 = .ok (.invokestatic 24, 3) := by decide +kernel
theorem dX5_isLamp_7 : decode cX5_isLamp 7 = .ok (.ireturn, 1) := by decide +kernel
theorem dX5_isBetween_0 : decode cX5_isBetween 0 = .ok (.iload_n 0, 1) := by decide +kernel
theorem dX5_isBetween_1 : decode cX5_isBetween 1 = .ok (.iload_n 1, 1) := by decide +kernel
theorem dX5_isBetween_2 : decode cX5_isBetween 2 = .ok (.if_icmp .lt 12, 3) := by decide +kernel
theorem dX5_isBetween_5 : decode cX5_isBetween 5 = .ok (.iload_n 0, 1) := by decide +kernel
theorem dX5_isBetween_6 : decode cX5_isBetween 6 = .ok (.iload_n 2, 1) := by decide +kernel
theorem dX5_isBetween_7 : decode cX5_isBetween 7 = .ok (.if_icmp .gt 7, 3) := by decide +kernel
theorem dX5_isBetween_10 : decode cX5_isBetween 10 = .ok (.iconst 1, 1) := by decide +kernel
theorem dX5_isBetween_11 : decode cX5_isBetween 11 = .ok (.goto 4, 3) := by decide +kernel
theorem dX5_isBetween_14 : decode cX5_isBetween 14 = .ok (.iconst 0, 1) := by decide +kernel
theorem dX5_isBetween_15 : decode cX5_isBetween 15 = .ok (.ireturn, 1) := by decide +kernel
theorem dX5_isIn_0 : decode cX5_isIn 0 = .ok (.iload_n 0, 1) := by decide +kernel
theorem dX5_isIn_1 : decode cX5_isIn 1 = .ok (.iload_n 1, 1) := by decide +kernel
theorem dX5_isIn_2 : decode cX5_isIn 2 = .ok (.ishr, 1) := by decide +kernel
theorem dX5_isIn_3 : decode cX5_isIn 3 = .ok (.iconst 1, 1) := by decide +kernel
theorem dX5_isIn_4 : decode cX5_isIn 4 = .ok (.iand, 1) := by decide +kernel
theorem dX5_isIn_5 : decode cX5_isIn 5 = .ok (.iconst 1, 1) := by decide +kernel
theorem dX5_isIn_6 : decode cX5_isIn 6 = .ok (.if_icmp .ne 7, 3) := by decide +kernel
theorem dX5_isIn_9 : decode cX5_isIn 9 = .ok (.iconst 1, 1) := by decide +kernel
theorem dX5_isIn_10 : decode cX5_isIn 10 = .ok (.goto 4, 3) := by decide +kernel
theorem dX5_isIn_13 : decode cX5_isIn 13 = .ok (.iconst 0, 1) := by decide +kernel
theorem dX5_isIn_14 : decode cX5_isIn 14 = .ok (.ireturn, 1) := by decide +kernel
theorem dX5_changed_0 : decode cX5_changed 0 = .ok (.iload_n 2, 1) := by decide +kernel
theorem dX5_changed_1 : decode cX5_changed 1 = .ok (.ifCond .eq 11, 3) := by decide +kernel
theorem dX5_changed_4 : decode cX5_changed 4 = .ok (.iload_n 0, 1) := by decide +kernel
theorem dX5_changed_5 : decode cX5_changed 5 = .ok (.iconst 1, 1) := by decide +kernel
theorem dX5_changed_6 : decode cX5_changed 6 = .ok (.iload_n 1, 1) := by decide +kernel
theorem dX5_changed_7 : decode cX5_changed 7 = .ok (.ishl, 1) := by decide +kernel
theorem dX5_changed_8 : decode cX5_changed 8 = .ok (.ior, 1) := by decide +kernel
theorem dX5_changed_9 : decode cX5_changed 9 = .ok (.goto 10, 3) := by decide +kernel
theorem dX5_changed_12 : decode cX5_changed 12 = .ok (.iload_n 0, 1) := by decide +kernel
theorem dX5_changed_13 : decode cX5_changed 13 = .ok (.iconst 1, 1) := by decide +kernel
theorem dX5_changed_14 : decode cX5_changed 14 = .ok (.iload_n 1, 1) := by decide +kernel
theorem dX5_changed_15 : decode cX5_changed 15 = .ok (.ishl, 1) := by decide +kernel
theorem dX5_changed_16 : decode cX5_changed 16 = .ok (.iconst (-1), 1) := by decide +kernel
theorem dX5_changed_17 : decode cX5_changed 17 = .ok (.ixor, 1) := by decide +kernel
theorem dX5_changed_18 : decode cX5_changed 18 = .ok (.iand, 1) := by decide +kernel
theorem dX5_changed_19 : decode cX5_changed 19 = .ok (.ireturn, 1) := by decide +kernel
theorem dX5_asNumber_0 : decode cX5_asNumber 0 = .ok (.iload_n 0, 1) := by decide +kernel
end
section
theorem dX5_asNumber_1 : decode cX5_asNumber 1 = .ok (.ifCond .eq 7, 3) := by decide +kernel
theorem dX5_asNumber_4 : decode cX5_asNumber 4 = .ok (.iconst 1, 1) := by decide +kernel
theorem dX5_asNumber_5 : decode cX5_asNumber 5 = .ok (.goto 4, 3) := by decide +kernel
theorem dX5_asNumber_8 : decode cX5_asNumber 8 = .ok (.iconst 0, 1) := by decide +kernel
theorem dX5_asNumber_9 : decode cX5_asNumber 9 = .ok (.ireturn, 1) := by decide +kernel
theorem dX6_init_0 : decode cX6_init 0 = .ok (.aload_n 0, 1) := by decide +kernel
theorem dX6_init_1 : decode cX6_init 1 = .ok (.invokespecial 1, 3) := by decide +kernel
theorem dX6_init_4 : decode cX6_init 4 = .ok (.aload_n 0, 1) := by decide +kernel
theorem dX6_init_5 : decode cX6_init 5 = .ok (.sipush 6819, 3) := by decide +kernel
theorem dX6_init_8 : decode cX6_init 8 = .ok (.newarray .int, 2) := by decide +kernel
theorem dX6_init_10 : decode cX6_init 10 = .ok (.putfield 7, 3) := by decide +kernel
theorem dX6_init_13 : decode cX6_init 13 = .ok (.aload_n 0, 1) := by decide +kernel
theorem dX6_init_14 : decode cX6_init 14 = .ok (.sipush 13638, 3) := by decide +kernel
theorem dX6_init_17 : decode cX6_init 17 = .ok (.newarray .int, 2) := by decide +kernel
theorem dX6_init_19 : decode cX6_init 19 = .ok (.putfield 13, 3) := by decide +kernel
theorem dX6_init_22 : decode cX6_init 22 = .ok (.aload_n 0, 1) := by decide +kernel
theorem dX6_init_23 : decode cX6_init 23 = .ok (.iconst 2, 1) := by decide +kernel
theorem dX6_init_24 : decode cX6_init 24 = .ok (.newarray .boolean, 2) := by decide +kernel
theorem dX6_init_26 : decode cX6_init 26 = .ok (.putfield 16, 3) := by decide +kernel
theorem dX6_init_29 : decode cX6_init 29 = .ok (.iconst 0, 1) := by decide +kernel
theorem dX6_init_30 : decode cX6_init 30 = .ok (.istore_n 1, 1) := by decide +kernel
theorem dX6_init_31 : decode cX6_init 31 = .ok (.iload_n 1, 1) := by decide +kernel
theorem dX6_init_32 : decode cX6_init 32 = .ok (.bipush 10, 2) := by decide +kernel
theorem dX6_init_34 : decode cX6_init 34 = .ok (.if_icmp .ge 50, 3) := by decide +kernel
theorem dX6_init_37 : decode cX6_init 37 = .ok (.aload_n 0, 1) := by decide +kernel
theorem dX6_init_38 : decode cX6_init 38 = .ok (.getfield 7, 3) := by decide +kernel
theorem dX6_init_41 : decode cX6_init 41 = .ok (.bipush 10, 2) := by decide +kernel
theorem dX6_init_43 : decode cX6_init 43 = .ok (.iload_n 1, 1) := by decide +kernel
theorem dX6_init_44 : decode cX6_init 44 = .ok (.iadd, 1) := by decide +kernel
theorem dX6_init_45 : decode cX6_init 45 = .ok (.iconst 1, 1) := by decide +kernel
theorem dX6_init_46 : decode cX6_init 46 = .ok (.iastore, 1) := by decide +kernel
theorem dX6_init_47 : decode cX6_init 47 = .ok (.aload_n 0, 1) := by decide +kernel
theorem dX6_init_48 : decode cX6_init 48 = .ok (.getfield 7, 3) := by decide +kernel
theorem dX6_init_51 : decode cX6_init 51 = .ok (.bipush 20, 2) := by decide +kernel
theorem dX6_init_53 : decode cX6_init 53 = .ok (.iload_n 1, 1) := by decide +kernel
theorem dX6_init_54 : decode cX6_init 54 = .ok (.iadd, 1) := by decide +kernel
theorem dX6_init_55 : decode cX6_init 55 = .ok (.iconst 1, 1) := by decide +kernel
theorem dX6_init_56 : decode cX6_init 56 = .ok (.iastore, 1) := by decide +kernel
theorem dX6_init_57 : decode cX6_init 57 = .ok (.aload_n 0, 1) := by decide +kernel
theorem dX6_init_58 : decode cX6_init 58 = .ok (.getfield 7, 3) := by decide +kernel
theorem dX6_init_61 : decode cX6_init 61 = .ok (.bipush 30, 2) := by decide +kernel
theorem dX6_init_63 : decode cX6_init 63 = .ok (.iload_n 1, 1) := by decide +kernel
theorem dX6_init_64 : decode cX6_init 64 = .ok (.iadd, 1) := by decide +kernel
theorem dX6_init_65 : decode cX6_init 65 = .ok (.iconst 4, 1) := by decide +kernel
theorem dX6_init_66 : decode cX6_init 66 = .ok (.iastore, 1) := by decide +kernel
theorem dX6_init_67 : decode cX6_init 67 = .ok (.aload_n 0, 1) := by decide +kernel
theorem dX6_init_68 : decode cX6_init 68 = .ok (.getfield 7, 3) := by decide +kernel
theorem dX6_init_71 : decode cX6_init 71 = .ok (.bipush 70, 2) := by decide +kernel
theorem dX6_init_73 : decode cX6_init 73 = .ok (.iload_n 1, 1) := by decide +kernel
theorem dX6_init_74 : decode cX6_init 74 = .ok (.iadd, 1) := by decide +kernel
theorem dX6_init_75 : decode cX6_init 75 = .ok (.bipush (-6), 2) := by decide +kernel
theorem dX6_init_77 : decode cX6_init 77 = .ok (.iastore, 1) := by decide +kernel
theorem dX6_init_78 : decode cX6_init 78 = .ok (.iinc 1 1, 3) := by decide +kernel
theorem dX6_init_81 : decode cX6_init 81 = .ok (.goto (-50), 3) := by decide +kernel
theorem dX6_init_84 : decode cX6_init 84 = .ok (.aload_n 0, 1) := by decide +kernel
theorem dX6_init_85 : decode cX6_init 85 = .ok (.getfield 7, 3) := by decide +kernel
theorem dX6_init_88 : decode cX6_init 88 = .ok (.sipush 6813, 3) := by decide +kernel
theorem dX6_init_91 : decode cX6_init 91 = .ok (.sipush 1023, 3) := by decide +kernel
theorem dX6_init_94 : decode cX6_init 94 = .ok (.iastore, 1) := by decide +kernel
theorem dX6_init_95 : decode cX6_init 95 = .ok (.return_, 1) := by decide +kernel
theorem dX6_in_0 : decode cX6_in 0 = .ok (.iload_n 0, 1) := by decide +kernel
theorem dX6_in_1 : decode cX6_in 1 = .ok (.iload_n 1, 1) := by decide +kernel
theorem dX6_in_2 : decode cX6_in 2 = .ok (.if_icmp .lt 12, 3) := by decide +kernel
theorem dX6_in_5 : decode cX6_in 5 = .ok (.iload_n 0, 1) := by decide +kernel
theorem dX6_in_6 : decode cX6_in 6 = .ok (.iload_n 2, 1) := by decide +kernel
theorem dX6_in_7 : decode cX6_in 7 = .ok (.if_icmp .gt 7, 3) := by decide +kernel
theorem dX6_in_10 : decode cX6_in 10 = .ok (.iconst 1, 1) := by decide +kernel
theorem dX6_in_11 : decode cX6_in 11 = .ok (.goto 4, 3) := by decide +kernel
theorem dX6_in_14 : decode cX6_in 14 = .ok (.iconst 0, 1) := by decide +kernel
theorem dX6_in_15 : decode cX6_in 15 = .ok (.ireturn, 1) := by decide +kernel
set_option maxRecDepth 20000 in
theorem ggX6_isLamp_X6_in : GoodIn wsX6_isLamp wsX6_in := goodIn_r _ [4] (by decide +kernel) (by decide +kernel)
set_option maxRecDepth 20000 in
theorem gX6_isLamp_X6_in : GoodIn wsX6_isLamp (va_wsS RX6 20 yX6_in wsX6_in) := goodIn_app (goodIn_of _ (by decide +kernel)) ggX6_isLamp_X6_in
theorem dX6_isLamp_0 : decode cX6_isLamp 0 = .ok (.iload_n 0, 1) := by decide +kernel
theorem dX6_isLamp_1 : decode cX6_isLamp 1 = .ok (.iconst 0, 1) := by decide +kernel
theorem dX6_isLamp_2 : decode cX6_isLamp 2 = .ok (.bipush 9, 2) := by decide +kernel
theorem dX6_isLamp_4 : decode cX6_isLamp 4 = .ok (.invokestatic 20, 3) := by decide +kernel
theorem dX6_isLamp_7 : decode cX6_isLamp 7 = .ok (.ireturn, 1) := by decide +kernel
theorem dX6_isOf_0 : decode cX6_isOf 0 = .ok (.iload_n 0, 1) := by decide +kernel
theorem dX6_isOf_1 : decode cX6_isOf 1 = .ok (.iload_n 1, 1) := by decide +kernel
theorem dX6_isOf_2 : decode cX6_isOf 2 = .ok (.ishr, 1) := by decide +kernel
theorem dX6_isOf_3 : decode cX6_isOf 3 = .ok (.iconst 1, 1) := by decide +kernel
theorem dX6_isOf_4 : decode cX6_isOf 4 = .ok (.iand, 1) := by decide +kernel
theorem dX6_isOf_5 : decode cX6_isOf 5 = .ok (.iconst 1, 1) := by decide +kernel
theorem dX6_isOf_6 : decode cX6_isOf 6 = .ok (.if_icmp .ne 7, 3) := by decide +kernel
theorem dX6_isOf_9 : decode cX6_isOf 9 = .ok (.iconst 1, 1) := by decide +kernel
theorem dX6_isOf_10 : decode cX6_isOf 10 = .ok (.goto 4, 3) := by decide +kernel
theorem dX6_isOf_13 : decode cX6_isOf 13 = .ok (.iconst 0, 1) := by decide +kernel
theorem dX6_isOf_14 : decode cX6_isOf 14 = .ok (.ireturn, 1) := by decide +kernel
theorem dX6_bits_0 : decode cX6_bits 0 = .ok (.iconst 0, 1) := by decide +kernel
theorem dX6_bits_1 : decode cX6_bits 1 = .ok (.istore_n 1, 1) := by decide +kernel
theorem dX6_bits_2 : decode cX6_bits 2 = .ok (.iconst 0, 1) := by decide +kernel
theorem dX6_bits_3 : decode cX6_bits 3 = .ok (.istore_n 2, 1) := by decide +kernel
theorem dX6_bits_4 : decode cX6_bits 4 = .ok (.iload_n 2, 1) := by decide +kernel
theorem dX6_bits_5 : decode cX6_bits 5 = .ok (.bipush 10, 2) := by decide +kernel
theorem dX6_bits_7 : decode cX6_bits 7 = .ok (.if_icmp .ge 17, 3) := by decide +kernel
theorem dX6_bits_10 : decode cX6_bits 10 = .ok (.iload_n 1, 1) := by decide +kernel
theorem dX6_bits_11 : decode cX6_bits 11 = .ok (.iload_n 0, 1) := by decide +kernel
theorem dX6_bits_12 : decode cX6_bits 12 = .ok (.iload_n 2, 1) := by decide +kernel
theorem dX6_bits_13 : decode cX6_bits 13 = .ok (.ishr, 1) := by decide +kernel
theorem dX6_bits_14 : decode cX6_bits 14 = .ok (.iconst 1, 1) := by decide +kernel
theorem dX6_bits_15 : decode cX6_bits 15 = .ok (.iand, 1) := by decide +kernel
theorem dX6_bits_16 : decode cX6_bits 16 = .ok (.iadd, 1) := by decide +kernel
theorem dX6_bits_17 : decode cX6_bits 17 = .ok (.istore_n 1, 1) := by decide +kernel
theorem dX6_bits_18 : decode cX6_bits 18 = .ok (.iinc 2 1, 3) := by decide +kernel
theorem dX6_bits_21 : decode cX6_bits 21 = .ok (.goto (-17), 3) := by decide +kernel
theorem dX6_bits_24 : decode cX6_bits 24 = .ok (.iload_n 1, 1) := by decide +kernel
theorem dX6_bits_25 : decode cX6_bits 25 = .ok (.ireturn, 1) := by decide +kernel
theorem dX6_sleeps_0 : decode cX6_sleeps 0 = .ok (.aload_n 0, 1) := by decide +kernel
theorem dX6_sleeps_1 : decode cX6_sleeps 1 = .ok (.getfield 7, 3) := by decide +kernel
theorem dX6_sleeps_4 : decode cX6_sleeps 4 = .ok (.bipush 60, 2) := by decide +kernel
theorem dX6_sleeps_6 : decode cX6_sleeps 6 = .ok (.iload_n 1, 1) := by decide +kernel
theorem dX6_sleeps_7 : decode cX6_sleeps 7 = .ok (.iadd, 1) := by decide +kernel
theorem dX6_sleeps_8 : decode cX6_sleeps 8 = .ok (.iaload, 1) := by decide +kernel
theorem dX6_sleeps_9 : decode cX6_sleeps 9 = .ok (.iconst 1, 1) := by decide +kernel
theorem dX6_sleeps_10 : decode cX6_sleeps 10 = .ok (.if_icmp .ne 7, 3) := by decide +kernel
theorem dX6_sleeps_13 : decode cX6_sleeps 13 = .ok (.iconst 1, 1) := by decide +kernel
theorem dX6_sleeps_14 : decode cX6_sleeps 14 = .ok (.goto 4, 3) := by decide +kernel
theorem dX6_sleeps_17 : decode cX6_sleeps 17 = .ok (.iconst 0, 1) := by decide +kernel
theorem dX6_sleeps_18 : decode cX6_sleeps 18 = .ok (.ireturn, 1) := by decide +kernel
set_option maxRecDepth 20000 in
theorem ggX6_link_X6_isLamp : GoodIn wsX6_link wsX6_isLamp := goodIn_r _ [5, 6, 7, 4, 8] (by decide +kernel) (by decide +kernel)
set_option maxRecDepth 20000 in
theorem gX6_link_X6_isLamp : GoodIn wsX6_link (va_wsS RX6 24 yX6_isLamp wsX6_isLamp) := goodIn_app (goodIn_of _ (by decide +kernel)) ggX6_link_X6_isLamp
set_option maxRecDepth 20000 in
theorem ggX6_link_X6_in : GoodIn wsX6_link wsX6_in := goodIn_r _ [8] (by decide +kernel) (by decide +kernel)
set_option maxRecDepth 20000 in
theorem gX6_link_X6_in : GoodIn wsX6_link (va_wsS RX6 20 yX6_in wsX6_in) := goodIn_app (goodIn_of _ (by decide +kernel)) ggX6_link_X6_in
set_option maxRecDepth 20000 in
theorem ggX6_link_X6_bits : GoodIn wsX6_link wsX6_bits := goodIn_r _ [11] (by decide +kernel) (by decide +kernel)
set_option maxRecDepth 20000 in
theorem gX6_link_X6_bits : GoodIn wsX6_link (va_wsS RX6 28 yX6_bits wsX6_bits) := goodIn_app (goodIn_of _ (by decide +kernel)) ggX6_link_X6_bits
theorem dX6_link_0 : decode cX6_link 0 = .ok (.iload_n 1, 1) := by decide +kernel
theorem dX6_link_1 : decode cX6_link 1 = .ok (.invokestatic 24, 3) := by decide +kernel
theorem dX6_link_4 : decode cX6_link 4 = .ok (.ifCond .eq 10, 3) := by decide +kernel
theorem dX6_link_7 : decode cX6_link 7 = .ok (.iload_n 2, 1) := by decide +kernel
theorem dX6_link_8 : decode cX6_link 8 = .ok (.invokestatic 24, 3) := by decide +kernel
theorem dX6_link_11 : decode cX6_link 11 = .ok (.ifCond .ne 5, 3) := by decide +kernel
theorem dX6_link_14 : decode cX6_link 14 = .ok (.iconst (-1), 1) := by decide +kernel
theorem dX6_link_15 : decode cX6_link 15 = .ok (.ireturn, 1) := by decide +kernel
theorem dX6_link_16 : decode cX6_link 16 = .ok (.iload_n 1, 1) := by decide +kernel
theorem dX6_link_17 : decode cX6_link 17 = .ok (.iload_n 2, 1) := by decide +kernel
theorem dX6_link_18 : decode cX6_link 18 = .ok (.if_icmp .eq 12, 3) := by decide +kernel
theorem dX6_link_21 : decode cX6_link 21 = .ok (.iload_n 3, 1) := by decide +kernel
theorem dX6_link_22 : decode cX6_link 22 = .ok (.iconst 0, 1) := by decide +kernel
theorem dX6_link_23 : decode cX6_link 23 = .ok (.iconst 1, 1) := by decide +kernel
theorem dX6_link_24 : decode cX6_link 24 = .ok (.invokestatic 20, 3) := by decide +kernel
theorem dX6_link_27 : decode cX6_link 27 = .ok (.ifCond .ne 6, 3) := by decide +kernel
theorem dX6_link_30 : decode cX6_link 30 = .ok (.bipush (-2), 2) := by decide +kernel
theorem dX6_link_32 : decode cX6_link 32 = .ok (.ireturn, 1) := by decide +kernel
theorem dX6_link_33 : decode cX6_link 33 = .ok (.aload_n 0, 1) := by decide +kernel
theorem dX6_link_34 : decode cX6_link 34 = .ok (.getfield 7, 3) := by decide +kernel
theorem dX6_link_37 : decode cX6_link 37 = .ok (.iconst 0, 1) := by decide +kernel
theorem dX6_link_38 : decode cX6_link 38 = .ok (.iload_n 1, 1) := by decide +kernel
theorem dX6_link_39 : decode cX6_link 39 = .ok (.iadd, 1) := by decide +kernel
theorem dX6_link_40 : decode cX6_link 40 = .ok (.iload_n 3, 1) := by decide +kernel
theorem dX6_link_41 : decode cX6_link 41 = .ok (.iconst 1, 1) := by decide +kernel
theorem dX6_link_42 : decode cX6_link 42 = .ok (.if_icmp .ne 18, 3) := by decide +kernel
theorem dX6_link_45 : decode cX6_link 45 = .ok (.aload_n 0, 1) := by decide +kernel
theorem dX6_link_46 : decode cX6_link 46 = .ok (.getfield 7, 3) := by decide +kernel
theorem dX6_link_49 : decode cX6_link 49 = .ok (.iconst 0, 1) := by decide +kernel
theorem dX6_link_50 : decode cX6_link 50 = .ok (.iload_n 1, 1) := by decide +kernel
theorem dX6_link_51 : decode cX6_link 51 = .ok (.iadd, 1) := by decide +kernel
theorem dX6_link_52 : decode cX6_link 52 = .ok (.iaload, 1) := by decide +kernel
theorem dX6_link_53 : decode cX6_link 53 = .ok (.iconst 1, 1) := by decide +kernel
theorem dX6_link_54 : decode cX6_link 54 = .ok (.iload_n 2, 1) := by decide +kernel
theorem dX6_link_55 : decode cX6_link 55 = .ok (.ishl, 1) := by decide +kernel
theorem dX6_link_56 : decode cX6_link 56 = .ok (.ior, 1) := by decide +kernel
theorem dX6_link_57 : decode cX6_link 57 = .ok (.goto 17, 3) := by decide +kernel
theorem dX6_link_60 : decode cX6_link 60 = .ok (.aload_n 0, 1) := by decide +kernel
theorem dX6_link_61 : decode cX6_link 61 = .ok (.getfield 7, 3) := by decide +kernel
theorem dX6_link_64 : decode cX6_link 64 = .ok (.iconst 0, 1) := by decide +kernel
theorem dX6_link_65 : decode cX6_link 65 = .ok (.iload_n 1, 1) := by decide +kernel
theorem dX6_link_66 : decode cX6_link 66 = .ok (.iadd, 1) := by decide +kernel
theorem dX6_link_67 : decode cX6_link 67 = .ok (.iaload, 1) := by decide +kernel
theorem dX6_link_68 : decode cX6_link 68 = .ok (.iconst 1, 1) := by decide +kernel
theorem dX6_link_69 : decode cX6_link 69 = .ok (.iload_n 2, 1) := by decide +kernel
theorem dX6_link_70 : decode cX6_link 70 = .ok (.ishl, 1) := by decide +kernel
theorem dX6_link_71 : decode cX6_link 71 = .ok (.iconst (-1), 1) := by decide +kernel
theorem dX6_link_72 : decode cX6_link 72 = .ok (.ixor, 1) := by decide +kernel
theorem dX6_link_73 : decode cX6_link 73 = .ok (.iand, 1) := by decide +kernel
theorem dX6_link_74 : decode cX6_link 74 = .ok (.iastore, 1) := by decide +kernel
theorem dX6_link_75 : decode cX6_link 75 = .ok (.aload_n 0, 1) := by decide +kernel
theorem dX6_link_76 : decode cX6_link 76 = .ok (.getfield 7, 3) := by decide +kernel
theorem dX6_link_79 : decode cX6_link 79 = .ok (.iconst 0, 1) := by decide +kernel
theorem dX6_link_80 : decode cX6_link 80 = .ok (.iload_n 2, 1) := by decide +kernel
theorem dX6_link_81 : decode cX6_link 81 = .ok (.iadd, 1) := by decide +kernel
theorem dX6_link_82 : decode cX6_link 82 = .ok (.iload_n 3, 1) := by decide +kernel
theorem dX6_link_83 : decode cX6_link 83 = .ok (.iconst 1, 1) := by decide +kernel
theorem dX6_link_84 : decode cX6_link 84 = .ok (.if_icmp .ne 18, 3) := by decide +kernel
theorem dX6_link_87 : decode cX6_link 87 = .ok (.aload_n 0, 1) := by decide +kernel
theorem dX6_link_88 : decode cX6_link 88 = .ok (.getfield 7, 3) := by decide +kernel
theorem dX6_link_91 : decode cX6_link 91 = .ok (.iconst 0, 1) := by decide +kernel
theorem dX6_link_92 : decode cX6_link 92 = .ok (.iload_n 2, 1) := by decide +kernel
theorem dX6_link_93 : decode cX6_link 93 = .ok (.iadd, 1) := by decide +kernel
theorem dX6_link_94 : decode cX6_link 94 = .ok (.iaload, 1) := by decide +kernel
theorem dX6_link_95 : decode cX6_link 95 = .ok (.iconst 1, 1) := by decide +kernel
theorem dX6_link_96 : decode cX6_link 96 = .ok (.iload_n 1, 1) := by decide +kernel
theorem dX6_link_97 : decode cX6_link 97 = .ok (.ishl, 1) := by decide +kernel
theorem dX6_link_98 : decode cX6_link 98 = .ok (.ior, 1) := by decide +kernel
theorem dX6_link_99 : decode cX6_link 99 = .ok (.goto 17, 3) := by decide +kernel
theorem dX6_link_102 : decode cX6_link 102 = .ok (.aload_n 0, 1) := by decide +kernel
theorem dX6_link_103 : decode cX6_link 103 = .ok (.getfield 7, 3) := by decide +kernel
theorem dX6_link_106 : decode cX6_link 106 = .ok (.iconst 0, 1) := by decide +kernel
theorem dX6_link_107 : decode cX6_link 107 = .ok (.iload_n 2, 1) := by decide +kernel
theorem dX6_link_108 : decode cX6_link 108 = .ok (.iadd, 1) := by decide +kernel
theorem dX6_link_109 : decode cX6_link 109 = .ok (.iaload, 1) := by decide +kernel
theorem dX6_link_110 : decode cX6_link 110 = .ok (.iconst 1, 1) := by decide +kernel
theorem dX6_link_111 : decode cX6_link 111 = .ok (.iload_n 1, 1) := by decide +kernel
theorem dX6_link_112 : decode cX6_link 112 = .ok (.ishl, 1) := by decide +kernel
theorem dX6_link_113 : decode cX6_link 113 = .ok (.iconst (-1), 1) := by decide +kernel
theorem dX6_link_114 : decode cX6_link 114 = .ok (.ixor, 1) := by decide +kernel
theorem dX6_link_115 : decode cX6_link 115 = .ok (.iand, 1) := by decide +kernel
theorem dX6_link_116 : decode cX6_link 116 = .ok (.iastore, 1) := by decide +kernel
theorem dX6_link_117 : decode cX6_link 117 = .ok (.aload_n 0, 1) := by decide +kernel
theorem dX6_link_118 : decode cX6_link 118 = .ok (.getfield 7, 3) := by decide +kernel
theorem dX6_link_121 : decode cX6_link 121 = .ok (.iconst 0, 1) := by decide +kernel
theorem dX6_link_122 : decode cX6_link 122 = .ok (.iload_n 1, 1) := by decide +kernel
theorem dX6_link_123 : decode cX6_link 123 = .ok (.iadd, 1) := by decide +kernel
theorem dX6_link_124 : decode cX6_link 124 = .ok (.iaload, 1) := by decide +kernel
theorem dX6_link_125 : decode cX6_link 125 = .ok (.invokestatic 28, 3) := by decide +kernel
theorem dX6_link_128 : decode cX6_link 128 = .ok (.ireturn, 1) := by decide +kernel
theorem dX6_forget_0 : decode cX6_forget 0 = .ok (.aload_n 0, 1) := by decide +kernel
theorem dX6_forget_1 : decode cX6_forget 1 = .ok (.getfield 7, 3) := by decide +kernel
theorem dX6_forget_4 : decode cX6_forget 4 = .ok (.sipush 160, 3) := by decide +kernel
theorem dX6_forget_7 : decode cX6_forget 7 = .ok (.iload_n 1, 1) := by decide +kernel
theorem dX6_forget_8 : decode cX6_forget 8 = .ok (.iadd, 1) := by decide +kernel
theorem dX6_forget_9 : decode cX6_forget 9 = .ok (.iaload, 1) := by decide +kernel
theorem dX6_forget_10 : decode cX6_forget 10 = .ok (.aload_n 0, 1) := by decide +kernel
theorem dX6_forget_11 : decode cX6_forget 11 = .ok (.getfield 7, 3) := by decide +kernel
theorem dX6_forget_14 : decode cX6_forget 14 = .ok (.bipush 30, 2) := by decide +kernel
theorem dX6_forget_16 : decode cX6_forget 16 = .ok (.iload_n 1, 1) := by decide +kernel
theorem dX6_forget_17 : decode cX6_forget 17 = .ok (.iadd, 1) := by decide +kernel
theorem dX6_forget_18 : decode cX6_forget 18 = .ok (.iaload, 1) := by decide +kernel
theorem dX6_forget_19 : decode cX6_forget 19 = .ok (.isub, 1) := by decide +kernel
theorem dX6_forget_20 : decode cX6_forget 20 = .ok (.istore_n 2, 1) := by decide +kernel
theorem dX6_forget_21 : decode cX6_forget 21 = .ok (.iload_n 2, 1) := by decide +kernel
theorem dX6_forget_22 : decode cX6_forget 22 = .ok (.ifCond .le 80, 3) := by decide +kernel
theorem dX6_forget_25 : decode cX6_forget 25 = .ok (.aload_n 0, 1) := by decide +kernel
theorem dX6_forget_26 : decode cX6_forget 26 = .ok (.getfield 7, 3) := by decide +kernel
theorem dX6_forget_29 : decode cX6_forget 29 = .ok (.sipush 160, 3) := by decide +kernel
theorem dX6_forget_32 : decode cX6_forget 32 = .ok (.iload_n 1, 1) := by decide +kernel
theorem dX6_forget_33 : decode cX6_forget 33 = .ok (.iadd, 1) := by decide +kernel
theorem dX6_forget_34 : decode cX6_forget 34 = .ok (.aload_n 0, 1) := by decide +kernel
theorem dX6_forget_35 : decode cX6_forget 35 = .ok (.getfield 7, 3) := by decide +kernel
theorem dX6_forget_38 : decode cX6_forget 38 = .ok (.bipush 30, 2) := by decide +kernel
theorem dX6_forget_40 : decode cX6_forget 40 = .ok (.iload_n 1, 1) := by decide +kernel
theorem dX6_forget_41 : decode cX6_forget 41 = .ok (.iadd, 1) := by decide +kernel
theorem dX6_forget_42 : decode cX6_forget 42 = .ok (.iaload, 1) := by decide +kernel
theorem dX6_forget_43 : decode cX6_forget 43 = .ok (.iastore, 1) := by decide +kernel
theorem dX6_forget_44 : decode cX6_forget 44 = .ok (.iconst 0, 1) := by decide +kernel
theorem dX6_forget_45 : decode cX6_forget 45 = .ok (.istore_n 3, 1) := by decide +kernel
theorem dX6_forget_46 : decode cX6_forget 46 = .ok (.iload_n 3, 1) := by decide +kernel
theorem dX6_forget_47 : decode cX6_forget 47 = .ok (.iconst 2, 1) := by decide +kernel
theorem dX6_forget_48 : decode cX6_forget 48 = .ok (.aload_n 0, 1) := by decide +kernel
theorem dX6_forget_49 : decode cX6_forget 49 = .ok (.getfield 7, 3) := by decide +kernel
theorem dX6_forget_52 : decode cX6_forget 52 = .ok (.sipush 160, 3) := by decide +kernel
theorem dX6_forget_55 : decode cX6_forget 55 = .ok (.iload_n 1, 1) := by decide +kernel
theorem dX6_forget_56 : decode cX6_forget 56 = .ok (.iadd, 1) := by decide +kernel
theorem dX6_forget_57 : decode cX6_forget 57 = .ok (.iaload, 1) := by decide +kernel
theorem dX6_forget_58 : decode cX6_forget 58 = .ok (.imul, 1) := by decide +kernel
theorem dX6_forget_59 : decode cX6_forget 59 = .ok (.if_icmp .ge 43, 3) := by decide +kernel
theorem dX6_forget_62 : decode cX6_forget 62 = .ok (.aload_n 0, 1) := by decide +kernel
theorem dX6_forget_63 : decode cX6_forget 63 = .ok (.getfield 7, 3) := by decide +kernel
theorem dX6_forget_66 : decode cX6_forget 66 = .ok (.sipush 170, 3) := by decide +kernel
theorem dX6_forget_69 : decode cX6_forget 69 = .ok (.bipush 16, 2) := by decide +kernel
theorem dX6_forget_71 : decode cX6_forget 71 = .ok (.iload_n 1, 1) := by decide +kernel
theorem dX6_forget_72 : decode cX6_forget 72 = .ok (.imul, 1) := by decide +kernel
theorem dX6_forget_73 : decode cX6_forget 73 = .ok (.iadd, 1) := by decide +kernel
theorem dX6_forget_74 : decode cX6_forget 74 = .ok (.iload_n 3, 1) := by decide +kernel
theorem dX6_forget_75 : decode cX6_forget 75 = .ok (.iadd, 1) := by decide +kernel
theorem dX6_forget_76 : decode cX6_forget 76 = .ok (.aload_n 0, 1) := by decide +kernel
theorem dX6_forget_77 : decode cX6_forget 77 = .ok (.getfield 7, 3) := by decide +kernel
theorem dX6_forget_80 : decode cX6_forget 80 = .ok (.sipush 170, 3) := by decide +kernel
theorem dX6_forget_83 : decode cX6_forget 83 = .ok (.bipush 16, 2) := by decide +kernel
theorem dX6_forget_85 : decode cX6_forget 85 = .ok (.iload_n 1, 1) := by decide +kernel
theorem dX6_forget_86 : decode cX6_forget 86 = .ok (.imul, 1) := by decide +kernel
theorem dX6_forget_87 : decode cX6_forget 87 = .ok (.iadd, 1) := by decide +kernel
theorem dX6_forget_88 : decode cX6_forget 88 = .ok (.iload_n 3, 1) := by decide +kernel
theorem dX6_forget_89 : decode cX6_forget 89 = .ok (.iadd, 1) := by decide +kernel
theorem dX6_forget_90 : decode cX6_forget 90 = .ok (.iconst 2, 1) := by decide +kernel
theorem dX6_forget_91 : decode cX6_forget 91 = .ok (.iload_n 2, 1) := by decide +kernel
theorem dX6_forget_92 : decode cX6_forget 92 = .ok (.imul, 1) := by decide +kernel
theorem dX6_forget_93 : decode cX6_forget 93 = .ok (.iadd, 1) := by decide +kernel
theorem dX6_forget_94 : decode cX6_forget 94 = .ok (.iaload, 1) := by decide +kernel
theorem dX6_forget_95 : decode cX6_forget 95 = .ok (.iastore, 1) := by decide +kernel
theorem dX6_forget_96 : decode cX6_forget 96 = .ok (.iinc 3 1, 3) := by decide +kernel
theorem dX6_forget_99 : decode cX6_forget 99 = .ok (.goto (-53), 3) := by decide +kernel
theorem dX6_forget_102 : decode cX6_forget 102 = .ok (.return_, 1) := by decide +kernel
set_option maxRecDepth 20000 in
theorem ggX6_set_X6_isLamp : GoodIn wsX6_set wsX6_isLamp := goodIn_r _ [5, 6, 7, 4, 8] (by decide +kernel) (by decide +kernel)
set_option maxRecDepth 20000 in
theorem gX6_set_X6_isLamp : GoodIn wsX6_set (va_wsS RX6 24 yX6_isLamp wsX6_isLamp) := goodIn_app (goodIn_of _ (by decide +kernel)) ggX6_set_X6_isLamp
set_option maxRecDepth 20000 in
theorem ggX6_set_X6_in : GoodIn wsX6_set wsX6_in := goodIn_r _ [8] (by decide +kernel) (by decide +kernel)
set_option maxRecDepth 20000 in
theorem gX6_set_X6_in : GoodIn wsX6_set (va_wsS RX6 20 yX6_in wsX6_in) := goodIn_app (goodIn_of _ (by decide +kernel)) ggX6_set_X6_in
set_option maxRecDepth 20000 in
theorem ggX6_set_X6_forget : GoodIn wsX6_set wsX6_forget := goodIn_r _ [12, 1, 13, 14, 15] (by decide +kernel) (by decide +kernel)
set_option maxRecDepth 20000 in
theorem gX6_set_X6_forget : GoodIn wsX6_set (wsV RX6 32 RX6 yX6_forget wsX6_forget) := goodIn_app (goodIn_of _ (by decide +kernel)) ggX6_set_X6_forget
theorem dX6_set_0 : decode cX6_set 0 = .ok (.iload_n 1, 1) := by decide +kernel
theorem dX6_set_1 : decode cX6_set 1 = .ok (.invokestatic 24, 3) := by decide +kernel
theorem dX6_set_4 : decode cX6_set 4 = .ok (.ifCond .ne 5, 3) := by decide +kernel
theorem dX6_set_7 : decode cX6_set 7 = .ok (.iconst (-1), 1) := by decide +kernel
theorem dX6_set_8 : decode cX6_set 8 = .ok (.ireturn, 1) := by decide +kernel
theorem dX6_set_9 : decode cX6_set 9 = .ok (.iload_n 2, 1) := by decide +kernel
theorem dX6_set_10 : decode cX6_set 10 = .ok (.iconst 0, 1) := by decide +kernel
theorem dX6_set_11 : decode cX6_set 11 = .ok (.iconst 3, 1) := by decide +kernel
theorem dX6_set_12 : decode cX6_set 12 = .ok (.invokestatic 20, 3) := by decide +kernel
theorem dX6_set_15 : decode cX6_set 15 = .ok (.ifCond .eq 49, 3) := by decide +kernel
theorem dX6_set_18 : decode cX6_set 18 = .ok (.iload_n 3, 1) := by decide +kernel
theorem dX6_set_19 : decode cX6_set 19 = .ok (.iload_n 2, 1) := by decide +kernel
theorem dX6_set_20 : decode cX6_set 20 = .ok (.ifCond .ne 7, 3) := by decide +kernel
theorem dX6_set_23 : decode cX6_set 23 = .ok (.iconst 1, 1) := by decide +kernel
theorem dX6_set_24 : decode cX6_set 24 = .ok (.goto 4, 3) := by decide +kernel
theorem dX6_set_27 : decode cX6_set 27 = .ok (.iconst 0, 1) := by decide +kernel
theorem dX6_set_28 : decode cX6_set 28 = .ok (.iload_n 2, 1) := by decide +kernel
theorem dX6_set_29 : decode cX6_set 29 = .ok (.ifCond .ne 8, 3) := by decide +kernel
theorem dX6_set_32 : decode cX6_set 32 = .ok (.bipush 9, 2) := by decide +kernel
theorem dX6_set_34 : decode cX6_set 34 = .ok (.goto 24, 3) := by decide +kernel
theorem dX6_set_37 : decode cX6_set 37 = .ok (.iload_n 2, 1) := by decide +kernel
theorem dX6_set_38 : decode cX6_set 38 = .ok (.iconst 1, 1) := by decide +kernel
theorem dX6_set_39 : decode cX6_set 39 = .ok (.if_icmp .ne 7, 3) := by decide +kernel
theorem dX6_set_42 : decode cX6_set 42 = .ok (.iconst 1, 1) := by decide +kernel
theorem dX6_set_43 : decode cX6_set 43 = .ok (.goto 15, 3) := by decide +kernel
theorem dX6_set_46 : decode cX6_set 46 = .ok (.iload_n 2, 1) := by decide +kernel
theorem dX6_set_47 : decode cX6_set 47 = .ok (.iconst 2, 1) := by decide +kernel
theorem dX6_set_48 : decode cX6_set 48 = .ok (.if_icmp .ne 8, 3) := by decide +kernel
theorem dX6_set_51 : decode cX6_set 51 = .ok (.bipush 8, 2) := by decide +kernel
theorem dX6_set_53 : decode cX6_set 53 = .ok (.goto 5, 3) := by decide +kernel
theorem dX6_set_56 : decode cX6_set 56 = .ok (.bipush 15, 2) := by decide +kernel
theorem dX6_set_58 : decode cX6_set 58 = .ok (.invokestatic 20, 3) := by decide +kernel
theorem dX6_set_61 : decode cX6_set 61 = .ok (.ifCond .ne 6, 3) := by decide +kernel
theorem dX6_set_64 : decode cX6_set 64 = .ok (.bipush (-2), 2) := by decide +kernel
theorem dX6_set_66 : decode cX6_set 66 = .ok (.ireturn, 1) := by decide +kernel
theorem dX6_set_67 : decode cX6_set 67 = .ok (.bipush 10, 2) := by decide +kernel
theorem dX6_set_69 : decode cX6_set 69 = .ok (.bipush 10, 2) := by decide +kernel
theorem dX6_set_71 : decode cX6_set 71 = .ok (.iload_n 2, 1) := by decide +kernel
theorem dX6_set_72 : decode cX6_set 72 = .ok (.imul, 1) := by decide +kernel
theorem dX6_set_73 : decode cX6_set 73 = .ok (.iadd, 1) := by decide +kernel
theorem dX6_set_74 : decode cX6_set 74 = .ok (.iload_n 1, 1) := by decide +kernel
theorem dX6_set_75 : decode cX6_set 75 = .ok (.iadd, 1) := by decide +kernel
theorem dX6_set_76 : decode cX6_set 76 = .ok (.istore 4, 2) := by decide +kernel
theorem dX6_set_78 : decode cX6_set 78 = .ok (.aload_n 0, 1) := by decide +kernel
theorem dX6_set_79 : decode cX6_set 79 = .ok (.getfield 7, 3) := by decide +kernel
theorem dX6_set_82 : decode cX6_set 82 = .ok (.iload 4, 2) := by decide +kernel
theorem dX6_set_84 : decode cX6_set 84 = .ok (.iaload, 1) := by decide +kernel
theorem dX6_set_85 : decode cX6_set 85 = .ok (.istore 5, 2) := by decide +kernel
theorem dX6_set_87 : decode cX6_set 87 = .ok (.aload_n 0, 1) := by decide +kernel
theorem dX6_set_88 : decode cX6_set 88 = .ok (.getfield 7, 3) := by decide +kernel
theorem dX6_set_91 : decode cX6_set 91 = .ok (.iload 4, 2) := by decide +kernel
theorem dX6_set_93 : decode cX6_set 93 = .ok (.iload_n 3, 1) := by decide +kernel
theorem dX6_set_94 : decode cX6_set 94 = .ok (.iastore, 1) := by decide +kernel
theorem dX6_set_95 : decode cX6_set 95 = .ok (.aload_n 0, 1) := by decide +kernel
theorem dX6_set_96 : decode cX6_set 96 = .ok (.iload_n 1, 1) := by decide +kernel
theorem dX6_set_97 : decode cX6_set 97 = .ok (.invokevirtual 32, 3) := by decide +kernel
theorem dX6_set_100 : decode cX6_set 100 = .ok (.iload 5, 2) := by decide +kernel
theorem dX6_set_102 : decode cX6_set 102 = .ok (.ireturn, 1) := by decide +kernel
set_option maxRecDepth 20000 in
theorem ggX6_friend_X6_isLamp : GoodIn wsX6_friend wsX6_isLamp := goodIn_r _ [5, 6, 7, 4, 8] (by decide +kernel) (by decide +kernel)
set_option maxRecDepth 20000 in
theorem gX6_friend_X6_isLamp : GoodIn wsX6_friend (va_wsS RX6 24 yX6_isLamp wsX6_isLamp) := goodIn_app (goodIn_of _ (by decide +kernel)) ggX6_friend_X6_isLamp
set_option maxRecDepth 20000 in
theorem ggX6_friend_X6_sleeps : GoodIn wsX6_friend wsX6_sleeps := goodIn_r _ [12, 1, 13, 14, 15] (by decide +kernel) (by decide +kernel)
set_option maxRecDepth 20000 in
theorem gX6_friend_X6_sleeps : GoodIn wsX6_friend (wsV RX6 36 RX6 yX6_sleeps wsX6_sleeps) := goodIn_app (goodIn_of _ (by decide +kernel)) ggX6_friend_X6_sleeps
theorem dX6_friend_0 : decode cX6_friend 0 = .ok (.iload_n 1, 1) := by decide +kernel
theorem dX6_friend_1 : decode cX6_friend 1 = .ok (.invokestatic 24, 3) := by decide +kernel
theorem dX6_friend_4 : decode cX6_friend 4 = .ok (.ifCond .ne 5, 3) := by decide +kernel
theorem dX6_friend_7 : decode cX6_friend 7 = .ok (.iconst (-1), 1) := by decide +kernel
theorem dX6_friend_8 : decode cX6_friend 8 = .ok (.ireturn, 1) := by decide +kernel
theorem dX6_friend_9 : decode cX6_friend 9 = .ok (.iload_n 2, 1) := by decide +kernel
theorem dX6_friend_10 : decode cX6_friend 10 = .ok (.invokestatic 24, 3) := by decide +kernel
theorem dX6_friend_13 : decode cX6_friend 13 = .ok (.ifCond .ne 9, 3) := by decide +kernel
theorem dX6_friend_16 : decode cX6_friend 16 = .ok (.iload_n 2, 1) := by decide +kernel
theorem dX6_friend_17 : decode cX6_friend 17 = .ok (.bipush (-6), 2) := by decide +kernel
theorem dX6_friend_19 : decode cX6_friend 19 = .ok (.if_icmp .ne 8, 3) := by decide +kernel
theorem dX6_friend_22 : decode cX6_friend 22 = .ok (.iload_n 1, 1) := by decide +kernel
theorem dX6_friend_23 : decode cX6_friend 23 = .ok (.iload_n 2, 1) := by decide +kernel
theorem dX6_friend_24 : decode cX6_friend 24 = .ok (.if_icmp .ne 6, 3) := by decide +kernel
theorem dX6_friend_27 : decode cX6_friend 27 = .ok (.bipush (-2), 2) := by decide +kernel
theorem dX6_friend_29 : decode cX6_friend 29 = .ok (.ireturn, 1) := by decide +kernel
theorem dX6_friend_30 : decode cX6_friend 30 = .ok (.aload_n 0, 1) := by decide +kernel
theorem dX6_friend_31 : decode cX6_friend 31 = .ok (.iload_n 1, 1) := by decide +kernel
theorem dX6_friend_32 : decode cX6_friend 32 = .ok (.invokevirtual 36, 3) := by decide +kernel
theorem dX6_friend_35 : decode cX6_friend 35 = .ok (.ifCond .eq 6, 3) := by decide +kernel
theorem dX6_friend_38 : decode cX6_friend 38 = .ok (.bipush (-3), 2) := by decide +kernel
theorem dX6_friend_40 : decode cX6_friend 40 = .ok (.ireturn, 1) := by decide +kernel
theorem dX6_friend_41 : decode cX6_friend 41 = .ok (.aload_n 0, 1) := by decide +kernel
theorem dX6_friend_42 : decode cX6_friend 42 = .ok (.getfield 7, 3) := by decide +kernel
theorem dX6_friend_45 : decode cX6_friend 45 = .ok (.bipush 70, 2) := by decide +kernel
theorem dX6_friend_47 : decode cX6_friend 47 = .ok (.iload_n 1, 1) := by decide +kernel
theorem dX6_friend_48 : decode cX6_friend 48 = .ok (.iadd, 1) := by decide +kernel
theorem dX6_friend_49 : decode cX6_friend 49 = .ok (.iaload, 1) := by decide +kernel
theorem dX6_friend_50 : decode cX6_friend 50 = .ok (.istore_n 3, 1) := by decide +kernel
theorem dX6_friend_51 : decode cX6_friend 51 = .ok (.aload_n 0, 1) := by decide +kernel
theorem dX6_friend_52 : decode cX6_friend 52 = .ok (.getfield 7, 3) := by decide +kernel
theorem dX6_friend_55 : decode cX6_friend 55 = .ok (.bipush 70, 2) := by decide +kernel
theorem dX6_friend_57 : decode cX6_friend 57 = .ok (.iload_n 1, 1) := by decide +kernel
theorem dX6_friend_58 : decode cX6_friend 58 = .ok (.iadd, 1) := by decide +kernel
theorem dX6_friend_59 : decode cX6_friend 59 = .ok (.iload_n 2, 1) := by decide +kernel
theorem dX6_friend_60 : decode cX6_friend 60 = .ok (.iastore, 1) := by decide +kernel
theorem dX6_friend_61 : decode cX6_friend 61 = .ok (.aload_n 0, 1) := by decide +kernel
theorem dX6_friend_62 : decode cX6_friend 62 = .ok (.getfield 7, 3) := by decide +kernel
theorem dX6_friend_65 : decode cX6_friend 65 = .ok (.sipush 150, 3) := by decide +kernel
theorem dX6_friend_68 : decode cX6_friend 68 = .ok (.iload_n 1, 1) := by decide +kernel
theorem dX6_friend_69 : decode cX6_friend 69 = .ok (.iadd, 1) := by decide +kernel
theorem dX6_friend_70 : decode cX6_friend 70 = .ok (.iconst 0, 1) := by decide +kernel
theorem dX6_friend_71 : decode cX6_friend 71 = .ok (.iastore, 1) := by decide +kernel
theorem dX6_friend_72 : decode cX6_friend 72 = .ok (.iload_n 3, 1) := by decide +kernel
theorem dX6_friend_73 : decode cX6_friend 73 = .ok (.ireturn, 1) := by decide +kernel
theorem dX6_phase_0 : decode cX6_phase 0 = .ok (.aload_n 0, 1) := by decide +kernel
theorem dX6_phase_1 : decode cX6_phase 1 = .ok (.getfield 7, 3) := by decide +kernel
theorem dX6_phase_4 : decode cX6_phase 4 = .ok (.sipush 6812, 3) := by decide +kernel
theorem dX6_phase_7 : decode cX6_phase 7 = .ok (.aload_n 0, 1) := by decide +kernel
theorem dX6_phase_8 : decode cX6_phase 8 = .ok (.getfield 7, 3) := by decide +kernel
theorem dX6_phase_11 : decode cX6_phase 11 = .ok (.sipush 6812, 3) := by decide +kernel
theorem dX6_phase_14 : decode cX6_phase 14 = .ok (.iaload, 1) := by decide +kernel
theorem dX6_phase_15 : decode cX6_phase 15 = .ok (.iconst 1, 1) := by decide +kernel
theorem dX6_phase_16 : decode cX6_phase 16 = .ok (.iadd, 1) := by decide +kernel
theorem dX6_phase_17 : decode cX6_phase 17 = .ok (.iconst 3, 1) := by decide +kernel
theorem dX6_phase_18 : decode cX6_phase 18 = .ok (.irem, 1) := by decide +kernel
theorem dX6_phase_19 : decode cX6_phase 19 = .ok (.iastore, 1) := by decide +kernel
theorem dX6_phase_20 : decode cX6_phase 20 = .ok (.aload_n 0, 1) := by decide +kernel
theorem dX6_phase_21 : decode cX6_phase 21 = .ok (.getfield 7, 3) := by decide +kernel
theorem dX6_phase_24 : decode cX6_phase 24 = .ok (.sipush 6812, 3) := by decide +kernel
theorem dX6_phase_27 : decode cX6_phase 27 = .ok (.iaload, 1) := by decide +kernel
theorem dX6_phase_28 : decode cX6_phase 28 = .ok (.ifCond .ne 31, 3) := by decide +kernel
theorem dX6_phase_31 : decode cX6_phase 31 = .ok (.aload_n 0, 1) := by decide +kernel
theorem dX6_phase_32 : decode cX6_phase 32 = .ok (.getfield 7, 3) := by decide +kernel
theorem dX6_phase_35 : decode cX6_phase 35 = .ok (.sipush 6811, 3) := by decide +kernel
theorem dX6_phase_38 : decode cX6_phase 38 = .ok (.dup2, 1) := by decide +kernel
theorem dX6_phase_39 : decode cX6_phase 39 = .ok (.iaload, 1) := by decide +kernel
theorem dX6_phase_40 : decode cX6_phase 40 = .ok (.iconst 1, 1) := by decide +kernel
theorem dX6_phase_41 : decode cX6_phase 41 = .ok (.iadd, 1) := by decide +kernel
theorem dX6_phase_42 : decode cX6_phase 42 = .ok (.iastore, 1) := by decide +kernel
theorem dX6_phase_43 : decode cX6_phase 43 = .ok (.aload_n 0, 1) := by decide +kernel
theorem dX6_phase_44 : decode cX6_phase 44 = .ok (.getfield 7, 3) := by decide +kernel
theorem dX6_phase_47 : decode cX6_phase 47 = .ok (.sipush 6813, 3) := by decide +kernel
theorem dX6_phase_50 : decode cX6_phase 50 = .ok (.aload_n 0, 1) := by decide +kernel
theorem dX6_phase_51 : decode cX6_phase 51 = .ok (.getfield 7, 3) := by decide +kernel
theorem dX6_phase_54 : decode cX6_phase 54 = .ok (.sipush 6814, 3) := by decide +kernel
theorem dX6_phase_57 : decode cX6_phase 57 = .ok (.iaload, 1) := by decide +kernel
theorem dX6_phase_58 : decode cX6_phase 58 = .ok (.iastore, 1) := by decide +kernel
theorem dX6_phase_59 : decode cX6_phase 59 = .ok (.aload_n 0, 1) := by decide +kernel
theorem dX6_phase_60 : decode cX6_phase 60 = .ok (.getfield 7, 3) := by decide +kernel
theorem dX6_phase_63 : decode cX6_phase 63 = .ok (.sipush 6812, 3) := by decide +kernel
theorem dX6_phase_66 : decode cX6_phase 66 = .ok (.iaload, 1) := by decide +kernel
theorem dX6_phase_67 : decode cX6_phase 67 = .ok (.iconst 2, 1) := by decide +kernel
theorem dX6_phase_68 : decode cX6_phase 68 = .ok (.if_icmp .ge 12, 3) := by decide +kernel
theorem dX6_phase_71 : decode cX6_phase 71 = .ok (.aload_n 0, 1) := by decide +kernel
theorem dX6_phase_72 : decode cX6_phase 72 = .ok (.getfield 7, 3) := by decide +kernel
theorem dX6_phase_75 : decode cX6_phase 75 = .ok (.sipush 6814, 3) := by decide +kernel
theorem dX6_phase_78 : decode cX6_phase 78 = .ok (.iconst 0, 1) := by decide +kernel
theorem dX6_phase_79 : decode cX6_phase 79 = .ok (.iastore, 1) := by decide +kernel
theorem dX6_phase_80 : decode cX6_phase 80 = .ok (.aload_n 0, 1) := by decide +kernel
theorem dX6_phase_81 : decode cX6_phase 81 = .ok (.getfield 7, 3) := by decide +kernel
theorem dX6_phase_84 : decode cX6_phase 84 = .ok (.sipush 6812, 3) := by decide +kernel
theorem dX6_phase_87 : decode cX6_phase 87 = .ok (.iaload, 1) := by decide +kernel
theorem dX6_phase_88 : decode cX6_phase 88 = .ok (.ireturn, 1) := by decide +kernel
set_option maxRecDepth 20000 in
theorem ggX6_give_X6_isLamp : GoodIn wsX6_give wsX6_isLamp := goodIn_r _ [5, 6, 7, 4, 8] (by decide +kernel) (by decide +kernel)
set_option maxRecDepth 20000 in
theorem gX6_give_X6_isLamp : GoodIn wsX6_give (va_wsS RX6 24 yX6_isLamp wsX6_isLamp) := goodIn_app (goodIn_of _ (by decide +kernel)) ggX6_give_X6_isLamp
set_option maxRecDepth 20000 in
theorem ggX6_give_X6_bits : GoodIn wsX6_give wsX6_bits := goodIn_r _ [11] (by decide +kernel) (by decide +kernel)
set_option maxRecDepth 20000 in
theorem gX6_give_X6_bits : GoodIn wsX6_give (va_wsS RX6 28 yX6_bits wsX6_bits) := goodIn_app (goodIn_of _ (by decide +kernel)) ggX6_give_X6_bits
theorem dX6_give_0 : decode cX6_give 0 = .ok (.iload_n 1, 1) := by decide +kernel
theorem dX6_give_1 : decode cX6_give 1 = .ok (.invokestatic 24, 3) := by decide +kernel
theorem dX6_give_4 : decode cX6_give 4 = .ok (.ifCond .ne 5, 3) := by decide +kernel
theorem dX6_give_7 : decode cX6_give 7 = .ok (.iconst (-1), 1) := by decide +kernel
theorem dX6_give_8 : decode cX6_give 8 = .ok (.ireturn, 1) := by decide +kernel
theorem dX6_give_9 : decode cX6_give 9 = .ok (.aload_n 0, 1) := by decide +kernel
theorem dX6_give_10 : decode cX6_give 10 = .ok (.getfield 7, 3) := by decide +kernel
theorem dX6_give_13 : decode cX6_give 13 = .ok (.sipush 6812, 3) := by decide +kernel
theorem dX6_give_16 : decode cX6_give 16 = .ok (.iaload, 1) := by decide +kernel
theorem dX6_give_17 : decode cX6_give 17 = .ok (.ifCond .ne 6, 3) := by decide +kernel
theorem dX6_give_20 : decode cX6_give 20 = .ok (.bipush (-3), 2) := by decide +kernel
theorem dX6_give_22 : decode cX6_give 22 = .ok (.ireturn, 1) := by decide +kernel
theorem dX6_give_23 : decode cX6_give 23 = .ok (.aload_n 0, 1) := by decide +kernel
theorem dX6_give_24 : decode cX6_give 24 = .ok (.getfield 7, 3) := by decide +kernel
theorem dX6_give_27 : decode cX6_give 27 = .ok (.sipush 6814, 3) := by decide +kernel
theorem dX6_give_30 : decode cX6_give 30 = .ok (.dup2, 1) := by decide +kernel
theorem dX6_give_31 : decode cX6_give 31 = .ok (.iaload, 1) := by decide +kernel
theorem dX6_give_32 : decode cX6_give 32 = .ok (.iconst 1, 1) := by decide +kernel
theorem dX6_give_33 : decode cX6_give 33 = .ok (.iload_n 1, 1) := by decide +kernel
theorem dX6_give_34 : decode cX6_give 34 = .ok (.ishl, 1) := by decide +kernel
theorem dX6_give_35 : decode cX6_give 35 = .ok (.ior, 1) := by decide +kernel
theorem dX6_give_36 : decode cX6_give 36 = .ok (.iastore, 1) := by decide +kernel
theorem dX6_give_37 : decode cX6_give 37 = .ok (.aload_n 0, 1) := by decide +kernel
theorem dX6_give_38 : decode cX6_give 38 = .ok (.getfield 7, 3) := by decide +kernel
theorem dX6_give_41 : decode cX6_give 41 = .ok (.sipush 6814, 3) := by decide +kernel
theorem dX6_give_44 : decode cX6_give 44 = .ok (.iaload, 1) := by decide +kernel
theorem dX6_give_45 : decode cX6_give 45 = .ok (.invokestatic 28, 3) := by decide +kernel
theorem dX6_give_48 : decode cX6_give 48 = .ok (.ireturn, 1) := by decide +kernel
theorem dX6_letter_0 : decode cX6_letter 0 = .ok (.aload_n 0, 1) := by decide +kernel
theorem dX6_letter_1 : decode cX6_letter 1 = .ok (.getfield 7, 3) := by decide +kernel
theorem dX6_letter_4 : decode cX6_letter 4 = .ok (.sipush 810, 3) := by decide +kernel
theorem dX6_letter_7 : decode cX6_letter 7 = .ok (.iconst 3, 1) := by decide +kernel
theorem dX6_letter_8 : decode cX6_letter 8 = .ok (.sipush 200, 3) := by decide +kernel
theorem dX6_letter_11 : decode cX6_letter 11 = .ok (.iload_n 1, 1) := by decide +kernel
theorem dX6_letter_12 : decode cX6_letter 12 = .ok (.imul, 1) := by decide +kernel
theorem dX6_letter_13 : decode cX6_letter 13 = .ok (.iload_n 2, 1) := by decide +kernel
theorem dX6_letter_14 : decode cX6_letter 14 = .ok (.iadd, 1) := by decide +kernel
theorem dX6_letter_15 : decode cX6_letter 15 = .ok (.iconst 1, 1) := by decide +kernel
theorem dX6_letter_16 : decode cX6_letter 16 = .ok (.isub, 1) := by decide +kernel
theorem dX6_letter_17 : decode cX6_letter 17 = .ok (.imul, 1) := by decide +kernel
theorem dX6_letter_18 : decode cX6_letter 18 = .ok (.iadd, 1) := by decide +kernel
theorem dX6_letter_19 : decode cX6_letter 19 = .ok (.iload_n 3, 1) := by decide +kernel
theorem dX6_letter_20 : decode cX6_letter 20 = .ok (.iadd, 1) := by decide +kernel
theorem dX6_letter_21 : decode cX6_letter 21 = .ok (.iaload, 1) := by decide +kernel
theorem dX6_letter_22 : decode cX6_letter 22 = .ok (.ireturn, 1) := by decide +kernel
set_option maxRecDepth 20000 in
theorem ggX6_knows_X6_letter : GoodIn wsX6_knows wsX6_letter := goodIn_r _ [6, 1, 10, 11, 12] (by decide +kernel) (by decide +kernel)
set_option maxRecDepth 20000 in
theorem gX6_knows_X6_letter : GoodIn wsX6_knows (wsV RX6 39 RX6 yX6_letter wsX6_letter) := goodIn_app (goodIn_of _ (by decide +kernel)) ggX6_knows_X6_letter
set_option maxRecDepth 20000 in
theorem ggX6_knows_X6_isOf : GoodIn wsX6_knows wsX6_isOf := goodIn_r _ [9] (by decide +kernel) (by decide +kernel)
set_option maxRecDepth 20000 in
theorem gX6_knows_X6_isOf : GoodIn wsX6_knows (va_wsS RX6 43 yX6_isOf wsX6_isOf) := goodIn_app (goodIn_of _ (by decide +kernel)) ggX6_knows_X6_isOf
theorem dX6_knows_0 : decode cX6_knows 0 = .ok (.aload_n 0, 1) := by decide +kernel
theorem dX6_knows_1 : decode cX6_knows 1 = .ok (.iload_n 2, 1) := by decide +kernel
theorem dX6_knows_2 : decode cX6_knows 2 = .ok (.iload_n 3, 1) := by decide +kernel
theorem dX6_knows_3 : decode cX6_knows 3 = .ok (.iconst 0, 1) := by decide +kernel
theorem dX6_knows_4 : decode cX6_knows 4 = .ok (.invokevirtual 39, 3) := by decide +kernel
theorem dX6_knows_7 : decode cX6_knows 7 = .ok (.istore 4, 2) := by decide +kernel
theorem dX6_knows_9 : decode cX6_knows 9 = .ok (.iload 4, 2) := by decide +kernel
theorem dX6_knows_11 : decode cX6_knows 11 = .ok (.aload_n 0, 1) := by decide +kernel
theorem dX6_knows_12 : decode cX6_knows 12 = .ok (.getfield 7, 3) := by decide +kernel
theorem dX6_knows_15 : decode cX6_knows 15 = .ok (.sipush 6811, 3) := by decide +kernel
theorem dX6_knows_18 : decode cX6_knows 18 = .ok (.iaload, 1) := by decide +kernel
theorem dX6_knows_19 : decode cX6_knows 19 = .ok (.if_icmp .ne 16, 3) := by decide +kernel
theorem dX6_knows_22 : decode cX6_knows 22 = .ok (.aload_n 0, 1) := by decide +kernel
theorem dX6_knows_23 : decode cX6_knows 23 = .ok (.getfield 7, 3) := by decide +kernel
theorem dX6_knows_26 : decode cX6_knows 26 = .ok (.sipush 6813, 3) := by decide +kernel
theorem dX6_knows_29 : decode cX6_knows 29 = .ok (.iaload, 1) := by decide +kernel
theorem dX6_knows_30 : decode cX6_knows 30 = .ok (.iload_n 1, 1) := by decide +kernel
theorem dX6_knows_31 : decode cX6_knows 31 = .ok (.invokestatic 43, 3) := by decide +kernel
theorem dX6_knows_34 : decode cX6_knows 34 = .ok (.ireturn, 1) := by decide +kernel
theorem dX6_knows_35 : decode cX6_knows 35 = .ok (.aload_n 0, 1) := by decide +kernel
theorem dX6_knows_36 : decode cX6_knows 36 = .ok (.getfield 7, 3) := by decide +kernel
theorem dX6_knows_39 : decode cX6_knows 39 = .ok (.sipush 6812, 3) := by decide +kernel
theorem dX6_knows_42 : decode cX6_knows 42 = .ok (.iaload, 1) := by decide +kernel
theorem dX6_knows_43 : decode cX6_knows 43 = .ok (.ifCond .le 37, 3) := by decide +kernel
theorem dX6_knows_46 : decode cX6_knows 46 = .ok (.iload 4, 2) := by decide +kernel
theorem dX6_knows_48 : decode cX6_knows 48 = .ok (.aload_n 0, 1) := by decide +kernel
theorem dX6_knows_49 : decode cX6_knows 49 = .ok (.getfield 7, 3) := by decide +kernel
theorem dX6_knows_52 : decode cX6_knows 52 = .ok (.sipush 6811, 3) := by decide +kernel
theorem dX6_knows_55 : decode cX6_knows 55 = .ok (.iaload, 1) := by decide +kernel
theorem dX6_knows_56 : decode cX6_knows 56 = .ok (.iconst 1, 1) := by decide +kernel
theorem dX6_knows_57 : decode cX6_knows 57 = .ok (.iadd, 1) := by decide +kernel
theorem dX6_knows_58 : decode cX6_knows 58 = .ok (.if_icmp .ne 22, 3) := by decide +kernel
theorem dX6_knows_61 : decode cX6_knows 61 = .ok (.aload_n 0, 1) := by decide +kernel
theorem dX6_knows_62 : decode cX6_knows 62 = .ok (.getfield 7, 3) := by decide +kernel
theorem dX6_knows_65 : decode cX6_knows 65 = .ok (.sipush 6814, 3) := by decide +kernel
theorem dX6_knows_68 : decode cX6_knows 68 = .ok (.iaload, 1) := by decide +kernel
theorem dX6_knows_69 : decode cX6_knows 69 = .ok (.iload_n 1, 1) := by decide +kernel
theorem dX6_knows_70 : decode cX6_knows 70 = .ok (.invokestatic 43, 3) := by decide +kernel
theorem dX6_knows_73 : decode cX6_knows 73 = .ok (.ifCond .eq 7, 3) := by decide +kernel
theorem dX6_knows_76 : decode cX6_knows 76 = .ok (.iconst 1, 1) := by decide +kernel
theorem dX6_knows_77 : decode cX6_knows 77 = .ok (.goto 4, 3) := by decide +kernel
theorem dX6_knows_80 : decode cX6_knows 80 = .ok (.iconst 0, 1) := by decide +kernel
theorem dX6_knows_81 : decode cX6_knows 81 = .ok (.ireturn, 1) := by decide +kernel
set_option maxRecDepth 20000 in
theorem ggX6_isMeant_X6_letter : GoodIn wsX6_isMeant wsX6_letter := goodIn_r _ [6, 1, 10, 11, 12] (by decide +kernel) (by decide +kernel)
set_option maxRecDepth 20000 in
theorem gX6_isMeant_X6_letter : GoodIn wsX6_isMeant (wsV RX6 39 RX6 yX6_letter wsX6_letter) := goodIn_app (goodIn_of _ (by decide +kernel)) ggX6_isMeant_X6_letter
set_option maxRecDepth 20000 in
theorem ggX6_isMeant_X6_isOf : GoodIn wsX6_isMeant wsX6_isOf := goodIn_r _ [9] (by decide +kernel) (by decide +kernel)
set_option maxRecDepth 20000 in
theorem gX6_isMeant_X6_isOf : GoodIn wsX6_isMeant (va_wsS RX6 43 yX6_isOf wsX6_isOf) := goodIn_app (goodIn_of _ (by decide +kernel)) ggX6_isMeant_X6_isOf
theorem dX6_isMeant_0 : decode cX6_isMeant 0 = .ok (.aload_n 0, 1) := by decide +kernel
theorem dX6_isMeant_1 : decode cX6_isMeant 1 = .ok (.iload_n 2, 1) := by decide +kernel
theorem dX6_isMeant_2 : decode cX6_isMeant 2 = .ok (.iload_n 3, 1) := by decide +kernel
theorem dX6_isMeant_3 : decode cX6_isMeant 3 = .ok (.iconst 1, 1) := by decide +kernel
theorem dX6_isMeant_4 : decode cX6_isMeant 4 = .ok (.invokevirtual 39, 3) := by decide +kernel
theorem dX6_isMeant_7 : decode cX6_isMeant 7 = .ok (.istore 4, 2) := by decide +kernel
theorem dX6_isMeant_9 : decode cX6_isMeant 9 = .ok (.iload 4, 2) := by decide +kernel
theorem dX6_isMeant_11 : decode cX6_isMeant 11 = .ok (.iload_n 1, 1) := by decide +kernel
theorem dX6_isMeant_12 : decode cX6_isMeant 12 = .ok (.if_icmp .eq 30, 3) := by decide +kernel
theorem dX6_isMeant_15 : decode cX6_isMeant 15 = .ok (.iload 4, 2) := by decide +kernel
theorem dX6_isMeant_17 : decode cX6_isMeant 17 = .ok (.bipush 9, 2) := by decide +kernel
theorem dX6_isMeant_19 : decode cX6_isMeant 19 = .ok (.if_icmp .le 27, 3) := by decide +kernel
theorem dX6_isMeant_22 : decode cX6_isMeant 22 = .ok (.aload_n 0, 1) := by decide +kernel
theorem dX6_isMeant_23 : decode cX6_isMeant 23 = .ok (.getfield 7, 3) := by decide +kernel
theorem dX6_isMeant_26 : decode cX6_isMeant 26 = .ok (.bipush 40, 2) := by decide +kernel
theorem dX6_isMeant_28 : decode cX6_isMeant 28 = .ok (.iload_n 1, 1) := by decide +kernel
theorem dX6_isMeant_29 : decode cX6_isMeant 29 = .ok (.iadd, 1) := by decide +kernel
theorem dX6_isMeant_30 : decode cX6_isMeant 30 = .ok (.iaload, 1) := by decide +kernel
theorem dX6_isMeant_31 : decode cX6_isMeant 31 = .ok (.iload 4, 2) := by decide +kernel
theorem dX6_isMeant_33 : decode cX6_isMeant 33 = .ok (.bipush 10, 2) := by decide +kernel
theorem dX6_isMeant_35 : decode cX6_isMeant 35 = .ok (.isub, 1) := by decide +kernel
theorem dX6_isMeant_36 : decode cX6_isMeant 36 = .ok (.invokestatic 43, 3) := by decide +kernel
theorem dX6_isMeant_39 : decode cX6_isMeant 39 = .ok (.ifCond .eq 7, 3) := by decide +kernel
theorem dX6_isMeant_42 : decode cX6_isMeant 42 = .ok (.iconst 1, 1) := by decide +kernel
theorem dX6_isMeant_43 : decode cX6_isMeant 43 = .ok (.goto 4, 3) := by decide +kernel
theorem dX6_isMeant_46 : decode cX6_isMeant 46 = .ok (.iconst 0, 1) := by decide +kernel
theorem dX6_isMeant_47 : decode cX6_isMeant 47 = .ok (.ireturn, 1) := by decide +kernel
theorem dX6_hasInMind_0 : decode cX6_hasInMind 0 = .ok (.iconst 0, 1) := by decide +kernel
theorem dX6_hasInMind_1 : decode cX6_hasInMind 1 = .ok (.istore 4, 2) := by decide +kernel
theorem dX6_hasInMind_3 : decode cX6_hasInMind 3 = .ok (.iconst 0, 1) := by decide +kernel
theorem dX6_hasInMind_4 : decode cX6_hasInMind 4 = .ok (.istore 5, 2) := by decide +kernel
theorem dX6_hasInMind_6 : decode cX6_hasInMind 6 = .ok (.iload 5, 2) := by decide +kernel
theorem dX6_hasInMind_8 : decode cX6_hasInMind 8 = .ok (.aload_n 0, 1) := by decide +kernel
theorem dX6_hasInMind_9 : decode cX6_hasInMind 9 = .ok (.getfield 7, 3) := by decide +kernel
theorem dX6_hasInMind_12 : decode cX6_hasInMind 12 = .ok (.sipush 160, 3) := by decide +kernel
theorem dX6_hasInMind_15 : decode cX6_hasInMind 15 = .ok (.iload_n 1, 1) := by decide +kernel
theorem dX6_hasInMind_16 : decode cX6_hasInMind 16 = .ok (.iadd, 1) := by decide +kernel
theorem dX6_hasInMind_17 : decode cX6_hasInMind 17 = .ok (.iaload, 1) := by decide +kernel
theorem dX6_hasInMind_18 : decode cX6_hasInMind 18 = .ok (.if_icmp .ge 60, 3) := by decide +kernel
theorem dX6_hasInMind_21 : decode cX6_hasInMind 21 = .ok (.sipush 170, 3) := by decide +kernel
theorem dX6_hasInMind_24 : decode cX6_hasInMind 24 = .ok (.bipush 16, 2) := by decide +kernel
theorem dX6_hasInMind_26 : decode cX6_hasInMind 26 = .ok (.iload_n 1, 1) := by decide +kernel
theorem dX6_hasInMind_27 : decode cX6_hasInMind 27 = .ok (.imul, 1) := by decide +kernel
theorem dX6_hasInMind_28 : decode cX6_hasInMind 28 = .ok (.iadd, 1) := by decide +kernel
theorem dX6_hasInMind_29 : decode cX6_hasInMind 29 = .ok (.iconst 2, 1) := by decide +kernel
theorem dX6_hasInMind_30 : decode cX6_hasInMind 30 = .ok (.iload 5, 2) := by decide +kernel
theorem dX6_hasInMind_32 : decode cX6_hasInMind 32 = .ok (.imul, 1) := by decide +kernel
theorem dX6_hasInMind_33 : decode cX6_hasInMind 33 = .ok (.iadd, 1) := by decide +kernel
theorem dX6_hasInMind_34 : decode cX6_hasInMind 34 = .ok (.istore 6, 2) := by decide +kernel
theorem dX6_hasInMind_36 : decode cX6_hasInMind 36 = .ok (.iload 4, 2) := by decide +kernel
theorem dX6_hasInMind_38 : decode cX6_hasInMind 38 = .ok (.ifCond .ne 27, 3) := by decide +kernel
theorem dX6_hasInMind_41 : decode cX6_hasInMind 41 = .ok (.aload_n 0, 1) := by decide +kernel
theorem dX6_hasInMind_42 : decode cX6_hasInMind 42 = .ok (.getfield 7, 3) := by decide +kernel
theorem dX6_hasInMind_45 : decode cX6_hasInMind 45 = .ok (.iload 6, 2) := by decide +kernel
theorem dX6_hasInMind_47 : decode cX6_hasInMind 47 = .ok (.iaload, 1) := by decide +kernel
theorem dX6_hasInMind_48 : decode cX6_hasInMind 48 = .ok (.iload_n 2, 1) := by decide +kernel
theorem dX6_hasInMind_49 : decode cX6_hasInMind 49 = .ok (.if_icmp .ne 20, 3) := by decide +kernel
theorem dX6_hasInMind_52 : decode cX6_hasInMind 52 = .ok (.aload_n 0, 1) := by decide +kernel
theorem dX6_hasInMind_53 : decode cX6_hasInMind 53 = .ok (.getfield 7, 3) := by decide +kernel
theorem dX6_hasInMind_56 : decode cX6_hasInMind 56 = .ok (.iload 6, 2) := by decide +kernel
theorem dX6_hasInMind_58 : decode cX6_hasInMind 58 = .ok (.iconst 1, 1) := by decide +kernel
theorem dX6_hasInMind_59 : decode cX6_hasInMind 59 = .ok (.iadd, 1) := by decide +kernel
theorem dX6_hasInMind_60 : decode cX6_hasInMind 60 = .ok (.iaload, 1) := by decide +kernel
theorem dX6_hasInMind_61 : decode cX6_hasInMind 61 = .ok (.iload_n 3, 1) := by decide +kernel
theorem dX6_hasInMind_62 : decode cX6_hasInMind 62 = .ok (.if_icmp .ne 7, 3) := by decide +kernel
theorem dX6_hasInMind_65 : decode cX6_hasInMind 65 = .ok (.iconst 1, 1) := by decide +kernel
theorem dX6_hasInMind_66 : decode cX6_hasInMind 66 = .ok (.goto 4, 3) := by decide +kernel
theorem dX6_hasInMind_69 : decode cX6_hasInMind 69 = .ok (.iconst 0, 1) := by decide +kernel
theorem dX6_hasInMind_70 : decode cX6_hasInMind 70 = .ok (.istore 4, 2) := by decide +kernel
theorem dX6_hasInMind_72 : decode cX6_hasInMind 72 = .ok (.iinc 5 1, 3) := by decide +kernel
theorem dX6_hasInMind_75 : decode cX6_hasInMind 75 = .ok (.goto (-69), 3) := by decide +kernel
theorem dX6_hasInMind_78 : decode cX6_hasInMind 78 = .ok (.iload 4, 2) := by decide +kernel
theorem dX6_hasInMind_80 : decode cX6_hasInMind 80 = .ok (.ireturn, 1) := by decide +kernel
theorem dX6_remember_0 : decode cX6_remember 0 = .ok (.aload_n 0, 1) := by decide +kernel
theorem dX6_remember_1 : decode cX6_remember 1 = .ok (.getfield 7, 3) := by decide +kernel
theorem dX6_remember_4 : decode cX6_remember 4 = .ok (.bipush 30, 2) := by decide +kernel
theorem dX6_remember_6 : decode cX6_remember 6 = .ok (.iload_n 1, 1) := by decide +kernel
theorem dX6_remember_7 : decode cX6_remember 7 = .ok (.iadd, 1) := by decide +kernel
theorem dX6_remember_8 : decode cX6_remember 8 = .ok (.iaload, 1) := by decide +kernel
theorem dX6_remember_9 : decode cX6_remember 9 = .ok (.ifCond .ne 4, 3) := by decide +kernel
theorem dX6_remember_12 : decode cX6_remember 12 = .ok (.return_, 1) := by decide +kernel
theorem dX6_remember_13 : decode cX6_remember 13 = .ok (.aload_n 0, 1) := by decide +kernel
theorem dX6_remember_14 : decode cX6_remember 14 = .ok (.getfield 7, 3) := by decide +kernel
theorem dX6_remember_17 : decode cX6_remember 17 = .ok (.sipush 160, 3) := by decide +kernel
theorem dX6_remember_20 : decode cX6_remember 20 = .ok (.iload_n 1, 1) := by decide +kernel
theorem dX6_remember_21 : decode cX6_remember 21 = .ok (.iadd, 1) := by decide +kernel
theorem dX6_remember_22 : decode cX6_remember 22 = .ok (.iaload, 1) := by decide +kernel
theorem dX6_remember_23 : decode cX6_remember 23 = .ok (.aload_n 0, 1) := by decide +kernel
theorem dX6_remember_24 : decode cX6_remember 24 = .ok (.getfield 7, 3) := by decide +kernel
theorem dX6_remember_27 : decode cX6_remember 27 = .ok (.bipush 30, 2) := by decide +kernel
theorem dX6_remember_29 : decode cX6_remember 29 = .ok (.iload_n 1, 1) := by decide +kernel
theorem dX6_remember_30 : decode cX6_remember 30 = .ok (.iadd, 1) := by decide +kernel
theorem dX6_remember_31 : decode cX6_remember 31 = .ok (.iaload, 1) := by decide +kernel
theorem dX6_remember_32 : decode cX6_remember 32 = .ok (.if_icmp .ne 79, 3) := by decide +kernel
theorem dX6_remember_35 : decode cX6_remember 35 = .ok (.iconst 0, 1) := by decide +kernel
theorem dX6_remember_36 : decode cX6_remember 36 = .ok (.istore 4, 2) := by decide +kernel
theorem dX6_remember_38 : decode cX6_remember 38 = .ok (.iload 4, 2) := by decide +kernel
theorem dX6_remember_40 : decode cX6_remember 40 = .ok (.iconst 2, 1) := by decide +kernel
theorem dX6_remember_41 : decode cX6_remember 41 = .ok (.aload_n 0, 1) := by decide +kernel
theorem dX6_remember_42 : decode cX6_remember 42 = .ok (.getfield 7, 3) := by decide +kernel
theorem dX6_remember_45 : decode cX6_remember 45 = .ok (.sipush 160, 3) := by decide +kernel
theorem dX6_remember_48 : decode cX6_remember 48 = .ok (.iload_n 1, 1) := by decide +kernel
theorem dX6_remember_49 : decode cX6_remember 49 = .ok (.iadd, 1) := by decide +kernel
theorem dX6_remember_50 : decode cX6_remember 50 = .ok (.iaload, 1) := by decide +kernel
theorem dX6_remember_51 : decode cX6_remember 51 = .ok (.imul, 1) := by decide +kernel
theorem dX6_remember_52 : decode cX6_remember 52 = .ok (.iconst 2, 1) := by decide +kernel
theorem dX6_remember_53 : decode cX6_remember 53 = .ok (.isub, 1) := by decide +kernel
theorem dX6_remember_54 : decode cX6_remember 54 = .ok (.if_icmp .ge 43, 3) := by decide +kernel
theorem dX6_remember_57 : decode cX6_remember 57 = .ok (.aload_n 0, 1) := by decide +kernel
theorem dX6_remember_58 : decode cX6_remember 58 = .ok (.getfield 7, 3) := by decide +kernel
theorem dX6_remember_61 : decode cX6_remember 61 = .ok (.sipush 170, 3) := by decide +kernel
theorem dX6_remember_64 : decode cX6_remember 64 = .ok (.bipush 16, 2) := by decide +kernel
theorem dX6_remember_66 : decode cX6_remember 66 = .ok (.iload_n 1, 1) := by decide +kernel
theorem dX6_remember_67 : decode cX6_remember 67 = .ok (.imul, 1) := by decide +kernel
theorem dX6_remember_68 : decode cX6_remember 68 = .ok (.iadd, 1) := by decide +kernel
theorem dX6_remember_69 : decode cX6_remember 69 = .ok (.iload 4, 2) := by decide +kernel
theorem dX6_remember_71 : decode cX6_remember 71 = .ok (.iadd, 1) := by decide +kernel
theorem dX6_remember_72 : decode cX6_remember 72 = .ok (.aload_n 0, 1) := by decide +kernel
theorem dX6_remember_73 : decode cX6_remember 73 = .ok (.getfield 7, 3) := by decide +kernel
theorem dX6_remember_76 : decode cX6_remember 76 = .ok (.sipush 170, 3) := by decide +kernel
theorem dX6_remember_79 : decode cX6_remember 79 = .ok (.bipush 16, 2) := by decide +kernel
theorem dX6_remember_81 : decode cX6_remember 81 = .ok (.iload_n 1, 1) := by decide +kernel
theorem dX6_remember_82 : decode cX6_remember 82 = .ok (.imul, 1) := by decide +kernel
theorem dX6_remember_83 : decode cX6_remember 83 = .ok (.iadd, 1) := by decide +kernel
theorem dX6_remember_84 : decode cX6_remember 84 = .ok (.iload 4, 2) := by decide +kernel
theorem dX6_remember_86 : decode cX6_remember 86 = .ok (.iadd, 1) := by decide +kernel
theorem dX6_remember_87 : decode cX6_remember 87 = .ok (.iconst 2, 1) := by decide +kernel
theorem dX6_remember_88 : decode cX6_remember 88 = .ok (.iadd, 1) := by decide +kernel
theorem dX6_remember_89 : decode cX6_remember 89 = .ok (.iaload, 1) := by decide +kernel
theorem dX6_remember_90 : decode cX6_remember 90 = .ok (.iastore, 1) := by decide +kernel
theorem dX6_remember_91 : decode cX6_remember 91 = .ok (.iinc 4 1, 3) := by decide +kernel
theorem dX6_remember_94 : decode cX6_remember 94 = .ok (.goto (-56), 3) := by decide +kernel
theorem dX6_remember_97 : decode cX6_remember 97 = .ok (.aload_n 0, 1) := by decide +kernel
theorem dX6_remember_98 : decode cX6_remember 98 = .ok (.getfield 7, 3) := by decide +kernel
theorem dX6_remember_101 : decode cX6_remember 101 = .ok (.sipush 160, 3) := by decide +kernel
theorem dX6_remember_104 : decode cX6_remember 104 = .ok (.iload_n 1, 1) := by decide +kernel
theorem dX6_remember_105 : decode cX6_remember 105 = .ok (.iadd, 1) := by decide +kernel
theorem dX6_remember_106 : decode cX6_remember 106 = .ok (.dup2, 1) := by decide +kernel
theorem dX6_remember_107 : decode cX6_remember 107 = .ok (.iaload, 1) := by decide +kernel
theorem dX6_remember_108 : decode cX6_remember 108 = .ok (.iconst 1, 1) := by decide +kernel
theorem dX6_remember_109 : decode cX6_remember 109 = .ok (.isub, 1) := by decide +kernel
theorem dX6_remember_110 : decode cX6_remember 110 = .ok (.iastore, 1) := by decide +kernel
theorem dX6_remember_111 : decode cX6_remember 111 = .ok (.sipush 170, 3) := by decide +kernel
theorem dX6_remember_114 : decode cX6_remember 114 = .ok (.bipush 16, 2) := by decide +kernel
theorem dX6_remember_116 : decode cX6_remember 116 = .ok (.iload_n 1, 1) := by decide +kernel
theorem dX6_remember_117 : decode cX6_remember 117 = .ok (.imul, 1) := by decide +kernel
theorem dX6_remember_118 : decode cX6_remember 118 = .ok (.iadd, 1) := by decide +kernel
theorem dX6_remember_119 : decode cX6_remember 119 = .ok (.iconst 2, 1) := by decide +kernel
theorem dX6_remember_120 : decode cX6_remember 120 = .ok (.aload_n 0, 1) := by decide +kernel
theorem dX6_remember_121 : decode cX6_remember 121 = .ok (.getfield 7, 3) := by decide +kernel
theorem dX6_remember_124 : decode cX6_remember 124 = .ok (.sipush 160, 3) := by decide +kernel
theorem dX6_remember_127 : decode cX6_remember 127 = .ok (.iload_n 1, 1) := by decide +kernel
theorem dX6_remember_128 : decode cX6_remember 128 = .ok (.iadd, 1) := by decide +kernel
theorem dX6_remember_129 : decode cX6_remember 129 = .ok (.iaload, 1) := by decide +kernel
theorem dX6_remember_130 : decode cX6_remember 130 = .ok (.imul, 1) := by decide +kernel
theorem dX6_remember_131 : decode cX6_remember 131 = .ok (.iadd, 1) := by decide +kernel
end
section
theorem dX6_remember_132 : decode cX6_remember 132 = .ok (.istore 4, 2) := by decide +kernel
theorem dX6_remember_134 : decode cX6_remember 134 = .ok (.aload_n 0, 1) := by decide +kernel
theorem dX6_remember_135 : decode cX6_remember 135 = .ok (.getfield 7, 3) := by decide +kernel
theorem dX6_remember_138 : decode cX6_remember 138 = .ok (.iload 4, 2) := by decide +kernel
theorem dX6_remember_140 : decode cX6_remember 140 = .ok (.iload_n 2, 1) := by decide +kernel
theorem dX6_remember_141 : decode cX6_remember 141 = .ok (.iastore, 1) := by decide +kernel
theorem dX6_remember_142 : decode cX6_remember 142 = .ok (.aload_n 0, 1) := by decide +kernel
theorem dX6_remember_143 : decode cX6_remember 143 = .ok (.getfield 7, 3) := by decide +kernel
theorem dX6_remember_146 : decode cX6_remember 146 = .ok (.iload 4, 2) := by decide +kernel
theorem dX6_remember_148 : decode cX6_remember 148 = .ok (.iconst 1, 1) := by decide +kernel
theorem dX6_remember_149 : decode cX6_remember 149 = .ok (.iadd, 1) := by decide +kernel
theorem dX6_remember_150 : decode cX6_remember 150 = .ok (.iload_n 3, 1) := by decide +kernel
theorem dX6_remember_151 : decode cX6_remember 151 = .ok (.iastore, 1) := by decide +kernel
theorem dX6_remember_152 : decode cX6_remember 152 = .ok (.aload_n 0, 1) := by decide +kernel
theorem dX6_remember_153 : decode cX6_remember 153 = .ok (.getfield 7, 3) := by decide +kernel
theorem dX6_remember_156 : decode cX6_remember 156 = .ok (.sipush 160, 3) := by decide +kernel
theorem dX6_remember_159 : decode cX6_remember 159 = .ok (.iload_n 1, 1) := by decide +kernel
theorem dX6_remember_160 : decode cX6_remember 160 = .ok (.iadd, 1) := by decide +kernel
theorem dX6_remember_161 : decode cX6_remember 161 = .ok (.dup2, 1) := by decide +kernel
theorem dX6_remember_162 : decode cX6_remember 162 = .ok (.iaload, 1) := by decide +kernel
theorem dX6_remember_163 : decode cX6_remember 163 = .ok (.iconst 1, 1) := by decide +kernel
theorem dX6_remember_164 : decode cX6_remember 164 = .ok (.iadd, 1) := by decide +kernel
theorem dX6_remember_165 : decode cX6_remember 165 = .ok (.iastore, 1) := by decide +kernel
theorem dX6_remember_166 : decode cX6_remember 166 = .ok (.return_, 1) := by decide +kernel
theorem dX6_addToAir_0 : decode cX6_addToAir 0 = .ok (.sipush 490, 3) := by decide +kernel
theorem dX6_addToAir_3 : decode cX6_addToAir 3 = .ok (.iconst 5, 1) := by decide +kernel
theorem dX6_addToAir_4 : decode cX6_addToAir 4 = .ok (.aload_n 0, 1) := by decide +kernel
theorem dX6_addToAir_5 : decode cX6_addToAir 5 = .ok (.getfield 7, 3) := by decide +kernel
theorem dX6_addToAir_8 : decode cX6_addToAir 8 = .ok (.sipush 6815, 3) := by decide +kernel
theorem dX6_addToAir_11 : decode cX6_addToAir 11 = .ok (.iaload, 1) := by decide +kernel
theorem dX6_addToAir_12 : decode cX6_addToAir 12 = .ok (.imul, 1) := by decide +kernel
theorem dX6_addToAir_13 : decode cX6_addToAir 13 = .ok (.iadd, 1) := by decide +kernel
theorem dX6_addToAir_14 : decode cX6_addToAir 14 = .ok (.istore 6, 2) := by decide +kernel
theorem dX6_addToAir_16 : decode cX6_addToAir 16 = .ok (.aload_n 0, 1) := by decide +kernel
theorem dX6_addToAir_17 : decode cX6_addToAir 17 = .ok (.getfield 7, 3) := by decide +kernel
theorem dX6_addToAir_20 : decode cX6_addToAir 20 = .ok (.iload 6, 2) := by decide +kernel
theorem dX6_addToAir_22 : decode cX6_addToAir 22 = .ok (.iload_n 1, 1) := by decide +kernel
theorem dX6_addToAir_23 : decode cX6_addToAir 23 = .ok (.iastore, 1) := by decide +kernel
theorem dX6_addToAir_24 : decode cX6_addToAir 24 = .ok (.aload_n 0, 1) := by decide +kernel
theorem dX6_addToAir_25 : decode cX6_addToAir 25 = .ok (.getfield 7, 3) := by decide +kernel
theorem dX6_addToAir_28 : decode cX6_addToAir 28 = .ok (.iload 6, 2) := by decide +kernel
theorem dX6_addToAir_30 : decode cX6_addToAir 30 = .ok (.iconst 1, 1) := by decide +kernel
theorem dX6_addToAir_31 : decode cX6_addToAir 31 = .ok (.iadd, 1) := by decide +kernel
theorem dX6_addToAir_32 : decode cX6_addToAir 32 = .ok (.iload_n 2, 1) := by decide +kernel
theorem dX6_addToAir_33 : decode cX6_addToAir 33 = .ok (.iastore, 1) := by decide +kernel
theorem dX6_addToAir_34 : decode cX6_addToAir 34 = .ok (.aload_n 0, 1) := by decide +kernel
theorem dX6_addToAir_35 : decode cX6_addToAir 35 = .ok (.getfield 7, 3) := by decide +kernel
theorem dX6_addToAir_38 : decode cX6_addToAir 38 = .ok (.iload 6, 2) := by decide +kernel
theorem dX6_addToAir_40 : decode cX6_addToAir 40 = .ok (.iconst 2, 1) := by decide +kernel
theorem dX6_addToAir_41 : decode cX6_addToAir 41 = .ok (.iadd, 1) := by decide +kernel
theorem dX6_addToAir_42 : decode cX6_addToAir 42 = .ok (.iload_n 3, 1) := by decide +kernel
theorem dX6_addToAir_43 : decode cX6_addToAir 43 = .ok (.iastore, 1) := by decide +kernel
theorem dX6_addToAir_44 : decode cX6_addToAir 44 = .ok (.aload_n 0, 1) := by decide +kernel
theorem dX6_addToAir_45 : decode cX6_addToAir 45 = .ok (.getfield 7, 3) := by decide +kernel
theorem dX6_addToAir_48 : decode cX6_addToAir 48 = .ok (.iload 6, 2) := by decide +kernel
theorem dX6_addToAir_50 : decode cX6_addToAir 50 = .ok (.iconst 3, 1) := by decide +kernel
theorem dX6_addToAir_51 : decode cX6_addToAir 51 = .ok (.iadd, 1) := by decide +kernel
theorem dX6_addToAir_52 : decode cX6_addToAir 52 = .ok (.iload 4, 2) := by decide +kernel
theorem dX6_addToAir_54 : decode cX6_addToAir 54 = .ok (.iastore, 1) := by decide +kernel
theorem dX6_addToAir_55 : decode cX6_addToAir 55 = .ok (.aload_n 0, 1) := by decide +kernel
theorem dX6_addToAir_56 : decode cX6_addToAir 56 = .ok (.getfield 7, 3) := by decide +kernel
theorem dX6_addToAir_59 : decode cX6_addToAir 59 = .ok (.iload 6, 2) := by decide +kernel
theorem dX6_addToAir_61 : decode cX6_addToAir 61 = .ok (.iconst 4, 1) := by decide +kernel
theorem dX6_addToAir_62 : decode cX6_addToAir 62 = .ok (.iadd, 1) := by decide +kernel
theorem dX6_addToAir_63 : decode cX6_addToAir 63 = .ok (.iload 5, 2) := by decide +kernel
theorem dX6_addToAir_65 : decode cX6_addToAir 65 = .ok (.iastore, 1) := by decide +kernel
theorem dX6_addToAir_66 : decode cX6_addToAir 66 = .ok (.aload_n 0, 1) := by decide +kernel
theorem dX6_addToAir_67 : decode cX6_addToAir 67 = .ok (.getfield 7, 3) := by decide +kernel
theorem dX6_addToAir_70 : decode cX6_addToAir 70 = .ok (.sipush 6815, 3) := by decide +kernel
theorem dX6_addToAir_73 : decode cX6_addToAir 73 = .ok (.dup2, 1) := by decide +kernel
theorem dX6_addToAir_74 : decode cX6_addToAir 74 = .ok (.iaload, 1) := by decide +kernel
theorem dX6_addToAir_75 : decode cX6_addToAir 75 = .ok (.iconst 1, 1) := by decide +kernel
theorem dX6_addToAir_76 : decode cX6_addToAir 76 = .ok (.iadd, 1) := by decide +kernel
theorem dX6_addToAir_77 : decode cX6_addToAir 77 = .ok (.iastore, 1) := by decide +kernel
theorem dX6_addToAir_78 : decode cX6_addToAir 78 = .ok (.return_, 1) := by decide +kernel
set_option maxRecDepth 20000 in
theorem ggX6_keyFor_X6_isOf : GoodIn wsX6_keyFor wsX6_isOf := goodIn_r _ [5] (by decide +kernel) (by decide +kernel)
set_option maxRecDepth 20000 in
theorem gX6_keyFor_X6_isOf : GoodIn wsX6_keyFor (va_wsS RX6 43 yX6_isOf wsX6_isOf) := goodIn_app (goodIn_of _ (by decide +kernel)) ggX6_keyFor_X6_isOf
theorem dX6_keyFor_0 : decode cX6_keyFor 0 = .ok (.aload_n 0, 1) := by decide +kernel
theorem dX6_keyFor_1 : decode cX6_keyFor 1 = .ok (.getfield 7, 3) := by decide +kernel
theorem dX6_keyFor_4 : decode cX6_keyFor 4 = .ok (.sipush 6812, 3) := by decide +kernel
theorem dX6_keyFor_7 : decode cX6_keyFor 7 = .ok (.iaload, 1) := by decide +kernel
theorem dX6_keyFor_8 : decode cX6_keyFor 8 = .ok (.iconst 2, 1) := by decide +kernel
theorem dX6_keyFor_9 : decode cX6_keyFor 9 = .ok (.if_icmp .ne 29, 3) := by decide +kernel
theorem dX6_keyFor_12 : decode cX6_keyFor 12 = .ok (.aload_n 0, 1) := by decide +kernel
theorem dX6_keyFor_13 : decode cX6_keyFor 13 = .ok (.getfield 7, 3) := by decide +kernel
theorem dX6_keyFor_16 : decode cX6_keyFor 16 = .ok (.sipush 6814, 3) := by decide +kernel
theorem dX6_keyFor_19 : decode cX6_keyFor 19 = .ok (.iaload, 1) := by decide +kernel
theorem dX6_keyFor_20 : decode cX6_keyFor 20 = .ok (.iload_n 1, 1) := by decide +kernel
theorem dX6_keyFor_21 : decode cX6_keyFor 21 = .ok (.invokestatic 43, 3) := by decide +kernel
theorem dX6_keyFor_24 : decode cX6_keyFor 24 = .ok (.ifCond .eq 14, 3) := by decide +kernel
theorem dX6_keyFor_27 : decode cX6_keyFor 27 = .ok (.aload_n 0, 1) := by decide +kernel
theorem dX6_keyFor_28 : decode cX6_keyFor 28 = .ok (.getfield 7, 3) := by decide +kernel
theorem dX6_keyFor_31 : decode cX6_keyFor 31 = .ok (.sipush 6811, 3) := by decide +kernel
theorem dX6_keyFor_34 : decode cX6_keyFor 34 = .ok (.iaload, 1) := by decide +kernel
theorem dX6_keyFor_35 : decode cX6_keyFor 35 = .ok (.iconst 1, 1) := by decide +kernel
theorem dX6_keyFor_36 : decode cX6_keyFor 36 = .ok (.iadd, 1) := by decide +kernel
theorem dX6_keyFor_37 : decode cX6_keyFor 37 = .ok (.ireturn, 1) := by decide +kernel
theorem dX6_keyFor_38 : decode cX6_keyFor 38 = .ok (.aload_n 0, 1) := by decide +kernel
theorem dX6_keyFor_39 : decode cX6_keyFor 39 = .ok (.getfield 7, 3) := by decide +kernel
theorem dX6_keyFor_42 : decode cX6_keyFor 42 = .ok (.sipush 6813, 3) := by decide +kernel
theorem dX6_keyFor_45 : decode cX6_keyFor 45 = .ok (.iaload, 1) := by decide +kernel
theorem dX6_keyFor_46 : decode cX6_keyFor 46 = .ok (.iload_n 1, 1) := by decide +kernel
theorem dX6_keyFor_47 : decode cX6_keyFor 47 = .ok (.invokestatic 43, 3) := by decide +kernel
theorem dX6_keyFor_50 : decode cX6_keyFor 50 = .ok (.ifCond .eq 14, 3) := by decide +kernel
theorem dX6_keyFor_53 : decode cX6_keyFor 53 = .ok (.aload_n 0, 1) := by decide +kernel
theorem dX6_keyFor_54 : decode cX6_keyFor 54 = .ok (.getfield 7, 3) := by decide +kernel
theorem dX6_keyFor_57 : decode cX6_keyFor 57 = .ok (.sipush 6811, 3) := by decide +kernel
theorem dX6_keyFor_60 : decode cX6_keyFor 60 = .ok (.iaload, 1) := by decide +kernel
theorem dX6_keyFor_61 : decode cX6_keyFor 61 = .ok (.goto 5, 3) := by decide +kernel
theorem dX6_keyFor_64 : decode cX6_keyFor 64 = .ok (.bipush (-6), 2) := by decide +kernel
theorem dX6_keyFor_66 : decode cX6_keyFor 66 = .ok (.ireturn, 1) := by decide +kernel
set_option maxRecDepth 20000 in
theorem ggX6_tell_X6_isLamp : GoodIn wsX6_tell wsX6_isLamp := goodIn_r _ [5, 6, 7, 4, 8] (by decide +kernel) (by decide +kernel)
set_option maxRecDepth 20000 in
theorem gX6_tell_X6_isLamp : GoodIn wsX6_tell (va_wsS RX6 24 yX6_isLamp wsX6_isLamp) := goodIn_app (goodIn_of _ (by decide +kernel)) ggX6_tell_X6_isLamp
set_option maxRecDepth 20000 in
theorem ggX6_tell_X6_in : GoodIn wsX6_tell wsX6_in := goodIn_r _ [8] (by decide +kernel) (by decide +kernel)
set_option maxRecDepth 20000 in
theorem gX6_tell_X6_in : GoodIn wsX6_tell (va_wsS RX6 20 yX6_in wsX6_in) := goodIn_app (goodIn_of _ (by decide +kernel)) ggX6_tell_X6_in
set_option maxRecDepth 20000 in
theorem ggX6_tell_X6_sleeps : GoodIn wsX6_tell wsX6_sleeps := goodIn_r _ [12, 1, 28, 29, 30] (by decide +kernel) (by decide +kernel)
set_option maxRecDepth 20000 in
theorem gX6_tell_X6_sleeps : GoodIn wsX6_tell (wsV RX6 36 RX6 yX6_sleeps wsX6_sleeps) := goodIn_app (goodIn_of _ (by decide +kernel)) ggX6_tell_X6_sleeps
set_option maxRecDepth 20000 in
theorem ggX6_tell_X6_keyFor : GoodIn wsX6_tell wsX6_keyFor := goodIn_r _ [16, 1, 17, 18, 4, 19, 28, 29, 30] (by decide +kernel) (by decide +kernel)
set_option maxRecDepth 20000 in
theorem gX6_tell_X6_keyFor : GoodIn wsX6_tell (wsV RX6 47 RX6 yX6_keyFor wsX6_keyFor) := goodIn_app (goodIn_of _ (by decide +kernel)) ggX6_tell_X6_keyFor
set_option maxRecDepth 20000 in
theorem ggX6_tell_X6_remember : GoodIn wsX6_tell wsX6_remember := goodIn_r _ [23, 1, 28, 29, 30] (by decide +kernel) (by decide +kernel)
set_option maxRecDepth 20000 in
theorem gX6_tell_X6_remember : GoodIn wsX6_tell (wsV RX6 50 RX6 yX6_remember wsX6_remember) := goodIn_app (goodIn_of _ (by decide +kernel)) ggX6_tell_X6_remember
set_option maxRecDepth 20000 in
theorem ggX6_tell_X6_addToAir : GoodIn wsX6_tell wsX6_addToAir := goodIn_r _ [27, 1, 28, 29, 30] (by decide +kernel) (by decide +kernel)
set_option maxRecDepth 20000 in
theorem gX6_tell_X6_addToAir : GoodIn wsX6_tell (wsV RX6 54 RX6 yX6_addToAir wsX6_addToAir) := goodIn_app (goodIn_of _ (by decide +kernel)) ggX6_tell_X6_addToAir
theorem dX6_tell_0 : decode cX6_tell 0 = .ok (.iload_n 1, 1) := by decide +kernel
theorem dX6_tell_1 : decode cX6_tell 1 = .ok (.invokestatic 24, 3) := by decide +kernel
theorem dX6_tell_4 : decode cX6_tell 4 = .ok (.ifCond .ne 5, 3) := by decide +kernel
theorem dX6_tell_7 : decode cX6_tell 7 = .ok (.iconst (-1), 1) := by decide +kernel
theorem dX6_tell_8 : decode cX6_tell 8 = .ok (.ireturn, 1) := by decide +kernel
theorem dX6_tell_9 : decode cX6_tell 9 = .ok (.iload_n 2, 1) := by decide +kernel
theorem dX6_tell_10 : decode cX6_tell 10 = .ok (.iconst 0, 1) := by decide +kernel
theorem dX6_tell_11 : decode cX6_tell 11 = .ok (.bipush 13, 2) := by decide +kernel
theorem dX6_tell_13 : decode cX6_tell 13 = .ok (.invokestatic 20, 3) := by decide +kernel
theorem dX6_tell_16 : decode cX6_tell 16 = .ok (.ifCond .eq 24, 3) := by decide +kernel
theorem dX6_tell_19 : decode cX6_tell 19 = .ok (.iload_n 3, 1) := by decide +kernel
theorem dX6_tell_20 : decode cX6_tell 20 = .ok (.iconst 0, 1) := by decide +kernel
theorem dX6_tell_21 : decode cX6_tell 21 = .ok (.bipush 99, 2) := by decide +kernel
theorem dX6_tell_23 : decode cX6_tell 23 = .ok (.invokestatic 20, 3) := by decide +kernel
theorem dX6_tell_26 : decode cX6_tell 26 = .ok (.ifCond .eq 14, 3) := by decide +kernel
theorem dX6_tell_29 : decode cX6_tell 29 = .ok (.iload 4, 2) := by decide +kernel
theorem dX6_tell_31 : decode cX6_tell 31 = .ok (.iconst 1, 1) := by decide +kernel
theorem dX6_tell_32 : decode cX6_tell 32 = .ok (.bipush 7, 2) := by decide +kernel
theorem dX6_tell_34 : decode cX6_tell 34 = .ok (.invokestatic 20, 3) := by decide +kernel
theorem dX6_tell_37 : decode cX6_tell 37 = .ok (.ifCond .ne 6, 3) := by decide +kernel
theorem dX6_tell_40 : decode cX6_tell 40 = .ok (.bipush (-2), 2) := by decide +kernel
theorem dX6_tell_42 : decode cX6_tell 42 = .ok (.ireturn, 1) := by decide +kernel
theorem dX6_tell_43 : decode cX6_tell 43 = .ok (.aload_n 0, 1) := by decide +kernel
theorem dX6_tell_44 : decode cX6_tell 44 = .ok (.iload_n 1, 1) := by decide +kernel
theorem dX6_tell_45 : decode cX6_tell 45 = .ok (.invokevirtual 36, 3) := by decide +kernel
theorem dX6_tell_48 : decode cX6_tell 48 = .ok (.ifCond .eq 6, 3) := by decide +kernel
theorem dX6_tell_51 : decode cX6_tell 51 = .ok (.bipush (-3), 2) := by decide +kernel
theorem dX6_tell_53 : decode cX6_tell 53 = .ok (.ireturn, 1) := by decide +kernel
theorem dX6_tell_54 : decode cX6_tell 54 = .ok (.aload_n 0, 1) := by decide +kernel
theorem dX6_tell_55 : decode cX6_tell 55 = .ok (.iload_n 1, 1) := by decide +kernel
theorem dX6_tell_56 : decode cX6_tell 56 = .ok (.invokevirtual 47, 3) := by decide +kernel
theorem dX6_tell_59 : decode cX6_tell 59 = .ok (.istore 5, 2) := by decide +kernel
theorem dX6_tell_61 : decode cX6_tell 61 = .ok (.iload 5, 2) := by decide +kernel
theorem dX6_tell_63 : decode cX6_tell 63 = .ok (.ifCond .ge 6, 3) := by decide +kernel
theorem dX6_tell_66 : decode cX6_tell 66 = .ok (.bipush (-5), 2) := by decide +kernel
theorem dX6_tell_68 : decode cX6_tell 68 = .ok (.ireturn, 1) := by decide +kernel
theorem dX6_tell_69 : decode cX6_tell 69 = .ok (.aload_n 0, 1) := by decide +kernel
theorem dX6_tell_70 : decode cX6_tell 70 = .ok (.getfield 7, 3) := by decide +kernel
theorem dX6_tell_73 : decode cX6_tell 73 = .ok (.sipush 6815, 3) := by decide +kernel
theorem dX6_tell_76 : decode cX6_tell 76 = .ok (.iaload, 1) := by decide +kernel
theorem dX6_tell_77 : decode cX6_tell 77 = .ok (.bipush 64, 2) := by decide +kernel
theorem dX6_tell_79 : decode cX6_tell 79 = .ok (.if_icmp .eq 18, 3) := by decide +kernel
theorem dX6_tell_82 : decode cX6_tell 82 = .ok (.aload_n 0, 1) := by decide +kernel
theorem dX6_tell_83 : decode cX6_tell 83 = .ok (.getfield 7, 3) := by decide +kernel
theorem dX6_tell_86 : decode cX6_tell 86 = .ok (.bipush 80, 2) := by decide +kernel
theorem dX6_tell_88 : decode cX6_tell 88 = .ok (.iload_n 1, 1) := by decide +kernel
theorem dX6_tell_89 : decode cX6_tell 89 = .ok (.iadd, 1) := by decide +kernel
theorem dX6_tell_90 : decode cX6_tell 90 = .ok (.iaload, 1) := by decide +kernel
theorem dX6_tell_91 : decode cX6_tell 91 = .ok (.sipush 200, 3) := by decide +kernel
theorem dX6_tell_94 : decode cX6_tell 94 = .ok (.if_icmp .ne 6, 3) := by decide +kernel
theorem dX6_tell_97 : decode cX6_tell 97 = .ok (.bipush (-4), 2) := by decide +kernel
theorem dX6_tell_99 : decode cX6_tell 99 = .ok (.ireturn, 1) := by decide +kernel
theorem dX6_tell_100 : decode cX6_tell 100 = .ok (.aload_n 0, 1) := by decide +kernel
theorem dX6_tell_101 : decode cX6_tell 101 = .ok (.getfield 7, 3) := by decide +kernel
theorem dX6_tell_104 : decode cX6_tell 104 = .ok (.bipush 80, 2) := by decide +kernel
theorem dX6_tell_106 : decode cX6_tell 106 = .ok (.iload_n 1, 1) := by decide +kernel
theorem dX6_tell_107 : decode cX6_tell 107 = .ok (.iadd, 1) := by decide +kernel
theorem dX6_tell_108 : decode cX6_tell 108 = .ok (.dup2, 1) := by decide +kernel
theorem dX6_tell_109 : decode cX6_tell 109 = .ok (.iaload, 1) := by decide +kernel
theorem dX6_tell_110 : decode cX6_tell 110 = .ok (.iconst 1, 1) := by decide +kernel
theorem dX6_tell_111 : decode cX6_tell 111 = .ok (.iadd, 1) := by decide +kernel
theorem dX6_tell_112 : decode cX6_tell 112 = .ok (.iastore, 1) := by decide +kernel
theorem dX6_tell_113 : decode cX6_tell 113 = .ok (.aload_n 0, 1) := by decide +kernel
theorem dX6_tell_114 : decode cX6_tell 114 = .ok (.getfield 7, 3) := by decide +kernel
theorem dX6_tell_117 : decode cX6_tell 117 = .ok (.bipush 80, 2) := by decide +kernel
theorem dX6_tell_119 : decode cX6_tell 119 = .ok (.iload_n 1, 1) := by decide +kernel
theorem dX6_tell_120 : decode cX6_tell 120 = .ok (.iadd, 1) := by decide +kernel
theorem dX6_tell_121 : decode cX6_tell 121 = .ok (.iaload, 1) := by decide +kernel
theorem dX6_tell_122 : decode cX6_tell 122 = .ok (.istore 6, 2) := by decide +kernel
theorem dX6_tell_124 : decode cX6_tell 124 = .ok (.sipush 810, 3) := by decide +kernel
theorem dX6_tell_127 : decode cX6_tell 127 = .ok (.iconst 3, 1) := by decide +kernel
theorem dX6_tell_128 : decode cX6_tell 128 = .ok (.sipush 200, 3) := by decide +kernel
theorem dX6_tell_131 : decode cX6_tell 131 = .ok (.iload_n 1, 1) := by decide +kernel
theorem dX6_tell_132 : decode cX6_tell 132 = .ok (.imul, 1) := by decide +kernel
theorem dX6_tell_133 : decode cX6_tell 133 = .ok (.iload 6, 2) := by decide +kernel
theorem dX6_tell_135 : decode cX6_tell 135 = .ok (.iadd, 1) := by decide +kernel
theorem dX6_tell_136 : decode cX6_tell 136 = .ok (.iconst 1, 1) := by decide +kernel
theorem dX6_tell_137 : decode cX6_tell 137 = .ok (.isub, 1) := by decide +kernel
theorem dX6_tell_138 : decode cX6_tell 138 = .ok (.imul, 1) := by decide +kernel
theorem dX6_tell_139 : decode cX6_tell 139 = .ok (.iadd, 1) := by decide +kernel
theorem dX6_tell_140 : decode cX6_tell 140 = .ok (.istore 7, 2) := by decide +kernel
theorem dX6_tell_142 : decode cX6_tell 142 = .ok (.aload_n 0, 1) := by decide +kernel
theorem dX6_tell_143 : decode cX6_tell 143 = .ok (.getfield 7, 3) := by decide +kernel
theorem dX6_tell_146 : decode cX6_tell 146 = .ok (.iload 7, 2) := by decide +kernel
theorem dX6_tell_148 : decode cX6_tell 148 = .ok (.iload 5, 2) := by decide +kernel
theorem dX6_tell_150 : decode cX6_tell 150 = .ok (.iastore, 1) := by decide +kernel
theorem dX6_tell_151 : decode cX6_tell 151 = .ok (.aload_n 0, 1) := by decide +kernel
theorem dX6_tell_152 : decode cX6_tell 152 = .ok (.getfield 7, 3) := by decide +kernel
theorem dX6_tell_155 : decode cX6_tell 155 = .ok (.iload 7, 2) := by decide +kernel
theorem dX6_tell_157 : decode cX6_tell 157 = .ok (.iconst 1, 1) := by decide +kernel
theorem dX6_tell_158 : decode cX6_tell 158 = .ok (.iadd, 1) := by decide +kernel
theorem dX6_tell_159 : decode cX6_tell 159 = .ok (.iload_n 2, 1) := by decide +kernel
theorem dX6_tell_160 : decode cX6_tell 160 = .ok (.iastore, 1) := by decide +kernel
theorem dX6_tell_161 : decode cX6_tell 161 = .ok (.aload_n 0, 1) := by decide +kernel
theorem dX6_tell_162 : decode cX6_tell 162 = .ok (.getfield 7, 3) := by decide +kernel
theorem dX6_tell_165 : decode cX6_tell 165 = .ok (.iload 7, 2) := by decide +kernel
theorem dX6_tell_167 : decode cX6_tell 167 = .ok (.iconst 2, 1) := by decide +kernel
theorem dX6_tell_168 : decode cX6_tell 168 = .ok (.iadd, 1) := by decide +kernel
theorem dX6_tell_169 : decode cX6_tell 169 = .ok (.iload_n 3, 1) := by decide +kernel
theorem dX6_tell_170 : decode cX6_tell 170 = .ok (.iastore, 1) := by decide +kernel
theorem dX6_tell_171 : decode cX6_tell 171 = .ok (.aload_n 0, 1) := by decide +kernel
theorem dX6_tell_172 : decode cX6_tell 172 = .ok (.iload_n 1, 1) := by decide +kernel
theorem dX6_tell_173 : decode cX6_tell 173 = .ok (.iload_n 1, 1) := by decide +kernel
theorem dX6_tell_174 : decode cX6_tell 174 = .ok (.iload 6, 2) := by decide +kernel
theorem dX6_tell_176 : decode cX6_tell 176 = .ok (.invokevirtual 50, 3) := by decide +kernel
theorem dX6_tell_179 : decode cX6_tell 179 = .ok (.aload_n 0, 1) := by decide +kernel
theorem dX6_tell_180 : decode cX6_tell 180 = .ok (.iload_n 1, 1) := by decide +kernel
theorem dX6_tell_181 : decode cX6_tell 181 = .ok (.aload_n 0, 1) := by decide +kernel
theorem dX6_tell_182 : decode cX6_tell 182 = .ok (.getfield 7, 3) := by decide +kernel
theorem dX6_tell_185 : decode cX6_tell 185 = .ok (.sipush 6810, 3) := by decide +kernel
theorem dX6_tell_188 : decode cX6_tell 188 = .ok (.iaload, 1) := by decide +kernel
theorem dX6_tell_189 : decode cX6_tell 189 = .ok (.iconst 1, 1) := by decide +kernel
theorem dX6_tell_190 : decode cX6_tell 190 = .ok (.iadd, 1) := by decide +kernel
theorem dX6_tell_191 : decode cX6_tell 191 = .ok (.iload_n 1, 1) := by decide +kernel
theorem dX6_tell_192 : decode cX6_tell 192 = .ok (.iload 6, 2) := by decide +kernel
theorem dX6_tell_194 : decode cX6_tell 194 = .ok (.iload 4, 2) := by decide +kernel
theorem dX6_tell_196 : decode cX6_tell 196 = .ok (.invokevirtual 54, 3) := by decide +kernel
theorem dX6_tell_199 : decode cX6_tell 199 = .ok (.iload 6, 2) := by decide +kernel
theorem dX6_tell_201 : decode cX6_tell 201 = .ok (.ireturn, 1) := by decide +kernel
set_option maxRecDepth 20000 in
theorem ggX6_replay_X6_isLamp : GoodIn wsX6_replay wsX6_isLamp := goodIn_r _ [5, 6, 7, 4, 8] (by decide +kernel) (by decide +kernel)
set_option maxRecDepth 20000 in
theorem gX6_replay_X6_isLamp : GoodIn wsX6_replay (va_wsS RX6 24 yX6_isLamp wsX6_isLamp) := goodIn_app (goodIn_of _ (by decide +kernel)) ggX6_replay_X6_isLamp
set_option maxRecDepth 20000 in
theorem ggX6_replay_X6_in : GoodIn wsX6_replay wsX6_in := goodIn_r _ [8] (by decide +kernel) (by decide +kernel)
set_option maxRecDepth 20000 in
theorem gX6_replay_X6_in : GoodIn wsX6_replay (va_wsS RX6 20 yX6_in wsX6_in) := goodIn_app (goodIn_of _ (by decide +kernel)) ggX6_replay_X6_in
set_option maxRecDepth 20000 in
theorem ggX6_replay_X6_addToAir : GoodIn wsX6_replay wsX6_addToAir := goodIn_r _ [12, 1, 13, 14, 15] (by decide +kernel) (by decide +kernel)
set_option maxRecDepth 20000 in
theorem gX6_replay_X6_addToAir : GoodIn wsX6_replay (wsV RX6 54 RX6 yX6_addToAir wsX6_addToAir) := goodIn_app (goodIn_of _ (by decide +kernel)) ggX6_replay_X6_addToAir
theorem dX6_replay_0 : decode cX6_replay 0 = .ok (.iload_n 1, 1) := by decide +kernel
theorem dX6_replay_1 : decode cX6_replay 1 = .ok (.invokestatic 24, 3) := by decide +kernel
theorem dX6_replay_4 : decode cX6_replay 4 = .ok (.ifCond .eq 10, 3) := by decide +kernel
theorem dX6_replay_7 : decode cX6_replay 7 = .ok (.iload_n 2, 1) := by decide +kernel
theorem dX6_replay_8 : decode cX6_replay 8 = .ok (.invokestatic 24, 3) := by decide +kernel
theorem dX6_replay_11 : decode cX6_replay 11 = .ok (.ifCond .ne 5, 3) := by decide +kernel
theorem dX6_replay_14 : decode cX6_replay 14 = .ok (.iconst (-1), 1) := by decide +kernel
theorem dX6_replay_15 : decode cX6_replay 15 = .ok (.ireturn, 1) := by decide +kernel
theorem dX6_replay_16 : decode cX6_replay 16 = .ok (.iload_n 3, 1) := by decide +kernel
theorem dX6_replay_17 : decode cX6_replay 17 = .ok (.iconst 1, 1) := by decide +kernel
theorem dX6_replay_18 : decode cX6_replay 18 = .ok (.aload_n 0, 1) := by decide +kernel
theorem dX6_replay_19 : decode cX6_replay 19 = .ok (.getfield 7, 3) := by decide +kernel
theorem dX6_replay_22 : decode cX6_replay 22 = .ok (.bipush 80, 2) := by decide +kernel
theorem dX6_replay_24 : decode cX6_replay 24 = .ok (.iload_n 2, 1) := by decide +kernel
theorem dX6_replay_25 : decode cX6_replay 25 = .ok (.iadd, 1) := by decide +kernel
theorem dX6_replay_26 : decode cX6_replay 26 = .ok (.iaload, 1) := by decide +kernel
theorem dX6_replay_27 : decode cX6_replay 27 = .ok (.invokestatic 20, 3) := by decide +kernel
theorem dX6_replay_30 : decode cX6_replay 30 = .ok (.ifCond .ne 6, 3) := by decide +kernel
theorem dX6_replay_33 : decode cX6_replay 33 = .ok (.bipush (-2), 2) := by decide +kernel
theorem dX6_replay_35 : decode cX6_replay 35 = .ok (.ireturn, 1) := by decide +kernel
theorem dX6_replay_36 : decode cX6_replay 36 = .ok (.aload_n 0, 1) := by decide +kernel
theorem dX6_replay_37 : decode cX6_replay 37 = .ok (.getfield 7, 3) := by decide +kernel
theorem dX6_replay_40 : decode cX6_replay 40 = .ok (.sipush 6815, 3) := by decide +kernel
theorem dX6_replay_43 : decode cX6_replay 43 = .ok (.iaload, 1) := by decide +kernel
theorem dX6_replay_44 : decode cX6_replay 44 = .ok (.bipush 64, 2) := by decide +kernel
theorem dX6_replay_46 : decode cX6_replay 46 = .ok (.if_icmp .ne 6, 3) := by decide +kernel
theorem dX6_replay_49 : decode cX6_replay 49 = .ok (.bipush (-4), 2) := by decide +kernel
theorem dX6_replay_51 : decode cX6_replay 51 = .ok (.ireturn, 1) := by decide +kernel
theorem dX6_replay_52 : decode cX6_replay 52 = .ok (.aload_n 0, 1) := by decide +kernel
theorem dX6_replay_53 : decode cX6_replay 53 = .ok (.bipush 10, 2) := by decide +kernel
theorem dX6_replay_55 : decode cX6_replay 55 = .ok (.iload_n 1, 1) := by decide +kernel
theorem dX6_replay_56 : decode cX6_replay 56 = .ok (.iadd, 1) := by decide +kernel
theorem dX6_replay_57 : decode cX6_replay 57 = .ok (.aload_n 0, 1) := by decide +kernel
theorem dX6_replay_58 : decode cX6_replay 58 = .ok (.getfield 7, 3) := by decide +kernel
theorem dX6_replay_61 : decode cX6_replay 61 = .ok (.sipush 6810, 3) := by decide +kernel
theorem dX6_replay_64 : decode cX6_replay 64 = .ok (.iaload, 1) := by decide +kernel
theorem dX6_replay_65 : decode cX6_replay 65 = .ok (.iconst 1, 1) := by decide +kernel
theorem dX6_replay_66 : decode cX6_replay 66 = .ok (.iadd, 1) := by decide +kernel
theorem dX6_replay_67 : decode cX6_replay 67 = .ok (.iload_n 2, 1) := by decide +kernel
theorem dX6_replay_68 : decode cX6_replay 68 = .ok (.iload_n 3, 1) := by decide +kernel
theorem dX6_replay_69 : decode cX6_replay 69 = .ok (.bipush 7, 2) := by decide +kernel
theorem dX6_replay_71 : decode cX6_replay 71 = .ok (.invokevirtual 54, 3) := by decide +kernel
theorem dX6_replay_74 : decode cX6_replay 74 = .ok (.aload_n 0, 1) := by decide +kernel
theorem dX6_replay_75 : decode cX6_replay 75 = .ok (.getfield 7, 3) := by decide +kernel
theorem dX6_replay_78 : decode cX6_replay 78 = .ok (.sipush 6815, 3) := by decide +kernel
theorem dX6_replay_81 : decode cX6_replay 81 = .ok (.iaload, 1) := by decide +kernel
theorem dX6_replay_82 : decode cX6_replay 82 = .ok (.ireturn, 1) := by decide +kernel
set_option maxRecDepth 20000 in
theorem ggX6_takes_X6_letter : GoodIn wsX6_takes wsX6_letter := goodIn_r _ [6, 1, 7, 8, 9] (by decide +kernel) (by decide +kernel)
set_option maxRecDepth 20000 in
theorem gX6_takes_X6_letter : GoodIn wsX6_takes (wsV RX6 39 RX6 yX6_letter wsX6_letter) := goodIn_app (goodIn_of _ (by decide +kernel)) ggX6_takes_X6_letter
theorem dX6_takes_0 : decode cX6_takes 0 = .ok (.sipush 330, 3) := by decide +kernel
theorem dX6_takes_3 : decode cX6_takes 3 = .ok (.bipush 10, 2) := by decide +kernel
theorem dX6_takes_5 : decode cX6_takes 5 = .ok (.iload_n 1, 1) := by decide +kernel
theorem dX6_takes_6 : decode cX6_takes 6 = .ok (.imul, 1) := by decide +kernel
theorem dX6_takes_7 : decode cX6_takes 7 = .ok (.iadd, 1) := by decide +kernel
theorem dX6_takes_8 : decode cX6_takes 8 = .ok (.iload_n 2, 1) := by decide +kernel
theorem dX6_takes_9 : decode cX6_takes 9 = .ok (.iadd, 1) := by decide +kernel
theorem dX6_takes_10 : decode cX6_takes 10 = .ok (.istore 4, 2) := by decide +kernel
theorem dX6_takes_12 : decode cX6_takes 12 = .ok (.iload_n 3, 1) := by decide +kernel
theorem dX6_takes_13 : decode cX6_takes 13 = .ok (.aload_n 0, 1) := by decide +kernel
theorem dX6_takes_14 : decode cX6_takes 14 = .ok (.getfield 7, 3) := by decide +kernel
theorem dX6_takes_17 : decode cX6_takes 17 = .ok (.iload 4, 2) := by decide +kernel
theorem dX6_takes_19 : decode cX6_takes 19 = .ok (.iaload, 1) := by decide +kernel
theorem dX6_takes_20 : decode cX6_takes 20 = .ok (.if_icmp .gt 18, 3) := by decide +kernel
theorem dX6_takes_23 : decode cX6_takes 23 = .ok (.aload_n 0, 1) := by decide +kernel
theorem dX6_takes_24 : decode cX6_takes 24 = .ok (.getfield 7, 3) := by decide +kernel
theorem dX6_takes_27 : decode cX6_takes 27 = .ok (.bipush 100, 2) := by decide +kernel
theorem dX6_takes_29 : decode cX6_takes 29 = .ok (.iload_n 1, 1) := by decide +kernel
theorem dX6_takes_30 : decode cX6_takes 30 = .ok (.iadd, 1) := by decide +kernel
theorem dX6_takes_31 : decode cX6_takes 31 = .ok (.dup2, 1) := by decide +kernel
theorem dX6_takes_32 : decode cX6_takes 32 = .ok (.iaload, 1) := by decide +kernel
theorem dX6_takes_33 : decode cX6_takes 33 = .ok (.iconst 1, 1) := by decide +kernel
theorem dX6_takes_34 : decode cX6_takes 34 = .ok (.iadd, 1) := by decide +kernel
theorem dX6_takes_35 : decode cX6_takes 35 = .ok (.iastore, 1) := by decide +kernel
theorem dX6_takes_36 : decode cX6_takes 36 = .ok (.iconst 0, 1) := by decide +kernel
theorem dX6_takes_37 : decode cX6_takes 37 = .ok (.ireturn, 1) := by decide +kernel
theorem dX6_takes_38 : decode cX6_takes 38 = .ok (.aload_n 0, 1) := by decide +kernel
theorem dX6_takes_39 : decode cX6_takes 39 = .ok (.getfield 7, 3) := by decide +kernel
theorem dX6_takes_42 : decode cX6_takes 42 = .ok (.iload 4, 2) := by decide +kernel
theorem dX6_takes_44 : decode cX6_takes 44 = .ok (.iload_n 3, 1) := by decide +kernel
theorem dX6_takes_45 : decode cX6_takes 45 = .ok (.iastore, 1) := by decide +kernel
theorem dX6_takes_46 : decode cX6_takes 46 = .ok (.aload_n 0, 1) := by decide +kernel
theorem dX6_takes_47 : decode cX6_takes 47 = .ok (.getfield 7, 3) := by decide +kernel
theorem dX6_takes_50 : decode cX6_takes 50 = .ok (.bipush 50, 2) := by decide +kernel
theorem dX6_takes_52 : decode cX6_takes 52 = .ok (.iload_n 1, 1) := by decide +kernel
theorem dX6_takes_53 : decode cX6_takes 53 = .ok (.iadd, 1) := by decide +kernel
theorem dX6_takes_54 : decode cX6_takes 54 = .ok (.aload_n 0, 1) := by decide +kernel
theorem dX6_takes_55 : decode cX6_takes 55 = .ok (.iload_n 2, 1) := by decide +kernel
theorem dX6_takes_56 : decode cX6_takes 56 = .ok (.iload_n 3, 1) := by decide +kernel
theorem dX6_takes_57 : decode cX6_takes 57 = .ok (.iconst 2, 1) := by decide +kernel
theorem dX6_takes_58 : decode cX6_takes 58 = .ok (.invokevirtual 39, 3) := by decide +kernel
theorem dX6_takes_61 : decode cX6_takes 61 = .ok (.iastore, 1) := by decide +kernel
theorem dX6_takes_62 : decode cX6_takes 62 = .ok (.aload_n 0, 1) := by decide +kernel
theorem dX6_takes_63 : decode cX6_takes 63 = .ok (.getfield 7, 3) := by decide +kernel
theorem dX6_takes_66 : decode cX6_takes 66 = .ok (.bipush 90, 2) := by decide +kernel
theorem dX6_takes_68 : decode cX6_takes 68 = .ok (.iload_n 1, 1) := by decide +kernel
theorem dX6_takes_69 : decode cX6_takes 69 = .ok (.iadd, 1) := by decide +kernel
theorem dX6_takes_70 : decode cX6_takes 70 = .ok (.dup2, 1) := by decide +kernel
theorem dX6_takes_71 : decode cX6_takes 71 = .ok (.iaload, 1) := by decide +kernel
theorem dX6_takes_72 : decode cX6_takes 72 = .ok (.iconst 1, 1) := by decide +kernel
theorem dX6_takes_73 : decode cX6_takes 73 = .ok (.iadd, 1) := by decide +kernel
theorem dX6_takes_74 : decode cX6_takes 74 = .ok (.iastore, 1) := by decide +kernel
theorem dX6_takes_75 : decode cX6_takes 75 = .ok (.iconst 1, 1) := by decide +kernel
theorem dX6_takes_76 : decode cX6_takes 76 = .ok (.ireturn, 1) := by decide +kernel
theorem dX6_keepFor_0 : decode cX6_keepFor 0 = .ok (.sipush 430, 3) := by decide +kernel
theorem dX6_keepFor_3 : decode cX6_keepFor 3 = .ok (.bipush 6, 2) := by decide +kernel
theorem dX6_keepFor_5 : decode cX6_keepFor 5 = .ok (.iload_n 1, 1) := by decide +kernel
theorem dX6_keepFor_6 : decode cX6_keepFor 6 = .ok (.imul, 1) := by decide +kernel
theorem dX6_keepFor_7 : decode cX6_keepFor 7 = .ok (.iadd, 1) := by decide +kernel
theorem dX6_keepFor_8 : decode cX6_keepFor 8 = .ok (.istore 4, 2) := by decide +kernel
theorem dX6_keepFor_10 : decode cX6_keepFor 10 = .ok (.aload_n 0, 1) := by decide +kernel
theorem dX6_keepFor_11 : decode cX6_keepFor 11 = .ok (.getfield 7, 3) := by decide +kernel
theorem dX6_keepFor_14 : decode cX6_keepFor 14 = .ok (.sipush 150, 3) := by decide +kernel
theorem dX6_keepFor_17 : decode cX6_keepFor 17 = .ok (.iload_n 1, 1) := by decide +kernel
theorem dX6_keepFor_18 : decode cX6_keepFor 18 = .ok (.iadd, 1) := by decide +kernel
theorem dX6_keepFor_19 : decode cX6_keepFor 19 = .ok (.iaload, 1) := by decide +kernel
theorem dX6_keepFor_20 : decode cX6_keepFor 20 = .ok (.iconst 3, 1) := by decide +kernel
theorem dX6_keepFor_21 : decode cX6_keepFor 21 = .ok (.if_icmp .ne 51, 3) := by decide +kernel
theorem dX6_keepFor_24 : decode cX6_keepFor 24 = .ok (.iconst 0, 1) := by decide +kernel
theorem dX6_keepFor_25 : decode cX6_keepFor 25 = .ok (.istore 5, 2) := by decide +kernel
theorem dX6_keepFor_27 : decode cX6_keepFor 27 = .ok (.iload 5, 2) := by decide +kernel
theorem dX6_keepFor_29 : decode cX6_keepFor 29 = .ok (.iconst 4, 1) := by decide +kernel
theorem dX6_keepFor_30 : decode cX6_keepFor 30 = .ok (.if_icmp .ge 31, 3) := by decide +kernel
theorem dX6_keepFor_33 : decode cX6_keepFor 33 = .ok (.aload_n 0, 1) := by decide +kernel
theorem dX6_keepFor_34 : decode cX6_keepFor 34 = .ok (.getfield 7, 3) := by decide +kernel
theorem dX6_keepFor_37 : decode cX6_keepFor 37 = .ok (.iload 4, 2) := by decide +kernel
theorem dX6_keepFor_39 : decode cX6_keepFor 39 = .ok (.iload 5, 2) := by decide +kernel
theorem dX6_keepFor_41 : decode cX6_keepFor 41 = .ok (.iadd, 1) := by decide +kernel
theorem dX6_keepFor_42 : decode cX6_keepFor 42 = .ok (.aload_n 0, 1) := by decide +kernel
theorem dX6_keepFor_43 : decode cX6_keepFor 43 = .ok (.getfield 7, 3) := by decide +kernel
theorem dX6_keepFor_46 : decode cX6_keepFor 46 = .ok (.iload 4, 2) := by decide +kernel
theorem dX6_keepFor_48 : decode cX6_keepFor 48 = .ok (.iload 5, 2) := by decide +kernel
theorem dX6_keepFor_50 : decode cX6_keepFor 50 = .ok (.iadd, 1) := by decide +kernel
theorem dX6_keepFor_51 : decode cX6_keepFor 51 = .ok (.iconst 2, 1) := by decide +kernel
theorem dX6_keepFor_52 : decode cX6_keepFor 52 = .ok (.iadd, 1) := by decide +kernel
theorem dX6_keepFor_53 : decode cX6_keepFor 53 = .ok (.iaload, 1) := by decide +kernel
theorem dX6_keepFor_54 : decode cX6_keepFor 54 = .ok (.iastore, 1) := by decide +kernel
theorem dX6_keepFor_55 : decode cX6_keepFor 55 = .ok (.iinc 5 1, 3) := by decide +kernel
theorem dX6_keepFor_58 : decode cX6_keepFor 58 = .ok (.goto (-31), 3) := by decide +kernel
theorem dX6_keepFor_61 : decode cX6_keepFor 61 = .ok (.aload_n 0, 1) := by decide +kernel
theorem dX6_keepFor_62 : decode cX6_keepFor 62 = .ok (.getfield 7, 3) := by decide +kernel
theorem dX6_keepFor_65 : decode cX6_keepFor 65 = .ok (.sipush 150, 3) := by decide +kernel
theorem dX6_keepFor_68 : decode cX6_keepFor 68 = .ok (.iload_n 1, 1) := by decide +kernel
theorem dX6_keepFor_69 : decode cX6_keepFor 69 = .ok (.iadd, 1) := by decide +kernel
theorem dX6_keepFor_70 : decode cX6_keepFor 70 = .ok (.iconst 2, 1) := by decide +kernel
theorem dX6_keepFor_71 : decode cX6_keepFor 71 = .ok (.iastore, 1) := by decide +kernel
theorem dX6_keepFor_72 : decode cX6_keepFor 72 = .ok (.aload_n 0, 1) := by decide +kernel
theorem dX6_keepFor_73 : decode cX6_keepFor 73 = .ok (.getfield 7, 3) := by decide +kernel
theorem dX6_keepFor_76 : decode cX6_keepFor 76 = .ok (.iload 4, 2) := by decide +kernel
theorem dX6_keepFor_78 : decode cX6_keepFor 78 = .ok (.iconst 2, 1) := by decide +kernel
theorem dX6_keepFor_79 : decode cX6_keepFor 79 = .ok (.aload_n 0, 1) := by decide +kernel
theorem dX6_keepFor_80 : decode cX6_keepFor 80 = .ok (.getfield 7, 3) := by decide +kernel
theorem dX6_keepFor_83 : decode cX6_keepFor 83 = .ok (.sipush 150, 3) := by decide +kernel
theorem dX6_keepFor_86 : decode cX6_keepFor 86 = .ok (.iload_n 1, 1) := by decide +kernel
theorem dX6_keepFor_87 : decode cX6_keepFor 87 = .ok (.iadd, 1) := by decide +kernel
theorem dX6_keepFor_88 : decode cX6_keepFor 88 = .ok (.iaload, 1) := by decide +kernel
theorem dX6_keepFor_89 : decode cX6_keepFor 89 = .ok (.imul, 1) := by decide +kernel
theorem dX6_keepFor_90 : decode cX6_keepFor 90 = .ok (.iadd, 1) := by decide +kernel
theorem dX6_keepFor_91 : decode cX6_keepFor 91 = .ok (.iload_n 2, 1) := by decide +kernel
theorem dX6_keepFor_92 : decode cX6_keepFor 92 = .ok (.iastore, 1) := by decide +kernel
theorem dX6_keepFor_93 : decode cX6_keepFor 93 = .ok (.aload_n 0, 1) := by decide +kernel
theorem dX6_keepFor_94 : decode cX6_keepFor 94 = .ok (.getfield 7, 3) := by decide +kernel
theorem dX6_keepFor_97 : decode cX6_keepFor 97 = .ok (.iload 4, 2) := by decide +kernel
theorem dX6_keepFor_99 : decode cX6_keepFor 99 = .ok (.iconst 2, 1) := by decide +kernel
theorem dX6_keepFor_100 : decode cX6_keepFor 100 = .ok (.aload_n 0, 1) := by decide +kernel
theorem dX6_keepFor_101 : decode cX6_keepFor 101 = .ok (.getfield 7, 3) := by decide +kernel
theorem dX6_keepFor_104 : decode cX6_keepFor 104 = .ok (.sipush 150, 3) := by decide +kernel
theorem dX6_keepFor_107 : decode cX6_keepFor 107 = .ok (.iload_n 1, 1) := by decide +kernel
theorem dX6_keepFor_108 : decode cX6_keepFor 108 = .ok (.iadd, 1) := by decide +kernel
theorem dX6_keepFor_109 : decode cX6_keepFor 109 = .ok (.iaload, 1) := by decide +kernel
theorem dX6_keepFor_110 : decode cX6_keepFor 110 = .ok (.imul, 1) := by decide +kernel
theorem dX6_keepFor_111 : decode cX6_keepFor 111 = .ok (.iadd, 1) := by decide +kernel
theorem dX6_keepFor_112 : decode cX6_keepFor 112 = .ok (.iconst 1, 1) := by decide +kernel
theorem dX6_keepFor_113 : decode cX6_keepFor 113 = .ok (.iadd, 1) := by decide +kernel
theorem dX6_keepFor_114 : decode cX6_keepFor 114 = .ok (.iload_n 3, 1) := by decide +kernel
theorem dX6_keepFor_115 : decode cX6_keepFor 115 = .ok (.iastore, 1) := by decide +kernel
theorem dX6_keepFor_116 : decode cX6_keepFor 116 = .ok (.aload_n 0, 1) := by decide +kernel
theorem dX6_keepFor_117 : decode cX6_keepFor 117 = .ok (.getfield 7, 3) := by decide +kernel
theorem dX6_keepFor_120 : decode cX6_keepFor 120 = .ok (.sipush 150, 3) := by decide +kernel
theorem dX6_keepFor_123 : decode cX6_keepFor 123 = .ok (.iload_n 1, 1) := by decide +kernel
theorem dX6_keepFor_124 : decode cX6_keepFor 124 = .ok (.iadd, 1) := by decide +kernel
theorem dX6_keepFor_125 : decode cX6_keepFor 125 = .ok (.dup2, 1) := by decide +kernel
theorem dX6_keepFor_126 : decode cX6_keepFor 126 = .ok (.iaload, 1) := by decide +kernel
theorem dX6_keepFor_127 : decode cX6_keepFor 127 = .ok (.iconst 1, 1) := by decide +kernel
theorem dX6_keepFor_128 : decode cX6_keepFor 128 = .ok (.iadd, 1) := by decide +kernel
theorem dX6_keepFor_129 : decode cX6_keepFor 129 = .ok (.iastore, 1) := by decide +kernel
theorem dX6_keepFor_130 : decode cX6_keepFor 130 = .ok (.return_, 1) := by decide +kernel
set_option maxRecDepth 20000 in
theorem ggX6_hear_X6_knows : GoodIn wsX6_hear wsX6_knows := goodIn_r _ [6, 1, 7, 8, 9, 5, 10, 11, 12, 13, 42, 43, 44] (by decide +kernel) (by decide +kernel)
set_option maxRecDepth 20000 in
theorem gX6_hear_X6_knows : GoodIn wsX6_hear (wsV RX6 58 RX6 yX6_knows wsX6_knows) := goodIn_app (goodIn_of _ (by decide +kernel)) ggX6_hear_X6_knows
set_option maxRecDepth 20000 in
theorem ggX6_hear_X6_hasInMind : GoodIn wsX6_hear wsX6_hasInMind := goodIn_r _ [17, 1, 42, 43, 44] (by decide +kernel) (by decide +kernel)
set_option maxRecDepth 20000 in
theorem gX6_hear_X6_hasInMind : GoodIn wsX6_hear (wsV RX6 61 RX6 yX6_hasInMind wsX6_hasInMind) := goodIn_app (goodIn_of _ (by decide +kernel)) ggX6_hear_X6_hasInMind
set_option maxRecDepth 20000 in
theorem ggX6_hear_X6_remember : GoodIn wsX6_hear wsX6_remember := goodIn_r _ [21, 1, 42, 43, 44] (by decide +kernel) (by decide +kernel)
set_option maxRecDepth 20000 in
theorem gX6_hear_X6_remember : GoodIn wsX6_hear (wsV RX6 50 RX6 yX6_remember wsX6_remember) := goodIn_app (goodIn_of _ (by decide +kernel)) ggX6_hear_X6_remember
set_option maxRecDepth 20000 in
theorem ggX6_hear_X6_isMeant : GoodIn wsX6_hear wsX6_isMeant := goodIn_r _ [25, 1, 7, 8, 9, 5, 10, 11, 12, 13, 42, 43, 44] (by decide +kernel) (by decide +kernel)
set_option maxRecDepth 20000 in
theorem gX6_hear_X6_isMeant : GoodIn wsX6_hear (wsV RX6 64 RX6 yX6_isMeant wsX6_isMeant) := goodIn_app (goodIn_of _ (by decide +kernel)) ggX6_hear_X6_isMeant
set_option maxRecDepth 20000 in
theorem ggX6_hear_X6_takes : GoodIn wsX6_hear wsX6_takes := goodIn_r _ [29, 1, 7, 8, 9, 5, 10, 42, 43, 44] (by decide +kernel) (by decide +kernel)
set_option maxRecDepth 20000 in
theorem gX6_hear_X6_takes : GoodIn wsX6_hear (wsV RX6 67 RX6 yX6_takes wsX6_takes) := goodIn_app (goodIn_of _ (by decide +kernel)) ggX6_hear_X6_takes
set_option maxRecDepth 20000 in
theorem ggX6_hear_X6_sleeps : GoodIn wsX6_hear wsX6_sleeps := goodIn_r _ [33, 1, 42, 43, 44] (by decide +kernel) (by decide +kernel)
set_option maxRecDepth 20000 in
theorem gX6_hear_X6_sleeps : GoodIn wsX6_hear (wsV RX6 36 RX6 yX6_sleeps wsX6_sleeps) := goodIn_app (goodIn_of _ (by decide +kernel)) ggX6_hear_X6_sleeps
set_option maxRecDepth 20000 in
theorem ggX6_hear_X6_keepFor : GoodIn wsX6_hear wsX6_keepFor := goodIn_r _ [37, 1, 42, 43, 44] (by decide +kernel) (by decide +kernel)
set_option maxRecDepth 20000 in
theorem gX6_hear_X6_keepFor : GoodIn wsX6_hear (wsV RX6 70 RX6 yX6_keepFor wsX6_keepFor) := goodIn_app (goodIn_of _ (by decide +kernel)) ggX6_hear_X6_keepFor
set_option maxRecDepth 20000 in
theorem ggX6_hear_X6_addToAir : GoodIn wsX6_hear wsX6_addToAir := goodIn_r _ [41, 1, 42, 43, 44] (by decide +kernel) (by decide +kernel)
set_option maxRecDepth 20000 in
theorem gX6_hear_X6_addToAir : GoodIn wsX6_hear (wsV RX6 54 RX6 yX6_addToAir wsX6_addToAir) := goodIn_app (goodIn_of _ (by decide +kernel)) ggX6_hear_X6_addToAir
theorem dX6_hear_0 : decode cX6_hear 0 = .ok (.aload_n 0, 1) := by decide +kernel
theorem dX6_hear_1 : decode cX6_hear 1 = .ok (.iload_n 1, 1) := by decide +kernel
theorem dX6_hear_2 : decode cX6_hear 2 = .ok (.iload_n 2, 1) := by decide +kernel
theorem dX6_hear_3 : decode cX6_hear 3 = .ok (.iload_n 3, 1) := by decide +kernel
theorem dX6_hear_4 : decode cX6_hear 4 = .ok (.invokevirtual 58, 3) := by decide +kernel
theorem dX6_hear_7 : decode cX6_hear 7 = .ok (.ifCond .ne 17, 3) := by decide +kernel
theorem dX6_hear_10 : decode cX6_hear 10 = .ok (.aload_n 0, 1) := by decide +kernel
theorem dX6_hear_11 : decode cX6_hear 11 = .ok (.getfield 7, 3) := by decide +kernel
theorem dX6_hear_14 : decode cX6_hear 14 = .ok (.bipush 110, 2) := by decide +kernel
theorem dX6_hear_16 : decode cX6_hear 16 = .ok (.iload_n 1, 1) := by decide +kernel
theorem dX6_hear_17 : decode cX6_hear 17 = .ok (.iadd, 1) := by decide +kernel
theorem dX6_hear_18 : decode cX6_hear 18 = .ok (.dup2, 1) := by decide +kernel
theorem dX6_hear_19 : decode cX6_hear 19 = .ok (.iaload, 1) := by decide +kernel
theorem dX6_hear_20 : decode cX6_hear 20 = .ok (.iconst 1, 1) := by decide +kernel
theorem dX6_hear_21 : decode cX6_hear 21 = .ok (.iadd, 1) := by decide +kernel
theorem dX6_hear_22 : decode cX6_hear 22 = .ok (.iastore, 1) := by decide +kernel
theorem dX6_hear_23 : decode cX6_hear 23 = .ok (.return_, 1) := by decide +kernel
theorem dX6_hear_24 : decode cX6_hear 24 = .ok (.aload_n 0, 1) := by decide +kernel
theorem dX6_hear_25 : decode cX6_hear 25 = .ok (.iload_n 1, 1) := by decide +kernel
theorem dX6_hear_26 : decode cX6_hear 26 = .ok (.iload_n 2, 1) := by decide +kernel
theorem dX6_hear_27 : decode cX6_hear 27 = .ok (.iload_n 3, 1) := by decide +kernel
theorem dX6_hear_28 : decode cX6_hear 28 = .ok (.invokevirtual 61, 3) := by decide +kernel
theorem dX6_hear_31 : decode cX6_hear 31 = .ok (.ifCond .eq 17, 3) := by decide +kernel
theorem dX6_hear_34 : decode cX6_hear 34 = .ok (.aload_n 0, 1) := by decide +kernel
theorem dX6_hear_35 : decode cX6_hear 35 = .ok (.getfield 7, 3) := by decide +kernel
theorem dX6_hear_38 : decode cX6_hear 38 = .ok (.bipush 120, 2) := by decide +kernel
theorem dX6_hear_40 : decode cX6_hear 40 = .ok (.iload_n 1, 1) := by decide +kernel
theorem dX6_hear_41 : decode cX6_hear 41 = .ok (.iadd, 1) := by decide +kernel
theorem dX6_hear_42 : decode cX6_hear 42 = .ok (.dup2, 1) := by decide +kernel
theorem dX6_hear_43 : decode cX6_hear 43 = .ok (.iaload, 1) := by decide +kernel
theorem dX6_hear_44 : decode cX6_hear 44 = .ok (.iconst 1, 1) := by decide +kernel
theorem dX6_hear_45 : decode cX6_hear 45 = .ok (.iadd, 1) := by decide +kernel
theorem dX6_hear_46 : decode cX6_hear 46 = .ok (.iastore, 1) := by decide +kernel
theorem dX6_hear_47 : decode cX6_hear 47 = .ok (.return_, 1) := by decide +kernel
theorem dX6_hear_48 : decode cX6_hear 48 = .ok (.aload_n 0, 1) := by decide +kernel
theorem dX6_hear_49 : decode cX6_hear 49 = .ok (.getfield 7, 3) := by decide +kernel
theorem dX6_hear_52 : decode cX6_hear 52 = .ok (.sipush 130, 3) := by decide +kernel
theorem dX6_hear_55 : decode cX6_hear 55 = .ok (.iload_n 1, 1) := by decide +kernel
theorem dX6_hear_56 : decode cX6_hear 56 = .ok (.iadd, 1) := by decide +kernel
theorem dX6_hear_57 : decode cX6_hear 57 = .ok (.dup2, 1) := by decide +kernel
theorem dX6_hear_58 : decode cX6_hear 58 = .ok (.iaload, 1) := by decide +kernel
theorem dX6_hear_59 : decode cX6_hear 59 = .ok (.iconst 1, 1) := by decide +kernel
theorem dX6_hear_60 : decode cX6_hear 60 = .ok (.iadd, 1) := by decide +kernel
theorem dX6_hear_61 : decode cX6_hear 61 = .ok (.iastore, 1) := by decide +kernel
theorem dX6_hear_62 : decode cX6_hear 62 = .ok (.aload_n 0, 1) := by decide +kernel
theorem dX6_hear_63 : decode cX6_hear 63 = .ok (.iload_n 1, 1) := by decide +kernel
theorem dX6_hear_64 : decode cX6_hear 64 = .ok (.iload_n 2, 1) := by decide +kernel
theorem dX6_hear_65 : decode cX6_hear 65 = .ok (.iload_n 3, 1) := by decide +kernel
theorem dX6_hear_66 : decode cX6_hear 66 = .ok (.invokevirtual 50, 3) := by decide +kernel
theorem dX6_hear_69 : decode cX6_hear 69 = .ok (.iload_n 1, 1) := by decide +kernel
theorem dX6_hear_70 : decode cX6_hear 70 = .ok (.iload_n 2, 1) := by decide +kernel
theorem dX6_hear_71 : decode cX6_hear 71 = .ok (.if_icmp .ne 4, 3) := by decide +kernel
theorem dX6_hear_74 : decode cX6_hear 74 = .ok (.return_, 1) := by decide +kernel
theorem dX6_hear_75 : decode cX6_hear 75 = .ok (.aload_n 0, 1) := by decide +kernel
theorem dX6_hear_76 : decode cX6_hear 76 = .ok (.iload_n 1, 1) := by decide +kernel
theorem dX6_hear_77 : decode cX6_hear 77 = .ok (.iload_n 2, 1) := by decide +kernel
theorem dX6_hear_78 : decode cX6_hear 78 = .ok (.iload_n 3, 1) := by decide +kernel
theorem dX6_hear_79 : decode cX6_hear 79 = .ok (.invokevirtual 64, 3) := by decide +kernel
theorem dX6_hear_82 : decode cX6_hear 82 = .ok (.ifCond .eq 11, 3) := by decide +kernel
theorem dX6_hear_85 : decode cX6_hear 85 = .ok (.aload_n 0, 1) := by decide +kernel
theorem dX6_hear_86 : decode cX6_hear 86 = .ok (.iload_n 1, 1) := by decide +kernel
theorem dX6_hear_87 : decode cX6_hear 87 = .ok (.iload_n 2, 1) := by decide +kernel
theorem dX6_hear_88 : decode cX6_hear 88 = .ok (.iload_n 3, 1) := by decide +kernel
theorem dX6_hear_89 : decode cX6_hear 89 = .ok (.invokevirtual 67, 3) := by decide +kernel
theorem dX6_hear_92 : decode cX6_hear 92 = .ok (.pop, 1) := by decide +kernel
theorem dX6_hear_93 : decode cX6_hear 93 = .ok (.iconst 0, 1) := by decide +kernel
theorem dX6_hear_94 : decode cX6_hear 94 = .ok (.istore 5, 2) := by decide +kernel
theorem dX6_hear_96 : decode cX6_hear 96 = .ok (.iload 5, 2) := by decide +kernel
theorem dX6_hear_98 : decode cX6_hear 98 = .ok (.bipush 10, 2) := by decide +kernel
theorem dX6_hear_100 : decode cX6_hear 100 = .ok (.if_icmp .ge 57, 3) := by decide +kernel
theorem dX6_hear_103 : decode cX6_hear 103 = .ok (.aload_n 0, 1) := by decide +kernel
theorem dX6_hear_104 : decode cX6_hear 104 = .ok (.iload 5, 2) := by decide +kernel
theorem dX6_hear_106 : decode cX6_hear 106 = .ok (.invokevirtual 36, 3) := by decide +kernel
theorem dX6_hear_109 : decode cX6_hear 109 = .ok (.ifCond .eq 42, 3) := by decide +kernel
theorem dX6_hear_112 : decode cX6_hear 112 = .ok (.aload_n 0, 1) := by decide +kernel
theorem dX6_hear_113 : decode cX6_hear 113 = .ok (.getfield 7, 3) := by decide +kernel
theorem dX6_hear_116 : decode cX6_hear 116 = .ok (.bipush 70, 2) := by decide +kernel
theorem dX6_hear_118 : decode cX6_hear 118 = .ok (.iload 5, 2) := by decide +kernel
theorem dX6_hear_120 : decode cX6_hear 120 = .ok (.iadd, 1) := by decide +kernel
theorem dX6_hear_121 : decode cX6_hear 121 = .ok (.iaload, 1) := by decide +kernel
theorem dX6_hear_122 : decode cX6_hear 122 = .ok (.iload_n 1, 1) := by decide +kernel
theorem dX6_hear_123 : decode cX6_hear 123 = .ok (.if_icmp .ne 28, 3) := by decide +kernel
theorem dX6_hear_126 : decode cX6_hear 126 = .ok (.aload_n 0, 1) := by decide +kernel
theorem dX6_hear_127 : decode cX6_hear 127 = .ok (.iload 5, 2) := by decide +kernel
theorem dX6_hear_129 : decode cX6_hear 129 = .ok (.iload_n 2, 1) := by decide +kernel
theorem dX6_hear_130 : decode cX6_hear 130 = .ok (.iload_n 3, 1) := by decide +kernel
theorem dX6_hear_131 : decode cX6_hear 131 = .ok (.invokevirtual 64, 3) := by decide +kernel
theorem dX6_hear_134 : decode cX6_hear 134 = .ok (.ifCond .eq 17, 3) := by decide +kernel
theorem dX6_hear_137 : decode cX6_hear 137 = .ok (.iload 5, 2) := by decide +kernel
theorem dX6_hear_139 : decode cX6_hear 139 = .ok (.iload_n 2, 1) := by decide +kernel
theorem dX6_hear_140 : decode cX6_hear 140 = .ok (.if_icmp .eq 11, 3) := by decide +kernel
theorem dX6_hear_143 : decode cX6_hear 143 = .ok (.aload_n 0, 1) := by decide +kernel
theorem dX6_hear_144 : decode cX6_hear 144 = .ok (.iload 5, 2) := by decide +kernel
theorem dX6_hear_146 : decode cX6_hear 146 = .ok (.iload_n 2, 1) := by decide +kernel
theorem dX6_hear_147 : decode cX6_hear 147 = .ok (.iload_n 3, 1) := by decide +kernel
theorem dX6_hear_148 : decode cX6_hear 148 = .ok (.invokevirtual 70, 3) := by decide +kernel
theorem dX6_hear_151 : decode cX6_hear 151 = .ok (.iinc 5 1, 3) := by decide +kernel
theorem dX6_hear_154 : decode cX6_hear 154 = .ok (.goto (-58), 3) := by decide +kernel
theorem dX6_hear_157 : decode cX6_hear 157 = .ok (.iload 4, 2) := by decide +kernel
theorem dX6_hear_159 : decode cX6_hear 159 = .ok (.iconst 1, 1) := by decide +kernel
theorem dX6_hear_160 : decode cX6_hear 160 = .ok (.if_icmp .le 73, 3) := by decide +kernel
theorem dX6_hear_163 : decode cX6_hear 163 = .ok (.aload_n 0, 1) := by decide +kernel
theorem dX6_hear_164 : decode cX6_hear 164 = .ok (.getfield 7, 3) := by decide +kernel
theorem dX6_hear_167 : decode cX6_hear 167 = .ok (.bipush 20, 2) := by decide +kernel
theorem dX6_hear_169 : decode cX6_hear 169 = .ok (.iload_n 1, 1) := by decide +kernel
theorem dX6_hear_170 : decode cX6_hear 170 = .ok (.iadd, 1) := by decide +kernel
theorem dX6_hear_171 : decode cX6_hear 171 = .ok (.iaload, 1) := by decide +kernel
theorem dX6_hear_172 : decode cX6_hear 172 = .ok (.iconst 1, 1) := by decide +kernel
theorem dX6_hear_173 : decode cX6_hear 173 = .ok (.if_icmp .ne 60, 3) := by decide +kernel
theorem dX6_hear_176 : decode cX6_hear 176 = .ok (.aload_n 0, 1) := by decide +kernel
theorem dX6_hear_177 : decode cX6_hear 177 = .ok (.getfield 7, 3) := by decide +kernel
theorem dX6_hear_180 : decode cX6_hear 180 = .ok (.sipush 6815, 3) := by decide +kernel
theorem dX6_hear_183 : decode cX6_hear 183 = .ok (.iaload, 1) := by decide +kernel
theorem dX6_hear_184 : decode cX6_hear 184 = .ok (.bipush 64, 2) := by decide +kernel
theorem dX6_hear_186 : decode cX6_hear 186 = .ok (.if_icmp .ne 18, 3) := by decide +kernel
theorem dX6_hear_189 : decode cX6_hear 189 = .ok (.aload_n 0, 1) := by decide +kernel
theorem dX6_hear_190 : decode cX6_hear 190 = .ok (.getfield 7, 3) := by decide +kernel
theorem dX6_hear_193 : decode cX6_hear 193 = .ok (.sipush 6817, 3) := by decide +kernel
theorem dX6_hear_196 : decode cX6_hear 196 = .ok (.dup2, 1) := by decide +kernel
theorem dX6_hear_197 : decode cX6_hear 197 = .ok (.iaload, 1) := by decide +kernel
theorem dX6_hear_198 : decode cX6_hear 198 = .ok (.iconst 1, 1) := by decide +kernel
theorem dX6_hear_199 : decode cX6_hear 199 = .ok (.iadd, 1) := by decide +kernel
theorem dX6_hear_200 : decode cX6_hear 200 = .ok (.iastore, 1) := by decide +kernel
theorem dX6_hear_201 : decode cX6_hear 201 = .ok (.goto 32, 3) := by decide +kernel
theorem dX6_hear_204 : decode cX6_hear 204 = .ok (.aload_n 0, 1) := by decide +kernel
theorem dX6_hear_205 : decode cX6_hear 205 = .ok (.iload_n 1, 1) := by decide +kernel
theorem dX6_hear_206 : decode cX6_hear 206 = .ok (.aload_n 0, 1) := by decide +kernel
theorem dX6_hear_207 : decode cX6_hear 207 = .ok (.getfield 7, 3) := by decide +kernel
theorem dX6_hear_210 : decode cX6_hear 210 = .ok (.sipush 6810, 3) := by decide +kernel
theorem dX6_hear_213 : decode cX6_hear 213 = .ok (.iaload, 1) := by decide +kernel
theorem dX6_hear_214 : decode cX6_hear 214 = .ok (.aload_n 0, 1) := by decide +kernel
theorem dX6_hear_215 : decode cX6_hear 215 = .ok (.getfield 7, 3) := by decide +kernel
theorem dX6_hear_218 : decode cX6_hear 218 = .ok (.bipush 10, 2) := by decide +kernel
theorem dX6_hear_220 : decode cX6_hear 220 = .ok (.iload_n 1, 1) := by decide +kernel
theorem dX6_hear_221 : decode cX6_hear 221 = .ok (.iadd, 1) := by decide +kernel
theorem dX6_hear_222 : decode cX6_hear 222 = .ok (.iaload, 1) := by decide +kernel
theorem dX6_hear_223 : decode cX6_hear 223 = .ok (.iadd, 1) := by decide +kernel
theorem dX6_hear_224 : decode cX6_hear 224 = .ok (.iload_n 2, 1) := by decide +kernel
theorem dX6_hear_225 : decode cX6_hear 225 = .ok (.iload_n 3, 1) := by decide +kernel
theorem dX6_hear_226 : decode cX6_hear 226 = .ok (.iload 4, 2) := by decide +kernel
theorem dX6_hear_228 : decode cX6_hear 228 = .ok (.iconst 1, 1) := by decide +kernel
theorem dX6_hear_229 : decode cX6_hear 229 = .ok (.isub, 1) := by decide +kernel
theorem dX6_hear_230 : decode cX6_hear 230 = .ok (.invokevirtual 54, 3) := by decide +kernel
theorem dX6_hear_233 : decode cX6_hear 233 = .ok (.return_, 1) := by decide +kernel
set_option maxRecDepth 20000 in
theorem ggX6_sleep_X6_isLamp : GoodIn wsX6_sleep wsX6_isLamp := goodIn_r _ [5, 6, 7, 4, 8] (by decide +kernel) (by decide +kernel)
set_option maxRecDepth 20000 in
theorem gX6_sleep_X6_isLamp : GoodIn wsX6_sleep (va_wsS RX6 24 yX6_isLamp wsX6_isLamp) := goodIn_app (goodIn_of _ (by decide +kernel)) ggX6_sleep_X6_isLamp
set_option maxRecDepth 20000 in
theorem ggX6_sleep_X6_in : GoodIn wsX6_sleep wsX6_in := goodIn_r _ [8] (by decide +kernel) (by decide +kernel)
set_option maxRecDepth 20000 in
theorem gX6_sleep_X6_in : GoodIn wsX6_sleep (va_wsS RX6 20 yX6_in wsX6_in) := goodIn_app (goodIn_of _ (by decide +kernel)) ggX6_sleep_X6_in
set_option maxRecDepth 20000 in
theorem ggX6_sleep_X6_sleeps : GoodIn wsX6_sleep wsX6_sleeps := goodIn_r _ [12, 1, 28, 29, 30] (by decide +kernel) (by decide +kernel)
set_option maxRecDepth 20000 in
theorem gX6_sleep_X6_sleeps : GoodIn wsX6_sleep (wsV RX6 36 RX6 yX6_sleeps wsX6_sleeps) := goodIn_app (goodIn_of _ (by decide +kernel)) ggX6_sleep_X6_sleeps
set_option maxRecDepth 20000 in
theorem ggX6_sleep_X6_knows : GoodIn wsX6_sleep wsX6_knows := goodIn_r _ [16, 1, 17, 18, 19, 4, 20, 21, 22, 23, 28, 29, 30] (by decide +kernel) (by decide +kernel)
set_option maxRecDepth 20000 in
theorem gX6_sleep_X6_knows : GoodIn wsX6_sleep (wsV RX6 58 RX6 yX6_knows wsX6_knows) := goodIn_app (goodIn_of _ (by decide +kernel)) ggX6_sleep_X6_knows
set_option maxRecDepth 20000 in
theorem ggX6_sleep_X6_takes : GoodIn wsX6_sleep wsX6_takes := goodIn_r _ [27, 1, 17, 18, 19, 4, 20, 28, 29, 30] (by decide +kernel) (by decide +kernel)
set_option maxRecDepth 20000 in
theorem gX6_sleep_X6_takes : GoodIn wsX6_sleep (wsV RX6 67 RX6 yX6_takes wsX6_takes) := goodIn_app (goodIn_of _ (by decide +kernel)) ggX6_sleep_X6_takes
theorem dX6_sleep_0 : decode cX6_sleep 0 = .ok (.iload_n 1, 1) := by decide +kernel
theorem dX6_sleep_1 : decode cX6_sleep 1 = .ok (.invokestatic 24, 3) := by decide +kernel
theorem dX6_sleep_4 : decode cX6_sleep 4 = .ok (.ifCond .ne 5, 3) := by decide +kernel
theorem dX6_sleep_7 : decode cX6_sleep 7 = .ok (.iconst (-1), 1) := by decide +kernel
theorem dX6_sleep_8 : decode cX6_sleep 8 = .ok (.ireturn, 1) := by decide +kernel
theorem dX6_sleep_9 : decode cX6_sleep 9 = .ok (.iload_n 2, 1) := by decide +kernel
theorem dX6_sleep_10 : decode cX6_sleep 10 = .ok (.iconst 0, 1) := by decide +kernel
theorem dX6_sleep_11 : decode cX6_sleep 11 = .ok (.iconst 1, 1) := by decide +kernel
theorem dX6_sleep_12 : decode cX6_sleep 12 = .ok (.invokestatic 20, 3) := by decide +kernel
theorem dX6_sleep_15 : decode cX6_sleep 15 = .ok (.ifCond .ne 6, 3) := by decide +kernel
theorem dX6_sleep_18 : decode cX6_sleep 18 = .ok (.bipush (-2), 2) := by decide +kernel
theorem dX6_sleep_20 : decode cX6_sleep 20 = .ok (.ireturn, 1) := by decide +kernel
theorem dX6_sleep_21 : decode cX6_sleep 21 = .ok (.iload_n 2, 1) := by decide +kernel
theorem dX6_sleep_22 : decode cX6_sleep 22 = .ok (.iconst 1, 1) := by decide +kernel
theorem dX6_sleep_23 : decode cX6_sleep 23 = .ok (.if_icmp .ne 18, 3) := by decide +kernel
theorem dX6_sleep_26 : decode cX6_sleep 26 = .ok (.aload_n 0, 1) := by decide +kernel
theorem dX6_sleep_27 : decode cX6_sleep 27 = .ok (.getfield 7, 3) := by decide +kernel
theorem dX6_sleep_30 : decode cX6_sleep 30 = .ok (.bipush 70, 2) := by decide +kernel
theorem dX6_sleep_32 : decode cX6_sleep 32 = .ok (.iload_n 1, 1) := by decide +kernel
theorem dX6_sleep_33 : decode cX6_sleep 33 = .ok (.iadd, 1) := by decide +kernel
theorem dX6_sleep_34 : decode cX6_sleep 34 = .ok (.iaload, 1) := by decide +kernel
theorem dX6_sleep_35 : decode cX6_sleep 35 = .ok (.ifCond .ge 6, 3) := by decide +kernel
theorem dX6_sleep_38 : decode cX6_sleep 38 = .ok (.bipush (-5), 2) := by decide +kernel
theorem dX6_sleep_40 : decode cX6_sleep 40 = .ok (.ireturn, 1) := by decide +kernel
theorem dX6_sleep_41 : decode cX6_sleep 41 = .ok (.iload_n 2, 1) := by decide +kernel
theorem dX6_sleep_42 : decode cX6_sleep 42 = .ok (.ifCond .ne 15, 3) := by decide +kernel
theorem dX6_sleep_45 : decode cX6_sleep 45 = .ok (.aload_n 0, 1) := by decide +kernel
theorem dX6_sleep_46 : decode cX6_sleep 46 = .ok (.iload_n 1, 1) := by decide +kernel
theorem dX6_sleep_47 : decode cX6_sleep 47 = .ok (.invokevirtual 36, 3) := by decide +kernel
theorem dX6_sleep_50 : decode cX6_sleep 50 = .ok (.ifCond .eq 7, 3) := by decide +kernel
theorem dX6_sleep_53 : decode cX6_sleep 53 = .ok (.iconst 1, 1) := by decide +kernel
theorem dX6_sleep_54 : decode cX6_sleep 54 = .ok (.goto 4, 3) := by decide +kernel
theorem dX6_sleep_57 : decode cX6_sleep 57 = .ok (.iconst 0, 1) := by decide +kernel
theorem dX6_sleep_58 : decode cX6_sleep 58 = .ok (.istore_n 3, 1) := by decide +kernel
theorem dX6_sleep_59 : decode cX6_sleep 59 = .ok (.aload_n 0, 1) := by decide +kernel
theorem dX6_sleep_60 : decode cX6_sleep 60 = .ok (.getfield 7, 3) := by decide +kernel
theorem dX6_sleep_63 : decode cX6_sleep 63 = .ok (.bipush 60, 2) := by decide +kernel
theorem dX6_sleep_65 : decode cX6_sleep 65 = .ok (.iload_n 1, 1) := by decide +kernel
theorem dX6_sleep_66 : decode cX6_sleep 66 = .ok (.iadd, 1) := by decide +kernel
theorem dX6_sleep_67 : decode cX6_sleep 67 = .ok (.iload_n 2, 1) := by decide +kernel
theorem dX6_sleep_68 : decode cX6_sleep 68 = .ok (.iastore, 1) := by decide +kernel
theorem dX6_sleep_69 : decode cX6_sleep 69 = .ok (.iconst 0, 1) := by decide +kernel
theorem dX6_sleep_70 : decode cX6_sleep 70 = .ok (.istore 4, 2) := by decide +kernel
theorem dX6_sleep_72 : decode cX6_sleep 72 = .ok (.iconst 0, 1) := by decide +kernel
theorem dX6_sleep_73 : decode cX6_sleep 73 = .ok (.istore 5, 2) := by decide +kernel
theorem dX6_sleep_75 : decode cX6_sleep 75 = .ok (.iload 5, 2) := by decide +kernel
theorem dX6_sleep_77 : decode cX6_sleep 77 = .ok (.aload_n 0, 1) := by decide +kernel
theorem dX6_sleep_78 : decode cX6_sleep 78 = .ok (.getfield 7, 3) := by decide +kernel
theorem dX6_sleep_81 : decode cX6_sleep 81 = .ok (.sipush 150, 3) := by decide +kernel
theorem dX6_sleep_84 : decode cX6_sleep 84 = .ok (.iload_n 1, 1) := by decide +kernel
theorem dX6_sleep_85 : decode cX6_sleep 85 = .ok (.iadd, 1) := by decide +kernel
theorem dX6_sleep_86 : decode cX6_sleep 86 = .ok (.iaload, 1) := by decide +kernel
theorem dX6_sleep_87 : decode cX6_sleep 87 = .ok (.if_icmp .ge 105, 3) := by decide +kernel
theorem dX6_sleep_90 : decode cX6_sleep 90 = .ok (.iload_n 3, 1) := by decide +kernel
theorem dX6_sleep_91 : decode cX6_sleep 91 = .ok (.ifCond .eq 101, 3) := by decide +kernel
theorem dX6_sleep_94 : decode cX6_sleep 94 = .ok (.aload_n 0, 1) := by decide +kernel
theorem dX6_sleep_95 : decode cX6_sleep 95 = .ok (.getfield 7, 3) := by decide +kernel
theorem dX6_sleep_98 : decode cX6_sleep 98 = .ok (.sipush 430, 3) := by decide +kernel
theorem dX6_sleep_101 : decode cX6_sleep 101 = .ok (.bipush 6, 2) := by decide +kernel
theorem dX6_sleep_103 : decode cX6_sleep 103 = .ok (.iload_n 1, 1) := by decide +kernel
theorem dX6_sleep_104 : decode cX6_sleep 104 = .ok (.imul, 1) := by decide +kernel
theorem dX6_sleep_105 : decode cX6_sleep 105 = .ok (.iadd, 1) := by decide +kernel
theorem dX6_sleep_106 : decode cX6_sleep 106 = .ok (.iconst 2, 1) := by decide +kernel
theorem dX6_sleep_107 : decode cX6_sleep 107 = .ok (.iload 5, 2) := by decide +kernel
theorem dX6_sleep_109 : decode cX6_sleep 109 = .ok (.imul, 1) := by decide +kernel
theorem dX6_sleep_110 : decode cX6_sleep 110 = .ok (.iadd, 1) := by decide +kernel
theorem dX6_sleep_111 : decode cX6_sleep 111 = .ok (.iaload, 1) := by decide +kernel
theorem dX6_sleep_112 : decode cX6_sleep 112 = .ok (.istore 6, 2) := by decide +kernel
theorem dX6_sleep_114 : decode cX6_sleep 114 = .ok (.aload_n 0, 1) := by decide +kernel
theorem dX6_sleep_115 : decode cX6_sleep 115 = .ok (.getfield 7, 3) := by decide +kernel
theorem dX6_sleep_118 : decode cX6_sleep 118 = .ok (.sipush 430, 3) := by decide +kernel
theorem dX6_sleep_121 : decode cX6_sleep 121 = .ok (.bipush 6, 2) := by decide +kernel
theorem dX6_sleep_123 : decode cX6_sleep 123 = .ok (.iload_n 1, 1) := by decide +kernel
theorem dX6_sleep_124 : decode cX6_sleep 124 = .ok (.imul, 1) := by decide +kernel
theorem dX6_sleep_125 : decode cX6_sleep 125 = .ok (.iadd, 1) := by decide +kernel
theorem dX6_sleep_126 : decode cX6_sleep 126 = .ok (.iconst 2, 1) := by decide +kernel
theorem dX6_sleep_127 : decode cX6_sleep 127 = .ok (.iload 5, 2) := by decide +kernel
theorem dX6_sleep_129 : decode cX6_sleep 129 = .ok (.imul, 1) := by decide +kernel
theorem dX6_sleep_130 : decode cX6_sleep 130 = .ok (.iadd, 1) := by decide +kernel
theorem dX6_sleep_131 : decode cX6_sleep 131 = .ok (.iconst 1, 1) := by decide +kernel
theorem dX6_sleep_132 : decode cX6_sleep 132 = .ok (.iadd, 1) := by decide +kernel
theorem dX6_sleep_133 : decode cX6_sleep 133 = .ok (.iaload, 1) := by decide +kernel
theorem dX6_sleep_134 : decode cX6_sleep 134 = .ok (.istore 7, 2) := by decide +kernel
theorem dX6_sleep_136 : decode cX6_sleep 136 = .ok (.aload_n 0, 1) := by decide +kernel
theorem dX6_sleep_137 : decode cX6_sleep 137 = .ok (.iload_n 1, 1) := by decide +kernel
theorem dX6_sleep_138 : decode cX6_sleep 138 = .ok (.iload 6, 2) := by decide +kernel
theorem dX6_sleep_140 : decode cX6_sleep 140 = .ok (.iload 7, 2) := by decide +kernel
theorem dX6_sleep_142 : decode cX6_sleep 142 = .ok (.invokevirtual 58, 3) := by decide +kernel
theorem dX6_sleep_145 : decode cX6_sleep 145 = .ok (.ifCond .eq 28, 3) := by decide +kernel
theorem dX6_sleep_148 : decode cX6_sleep 148 = .ok (.iload 4, 2) := by decide +kernel
theorem dX6_sleep_150 : decode cX6_sleep 150 = .ok (.aload_n 0, 1) := by decide +kernel
theorem dX6_sleep_151 : decode cX6_sleep 151 = .ok (.iload_n 1, 1) := by decide +kernel
theorem dX6_sleep_152 : decode cX6_sleep 152 = .ok (.iload 6, 2) := by decide +kernel
theorem dX6_sleep_154 : decode cX6_sleep 154 = .ok (.iload 7, 2) := by decide +kernel
theorem dX6_sleep_156 : decode cX6_sleep 156 = .ok (.invokevirtual 67, 3) := by decide +kernel
theorem dX6_sleep_159 : decode cX6_sleep 159 = .ok (.ifCond .eq 7, 3) := by decide +kernel
end
section
theorem dX6_sleep_162 : decode cX6_sleep 162 = .ok (.iconst 1, 1) := by decide +kernel
theorem dX6_sleep_163 : decode cX6_sleep 163 = .ok (.goto 4, 3) := by decide +kernel
theorem dX6_sleep_166 : decode cX6_sleep 166 = .ok (.iconst 0, 1) := by decide +kernel
theorem dX6_sleep_167 : decode cX6_sleep 167 = .ok (.iadd, 1) := by decide +kernel
theorem dX6_sleep_168 : decode cX6_sleep 168 = .ok (.istore 4, 2) := by decide +kernel
theorem dX6_sleep_170 : decode cX6_sleep 170 = .ok (.goto 16, 3) := by decide +kernel
theorem dX6_sleep_173 : decode cX6_sleep 173 = .ok (.aload_n 0, 1) := by decide +kernel
theorem dX6_sleep_174 : decode cX6_sleep 174 = .ok (.getfield 7, 3) := by decide +kernel
theorem dX6_sleep_177 : decode cX6_sleep 177 = .ok (.bipush 110, 2) := by decide +kernel
theorem dX6_sleep_179 : decode cX6_sleep 179 = .ok (.iload_n 1, 1) := by decide +kernel
theorem dX6_sleep_180 : decode cX6_sleep 180 = .ok (.iadd, 1) := by decide +kernel
theorem dX6_sleep_181 : decode cX6_sleep 181 = .ok (.dup2, 1) := by decide +kernel
theorem dX6_sleep_182 : decode cX6_sleep 182 = .ok (.iaload, 1) := by decide +kernel
theorem dX6_sleep_183 : decode cX6_sleep 183 = .ok (.iconst 1, 1) := by decide +kernel
theorem dX6_sleep_184 : decode cX6_sleep 184 = .ok (.iadd, 1) := by decide +kernel
theorem dX6_sleep_185 : decode cX6_sleep 185 = .ok (.iastore, 1) := by decide +kernel
theorem dX6_sleep_186 : decode cX6_sleep 186 = .ok (.iinc 5 1, 3) := by decide +kernel
theorem dX6_sleep_189 : decode cX6_sleep 189 = .ok (.goto (-114), 3) := by decide +kernel
theorem dX6_sleep_192 : decode cX6_sleep 192 = .ok (.aload_n 0, 1) := by decide +kernel
theorem dX6_sleep_193 : decode cX6_sleep 193 = .ok (.getfield 7, 3) := by decide +kernel
theorem dX6_sleep_196 : decode cX6_sleep 196 = .ok (.sipush 150, 3) := by decide +kernel
theorem dX6_sleep_199 : decode cX6_sleep 199 = .ok (.iload_n 1, 1) := by decide +kernel
theorem dX6_sleep_200 : decode cX6_sleep 200 = .ok (.iadd, 1) := by decide +kernel
theorem dX6_sleep_201 : decode cX6_sleep 201 = .ok (.iload_n 3, 1) := by decide +kernel
theorem dX6_sleep_202 : decode cX6_sleep 202 = .ok (.ifCond .eq 7, 3) := by decide +kernel
theorem dX6_sleep_205 : decode cX6_sleep 205 = .ok (.iconst 0, 1) := by decide +kernel
theorem dX6_sleep_206 : decode cX6_sleep 206 = .ok (.goto 13, 3) := by decide +kernel
theorem dX6_sleep_209 : decode cX6_sleep 209 = .ok (.aload_n 0, 1) := by decide +kernel
theorem dX6_sleep_210 : decode cX6_sleep 210 = .ok (.getfield 7, 3) := by decide +kernel
theorem dX6_sleep_213 : decode cX6_sleep 213 = .ok (.sipush 150, 3) := by decide +kernel
theorem dX6_sleep_216 : decode cX6_sleep 216 = .ok (.iload_n 1, 1) := by decide +kernel
theorem dX6_sleep_217 : decode cX6_sleep 217 = .ok (.iadd, 1) := by decide +kernel
theorem dX6_sleep_218 : decode cX6_sleep 218 = .ok (.iaload, 1) := by decide +kernel
theorem dX6_sleep_219 : decode cX6_sleep 219 = .ok (.iastore, 1) := by decide +kernel
theorem dX6_sleep_220 : decode cX6_sleep 220 = .ok (.iload 4, 2) := by decide +kernel
theorem dX6_sleep_222 : decode cX6_sleep 222 = .ok (.ireturn, 1) := by decide +kernel
theorem dX6_dueNow_0 : decode cX6_dueNow 0 = .ok (.bipush (-6), 2) := by decide +kernel
theorem dX6_dueNow_2 : decode cX6_dueNow 2 = .ok (.istore_n 1, 1) := by decide +kernel
theorem dX6_dueNow_3 : decode cX6_dueNow 3 = .ok (.aload_n 0, 1) := by decide +kernel
theorem dX6_dueNow_4 : decode cX6_dueNow 4 = .ok (.getfield 7, 3) := by decide +kernel
theorem dX6_dueNow_7 : decode cX6_dueNow 7 = .ok (.sipush 6815, 3) := by decide +kernel
theorem dX6_dueNow_10 : decode cX6_dueNow 10 = .ok (.iaload, 1) := by decide +kernel
theorem dX6_dueNow_11 : decode cX6_dueNow 11 = .ok (.iconst 1, 1) := by decide +kernel
theorem dX6_dueNow_12 : decode cX6_dueNow 12 = .ok (.isub, 1) := by decide +kernel
theorem dX6_dueNow_13 : decode cX6_dueNow 13 = .ok (.istore_n 2, 1) := by decide +kernel
theorem dX6_dueNow_14 : decode cX6_dueNow 14 = .ok (.iload_n 2, 1) := by decide +kernel
theorem dX6_dueNow_15 : decode cX6_dueNow 15 = .ok (.ifCond .lt 40, 3) := by decide +kernel
theorem dX6_dueNow_18 : decode cX6_dueNow 18 = .ok (.aload_n 0, 1) := by decide +kernel
theorem dX6_dueNow_19 : decode cX6_dueNow 19 = .ok (.getfield 7, 3) := by decide +kernel
theorem dX6_dueNow_22 : decode cX6_dueNow 22 = .ok (.sipush 490, 3) := by decide +kernel
theorem dX6_dueNow_25 : decode cX6_dueNow 25 = .ok (.iconst 5, 1) := by decide +kernel
theorem dX6_dueNow_26 : decode cX6_dueNow 26 = .ok (.iload_n 2, 1) := by decide +kernel
theorem dX6_dueNow_27 : decode cX6_dueNow 27 = .ok (.imul, 1) := by decide +kernel
theorem dX6_dueNow_28 : decode cX6_dueNow 28 = .ok (.iadd, 1) := by decide +kernel
theorem dX6_dueNow_29 : decode cX6_dueNow 29 = .ok (.iconst 1, 1) := by decide +kernel
theorem dX6_dueNow_30 : decode cX6_dueNow 30 = .ok (.iadd, 1) := by decide +kernel
theorem dX6_dueNow_31 : decode cX6_dueNow 31 = .ok (.iaload, 1) := by decide +kernel
theorem dX6_dueNow_32 : decode cX6_dueNow 32 = .ok (.aload_n 0, 1) := by decide +kernel
theorem dX6_dueNow_33 : decode cX6_dueNow 33 = .ok (.getfield 7, 3) := by decide +kernel
theorem dX6_dueNow_36 : decode cX6_dueNow 36 = .ok (.sipush 6810, 3) := by decide +kernel
theorem dX6_dueNow_39 : decode cX6_dueNow 39 = .ok (.iaload, 1) := by decide +kernel
theorem dX6_dueNow_40 : decode cX6_dueNow 40 = .ok (.if_icmp .ne 7, 3) := by decide +kernel
theorem dX6_dueNow_43 : decode cX6_dueNow 43 = .ok (.iload_n 2, 1) := by decide +kernel
theorem dX6_dueNow_44 : decode cX6_dueNow 44 = .ok (.goto 4, 3) := by decide +kernel
theorem dX6_dueNow_47 : decode cX6_dueNow 47 = .ok (.iload_n 1, 1) := by decide +kernel
theorem dX6_dueNow_48 : decode cX6_dueNow 48 = .ok (.istore_n 1, 1) := by decide +kernel
theorem dX6_dueNow_49 : decode cX6_dueNow 49 = .ok (.iinc 2 (-1), 3) := by decide +kernel
theorem dX6_dueNow_52 : decode cX6_dueNow 52 = .ok (.goto (-38), 3) := by decide +kernel
theorem dX6_dueNow_55 : decode cX6_dueNow 55 = .ok (.iload_n 1, 1) := by decide +kernel
theorem dX6_dueNow_56 : decode cX6_dueNow 56 = .ok (.ireturn, 1) := by decide +kernel
theorem dX6_removeFromAir_0 : decode cX6_removeFromAir 0 = .ok (.aload_n 0, 1) := by decide +kernel
theorem dX6_removeFromAir_1 : decode cX6_removeFromAir 1 = .ok (.getfield 7, 3) := by decide +kernel
theorem dX6_removeFromAir_4 : decode cX6_removeFromAir 4 = .ok (.sipush 6815, 3) := by decide +kernel
theorem dX6_removeFromAir_7 : decode cX6_removeFromAir 7 = .ok (.dup2, 1) := by decide +kernel
theorem dX6_removeFromAir_8 : decode cX6_removeFromAir 8 = .ok (.iaload, 1) := by decide +kernel
theorem dX6_removeFromAir_9 : decode cX6_removeFromAir 9 = .ok (.iconst 1, 1) := by decide +kernel
theorem dX6_removeFromAir_10 : decode cX6_removeFromAir 10 = .ok (.isub, 1) := by decide +kernel
theorem dX6_removeFromAir_11 : decode cX6_removeFromAir 11 = .ok (.iastore, 1) := by decide +kernel
theorem dX6_removeFromAir_12 : decode cX6_removeFromAir 12 = .ok (.iconst 5, 1) := by decide +kernel
theorem dX6_removeFromAir_13 : decode cX6_removeFromAir 13 = .ok (.iload_n 1, 1) := by decide +kernel
theorem dX6_removeFromAir_14 : decode cX6_removeFromAir 14 = .ok (.imul, 1) := by decide +kernel
theorem dX6_removeFromAir_15 : decode cX6_removeFromAir 15 = .ok (.istore_n 2, 1) := by decide +kernel
theorem dX6_removeFromAir_16 : decode cX6_removeFromAir 16 = .ok (.iload_n 2, 1) := by decide +kernel
theorem dX6_removeFromAir_17 : decode cX6_removeFromAir 17 = .ok (.iconst 5, 1) := by decide +kernel
theorem dX6_removeFromAir_18 : decode cX6_removeFromAir 18 = .ok (.aload_n 0, 1) := by decide +kernel
theorem dX6_removeFromAir_19 : decode cX6_removeFromAir 19 = .ok (.getfield 7, 3) := by decide +kernel
theorem dX6_removeFromAir_22 : decode cX6_removeFromAir 22 = .ok (.sipush 6815, 3) := by decide +kernel
theorem dX6_removeFromAir_25 : decode cX6_removeFromAir 25 = .ok (.iaload, 1) := by decide +kernel
theorem dX6_removeFromAir_26 : decode cX6_removeFromAir 26 = .ok (.imul, 1) := by decide +kernel
theorem dX6_removeFromAir_27 : decode cX6_removeFromAir 27 = .ok (.if_icmp .ge 31, 3) := by decide +kernel
theorem dX6_removeFromAir_30 : decode cX6_removeFromAir 30 = .ok (.aload_n 0, 1) := by decide +kernel
theorem dX6_removeFromAir_31 : decode cX6_removeFromAir 31 = .ok (.getfield 7, 3) := by decide +kernel
theorem dX6_removeFromAir_34 : decode cX6_removeFromAir 34 = .ok (.sipush 490, 3) := by decide +kernel
theorem dX6_removeFromAir_37 : decode cX6_removeFromAir 37 = .ok (.iload_n 2, 1) := by decide +kernel
theorem dX6_removeFromAir_38 : decode cX6_removeFromAir 38 = .ok (.iadd, 1) := by decide +kernel
theorem dX6_removeFromAir_39 : decode cX6_removeFromAir 39 = .ok (.aload_n 0, 1) := by decide +kernel
theorem dX6_removeFromAir_40 : decode cX6_removeFromAir 40 = .ok (.getfield 7, 3) := by decide +kernel
theorem dX6_removeFromAir_43 : decode cX6_removeFromAir 43 = .ok (.sipush 490, 3) := by decide +kernel
theorem dX6_removeFromAir_46 : decode cX6_removeFromAir 46 = .ok (.iload_n 2, 1) := by decide +kernel
theorem dX6_removeFromAir_47 : decode cX6_removeFromAir 47 = .ok (.iadd, 1) := by decide +kernel
theorem dX6_removeFromAir_48 : decode cX6_removeFromAir 48 = .ok (.iconst 5, 1) := by decide +kernel
theorem dX6_removeFromAir_49 : decode cX6_removeFromAir 49 = .ok (.iadd, 1) := by decide +kernel
theorem dX6_removeFromAir_50 : decode cX6_removeFromAir 50 = .ok (.iaload, 1) := by decide +kernel
theorem dX6_removeFromAir_51 : decode cX6_removeFromAir 51 = .ok (.iastore, 1) := by decide +kernel
theorem dX6_removeFromAir_52 : decode cX6_removeFromAir 52 = .ok (.iinc 2 1, 3) := by decide +kernel
theorem dX6_removeFromAir_55 : decode cX6_removeFromAir 55 = .ok (.goto (-39), 3) := by decide +kernel
theorem dX6_removeFromAir_58 : decode cX6_removeFromAir 58 = .ok (.return_, 1) := by decide +kernel
set_option maxRecDepth 20000 in
theorem ggX6_speaks_X6_removeFromAir : GoodIn wsX6_speaks wsX6_removeFromAir := goodIn_r _ [6, 1, 50, 51, 52] (by decide +kernel) (by decide +kernel)
set_option maxRecDepth 20000 in
theorem gX6_speaks_X6_removeFromAir : GoodIn wsX6_speaks (wsV RX6 73 RX6 yX6_removeFromAir wsX6_removeFromAir) := goodIn_app (goodIn_of _ (by decide +kernel)) ggX6_speaks_X6_removeFromAir
set_option maxRecDepth 20000 in
theorem ggX6_speaks_X6_sleeps : GoodIn wsX6_speaks wsX6_sleeps := goodIn_r _ [10, 1, 50, 51, 52] (by decide +kernel) (by decide +kernel)
set_option maxRecDepth 20000 in
theorem gX6_speaks_X6_sleeps : GoodIn wsX6_speaks (wsV RX6 36 RX6 yX6_sleeps wsX6_sleeps) := goodIn_app (goodIn_of _ (by decide +kernel)) ggX6_speaks_X6_sleeps
set_option maxRecDepth 20000 in
theorem ggX6_speaks_X6_isOf : GoodIn wsX6_speaks wsX6_isOf := goodIn_r _ [13] (by decide +kernel) (by decide +kernel)
set_option maxRecDepth 20000 in
theorem gX6_speaks_X6_isOf : GoodIn wsX6_speaks (va_wsS RX6 43 yX6_isOf wsX6_isOf) := goodIn_app (goodIn_of _ (by decide +kernel)) ggX6_speaks_X6_isOf
set_option maxRecDepth 20000 in
theorem ggX6_speaks_X6_hear : GoodIn wsX6_speaks wsX6_hear := goodIn_r _ [17, 1, 18, 19, 20, 5, 21, 22, 23, 24, 25, 11, 12, 13, 26, 27, 28, 29, 30, 31, 32, 33, 34, 35, 36, 37, 38, 39, 40, 41, 7, 8, 9, 10, 42, 43, 44, 45, 46, 47, 48, 49, 50, 51, 52] (by decide +kernel) (by decide +kernel)
set_option maxRecDepth 20000 in
theorem gX6_speaks_X6_hear : GoodIn wsX6_speaks (wsV RX6 76 RX6 yX6_hear wsX6_hear) := goodIn_app (goodIn_of _ (by decide +kernel)) ggX6_speaks_X6_hear
theorem dX6_speaks_0 : decode cX6_speaks 0 = .ok (.aload_n 0, 1) := by decide +kernel
theorem dX6_speaks_1 : decode cX6_speaks 1 = .ok (.getfield 7, 3) := by decide +kernel
theorem dX6_speaks_4 : decode cX6_speaks 4 = .ok (.sipush 490, 3) := by decide +kernel
theorem dX6_speaks_7 : decode cX6_speaks 7 = .ok (.iconst 5, 1) := by decide +kernel
theorem dX6_speaks_8 : decode cX6_speaks 8 = .ok (.iload_n 1, 1) := by decide +kernel
theorem dX6_speaks_9 : decode cX6_speaks 9 = .ok (.imul, 1) := by decide +kernel
theorem dX6_speaks_10 : decode cX6_speaks 10 = .ok (.iadd, 1) := by decide +kernel
theorem dX6_speaks_11 : decode cX6_speaks 11 = .ok (.iaload, 1) := by decide +kernel
theorem dX6_speaks_12 : decode cX6_speaks 12 = .ok (.istore_n 2, 1) := by decide +kernel
theorem dX6_speaks_13 : decode cX6_speaks 13 = .ok (.aload_n 0, 1) := by decide +kernel
theorem dX6_speaks_14 : decode cX6_speaks 14 = .ok (.getfield 7, 3) := by decide +kernel
theorem dX6_speaks_17 : decode cX6_speaks 17 = .ok (.sipush 490, 3) := by decide +kernel
theorem dX6_speaks_20 : decode cX6_speaks 20 = .ok (.iconst 5, 1) := by decide +kernel
theorem dX6_speaks_21 : decode cX6_speaks 21 = .ok (.iload_n 1, 1) := by decide +kernel
theorem dX6_speaks_22 : decode cX6_speaks 22 = .ok (.imul, 1) := by decide +kernel
theorem dX6_speaks_23 : decode cX6_speaks 23 = .ok (.iadd, 1) := by decide +kernel
theorem dX6_speaks_24 : decode cX6_speaks 24 = .ok (.iconst 2, 1) := by decide +kernel
theorem dX6_speaks_25 : decode cX6_speaks 25 = .ok (.iadd, 1) := by decide +kernel
theorem dX6_speaks_26 : decode cX6_speaks 26 = .ok (.iaload, 1) := by decide +kernel
theorem dX6_speaks_27 : decode cX6_speaks 27 = .ok (.istore_n 3, 1) := by decide +kernel
theorem dX6_speaks_28 : decode cX6_speaks 28 = .ok (.aload_n 0, 1) := by decide +kernel
theorem dX6_speaks_29 : decode cX6_speaks 29 = .ok (.getfield 7, 3) := by decide +kernel
theorem dX6_speaks_32 : decode cX6_speaks 32 = .ok (.sipush 490, 3) := by decide +kernel
theorem dX6_speaks_35 : decode cX6_speaks 35 = .ok (.iconst 5, 1) := by decide +kernel
theorem dX6_speaks_36 : decode cX6_speaks 36 = .ok (.iload_n 1, 1) := by decide +kernel
theorem dX6_speaks_37 : decode cX6_speaks 37 = .ok (.imul, 1) := by decide +kernel
theorem dX6_speaks_38 : decode cX6_speaks 38 = .ok (.iadd, 1) := by decide +kernel
theorem dX6_speaks_39 : decode cX6_speaks 39 = .ok (.iconst 3, 1) := by decide +kernel
theorem dX6_speaks_40 : decode cX6_speaks 40 = .ok (.iadd, 1) := by decide +kernel
theorem dX6_speaks_41 : decode cX6_speaks 41 = .ok (.iaload, 1) := by decide +kernel
theorem dX6_speaks_42 : decode cX6_speaks 42 = .ok (.istore 4, 2) := by decide +kernel
theorem dX6_speaks_44 : decode cX6_speaks 44 = .ok (.aload_n 0, 1) := by decide +kernel
theorem dX6_speaks_45 : decode cX6_speaks 45 = .ok (.getfield 7, 3) := by decide +kernel
theorem dX6_speaks_48 : decode cX6_speaks 48 = .ok (.sipush 490, 3) := by decide +kernel
theorem dX6_speaks_51 : decode cX6_speaks 51 = .ok (.iconst 5, 1) := by decide +kernel
theorem dX6_speaks_52 : decode cX6_speaks 52 = .ok (.iload_n 1, 1) := by decide +kernel
theorem dX6_speaks_53 : decode cX6_speaks 53 = .ok (.imul, 1) := by decide +kernel
theorem dX6_speaks_54 : decode cX6_speaks 54 = .ok (.iadd, 1) := by decide +kernel
theorem dX6_speaks_55 : decode cX6_speaks 55 = .ok (.iconst 4, 1) := by decide +kernel
theorem dX6_speaks_56 : decode cX6_speaks 56 = .ok (.iadd, 1) := by decide +kernel
theorem dX6_speaks_57 : decode cX6_speaks 57 = .ok (.iaload, 1) := by decide +kernel
theorem dX6_speaks_58 : decode cX6_speaks 58 = .ok (.istore 5, 2) := by decide +kernel
theorem dX6_speaks_60 : decode cX6_speaks 60 = .ok (.aload_n 0, 1) := by decide +kernel
theorem dX6_speaks_61 : decode cX6_speaks 61 = .ok (.iload_n 1, 1) := by decide +kernel
theorem dX6_speaks_62 : decode cX6_speaks 62 = .ok (.invokevirtual 73, 3) := by decide +kernel
theorem dX6_speaks_65 : decode cX6_speaks 65 = .ok (.iload_n 2, 1) := by decide +kernel
theorem dX6_speaks_66 : decode cX6_speaks 66 = .ok (.bipush 10, 2) := by decide +kernel
theorem dX6_speaks_68 : decode cX6_speaks 68 = .ok (.if_icmp .ge 7, 3) := by decide +kernel
theorem dX6_speaks_71 : decode cX6_speaks 71 = .ok (.iconst 1, 1) := by decide +kernel
theorem dX6_speaks_72 : decode cX6_speaks 72 = .ok (.goto 4, 3) := by decide +kernel
theorem dX6_speaks_75 : decode cX6_speaks 75 = .ok (.iconst 0, 1) := by decide +kernel
theorem dX6_speaks_76 : decode cX6_speaks 76 = .ok (.istore 6, 2) := by decide +kernel
theorem dX6_speaks_78 : decode cX6_speaks 78 = .ok (.iload 6, 2) := by decide +kernel
theorem dX6_speaks_80 : decode cX6_speaks 80 = .ok (.ifCond .eq 25, 3) := by decide +kernel
theorem dX6_speaks_83 : decode cX6_speaks 83 = .ok (.aload_n 0, 1) := by decide +kernel
theorem dX6_speaks_84 : decode cX6_speaks 84 = .ok (.iload_n 2, 1) := by decide +kernel
theorem dX6_speaks_85 : decode cX6_speaks 85 = .ok (.invokevirtual 36, 3) := by decide +kernel
theorem dX6_speaks_88 : decode cX6_speaks 88 = .ok (.ifCond .eq 17, 3) := by decide +kernel
theorem dX6_speaks_91 : decode cX6_speaks 91 = .ok (.aload_n 0, 1) := by decide +kernel
theorem dX6_speaks_92 : decode cX6_speaks 92 = .ok (.getfield 7, 3) := by decide +kernel
theorem dX6_speaks_95 : decode cX6_speaks 95 = .ok (.sipush 6818, 3) := by decide +kernel
theorem dX6_speaks_98 : decode cX6_speaks 98 = .ok (.dup2, 1) := by decide +kernel
theorem dX6_speaks_99 : decode cX6_speaks 99 = .ok (.iaload, 1) := by decide +kernel
theorem dX6_speaks_100 : decode cX6_speaks 100 = .ok (.iconst 1, 1) := by decide +kernel
theorem dX6_speaks_101 : decode cX6_speaks 101 = .ok (.iadd, 1) := by decide +kernel
theorem dX6_speaks_102 : decode cX6_speaks 102 = .ok (.iastore, 1) := by decide +kernel
theorem dX6_speaks_103 : decode cX6_speaks 103 = .ok (.iconst 0, 1) := by decide +kernel
theorem dX6_speaks_104 : decode cX6_speaks 104 = .ok (.ireturn, 1) := by decide +kernel
theorem dX6_speaks_105 : decode cX6_speaks 105 = .ok (.iload 6, 2) := by decide +kernel
theorem dX6_speaks_107 : decode cX6_speaks 107 = .ok (.ifCond .eq 7, 3) := by decide +kernel
theorem dX6_speaks_110 : decode cX6_speaks 110 = .ok (.iload_n 2, 1) := by decide +kernel
theorem dX6_speaks_111 : decode cX6_speaks 111 = .ok (.goto 7, 3) := by decide +kernel
theorem dX6_speaks_114 : decode cX6_speaks 114 = .ok (.iload_n 2, 1) := by decide +kernel
theorem dX6_speaks_115 : decode cX6_speaks 115 = .ok (.bipush 10, 2) := by decide +kernel
theorem dX6_speaks_117 : decode cX6_speaks 117 = .ok (.isub, 1) := by decide +kernel
theorem dX6_speaks_118 : decode cX6_speaks 118 = .ok (.istore 7, 2) := by decide +kernel
theorem dX6_speaks_120 : decode cX6_speaks 120 = .ok (.aload_n 0, 1) := by decide +kernel
theorem dX6_speaks_121 : decode cX6_speaks 121 = .ok (.getfield 7, 3) := by decide +kernel
theorem dX6_speaks_124 : decode cX6_speaks 124 = .ok (.sipush 6816, 3) := by decide +kernel
theorem dX6_speaks_127 : decode cX6_speaks 127 = .ok (.dup2, 1) := by decide +kernel
theorem dX6_speaks_128 : decode cX6_speaks 128 = .ok (.iaload, 1) := by decide +kernel
theorem dX6_speaks_129 : decode cX6_speaks 129 = .ok (.iconst 1, 1) := by decide +kernel
theorem dX6_speaks_130 : decode cX6_speaks 130 = .ok (.iadd, 1) := by decide +kernel
theorem dX6_speaks_131 : decode cX6_speaks 131 = .ok (.iastore, 1) := by decide +kernel
theorem dX6_speaks_132 : decode cX6_speaks 132 = .ok (.aload_n 0, 1) := by decide +kernel
theorem dX6_speaks_133 : decode cX6_speaks 133 = .ok (.getfield 7, 3) := by decide +kernel
theorem dX6_speaks_136 : decode cX6_speaks 136 = .ok (.sipush 140, 3) := by decide +kernel
theorem dX6_speaks_139 : decode cX6_speaks 139 = .ok (.iload 7, 2) := by decide +kernel
theorem dX6_speaks_141 : decode cX6_speaks 141 = .ok (.iadd, 1) := by decide +kernel
theorem dX6_speaks_142 : decode cX6_speaks 142 = .ok (.dup2, 1) := by decide +kernel
theorem dX6_speaks_143 : decode cX6_speaks 143 = .ok (.iaload, 1) := by decide +kernel
theorem dX6_speaks_144 : decode cX6_speaks 144 = .ok (.iload 6, 2) := by decide +kernel
theorem dX6_speaks_146 : decode cX6_speaks 146 = .ok (.ifCond .eq 7, 3) := by decide +kernel
theorem dX6_speaks_149 : decode cX6_speaks 149 = .ok (.iconst 1, 1) := by decide +kernel
theorem dX6_speaks_150 : decode cX6_speaks 150 = .ok (.goto 4, 3) := by decide +kernel
theorem dX6_speaks_153 : decode cX6_speaks 153 = .ok (.iconst 0, 1) := by decide +kernel
theorem dX6_speaks_154 : decode cX6_speaks 154 = .ok (.iadd, 1) := by decide +kernel
theorem dX6_speaks_155 : decode cX6_speaks 155 = .ok (.iastore, 1) := by decide +kernel
theorem dX6_speaks_156 : decode cX6_speaks 156 = .ok (.iconst 0, 1) := by decide +kernel
theorem dX6_speaks_157 : decode cX6_speaks 157 = .ok (.istore 8, 2) := by decide +kernel
theorem dX6_speaks_159 : decode cX6_speaks 159 = .ok (.iload 8, 2) := by decide +kernel
theorem dX6_speaks_161 : decode cX6_speaks 161 = .ok (.bipush 10, 2) := by decide +kernel
theorem dX6_speaks_163 : decode cX6_speaks 163 = .ok (.if_icmp .ge 70, 3) := by decide +kernel
theorem dX6_speaks_166 : decode cX6_speaks 166 = .ok (.aload_n 0, 1) := by decide +kernel
theorem dX6_speaks_167 : decode cX6_speaks 167 = .ok (.getfield 7, 3) := by decide +kernel
theorem dX6_speaks_170 : decode cX6_speaks 170 = .ok (.iconst 0, 1) := by decide +kernel
theorem dX6_speaks_171 : decode cX6_speaks 171 = .ok (.iload 7, 2) := by decide +kernel
theorem dX6_speaks_173 : decode cX6_speaks 173 = .ok (.iadd, 1) := by decide +kernel
theorem dX6_speaks_174 : decode cX6_speaks 174 = .ok (.iaload, 1) := by decide +kernel
theorem dX6_speaks_175 : decode cX6_speaks 175 = .ok (.iload 8, 2) := by decide +kernel
theorem dX6_speaks_177 : decode cX6_speaks 177 = .ok (.invokestatic 43, 3) := by decide +kernel
theorem dX6_speaks_180 : decode cX6_speaks 180 = .ok (.ifCond .ne 15, 3) := by decide +kernel
theorem dX6_speaks_183 : decode cX6_speaks 183 = .ok (.iload 6, 2) := by decide +kernel
theorem dX6_speaks_185 : decode cX6_speaks 185 = .ok (.ifCond .ne 14, 3) := by decide +kernel
theorem dX6_speaks_188 : decode cX6_speaks 188 = .ok (.iload 8, 2) := by decide +kernel
theorem dX6_speaks_190 : decode cX6_speaks 190 = .ok (.iload 7, 2) := by decide +kernel
theorem dX6_speaks_192 : decode cX6_speaks 192 = .ok (.if_icmp .ne 7, 3) := by decide +kernel
theorem dX6_speaks_195 : decode cX6_speaks 195 = .ok (.iconst 1, 1) := by decide +kernel
theorem dX6_speaks_196 : decode cX6_speaks 196 = .ok (.goto 4, 3) := by decide +kernel
theorem dX6_speaks_199 : decode cX6_speaks 199 = .ok (.iconst 0, 1) := by decide +kernel
theorem dX6_speaks_200 : decode cX6_speaks 200 = .ok (.istore 9, 2) := by decide +kernel
theorem dX6_speaks_202 : decode cX6_speaks 202 = .ok (.iload 9, 2) := by decide +kernel
theorem dX6_speaks_204 : decode cX6_speaks 204 = .ok (.ifCond .eq 23, 3) := by decide +kernel
theorem dX6_speaks_207 : decode cX6_speaks 207 = .ok (.aload_n 0, 1) := by decide +kernel
theorem dX6_speaks_208 : decode cX6_speaks 208 = .ok (.iload 8, 2) := by decide +kernel
theorem dX6_speaks_210 : decode cX6_speaks 210 = .ok (.invokevirtual 36, 3) := by decide +kernel
theorem dX6_speaks_213 : decode cX6_speaks 213 = .ok (.ifCond .ne 14, 3) := by decide +kernel
theorem dX6_speaks_216 : decode cX6_speaks 216 = .ok (.aload_n 0, 1) := by decide +kernel
theorem dX6_speaks_217 : decode cX6_speaks 217 = .ok (.iload 8, 2) := by decide +kernel
theorem dX6_speaks_219 : decode cX6_speaks 219 = .ok (.iload_n 3, 1) := by decide +kernel
theorem dX6_speaks_220 : decode cX6_speaks 220 = .ok (.iload 4, 2) := by decide +kernel
theorem dX6_speaks_222 : decode cX6_speaks 222 = .ok (.iload 5, 2) := by decide +kernel
theorem dX6_speaks_224 : decode cX6_speaks 224 = .ok (.invokevirtual 76, 3) := by decide +kernel
theorem dX6_speaks_227 : decode cX6_speaks 227 = .ok (.iinc 8 1, 3) := by decide +kernel
theorem dX6_speaks_230 : decode cX6_speaks 230 = .ok (.goto (-71), 3) := by decide +kernel
theorem dX6_speaks_233 : decode cX6_speaks 233 = .ok (.iconst 1, 1) := by decide +kernel
theorem dX6_speaks_234 : decode cX6_speaks 234 = .ok (.ireturn, 1) := by decide +kernel
set_option maxRecDepth 20000 in
theorem ggX6_goOn_X6_dueNow : GoodIn wsX6_goOn wsX6_dueNow := goodIn_r _ [6, 1, 58, 59, 60] (by decide +kernel) (by decide +kernel)
set_option maxRecDepth 20000 in
theorem gX6_goOn_X6_dueNow : GoodIn wsX6_goOn (wsV RX6 80 RX6 yX6_dueNow wsX6_dueNow) := goodIn_app (goodIn_of _ (by decide +kernel)) ggX6_goOn_X6_dueNow
set_option maxRecDepth 20000 in
theorem ggX6_goOn_X6_speaks : GoodIn wsX6_goOn wsX6_speaks := goodIn_r _ [10, 1, 11, 12, 13, 5, 14, 15, 16, 17, 18, 19, 20, 21, 22, 23, 24, 25, 26, 27, 28, 29, 30, 31, 32, 33, 34, 35, 36, 37, 38, 39, 40, 41, 42, 43, 44, 45, 46, 47, 48, 49, 50, 51, 52, 53, 54, 55, 56, 57, 58, 59, 60] (by decide +kernel) (by decide +kernel)
set_option maxRecDepth 20000 in
theorem gX6_goOn_X6_speaks : GoodIn wsX6_goOn (wsV RX6 84 RX6 yX6_speaks wsX6_speaks) := goodIn_app (goodIn_of _ (by decide +kernel)) ggX6_goOn_X6_speaks
theorem dX6_goOn_0 : decode cX6_goOn 0 = .ok (.aload_n 0, 1) := by decide +kernel
theorem dX6_goOn_1 : decode cX6_goOn 1 = .ok (.getfield 7, 3) := by decide +kernel
theorem dX6_goOn_4 : decode cX6_goOn 4 = .ok (.sipush 6810, 3) := by decide +kernel
theorem dX6_goOn_7 : decode cX6_goOn 7 = .ok (.dup2, 1) := by decide +kernel
theorem dX6_goOn_8 : decode cX6_goOn 8 = .ok (.iaload, 1) := by decide +kernel
theorem dX6_goOn_9 : decode cX6_goOn 9 = .ok (.iconst 1, 1) := by decide +kernel
theorem dX6_goOn_10 : decode cX6_goOn 10 = .ok (.iadd, 1) := by decide +kernel
theorem dX6_goOn_11 : decode cX6_goOn 11 = .ok (.iastore, 1) := by decide +kernel
theorem dX6_goOn_12 : decode cX6_goOn 12 = .ok (.iconst 0, 1) := by decide +kernel
theorem dX6_goOn_13 : decode cX6_goOn 13 = .ok (.istore_n 1, 1) := by decide +kernel
theorem dX6_goOn_14 : decode cX6_goOn 14 = .ok (.aload_n 0, 1) := by decide +kernel
theorem dX6_goOn_15 : decode cX6_goOn 15 = .ok (.invokevirtual 80, 3) := by decide +kernel
theorem dX6_goOn_18 : decode cX6_goOn 18 = .ok (.istore_n 2, 1) := by decide +kernel
theorem dX6_goOn_19 : decode cX6_goOn 19 = .ok (.iload_n 2, 1) := by decide +kernel
theorem dX6_goOn_20 : decode cX6_goOn 20 = .ok (.ifCond .lt 27, 3) := by decide +kernel
theorem dX6_goOn_23 : decode cX6_goOn 23 = .ok (.iload_n 1, 1) := by decide +kernel
theorem dX6_goOn_24 : decode cX6_goOn 24 = .ok (.aload_n 0, 1) := by decide +kernel
theorem dX6_goOn_25 : decode cX6_goOn 25 = .ok (.iload_n 2, 1) := by decide +kernel
theorem dX6_goOn_26 : decode cX6_goOn 26 = .ok (.invokevirtual 84, 3) := by decide +kernel
theorem dX6_goOn_29 : decode cX6_goOn 29 = .ok (.ifCond .eq 7, 3) := by decide +kernel
theorem dX6_goOn_32 : decode cX6_goOn 32 = .ok (.iconst 1, 1) := by decide +kernel
theorem dX6_goOn_33 : decode cX6_goOn 33 = .ok (.goto 4, 3) := by decide +kernel
theorem dX6_goOn_36 : decode cX6_goOn 36 = .ok (.iconst 0, 1) := by decide +kernel
theorem dX6_goOn_37 : decode cX6_goOn 37 = .ok (.iadd, 1) := by decide +kernel
theorem dX6_goOn_38 : decode cX6_goOn 38 = .ok (.istore_n 1, 1) := by decide +kernel
theorem dX6_goOn_39 : decode cX6_goOn 39 = .ok (.aload_n 0, 1) := by decide +kernel
theorem dX6_goOn_40 : decode cX6_goOn 40 = .ok (.invokevirtual 80, 3) := by decide +kernel
theorem dX6_goOn_43 : decode cX6_goOn 43 = .ok (.istore_n 2, 1) := by decide +kernel
theorem dX6_goOn_44 : decode cX6_goOn 44 = .ok (.goto (-25), 3) := by decide +kernel
theorem dX6_goOn_47 : decode cX6_goOn 47 = .ok (.iload_n 1, 1) := by decide +kernel
theorem dX6_goOn_48 : decode cX6_goOn 48 = .ok (.ireturn, 1) := by decide +kernel
set_option maxRecDepth 20000 in
theorem ggX6_pass_X6_in : GoodIn wsX6_pass wsX6_in := goodIn_r _ [4] (by decide +kernel) (by decide +kernel)
set_option maxRecDepth 20000 in
theorem gX6_pass_X6_in : GoodIn wsX6_pass (va_wsS RX6 20 yX6_in wsX6_in) := goodIn_app (goodIn_of _ (by decide +kernel)) ggX6_pass_X6_in
set_option maxRecDepth 20000 in
theorem ggX6_pass_X6_goOn : GoodIn wsX6_pass wsX6_goOn := goodIn_r _ [8, 9, 10, 11, 12, 3, 13, 14, 15, 16, 17, 18, 19, 20, 21, 22, 23, 24, 25, 26, 27, 28, 29, 30, 31, 32, 33, 34, 35, 36, 37, 38, 39, 40, 41, 42, 43, 44, 45, 46, 47, 48, 49, 50, 51, 52, 53, 54, 55, 56, 57, 58, 59, 60, 61, 62, 63, 64, 65, 66, 67] (by decide +kernel) (by decide +kernel)
set_option maxRecDepth 20000 in
theorem gX6_pass_X6_goOn : GoodIn wsX6_pass (wsV RX6 87 RX6 yX6_goOn wsX6_goOn) := goodIn_app (goodIn_of _ (by decide +kernel)) ggX6_pass_X6_goOn
theorem dX6_pass_0 : decode cX6_pass 0 = .ok (.iload_n 1, 1) := by decide +kernel
theorem dX6_pass_1 : decode cX6_pass 1 = .ok (.iconst 1, 1) := by decide +kernel
theorem dX6_pass_2 : decode cX6_pass 2 = .ok (.bipush 100, 2) := by decide +kernel
theorem dX6_pass_4 : decode cX6_pass 4 = .ok (.invokestatic 20, 3) := by decide +kernel
theorem dX6_pass_7 : decode cX6_pass 7 = .ok (.ifCond .ne 6, 3) := by decide +kernel
theorem dX6_pass_10 : decode cX6_pass 10 = .ok (.bipush (-2), 2) := by decide +kernel
theorem dX6_pass_12 : decode cX6_pass 12 = .ok (.ireturn, 1) := by decide +kernel
theorem dX6_pass_13 : decode cX6_pass 13 = .ok (.iconst 0, 1) := by decide +kernel
theorem dX6_pass_14 : decode cX6_pass 14 = .ok (.istore_n 2, 1) := by decide +kernel
theorem dX6_pass_15 : decode cX6_pass 15 = .ok (.iconst 0, 1) := by decide +kernel
theorem dX6_pass_16 : decode cX6_pass 16 = .ok (.istore_n 3, 1) := by decide +kernel
theorem dX6_pass_17 : decode cX6_pass 17 = .ok (.iload_n 3, 1) := by decide +kernel
theorem dX6_pass_18 : decode cX6_pass 18 = .ok (.iload_n 1, 1) := by decide +kernel
theorem dX6_pass_19 : decode cX6_pass 19 = .ok (.if_icmp .ge 16, 3) := by decide +kernel
theorem dX6_pass_22 : decode cX6_pass 22 = .ok (.iload_n 2, 1) := by decide +kernel
theorem dX6_pass_23 : decode cX6_pass 23 = .ok (.aload_n 0, 1) := by decide +kernel
theorem dX6_pass_24 : decode cX6_pass 24 = .ok (.invokevirtual 87, 3) := by decide +kernel
theorem dX6_pass_27 : decode cX6_pass 27 = .ok (.iadd, 1) := by decide +kernel
theorem dX6_pass_28 : decode cX6_pass 28 = .ok (.istore_n 2, 1) := by decide +kernel
theorem dX6_pass_29 : decode cX6_pass 29 = .ok (.iinc 3 1, 3) := by decide +kernel
theorem dX6_pass_32 : decode cX6_pass 32 = .ok (.goto (-15), 3) := by decide +kernel
theorem dX6_pass_35 : decode cX6_pass 35 = .ok (.iload_n 2, 1) := by decide +kernel
theorem dX6_pass_36 : decode cX6_pass 36 = .ok (.ireturn, 1) := by decide +kernel
set_option maxRecDepth 20000 in
theorem ggX6_settle_X6_goOn : GoodIn wsX6_settle wsX6_goOn := goodIn_r _ [6, 1, 7, 8, 9, 5, 10, 11, 12, 13, 14, 15, 16, 17, 18, 19, 20, 21, 22, 23, 24, 25, 26, 27, 28, 29, 30, 31, 32, 33, 34, 35, 36, 37, 38, 39, 40, 41, 42, 43, 44, 45, 46, 47, 48, 49, 50, 51, 52, 53, 54, 55, 56, 57, 58, 59, 60, 61, 62, 63, 64] (by decide +kernel) (by decide +kernel)
set_option maxRecDepth 20000 in
theorem gX6_settle_X6_goOn : GoodIn wsX6_settle (wsV RX6 87 RX6 yX6_goOn wsX6_goOn) := goodIn_app (goodIn_of _ (by decide +kernel)) ggX6_settle_X6_goOn
theorem dX6_settle_0 : decode cX6_settle 0 = .ok (.iconst 0, 1) := by decide +kernel
theorem dX6_settle_1 : decode cX6_settle 1 = .ok (.istore_n 1, 1) := by decide +kernel
theorem dX6_settle_2 : decode cX6_settle 2 = .ok (.aload_n 0, 1) := by decide +kernel
theorem dX6_settle_3 : decode cX6_settle 3 = .ok (.getfield 7, 3) := by decide +kernel
theorem dX6_settle_6 : decode cX6_settle 6 = .ok (.sipush 6815, 3) := by decide +kernel
theorem dX6_settle_9 : decode cX6_settle 9 = .ok (.iaload, 1) := by decide +kernel
theorem dX6_settle_10 : decode cX6_settle 10 = .ok (.ifCond .le 14, 3) := by decide +kernel
theorem dX6_settle_13 : decode cX6_settle 13 = .ok (.aload_n 0, 1) := by decide +kernel
theorem dX6_settle_14 : decode cX6_settle 14 = .ok (.invokevirtual 87, 3) := by decide +kernel
theorem dX6_settle_17 : decode cX6_settle 17 = .ok (.pop, 1) := by decide +kernel
theorem dX6_settle_18 : decode cX6_settle 18 = .ok (.iinc 1 1, 3) := by decide +kernel
theorem dX6_settle_21 : decode cX6_settle 21 = .ok (.goto (-19), 3) := by decide +kernel
theorem dX6_settle_24 : decode cX6_settle 24 = .ok (.iload_n 1, 1) := by decide +kernel
theorem dX6_settle_25 : decode cX6_settle 25 = .ok (.ireturn, 1) := by decide +kernel
set_option maxRecDepth 20000 in
theorem ggX6_has_X6_isLamp : GoodIn wsX6_has wsX6_isLamp := goodIn_r _ [5, 6, 7, 4, 8] (by decide +kernel) (by decide +kernel)
set_option maxRecDepth 20000 in
theorem gX6_has_X6_isLamp : GoodIn wsX6_has (va_wsS RX6 24 yX6_isLamp wsX6_isLamp) := goodIn_app (goodIn_of _ (by decide +kernel)) ggX6_has_X6_isLamp
set_option maxRecDepth 20000 in
theorem ggX6_has_X6_in : GoodIn wsX6_has wsX6_in := goodIn_r _ [8] (by decide +kernel) (by decide +kernel)
set_option maxRecDepth 20000 in
theorem gX6_has_X6_in : GoodIn wsX6_has (va_wsS RX6 20 yX6_in wsX6_in) := goodIn_app (goodIn_of _ (by decide +kernel)) ggX6_has_X6_in
set_option maxRecDepth 20000 in
theorem ggX6_has_X6_isOf : GoodIn wsX6_has wsX6_isOf := goodIn_r _ [11] (by decide +kernel) (by decide +kernel)
set_option maxRecDepth 20000 in
theorem gX6_has_X6_isOf : GoodIn wsX6_has (va_wsS RX6 43 yX6_isOf wsX6_isOf) := goodIn_app (goodIn_of _ (by decide +kernel)) ggX6_has_X6_isOf
theorem dX6_has_0 : decode cX6_has 0 = .ok (.iload_n 1, 1) := by decide +kernel
theorem dX6_has_1 : decode cX6_has 1 = .ok (.invokestatic 24, 3) := by decide +kernel
theorem dX6_has_4 : decode cX6_has 4 = .ok (.ifCond .ne 5, 3) := by decide +kernel
theorem dX6_has_7 : decode cX6_has 7 = .ok (.iconst (-1), 1) := by decide +kernel
theorem dX6_has_8 : decode cX6_has 8 = .ok (.ireturn, 1) := by decide +kernel
theorem dX6_has_9 : decode cX6_has 9 = .ok (.iload_n 2, 1) := by decide +kernel
theorem dX6_has_10 : decode cX6_has 10 = .ok (.iconst 0, 1) := by decide +kernel
theorem dX6_has_11 : decode cX6_has 11 = .ok (.iconst 1, 1) := by decide +kernel
theorem dX6_has_12 : decode cX6_has 12 = .ok (.invokestatic 20, 3) := by decide +kernel
theorem dX6_has_15 : decode cX6_has 15 = .ok (.ifCond .ne 6, 3) := by decide +kernel
theorem dX6_has_18 : decode cX6_has 18 = .ok (.bipush (-2), 2) := by decide +kernel
theorem dX6_has_20 : decode cX6_has 20 = .ok (.ireturn, 1) := by decide +kernel
theorem dX6_has_21 : decode cX6_has 21 = .ok (.iload_n 2, 1) := by decide +kernel
theorem dX6_has_22 : decode cX6_has 22 = .ok (.ifCond .ne 14, 3) := by decide +kernel
theorem dX6_has_25 : decode cX6_has 25 = .ok (.aload_n 0, 1) := by decide +kernel
theorem dX6_has_26 : decode cX6_has 26 = .ok (.getfield 7, 3) := by decide +kernel
theorem dX6_has_29 : decode cX6_has 29 = .ok (.sipush 6813, 3) := by decide +kernel
theorem dX6_has_32 : decode cX6_has 32 = .ok (.iaload, 1) := by decide +kernel
theorem dX6_has_33 : decode cX6_has 33 = .ok (.goto 11, 3) := by decide +kernel
theorem dX6_has_36 : decode cX6_has 36 = .ok (.aload_n 0, 1) := by decide +kernel
theorem dX6_has_37 : decode cX6_has 37 = .ok (.getfield 7, 3) := by decide +kernel
theorem dX6_has_40 : decode cX6_has 40 = .ok (.sipush 6814, 3) := by decide +kernel
theorem dX6_has_43 : decode cX6_has 43 = .ok (.iaload, 1) := by decide +kernel
theorem dX6_has_44 : decode cX6_has 44 = .ok (.iload_n 1, 1) := by decide +kernel
theorem dX6_has_45 : decode cX6_has 45 = .ok (.invokestatic 43, 3) := by decide +kernel
theorem dX6_has_48 : decode cX6_has 48 = .ok (.ifCond .eq 7, 3) := by decide +kernel
theorem dX6_has_51 : decode cX6_has 51 = .ok (.iconst 1, 1) := by decide +kernel
theorem dX6_has_52 : decode cX6_has 52 = .ok (.goto 4, 3) := by decide +kernel
theorem dX6_has_55 : decode cX6_has 55 = .ok (.iconst 0, 1) := by decide +kernel
theorem dX6_has_56 : decode cX6_has 56 = .ok (.ireturn, 1) := by decide +kernel
set_option maxRecDepth 20000 in
theorem ggX6_lamp_X6_isLamp : GoodIn wsX6_lamp wsX6_isLamp := goodIn_r _ [5, 6, 7, 4, 8] (by decide +kernel) (by decide +kernel)
set_option maxRecDepth 20000 in
theorem gX6_lamp_X6_isLamp : GoodIn wsX6_lamp (va_wsS RX6 24 yX6_isLamp wsX6_isLamp) := goodIn_app (goodIn_of _ (by decide +kernel)) ggX6_lamp_X6_isLamp
set_option maxRecDepth 20000 in
theorem ggX6_lamp_X6_bits : GoodIn wsX6_lamp wsX6_bits := goodIn_r _ [11] (by decide +kernel) (by decide +kernel)
set_option maxRecDepth 20000 in
theorem gX6_lamp_X6_bits : GoodIn wsX6_lamp (va_wsS RX6 28 yX6_bits wsX6_bits) := goodIn_app (goodIn_of _ (by decide +kernel)) ggX6_lamp_X6_bits
theorem dX6_lamp_0 : decode cX6_lamp 0 = .ok (.iload_n 1, 1) := by decide +kernel
theorem dX6_lamp_1 : decode cX6_lamp 1 = .ok (.invokestatic 24, 3) := by decide +kernel
theorem dX6_lamp_4 : decode cX6_lamp 4 = .ok (.ifCond .ne 5, 3) := by decide +kernel
theorem dX6_lamp_7 : decode cX6_lamp 7 = .ok (.iconst (-1), 1) := by decide +kernel
theorem dX6_lamp_8 : decode cX6_lamp 8 = .ok (.ireturn, 1) := by decide +kernel
theorem dX6_lamp_9 : decode cX6_lamp 9 = .ok (.iload_n 2, 1) := by decide +kernel
theorem dX6_lamp_10 : decode cX6_lamp 10 = .ok (.tableswitch 202 0 12 #[66, 76, 86, 96, 106, 116, 126, 136, 146, 157, 168, 179, 190], 66) := by decide +kernel
theorem dX6_lamp_76 : decode cX6_lamp 76 = .ok (.aload_n 0, 1) := by decide +kernel
theorem dX6_lamp_77 : decode cX6_lamp 77 = .ok (.getfield 7, 3) := by decide +kernel
theorem dX6_lamp_80 : decode cX6_lamp 80 = .ok (.bipush 50, 2) := by decide +kernel
theorem dX6_lamp_82 : decode cX6_lamp 82 = .ok (.iload_n 1, 1) := by decide +kernel
theorem dX6_lamp_83 : decode cX6_lamp 83 = .ok (.iadd, 1) := by decide +kernel
theorem dX6_lamp_84 : decode cX6_lamp 84 = .ok (.iaload, 1) := by decide +kernel
theorem dX6_lamp_85 : decode cX6_lamp 85 = .ok (.ireturn, 1) := by decide +kernel
theorem dX6_lamp_86 : decode cX6_lamp 86 = .ok (.aload_n 0, 1) := by decide +kernel
theorem dX6_lamp_87 : decode cX6_lamp 87 = .ok (.getfield 7, 3) := by decide +kernel
theorem dX6_lamp_90 : decode cX6_lamp 90 = .ok (.bipush 60, 2) := by decide +kernel
theorem dX6_lamp_92 : decode cX6_lamp 92 = .ok (.iload_n 1, 1) := by decide +kernel
theorem dX6_lamp_93 : decode cX6_lamp 93 = .ok (.iadd, 1) := by decide +kernel
theorem dX6_lamp_94 : decode cX6_lamp 94 = .ok (.iaload, 1) := by decide +kernel
theorem dX6_lamp_95 : decode cX6_lamp 95 = .ok (.ireturn, 1) := by decide +kernel
theorem dX6_lamp_96 : decode cX6_lamp 96 = .ok (.aload_n 0, 1) := by decide +kernel
theorem dX6_lamp_97 : decode cX6_lamp 97 = .ok (.getfield 7, 3) := by decide +kernel
theorem dX6_lamp_100 : decode cX6_lamp 100 = .ok (.bipush 70, 2) := by decide +kernel
theorem dX6_lamp_102 : decode cX6_lamp 102 = .ok (.iload_n 1, 1) := by decide +kernel
theorem dX6_lamp_103 : decode cX6_lamp 103 = .ok (.iadd, 1) := by decide +kernel
theorem dX6_lamp_104 : decode cX6_lamp 104 = .ok (.iaload, 1) := by decide +kernel
theorem dX6_lamp_105 : decode cX6_lamp 105 = .ok (.ireturn, 1) := by decide +kernel
theorem dX6_lamp_106 : decode cX6_lamp 106 = .ok (.aload_n 0, 1) := by decide +kernel
theorem dX6_lamp_107 : decode cX6_lamp 107 = .ok (.getfield 7, 3) := by decide +kernel
theorem dX6_lamp_110 : decode cX6_lamp 110 = .ok (.bipush 80, 2) := by decide +kernel
theorem dX6_lamp_112 : decode cX6_lamp 112 = .ok (.iload_n 1, 1) := by decide +kernel
theorem dX6_lamp_113 : decode cX6_lamp 113 = .ok (.iadd, 1) := by decide +kernel
theorem dX6_lamp_114 : decode cX6_lamp 114 = .ok (.iaload, 1) := by decide +kernel
theorem dX6_lamp_115 : decode cX6_lamp 115 = .ok (.ireturn, 1) := by decide +kernel
theorem dX6_lamp_116 : decode cX6_lamp 116 = .ok (.aload_n 0, 1) := by decide +kernel
theorem dX6_lamp_117 : decode cX6_lamp 117 = .ok (.getfield 7, 3) := by decide +kernel
theorem dX6_lamp_120 : decode cX6_lamp 120 = .ok (.bipush 90, 2) := by decide +kernel
theorem dX6_lamp_122 : decode cX6_lamp 122 = .ok (.iload_n 1, 1) := by decide +kernel
theorem dX6_lamp_123 : decode cX6_lamp 123 = .ok (.iadd, 1) := by decide +kernel
theorem dX6_lamp_124 : decode cX6_lamp 124 = .ok (.iaload, 1) := by decide +kernel
theorem dX6_lamp_125 : decode cX6_lamp 125 = .ok (.ireturn, 1) := by decide +kernel
theorem dX6_lamp_126 : decode cX6_lamp 126 = .ok (.aload_n 0, 1) := by decide +kernel
theorem dX6_lamp_127 : decode cX6_lamp 127 = .ok (.getfield 7, 3) := by decide +kernel
theorem dX6_lamp_130 : decode cX6_lamp 130 = .ok (.bipush 100, 2) := by decide +kernel
theorem dX6_lamp_132 : decode cX6_lamp 132 = .ok (.iload_n 1, 1) := by decide +kernel
theorem dX6_lamp_133 : decode cX6_lamp 133 = .ok (.iadd, 1) := by decide +kernel
theorem dX6_lamp_134 : decode cX6_lamp 134 = .ok (.iaload, 1) := by decide +kernel
theorem dX6_lamp_135 : decode cX6_lamp 135 = .ok (.ireturn, 1) := by decide +kernel
theorem dX6_lamp_136 : decode cX6_lamp 136 = .ok (.aload_n 0, 1) := by decide +kernel
theorem dX6_lamp_137 : decode cX6_lamp 137 = .ok (.getfield 7, 3) := by decide +kernel
theorem dX6_lamp_140 : decode cX6_lamp 140 = .ok (.bipush 110, 2) := by decide +kernel
theorem dX6_lamp_142 : decode cX6_lamp 142 = .ok (.iload_n 1, 1) := by decide +kernel
theorem dX6_lamp_143 : decode cX6_lamp 143 = .ok (.iadd, 1) := by decide +kernel
theorem dX6_lamp_144 : decode cX6_lamp 144 = .ok (.iaload, 1) := by decide +kernel
theorem dX6_lamp_145 : decode cX6_lamp 145 = .ok (.ireturn, 1) := by decide +kernel
theorem dX6_lamp_146 : decode cX6_lamp 146 = .ok (.aload_n 0, 1) := by decide +kernel
theorem dX6_lamp_147 : decode cX6_lamp 147 = .ok (.getfield 7, 3) := by decide +kernel
theorem dX6_lamp_150 : decode cX6_lamp 150 = .ok (.bipush 120, 2) := by decide +kernel
theorem dX6_lamp_152 : decode cX6_lamp 152 = .ok (.iload_n 1, 1) := by decide +kernel
theorem dX6_lamp_153 : decode cX6_lamp 153 = .ok (.iadd, 1) := by decide +kernel
theorem dX6_lamp_154 : decode cX6_lamp 154 = .ok (.iaload, 1) := by decide +kernel
theorem dX6_lamp_155 : decode cX6_lamp 155 = .ok (.ireturn, 1) := by decide +kernel
theorem dX6_lamp_156 : decode cX6_lamp 156 = .ok (.aload_n 0, 1) := by decide +kernel
theorem dX6_lamp_157 : decode cX6_lamp 157 = .ok (.getfield 7, 3) := by decide +kernel
theorem dX6_lamp_160 : decode cX6_lamp 160 = .ok (.sipush 130, 3) := by decide +kernel
theorem dX6_lamp_163 : decode cX6_lamp 163 = .ok (.iload_n 1, 1) := by decide +kernel
theorem dX6_lamp_164 : decode cX6_lamp 164 = .ok (.iadd, 1) := by decide +kernel
theorem dX6_lamp_165 : decode cX6_lamp 165 = .ok (.iaload, 1) := by decide +kernel
theorem dX6_lamp_166 : decode cX6_lamp 166 = .ok (.ireturn, 1) := by decide +kernel
theorem dX6_lamp_167 : decode cX6_lamp 167 = .ok (.aload_n 0, 1) := by decide +kernel
theorem dX6_lamp_168 : decode cX6_lamp 168 = .ok (.getfield 7, 3) := by decide +kernel
theorem dX6_lamp_171 : decode cX6_lamp 171 = .ok (.sipush 140, 3) := by decide +kernel
theorem dX6_lamp_174 : decode cX6_lamp 174 = .ok (.iload_n 1, 1) := by decide +kernel
theorem dX6_lamp_175 : decode cX6_lamp 175 = .ok (.iadd, 1) := by decide +kernel
theorem dX6_lamp_176 : decode cX6_lamp 176 = .ok (.iaload, 1) := by decide +kernel
theorem dX6_lamp_177 : decode cX6_lamp 177 = .ok (.ireturn, 1) := by decide +kernel
theorem dX6_lamp_178 : decode cX6_lamp 178 = .ok (.aload_n 0, 1) := by decide +kernel
theorem dX6_lamp_179 : decode cX6_lamp 179 = .ok (.getfield 7, 3) := by decide +kernel
theorem dX6_lamp_182 : decode cX6_lamp 182 = .ok (.sipush 150, 3) := by decide +kernel
theorem dX6_lamp_185 : decode cX6_lamp 185 = .ok (.iload_n 1, 1) := by decide +kernel
theorem dX6_lamp_186 : decode cX6_lamp 186 = .ok (.iadd, 1) := by decide +kernel
theorem dX6_lamp_187 : decode cX6_lamp 187 = .ok (.iaload, 1) := by decide +kernel
theorem dX6_lamp_188 : decode cX6_lamp 188 = .ok (.ireturn, 1) := by decide +kernel
theorem dX6_lamp_189 : decode cX6_lamp 189 = .ok (.aload_n 0, 1) := by decide +kernel
theorem dX6_lamp_190 : decode cX6_lamp 190 = .ok (.getfield 7, 3) := by decide +kernel
theorem dX6_lamp_193 : decode cX6_lamp 193 = .ok (.sipush 160, 3) := by decide +kernel
theorem dX6_lamp_196 : decode cX6_lamp 196 = .ok (.iload_n 1, 1) := by decide +kernel
theorem dX6_lamp_197 : decode cX6_lamp 197 = .ok (.iadd, 1) := by decide +kernel
theorem dX6_lamp_198 : decode cX6_lamp 198 = .ok (.iaload, 1) := by decide +kernel
theorem dX6_lamp_199 : decode cX6_lamp 199 = .ok (.ireturn, 1) := by decide +kernel
theorem dX6_lamp_200 : decode cX6_lamp 200 = .ok (.aload_n 0, 1) := by decide +kernel
theorem dX6_lamp_201 : decode cX6_lamp 201 = .ok (.getfield 7, 3) := by decide +kernel
theorem dX6_lamp_204 : decode cX6_lamp 204 = .ok (.iconst 0, 1) := by decide +kernel
theorem dX6_lamp_205 : decode cX6_lamp 205 = .ok (.iload_n 1, 1) := by decide +kernel
theorem dX6_lamp_206 : decode cX6_lamp 206 = .ok (.iadd, 1) := by decide +kernel
theorem dX6_lamp_207 : decode cX6_lamp 207 = .ok (.iaload, 1) := by decide +kernel
theorem dX6_lamp_208 : decode cX6_lamp 208 = .ok (.invokestatic 28, 3) := by decide +kernel
theorem dX6_lamp_211 : decode cX6_lamp 211 = .ok (.ireturn, 1) := by decide +kernel
theorem dX6_lamp_212 : decode cX6_lamp 212 = .ok (.bipush (-2), 2) := by decide +kernel
theorem dX6_lamp_214 : decode cX6_lamp 214 = .ok (.ireturn, 1) := by decide +kernel
set_option maxRecDepth 20000 in
theorem ggX6_taken_X6_isLamp : GoodIn wsX6_taken wsX6_isLamp := goodIn_r _ [5, 6, 7, 4, 8] (by decide +kernel) (by decide +kernel)
set_option maxRecDepth 20000 in
theorem gX6_taken_X6_isLamp : GoodIn wsX6_taken (va_wsS RX6 24 yX6_isLamp wsX6_isLamp) := goodIn_app (goodIn_of _ (by decide +kernel)) ggX6_taken_X6_isLamp
theorem dX6_taken_0 : decode cX6_taken 0 = .ok (.iload_n 1, 1) := by decide +kernel
theorem dX6_taken_1 : decode cX6_taken 1 = .ok (.invokestatic 24, 3) := by decide +kernel
theorem dX6_taken_4 : decode cX6_taken 4 = .ok (.ifCond .eq 28, 3) := by decide +kernel
theorem dX6_taken_7 : decode cX6_taken 7 = .ok (.iload_n 2, 1) := by decide +kernel
theorem dX6_taken_8 : decode cX6_taken 8 = .ok (.invokestatic 24, 3) := by decide +kernel
theorem dX6_taken_11 : decode cX6_taken 11 = .ok (.ifCond .eq 21, 3) := by decide +kernel
theorem dX6_taken_14 : decode cX6_taken 14 = .ok (.aload_n 0, 1) := by decide +kernel
theorem dX6_taken_15 : decode cX6_taken 15 = .ok (.getfield 7, 3) := by decide +kernel
theorem dX6_taken_18 : decode cX6_taken 18 = .ok (.sipush 330, 3) := by decide +kernel
theorem dX6_taken_21 : decode cX6_taken 21 = .ok (.bipush 10, 2) := by decide +kernel
theorem dX6_taken_23 : decode cX6_taken 23 = .ok (.iload_n 1, 1) := by decide +kernel
theorem dX6_taken_24 : decode cX6_taken 24 = .ok (.imul, 1) := by decide +kernel
theorem dX6_taken_25 : decode cX6_taken 25 = .ok (.iadd, 1) := by decide +kernel
theorem dX6_taken_26 : decode cX6_taken 26 = .ok (.iload_n 2, 1) := by decide +kernel
theorem dX6_taken_27 : decode cX6_taken 27 = .ok (.iadd, 1) := by decide +kernel
theorem dX6_taken_28 : decode cX6_taken 28 = .ok (.iaload, 1) := by decide +kernel
theorem dX6_taken_29 : decode cX6_taken 29 = .ok (.goto 4, 3) := by decide +kernel
theorem dX6_taken_32 : decode cX6_taken 32 = .ok (.iconst (-1), 1) := by decide +kernel
theorem dX6_taken_33 : decode cX6_taken 33 = .ok (.ireturn, 1) := by decide +kernel
set_option maxRecDepth 20000 in
theorem ggX6_mind_X6_isLamp : GoodIn wsX6_mind wsX6_isLamp := goodIn_r _ [5, 6, 7, 4, 8] (by decide +kernel) (by decide +kernel)
set_option maxRecDepth 20000 in
theorem gX6_mind_X6_isLamp : GoodIn wsX6_mind (va_wsS RX6 24 yX6_isLamp wsX6_isLamp) := goodIn_app (goodIn_of _ (by decide +kernel)) ggX6_mind_X6_isLamp
set_option maxRecDepth 20000 in
theorem ggX6_mind_X6_in : GoodIn wsX6_mind wsX6_in := goodIn_r _ [8] (by decide +kernel) (by decide +kernel)
set_option maxRecDepth 20000 in
theorem gX6_mind_X6_in : GoodIn wsX6_mind (va_wsS RX6 20 yX6_in wsX6_in) := goodIn_app (goodIn_of _ (by decide +kernel)) ggX6_mind_X6_in
theorem dX6_mind_0 : decode cX6_mind 0 = .ok (.iload_n 1, 1) := by decide +kernel
theorem dX6_mind_1 : decode cX6_mind 1 = .ok (.invokestatic 24, 3) := by decide +kernel
theorem dX6_mind_4 : decode cX6_mind 4 = .ok (.ifCond .ne 5, 3) := by decide +kernel
theorem dX6_mind_7 : decode cX6_mind 7 = .ok (.iconst (-1), 1) := by decide +kernel
theorem dX6_mind_8 : decode cX6_mind 8 = .ok (.ireturn, 1) := by decide +kernel
theorem dX6_mind_9 : decode cX6_mind 9 = .ok (.iload_n 3, 1) := by decide +kernel
theorem dX6_mind_10 : decode cX6_mind 10 = .ok (.iconst 0, 1) := by decide +kernel
theorem dX6_mind_11 : decode cX6_mind 11 = .ok (.iconst 1, 1) := by decide +kernel
theorem dX6_mind_12 : decode cX6_mind 12 = .ok (.invokestatic 20, 3) := by decide +kernel
theorem dX6_mind_15 : decode cX6_mind 15 = .ok (.ifCond .ne 6, 3) := by decide +kernel
theorem dX6_mind_18 : decode cX6_mind 18 = .ok (.bipush (-2), 2) := by decide +kernel
theorem dX6_mind_20 : decode cX6_mind 20 = .ok (.ireturn, 1) := by decide +kernel
theorem dX6_mind_21 : decode cX6_mind 21 = .ok (.iload_n 2, 1) := by decide +kernel
theorem dX6_mind_22 : decode cX6_mind 22 = .ok (.iconst 0, 1) := by decide +kernel
theorem dX6_mind_23 : decode cX6_mind 23 = .ok (.aload_n 0, 1) := by decide +kernel
theorem dX6_mind_24 : decode cX6_mind 24 = .ok (.getfield 7, 3) := by decide +kernel
theorem dX6_mind_27 : decode cX6_mind 27 = .ok (.sipush 160, 3) := by decide +kernel
theorem dX6_mind_30 : decode cX6_mind 30 = .ok (.iload_n 1, 1) := by decide +kernel
theorem dX6_mind_31 : decode cX6_mind 31 = .ok (.iadd, 1) := by decide +kernel
theorem dX6_mind_32 : decode cX6_mind 32 = .ok (.iaload, 1) := by decide +kernel
theorem dX6_mind_33 : decode cX6_mind 33 = .ok (.iconst 1, 1) := by decide +kernel
theorem dX6_mind_34 : decode cX6_mind 34 = .ok (.isub, 1) := by decide +kernel
theorem dX6_mind_35 : decode cX6_mind 35 = .ok (.invokestatic 20, 3) := by decide +kernel
theorem dX6_mind_38 : decode cX6_mind 38 = .ok (.ifCond .eq 25, 3) := by decide +kernel
theorem dX6_mind_41 : decode cX6_mind 41 = .ok (.aload_n 0, 1) := by decide +kernel
theorem dX6_mind_42 : decode cX6_mind 42 = .ok (.getfield 7, 3) := by decide +kernel
theorem dX6_mind_45 : decode cX6_mind 45 = .ok (.sipush 170, 3) := by decide +kernel
theorem dX6_mind_48 : decode cX6_mind 48 = .ok (.bipush 16, 2) := by decide +kernel
theorem dX6_mind_50 : decode cX6_mind 50 = .ok (.iload_n 1, 1) := by decide +kernel
theorem dX6_mind_51 : decode cX6_mind 51 = .ok (.imul, 1) := by decide +kernel
theorem dX6_mind_52 : decode cX6_mind 52 = .ok (.iadd, 1) := by decide +kernel
theorem dX6_mind_53 : decode cX6_mind 53 = .ok (.iconst 2, 1) := by decide +kernel
theorem dX6_mind_54 : decode cX6_mind 54 = .ok (.iload_n 2, 1) := by decide +kernel
theorem dX6_mind_55 : decode cX6_mind 55 = .ok (.imul, 1) := by decide +kernel
theorem dX6_mind_56 : decode cX6_mind 56 = .ok (.iadd, 1) := by decide +kernel
theorem dX6_mind_57 : decode cX6_mind 57 = .ok (.iload_n 3, 1) := by decide +kernel
theorem dX6_mind_58 : decode cX6_mind 58 = .ok (.iadd, 1) := by decide +kernel
theorem dX6_mind_59 : decode cX6_mind 59 = .ok (.iaload, 1) := by decide +kernel
theorem dX6_mind_60 : decode cX6_mind 60 = .ok (.goto 5, 3) := by decide +kernel
theorem dX6_mind_63 : decode cX6_mind 63 = .ok (.bipush (-6), 2) := by decide +kernel
theorem dX6_mind_65 : decode cX6_mind 65 = .ok (.ireturn, 1) := by decide +kernel
set_option maxRecDepth 20000 in
theorem ggX6_air_X6_in : GoodIn wsX6_air wsX6_in := goodIn_r _ [5] (by decide +kernel) (by decide +kernel)
set_option maxRecDepth 20000 in
theorem gX6_air_X6_in : GoodIn wsX6_air (va_wsS RX6 20 yX6_in wsX6_in) := goodIn_app (goodIn_of _ (by decide +kernel)) ggX6_air_X6_in
theorem dX6_air_0 : decode cX6_air 0 = .ok (.iload_n 2, 1) := by decide +kernel
theorem dX6_air_1 : decode cX6_air 1 = .ok (.iconst 0, 1) := by decide +kernel
theorem dX6_air_2 : decode cX6_air 2 = .ok (.iconst 4, 1) := by decide +kernel
theorem dX6_air_3 : decode cX6_air 3 = .ok (.invokestatic 20, 3) := by decide +kernel
theorem dX6_air_6 : decode cX6_air 6 = .ok (.ifCond .ne 6, 3) := by decide +kernel
theorem dX6_air_9 : decode cX6_air 9 = .ok (.bipush (-2), 2) := by decide +kernel
theorem dX6_air_11 : decode cX6_air 11 = .ok (.ireturn, 1) := by decide +kernel
theorem dX6_air_12 : decode cX6_air 12 = .ok (.iload_n 1, 1) := by decide +kernel
theorem dX6_air_13 : decode cX6_air 13 = .ok (.iconst 0, 1) := by decide +kernel
theorem dX6_air_14 : decode cX6_air 14 = .ok (.aload_n 0, 1) := by decide +kernel
theorem dX6_air_15 : decode cX6_air 15 = .ok (.getfield 7, 3) := by decide +kernel
theorem dX6_air_18 : decode cX6_air 18 = .ok (.sipush 6815, 3) := by decide +kernel
theorem dX6_air_21 : decode cX6_air 21 = .ok (.iaload, 1) := by decide +kernel
theorem dX6_air_22 : decode cX6_air 22 = .ok (.iconst 1, 1) := by decide +kernel
theorem dX6_air_23 : decode cX6_air 23 = .ok (.isub, 1) := by decide +kernel
theorem dX6_air_24 : decode cX6_air 24 = .ok (.invokestatic 20, 3) := by decide +kernel
theorem dX6_air_27 : decode cX6_air 27 = .ok (.ifCond .eq 20, 3) := by decide +kernel
theorem dX6_air_30 : decode cX6_air 30 = .ok (.aload_n 0, 1) := by decide +kernel
theorem dX6_air_31 : decode cX6_air 31 = .ok (.getfield 7, 3) := by decide +kernel
theorem dX6_air_34 : decode cX6_air 34 = .ok (.sipush 490, 3) := by decide +kernel
theorem dX6_air_37 : decode cX6_air 37 = .ok (.iconst 5, 1) := by decide +kernel
theorem dX6_air_38 : decode cX6_air 38 = .ok (.iload_n 1, 1) := by decide +kernel
theorem dX6_air_39 : decode cX6_air 39 = .ok (.imul, 1) := by decide +kernel
theorem dX6_air_40 : decode cX6_air 40 = .ok (.iadd, 1) := by decide +kernel
theorem dX6_air_41 : decode cX6_air 41 = .ok (.iload_n 2, 1) := by decide +kernel
theorem dX6_air_42 : decode cX6_air 42 = .ok (.iadd, 1) := by decide +kernel
theorem dX6_air_43 : decode cX6_air 43 = .ok (.iaload, 1) := by decide +kernel
theorem dX6_air_44 : decode cX6_air 44 = .ok (.goto 5, 3) := by decide +kernel
theorem dX6_air_47 : decode cX6_air 47 = .ok (.bipush (-6), 2) := by decide +kernel
theorem dX6_air_49 : decode cX6_air 49 = .ok (.ireturn, 1) := by decide +kernel
set_option maxRecDepth 20000 in
theorem ggX6_image_X6_in : GoodIn wsX6_image wsX6_in := goodIn_r _ [7] (by decide +kernel) (by decide +kernel)
set_option maxRecDepth 20000 in
theorem gX6_image_X6_in : GoodIn wsX6_image (va_wsS RX6 20 yX6_in wsX6_in) := goodIn_app (goodIn_of _ (by decide +kernel)) ggX6_image_X6_in
theorem dX6_image_0 : decode cX6_image 0 = .ok (.iload_n 1, 1) := by decide +kernel
theorem dX6_image_1 : decode cX6_image 1 = .ok (.iconst 0, 1) := by decide +kernel
theorem dX6_image_2 : decode cX6_image 2 = .ok (.iconst 1, 1) := by decide +kernel
theorem dX6_image_3 : decode cX6_image 3 = .ok (.invokestatic 20, 3) := by decide +kernel
theorem dX6_image_6 : decode cX6_image 6 = .ok (.ifCond .ne 6, 3) := by decide +kernel
theorem dX6_image_9 : decode cX6_image 9 = .ok (.bipush (-2), 2) := by decide +kernel
theorem dX6_image_11 : decode cX6_image 11 = .ok (.ireturn, 1) := by decide +kernel
theorem dX6_image_12 : decode cX6_image 12 = .ok (.iconst 0, 1) := by decide +kernel
theorem dX6_image_13 : decode cX6_image 13 = .ok (.istore_n 2, 1) := by decide +kernel
theorem dX6_image_14 : decode cX6_image 14 = .ok (.iload_n 2, 1) := by decide +kernel
theorem dX6_image_15 : decode cX6_image 15 = .ok (.sipush 6819, 3) := by decide +kernel
theorem dX6_image_18 : decode cX6_image 18 = .ok (.if_icmp .ge 27, 3) := by decide +kernel
theorem dX6_image_21 : decode cX6_image 21 = .ok (.aload_n 0, 1) := by decide +kernel
theorem dX6_image_22 : decode cX6_image 22 = .ok (.getfield 13, 3) := by decide +kernel
theorem dX6_image_25 : decode cX6_image 25 = .ok (.sipush 6819, 3) := by decide +kernel
theorem dX6_image_28 : decode cX6_image 28 = .ok (.iload_n 1, 1) := by decide +kernel
theorem dX6_image_29 : decode cX6_image 29 = .ok (.imul, 1) := by decide +kernel
theorem dX6_image_30 : decode cX6_image 30 = .ok (.iload_n 2, 1) := by decide +kernel
theorem dX6_image_31 : decode cX6_image 31 = .ok (.iadd, 1) := by decide +kernel
theorem dX6_image_32 : decode cX6_image 32 = .ok (.aload_n 0, 1) := by decide +kernel
theorem dX6_image_33 : decode cX6_image 33 = .ok (.getfield 7, 3) := by decide +kernel
theorem dX6_image_36 : decode cX6_image 36 = .ok (.iload_n 2, 1) := by decide +kernel
theorem dX6_image_37 : decode cX6_image 37 = .ok (.iaload, 1) := by decide +kernel
theorem dX6_image_38 : decode cX6_image 38 = .ok (.iastore, 1) := by decide +kernel
theorem dX6_image_39 : decode cX6_image 39 = .ok (.iinc 2 1, 3) := by decide +kernel
theorem dX6_image_42 : decode cX6_image 42 = .ok (.goto (-28), 3) := by decide +kernel
theorem dX6_image_45 : decode cX6_image 45 = .ok (.aload_n 0, 1) := by decide +kernel
theorem dX6_image_46 : decode cX6_image 46 = .ok (.getfield 16, 3) := by decide +kernel
theorem dX6_image_49 : decode cX6_image 49 = .ok (.iload_n 1, 1) := by decide +kernel
theorem dX6_image_50 : decode cX6_image 50 = .ok (.iconst 1, 1) := by decide +kernel
theorem dX6_image_51 : decode cX6_image 51 = .ok (.bastore, 1) := by decide +kernel
theorem dX6_image_52 : decode cX6_image 52 = .ok (.iconst 1, 1) := by decide +kernel
theorem dX6_image_53 : decode cX6_image 53 = .ok (.ireturn, 1) := by decide +kernel
set_option maxRecDepth 20000 in
theorem ggX6_restore_X6_in : GoodIn wsX6_restore wsX6_in := goodIn_r _ [7] (by decide +kernel) (by decide +kernel)
set_option maxRecDepth 20000 in
theorem gX6_restore_X6_in : GoodIn wsX6_restore (va_wsS RX6 20 yX6_in wsX6_in) := goodIn_app (goodIn_of _ (by decide +kernel)) ggX6_restore_X6_in
theorem dX6_restore_0 : decode cX6_restore 0 = .ok (.iload_n 1, 1) := by decide +kernel
theorem dX6_restore_1 : decode cX6_restore 1 = .ok (.iconst 0, 1) := by decide +kernel
theorem dX6_restore_2 : decode cX6_restore 2 = .ok (.iconst 1, 1) := by decide +kernel
theorem dX6_restore_3 : decode cX6_restore 3 = .ok (.invokestatic 20, 3) := by decide +kernel
theorem dX6_restore_6 : decode cX6_restore 6 = .ok (.ifCond .ne 6, 3) := by decide +kernel
theorem dX6_restore_9 : decode cX6_restore 9 = .ok (.bipush (-2), 2) := by decide +kernel
theorem dX6_restore_11 : decode cX6_restore 11 = .ok (.ireturn, 1) := by decide +kernel
theorem dX6_restore_12 : decode cX6_restore 12 = .ok (.aload_n 0, 1) := by decide +kernel
theorem dX6_restore_13 : decode cX6_restore 13 = .ok (.getfield 16, 3) := by decide +kernel
theorem dX6_restore_16 : decode cX6_restore 16 = .ok (.iload_n 1, 1) := by decide +kernel
theorem dX6_restore_17 : decode cX6_restore 17 = .ok (.baload, 1) := by decide +kernel
theorem dX6_restore_18 : decode cX6_restore 18 = .ok (.ifCond .ne 6, 3) := by decide +kernel
theorem dX6_restore_21 : decode cX6_restore 21 = .ok (.bipush (-3), 2) := by decide +kernel
theorem dX6_restore_23 : decode cX6_restore 23 = .ok (.ireturn, 1) := by decide +kernel
theorem dX6_restore_24 : decode cX6_restore 24 = .ok (.iconst 0, 1) := by decide +kernel
theorem dX6_restore_25 : decode cX6_restore 25 = .ok (.istore_n 2, 1) := by decide +kernel
theorem dX6_restore_26 : decode cX6_restore 26 = .ok (.iload_n 2, 1) := by decide +kernel
theorem dX6_restore_27 : decode cX6_restore 27 = .ok (.sipush 6819, 3) := by decide +kernel
theorem dX6_restore_30 : decode cX6_restore 30 = .ok (.if_icmp .ge 27, 3) := by decide +kernel
theorem dX6_restore_33 : decode cX6_restore 33 = .ok (.aload_n 0, 1) := by decide +kernel
theorem dX6_restore_34 : decode cX6_restore 34 = .ok (.getfield 7, 3) := by decide +kernel
theorem dX6_restore_37 : decode cX6_restore 37 = .ok (.iload_n 2, 1) := by decide +kernel
theorem dX6_restore_38 : decode cX6_restore 38 = .ok (.aload_n 0, 1) := by decide +kernel
theorem dX6_restore_39 : decode cX6_restore 39 = .ok (.getfield 13, 3) := by decide +kernel
theorem dX6_restore_42 : decode cX6_restore 42 = .ok (.sipush 6819, 3) := by decide +kernel
theorem dX6_restore_45 : decode cX6_restore 45 = .ok (.iload_n 1, 1) := by decide +kernel
theorem dX6_restore_46 : decode cX6_restore 46 = .ok (.imul, 1) := by decide +kernel
theorem dX6_restore_47 : decode cX6_restore 47 = .ok (.iload_n 2, 1) := by decide +kernel
theorem dX6_restore_48 : decode cX6_restore 48 = .ok (.iadd, 1) := by decide +kernel
theorem dX6_restore_49 : decode cX6_restore 49 = .ok (.iaload, 1) := by decide +kernel
theorem dX6_restore_50 : decode cX6_restore 50 = .ok (.iastore, 1) := by decide +kernel
theorem dX6_restore_51 : decode cX6_restore 51 = .ok (.iinc 2 1, 3) := by decide +kernel
theorem dX6_restore_54 : decode cX6_restore 54 = .ok (.goto (-28), 3) := by decide +kernel
theorem dX6_restore_57 : decode cX6_restore 57 = .ok (.iconst 1, 1) := by decide +kernel
theorem dX6_restore_58 : decode cX6_restore 58 = .ok (.ireturn, 1) := by decide +kernel
theorem dX6_asleep_0 : decode cX6_asleep 0 = .ok (.iconst 0, 1) := by decide +kernel
theorem dX6_asleep_1 : decode cX6_asleep 1 = .ok (.istore_n 1, 1) := by decide +kernel
theorem dX6_asleep_2 : decode cX6_asleep 2 = .ok (.iconst 0, 1) := by decide +kernel
theorem dX6_asleep_3 : decode cX6_asleep 3 = .ok (.istore_n 2, 1) := by decide +kernel
theorem dX6_asleep_4 : decode cX6_asleep 4 = .ok (.iload_n 2, 1) := by decide +kernel
theorem dX6_asleep_5 : decode cX6_asleep 5 = .ok (.bipush 10, 2) := by decide +kernel
theorem dX6_asleep_7 : decode cX6_asleep 7 = .ok (.if_icmp .ge 21, 3) := by decide +kernel
theorem dX6_asleep_10 : decode cX6_asleep 10 = .ok (.iload_n 1, 1) := by decide +kernel
theorem dX6_asleep_11 : decode cX6_asleep 11 = .ok (.aload_n 0, 1) := by decide +kernel
theorem dX6_asleep_12 : decode cX6_asleep 12 = .ok (.getfield 7, 3) := by decide +kernel
theorem dX6_asleep_15 : decode cX6_asleep 15 = .ok (.bipush 60, 2) := by decide +kernel
theorem dX6_asleep_17 : decode cX6_asleep 17 = .ok (.iload_n 2, 1) := by decide +kernel
theorem dX6_asleep_18 : decode cX6_asleep 18 = .ok (.iadd, 1) := by decide +kernel
theorem dX6_asleep_19 : decode cX6_asleep 19 = .ok (.iaload, 1) := by decide +kernel
theorem dX6_asleep_20 : decode cX6_asleep 20 = .ok (.iadd, 1) := by decide +kernel
theorem dX6_asleep_21 : decode cX6_asleep 21 = .ok (.istore_n 1, 1) := by decide +kernel
theorem dX6_asleep_22 : decode cX6_asleep 22 = .ok (.iinc 2 1, 3) := by decide +kernel
theorem dX6_asleep_25 : decode cX6_asleep 25 = .ok (.goto (-21), 3) := by decide +kernel
theorem dX6_asleep_28 : decode cX6_asleep 28 = .ok (.iload_n 1, 1) := by decide +kernel
theorem dX6_asleep_29 : decode cX6_asleep 29 = .ok (.ireturn, 1) := by decide +kernel
theorem dX6_lights_0 : decode cX6_lights 0 = .ok (.iconst 0, 1) := by decide +kernel
theorem dX6_lights_1 : decode cX6_lights 1 = .ok (.istore_n 1, 1) := by decide +kernel
theorem dX6_lights_2 : decode cX6_lights 2 = .ok (.iconst 0, 1) := by decide +kernel
theorem dX6_lights_3 : decode cX6_lights 3 = .ok (.istore_n 2, 1) := by decide +kernel
theorem dX6_lights_4 : decode cX6_lights 4 = .ok (.iload_n 2, 1) := by decide +kernel
theorem dX6_lights_5 : decode cX6_lights 5 = .ok (.bipush 10, 2) := by decide +kernel
theorem dX6_lights_7 : decode cX6_lights 7 = .ok (.if_icmp .ge 21, 3) := by decide +kernel
theorem dX6_lights_10 : decode cX6_lights 10 = .ok (.iload_n 1, 1) := by decide +kernel
theorem dX6_lights_11 : decode cX6_lights 11 = .ok (.aload_n 0, 1) := by decide +kernel
theorem dX6_lights_12 : decode cX6_lights 12 = .ok (.getfield 7, 3) := by decide +kernel
theorem dX6_lights_15 : decode cX6_lights 15 = .ok (.bipush 50, 2) := by decide +kernel
theorem dX6_lights_17 : decode cX6_lights 17 = .ok (.iload_n 2, 1) := by decide +kernel
theorem dX6_lights_18 : decode cX6_lights 18 = .ok (.iadd, 1) := by decide +kernel
theorem dX6_lights_19 : decode cX6_lights 19 = .ok (.iaload, 1) := by decide +kernel
theorem dX6_lights_20 : decode cX6_lights 20 = .ok (.iadd, 1) := by decide +kernel
theorem dX6_lights_21 : decode cX6_lights 21 = .ok (.istore_n 1, 1) := by decide +kernel
theorem dX6_lights_22 : decode cX6_lights 22 = .ok (.iinc 2 1, 3) := by decide +kernel
theorem dX6_lights_25 : decode cX6_lights 25 = .ok (.goto (-21), 3) := by decide +kernel
theorem dX6_lights_28 : decode cX6_lights 28 = .ok (.iload_n 1, 1) := by decide +kernel
theorem dX6_lights_29 : decode cX6_lights 29 = .ok (.ireturn, 1) := by decide +kernel
set_option maxRecDepth 20000 in
theorem ggX6_count_X6_asleep : GoodIn wsX6_count wsX6_asleep := goodIn_r _ [7, 1, 12, 13, 14] (by decide +kernel) (by decide +kernel)
set_option maxRecDepth 20000 in
theorem gX6_count_X6_asleep : GoodIn wsX6_count (wsV RX6 90 RX6 yX6_asleep wsX6_asleep) := goodIn_app (goodIn_of _ (by decide +kernel)) ggX6_count_X6_asleep
set_option maxRecDepth 20000 in
theorem ggX6_count_X6_lights : GoodIn wsX6_count wsX6_lights := goodIn_r _ [11, 1, 12, 13, 14] (by decide +kernel) (by decide +kernel)
set_option maxRecDepth 20000 in
theorem gX6_count_X6_lights : GoodIn wsX6_count (wsV RX6 93 RX6 yX6_lights wsX6_lights) := goodIn_app (goodIn_of _ (by decide +kernel)) ggX6_count_X6_lights
theorem dX6_count_0 : decode cX6_count 0 = .ok (.iload_n 1, 1) := by decide +kernel
theorem dX6_count_1 : decode cX6_count 1 = .ok (.tableswitch 158 0 9 #[55, 64, 73, 82, 91, 96, 101, 110, 119, 128], 55) := by decide +kernel
theorem dX6_count_56 : decode cX6_count 56 = .ok (.aload_n 0, 1) := by decide +kernel
theorem dX6_count_57 : decode cX6_count 57 = .ok (.getfield 7, 3) := by decide +kernel
theorem dX6_count_60 : decode cX6_count 60 = .ok (.sipush 6810, 3) := by decide +kernel
theorem dX6_count_63 : decode cX6_count 63 = .ok (.iaload, 1) := by decide +kernel
theorem dX6_count_64 : decode cX6_count 64 = .ok (.ireturn, 1) := by decide +kernel
theorem dX6_count_65 : decode cX6_count 65 = .ok (.aload_n 0, 1) := by decide +kernel
theorem dX6_count_66 : decode cX6_count 66 = .ok (.getfield 7, 3) := by decide +kernel
theorem dX6_count_69 : decode cX6_count 69 = .ok (.sipush 6811, 3) := by decide +kernel
theorem dX6_count_72 : decode cX6_count 72 = .ok (.iaload, 1) := by decide +kernel
theorem dX6_count_73 : decode cX6_count 73 = .ok (.ireturn, 1) := by decide +kernel
theorem dX6_count_74 : decode cX6_count 74 = .ok (.aload_n 0, 1) := by decide +kernel
theorem dX6_count_75 : decode cX6_count 75 = .ok (.getfield 7, 3) := by decide +kernel
theorem dX6_count_78 : decode cX6_count 78 = .ok (.sipush 6812, 3) := by decide +kernel
end
section
theorem dX6_count_81 : decode cX6_count 81 = .ok (.iaload, 1) := by decide +kernel
theorem dX6_count_82 : decode cX6_count 82 = .ok (.ireturn, 1) := by decide +kernel
theorem dX6_count_83 : decode cX6_count 83 = .ok (.aload_n 0, 1) := by decide +kernel
theorem dX6_count_84 : decode cX6_count 84 = .ok (.getfield 7, 3) := by decide +kernel
theorem dX6_count_87 : decode cX6_count 87 = .ok (.sipush 6815, 3) := by decide +kernel
theorem dX6_count_90 : decode cX6_count 90 = .ok (.iaload, 1) := by decide +kernel
theorem dX6_count_91 : decode cX6_count 91 = .ok (.ireturn, 1) := by decide +kernel
theorem dX6_count_92 : decode cX6_count 92 = .ok (.aload_n 0, 1) := by decide +kernel
theorem dX6_count_93 : decode cX6_count 93 = .ok (.invokevirtual 90, 3) := by decide +kernel
theorem dX6_count_96 : decode cX6_count 96 = .ok (.ireturn, 1) := by decide +kernel
theorem dX6_count_97 : decode cX6_count 97 = .ok (.aload_n 0, 1) := by decide +kernel
theorem dX6_count_98 : decode cX6_count 98 = .ok (.invokevirtual 93, 3) := by decide +kernel
theorem dX6_count_101 : decode cX6_count 101 = .ok (.ireturn, 1) := by decide +kernel
theorem dX6_count_102 : decode cX6_count 102 = .ok (.aload_n 0, 1) := by decide +kernel
theorem dX6_count_103 : decode cX6_count 103 = .ok (.getfield 7, 3) := by decide +kernel
theorem dX6_count_106 : decode cX6_count 106 = .ok (.sipush 6816, 3) := by decide +kernel
theorem dX6_count_109 : decode cX6_count 109 = .ok (.iaload, 1) := by decide +kernel
theorem dX6_count_110 : decode cX6_count 110 = .ok (.ireturn, 1) := by decide +kernel
theorem dX6_count_111 : decode cX6_count 111 = .ok (.aload_n 0, 1) := by decide +kernel
theorem dX6_count_112 : decode cX6_count 112 = .ok (.getfield 7, 3) := by decide +kernel
theorem dX6_count_115 : decode cX6_count 115 = .ok (.sipush 6817, 3) := by decide +kernel
theorem dX6_count_118 : decode cX6_count 118 = .ok (.iaload, 1) := by decide +kernel
theorem dX6_count_119 : decode cX6_count 119 = .ok (.ireturn, 1) := by decide +kernel
theorem dX6_count_120 : decode cX6_count 120 = .ok (.aload_n 0, 1) := by decide +kernel
theorem dX6_count_121 : decode cX6_count 121 = .ok (.getfield 7, 3) := by decide +kernel
theorem dX6_count_124 : decode cX6_count 124 = .ok (.sipush 6818, 3) := by decide +kernel
theorem dX6_count_127 : decode cX6_count 127 = .ok (.iaload, 1) := by decide +kernel
theorem dX6_count_128 : decode cX6_count 128 = .ok (.ireturn, 1) := by decide +kernel
theorem dX6_count_129 : decode cX6_count 129 = .ok (.aload_n 0, 1) := by decide +kernel
theorem dX6_count_130 : decode cX6_count 130 = .ok (.getfield 16, 3) := by decide +kernel
theorem dX6_count_133 : decode cX6_count 133 = .ok (.iconst 0, 1) := by decide +kernel
theorem dX6_count_134 : decode cX6_count 134 = .ok (.baload, 1) := by decide +kernel
theorem dX6_count_135 : decode cX6_count 135 = .ok (.ifCond .eq 7, 3) := by decide +kernel
theorem dX6_count_138 : decode cX6_count 138 = .ok (.iconst 1, 1) := by decide +kernel
theorem dX6_count_139 : decode cX6_count 139 = .ok (.goto 4, 3) := by decide +kernel
theorem dX6_count_142 : decode cX6_count 142 = .ok (.iconst 0, 1) := by decide +kernel
theorem dX6_count_143 : decode cX6_count 143 = .ok (.aload_n 0, 1) := by decide +kernel
theorem dX6_count_144 : decode cX6_count 144 = .ok (.getfield 16, 3) := by decide +kernel
theorem dX6_count_147 : decode cX6_count 147 = .ok (.iconst 1, 1) := by decide +kernel
theorem dX6_count_148 : decode cX6_count 148 = .ok (.baload, 1) := by decide +kernel
theorem dX6_count_149 : decode cX6_count 149 = .ok (.ifCond .eq 7, 3) := by decide +kernel
theorem dX6_count_152 : decode cX6_count 152 = .ok (.iconst 2, 1) := by decide +kernel
theorem dX6_count_153 : decode cX6_count 153 = .ok (.goto 4, 3) := by decide +kernel
theorem dX6_count_156 : decode cX6_count 156 = .ok (.iconst 0, 1) := by decide +kernel
theorem dX6_count_157 : decode cX6_count 157 = .ok (.iadd, 1) := by decide +kernel
theorem dX6_count_158 : decode cX6_count 158 = .ok (.ireturn, 1) := by decide +kernel
theorem dX6_count_159 : decode cX6_count 159 = .ok (.bipush (-2), 2) := by decide +kernel
theorem dX6_count_161 : decode cX6_count 161 = .ok (.ireturn, 1) := by decide +kernel
theorem dJ6_bitCount_0f7a4_0 : decode cJ6_bitCount_0f7a4 0 = .ok (.iload_n 0, 1) := by decide +kernel
theorem dJ6_bitCount_0f7a4_1 : decode cJ6_bitCount_0f7a4 1 = .ok (.iload_n 0, 1) := by decide +kernel
theorem dJ6_bitCount_0f7a4_2 : decode cJ6_bitCount_0f7a4 2 = .ok (.iconst 1, 1) := by decide +kernel
theorem dJ6_bitCount_0f7a4_3 : decode cJ6_bitCount_0f7a4 3 = .ok (.iushr, 1) := by decide +kernel
theorem dJ6_bitCount_0f7a4_4 : decode cJ6_bitCount_0f7a4 4 = .ok (.ldc_w 265, 3) := by decide +kernel
theorem dJ6_bitCount_0f7a4_7 : decode cJ6_bitCount_0f7a4 7 = .ok (.iand, 1) := by decide +kernel
theorem dJ6_bitCount_0f7a4_8 : decode cJ6_bitCount_0f7a4 8 = .ok (.isub, 1) := by decide +kernel
theorem dJ6_bitCount_0f7a4_9 : decode cJ6_bitCount_0f7a4 9 = .ok (.istore_n 0, 1) := by decide +kernel
theorem dJ6_bitCount_0f7a4_10 : decode cJ6_bitCount_0f7a4 10 = .ok (.iload_n 0, 1) := by decide +kernel
theorem dJ6_bitCount_0f7a4_11 : decode cJ6_bitCount_0f7a4 11 = .ok (.ldc_w 266, 3) := by decide +kernel
theorem dJ6_bitCount_0f7a4_14 : decode cJ6_bitCount_0f7a4 14 = .ok (.iand, 1) := by decide +kernel
theorem dJ6_bitCount_0f7a4_15 : decode cJ6_bitCount_0f7a4 15 = .ok (.iload_n 0, 1) := by decide +kernel
theorem dJ6_bitCount_0f7a4_16 : decode cJ6_bitCount_0f7a4 16 = .ok (.iconst 2, 1) := by decide +kernel
theorem dJ6_bitCount_0f7a4_17 : decode cJ6_bitCount_0f7a4 17 = .ok (.iushr, 1) := by decide +kernel
theorem dJ6_bitCount_0f7a4_18 : decode cJ6_bitCount_0f7a4 18 = .ok (.ldc_w 266, 3) := by decide +kernel
theorem dJ6_bitCount_0f7a4_21 : decode cJ6_bitCount_0f7a4 21 = .ok (.iand, 1) := by decide +kernel
theorem dJ6_bitCount_0f7a4_22 : decode cJ6_bitCount_0f7a4 22 = .ok (.iadd, 1) := by decide +kernel
theorem dJ6_bitCount_0f7a4_23 : decode cJ6_bitCount_0f7a4 23 = .ok (.istore_n 0, 1) := by decide +kernel
theorem dJ6_bitCount_0f7a4_24 : decode cJ6_bitCount_0f7a4 24 = .ok (.iload_n 0, 1) := by decide +kernel
theorem dJ6_bitCount_0f7a4_25 : decode cJ6_bitCount_0f7a4 25 = .ok (.iload_n 0, 1) := by decide +kernel
theorem dJ6_bitCount_0f7a4_26 : decode cJ6_bitCount_0f7a4 26 = .ok (.iconst 4, 1) := by decide +kernel
theorem dJ6_bitCount_0f7a4_27 : decode cJ6_bitCount_0f7a4 27 = .ok (.iushr, 1) := by decide +kernel
theorem dJ6_bitCount_0f7a4_28 : decode cJ6_bitCount_0f7a4 28 = .ok (.iadd, 1) := by decide +kernel
theorem dJ6_bitCount_0f7a4_29 : decode cJ6_bitCount_0f7a4 29 = .ok (.ldc_w 267, 3) := by decide +kernel
theorem dJ6_bitCount_0f7a4_32 : decode cJ6_bitCount_0f7a4 32 = .ok (.iand, 1) := by decide +kernel
theorem dJ6_bitCount_0f7a4_33 : decode cJ6_bitCount_0f7a4 33 = .ok (.istore_n 0, 1) := by decide +kernel
theorem dJ6_bitCount_0f7a4_34 : decode cJ6_bitCount_0f7a4 34 = .ok (.iload_n 0, 1) := by decide +kernel
theorem dJ6_bitCount_0f7a4_35 : decode cJ6_bitCount_0f7a4 35 = .ok (.iload_n 0, 1) := by decide +kernel
theorem dJ6_bitCount_0f7a4_36 : decode cJ6_bitCount_0f7a4 36 = .ok (.bipush 8, 2) := by decide +kernel
theorem dJ6_bitCount_0f7a4_38 : decode cJ6_bitCount_0f7a4 38 = .ok (.iushr, 1) := by decide +kernel
theorem dJ6_bitCount_0f7a4_39 : decode cJ6_bitCount_0f7a4 39 = .ok (.iadd, 1) := by decide +kernel
theorem dJ6_bitCount_0f7a4_40 : decode cJ6_bitCount_0f7a4 40 = .ok (.istore_n 0, 1) := by decide +kernel
theorem dJ6_bitCount_0f7a4_41 : decode cJ6_bitCount_0f7a4 41 = .ok (.iload_n 0, 1) := by decide +kernel
theorem dJ6_bitCount_0f7a4_42 : decode cJ6_bitCount_0f7a4 42 = .ok (.iload_n 0, 1) := by decide +kernel
theorem dJ6_bitCount_0f7a4_43 : decode cJ6_bitCount_0f7a4 43 = .ok (.bipush 16, 2) := by decide +kernel
theorem dJ6_bitCount_0f7a4_45 : decode cJ6_bitCount_0f7a4 45 = .ok (.iushr, 1) := by decide +kernel
theorem dJ6_bitCount_0f7a4_46 : decode cJ6_bitCount_0f7a4 46 = .ok (.iadd, 1) := by decide +kernel
theorem dJ6_bitCount_0f7a4_47 : decode cJ6_bitCount_0f7a4 47 = .ok (.istore_n 0, 1) := by decide +kernel
theorem dJ6_bitCount_0f7a4_48 : decode cJ6_bitCount_0f7a4 48 = .ok (.iload_n 0, 1) := by decide +kernel
theorem dJ6_bitCount_0f7a4_49 : decode cJ6_bitCount_0f7a4 49 = .ok (.bipush 63, 2) := by decide +kernel
theorem dJ6_bitCount_0f7a4_51 : decode cJ6_bitCount_0f7a4 51 = .ok (.iand, 1) := by decide +kernel
theorem dJ6_bitCount_0f7a4_52 : decode cJ6_bitCount_0f7a4 52 = .ok (.ireturn, 1) := by decide +kernel
theorem dJ9_max_7cf53_0 : decode cJ9_max_7cf53 0 = .ok (.iload_n 0, 1) := by decide +kernel
theorem dJ9_max_7cf53_1 : decode cJ9_max_7cf53 1 = .ok (.iload_n 1, 1) := by decide +kernel
theorem dJ9_max_7cf53_2 : decode cJ9_max_7cf53 2 = .ok (.if_icmp .lt 7, 3) := by decide +kernel
theorem dJ9_max_7cf53_5 : decode cJ9_max_7cf53 5 = .ok (.iload_n 0, 1) := by decide +kernel
theorem dJ9_max_7cf53_6 : decode cJ9_max_7cf53 6 = .ok (.goto 4, 3) := by decide +kernel
theorem dJ9_max_7cf53_9 : decode cJ9_max_7cf53 9 = .ok (.iload_n 1, 1) := by decide +kernel
theorem dJ9_max_7cf53_10 : decode cJ9_max_7cf53 10 = .ok (.ireturn, 1) := by decide +kernel
theorem dJ9_min_7cf53_0 : decode cJ9_min_7cf53 0 = .ok (.iload_n 0, 1) := by decide +kernel
theorem dJ9_min_7cf53_1 : decode cJ9_min_7cf53 1 = .ok (.iload_n 1, 1) := by decide +kernel
theorem dJ9_min_7cf53_2 : decode cJ9_min_7cf53 2 = .ok (.if_icmp .gt 7, 3) := by decide +kernel
theorem dJ9_min_7cf53_5 : decode cJ9_min_7cf53 5 = .ok (.iload_n 0, 1) := by decide +kernel
theorem dJ9_min_7cf53_6 : decode cJ9_min_7cf53 6 = .ok (.goto 4, 3) := by decide +kernel
theorem dJ9_min_7cf53_9 : decode cJ9_min_7cf53 9 = .ok (.iload_n 1, 1) := by decide +kernel
theorem dJ9_min_7cf53_10 : decode cJ9_min_7cf53 10 = .ok (.ireturn, 1) := by decide +kernel
set_option maxRecDepth 20000 in
theorem ggL_law_X5_init : GoodIn wsL_law wsX5_init := goodIn_r _ [8, 9, 10, 11, 12, 13, 14, 15, 16, 17, 18, 19, 20, 21, 22, 23, 24, 25, 26, 27, 28, 29, 30, 31, 32, 33, 34, 35, 36, 37, 38, 39, 40, 41, 42, 43, 44, 45, 46, 47, 48, 49, 50, 51, 52, 53, 54, 55, 56, 57, 58, 59, 60, 61, 62, 63, 64, 65, 66, 67, 68, 69, 70, 71, 72, 73, 74, 75, 76, 77, 78, 79, 80, 81, 82, 83, 84, 85, 86, 87, 88, 89, 90, 91, 92, 558, 559, 560, 561, 562, 563, 564, 565, 566, 567, 568, 553, 554, 569, 570, 571, 572, 573, 574, 575, 576, 577, 578, 579, 580, 581, 582, 583, 584, 585, 586, 587, 588, 589, 590, 591, 592, 593] (by decide +kernel) (by decide +kernel)
set_option maxRecDepth 20000 in
theorem gL_law_X5_init : GoodIn wsL_law (wsX5_init) := ggL_law_X5_init
set_option maxRecDepth 20000 in
theorem ggL_law_X6_init : GoodIn wsL_law wsX6_init := goodIn_r _ [95, 96, 10, 11, 44, 97, 98, 99, 100, 555, 556, 557] (by decide +kernel) (by decide +kernel)
set_option maxRecDepth 20000 in
theorem gL_law_X6_init : GoodIn wsL_law (wsX6_init) := ggL_law_X6_init
set_option maxRecDepth 20000 in
theorem ggL_law_X5_link : GoodIn wsL_law wsX5_link := goodIn_r _ [104, 15, 105, 106, 107, 108, 2, 109, 110, 111, 112, 113, 114, 115, 116, 117, 118, 119, 120, 121, 122, 553, 554, 558, 559, 560, 561, 562, 563, 564, 565, 566, 567, 568, 577, 578, 579, 580, 581, 582, 583, 584, 585, 586, 587, 588, 589, 590, 591] (by decide +kernel) (by decide +kernel)
set_option maxRecDepth 20000 in
theorem gL_law_X5_link : GoodIn wsL_law (wsV RL 13 RX5 yX5_link wsX5_link) := goodIn_app (goodIn_of _ (by decide +kernel)) ggL_law_X5_link
set_option maxRecDepth 20000 in
theorem ggL_law_X6_link : GoodIn wsL_law wsX6_link := goodIn_r _ [126, 97, 127, 128, 5, 129, 130, 131, 132, 133, 134, 135, 555, 556, 557] (by decide +kernel) (by decide +kernel)
set_option maxRecDepth 20000 in
theorem gL_law_X6_link : GoodIn wsL_law (wsV RL 17 RX6 yX6_link wsX6_link) := goodIn_app (goodIn_of _ (by decide +kernel)) ggL_law_X6_link
set_option maxRecDepth 20000 in
theorem ggL_law_X5_set : GoodIn wsL_law wsX5_set := goodIn_r _ [139, 140, 141, 15, 105, 142, 143, 107, 108, 2, 109, 110, 111, 112, 144, 145, 146, 69, 147, 87, 92, 553, 554, 558, 559, 560, 561, 562, 563, 564, 565, 566, 567, 568, 577, 578, 579, 580, 581, 582, 583, 584, 585, 586, 587, 588, 589, 590, 591, 592, 593] (by decide +kernel) (by decide +kernel)
set_option maxRecDepth 20000 in
theorem gL_law_X5_set : GoodIn wsL_law (wsV RL 18 RX5 yX5_set wsX5_set) := goodIn_app (goodIn_of _ (by decide +kernel)) ggL_law_X5_set
set_option maxRecDepth 20000 in
theorem ggL_law_X6_set : GoodIn wsL_law wsX6_set := goodIn_r _ [151, 97, 127, 128, 5, 129, 130, 131, 132, 152, 153, 154, 155, 555, 556, 557] (by decide +kernel) (by decide +kernel)
set_option maxRecDepth 20000 in
theorem gL_law_X6_set : GoodIn wsL_law (wsV RL 21 RX6 yX6_set wsX6_set) := goodIn_app (goodIn_of _ (by decide +kernel)) ggL_law_X6_set
set_option maxRecDepth 20000 in
theorem ggL_law_X5_friend : GoodIn wsL_law wsX5_friend := goodIn_r _ [159, 15, 105, 160, 161, 162, 107, 108, 2, 109, 110, 111, 112, 144, 145, 146, 69, 147, 87, 92, 553, 554, 558, 559, 560, 561, 562, 563, 564, 565, 566, 567, 568, 577, 578, 579, 580, 581, 582, 583, 584, 585, 586, 587, 588, 589, 590, 591, 592, 593] (by decide +kernel) (by decide +kernel)
set_option maxRecDepth 20000 in
theorem gL_law_X5_friend : GoodIn wsL_law (wsV RL 22 RX5 yX5_friend wsX5_friend) := goodIn_app (goodIn_of _ (by decide +kernel)) ggL_law_X5_friend
set_option maxRecDepth 20000 in
theorem ggL_law_X6_friend : GoodIn wsL_law wsX6_friend := goodIn_r _ [166, 97, 127, 128, 5, 129, 130, 131, 132, 167, 168, 169, 170, 555, 556, 557] (by decide +kernel) (by decide +kernel)
set_option maxRecDepth 20000 in
theorem gL_law_X6_friend : GoodIn wsL_law (wsV RL 26 RX6 yX6_friend wsX6_friend) := goodIn_app (goodIn_of _ (by decide +kernel)) ggL_law_X6_friend
set_option maxRecDepth 20000 in
theorem ggL_law_X5_sleep : GoodIn wsL_law wsX5_sleep := goodIn_r _ [174, 15, 105, 161, 160, 107, 108, 2, 109, 110, 111, 112, 175, 176, 177, 14, 178, 22, 179, 180, 181, 182, 183, 184, 185, 186, 187, 188, 26, 189, 32, 34, 35, 190, 191, 192, 193, 194, 195, 196, 197, 198, 199, 200, 201, 25, 202, 203, 204, 205, 206, 145, 146, 69, 147, 87, 92, 553, 554, 558, 559, 560, 561, 562, 563, 564, 565, 566, 567, 568, 577, 578, 579, 580, 581, 582, 583, 584, 585, 586, 587, 588, 589, 590, 591, 592, 593, 569, 570, 571] (by decide +kernel) (by decide +kernel)
set_option maxRecDepth 20000 in
theorem gL_law_X5_sleep : GoodIn wsL_law (wsV RL 27 RX5 yX5_sleep wsX5_sleep) := goodIn_app (goodIn_of _ (by decide +kernel)) ggL_law_X5_sleep
set_option maxRecDepth 20000 in
theorem ggL_law_X6_sleep : GoodIn wsL_law wsX6_sleep := goodIn_r _ [210, 97, 127, 128, 5, 129, 130, 131, 132, 167, 168, 169, 170, 211, 212, 213, 214, 215, 216, 217, 218, 219, 220, 221, 222, 223, 224, 225, 555, 556, 557] (by decide +kernel) (by decide +kernel)
set_option maxRecDepth 20000 in
theorem gL_law_X6_sleep : GoodIn wsL_law (wsV RL 30 RX6 yX6_sleep wsX6_sleep) := goodIn_app (goodIn_of _ (by decide +kernel)) ggL_law_X6_sleep
set_option maxRecDepth 20000 in
theorem ggL_law_X5_phase : GoodIn wsL_law wsX5_phase := goodIn_r _ [229, 15, 230, 231, 232, 233, 14, 234, 33, 32, 35, 34, 553, 554, 558, 559, 560, 561, 562, 563, 564, 565, 566, 567, 568] (by decide +kernel) (by decide +kernel)
set_option maxRecDepth 20000 in
theorem gL_law_X5_phase : GoodIn wsL_law (wsV RL 31 RX5 yX5_phase wsX5_phase) := goodIn_app (goodIn_of _ (by decide +kernel)) ggL_law_X5_phase
set_option maxRecDepth 20000 in
theorem ggL_law_X6_phase : GoodIn wsL_law wsX6_phase := goodIn_r _ [238, 97, 555, 556, 557] (by decide +kernel) (by decide +kernel)
set_option maxRecDepth 20000 in
theorem gL_law_X6_phase : GoodIn wsL_law (wsV RL 35 RX6 yX6_phase wsX6_phase) := goodIn_app (goodIn_of _ (by decide +kernel)) ggL_law_X6_phase
set_option maxRecDepth 20000 in
theorem ggL_law_X5_give : GoodIn wsL_law wsX5_give := goodIn_r _ [242, 15, 230, 243, 107, 108, 2, 109, 110, 111, 112, 113, 114, 115, 116, 117, 118, 119, 120, 121, 122, 553, 554, 558, 559, 560, 561, 562, 563, 564, 565, 566, 567, 568] (by decide +kernel) (by decide +kernel)
set_option maxRecDepth 20000 in
theorem gL_law_X5_give : GoodIn wsL_law (wsV RL 36 RX5 yX5_give wsX5_give) := goodIn_app (goodIn_of _ (by decide +kernel)) ggL_law_X5_give
set_option maxRecDepth 20000 in
theorem ggL_law_X6_give : GoodIn wsL_law wsX6_give := goodIn_r _ [247, 97, 127, 128, 5, 129, 130, 131, 132, 133, 134, 135, 555, 556, 557] (by decide +kernel) (by decide +kernel)
set_option maxRecDepth 20000 in
theorem gL_law_X6_give : GoodIn wsL_law (wsV RL 40 RX6 yX6_give wsX6_give) := goodIn_app (goodIn_of _ (by decide +kernel)) ggL_law_X6_give
set_option maxRecDepth 20000 in
theorem ggL_law_X5_has : GoodIn wsL_law wsX5_has := goodIn_r _ [251, 15, 252, 243, 107, 108, 2, 109, 110, 111, 112, 253, 190, 191, 254, 255, 256, 553, 554, 558, 559, 560, 561, 562, 563, 564, 565, 566, 567, 568] (by decide +kernel) (by decide +kernel)
set_option maxRecDepth 20000 in
theorem gL_law_X5_has : GoodIn wsL_law (wsV RL 41 RX5 yX5_has wsX5_has) := goodIn_app (goodIn_of _ (by decide +kernel)) ggL_law_X5_has
set_option maxRecDepth 20000 in
theorem ggL_law_X6_has : GoodIn wsL_law wsX6_has := goodIn_r _ [260, 97, 127, 128, 5, 129, 130, 131, 132, 219, 220, 221, 555, 556, 557] (by decide +kernel) (by decide +kernel)
set_option maxRecDepth 20000 in
theorem gL_law_X6_has : GoodIn wsL_law (wsV RL 44 RX6 yX6_has wsX6_has) := goodIn_app (goodIn_of _ (by decide +kernel)) ggL_law_X6_has
set_option maxRecDepth 20000 in
theorem ggL_law_X5_tell : GoodIn wsL_law wsX5_tell := goodIn_r _ [264, 15, 105, 160, 265, 266, 267, 143, 142, 268, 107, 108, 2, 109, 110, 111, 112, 269, 270, 271, 14, 272, 34, 273, 274, 275, 276, 33, 35, 190, 191, 277, 278, 279, 29, 280, 55, 281, 282, 25, 283, 284, 285, 286, 287, 32, 288, 289, 290, 291, 45, 46, 47, 292, 293, 294, 69, 295, 87, 92, 296, 145, 146, 147, 297, 298, 299, 300, 51, 52, 53, 54, 301, 553, 554, 558, 559, 560, 561, 562, 563, 564, 565, 566, 567, 568, 577, 578, 579, 580, 581, 582, 583, 584, 585, 586, 587, 588, 589, 590, 591, 572, 573, 574, 575, 576, 569, 570, 571, 592, 593] (by decide +kernel) (by decide +kernel)
set_option maxRecDepth 20000 in
theorem gL_law_X5_tell : GoodIn wsL_law (wsV RL 45 RX5 yX5_tell wsX5_tell) := goodIn_app (goodIn_of _ (by decide +kernel)) ggL_law_X5_tell
set_option maxRecDepth 20000 in
theorem ggL_law_X6_tell : GoodIn wsL_law wsX6_tell := goodIn_r _ [305, 97, 127, 128, 5, 129, 130, 131, 132, 167, 168, 169, 170, 306, 307, 308, 309, 219, 220, 221, 310, 311, 312, 313, 314, 315, 316, 317, 555, 556, 557] (by decide +kernel) (by decide +kernel)
set_option maxRecDepth 20000 in
theorem gL_law_X6_tell : GoodIn wsL_law (wsV RL 49 RX6 yX6_tell wsX6_tell) := goodIn_app (goodIn_of _ (by decide +kernel)) ggL_law_X6_tell
set_option maxRecDepth 20000 in
theorem ggL_law_X5_replay : GoodIn wsL_law wsX5_replay := goodIn_r _ [321, 15, 105, 266, 265, 268, 322, 107, 108, 2, 109, 110, 111, 112, 277, 278, 279, 29, 280, 55, 281, 282, 25, 283, 297, 298, 299, 300, 51, 52, 53, 54, 301, 553, 554, 558, 559, 560, 561, 562, 563, 564, 565, 566, 567, 568, 577, 578, 579, 580, 581, 582, 583, 584, 585, 586, 587, 588, 589, 590, 591, 572, 573, 574, 575, 576] (by decide +kernel) (by decide +kernel)
set_option maxRecDepth 20000 in
theorem gL_law_X5_replay : GoodIn wsL_law (wsV RL 50 RX5 yX5_replay wsX5_replay) := goodIn_app (goodIn_of _ (by decide +kernel)) ggL_law_X5_replay
set_option maxRecDepth 20000 in
theorem ggL_law_X6_replay : GoodIn wsL_law wsX6_replay := goodIn_r _ [326, 97, 127, 128, 5, 129, 130, 131, 132, 314, 315, 316, 317, 555, 556, 557] (by decide +kernel) (by decide +kernel)
set_option maxRecDepth 20000 in
theorem gL_law_X6_replay : GoodIn wsL_law (wsV RL 53 RX6 yX6_replay wsX6_replay) := goodIn_app (goodIn_of _ (by decide +kernel)) ggL_law_X6_replay
set_option maxRecDepth 20000 in
theorem ggL_law_X5_pass : GoodIn wsL_law wsX5_pass := goodIn_r _ [330, 15, 331, 110, 111, 2, 112, 332, 333, 334, 14, 335, 31, 30, 336, 337, 338, 339, 340, 341, 342, 343, 344, 345, 346, 347, 29, 348, 55, 51, 349, 350, 351, 352, 52, 53, 54, 353, 354, 355, 356, 22, 180, 38, 36, 357, 358, 114, 115, 190, 191, 359, 360, 361, 362, 184, 363, 364, 365, 366, 185, 186, 187, 188, 26, 189, 32, 34, 35, 367, 368, 369, 69, 370, 87, 92, 371, 293, 294, 295, 296, 145, 146, 147, 200, 201, 25, 202, 372, 373, 374, 375, 376, 192, 193, 194, 195, 196, 197, 198, 199, 179, 203, 204, 205, 377, 378, 379, 380, 381, 181, 382, 383, 384, 385, 37, 386, 278, 279, 280, 387, 298, 299, 300, 301, 553, 554, 558, 559, 560, 561, 562, 563, 564, 565, 566, 567, 568, 572, 573, 574, 575, 576, 577, 578, 579, 580, 581, 582, 583, 584, 585, 586, 587, 588, 589, 590, 591, 569, 570, 571, 592, 593] (by decide +kernel) (by decide +kernel)
set_option maxRecDepth 20000 in
theorem gL_law_X5_pass : GoodIn wsL_law (wsV RL 54 RX5 yX5_pass wsX5_pass) := goodIn_app (goodIn_of _ (by decide +kernel)) ggL_law_X5_pass
set_option maxRecDepth 20000 in
theorem ggL_law_X6_pass : GoodIn wsL_law wsX6_pass := goodIn_r _ [391, 130, 131, 5, 132, 392, 393, 394, 395, 97, 396, 397, 398, 399, 400, 401, 402, 403, 404, 405, 406, 407, 167, 168, 169, 170, 219, 220, 221, 408, 409, 410, 411, 211, 212, 213, 214, 215, 216, 217, 218, 412, 413, 414, 415, 310, 311, 312, 313, 416, 417, 418, 419, 222, 223, 224, 225, 420, 421, 422, 423, 314, 315, 316, 317, 555, 556, 557] (by decide +kernel) (by decide +kernel)
set_option maxRecDepth 20000 in
theorem gL_law_X6_pass : GoodIn wsL_law (wsV RL 57 RX6 yX6_pass wsX6_pass) := goodIn_app (goodIn_of _ (by decide +kernel)) ggL_law_X6_pass
set_option maxRecDepth 20000 in
theorem ggL_law_X5_settle : GoodIn wsL_law wsX5_settle := goodIn_r _ [427, 15, 265, 322, 332, 333, 334, 14, 335, 31, 30, 336, 337, 338, 339, 340, 341, 342, 343, 344, 345, 346, 347, 29, 348, 55, 51, 349, 350, 351, 352, 52, 53, 54, 353, 354, 355, 356, 22, 180, 38, 36, 357, 358, 114, 2, 115, 190, 191, 359, 360, 361, 362, 184, 363, 364, 365, 366, 185, 186, 187, 188, 26, 189, 32, 34, 35, 367, 368, 369, 69, 370, 87, 92, 371, 293, 294, 295, 296, 145, 146, 147, 200, 201, 25, 202, 372, 373, 374, 375, 376, 192, 193, 194, 195, 196, 197, 198, 199, 179, 203, 204, 205, 377, 378, 379, 380, 381, 181, 382, 383, 384, 385, 37, 386, 278, 279, 280, 387, 298, 299, 300, 301, 553, 554, 558, 559, 560, 561, 562, 563, 564, 565, 566, 567, 568, 572, 573, 574, 575, 576, 577, 578, 579, 580, 581, 582, 583, 584, 585, 586, 587, 588, 589, 590, 591, 569, 570, 571, 592, 593] (by decide +kernel) (by decide +kernel)
set_option maxRecDepth 20000 in
theorem gL_law_X5_settle : GoodIn wsL_law (wsV RL 58 RX5 yX5_settle wsX5_settle) := goodIn_app (goodIn_of _ (by decide +kernel)) ggL_law_X5_settle
set_option maxRecDepth 20000 in
theorem ggL_law_X6_settle : GoodIn wsL_law wsX6_settle := goodIn_r _ [431, 97, 392, 393, 394, 5, 395, 396, 397, 398, 399, 400, 401, 402, 403, 404, 405, 406, 407, 167, 168, 169, 170, 219, 220, 221, 408, 409, 410, 411, 211, 212, 213, 214, 215, 216, 217, 218, 412, 413, 414, 415, 310, 311, 312, 313, 416, 417, 418, 419, 222, 223, 224, 225, 420, 421, 422, 423, 314, 315, 316, 317, 555, 556, 557] (by decide +kernel) (by decide +kernel)
set_option maxRecDepth 20000 in
theorem gL_law_X6_settle : GoodIn wsL_law (wsV RL 61 RX6 yX6_settle wsX6_settle) := goodIn_app (goodIn_of _ (by decide +kernel)) ggL_law_X6_settle
set_option maxRecDepth 20000 in
theorem ggL_law_X5_lamp : GoodIn wsL_law wsX5_lamp := goodIn_r _ [435, 15, 105, 436, 160, 161, 266, 437, 438, 439, 440, 441, 442, 162, 443, 143, 106, 107, 108, 2, 109, 110, 111, 112, 254, 255, 256, 116, 117, 118, 119, 120, 121, 122, 553, 554, 558, 559, 560, 561, 562, 563, 564, 565, 566, 567, 568, 577, 578, 579, 580, 581, 582, 583, 584, 585, 586, 587, 588, 589, 590, 591, 592, 593] (by decide +kernel) (by decide +kernel)
set_option maxRecDepth 20000 in
theorem gL_law_X5_lamp : GoodIn wsL_law (wsV RL 62 RX5 yX5_lamp wsX5_lamp) := goodIn_app (goodIn_of _ (by decide +kernel)) ggL_law_X5_lamp
set_option maxRecDepth 20000 in
theorem ggL_law_X6_lamp : GoodIn wsL_law wsX6_lamp := goodIn_r _ [447, 97, 127, 128, 5, 129, 130, 131, 132, 133, 134, 135, 555, 556, 557] (by decide +kernel) (by decide +kernel)
set_option maxRecDepth 20000 in
theorem gL_law_X6_lamp : GoodIn wsL_law (wsV RL 65 RX6 yX6_lamp wsX6_lamp) := goodIn_app (goodIn_of _ (by decide +kernel)) ggL_law_X6_lamp
set_option maxRecDepth 20000 in
theorem ggL_law_X5_taken : GoodIn wsL_law wsX5_taken := goodIn_r _ [451, 15, 105, 452, 107, 108, 2, 109, 110, 111, 112, 553, 554, 558, 559, 560, 561, 562, 563, 564, 565, 566, 567, 568, 577, 578, 579, 580, 581, 582, 583, 584, 585, 586, 587, 588, 589, 590, 591] (by decide +kernel) (by decide +kernel)
set_option maxRecDepth 20000 in
theorem gL_law_X5_taken : GoodIn wsL_law (wsV RL 66 RX5 yX5_taken wsX5_taken) := goodIn_app (goodIn_of _ (by decide +kernel)) ggL_law_X5_taken
set_option maxRecDepth 20000 in
theorem ggL_law_X6_taken : GoodIn wsL_law wsX6_taken := goodIn_r _ [456, 97, 127, 128, 5, 129, 130, 131, 132, 555, 556, 557] (by decide +kernel) (by decide +kernel)
set_option maxRecDepth 20000 in
theorem gL_law_X6_taken : GoodIn wsL_law (wsV RL 69 RX6 yX6_taken wsX6_taken) := goodIn_app (goodIn_of _ (by decide +kernel)) ggL_law_X6_taken
set_option maxRecDepth 20000 in
theorem ggL_law_X5_mind : GoodIn wsL_law wsX5_mind := goodIn_r _ [460, 15, 105, 143, 443, 461, 107, 108, 2, 109, 110, 111, 112, 462, 201, 25, 202, 463, 204, 205, 553, 554, 558, 559, 560, 561, 562, 563, 564, 565, 566, 567, 568, 577, 578, 579, 580, 581, 582, 583, 584, 585, 586, 587, 588, 589, 590, 591, 592, 593] (by decide +kernel) (by decide +kernel)
set_option maxRecDepth 20000 in
theorem gL_law_X5_mind : GoodIn wsL_law (wsV RL 70 RX5 yX5_mind wsX5_mind) := goodIn_app (goodIn_of _ (by decide +kernel)) ggL_law_X5_mind
set_option maxRecDepth 20000 in
theorem ggL_law_X6_mind : GoodIn wsL_law wsX6_mind := goodIn_r _ [467, 97, 127, 128, 5, 129, 130, 131, 132, 555, 556, 557] (by decide +kernel) (by decide +kernel)
set_option maxRecDepth 20000 in
theorem gL_law_X6_mind : GoodIn wsL_law (wsV RL 73 RX6 yX6_mind wsX6_mind) := goodIn_app (goodIn_of _ (by decide +kernel)) ggL_law_X6_mind
set_option maxRecDepth 20000 in
theorem ggL_law_X5_air : GoodIn wsL_law wsX5_air := goodIn_r _ [471, 15, 265, 322, 472, 473, 474, 475, 110, 111, 2, 112, 462, 201, 25, 202, 463, 204, 205, 553, 554, 558, 559, 560, 561, 562, 563, 564, 565, 566, 567, 568, 572, 573, 574, 575, 576] (by decide +kernel) (by decide +kernel)
set_option maxRecDepth 20000 in
theorem gL_law_X5_air : GoodIn wsL_law (wsV RL 74 RX5 yX5_air wsX5_air) := goodIn_app (goodIn_of _ (by decide +kernel)) ggL_law_X5_air
set_option maxRecDepth 20000 in
theorem ggL_law_X6_air : GoodIn wsL_law wsX6_air := goodIn_r _ [479, 97, 130, 131, 5, 132, 555, 556, 557] (by decide +kernel) (by decide +kernel)
set_option maxRecDepth 20000 in
theorem gL_law_X6_air : GoodIn wsL_law (wsV RL 77 RX6 yX6_air wsX6_air) := goodIn_app (goodIn_of _ (by decide +kernel)) ggL_law_X6_air
set_option maxRecDepth 20000 in
theorem ggL_law_X5_image : GoodIn wsL_law wsX5_image := goodIn_r _ [483, 16, 12, 13, 14, 15, 110, 111, 2, 112, 17, 18, 19, 20, 10, 11, 21, 22, 23, 24, 25, 26, 27, 28, 29, 30, 31, 32, 33, 34, 35, 36, 37, 38, 39, 40, 41, 42, 43, 44, 45, 46, 47, 48, 49, 50, 51, 52, 53, 54, 55, 56, 57, 58, 59, 60, 61, 62, 63, 64, 65, 66, 67, 68, 69, 70, 71, 72, 73, 74, 75, 76, 77, 78, 79, 80, 81, 82, 83, 84, 85, 86, 87, 88, 89, 90, 91, 92, 484, 485, 486, 487, 488, 489, 490, 491, 492, 350, 351, 352, 493, 494, 495, 496, 497, 498, 499, 500, 501, 502, 503, 504, 505, 506, 507, 508, 509, 349, 553, 554, 558, 559, 560, 561, 562, 563, 564, 565, 566, 567, 568, 569, 570, 571, 572, 573, 574, 575, 576, 577, 578, 579, 580, 581, 582, 583, 584, 585, 586, 587, 588, 589, 590, 591, 592, 593] (by decide +kernel) (by decide +kernel)
set_option maxRecDepth 20000 in
theorem gL_law_X5_image : GoodIn wsL_law (wsV RL 78 RX5 yX5_image wsX5_image) := goodIn_app (goodIn_of _ (by decide +kernel)) ggL_law_X5_image
set_option maxRecDepth 20000 in
theorem ggL_law_X6_image : GoodIn wsL_law wsX6_image := goodIn_r _ [513, 98, 97, 100, 130, 131, 5, 132, 555, 556, 557] (by decide +kernel) (by decide +kernel)
set_option maxRecDepth 20000 in
theorem gL_law_X6_image : GoodIn wsL_law (wsV RL 81 RX6 yX6_image wsX6_image) := goodIn_app (goodIn_of _ (by decide +kernel)) ggL_law_X6_image
set_option maxRecDepth 20000 in
theorem ggL_law_X5_restore : GoodIn wsL_law wsX5_restore := goodIn_r _ [517, 16, 15, 110, 111, 2, 112, 484, 485, 486, 14, 487, 22, 26, 30, 31, 32, 33, 34, 35, 36, 37, 38, 488, 489, 490, 40, 491, 65, 492, 350, 351, 352, 66, 70, 71, 72, 73, 74, 75, 76, 77, 78, 79, 80, 81, 82, 493, 494, 495, 69, 496, 87, 92, 497, 498, 90, 499, 500, 501, 502, 503, 25, 504, 45, 505, 46, 47, 506, 507, 508, 29, 509, 55, 51, 349, 52, 53, 54, 553, 554, 558, 559, 560, 561, 562, 563, 564, 565, 566, 567, 568, 577, 578, 579, 580, 581, 582, 583, 584, 585, 586, 587, 588, 589, 590, 591, 592, 593, 569, 570, 571, 572, 573, 574, 575, 576] (by decide +kernel) (by decide +kernel)
set_option maxRecDepth 20000 in
theorem gL_law_X5_restore : GoodIn wsL_law (wsV RL 82 RX5 yX5_restore wsX5_restore) := goodIn_app (goodIn_of _ (by decide +kernel)) ggL_law_X5_restore
set_option maxRecDepth 20000 in
theorem ggL_law_X6_restore : GoodIn wsL_law wsX6_restore := goodIn_r _ [521, 100, 97, 98, 130, 131, 5, 132, 555, 556, 557] (by decide +kernel) (by decide +kernel)
set_option maxRecDepth 20000 in
theorem gL_law_X6_restore : GoodIn wsL_law (wsV RL 85 RX6 yX6_restore wsX6_restore) := goodIn_app (goodIn_of _ (by decide +kernel)) ggL_law_X6_restore
set_option maxRecDepth 20000 in
theorem ggL_law_X5_count : GoodIn wsL_law wsX5_count := goodIn_r _ [525, 15, 268, 526, 230, 265, 322, 331, 527, 528, 529, 530, 531, 14, 532, 22, 180, 255, 2, 256, 533, 534, 535, 536, 199, 537, 538, 539, 540, 16, 113, 114, 115, 553, 554, 558, 559, 560, 561, 562, 563, 564, 565, 566, 567, 568, 572, 573, 574, 575, 576, 577, 578, 579, 580, 581, 582, 583, 584, 585, 586, 587, 588, 589, 590, 591] (by decide +kernel) (by decide +kernel)
set_option maxRecDepth 20000 in
theorem gL_law_X5_count : GoodIn wsL_law (wsV RL 86 RX5 yX5_count wsX5_count) := goodIn_app (goodIn_of _ (by decide +kernel)) ggL_law_X5_count
set_option maxRecDepth 20000 in
theorem ggL_law_X6_count : GoodIn wsL_law wsX6_count := goodIn_r _ [544, 97, 100, 545, 546, 547, 5, 548, 549, 550, 551, 552, 555, 556, 557] (by decide +kernel) (by decide +kernel)
set_option maxRecDepth 20000 in
theorem gL_law_X6_count : GoodIn wsL_law (wsV RL 89 RX6 yX6_count wsX6_count) := goodIn_app (goodIn_of _ (by decide +kernel)) ggL_law_X6_count
theorem dL_law_0 : decode cL_law 0 = .ok (.new 7, 3) := by decide +kernel
theorem dL_law_3 : decode cL_law 3 = .ok (.dup, 1) := by decide +kernel
theorem dL_law_4 : decode cL_law 4 = .ok (.invokespecial 9, 3) := by decide +kernel
theorem dL_law_7 : decode cL_law 7 = .ok (.astore_n 1, 1) := by decide +kernel
theorem dL_law_8 : decode cL_law 8 = .ok (.new 10, 3) := by decide +kernel
theorem dL_law_11 : decode cL_law 11 = .ok (.dup, 1) := by decide +kernel
theorem dL_law_12 : decode cL_law 12 = .ok (.invokespecial 12, 3) := by decide +kernel
theorem dL_law_15 : decode cL_law 15 = .ok (.astore_n 2, 1) := by decide +kernel
theorem dL_law_16 : decode cL_law 16 = .ok (.iconst 0, 1) := by decide +kernel
theorem dL_law_17 : decode cL_law 17 = .ok (.istore_n 3, 1) := by decide +kernel
theorem dL_law_18 : decode cL_law 18 = .ok (.iload_n 3, 1) := by decide +kernel
theorem dL_law_19 : decode cL_law 19 = .ok (.aload_n 0, 1) := by decide +kernel
theorem dL_law_20 : decode cL_law 20 = .ok (.arraylength, 1) := by decide +kernel
theorem dL_law_21 : decode cL_law 21 = .ok (.iconst 5, 1) := by decide +kernel
theorem dL_law_22 : decode cL_law 22 = .ok (.isub, 1) := by decide +kernel
theorem dL_law_23 : decode cL_law 23 = .ok (.if_icmp .gt 667, 3) := by decide +kernel
theorem dL_law_26 : decode cL_law 26 = .ok (.aload_n 0, 1) := by decide +kernel
theorem dL_law_27 : decode cL_law 27 = .ok (.iload_n 3, 1) := by decide +kernel
theorem dL_law_28 : decode cL_law 28 = .ok (.iaload, 1) := by decide +kernel
theorem dL_law_29 : decode cL_law 29 = .ok (.bipush 31, 2) := by decide +kernel
theorem dL_law_31 : decode cL_law 31 = .ok (.iand, 1) := by decide +kernel
theorem dL_law_32 : decode cL_law 32 = .ok (.tableswitch 652 0 17 #[88, 131, 174, 207, 240, 253, 276, 309, 362, 405, 428, 441, 474, 507, 550, 583, 606, 629], 88) := by decide +kernel
theorem dL_law_120 : decode cL_law 120 = .ok (.aload_n 1, 1) := by decide +kernel
theorem dL_law_121 : decode cL_law 121 = .ok (.aload_n 0, 1) := by decide +kernel
theorem dL_law_122 : decode cL_law 122 = .ok (.iload_n 3, 1) := by decide +kernel
theorem dL_law_123 : decode cL_law 123 = .ok (.iconst 1, 1) := by decide +kernel
theorem dL_law_124 : decode cL_law 124 = .ok (.iadd, 1) := by decide +kernel
theorem dL_law_125 : decode cL_law 125 = .ok (.iaload, 1) := by decide +kernel
theorem dL_law_126 : decode cL_law 126 = .ok (.aload_n 0, 1) := by decide +kernel
theorem dL_law_127 : decode cL_law 127 = .ok (.iload_n 3, 1) := by decide +kernel
theorem dL_law_128 : decode cL_law 128 = .ok (.iconst 2, 1) := by decide +kernel
theorem dL_law_129 : decode cL_law 129 = .ok (.iadd, 1) := by decide +kernel
theorem dL_law_130 : decode cL_law 130 = .ok (.iaload, 1) := by decide +kernel
theorem dL_law_131 : decode cL_law 131 = .ok (.aload_n 0, 1) := by decide +kernel
theorem dL_law_132 : decode cL_law 132 = .ok (.iload_n 3, 1) := by decide +kernel
theorem dL_law_133 : decode cL_law 133 = .ok (.iconst 3, 1) := by decide +kernel
theorem dL_law_134 : decode cL_law 134 = .ok (.iadd, 1) := by decide +kernel
theorem dL_law_135 : decode cL_law 135 = .ok (.iaload, 1) := by decide +kernel
theorem dL_law_136 : decode cL_law 136 = .ok (.invokevirtual 13, 3) := by decide +kernel
theorem dL_law_139 : decode cL_law 139 = .ok (.aload_n 2, 1) := by decide +kernel
theorem dL_law_140 : decode cL_law 140 = .ok (.aload_n 0, 1) := by decide +kernel
theorem dL_law_141 : decode cL_law 141 = .ok (.iload_n 3, 1) := by decide +kernel
theorem dL_law_142 : decode cL_law 142 = .ok (.iconst 1, 1) := by decide +kernel
theorem dL_law_143 : decode cL_law 143 = .ok (.iadd, 1) := by decide +kernel
theorem dL_law_144 : decode cL_law 144 = .ok (.iaload, 1) := by decide +kernel
theorem dL_law_145 : decode cL_law 145 = .ok (.aload_n 0, 1) := by decide +kernel
theorem dL_law_146 : decode cL_law 146 = .ok (.iload_n 3, 1) := by decide +kernel
theorem dL_law_147 : decode cL_law 147 = .ok (.iconst 2, 1) := by decide +kernel
theorem dL_law_148 : decode cL_law 148 = .ok (.iadd, 1) := by decide +kernel
theorem dL_law_149 : decode cL_law 149 = .ok (.iaload, 1) := by decide +kernel
theorem dL_law_150 : decode cL_law 150 = .ok (.aload_n 0, 1) := by decide +kernel
theorem dL_law_151 : decode cL_law 151 = .ok (.iload_n 3, 1) := by decide +kernel
theorem dL_law_152 : decode cL_law 152 = .ok (.iconst 3, 1) := by decide +kernel
theorem dL_law_153 : decode cL_law 153 = .ok (.iadd, 1) := by decide +kernel
theorem dL_law_154 : decode cL_law 154 = .ok (.iaload, 1) := by decide +kernel
theorem dL_law_155 : decode cL_law 155 = .ok (.invokevirtual 17, 3) := by decide +kernel
theorem dL_law_158 : decode cL_law 158 = .ok (.if_icmp .eq 526, 3) := by decide +kernel
theorem dL_law_161 : decode cL_law 161 = .ok (.iconst 0, 1) := by decide +kernel
theorem dL_law_162 : decode cL_law 162 = .ok (.ireturn, 1) := by decide +kernel
theorem dL_law_163 : decode cL_law 163 = .ok (.aload_n 1, 1) := by decide +kernel
theorem dL_law_164 : decode cL_law 164 = .ok (.aload_n 0, 1) := by decide +kernel
theorem dL_law_165 : decode cL_law 165 = .ok (.iload_n 3, 1) := by decide +kernel
theorem dL_law_166 : decode cL_law 166 = .ok (.iconst 1, 1) := by decide +kernel
theorem dL_law_167 : decode cL_law 167 = .ok (.iadd, 1) := by decide +kernel
theorem dL_law_168 : decode cL_law 168 = .ok (.iaload, 1) := by decide +kernel
theorem dL_law_169 : decode cL_law 169 = .ok (.aload_n 0, 1) := by decide +kernel
theorem dL_law_170 : decode cL_law 170 = .ok (.iload_n 3, 1) := by decide +kernel
theorem dL_law_171 : decode cL_law 171 = .ok (.iconst 2, 1) := by decide +kernel
theorem dL_law_172 : decode cL_law 172 = .ok (.iadd, 1) := by decide +kernel
theorem dL_law_173 : decode cL_law 173 = .ok (.iaload, 1) := by decide +kernel
theorem dL_law_174 : decode cL_law 174 = .ok (.aload_n 0, 1) := by decide +kernel
theorem dL_law_175 : decode cL_law 175 = .ok (.iload_n 3, 1) := by decide +kernel
theorem dL_law_176 : decode cL_law 176 = .ok (.iconst 3, 1) := by decide +kernel
theorem dL_law_177 : decode cL_law 177 = .ok (.iadd, 1) := by decide +kernel
theorem dL_law_178 : decode cL_law 178 = .ok (.iaload, 1) := by decide +kernel
theorem dL_law_179 : decode cL_law 179 = .ok (.invokevirtual 18, 3) := by decide +kernel
theorem dL_law_182 : decode cL_law 182 = .ok (.aload_n 2, 1) := by decide +kernel
theorem dL_law_183 : decode cL_law 183 = .ok (.aload_n 0, 1) := by decide +kernel
theorem dL_law_184 : decode cL_law 184 = .ok (.iload_n 3, 1) := by decide +kernel
theorem dL_law_185 : decode cL_law 185 = .ok (.iconst 1, 1) := by decide +kernel
theorem dL_law_186 : decode cL_law 186 = .ok (.iadd, 1) := by decide +kernel
theorem dL_law_187 : decode cL_law 187 = .ok (.iaload, 1) := by decide +kernel
theorem dL_law_188 : decode cL_law 188 = .ok (.aload_n 0, 1) := by decide +kernel
theorem dL_law_189 : decode cL_law 189 = .ok (.iload_n 3, 1) := by decide +kernel
theorem dL_law_190 : decode cL_law 190 = .ok (.iconst 2, 1) := by decide +kernel
theorem dL_law_191 : decode cL_law 191 = .ok (.iadd, 1) := by decide +kernel
theorem dL_law_192 : decode cL_law 192 = .ok (.iaload, 1) := by decide +kernel
theorem dL_law_193 : decode cL_law 193 = .ok (.aload_n 0, 1) := by decide +kernel
theorem dL_law_194 : decode cL_law 194 = .ok (.iload_n 3, 1) := by decide +kernel
theorem dL_law_195 : decode cL_law 195 = .ok (.iconst 3, 1) := by decide +kernel
theorem dL_law_196 : decode cL_law 196 = .ok (.iadd, 1) := by decide +kernel
theorem dL_law_197 : decode cL_law 197 = .ok (.iaload, 1) := by decide +kernel
theorem dL_law_198 : decode cL_law 198 = .ok (.invokevirtual 21, 3) := by decide +kernel
theorem dL_law_201 : decode cL_law 201 = .ok (.if_icmp .eq 483, 3) := by decide +kernel
theorem dL_law_204 : decode cL_law 204 = .ok (.iconst 0, 1) := by decide +kernel
theorem dL_law_205 : decode cL_law 205 = .ok (.ireturn, 1) := by decide +kernel
theorem dL_law_206 : decode cL_law 206 = .ok (.aload_n 1, 1) := by decide +kernel
theorem dL_law_207 : decode cL_law 207 = .ok (.aload_n 0, 1) := by decide +kernel
theorem dL_law_208 : decode cL_law 208 = .ok (.iload_n 3, 1) := by decide +kernel
theorem dL_law_209 : decode cL_law 209 = .ok (.iconst 1, 1) := by decide +kernel
theorem dL_law_210 : decode cL_law 210 = .ok (.iadd, 1) := by decide +kernel
theorem dL_law_211 : decode cL_law 211 = .ok (.iaload, 1) := by decide +kernel
theorem dL_law_212 : decode cL_law 212 = .ok (.aload_n 0, 1) := by decide +kernel
theorem dL_law_213 : decode cL_law 213 = .ok (.iload_n 3, 1) := by decide +kernel
theorem dL_law_214 : decode cL_law 214 = .ok (.iconst 2, 1) := by decide +kernel
theorem dL_law_215 : decode cL_law 215 = .ok (.iadd, 1) := by decide +kernel
theorem dL_law_216 : decode cL_law 216 = .ok (.iaload, 1) := by decide +kernel
theorem dL_law_217 : decode cL_law 217 = .ok (.invokevirtual 22, 3) := by decide +kernel
theorem dL_law_220 : decode cL_law 220 = .ok (.aload_n 2, 1) := by decide +kernel
theorem dL_law_221 : decode cL_law 221 = .ok (.aload_n 0, 1) := by decide +kernel
theorem dL_law_222 : decode cL_law 222 = .ok (.iload_n 3, 1) := by decide +kernel
theorem dL_law_223 : decode cL_law 223 = .ok (.iconst 1, 1) := by decide +kernel
theorem dL_law_224 : decode cL_law 224 = .ok (.iadd, 1) := by decide +kernel
theorem dL_law_225 : decode cL_law 225 = .ok (.iaload, 1) := by decide +kernel
theorem dL_law_226 : decode cL_law 226 = .ok (.aload_n 0, 1) := by decide +kernel
theorem dL_law_227 : decode cL_law 227 = .ok (.iload_n 3, 1) := by decide +kernel
theorem dL_law_228 : decode cL_law 228 = .ok (.iconst 2, 1) := by decide +kernel
theorem dL_law_229 : decode cL_law 229 = .ok (.iadd, 1) := by decide +kernel
theorem dL_law_230 : decode cL_law 230 = .ok (.iaload, 1) := by decide +kernel
theorem dL_law_231 : decode cL_law 231 = .ok (.invokevirtual 26, 3) := by decide +kernel
theorem dL_law_234 : decode cL_law 234 = .ok (.if_icmp .eq 450, 3) := by decide +kernel
theorem dL_law_237 : decode cL_law 237 = .ok (.iconst 0, 1) := by decide +kernel
theorem dL_law_238 : decode cL_law 238 = .ok (.ireturn, 1) := by decide +kernel
theorem dL_law_239 : decode cL_law 239 = .ok (.aload_n 1, 1) := by decide +kernel
theorem dL_law_240 : decode cL_law 240 = .ok (.aload_n 0, 1) := by decide +kernel
theorem dL_law_241 : decode cL_law 241 = .ok (.iload_n 3, 1) := by decide +kernel
theorem dL_law_242 : decode cL_law 242 = .ok (.iconst 1, 1) := by decide +kernel
theorem dL_law_243 : decode cL_law 243 = .ok (.iadd, 1) := by decide +kernel
theorem dL_law_244 : decode cL_law 244 = .ok (.iaload, 1) := by decide +kernel
theorem dL_law_245 : decode cL_law 245 = .ok (.aload_n 0, 1) := by decide +kernel
theorem dL_law_246 : decode cL_law 246 = .ok (.iload_n 3, 1) := by decide +kernel
theorem dL_law_247 : decode cL_law 247 = .ok (.iconst 2, 1) := by decide +kernel
theorem dL_law_248 : decode cL_law 248 = .ok (.iadd, 1) := by decide +kernel
theorem dL_law_249 : decode cL_law 249 = .ok (.iaload, 1) := by decide +kernel
theorem dL_law_250 : decode cL_law 250 = .ok (.invokevirtual 27, 3) := by decide +kernel
theorem dL_law_253 : decode cL_law 253 = .ok (.aload_n 2, 1) := by decide +kernel
theorem dL_law_254 : decode cL_law 254 = .ok (.aload_n 0, 1) := by decide +kernel
theorem dL_law_255 : decode cL_law 255 = .ok (.iload_n 3, 1) := by decide +kernel
theorem dL_law_256 : decode cL_law 256 = .ok (.iconst 1, 1) := by decide +kernel
theorem dL_law_257 : decode cL_law 257 = .ok (.iadd, 1) := by decide +kernel
theorem dL_law_258 : decode cL_law 258 = .ok (.iaload, 1) := by decide +kernel
theorem dL_law_259 : decode cL_law 259 = .ok (.aload_n 0, 1) := by decide +kernel
theorem dL_law_260 : decode cL_law 260 = .ok (.iload_n 3, 1) := by decide +kernel
theorem dL_law_261 : decode cL_law 261 = .ok (.iconst 2, 1) := by decide +kernel
theorem dL_law_262 : decode cL_law 262 = .ok (.iadd, 1) := by decide +kernel
theorem dL_law_263 : decode cL_law 263 = .ok (.iaload, 1) := by decide +kernel
theorem dL_law_264 : decode cL_law 264 = .ok (.invokevirtual 30, 3) := by decide +kernel
theorem dL_law_267 : decode cL_law 267 = .ok (.if_icmp .eq 417, 3) := by decide +kernel
theorem dL_law_270 : decode cL_law 270 = .ok (.iconst 0, 1) := by decide +kernel
theorem dL_law_271 : decode cL_law 271 = .ok (.ireturn, 1) := by decide +kernel
theorem dL_law_272 : decode cL_law 272 = .ok (.aload_n 1, 1) := by decide +kernel
theorem dL_law_273 : decode cL_law 273 = .ok (.invokevirtual 31, 3) := by decide +kernel
theorem dL_law_276 : decode cL_law 276 = .ok (.aload_n 2, 1) := by decide +kernel
theorem dL_law_277 : decode cL_law 277 = .ok (.invokevirtual 35, 3) := by decide +kernel
theorem dL_law_280 : decode cL_law 280 = .ok (.if_icmp .eq 404, 3) := by decide +kernel
theorem dL_law_283 : decode cL_law 283 = .ok (.iconst 0, 1) := by decide +kernel
theorem dL_law_284 : decode cL_law 284 = .ok (.ireturn, 1) := by decide +kernel
theorem dL_law_285 : decode cL_law 285 = .ok (.aload_n 1, 1) := by decide +kernel
theorem dL_law_286 : decode cL_law 286 = .ok (.aload_n 0, 1) := by decide +kernel
theorem dL_law_287 : decode cL_law 287 = .ok (.iload_n 3, 1) := by decide +kernel
theorem dL_law_288 : decode cL_law 288 = .ok (.iconst 1, 1) := by decide +kernel
theorem dL_law_289 : decode cL_law 289 = .ok (.iadd, 1) := by decide +kernel
theorem dL_law_290 : decode cL_law 290 = .ok (.iaload, 1) := by decide +kernel
theorem dL_law_291 : decode cL_law 291 = .ok (.invokevirtual 36, 3) := by decide +kernel
theorem dL_law_294 : decode cL_law 294 = .ok (.aload_n 2, 1) := by decide +kernel
theorem dL_law_295 : decode cL_law 295 = .ok (.aload_n 0, 1) := by decide +kernel
theorem dL_law_296 : decode cL_law 296 = .ok (.iload_n 3, 1) := by decide +kernel
theorem dL_law_297 : decode cL_law 297 = .ok (.iconst 1, 1) := by decide +kernel
theorem dL_law_298 : decode cL_law 298 = .ok (.iadd, 1) := by decide +kernel
theorem dL_law_299 : decode cL_law 299 = .ok (.iaload, 1) := by decide +kernel
theorem dL_law_300 : decode cL_law 300 = .ok (.invokevirtual 40, 3) := by decide +kernel
theorem dL_law_303 : decode cL_law 303 = .ok (.if_icmp .eq 381, 3) := by decide +kernel
theorem dL_law_306 : decode cL_law 306 = .ok (.iconst 0, 1) := by decide +kernel
theorem dL_law_307 : decode cL_law 307 = .ok (.ireturn, 1) := by decide +kernel
theorem dL_law_308 : decode cL_law 308 = .ok (.aload_n 1, 1) := by decide +kernel
theorem dL_law_309 : decode cL_law 309 = .ok (.aload_n 0, 1) := by decide +kernel
theorem dL_law_310 : decode cL_law 310 = .ok (.iload_n 3, 1) := by decide +kernel
theorem dL_law_311 : decode cL_law 311 = .ok (.iconst 1, 1) := by decide +kernel
theorem dL_law_312 : decode cL_law 312 = .ok (.iadd, 1) := by decide +kernel
theorem dL_law_313 : decode cL_law 313 = .ok (.iaload, 1) := by decide +kernel
theorem dL_law_314 : decode cL_law 314 = .ok (.aload_n 0, 1) := by decide +kernel
theorem dL_law_315 : decode cL_law 315 = .ok (.iload_n 3, 1) := by decide +kernel
theorem dL_law_316 : decode cL_law 316 = .ok (.iconst 2, 1) := by decide +kernel
theorem dL_law_317 : decode cL_law 317 = .ok (.iadd, 1) := by decide +kernel
theorem dL_law_318 : decode cL_law 318 = .ok (.iaload, 1) := by decide +kernel
theorem dL_law_319 : decode cL_law 319 = .ok (.invokevirtual 41, 3) := by decide +kernel
theorem dL_law_322 : decode cL_law 322 = .ok (.aload_n 2, 1) := by decide +kernel
theorem dL_law_323 : decode cL_law 323 = .ok (.aload_n 0, 1) := by decide +kernel
theorem dL_law_324 : decode cL_law 324 = .ok (.iload_n 3, 1) := by decide +kernel
theorem dL_law_325 : decode cL_law 325 = .ok (.iconst 1, 1) := by decide +kernel
theorem dL_law_326 : decode cL_law 326 = .ok (.iadd, 1) := by decide +kernel
theorem dL_law_327 : decode cL_law 327 = .ok (.iaload, 1) := by decide +kernel
theorem dL_law_328 : decode cL_law 328 = .ok (.aload_n 0, 1) := by decide +kernel
theorem dL_law_329 : decode cL_law 329 = .ok (.iload_n 3, 1) := by decide +kernel
theorem dL_law_330 : decode cL_law 330 = .ok (.iconst 2, 1) := by decide +kernel
theorem dL_law_331 : decode cL_law 331 = .ok (.iadd, 1) := by decide +kernel
theorem dL_law_332 : decode cL_law 332 = .ok (.iaload, 1) := by decide +kernel
theorem dL_law_333 : decode cL_law 333 = .ok (.invokevirtual 44, 3) := by decide +kernel
theorem dL_law_336 : decode cL_law 336 = .ok (.if_icmp .eq 348, 3) := by decide +kernel
theorem dL_law_339 : decode cL_law 339 = .ok (.iconst 0, 1) := by decide +kernel
theorem dL_law_340 : decode cL_law 340 = .ok (.ireturn, 1) := by decide +kernel
theorem dL_law_341 : decode cL_law 341 = .ok (.aload_n 1, 1) := by decide +kernel
theorem dL_law_342 : decode cL_law 342 = .ok (.aload_n 0, 1) := by decide +kernel
theorem dL_law_343 : decode cL_law 343 = .ok (.iload_n 3, 1) := by decide +kernel
theorem dL_law_344 : decode cL_law 344 = .ok (.iconst 1, 1) := by decide +kernel
theorem dL_law_345 : decode cL_law 345 = .ok (.iadd, 1) := by decide +kernel
theorem dL_law_346 : decode cL_law 346 = .ok (.iaload, 1) := by decide +kernel
theorem dL_law_347 : decode cL_law 347 = .ok (.aload_n 0, 1) := by decide +kernel
theorem dL_law_348 : decode cL_law 348 = .ok (.iload_n 3, 1) := by decide +kernel
theorem dL_law_349 : decode cL_law 349 = .ok (.iconst 2, 1) := by decide +kernel
theorem dL_law_350 : decode cL_law 350 = .ok (.iadd, 1) := by decide +kernel
theorem dL_law_351 : decode cL_law 351 = .ok (.iaload, 1) := by decide +kernel
theorem dL_law_352 : decode cL_law 352 = .ok (.aload_n 0, 1) := by decide +kernel
theorem dL_law_353 : decode cL_law 353 = .ok (.iload_n 3, 1) := by decide +kernel
theorem dL_law_354 : decode cL_law 354 = .ok (.iconst 3, 1) := by decide +kernel
theorem dL_law_355 : decode cL_law 355 = .ok (.iadd, 1) := by decide +kernel
theorem dL_law_356 : decode cL_law 356 = .ok (.iaload, 1) := by decide +kernel
theorem dL_law_357 : decode cL_law 357 = .ok (.aload_n 0, 1) := by decide +kernel
theorem dL_law_358 : decode cL_law 358 = .ok (.iload_n 3, 1) := by decide +kernel
theorem dL_law_359 : decode cL_law 359 = .ok (.iconst 4, 1) := by decide +kernel
theorem dL_law_360 : decode cL_law 360 = .ok (.iadd, 1) := by decide +kernel
theorem dL_law_361 : decode cL_law 361 = .ok (.iaload, 1) := by decide +kernel
theorem dL_law_362 : decode cL_law 362 = .ok (.invokevirtual 45, 3) := by decide +kernel
theorem dL_law_365 : decode cL_law 365 = .ok (.aload_n 2, 1) := by decide +kernel
theorem dL_law_366 : decode cL_law 366 = .ok (.aload_n 0, 1) := by decide +kernel
theorem dL_law_367 : decode cL_law 367 = .ok (.iload_n 3, 1) := by decide +kernel
theorem dL_law_368 : decode cL_law 368 = .ok (.iconst 1, 1) := by decide +kernel
theorem dL_law_369 : decode cL_law 369 = .ok (.iadd, 1) := by decide +kernel
theorem dL_law_370 : decode cL_law 370 = .ok (.iaload, 1) := by decide +kernel
theorem dL_law_371 : decode cL_law 371 = .ok (.aload_n 0, 1) := by decide +kernel
theorem dL_law_372 : decode cL_law 372 = .ok (.iload_n 3, 1) := by decide +kernel
theorem dL_law_373 : decode cL_law 373 = .ok (.iconst 2, 1) := by decide +kernel
theorem dL_law_374 : decode cL_law 374 = .ok (.iadd, 1) := by decide +kernel
theorem dL_law_375 : decode cL_law 375 = .ok (.iaload, 1) := by decide +kernel
theorem dL_law_376 : decode cL_law 376 = .ok (.aload_n 0, 1) := by decide +kernel
theorem dL_law_377 : decode cL_law 377 = .ok (.iload_n 3, 1) := by decide +kernel
theorem dL_law_378 : decode cL_law 378 = .ok (.iconst 3, 1) := by decide +kernel
theorem dL_law_379 : decode cL_law 379 = .ok (.iadd, 1) := by decide +kernel
theorem dL_law_380 : decode cL_law 380 = .ok (.iaload, 1) := by decide +kernel
theorem dL_law_381 : decode cL_law 381 = .ok (.aload_n 0, 1) := by decide +kernel
theorem dL_law_382 : decode cL_law 382 = .ok (.iload_n 3, 1) := by decide +kernel
theorem dL_law_383 : decode cL_law 383 = .ok (.iconst 4, 1) := by decide +kernel
theorem dL_law_384 : decode cL_law 384 = .ok (.iadd, 1) := by decide +kernel
theorem dL_law_385 : decode cL_law 385 = .ok (.iaload, 1) := by decide +kernel
theorem dL_law_386 : decode cL_law 386 = .ok (.invokevirtual 49, 3) := by decide +kernel
theorem dL_law_389 : decode cL_law 389 = .ok (.if_icmp .eq 295, 3) := by decide +kernel
theorem dL_law_392 : decode cL_law 392 = .ok (.iconst 0, 1) := by decide +kernel
theorem dL_law_393 : decode cL_law 393 = .ok (.ireturn, 1) := by decide +kernel
theorem dL_law_394 : decode cL_law 394 = .ok (.aload_n 1, 1) := by decide +kernel
theorem dL_law_395 : decode cL_law 395 = .ok (.aload_n 0, 1) := by decide +kernel
theorem dL_law_396 : decode cL_law 396 = .ok (.iload_n 3, 1) := by decide +kernel
theorem dL_law_397 : decode cL_law 397 = .ok (.iconst 1, 1) := by decide +kernel
theorem dL_law_398 : decode cL_law 398 = .ok (.iadd, 1) := by decide +kernel
theorem dL_law_399 : decode cL_law 399 = .ok (.iaload, 1) := by decide +kernel
theorem dL_law_400 : decode cL_law 400 = .ok (.aload_n 0, 1) := by decide +kernel
theorem dL_law_401 : decode cL_law 401 = .ok (.iload_n 3, 1) := by decide +kernel
theorem dL_law_402 : decode cL_law 402 = .ok (.iconst 2, 1) := by decide +kernel
theorem dL_law_403 : decode cL_law 403 = .ok (.iadd, 1) := by decide +kernel
theorem dL_law_404 : decode cL_law 404 = .ok (.iaload, 1) := by decide +kernel
theorem dL_law_405 : decode cL_law 405 = .ok (.aload_n 0, 1) := by decide +kernel
theorem dL_law_406 : decode cL_law 406 = .ok (.iload_n 3, 1) := by decide +kernel
theorem dL_law_407 : decode cL_law 407 = .ok (.iconst 3, 1) := by decide +kernel
theorem dL_law_408 : decode cL_law 408 = .ok (.iadd, 1) := by decide +kernel
theorem dL_law_409 : decode cL_law 409 = .ok (.iaload, 1) := by decide +kernel
theorem dL_law_410 : decode cL_law 410 = .ok (.invokevirtual 50, 3) := by decide +kernel
theorem dL_law_413 : decode cL_law 413 = .ok (.aload_n 2, 1) := by decide +kernel
theorem dL_law_414 : decode cL_law 414 = .ok (.aload_n 0, 1) := by decide +kernel
theorem dL_law_415 : decode cL_law 415 = .ok (.iload_n 3, 1) := by decide +kernel
theorem dL_law_416 : decode cL_law 416 = .ok (.iconst 1, 1) := by decide +kernel
theorem dL_law_417 : decode cL_law 417 = .ok (.iadd, 1) := by decide +kernel
theorem dL_law_418 : decode cL_law 418 = .ok (.iaload, 1) := by decide +kernel
theorem dL_law_419 : decode cL_law 419 = .ok (.aload_n 0, 1) := by decide +kernel
theorem dL_law_420 : decode cL_law 420 = .ok (.iload_n 3, 1) := by decide +kernel
theorem dL_law_421 : decode cL_law 421 = .ok (.iconst 2, 1) := by decide +kernel
theorem dL_law_422 : decode cL_law 422 = .ok (.iadd, 1) := by decide +kernel
theorem dL_law_423 : decode cL_law 423 = .ok (.iaload, 1) := by decide +kernel
theorem dL_law_424 : decode cL_law 424 = .ok (.aload_n 0, 1) := by decide +kernel
theorem dL_law_425 : decode cL_law 425 = .ok (.iload_n 3, 1) := by decide +kernel
theorem dL_law_426 : decode cL_law 426 = .ok (.iconst 3, 1) := by decide +kernel
theorem dL_law_427 : decode cL_law 427 = .ok (.iadd, 1) := by decide +kernel
theorem dL_law_428 : decode cL_law 428 = .ok (.iaload, 1) := by decide +kernel
theorem dL_law_429 : decode cL_law 429 = .ok (.invokevirtual 53, 3) := by decide +kernel
theorem dL_law_432 : decode cL_law 432 = .ok (.if_icmp .eq 252, 3) := by decide +kernel
theorem dL_law_435 : decode cL_law 435 = .ok (.iconst 0, 1) := by decide +kernel
theorem dL_law_436 : decode cL_law 436 = .ok (.ireturn, 1) := by decide +kernel
theorem dL_law_437 : decode cL_law 437 = .ok (.aload_n 1, 1) := by decide +kernel
theorem dL_law_438 : decode cL_law 438 = .ok (.aload_n 0, 1) := by decide +kernel
theorem dL_law_439 : decode cL_law 439 = .ok (.iload_n 3, 1) := by decide +kernel
theorem dL_law_440 : decode cL_law 440 = .ok (.iconst 1, 1) := by decide +kernel
theorem dL_law_441 : decode cL_law 441 = .ok (.iadd, 1) := by decide +kernel
theorem dL_law_442 : decode cL_law 442 = .ok (.iaload, 1) := by decide +kernel
theorem dL_law_443 : decode cL_law 443 = .ok (.invokevirtual 54, 3) := by decide +kernel
theorem dL_law_446 : decode cL_law 446 = .ok (.aload_n 2, 1) := by decide +kernel
theorem dL_law_447 : decode cL_law 447 = .ok (.aload_n 0, 1) := by decide +kernel
theorem dL_law_448 : decode cL_law 448 = .ok (.iload_n 3, 1) := by decide +kernel
theorem dL_law_449 : decode cL_law 449 = .ok (.iconst 1, 1) := by decide +kernel
theorem dL_law_450 : decode cL_law 450 = .ok (.iadd, 1) := by decide +kernel
theorem dL_law_451 : decode cL_law 451 = .ok (.iaload, 1) := by decide +kernel
theorem dL_law_452 : decode cL_law 452 = .ok (.invokevirtual 57, 3) := by decide +kernel
theorem dL_law_455 : decode cL_law 455 = .ok (.if_icmp .eq 229, 3) := by decide +kernel
theorem dL_law_458 : decode cL_law 458 = .ok (.iconst 0, 1) := by decide +kernel
theorem dL_law_459 : decode cL_law 459 = .ok (.ireturn, 1) := by decide +kernel
theorem dL_law_460 : decode cL_law 460 = .ok (.aload_n 1, 1) := by decide +kernel
theorem dL_law_461 : decode cL_law 461 = .ok (.invokevirtual 58, 3) := by decide +kernel
theorem dL_law_464 : decode cL_law 464 = .ok (.aload_n 2, 1) := by decide +kernel
theorem dL_law_465 : decode cL_law 465 = .ok (.invokevirtual 61, 3) := by decide +kernel
theorem dL_law_468 : decode cL_law 468 = .ok (.if_icmp .eq 216, 3) := by decide +kernel
theorem dL_law_471 : decode cL_law 471 = .ok (.iconst 0, 1) := by decide +kernel
theorem dL_law_472 : decode cL_law 472 = .ok (.ireturn, 1) := by decide +kernel
theorem dL_law_473 : decode cL_law 473 = .ok (.aload_n 1, 1) := by decide +kernel
theorem dL_law_474 : decode cL_law 474 = .ok (.aload_n 0, 1) := by decide +kernel
theorem dL_law_475 : decode cL_law 475 = .ok (.iload_n 3, 1) := by decide +kernel
theorem dL_law_476 : decode cL_law 476 = .ok (.iconst 1, 1) := by decide +kernel
theorem dL_law_477 : decode cL_law 477 = .ok (.iadd, 1) := by decide +kernel
theorem dL_law_478 : decode cL_law 478 = .ok (.iaload, 1) := by decide +kernel
theorem dL_law_479 : decode cL_law 479 = .ok (.aload_n 0, 1) := by decide +kernel
theorem dL_law_480 : decode cL_law 480 = .ok (.iload_n 3, 1) := by decide +kernel
theorem dL_law_481 : decode cL_law 481 = .ok (.iconst 2, 1) := by decide +kernel
theorem dL_law_482 : decode cL_law 482 = .ok (.iadd, 1) := by decide +kernel
theorem dL_law_483 : decode cL_law 483 = .ok (.iaload, 1) := by decide +kernel
theorem dL_law_484 : decode cL_law 484 = .ok (.invokevirtual 62, 3) := by decide +kernel
theorem dL_law_487 : decode cL_law 487 = .ok (.aload_n 2, 1) := by decide +kernel
theorem dL_law_488 : decode cL_law 488 = .ok (.aload_n 0, 1) := by decide +kernel
theorem dL_law_489 : decode cL_law 489 = .ok (.iload_n 3, 1) := by decide +kernel
theorem dL_law_490 : decode cL_law 490 = .ok (.iconst 1, 1) := by decide +kernel
theorem dL_law_491 : decode cL_law 491 = .ok (.iadd, 1) := by decide +kernel
theorem dL_law_492 : decode cL_law 492 = .ok (.iaload, 1) := by decide +kernel
theorem dL_law_493 : decode cL_law 493 = .ok (.aload_n 0, 1) := by decide +kernel
theorem dL_law_494 : decode cL_law 494 = .ok (.iload_n 3, 1) := by decide +kernel
theorem dL_law_495 : decode cL_law 495 = .ok (.iconst 2, 1) := by decide +kernel
theorem dL_law_496 : decode cL_law 496 = .ok (.iadd, 1) := by decide +kernel
theorem dL_law_497 : decode cL_law 497 = .ok (.iaload, 1) := by decide +kernel
theorem dL_law_498 : decode cL_law 498 = .ok (.invokevirtual 65, 3) := by decide +kernel
theorem dL_law_501 : decode cL_law 501 = .ok (.if_icmp .eq 183, 3) := by decide +kernel
theorem dL_law_504 : decode cL_law 504 = .ok (.iconst 0, 1) := by decide +kernel
theorem dL_law_505 : decode cL_law 505 = .ok (.ireturn, 1) := by decide +kernel
theorem dL_law_506 : decode cL_law 506 = .ok (.aload_n 1, 1) := by decide +kernel
theorem dL_law_507 : decode cL_law 507 = .ok (.aload_n 0, 1) := by decide +kernel
theorem dL_law_508 : decode cL_law 508 = .ok (.iload_n 3, 1) := by decide +kernel
theorem dL_law_509 : decode cL_law 509 = .ok (.iconst 1, 1) := by decide +kernel
theorem dL_law_510 : decode cL_law 510 = .ok (.iadd, 1) := by decide +kernel
theorem dL_law_511 : decode cL_law 511 = .ok (.iaload, 1) := by decide +kernel
theorem dL_law_512 : decode cL_law 512 = .ok (.aload_n 0, 1) := by decide +kernel
theorem dL_law_513 : decode cL_law 513 = .ok (.iload_n 3, 1) := by decide +kernel
theorem dL_law_514 : decode cL_law 514 = .ok (.iconst 2, 1) := by decide +kernel
theorem dL_law_515 : decode cL_law 515 = .ok (.iadd, 1) := by decide +kernel
theorem dL_law_516 : decode cL_law 516 = .ok (.iaload, 1) := by decide +kernel
theorem dL_law_517 : decode cL_law 517 = .ok (.invokevirtual 66, 3) := by decide +kernel
theorem dL_law_520 : decode cL_law 520 = .ok (.aload_n 2, 1) := by decide +kernel
theorem dL_law_521 : decode cL_law 521 = .ok (.aload_n 0, 1) := by decide +kernel
theorem dL_law_522 : decode cL_law 522 = .ok (.iload_n 3, 1) := by decide +kernel
theorem dL_law_523 : decode cL_law 523 = .ok (.iconst 1, 1) := by decide +kernel
theorem dL_law_524 : decode cL_law 524 = .ok (.iadd, 1) := by decide +kernel
theorem dL_law_525 : decode cL_law 525 = .ok (.iaload, 1) := by decide +kernel
theorem dL_law_526 : decode cL_law 526 = .ok (.aload_n 0, 1) := by decide +kernel
theorem dL_law_527 : decode cL_law 527 = .ok (.iload_n 3, 1) := by decide +kernel
theorem dL_law_528 : decode cL_law 528 = .ok (.iconst 2, 1) := by decide +kernel
theorem dL_law_529 : decode cL_law 529 = .ok (.iadd, 1) := by decide +kernel
theorem dL_law_530 : decode cL_law 530 = .ok (.iaload, 1) := by decide +kernel
theorem dL_law_531 : decode cL_law 531 = .ok (.invokevirtual 69, 3) := by decide +kernel
theorem dL_law_534 : decode cL_law 534 = .ok (.if_icmp .eq 150, 3) := by decide +kernel
theorem dL_law_537 : decode cL_law 537 = .ok (.iconst 0, 1) := by decide +kernel
theorem dL_law_538 : decode cL_law 538 = .ok (.ireturn, 1) := by decide +kernel
theorem dL_law_539 : decode cL_law 539 = .ok (.aload_n 1, 1) := by decide +kernel
theorem dL_law_540 : decode cL_law 540 = .ok (.aload_n 0, 1) := by decide +kernel
theorem dL_law_541 : decode cL_law 541 = .ok (.iload_n 3, 1) := by decide +kernel
theorem dL_law_542 : decode cL_law 542 = .ok (.iconst 1, 1) := by decide +kernel
theorem dL_law_543 : decode cL_law 543 = .ok (.iadd, 1) := by decide +kernel
theorem dL_law_544 : decode cL_law 544 = .ok (.iaload, 1) := by decide +kernel
theorem dL_law_545 : decode cL_law 545 = .ok (.aload_n 0, 1) := by decide +kernel
theorem dL_law_546 : decode cL_law 546 = .ok (.iload_n 3, 1) := by decide +kernel
theorem dL_law_547 : decode cL_law 547 = .ok (.iconst 2, 1) := by decide +kernel
theorem dL_law_548 : decode cL_law 548 = .ok (.iadd, 1) := by decide +kernel
theorem dL_law_549 : decode cL_law 549 = .ok (.iaload, 1) := by decide +kernel
theorem dL_law_550 : decode cL_law 550 = .ok (.aload_n 0, 1) := by decide +kernel
theorem dL_law_551 : decode cL_law 551 = .ok (.iload_n 3, 1) := by decide +kernel
theorem dL_law_552 : decode cL_law 552 = .ok (.iconst 3, 1) := by decide +kernel
theorem dL_law_553 : decode cL_law 553 = .ok (.iadd, 1) := by decide +kernel
theorem dL_law_554 : decode cL_law 554 = .ok (.iaload, 1) := by decide +kernel
theorem dL_law_555 : decode cL_law 555 = .ok (.invokevirtual 70, 3) := by decide +kernel
theorem dL_law_558 : decode cL_law 558 = .ok (.aload_n 2, 1) := by decide +kernel
theorem dL_law_559 : decode cL_law 559 = .ok (.aload_n 0, 1) := by decide +kernel
theorem dL_law_560 : decode cL_law 560 = .ok (.iload_n 3, 1) := by decide +kernel
theorem dL_law_561 : decode cL_law 561 = .ok (.iconst 1, 1) := by decide +kernel
theorem dL_law_562 : decode cL_law 562 = .ok (.iadd, 1) := by decide +kernel
theorem dL_law_563 : decode cL_law 563 = .ok (.iaload, 1) := by decide +kernel
theorem dL_law_564 : decode cL_law 564 = .ok (.aload_n 0, 1) := by decide +kernel
theorem dL_law_565 : decode cL_law 565 = .ok (.iload_n 3, 1) := by decide +kernel
theorem dL_law_566 : decode cL_law 566 = .ok (.iconst 2, 1) := by decide +kernel
theorem dL_law_567 : decode cL_law 567 = .ok (.iadd, 1) := by decide +kernel
theorem dL_law_568 : decode cL_law 568 = .ok (.iaload, 1) := by decide +kernel
theorem dL_law_569 : decode cL_law 569 = .ok (.aload_n 0, 1) := by decide +kernel
theorem dL_law_570 : decode cL_law 570 = .ok (.iload_n 3, 1) := by decide +kernel
theorem dL_law_571 : decode cL_law 571 = .ok (.iconst 3, 1) := by decide +kernel
theorem dL_law_572 : decode cL_law 572 = .ok (.iadd, 1) := by decide +kernel
theorem dL_law_573 : decode cL_law 573 = .ok (.iaload, 1) := by decide +kernel
theorem dL_law_574 : decode cL_law 574 = .ok (.invokevirtual 73, 3) := by decide +kernel
theorem dL_law_577 : decode cL_law 577 = .ok (.if_icmp .eq 107, 3) := by decide +kernel
theorem dL_law_580 : decode cL_law 580 = .ok (.iconst 0, 1) := by decide +kernel
theorem dL_law_581 : decode cL_law 581 = .ok (.ireturn, 1) := by decide +kernel
theorem dL_law_582 : decode cL_law 582 = .ok (.aload_n 1, 1) := by decide +kernel
theorem dL_law_583 : decode cL_law 583 = .ok (.aload_n 0, 1) := by decide +kernel
theorem dL_law_584 : decode cL_law 584 = .ok (.iload_n 3, 1) := by decide +kernel
theorem dL_law_585 : decode cL_law 585 = .ok (.iconst 1, 1) := by decide +kernel
theorem dL_law_586 : decode cL_law 586 = .ok (.iadd, 1) := by decide +kernel
theorem dL_law_587 : decode cL_law 587 = .ok (.iaload, 1) := by decide +kernel
theorem dL_law_588 : decode cL_law 588 = .ok (.aload_n 0, 1) := by decide +kernel
theorem dL_law_589 : decode cL_law 589 = .ok (.iload_n 3, 1) := by decide +kernel
theorem dL_law_590 : decode cL_law 590 = .ok (.iconst 2, 1) := by decide +kernel
theorem dL_law_591 : decode cL_law 591 = .ok (.iadd, 1) := by decide +kernel
theorem dL_law_592 : decode cL_law 592 = .ok (.iaload, 1) := by decide +kernel
theorem dL_law_593 : decode cL_law 593 = .ok (.invokevirtual 74, 3) := by decide +kernel
theorem dL_law_596 : decode cL_law 596 = .ok (.aload_n 2, 1) := by decide +kernel
theorem dL_law_597 : decode cL_law 597 = .ok (.aload_n 0, 1) := by decide +kernel
theorem dL_law_598 : decode cL_law 598 = .ok (.iload_n 3, 1) := by decide +kernel
theorem dL_law_599 : decode cL_law 599 = .ok (.iconst 1, 1) := by decide +kernel
theorem dL_law_600 : decode cL_law 600 = .ok (.iadd, 1) := by decide +kernel
theorem dL_law_601 : decode cL_law 601 = .ok (.iaload, 1) := by decide +kernel
theorem dL_law_602 : decode cL_law 602 = .ok (.aload_n 0, 1) := by decide +kernel
theorem dL_law_603 : decode cL_law 603 = .ok (.iload_n 3, 1) := by decide +kernel
theorem dL_law_604 : decode cL_law 604 = .ok (.iconst 2, 1) := by decide +kernel
theorem dL_law_605 : decode cL_law 605 = .ok (.iadd, 1) := by decide +kernel
theorem dL_law_606 : decode cL_law 606 = .ok (.iaload, 1) := by decide +kernel
theorem dL_law_607 : decode cL_law 607 = .ok (.invokevirtual 77, 3) := by decide +kernel
theorem dL_law_610 : decode cL_law 610 = .ok (.if_icmp .eq 74, 3) := by decide +kernel
theorem dL_law_613 : decode cL_law 613 = .ok (.iconst 0, 1) := by decide +kernel
theorem dL_law_614 : decode cL_law 614 = .ok (.ireturn, 1) := by decide +kernel
theorem dL_law_615 : decode cL_law 615 = .ok (.aload_n 1, 1) := by decide +kernel
theorem dL_law_616 : decode cL_law 616 = .ok (.aload_n 0, 1) := by decide +kernel
theorem dL_law_617 : decode cL_law 617 = .ok (.iload_n 3, 1) := by decide +kernel
theorem dL_law_618 : decode cL_law 618 = .ok (.iconst 1, 1) := by decide +kernel
theorem dL_law_619 : decode cL_law 619 = .ok (.iadd, 1) := by decide +kernel
theorem dL_law_620 : decode cL_law 620 = .ok (.iaload, 1) := by decide +kernel
theorem dL_law_621 : decode cL_law 621 = .ok (.invokevirtual 78, 3) := by decide +kernel
theorem dL_law_624 : decode cL_law 624 = .ok (.aload_n 2, 1) := by decide +kernel
theorem dL_law_625 : decode cL_law 625 = .ok (.aload_n 0, 1) := by decide +kernel
theorem dL_law_626 : decode cL_law 626 = .ok (.iload_n 3, 1) := by decide +kernel
theorem dL_law_627 : decode cL_law 627 = .ok (.iconst 1, 1) := by decide +kernel
theorem dL_law_628 : decode cL_law 628 = .ok (.iadd, 1) := by decide +kernel
theorem dL_law_629 : decode cL_law 629 = .ok (.iaload, 1) := by decide +kernel
theorem dL_law_630 : decode cL_law 630 = .ok (.invokevirtual 81, 3) := by decide +kernel
theorem dL_law_633 : decode cL_law 633 = .ok (.if_icmp .eq 51, 3) := by decide +kernel
theorem dL_law_636 : decode cL_law 636 = .ok (.iconst 0, 1) := by decide +kernel
theorem dL_law_637 : decode cL_law 637 = .ok (.ireturn, 1) := by decide +kernel
theorem dL_law_638 : decode cL_law 638 = .ok (.aload_n 1, 1) := by decide +kernel
theorem dL_law_639 : decode cL_law 639 = .ok (.aload_n 0, 1) := by decide +kernel
theorem dL_law_640 : decode cL_law 640 = .ok (.iload_n 3, 1) := by decide +kernel
theorem dL_law_641 : decode cL_law 641 = .ok (.iconst 1, 1) := by decide +kernel
theorem dL_law_642 : decode cL_law 642 = .ok (.iadd, 1) := by decide +kernel
theorem dL_law_643 : decode cL_law 643 = .ok (.iaload, 1) := by decide +kernel
theorem dL_law_644 : decode cL_law 644 = .ok (.invokevirtual 82, 3) := by decide +kernel
theorem dL_law_647 : decode cL_law 647 = .ok (.aload_n 2, 1) := by decide +kernel
theorem dL_law_648 : decode cL_law 648 = .ok (.aload_n 0, 1) := by decide +kernel
theorem dL_law_649 : decode cL_law 649 = .ok (.iload_n 3, 1) := by decide +kernel
theorem dL_law_650 : decode cL_law 650 = .ok (.iconst 1, 1) := by decide +kernel
theorem dL_law_651 : decode cL_law 651 = .ok (.iadd, 1) := by decide +kernel
theorem dL_law_652 : decode cL_law 652 = .ok (.iaload, 1) := by decide +kernel
theorem dL_law_653 : decode cL_law 653 = .ok (.invokevirtual 85, 3) := by decide +kernel
theorem dL_law_656 : decode cL_law 656 = .ok (.if_icmp .eq 28, 3) := by decide +kernel
theorem dL_law_659 : decode cL_law 659 = .ok (.iconst 0, 1) := by decide +kernel
theorem dL_law_660 : decode cL_law 660 = .ok (.ireturn, 1) := by decide +kernel
theorem dL_law_661 : decode cL_law 661 = .ok (.aload_n 1, 1) := by decide +kernel
theorem dL_law_662 : decode cL_law 662 = .ok (.aload_n 0, 1) := by decide +kernel
theorem dL_law_663 : decode cL_law 663 = .ok (.iload_n 3, 1) := by decide +kernel
theorem dL_law_664 : decode cL_law 664 = .ok (.iconst 1, 1) := by decide +kernel
theorem dL_law_665 : decode cL_law 665 = .ok (.iadd, 1) := by decide +kernel
theorem dL_law_666 : decode cL_law 666 = .ok (.iaload, 1) := by decide +kernel
theorem dL_law_667 : decode cL_law 667 = .ok (.invokevirtual 86, 3) := by decide +kernel
theorem dL_law_670 : decode cL_law 670 = .ok (.aload_n 2, 1) := by decide +kernel
theorem dL_law_671 : decode cL_law 671 = .ok (.aload_n 0, 1) := by decide +kernel
theorem dL_law_672 : decode cL_law 672 = .ok (.iload_n 3, 1) := by decide +kernel
theorem dL_law_673 : decode cL_law 673 = .ok (.iconst 1, 1) := by decide +kernel
theorem dL_law_674 : decode cL_law 674 = .ok (.iadd, 1) := by decide +kernel
theorem dL_law_675 : decode cL_law 675 = .ok (.iaload, 1) := by decide +kernel
theorem dL_law_676 : decode cL_law 676 = .ok (.invokevirtual 89, 3) := by decide +kernel
theorem dL_law_679 : decode cL_law 679 = .ok (.if_icmp .eq 5, 3) := by decide +kernel
theorem dL_law_682 : decode cL_law 682 = .ok (.iconst 0, 1) := by decide +kernel
theorem dL_law_683 : decode cL_law 683 = .ok (.ireturn, 1) := by decide +kernel
theorem dL_law_684 : decode cL_law 684 = .ok (.iinc 3 5, 3) := by decide +kernel
theorem dL_law_687 : decode cL_law 687 = .ok (.goto (-669), 3) := by decide +kernel
theorem dL_law_690 : decode cL_law 690 = .ok (.iconst 1, 1) := by decide +kernel
theorem dL_law_691 : decode cL_law 691 = .ok (.ireturn, 1) := by decide +kernel
end
