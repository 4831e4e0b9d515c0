/-! names: the classes, their fields, the methods; the good words of the tables -/
def R_P : String := "ProvenanceRows"
def F_P : u_T := fun k => match k with
  | 0 => ("ProvenanceRows", "sources", "LProvenanceRows$Sources;", true)
  | 1 => ("ProvenanceRows", "artefacts", "LProvenanceRows$Artefacts;", true)
  | 2 => ("ProvenanceRows", "rules", "LProvenanceRows$Policy;", true)
  | 3 => ("ProvenanceRows", "latestClosure", "LProvenanceRows$Closure;", true)
  | 4 => ("ProvenanceRows", "walkedClosure", "LProvenanceRows$Closure;", true)
  | 5 => ("ProvenanceRows", "countedClosure", "LProvenanceRows$Closure;", true)
  | _ => ("ProvenanceRows", "latestCulprit", "I", false)
def t_P : Nat → FieldType := fun k => match k with
  | 0 => .object "ProvenanceRows$Sources"
  | 1 => .object "ProvenanceRows$Artefacts"
  | 2 => .object "ProvenanceRows$Policy"
  | 3 => .object "ProvenanceRows$Closure"
  | 4 => .object "ProvenanceRows$Closure"
  | 5 => .object "ProvenanceRows$Closure"
  | _ => .int
theorem n_P : ∀ a, a < 7 → ∀ b, b < 7 → a ≠ b → (F_P a).2.1 ≠ (F_P b).2.1 := by decide +kernel
theorem t_P_ok : ∀ k, k < 7 → parseFieldDescriptor (F_P k).2.2.1 = some (t_P k) := by decide +kernel
def R_S : String := "ProvenanceRows$Sources"
def F_S : u_T := fun k => match k with
  | 0 => ("ProvenanceRows$Sources", "count", "I", false)
  | 1 => ("ProvenanceRows$Sources", "digests", "[J", true)
  | 2 => ("ProvenanceRows$Sources", "branches", "[I", true)
  | 3 => ("ProvenanceRows$Sources", "reviews", "[I", true)
  | _ => ("ProvenanceRows$Sources", "fetchedUntold", "[Z", true)
def t_S : Nat → FieldType := fun k => match k with
  | 0 => .int
  | 1 => .array .long
  | 2 => .array .int
  | 3 => .array .int
  | _ => .array .boolean
theorem n_S : ∀ a, a < 5 → ∀ b, b < 5 → a ≠ b → (F_S a).2.1 ≠ (F_S b).2.1 := by decide +kernel
theorem t_S_ok : ∀ k, k < 5 → parseFieldDescriptor (F_S k).2.2.1 = some (t_S k) := by decide +kernel
def R_A : String := "ProvenanceRows$Artefacts"
def F_A : u_T := fun k => match k with
  | 0 => ("ProvenanceRows$Artefacts", "count", "I", false)
  | 1 => ("ProvenanceRows$Artefacts", "digests", "[J", true)
  | 2 => ("ProvenanceRows$Artefacts", "builders", "[I", true)
  | 3 => ("ProvenanceRows$Artefacts", "tools", "[I", true)
  | 4 => ("ProvenanceRows$Artefacts", "authors", "[I", true)
  | 5 => ("ProvenanceRows$Artefacts", "times", "[I", true)
  | 6 => ("ProvenanceRows$Artefacts", "used", "LProvenanceRows$Rows;", true)
  | 7 => ("ProvenanceRows$Artefacts", "needed", "LProvenanceRows$Rows;", true)
  | 8 => ("ProvenanceRows$Artefacts", "metBy", "[I", true)
  | 9 => ("ProvenanceRows$Artefacts", "pathBits", "[I", true)
  | _ => ("ProvenanceRows$Artefacts", "pathDigests", "[J", true)
def t_A : Nat → FieldType := fun k => match k with
  | 0 => .int
  | 1 => .array .long
  | 2 => .array .int
  | 3 => .array .int
  | 4 => .array .int
  | 5 => .array .int
  | 6 => .object "ProvenanceRows$Rows"
  | 7 => .object "ProvenanceRows$Rows"
  | 8 => .array .int
  | 9 => .array .int
  | _ => .array .long
theorem n_A : ∀ a, a < 11 → ∀ b, b < 11 → a ≠ b → (F_A a).2.1 ≠ (F_A b).2.1 := by decide +kernel
theorem t_A_ok : ∀ k, k < 11 → parseFieldDescriptor (F_A k).2.2.1 = some (t_A k) := by decide +kernel
def R_W : String := "ProvenanceRows$Rows"
def F_W : u_T := fun k => match k with
  | 0 => ("ProvenanceRows$Rows", "counts", "[I", true)
  | _ => ("ProvenanceRows$Rows", "values", "[J", true)
def t_W : Nat → FieldType := fun k => match k with
  | 0 => .array .int
  | _ => .array .long
theorem n_W : ∀ a, a < 2 → ∀ b, b < 2 → a ≠ b → (F_W a).2.1 ≠ (F_W b).2.1 := by decide +kernel
theorem t_W_ok : ∀ k, k < 2 → parseFieldDescriptor (F_W k).2.2.1 = some (t_W k) := by decide +kernel
def R_Y : String := "ProvenanceRows$Policy"
def F_Y : u_T := fun k => match k with
  | 0 => ("ProvenanceRows$Policy", "count", "I", false)
  | 1 => ("ProvenanceRows$Policy", "kinds", "[I", true)
  | _ => ("ProvenanceRows$Policy", "values", "[I", true)
def t_Y : Nat → FieldType := fun k => match k with
  | 0 => .int
  | 1 => .array .int
  | _ => .array .int
theorem n_Y : ∀ a, a < 3 → ∀ b, b < 3 → a ≠ b → (F_Y a).2.1 ≠ (F_Y b).2.1 := by decide +kernel
theorem t_Y_ok : ∀ k, k < 3 → parseFieldDescriptor (F_Y k).2.2.1 = some (t_Y k) := by decide +kernel
def R_Q : String := "ProvenanceRows$Closure"
def F_Q : u_T := fun k => match k with
  | 0 => ("ProvenanceRows$Closure", "count", "I", false)
  | 1 => ("ProvenanceRows$Closure", "order", "[I", true)
  | _ => ("ProvenanceRows$Closure", "reached", "I", false)
def t_Q : Nat → FieldType := fun k => match k with
  | 0 => .int
  | 1 => .array .int
  | _ => .int
theorem n_Q : ∀ a, a < 3 → ∀ b, b < 3 → a ≠ b → (F_Q a).2.1 ≠ (F_Q b).2.1 := by decide +kernel
theorem t_Q_ok : ∀ k, k < 3 → parseFieldDescriptor (F_Q k).2.2.1 = some (t_Q k) := by decide +kernel
def R_M : String := "ProvenanceRowsModel"
def F_M : u_T := fun k => match k with
  | 0 => ("ProvenanceRowsModel", "sources", "I", false)
  | 1 => ("ProvenanceRowsModel", "artefacts", "I", false)
  | 2 => ("ProvenanceRowsModel", "rules", "I", false)
  | 3 => ("ProvenanceRowsModel", "sourceDigest", "[J", true)
  | 4 => ("ProvenanceRowsModel", "branch", "[I", true)
  | 5 => ("ProvenanceRowsModel", "reviews", "[I", true)
  | 6 => ("ProvenanceRowsModel", "untold", "[Z", true)
  | 7 => ("ProvenanceRowsModel", "digest", "[J", true)
  | 8 => ("ProvenanceRowsModel", "need", "[J", true)
  | 9 => ("ProvenanceRowsModel", "content", "[J", true)
  | 10 => ("ProvenanceRowsModel", "builder", "[I", true)
  | 11 => ("ProvenanceRowsModel", "tool", "[I", true)
  | 12 => ("ProvenanceRowsModel", "author", "[I", true)
  | 13 => ("ProvenanceRowsModel", "time", "[I", true)
  | 14 => ("ProvenanceRowsModel", "uses", "[I", true)
  | 15 => ("ProvenanceRowsModel", "use", "[I", true)
  | 16 => ("ProvenanceRowsModel", "wants", "[I", true)
  | 17 => ("ProvenanceRowsModel", "paths", "[I", true)
  | 18 => ("ProvenanceRowsModel", "kind", "[I", true)
  | 19 => ("ProvenanceRowsModel", "value", "[I", true)
  | 20 => ("ProvenanceRowsModel", "culprit", "I", false)
  | 21 => ("ProvenanceRowsModel", "reached", "I", false)
  | 22 => ("ProvenanceRowsModel", "judged", "I", false)
  | 23 => ("ProvenanceRowsModel", "kept", "I", false)
  | 24 => ("ProvenanceRowsModel", "reach", "[I", true)
  | 25 => ("ProvenanceRowsModel", "judge", "[I", true)
  | _ => ("ProvenanceRowsModel", "keep", "[I", true)
def t_M : Nat → FieldType := fun k => match k with
  | 0 => .int
  | 1 => .int
  | 2 => .int
  | 3 => .array .long
  | 4 => .array .int
  | 5 => .array .int
  | 6 => .array .boolean
  | 7 => .array .long
  | 8 => .array .long
  | 9 => .array .long
  | 10 => .array .int
  | 11 => .array .int
  | 12 => .array .int
  | 13 => .array .int
  | 14 => .array .int
  | 15 => .array .int
  | 16 => .array .int
  | 17 => .array .int
  | 18 => .array .int
  | 19 => .array .int
  | 20 => .int
  | 21 => .int
  | 22 => .int
  | 23 => .int
  | 24 => .array .int
  | 25 => .array .int
  | _ => .array .int
theorem n_M : ∀ a, a < 27 → ∀ b, b < 27 → a ≠ b → (F_M a).2.1 ≠ (F_M b).2.1 := by decide +kernel
theorem t_M_ok : ∀ k, k < 27 → parseFieldDescriptor (F_M k).2.2.1 = some (t_M k) := by decide +kernel
def R_L : String := "ProvenanceRowsLaw"
def R_Ig : String := "java/lang/Integer"
abbrev b_P_isUpTo : ByteArray := prog_1_method_19_code
def y_P_isUpTo : MethodName := ⟨R_P, "isUpTo", "(II)Z"⟩
abbrev b_S_add : ByteArray := prog_6_method_3_code
def y_S_add : MethodName := ⟨R_S, "add", "(JII)I"⟩
abbrev b_P_source : ByteArray := prog_1_method_2_code
def y_P_source : MethodName := ⟨R_P, "source", "(JII)I"⟩
abbrev b_S_has : ByteArray := prog_6_method_2_code
def y_S_has : MethodName := ⟨R_S, "has", "(I)Z"⟩
abbrev b_P_fetched : ByteArray := prog_1_method_3_code
def y_P_fetched : MethodName := ⟨R_P, "fetched", "(IZ)Z"⟩
abbrev b_W_valueAt : ByteArray := prog_5_method_2_code
def y_W_valueAt : MethodName := ⟨R_W, "valueAt", "(II)J"⟩
abbrev b_A_metByAt : ByteArray := prog_2_method_7_code
def y_A_metByAt : MethodName := ⟨R_A, "metByAt", "(II)I"⟩
abbrev b_A_meetMissing : ByteArray := prog_2_method_4_code
def y_A_meetMissing : MethodName := ⟨R_A, "meetMissing", "(I)V"⟩
abbrev b_A_add : ByteArray := prog_2_method_3_code
def y_A_add : MethodName := ⟨R_A, "add", "(JIIII)I"⟩
abbrev b_P_artefact : ByteArray := prog_1_method_4_code
def y_P_artefact : MethodName := ⟨R_P, "artefact", "(JIIII)I"⟩
abbrev b_A_has : ByteArray := prog_2_method_2_code
def y_A_has : MethodName := ⟨R_A, "has", "(I)Z"⟩
abbrev b_W_contains : ByteArray := prog_5_method_4_code
def y_W_contains : MethodName := ⟨R_W, "contains", "(IJ)Z"⟩
abbrev b_W_append : ByteArray := prog_5_method_3_code
def y_W_append : MethodName := ⟨R_W, "append", "(IJ)Z"⟩
abbrev b_P_uses : ByteArray := prog_1_method_5_code
def y_P_uses : MethodName := ⟨R_P, "uses", "(II)Z"⟩
abbrev b_A_firstOf : ByteArray := prog_2_method_6_code
def y_A_firstOf : MethodName := ⟨R_A, "firstOf", "(J)I"⟩
abbrev b_A_addNeeded : ByteArray := prog_2_method_5_code
def y_A_addNeeded : MethodName := ⟨R_A, "addNeeded", "(IJ)Z"⟩
abbrev b_P_needs : ByteArray := prog_1_method_6_code
def y_P_needs : MethodName := ⟨R_P, "needs", "(IJ)Z"⟩
abbrev b_A_setPath : ByteArray := prog_2_method_14_code
def y_A_setPath : MethodName := ⟨R_A, "setPath", "(IIJ)V"⟩
abbrev b_P_path : ByteArray := prog_1_method_7_code
def y_P_path : MethodName := ⟨R_P, "path", "(IIJ)Z"⟩
abbrev b_Y_add : ByteArray := prog_4_method_3_code
def y_Y_add : MethodName := ⟨R_Y, "add", "(II)I"⟩
abbrev b_P_policy : ByteArray := prog_1_method_8_code
def y_P_policy : MethodName := ⟨R_P, "policy", "(II)I"⟩
abbrev b_P_hasBit : ByteArray := prog_1_method_20_code
def y_P_hasBit : MethodName := ⟨R_P, "hasBit", "(II)Z"⟩
abbrev b_Q_reach : ByteArray := prog_3_method_3_code
def y_Q_reach : MethodName := ⟨R_Q, "reach", "(I)V"⟩
abbrev b_Q_walk : ByteArray := prog_3_method_2_code
def y_Q_walk : MethodName := ⟨R_Q, "walk", "(LProvenanceRows$Artefacts;I)V"⟩
abbrev b_A_usedAt : ByteArray := prog_2_method_8_code
def y_A_usedAt : MethodName := ⟨R_A, "usedAt", "(II)I"⟩
abbrev b_P_usesBranchOutside : ByteArray := prog_1_method_24_code
def y_P_usesBranchOutside : MethodName := ⟨R_P, "usesBranchOutside", "(II)Z"⟩
abbrev b_Ig_bitCount : ByteArray := prog_9_method_49_code
def y_Ig_bitCount : MethodName := ⟨R_Ig, "bitCount", "(I)I"⟩
abbrev b_P_usesReviewedBelow : ByteArray := prog_1_method_25_code
def y_P_usesReviewedBelow : MethodName := ⟨R_P, "usesReviewedBelow", "(II)Z"⟩
abbrev b_P_usesFetchedUntold : ByteArray := prog_1_method_26_code
def y_P_usesFetchedUntold : MethodName := ⟨R_P, "usesFetchedUntold", "(I)Z"⟩
abbrev b_A_missingPlace : ByteArray := prog_2_method_9_code
def y_A_missingPlace : MethodName := ⟨R_A, "missingPlace", "(II)I"⟩
abbrev b_A_needsLaterBy : ByteArray := prog_2_method_10_code
def y_A_needsLaterBy : MethodName := ⟨R_A, "needsLaterBy", "(II)Z"⟩
abbrev b_W_sameInOrder : ByteArray := prog_5_method_5_code
def y_W_sameInOrder : MethodName := ⟨R_W, "sameInOrder", "(II)Z"⟩
abbrev b_A_clashing : ByteArray := prog_2_method_13_code
def y_A_clashing : MethodName := ⟨R_A, "clashing", "(II)Z"⟩
abbrev b_A_clashesWithAny : ByteArray := prog_2_method_12_code
def y_A_clashesWithAny : MethodName := ⟨R_A, "clashesWithAny", "(I)Z"⟩
abbrev b_A_restsOnNothing : ByteArray := prog_2_method_11_code
def y_A_restsOnNothing : MethodName := ⟨R_A, "restsOnNothing", "(I)Z"⟩
abbrev b_P_isBroken : ByteArray := prog_1_method_23_code
def y_P_isBroken : MethodName := ⟨R_P, "isBroken", "(II)Z"⟩
abbrev b_P_firstBrokenBy : ByteArray := prog_1_method_22_code
def y_P_firstBrokenBy : MethodName := ⟨R_P, "firstBrokenBy", "(I)I"⟩
abbrev b_P_verdict : ByteArray := prog_1_method_9_code
def y_P_verdict : MethodName := ⟨R_P, "verdict", "(I)I"⟩
abbrev b_P_culprit : ByteArray := prog_1_method_10_code
def y_P_culprit : MethodName := ⟨R_P, "culprit", "()I"⟩
abbrev b_Y_has : ByteArray := prog_4_method_2_code
def y_Y_has : MethodName := ⟨R_Y, "has", "(I)Z"⟩
abbrev b_P_breaks : ByteArray := prog_1_method_11_code
def y_P_breaks : MethodName := ⟨R_P, "breaks", "(II)Z"⟩
abbrev b_P_closure : ByteArray := prog_1_method_12_code
def y_P_closure : MethodName := ⟨R_P, "closure", "(I)I"⟩
abbrev b_P_at : ByteArray := prog_1_method_13_code
def y_P_at : MethodName := ⟨R_P, "at", "(I)I"⟩
abbrev b_P_usesDigest : ByteArray := prog_1_method_28_code
def y_P_usesDigest : MethodName := ⟨R_P, "usesDigest", "(IJ)Z"⟩
abbrev b_P_restsOn : ByteArray := prog_1_method_27_code
def y_P_restsOn : MethodName := ⟨R_P, "restsOn", "(IJ)Z"⟩
abbrev b_P_holds : ByteArray := prog_1_method_14_code
def y_P_holds : MethodName := ⟨R_P, "holds", "(JI)I"⟩
abbrev b_P_missing : ByteArray := prog_1_method_15_code
def y_P_missing : MethodName := ⟨R_P, "missing", "(II)I"⟩
abbrev b_A_differAtPath : ByteArray := prog_2_method_15_code
def y_A_differAtPath : MethodName := ⟨R_A, "differAtPath", "(III)Z"⟩
abbrev b_P_bitIf : ByteArray := prog_1_method_21_code
def y_P_bitIf : MethodName := ⟨R_P, "bitIf", "(ZI)I"⟩
abbrev b_P_rebuilt : ByteArray := prog_1_method_16_code
def y_P_rebuilt : MethodName := ⟨R_P, "rebuilt", "(II)I"⟩
abbrev b_W_sameAsSets : ByteArray := prog_5_method_6_code
def y_W_sameAsSets : MethodName := ⟨R_W, "sameAsSets", "(II)Z"⟩
abbrev b_P_differ : ByteArray := prog_1_method_17_code
def y_P_differ : MethodName := ⟨R_P, "differ", "(II)I"⟩
abbrev b_P_clash : ByteArray := prog_1_method_18_code
def y_P_clash : MethodName := ⟨R_P, "clash", "(II)I"⟩
abbrev b_M_within : ByteArray := prog_8_method_5_code
def y_M_within : MethodName := ⟨R_M, "within", "(III)Z"⟩
abbrev b_M_source : ByteArray := prog_8_method_6_code
def y_M_source : MethodName := ⟨R_M, "source", "(JII)I"⟩
abbrev b_M_isSource : ByteArray := prog_8_method_4_code
def y_M_isSource : MethodName := ⟨R_M, "isSource", "(I)Z"⟩
abbrev b_M_fetched : ByteArray := prog_8_method_7_code
def y_M_fetched : MethodName := ⟨R_M, "fetched", "(IZ)Z"⟩
abbrev b_M_artefact : ByteArray := prog_8_method_8_code
def y_M_artefact : MethodName := ⟨R_M, "artefact", "(JIIII)I"⟩
abbrev b_M_isArtefact : ByteArray := prog_8_method_3_code
def y_M_isArtefact : MethodName := ⟨R_M, "isArtefact", "(I)Z"⟩
abbrev b_M_hasUse : ByteArray := prog_8_method_9_code
def y_M_hasUse : MethodName := ⟨R_M, "hasUse", "(II)Z"⟩
abbrev b_M_uses : ByteArray := prog_8_method_10_code
def y_M_uses : MethodName := ⟨R_M, "uses", "(II)Z"⟩
abbrev b_M_hasNeed : ByteArray := prog_8_method_11_code
def y_M_hasNeed : MethodName := ⟨R_M, "hasNeed", "(IJ)Z"⟩
abbrev b_M_needs : ByteArray := prog_8_method_12_code
def y_M_needs : MethodName := ⟨R_M, "needs", "(IJ)Z"⟩
abbrev b_M_path : ByteArray := prog_8_method_13_code
def y_M_path : MethodName := ⟨R_M, "path", "(IIJ)Z"⟩
abbrev b_M_policy : ByteArray := prog_8_method_14_code
def y_M_policy : MethodName := ⟨R_M, "policy", "(II)I"⟩
abbrev b_M_come : ByteArray := prog_8_method_16_code
def y_M_come : MethodName := ⟨R_M, "come", "(I)V"⟩
abbrev b_M_meets : ByteArray := prog_8_method_15_code
def y_M_meets : MethodName := ⟨R_M, "meets", "(J)I"⟩
abbrev b_M_goAlong : ByteArray := prog_8_method_17_code
def y_M_goAlong : MethodName := ⟨R_M, "goAlong", "(I)V"⟩
abbrev b_M_closure : ByteArray := prog_8_method_18_code
def y_M_closure : MethodName := ⟨R_M, "closure", "(I)I"⟩
abbrev b_M_at : ByteArray := prog_8_method_19_code
def y_M_at : MethodName := ⟨R_M, "at", "(I)I"⟩
abbrev b_M_holds : ByteArray := prog_8_method_20_code
def y_M_holds : MethodName := ⟨R_M, "holds", "(JI)I"⟩
abbrev b_M_missing : ByteArray := prog_8_method_21_code
def y_M_missing : MethodName := ⟨R_M, "missing", "(II)I"⟩
abbrev b_M_others : ByteArray := prog_8_method_22_code
def y_M_others : MethodName := ⟨R_M, "others", "(II)I"⟩
abbrev b_M_sourceBreaks : ByteArray := prog_8_method_23_code
def y_M_sourceBreaks : MethodName := ⟨R_M, "sourceBreaks", "(III)Z"⟩
abbrev b_M_isLate : ByteArray := prog_8_method_24_code
def y_M_isLate : MethodName := ⟨R_M, "isLate", "(II)Z"⟩
abbrev b_M_agree : ByteArray := prog_8_method_25_code
def y_M_agree : MethodName := ⟨R_M, "agree", "(II)Z"⟩
abbrev b_M_isClash : ByteArray := prog_8_method_26_code
def y_M_isClash : MethodName := ⟨R_M, "isClash", "(II)Z"⟩
abbrev b_M_isBroken : ByteArray := prog_8_method_27_code
def y_M_isBroken : MethodName := ⟨R_M, "isBroken", "(II)Z"⟩
abbrev b_M_breaks : ByteArray := prog_8_method_28_code
def y_M_breaks : MethodName := ⟨R_M, "breaks", "(II)Z"⟩
abbrev b_M_verdict : ByteArray := prog_8_method_29_code
def y_M_verdict : MethodName := ⟨R_M, "verdict", "(I)I"⟩
abbrev b_M_culprit : ByteArray := prog_8_method_30_code
def y_M_culprit : MethodName := ⟨R_M, "culprit", "()I"⟩
abbrev b_M_rebuilt : ByteArray := prog_8_method_31_code
def y_M_rebuilt : MethodName := ⟨R_M, "rebuilt", "(II)I"⟩
abbrev b_M_sameSources : ByteArray := prog_8_method_32_code
def y_M_sameSources : MethodName := ⟨R_M, "sameSources", "(II)Z"⟩
abbrev b_M_sameNeeds : ByteArray := prog_8_method_33_code
def y_M_sameNeeds : MethodName := ⟨R_M, "sameNeeds", "(II)Z"⟩
abbrev b_M_differ : ByteArray := prog_8_method_34_code
def y_M_differ : MethodName := ⟨R_M, "differ", "(II)I"⟩
abbrev b_M_clash : ByteArray := prog_8_method_35_code
def y_M_clash : MethodName := ⟨R_M, "clash", "(II)I"⟩
abbrev b_S_init : ByteArray := prog_6_method_1_code
def y_S_init : MethodName := ⟨R_S, "<init>", "()V"⟩
abbrev b_W_init : ByteArray := prog_5_method_1_code
def y_W_init : MethodName := ⟨R_W, "<init>", "()V"⟩
abbrev b_A_init : ByteArray := prog_2_method_1_code
def y_A_init : MethodName := ⟨R_A, "<init>", "()V"⟩
abbrev b_Y_init : ByteArray := prog_4_method_1_code
def y_Y_init : MethodName := ⟨R_Y, "<init>", "()V"⟩
abbrev b_Q_init : ByteArray := prog_3_method_1_code
def y_Q_init : MethodName := ⟨R_Q, "<init>", "()V"⟩
abbrev b_P_init : ByteArray := prog_1_method_1_code
def y_P_init : MethodName := ⟨R_P, "<init>", "()V"⟩
abbrev b_M_init : ByteArray := prog_8_method_1_code
def y_M_init : MethodName := ⟨R_M, "<init>", "()V"⟩
def zTT : List Cond := lw_tbl.filter goodWord
theorem zmem {w : Cond} (h : w ∈ lw_tbl) (g : goodWord w = true) : w ∈ zTT := List.mem_filter.mpr ⟨h, g⟩
theorem zTT_good : ∀ w ∈ zTT, goodWord w = true := fun w h => (List.mem_filter.mp h).2
theorem zTT_in : ∀ w ∈ zTT, w ∈ lw_tbl := fun w h => (List.mem_filter.mp h).1
theorem zgC {cd : Cond} (h5 : cd ∈ zTT) : GoodIn zTT (cd :: zTT) := z_good zTT_good (fun w hw => by
  rcases List.mem_cons.mp hw with rfl | hw
  · exact h5
  · exact hw)
theorem zgV {own C : String} {idx : Nat} {y : MethodName} {cd : Cond} (h1 : Cond.methodLink own idx y ∈ zTT) (h2 : Cond.instanceMethod y ∈ zTT) (h3 : Cond.selects C y y ∈ zTT) (h4 : Cond.initialized C ∈ zTT) (h5 : cd ∈ zTT) : GoodIn zTT (wsV own idx C y (cd :: zTT)) := z_good zTT_good (fun w hw => by
  rcases List.mem_append.mp hw with hw | hw
  · simp only [List.mem_cons, List.not_mem_nil, or_false] at hw
    rcases hw with rfl | rfl | rfl | rfl
    · exact h1
    · exact h2
    · exact h3
    · exact h4
  · rcases List.mem_cons.mp hw with rfl | hw
    · exact h5
    · exact hw)
theorem zgS {own : String} {idx : Nat} {y : MethodName} {cd : Cond} (h1 : Cond.methodLink own idx y ∈ zTT) (h2 : Cond.static y ∈ zTT) (h4 : Cond.initialized y.cls ∈ zTT) (h5 : cd ∈ zTT) : GoodIn zTT (va_wsS own idx y (cd :: zTT)) := z_good zTT_good (fun w hw => by
  rcases List.mem_append.mp hw with hw | hw
  · simp only [List.mem_cons, List.not_mem_nil, or_false] at hw
    rcases hw with rfl | rfl | rfl
    · exact h1
    · exact h2
    · exact h4
  · rcases List.mem_cons.mp hw with rfl | hw
    · exact h5
    · exact hw)
abbrev zrm (f k : Nat) : Room := { frames := f, cells := 0, slots := 0, locals := k }
theorem i_P : ∀ w ∈ u_ws R_P F_P 7, w ∈ lw_tbl := by decide +kernel
theorem in_P : ∀ w ∈ u_ws R_P F_P 7, w ∈ zTT := fun w h => zmem (i_P w h) ((by decide +kernel : ∀ w ∈ u_ws R_P F_P 7, goodWord w = true) w h)
theorem i_S : ∀ w ∈ u_ws R_S F_S 5, w ∈ lw_tbl := by decide +kernel
theorem in_S : ∀ w ∈ u_ws R_S F_S 5, w ∈ zTT := fun w h => zmem (i_S w h) ((by decide +kernel : ∀ w ∈ u_ws R_S F_S 5, goodWord w = true) w h)
theorem i_A : ∀ w ∈ u_ws R_A F_A 11, w ∈ lw_tbl := by decide +kernel
theorem in_A : ∀ w ∈ u_ws R_A F_A 11, w ∈ zTT := fun w h => zmem (i_A w h) ((by decide +kernel : ∀ w ∈ u_ws R_A F_A 11, goodWord w = true) w h)
theorem i_W : ∀ w ∈ u_ws R_W F_W 2, w ∈ lw_tbl := by decide +kernel
theorem in_W : ∀ w ∈ u_ws R_W F_W 2, w ∈ zTT := fun w h => zmem (i_W w h) ((by decide +kernel : ∀ w ∈ u_ws R_W F_W 2, goodWord w = true) w h)
theorem i_Y : ∀ w ∈ u_ws R_Y F_Y 3, w ∈ lw_tbl := by decide +kernel
theorem in_Y : ∀ w ∈ u_ws R_Y F_Y 3, w ∈ zTT := fun w h => zmem (i_Y w h) ((by decide +kernel : ∀ w ∈ u_ws R_Y F_Y 3, goodWord w = true) w h)
theorem i_Q : ∀ w ∈ u_ws R_Q F_Q 3, w ∈ lw_tbl := by decide +kernel
theorem in_Q : ∀ w ∈ u_ws R_Q F_Q 3, w ∈ zTT := fun w h => zmem (i_Q w h) ((by decide +kernel : ∀ w ∈ u_ws R_Q F_Q 3, goodWord w = true) w h)
theorem i_M : ∀ w ∈ u_ws R_M F_M 27, w ∈ lw_tbl := by decide +kernel
theorem in_M : ∀ w ∈ u_ws R_M F_M 27, w ∈ zTT := fun w h => zmem (i_M w h) ((by decide +kernel : ∀ w ∈ u_ws R_M F_M 27, goodWord w = true) w h)
abbrev zcl : List vw_C := [(R_P, F_P, 7), (R_S, F_S, 5), (R_A, F_A, 11), (R_W, F_W, 2), (R_Y, F_Y, 3), (R_Q, F_Q, 3), (R_M, F_M, 27)]
def zwC (ad : Nat → Nat) (ca : Nat → ClassId) (σ : zS) : va_W := [(ad 0, .inr (0, [.ref (ad 1), .ref (ad 6), .ref (ad 21), .ref (ad 24), .ref (ad 26), .ref (ad 28), .int (σ.1 106 0)])), (ad 1, .inr (1, [.int (σ.1 120 0), .ref (ad 2), .ref (ad 3), .ref (ad 4), .ref (ad 5)])), (ad 2, .inl (ca 2, 24, .inr (.inl (σ.2 2)))), (ad 3, .inl (ca 3, 24, .inl (σ.1 3))), (ad 4, .inl (ca 4, 24, .inl (σ.1 4))), (ad 5, .inl (ca 5, 24, .inl (σ.1 5))), (ad 6, .inr (2, [.int (σ.1 220 0), .ref (ad 7), .ref (ad 8), .ref (ad 9), .ref (ad 10), .ref (ad 11), .ref (ad 12), .ref (ad 15), .ref (ad 18), .ref (ad 19), .ref (ad 20)])), (ad 7, .inl (ca 7, 32, .inr (.inl (σ.2 7)))), (ad 8, .inl (ca 8, 32, .inl (σ.1 8))), (ad 9, .inl (ca 9, 32, .inl (σ.1 9))), (ad 10, .inl (ca 10, 32, .inl (σ.1 10))), (ad 11, .inl (ca 11, 32, .inl (σ.1 11))), (ad 12, .inr (3, [.ref (ad 13), .ref (ad 14)])), (ad 13, .inl (ca 13, 32, .inl (σ.1 13))), (ad 14, .inl (ca 14, 192, .inr (.inl (σ.2 14)))), (ad 15, .inr (3, [.ref (ad 16), .ref (ad 17)])), (ad 16, .inl (ca 16, 32, .inl (σ.1 16))), (ad 17, .inl (ca 17, 192, .inr (.inl (σ.2 17)))), (ad 18, .inl (ca 18, 192, .inl (σ.1 18))), (ad 19, .inl (ca 19, 32, .inl (σ.1 19))), (ad 20, .inl (ca 20, 256, .inr (.inl (σ.2 20)))), (ad 21, .inr (4, [.int (σ.1 520 0), .ref (ad 22), .ref (ad 23)])), (ad 22, .inl (ca 22, 16, .inl (σ.1 22))), (ad 23, .inl (ca 23, 16, .inl (σ.1 23))), (ad 24, .inr (5, [.int (σ.1 580 0), .ref (ad 25), .int (σ.1 582 0)])), (ad 25, .inl (ca 25, 32, .inl (σ.1 25))), (ad 26, .inr (5, [.int (σ.1 620 0), .ref (ad 27), .int (σ.1 622 0)])), (ad 27, .inl (ca 27, 32, .inl (σ.1 27))), (ad 28, .inr (5, [.int (σ.1 660 0), .ref (ad 29), .int (σ.1 662 0)])), (ad 29, .inl (ca 29, 32, .inl (σ.1 29)))]
def zwM (ad : Nat → Nat) (ca : Nat → ClassId) (σ : zS) : va_W := [(ad 30, .inr (6, [.int (σ.1 700 0), .int (σ.1 701 0), .int (σ.1 702 0), .ref (ad 31), .ref (ad 32), .ref (ad 33), .ref (ad 34), .ref (ad 35), .ref (ad 36), .ref (ad 37), .ref (ad 38), .ref (ad 39), .ref (ad 40), .ref (ad 41), .ref (ad 42), .ref (ad 43), .ref (ad 44), .ref (ad 45), .ref (ad 46), .ref (ad 47), .int (σ.1 720 0), .int (σ.1 721 0), .int (σ.1 722 0), .int (σ.1 723 0), .ref (ad 48), .ref (ad 49), .ref (ad 50)])), (ad 31, .inl (ca 31, 24, .inr (.inl (σ.2 31)))), (ad 32, .inl (ca 32, 24, .inl (σ.1 32))), (ad 33, .inl (ca 33, 24, .inl (σ.1 33))), (ad 34, .inl (ca 34, 24, .inl (σ.1 34))), (ad 35, .inl (ca 35, 32, .inr (.inl (σ.2 35)))), (ad 36, .inl (ca 36, 192, .inr (.inl (σ.2 36)))), (ad 37, .inl (ca 37, 256, .inr (.inl (σ.2 37)))), (ad 38, .inl (ca 38, 32, .inl (σ.1 38))), (ad 39, .inl (ca 39, 32, .inl (σ.1 39))), (ad 40, .inl (ca 40, 32, .inl (σ.1 40))), (ad 41, .inl (ca 41, 32, .inl (σ.1 41))), (ad 42, .inl (ca 42, 32, .inl (σ.1 42))), (ad 43, .inl (ca 43, 192, .inl (σ.1 43))), (ad 44, .inl (ca 44, 32, .inl (σ.1 44))), (ad 45, .inl (ca 45, 32, .inl (σ.1 45))), (ad 46, .inl (ca 46, 16, .inl (σ.1 46))), (ad 47, .inl (ca 47, 16, .inl (σ.1 47))), (ad 48, .inl (ca 48, 32, .inl (σ.1 48))), (ad 49, .inl (ca 49, 32, .inl (σ.1 49))), (ad 50, .inl (ca 50, 32, .inl (σ.1 50)))]
def zty (ca : Nat → ClassId) : List (ClassId × FieldType) := [(ca 2, .long), (ca 3, .int), (ca 4, .int), (ca 5, .boolean), (ca 7, .long), (ca 8, .int), (ca 9, .int), (ca 10, .int), (ca 11, .int), (ca 13, .int), (ca 14, .long), (ca 16, .int), (ca 17, .long), (ca 18, .int), (ca 19, .int), (ca 20, .long), (ca 22, .int), (ca 23, .int), (ca 25, .int), (ca 27, .int), (ca 29, .int), (ca 31, .long), (ca 32, .int), (ca 33, .int), (ca 34, .boolean), (ca 35, .long), (ca 36, .long), (ca 37, .long), (ca 38, .int), (ca 39, .int), (ca 40, .int), (ca 41, .int), (ca 42, .int), (ca 43, .int), (ca 44, .int), (ca 45, .int), (ca 46, .int), (ca 47, .int), (ca 48, .int), (ca 49, .int), (ca 50, .int)]
def zNest (U : State) : Prop := va_Nw (.methodLinkNest "ProvenanceRows" 9 y_S_init "ProvenanceRows") U ∧ va_Nw (.methodLinkNest "ProvenanceRows" 18 y_A_init "ProvenanceRows") U ∧ va_Nw (.methodLinkNest "ProvenanceRows$Artefacts" 30 y_W_init "ProvenanceRows") U ∧ va_Nw (.methodLinkNest "ProvenanceRows" 25 y_Y_init "ProvenanceRows") U ∧ va_Nw (.methodLinkNest "ProvenanceRows" 32 y_Q_init "ProvenanceRows") U ∧ va_Nw (.methodLinkNest "ProvenanceRows$Closure" 41 y_P_hasBit "ProvenanceRows") U ∧ va_Nw (.methodLinkNest "ProvenanceRows$Artefacts" 81 y_P_hasBit "ProvenanceRows") U
theorem zNest_w {s U : State} (hW : s.WarmedH U.vm) (h : zNest s) : zNest U := by
  obtain ⟨h0, h1, h2, h3, h4, h5, h6⟩ := h
  exact ⟨va_Nw.warmM hW h0, va_Nw.warmM hW h1, va_Nw.warmM hW h2, va_Nw.warmM hW h3, va_Nw.warmM hW h4, va_Nw.warmM hW h5, va_Nw.warmM hW h6⟩
theorem zNest_c {U : State} (g : JFrame) (mk : MethodId) (a : Array Value) (h : zNest U) : zNest (U.calling g mk a) := by
  obtain ⟨h0, h1, h2, h3, h4, h5, h6⟩ := h
  exact ⟨va_Nw.same rfl rfl h0, va_Nw.same rfl rfl h1, va_Nw.same rfl rfl h2, va_Nw.same rfl rfl h3, va_Nw.same rfl rfl h4, va_Nw.same rfl rfl h5, va_Nw.same rfl rfl h6⟩
def zKK (D : va_G) (ca : Nat → ClassId) (U : State) : Prop := va_K D zcl (zty ca) U ∧ zNest U
theorem zKK_m (D : va_G) (ca : Nat → ClassId) : zKm (zKK D ca) := ⟨fun s U hW h => ⟨va_K.moved hW.alike h.1, zNest_w hW h.2⟩, fun U g mk a h => ⟨va_K.moved (u := U) (U := U.calling g mk a) (Vm.Alike.refl U.vm) h.1, zNest_c g mk a h.2⟩⟩
def zK0 (D : va_G) (U : State) : Prop := va_K D zcl [] U ∧ zNest U
theorem zK0_m (D : va_G) : zKm (zK0 D) := ⟨fun s U hW h => ⟨va_K.moved hW.alike h.1, zNest_w hW h.2⟩, fun U g mk a h => ⟨va_K.moved (u := U) (U := U.calling g mk a) (Vm.Alike.refl U.vm) h.1, zNest_c g mk a h.2⟩⟩
def zn_S (h0 : Nat) (u : (Nat → Nat) × (Nat → ClassId)) : va_W := [(h0, .inr (1, [.int 0, .ref (u.1 1), .ref (u.1 2), .ref (u.1 3), .ref (u.1 4)])), ((u.1 1), .inl (u.2 1, 24, .inr (.inl (fun _ => 0)))), ((u.1 2), .inl (u.2 2, 24, .inl (fun _ => 0))), ((u.1 3), .inl (u.2 3, 24, .inl (fun _ => 0))), ((u.1 4), .inl (u.2 4, 24, .inl (fun _ => 0)))]
def zt_S (u : (Nat → Nat) × (Nat → ClassId)) : List (ClassId × FieldType) := [(u.2 1, .long), (u.2 2, .int), (u.2 3, .int), (u.2 4, .boolean)]
def zn_W (h0 : Nat) (u : (Nat → Nat) × (Nat → ClassId)) : va_W := [(h0, .inr (3, [.ref (u.1 1), .ref (u.1 2)])), ((u.1 1), .inl (u.2 1, 32, .inl (fun _ => 0))), ((u.1 2), .inl (u.2 2, 192, .inr (.inl (fun _ => 0))))]
def zt_W (u : (Nat → Nat) × (Nat → ClassId)) : List (ClassId × FieldType) := [(u.2 1, .int), (u.2 2, .long)]
def zn_A (h0 : Nat) (u : (Nat → Nat) × (Nat → ClassId)) : va_W := [(h0, .inr (2, [.int 0, .ref (u.1 1), .ref (u.1 2), .ref (u.1 3), .ref (u.1 4), .ref (u.1 5), .ref (u.1 6), .ref (u.1 9), .ref (u.1 12), .ref (u.1 13), .ref (u.1 14)])), ((u.1 1), .inl (u.2 1, 32, .inr (.inl (fun _ => 0)))), ((u.1 2), .inl (u.2 2, 32, .inl (fun _ => 0))), ((u.1 3), .inl (u.2 3, 32, .inl (fun _ => 0))), ((u.1 4), .inl (u.2 4, 32, .inl (fun _ => 0))), ((u.1 5), .inl (u.2 5, 32, .inl (fun _ => 0))), ((u.1 6), .inr (3, [.ref (u.1 7), .ref (u.1 8)])), ((u.1 7), .inl (u.2 7, 32, .inl (fun _ => 0))), ((u.1 8), .inl (u.2 8, 192, .inr (.inl (fun _ => 0)))), ((u.1 9), .inr (3, [.ref (u.1 10), .ref (u.1 11)])), ((u.1 10), .inl (u.2 10, 32, .inl (fun _ => 0))), ((u.1 11), .inl (u.2 11, 192, .inr (.inl (fun _ => 0)))), ((u.1 12), .inl (u.2 12, 192, .inl (fun _ => 0))), ((u.1 13), .inl (u.2 13, 32, .inl (fun _ => 0))), ((u.1 14), .inl (u.2 14, 256, .inr (.inl (fun _ => 0))))]
def zt_A (u : (Nat → Nat) × (Nat → ClassId)) : List (ClassId × FieldType) := [(u.2 1, .long), (u.2 2, .int), (u.2 3, .int), (u.2 4, .int), (u.2 5, .int), (u.2 7, .int), (u.2 8, .long), (u.2 10, .int), (u.2 11, .long), (u.2 12, .int), (u.2 13, .int), (u.2 14, .long)]
def zn_Y (h0 : Nat) (u : (Nat → Nat) × (Nat → ClassId)) : va_W := [(h0, .inr (4, [.int 0, .ref (u.1 1), .ref (u.1 2)])), ((u.1 1), .inl (u.2 1, 16, .inl (fun _ => 0))), ((u.1 2), .inl (u.2 2, 16, .inl (fun _ => 0)))]
def zt_Y (u : (Nat → Nat) × (Nat → ClassId)) : List (ClassId × FieldType) := [(u.2 1, .int), (u.2 2, .int)]
def zn_Q (h0 : Nat) (u : (Nat → Nat) × (Nat → ClassId)) : va_W := [(h0, .inr (5, [.int 0, .ref (u.1 1), .int 0])), ((u.1 1), .inl (u.2 1, 32, .inl (fun _ => 0)))]
def zt_Q (u : (Nat → Nat) × (Nat → ClassId)) : List (ClassId × FieldType) := [(u.2 1, .int)]
def zn_P (h0 : Nat) (u : (Nat → Nat) × (Nat → ClassId)) : va_W := [(h0, .inr (0, [.ref (u.1 1), .ref (u.1 6), .ref (u.1 21), .ref (u.1 24), .ref (u.1 26), .ref (u.1 28), .int (-1)])), ((u.1 1), .inr (1, [.int 0, .ref (u.1 2), .ref (u.1 3), .ref (u.1 4), .ref (u.1 5)])), ((u.1 2), .inl (u.2 2, 24, .inr (.inl (fun _ => 0)))), ((u.1 3), .inl (u.2 3, 24, .inl (fun _ => 0))), ((u.1 4), .inl (u.2 4, 24, .inl (fun _ => 0))), ((u.1 5), .inl (u.2 5, 24, .inl (fun _ => 0))), ((u.1 6), .inr (2, [.int 0, .ref (u.1 7), .ref (u.1 8), .ref (u.1 9), .ref (u.1 10), .ref (u.1 11), .ref (u.1 12), .ref (u.1 15), .ref (u.1 18), .ref (u.1 19), .ref (u.1 20)])), ((u.1 7), .inl (u.2 7, 32, .inr (.inl (fun _ => 0)))), ((u.1 8), .inl (u.2 8, 32, .inl (fun _ => 0))), ((u.1 9), .inl (u.2 9, 32, .inl (fun _ => 0))), ((u.1 10), .inl (u.2 10, 32, .inl (fun _ => 0))), ((u.1 11), .inl (u.2 11, 32, .inl (fun _ => 0))), ((u.1 12), .inr (3, [.ref (u.1 13), .ref (u.1 14)])), ((u.1 13), .inl (u.2 13, 32, .inl (fun _ => 0))), ((u.1 14), .inl (u.2 14, 192, .inr (.inl (fun _ => 0)))), ((u.1 15), .inr (3, [.ref (u.1 16), .ref (u.1 17)])), ((u.1 16), .inl (u.2 16, 32, .inl (fun _ => 0))), ((u.1 17), .inl (u.2 17, 192, .inr (.inl (fun _ => 0)))), ((u.1 18), .inl (u.2 18, 192, .inl (fun _ => 0))), ((u.1 19), .inl (u.2 19, 32, .inl (fun _ => 0))), ((u.1 20), .inl (u.2 20, 256, .inr (.inl (fun _ => 0)))), ((u.1 21), .inr (4, [.int 0, .ref (u.1 22), .ref (u.1 23)])), ((u.1 22), .inl (u.2 22, 16, .inl (fun _ => 0))), ((u.1 23), .inl (u.2 23, 16, .inl (fun _ => 0))), ((u.1 24), .inr (5, [.int 0, .ref (u.1 25), .int 0])), ((u.1 25), .inl (u.2 25, 32, .inl (fun _ => 0))), ((u.1 26), .inr (5, [.int 0, .ref (u.1 27), .int 0])), ((u.1 27), .inl (u.2 27, 32, .inl (fun _ => 0))), ((u.1 28), .inr (5, [.int 0, .ref (u.1 29), .int 0])), ((u.1 29), .inl (u.2 29, 32, .inl (fun _ => 0)))]
def zt_P (u : (Nat → Nat) × (Nat → ClassId)) : List (ClassId × FieldType) := [(u.2 2, .long), (u.2 3, .int), (u.2 4, .int), (u.2 5, .boolean), (u.2 7, .long), (u.2 8, .int), (u.2 9, .int), (u.2 10, .int), (u.2 11, .int), (u.2 13, .int), (u.2 14, .long), (u.2 16, .int), (u.2 17, .long), (u.2 18, .int), (u.2 19, .int), (u.2 20, .long), (u.2 22, .int), (u.2 23, .int), (u.2 25, .int), (u.2 27, .int), (u.2 29, .int)]
def zn_M (h0 : Nat) (u : (Nat → Nat) × (Nat → ClassId)) : va_W := [(h0, .inr (6, [.int 0, .int 0, .int 0, .ref (u.1 1), .ref (u.1 2), .ref (u.1 3), .ref (u.1 4), .ref (u.1 5), .ref (u.1 6), .ref (u.1 7), .ref (u.1 8), .ref (u.1 9), .ref (u.1 10), .ref (u.1 11), .ref (u.1 12), .ref (u.1 13), .ref (u.1 14), .ref (u.1 15), .ref (u.1 16), .ref (u.1 17), .int (-1), .int 0, .int 0, .int 0, .ref (u.1 18), .ref (u.1 19), .ref (u.1 20)])), ((u.1 1), .inl (u.2 1, 24, .inr (.inl (fun _ => 0)))), ((u.1 2), .inl (u.2 2, 24, .inl (fun _ => 0))), ((u.1 3), .inl (u.2 3, 24, .inl (fun _ => 0))), ((u.1 4), .inl (u.2 4, 24, .inl (fun _ => 0))), ((u.1 5), .inl (u.2 5, 32, .inr (.inl (fun _ => 0)))), ((u.1 6), .inl (u.2 6, 192, .inr (.inl (fun _ => 0)))), ((u.1 7), .inl (u.2 7, 256, .inr (.inl (fun _ => 0)))), ((u.1 8), .inl (u.2 8, 32, .inl (fun _ => 0))), ((u.1 9), .inl (u.2 9, 32, .inl (fun _ => 0))), ((u.1 10), .inl (u.2 10, 32, .inl (fun _ => 0))), ((u.1 11), .inl (u.2 11, 32, .inl (fun _ => 0))), ((u.1 12), .inl (u.2 12, 32, .inl (fun _ => 0))), ((u.1 13), .inl (u.2 13, 192, .inl (fun _ => 0))), ((u.1 14), .inl (u.2 14, 32, .inl (fun _ => 0))), ((u.1 15), .inl (u.2 15, 32, .inl (fun _ => 0))), ((u.1 16), .inl (u.2 16, 16, .inl (fun _ => 0))), ((u.1 17), .inl (u.2 17, 16, .inl (fun _ => 0))), ((u.1 18), .inl (u.2 18, 32, .inl (fun _ => 0))), ((u.1 19), .inl (u.2 19, 32, .inl (fun _ => 0))), ((u.1 20), .inl (u.2 20, 32, .inl (fun _ => 0)))]
def zt_M (u : (Nat → Nat) × (Nat → ClassId)) : List (ClassId × FieldType) := [(u.2 1, .long), (u.2 2, .int), (u.2 3, .int), (u.2 4, .boolean), (u.2 5, .long), (u.2 6, .long), (u.2 7, .long), (u.2 8, .int), (u.2 9, .int), (u.2 10, .int), (u.2 11, .int), (u.2 12, .int), (u.2 13, .int), (u.2 14, .int), (u.2 15, .int), (u.2 16, .int), (u.2 17, .int), (u.2 18, .int), (u.2 19, .int), (u.2 20, .int)]
