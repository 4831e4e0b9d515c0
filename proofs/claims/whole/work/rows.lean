section
-- ===== PART A: goes FIRST, ahead of the names: the tables' words, and 'selects' of the private methods out of them =====
/-- a private method of a class that the tables say can be made, by its rows of tables_1 -/
def lw_okq (q : MethodName × Nat) : Prop := (q.1.cls ≠ "java/lang/invoke/MethodHandle" ∧ q.1.cls ≠ "java/lang/invoke/VarHandle") ∧ Cond.instantiable q.1.cls q.2 ∈ tables_1 ∧ Cond.privateMethod q.1 ∈ tables_1 ∧ Cond.instanceMethod q.1 ∈ tables_1
theorem lw_p0 : lw_okq (⟨"ProvenanceRows$Artefacts", "meetMissing", "(I)V"⟩, 11) := ⟨⟨by decide +kernel, by decide +kernel⟩, List.mem_of_getElem? (i := 47) (by decide +kernel), List.mem_of_getElem? (i := 200) (by decide +kernel), List.mem_of_getElem? (i := 201) (by decide +kernel)⟩
theorem lw_p1 : lw_okq (⟨"ProvenanceRows$Rows", "contains", "(IJ)Z"⟩, 2) := ⟨⟨by decide +kernel, by decide +kernel⟩, List.mem_of_getElem? (i := 53) (by decide +kernel), List.mem_of_getElem? (i := 224) (by decide +kernel), List.mem_of_getElem? (i := 225) (by decide +kernel)⟩
theorem lw_p2 : lw_okq (⟨"ProvenanceRows$Artefacts", "firstOf", "(J)I"⟩, 11) := ⟨⟨by decide +kernel, by decide +kernel⟩, List.mem_of_getElem? (i := 47) (by decide +kernel), List.mem_of_getElem? (i := 238) (by decide +kernel), List.mem_of_getElem? (i := 239) (by decide +kernel)⟩
theorem lw_p3 : lw_okq (⟨"ProvenanceRows$Closure", "reach", "(I)V"⟩, 3) := ⟨⟨by decide +kernel, by decide +kernel⟩, List.mem_of_getElem? (i := 131) (by decide +kernel), List.mem_of_getElem? (i := 266) (by decide +kernel), List.mem_of_getElem? (i := 267) (by decide +kernel)⟩
theorem lw_p4 : lw_okq (⟨"ProvenanceRows", "firstBrokenBy", "(I)I"⟩, 7) := ⟨⟨by decide +kernel, by decide +kernel⟩, List.mem_of_getElem? (i := 10) (by decide +kernel), List.mem_of_getElem? (i := 274) (by decide +kernel), List.mem_of_getElem? (i := 275) (by decide +kernel)⟩
theorem lw_p5 : lw_okq (⟨"ProvenanceRows", "isBroken", "(II)Z"⟩, 7) := ⟨⟨by decide +kernel, by decide +kernel⟩, List.mem_of_getElem? (i := 10) (by decide +kernel), List.mem_of_getElem? (i := 278) (by decide +kernel), List.mem_of_getElem? (i := 279) (by decide +kernel)⟩
theorem lw_p6 : lw_okq (⟨"ProvenanceRows", "usesBranchOutside", "(II)Z"⟩, 7) := ⟨⟨by decide +kernel, by decide +kernel⟩, List.mem_of_getElem? (i := 10) (by decide +kernel), List.mem_of_getElem? (i := 283) (by decide +kernel), List.mem_of_getElem? (i := 284) (by decide +kernel)⟩
theorem lw_p7 : lw_okq (⟨"ProvenanceRows", "usesReviewedBelow", "(II)Z"⟩, 7) := ⟨⟨by decide +kernel, by decide +kernel⟩, List.mem_of_getElem? (i := 10) (by decide +kernel), List.mem_of_getElem? (i := 291) (by decide +kernel), List.mem_of_getElem? (i := 292) (by decide +kernel)⟩
theorem lw_p8 : lw_okq (⟨"ProvenanceRows", "usesFetchedUntold", "(I)Z"⟩, 7) := ⟨⟨by decide +kernel, by decide +kernel⟩, List.mem_of_getElem? (i := 10) (by decide +kernel), List.mem_of_getElem? (i := 301) (by decide +kernel), List.mem_of_getElem? (i := 302) (by decide +kernel)⟩
theorem lw_p9 : lw_okq (⟨"ProvenanceRows", "restsOn", "(IJ)Z"⟩, 7) := ⟨⟨by decide +kernel, by decide +kernel⟩, List.mem_of_getElem? (i := 10) (by decide +kernel), List.mem_of_getElem? (i := 353) (by decide +kernel), List.mem_of_getElem? (i := 354) (by decide +kernel)⟩
theorem lw_p10 : lw_okq (⟨"ProvenanceRows", "usesDigest", "(IJ)Z"⟩, 7) := ⟨⟨by decide +kernel, by decide +kernel⟩, List.mem_of_getElem? (i := 10) (by decide +kernel), List.mem_of_getElem? (i := 357) (by decide +kernel), List.mem_of_getElem? (i := 358) (by decide +kernel)⟩
theorem lw_p11 : lw_okq (⟨"ProvenanceRowsModel", "isSource", "(I)Z"⟩, 27) := ⟨⟨by decide +kernel, by decide +kernel⟩, List.mem_of_getElem? (i := 390) (by decide +kernel), List.mem_of_getElem? (i := 490) (by decide +kernel), List.mem_of_getElem? (i := 491) (by decide +kernel)⟩
theorem lw_p12 : lw_okq (⟨"ProvenanceRowsModel", "isArtefact", "(I)Z"⟩, 27) := ⟨⟨by decide +kernel, by decide +kernel⟩, List.mem_of_getElem? (i := 390) (by decide +kernel), List.mem_of_getElem? (i := 503) (by decide +kernel), List.mem_of_getElem? (i := 504) (by decide +kernel)⟩
theorem lw_p13 : lw_okq (⟨"ProvenanceRowsModel", "hasUse", "(II)Z"⟩, 27) := ⟨⟨by decide +kernel, by decide +kernel⟩, List.mem_of_getElem? (i := 390) (by decide +kernel), List.mem_of_getElem? (i := 507) (by decide +kernel), List.mem_of_getElem? (i := 508) (by decide +kernel)⟩
theorem lw_p14 : lw_okq (⟨"ProvenanceRowsModel", "hasNeed", "(IJ)Z"⟩, 27) := ⟨⟨by decide +kernel, by decide +kernel⟩, List.mem_of_getElem? (i := 390) (by decide +kernel), List.mem_of_getElem? (i := 515) (by decide +kernel), List.mem_of_getElem? (i := 516) (by decide +kernel)⟩
theorem lw_p15 : lw_okq (⟨"ProvenanceRowsModel", "goAlong", "(I)V"⟩, 27) := ⟨⟨by decide +kernel, by decide +kernel⟩, List.mem_of_getElem? (i := 390) (by decide +kernel), List.mem_of_getElem? (i := 531) (by decide +kernel), List.mem_of_getElem? (i := 532) (by decide +kernel)⟩
def lw_privs_1 : List (MethodName × Nat) := [(⟨"ProvenanceRows$Artefacts", "meetMissing", "(I)V"⟩, 11), (⟨"ProvenanceRows$Rows", "contains", "(IJ)Z"⟩, 2), (⟨"ProvenanceRows$Artefacts", "firstOf", "(J)I"⟩, 11), (⟨"ProvenanceRows$Closure", "reach", "(I)V"⟩, 3), (⟨"ProvenanceRows", "firstBrokenBy", "(I)I"⟩, 7), (⟨"ProvenanceRows", "isBroken", "(II)Z"⟩, 7), (⟨"ProvenanceRows", "usesBranchOutside", "(II)Z"⟩, 7), (⟨"ProvenanceRows", "usesReviewedBelow", "(II)Z"⟩, 7), (⟨"ProvenanceRows", "usesFetchedUntold", "(I)Z"⟩, 7), (⟨"ProvenanceRows", "restsOn", "(IJ)Z"⟩, 7), (⟨"ProvenanceRows", "usesDigest", "(IJ)Z"⟩, 7), (⟨"ProvenanceRowsModel", "isSource", "(I)Z"⟩, 27), (⟨"ProvenanceRowsModel", "isArtefact", "(I)Z"⟩, 27), (⟨"ProvenanceRowsModel", "hasUse", "(II)Z"⟩, 27), (⟨"ProvenanceRowsModel", "hasNeed", "(IJ)Z"⟩, 27), (⟨"ProvenanceRowsModel", "goAlong", "(I)V"⟩, 27)]
theorem lw_r1 : ∀ q ∈ lw_privs_1, lw_okq q := List.forall_mem_cons.mpr ⟨lw_p0, List.forall_mem_cons.mpr ⟨lw_p1, List.forall_mem_cons.mpr ⟨lw_p2, List.forall_mem_cons.mpr ⟨lw_p3, List.forall_mem_cons.mpr ⟨lw_p4, List.forall_mem_cons.mpr ⟨lw_p5, List.forall_mem_cons.mpr ⟨lw_p6, List.forall_mem_cons.mpr ⟨lw_p7, List.forall_mem_cons.mpr ⟨lw_p8, List.forall_mem_cons.mpr ⟨lw_p9, List.forall_mem_cons.mpr ⟨lw_p10, List.forall_mem_cons.mpr ⟨lw_p11, List.forall_mem_cons.mpr ⟨lw_p12, List.forall_mem_cons.mpr ⟨lw_p13, List.forall_mem_cons.mpr ⟨lw_p14, List.forall_mem_cons.mpr ⟨lw_p15, fun _ h => absurd h List.not_mem_nil⟩⟩⟩⟩⟩⟩⟩⟩⟩⟩⟩⟩⟩⟩⟩⟩
theorem lw_p16 : lw_okq (⟨"ProvenanceRowsModel", "come", "(I)V"⟩, 27) := ⟨⟨by decide +kernel, by decide +kernel⟩, List.mem_of_getElem? (i := 390) (by decide +kernel), List.mem_of_getElem? (i := 535) (by decide +kernel), List.mem_of_getElem? (i := 536) (by decide +kernel)⟩
theorem lw_p17 : lw_okq (⟨"ProvenanceRowsModel", "meets", "(J)I"⟩, 27) := ⟨⟨by decide +kernel, by decide +kernel⟩, List.mem_of_getElem? (i := 390) (by decide +kernel), List.mem_of_getElem? (i := 539) (by decide +kernel), List.mem_of_getElem? (i := 540) (by decide +kernel)⟩
theorem lw_p18 : lw_okq (⟨"ProvenanceRowsModel", "isBroken", "(II)Z"⟩, 27) := ⟨⟨by decide +kernel, by decide +kernel⟩, List.mem_of_getElem? (i := 390) (by decide +kernel), List.mem_of_getElem? (i := 559) (by decide +kernel), List.mem_of_getElem? (i := 560) (by decide +kernel)⟩
theorem lw_p19 : lw_okq (⟨"ProvenanceRowsModel", "sourceBreaks", "(III)Z"⟩, 27) := ⟨⟨by decide +kernel, by decide +kernel⟩, List.mem_of_getElem? (i := 390) (by decide +kernel), List.mem_of_getElem? (i := 563) (by decide +kernel), List.mem_of_getElem? (i := 564) (by decide +kernel)⟩
theorem lw_p20 : lw_okq (⟨"ProvenanceRowsModel", "others", "(II)I"⟩, 27) := ⟨⟨by decide +kernel, by decide +kernel⟩, List.mem_of_getElem? (i := 390) (by decide +kernel), List.mem_of_getElem? (i := 567) (by decide +kernel), List.mem_of_getElem? (i := 568) (by decide +kernel)⟩
theorem lw_p21 : lw_okq (⟨"ProvenanceRowsModel", "isLate", "(II)Z"⟩, 27) := ⟨⟨by decide +kernel, by decide +kernel⟩, List.mem_of_getElem? (i := 390) (by decide +kernel), List.mem_of_getElem? (i := 572) (by decide +kernel), List.mem_of_getElem? (i := 573) (by decide +kernel)⟩
theorem lw_p22 : lw_okq (⟨"ProvenanceRowsModel", "isClash", "(II)Z"⟩, 27) := ⟨⟨by decide +kernel, by decide +kernel⟩, List.mem_of_getElem? (i := 390) (by decide +kernel), List.mem_of_getElem? (i := 576) (by decide +kernel), List.mem_of_getElem? (i := 577) (by decide +kernel)⟩
theorem lw_p23 : lw_okq (⟨"ProvenanceRowsModel", "agree", "(II)Z"⟩, 27) := ⟨⟨by decide +kernel, by decide +kernel⟩, List.mem_of_getElem? (i := 390) (by decide +kernel), List.mem_of_getElem? (i := 580) (by decide +kernel), List.mem_of_getElem? (i := 581) (by decide +kernel)⟩
theorem lw_p24 : lw_okq (⟨"ProvenanceRowsModel", "sameSources", "(II)Z"⟩, 27) := ⟨⟨by decide +kernel, by decide +kernel⟩, List.mem_of_getElem? (i := 390) (by decide +kernel), List.mem_of_getElem? (i := 600) (by decide +kernel), List.mem_of_getElem? (i := 601) (by decide +kernel)⟩
theorem lw_p25 : lw_okq (⟨"ProvenanceRowsModel", "sameNeeds", "(II)Z"⟩, 27) := ⟨⟨by decide +kernel, by decide +kernel⟩, List.mem_of_getElem? (i := 390) (by decide +kernel), List.mem_of_getElem? (i := 604) (by decide +kernel), List.mem_of_getElem? (i := 605) (by decide +kernel)⟩
def lw_privs_2 : List (MethodName × Nat) := [(⟨"ProvenanceRowsModel", "come", "(I)V"⟩, 27), (⟨"ProvenanceRowsModel", "meets", "(J)I"⟩, 27), (⟨"ProvenanceRowsModel", "isBroken", "(II)Z"⟩, 27), (⟨"ProvenanceRowsModel", "sourceBreaks", "(III)Z"⟩, 27), (⟨"ProvenanceRowsModel", "others", "(II)I"⟩, 27), (⟨"ProvenanceRowsModel", "isLate", "(II)Z"⟩, 27), (⟨"ProvenanceRowsModel", "isClash", "(II)Z"⟩, 27), (⟨"ProvenanceRowsModel", "agree", "(II)Z"⟩, 27), (⟨"ProvenanceRowsModel", "sameSources", "(II)Z"⟩, 27), (⟨"ProvenanceRowsModel", "sameNeeds", "(II)Z"⟩, 27)]
theorem lw_r2 : ∀ q ∈ lw_privs_2, lw_okq q := List.forall_mem_cons.mpr ⟨lw_p16, List.forall_mem_cons.mpr ⟨lw_p17, List.forall_mem_cons.mpr ⟨lw_p18, List.forall_mem_cons.mpr ⟨lw_p19, List.forall_mem_cons.mpr ⟨lw_p20, List.forall_mem_cons.mpr ⟨lw_p21, List.forall_mem_cons.mpr ⟨lw_p22, List.forall_mem_cons.mpr ⟨lw_p23, List.forall_mem_cons.mpr ⟨lw_p24, List.forall_mem_cons.mpr ⟨lw_p25, fun _ h => absurd h List.not_mem_nil⟩⟩⟩⟩⟩⟩⟩⟩⟩⟩
def lw_privs : List (MethodName × Nat) := lw_privs_1 ++ (lw_privs_2)
def lw_tbl : List Cond := k2_sels lw_privs ++ tables_1
theorem lw_privs_ok : ∀ q ∈ lw_privs, lw_okq q := by
  show ∀ q ∈ lw_privs_1 ++ (lw_privs_2), lw_okq q
  exact List.forall_mem_append.mpr ⟨lw_r1, lw_r2⟩
-- ===== end of PART A; then your names; then what follows =====
end
section
/-! The walk's own words. A state of numbers is zS: int rows and long rows by number (a field is a row whose place 0 is read). zJ V f w pc lv st: if the pure value f is some out, the machine, at pc with these numbered slots and this stack in the world w, ends as out says. One row an instruction; guards of f stand for what the machine would refuse. -/
abbrev zS : Type := (Nat → Nat → Int32) × (Nat → Nat → Int64)
def zU {α : Type} (f : Nat → α) (k : Nat) (v : α) : Nat → α := fun j => bif Nat.beq j k then v else f j
def zI (σ : zS) (k i : Nat) (v : Int32) : zS := (zU σ.1 k (upd (σ.1 k) i v), σ.2)
def zF (σ : zS) (k : Nat) (v : Int32) : zS := (zU σ.1 k (fun _ => v), σ.2)
def zL (σ : zS) (k i : Nat) (v : Int64) : zS := (σ.1, zU σ.2 k (vp_updL (σ.2 k) i v))
def zin (i : Int32) (n : Nat) : Bool := decide (0 ≤ i.toInt ∧ i.toInt < (n : Int))
theorem zin_vp {i : Int32} {n : Nat} (h : zin i n = true) : vp_in i n := vp_in_iff.mpr (of_decide_eq_true h)
def zgd {γ : Type} (b : Bool) (e : Option γ) : Option γ := bif b then e else none
def zb {β γ : Type} (x : Option (β × zS)) (k : β → zS → Option γ) : Option γ := match x with
  | none => none
  | some o => k o.1 o.2
def zush (x y : Int32) : Int32 := (x.toUInt32 >>> (y.toUInt32 &&& Int32.toUInt32 31)).toInt32
def zshl (x y : Int32) : Int32 := x <<< (y &&& 31)
def zlsh (x : Int64) (y : Int32) : Int64 := x <<< (y.toInt64 &&& 63)
def zshr (x y : Int32) : Int32 := x >>> (y &&& 31)
def zg : List (Nat × Value) → Nat → Option Value
  | [], _ => none
  | q :: r, i => bif Nat.beq q.1 i then some q.2 else zg r i
theorem zg_mem : ∀ {lv : List (Nat × Value)} {i : Nat} {v : Value}, zg lv i = some v → (i, v) ∈ lv
  | [], i, v, h => by cases h
  | q :: r, i, v, h => by
    unfold zg at h
    cases hb : Nat.beq q.1 i with
    | true =>
      rw [hb] at h
      have e1 : q.1 = i := Nat.eq_of_beq_eq_true hb
      have e2 : q.2 = v := Option.some.inj h
      rw [← e1, ← e2]
      exact List.mem_cons_self
    | false =>
      rw [hb] at h
      exact List.mem_cons_of_mem _ (zg_mem h)
theorem zg_at {ls : Array Slot} {nL : Nat} {lv : List (Nat × Value)} {i : Nat} {v : Value} (h : lv_has ls nL lv) (hg : zg lv i = some v) : ls[i]? = some (.val v) := h.2.2 (i, v) (zg_mem hg)
abbrev zV (α : Type) : Type := va_W → Nat → List (Nat × Value) → List Value → α × zS → Prop
def zJ {α : Type} (V : zV α) (f : Option (α × zS)) (w : va_W) (pc : Nat) (lv : List (Nat × Value)) (st : List Value) : Prop := ∀ out : α × zS, f = some out → V w pc lv st out
/-- what a contract's start may ask of the tables: it stays when the machine warms up, and at a call -/
def zKm (KK : State → Prop) : Prop := (∀ s U : State, s.WarmedH U.vm → KK s → KK U) ∧ ∀ (U : State) (g : JFrame) (mk : MethodId) (a : Array Value), KK U → KK (U.calling g mk a)
/-- V is a method's own machine -/
def zIs {α : Type} (V : zV α) (l : Launch) (cc : ByteArray) (own : String) (TT : List Cond) (KK : State → Prop) (D : va_G) (cl : List vw_C) (tys : List (ClassId × FieldType)) (nL : Nat) (R : Room) : Prop :=
  ∃ (p : Program) (e : Env) (s : State) (m : MethodId) (args : Array Value) (below : List Frame) (meth : Method) (c : Code) (cells slots : Nat) (A : Nat → Prop) (H0 : Heap) (Qo : α × zS → State → Prop),
    V = (fun w pc lv st out => ∀ (H : Heap) (locs : List Loc) (ls : Array Slot), va_P D cl w H → va_D A w → va_S A H0 H locs → lv_has ls nL lv → W p l e R s m args below meth c H locs cells slots (Qo out) (F0 m pc ls st)) ∧
    p.tables.exec = Jvm.exec ∧ c.code = cc ∧ c.maxLocals = nL ∧ s.vm.findClass own = some m.cls ∧ (∀ w ∈ TT, w.before args s = true) ∧ zKm KK ∧ KK s ∧ va_K D cl tys s ∧ (∀ q, H0.size ≤ q → A q) ∧ cells ≤ R.cells ∧ slots ≤ R.slots
def zRi (V : zV Int32) (cc : ByteArray) (wl : zS → va_W) (ex : va_W) : Prop := ∀ (σ : zS) (r : Int32) (pc : Nat) (lv : List (Nat × Value)), decode cc pc = .ok (.ireturn, 1) → V (wl σ ++ ex) pc lv [.int r] (r, σ)
def zRz (V : zV Int32) (cc : ByteArray) (wl : zS → va_W) (ex : va_W) : Prop := ∀ (σ : zS) (r : Int32) (pc : Nat) (lv : List (Nat × Value)), narrow .boolean (.int r) = .int r → decode cc pc = .ok (.ireturn, 1) → V (wl σ ++ ex) pc lv [.int r] (r, σ)
def zRl (V : zV Int64) (cc : ByteArray) (wl : zS → va_W) (ex : va_W) : Prop := ∀ (σ : zS) (r : Int64) (pc : Nat) (lv : List (Nat × Value)), decode cc pc = .ok (.lreturn, 1) → V (wl σ ++ ex) pc lv [.long r] (r, σ)
def zRv (V : zV Unit) (cc : ByteArray) (wl : zS → va_W) (ex : va_W) : Prop := ∀ (σ : zS) (pc : Nat) (lv : List (Nat × Value)), decode cc pc = .ok (.return_, 1) → V (wl σ ++ ex) pc lv [] ((), σ)
abbrev zemI : Int32 → Option Value := fun r => some (.int r)
abbrev zemL : Int64 → Option Value := fun r => some (.long r)
abbrev zemV : Unit → Option Value := fun _ => none
/-- a contract: on any world that begins with wl σ, called with av, y ends as f says -/
def zC {α : Type} (em : α → Option Value) (l : Launch) (y : MethodName) (wds : List Cond) (rm : Room) (D : va_G) (cl : List vw_C) (KK : State → Prop) (wl : zS → va_W) (σ : zS) (av : List Value) (f : Option (α × zS)) : Prop :=
  ∀ (out : α × zS) (ex : va_W) (sz : Nat), f = some out → Met l y wds rm (va_Pc av (fun U => U.heap.size = sz ∧ va_P D cl (wl σ ++ ex) U.heap ∧ KK U ∧ va_D (fun _ => True) (wl σ ++ ex)))
    (fun _ st oc t => (oc = .returned (em out.1) ∧ va_P D cl (wl out.2 ++ ex) t.heap ∧ va_D (va_A (wl σ ++ ex) sz) (wl out.2 ++ ex)) ∧ va_F (va_A (wl σ ++ ex) sz) st t) 0 0 (va_A (wl σ ++ ex) sz)

section ZR
variable {α : Type} {V : zV α} {l : Launch} {cc : ByteArray} {own : String} {TT : List Cond} {KK : State → Prop} {D : va_G} {cl : List vw_C} {tys : List (ClassId × FieldType)} {nL : Nat} {R : Room} {f : Option (α × zS)} {w : va_W} {pc : Nat} {lv : List (Nat × Value)} {st : List Value}

theorem z_iconst (hX : zIs V l cc own TT KK D cl tys nL R) {n : Int} {v : Int32} (hd : decode cc pc = .ok (.iconst n, 1)) (hv : Int32.ofInt n = v) (k : zJ V f w (pc + 1) lv (.int v :: st)) : zJ V f w pc lv (st) := by
  obtain ⟨p, e, s, m, args, below, meth, c, cells, slots, A, H0, Qo, rfl, hx, hb, hml, hown, hts, hKm, hKK, hK, hA, hcs⟩ := hX
  intro out hf H locs ls hP hD hS hl
  exact lv_iconst hx hb hd hv (k out hf H locs ls hP hD hS hl)
theorem z_bipush (hX : zIs V l cc own TT KK D cl tys nL R) {n : Int} {v : Int32} (hd : decode cc pc = .ok (.bipush n, 2)) (hv : (Int8.ofInt n).toInt32 = v) (k : zJ V f w (pc + 2) lv (.int v :: st)) : zJ V f w pc lv (st) := by
  obtain ⟨p, e, s, m, args, below, meth, c, cells, slots, A, H0, Qo, rfl, hx, hb, hml, hown, hts, hKm, hKK, hK, hA, hcs⟩ := hX
  intro out hf H locs ls hP hD hS hl
  exact lv_bipush hx hb hd hv (k out hf H locs ls hP hD hS hl)
theorem z_sipush (hX : zIs V l cc own TT KK D cl tys nL R) {n : Int} {v : Int32} (hd : decode cc pc = .ok (.sipush n, 3)) (hv : (Int16.ofInt n).toInt32 = v) (k : zJ V f w (pc + 3) lv (.int v :: st)) : zJ V f w pc lv (st) := by
  obtain ⟨p, e, s, m, args, below, meth, c, cells, slots, A, H0, Qo, rfl, hx, hb, hml, hown, hts, hKm, hKK, hK, hA, hcs⟩ := hX
  intro out hf H locs ls hP hD hS hl
  exact lv_sipush hx hb hd hv (k out hf H locs ls hP hD hS hl)
theorem z_lconst (hX : zIs V l cc own TT KK D cl tys nL R) {n : Fin 2} {v : Int64} (hd : decode cc pc = .ok (.lconst n, 1)) (hv : Int64.ofNat (n : Nat) = v) (k : zJ V f w (pc + 1) lv (.long v :: st)) : zJ V f w pc lv (st) := by
  obtain ⟨p, e, s, m, args, below, meth, c, cells, slots, A, H0, Qo, rfl, hx, hb, hml, hown, hts, hKm, hKK, hK, hA, hcs⟩ := hX
  intro out hf H locs ls hP hD hS hl
  exact lv_lconst hx hb hd hv (k out hf H locs ls hP hD hS hl)
theorem z_iload_n (hX : zIs V l cc own TT KK D cl tys nL R) {j : Fin 4} {i : Nat} {x : Int32} (hd : decode cc pc = .ok (.iload_n j, 1)) (hi : (j : Nat) = i) (hg : zg lv i = some (.int x)) (k : zJ V f w (pc + 1) lv (.int x :: st)) : zJ V f w pc lv (st) := by
  obtain ⟨p, e, s, m, args, below, meth, c, cells, slots, A, H0, Qo, rfl, hx, hb, hml, hown, hts, hKm, hKK, hK, hA, hcs⟩ := hX
  intro out hf H locs ls hP hD hS hl
  exact lv_iload_n hx hb hd hi (zg_at hl hg) (k out hf H locs ls hP hD hS hl)
theorem z_iload (hX : zIs V l cc own TT KK D cl tys nL R) {i : Nat} {x : Int32} (hd : decode cc pc = .ok (.iload i, 2)) (hg : zg lv i = some (.int x)) (k : zJ V f w (pc + 2) lv (.int x :: st)) : zJ V f w pc lv (st) := by
  obtain ⟨p, e, s, m, args, below, meth, c, cells, slots, A, H0, Qo, rfl, hx, hb, hml, hown, hts, hKm, hKK, hK, hA, hcs⟩ := hX
  intro out hf H locs ls hP hD hS hl
  exact lv_iload hx hb hd (zg_at hl hg) (k out hf H locs ls hP hD hS hl)
theorem z_lload_n (hX : zIs V l cc own TT KK D cl tys nL R) {j : Fin 4} {i : Nat} {x : Int64} (hd : decode cc pc = .ok (.lload_n j, 1)) (hi : (j : Nat) = i) (hg : zg lv i = some (.long x)) (k : zJ V f w (pc + 1) lv (.long x :: st)) : zJ V f w pc lv (st) := by
  obtain ⟨p, e, s, m, args, below, meth, c, cells, slots, A, H0, Qo, rfl, hx, hb, hml, hown, hts, hKm, hKK, hK, hA, hcs⟩ := hX
  intro out hf H locs ls hP hD hS hl
  exact lv_lload_n hx hb hd hi (zg_at hl hg) (k out hf H locs ls hP hD hS hl)
theorem z_lload (hX : zIs V l cc own TT KK D cl tys nL R) {i : Nat} {x : Int64} (hd : decode cc pc = .ok (.lload i, 2)) (hg : zg lv i = some (.long x)) (k : zJ V f w (pc + 2) lv (.long x :: st)) : zJ V f w pc lv (st) := by
  obtain ⟨p, e, s, m, args, below, meth, c, cells, slots, A, H0, Qo, rfl, hx, hb, hml, hown, hts, hKm, hKK, hK, hA, hcs⟩ := hX
  intro out hf H locs ls hP hD hS hl
  exact lv_lload hx hb hd (zg_at hl hg) (k out hf H locs ls hP hD hS hl)
theorem z_aload_n (hX : zIs V l cc own TT KK D cl tys nL R) {j : Fin 4} {i : Nat} {x : Nat} (hd : decode cc pc = .ok (.aload_n j, 1)) (hi : (j : Nat) = i) (hg : zg lv i = some (.ref x)) (k : zJ V f w (pc + 1) lv (.ref x :: st)) : zJ V f w pc lv (st) := by
  obtain ⟨p, e, s, m, args, below, meth, c, cells, slots, A, H0, Qo, rfl, hx, hb, hml, hown, hts, hKm, hKK, hK, hA, hcs⟩ := hX
  intro out hf H locs ls hP hD hS hl
  exact lv_aload_n hx hb hd hi (zg_at hl hg) (k out hf H locs ls hP hD hS hl)
theorem z_aload (hX : zIs V l cc own TT KK D cl tys nL R) {i : Nat} {x : Nat} (hd : decode cc pc = .ok (.aload i, 2)) (hg : zg lv i = some (.ref x)) (k : zJ V f w (pc + 2) lv (.ref x :: st)) : zJ V f w pc lv (st) := by
  obtain ⟨p, e, s, m, args, below, meth, c, cells, slots, A, H0, Qo, rfl, hx, hb, hml, hown, hts, hKm, hKK, hK, hA, hcs⟩ := hX
  intro out hf H locs ls hP hD hS hl
  exact lv_aload hx hb hd (zg_at hl hg) (k out hf H locs ls hP hD hS hl)
theorem z_iadd (hX : zIs V l cc own TT KK D cl tys nL R) {x y : Int32} (hd : decode cc pc = .ok (.iadd, 1)) (k : zJ V f w (pc + 1) lv (.int (x + y) :: st)) : zJ V f w pc lv (.int y :: .int x :: st) := by
  obtain ⟨p, e, s, m, args, below, meth, c, cells, slots, A, H0, Qo, rfl, hx, hb, hml, hown, hts, hKm, hKK, hK, hA, hcs⟩ := hX
  intro out hf H locs ls hP hD hS hl
  exact lv_iadd hx hb hd (k out hf H locs ls hP hD hS hl)
theorem z_isub (hX : zIs V l cc own TT KK D cl tys nL R) {x y : Int32} (hd : decode cc pc = .ok (.isub, 1)) (k : zJ V f w (pc + 1) lv (.int (x - y) :: st)) : zJ V f w pc lv (.int y :: .int x :: st) := by
  obtain ⟨p, e, s, m, args, below, meth, c, cells, slots, A, H0, Qo, rfl, hx, hb, hml, hown, hts, hKm, hKK, hK, hA, hcs⟩ := hX
  intro out hf H locs ls hP hD hS hl
  exact lv_isub hx hb hd (k out hf H locs ls hP hD hS hl)
theorem z_imul (hX : zIs V l cc own TT KK D cl tys nL R) {x y : Int32} (hd : decode cc pc = .ok (.imul, 1)) (k : zJ V f w (pc + 1) lv (.int (x * y) :: st)) : zJ V f w pc lv (.int y :: .int x :: st) := by
  obtain ⟨p, e, s, m, args, below, meth, c, cells, slots, A, H0, Qo, rfl, hx, hb, hml, hown, hts, hKm, hKK, hK, hA, hcs⟩ := hX
  intro out hf H locs ls hP hD hS hl
  exact lv_imul hx hb hd (k out hf H locs ls hP hD hS hl)
theorem z_iand (hX : zIs V l cc own TT KK D cl tys nL R) {x y : Int32} (hd : decode cc pc = .ok (.iand, 1)) (k : zJ V f w (pc + 1) lv (.int (x &&& y) :: st)) : zJ V f w pc lv (.int y :: .int x :: st) := by
  obtain ⟨p, e, s, m, args, below, meth, c, cells, slots, A, H0, Qo, rfl, hx, hb, hml, hown, hts, hKm, hKK, hK, hA, hcs⟩ := hX
  intro out hf H locs ls hP hD hS hl
  exact lv_iand hx hb hd (k out hf H locs ls hP hD hS hl)
theorem z_ior (hX : zIs V l cc own TT KK D cl tys nL R) {x y : Int32} (hd : decode cc pc = .ok (.ior, 1)) (k : zJ V f w (pc + 1) lv (.int (x ||| y) :: st)) : zJ V f w pc lv (.int y :: .int x :: st) := by
  obtain ⟨p, e, s, m, args, below, meth, c, cells, slots, A, H0, Qo, rfl, hx, hb, hml, hown, hts, hKm, hKK, hK, hA, hcs⟩ := hX
  intro out hf H locs ls hP hD hS hl
  exact lv_ior hx hb hd (k out hf H locs ls hP hD hS hl)
theorem z_ixor (hX : zIs V l cc own TT KK D cl tys nL R) {x y : Int32} (hd : decode cc pc = .ok (.ixor, 1)) (k : zJ V f w (pc + 1) lv (.int (x ^^^ y) :: st)) : zJ V f w pc lv (.int y :: .int x :: st) := by
  obtain ⟨p, e, s, m, args, below, meth, c, cells, slots, A, H0, Qo, rfl, hx, hb, hml, hown, hts, hKm, hKK, hK, hA, hcs⟩ := hX
  intro out hf H locs ls hP hD hS hl
  exact lv_ixor hx hb hd (k out hf H locs ls hP hD hS hl)
theorem z_ishl (hX : zIs V l cc own TT KK D cl tys nL R) {x y : Int32} (hd : decode cc pc = .ok (.ishl, 1)) (k : zJ V f w (pc + 1) lv (.int (zshl x y) :: st)) : zJ V f w pc lv (.int y :: .int x :: st) := by
  obtain ⟨p, e, s, m, args, below, meth, c, cells, slots, A, H0, Qo, rfl, hx, hb, hml, hown, hts, hKm, hKK, hK, hA, hcs⟩ := hX
  intro out hf H locs ls hP hD hS hl
  exact lv_ishl hx hb hd (k out hf H locs ls hP hD hS hl)
theorem z_ishr (hX : zIs V l cc own TT KK D cl tys nL R) {x y : Int32} (hd : decode cc pc = .ok (.ishr, 1)) (k : zJ V f w (pc + 1) lv (.int (zshr x y) :: st)) : zJ V f w pc lv (.int y :: .int x :: st) := by
  obtain ⟨p, e, s, m, args, below, meth, c, cells, slots, A, H0, Qo, rfl, hx, hb, hml, hown, hts, hKm, hKK, hK, hA, hcs⟩ := hX
  intro out hf H locs ls hP hD hS hl
  exact lv_ishr hx hb hd (k out hf H locs ls hP hD hS hl)
theorem z_ladd (hX : zIs V l cc own TT KK D cl tys nL R) {x y : Int64} (hd : decode cc pc = .ok (.ladd, 1)) (k : zJ V f w (pc + 1) lv (.long (x + y) :: st)) : zJ V f w pc lv (.long y :: .long x :: st) := by
  obtain ⟨p, e, s, m, args, below, meth, c, cells, slots, A, H0, Qo, rfl, hx, hb, hml, hown, hts, hKm, hKK, hK, hA, hcs⟩ := hX
  intro out hf H locs ls hP hD hS hl
  exact lv_ladd hx hb hd (k out hf H locs ls hP hD hS hl)
theorem z_land (hX : zIs V l cc own TT KK D cl tys nL R) {x y : Int64} (hd : decode cc pc = .ok (.land, 1)) (k : zJ V f w (pc + 1) lv (.long (x &&& y) :: st)) : zJ V f w pc lv (.long y :: .long x :: st) := by
  obtain ⟨p, e, s, m, args, below, meth, c, cells, slots, A, H0, Qo, rfl, hx, hb, hml, hown, hts, hKm, hKK, hK, hA, hcs⟩ := hX
  intro out hf H locs ls hP hD hS hl
  exact lv_land hx hb hd (k out hf H locs ls hP hD hS hl)
theorem z_lor (hX : zIs V l cc own TT KK D cl tys nL R) {x y : Int64} (hd : decode cc pc = .ok (.lor, 1)) (k : zJ V f w (pc + 1) lv (.long (x ||| y) :: st)) : zJ V f w pc lv (.long y :: .long x :: st) := by
  obtain ⟨p, e, s, m, args, below, meth, c, cells, slots, A, H0, Qo, rfl, hx, hb, hml, hown, hts, hKm, hKK, hK, hA, hcs⟩ := hX
  intro out hf H locs ls hP hD hS hl
  exact lv_lor hx hb hd (k out hf H locs ls hP hD hS hl)
theorem z_lxor (hX : zIs V l cc own TT KK D cl tys nL R) {x y : Int64} (hd : decode cc pc = .ok (.lxor, 1)) (k : zJ V f w (pc + 1) lv (.long (x ^^^ y) :: st)) : zJ V f w pc lv (.long y :: .long x :: st) := by
  obtain ⟨p, e, s, m, args, below, meth, c, cells, slots, A, H0, Qo, rfl, hx, hb, hml, hown, hts, hKm, hKK, hK, hA, hcs⟩ := hX
  intro out hf H locs ls hP hD hS hl
  exact lv_lxor hx hb hd (k out hf H locs ls hP hD hS hl)
theorem z_lshl (hX : zIs V l cc own TT KK D cl tys nL R) {x : Int64} {y : Int32} (hd : decode cc pc = .ok (.lshl, 1)) (k : zJ V f w (pc + 1) lv (.long (zlsh x y) :: st)) : zJ V f w pc lv (.int y :: .long x :: st) := by
  obtain ⟨p, e, s, m, args, below, meth, c, cells, slots, A, H0, Qo, rfl, hx, hb, hml, hown, hts, hKm, hKK, hK, hA, hcs⟩ := hX
  intro out hf H locs ls hP hD hS hl
  exact lv_lshl hx hb hd rfl (k out hf H locs ls hP hD hS hl)
theorem z_iushr (hX : zIs V l cc own TT KK D cl tys nL R) {x y : Int32} (hd : decode cc pc = .ok (.iushr, 1)) (k : zJ V f w (pc + 1) lv (.int (zush x y) :: st)) : zJ V f w pc lv (.int y :: .int x :: st) := by
  obtain ⟨p, e, s, m, args, below, meth, c, cells, slots, A, H0, Qo, rfl, hx, hb, hml, hown, hts, hKm, hKK, hK, hA, hcs⟩ := hX
  intro out hf H locs ls hP hD hS hl
  exact lv_iushr hx hb hd rfl (k out hf H locs ls hP hD hS hl)
theorem z_l2i (hX : zIs V l cc own TT KK D cl tys nL R) {x : Int64} (hd : decode cc pc = .ok (.l2i, 1)) (k : zJ V f w (pc + 1) lv (.int x.toInt32 :: st)) : zJ V f w pc lv (.long x :: st) := by
  obtain ⟨p, e, s, m, args, below, meth, c, cells, slots, A, H0, Qo, rfl, hx, hb, hml, hown, hts, hKm, hKK, hK, hA, hcs⟩ := hX
  intro out hf H locs ls hP hD hS hl
  exact lv_l2i hx hb hd rfl (k out hf H locs ls hP hD hS hl)
theorem z_i2l (hX : zIs V l cc own TT KK D cl tys nL R) {x : Int32} (hd : decode cc pc = .ok (.i2l, 1)) (k : zJ V f w (pc + 1) lv (.long x.toInt64 :: st)) : zJ V f w pc lv (.int x :: st) := by
  obtain ⟨p, e, s, m, args, below, meth, c, cells, slots, A, H0, Qo, rfl, hx, hb, hml, hown, hts, hKm, hKK, hK, hA, hcs⟩ := hX
  intro out hf H locs ls hP hD hS hl
  exact lv_i2l hx hb hd rfl (k out hf H locs ls hP hD hS hl)
theorem z_lcmp (hX : zIs V l cc own TT KK D cl tys nL R) {x y : Int64} (hd : decode cc pc = .ok (.lcmp, 1)) (k : zJ V f w (pc + 1) lv (.int (lg_cmp x y) :: st)) : zJ V f w pc lv (.long y :: .long x :: st) := by
  obtain ⟨p, e, s, m, args, below, meth, c, cells, slots, A, H0, Qo, rfl, hx, hb, hml, hown, hts, hKm, hKK, hK, hA, hcs⟩ := hX
  intro out hf H locs ls hP hD hS hl
  exact W.lcmp hx hb hd (k out hf H locs ls hP hD hS hl)
theorem z_dup (hX : zIs V l cc own TT KK D cl tys nL R) {va : Value} (hd : decode cc pc = .ok (.dup, 1)) (h1 : va.category = 1) (k : zJ V f w (pc + 1) lv (va :: va :: st)) : zJ V f w pc lv (va :: st) := by
  obtain ⟨p, e, s, m, args, below, meth, c, cells, slots, A, H0, Qo, rfl, hx, hb, hml, hown, hts, hKm, hKK, hK, hA, hcs⟩ := hX
  intro out hf H locs ls hP hD hS hl
  exact lv_dup hx hb hd h1 (k out hf H locs ls hP hD hS hl)
theorem z_pop (hX : zIs V l cc own TT KK D cl tys nL R) {va : Value} (hd : decode cc pc = .ok (.pop, 1)) (h1 : va.category = 1) (k : zJ V f w (pc + 1) lv (st)) : zJ V f w pc lv (va :: st) := by
  obtain ⟨p, e, s, m, args, below, meth, c, cells, slots, A, H0, Qo, rfl, hx, hb, hml, hown, hts, hKm, hKK, hK, hA, hcs⟩ := hX
  intro out hf H locs ls hP hD hS hl
  exact lv_pop hx hb hd h1 (k out hf H locs ls hP hD hS hl)
theorem z_dup_x1 (hX : zIs V l cc own TT KK D cl tys nL R) {va vb : Value} (hd : decode cc pc = .ok (.dup_x1, 1)) (h1 : va.category = 1) (h2 : vb.category = 1) (k : zJ V f w (pc + 1) lv (va :: vb :: va :: st)) : zJ V f w pc lv (va :: vb :: st) := by
  obtain ⟨p, e, s, m, args, below, meth, c, cells, slots, A, H0, Qo, rfl, hx, hb, hml, hown, hts, hKm, hKK, hK, hA, hcs⟩ := hX
  intro out hf H locs ls hP hD hS hl
  exact lv_dup_x1 hx hb hd h1 h2 (k out hf H locs ls hP hD hS hl)
theorem z_dup2 (hX : zIs V l cc own TT KK D cl tys nL R) {va vb : Value} (hd : decode cc pc = .ok (.dup2, 1)) (h1 : va.category = 1) (h2 : vb.category = 1) (k : zJ V f w (pc + 1) lv (va :: vb :: va :: vb :: st)) : zJ V f w pc lv (va :: vb :: st) := by
  obtain ⟨p, e, s, m, args, below, meth, c, cells, slots, A, H0, Qo, rfl, hx, hb, hml, hown, hts, hKm, hKK, hK, hA, hcs⟩ := hX
  intro out hf H locs ls hP hD hS hl
  exact lv_dup2_11 hx hb hd h1 h2 (k out hf H locs ls hP hD hS hl)
theorem z_istore_n (hX : zIs V l cc own TT KK D cl tys nL R) {j : Fin 4} {i : Nat} {x : Int32} {lv2 : List (Nat × Value)} (hd : decode cc pc = .ok (.istore_n j, 1)) (hi : (j : Nat) = i) (hn : i < nL) (hl2 : (i, Value.int x) :: lv.filter (fun q => !(q.1 == i) && !(q.1 + 1 == i && q.2.category == 2)) = lv2) (k : zJ V f w (pc + 1) lv2 st) : zJ V f w pc lv (.int x :: st) := by
  obtain ⟨p, e, s, m, args, below, meth, c, cells, slots, A, H0, Qo, rfl, hx, hb, hml, hown, hts, hKm, hKK, hK, hA, hcs⟩ := hX
  intro out hf H locs ls hP hD hS hl
  exact lv_istore_n hx hb hd hi hl hn hl2 (fun ls' hl' => k out hf H locs ls' hP hD hS hl')
theorem z_istore (hX : zIs V l cc own TT KK D cl tys nL R) {i : Nat} {x : Int32} {lv2 : List (Nat × Value)} (hd : decode cc pc = .ok (.istore i, 2)) (hn : i < nL) (hl2 : (i, Value.int x) :: lv.filter (fun q => !(q.1 == i) && !(q.1 + 1 == i && q.2.category == 2)) = lv2) (k : zJ V f w (pc + 2) lv2 st) : zJ V f w pc lv (.int x :: st) := by
  obtain ⟨p, e, s, m, args, below, meth, c, cells, slots, A, H0, Qo, rfl, hx, hb, hml, hown, hts, hKm, hKK, hK, hA, hcs⟩ := hX
  intro out hf H locs ls hP hD hS hl
  exact lv_istore hx hb hd hl hn hl2 (fun ls' hl' => k out hf H locs ls' hP hD hS hl')
theorem z_astore_n (hX : zIs V l cc own TT KK D cl tys nL R) {j : Fin 4} {i : Nat} {x : Nat} {lv2 : List (Nat × Value)} (hd : decode cc pc = .ok (.astore_n j, 1)) (hi : (j : Nat) = i) (hn : i < nL) (hl2 : (i, Value.ref x) :: lv.filter (fun q => !(q.1 == i) && !(q.1 + 1 == i && q.2.category == 2)) = lv2) (k : zJ V f w (pc + 1) lv2 st) : zJ V f w pc lv (.ref x :: st) := by
  obtain ⟨p, e, s, m, args, below, meth, c, cells, slots, A, H0, Qo, rfl, hx, hb, hml, hown, hts, hKm, hKK, hK, hA, hcs⟩ := hX
  intro out hf H locs ls hP hD hS hl
  exact lv_astore_n hx hb hd hi hl hn hl2 (fun ls' hl' => k out hf H locs ls' hP hD hS hl')
theorem z_astore (hX : zIs V l cc own TT KK D cl tys nL R) {i : Nat} {x : Nat} {lv2 : List (Nat × Value)} (hd : decode cc pc = .ok (.astore i, 2)) (hn : i < nL) (hl2 : (i, Value.ref x) :: lv.filter (fun q => !(q.1 == i) && !(q.1 + 1 == i && q.2.category == 2)) = lv2) (k : zJ V f w (pc + 2) lv2 st) : zJ V f w pc lv (.ref x :: st) := by
  obtain ⟨p, e, s, m, args, below, meth, c, cells, slots, A, H0, Qo, rfl, hx, hb, hml, hown, hts, hKm, hKK, hK, hA, hcs⟩ := hX
  intro out hf H locs ls hP hD hS hl
  exact lv_astore hx hb hd hl hn hl2 (fun ls' hl' => k out hf H locs ls' hP hD hS hl')
theorem z_lstore_n (hX : zIs V l cc own TT KK D cl tys nL R) {j : Fin 4} {i : Nat} {x : Int64} {lv2 : List (Nat × Value)} (hd : decode cc pc = .ok (.lstore_n j, 1)) (hi : (j : Nat) = i) (hn : i + 1 < nL) (hl2 : (i, Value.long x) :: lv.filter (fun q => !(q.1 == i) && (!(q.1 == i + 1) && !(q.1 + 1 == i && q.2.category == 2))) = lv2) (k : zJ V f w (pc + 1) lv2 st) : zJ V f w pc lv (.long x :: st) := by
  obtain ⟨p, e, s, m, args, below, meth, c, cells, slots, A, H0, Qo, rfl, hx, hb, hml, hown, hts, hKm, hKK, hK, hA, hcs⟩ := hX
  intro out hf H locs ls hP hD hS hl
  exact lv_lstore_n hx hb hd hi hl hn hl2 (fun ls' hl' => k out hf H locs ls' hP hD hS hl')
theorem z_lstore (hX : zIs V l cc own TT KK D cl tys nL R) {i : Nat} {x : Int64} {lv2 : List (Nat × Value)} (hd : decode cc pc = .ok (.lstore i, 2)) (hn : i + 1 < nL) (hl2 : (i, Value.long x) :: lv.filter (fun q => !(q.1 == i) && (!(q.1 == i + 1) && !(q.1 + 1 == i && q.2.category == 2))) = lv2) (k : zJ V f w (pc + 2) lv2 st) : zJ V f w pc lv (.long x :: st) := by
  obtain ⟨p, e, s, m, args, below, meth, c, cells, slots, A, H0, Qo, rfl, hx, hb, hml, hown, hts, hKm, hKK, hK, hA, hcs⟩ := hX
  intro out hf H locs ls hP hD hS hl
  exact lv_lstore hx hb hd hl hn hl2 (fun ls' hl' => k out hf H locs ls' hP hD hS hl')
theorem z_iinc (hX : zIs V l cc own TT KK D cl tys nL R) {i : Nat} {n : Int} {x v : Int32} {lv2 : List (Nat × Value)} (hd : decode cc pc = .ok (.iinc i n, 3)) (k0 : Nat) (hk : lv[k0]? = some (i, .int x)) (hv : x + Int32.ofInt n = v) (hn : i < nL) (hl2 : (i, Value.int v) :: lv.filter (fun q => !(q.1 == i) && !(q.1 + 1 == i && q.2.category == 2)) = lv2) (k : zJ V f w (pc + 3) lv2 st) : zJ V f w pc lv st := by
  obtain ⟨p, e, s, m, args, below, meth, c, cells, slots, A, H0, Qo, rfl, hx, hb, hml, hown, hts, hKm, hKK, hK, hA, hcs⟩ := hX
  intro out hf H locs ls hP hD hS hl
  exact lv_iinc hx hb hd hl hk hv hn hl2 (fun ls' hl' => k out hf H locs ls' hP hD hS hl')
/-- fewer numbered slots, in another order -/
theorem z_lv (hX : zIs V l cc own TT KK D cl tys nL R) (ks : List Nat) {lv2 : List (Nat × Value)} (h : lv_pick lv ks = lv2) (k : zJ V f w pc lv2 st) : zJ V f w pc lv st := by
  obtain ⟨p, e, s, m, args, below, meth, c, cells, slots, A, H0, Qo, rfl, hx, hb, hml, hown, hts, hKm, hKK, hK, hA, hcs⟩ := hX
  intro out hf H locs ls hP hD hS hl
  exact k out hf H locs ls hP hD hS (lv_sub hl ks h)
theorem z_goto (hX : zIs V l cc own TT KK D cl tys nL R) {off : Int} {tgt : Nat} (hd : decode cc pc = .ok (.goto off, 3)) (ht : (pc : Int) + off = (tgt : Int)) (k : zJ V f w tgt lv st) : zJ V f w pc lv st := by
  obtain ⟨p, e, s, m, args, below, meth, c, cells, slots, A, H0, Qo, rfl, hx, hb, hml, hown, hts, hKm, hKK, hK, hA, hcs⟩ := hX
  intro out hf H locs ls hP hD hS hl
  exact lv_goto hx hb hd ht (k out hf H locs ls hP hD hS hl)
theorem z_if_eq (hX : zIs V l cc own TT KK D cl tys nL R) {e1 e2 : Option (α × zS)} {x : Int32} {off : Int} {tgt : Nat} {inst : Decidable (x = 0)} (hd : decode cc pc = .ok (.ifCond .eq off, 3)) (ht : (pc : Int) + off = (tgt : Int)) (k1 : x = 0 → zJ V e1 w tgt lv st) (k2 : ¬ x = 0 → zJ V e2 w (pc + 3) lv st) : zJ V (if x = 0 then e1 else e2) w pc lv (.int x :: st) := by
  obtain ⟨p, e, s, m, args, below, meth, c, cells, slots, A, H0, Qo, rfl, hx, hb, hml, hown, hts, hKm, hKK, hK, hA, hcs⟩ := hX
  intro out hf H locs ls hP hD hS hl
  exact lv_if_eq hx hb hd ht (fun h => k1 h out (by rw [← hf, if_pos h]) H locs ls hP hD hS hl) (fun h => k2 h out (by rw [← hf, if_neg h]) H locs ls hP hD hS hl)
theorem z_if_ne (hX : zIs V l cc own TT KK D cl tys nL R) {e1 e2 : Option (α × zS)} {x : Int32} {off : Int} {tgt : Nat} {inst : Decidable (x = 0)} (hd : decode cc pc = .ok (.ifCond .ne off, 3)) (ht : (pc : Int) + off = (tgt : Int)) (k1 : x = 0 → zJ V e1 w (pc + 3) lv st) (k2 : ¬ x = 0 → zJ V e2 w tgt lv st) : zJ V (if x = 0 then e1 else e2) w pc lv (.int x :: st) := by
  obtain ⟨p, e, s, m, args, below, meth, c, cells, slots, A, H0, Qo, rfl, hx, hb, hml, hown, hts, hKm, hKK, hK, hA, hcs⟩ := hX
  intro out hf H locs ls hP hD hS hl
  exact lv_if_ne hx hb hd ht (fun h => k2 h out (by rw [← hf, if_neg h]) H locs ls hP hD hS hl) (fun h => k1 h out (by rw [← hf, if_pos h]) H locs ls hP hD hS hl)
theorem z_if_lt (hX : zIs V l cc own TT KK D cl tys nL R) {e1 e2 : Option (α × zS)} {x : Int32} {off : Int} {tgt : Nat} {inst : Decidable (x < 0)} (hd : decode cc pc = .ok (.ifCond .lt off, 3)) (ht : (pc : Int) + off = (tgt : Int)) (k1 : x < 0 → zJ V e1 w tgt lv st) (k2 : ¬ x < 0 → zJ V e2 w (pc + 3) lv st) : zJ V (if x < 0 then e1 else e2) w pc lv (.int x :: st) := by
  obtain ⟨p, e, s, m, args, below, meth, c, cells, slots, A, H0, Qo, rfl, hx, hb, hml, hown, hts, hKm, hKK, hK, hA, hcs⟩ := hX
  intro out hf H locs ls hP hD hS hl
  exact lv_if_lt hx hb hd ht (fun h => k1 h out (by rw [← hf, if_pos h]) H locs ls hP hD hS hl) (fun h => k2 h out (by rw [← hf, if_neg h]) H locs ls hP hD hS hl)
theorem z_if_ge (hX : zIs V l cc own TT KK D cl tys nL R) {e1 e2 : Option (α × zS)} {x : Int32} {off : Int} {tgt : Nat} {inst : Decidable (x < 0)} (hd : decode cc pc = .ok (.ifCond .ge off, 3)) (ht : (pc : Int) + off = (tgt : Int)) (k1 : x < 0 → zJ V e1 w (pc + 3) lv st) (k2 : ¬ x < 0 → zJ V e2 w tgt lv st) : zJ V (if x < 0 then e1 else e2) w pc lv (.int x :: st) := by
  obtain ⟨p, e, s, m, args, below, meth, c, cells, slots, A, H0, Qo, rfl, hx, hb, hml, hown, hts, hKm, hKK, hK, hA, hcs⟩ := hX
  intro out hf H locs ls hP hD hS hl
  exact lv_if_ge hx hb hd ht (fun h => k2 (Int32.not_lt.mpr h) out (by rw [← hf, if_neg (Int32.not_lt.mpr h)]) H locs ls hP hD hS hl) (fun h => k1 (Int32.not_le.mp h) out (by rw [← hf, if_pos (Int32.not_le.mp h)]) H locs ls hP hD hS hl)
theorem z_if_gt (hX : zIs V l cc own TT KK D cl tys nL R) {e1 e2 : Option (α × zS)} {x : Int32} {off : Int} {tgt : Nat} {inst : Decidable (0 < x)} (hd : decode cc pc = .ok (.ifCond .gt off, 3)) (ht : (pc : Int) + off = (tgt : Int)) (k1 : 0 < x → zJ V e1 w tgt lv st) (k2 : ¬ 0 < x → zJ V e2 w (pc + 3) lv st) : zJ V (if 0 < x then e1 else e2) w pc lv (.int x :: st) := by
  obtain ⟨p, e, s, m, args, below, meth, c, cells, slots, A, H0, Qo, rfl, hx, hb, hml, hown, hts, hKm, hKK, hK, hA, hcs⟩ := hX
  intro out hf H locs ls hP hD hS hl
  exact lv_if_gt hx hb hd ht (fun h => k1 h out (by rw [← hf, if_pos h]) H locs ls hP hD hS hl) (fun h => k2 h out (by rw [← hf, if_neg h]) H locs ls hP hD hS hl)
theorem z_if_le (hX : zIs V l cc own TT KK D cl tys nL R) {e1 e2 : Option (α × zS)} {x : Int32} {off : Int} {tgt : Nat} {inst : Decidable (0 < x)} (hd : decode cc pc = .ok (.ifCond .le off, 3)) (ht : (pc : Int) + off = (tgt : Int)) (k1 : 0 < x → zJ V e1 w (pc + 3) lv st) (k2 : ¬ 0 < x → zJ V e2 w tgt lv st) : zJ V (if 0 < x then e1 else e2) w pc lv (.int x :: st) := by
  obtain ⟨p, e, s, m, args, below, meth, c, cells, slots, A, H0, Qo, rfl, hx, hb, hml, hown, hts, hKm, hKK, hK, hA, hcs⟩ := hX
  intro out hf H locs ls hP hD hS hl
  exact lv_if_le hx hb hd ht (fun h => k2 (Int32.not_lt.mpr h) out (by rw [← hf, if_neg (Int32.not_lt.mpr h)]) H locs ls hP hD hS hl) (fun h => k1 (Int32.not_le.mp h) out (by rw [← hf, if_pos (Int32.not_le.mp h)]) H locs ls hP hD hS hl)
theorem z_icmp_eq (hX : zIs V l cc own TT KK D cl tys nL R) {e1 e2 : Option (α × zS)} {x y : Int32} {off : Int} {tgt : Nat} {inst : Decidable (x = y)} (hd : decode cc pc = .ok (.if_icmp .eq off, 3)) (ht : (pc : Int) + off = (tgt : Int)) (k1 : x = y → zJ V e1 w tgt lv st) (k2 : ¬ x = y → zJ V e2 w (pc + 3) lv st) : zJ V (if x = y then e1 else e2) w pc lv (.int y :: .int x :: st) := by
  obtain ⟨p, e, s, m, args, below, meth, c, cells, slots, A, H0, Qo, rfl, hx, hb, hml, hown, hts, hKm, hKK, hK, hA, hcs⟩ := hX
  intro out hf H locs ls hP hD hS hl
  exact lv_icmp_eq hx hb hd ht (fun h => k1 h out (by rw [← hf, if_pos h]) H locs ls hP hD hS hl) (fun h => k2 h out (by rw [← hf, if_neg h]) H locs ls hP hD hS hl)
theorem z_icmp_ne (hX : zIs V l cc own TT KK D cl tys nL R) {e1 e2 : Option (α × zS)} {x y : Int32} {off : Int} {tgt : Nat} {inst : Decidable (x = y)} (hd : decode cc pc = .ok (.if_icmp .ne off, 3)) (ht : (pc : Int) + off = (tgt : Int)) (k1 : x = y → zJ V e1 w (pc + 3) lv st) (k2 : ¬ x = y → zJ V e2 w tgt lv st) : zJ V (if x = y then e1 else e2) w pc lv (.int y :: .int x :: st) := by
  obtain ⟨p, e, s, m, args, below, meth, c, cells, slots, A, H0, Qo, rfl, hx, hb, hml, hown, hts, hKm, hKK, hK, hA, hcs⟩ := hX
  intro out hf H locs ls hP hD hS hl
  exact lv_icmp_ne hx hb hd ht (fun h => k2 h out (by rw [← hf, if_neg h]) H locs ls hP hD hS hl) (fun h => k1 h out (by rw [← hf, if_pos h]) H locs ls hP hD hS hl)
theorem z_icmp_lt (hX : zIs V l cc own TT KK D cl tys nL R) {e1 e2 : Option (α × zS)} {x y : Int32} {off : Int} {tgt : Nat} {inst : Decidable (x < y)} (hd : decode cc pc = .ok (.if_icmp .lt off, 3)) (ht : (pc : Int) + off = (tgt : Int)) (k1 : x < y → zJ V e1 w tgt lv st) (k2 : ¬ x < y → zJ V e2 w (pc + 3) lv st) : zJ V (if x < y then e1 else e2) w pc lv (.int y :: .int x :: st) := by
  obtain ⟨p, e, s, m, args, below, meth, c, cells, slots, A, H0, Qo, rfl, hx, hb, hml, hown, hts, hKm, hKK, hK, hA, hcs⟩ := hX
  intro out hf H locs ls hP hD hS hl
  exact lv_icmp_lt hx hb hd ht (fun h => k1 h out (by rw [← hf, if_pos h]) H locs ls hP hD hS hl) (fun h => k2 h out (by rw [← hf, if_neg h]) H locs ls hP hD hS hl)
theorem z_icmp_ge (hX : zIs V l cc own TT KK D cl tys nL R) {e1 e2 : Option (α × zS)} {x y : Int32} {off : Int} {tgt : Nat} {inst : Decidable (x < y)} (hd : decode cc pc = .ok (.if_icmp .ge off, 3)) (ht : (pc : Int) + off = (tgt : Int)) (k1 : x < y → zJ V e1 w (pc + 3) lv st) (k2 : ¬ x < y → zJ V e2 w tgt lv st) : zJ V (if x < y then e1 else e2) w pc lv (.int y :: .int x :: st) := by
  obtain ⟨p, e, s, m, args, below, meth, c, cells, slots, A, H0, Qo, rfl, hx, hb, hml, hown, hts, hKm, hKK, hK, hA, hcs⟩ := hX
  intro out hf H locs ls hP hD hS hl
  exact lv_icmp_ge hx hb hd ht (fun h => k2 (Int32.not_lt.mpr h) out (by rw [← hf, if_neg (Int32.not_lt.mpr h)]) H locs ls hP hD hS hl) (fun h => k1 (Int32.not_le.mp h) out (by rw [← hf, if_pos (Int32.not_le.mp h)]) H locs ls hP hD hS hl)
theorem z_icmp_gt (hX : zIs V l cc own TT KK D cl tys nL R) {e1 e2 : Option (α × zS)} {x y : Int32} {off : Int} {tgt : Nat} {inst : Decidable (y < x)} (hd : decode cc pc = .ok (.if_icmp .gt off, 3)) (ht : (pc : Int) + off = (tgt : Int)) (k1 : y < x → zJ V e1 w tgt lv st) (k2 : ¬ y < x → zJ V e2 w (pc + 3) lv st) : zJ V (if y < x then e1 else e2) w pc lv (.int y :: .int x :: st) := by
  obtain ⟨p, e, s, m, args, below, meth, c, cells, slots, A, H0, Qo, rfl, hx, hb, hml, hown, hts, hKm, hKK, hK, hA, hcs⟩ := hX
  intro out hf H locs ls hP hD hS hl
  exact lv_icmp_gt hx hb hd ht (fun h => k1 h out (by rw [← hf, if_pos h]) H locs ls hP hD hS hl) (fun h => k2 h out (by rw [← hf, if_neg h]) H locs ls hP hD hS hl)
theorem z_icmp_le (hX : zIs V l cc own TT KK D cl tys nL R) {e1 e2 : Option (α × zS)} {x y : Int32} {off : Int} {tgt : Nat} {inst : Decidable (y < x)} (hd : decode cc pc = .ok (.if_icmp .le off, 3)) (ht : (pc : Int) + off = (tgt : Int)) (k1 : y < x → zJ V e1 w (pc + 3) lv st) (k2 : ¬ y < x → zJ V e2 w tgt lv st) : zJ V (if y < x then e1 else e2) w pc lv (.int y :: .int x :: st) := by
  obtain ⟨p, e, s, m, args, below, meth, c, cells, slots, A, H0, Qo, rfl, hx, hb, hml, hown, hts, hKm, hKK, hK, hA, hcs⟩ := hX
  intro out hf H locs ls hP hD hS hl
  exact lv_icmp_le hx hb hd ht (fun h => k2 (Int32.not_lt.mpr h) out (by rw [← hf, if_neg (Int32.not_lt.mpr h)]) H locs ls hP hD hS hl) (fun h => k1 (Int32.not_le.mp h) out (by rw [← hf, if_pos (Int32.not_le.mp h)]) H locs ls hP hD hS hl)
/-- a question that the machine asks later on: both ways at one place -/
theorem z_by {c : Prop} {inst : Decidable c} {e1 e2 : Option (α × zS)} (k1 : c → zJ V e1 w pc lv st) (k2 : ¬ c → zJ V e2 w pc lv st) : zJ V (if c then e1 else e2) w pc lv st := by
  intro out hf
  by_cases h : c
  · exact k1 h out (by rw [← hf, if_pos h])
  · exact k2 h out (by rw [← hf, if_neg h])
/-- a guard -/
theorem z_gd {b : Bool} (k : b = true → zJ V f w pc lv st) : zJ V (zgd b f) w pc lv st := by
  intro out hf
  cases hb : b with
  | true => rw [hb] at hf; exact k hb out hf
  | false => rw [hb] at hf; cases hf
theorem z_none : zJ V none w pc lv st := fun out hf => by cases hf
theorem z_tabIn (hX : zIs V l cc own TT KK D cl tys nL R) {dflt lo hi : Int} {offs : Array Int} {len : Nat} {x : Int32} {off : Int} {tgt : Nat} (hd : decode cc pc = .ok (.tableswitch dflt lo hi offs, len)) (h1 : ¬ x.toInt < lo) (h2 : ¬ hi < x.toInt) (ho : offs[(x.toInt - lo).toNat]? = some off) (ht : (pc : Int) + off = (tgt : Int)) (k : zJ V f w tgt lv st) : zJ V f w pc lv (.int x :: st) := by
  obtain ⟨p, e, s, m, args, below, meth, c, cells, slots, A, H0, Qo, rfl, hx, hb, hml, hown, hts, hKm, hKK, hK, hA, hcs⟩ := hX
  intro out hf H locs ls hP hD hS hl
  exact lv_tableIn hx hb hd h1 h2 ho ht (k out hf H locs ls hP hD hS hl)
theorem z_tabOut (hX : zIs V l cc own TT KK D cl tys nL R) {dflt lo hi : Int} {offs : Array Int} {len : Nat} {x : Int32} {tgt : Nat} (hd : decode cc pc = .ok (.tableswitch dflt lo hi offs, len)) (h : x.toInt < lo ∨ hi < x.toInt) (ht : (pc : Int) + dflt = (tgt : Int)) (k : zJ V f w tgt lv st) : zJ V f w pc lv (.int x :: st) := by
  obtain ⟨p, e, s, m, args, below, meth, c, cells, slots, A, H0, Qo, rfl, hx, hb, hml, hown, hts, hKm, hKK, hK, hA, hcs⟩ := hX
  intro out hf H locs ls hP hD hS hl
  exact lv_tableOut hx hb hd h ht (k out hf H locs ls hP hD hS hl)
theorem z_ldc (hX : zIs V l cc own TT KK D cl tys nL R) {index : Nat} {v : Int32} (hc : Cond.constant own index v ∈ TT) (hd : decode cc pc = .ok (.ldc index, 2)) (k : zJ V f w (pc + 2) lv (.int v :: st)) : zJ V f w pc lv st := by
  obtain ⟨p, e, s, m, args, below, meth, c, cells, slots, A, H0, Qo, rfl, hx, hb, hml, hown, hts, hKm, hKK, hK, hA, hcs⟩ := hX
  intro out hf H locs ls hP hD hS hl
  exact lv_ldc hx hb hown (hts _ hc) hd (k out hf H locs ls hP hD hS hl)
theorem z_ldcw (hX : zIs V l cc own TT KK D cl tys nL R) {index : Nat} {v : Int32} (hc : Cond.constant own index v ∈ TT) (hd : decode cc pc = .ok (.ldc_w index, 3)) (k : zJ V f w (pc + 3) lv (.int v :: st)) : zJ V f w pc lv st := by
  obtain ⟨p, e, s, m, args, below, meth, c, cells, slots, A, H0, Qo, rfl, hx, hb, hml, hown, hts, hKm, hKK, hK, hA, hcs⟩ := hX
  intro out hf H locs ls hP hD hS hl
  exact lv_ldcw hx hb hown (hts _ hc) hd (k out hf H locs ls hP hD hS hl)
theorem z_ldc2 (hX : zIs V l cc own TT KK D cl tys nL R) {index : Nat} {v : Int64} (hc : Cond.constantLong own index v ∈ TT) (hd : decode cc pc = .ok (.ldc2_w index, 3)) (k : zJ V f w (pc + 3) lv (.long v :: st)) : zJ V f w pc lv st := by
  obtain ⟨p, e, s, m, args, below, meth, c, cells, slots, A, H0, Qo, rfl, hx, hb, hml, hown, hts, hKm, hKK, hK, hA, hcs⟩ := hX
  intro out hf H locs ls hP hD hS hl
  exact lv_ldc2 hx hb hown (hts _ hc) hd (k out hf H locs ls hP hD hS hl)
theorem z_get (hX : zIs V l cc own TT KK D cl tys nL R) {C : String} {T : u_T} {N ci index a : Nat} {fs : List Value} {v : Value} (hin : ∀ w ∈ u_ws C T N, w ∈ TT) (q0 : Nat) (he : w[q0]? = some (a, .inr (ci, fs))) (hc : cl[ci]? = some (C, T, N)) (k0 : Nat) (hk : k0 < N) (hlink : Cond.fieldLink own index (T k0).1 (T k0).2.1 (T k0).2.2.1 ∈ TT) (hv : fs[k0]? = some v) (hd : decode cc pc = .ok (.getfield index, 3)) (k : zJ V f w (pc + 3) lv (v :: st)) : zJ V f w pc lv (.ref a :: st) := by
  obtain ⟨p, e, s, m, args, below, meth, c, cells, slots, A, H0, Qo, rfl, hx, hb, hml, hown, hts, hKm, hKK, hK, hA, hcs⟩ := hX
  intro out hf H locs ls hP hD hS hl
  exact va_get hx hb hts hin hown hK hP q0 he hc k0 hk (hts _ hlink) (fun _ h => h) hv hd (k out hf H locs ls hP hD hS hl)
theorem z_put (hX : zIs V l cc own TT KK D cl tys nL R) {C : String} {T : u_T} {N ci index a : Nat} {fs : List Value} {v : Value} {w2 : va_W} (hin : ∀ w ∈ u_ws C T N, w ∈ TT) (ty0 : Nat → FieldType) (hty : ∀ k, k < N → parseFieldDescriptor (T k).2.2.1 = some (ty0 k)) (hnm : ∀ a, a < N → ∀ b, b < N → a ≠ b → (T a).2.1 ≠ (T b).2.1) (q0 : Nat) (he : w[q0]? = some (a, .inr (ci, fs))) (hc : cl[ci]? = some (C, T, N)) (k0 : Nat) (hk : k0 < N) (hlink : Cond.fieldLink own index (T k0).1 (T k0).2.1 (T k0).2.2.1 ∈ TT) (hfin : (T k0).2.2.2 = false) (hn : narrow (ty0 k0) v = v) (hfit : fits (ty0 k0) v = true) (hl : k0 < fs.length) (hw : w.set q0 (a, .inr (ci, fs.set k0 v)) = w2) (hd : decode cc pc = .ok (.putfield index, 3)) (k : zJ V f w2 (pc + 3) lv st) : zJ V f w pc lv (v :: .ref a :: st) := by
  obtain ⟨p, e, s, m, args, below, meth, c, cells, slots, A, H0, Qo, rfl, hx, hb, hml, hown, hts, hKm, hKK, hK, hA, hcs⟩ := hX
  intro out hf H locs ls hP hD hS hl9
  subst hw
  exact va_put hx hb hts hin ty0 hty hnm hown hK hP hD hS q0 he hc k0 hk (hts _ hlink) (fun _ h => h) hfin (hty k0 hk) hn hfit hl hd (fun H1 locs1 h1 h2 h3 => k out hf H1 locs1 ls h1 h2 h3 hl9)
theorem z_iald (hX : zIs V l cc own TT KK D cl tys nL R) {a n : Nat} {cA : ClassId} {g : Nat → Int32} {i : Int32} (q0 t0 : Nat) (ha : w[q0]? = some (a, .inl (cA, n, .inl g))) (ht : tys[t0]? = some (cA, .int)) (hd : decode cc pc = .ok (.iaload, 1)) (k : zJ V f w (pc + 1) lv (.int (g i.toNatClampNeg) :: st)) : zJ V (zgd (zin i n) f) w pc lv (.int i :: .ref a :: st) := by
  refine z_gd (fun hi => ?_)
  obtain ⟨p, e, s, m, args, below, meth, c, cells, slots, A, H0, Qo, rfl, hx, hb, hml, hown, hts, hKm, hKK, hK, hA, hcs⟩ := hX
  intro out hf H locs ls hP hD hS hl
  exact va_iald hx hb hK hP q0 t0 ha ht (zin_vp hi) hd (k out hf H locs ls hP hD hS hl)
theorem z_zald (hX : zIs V l cc own TT KK D cl tys nL R) {a n : Nat} {cA : ClassId} {g : Nat → Int32} {i : Int32} (q0 t0 : Nat) (ha : w[q0]? = some (a, .inl (cA, n, .inl g))) (ht : tys[t0]? = some (cA, .boolean)) (hd : decode cc pc = .ok (.baload, 1)) (k : zJ V f w (pc + 1) lv (.int (g i.toNatClampNeg) :: st)) : zJ V (zgd (zin i n) f) w pc lv (.int i :: .ref a :: st) := by
  refine z_gd (fun hi => ?_)
  obtain ⟨p, e, s, m, args, below, meth, c, cells, slots, A, H0, Qo, rfl, hx, hb, hml, hown, hts, hKm, hKK, hK, hA, hcs⟩ := hX
  intro out hf H locs ls hP hD hS hl
  exact va_zald hx hb hK hP q0 t0 ha ht (zin_vp hi) hd (k out hf H locs ls hP hD hS hl)
theorem z_bald (hX : zIs V l cc own TT KK D cl tys nL R) {a n : Nat} {cA : ClassId} {g : Nat → Int32} {i : Int32} (q0 t0 : Nat) (ha : w[q0]? = some (a, .inl (cA, n, .inl g))) (ht : tys[t0]? = some (cA, .byte)) (hd : decode cc pc = .ok (.baload, 1)) (k : zJ V f w (pc + 1) lv (.int (g i.toNatClampNeg) :: st)) : zJ V (zgd (zin i n) f) w pc lv (.int i :: .ref a :: st) := by
  refine z_gd (fun hi => ?_)
  obtain ⟨p, e, s, m, args, below, meth, c, cells, slots, A, H0, Qo, rfl, hx, hb, hml, hown, hts, hKm, hKK, hK, hA, hcs⟩ := hX
  intro out hf H locs ls hP hD hS hl
  exact va_bald hx hb hK hP q0 t0 ha ht (zin_vp hi) hd (k out hf H locs ls hP hD hS hl)
theorem z_lald (hX : zIs V l cc own TT KK D cl tys nL R) {a n : Nat} {cA : ClassId} {g : Nat → Int64} {i : Int32} (q0 t0 : Nat) (ha : w[q0]? = some (a, .inl (cA, n, .inr (.inl g)))) (ht : tys[t0]? = some (cA, .long)) (hd : decode cc pc = .ok (.laload, 1)) (k : zJ V f w (pc + 1) lv (.long (g i.toNatClampNeg) :: st)) : zJ V (zgd (zin i n) f) w pc lv (.int i :: .ref a :: st) := by
  refine z_gd (fun hi => ?_)
  obtain ⟨p, e, s, m, args, below, meth, c, cells, slots, A, H0, Qo, rfl, hx, hb, hml, hown, hts, hKm, hKK, hK, hA, hcs⟩ := hX
  intro out hf H locs ls hP hD hS hl
  exact va_lald hx hb hK hP q0 t0 ha ht (zin_vp hi) hd (k out hf H locs ls hP hD hS hl)
theorem z_iast (hX : zIs V l cc own TT KK D cl tys nL R) {a n : Nat} {cA : ClassId} {g : Nat → Int32} {i : Int32} {x : Int32} {w2 : va_W} (q0 t0 : Nat) (ha : w[q0]? = some (a, .inl (cA, n, .inl g))) (ht : tys[t0]? = some (cA, .int)) (hw : w.set q0 (a, .inl (cA, n, .inl (upd g i.toNatClampNeg x))) = w2) (hd : decode cc pc = .ok (.iastore, 1)) (k : zJ V f w2 (pc + 1) lv st) : zJ V (zgd (zin i n) f) w pc lv (.int x :: .int i :: .ref a :: st) := by
  refine z_gd (fun hi => ?_)
  obtain ⟨p, e, s, m, args, below, meth, c, cells, slots, A, H0, Qo, rfl, hx, hb, hml, hown, hts, hKm, hKK, hK, hA, hcs⟩ := hX
  intro out hf H locs ls hP hD hS hl
  subst hw
  exact va_iast hx hb hK hP hD hS q0 t0 ha ht (zin_vp hi) hd (fun H1 locs1 h1 h2 h3 => k out hf H1 locs1 ls h1 h2 h3 hl)
theorem z_zast (hX : zIs V l cc own TT KK D cl tys nL R) {a n : Nat} {cA : ClassId} {g : Nat → Int32} {i : Int32} {x : Int32} {w2 : va_W} (q0 t0 : Nat) (ha : w[q0]? = some (a, .inl (cA, n, .inl g))) (ht : tys[t0]? = some (cA, .boolean)) (hw : w.set q0 (a, .inl (cA, n, .inl (upd g i.toNatClampNeg (vp_nar .boolean x)))) = w2) (hd : decode cc pc = .ok (.bastore, 1)) (k : zJ V f w2 (pc + 1) lv st) : zJ V (zgd (zin i n) f) w pc lv (.int x :: .int i :: .ref a :: st) := by
  refine z_gd (fun hi => ?_)
  obtain ⟨p, e, s, m, args, below, meth, c, cells, slots, A, H0, Qo, rfl, hx, hb, hml, hown, hts, hKm, hKK, hK, hA, hcs⟩ := hX
  intro out hf H locs ls hP hD hS hl
  subst hw
  exact va_zast hx hb hK hP hD hS q0 t0 ha ht (zin_vp hi) hd (fun H1 locs1 h1 h2 h3 => k out hf H1 locs1 ls h1 h2 h3 hl)
theorem z_bast (hX : zIs V l cc own TT KK D cl tys nL R) {a n : Nat} {cA : ClassId} {g : Nat → Int32} {i : Int32} {x : Int32} {w2 : va_W} (q0 t0 : Nat) (ha : w[q0]? = some (a, .inl (cA, n, .inl g))) (ht : tys[t0]? = some (cA, .byte)) (hw : w.set q0 (a, .inl (cA, n, .inl (upd g i.toNatClampNeg (vp_nar .byte x)))) = w2) (hd : decode cc pc = .ok (.bastore, 1)) (k : zJ V f w2 (pc + 1) lv st) : zJ V (zgd (zin i n) f) w pc lv (.int x :: .int i :: .ref a :: st) := by
  refine z_gd (fun hi => ?_)
  obtain ⟨p, e, s, m, args, below, meth, c, cells, slots, A, H0, Qo, rfl, hx, hb, hml, hown, hts, hKm, hKK, hK, hA, hcs⟩ := hX
  intro out hf H locs ls hP hD hS hl
  subst hw
  exact va_bast hx hb hK hP hD hS q0 t0 ha ht (zin_vp hi) hd (fun H1 locs1 h1 h2 h3 => k out hf H1 locs1 ls h1 h2 h3 hl)
theorem z_last (hX : zIs V l cc own TT KK D cl tys nL R) {a n : Nat} {cA : ClassId} {g : Nat → Int64} {i : Int32} {x : Int64} {w2 : va_W} (q0 t0 : Nat) (ha : w[q0]? = some (a, .inl (cA, n, .inr (.inl g)))) (ht : tys[t0]? = some (cA, .long)) (hw : w.set q0 (a, .inl (cA, n, .inr (.inl (vp_updL g i.toNatClampNeg x)))) = w2) (hd : decode cc pc = .ok (.lastore, 1)) (k : zJ V f w2 (pc + 1) lv st) : zJ V (zgd (zin i n) f) w pc lv (.long x :: .int i :: .ref a :: st) := by
  refine z_gd (fun hi => ?_)
  obtain ⟨p, e, s, m, args, below, meth, c, cells, slots, A, H0, Qo, rfl, hx, hb, hml, hown, hts, hKm, hKK, hK, hA, hcs⟩ := hX
  intro out hf H locs ls hP hD hS hl
  subst hw
  exact va_last hx hb hK hP hD hS q0 t0 ha ht (zin_vp hi) hd (fun H1 locs1 h1 h2 h3 => k out hf H1 locs1 ls h1 h2 h3 hl)
end ZR
section ZE
variable {cc : ByteArray} {wl : zS → va_W} {ex : va_W} {σ : zS} {pc : Nat} {lv : List (Nat × Value)}
theorem z_iret {V : zV Int32} {r : Int32} (hR : zRi V cc wl ex) (hd : decode cc pc = .ok (.ireturn, 1)) : zJ V (some (r, σ)) (wl σ ++ ex) pc lv [.int r] := fun out hf => by cases hf; exact hR σ r pc lv hd
theorem z_zret {V : zV Int32} {r : Int32} (hR : zRz V cc wl ex) (hn : narrow .boolean (.int r) = .int r) (hd : decode cc pc = .ok (.ireturn, 1)) : zJ V (some (r, σ)) (wl σ ++ ex) pc lv [.int r] := fun out hf => by cases hf; exact hR σ r pc lv hn hd
def zbo (r : Int32) : Bool := decide (r = 0 ∨ r = 1)
theorem zbo_n {r : Int32} (h : zbo r = true) : narrow .boolean (.int r) = .int r := by
  rcases (of_decide_eq_true h : r = 0 ∨ r = 1) with rfl | rfl <;> rfl
theorem z_zretg {V : zV Int32} {r : Int32} (hR : zRz V cc wl ex) (hd : decode cc pc = .ok (.ireturn, 1)) : zJ V (zgd (zbo r) (some (r, σ))) (wl σ ++ ex) pc lv [.int r] := z_gd (fun h => z_zret hR (zbo_n h) hd)
theorem z_lret {V : zV Int64} {r : Int64} (hR : zRl V cc wl ex) (hd : decode cc pc = .ok (.lreturn, 1)) : zJ V (some (r, σ)) (wl σ ++ ex) pc lv [.long r] := fun out hf => by cases hf; exact hR σ r pc lv hd
theorem z_vret {V : zV Unit} (hR : zRv V cc wl ex) (hd : decode cc pc = .ok (.return_, 1)) : zJ V (some ((), σ)) (wl σ ++ ex) pc lv [] := fun out hf => by cases hf; exact hR σ pc lv hd
end ZE
section ZCALL
variable {p : Program} {l : Launch} {e : Env} {R : Room} {s : State} {m : MethodId} {args : Array Value} {below : List Frame} {meth : Method} {c : Code} {H : Heap} {locs : List Loc} {cells slots : Nat} {Q : State → Prop}
theorem z_call {β : Type} {em : β → Option Value} {pc : Nat} {ls : Array Slot} {rest st0 : List Value} {D : va_G} {cl : List vw_C} {w w1 : va_W} {A : Nat → Prop} {H0 : Heap} {r : β}
    (hr : va_Run p l e R s m args below meth c H locs cells slots 0 0 (F0 m pc ls st0) rest (fun st oc t => (oc = .returned (em r) ∧ va_P D cl w1 t.heap ∧ va_D (va_A w H.size) w1) ∧ va_F (va_A w H.size) st t) (va_A w H.size))
    (hD : va_D A w) (hS : va_S A H0 H locs) (hA : ∀ q, H0.size ≤ q → A q)
    (kk : ∀ (H1 : Heap) (locs1 : List Loc), va_P D cl w1 H1 → va_D A w1 → va_S A H0 H1 locs1 → W p l e R s m args below meth c H1 locs1 cells slots Q (F0 m (pc + 3) ls ((em r).toList ++ rest))) : W p l e R s m args below meth c H locs cells slots Q (F0 m pc ls st0) := by
  intro T hT X
  obtain ⟨v, st₀, t, T', L, h0, X', hL, e1, e2, ⟨⟨hv, hp, hd⟩, hz, hk⟩, st⟩ := hr T hT X
  have hv := Outcome.returned.inj hv
  subst hv
  rw [h0] at hz hk
  have hAA : ∀ q, va_A w H.size q → A q := fun q h => by
    rcases h with ⟨k, e9, h⟩ | h
    · exact hD.2 k (q, e9) h
    · exact hA q (Nat.le_trans hS.1 h)
  obtain ⟨t2, a1, b1⟩ := kk T'.heap (locs ++ L) (by rw [e1]; exact hp) (hd.weaken (fun k q _ h => hAA q.1 h))
    ⟨Nat.le_trans hS.1 (by rw [e1]; exact hz), fun q h1 h2 => by rw [e1, hk q (Nat.lt_of_lt_of_le h1 hS.1) (fun z => h2 (hAA q z))]; exact hS.2.1 q h1 h2, fun q hq => by
      rcases List.mem_append.mp hq with h | h
      · exact hS.2.2 q h
      · exact hAA _ (hL q h)⟩ T' rfl X'
  exact ⟨t2, st t2 a1, b1⟩
end ZCALL
theorem zb_some {β γ : Type} {x : Option (β × zS)} {k : β → zS → Option γ} {out : γ} (h : zb x k = some out) : ∃ (r : β) (σ1 : zS), x = some (r, σ1) ∧ k r σ1 = some out := by
  cases x with
  | none => cases h
  | some o => exact ⟨o.1, o.2, rfl, h⟩
/-- words of a list that holds good words alone -/
theorem z_good {big ws : List Cond} (hb : ∀ w ∈ big, goodWord w = true) (h : ∀ w ∈ ws, w ∈ big) : GoodIn big ws := fun w hw => ⟨h w hw, good_of_word (hb w (h w hw))⟩
section ZCR
variable {α : Type} {V : zV α} {l : Launch} {cc : ByteArray} {own : String} {TT : List Cond} {KK : State → Prop} {D : va_G} {cl : List vw_C} {tys : List (ClassId × FieldType)} {nL : Nat} {R : Room} {pc : Nat} {lv : List (Nat × Value)} {st rest : List Value} {wl : zS → va_W} {σ : zS} {ex : va_W} {y : MethodName} {bytes : ByteArray} {maxL index : Nat} {ret : Option FieldType} {rm : Room}

theorem z_callVi (hX : zIs V l cc own TT KK D cl tys nL R) {fC : Option (Int32 × zS)} {k : Int32 → zS → Option (α × zS)} {C : String} {b ci : Nat} {fs : List Value} {cv : vw_C} {n : Nat} (As : List Value) (hM : zC zemI l y (Cond.code y bytes maxL ret :: TT) rm D cl KK wl σ (.ref b :: As) fC) (hT : GoodIn TT (wsV own index C y (Cond.code y bytes maxL ret :: TT))) (hrm : rm.cells = 0 ∧ rm.slots = 0) (hR : rm.frames + 1 ≤ R.frames ∧ 8 + (maxL + 11) + rm.locals ≤ R.locals) (hd : y.cls = C ∧ y.cls ≠ "java/lang/invoke/MethodHandle" ∧ y.cls ≠ "java/lang/invoke/VarHandle" ∧ (parseMethodDescriptor y.desc).map (fun d => d.parameters.length) = some n) (hn : As.length = n)
    (q0 : Nat) (hq : (wl σ ++ ex)[q0]? = some (b, .inr (ci, fs))) (hc : cl[ci]? = some cv) (hcv : cv.1 = C) (hst : st = As.reverse ++ .ref b :: rest) (hW : (rest.map fun v => v.category).sum ≤ 8) (hdg : decode cc pc = .ok (.invokevirtual index, 3))
    (kk : ∀ (r : Int32) (σ1 : zS), zJ V (k r σ1) (wl σ1 ++ ex) (pc + 3) lv (.int r :: rest)) : zJ V (zb fC k) (wl σ ++ ex) pc lv st := by
  obtain ⟨p, e, s, m, args, below, meth, c, cells, slots, A, H0, Qo, rfl, hx, hb, hml, hown, hts, hKm, hKK, hK, hA, hcs⟩ := hX
  intro out hf
  obtain ⟨r, σ1, hfc, hk⟩ := zb_some hf
  intro H locs ls hP hD hS hl
  have hMr := hM (r, σ1) ex H.size hfc
  subst hst
  subst hcv
  exact z_call (em := zemI) (w := wl σ ++ ex) (w1 := wl σ1 ++ ex) (r := r) (va_runV (As := As) (rest := rest) ⟨hx, hb, hml, hown, hts⟩ hMr (cwV n hts hT rfl hrm.1 hrm.2 hd hR) ⟨fun a U g mk q => by obtain ⟨q0, q1, qP, qK, qD⟩ := q; exact ⟨q0, q1, qP, hKm.2 U g mk a qK, qD⟩, va_recv hK hP hc hq, fun U hU hW => ⟨rfl, by rw [hU], by rw [hU]; exact hP, hKm.1 _ U hW hKK, hD.weaken (fun _ _ _ _ => trivial)⟩⟩ rfl hn hl.1 rfl (lv_room hW) hdg ⟨by rw [Nat.add_zero]; exact hcs.1, by rw [Nat.add_zero]; exact hcs.2⟩) hD hS hA (fun H1 locs1 h1 h2 h3 => kk r σ1 out hk H1 locs1 ls h1 h2 h3 hl)
theorem z_callSi (hX : zIs V l cc own TT KK D cl tys nL R) {fC : Option (Int32 × zS)} {k : Int32 → zS → Option (α × zS)} {n : Nat} (As : List Value) (hM : zC zemI l y (Cond.code y bytes maxL ret :: TT) rm D cl KK wl σ As fC) (hT : GoodIn TT (va_wsS own index y (Cond.code y bytes maxL ret :: TT))) (hrm : rm.cells = 0 ∧ rm.slots = 0) (hR : rm.frames + 1 ≤ R.frames ∧ 8 + (maxL + 11) + rm.locals ≤ R.locals) (hd : y.cls ≠ "java/lang/invoke/MethodHandle" ∧ y.cls ≠ "java/lang/invoke/VarHandle" ∧ (parseMethodDescriptor y.desc).map (fun d => d.parameters.length) = some n) (hn : As.length = n)
    (hst : st = As.reverse ++ rest) (hW : (rest.map fun v => v.category).sum ≤ 8) (hdg : decode cc pc = .ok (.invokestatic index, 3))
    (kk : ∀ (r : Int32) (σ1 : zS), zJ V (k r σ1) (wl σ1 ++ ex) (pc + 3) lv (.int r :: rest)) : zJ V (zb fC k) (wl σ ++ ex) pc lv st := by
  obtain ⟨p, e, s, m, args, below, meth, c, cells, slots, A, H0, Qo, rfl, hx, hb, hml, hown, hts, hKm, hKK, hK, hA, hcs⟩ := hX
  intro out hf
  obtain ⟨r, σ1, hfc, hk⟩ := zb_some hf
  intro H locs ls hP hD hS hl
  have hMr := hM (r, σ1) ex H.size hfc
  subst hst
  exact z_call (em := zemI) (w := wl σ ++ ex) (w1 := wl σ1 ++ ex) (r := r) (va_runS (As := As) (rest := rest) ⟨hx, hb, hml, hown, hts⟩ hMr (va_cwS n hts hT rfl hrm.1 hrm.2 hd hR) ⟨fun a U g mk q => by obtain ⟨q0, q1, qP, qK, qD⟩ := q; exact ⟨q0, q1, qP, hKm.2 U g mk a qK, qD⟩, fun U hU hW => ⟨rfl, by rw [hU], by rw [hU]; exact hP, hKm.1 _ U hW hKK, hD.weaken (fun _ _ _ _ => trivial)⟩⟩ rfl hn hl.1 rfl (lv_room hW) hdg ⟨by rw [Nat.add_zero]; exact hcs.1, by rw [Nat.add_zero]; exact hcs.2⟩) hD hS hA (fun H1 locs1 h1 h2 h3 => kk r σ1 out hk H1 locs1 ls h1 h2 h3 hl)
theorem z_callSNi (hX : zIs V l cc own TT KK D cl tys nL R) {fC : Option (Int32 × zS)} {k : Int32 → zS → Option (α × zS)} {host : String} {n : Nat} (As : List Value) (hM : zC zemI l y (Cond.code y bytes maxL ret :: TT) rm D cl KK wl σ As fC) (hG : GoodIn TT (Cond.code y bytes maxL ret :: TT)) (hN : ∀ U, KK U → va_Nw (.methodLinkNest own index y host) U) (hstat : Cond.static y ∈ TT) (hini : Cond.initialized y.cls ∈ TT) (hrm : rm.cells = 0 ∧ rm.slots = 0) (hR : rm.frames + 1 ≤ R.frames ∧ 8 + (maxL + 11) + rm.locals ≤ R.locals) (hd : y.cls ≠ "java/lang/invoke/MethodHandle" ∧ y.cls ≠ "java/lang/invoke/VarHandle" ∧ (parseMethodDescriptor y.desc).map (fun d => d.parameters.length) = some n) (hn : As.length = n)
    (hst : st = As.reverse ++ rest) (hW : (rest.map fun v => v.category).sum ≤ 8) (hdg : decode cc pc = .ok (.invokestatic index, 3))
    (kk : ∀ (r : Int32) (σ1 : zS), zJ V (k r σ1) (wl σ1 ++ ex) (pc + 3) lv (.int r :: rest)) : zJ V (zb fC k) (wl σ ++ ex) pc lv st := by
  obtain ⟨p, e, s, m, args, below, meth, c, cells, slots, A, H0, Qo, rfl, hx, hb, hml, hown, hts, hKm, hKK, hK, hA, hcs⟩ := hX
  intro out hf
  obtain ⟨r, σ1, hfc, hk⟩ := zb_some hf
  intro H locs ls hP hD hS hl
  have hMr := hM (r, σ1) ex H.size hfc
  subst hst
  exact z_call (em := zemI) (w := wl σ ++ ex) (w1 := wl σ1 ++ ex) (r := r) (va_runSN (As := As) (rest := rest) ⟨hx, hb, hml, hown, hts⟩ hMr ⟨va_cnB n hts hG rfl hrm.1 hrm.2 (hN s hKK) (hts _ hini) hd hR, hts _ hstat, trivial⟩ ⟨fun a U g mk q => by obtain ⟨q0, q1, qP, qK, qD⟩ := q; exact ⟨q0, q1, qP, hKm.2 U g mk a qK, qD⟩, fun U hU hW => ⟨rfl, by rw [hU], by rw [hU]; exact hP, hKm.1 _ U hW hKK, hD.weaken (fun _ _ _ _ => trivial)⟩⟩ rfl hn hl.1 rfl (lv_room hW) hdg ⟨by rw [Nat.add_zero]; exact hcs.1, by rw [Nat.add_zero]; exact hcs.2⟩) hD hS hA (fun H1 locs1 h1 h2 h3 => kk r σ1 out hk H1 locs1 ls h1 h2 h3 hl)

theorem z_callVl (hX : zIs V l cc own TT KK D cl tys nL R) {fC : Option (Int64 × zS)} {k : Int64 → zS → Option (α × zS)} {C : String} {b ci : Nat} {fs : List Value} {cv : vw_C} {n : Nat} (As : List Value) (hM : zC zemL l y (Cond.code y bytes maxL ret :: TT) rm D cl KK wl σ (.ref b :: As) fC) (hT : GoodIn TT (wsV own index C y (Cond.code y bytes maxL ret :: TT))) (hrm : rm.cells = 0 ∧ rm.slots = 0) (hR : rm.frames + 1 ≤ R.frames ∧ 8 + (maxL + 11) + rm.locals ≤ R.locals) (hd : y.cls = C ∧ y.cls ≠ "java/lang/invoke/MethodHandle" ∧ y.cls ≠ "java/lang/invoke/VarHandle" ∧ (parseMethodDescriptor y.desc).map (fun d => d.parameters.length) = some n) (hn : As.length = n)
    (q0 : Nat) (hq : (wl σ ++ ex)[q0]? = some (b, .inr (ci, fs))) (hc : cl[ci]? = some cv) (hcv : cv.1 = C) (hst : st = As.reverse ++ .ref b :: rest) (hW : (rest.map fun v => v.category).sum ≤ 8) (hdg : decode cc pc = .ok (.invokevirtual index, 3))
    (kk : ∀ (r : Int64) (σ1 : zS), zJ V (k r σ1) (wl σ1 ++ ex) (pc + 3) lv (.long r :: rest)) : zJ V (zb fC k) (wl σ ++ ex) pc lv st := by
  obtain ⟨p, e, s, m, args, below, meth, c, cells, slots, A, H0, Qo, rfl, hx, hb, hml, hown, hts, hKm, hKK, hK, hA, hcs⟩ := hX
  intro out hf
  obtain ⟨r, σ1, hfc, hk⟩ := zb_some hf
  intro H locs ls hP hD hS hl
  have hMr := hM (r, σ1) ex H.size hfc
  subst hst
  subst hcv
  exact z_call (em := zemL) (w := wl σ ++ ex) (w1 := wl σ1 ++ ex) (r := r) (va_runV (As := As) (rest := rest) ⟨hx, hb, hml, hown, hts⟩ hMr (cwV n hts hT rfl hrm.1 hrm.2 hd hR) ⟨fun a U g mk q => by obtain ⟨q0, q1, qP, qK, qD⟩ := q; exact ⟨q0, q1, qP, hKm.2 U g mk a qK, qD⟩, va_recv hK hP hc hq, fun U hU hW => ⟨rfl, by rw [hU], by rw [hU]; exact hP, hKm.1 _ U hW hKK, hD.weaken (fun _ _ _ _ => trivial)⟩⟩ rfl hn hl.1 rfl (lv_room hW) hdg ⟨by rw [Nat.add_zero]; exact hcs.1, by rw [Nat.add_zero]; exact hcs.2⟩) hD hS hA (fun H1 locs1 h1 h2 h3 => kk r σ1 out hk H1 locs1 ls h1 h2 h3 hl)
theorem z_callSl (hX : zIs V l cc own TT KK D cl tys nL R) {fC : Option (Int64 × zS)} {k : Int64 → zS → Option (α × zS)} {n : Nat} (As : List Value) (hM : zC zemL l y (Cond.code y bytes maxL ret :: TT) rm D cl KK wl σ As fC) (hT : GoodIn TT (va_wsS own index y (Cond.code y bytes maxL ret :: TT))) (hrm : rm.cells = 0 ∧ rm.slots = 0) (hR : rm.frames + 1 ≤ R.frames ∧ 8 + (maxL + 11) + rm.locals ≤ R.locals) (hd : y.cls ≠ "java/lang/invoke/MethodHandle" ∧ y.cls ≠ "java/lang/invoke/VarHandle" ∧ (parseMethodDescriptor y.desc).map (fun d => d.parameters.length) = some n) (hn : As.length = n)
    (hst : st = As.reverse ++ rest) (hW : (rest.map fun v => v.category).sum ≤ 8) (hdg : decode cc pc = .ok (.invokestatic index, 3))
    (kk : ∀ (r : Int64) (σ1 : zS), zJ V (k r σ1) (wl σ1 ++ ex) (pc + 3) lv (.long r :: rest)) : zJ V (zb fC k) (wl σ ++ ex) pc lv st := by
  obtain ⟨p, e, s, m, args, below, meth, c, cells, slots, A, H0, Qo, rfl, hx, hb, hml, hown, hts, hKm, hKK, hK, hA, hcs⟩ := hX
  intro out hf
  obtain ⟨r, σ1, hfc, hk⟩ := zb_some hf
  intro H locs ls hP hD hS hl
  have hMr := hM (r, σ1) ex H.size hfc
  subst hst
  exact z_call (em := zemL) (w := wl σ ++ ex) (w1 := wl σ1 ++ ex) (r := r) (va_runS (As := As) (rest := rest) ⟨hx, hb, hml, hown, hts⟩ hMr (va_cwS n hts hT rfl hrm.1 hrm.2 hd hR) ⟨fun a U g mk q => by obtain ⟨q0, q1, qP, qK, qD⟩ := q; exact ⟨q0, q1, qP, hKm.2 U g mk a qK, qD⟩, fun U hU hW => ⟨rfl, by rw [hU], by rw [hU]; exact hP, hKm.1 _ U hW hKK, hD.weaken (fun _ _ _ _ => trivial)⟩⟩ rfl hn hl.1 rfl (lv_room hW) hdg ⟨by rw [Nat.add_zero]; exact hcs.1, by rw [Nat.add_zero]; exact hcs.2⟩) hD hS hA (fun H1 locs1 h1 h2 h3 => kk r σ1 out hk H1 locs1 ls h1 h2 h3 hl)
theorem z_callSNl (hX : zIs V l cc own TT KK D cl tys nL R) {fC : Option (Int64 × zS)} {k : Int64 → zS → Option (α × zS)} {host : String} {n : Nat} (As : List Value) (hM : zC zemL l y (Cond.code y bytes maxL ret :: TT) rm D cl KK wl σ As fC) (hG : GoodIn TT (Cond.code y bytes maxL ret :: TT)) (hN : ∀ U, KK U → va_Nw (.methodLinkNest own index y host) U) (hstat : Cond.static y ∈ TT) (hini : Cond.initialized y.cls ∈ TT) (hrm : rm.cells = 0 ∧ rm.slots = 0) (hR : rm.frames + 1 ≤ R.frames ∧ 8 + (maxL + 11) + rm.locals ≤ R.locals) (hd : y.cls ≠ "java/lang/invoke/MethodHandle" ∧ y.cls ≠ "java/lang/invoke/VarHandle" ∧ (parseMethodDescriptor y.desc).map (fun d => d.parameters.length) = some n) (hn : As.length = n)
    (hst : st = As.reverse ++ rest) (hW : (rest.map fun v => v.category).sum ≤ 8) (hdg : decode cc pc = .ok (.invokestatic index, 3))
    (kk : ∀ (r : Int64) (σ1 : zS), zJ V (k r σ1) (wl σ1 ++ ex) (pc + 3) lv (.long r :: rest)) : zJ V (zb fC k) (wl σ ++ ex) pc lv st := by
  obtain ⟨p, e, s, m, args, below, meth, c, cells, slots, A, H0, Qo, rfl, hx, hb, hml, hown, hts, hKm, hKK, hK, hA, hcs⟩ := hX
  intro out hf
  obtain ⟨r, σ1, hfc, hk⟩ := zb_some hf
  intro H locs ls hP hD hS hl
  have hMr := hM (r, σ1) ex H.size hfc
  subst hst
  exact z_call (em := zemL) (w := wl σ ++ ex) (w1 := wl σ1 ++ ex) (r := r) (va_runSN (As := As) (rest := rest) ⟨hx, hb, hml, hown, hts⟩ hMr ⟨va_cnB n hts hG rfl hrm.1 hrm.2 (hN s hKK) (hts _ hini) hd hR, hts _ hstat, trivial⟩ ⟨fun a U g mk q => by obtain ⟨q0, q1, qP, qK, qD⟩ := q; exact ⟨q0, q1, qP, hKm.2 U g mk a qK, qD⟩, fun U hU hW => ⟨rfl, by rw [hU], by rw [hU]; exact hP, hKm.1 _ U hW hKK, hD.weaken (fun _ _ _ _ => trivial)⟩⟩ rfl hn hl.1 rfl (lv_room hW) hdg ⟨by rw [Nat.add_zero]; exact hcs.1, by rw [Nat.add_zero]; exact hcs.2⟩) hD hS hA (fun H1 locs1 h1 h2 h3 => kk r σ1 out hk H1 locs1 ls h1 h2 h3 hl)

theorem z_callVv (hX : zIs V l cc own TT KK D cl tys nL R) {fC : Option (Unit × zS)} {k : Unit → zS → Option (α × zS)} {C : String} {b ci : Nat} {fs : List Value} {cv : vw_C} {n : Nat} (As : List Value) (hM : zC zemV l y (Cond.code y bytes maxL ret :: TT) rm D cl KK wl σ (.ref b :: As) fC) (hT : GoodIn TT (wsV own index C y (Cond.code y bytes maxL ret :: TT))) (hrm : rm.cells = 0 ∧ rm.slots = 0) (hR : rm.frames + 1 ≤ R.frames ∧ 8 + (maxL + 11) + rm.locals ≤ R.locals) (hd : y.cls = C ∧ y.cls ≠ "java/lang/invoke/MethodHandle" ∧ y.cls ≠ "java/lang/invoke/VarHandle" ∧ (parseMethodDescriptor y.desc).map (fun d => d.parameters.length) = some n) (hn : As.length = n)
    (q0 : Nat) (hq : (wl σ ++ ex)[q0]? = some (b, .inr (ci, fs))) (hc : cl[ci]? = some cv) (hcv : cv.1 = C) (hst : st = As.reverse ++ .ref b :: rest) (hW : (rest.map fun v => v.category).sum ≤ 8) (hdg : decode cc pc = .ok (.invokevirtual index, 3))
    (kk : ∀ (r : Unit) (σ1 : zS), zJ V (k r σ1) (wl σ1 ++ ex) (pc + 3) lv (rest)) : zJ V (zb fC k) (wl σ ++ ex) pc lv st := by
  obtain ⟨p, e, s, m, args, below, meth, c, cells, slots, A, H0, Qo, rfl, hx, hb, hml, hown, hts, hKm, hKK, hK, hA, hcs⟩ := hX
  intro out hf
  obtain ⟨r, σ1, hfc, hk⟩ := zb_some hf
  intro H locs ls hP hD hS hl
  have hMr := hM (r, σ1) ex H.size hfc
  subst hst
  subst hcv
  exact z_call (em := zemV) (w := wl σ ++ ex) (w1 := wl σ1 ++ ex) (r := r) (va_runV (As := As) (rest := rest) ⟨hx, hb, hml, hown, hts⟩ hMr (cwV n hts hT rfl hrm.1 hrm.2 hd hR) ⟨fun a U g mk q => by obtain ⟨q0, q1, qP, qK, qD⟩ := q; exact ⟨q0, q1, qP, hKm.2 U g mk a qK, qD⟩, va_recv hK hP hc hq, fun U hU hW => ⟨rfl, by rw [hU], by rw [hU]; exact hP, hKm.1 _ U hW hKK, hD.weaken (fun _ _ _ _ => trivial)⟩⟩ rfl hn hl.1 rfl (lv_room hW) hdg ⟨by rw [Nat.add_zero]; exact hcs.1, by rw [Nat.add_zero]; exact hcs.2⟩) hD hS hA (fun H1 locs1 h1 h2 h3 => kk r σ1 out hk H1 locs1 ls h1 h2 h3 hl)
theorem z_callSv (hX : zIs V l cc own TT KK D cl tys nL R) {fC : Option (Unit × zS)} {k : Unit → zS → Option (α × zS)} {n : Nat} (As : List Value) (hM : zC zemV l y (Cond.code y bytes maxL ret :: TT) rm D cl KK wl σ As fC) (hT : GoodIn TT (va_wsS own index y (Cond.code y bytes maxL ret :: TT))) (hrm : rm.cells = 0 ∧ rm.slots = 0) (hR : rm.frames + 1 ≤ R.frames ∧ 8 + (maxL + 11) + rm.locals ≤ R.locals) (hd : y.cls ≠ "java/lang/invoke/MethodHandle" ∧ y.cls ≠ "java/lang/invoke/VarHandle" ∧ (parseMethodDescriptor y.desc).map (fun d => d.parameters.length) = some n) (hn : As.length = n)
    (hst : st = As.reverse ++ rest) (hW : (rest.map fun v => v.category).sum ≤ 8) (hdg : decode cc pc = .ok (.invokestatic index, 3))
    (kk : ∀ (r : Unit) (σ1 : zS), zJ V (k r σ1) (wl σ1 ++ ex) (pc + 3) lv (rest)) : zJ V (zb fC k) (wl σ ++ ex) pc lv st := by
  obtain ⟨p, e, s, m, args, below, meth, c, cells, slots, A, H0, Qo, rfl, hx, hb, hml, hown, hts, hKm, hKK, hK, hA, hcs⟩ := hX
  intro out hf
  obtain ⟨r, σ1, hfc, hk⟩ := zb_some hf
  intro H locs ls hP hD hS hl
  have hMr := hM (r, σ1) ex H.size hfc
  subst hst
  exact z_call (em := zemV) (w := wl σ ++ ex) (w1 := wl σ1 ++ ex) (r := r) (va_runS (As := As) (rest := rest) ⟨hx, hb, hml, hown, hts⟩ hMr (va_cwS n hts hT rfl hrm.1 hrm.2 hd hR) ⟨fun a U g mk q => by obtain ⟨q0, q1, qP, qK, qD⟩ := q; exact ⟨q0, q1, qP, hKm.2 U g mk a qK, qD⟩, fun U hU hW => ⟨rfl, by rw [hU], by rw [hU]; exact hP, hKm.1 _ U hW hKK, hD.weaken (fun _ _ _ _ => trivial)⟩⟩ rfl hn hl.1 rfl (lv_room hW) hdg ⟨by rw [Nat.add_zero]; exact hcs.1, by rw [Nat.add_zero]; exact hcs.2⟩) hD hS hA (fun H1 locs1 h1 h2 h3 => kk r σ1 out hk H1 locs1 ls h1 h2 h3 hl)
theorem z_callSNv (hX : zIs V l cc own TT KK D cl tys nL R) {fC : Option (Unit × zS)} {k : Unit → zS → Option (α × zS)} {host : String} {n : Nat} (As : List Value) (hM : zC zemV l y (Cond.code y bytes maxL ret :: TT) rm D cl KK wl σ As fC) (hG : GoodIn TT (Cond.code y bytes maxL ret :: TT)) (hN : ∀ U, KK U → va_Nw (.methodLinkNest own index y host) U) (hstat : Cond.static y ∈ TT) (hini : Cond.initialized y.cls ∈ TT) (hrm : rm.cells = 0 ∧ rm.slots = 0) (hR : rm.frames + 1 ≤ R.frames ∧ 8 + (maxL + 11) + rm.locals ≤ R.locals) (hd : y.cls ≠ "java/lang/invoke/MethodHandle" ∧ y.cls ≠ "java/lang/invoke/VarHandle" ∧ (parseMethodDescriptor y.desc).map (fun d => d.parameters.length) = some n) (hn : As.length = n)
    (hst : st = As.reverse ++ rest) (hW : (rest.map fun v => v.category).sum ≤ 8) (hdg : decode cc pc = .ok (.invokestatic index, 3))
    (kk : ∀ (r : Unit) (σ1 : zS), zJ V (k r σ1) (wl σ1 ++ ex) (pc + 3) lv (rest)) : zJ V (zb fC k) (wl σ ++ ex) pc lv st := by
  obtain ⟨p, e, s, m, args, below, meth, c, cells, slots, A, H0, Qo, rfl, hx, hb, hml, hown, hts, hKm, hKK, hK, hA, hcs⟩ := hX
  intro out hf
  obtain ⟨r, σ1, hfc, hk⟩ := zb_some hf
  intro H locs ls hP hD hS hl
  have hMr := hM (r, σ1) ex H.size hfc
  subst hst
  exact z_call (em := zemV) (w := wl σ ++ ex) (w1 := wl σ1 ++ ex) (r := r) (va_runSN (As := As) (rest := rest) ⟨hx, hb, hml, hown, hts⟩ hMr ⟨va_cnB n hts hG rfl hrm.1 hrm.2 (hN s hKK) (hts _ hini) hd hR, hts _ hstat, trivial⟩ ⟨fun a U g mk q => by obtain ⟨q0, q1, qP, qK, qD⟩ := q; exact ⟨q0, q1, qP, hKm.2 U g mk a qK, qD⟩, fun U hU hW => ⟨rfl, by rw [hU], by rw [hU]; exact hP, hKm.1 _ U hW hKK, hD.weaken (fun _ _ _ _ => trivial)⟩⟩ rfl hn hl.1 rfl (lv_room hW) hdg ⟨by rw [Nat.add_zero]; exact hcs.1, by rw [Nat.add_zero]; exact hcs.2⟩) hD hS hA (fun H1 locs1 h1 h2 h3 => kk r σ1 out hk H1 locs1 ls h1 h2 h3 hl)

end ZCR
section ZMK
variable {l : Launch} {cc : ByteArray} {TT : List Cond} {KK : State → Prop} {D : va_G} {cl : List vw_C} {tys : List (ClassId × FieldType)} {nL : Nat} {rm : Room} {wl : zS → va_W} {σ : zS} {y : MethodName} {av : List Value}

theorem zmk_i {f : Option (Int32 × zS)} (hy : plainName y.cls = true) (hKm : zKm KK) (hKt : ∀ U, KK U → va_K D cl tys U) (hav : (lg_sl av).length ≤ nL)
    (hbody : ∀ (V : zV Int32) (ex : va_W), zIs V l cc y.cls TT KK D cl tys nL rm → zRi V cc wl ex → zJ V f (wl σ ++ ex) 0 (lv_args 0 av) []) : zC zemI l y (Cond.code y cc nL (some .int) :: TT) rm D cl KK wl σ av f := by
  intro out ex sz hf
  refine Met.ofW (cc := cc) (maxL := nL) (ret := (some .int)) hy rfl ?_
  intro p e s m args below meth c s₁ B hml hv
  obtain ⟨rfl, hsz, hP, hKK, hD0⟩ := hv
  have hx := B.exec
  have hb := B.bytes
  have hr := B.returns
  have hts := atoms_spec (ws := Cond.code y cc nL (some .int) :: TT) B.pre
  have hown : s.vm.findClass y.cls = some m.cls := findClass_of_methodNamed B.named
  have hlocks := B.notSynchronized
  subst hsz
  have hD := hD0.self (sz := s.heap.size)
  have hA : ∀ q : Nat, s.heap.size ≤ q → va_A (wl σ ++ ex) s.heap.size q := fun q h => Or.inr h
  have hl := lv_entry av (n := nL) hav
  rw [lg_entry_eq]
  refine hbody (fun w pc lv st out => ∀ (H : Heap) (locs : List Loc) (ls : Array Slot), va_P D cl w H → va_D (va_A (wl σ ++ ex) s.heap.size) w → va_S (va_A (wl σ ++ ex) s.heap.size) s.heap H locs → lv_has ls nL lv → W p l e rm s m av.toArray below meth c H locs 0 0 (MQ below (fun _ st oc t => (oc = .returned (zemI out.1) ∧ va_P D cl (wl out.2 ++ ex) t.heap ∧ va_D (va_A (wl σ ++ ex) s.heap.size) (wl out.2 ++ ex)) ∧ va_F (va_A (wl σ ++ ex) s.heap.size) st t) av.toArray s 0 0 (va_A (wl σ ++ ex) s.heap.size)) (F0 m pc ls st)) ex
    ⟨p, e, s, m, av.toArray, below, meth, c, 0, 0, va_A (wl σ ++ ex) s.heap.size, s.heap, (fun out => MQ below (fun _ st oc t => (oc = .returned (zemI out.1) ∧ va_P D cl (wl out.2 ++ ex) t.heap ∧ va_D (va_A (wl σ ++ ex) s.heap.size) (wl out.2 ++ ex)) ∧ va_F (va_A (wl σ ++ ex) s.heap.size) st t) av.toArray s 0 0 (va_A (wl σ ++ ex) s.heap.size)), rfl, hx, hb, hml, hown, fun w h => hts w (List.mem_cons_of_mem _ h), hKm, hKK, hKt s hKK, hA, Nat.zero_le _, Nat.zero_le _⟩ ?_ out hf s.heap [] _ hP hD va_S.rf hl
  intro σ1 r pc lv hd H locs ls hP1 hD1 hS1 hl1
  exact W.iret (v := r) hx hb hr (fun t ht hW => ⟨⟨rfl, by rw [ht]; exact hP1, hD1⟩, hS1.F ht⟩) hS1.2.2 hd
theorem zmk_z {f : Option (Int32 × zS)} (hy : plainName y.cls = true) (hKm : zKm KK) (hKt : ∀ U, KK U → va_K D cl tys U) (hav : (lg_sl av).length ≤ nL)
    (hbody : ∀ (V : zV Int32) (ex : va_W), zIs V l cc y.cls TT KK D cl tys nL rm → zRz V cc wl ex → zJ V f (wl σ ++ ex) 0 (lv_args 0 av) []) : zC zemI l y (Cond.code y cc nL (some .boolean) :: TT) rm D cl KK wl σ av f := by
  intro out ex sz hf
  refine Met.ofW (cc := cc) (maxL := nL) (ret := (some .boolean)) hy rfl ?_
  intro p e s m args below meth c s₁ B hml hv
  obtain ⟨rfl, hsz, hP, hKK, hD0⟩ := hv
  have hx := B.exec
  have hb := B.bytes
  have hr := B.returns
  have hts := atoms_spec (ws := Cond.code y cc nL (some .boolean) :: TT) B.pre
  have hown : s.vm.findClass y.cls = some m.cls := findClass_of_methodNamed B.named
  have hlocks := B.notSynchronized
  subst hsz
  have hD := hD0.self (sz := s.heap.size)
  have hA : ∀ q : Nat, s.heap.size ≤ q → va_A (wl σ ++ ex) s.heap.size q := fun q h => Or.inr h
  have hl := lv_entry av (n := nL) hav
  rw [lg_entry_eq]
  refine hbody (fun w pc lv st out => ∀ (H : Heap) (locs : List Loc) (ls : Array Slot), va_P D cl w H → va_D (va_A (wl σ ++ ex) s.heap.size) w → va_S (va_A (wl σ ++ ex) s.heap.size) s.heap H locs → lv_has ls nL lv → W p l e rm s m av.toArray below meth c H locs 0 0 (MQ below (fun _ st oc t => (oc = .returned (zemI out.1) ∧ va_P D cl (wl out.2 ++ ex) t.heap ∧ va_D (va_A (wl σ ++ ex) s.heap.size) (wl out.2 ++ ex)) ∧ va_F (va_A (wl σ ++ ex) s.heap.size) st t) av.toArray s 0 0 (va_A (wl σ ++ ex) s.heap.size)) (F0 m pc ls st)) ex
    ⟨p, e, s, m, av.toArray, below, meth, c, 0, 0, va_A (wl σ ++ ex) s.heap.size, s.heap, (fun out => MQ below (fun _ st oc t => (oc = .returned (zemI out.1) ∧ va_P D cl (wl out.2 ++ ex) t.heap ∧ va_D (va_A (wl σ ++ ex) s.heap.size) (wl out.2 ++ ex)) ∧ va_F (va_A (wl σ ++ ex) s.heap.size) st t) av.toArray s 0 0 (va_A (wl σ ++ ex) s.heap.size)), rfl, hx, hb, hml, hown, fun w h => hts w (List.mem_cons_of_mem _ h), hKm, hKK, hKt s hKK, hA, Nat.zero_le _, Nat.zero_le _⟩ ?_ out hf s.heap [] _ hP hD va_S.rf hl
  intro σ1 r pc lv hn hd H locs ls hP1 hD1 hS1 hl1
  exact W.zret (v := r) hx hb hr hn (fun t ht hW => ⟨⟨rfl, by rw [ht]; exact hP1, hD1⟩, hS1.F ht⟩) hS1.2.2 hd
theorem zmk_l {f : Option (Int64 × zS)} (hy : plainName y.cls = true) (hKm : zKm KK) (hKt : ∀ U, KK U → va_K D cl tys U) (hav : (lg_sl av).length ≤ nL)
    (hbody : ∀ (V : zV Int64) (ex : va_W), zIs V l cc y.cls TT KK D cl tys nL rm → zRl V cc wl ex → zJ V f (wl σ ++ ex) 0 (lv_args 0 av) []) : zC zemL l y (Cond.code y cc nL (some .long) :: TT) rm D cl KK wl σ av f := by
  intro out ex sz hf
  refine Met.ofW (cc := cc) (maxL := nL) (ret := (some .long)) hy rfl ?_
  intro p e s m args below meth c s₁ B hml hv
  obtain ⟨rfl, hsz, hP, hKK, hD0⟩ := hv
  have hx := B.exec
  have hb := B.bytes
  have hr := B.returns
  have hts := atoms_spec (ws := Cond.code y cc nL (some .long) :: TT) B.pre
  have hown : s.vm.findClass y.cls = some m.cls := findClass_of_methodNamed B.named
  have hlocks := B.notSynchronized
  subst hsz
  have hD := hD0.self (sz := s.heap.size)
  have hA : ∀ q : Nat, s.heap.size ≤ q → va_A (wl σ ++ ex) s.heap.size q := fun q h => Or.inr h
  have hl := lv_entry av (n := nL) hav
  rw [lg_entry_eq]
  refine hbody (fun w pc lv st out => ∀ (H : Heap) (locs : List Loc) (ls : Array Slot), va_P D cl w H → va_D (va_A (wl σ ++ ex) s.heap.size) w → va_S (va_A (wl σ ++ ex) s.heap.size) s.heap H locs → lv_has ls nL lv → W p l e rm s m av.toArray below meth c H locs 0 0 (MQ below (fun _ st oc t => (oc = .returned (zemL out.1) ∧ va_P D cl (wl out.2 ++ ex) t.heap ∧ va_D (va_A (wl σ ++ ex) s.heap.size) (wl out.2 ++ ex)) ∧ va_F (va_A (wl σ ++ ex) s.heap.size) st t) av.toArray s 0 0 (va_A (wl σ ++ ex) s.heap.size)) (F0 m pc ls st)) ex
    ⟨p, e, s, m, av.toArray, below, meth, c, 0, 0, va_A (wl σ ++ ex) s.heap.size, s.heap, (fun out => MQ below (fun _ st oc t => (oc = .returned (zemL out.1) ∧ va_P D cl (wl out.2 ++ ex) t.heap ∧ va_D (va_A (wl σ ++ ex) s.heap.size) (wl out.2 ++ ex)) ∧ va_F (va_A (wl σ ++ ex) s.heap.size) st t) av.toArray s 0 0 (va_A (wl σ ++ ex) s.heap.size)), rfl, hx, hb, hml, hown, fun w h => hts w (List.mem_cons_of_mem _ h), hKm, hKK, hKt s hKK, hA, Nat.zero_le _, Nat.zero_le _⟩ ?_ out hf s.heap [] _ hP hD va_S.rf hl
  intro σ1 r pc lv hd H locs ls hP1 hD1 hS1 hl1
  exact W.lret (v := r) hx hb hr (fun t ht hW => ⟨⟨rfl, by rw [ht]; exact hP1, hD1⟩, hS1.F ht⟩) hS1.2.2 hd
theorem zmk_v {f : Option (Unit × zS)} (hy : plainName y.cls = true) (hKm : zKm KK) (hKt : ∀ U, KK U → va_K D cl tys U) (hav : (lg_sl av).length ≤ nL)
    (hbody : ∀ (V : zV Unit) (ex : va_W), zIs V l cc y.cls TT KK D cl tys nL rm → zRv V cc wl ex → zJ V f (wl σ ++ ex) 0 (lv_args 0 av) []) : zC zemV l y (Cond.code y cc nL none :: TT) rm D cl KK wl σ av f := by
  intro out ex sz hf
  refine Met.ofW (cc := cc) (maxL := nL) (ret := none) hy rfl ?_
  intro p e s m args below meth c s₁ B hml hv
  obtain ⟨rfl, hsz, hP, hKK, hD0⟩ := hv
  have hx := B.exec
  have hb := B.bytes
  have hr := B.returns
  have hts := atoms_spec (ws := Cond.code y cc nL none :: TT) B.pre
  have hown : s.vm.findClass y.cls = some m.cls := findClass_of_methodNamed B.named
  have hlocks := B.notSynchronized
  subst hsz
  have hD := hD0.self (sz := s.heap.size)
  have hA : ∀ q : Nat, s.heap.size ≤ q → va_A (wl σ ++ ex) s.heap.size q := fun q h => Or.inr h
  have hl := lv_entry av (n := nL) hav
  rw [lg_entry_eq]
  refine hbody (fun w pc lv st out => ∀ (H : Heap) (locs : List Loc) (ls : Array Slot), va_P D cl w H → va_D (va_A (wl σ ++ ex) s.heap.size) w → va_S (va_A (wl σ ++ ex) s.heap.size) s.heap H locs → lv_has ls nL lv → W p l e rm s m av.toArray below meth c H locs 0 0 (MQ below (fun _ st oc t => (oc = .returned (zemV out.1) ∧ va_P D cl (wl out.2 ++ ex) t.heap ∧ va_D (va_A (wl σ ++ ex) s.heap.size) (wl out.2 ++ ex)) ∧ va_F (va_A (wl σ ++ ex) s.heap.size) st t) av.toArray s 0 0 (va_A (wl σ ++ ex) s.heap.size)) (F0 m pc ls st)) ex
    ⟨p, e, s, m, av.toArray, below, meth, c, 0, 0, va_A (wl σ ++ ex) s.heap.size, s.heap, (fun out => MQ below (fun _ st oc t => (oc = .returned (zemV out.1) ∧ va_P D cl (wl out.2 ++ ex) t.heap ∧ va_D (va_A (wl σ ++ ex) s.heap.size) (wl out.2 ++ ex)) ∧ va_F (va_A (wl σ ++ ex) s.heap.size) st t) av.toArray s 0 0 (va_A (wl σ ++ ex) s.heap.size)), rfl, hx, hb, hml, hown, fun w h => hts w (List.mem_cons_of_mem _ h), hKm, hKK, hKt s hKK, hA, Nat.zero_le _, Nat.zero_le _⟩ ?_ out hf s.heap [] _ hP hD va_S.rf hl
  intro σ1 pc lv hd H locs ls hP1 hD1 hS1 hl1
  exact W.vret hx hb hr (fun t ht hW => ⟨⟨rfl, by rw [ht]; exact hP1, hD1⟩, hS1.F ht⟩) hS1.2.2 hd
end ZMK
end
section
/-! Worlds that grow: V w tys cells slots pc lv st: the machine from here on ends well (whatever the heap that holds w). -/
abbrev zGV : Type := va_W → List (ClassId × FieldType) → Nat → Nat → Nat → List (Nat × Value) → List Value → Prop
def zGIs (V : zGV) (l : Launch) (cc : ByteArray) (own : String) (TT : List Cond) (KK : State → Prop) (D : va_G) (cl : List vw_C) (nL : Nat) (R : Room) : Prop :=
  ∃ (p : Program) (e : Env) (s : State) (m : MethodId) (args : Array Value) (below : List Frame) (meth : Method) (c : Code) (A : Nat → Prop) (H0 : Heap) (Q : State → Prop),
    V = (fun w tys cells slots pc lv st => ∀ (H : Heap) (locs : List Loc) (ls : Array Slot), va_K D cl tys s → va_P D cl w H → va_D A w → va_S A H0 H locs → lv_has ls nL lv → W p l e R s m args below meth c H locs cells slots Q (F0 m pc ls st)) ∧
    p.tables.exec = Jvm.exec ∧ c.code = cc ∧ c.maxLocals = nL ∧ s.vm.findClass own = some m.cls ∧ (∀ w ∈ TT, w.before args s = true) ∧ zKm KK ∧ KK s ∧ (∀ q, H0.size ≤ q → A q)
/-- the method is a constructor -/
def zGn (V : zGV) (l : Launch) (cc : ByteArray) (own : String) (TT : List Cond) (KK : State → Prop) (D : va_G) (cl : List vw_C) (nL : Nat) (R : Room) : Prop :=
  ∃ (p : Program) (e : Env) (s : State) (m : MethodId) (args : Array Value) (below : List Frame) (meth : Method) (c : Code) (A : Nat → Prop) (H0 : Heap) (Q : State → Prop),
    V = (fun w tys cells slots pc lv st => ∀ (H : Heap) (locs : List Loc) (ls : Array Slot), va_K D cl tys s → va_P D cl w H → va_D A w → va_S A H0 H locs → lv_has ls nL lv → W p l e R s m args below meth c H locs cells slots Q (F0 m pc ls st)) ∧
    p.tables.exec = Jvm.exec ∧ c.code = cc ∧ c.maxLocals = nL ∧ s.vm.findClass own = some m.cls ∧ (∀ w ∈ TT, w.before args s = true) ∧ zKm KK ∧ KK s ∧ (∀ q, H0.size ≤ q → A q) ∧ meth.name = "<init>"
theorem zGn.is {V : zGV} {l : Launch} {cc : ByteArray} {own : String} {TT : List Cond} {KK : State → Prop} {D : va_G} {cl : List vw_C} {nL : Nat} {R : Room} (h : zGn V l cc own TT KK D cl nL R) : zGIs V l cc own TT KK D cl nL R := by
  obtain ⟨p, e, s, m, args, below, meth, c, A, H0, Q, h1, h2, h3, h4, h5, h6, h7, h8, h9, -⟩ := h
  exact ⟨p, e, s, m, args, below, meth, c, A, H0, Q, h1, h2, h3, h4, h5, h6, h7, h8, h9⟩
section ZGR
variable {V : zGV} {l : Launch} {cc : ByteArray} {own : String} {TT : List Cond} {KK : State → Prop} {D : va_G} {cl : List vw_C} {nL : Nat} {R : Room} {w : va_W} {tys : List (ClassId × FieldType)} {cells slots pc : Nat} {lv : List (Nat × Value)} {st : List Value}

theorem g_iconst (hX : zGIs V l cc own TT KK D cl nL R) {n : Int} {v : Int32} (hd : decode cc pc = .ok (.iconst n, 1)) (hv : Int32.ofInt n = v) (k : V w tys cells slots (pc + 1) lv (.int v :: st)) : V w tys cells slots pc lv (st) := by
  obtain ⟨p, e, s, m, args, below, meth, c, A, H0, Q, rfl, hx, hb, hml, hown, hts, hKm, hKK, hA⟩ := hX
  intro H locs ls hK hP hD hS hl
  exact lv_iconst hx hb hd hv (k H locs ls hK hP hD hS hl)
theorem g_bipush (hX : zGIs V l cc own TT KK D cl nL R) {n : Int} {v : Int32} (hd : decode cc pc = .ok (.bipush n, 2)) (hv : (Int8.ofInt n).toInt32 = v) (k : V w tys cells slots (pc + 2) lv (.int v :: st)) : V w tys cells slots pc lv (st) := by
  obtain ⟨p, e, s, m, args, below, meth, c, A, H0, Q, rfl, hx, hb, hml, hown, hts, hKm, hKK, hA⟩ := hX
  intro H locs ls hK hP hD hS hl
  exact lv_bipush hx hb hd hv (k H locs ls hK hP hD hS hl)
theorem g_sipush (hX : zGIs V l cc own TT KK D cl nL R) {n : Int} {v : Int32} (hd : decode cc pc = .ok (.sipush n, 3)) (hv : (Int16.ofInt n).toInt32 = v) (k : V w tys cells slots (pc + 3) lv (.int v :: st)) : V w tys cells slots pc lv (st) := by
  obtain ⟨p, e, s, m, args, below, meth, c, A, H0, Q, rfl, hx, hb, hml, hown, hts, hKm, hKK, hA⟩ := hX
  intro H locs ls hK hP hD hS hl
  exact lv_sipush hx hb hd hv (k H locs ls hK hP hD hS hl)
theorem g_aload_n (hX : zGIs V l cc own TT KK D cl nL R) {j : Fin 4} {i : Nat} {x : Nat} (hd : decode cc pc = .ok (.aload_n j, 1)) (hi : (j : Nat) = i) (hg : zg lv i = some (.ref x)) (k : V w tys cells slots (pc + 1) lv (.ref x :: st)) : V w tys cells slots pc lv (st) := by
  obtain ⟨p, e, s, m, args, below, meth, c, A, H0, Q, rfl, hx, hb, hml, hown, hts, hKm, hKK, hA⟩ := hX
  intro H locs ls hK hP hD hS hl
  exact lv_aload_n hx hb hd hi (zg_at hl hg) (k H locs ls hK hP hD hS hl)
theorem g_dup (hX : zGIs V l cc own TT KK D cl nL R) {va : Value} (hd : decode cc pc = .ok (.dup, 1)) (h1 : va.category = 1) (k : V w tys cells slots (pc + 1) lv (va :: va :: st)) : V w tys cells slots pc lv (va :: st) := by
  obtain ⟨p, e, s, m, args, below, meth, c, A, H0, Q, rfl, hx, hb, hml, hown, hts, hKm, hKK, hA⟩ := hX
  intro H locs ls hK hP hD hS hl
  exact lv_dup hx hb hd h1 (k H locs ls hK hP hD hS hl)
theorem g_istore_n (hX : zGIs V l cc own TT KK D cl nL R) {j : Fin 4} {i : Nat} {x : Int32} {lv2 : List (Nat × Value)} (hd : decode cc pc = .ok (.istore_n j, 1)) (hi : (j : Nat) = i) (hn : i < nL) (hl2 : (i, Value.int x) :: lv.filter (fun q => !(q.1 == i) && !(q.1 + 1 == i && q.2.category == 2)) = lv2) (k : V w tys cells slots (pc + 1) lv2 st) : V w tys cells slots pc lv (.int x :: st) := by
  obtain ⟨p, e, s, m, args, below, meth, c, A, H0, Q, rfl, hx, hb, hml, hown, hts, hKm, hKK, hA⟩ := hX
  intro H locs ls hK hP hD hS hl
  exact lv_istore_n hx hb hd hi hl hn hl2 (fun ls' hl' => k H locs ls' hK hP hD hS hl')
theorem g_istore (hX : zGIs V l cc own TT KK D cl nL R) {i : Nat} {x : Int32} {lv2 : List (Nat × Value)} (hd : decode cc pc = .ok (.istore i, 2)) (hn : i < nL) (hl2 : (i, Value.int x) :: lv.filter (fun q => !(q.1 == i) && !(q.1 + 1 == i && q.2.category == 2)) = lv2) (k : V w tys cells slots (pc + 2) lv2 st) : V w tys cells slots pc lv (.int x :: st) := by
  obtain ⟨p, e, s, m, args, below, meth, c, A, H0, Q, rfl, hx, hb, hml, hown, hts, hKm, hKK, hA⟩ := hX
  intro H locs ls hK hP hD hS hl
  exact lv_istore hx hb hd hl hn hl2 (fun ls' hl' => k H locs ls' hK hP hD hS hl')
theorem g_astore_n (hX : zGIs V l cc own TT KK D cl nL R) {j : Fin 4} {i : Nat} {x : Nat} {lv2 : List (Nat × Value)} (hd : decode cc pc = .ok (.astore_n j, 1)) (hi : (j : Nat) = i) (hn : i < nL) (hl2 : (i, Value.ref x) :: lv.filter (fun q => !(q.1 == i) && !(q.1 + 1 == i && q.2.category == 2)) = lv2) (k : V w tys cells slots (pc + 1) lv2 st) : V w tys cells slots pc lv (.ref x :: st) := by
  obtain ⟨p, e, s, m, args, below, meth, c, A, H0, Q, rfl, hx, hb, hml, hown, hts, hKm, hKK, hA⟩ := hX
  intro H locs ls hK hP hD hS hl
  exact lv_astore_n hx hb hd hi hl hn hl2 (fun ls' hl' => k H locs ls' hK hP hD hS hl')
theorem g_astore (hX : zGIs V l cc own TT KK D cl nL R) {i : Nat} {x : Nat} {lv2 : List (Nat × Value)} (hd : decode cc pc = .ok (.astore i, 2)) (hn : i < nL) (hl2 : (i, Value.ref x) :: lv.filter (fun q => !(q.1 == i) && !(q.1 + 1 == i && q.2.category == 2)) = lv2) (k : V w tys cells slots (pc + 2) lv2 st) : V w tys cells slots pc lv (.ref x :: st) := by
  obtain ⟨p, e, s, m, args, below, meth, c, A, H0, Q, rfl, hx, hb, hml, hown, hts, hKm, hKK, hA⟩ := hX
  intro H locs ls hK hP hD hS hl
  exact lv_astore hx hb hd hl hn hl2 (fun ls' hl' => k H locs ls' hK hP hD hS hl')
theorem g_objInit (hX : zGIs V l cc own TT KK D cl nL R) {idx a : Nat} (h1 : Cond.methodLink own idx Lib.objectInit ∈ TT) (h2 : Cond.instanceMethod Lib.objectInit ∈ TT) (h3 : Cond.code Lib.objectInit ⟨#[0xb1]⟩ 1 none ∈ TT) (hd : decode cc pc = .ok (.invokespecial idx, 3)) (hf : 1 ≤ R.frames) (hr : (st.map fun v => v.category).sum + 12 ≤ R.locals) (k : V w tys cells slots (pc + 3) lv st) : V w tys cells slots pc lv (.ref a :: st) := by
  obtain ⟨p, e, s, m, args, below, meth, c, A, H0, Q, rfl, hx, hb, hml, hown, hts, hKm, hKK, hA⟩ := hX
  intro H locs ls hK hP hD hS hl
  refine W.objInit hx hb hown (hts _ h1) (hts _ h2) (hts _ h3) rfl (by rw [hml]; exact hl.1) rfl hd hf ?_ (k H locs ls hK hP hD hS hl)
  simpa [JFrame.monitorRoom] using hr
theorem g_new (hX : zGIs V l cc own TT KK D cl nL R) {C : String} {T : u_T} {N ci index : Nat} {fs : List Value} (hin : ∀ w ∈ u_ws C T N, w ∈ TT) (ty0 : Nat → FieldType) (hty : ∀ k, k < N → parseFieldDescriptor (T k).2.2.1 = some (ty0 k)) (h1 : Cond.classLink own index C ∈ TT) (h2 : Cond.instantiable C N ∈ TT) (h3 : Cond.initialized C ∈ TT) (hc : cl[ci]? = some (C, T, N)) (hfs : ∀ j, j < N → defaultValue (ty0 j) = vp_V fs j) (hcells : cells + 1 ≤ R.cells) (hslots : slots + N ≤ R.slots) (hd : decode cc pc = .ok (.new index, 3))
    (k : ∀ q : Nat, V (w ++ [(q, .inr (ci, fs))]) tys (cells + 1) (slots + N) (pc + 3) lv (.ref q :: st)) : V w tys cells slots pc lv st := by
  obtain ⟨p, e, s, m, args, below, meth, c, A, H0, Q, rfl, hx, hb, hml, hown, hts, hKm, hKK, hA⟩ := hX
  intro H locs ls hK hP hD hS hl
  exact va_new hx hb hts hin ty0 hty hown (hts _ h1) (hts _ h2) (hts _ h3) hK hP hD hS hA hc hfs hcells hslots hd (fun q H1 h1 h2 h3 => k q H1 locs ls hK h1 h2 h3 hl)
theorem g_newa (hX : zGIs V l cc own TT KK D cl nL R) {atype : ArrayType} {ty : FieldType} {n : Int32} {N' : Nat} {a0 : vp_A} (h1 : Cond.arrayClass (newarray.typeOf atype) ∈ TT) (hty : newarray.typeOf atype = ty) (ha : ∀ cA : ClassId, vp_cell cA a0 = arrV cA N' (fun _ => defaultValue ty)) (hn : ¬ n < 0) (hN : n.toNatClampNeg = N') (hbytes : N' * componentBytes ty ≤ 536870912) (hcells : cells + 1 ≤ R.cells) (hslots : slots + N' ≤ R.slots) (hd : decode cc pc = .ok (.newarray atype, 2))
    (k : ∀ (q : Nat) (cA : ClassId), V (w ++ [(q, .inl (cA, a0))]) (tys ++ [(cA, ty)]) (cells + 1) (slots + N') (pc + 2) lv (.ref q :: st)) : V w tys cells slots pc lv (.int n :: st) := by
  obtain ⟨p, e, s, m, args, below, meth, c, A, H0, Q, rfl, hx, hb, hml, hown, hts, hKm, hKK, hA⟩ := hX
  intro H locs ls hK hP hD hS hl
  exact va_newa hx hb (hts _ h1) hty hK hP hD hS hA ha hn hN hbytes hcells hslots hd (fun q cA H1 h0 h1 h2 h3 => k q cA H1 locs ls h0 h1 h2 h3 hl)
theorem g_putF (hX : zGn V l cc own TT KK D cl nL R) {C : String} {T : u_T} {N ci index a : Nat} {fs : List Value} {v : Value} {w2 : va_W} (hin : ∀ w ∈ u_ws C T N, w ∈ TT) (ty0 : Nat → FieldType) (hty : ∀ k, k < N → parseFieldDescriptor (T k).2.2.1 = some (ty0 k)) (hnm : ∀ a, a < N → ∀ b, b < N → a ≠ b → (T a).2.1 ≠ (T b).2.1) (q0 : Nat) (he : w[q0]? = some (a, .inr (ci, fs))) (hc : cl[ci]? = some (C, T, N)) (k0 : Nat) (hk : k0 < N) (hlink : Cond.fieldLink own index (T k0).1 (T k0).2.1 (T k0).2.2.1 ∈ TT) (hfin : (T k0).2.2.2 = true) (hdecl : (T k0).1 = own) (hn : narrow (ty0 k0) v = v) (hfit : fits (ty0 k0) v = true) (hlen : k0 < fs.length) (hw : w.set q0 (a, .inr (ci, fs.set k0 v)) = w2) (hd : decode cc pc = .ok (.putfield index, 3)) (k : V w2 tys cells slots (pc + 3) lv st) : V w tys cells slots pc lv (v :: .ref a :: st) := by
  obtain ⟨p, e, s, m, args, below, meth, c, A, H0, Q, rfl, hx, hb, hml, hown, hts, hKm, hKK, hA, hin2⟩ := hX
  intro H locs ls hK hP hD hS hl
  subst hw
  exact va_putF hx hb hts hin ty0 hty hnm hown hK hP hD hS q0 he hc k0 hk (hts _ hlink) (fun _ h => h) hfin hin2 hdecl (hty k0 hk) hn hfit hlen hd (fun H1 locs1 h1 h2 h3 => k H1 locs1 ls hK h1 h2 h3 hl)
theorem g_put (hX : zGIs V l cc own TT KK D cl nL R) {C : String} {T : u_T} {N ci index a : Nat} {fs : List Value} {v : Value} {w2 : va_W} (hin : ∀ w ∈ u_ws C T N, w ∈ TT) (ty0 : Nat → FieldType) (hty : ∀ k, k < N → parseFieldDescriptor (T k).2.2.1 = some (ty0 k)) (hnm : ∀ a, a < N → ∀ b, b < N → a ≠ b → (T a).2.1 ≠ (T b).2.1) (q0 : Nat) (he : w[q0]? = some (a, .inr (ci, fs))) (hc : cl[ci]? = some (C, T, N)) (k0 : Nat) (hk : k0 < N) (hlink : Cond.fieldLink own index (T k0).1 (T k0).2.1 (T k0).2.2.1 ∈ TT) (hfin : (T k0).2.2.2 = false) (hn : narrow (ty0 k0) v = v) (hfit : fits (ty0 k0) v = true) (hlen : k0 < fs.length) (hw : w.set q0 (a, .inr (ci, fs.set k0 v)) = w2) (hd : decode cc pc = .ok (.putfield index, 3)) (k : V w2 tys cells slots (pc + 3) lv st) : V w tys cells slots pc lv (v :: .ref a :: st) := by
  obtain ⟨p, e, s, m, args, below, meth, c, A, H0, Q, rfl, hx, hb, hml, hown, hts, hKm, hKK, hA⟩ := hX
  intro H locs ls hK hP hD hS hl
  subst hw
  exact va_put hx hb hts hin ty0 hty hnm hown hK hP hD hS q0 he hc k0 hk (hts _ hlink) (fun _ h => h) hfin (hty k0 hk) hn hfit hlen hd (fun H1 locs1 h1 h2 h3 => k H1 locs1 ls hK h1 h2 h3 hl)
end ZGR
/-- a constructor's contract: of a fresh cell it makes the world w1 h0 u, for some addresses and array kinds u -/
def zN (l : Launch) (y : MethodName) (wds : List Cond) (rm : Room) (D : va_G) (cl : List vw_C) (KK : State → Prop) (ci : Nat) (fs0 : List Value) (mc ms : Nat) (w1 : Nat → (Nat → Nat) × (Nat → ClassId) → va_W) (t1 : (Nat → Nat) × (Nat → ClassId) → List (ClassId × FieldType)) : Prop :=
  ∀ h0 sz : Nat, Met l y wds rm (va_Pc [.ref h0] (fun U => U.heap.size = sz ∧ va_P D cl [(h0, .inr (ci, fs0))] U.heap ∧ KK U ∧ va_D (fun _ => True) [(h0, .inr (ci, fs0))]))
    (va_Qv (fun _ : (Nat → Nat) × (Nat → ClassId) => True) (fun u t => va_P D cl (w1 h0 u) t.heap ∧ va_K D cl (t1 u) t ∧ va_D (va_A [(h0, .inr (ci, fs0))] sz) (w1 h0 u)) (va_A [(h0, .inr (ci, fs0))] sz)) mc ms (va_A [(h0, .inr (ci, fs0))] sz)
section ZGC
variable {V : zGV} {l : Launch} {cc : ByteArray} {own : String} {TT : List Cond} {KK : State → Prop} {D : va_G} {cl : List vw_C} {nL : Nat} {R : Room} {w : va_W} {tys : List (ClassId × FieldType)} {cells slots pc : Nat} {lv : List (Nat × Value)} {st : List Value}
/-- behind a constructor: the rest of the world is as it was -/
theorem g_joined {p : Program} {e : Env} {s : State} {m : MethodId} {args : Array Value} {below : List Frame} {meth : Method} {c : Code} {A : Nat → Prop} {H0 H : Heap} {Q : State → Prop} {locs : List Loc} {ls : Array Slot} {ci q mc ms : Nat} {fs0 : List Value} {w1 : (Nat → Nat) × (Nat → ClassId) → va_W} {t1 : (Nat → Nat) × (Nat → ClassId) → List (ClassId × FieldType)} {st0 : List Value} {av : Array Value}
    (hr : va_Run p l e R s m args below meth c H locs cells slots mc ms (F0 m pc ls st0) st (va_Qv (fun _ : (Nat → Nat) × (Nat → ClassId) => True) (fun u t => va_P D cl (w1 u) t.heap ∧ va_K D cl (t1 u) t ∧ va_D (va_A [(q, .inr (ci, fs0))] H.size) (w1 u)) (va_A [(q, .inr (ci, fs0))] H.size) av) (va_A [(q, .inr (ci, fs0))] H.size))
    (hA : ∀ x, H0.size ≤ x → A x) (hK : va_K D cl tys s) (hP : va_P D cl (w ++ [(q, .inr (ci, fs0))]) H) (hD : va_D A (w ++ [(q, .inr (ci, fs0))])) (hS : va_S A H0 H locs)
    (kk : ∀ (u : (Nat → Nat) × (Nat → ClassId)) (H1 : Heap) (locs1 : List Loc), va_K D cl (tys ++ t1 u) s → va_P D cl (w ++ w1 u) H1 → va_D A (w ++ w1 u) → va_S A H0 H1 locs1 → W p l e R s m args below meth c H1 locs1 (cells + mc) (slots + ms) Q (F0 m (pc + 3) ls st)) : W p l e R s m args below meth c H locs cells slots Q (F0 m pc ls st0) := by
  have hlast : (w ++ [(q, Sum.inr (ci, fs0))] : va_W)[w.length]? = some (q, .inr (ci, fs0)) := by simp
  have hAA : ∀ x, va_A [(q, .inr (ci, fs0))] H.size x → A x := fun x h => by
    rcases h with ⟨k, e9, h⟩ | h
    · have hk0 : k = 0 := by
        have := (List.getElem?_eq_some_iff.mp h).1
        simp at this
        exact this
      subst hk0
      cases h
      exact hD.2 _ _ hlast
    · exact hA x (Nat.le_trans hS.1 h)
  refine va_callv hr hS (fun x _ h => hAA x h) hAA (fun u t H1 locs1 ht hvm _ hB hz hk hS1 => ?_)
  obtain ⟨hP1, hK1, hD1⟩ := hB
  rw [ht] at hP1
  have hapart : ∀ (k : Nat) (x : Nat × va_E), w[k]? = some x → x.1 < H.size ∧ ¬ va_A [(q, .inr (ci, fs0))] H.size x.1 := by
    intro k x hx
    have hkl : k < w.length := (List.getElem?_eq_some_iff.mp hx).1
    have hx' : (w ++ [(q, Sum.inr (ci, fs0))] : va_W)[k]? = some x := by rw [List.getElem?_append_left hkl]; exact hx
    have hlt := (hP k x hx').lt
    refine ⟨hlt, fun h => ?_⟩
    rcases h with ⟨k2, e9, h⟩ | h
    · have hk0 : k2 = 0 := by
        have := (List.getElem?_eq_some_iff.mp h).1
        simp at this
        exact this
      subst hk0
      have hxq : x.1 = q := by cases h; rfl
      have := hD.1 k w.length x _ hx' hlast hxq
      omega
    · omega
  refine kk u H1 locs1 (hK.app (va_K.moved hvm.symm hK1)) (va_P.app (fun k x hx => ?_) hP1) (va_D.app ?_ (hD1.weaken (fun k x _ h => hAA x.1 h)) (fun i j x y hx hy hxy => ?_)) hS1
  · have hkl : k < w.length := (List.getElem?_eq_some_iff.mp hx).1
    have hx' : (w ++ [(q, Sum.inr (ci, fs0))] : va_W)[k]? = some x := by rw [List.getElem?_append_left hkl]; exact hx
    exact (hP k x hx').kept (hk x.1 (hapart k x hx).1 (hapart k x hx).2)
  · refine ⟨fun i j x y hi hj hxy => ?_, fun k x hx => ?_⟩
    · have hil : i < w.length := (List.getElem?_eq_some_iff.mp hi).1
      have hjl : j < w.length := (List.getElem?_eq_some_iff.mp hj).1
      exact hD.1 i j x y (by rw [List.getElem?_append_left hil]; exact hi) (by rw [List.getElem?_append_left hjl]; exact hj) hxy
    · have hkl : k < w.length := (List.getElem?_eq_some_iff.mp hx).1
      exact hD.2 k x (by rw [List.getElem?_append_left hkl]; exact hx)
  · exact (hapart i x hx).2 (by rw [hxy]; exact hD1.2 j y hy)
theorem g_ctorN (hX : zGIs V l cc own TT KK D cl nL R) {ci q mc ms index maxL : Nat} {y : MethodName} {bytes : ByteArray} {rm : Room} {host : String} {fs0 : List Value} {w1 : Nat → (Nat → Nat) × (Nat → ClassId) → va_W} {t1 : (Nat → Nat) × (Nat → ClassId) → List (ClassId × FieldType)} (hM : zN l y (Cond.code y bytes maxL none :: TT) rm D cl KK ci fs0 mc ms w1 t1) (hG : GoodIn TT (Cond.code y bytes maxL none :: TT)) (hN : ∀ U, KK U → va_Nw (.methodLinkNest own index y host) U) (hinst : Cond.instanceMethod y ∈ TT) (hini : Cond.initialized y.cls ∈ TT) (hrm : rm.cells = mc ∧ rm.slots = ms) (hR : rm.frames + 1 ≤ R.frames ∧ 8 + (maxL + 11) + rm.locals ≤ R.locals) (hy : y.name = "<init>") (hd : y.cls ≠ "java/lang/invoke/MethodHandle" ∧ y.cls ≠ "java/lang/invoke/VarHandle" ∧ (parseMethodDescriptor y.desc).map (fun d => d.parameters.length) = some 0)
    (hW : (st.map fun v => v.category).sum ≤ 8) (hf : cells + mc ≤ R.cells ∧ slots + ms ≤ R.slots) (hdg : decode cc pc = .ok (.invokespecial index, 3))
    (k : ∀ u : (Nat → Nat) × (Nat → ClassId), V (w ++ w1 q u) (tys ++ t1 u) (cells + mc) (slots + ms) (pc + 3) lv st) : V (w ++ [(q, .inr (ci, fs0))]) tys cells slots pc lv (.ref q :: st) := by
  obtain ⟨p, e, s, m, args, below, meth, c, A, H0, Q, rfl, hx, hb, hml, hown, hts, hKm, hKK, hA⟩ := hX
  intro H locs ls hK hP hD hS hl
  have hPl : va_P D cl [(q, .inr (ci, fs0))] H := fun k9 x hx => hP (w.length + k9) x (by rw [List.getElem?_append_right (by omega)]; simpa using hx)
  have hDl : va_D (fun _ => True) [(q, Sum.inr (ci, fs0))] := ⟨fun i j x y9 hi hj _ => by
    have h1 := (List.getElem?_eq_some_iff.mp hi).1
    have h2 := (List.getElem?_eq_some_iff.mp hj).1
    simp at h1 h2
    omega, fun _ _ _ => trivial⟩
  exact g_joined (w1 := w1 q) (t1 := t1) (va_runIN (As := []) (rest := st) ⟨hx, hb, hml, hown, hts⟩ (hM q H.size) ⟨va_cnB 0 hts hG rfl hrm.1 hrm.2 (hN s hKK) (hts _ hini) hd hR, hy, hts _ hinst⟩ ⟨fun a U g mk x => by obtain ⟨x0, x1, xP, xK, xD⟩ := x; exact ⟨x0, x1, xP, hKm.2 U g mk a xK, xD⟩, fun U hU hW9 => ⟨rfl, by rw [hU], by rw [hU]; exact hPl, hKm.1 _ U hW9 hKK, hDl⟩⟩ rfl rfl hl.1 rfl (lv_room hW) hdg hf) hA hK hP hD hS (fun u H1 locs1 h0 h1 h2 h3 => k u H1 locs1 ls h0 h1 h2 h3 hl)
theorem g_ctor (hX : zGIs V l cc own TT KK D cl nL R) {ci q mc ms index maxL : Nat} {y : MethodName} {bytes : ByteArray} {rm : Room} {fs0 : List Value} {w1 : Nat → (Nat → Nat) × (Nat → ClassId) → va_W} {t1 : (Nat → Nat) × (Nat → ClassId) → List (ClassId × FieldType)} (hM : zN l y (Cond.code y bytes maxL none :: TT) rm D cl KK ci fs0 mc ms w1 t1) (hG : GoodIn TT (Cond.code y bytes maxL none :: TT)) (hN : Cond.methodLink own index y ∈ TT) (hinst : Cond.instanceMethod y ∈ TT) (hini : Cond.initialized y.cls ∈ TT) (hrm : rm.cells = mc ∧ rm.slots = ms) (hR : rm.frames + 1 ≤ R.frames ∧ 8 + (maxL + 11) + rm.locals ≤ R.locals) (hy : y.name = "<init>") (hd : y.cls ≠ "java/lang/invoke/MethodHandle" ∧ y.cls ≠ "java/lang/invoke/VarHandle" ∧ (parseMethodDescriptor y.desc).map (fun d => d.parameters.length) = some 0)
    (hW : (st.map fun v => v.category).sum ≤ 8) (hf : cells + mc ≤ R.cells ∧ slots + ms ≤ R.slots) (hdg : decode cc pc = .ok (.invokespecial index, 3))
    (k : ∀ u : (Nat → Nat) × (Nat → ClassId), V (w ++ w1 q u) (tys ++ t1 u) (cells + mc) (slots + ms) (pc + 3) lv st) : V (w ++ [(q, .inr (ci, fs0))]) tys cells slots pc lv (.ref q :: st) := by
  obtain ⟨p, e, s, m, args, below, meth, c, A, H0, Q, rfl, hx, hb, hml, hown, hts, hKm, hKK, hA⟩ := hX
  intro H locs ls hK hP hD hS hl
  have hPl : va_P D cl [(q, .inr (ci, fs0))] H := fun k9 x hx => hP (w.length + k9) x (by rw [List.getElem?_append_right (by omega)]; simpa using hx)
  have hDl : va_D (fun _ => True) [(q, Sum.inr (ci, fs0))] := ⟨fun i j x y9 hi hj _ => by
    have h1 := (List.getElem?_eq_some_iff.mp hi).1
    have h2 := (List.getElem?_eq_some_iff.mp hj).1
    simp at h1 h2
    omega, fun _ _ _ => trivial⟩
  exact g_joined (w1 := w1 q) (t1 := t1) (va_runI (As := []) (rest := st) ⟨hx, hb, hml, hown, hts⟩ (hM q H.size) (cwI 0 hts hG rfl hrm.1 hrm.2 (hts _ hini) (hts _ hN) (hts _ hinst) hy hd hR) ⟨fun a U g mk x => by obtain ⟨x0, x1, xP, xK, xD⟩ := x; exact ⟨x0, x1, xP, hKm.2 U g mk a xK, xD⟩, fun U hU hW9 => ⟨rfl, by rw [hU], by rw [hU]; exact hPl, hKm.1 _ U hW9 hKK, hDl⟩⟩ rfl rfl hl.1 rfl (lv_room hW) hdg hf) hA hK hP hD hS (fun u H1 locs1 h0 h1 h2 h3 => k u H1 locs1 ls h0 h1 h2 h3 hl)
end ZGC
/-- a constructor's contract out of its walk; its end is 'hE' -/
theorem zmk_n {l : Launch} {cc : ByteArray} {TT : List Cond} {KK : State → Prop} {D : va_G} {cl : List vw_C} {nL : Nat} {rm : Room} {y : MethodName} {ci mc ms : Nat} {fs0 : List Value} {w1 : Nat → (Nat → Nat) × (Nat → ClassId) → va_W} {t1 : (Nat → Nat) × (Nat → ClassId) → List (ClassId × FieldType)} (hy : plainName y.cls = true) (hyn : y.name = "<init>") (hKm : zKm KK) (hKt : ∀ U, KK U → va_K D cl [] U) (hnL : 1 ≤ nL)
    (hbody : ∀ (V : zGV) (h0 : Nat), zGn V l cc y.cls TT KK D cl nL rm → (∀ (u : (Nat → Nat) × (Nat → ClassId)) (pc : Nat) (lv : List (Nat × Value)), decode cc pc = .ok (.return_, 1) → V (w1 h0 u) (t1 u) mc ms pc lv []) → V [(h0, .inr (ci, fs0))] [] 0 0 0 [(0, .ref h0)] []) : zN l y (Cond.code y cc nL none :: TT) rm D cl KK ci fs0 mc ms w1 t1 := by
  intro h0 sz
  refine Met.ofW (cc := cc) (maxL := nL) (ret := none) hy rfl ?_
  intro p e s m args below meth c s₁ B hml hv
  obtain ⟨rfl, hsz, hP, hKK, hD0⟩ := hv
  have hx := B.exec
  have hb := B.bytes
  have hr := B.returns
  have hts := atoms_spec (ws := Cond.code y cc nL none :: TT) B.pre
  have hown : s.vm.findClass y.cls = some m.cls := findClass_of_methodNamed B.named
  have hlocks := B.notSynchronized
  have hin : meth.name = "<init>" := by rw [(name_of_methodNamed B.named B.method).1, hyn]
  subst hsz
  have hD := hD0.self (sz := s.heap.size)
  have hA : ∀ q : Nat, s.heap.size ≤ q → va_A [(h0, .inr (ci, fs0))] s.heap.size q := fun q h => Or.inr h
  have hl := lv_entry [.ref h0] (n := nL) (by simpa [lg_sl, Value.category] using hnL)
  rw [lg_entry_eq]
  refine hbody (fun w tys cells slots pc lv st => ∀ (H : Heap) (locs : List Loc) (ls : Array Slot), va_K D cl tys s → va_P D cl w H → va_D (va_A [(h0, .inr (ci, fs0))] s.heap.size) w → va_S (va_A [(h0, .inr (ci, fs0))] s.heap.size) s.heap H locs → lv_has ls nL lv → W p l e rm s m ([.ref h0] : List Value).toArray below meth c H locs cells slots (MQ below (va_Qv (fun _ : (Nat → Nat) × (Nat → ClassId) => True) (fun u t => va_P D cl (w1 h0 u) t.heap ∧ va_K D cl (t1 u) t ∧ va_D (va_A [(h0, .inr (ci, fs0))] s.heap.size) (w1 h0 u)) (va_A [(h0, .inr (ci, fs0))] s.heap.size)) ([.ref h0] : List Value).toArray s mc ms (va_A [(h0, .inr (ci, fs0))] s.heap.size)) (F0 m pc ls st)) h0
    ⟨p, e, s, m, _, below, meth, c, va_A [(h0, .inr (ci, fs0))] s.heap.size, s.heap, _, rfl, hx, hb, hml, hown, fun w h => hts w (List.mem_cons_of_mem _ h), hKm, hKK, hA, hin⟩ ?_ s.heap [] _ (hKt s hKK) hP hD va_S.rf hl
  intro u pc lv hd H locs ls hK1 hP1 hD1 hS1 hl1
  exact W.vret hx hb hr (fun t ht hW => ⟨⟨u, rfl, trivial, by rw [ht]; exact hP1, va_K.moved hW.alike hK1, hD1⟩, hS1.F ht⟩) hS1.2.2 hd
end
section
/-! The law's own machine: the script b of L ints xs lies outside the world. -/
def zIsL {α : Type} (V : zV α) (l : Launch) (cc : ByteArray) (own : String) (TT : List Cond) (KK : State → Prop) (D : va_G) (cl : List vw_C) (tys : List (ClassId × FieldType)) (nL : Nat) (R : Room) (b L : Nat) (xs : Nat → Int32) : Prop :=
  ∃ (p : Program) (e : Env) (s : State) (m : MethodId) (args : Array Value) (below : List Frame) (meth : Method) (c : Code) (cells slots : Nat) (A : Nat → Prop) (H0 : Heap) (Qo : α × zS → State → Prop),
    V = (fun w pc lv st out => ∀ (H : Heap) (locs : List Loc) (ls : Array Slot), va_P D cl w H → va_D A w → va_S A H0 H locs → lv_has ls nL lv → W p l e R s m args below meth c H locs cells slots (Qo out) (F0 m pc ls st)) ∧
    (p.tables.exec = Jvm.exec ∧ c.code = cc ∧ c.maxLocals = nL ∧ s.vm.findClass own = some m.cls ∧ (∀ w ∈ TT, w.before args s = true) ∧ zKm KK ∧ KK s ∧ va_K D cl tys s ∧ (∀ q, H0.size ≤ q → A q) ∧ cells ≤ R.cells ∧ slots ≤ R.slots) ∧ va_X b L xs s H0 ∧ b < H0.size ∧ ¬ A b
theorem zIsL.is {α : Type} {V : zV α} {l : Launch} {cc : ByteArray} {own : String} {TT : List Cond} {KK : State → Prop} {D : va_G} {cl : List vw_C} {tys : List (ClassId × FieldType)} {nL : Nat} {R : Room} {b L : Nat} {xs : Nat → Int32} (h : zIsL V l cc own TT KK D cl tys nL R b L xs) : zIs V l cc own TT KK D cl tys nL R := by
  obtain ⟨p, e, s, m, args, below, meth, c, cells, slots, A, H0, Qo, h1, h2, -⟩ := h
  exact ⟨p, e, s, m, args, below, meth, c, cells, slots, A, H0, Qo, h1, h2⟩
section ZLR
variable {α : Type} {V : zV α} {l : Launch} {cc : ByteArray} {own : String} {TT : List Cond} {KK : State → Prop} {D : va_G} {cl : List vw_C} {tys : List (ClassId × FieldType)} {nL : Nat} {R : Room} {f : Option (α × zS)} {w : va_W} {pc : Nat} {lv : List (Nat × Value)} {st : List Value} {b L : Nat} {xs : Nat → Int32}
theorem z_sld (hX : zIsL V l cc own TT KK D cl tys nL R b L xs) {i : Int32} (hd : decode cc pc = .ok (.iaload, 1)) (k : zJ V f w (pc + 1) lv (.int (xs i.toNatClampNeg) :: st)) : zJ V (zgd (zin i L) f) w pc lv (.int i :: .ref b :: st) := by
  refine z_gd (fun hi => ?_)
  obtain ⟨p, e, s, m, args, below, meth, c, cells, slots, A, H0, Qo, rfl, ⟨hx, hb, hml, hown, hts, hKm, hKK, hK, hA, hcs⟩, hXs, hbl, hbA⟩ := hX
  intro out hf H locs ls hP hD hS hl
  exact va_sld hx hb hXs hbl hbA hS (zin_vp hi) hd (k out hf H locs ls hP hD hS hl)
theorem z_slen (hX : zIsL V l cc own TT KK D cl tys nL R b L xs) (hd : decode cc pc = .ok (.arraylength, 1)) (k : zJ V f w (pc + 1) lv (.int (nI L) :: st)) : zJ V f w pc lv (.ref b :: st) := by
  obtain ⟨p, e, s, m, args, below, meth, c, cells, slots, A, H0, Qo, rfl, ⟨hx, hb, hml, hown, hts, hKm, hKK, hK, hA, hcs⟩, hXs, hbl, hbA⟩ := hX
  intro out hf H locs ls hP hD hS hl
  exact va_slen hx hb hXs hbl hbA hS hd (k out hf H locs ls hP hD hS hl)
end ZLR
theorem zsw_at {a b : va_W} {k : Nat} {q : Nat × va_E} (h : (b ++ a)[k]? = some q) : ∃ k2, (a ++ b)[k2]? = some q ∧ (k2 = if k < b.length then a.length + k else k - b.length) := by
  by_cases hk : k < b.length
  · refine ⟨a.length + k, ?_, by rw [if_pos hk]⟩
    rw [List.getElem?_append_left hk] at h
    rw [List.getElem?_append_right (by omega)]
    rw [show a.length + k - a.length = k by omega]
    exact h
  · refine ⟨k - b.length, ?_, by rw [if_neg hk]⟩
    rw [List.getElem?_append_right (by omega)] at h
    have hl : k - b.length < a.length := (List.getElem?_eq_some_iff.mp h).1
    rw [List.getElem?_append_left hl]
    exact h
theorem zsw_P {D : va_G} {cl : List vw_C} {a b : va_W} {H : Heap} (h : va_P D cl (a ++ b) H) : va_P D cl (b ++ a) H := fun k q hq => by
  obtain ⟨k2, h2, -⟩ := zsw_at hq
  exact h k2 q h2
theorem zsw_D {A : Nat → Prop} {a b : va_W} (h : va_D A (a ++ b)) : va_D A (b ++ a) := by
  refine ⟨fun i j p q hi hj hpq => ?_, fun k q hq => ?_⟩
  · obtain ⟨i2, h2, e2⟩ := zsw_at hi
    obtain ⟨j2, h3, e3⟩ := zsw_at hj
    have hij := h.1 i2 j2 p q h2 h3 hpq
    have hil : i < (b ++ a).length := (List.getElem?_eq_some_iff.mp hi).1
    have hjl : j < (b ++ a).length := (List.getElem?_eq_some_iff.mp hj).1
    rw [List.length_append] at hil hjl
    subst e2
    subst e3
    by_cases h1 : i < b.length <;> by_cases h4 : j < b.length
    · rw [if_pos h1, if_pos h4] at hij; omega
    · rw [if_pos h1, if_neg h4] at hij; omega
    · rw [if_neg h1, if_pos h4] at hij; omega
    · rw [if_neg h1, if_neg h4] at hij; omega
  · obtain ⟨k2, h2, -⟩ := zsw_at hq
    exact h.2 k2 q h2
/-- two worlds side by side, the other way round -/
theorem z_swap {α : Type} {V : zV α} {l : Launch} {cc : ByteArray} {own : String} {TT : List Cond} {KK : State → Prop} {D : va_G} {cl : List vw_C} {tys : List (ClassId × FieldType)} {nL : Nat} {R : Room} {f : Option (α × zS)} {a b : va_W} {pc : Nat} {lv : List (Nat × Value)} {st : List Value} (hX : zIs V l cc own TT KK D cl tys nL R) (k : zJ V f (b ++ a) pc lv st) : zJ V f (a ++ b) pc lv st := by
  obtain ⟨p, e, s, m, args, below, meth, c, cells, slots, A, H0, Qo, rfl, hx, hb, hml, hown, hts, hKm, hKK, hK, hA, hcs⟩ := hX
  intro out hf H locs ls hP hD hS hl
  exact k out hf H locs ls (zsw_P hP) (zsw_D hD) hS hl
end
