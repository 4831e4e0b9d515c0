section
-- ===== PART A: goes FIRST, ahead of the names: the tables' words, and 'selects' of the private methods out of them =====
/-- a private method of a class that the tables say can be made, by its rows of tables_1 -/
def lw_okq (q : MethodName × Nat) : Prop := (q.1.cls ≠ "java/lang/invoke/MethodHandle" ∧ q.1.cls ≠ "java/lang/invoke/VarHandle") ∧ Cond.instantiable q.1.cls q.2 ∈ tables_1 ∧ Cond.privateMethod q.1 ∈ tables_1 ∧ Cond.instanceMethod q.1 ∈ tables_1
theorem lw_p0 : lw_okq (⟨"ProvenanceRows$Artefacts", "meetMissing", "(I)V"⟩, 11) := ⟨⟨by decide +kernel, by decide +kernel⟩, List.mem_of_getElem? (i := 47) (by decide +kernel), List.mem_of_getElem? (i := 200) (by decide +kernel), List.mem_of_getElem? (i := 201) (by decide +kernel)⟩
theorem lw_p1 : lw_okq (⟨"ProvenanceRows$Rows", "contains", "(IJ)Z"⟩, 2) := ⟨⟨by decide +kernel, by decide +kernel⟩, List.mem_of_getElem? (i := 53) (by decide +kernel), List.mem_of_getElem? (i := 224) (by decide +kernel), List.mem_of_getElem? (i := 225) (by decide +kernel)⟩
theorem lw_p2 : lw_okq (⟨"ProvenanceRows$Artefacts", "firstOf", "(J)I"⟩, 11) := ⟨⟨by decide +kernel, by decide +kernel⟩, List.mem_of_getElem? (i := 47) (by decide +kernel), List.mem_of_getElem? (i := 238) (by decide +kernel), List.mem_of_getElem? (i := 239) (by decide +kernel)⟩
theorem lw_p3 : lw_okq (⟨"ProvenanceRows$Closure", "reach", "(I)V"⟩, 3) := ⟨⟨by decide +kernel, by decide +kernel⟩, List.mem_of_getElem? (i := 131) (by decide +kernel), List.mem_of_getElem? (i := 266) (by decide +kernel), List.mem_of_getElem? (i := 267) (by decide +kernel)⟩
theorem lw_p4 : lw_okq (⟨"ProvenanceRows", "firstBrokenBy", "(I)I"⟩, 7) := ⟨⟨by decide +kernel, by decide +kernel⟩, List.mem_of_getElem? (i := 10) (by decide +kernel), List.mem_of_getElem? (i := 274) (by decide +kernel), List.mem_of_getElem? (i := 275) (by decide +kernel)⟩
theorem lw_p5 : lw_okq (⟨"ProvenanceRows", "isBroken", "(II)Z"⟩, 7) := ⟨⟨by decide +kernel, by decide +kernel⟩, List.mem_of_getElem? (i := 10) (by decide +kernel), List.mem_of_getElem? (i := 278) (by decide +kernel), List.mem_of_getElem? (i := 279) (by decide +kernel)⟩
theorem lw_p6 : lw_okq (⟨"ProvenanceRows", "usesBranchOutside", "(II)Z"⟩, 7) := ⟨⟨by decide +kernel, by decide +kernel⟩, List.mem_of_getElem? (i := 10) (by decide +kernel), List.mem_of_getElem? (i := 283) (by decide +kernel), List.mem_of_getElem? (i := 284) (by decide +kernel)⟩
theorem lw_p7 : lw_okq (⟨"ProvenanceRows", "usesReviewedBelow", "(II)Z"⟩, 7) := ⟨⟨by decide +kernel, by decide +kernel⟩, List.mem_of_getElem? (i := 10) (by decide +kernel), List.mem_of_getElem? (i := 291) (by decide +kernel), List.mem_of_getElem? (i := 292) (by decide +kernel)⟩
theorem lw_p8 : lw_okq (⟨"ProvenanceRows", "usesFetchedUntold", "(I)Z"⟩, 7) := ⟨⟨by decide +kernel, by decide +kernel⟩, List.mem_of_getElem? (i := 10) (by decide +kernel), List.mem_of_getElem? (i := 301) (by decide +kernel), List.mem_of_getElem? (i := 302) (by decide +kernel)⟩
theorem lw_p9 : lw_okq (⟨"ProvenanceRows", "restsOn", "(IJ)Z"⟩, 7) := ⟨⟨by decide +kernel, by decide +kernel⟩, List.mem_of_getElem? (i := 10) (by decide +kernel), List.mem_of_getElem? (i := 353) (by decide +kernel), List.mem_of_getElem? (i := 354) (by decide +kernel)⟩
theorem lw_p10 : lw_okq (⟨"ProvenanceRows", "usesDigest", "(IJ)Z"⟩, 7) := ⟨⟨by decide +kernel, by decide +kernel⟩, List.mem_of_getElem? (i := 10) (by decide +kernel), List.mem_of_getElem? (i := 357) (by decide +kernel), List.mem_of_getElem? (i := 358) (by decide +kernel)⟩
theorem lw_p11 : lw_okq (⟨"ProvenanceRowsModel", "isSource", "(I)Z"⟩, 27) := ⟨⟨by decide +kernel, by decide +kernel⟩, List.mem_of_getElem? (i := 390) (by decide +kernel), List.mem_of_getElem? (i := 490) (by decide +kernel), List.mem_of_getElem? (i := 491) (by decide +kernel)⟩
theorem lw_p12 : lw_okq (⟨"ProvenanceRowsModel", "isArtefact", "(I)Z"⟩, 27) := ⟨⟨by decide +kernel, by decide +kernel⟩, List.mem_of_getElem? (i := 390) (by decide +kernel), List.mem_of_getElem? (i := 503) (by decide +kernel), List.mem_of_getElem? (i := 504) (by decide +kernel)⟩
theorem lw_p13 : lw_okq (⟨"ProvenanceRowsModel", "hasUse", "(II)Z"⟩, 27) := ⟨⟨by decide +kernel, by decide +kernel⟩, List.mem_of_getElem? (i := 390) (by decide +kernel), List.mem_of_getElem? (i := 507) (by decide +kernel), List.mem_of_getElem? (i := 508) (by decide +kernel)⟩
theorem lw_p14 : lw_okq (⟨"ProvenanceRowsModel", "hasNeed", "(IJ)Z"⟩, 27) := ⟨⟨by decide +kernel, by decide +kernel⟩, List.mem_of_getElem? (i := 390) (by decide +kernel), List.mem_of_getElem? (i := 515) (by decide +kernel), List.mem_of_getElem? (i := 516) (by decide +kernel)⟩
theorem lw_p15 : lw_okq (⟨"ProvenanceRowsModel", "goAlong", "(I)V"⟩, 27) := ⟨⟨by decide +kernel, by decide +kernel⟩, List.mem_of_getElem? (i := 390) (by decide +kernel), List.mem_of_getElem? (i := 531) (by decide +kernel), List.mem_of_getElem? (i := 532) (by decide +kernel)⟩
def lw_privs_1 : List (MethodName × Nat) := [(⟨"ProvenanceRows$Artefacts", "meetMissing", "(I)V"⟩, 11), (⟨"ProvenanceRows$Rows", "contains", "(IJ)Z"⟩, 2), (⟨"ProvenanceRows$Artefacts", "firstOf", "(J)I"⟩, 11), (⟨"ProvenanceRows$Closure", "reach", "(I)V"⟩, 3), (⟨"ProvenanceRows", "firstBrokenBy", "(I)I"⟩, 7), (⟨"ProvenanceRows", "isBroken", "(II)Z"⟩, 7), (⟨"ProvenanceRows", "usesBranchOutside", "(II)Z"⟩, 7), (⟨"ProvenanceRows", "usesReviewedBelow", "(II)Z"⟩, 7), (⟨"ProvenanceRows", "usesFetchedUntold", "(I)Z"⟩, 7), (⟨"ProvenanceRows", "restsOn", "(IJ)Z"⟩, 7), (⟨"ProvenanceRows", "usesDigest", "(IJ)Z"⟩, 7), (⟨"ProvenanceRowsModel", "isSource", "(I)Z"⟩, 27), (⟨"ProvenanceRowsModel", "isArtefact", "(I)Z"⟩, 27), (⟨"ProvenanceRowsModel", "hasUse", "(II)Z"⟩, 27), (⟨"ProvenanceRowsModel", "hasNeed", "(IJ)Z"⟩, 27), (⟨"ProvenanceRowsModel", "goAlong", "(I)V"⟩, 27)]
theorem lw_r1 : ∀ q ∈ lw_privs_1, lw_okq q := List.forall_mem_cons.mpr ⟨lw_p0, List.forall_mem_cons.mpr ⟨lw_p1, List.forall_mem_cons.mpr ⟨lw_p2, List.forall_mem_cons.mpr ⟨lw_p3, List.forall_mem_cons.mpr ⟨lw_p4, List.forall_mem_cons.mpr ⟨lw_p5, List.forall_mem_cons.mpr ⟨lw_p6, List.forall_mem_cons.mpr ⟨lw_p7, List.forall_mem_cons.mpr ⟨lw_p8, List.forall_mem_cons.mpr ⟨lw_p9, List.forall_mem_cons.mpr ⟨lw_p10, List.forall_mem_cons.mpr ⟨lw_p11, List.forall_mem_cons.mpr ⟨lw_p12, List.forall_mem_cons.mpr ⟨lw_p13, List.forall_mem_cons.mpr ⟨lw_p14, List.forall_mem_cons.mpr ⟨lw_p15, fun _ h => absurd h List.not_mem_nil⟩⟩⟩⟩⟩⟩⟩⟩⟩⟩⟩⟩⟩⟩⟩⟩
theorem lw_p16 : lw_okq (⟨"ProvenanceRowsModel", "come", "(I)V"⟩, 27) := ⟨⟨by decide +kernel, by decide +kernel⟩, List.mem_of_getElem? (i := 390) (by decide +kernel), List.mem_of_getElem? (i := 535) (by decide +kernel), List.mem_of_getElem? (i := 536) (by decide +kernel)⟩
theorem lw_p17 : lw_okq (⟨"ProvenanceRowsModel", "meets", "(J)I"⟩, 27) := ⟨⟨by decide +kernel, by decide +kernel⟩, List.mem_of_getElem? (i := 390) (by decide +kernel), List.mem_of_getElem? (i := 539) (by decide +kernel), List.mem_of_getElem? (i := 540) (by decide +kernel)⟩
theorem lw_p18 : lw_okq (⟨"ProvenanceRowsModel", "isBroken", "(II)Z"⟩, 27) := ⟨⟨by decide +kernel, by decide +kernel⟩, List.mem_of_getElem? (i := 390) (by decide +kernel), List.mem_of_getElem? (i := 559) (by decide +kernel), List.mem_of_getElem? (i := 560) (by decide +kernel)⟩
theorem lw_p19 : lw_okq (⟨"ProvenanceRowsModel", "sourceBreaks", "(III)Z"⟩, 27) := ⟨⟨by decide +kernel, by decide +kernel⟩, List.mem_of_getElem? (i := 390) (by decide +kernel), List.mem_of_getElem? (i := 563) (by decide +kernel), List.mem_of_getElem? (i := 564) (by decide +kernel)⟩
theorem lw_p20 : lw_okq (⟨"ProvenanceRowsModel", "others", "(II)I"⟩, 27) := ⟨⟨by decide +kernel, by decide +kernel⟩, List.mem_of_getElem? (i := 390) (by decide +kernel), List.mem_of_getElem? (i := 567) (by decide +kernel), List.mem_of_getElem? (i := 568) (by decide +kernel)⟩
theorem lw_p21 : lw_okq (⟨"ProvenanceRowsModel", "isLate", "(II)Z"⟩, 27) := ⟨⟨by decide +kernel, by decide +kernel⟩, List.mem_of_getElem? (i := 390) (by decide +kernel), List.mem_of_getElem? (i := 572) (by decide +kernel), List.mem_of_getElem? (i := 573) (by decide +kernel)⟩
theorem lw_p22 : lw_okq (⟨"ProvenanceRowsModel", "isClash", "(II)Z"⟩, 27) := ⟨⟨by decide +kernel, by decide +kernel⟩, List.mem_of_getElem? (i := 390) (by decide +kernel), List.mem_of_getElem? (i := 576) (by decide +kernel), List.mem_of_getElem? (i := 577) (by decide +kernel)⟩
theorem lw_p23 : lw_okq (⟨"ProvenanceRowsModel", "agree", "(II)Z"⟩, 27) := ⟨⟨by decide +kernel, by decide +kernel⟩, List.mem_of_getElem? (i := 390) (by decide +kernel), List.mem_of_getElem? (i := 580) (by decide +kernel), List.mem_of_getElem? (i := 581) (by decide +kernel)⟩
theorem lw_p24 : lw_okq (⟨"ProvenanceRowsModel", "sameSources", "(II)Z"⟩, 27) := ⟨⟨by decide +kernel, by decide +kernel⟩, List.mem_of_getElem? (i := 390) (by decide +kernel), List.mem_of_getElem? (i := 600) (by decide +kernel), List.mem_of_getElem? (i := 601) (by decide +kernel)⟩
theorem lw_p25 : lw_okq (⟨"ProvenanceRowsModel", "sameNeeds", "(II)Z"⟩, 27) := ⟨⟨by decide +kernel, by decide +kernel⟩, List.mem_of_getElem? (i := 390) (by decide +kernel), List.mem_of_getElem? (i := 604) (by decide +kernel), List.mem_of_getElem? (i := 605) (by decide +kernel)⟩
def lw_privs_2 : List (MethodName × Nat) := [(⟨"ProvenanceRowsModel", "come", "(I)V"⟩, 27), (⟨"ProvenanceRowsModel", "meets", "(J)I"⟩, 27), (⟨"ProvenanceRowsModel", "isBroken", "(II)Z"⟩, 27), (⟨"ProvenanceRowsModel", "sourceBreaks", "(III)Z"⟩, 27), (⟨"ProvenanceRowsModel", "others", "(II)I"⟩, 27), (⟨"ProvenanceRowsModel", "isLate", "(II)Z"⟩, 27), (⟨"ProvenanceRowsModel", "isClash", "(II)Z"⟩, 27), (⟨"ProvenanceRowsModel", "agree", "(II)Z"⟩, 27), (⟨"ProvenanceRowsModel", "sameSources", "(II)Z"⟩, 27), (⟨"ProvenanceRowsModel", "sameNeeds", "(II)Z"⟩, 27)]
theorem lw_r2 : ∀ q ∈ lw_privs_2, lw_okq q := List.forall_mem_cons.mpr ⟨lw_p16, List.forall_mem_cons.mpr ⟨lw_p17, List.forall_mem_cons.mpr ⟨lw_p18, List.forall_mem_cons.mpr ⟨lw_p19, List.forall_mem_cons.mpr ⟨lw_p20, List.forall_mem_cons.mpr ⟨lw_p21, List.forall_mem_cons.mpr ⟨lw_p22, List.forall_mem_cons.mpr ⟨lw_p23, List.forall_mem_cons.mpr ⟨lw_p24, List.forall_mem_cons.mpr ⟨lw_p25, fun _ h => absurd h List.not_mem_nil⟩⟩⟩⟩⟩⟩⟩⟩⟩⟩
def lw_privs : List (MethodName × Nat) := lw_privs_1 ++ (lw_privs_2)
def lw_tbl : List Cond := k2_sels lw_privs ++ tables_1
theorem lw_privs_ok : ∀ q ∈ lw_privs, lw_okq q := by
  show ∀ q ∈ lw_privs_1 ++ (lw_privs_2), lw_okq q
  exact List.forall_mem_append.mpr ⟨lw_r1, lw_r2⟩
-- ===== end of PART A; then your names; then what follows =====
end
section
/-! The walk's own words. A state of numbers is zS: int rows and long rows by number (a field is a row whose place 0 is read). zJ V f w pc lv st: if the pure value f is some out, the machine, at pc with these numbered slots and this stack in the world w, ends as out says. One row an instruction; guards of f stand for what the machine would refuse. -/
abbrev zS : Type := (Nat → Nat → Int32) × (Nat → Nat → Int64)
def zU {α : Type} (f : Nat → α) (k : Nat) (v : α) : Nat → α := fun j => bif Nat.beq j k then v else f j
def zI (σ : zS) (k i : Nat) (v : Int32) : zS := (zU σ.1 k (upd (σ.1 k) i v), σ.2)
def zF (σ : zS) (k : Nat) (v : Int32) : zS := (zU σ.1 k (fun _ => v), σ.2)
def zL (σ : zS) (k i : Nat) (v : Int64) : zS := (σ.1, zU σ.2 k (vp_updL (σ.2 k) i v))
def zin (i : Int32) (n : Nat) : Bool := decide (0 ≤ i.toInt ∧ i.toInt < (n : Int))
theorem zin_vp {i : Int32} {n : Nat} (h : zin i n = true) : vp_in i n := vp_in_iff.mpr (of_decide_eq_true h)
def zgd {γ : Type} (b : Bool) (e : Option γ) : Option γ := bif b then e else none
def zb {β γ : Type} (x : Option (β × zS)) (k : β → zS → Option γ) : Option γ := match x with
  | none => none
  | some o => k o.1 o.2
def zush (x y : Int32) : Int32 := (x.toUInt32 >>> (y.toUInt32 &&& Int32.toUInt32 31)).toInt32
def zshl (x y : Int32) : Int32 := x <<< (y &&& 31)
def zlsh (x : Int64) (y : Int32) : Int64 := x <<< (y.toInt64 &&& 63)
def zshr (x y : Int32) : Int32 := x >>> (y &&& 31)
def zg : List (Nat × Value) → Nat → Option Value
  | [], _ => none
  | q :: r, i => bif Nat.beq q.1 i then some q.2 else zg r i
theorem zg_mem : ∀ {lv : List (Nat × Value)} {i : Nat} {v : Value}, zg lv i = some v → (i, v) ∈ lv
  | [], i, v, h => by cases h
  | q :: r, i, v, h => by
    unfold zg at h
    cases hb : Nat.beq q.1 i with
    | true =>
      rw [hb] at h
      have e1 : q.1 = i := Nat.eq_of_beq_eq_true hb
      have e2 : q.2 = v := Option.some.inj h
      rw [← e1, ← e2]
      exact List.mem_cons_self
    | false =>
      rw [hb] at h
      exact List.mem_cons_of_mem _ (zg_mem h)
theorem zg_at {ls : Array Slot} {nL : Nat} {lv : List (Nat × Value)} {i : Nat} {v : Value} (h : lv_has ls nL lv) (hg : zg lv i = some v) : ls[i]? = some (.val v) := h.2.2 (i, v) (zg_mem hg)
abbrev zV (α : Type) : Type := va_W → Nat → List (Nat × Value) → List Value → α × zS → Prop
def zJ {α : Type} (V : zV α) (f : Option (α × zS)) (w : va_W) (pc : Nat) (lv : List (Nat × Value)) (st : List Value) : Prop := ∀ out : α × zS, f = some out → V w pc lv st out
/-- what a contract's start may ask of the tables: it stays when the machine warms up, and at a call -/
def zKm (KK : State → Prop) : Prop := (∀ s U : State, s.WarmedH U.vm → KK s → KK U) ∧ ∀ (U : State) (g : JFrame) (mk : MethodId) (a : Array Value), KK U → KK (U.calling g mk a)
/-- V is a method's own machine -/
def zIs {α : Type} (V : zV α) (l : Launch) (cc : ByteArray) (own : String) (TT : List Cond) (KK : State → Prop) (D : va_G) (cl : List vw_C) (tys : List (ClassId × FieldType)) (nL : Nat) (R : Room) : Prop :=
  ∃ (p : Program) (e : Env) (s : State) (m : MethodId) (args : Array Value) (below : List Frame) (meth : Method) (c : Code) (cells slots : Nat) (A : Nat → Prop) (H0 : Heap) (Qo : α × zS → State → Prop),
    V = (fun w pc lv st out => ∀ (H : Heap) (locs : List Loc) (ls : Array Slot), va_P D cl w H → va_D A w → va_S A H0 H locs → lv_has ls nL lv → W p l e R s m args below meth c H locs cells slots (Qo out) (F0 m pc ls st)) ∧
    p.tables.exec = Jvm.exec ∧ c.code = cc ∧ c.maxLocals = nL ∧ s.vm.findClass own = some m.cls ∧ (∀ w ∈ TT, w.before args s = true) ∧ zKm KK ∧ KK s ∧ va_K D cl tys s ∧ (∀ q, H0.size ≤ q → A q) ∧ cells ≤ R.cells ∧ slots ≤ R.slots
def zRi (V : zV Int32) (cc : ByteArray) (wl : zS → va_W) (ex : va_W) : Prop := ∀ (σ : zS) (r : Int32) (pc : Nat) (lv : List (Nat × Value)), decode cc pc = .ok (.ireturn, 1) → V (wl σ ++ ex) pc lv [.int r] (r, σ)
def zRz (V : zV Int32) (cc : ByteArray) (wl : zS → va_W) (ex : va_W) : Prop := ∀ (σ : zS) (r : Int32) (pc : Nat) (lv : List (Nat × Value)), narrow .boolean (.int r) = .int r → decode cc pc = .ok (.ireturn, 1) → V (wl σ ++ ex) pc lv [.int r] (r, σ)
def zRl (V : zV Int64) (cc : ByteArray) (wl : zS → va_W) (ex : va_W) : Prop := ∀ (σ : zS) (r : Int64) (pc : Nat) (lv : List (Nat × Value)), decode cc pc = .ok (.lreturn, 1) → V (wl σ ++ ex) pc lv [.long r] (r, σ)
def zRv (V : zV Unit) (cc : ByteArray) (wl : zS → va_W) (ex : va_W) : Prop := ∀ (σ : zS) (pc : Nat) (lv : List (Nat × Value)), decode cc pc = .ok (.return_, 1) → V (wl σ ++ ex) pc lv [] ((), σ)
abbrev zemI : Int32 → Option Value := fun r => some (.int r)
abbrev zemL : Int64 → Option Value := fun r => some (.long r)
abbrev zemV : Unit → Option Value := fun _ => none
/-- a contract: on any world that begins with wl σ, called with av, y ends as f says -/
def zC {α : Type} (em : α → Option Value) (l : Launch) (y : MethodName) (wds : List Cond) (rm : Room) (D : va_G) (cl : List vw_C) (KK : State → Prop) (wl : zS → va_W) (σ : zS) (av : List Value) (f : Option (α × zS)) : Prop :=
  ∀ (out : α × zS) (ex : va_W) (sz : Nat), f = some out → Met l y wds rm (va_Pc av (fun U => U.heap.size = sz ∧ va_P D cl (wl σ ++ ex) U.heap ∧ KK U ∧ va_D (fun _ => True) (wl σ ++ ex)))
    (fun _ st oc t => (oc = .returned (em out.1) ∧ va_P D cl (wl out.2 ++ ex) t.heap ∧ va_D (va_A (wl σ ++ ex) sz) (wl out.2 ++ ex)) ∧ va_F (va_A (wl σ ++ ex) sz) st t) 0 0 (va_A (wl σ ++ ex) sz)

section ZR
variable {α : Type} {V : zV α} {l : Launch} {cc : ByteArray} {own : String} {TT : List Cond} {KK : State → Prop} {D : va_G} {cl : List vw_C} {tys : List (ClassId × FieldType)} {nL : Nat} {R : Room} {f : Option (α × zS)} {w : va_W} {pc : Nat} {lv : List (Nat × Value)} {st : List Value}

theorem z_iconst (hX : zIs V l cc own TT KK D cl tys nL R) {n : Int} {v : Int32} (hd : decode cc pc = .ok (.iconst n, 1)) (hv : Int32.ofInt n = v) (k : zJ V f w (pc + 1) lv (.int v :: st)) : zJ V f w pc lv (st) := by
  obtain ⟨p, e, s, m, args, below, meth, c, cells, slots, A, H0, Qo, rfl, hx, hb, hml, hown, hts, hKm, hKK, hK, hA, hcs⟩ := hX
  intro out hf H locs ls hP hD hS hl
  exact lv_iconst hx hb hd hv (k out hf H locs ls hP hD hS hl)
theorem z_bipush (hX : zIs V l cc own TT KK D cl tys nL R) {n : Int} {v : Int32} (hd : decode cc pc = .ok (.bipush n, 2)) (hv : (Int8.ofInt n).toInt32 = v) (k : zJ V f w (pc + 2) lv (.int v :: st)) : zJ V f w pc lv (st) := by
  obtain ⟨p, e, s, m, args, below, meth, c, cells, slots, A, H0, Qo, rfl, hx, hb, hml, hown, hts, hKm, hKK, hK, hA, hcs⟩ := hX
  intro out hf H locs ls hP hD hS hl
  exact lv_bipush hx hb hd hv (k out hf H locs ls hP hD hS hl)
theorem z_sipush (hX : zIs V l cc own TT KK D cl tys nL R) {n : Int} {v : Int32} (hd : decode cc pc = .ok (.sipush n, 3)) (hv : (Int16.ofInt n).toInt32 = v) (k : zJ V f w (pc + 3) lv (.int v :: st)) : zJ V f w pc lv (st) := by
  obtain ⟨p, e, s, m, args, below, meth, c, cells, slots, A, H0, Qo, rfl, hx, hb, hml, hown, hts, hKm, hKK, hK, hA, hcs⟩ := hX
  intro out hf H locs ls hP hD hS hl
  exact lv_sipush hx hb hd hv (k out hf H locs ls hP hD hS hl)
theorem z_lconst (hX : zIs V l cc own TT KK D cl tys nL R) {n : Fin 2} {v : Int64} (hd : decode cc pc = .ok (.lconst n, 1)) (hv : Int64.ofNat (n : Nat) = v) (k : zJ V f w (pc + 1) lv (.long v :: st)) : zJ V f w pc lv (st) := by
  obtain ⟨p, e, s, m, args, below, meth, c, cells, slots, A, H0, Qo, rfl, hx, hb, hml, hown, hts, hKm, hKK, hK, hA, hcs⟩ := hX
  intro out hf H locs ls hP hD hS hl
  exact lv_lconst hx hb hd hv (k out hf H locs ls hP hD hS hl)
theorem z_iload_n (hX : zIs V l cc own TT KK D cl tys nL R) {j : Fin 4} {i : Nat} {x : Int32} (hd : decode cc pc = .ok (.iload_n j, 1)) (hi : (j : Nat) = i) (hg : zg lv i = some (.int x)) (k : zJ V f w (pc + 1) lv (.int x :: st)) : zJ V f w pc lv (st) := by
  obtain ⟨p, e, s, m, args, below, meth, c, cells, slots, A, H0, Qo, rfl, hx, hb, hml, hown, hts, hKm, hKK, hK, hA, hcs⟩ := hX
  intro out hf H locs ls hP hD hS hl
  exact lv_iload_n hx hb hd hi (zg_at hl hg) (k out hf H locs ls hP hD hS hl)
theorem z_iload (hX : zIs V l cc own TT KK D cl tys nL R) {i : Nat} {x : Int32} (hd : decode cc pc = .ok (.iload i, 2)) (hg : zg lv i = some (.int x)) (k : zJ V f w (pc + 2) lv (.int x :: st)) : zJ V f w pc lv (st) := by
  obtain ⟨p, e, s, m, args, below, meth, c, cells, slots, A, H0, Qo, rfl, hx, hb, hml, hown, hts, hKm, hKK, hK, hA, hcs⟩ := hX
  intro out hf H locs ls hP hD hS hl
  exact lv_iload hx hb hd (zg_at hl hg) (k out hf H locs ls hP hD hS hl)
theorem z_lload_n (hX : zIs V l cc own TT KK D cl tys nL R) {j : Fin 4} {i : Nat} {x : Int64} (hd : decode cc pc = .ok (.lload_n j, 1)) (hi : (j : Nat) = i) (hg : zg lv i = some (.long x)) (k : zJ V f w (pc + 1) lv (.long x :: st)) : zJ V f w pc lv (st) := by
  obtain ⟨p, e, s, m, args, below, meth, c, cells, slots, A, H0, Qo, rfl, hx, hb, hml, hown, hts, hKm, hKK, hK, hA, hcs⟩ := hX
  intro out hf H locs ls hP hD hS hl
  exact lv_lload_n hx hb hd hi (zg_at hl hg) (k out hf H locs ls hP hD hS hl)
theorem z_lload (hX : zIs V l cc own TT KK D cl tys nL R) {i : Nat} {x : Int64} (hd : decode cc pc = .ok (.lload i, 2)) (hg : zg lv i = some (.long x)) (k : zJ V f w (pc + 2) lv (.long x :: st)) : zJ V f w pc lv (st) := by
  obtain ⟨p, e, s, m, args, below, meth, c, cells, slots, A, H0, Qo, rfl, hx, hb, hml, hown, hts, hKm, hKK, hK, hA, hcs⟩ := hX
  intro out hf H locs ls hP hD hS hl
  exact lv_lload hx hb hd (zg_at hl hg) (k out hf H locs ls hP hD hS hl)
theorem z_aload_n (hX : zIs V l cc own TT KK D cl tys nL R) {j : Fin 4} {i : Nat} {x : Nat} (hd : decode cc pc = .ok (.aload_n j, 1)) (hi : (j : Nat) = i) (hg : zg lv i = some (.ref x)) (k : zJ V f w (pc + 1) lv (.ref x :: st)) : zJ V f w pc lv (st) := by
  obtain ⟨p, e, s, m, args, below, meth, c, cells, slots, A, H0, Qo, rfl, hx, hb, hml, hown, hts, hKm, hKK, hK, hA, hcs⟩ := hX
  intro out hf H locs ls hP hD hS hl
  exact lv_aload_n hx hb hd hi (zg_at hl hg) (k out hf H locs ls hP hD hS hl)
theorem z_aload (hX : zIs V l cc own TT KK D cl tys nL R) {i : Nat} {x : Nat} (hd : decode cc pc = .ok (.aload i, 2)) (hg : zg lv i = some (.ref x)) (k : zJ V f w (pc + 2) lv (.ref x :: st)) : zJ V f w pc lv (st) := by
  obtain ⟨p, e, s, m, args, below, meth, c, cells, slots, A, H0, Qo, rfl, hx, hb, hml, hown, hts, hKm, hKK, hK, hA, hcs⟩ := hX
  intro out hf H locs ls hP hD hS hl
  exact lv_aload hx hb hd (zg_at hl hg) (k out hf H locs ls hP hD hS hl)
theorem z_iadd (hX : zIs V l cc own TT KK D cl tys nL R) {x y : Int32} (hd : decode cc pc = .ok (.iadd, 1)) (k : zJ V f w (pc + 1) lv (.int (x + y) :: st)) : zJ V f w pc lv (.int y :: .int x :: st) := by
  obtain ⟨p, e, s, m, args, below, meth, c, cells, slots, A, H0, Qo, rfl, hx, hb, hml, hown, hts, hKm, hKK, hK, hA, hcs⟩ := hX
  intro out hf H locs ls hP hD hS hl
  exact lv_iadd hx hb hd (k out hf H locs ls hP hD hS hl)
theorem z_isub (hX : zIs V l cc own TT KK D cl tys nL R) {x y : Int32} (hd : decode cc pc = .ok (.isub, 1)) (k : zJ V f w (pc + 1) lv (.int (x - y) :: st)) : zJ V f w pc lv (.int y :: .int x :: st) := by
  obtain ⟨p, e, s, m, args, below, meth, c, cells, slots, A, H0, Qo, rfl, hx, hb, hml, hown, hts, hKm, hKK, hK, hA, hcs⟩ := hX
  intro out hf H locs ls hP hD hS hl
  exact lv_isub hx hb hd (k out hf H locs ls hP hD hS hl)
theorem z_imul (hX : zIs V l cc own TT KK D cl tys nL R) {x y : Int32} (hd : decode cc pc = .ok (.imul, 1)) (k : zJ V f w (pc + 1) lv (.int (x * y) :: st)) : zJ V f w pc lv (.int y :: .int x :: st) := by
  obtain ⟨p, e, s, m, args, below, meth, c, cells, slots, A, H0, Qo, rfl, hx, hb, hml, hown, hts, hKm, hKK, hK, hA, hcs⟩ := hX
  intro out hf H locs ls hP hD hS hl
  exact lv_imul hx hb hd (k out hf H locs ls hP hD hS hl)
theorem z_iand (hX : zIs V l cc own TT KK D cl tys nL R) {x y : Int32} (hd : decode cc pc = .ok (.iand, 1)) (k : zJ V f w (pc + 1) lv (.int (x &&& y) :: st)) : zJ V f w pc lv (.int y :: .int x :: st) := by
  obtain ⟨p, e, s, m, args, below, meth, c, cells, slots, A, H0, Qo, rfl, hx, hb, hml, hown, hts, hKm, hKK, hK, hA, hcs⟩ := hX
  intro out hf H locs ls hP hD hS hl
  exact lv_iand hx hb hd (k out hf H locs ls hP hD hS hl)
theorem z_ior (hX : zIs V l cc own TT KK D cl tys nL R) {x y : Int32} (hd : decode cc pc = .ok (.ior, 1)) (k : zJ V f w (pc + 1) lv (.int (x ||| y) :: st)) : zJ V f w pc lv (.int y :: .int x :: st) := by
  obtain ⟨p, e, s, m, args, below, meth, c, cells, slots, A, H0, Qo, rfl, hx, hb, hml, hown, hts, hKm, hKK, hK, hA, hcs⟩ := hX
  intro out hf H locs ls hP hD hS hl
  exact lv_ior hx hb hd (k out hf H locs ls hP hD hS hl)
theorem z_ixor (hX : zIs V l cc own TT KK D cl tys nL R) {x y : Int32} (hd : decode cc pc = .ok (.ixor, 1)) (k : zJ V f w (pc + 1) lv (.int (x ^^^ y) :: st)) : zJ V f w pc lv (.int y :: .int x :: st) := by
  obtain ⟨p, e, s, m, args, below, meth, c, cells, slots, A, H0, Qo, rfl, hx, hb, hml, hown, hts, hKm, hKK, hK, hA, hcs⟩ := hX
  intro out hf H locs ls hP hD hS hl
  exact lv_ixor hx hb hd (k out hf H locs ls hP hD hS hl)
theorem z_ishl (hX : zIs V l cc own TT KK D cl tys nL R) {x y : Int32} (hd : decode cc pc = .ok (.ishl, 1)) (k : zJ V f w (pc + 1) lv (.int (zshl x y) :: st)) : zJ V f w pc lv (.int y :: .int x :: st) := by
  obtain ⟨p, e, s, m, args, below, meth, c, cells, slots, A, H0, Qo, rfl, hx, hb, hml, hown, hts, hKm, hKK, hK, hA, hcs⟩ := hX
  intro out hf H locs ls hP hD hS hl
  exact lv_ishl hx hb hd (k out hf H locs ls hP hD hS hl)
theorem z_ishr (hX : zIs V l cc own TT KK D cl tys nL R) {x y : Int32} (hd : decode cc pc = .ok (.ishr, 1)) (k : zJ V f w (pc + 1) lv (.int (zshr x y) :: st)) : zJ V f w pc lv (.int y :: .int x :: st) := by
  obtain ⟨p, e, s, m, args, below, meth, c, cells, slots, A, H0, Qo, rfl, hx, hb, hml, hown, hts, hKm, hKK, hK, hA, hcs⟩ := hX
  intro out hf H locs ls hP hD hS hl
  exact lv_ishr hx hb hd (k out hf H locs ls hP hD hS hl)
theorem z_ladd (hX : zIs V l cc own TT KK D cl tys nL R) {x y : Int64} (hd : decode cc pc = .ok (.ladd, 1)) (k : zJ V f w (pc + 1) lv (.long (x + y) :: st)) : zJ V f w pc lv (.long y :: .long x :: st) := by
  obtain ⟨p, e, s, m, args, below, meth, c, cells, slots, A, H0, Qo, rfl, hx, hb, hml, hown, hts, hKm, hKK, hK, hA, hcs⟩ := hX
  intro out hf H locs ls hP hD hS hl
  exact lv_ladd hx hb hd (k out hf H locs ls hP hD hS hl)
theorem z_land (hX : zIs V l cc own TT KK D cl tys nL R) {x y : Int64} (hd : decode cc pc = .ok (.land, 1)) (k : zJ V f w (pc + 1) lv (.long (x &&& y) :: st)) : zJ V f w pc lv (.long y :: .long x :: st) := by
  obtain ⟨p, e, s, m, args, below, meth, c, cells, slots, A, H0, Qo, rfl, hx, hb, hml, hown, hts, hKm, hKK, hK, hA, hcs⟩ := hX
  intro out hf H locs ls hP hD hS hl
  exact lv_land hx hb hd (k out hf H locs ls hP hD hS hl)
theorem z_lor (hX : zIs V l cc own TT KK D cl tys nL R) {x y : Int64} (hd : decode cc pc = .ok (.lor, 1)) (k : zJ V f w (pc + 1) lv (.long (x ||| y) :: st)) : zJ V f w pc lv (.long y :: .long x :: st) := by
  obtain ⟨p, e, s, m, args, below, meth, c, cells, slots, A, H0, Qo, rfl, hx, hb, hml, hown, hts, hKm, hKK, hK, hA, hcs⟩ := hX
  intro out hf H locs ls hP hD hS hl
  exact lv_lor hx hb hd (k out hf H locs ls hP hD hS hl)
theorem z_lxor (hX : zIs V l cc own TT KK D cl tys nL R) {x y : Int64} (hd : decode cc pc = .ok (.lxor, 1)) (k : zJ V f w (pc + 1) lv (.long (x ^^^ y) :: st)) : zJ V f w pc lv (.long y :: .long x :: st) := by
  obtain ⟨p, e, s, m, args, below, meth, c, cells, slots, A, H0, Qo, rfl, hx, hb, hml, hown, hts, hKm, hKK, hK, hA, hcs⟩ := hX
  intro out hf H locs ls hP hD hS hl
  exact lv_lxor hx hb hd (k out hf H locs ls hP hD hS hl)
theorem z_lshl (hX : zIs V l cc own TT KK D cl tys nL R) {x : Int64} {y : Int32} (hd : decode cc pc = .ok (.lshl, 1)) (k : zJ V f w (pc + 1) lv (.long (zlsh x y) :: st)) : zJ V f w pc lv (.int y :: .long x :: st) := by
  obtain ⟨p, e, s, m, args, below, meth, c, cells, slots, A, H0, Qo, rfl, hx, hb, hml, hown, hts, hKm, hKK, hK, hA, hcs⟩ := hX
  intro out hf H locs ls hP hD hS hl
  exact lv_lshl hx hb hd rfl (k out hf H locs ls hP hD hS hl)
theorem z_iushr (hX : zIs V l cc own TT KK D cl tys nL R) {x y : Int32} (hd : decode cc pc = .ok (.iushr, 1)) (k : zJ V f w (pc + 1) lv (.int (zush x y) :: st)) : zJ V f w pc lv (.int y :: .int x :: st) := by
  obtain ⟨p, e, s, m, args, below, meth, c, cells, slots, A, H0, Qo, rfl, hx, hb, hml, hown, hts, hKm, hKK, hK, hA, hcs⟩ := hX
  intro out hf H locs ls hP hD hS hl
  exact lv_iushr hx hb hd rfl (k out hf H locs ls hP hD hS hl)
theorem z_l2i (hX : zIs V l cc own TT KK D cl tys nL R) {x : Int64} (hd : decode cc pc = .ok (.l2i, 1)) (k : zJ V f w (pc + 1) lv (.int x.toInt32 :: st)) : zJ V f w pc lv (.long x :: st) := by
  obtain ⟨p, e, s, m, args, below, meth, c, cells, slots, A, H0, Qo, rfl, hx, hb, hml, hown, hts, hKm, hKK, hK, hA, hcs⟩ := hX
  intro out hf H locs ls hP hD hS hl
  exact lv_l2i hx hb hd rfl (k out hf H locs ls hP hD hS hl)
theorem z_i2l (hX : zIs V l cc own TT KK D cl tys nL R) {x : Int32} (hd : decode cc pc = .ok (.i2l, 1)) (k : zJ V f w (pc + 1) lv (.long x.toInt64 :: st)) : zJ V f w pc lv (.int x :: st) := by
  obtain ⟨p, e, s, m, args, below, meth, c, cells, slots, A, H0, Qo, rfl, hx, hb, hml, hown, hts, hKm, hKK, hK, hA, hcs⟩ := hX
  intro out hf H locs ls hP hD hS hl
  exact lv_i2l hx hb hd rfl (k out hf H locs ls hP hD hS hl)
theorem z_lcmp (hX : zIs V l cc own TT KK D cl tys nL R) {x y : Int64} (hd : decode cc pc = .ok (.lcmp, 1)) (k : zJ V f w (pc + 1) lv (.int (lg_cmp x y) :: st)) : zJ V f w pc lv (.long y :: .long x :: st) := by
  obtain ⟨p, e, s, m, args, below, meth, c, cells, slots, A, H0, Qo, rfl, hx, hb, hml, hown, hts, hKm, hKK, hK, hA, hcs⟩ := hX
  intro out hf H locs ls hP hD hS hl
  exact W.lcmp hx hb hd (k out hf H locs ls hP hD hS hl)
theorem z_dup (hX : zIs V l cc own TT KK D cl tys nL R) {va : Value} (hd : decode cc pc = .ok (.dup, 1)) (h1 : va.category = 1) (k : zJ V f w (pc + 1) lv (va :: va :: st)) : zJ V f w pc lv (va :: st) := by
  obtain ⟨p, e, s, m, args, below, meth, c, cells, slots, A, H0, Qo, rfl, hx, hb, hml, hown, hts, hKm, hKK, hK, hA, hcs⟩ := hX
  intro out hf H locs ls hP hD hS hl
  exact lv_dup hx hb hd h1 (k out hf H locs ls hP hD hS hl)
theorem z_pop (hX : zIs V l cc own TT KK D cl tys nL R) {va : Value} (hd : decode cc pc = .ok (.pop, 1)) (h1 : va.category = 1) (k : zJ V f w (pc + 1) lv (st)) : zJ V f w pc lv (va :: st) := by
  obtain ⟨p, e, s, m, args, below, meth, c, cells, slots, A, H0, Qo, rfl, hx, hb, hml, hown, hts, hKm, hKK, hK, hA, hcs⟩ := hX
  intro out hf H locs ls hP hD hS hl
  exact lv_pop hx hb hd h1 (k out hf H locs ls hP hD hS hl)
theorem z_dup_x1 (hX : zIs V l cc own TT KK D cl tys nL R) {va vb : Value} (hd : decode cc pc = .ok (.dup_x1, 1)) (h1 : va.category = 1) (h2 : vb.category = 1) (k : zJ V f w (pc + 1) lv (va :: vb :: va :: st)) : zJ V f w pc lv (va :: vb :: st) := by
  obtain ⟨p, e, s, m, args, below, meth, c, cells, slots, A, H0, Qo, rfl, hx, hb, hml, hown, hts, hKm, hKK, hK, hA, hcs⟩ := hX
  intro out hf H locs ls hP hD hS hl
  exact lv_dup_x1 hx hb hd h1 h2 (k out hf H locs ls hP hD hS hl)
theorem z_dup2 (hX : zIs V l cc own TT KK D cl tys nL R) {va vb : Value} (hd : decode cc pc = .ok (.dup2, 1)) (h1 : va.category = 1) (h2 : vb.category = 1) (k : zJ V f w (pc + 1) lv (va :: vb :: va :: vb :: st)) : zJ V f w pc lv (va :: vb :: st) := by
  obtain ⟨p, e, s, m, args, below, meth, c, cells, slots, A, H0, Qo, rfl, hx, hb, hml, hown, hts, hKm, hKK, hK, hA, hcs⟩ := hX
  intro out hf H locs ls hP hD hS hl
  exact lv_dup2_11 hx hb hd h1 h2 (k out hf H locs ls hP hD hS hl)
theorem z_istore_n (hX : zIs V l cc own TT KK D cl tys nL R) {j : Fin 4} {i : Nat} {x : Int32} {lv2 : List (Nat × Value)} (hd : decode cc pc = .ok (.istore_n j, 1)) (hi : (j : Nat) = i) (hn : i < nL) (hl2 : (i, Value.int x) :: lv.filter (fun q => !(q.1 == i) && !(q.1 + 1 == i && q.2.category == 2)) = lv2) (k : zJ V f w (pc + 1) lv2 st) : zJ V f w pc lv (.int x :: st) := by
  obtain ⟨p, e, s, m, args, below, meth, c, cells, slots, A, H0, Qo, rfl, hx, hb, hml, hown, hts, hKm, hKK, hK, hA, hcs⟩ := hX
  intro out hf H locs ls hP hD hS hl
  exact lv_istore_n hx hb hd hi hl hn hl2 (fun ls' hl' => k out hf H locs ls' hP hD hS hl')
theorem z_istore (hX : zIs V l cc own TT KK D cl tys nL R) {i : Nat} {x : Int32} {lv2 : List (Nat × Value)} (hd : decode cc pc = .ok (.istore i, 2)) (hn : i < nL) (hl2 : (i, Value.int x) :: lv.filter (fun q => !(q.1 == i) && !(q.1 + 1 == i && q.2.category == 2)) = lv2) (k : zJ V f w (pc + 2) lv2 st) : zJ V f w pc lv (.int x :: st) := by
  obtain ⟨p, e, s, m, args, below, meth, c, cells, slots, A, H0, Qo, rfl, hx, hb, hml, hown, hts, hKm, hKK, hK, hA, hcs⟩ := hX
  intro out hf H locs ls hP hD hS hl
  exact lv_istore hx hb hd hl hn hl2 (fun ls' hl' => k out hf H locs ls' hP hD hS hl')
theorem z_astore_n (hX : zIs V l cc own TT KK D cl tys nL R) {j : Fin 4} {i : Nat} {x : Nat} {lv2 : List (Nat × Value)} (hd : decode cc pc = .ok (.astore_n j, 1)) (hi : (j : Nat) = i) (hn : i < nL) (hl2 : (i, Value.ref x) :: lv.filter (fun q => !(q.1 == i) && !(q.1 + 1 == i && q.2.category == 2)) = lv2) (k : zJ V f w (pc + 1) lv2 st) : zJ V f w pc lv (.ref x :: st) := by
  obtain ⟨p, e, s, m, args, below, meth, c, cells, slots, A, H0, Qo, rfl, hx, hb, hml, hown, hts, hKm, hKK, hK, hA, hcs⟩ := hX
  intro out hf H locs ls hP hD hS hl
  exact lv_astore_n hx hb hd hi hl hn hl2 (fun ls' hl' => k out hf H locs ls' hP hD hS hl')
theorem z_astore (hX : zIs V l cc own TT KK D cl tys nL R) {i : Nat} {x : Nat} {lv2 : List (Nat × Value)} (hd : decode cc pc = .ok (.astore i, 2)) (hn : i < nL) (hl2 : (i, Value.ref x) :: lv.filter (fun q => !(q.1 == i) && !(q.1 + 1 == i && q.2.category == 2)) = lv2) (k : zJ V f w (pc + 2) lv2 st) : zJ V f w pc lv (.ref x :: st) := by
  obtain ⟨p, e, s, m, args, below, meth, c, cells, slots, A, H0, Qo, rfl, hx, hb, hml, hown, hts, hKm, hKK, hK, hA, hcs⟩ := hX
  intro out hf H locs ls hP hD hS hl
  exact lv_astore hx hb hd hl hn hl2 (fun ls' hl' => k out hf H locs ls' hP hD hS hl')
theorem z_lstore_n (hX : zIs V l cc own TT KK D cl tys nL R) {j : Fin 4} {i : Nat} {x : Int64} {lv2 : List (Nat × Value)} (hd : decode cc pc = .ok (.lstore_n j, 1)) (hi : (j : Nat) = i) (hn : i + 1 < nL) (hl2 : (i, Value.long x) :: lv.filter (fun q => !(q.1 == i) && (!(q.1 == i + 1) && !(q.1 + 1 == i && q.2.category == 2))) = lv2) (k : zJ V f w (pc + 1) lv2 st) : zJ V f w pc lv (.long x :: st) := by
  obtain ⟨p, e, s, m, args, below, meth, c, cells, slots, A, H0, Qo, rfl, hx, hb, hml, hown, hts, hKm, hKK, hK, hA, hcs⟩ := hX
  intro out hf H locs ls hP hD hS hl
  exact lv_lstore_n hx hb hd hi hl hn hl2 (fun ls' hl' => k out hf H locs ls' hP hD hS hl')
theorem z_lstore (hX : zIs V l cc own TT KK D cl tys nL R) {i : Nat} {x : Int64} {lv2 : List (Nat × Value)} (hd : decode cc pc = .ok (.lstore i, 2)) (hn : i + 1 < nL) (hl2 : (i, Value.long x) :: lv.filter (fun q => !(q.1 == i) && (!(q.1 == i + 1) && !(q.1 + 1 == i && q.2.category == 2))) = lv2) (k : zJ V f w (pc + 2) lv2 st) : zJ V f w pc lv (.long x :: st) := by
  obtain ⟨p, e, s, m, args, below, meth, c, cells, slots, A, H0, Qo, rfl, hx, hb, hml, hown, hts, hKm, hKK, hK, hA, hcs⟩ := hX
  intro out hf H locs ls hP hD hS hl
  exact lv_lstore hx hb hd hl hn hl2 (fun ls' hl' => k out hf H locs ls' hP hD hS hl')
theorem z_iinc (hX : zIs V l cc own TT KK D cl tys nL R) {i : Nat} {n : Int} {x v : Int32} {lv2 : List (Nat × Value)} (hd : decode cc pc = .ok (.iinc i n, 3)) (k0 : Nat) (hk : lv[k0]? = some (i, .int x)) (hv : x + Int32.ofInt n = v) (hn : i < nL) (hl2 : (i, Value.int v) :: lv.filter (fun q => !(q.1 == i) && !(q.1 + 1 == i && q.2.category == 2)) = lv2) (k : zJ V f w (pc + 3) lv2 st) : zJ V f w pc lv st := by
  obtain ⟨p, e, s, m, args, below, meth, c, cells, slots, A, H0, Qo, rfl, hx, hb, hml, hown, hts, hKm, hKK, hK, hA, hcs⟩ := hX
  intro out hf H locs ls hP hD hS hl
  exact lv_iinc hx hb hd hl hk hv hn hl2 (fun ls' hl' => k out hf H locs ls' hP hD hS hl')
/-- fewer numbered slots, in another order -/
theorem z_lv (hX : zIs V l cc own TT KK D cl tys nL R) (ks : List Nat) {lv2 : List (Nat × Value)} (h : lv_pick lv ks = lv2) (k : zJ V f w pc lv2 st) : zJ V f w pc lv st := by
  obtain ⟨p, e, s, m, args, below, meth, c, cells, slots, A, H0, Qo, rfl, hx, hb, hml, hown, hts, hKm, hKK, hK, hA, hcs⟩ := hX
  intro out hf H locs ls hP hD hS hl
  exact k out hf H locs ls hP hD hS (lv_sub hl ks h)
theorem z_goto (hX : zIs V l cc own TT KK D cl tys nL R) {off : Int} {tgt : Nat} (hd : decode cc pc = .ok (.goto off, 3)) (ht : (pc : Int) + off = (tgt : Int)) (k : zJ V f w tgt lv st) : zJ V f w pc lv st := by
  obtain ⟨p, e, s, m, args, below, meth, c, cells, slots, A, H0, Qo, rfl, hx, hb, hml, hown, hts, hKm, hKK, hK, hA, hcs⟩ := hX
  intro out hf H locs ls hP hD hS hl
  exact lv_goto hx hb hd ht (k out hf H locs ls hP hD hS hl)
theorem z_if_eq (hX : zIs V l cc own TT KK D cl tys nL R) {e1 e2 : Option (α × zS)} {x : Int32} {off : Int} {tgt : Nat} {inst : Decidable (x = 0)} (hd : decode cc pc = .ok (.ifCond .eq off, 3)) (ht : (pc : Int) + off = (tgt : Int)) (k1 : x = 0 → zJ V e1 w tgt lv st) (k2 : ¬ x = 0 → zJ V e2 w (pc + 3) lv st) : zJ V (if x = 0 then e1 else e2) w pc lv (.int x :: st) := by
  obtain ⟨p, e, s, m, args, below, meth, c, cells, slots, A, H0, Qo, rfl, hx, hb, hml, hown, hts, hKm, hKK, hK, hA, hcs⟩ := hX
  intro out hf H locs ls hP hD hS hl
  exact lv_if_eq hx hb hd ht (fun h => k1 h out (by rw [← hf, if_pos h]) H locs ls hP hD hS hl) (fun h => k2 h out (by rw [← hf, if_neg h]) H locs ls hP hD hS hl)
theorem z_if_ne (hX : zIs V l cc own TT KK D cl tys nL R) {e1 e2 : Option (α × zS)} {x : Int32} {off : Int} {tgt : Nat} {inst : Decidable (x = 0)} (hd : decode cc pc = .ok (.ifCond .ne off, 3)) (ht : (pc : Int) + off = (tgt : Int)) (k1 : x = 0 → zJ V e1 w (pc + 3) lv st) (k2 : ¬ x = 0 → zJ V e2 w tgt lv st) : zJ V (if x = 0 then e1 else e2) w pc lv (.int x :: st) := by
  obtain ⟨p, e, s, m, args, below, meth, c, cells, slots, A, H0, Qo, rfl, hx, hb, hml, hown, hts, hKm, hKK, hK, hA, hcs⟩ := hX
  intro out hf H locs ls hP hD hS hl
  exact lv_if_ne hx hb hd ht (fun h => k2 h out (by rw [← hf, if_neg h]) H locs ls hP hD hS hl) (fun h => k1 h out (by rw [← hf, if_pos h]) H locs ls hP hD hS hl)
theorem z_if_lt (hX : zIs V l cc own TT KK D cl tys nL R) {e1 e2 : Option (α × zS)} {x : Int32} {off : Int} {tgt : Nat} {inst : Decidable (x < 0)} (hd : decode cc pc = .ok (.ifCond .lt off, 3)) (ht : (pc : Int) + off = (tgt : Int)) (k1 : x < 0 → zJ V e1 w tgt lv st) (k2 : ¬ x < 0 → zJ V e2 w (pc + 3) lv st) : zJ V (if x < 0 then e1 else e2) w pc lv (.int x :: st) := by
  obtain ⟨p, e, s, m, args, below, meth, c, cells, slots, A, H0, Qo, rfl, hx, hb, hml, hown, hts, hKm, hKK, hK, hA, hcs⟩ := hX
  intro out hf H locs ls hP hD hS hl
  exact lv_if_lt hx hb hd ht (fun h => k1 h out (by rw [← hf, if_pos h]) H locs ls hP hD hS hl) (fun h => k2 h out (by rw [← hf, if_neg h]) H locs ls hP hD hS hl)
theorem z_if_ge (hX : zIs V l cc own TT KK D cl tys nL R) {e1 e2 : Option (α × zS)} {x : Int32} {off : Int} {tgt : Nat} {inst : Decidable (x < 0)} (hd : decode cc pc = .ok (.ifCond .ge off, 3)) (ht : (pc : Int) + off = (tgt : Int)) (k1 : x < 0 → zJ V e1 w (pc + 3) lv st) (k2 : ¬ x < 0 → zJ V e2 w tgt lv st) : zJ V (if x < 0 then e1 else e2) w pc lv (.int x :: st) := by
  obtain ⟨p, e, s, m, args, below, meth, c, cells, slots, A, H0, Qo, rfl, hx, hb, hml, hown, hts, hKm, hKK, hK, hA, hcs⟩ := hX
  intro out hf H locs ls hP hD hS hl
  exact lv_if_ge hx hb hd ht (fun h => k2 (Int32.not_lt.mpr h) out (by rw [← hf, if_neg (Int32.not_lt.mpr h)]) H locs ls hP hD hS hl) (fun h => k1 (Int32.not_le.mp h) out (by rw [← hf, if_pos (Int32.not_le.mp h)]) H locs ls hP hD hS hl)
theorem z_if_gt (hX : zIs V l cc own TT KK D cl tys nL R) {e1 e2 : Option (α × zS)} {x : Int32} {off : Int} {tgt : Nat} {inst : Decidable (0 < x)} (hd : decode cc pc = .ok (.ifCond .gt off, 3)) (ht : (pc : Int) + off = (tgt : Int)) (k1 : 0 < x → zJ V e1 w tgt lv st) (k2 : ¬ 0 < x → zJ V e2 w (pc + 3) lv st) : zJ V (if 0 < x then e1 else e2) w pc lv (.int x :: st) := by
  obtain ⟨p, e, s, m, args, below, meth, c, cells, slots, A, H0, Qo, rfl, hx, hb, hml, hown, hts, hKm, hKK, hK, hA, hcs⟩ := hX
  intro out hf H locs ls hP hD hS hl
  exact lv_if_gt hx hb hd ht (fun h => k1 h out (by rw [← hf, if_pos h]) H locs ls hP hD hS hl) (fun h => k2 h out (by rw [← hf, if_neg h]) H locs ls hP hD hS hl)
theorem z_if_le (hX : zIs V l cc own TT KK D cl tys nL R) {e1 e2 : Option (α × zS)} {x : Int32} {off : Int} {tgt : Nat} {inst : Decidable (0 < x)} (hd : decode cc pc = .ok (.ifCond .le off, 3)) (ht : (pc : Int) + off = (tgt : Int)) (k1 : 0 < x → zJ V e1 w (pc + 3) lv st) (k2 : ¬ 0 < x → zJ V e2 w tgt lv st) : zJ V (if 0 < x then e1 else e2) w pc lv (.int x :: st) := by
  obtain ⟨p, e, s, m, args, below, meth, c, cells, slots, A, H0, Qo, rfl, hx, hb, hml, hown, hts, hKm, hKK, hK, hA, hcs⟩ := hX
  intro out hf H locs ls hP hD hS hl
  exact lv_if_le hx hb hd ht (fun h => k2 (Int32.not_lt.mpr h) out (by rw [← hf, if_neg (Int32.not_lt.mpr h)]) H locs ls hP hD hS hl) (fun h => k1 (Int32.not_le.mp h) out (by rw [← hf, if_pos (Int32.not_le.mp h)]) H locs ls hP hD hS hl)
theorem z_icmp_eq (hX : zIs V l cc own TT KK D cl tys nL R) {e1 e2 : Option (α × zS)} {x y : Int32} {off : Int} {tgt : Nat} {inst : Decidable (x = y)} (hd : decode cc pc = .ok (.if_icmp .eq off, 3)) (ht : (pc : Int) + off = (tgt : Int)) (k1 : x = y → zJ V e1 w tgt lv st) (k2 : ¬ x = y → zJ V e2 w (pc + 3) lv st) : zJ V (if x = y then e1 else e2) w pc lv (.int y :: .int x :: st) := by
  obtain ⟨p, e, s, m, args, below, meth, c, cells, slots, A, H0, Qo, rfl, hx, hb, hml, hown, hts, hKm, hKK, hK, hA, hcs⟩ := hX
  intro out hf H locs ls hP hD hS hl
  exact lv_icmp_eq hx hb hd ht (fun h => k1 h out (by rw [← hf, if_pos h]) H locs ls hP hD hS hl) (fun h => k2 h out (by rw [← hf, if_neg h]) H locs ls hP hD hS hl)
theorem z_icmp_ne (hX : zIs V l cc own TT KK D cl tys nL R) {e1 e2 : Option (α × zS)} {x y : Int32} {off : Int} {tgt : Nat} {inst : Decidable (x = y)} (hd : decode cc pc = .ok (.if_icmp .ne off, 3)) (ht : (pc : Int) + off = (tgt : Int)) (k1 : x = y → zJ V e1 w (pc + 3) lv st) (k2 : ¬ x = y → zJ V e2 w tgt lv st) : zJ V (if x = y then e1 else e2) w pc lv (.int y :: .int x :: st) := by
  obtain ⟨p, e, s, m, args, below, meth, c, cells, slots, A, H0, Qo, rfl, hx, hb, hml, hown, hts, hKm, hKK, hK, hA, hcs⟩ := hX
  intro out hf H locs ls hP hD hS hl
  exact lv_icmp_ne hx hb hd ht (fun h => k2 h out (by rw [← hf, if_neg h]) H locs ls hP hD hS hl) (fun h => k1 h out (by rw [← hf, if_pos h]) H locs ls hP hD hS hl)
theorem z_icmp_lt (hX : zIs V l cc own TT KK D cl tys nL R) {e1 e2 : Option (α × zS)} {x y : Int32} {off : Int} {tgt : Nat} {inst : Decidable (x < y)} (hd : decode cc pc = .ok (.if_icmp .lt off, 3)) (ht : (pc : Int) + off = (tgt : Int)) (k1 : x < y → zJ V e1 w tgt lv st) (k2 : ¬ x < y → zJ V e2 w (pc + 3) lv st) : zJ V (if x < y then e1 else e2) w pc lv (.int y :: .int x :: st) := by
  obtain ⟨p, e, s, m, args, below, meth, c, cells, slots, A, H0, Qo, rfl, hx, hb, hml, hown, hts, hKm, hKK, hK, hA, hcs⟩ := hX
  intro out hf H locs ls hP hD hS hl
  exact lv_icmp_lt hx hb hd ht (fun h => k1 h out (by rw [← hf, if_pos h]) H locs ls hP hD hS hl) (fun h => k2 h out (by rw [← hf, if_neg h]) H locs ls hP hD hS hl)
theorem z_icmp_ge (hX : zIs V l cc own TT KK D cl tys nL R) {e1 e2 : Option (α × zS)} {x y : Int32} {off : Int} {tgt : Nat} {inst : Decidable (x < y)} (hd : decode cc pc = .ok (.if_icmp .ge off, 3)) (ht : (pc : Int) + off = (tgt : Int)) (k1 : x < y → zJ V e1 w (pc + 3) lv st) (k2 : ¬ x < y → zJ V e2 w tgt lv st) : zJ V (if x < y then e1 else e2) w pc lv (.int y :: .int x :: st) := by
  obtain ⟨p, e, s, m, args, below, meth, c, cells, slots, A, H0, Qo, rfl, hx, hb, hml, hown, hts, hKm, hKK, hK, hA, hcs⟩ := hX
  intro out hf H locs ls hP hD hS hl
  exact lv_icmp_ge hx hb hd ht (fun h => k2 (Int32.not_lt.mpr h) out (by rw [← hf, if_neg (Int32.not_lt.mpr h)]) H locs ls hP hD hS hl) (fun h => k1 (Int32.not_le.mp h) out (by rw [← hf, if_pos (Int32.not_le.mp h)]) H locs ls hP hD hS hl)
theorem z_icmp_gt (hX : zIs V l cc own TT KK D cl tys nL R) {e1 e2 : Option (α × zS)} {x y : Int32} {off : Int} {tgt : Nat} {inst : Decidable (y < x)} (hd : decode cc pc = .ok (.if_icmp .gt off, 3)) (ht : (pc : Int) + off = (tgt : Int)) (k1 : y < x → zJ V e1 w tgt lv st) (k2 : ¬ y < x → zJ V e2 w (pc + 3) lv st) : zJ V (if y < x then e1 else e2) w pc lv (.int y :: .int x :: st) := by
  obtain ⟨p, e, s, m, args, below, meth, c, cells, slots, A, H0, Qo, rfl, hx, hb, hml, hown, hts, hKm, hKK, hK, hA, hcs⟩ := hX
  intro out hf H locs ls hP hD hS hl
  exact lv_icmp_gt hx hb hd ht (fun h => k1 h out (by rw [← hf, if_pos h]) H locs ls hP hD hS hl) (fun h => k2 h out (by rw [← hf, if_neg h]) H locs ls hP hD hS hl)
theorem z_icmp_le (hX : zIs V l cc own TT KK D cl tys nL R) {e1 e2 : Option (α × zS)} {x y : Int32} {off : Int} {tgt : Nat} {inst : Decidable (y < x)} (hd : decode cc pc = .ok (.if_icmp .le off, 3)) (ht : (pc : Int) + off = (tgt : Int)) (k1 : y < x → zJ V e1 w (pc + 3) lv st) (k2 : ¬ y < x → zJ V e2 w tgt lv st) : zJ V (if y < x then e1 else e2) w pc lv (.int y :: .int x :: st) := by
  obtain ⟨p, e, s, m, args, below, meth, c, cells, slots, A, H0, Qo, rfl, hx, hb, hml, hown, hts, hKm, hKK, hK, hA, hcs⟩ := hX
  intro out hf H locs ls hP hD hS hl
  exact lv_icmp_le hx hb hd ht (fun h => k2 (Int32.not_lt.mpr h) out (by rw [← hf, if_neg (Int32.not_lt.mpr h)]) H locs ls hP hD hS hl) (fun h => k1 (Int32.not_le.mp h) out (by rw [← hf, if_pos (Int32.not_le.mp h)]) H locs ls hP hD hS hl)
/-- a question that the machine asks later on: both ways at one place -/
theorem z_by {c : Prop} {inst : Decidable c} {e1 e2 : Option (α × zS)} (k1 : c → zJ V e1 w pc lv st) (k2 : ¬ c → zJ V e2 w pc lv st) : zJ V (if c then e1 else e2) w pc lv st := by
  intro out hf
  by_cases h : c
  · exact k1 h out (by rw [← hf, if_pos h])
  · exact k2 h out (by rw [← hf, if_neg h])
/-- a guard -/
theorem z_gd {b : Bool} (k : b = true → zJ V f w pc lv st) : zJ V (zgd b f) w pc lv st := by
  intro out hf
  cases hb : b with
  | true => rw [hb] at hf; exact k hb out hf
  | false => rw [hb] at hf; cases hf
theorem z_none : zJ V none w pc lv st := fun out hf => by cases hf
theorem z_tabIn (hX : zIs V l cc own TT KK D cl tys nL R) {dflt lo hi : Int} {offs : Array Int} {len : Nat} {x : Int32} {off : Int} {tgt : Nat} (hd : decode cc pc = .ok (.tableswitch dflt lo hi offs, len)) (h1 : ¬ x.toInt < lo) (h2 : ¬ hi < x.toInt) (ho : offs[(x.toInt - lo).toNat]? = some off) (ht : (pc : Int) + off = (tgt : Int)) (k : zJ V f w tgt lv st) : zJ V f w pc lv (.int x :: st) := by
  obtain ⟨p, e, s, m, args, below, meth, c, cells, slots, A, H0, Qo, rfl, hx, hb, hml, hown, hts, hKm, hKK, hK, hA, hcs⟩ := hX
  intro out hf H locs ls hP hD hS hl
  exact lv_tableIn hx hb hd h1 h2 ho ht (k out hf H locs ls hP hD hS hl)
theorem z_tabOut (hX : zIs V l cc own TT KK D cl tys nL R) {dflt lo hi : Int} {offs : Array Int} {len : Nat} {x : Int32} {tgt : Nat} (hd : decode cc pc = .ok (.tableswitch dflt lo hi offs, len)) (h : x.toInt < lo ∨ hi < x.toInt) (ht : (pc : Int) + dflt = (tgt : Int)) (k : zJ V f w tgt lv st) : zJ V f w pc lv (.int x :: st) := by
  obtain ⟨p, e, s, m, args, below, meth, c, cells, slots, A, H0, Qo, rfl, hx, hb, hml, hown, hts, hKm, hKK, hK, hA, hcs⟩ := hX
  intro out hf H locs ls hP hD hS hl
  exact lv_tableOut hx hb hd h ht (k out hf H locs ls hP hD hS hl)
theorem z_ldc (hX : zIs V l cc own TT KK D cl tys nL R) {index : Nat} {v : Int32} (hc : Cond.constant own index v ∈ TT) (hd : decode cc pc = .ok (.ldc index, 2)) (k : zJ V f w (pc + 2) lv (.int v :: st)) : zJ V f w pc lv st := by
  obtain ⟨p, e, s, m, args, below, meth, c, cells, slots, A, H0, Qo, rfl, hx, hb, hml, hown, hts, hKm, hKK, hK, hA, hcs⟩ := hX
  intro out hf H locs ls hP hD hS hl
  exact lv_ldc hx hb hown (hts _ hc) hd (k out hf H locs ls hP hD hS hl)
theorem z_ldcw (hX : zIs V l cc own TT KK D cl tys nL R) {index : Nat} {v : Int32} (hc : Cond.constant own index v ∈ TT) (hd : decode cc pc = .ok (.ldc_w index, 3)) (k : zJ V f w (pc + 3) lv (.int v :: st)) : zJ V f w pc lv st := by
  obtain ⟨p, e, s, m, args, below, meth, c, cells, slots, A, H0, Qo, rfl, hx, hb, hml, hown, hts, hKm, hKK, hK, hA, hcs⟩ := hX
  intro out hf H locs ls hP hD hS hl
  exact lv_ldcw hx hb hown (hts _ hc) hd (k out hf H locs ls hP hD hS hl)
theorem z_ldc2 (hX : zIs V l cc own TT KK D cl tys nL R) {index : Nat} {v : Int64} (hc : Cond.constantLong own index v ∈ TT) (hd : decode cc pc = .ok (.ldc2_w index, 3)) (k : zJ V f w (pc + 3) lv (.long v :: st)) : zJ V f w pc lv st := by
  obtain ⟨p, e, s, m, args, below, meth, c, cells, slots, A, H0, Qo, rfl, hx, hb, hml, hown, hts, hKm, hKK, hK, hA, hcs⟩ := hX
  intro out hf H locs ls hP hD hS hl
  exact lv_ldc2 hx hb hown (hts _ hc) hd (k out hf H locs ls hP hD hS hl)
theorem z_get (hX : zIs V l cc own TT KK D cl tys nL R) {C : String} {T : u_T} {N ci index a : Nat} {fs : List Value} {v : Value} (hin : ∀ w ∈ u_ws C T N, w ∈ TT) (q0 : Nat) (he : w[q0]? = some (a, .inr (ci, fs))) (hc : cl[ci]? = some (C, T, N)) (k0 : Nat) (hk : k0 < N) (hlink : Cond.fieldLink own index (T k0).1 (T k0).2.1 (T k0).2.2.1 ∈ TT) (hv : fs[k0]? = some v) (hd : decode cc pc = .ok (.getfield index, 3)) (k : zJ V f w (pc + 3) lv (v :: st)) : zJ V f w pc lv (.ref a :: st) := by
  obtain ⟨p, e, s, m, args, below, meth, c, cells, slots, A, H0, Qo, rfl, hx, hb, hml, hown, hts, hKm, hKK, hK, hA, hcs⟩ := hX
  intro out hf H locs ls hP hD hS hl
  exact va_get hx hb hts hin hown hK hP q0 he hc k0 hk (hts _ hlink) (fun _ h => h) hv hd (k out hf H locs ls hP hD hS hl)
theorem z_put (hX : zIs V l cc own TT KK D cl tys nL R) {C : String} {T : u_T} {N ci index a : Nat} {fs : List Value} {v : Value} {w2 : va_W} (hin : ∀ w ∈ u_ws C T N, w ∈ TT) (ty0 : Nat → FieldType) (hty : ∀ k, k < N → parseFieldDescriptor (T k).2.2.1 = some (ty0 k)) (hnm : ∀ a, a < N → ∀ b, b < N → a ≠ b → (T a).2.1 ≠ (T b).2.1) (q0 : Nat) (he : w[q0]? = some (a, .inr (ci, fs))) (hc : cl[ci]? = some (C, T, N)) (k0 : Nat) (hk : k0 < N) (hlink : Cond.fieldLink own index (T k0).1 (T k0).2.1 (T k0).2.2.1 ∈ TT) (hfin : (T k0).2.2.2 = false) (hn : narrow (ty0 k0) v = v) (hfit : fits (ty0 k0) v = true) (hl : k0 < fs.length) (hw : w.set q0 (a, .inr (ci, fs.set k0 v)) = w2) (hd : decode cc pc = .ok (.putfield index, 3)) (k : zJ V f w2 (pc + 3) lv st) : zJ V f w pc lv (v :: .ref a :: st) := by
  obtain ⟨p, e, s, m, args, below, meth, c, cells, slots, A, H0, Qo, rfl, hx, hb, hml, hown, hts, hKm, hKK, hK, hA, hcs⟩ := hX
  intro out hf H locs ls hP hD hS hl9
  subst hw
  exact va_put hx hb hts hin ty0 hty hnm hown hK hP hD hS q0 he hc k0 hk (hts _ hlink) (fun _ h => h) hfin (hty k0 hk) hn hfit hl hd (fun H1 locs1 h1 h2 h3 => k out hf H1 locs1 ls h1 h2 h3 hl9)
theorem z_iald (hX : zIs V l cc own TT KK D cl tys nL R) {a n : Nat} {cA : ClassId} {g : Nat → Int32} {i : Int32} (q0 t0 : Nat) (ha : w[q0]? = some (a, .inl (cA, n, .inl g))) (ht : tys[t0]? = some (cA, .int)) (hd : decode cc pc = .ok (.iaload, 1)) (k : zJ V f w (pc + 1) lv (.int (g i.toNatClampNeg) :: st)) : zJ V (zgd (zin i n) f) w pc lv (.int i :: .ref a :: st) := by
  refine z_gd (fun hi => ?_)
  obtain ⟨p, e, s, m, args, below, meth, c, cells, slots, A, H0, Qo, rfl, hx, hb, hml, hown, hts, hKm, hKK, hK, hA, hcs⟩ := hX
  intro out hf H locs ls hP hD hS hl
  exact va_iald hx hb hK hP q0 t0 ha ht (zin_vp hi) hd (k out hf H locs ls hP hD hS hl)
theorem z_zald (hX : zIs V l cc own TT KK D cl tys nL R) {a n : Nat} {cA : ClassId} {g : Nat → Int32} {i : Int32} (q0 t0 : Nat) (ha : w[q0]? = some (a, .inl (cA, n, .inl g))) (ht : tys[t0]? = some (cA, .boolean)) (hd : decode cc pc = .ok (.baload, 1)) (k : zJ V f w (pc + 1) lv (.int (g i.toNatClampNeg) :: st)) : zJ V (zgd (zin i n) f) w pc lv (.int i :: .ref a :: st) := by
  refine z_gd (fun hi => ?_)
  obtain ⟨p, e, s, m, args, below, meth, c, cells, slots, A, H0, Qo, rfl, hx, hb, hml, hown, hts, hKm, hKK, hK, hA, hcs⟩ := hX
  intro out hf H locs ls hP hD hS hl
  exact va_zald hx hb hK hP q0 t0 ha ht (zin_vp hi) hd (k out hf H locs ls hP hD hS hl)
theorem z_bald (hX : zIs V l cc own TT KK D cl tys nL R) {a n : Nat} {cA : ClassId} {g : Nat → Int32} {i : Int32} (q0 t0 : Nat) (ha : w[q0]? = some (a, .inl (cA, n, .inl g))) (ht : tys[t0]? = some (cA, .byte)) (hd : decode cc pc = .ok (.baload, 1)) (k : zJ V f w (pc + 1) lv (.int (g i.toNatClampNeg) :: st)) : zJ V (zgd (zin i n) f) w pc lv (.int i :: .ref a :: st) := by
  refine z_gd (fun hi => ?_)
  obtain ⟨p, e, s, m, args, below, meth, c, cells, slots, A, H0, Qo, rfl, hx, hb, hml, hown, hts, hKm, hKK, hK, hA, hcs⟩ := hX
  intro out hf H locs ls hP hD hS hl
  exact va_bald hx hb hK hP q0 t0 ha ht (zin_vp hi) hd (k out hf H locs ls hP hD hS hl)
theorem z_lald (hX : zIs V l cc own TT KK D cl tys nL R) {a n : Nat} {cA : ClassId} {g : Nat → Int64} {i : Int32} (q0 t0 : Nat) (ha : w[q0]? = some (a, .inl (cA, n, .inr (.inl g)))) (ht : tys[t0]? = some (cA, .long)) (hd : decode cc pc = .ok (.laload, 1)) (k : zJ V f w (pc + 1) lv (.long (g i.toNatClampNeg) :: st)) : zJ V (zgd (zin i n) f) w pc lv (.int i :: .ref a :: st) := by
  refine z_gd (fun hi => ?_)
  obtain ⟨p, e, s, m, args, below, meth, c, cells, slots, A, H0, Qo, rfl, hx, hb, hml, hown, hts, hKm, hKK, hK, hA, hcs⟩ := hX
  intro out hf H locs ls hP hD hS hl
  exact va_lald hx hb hK hP q0 t0 ha ht (zin_vp hi) hd (k out hf H locs ls hP hD hS hl)
theorem z_iast (hX : zIs V l cc own TT KK D cl tys nL R) {a n : Nat} {cA : ClassId} {g : Nat → Int32} {i : Int32} {x : Int32} {w2 : va_W} (q0 t0 : Nat) (ha : w[q0]? = some (a, .inl (cA, n, .inl g))) (ht : tys[t0]? = some (cA, .int)) (hw : w.set q0 (a, .inl (cA, n, .inl (upd g i.toNatClampNeg x))) = w2) (hd : decode cc pc = .ok (.iastore, 1)) (k : zJ V f w2 (pc + 1) lv st) : zJ V (zgd (zin i n) f) w pc lv (.int x :: .int i :: .ref a :: st) := by
  refine z_gd (fun hi => ?_)
  obtain ⟨p, e, s, m, args, below, meth, c, cells, slots, A, H0, Qo, rfl, hx, hb, hml, hown, hts, hKm, hKK, hK, hA, hcs⟩ := hX
  intro out hf H locs ls hP hD hS hl
  subst hw
  exact va_iast hx hb hK hP hD hS q0 t0 ha ht (zin_vp hi) hd (fun H1 locs1 h1 h2 h3 => k out hf H1 locs1 ls h1 h2 h3 hl)
theorem z_zast (hX : zIs V l cc own TT KK D cl tys nL R) {a n : Nat} {cA : ClassId} {g : Nat → Int32} {i : Int32} {x : Int32} {w2 : va_W} (q0 t0 : Nat) (ha : w[q0]? = some (a, .inl (cA, n, .inl g))) (ht : tys[t0]? = some (cA, .boolean)) (hw : w.set q0 (a, .inl (cA, n, .inl (upd g i.toNatClampNeg (vp_nar .boolean x)))) = w2) (hd : decode cc pc = .ok (.bastore, 1)) (k : zJ V f w2 (pc + 1) lv st) : zJ V (zgd (zin i n) f) w pc lv (.int x :: .int i :: .ref a :: st) := by
  refine z_gd (fun hi => ?_)
  obtain ⟨p, e, s, m, args, below, meth, c, cells, slots, A, H0, Qo, rfl, hx, hb, hml, hown, hts, hKm, hKK, hK, hA, hcs⟩ := hX
  intro out hf H locs ls hP hD hS hl
  subst hw
  exact va_zast hx hb hK hP hD hS q0 t0 ha ht (zin_vp hi) hd (fun H1 locs1 h1 h2 h3 => k out hf H1 locs1 ls h1 h2 h3 hl)
theorem z_bast (hX : zIs V l cc own TT KK D cl tys nL R) {a n : Nat} {cA : ClassId} {g : Nat → Int32} {i : Int32} {x : Int32} {w2 : va_W} (q0 t0 : Nat) (ha : w[q0]? = some (a, .inl (cA, n, .inl g))) (ht : tys[t0]? = some (cA, .byte)) (hw : w.set q0 (a, .inl (cA, n, .inl (upd g i.toNatClampNeg (vp_nar .byte x)))) = w2) (hd : decode cc pc = .ok (.bastore, 1)) (k : zJ V f w2 (pc + 1) lv st) : zJ V (zgd (zin i n) f) w pc lv (.int x :: .int i :: .ref a :: st) := by
  refine z_gd (fun hi => ?_)
  obtain ⟨p, e, s, m, args, below, meth, c, cells, slots, A, H0, Qo, rfl, hx, hb, hml, hown, hts, hKm, hKK, hK, hA, hcs⟩ := hX
  intro out hf H locs ls hP hD hS hl
  subst hw
  exact va_bast hx hb hK hP hD hS q0 t0 ha ht (zin_vp hi) hd (fun H1 locs1 h1 h2 h3 => k out hf H1 locs1 ls h1 h2 h3 hl)
theorem z_last (hX : zIs V l cc own TT KK D cl tys nL R) {a n : Nat} {cA : ClassId} {g : Nat → Int64} {i : Int32} {x : Int64} {w2 : va_W} (q0 t0 : Nat) (ha : w[q0]? = some (a, .inl (cA, n, .inr (.inl g)))) (ht : tys[t0]? = some (cA, .long)) (hw : w.set q0 (a, .inl (cA, n, .inr (.inl (vp_updL g i.toNatClampNeg x)))) = w2) (hd : decode cc pc = .ok (.lastore, 1)) (k : zJ V f w2 (pc + 1) lv st) : zJ V (zgd (zin i n) f) w pc lv (.long x :: .int i :: .ref a :: st) := by
  refine z_gd (fun hi => ?_)
  obtain ⟨p, e, s, m, args, below, meth, c, cells, slots, A, H0, Qo, rfl, hx, hb, hml, hown, hts, hKm, hKK, hK, hA, hcs⟩ := hX
  intro out hf H locs ls hP hD hS hl
  subst hw
  exact va_last hx hb hK hP hD hS q0 t0 ha ht (zin_vp hi) hd (fun H1 locs1 h1 h2 h3 => k out hf H1 locs1 ls h1 h2 h3 hl)
end ZR
section ZE
variable {cc : ByteArray} {wl : zS → va_W} {ex : va_W} {σ : zS} {pc : Nat} {lv : List (Nat × Value)}
theorem z_iret {V : zV Int32} {r : Int32} (hR : zRi V cc wl ex) (hd : decode cc pc = .ok (.ireturn, 1)) : zJ V (some (r, σ)) (wl σ ++ ex) pc lv [.int r] := fun out hf => by cases hf; exact hR σ r pc lv hd
theorem z_zret {V : zV Int32} {r : Int32} (hR : zRz V cc wl ex) (hn : narrow .boolean (.int r) = .int r) (hd : decode cc pc = .ok (.ireturn, 1)) : zJ V (some (r, σ)) (wl σ ++ ex) pc lv [.int r] := fun out hf => by cases hf; exact hR σ r pc lv hn hd
def zbo (r : Int32) : Bool := decide (r = 0 ∨ r = 1)
theorem zbo_n {r : Int32} (h : zbo r = true) : narrow .boolean (.int r) = .int r := by
  rcases (of_decide_eq_true h : r = 0 ∨ r = 1) with rfl | rfl <;> rfl
theorem z_zretg {V : zV Int32} {r : Int32} (hR : zRz V cc wl ex) (hd : decode cc pc = .ok (.ireturn, 1)) : zJ V (zgd (zbo r) (some (r, σ))) (wl σ ++ ex) pc lv [.int r] := z_gd (fun h => z_zret hR (zbo_n h) hd)
theorem z_lret {V : zV Int64} {r : Int64} (hR : zRl V cc wl ex) (hd : decode cc pc = .ok (.lreturn, 1)) : zJ V (some (r, σ)) (wl σ ++ ex) pc lv [.long r] := fun out hf => by cases hf; exact hR σ r pc lv hd
theorem z_vret {V : zV Unit} (hR : zRv V cc wl ex) (hd : decode cc pc = .ok (.return_, 1)) : zJ V (some ((), σ)) (wl σ ++ ex) pc lv [] := fun out hf => by cases hf; exact hR σ pc lv hd
end ZE
section ZCALL
variable {p : Program} {l : Launch} {e : Env} {R : Room} {s : State} {m : MethodId} {args : Array Value} {below : List Frame} {meth : Method} {c : Code} {H : Heap} {locs : List Loc} {cells slots : Nat} {Q : State → Prop}
theorem z_call {β : Type} {em : β → Option Value} {pc : Nat} {ls : Array Slot} {rest st0 : List Value} {D : va_G} {cl : List vw_C} {w w1 : va_W} {A : Nat → Prop} {H0 : Heap} {r : β}
    (hr : va_Run p l e R s m args below meth c H locs cells slots 0 0 (F0 m pc ls st0) rest (fun st oc t => (oc = .returned (em r) ∧ va_P D cl w1 t.heap ∧ va_D (va_A w H.size) w1) ∧ va_F (va_A w H.size) st t) (va_A w H.size))
    (hD : va_D A w) (hS : va_S A H0 H locs) (hA : ∀ q, H0.size ≤ q → A q)
    (kk : ∀ (H1 : Heap) (locs1 : List Loc), va_P D cl w1 H1 → va_D A w1 → va_S A H0 H1 locs1 → W p l e R s m args below meth c H1 locs1 cells slots Q (F0 m (pc + 3) ls ((em r).toList ++ rest))) : W p l e R s m args below meth c H locs cells slots Q (F0 m pc ls st0) := by
  intro T hT X
  obtain ⟨v, st₀, t, T', L, h0, X', hL, e1, e2, ⟨⟨hv, hp, hd⟩, hz, hk⟩, st⟩ := hr T hT X
  have hv := Outcome.returned.inj hv
  subst hv
  rw [h0] at hz hk
  have hAA : ∀ q, va_A w H.size q → A q := fun q h => by
    rcases h with ⟨k, e9, h⟩ | h
    · exact hD.2 k (q, e9) h
    · exact hA q (Nat.le_trans hS.1 h)
  obtain ⟨t2, a1, b1⟩ := kk T'.heap (locs ++ L) (by rw [e1]; exact hp) (hd.weaken (fun k q _ h => hAA q.1 h))
    ⟨Nat.le_trans hS.1 (by rw [e1]; exact hz), fun q h1 h2 => by rw [e1, hk q (Nat.lt_of_lt_of_le h1 hS.1) (fun z => h2 (hAA q z))]; exact hS.2.1 q h1 h2, fun q hq => by
      rcases List.mem_append.mp hq with h | h
      · exact hS.2.2 q h
      · exact hAA _ (hL q h)⟩ T' rfl X'
  exact ⟨t2, st t2 a1, b1⟩
end ZCALL
theorem zb_some {β γ : Type} {x : Option (β × zS)} {k : β → zS → Option γ} {out : γ} (h : zb x k = some out) : ∃ (r : β) (σ1 : zS), x = some (r, σ1) ∧ k r σ1 = some out := by
  cases x with
  | none => cases h
  | some o => exact ⟨o.1, o.2, rfl, h⟩
/-- words of a list that holds good words alone -/
theorem z_good {big ws : List Cond} (hb : ∀ w ∈ big, goodWord w = true) (h : ∀ w ∈ ws, w ∈ big) : GoodIn big ws := fun w hw => ⟨h w hw, good_of_word (hb w (h w hw))⟩
section ZCR
variable {α : Type} {V : zV α} {l : Launch} {cc : ByteArray} {own : String} {TT : List Cond} {KK : State → Prop} {D : va_G} {cl : List vw_C} {tys : List (ClassId × FieldType)} {nL : Nat} {R : Room} {pc : Nat} {lv : List (Nat × Value)} {st rest : List Value} {wl : zS → va_W} {σ : zS} {ex : va_W} {y : MethodName} {bytes : ByteArray} {maxL index : Nat} {ret : Option FieldType} {rm : Room}

theorem z_callVi (hX : zIs V l cc own TT KK D cl tys nL R) {fC : Option (Int32 × zS)} {k : Int32 → zS → Option (α × zS)} {C : String} {b ci : Nat} {fs : List Value} {cv : vw_C} {n : Nat} (As : List Value) (hM : zC zemI l y (Cond.code y bytes maxL ret :: TT) rm D cl KK wl σ (.ref b :: As) fC) (hT : GoodIn TT (wsV own index C y (Cond.code y bytes maxL ret :: TT))) (hrm : rm.cells = 0 ∧ rm.slots = 0) (hR : rm.frames + 1 ≤ R.frames ∧ 8 + (maxL + 11) + rm.locals ≤ R.locals) (hd : y.cls = C ∧ y.cls ≠ "java/lang/invoke/MethodHandle" ∧ y.cls ≠ "java/lang/invoke/VarHandle" ∧ (parseMethodDescriptor y.desc).map (fun d => d.parameters.length) = some n) (hn : As.length = n)
    (q0 : Nat) (hq : (wl σ ++ ex)[q0]? = some (b, .inr (ci, fs))) (hc : cl[ci]? = some cv) (hcv : cv.1 = C) (hst : st = As.reverse ++ .ref b :: rest) (hW : (rest.map fun v => v.category).sum ≤ 8) (hdg : decode cc pc = .ok (.invokevirtual index, 3))
    (kk : ∀ (r : Int32) (σ1 : zS), zJ V (k r σ1) (wl σ1 ++ ex) (pc + 3) lv (.int r :: rest)) : zJ V (zb fC k) (wl σ ++ ex) pc lv st := by
  obtain ⟨p, e, s, m, args, below, meth, c, cells, slots, A, H0, Qo, rfl, hx, hb, hml, hown, hts, hKm, hKK, hK, hA, hcs⟩ := hX
  intro out hf
  obtain ⟨r, σ1, hfc, hk⟩ := zb_some hf
  intro H locs ls hP hD hS hl
  have hMr := hM (r, σ1) ex H.size hfc
  subst hst
  subst hcv
  exact z_call (em := zemI) (w := wl σ ++ ex) (w1 := wl σ1 ++ ex) (r := r) (va_runV (As := As) (rest := rest) ⟨hx, hb, hml, hown, hts⟩ hMr (cwV n hts hT rfl hrm.1 hrm.2 hd hR) ⟨fun a U g mk q => by obtain ⟨q0, q1, qP, qK, qD⟩ := q; exact ⟨q0, q1, qP, hKm.2 U g mk a qK, qD⟩, va_recv hK hP hc hq, fun U hU hW => ⟨rfl, by rw [hU], by rw [hU]; exact hP, hKm.1 _ U hW hKK, hD.weaken (fun _ _ _ _ => trivial)⟩⟩ rfl hn hl.1 rfl (lv_room hW) hdg ⟨by rw [Nat.add_zero]; exact hcs.1, by rw [Nat.add_zero]; exact hcs.2⟩) hD hS hA (fun H1 locs1 h1 h2 h3 => kk r σ1 out hk H1 locs1 ls h1 h2 h3 hl)
theorem z_callSi (hX : zIs V l cc own TT KK D cl tys nL R) {fC : Option (Int32 × zS)} {k : Int32 → zS → Option (α × zS)} {n : Nat} (As : List Value) (hM : zC zemI l y (Cond.code y bytes maxL ret :: TT) rm D cl KK wl σ As fC) (hT : GoodIn TT (va_wsS own index y (Cond.code y bytes maxL ret :: TT))) (hrm : rm.cells = 0 ∧ rm.slots = 0) (hR : rm.frames + 1 ≤ R.frames ∧ 8 + (maxL + 11) + rm.locals ≤ R.locals) (hd : y.cls ≠ "java/lang/invoke/MethodHandle" ∧ y.cls ≠ "java/lang/invoke/VarHandle" ∧ (parseMethodDescriptor y.desc).map (fun d => d.parameters.length) = some n) (hn : As.length = n)
    (hst : st = As.reverse ++ rest) (hW : (rest.map fun v => v.category).sum ≤ 8) (hdg : decode cc pc = .ok (.invokestatic index, 3))
    (kk : ∀ (r : Int32) (σ1 : zS), zJ V (k r σ1) (wl σ1 ++ ex) (pc + 3) lv (.int r :: rest)) : zJ V (zb fC k) (wl σ ++ ex) pc lv st := by
  obtain ⟨p, e, s, m, args, below, meth, c, cells, slots, A, H0, Qo, rfl, hx, hb, hml, hown, hts, hKm, hKK, hK, hA, hcs⟩ := hX
  intro out hf
  obtain ⟨r, σ1, hfc, hk⟩ := zb_some hf
  intro H locs ls hP hD hS hl
  have hMr := hM (r, σ1) ex H.size hfc
  subst hst
  exact z_call (em := zemI) (w := wl σ ++ ex) (w1 := wl σ1 ++ ex) (r := r) (va_runS (As := As) (rest := rest) ⟨hx, hb, hml, hown, hts⟩ hMr (va_cwS n hts hT rfl hrm.1 hrm.2 hd hR) ⟨fun a U g mk q => by obtain ⟨q0, q1, qP, qK, qD⟩ := q; exact ⟨q0, q1, qP, hKm.2 U g mk a qK, qD⟩, fun U hU hW => ⟨rfl, by rw [hU], by rw [hU]; exact hP, hKm.1 _ U hW hKK, hD.weaken (fun _ _ _ _ => trivial)⟩⟩ rfl hn hl.1 rfl (lv_room hW) hdg ⟨by rw [Nat.add_zero]; exact hcs.1, by rw [Nat.add_zero]; exact hcs.2⟩) hD hS hA (fun H1 locs1 h1 h2 h3 => kk r σ1 out hk H1 locs1 ls h1 h2 h3 hl)
theorem z_callSNi (hX : zIs V l cc own TT KK D cl tys nL R) {fC : Option (Int32 × zS)} {k : Int32 → zS → Option (α × zS)} {host : String} {n : Nat} (As : List Value) (hM : zC zemI l y (Cond.code y bytes maxL ret :: TT) rm D cl KK wl σ As fC) (hG : GoodIn TT (Cond.code y bytes maxL ret :: TT)) (hN : ∀ U, KK U → va_Nw (.methodLinkNest own index y host) U) (hstat : Cond.static y ∈ TT) (hini : Cond.initialized y.cls ∈ TT) (hrm : rm.cells = 0 ∧ rm.slots = 0) (hR : rm.frames + 1 ≤ R.frames ∧ 8 + (maxL + 11) + rm.locals ≤ R.locals) (hd : y.cls ≠ "java/lang/invoke/MethodHandle" ∧ y.cls ≠ "java/lang/invoke/VarHandle" ∧ (parseMethodDescriptor y.desc).map (fun d => d.parameters.length) = some n) (hn : As.length = n)
    (hst : st = As.reverse ++ rest) (hW : (rest.map fun v => v.category).sum ≤ 8) (hdg : decode cc pc = .ok (.invokestatic index, 3))
    (kk : ∀ (r : Int32) (σ1 : zS), zJ V (k r σ1) (wl σ1 ++ ex) (pc + 3) lv (.int r :: rest)) : zJ V (zb fC k) (wl σ ++ ex) pc lv st := by
  obtain ⟨p, e, s, m, args, below, meth, c, cells, slots, A, H0, Qo, rfl, hx, hb, hml, hown, hts, hKm, hKK, hK, hA, hcs⟩ := hX
  intro out hf
  obtain ⟨r, σ1, hfc, hk⟩ := zb_some hf
  intro H locs ls hP hD hS hl
  have hMr := hM (r, σ1) ex H.size hfc
  subst hst
  exact z_call (em := zemI) (w := wl σ ++ ex) (w1 := wl σ1 ++ ex) (r := r) (va_runSN (As := As) (rest := rest) ⟨hx, hb, hml, hown, hts⟩ hMr ⟨va_cnB n hts hG rfl hrm.1 hrm.2 (hN s hKK) (hts _ hini) hd hR, hts _ hstat, trivial⟩ ⟨fun a U g mk q => by obtain ⟨q0, q1, qP, qK, qD⟩ := q; exact ⟨q0, q1, qP, hKm.2 U g mk a qK, qD⟩, fun U hU hW => ⟨rfl, by rw [hU], by rw [hU]; exact hP, hKm.1 _ U hW hKK, hD.weaken (fun _ _ _ _ => trivial)⟩⟩ rfl hn hl.1 rfl (lv_room hW) hdg ⟨by rw [Nat.add_zero]; exact hcs.1, by rw [Nat.add_zero]; exact hcs.2⟩) hD hS hA (fun H1 locs1 h1 h2 h3 => kk r σ1 out hk H1 locs1 ls h1 h2 h3 hl)

theorem z_callVl (hX : zIs V l cc own TT KK D cl tys nL R) {fC : Option (Int64 × zS)} {k : Int64 → zS → Option (α × zS)} {C : String} {b ci : Nat} {fs : List Value} {cv : vw_C} {n : Nat} (As : List Value) (hM : zC zemL l y (Cond.code y bytes maxL ret :: TT) rm D cl KK wl σ (.ref b :: As) fC) (hT : GoodIn TT (wsV own index C y (Cond.code y bytes maxL ret :: TT))) (hrm : rm.cells = 0 ∧ rm.slots = 0) (hR : rm.frames + 1 ≤ R.frames ∧ 8 + (maxL + 11) + rm.locals ≤ R.locals) (hd : y.cls = C ∧ y.cls ≠ "java/lang/invoke/MethodHandle" ∧ y.cls ≠ "java/lang/invoke/VarHandle" ∧ (parseMethodDescriptor y.desc).map (fun d => d.parameters.length) = some n) (hn : As.length = n)
    (q0 : Nat) (hq : (wl σ ++ ex)[q0]? = some (b, .inr (ci, fs))) (hc : cl[ci]? = some cv) (hcv : cv.1 = C) (hst : st = As.reverse ++ .ref b :: rest) (hW : (rest.map fun v => v.category).sum ≤ 8) (hdg : decode cc pc = .ok (.invokevirtual index, 3))
    (kk : ∀ (r : Int64) (σ1 : zS), zJ V (k r σ1) (wl σ1 ++ ex) (pc + 3) lv (.long r :: rest)) : zJ V (zb fC k) (wl σ ++ ex) pc lv st := by
  obtain ⟨p, e, s, m, args, below, meth, c, cells, slots, A, H0, Qo, rfl, hx, hb, hml, hown, hts, hKm, hKK, hK, hA, hcs⟩ := hX
  intro out hf
  obtain ⟨r, σ1, hfc, hk⟩ := zb_some hf
  intro H locs ls hP hD hS hl
  have hMr := hM (r, σ1) ex H.size hfc
  subst hst
  subst hcv
  exact z_call (em := zemL) (w := wl σ ++ ex) (w1 := wl σ1 ++ ex) (r := r) (va_runV (As := As) (rest := rest) ⟨hx, hb, hml, hown, hts⟩ hMr (cwV n hts hT rfl hrm.1 hrm.2 hd hR) ⟨fun a U g mk q => by obtain ⟨q0, q1, qP, qK, qD⟩ := q; exact ⟨q0, q1, qP, hKm.2 U g mk a qK, qD⟩, va_recv hK hP hc hq, fun U hU hW => ⟨rfl, by rw [hU], by rw [hU]; exact hP, hKm.1 _ U hW hKK, hD.weaken (fun _ _ _ _ => trivial)⟩⟩ rfl hn hl.1 rfl (lv_room hW) hdg ⟨by rw [Nat.add_zero]; exact hcs.1, by rw [Nat.add_zero]; exact hcs.2⟩) hD hS hA (fun H1 locs1 h1 h2 h3 => kk r σ1 out hk H1 locs1 ls h1 h2 h3 hl)
theorem z_callSl (hX : zIs V l cc own TT KK D cl tys nL R) {fC : Option (Int64 × zS)} {k : Int64 → zS → Option (α × zS)} {n : Nat} (As : List Value) (hM : zC zemL l y (Cond.code y bytes maxL ret :: TT) rm D cl KK wl σ As fC) (hT : GoodIn TT (va_wsS own index y (Cond.code y bytes maxL ret :: TT))) (hrm : rm.cells = 0 ∧ rm.slots = 0) (hR : rm.frames + 1 ≤ R.frames ∧ 8 + (maxL + 11) + rm.locals ≤ R.locals) (hd : y.cls ≠ "java/lang/invoke/MethodHandle" ∧ y.cls ≠ "java/lang/invoke/VarHandle" ∧ (parseMethodDescriptor y.desc).map (fun d => d.parameters.length) = some n) (hn : As.length = n)
    (hst : st = As.reverse ++ rest) (hW : (rest.map fun v => v.category).sum ≤ 8) (hdg : decode cc pc = .ok (.invokestatic index, 3))
    (kk : ∀ (r : Int64) (σ1 : zS), zJ V (k r σ1) (wl σ1 ++ ex) (pc + 3) lv (.long r :: rest)) : zJ V (zb fC k) (wl σ ++ ex) pc lv st := by
  obtain ⟨p, e, s, m, args, below, meth, c, cells, slots, A, H0, Qo, rfl, hx, hb, hml, hown, hts, hKm, hKK, hK, hA, hcs⟩ := hX
  intro out hf
  obtain ⟨r, σ1, hfc, hk⟩ := zb_some hf
  intro H locs ls hP hD hS hl
  have hMr := hM (r, σ1) ex H.size hfc
  subst hst
  exact z_call (em := zemL) (w := wl σ ++ ex) (w1 := wl σ1 ++ ex) (r := r) (va_runS (As := As) (rest := rest) ⟨hx, hb, hml, hown, hts⟩ hMr (va_cwS n hts hT rfl hrm.1 hrm.2 hd hR) ⟨fun a U g mk q => by obtain ⟨q0, q1, qP, qK, qD⟩ := q; exact ⟨q0, q1, qP, hKm.2 U g mk a qK, qD⟩, fun U hU hW => ⟨rfl, by rw [hU], by rw [hU]; exact hP, hKm.1 _ U hW hKK, hD.weaken (fun _ _ _ _ => trivial)⟩⟩ rfl hn hl.1 rfl (lv_room hW) hdg ⟨by rw [Nat.add_zero]; exact hcs.1, by rw [Nat.add_zero]; exact hcs.2⟩) hD hS hA (fun H1 locs1 h1 h2 h3 => kk r σ1 out hk H1 locs1 ls h1 h2 h3 hl)
theorem z_callSNl (hX : zIs V l cc own TT KK D cl tys nL R) {fC : Option (Int64 × zS)} {k : Int64 → zS → Option (α × zS)} {host : String} {n : Nat} (As : List Value) (hM : zC zemL l y (Cond.code y bytes maxL ret :: TT) rm D cl KK wl σ As fC) (hG : GoodIn TT (Cond.code y bytes maxL ret :: TT)) (hN : ∀ U, KK U → va_Nw (.methodLinkNest own index y host) U) (hstat : Cond.static y ∈ TT) (hini : Cond.initialized y.cls ∈ TT) (hrm : rm.cells = 0 ∧ rm.slots = 0) (hR : rm.frames + 1 ≤ R.frames ∧ 8 + (maxL + 11) + rm.locals ≤ R.locals) (hd : y.cls ≠ "java/lang/invoke/MethodHandle" ∧ y.cls ≠ "java/lang/invoke/VarHandle" ∧ (parseMethodDescriptor y.desc).map (fun d => d.parameters.length) = some n) (hn : As.length = n)
    (hst : st = As.reverse ++ rest) (hW : (rest.map fun v => v.category).sum ≤ 8) (hdg : decode cc pc = .ok (.invokestatic index, 3))
    (kk : ∀ (r : Int64) (σ1 : zS), zJ V (k r σ1) (wl σ1 ++ ex) (pc + 3) lv (.long r :: rest)) : zJ V (zb fC k) (wl σ ++ ex) pc lv st := by
  obtain ⟨p, e, s, m, args, below, meth, c, cells, slots, A, H0, Qo, rfl, hx, hb, hml, hown, hts, hKm, hKK, hK, hA, hcs⟩ := hX
  intro out hf
  obtain ⟨r, σ1, hfc, hk⟩ := zb_some hf
  intro H locs ls hP hD hS hl
  have hMr := hM (r, σ1) ex H.size hfc
  subst hst
  exact z_call (em := zemL) (w := wl σ ++ ex) (w1 := wl σ1 ++ ex) (r := r) (va_runSN (As := As) (rest := rest) ⟨hx, hb, hml, hown, hts⟩ hMr ⟨va_cnB n hts hG rfl hrm.1 hrm.2 (hN s hKK) (hts _ hini) hd hR, hts _ hstat, trivial⟩ ⟨fun a U g mk q => by obtain ⟨q0, q1, qP, qK, qD⟩ := q; exact ⟨q0, q1, qP, hKm.2 U g mk a qK, qD⟩, fun U hU hW => ⟨rfl, by rw [hU], by rw [hU]; exact hP, hKm.1 _ U hW hKK, hD.weaken (fun _ _ _ _ => trivial)⟩⟩ rfl hn hl.1 rfl (lv_room hW) hdg ⟨by rw [Nat.add_zero]; exact hcs.1, by rw [Nat.add_zero]; exact hcs.2⟩) hD hS hA (fun H1 locs1 h1 h2 h3 => kk r σ1 out hk H1 locs1 ls h1 h2 h3 hl)

theorem z_callVv (hX : zIs V l cc own TT KK D cl tys nL R) {fC : Option (Unit × zS)} {k : Unit → zS → Option (α × zS)} {C : String} {b ci : Nat} {fs : List Value} {cv : vw_C} {n : Nat} (As : List Value) (hM : zC zemV l y (Cond.code y bytes maxL ret :: TT) rm D cl KK wl σ (.ref b :: As) fC) (hT : GoodIn TT (wsV own index C y (Cond.code y bytes maxL ret :: TT))) (hrm : rm.cells = 0 ∧ rm.slots = 0) (hR : rm.frames + 1 ≤ R.frames ∧ 8 + (maxL + 11) + rm.locals ≤ R.locals) (hd : y.cls = C ∧ y.cls ≠ "java/lang/invoke/MethodHandle" ∧ y.cls ≠ "java/lang/invoke/VarHandle" ∧ (parseMethodDescriptor y.desc).map (fun d => d.parameters.length) = some n) (hn : As.length = n)
    (q0 : Nat) (hq : (wl σ ++ ex)[q0]? = some (b, .inr (ci, fs))) (hc : cl[ci]? = some cv) (hcv : cv.1 = C) (hst : st = As.reverse ++ .ref b :: rest) (hW : (rest.map fun v => v.category).sum ≤ 8) (hdg : decode cc pc = .ok (.invokevirtual index, 3))
    (kk : ∀ (r : Unit) (σ1 : zS), zJ V (k r σ1) (wl σ1 ++ ex) (pc + 3) lv (rest)) : zJ V (zb fC k) (wl σ ++ ex) pc lv st := by
  obtain ⟨p, e, s, m, args, below, meth, c, cells, slots, A, H0, Qo, rfl, hx, hb, hml, hown, hts, hKm, hKK, hK, hA, hcs⟩ := hX
  intro out hf
  obtain ⟨r, σ1, hfc, hk⟩ := zb_some hf
  intro H locs ls hP hD hS hl
  have hMr := hM (r, σ1) ex H.size hfc
  subst hst
  subst hcv
  exact z_call (em := zemV) (w := wl σ ++ ex) (w1 := wl σ1 ++ ex) (r := r) (va_runV (As := As) (rest := rest) ⟨hx, hb, hml, hown, hts⟩ hMr (cwV n hts hT rfl hrm.1 hrm.2 hd hR) ⟨fun a U g mk q => by obtain ⟨q0, q1, qP, qK, qD⟩ := q; exact ⟨q0, q1, qP, hKm.2 U g mk a qK, qD⟩, va_recv hK hP hc hq, fun U hU hW => ⟨rfl, by rw [hU], by rw [hU]; exact hP, hKm.1 _ U hW hKK, hD.weaken (fun _ _ _ _ => trivial)⟩⟩ rfl hn hl.1 rfl (lv_room hW) hdg ⟨by rw [Nat.add_zero]; exact hcs.1, by rw [Nat.add_zero]; exact hcs.2⟩) hD hS hA (fun H1 locs1 h1 h2 h3 => kk r σ1 out hk H1 locs1 ls h1 h2 h3 hl)
theorem z_callSv (hX : zIs V l cc own TT KK D cl tys nL R) {fC : Option (Unit × zS)} {k : Unit → zS → Option (α × zS)} {n : Nat} (As : List Value) (hM : zC zemV l y (Cond.code y bytes maxL ret :: TT) rm D cl KK wl σ As fC) (hT : GoodIn TT (va_wsS own index y (Cond.code y bytes maxL ret :: TT))) (hrm : rm.cells = 0 ∧ rm.slots = 0) (hR : rm.frames + 1 ≤ R.frames ∧ 8 + (maxL + 11) + rm.locals ≤ R.locals) (hd : y.cls ≠ "java/lang/invoke/MethodHandle" ∧ y.cls ≠ "java/lang/invoke/VarHandle" ∧ (parseMethodDescriptor y.desc).map (fun d => d.parameters.length) = some n) (hn : As.length = n)
    (hst : st = As.reverse ++ rest) (hW : (rest.map fun v => v.category).sum ≤ 8) (hdg : decode cc pc = .ok (.invokestatic index, 3))
    (kk : ∀ (r : Unit) (σ1 : zS), zJ V (k r σ1) (wl σ1 ++ ex) (pc + 3) lv (rest)) : zJ V (zb fC k) (wl σ ++ ex) pc lv st := by
  obtain ⟨p, e, s, m, args, below, meth, c, cells, slots, A, H0, Qo, rfl, hx, hb, hml, hown, hts, hKm, hKK, hK, hA, hcs⟩ := hX
  intro out hf
  obtain ⟨r, σ1, hfc, hk⟩ := zb_some hf
  intro H locs ls hP hD hS hl
  have hMr := hM (r, σ1) ex H.size hfc
  subst hst
  exact z_call (em := zemV) (w := wl σ ++ ex) (w1 := wl σ1 ++ ex) (r := r) (va_runS (As := As) (rest := rest) ⟨hx, hb, hml, hown, hts⟩ hMr (va_cwS n hts hT rfl hrm.1 hrm.2 hd hR) ⟨fun a U g mk q => by obtain ⟨q0, q1, qP, qK, qD⟩ := q; exact ⟨q0, q1, qP, hKm.2 U g mk a qK, qD⟩, fun U hU hW => ⟨rfl, by rw [hU], by rw [hU]; exact hP, hKm.1 _ U hW hKK, hD.weaken (fun _ _ _ _ => trivial)⟩⟩ rfl hn hl.1 rfl (lv_room hW) hdg ⟨by rw [Nat.add_zero]; exact hcs.1, by rw [Nat.add_zero]; exact hcs.2⟩) hD hS hA (fun H1 locs1 h1 h2 h3 => kk r σ1 out hk H1 locs1 ls h1 h2 h3 hl)
theorem z_callSNv (hX : zIs V l cc own TT KK D cl tys nL R) {fC : Option (Unit × zS)} {k : Unit → zS → Option (α × zS)} {host : String} {n : Nat} (As : List Value) (hM : zC zemV l y (Cond.code y bytes maxL ret :: TT) rm D cl KK wl σ As fC) (hG : GoodIn TT (Cond.code y bytes maxL ret :: TT)) (hN : ∀ U, KK U → va_Nw (.methodLinkNest own index y host) U) (hstat : Cond.static y ∈ TT) (hini : Cond.initialized y.cls ∈ TT) (hrm : rm.cells = 0 ∧ rm.slots = 0) (hR : rm.frames + 1 ≤ R.frames ∧ 8 + (maxL + 11) + rm.locals ≤ R.locals) (hd : y.cls ≠ "java/lang/invoke/MethodHandle" ∧ y.cls ≠ "java/lang/invoke/VarHandle" ∧ (parseMethodDescriptor y.desc).map (fun d => d.parameters.length) = some n) (hn : As.length = n)
    (hst : st = As.reverse ++ rest) (hW : (rest.map fun v => v.category).sum ≤ 8) (hdg : decode cc pc = .ok (.invokestatic index, 3))
    (kk : ∀ (r : Unit) (σ1 : zS), zJ V (k r σ1) (wl σ1 ++ ex) (pc + 3) lv (rest)) : zJ V (zb fC k) (wl σ ++ ex) pc lv st := by
  obtain ⟨p, e, s, m, args, below, meth, c, cells, slots, A, H0, Qo, rfl, hx, hb, hml, hown, hts, hKm, hKK, hK, hA, hcs⟩ := hX
  intro out hf
  obtain ⟨r, σ1, hfc, hk⟩ := zb_some hf
  intro H locs ls hP hD hS hl
  have hMr := hM (r, σ1) ex H.size hfc
  subst hst
  exact z_call (em := zemV) (w := wl σ ++ ex) (w1 := wl σ1 ++ ex) (r := r) (va_runSN (As := As) (rest := rest) ⟨hx, hb, hml, hown, hts⟩ hMr ⟨va_cnB n hts hG rfl hrm.1 hrm.2 (hN s hKK) (hts _ hini) hd hR, hts _ hstat, trivial⟩ ⟨fun a U g mk q => by obtain ⟨q0, q1, qP, qK, qD⟩ := q; exact ⟨q0, q1, qP, hKm.2 U g mk a qK, qD⟩, fun U hU hW => ⟨rfl, by rw [hU], by rw [hU]; exact hP, hKm.1 _ U hW hKK, hD.weaken (fun _ _ _ _ => trivial)⟩⟩ rfl hn hl.1 rfl (lv_room hW) hdg ⟨by rw [Nat.add_zero]; exact hcs.1, by rw [Nat.add_zero]; exact hcs.2⟩) hD hS hA (fun H1 locs1 h1 h2 h3 => kk r σ1 out hk H1 locs1 ls h1 h2 h3 hl)

end ZCR
section ZMK
variable {l : Launch} {cc : ByteArray} {TT : List Cond} {KK : State → Prop} {D : va_G} {cl : List vw_C} {tys : List (ClassId × FieldType)} {nL : Nat} {rm : Room} {wl : zS → va_W} {σ : zS} {y : MethodName} {av : List Value}

theorem zmk_i {f : Option (Int32 × zS)} (hy : plainName y.cls = true) (hKm : zKm KK) (hKt : ∀ U, KK U → va_K D cl tys U) (hav : (lg_sl av).length ≤ nL)
    (hbody : ∀ (V : zV Int32) (ex : va_W), zIs V l cc y.cls TT KK D cl tys nL rm → zRi V cc wl ex → zJ V f (wl σ ++ ex) 0 (lv_args 0 av) []) : zC zemI l y (Cond.code y cc nL (some .int) :: TT) rm D cl KK wl σ av f := by
  intro out ex sz hf
  refine Met.ofW (cc := cc) (maxL := nL) (ret := (some .int)) hy rfl ?_
  intro p e s m args below meth c s₁ B hml hv
  obtain ⟨rfl, hsz, hP, hKK, hD0⟩ := hv
  have hx := B.exec
  have hb := B.bytes
  have hr := B.returns
  have hts := atoms_spec (ws := Cond.code y cc nL (some .int) :: TT) B.pre
  have hown : s.vm.findClass y.cls = some m.cls := findClass_of_methodNamed B.named
  have hlocks := B.notSynchronized
  subst hsz
  have hD := hD0.self (sz := s.heap.size)
  have hA : ∀ q : Nat, s.heap.size ≤ q → va_A (wl σ ++ ex) s.heap.size q := fun q h => Or.inr h
  have hl := lv_entry av (n := nL) hav
  rw [lg_entry_eq]
  refine hbody (fun w pc lv st out => ∀ (H : Heap) (locs : List Loc) (ls : Array Slot), va_P D cl w H → va_D (va_A (wl σ ++ ex) s.heap.size) w → va_S (va_A (wl σ ++ ex) s.heap.size) s.heap H locs → lv_has ls nL lv → W p l e rm s m av.toArray below meth c H locs 0 0 (MQ below (fun _ st oc t => (oc = .returned (zemI out.1) ∧ va_P D cl (wl out.2 ++ ex) t.heap ∧ va_D (va_A (wl σ ++ ex) s.heap.size) (wl out.2 ++ ex)) ∧ va_F (va_A (wl σ ++ ex) s.heap.size) st t) av.toArray s 0 0 (va_A (wl σ ++ ex) s.heap.size)) (F0 m pc ls st)) ex
    ⟨p, e, s, m, av.toArray, below, meth, c, 0, 0, va_A (wl σ ++ ex) s.heap.size, s.heap, (fun out => MQ below (fun _ st oc t => (oc = .returned (zemI out.1) ∧ va_P D cl (wl out.2 ++ ex) t.heap ∧ va_D (va_A (wl σ ++ ex) s.heap.size) (wl out.2 ++ ex)) ∧ va_F (va_A (wl σ ++ ex) s.heap.size) st t) av.toArray s 0 0 (va_A (wl σ ++ ex) s.heap.size)), rfl, hx, hb, hml, hown, fun w h => hts w (List.mem_cons_of_mem _ h), hKm, hKK, hKt s hKK, hA, Nat.zero_le _, Nat.zero_le _⟩ ?_ out hf s.heap [] _ hP hD va_S.rf hl
  intro σ1 r pc lv hd H locs ls hP1 hD1 hS1 hl1
  exact W.iret (v := r) hx hb hr (fun t ht hW => ⟨⟨rfl, by rw [ht]; exact hP1, hD1⟩, hS1.F ht⟩) hS1.2.2 hd
theorem zmk_z {f : Option (Int32 × zS)} (hy : plainName y.cls = true) (hKm : zKm KK) (hKt : ∀ U, KK U → va_K D cl tys U) (hav : (lg_sl av).length ≤ nL)
    (hbody : ∀ (V : zV Int32) (ex : va_W), zIs V l cc y.cls TT KK D cl tys nL rm → zRz V cc wl ex → zJ V f (wl σ ++ ex) 0 (lv_args 0 av) []) : zC zemI l y (Cond.code y cc nL (some .boolean) :: TT) rm D cl KK wl σ av f := by
  intro out ex sz hf
  refine Met.ofW (cc := cc) (maxL := nL) (ret := (some .boolean)) hy rfl ?_
  intro p e s m args below meth c s₁ B hml hv
  obtain ⟨rfl, hsz, hP, hKK, hD0⟩ := hv
  have hx := B.exec
  have hb := B.bytes
  have hr := B.returns
  have hts := atoms_spec (ws := Cond.code y cc nL (some .boolean) :: TT) B.pre
  have hown : s.vm.findClass y.cls = some m.cls := findClass_of_methodNamed B.named
  have hlocks := B.notSynchronized
  subst hsz
  have hD := hD0.self (sz := s.heap.size)
  have hA : ∀ q : Nat, s.heap.size ≤ q → va_A (wl σ ++ ex) s.heap.size q := fun q h => Or.inr h
  have hl := lv_entry av (n := nL) hav
  rw [lg_entry_eq]
  refine hbody (fun w pc lv st out => ∀ (H : Heap) (locs : List Loc) (ls : Array Slot), va_P D cl w H → va_D (va_A (wl σ ++ ex) s.heap.size) w → va_S (va_A (wl σ ++ ex) s.heap.size) s.heap H locs → lv_has ls nL lv → W p l e rm s m av.toArray below meth c H locs 0 0 (MQ below (fun _ st oc t => (oc = .returned (zemI out.1) ∧ va_P D cl (wl out.2 ++ ex) t.heap ∧ va_D (va_A (wl σ ++ ex) s.heap.size) (wl out.2 ++ ex)) ∧ va_F (va_A (wl σ ++ ex) s.heap.size) st t) av.toArray s 0 0 (va_A (wl σ ++ ex) s.heap.size)) (F0 m pc ls st)) ex
    ⟨p, e, s, m, av.toArray, below, meth, c, 0, 0, va_A (wl σ ++ ex) s.heap.size, s.heap, (fun out => MQ below (fun _ st oc t => (oc = .returned (zemI out.1) ∧ va_P D cl (wl out.2 ++ ex) t.heap ∧ va_D (va_A (wl σ ++ ex) s.heap.size) (wl out.2 ++ ex)) ∧ va_F (va_A (wl σ ++ ex) s.heap.size) st t) av.toArray s 0 0 (va_A (wl σ ++ ex) s.heap.size)), rfl, hx, hb, hml, hown, fun w h => hts w (List.mem_cons_of_mem _ h), hKm, hKK, hKt s hKK, hA, Nat.zero_le _, Nat.zero_le _⟩ ?_ out hf s.heap [] _ hP hD va_S.rf hl
  intro σ1 r pc lv hn hd H locs ls hP1 hD1 hS1 hl1
  exact W.zret (v := r) hx hb hr hn (fun t ht hW => ⟨⟨rfl, by rw [ht]; exact hP1, hD1⟩, hS1.F ht⟩) hS1.2.2 hd
theorem zmk_l {f : Option (Int64 × zS)} (hy : plainName y.cls = true) (hKm : zKm KK) (hKt : ∀ U, KK U → va_K D cl tys U) (hav : (lg_sl av).length ≤ nL)
    (hbody : ∀ (V : zV Int64) (ex : va_W), zIs V l cc y.cls TT KK D cl tys nL rm → zRl V cc wl ex → zJ V f (wl σ ++ ex) 0 (lv_args 0 av) []) : zC zemL l y (Cond.code y cc nL (some .long) :: TT) rm D cl KK wl σ av f := by
  intro out ex sz hf
  refine Met.ofW (cc := cc) (maxL := nL) (ret := (some .long)) hy rfl ?_
  intro p e s m args below meth c s₁ B hml hv
  obtain ⟨rfl, hsz, hP, hKK, hD0⟩ := hv
  have hx := B.exec
  have hb := B.bytes
  have hr := B.returns
  have hts := atoms_spec (ws := Cond.code y cc nL (some .long) :: TT) B.pre
  have hown : s.vm.findClass y.cls = some m.cls := findClass_of_methodNamed B.named
  have hlocks := B.notSynchronized
  subst hsz
  have hD := hD0.self (sz := s.heap.size)
  have hA : ∀ q : Nat, s.heap.size ≤ q → va_A (wl σ ++ ex) s.heap.size q := fun q h => Or.inr h
  have hl := lv_entry av (n := nL) hav
  rw [lg_entry_eq]
  refine hbody (fun w pc lv st out => ∀ (H : Heap) (locs : List Loc) (ls : Array Slot), va_P D cl w H → va_D (va_A (wl σ ++ ex) s.heap.size) w → va_S (va_A (wl σ ++ ex) s.heap.size) s.heap H locs → lv_has ls nL lv → W p l e rm s m av.toArray below meth c H locs 0 0 (MQ below (fun _ st oc t => (oc = .returned (zemL out.1) ∧ va_P D cl (wl out.2 ++ ex) t.heap ∧ va_D (va_A (wl σ ++ ex) s.heap.size) (wl out.2 ++ ex)) ∧ va_F (va_A (wl σ ++ ex) s.heap.size) st t) av.toArray s 0 0 (va_A (wl σ ++ ex) s.heap.size)) (F0 m pc ls st)) ex
    ⟨p, e, s, m, av.toArray, below, meth, c, 0, 0, va_A (wl σ ++ ex) s.heap.size, s.heap, (fun out => MQ below (fun _ st oc t => (oc = .returned (zemL out.1) ∧ va_P D cl (wl out.2 ++ ex) t.heap ∧ va_D (va_A (wl σ ++ ex) s.heap.size) (wl out.2 ++ ex)) ∧ va_F (va_A (wl σ ++ ex) s.heap.size) st t) av.toArray s 0 0 (va_A (wl σ ++ ex) s.heap.size)), rfl, hx, hb, hml, hown, fun w h => hts w (List.mem_cons_of_mem _ h), hKm, hKK, hKt s hKK, hA, Nat.zero_le _, Nat.zero_le _⟩ ?_ out hf s.heap [] _ hP hD va_S.rf hl
  intro σ1 r pc lv hd H locs ls hP1 hD1 hS1 hl1
  exact W.lret (v := r) hx hb hr (fun t ht hW => ⟨⟨rfl, by rw [ht]; exact hP1, hD1⟩, hS1.F ht⟩) hS1.2.2 hd
theorem zmk_v {f : Option (Unit × zS)} (hy : plainName y.cls = true) (hKm : zKm KK) (hKt : ∀ U, KK U → va_K D cl tys U) (hav : (lg_sl av).length ≤ nL)
    (hbody : ∀ (V : zV Unit) (ex : va_W), zIs V l cc y.cls TT KK D cl tys nL rm → zRv V cc wl ex → zJ V f (wl σ ++ ex) 0 (lv_args 0 av) []) : zC zemV l y (Cond.code y cc nL none :: TT) rm D cl KK wl σ av f := by
  intro out ex sz hf
  refine Met.ofW (cc := cc) (maxL := nL) (ret := none) hy rfl ?_
  intro p e s m args below meth c s₁ B hml hv
  obtain ⟨rfl, hsz, hP, hKK, hD0⟩ := hv
  have hx := B.exec
  have hb := B.bytes
  have hr := B.returns
  have hts := atoms_spec (ws := Cond.code y cc nL none :: TT) B.pre
  have hown : s.vm.findClass y.cls = some m.cls := findClass_of_methodNamed B.named
  have hlocks := B.notSynchronized
  subst hsz
  have hD := hD0.self (sz := s.heap.size)
  have hA : ∀ q : Nat, s.heap.size ≤ q → va_A (wl σ ++ ex) s.heap.size q := fun q h => Or.inr h
  have hl := lv_entry av (n := nL) hav
  rw [lg_entry_eq]
  refine hbody (fun w pc lv st out => ∀ (H : Heap) (locs : List Loc) (ls : Array Slot), va_P D cl w H → va_D (va_A (wl σ ++ ex) s.heap.size) w → va_S (va_A (wl σ ++ ex) s.heap.size) s.heap H locs → lv_has ls nL lv → W p l e rm s m av.toArray below meth c H locs 0 0 (MQ below (fun _ st oc t => (oc = .returned (zemV out.1) ∧ va_P D cl (wl out.2 ++ ex) t.heap ∧ va_D (va_A (wl σ ++ ex) s.heap.size) (wl out.2 ++ ex)) ∧ va_F (va_A (wl σ ++ ex) s.heap.size) st t) av.toArray s 0 0 (va_A (wl σ ++ ex) s.heap.size)) (F0 m pc ls st)) ex
    ⟨p, e, s, m, av.toArray, below, meth, c, 0, 0, va_A (wl σ ++ ex) s.heap.size, s.heap, (fun out => MQ below (fun _ st oc t => (oc = .returned (zemV out.1) ∧ va_P D cl (wl out.2 ++ ex) t.heap ∧ va_D (va_A (wl σ ++ ex) s.heap.size) (wl out.2 ++ ex)) ∧ va_F (va_A (wl σ ++ ex) s.heap.size) st t) av.toArray s 0 0 (va_A (wl σ ++ ex) s.heap.size)), rfl, hx, hb, hml, hown, fun w h => hts w (List.mem_cons_of_mem _ h), hKm, hKK, hKt s hKK, hA, Nat.zero_le _, Nat.zero_le _⟩ ?_ out hf s.heap [] _ hP hD va_S.rf hl
  intro σ1 pc lv hd H locs ls hP1 hD1 hS1 hl1
  exact W.vret hx hb hr (fun t ht hW => ⟨⟨rfl, by rw [ht]; exact hP1, hD1⟩, hS1.F ht⟩) hS1.2.2 hd
end ZMK
end
section
/-! Worlds that grow: V w tys cells slots pc lv st: the machine from here on ends well (whatever the heap that holds w). -/
abbrev zGV : Type := va_W → List (ClassId × FieldType) → Nat → Nat → Nat → List (Nat × Value) → List Value → Prop
def zGIs (V : zGV) (l : Launch) (cc : ByteArray) (own : String) (TT : List Cond) (KK : State → Prop) (D : va_G) (cl : List vw_C) (nL : Nat) (R : Room) : Prop :=
  ∃ (p : Program) (e : Env) (s : State) (m : MethodId) (args : Array Value) (below : List Frame) (meth : Method) (c : Code) (A : Nat → Prop) (H0 : Heap) (Q : State → Prop),
    V = (fun w tys cells slots pc lv st => ∀ (H : Heap) (locs : List Loc) (ls : Array Slot), va_K D cl tys s → va_P D cl w H → va_D A w → va_S A H0 H locs → lv_has ls nL lv → W p l e R s m args below meth c H locs cells slots Q (F0 m pc ls st)) ∧
    p.tables.exec = Jvm.exec ∧ c.code = cc ∧ c.maxLocals = nL ∧ s.vm.findClass own = some m.cls ∧ (∀ w ∈ TT, w.before args s = true) ∧ zKm KK ∧ KK s ∧ (∀ q, H0.size ≤ q → A q)
/-- the method is a constructor -/
def zGn (V : zGV) (l : Launch) (cc : ByteArray) (own : String) (TT : List Cond) (KK : State → Prop) (D : va_G) (cl : List vw_C) (nL : Nat) (R : Room) : Prop :=
  ∃ (p : Program) (e : Env) (s : State) (m : MethodId) (args : Array Value) (below : List Frame) (meth : Method) (c : Code) (A : Nat → Prop) (H0 : Heap) (Q : State → Prop),
    V = (fun w tys cells slots pc lv st => ∀ (H : Heap) (locs : List Loc) (ls : Array Slot), va_K D cl tys s → va_P D cl w H → va_D A w → va_S A H0 H locs → lv_has ls nL lv → W p l e R s m args below meth c H locs cells slots Q (F0 m pc ls st)) ∧
    p.tables.exec = Jvm.exec ∧ c.code = cc ∧ c.maxLocals = nL ∧ s.vm.findClass own = some m.cls ∧ (∀ w ∈ TT, w.before args s = true) ∧ zKm KK ∧ KK s ∧ (∀ q, H0.size ≤ q → A q) ∧ meth.name = "<init>"
theorem zGn.is {V : zGV} {l : Launch} {cc : ByteArray} {own : String} {TT : List Cond} {KK : State → Prop} {D : va_G} {cl : List vw_C} {nL : Nat} {R : Room} (h : zGn V l cc own TT KK D cl nL R) : zGIs V l cc own TT KK D cl nL R := by
  obtain ⟨p, e, s, m, args, below, meth, c, A, H0, Q, h1, h2, h3, h4, h5, h6, h7, h8, h9, -⟩ := h
  exact ⟨p, e, s, m, args, below, meth, c, A, H0, Q, h1, h2, h3, h4, h5, h6, h7, h8, h9⟩
section ZGR
variable {V : zGV} {l : Launch} {cc : ByteArray} {own : String} {TT : List Cond} {KK : State → Prop} {D : va_G} {cl : List vw_C} {nL : Nat} {R : Room} {w : va_W} {tys : List (ClassId × FieldType)} {cells slots pc : Nat} {lv : List (Nat × Value)} {st : List Value}

theorem g_iconst (hX : zGIs V l cc own TT KK D cl nL R) {n : Int} {v : Int32} (hd : decode cc pc = .ok (.iconst n, 1)) (hv : Int32.ofInt n = v) (k : V w tys cells slots (pc + 1) lv (.int v :: st)) : V w tys cells slots pc lv (st) := by
  obtain ⟨p, e, s, m, args, below, meth, c, A, H0, Q, rfl, hx, hb, hml, hown, hts, hKm, hKK, hA⟩ := hX
  intro H locs ls hK hP hD hS hl
  exact lv_iconst hx hb hd hv (k H locs ls hK hP hD hS hl)
theorem g_bipush (hX : zGIs V l cc own TT KK D cl nL R) {n : Int} {v : Int32} (hd : decode cc pc = .ok (.bipush n, 2)) (hv : (Int8.ofInt n).toInt32 = v) (k : V w tys cells slots (pc + 2) lv (.int v :: st)) : V w tys cells slots pc lv (st) := by
  obtain ⟨p, e, s, m, args, below, meth, c, A, H0, Q, rfl, hx, hb, hml, hown, hts, hKm, hKK, hA⟩ := hX
  intro H locs ls hK hP hD hS hl
  exact lv_bipush hx hb hd hv (k H locs ls hK hP hD hS hl)
theorem g_sipush (hX : zGIs V l cc own TT KK D cl nL R) {n : Int} {v : Int32} (hd : decode cc pc = .ok (.sipush n, 3)) (hv : (Int16.ofInt n).toInt32 = v) (k : V w tys cells slots (pc + 3) lv (.int v :: st)) : V w tys cells slots pc lv (st) := by
  obtain ⟨p, e, s, m, args, below, meth, c, A, H0, Q, rfl, hx, hb, hml, hown, hts, hKm, hKK, hA⟩ := hX
  intro H locs ls hK hP hD hS hl
  exact lv_sipush hx hb hd hv (k H locs ls hK hP hD hS hl)
theorem g_aload_n (hX : zGIs V l cc own TT KK D cl nL R) {j : Fin 4} {i : Nat} {x : Nat} (hd : decode cc pc = .ok (.aload_n j, 1)) (hi : (j : Nat) = i) (hg : zg lv i = some (.ref x)) (k : V w tys cells slots (pc + 1) lv (.ref x :: st)) : V w tys cells slots pc lv (st) := by
  obtain ⟨p, e, s, m, args, below, meth, c, A, H0, Q, rfl, hx, hb, hml, hown, hts, hKm, hKK, hA⟩ := hX
  intro H locs ls hK hP hD hS hl
  exact lv_aload_n hx hb hd hi (zg_at hl hg) (k H locs ls hK hP hD hS hl)
theorem g_dup (hX : zGIs V l cc own TT KK D cl nL R) {va : Value} (hd : decode cc pc = .ok (.dup, 1)) (h1 : va.category = 1) (k : V w tys cells slots (pc + 1) lv (va :: va :: st)) : V w tys cells slots pc lv (va :: st) := by
  obtain ⟨p, e, s, m, args, below, meth, c, A, H0, Q, rfl, hx, hb, hml, hown, hts, hKm, hKK, hA⟩ := hX
  intro H locs ls hK hP hD hS hl
  exact lv_dup hx hb hd h1 (k H locs ls hK hP hD hS hl)
theorem g_istore_n (hX : zGIs V l cc own TT KK D cl nL R) {j : Fin 4} {i : Nat} {x : Int32} {lv2 : List (Nat × Value)} (hd : decode cc pc = .ok (.istore_n j, 1)) (hi : (j : Nat) = i) (hn : i < nL) (hl2 : (i, Value.int x) :: lv.filter (fun q => !(q.1 == i) && !(q.1 + 1 == i && q.2.category == 2)) = lv2) (k : V w tys cells slots (pc + 1) lv2 st) : V w tys cells slots pc lv (.int x :: st) := by
  obtain ⟨p, e, s, m, args, below, meth, c, A, H0, Q, rfl, hx, hb, hml, hown, hts, hKm, hKK, hA⟩ := hX
  intro H locs ls hK hP hD hS hl
  exact lv_istore_n hx hb hd hi hl hn hl2 (fun ls' hl' => k H locs ls' hK hP hD hS hl')
theorem g_istore (hX : zGIs V l cc own TT KK D cl nL R) {i : Nat} {x : Int32} {lv2 : List (Nat × Value)} (hd : decode cc pc = .ok (.istore i, 2)) (hn : i < nL) (hl2 : (i, Value.int x) :: lv.filter (fun q => !(q.1 == i) && !(q.1 + 1 == i && q.2.category == 2)) = lv2) (k : V w tys cells slots (pc + 2) lv2 st) : V w tys cells slots pc lv (.int x :: st) := by
  obtain ⟨p, e, s, m, args, below, meth, c, A, H0, Q, rfl, hx, hb, hml, hown, hts, hKm, hKK, hA⟩ := hX
  intro H locs ls hK hP hD hS hl
  exact lv_istore hx hb hd hl hn hl2 (fun ls' hl' => k H locs ls' hK hP hD hS hl')
theorem g_astore_n (hX : zGIs V l cc own TT KK D cl nL R) {j : Fin 4} {i : Nat} {x : Nat} {lv2 : List (Nat × Value)} (hd : decode cc pc = .ok (.astore_n j, 1)) (hi : (j : Nat) = i) (hn : i < nL) (hl2 : (i, Value.ref x) :: lv.filter (fun q => !(q.1 == i) && !(q.1 + 1 == i && q.2.category == 2)) = lv2) (k : V w tys cells slots (pc + 1) lv2 st) : V w tys cells slots pc lv (.ref x :: st) := by
  obtain ⟨p, e, s, m, args, below, meth, c, A, H0, Q, rfl, hx, hb, hml, hown, hts, hKm, hKK, hA⟩ := hX
  intro H locs ls hK hP hD hS hl
  exact lv_astore_n hx hb hd hi hl hn hl2 (fun ls' hl' => k H locs ls' hK hP hD hS hl')
theorem g_astore (hX : zGIs V l cc own TT KK D cl nL R) {i : Nat} {x : Nat} {lv2 : List (Nat × Value)} (hd : decode cc pc = .ok (.astore i, 2)) (hn : i < nL) (hl2 : (i, Value.ref x) :: lv.filter (fun q => !(q.1 == i) && !(q.1 + 1 == i && q.2.category == 2)) = lv2) (k : V w tys cells slots (pc + 2) lv2 st) : V w tys cells slots pc lv (.ref x :: st) := by
  obtain ⟨p, e, s, m, args, below, meth, c, A, H0, Q, rfl, hx, hb, hml, hown, hts, hKm, hKK, hA⟩ := hX
  intro H locs ls hK hP hD hS hl
  exact lv_astore hx hb hd hl hn hl2 (fun ls' hl' => k H locs ls' hK hP hD hS hl')
theorem g_objInit (hX : zGIs V l cc own TT KK D cl nL R) {idx a : Nat} (h1 : Cond.methodLink own idx Lib.objectInit ∈ TT) (h2 : Cond.instanceMethod Lib.objectInit ∈ TT) (h3 : Cond.code Lib.objectInit ⟨#[0xb1]⟩ 1 none ∈ TT) (hd : decode cc pc = .ok (.invokespecial idx, 3)) (hf : 1 ≤ R.frames) (hr : (st.map fun v => v.category).sum + 12 ≤ R.locals) (k : V w tys cells slots (pc + 3) lv st) : V w tys cells slots pc lv (.ref a :: st) := by
  obtain ⟨p, e, s, m, args, below, meth, c, A, H0, Q, rfl, hx, hb, hml, hown, hts, hKm, hKK, hA⟩ := hX
  intro H locs ls hK hP hD hS hl
  refine W.objInit hx hb hown (hts _ h1) (hts _ h2) (hts _ h3) rfl (by rw [hml]; exact hl.1) rfl hd hf ?_ (k H locs ls hK hP hD hS hl)
  simpa [JFrame.monitorRoom] using hr
theorem g_new (hX : zGIs V l cc own TT KK D cl nL R) {C : String} {T : u_T} {N ci index : Nat} {fs : List Value} (hin : ∀ w ∈ u_ws C T N, w ∈ TT) (ty0 : Nat → FieldType) (hty : ∀ k, k < N → parseFieldDescriptor (T k).2.2.1 = some (ty0 k)) (h1 : Cond.classLink own index C ∈ TT) (h2 : Cond.instantiable C N ∈ TT) (h3 : Cond.initialized C ∈ TT) (hc : cl[ci]? = some (C, T, N)) (hfs : ∀ j, j < N → defaultValue (ty0 j) = vp_V fs j) (hcells : cells + 1 ≤ R.cells) (hslots : slots + N ≤ R.slots) (hd : decode cc pc = .ok (.new index, 3))
    (k : ∀ q : Nat, V (w ++ [(q, .inr (ci, fs))]) tys (cells + 1) (slots + N) (pc + 3) lv (.ref q :: st)) : V w tys cells slots pc lv st := by
  obtain ⟨p, e, s, m, args, below, meth, c, A, H0, Q, rfl, hx, hb, hml, hown, hts, hKm, hKK, hA⟩ := hX
  intro H locs ls hK hP hD hS hl
  exact va_new hx hb hts hin ty0 hty hown (hts _ h1) (hts _ h2) (hts _ h3) hK hP hD hS hA hc hfs hcells hslots hd (fun q H1 h1 h2 h3 => k q H1 locs ls hK h1 h2 h3 hl)
theorem g_newa (hX : zGIs V l cc own TT KK D cl nL R) {atype : ArrayType} {ty : FieldType} {n : Int32} {N' : Nat} {a0 : vp_A} (h1 : Cond.arrayClass (newarray.typeOf atype) ∈ TT) (hty : newarray.typeOf atype = ty) (ha : ∀ cA : ClassId, vp_cell cA a0 = arrV cA N' (fun _ => defaultValue ty)) (hn : ¬ n < 0) (hN : n.toNatClampNeg = N') (hbytes : N' * componentBytes ty ≤ 536870912) (hcells : cells + 1 ≤ R.cells) (hslots : slots + N' ≤ R.slots) (hd : decode cc pc = .ok (.newarray atype, 2))
    (k : ∀ (q : Nat) (cA : ClassId), V (w ++ [(q, .inl (cA, a0))]) (tys ++ [(cA, ty)]) (cells + 1) (slots + N') (pc + 2) lv (.ref q :: st)) : V w tys cells slots pc lv (.int n :: st) := by
  obtain ⟨p, e, s, m, args, below, meth, c, A, H0, Q, rfl, hx, hb, hml, hown, hts, hKm, hKK, hA⟩ := hX
  intro H locs ls hK hP hD hS hl
  exact va_newa hx hb (hts _ h1) hty hK hP hD hS hA ha hn hN hbytes hcells hslots hd (fun q cA H1 h0 h1 h2 h3 => k q cA H1 locs ls h0 h1 h2 h3 hl)
theorem g_putF (hX : zGn V l cc own TT KK D cl nL R) {C : String} {T : u_T} {N ci index a : Nat} {fs : List Value} {v : Value} {w2 : va_W} (hin : ∀ w ∈ u_ws C T N, w ∈ TT) (ty0 : Nat → FieldType) (hty : ∀ k, k < N → parseFieldDescriptor (T k).2.2.1 = some (ty0 k)) (hnm : ∀ a, a < N → ∀ b, b < N → a ≠ b → (T a).2.1 ≠ (T b).2.1) (q0 : Nat) (he : w[q0]? = some (a, .inr (ci, fs))) (hc : cl[ci]? = some (C, T, N)) (k0 : Nat) (hk : k0 < N) (hlink : Cond.fieldLink own index (T k0).1 (T k0).2.1 (T k0).2.2.1 ∈ TT) (hfin : (T k0).2.2.2 = true) (hdecl : (T k0).1 = own) (hn : narrow (ty0 k0) v = v) (hfit : fits (ty0 k0) v = true) (hlen : k0 < fs.length) (hw : w.set q0 (a, .inr (ci, fs.set k0 v)) = w2) (hd : decode cc pc = .ok (.putfield index, 3)) (k : V w2 tys cells slots (pc + 3) lv st) : V w tys cells slots pc lv (v :: .ref a :: st) := by
  obtain ⟨p, e, s, m, args, below, meth, c, A, H0, Q, rfl, hx, hb, hml, hown, hts, hKm, hKK, hA, hin2⟩ := hX
  intro H locs ls hK hP hD hS hl
  subst hw
  exact va_putF hx hb hts hin ty0 hty hnm hown hK hP hD hS q0 he hc k0 hk (hts _ hlink) (fun _ h => h) hfin hin2 hdecl (hty k0 hk) hn hfit hlen hd (fun H1 locs1 h1 h2 h3 => k H1 locs1 ls hK h1 h2 h3 hl)
theorem g_put (hX : zGIs V l cc own TT KK D cl nL R) {C : String} {T : u_T} {N ci index a : Nat} {fs : List Value} {v : Value} {w2 : va_W} (hin : ∀ w ∈ u_ws C T N, w ∈ TT) (ty0 : Nat → FieldType) (hty : ∀ k, k < N → parseFieldDescriptor (T k).2.2.1 = some (ty0 k)) (hnm : ∀ a, a < N → ∀ b, b < N → a ≠ b → (T a).2.1 ≠ (T b).2.1) (q0 : Nat) (he : w[q0]? = some (a, .inr (ci, fs))) (hc : cl[ci]? = some (C, T, N)) (k0 : Nat) (hk : k0 < N) (hlink : Cond.fieldLink own index (T k0).1 (T k0).2.1 (T k0).2.2.1 ∈ TT) (hfin : (T k0).2.2.2 = false) (hn : narrow (ty0 k0) v = v) (hfit : fits (ty0 k0) v = true) (hlen : k0 < fs.length) (hw : w.set q0 (a, .inr (ci, fs.set k0 v)) = w2) (hd : decode cc pc = .ok (.putfield index, 3)) (k : V w2 tys cells slots (pc + 3) lv st) : V w tys cells slots pc lv (v :: .ref a :: st) := by
  obtain ⟨p, e, s, m, args, below, meth, c, A, H0, Q, rfl, hx, hb, hml, hown, hts, hKm, hKK, hA⟩ := hX
  intro H locs ls hK hP hD hS hl
  subst hw
  exact va_put hx hb hts hin ty0 hty hnm hown hK hP hD hS q0 he hc k0 hk (hts _ hlink) (fun _ h => h) hfin (hty k0 hk) hn hfit hlen hd (fun H1 locs1 h1 h2 h3 => k H1 locs1 ls hK h1 h2 h3 hl)
end ZGR
/-- a constructor's contract: of a fresh cell it makes the world w1 h0 u, for some addresses and array kinds u -/
def zN (l : Launch) (y : MethodName) (wds : List Cond) (rm : Room) (D : va_G) (cl : List vw_C) (KK : State → Prop) (ci : Nat) (fs0 : List Value) (mc ms : Nat) (w1 : Nat → (Nat → Nat) × (Nat → ClassId) → va_W) (t1 : (Nat → Nat) × (Nat → ClassId) → List (ClassId × FieldType)) : Prop :=
  ∀ h0 sz : Nat, Met l y wds rm (va_Pc [.ref h0] (fun U => U.heap.size = sz ∧ va_P D cl [(h0, .inr (ci, fs0))] U.heap ∧ KK U ∧ va_D (fun _ => True) [(h0, .inr (ci, fs0))]))
    (va_Qv (fun _ : (Nat → Nat) × (Nat → ClassId) => True) (fun u t => va_P D cl (w1 h0 u) t.heap ∧ va_K D cl (t1 u) t ∧ va_D (va_A [(h0, .inr (ci, fs0))] sz) (w1 h0 u)) (va_A [(h0, .inr (ci, fs0))] sz)) mc ms (va_A [(h0, .inr (ci, fs0))] sz)
section ZGC
variable {V : zGV} {l : Launch} {cc : ByteArray} {own : String} {TT : List Cond} {KK : State → Prop} {D : va_G} {cl : List vw_C} {nL : Nat} {R : Room} {w : va_W} {tys : List (ClassId × FieldType)} {cells slots pc : Nat} {lv : List (Nat × Value)} {st : List Value}
/-- behind a constructor: the rest of the world is as it was -/
theorem g_joined {p : Program} {e : Env} {s : State} {m : MethodId} {args : Array Value} {below : List Frame} {meth : Method} {c : Code} {A : Nat → Prop} {H0 H : Heap} {Q : State → Prop} {locs : List Loc} {ls : Array Slot} {ci q mc ms : Nat} {fs0 : List Value} {w1 : (Nat → Nat) × (Nat → ClassId) → va_W} {t1 : (Nat → Nat) × (Nat → ClassId) → List (ClassId × FieldType)} {st0 : List Value} {av : Array Value}
    (hr : va_Run p l e R s m args below meth c H locs cells slots mc ms (F0 m pc ls st0) st (va_Qv (fun _ : (Nat → Nat) × (Nat → ClassId) => True) (fun u t => va_P D cl (w1 u) t.heap ∧ va_K D cl (t1 u) t ∧ va_D (va_A [(q, .inr (ci, fs0))] H.size) (w1 u)) (va_A [(q, .inr (ci, fs0))] H.size) av) (va_A [(q, .inr (ci, fs0))] H.size))
    (hA : ∀ x, H0.size ≤ x → A x) (hK : va_K D cl tys s) (hP : va_P D cl (w ++ [(q, .inr (ci, fs0))]) H) (hD : va_D A (w ++ [(q, .inr (ci, fs0))])) (hS : va_S A H0 H locs)
    (kk : ∀ (u : (Nat → Nat) × (Nat → ClassId)) (H1 : Heap) (locs1 : List Loc), va_K D cl (tys ++ t1 u) s → va_P D cl (w ++ w1 u) H1 → va_D A (w ++ w1 u) → va_S A H0 H1 locs1 → W p l e R s m args below meth c H1 locs1 (cells + mc) (slots + ms) Q (F0 m (pc + 3) ls st)) : W p l e R s m args below meth c H locs cells slots Q (F0 m pc ls st0) := by
  have hlast : (w ++ [(q, Sum.inr (ci, fs0))] : va_W)[w.length]? = some (q, .inr (ci, fs0)) := by simp
  have hAA : ∀ x, va_A [(q, .inr (ci, fs0))] H.size x → A x := fun x h => by
    rcases h with ⟨k, e9, h⟩ | h
    · have hk0 : k = 0 := by
        have := (List.getElem?_eq_some_iff.mp h).1
        simp at this
        exact this
      subst hk0
      cases h
      exact hD.2 _ _ hlast
    · exact hA x (Nat.le_trans hS.1 h)
  refine va_callv hr hS (fun x _ h => hAA x h) hAA (fun u t H1 locs1 ht hvm _ hB hz hk hS1 => ?_)
  obtain ⟨hP1, hK1, hD1⟩ := hB
  rw [ht] at hP1
  have hapart : ∀ (k : Nat) (x : Nat × va_E), w[k]? = some x → x.1 < H.size ∧ ¬ va_A [(q, .inr (ci, fs0))] H.size x.1 := by
    intro k x hx
    have hkl : k < w.length := (List.getElem?_eq_some_iff.mp hx).1
    have hx' : (w ++ [(q, Sum.inr (ci, fs0))] : va_W)[k]? = some x := by rw [List.getElem?_append_left hkl]; exact hx
    have hlt := (hP k x hx').lt
    refine ⟨hlt, fun h => ?_⟩
    rcases h with ⟨k2, e9, h⟩ | h
    · have hk0 : k2 = 0 := by
        have := (List.getElem?_eq_some_iff.mp h).1
        simp at this
        exact this
      subst hk0
      have hxq : x.1 = q := by cases h; rfl
      have := hD.1 k w.length x _ hx' hlast hxq
      omega
    · omega
  refine kk u H1 locs1 (hK.app (va_K.moved hvm.symm hK1)) (va_P.app (fun k x hx => ?_) hP1) (va_D.app ?_ (hD1.weaken (fun k x _ h => hAA x.1 h)) (fun i j x y hx hy hxy => ?_)) hS1
  · have hkl : k < w.length := (List.getElem?_eq_some_iff.mp hx).1
    have hx' : (w ++ [(q, Sum.inr (ci, fs0))] : va_W)[k]? = some x := by rw [List.getElem?_append_left hkl]; exact hx
    exact (hP k x hx').kept (hk x.1 (hapart k x hx).1 (hapart k x hx).2)
  · refine ⟨fun i j x y hi hj hxy => ?_, fun k x hx => ?_⟩
    · have hil : i < w.length := (List.getElem?_eq_some_iff.mp hi).1
      have hjl : j < w.length := (List.getElem?_eq_some_iff.mp hj).1
      exact hD.1 i j x y (by rw [List.getElem?_append_left hil]; exact hi) (by rw [List.getElem?_append_left hjl]; exact hj) hxy
    · have hkl : k < w.length := (List.getElem?_eq_some_iff.mp hx).1
      exact hD.2 k x (by rw [List.getElem?_append_left hkl]; exact hx)
  · exact (hapart i x hx).2 (by rw [hxy]; exact hD1.2 j y hy)
theorem g_ctorN (hX : zGIs V l cc own TT KK D cl nL R) {ci q mc ms index maxL : Nat} {y : MethodName} {bytes : ByteArray} {rm : Room} {host : String} {fs0 : List Value} {w1 : Nat → (Nat → Nat) × (Nat → ClassId) → va_W} {t1 : (Nat → Nat) × (Nat → ClassId) → List (ClassId × FieldType)} (hM : zN l y (Cond.code y bytes maxL none :: TT) rm D cl KK ci fs0 mc ms w1 t1) (hG : GoodIn TT (Cond.code y bytes maxL none :: TT)) (hN : ∀ U, KK U → va_Nw (.methodLinkNest own index y host) U) (hinst : Cond.instanceMethod y ∈ TT) (hini : Cond.initialized y.cls ∈ TT) (hrm : rm.cells = mc ∧ rm.slots = ms) (hR : rm.frames + 1 ≤ R.frames ∧ 8 + (maxL + 11) + rm.locals ≤ R.locals) (hy : y.name = "<init>") (hd : y.cls ≠ "java/lang/invoke/MethodHandle" ∧ y.cls ≠ "java/lang/invoke/VarHandle" ∧ (parseMethodDescriptor y.desc).map (fun d => d.parameters.length) = some 0)
    (hW : (st.map fun v => v.category).sum ≤ 8) (hf : cells + mc ≤ R.cells ∧ slots + ms ≤ R.slots) (hdg : decode cc pc = .ok (.invokespecial index, 3))
    (k : ∀ u : (Nat → Nat) × (Nat → ClassId), V (w ++ w1 q u) (tys ++ t1 u) (cells + mc) (slots + ms) (pc + 3) lv st) : V (w ++ [(q, .inr (ci, fs0))]) tys cells slots pc lv (.ref q :: st) := by
  obtain ⟨p, e, s, m, args, below, meth, c, A, H0, Q, rfl, hx, hb, hml, hown, hts, hKm, hKK, hA⟩ := hX
  intro H locs ls hK hP hD hS hl
  have hPl : va_P D cl [(q, .inr (ci, fs0))] H := fun k9 x hx => hP (w.length + k9) x (by rw [List.getElem?_append_right (by omega)]; simpa using hx)
  have hDl : va_D (fun _ => True) [(q, Sum.inr (ci, fs0))] := ⟨fun i j x y9 hi hj _ => by
    have h1 := (List.getElem?_eq_some_iff.mp hi).1
    have h2 := (List.getElem?_eq_some_iff.mp hj).1
    simp at h1 h2
    omega, fun _ _ _ => trivial⟩
  exact g_joined (w1 := w1 q) (t1 := t1) (va_runIN (As := []) (rest := st) ⟨hx, hb, hml, hown, hts⟩ (hM q H.size) ⟨va_cnB 0 hts hG rfl hrm.1 hrm.2 (hN s hKK) (hts _ hini) hd hR, hy, hts _ hinst⟩ ⟨fun a U g mk x => by obtain ⟨x0, x1, xP, xK, xD⟩ := x; exact ⟨x0, x1, xP, hKm.2 U g mk a xK, xD⟩, fun U hU hW9 => ⟨rfl, by rw [hU], by rw [hU]; exact hPl, hKm.1 _ U hW9 hKK, hDl⟩⟩ rfl rfl hl.1 rfl (lv_room hW) hdg hf) hA hK hP hD hS (fun u H1 locs1 h0 h1 h2 h3 => k u H1 locs1 ls h0 h1 h2 h3 hl)
theorem g_ctor (hX : zGIs V l cc own TT KK D cl nL R) {ci q mc ms index maxL : Nat} {y : MethodName} {bytes : ByteArray} {rm : Room} {fs0 : List Value} {w1 : Nat → (Nat → Nat) × (Nat → ClassId) → va_W} {t1 : (Nat → Nat) × (Nat → ClassId) → List (ClassId × FieldType)} (hM : zN l y (Cond.code y bytes maxL none :: TT) rm D cl KK ci fs0 mc ms w1 t1) (hG : GoodIn TT (Cond.code y bytes maxL none :: TT)) (hN : Cond.methodLink own index y ∈ TT) (hinst : Cond.instanceMethod y ∈ TT) (hini : Cond.initialized y.cls ∈ TT) (hrm : rm.cells = mc ∧ rm.slots = ms) (hR : rm.frames + 1 ≤ R.frames ∧ 8 + (maxL + 11) + rm.locals ≤ R.locals) (hy : y.name = "<init>") (hd : y.cls ≠ "java/lang/invoke/MethodHandle" ∧ y.cls ≠ "java/lang/invoke/VarHandle" ∧ (parseMethodDescriptor y.desc).map (fun d => d.parameters.length) = some 0)
    (hW : (st.map fun v => v.category).sum ≤ 8) (hf : cells + mc ≤ R.cells ∧ slots + ms ≤ R.slots) (hdg : decode cc pc = .ok (.invokespecial index, 3))
    (k : ∀ u : (Nat → Nat) × (Nat → ClassId), V (w ++ w1 q u) (tys ++ t1 u) (cells + mc) (slots + ms) (pc + 3) lv st) : V (w ++ [(q, .inr (ci, fs0))]) tys cells slots pc lv (.ref q :: st) := by
  obtain ⟨p, e, s, m, args, below, meth, c, A, H0, Q, rfl, hx, hb, hml, hown, hts, hKm, hKK, hA⟩ := hX
  intro H locs ls hK hP hD hS hl
  have hPl : va_P D cl [(q, .inr (ci, fs0))] H := fun k9 x hx => hP (w.length + k9) x (by rw [List.getElem?_append_right (by omega)]; simpa using hx)
  have hDl : va_D (fun _ => True) [(q, Sum.inr (ci, fs0))] := ⟨fun i j x y9 hi hj _ => by
    have h1 := (List.getElem?_eq_some_iff.mp hi).1
    have h2 := (List.getElem?_eq_some_iff.mp hj).1
    simp at h1 h2
    omega, fun _ _ _ => trivial⟩
  exact g_joined (w1 := w1 q) (t1 := t1) (va_runI (As := []) (rest := st) ⟨hx, hb, hml, hown, hts⟩ (hM q H.size) (cwI 0 hts hG rfl hrm.1 hrm.2 (hts _ hini) (hts _ hN) (hts _ hinst) hy hd hR) ⟨fun a U g mk x => by obtain ⟨x0, x1, xP, xK, xD⟩ := x; exact ⟨x0, x1, xP, hKm.2 U g mk a xK, xD⟩, fun U hU hW9 => ⟨rfl, by rw [hU], by rw [hU]; exact hPl, hKm.1 _ U hW9 hKK, hDl⟩⟩ rfl rfl hl.1 rfl (lv_room hW) hdg hf) hA hK hP hD hS (fun u H1 locs1 h0 h1 h2 h3 => k u H1 locs1 ls h0 h1 h2 h3 hl)
end ZGC
/-- a constructor's contract out of its walk; its end is 'hE' -/
theorem zmk_n {l : Launch} {cc : ByteArray} {TT : List Cond} {KK : State → Prop} {D : va_G} {cl : List vw_C} {nL : Nat} {rm : Room} {y : MethodName} {ci mc ms : Nat} {fs0 : List Value} {w1 : Nat → (Nat → Nat) × (Nat → ClassId) → va_W} {t1 : (Nat → Nat) × (Nat → ClassId) → List (ClassId × FieldType)} (hy : plainName y.cls = true) (hyn : y.name = "<init>") (hKm : zKm KK) (hKt : ∀ U, KK U → va_K D cl [] U) (hnL : 1 ≤ nL)
    (hbody : ∀ (V : zGV) (h0 : Nat), zGn V l cc y.cls TT KK D cl nL rm → (∀ (u : (Nat → Nat) × (Nat → ClassId)) (pc : Nat) (lv : List (Nat × Value)), decode cc pc = .ok (.return_, 1) → V (w1 h0 u) (t1 u) mc ms pc lv []) → V [(h0, .inr (ci, fs0))] [] 0 0 0 [(0, .ref h0)] []) : zN l y (Cond.code y cc nL none :: TT) rm D cl KK ci fs0 mc ms w1 t1 := by
  intro h0 sz
  refine Met.ofW (cc := cc) (maxL := nL) (ret := none) hy rfl ?_
  intro p e s m args below meth c s₁ B hml hv
  obtain ⟨rfl, hsz, hP, hKK, hD0⟩ := hv
  have hx := B.exec
  have hb := B.bytes
  have hr := B.returns
  have hts := atoms_spec (ws := Cond.code y cc nL none :: TT) B.pre
  have hown : s.vm.findClass y.cls = some m.cls := findClass_of_methodNamed B.named
  have hlocks := B.notSynchronized
  have hin : meth.name = "<init>" := by rw [(name_of_methodNamed B.named B.method).1, hyn]
  subst hsz
  have hD := hD0.self (sz := s.heap.size)
  have hA : ∀ q : Nat, s.heap.size ≤ q → va_A [(h0, .inr (ci, fs0))] s.heap.size q := fun q h => Or.inr h
  have hl := lv_entry [.ref h0] (n := nL) (by simpa [lg_sl, Value.category] using hnL)
  rw [lg_entry_eq]
  refine hbody (fun w tys cells slots pc lv st => ∀ (H : Heap) (locs : List Loc) (ls : Array Slot), va_K D cl tys s → va_P D cl w H → va_D (va_A [(h0, .inr (ci, fs0))] s.heap.size) w → va_S (va_A [(h0, .inr (ci, fs0))] s.heap.size) s.heap H locs → lv_has ls nL lv → W p l e rm s m ([.ref h0] : List Value).toArray below meth c H locs cells slots (MQ below (va_Qv (fun _ : (Nat → Nat) × (Nat → ClassId) => True) (fun u t => va_P D cl (w1 h0 u) t.heap ∧ va_K D cl (t1 u) t ∧ va_D (va_A [(h0, .inr (ci, fs0))] s.heap.size) (w1 h0 u)) (va_A [(h0, .inr (ci, fs0))] s.heap.size)) ([.ref h0] : List Value).toArray s mc ms (va_A [(h0, .inr (ci, fs0))] s.heap.size)) (F0 m pc ls st)) h0
    ⟨p, e, s, m, _, below, meth, c, va_A [(h0, .inr (ci, fs0))] s.heap.size, s.heap, _, rfl, hx, hb, hml, hown, fun w h => hts w (List.mem_cons_of_mem _ h), hKm, hKK, hA, hin⟩ ?_ s.heap [] _ (hKt s hKK) hP hD va_S.rf hl
  intro u pc lv hd H locs ls hK1 hP1 hD1 hS1 hl1
  exact W.vret hx hb hr (fun t ht hW => ⟨⟨u, rfl, trivial, by rw [ht]; exact hP1, va_K.moved hW.alike hK1, hD1⟩, hS1.F ht⟩) hS1.2.2 hd
end
section
/-! The law's own machine: the script b of L ints xs lies outside the world. -/
def zIsL {α : Type} (V : zV α) (l : Launch) (cc : ByteArray) (own : String) (TT : List Cond) (KK : State → Prop) (D : va_G) (cl : List vw_C) (tys : List (ClassId × FieldType)) (nL : Nat) (R : Room) (b L : Nat) (xs : Nat → Int32) : Prop :=
  ∃ (p : Program) (e : Env) (s : State) (m : MethodId) (args : Array Value) (below : List Frame) (meth : Method) (c : Code) (cells slots : Nat) (A : Nat → Prop) (H0 : Heap) (Qo : α × zS → State → Prop),
    V = (fun w pc lv st out => ∀ (H : Heap) (locs : List Loc) (ls : Array Slot), va_P D cl w H → va_D A w → va_S A H0 H locs → lv_has ls nL lv → W p l e R s m args below meth c H locs cells slots (Qo out) (F0 m pc ls st)) ∧
    (p.tables.exec = Jvm.exec ∧ c.code = cc ∧ c.maxLocals = nL ∧ s.vm.findClass own = some m.cls ∧ (∀ w ∈ TT, w.before args s = true) ∧ zKm KK ∧ KK s ∧ va_K D cl tys s ∧ (∀ q, H0.size ≤ q → A q) ∧ cells ≤ R.cells ∧ slots ≤ R.slots) ∧ va_X b L xs s H0 ∧ b < H0.size ∧ ¬ A b
theorem zIsL.is {α : Type} {V : zV α} {l : Launch} {cc : ByteArray} {own : String} {TT : List Cond} {KK : State → Prop} {D : va_G} {cl : List vw_C} {tys : List (ClassId × FieldType)} {nL : Nat} {R : Room} {b L : Nat} {xs : Nat → Int32} (h : zIsL V l cc own TT KK D cl tys nL R b L xs) : zIs V l cc own TT KK D cl tys nL R := by
  obtain ⟨p, e, s, m, args, below, meth, c, cells, slots, A, H0, Qo, h1, h2, -⟩ := h
  exact ⟨p, e, s, m, args, below, meth, c, cells, slots, A, H0, Qo, h1, h2⟩
section ZLR
variable {α : Type} {V : zV α} {l : Launch} {cc : ByteArray} {own : String} {TT : List Cond} {KK : State → Prop} {D : va_G} {cl : List vw_C} {tys : List (ClassId × FieldType)} {nL : Nat} {R : Room} {f : Option (α × zS)} {w : va_W} {pc : Nat} {lv : List (Nat × Value)} {st : List Value} {b L : Nat} {xs : Nat → Int32}
theorem z_sld (hX : zIsL V l cc own TT KK D cl tys nL R b L xs) {i : Int32} (hd : decode cc pc = .ok (.iaload, 1)) (k : zJ V f w (pc + 1) lv (.int (xs i.toNatClampNeg) :: st)) : zJ V (zgd (zin i L) f) w pc lv (.int i :: .ref b :: st) := by
  refine z_gd (fun hi => ?_)
  obtain ⟨p, e, s, m, args, below, meth, c, cells, slots, A, H0, Qo, rfl, ⟨hx, hb, hml, hown, hts, hKm, hKK, hK, hA, hcs⟩, hXs, hbl, hbA⟩ := hX
  intro out hf H locs ls hP hD hS hl
  exact va_sld hx hb hXs hbl hbA hS (zin_vp hi) hd (k out hf H locs ls hP hD hS hl)
theorem z_slen (hX : zIsL V l cc own TT KK D cl tys nL R b L xs) (hd : decode cc pc = .ok (.arraylength, 1)) (k : zJ V f w (pc + 1) lv (.int (nI L) :: st)) : zJ V f w pc lv (.ref b :: st) := by
  obtain ⟨p, e, s, m, args, below, meth, c, cells, slots, A, H0, Qo, rfl, ⟨hx, hb, hml, hown, hts, hKm, hKK, hK, hA, hcs⟩, hXs, hbl, hbA⟩ := hX
  intro out hf H locs ls hP hD hS hl
  exact va_slen hx hb hXs hbl hbA hS hd (k out hf H locs ls hP hD hS hl)
end ZLR
theorem zsw_at {a b : va_W} {k : Nat} {q : Nat × va_E} (h : (b ++ a)[k]? = some q) : ∃ k2, (a ++ b)[k2]? = some q ∧ (k2 = if k < b.length then a.length + k else k - b.length) := by
  by_cases hk : k < b.length
  · refine ⟨a.length + k, ?_, by rw [if_pos hk]⟩
    rw [List.getElem?_append_left hk] at h
    rw [List.getElem?_append_right (by omega)]
    rw [show a.length + k - a.length = k by omega]
    exact h
  · refine ⟨k - b.length, ?_, by rw [if_neg hk]⟩
    rw [List.getElem?_append_right (by omega)] at h
    have hl : k - b.length < a.length := (List.getElem?_eq_some_iff.mp h).1
    rw [List.getElem?_append_left hl]
    exact h
theorem zsw_P {D : va_G} {cl : List vw_C} {a b : va_W} {H : Heap} (h : va_P D cl (a ++ b) H) : va_P D cl (b ++ a) H := fun k q hq => by
  obtain ⟨k2, h2, -⟩ := zsw_at hq
  exact h k2 q h2
theorem zsw_D {A : Nat → Prop} {a b : va_W} (h : va_D A (a ++ b)) : va_D A (b ++ a) := by
  refine ⟨fun i j p q hi hj hpq => ?_, fun k q hq => ?_⟩
  · obtain ⟨i2, h2, e2⟩ := zsw_at hi
    obtain ⟨j2, h3, e3⟩ := zsw_at hj
    have hij := h.1 i2 j2 p q h2 h3 hpq
    have hil : i < (b ++ a).length := (List.getElem?_eq_some_iff.mp hi).1
    have hjl : j < (b ++ a).length := (List.getElem?_eq_some_iff.mp hj).1
    rw [List.length_append] at hil hjl
    subst e2
    subst e3
    by_cases h1 : i < b.length <;> by_cases h4 : j < b.length
    · rw [if_pos h1, if_pos h4] at hij; omega
    · rw [if_pos h1, if_neg h4] at hij; omega
    · rw [if_neg h1, if_pos h4] at hij; omega
    · rw [if_neg h1, if_neg h4] at hij; omega
  · obtain ⟨k2, h2, -⟩ := zsw_at hq
    exact h.2 k2 q h2
/-- two worlds side by side, the other way round -/
theorem z_swap {α : Type} {V : zV α} {l : Launch} {cc : ByteArray} {own : String} {TT : List Cond} {KK : State → Prop} {D : va_G} {cl : List vw_C} {tys : List (ClassId × FieldType)} {nL : Nat} {R : Room} {f : Option (α × zS)} {a b : va_W} {pc : Nat} {lv : List (Nat × Value)} {st : List Value} (hX : zIs V l cc own TT KK D cl tys nL R) (k : zJ V f (b ++ a) pc lv st) : zJ V f (a ++ b) pc lv st := by
  obtain ⟨p, e, s, m, args, below, meth, c, cells, slots, A, H0, Qo, rfl, hx, hb, hml, hown, hts, hKm, hKK, hK, hA, hcs⟩ := hX
  intro out hf H locs ls hP hD hS hl
  exact k out hf H locs ls (zsw_P hP) (zsw_D hD) hS hl
end
section
/-! names: the classes, their fields, the methods; the good words of the tables -/
def R_P : String := "ProvenanceRows"
def F_P : u_T := fun k => match k with
  | 0 => ("ProvenanceRows", "sources", "LProvenanceRows$Sources;", true)
  | 1 => ("ProvenanceRows", "artefacts", "LProvenanceRows$Artefacts;", true)
  | 2 => ("ProvenanceRows", "rules", "LProvenanceRows$Policy;", true)
  | 3 => ("ProvenanceRows", "latestClosure", "LProvenanceRows$Closure;", true)
  | 4 => ("ProvenanceRows", "walkedClosure", "LProvenanceRows$Closure;", true)
  | 5 => ("ProvenanceRows", "countedClosure", "LProvenanceRows$Closure;", true)
  | _ => ("ProvenanceRows", "latestCulprit", "I", false)
def t_P : Nat → FieldType := fun k => match k with
  | 0 => .object "ProvenanceRows$Sources"
  | 1 => .object "ProvenanceRows$Artefacts"
  | 2 => .object "ProvenanceRows$Policy"
  | 3 => .object "ProvenanceRows$Closure"
  | 4 => .object "ProvenanceRows$Closure"
  | 5 => .object "ProvenanceRows$Closure"
  | _ => .int
theorem n_P : ∀ a, a < 7 → ∀ b, b < 7 → a ≠ b → (F_P a).2.1 ≠ (F_P b).2.1 := by decide +kernel
theorem t_P_ok : ∀ k, k < 7 → parseFieldDescriptor (F_P k).2.2.1 = some (t_P k) := by decide +kernel
def R_S : String := "ProvenanceRows$Sources"
def F_S : u_T := fun k => match k with
  | 0 => ("ProvenanceRows$Sources", "count", "I", false)
  | 1 => ("ProvenanceRows$Sources", "digests", "[J", true)
  | 2 => ("ProvenanceRows$Sources", "branches", "[I", true)
  | 3 => ("ProvenanceRows$Sources", "reviews", "[I", true)
  | _ => ("ProvenanceRows$Sources", "fetchedUntold", "[Z", true)
def t_S : Nat → FieldType := fun k => match k with
  | 0 => .int
  | 1 => .array .long
  | 2 => .array .int
  | 3 => .array .int
  | _ => .array .boolean
theorem n_S : ∀ a, a < 5 → ∀ b, b < 5 → a ≠ b → (F_S a).2.1 ≠ (F_S b).2.1 := by decide +kernel
theorem t_S_ok : ∀ k, k < 5 → parseFieldDescriptor (F_S k).2.2.1 = some (t_S k) := by decide +kernel
def R_A : String := "ProvenanceRows$Artefacts"
def F_A : u_T := fun k => match k with
  | 0 => ("ProvenanceRows$Artefacts", "count", "I", false)
  | 1 => ("ProvenanceRows$Artefacts", "digests", "[J", true)
  | 2 => ("ProvenanceRows$Artefacts", "builders", "[I", true)
  | 3 => ("ProvenanceRows$Artefacts", "tools", "[I", true)
  | 4 => ("ProvenanceRows$Artefacts", "authors", "[I", true)
  | 5 => ("ProvenanceRows$Artefacts", "times", "[I", true)
  | 6 => ("ProvenanceRows$Artefacts", "used", "LProvenanceRows$Rows;", true)
  | 7 => ("ProvenanceRows$Artefacts", "needed", "LProvenanceRows$Rows;", true)
  | 8 => ("ProvenanceRows$Artefacts", "metBy", "[I", true)
  | 9 => ("ProvenanceRows$Artefacts", "pathBits", "[I", true)
  | _ => ("ProvenanceRows$Artefacts", "pathDigests", "[J", true)
def t_A : Nat → FieldType := fun k => match k with
  | 0 => .int
  | 1 => .array .long
  | 2 => .array .int
  | 3 => .array .int
  | 4 => .array .int
  | 5 => .array .int
  | 6 => .object "ProvenanceRows$Rows"
  | 7 => .object "ProvenanceRows$Rows"
  | 8 => .array .int
  | 9 => .array .int
  | _ => .array .long
theorem n_A : ∀ a, a < 11 → ∀ b, b < 11 → a ≠ b → (F_A a).2.1 ≠ (F_A b).2.1 := by decide +kernel
theorem t_A_ok : ∀ k, k < 11 → parseFieldDescriptor (F_A k).2.2.1 = some (t_A k) := by decide +kernel
def R_W : String := "ProvenanceRows$Rows"
def F_W : u_T := fun k => match k with
  | 0 => ("ProvenanceRows$Rows", "counts", "[I", true)
  | _ => ("ProvenanceRows$Rows", "values", "[J", true)
def t_W : Nat → FieldType := fun k => match k with
  | 0 => .array .int
  | _ => .array .long
theorem n_W : ∀ a, a < 2 → ∀ b, b < 2 → a ≠ b → (F_W a).2.1 ≠ (F_W b).2.1 := by decide +kernel
theorem t_W_ok : ∀ k, k < 2 → parseFieldDescriptor (F_W k).2.2.1 = some (t_W k) := by decide +kernel
def R_Y : String := "ProvenanceRows$Policy"
def F_Y : u_T := fun k => match k with
  | 0 => ("ProvenanceRows$Policy", "count", "I", false)
  | 1 => ("ProvenanceRows$Policy", "kinds", "[I", true)
  | _ => ("ProvenanceRows$Policy", "values", "[I", true)
def t_Y : Nat → FieldType := fun k => match k with
  | 0 => .int
  | 1 => .array .int
  | _ => .array .int
theorem n_Y : ∀ a, a < 3 → ∀ b, b < 3 → a ≠ b → (F_Y a).2.1 ≠ (F_Y b).2.1 := by decide +kernel
theorem t_Y_ok : ∀ k, k < 3 → parseFieldDescriptor (F_Y k).2.2.1 = some (t_Y k) := by decide +kernel
def R_Q : String := "ProvenanceRows$Closure"
def F_Q : u_T := fun k => match k with
  | 0 => ("ProvenanceRows$Closure", "count", "I", false)
  | 1 => ("ProvenanceRows$Closure", "order", "[I", true)
  | _ => ("ProvenanceRows$Closure", "reached", "I", false)
def t_Q : Nat → FieldType := fun k => match k with
  | 0 => .int
  | 1 => .array .int
  | _ => .int
theorem n_Q : ∀ a, a < 3 → ∀ b, b < 3 → a ≠ b → (F_Q a).2.1 ≠ (F_Q b).2.1 := by decide +kernel
theorem t_Q_ok : ∀ k, k < 3 → parseFieldDescriptor (F_Q k).2.2.1 = some (t_Q k) := by decide +kernel
def R_M : String := "ProvenanceRowsModel"
def F_M : u_T := fun k => match k with
  | 0 => ("ProvenanceRowsModel", "sources", "I", false)
  | 1 => ("ProvenanceRowsModel", "artefacts", "I", false)
  | 2 => ("ProvenanceRowsModel", "rules", "I", false)
  | 3 => ("ProvenanceRowsModel", "sourceDigest", "[J", true)
  | 4 => ("ProvenanceRowsModel", "branch", "[I", true)
  | 5 => ("ProvenanceRowsModel", "reviews", "[I", true)
  | 6 => ("ProvenanceRowsModel", "untold", "[Z", true)
  | 7 => ("ProvenanceRowsModel", "digest", "[J", true)
  | 8 => ("ProvenanceRowsModel", "need", "[J", true)
  | 9 => ("ProvenanceRowsModel", "content", "[J", true)
  | 10 => ("ProvenanceRowsModel", "builder", "[I", true)
  | 11 => ("ProvenanceRowsModel", "tool", "[I", true)
  | 12 => ("ProvenanceRowsModel", "author", "[I", true)
  | 13 => ("ProvenanceRowsModel", "time", "[I", true)
  | 14 => ("ProvenanceRowsModel", "uses", "[I", true)
  | 15 => ("ProvenanceRowsModel", "use", "[I", true)
  | 16 => ("ProvenanceRowsModel", "wants", "[I", true)
  | 17 => ("ProvenanceRowsModel", "paths", "[I", true)
  | 18 => ("ProvenanceRowsModel", "kind", "[I", true)
  | 19 => ("ProvenanceRowsModel", "value", "[I", true)
  | 20 => ("ProvenanceRowsModel", "culprit", "I", false)
  | 21 => ("ProvenanceRowsModel", "reached", "I", false)
  | 22 => ("ProvenanceRowsModel", "judged", "I", false)
  | 23 => ("ProvenanceRowsModel", "kept", "I", false)
  | 24 => ("ProvenanceRowsModel", "reach", "[I", true)
  | 25 => ("ProvenanceRowsModel", "judge", "[I", true)
  | _ => ("ProvenanceRowsModel", "keep", "[I", true)
def t_M : Nat → FieldType := fun k => match k with
  | 0 => .int
  | 1 => .int
  | 2 => .int
  | 3 => .array .long
  | 4 => .array .int
  | 5 => .array .int
  | 6 => .array .boolean
  | 7 => .array .long
  | 8 => .array .long
  | 9 => .array .long
  | 10 => .array .int
  | 11 => .array .int
  | 12 => .array .int
  | 13 => .array .int
  | 14 => .array .int
  | 15 => .array .int
  | 16 => .array .int
  | 17 => .array .int
  | 18 => .array .int
  | 19 => .array .int
  | 20 => .int
  | 21 => .int
  | 22 => .int
  | 23 => .int
  | 24 => .array .int
  | 25 => .array .int
  | _ => .array .int
theorem n_M : ∀ a, a < 27 → ∀ b, b < 27 → a ≠ b → (F_M a).2.1 ≠ (F_M b).2.1 := by decide +kernel
theorem t_M_ok : ∀ k, k < 27 → parseFieldDescriptor (F_M k).2.2.1 = some (t_M k) := by decide +kernel
def R_L : String := "ProvenanceRowsLaw"
def R_Ig : String := "java/lang/Integer"
abbrev b_P_isUpTo : ByteArray := prog_1_method_19_code
def y_P_isUpTo : MethodName := ⟨R_P, "isUpTo", "(II)Z"⟩
abbrev b_S_add : ByteArray := prog_6_method_3_code
def y_S_add : MethodName := ⟨R_S, "add", "(JII)I"⟩
abbrev b_P_source : ByteArray := prog_1_method_2_code
def y_P_source : MethodName := ⟨R_P, "source", "(JII)I"⟩
abbrev b_S_has : ByteArray := prog_6_method_2_code
def y_S_has : MethodName := ⟨R_S, "has", "(I)Z"⟩
abbrev b_P_fetched : ByteArray := prog_1_method_3_code
def y_P_fetched : MethodName := ⟨R_P, "fetched", "(IZ)Z"⟩
abbrev b_W_valueAt : ByteArray := prog_5_method_2_code
def y_W_valueAt : MethodName := ⟨R_W, "valueAt", "(II)J"⟩
abbrev b_A_metByAt : ByteArray := prog_2_method_7_code
def y_A_metByAt : MethodName := ⟨R_A, "metByAt", "(II)I"⟩
abbrev b_A_meetMissing : ByteArray := prog_2_method_4_code
def y_A_meetMissing : MethodName := ⟨R_A, "meetMissing", "(I)V"⟩
abbrev b_A_add : ByteArray := prog_2_method_3_code
def y_A_add : MethodName := ⟨R_A, "add", "(JIIII)I"⟩
abbrev b_P_artefact : ByteArray := prog_1_method_4_code
def y_P_artefact : MethodName := ⟨R_P, "artefact", "(JIIII)I"⟩
abbrev b_A_has : ByteArray := prog_2_method_2_code
def y_A_has : MethodName := ⟨R_A, "has", "(I)Z"⟩
abbrev b_W_contains : ByteArray := prog_5_method_4_code
def y_W_contains : MethodName := ⟨R_W, "contains", "(IJ)Z"⟩
abbrev b_W_append : ByteArray := prog_5_method_3_code
def y_W_append : MethodName := ⟨R_W, "append", "(IJ)Z"⟩
abbrev b_P_uses : ByteArray := prog_1_method_5_code
def y_P_uses : MethodName := ⟨R_P, "uses", "(II)Z"⟩
abbrev b_A_firstOf : ByteArray := prog_2_method_6_code
def y_A_firstOf : MethodName := ⟨R_A, "firstOf", "(J)I"⟩
abbrev b_A_addNeeded : ByteArray := prog_2_method_5_code
def y_A_addNeeded : MethodName := ⟨R_A, "addNeeded", "(IJ)Z"⟩
abbrev b_P_needs : ByteArray := prog_1_method_6_code
def y_P_needs : MethodName := ⟨R_P, "needs", "(IJ)Z"⟩
abbrev b_A_setPath : ByteArray := prog_2_method_14_code
def y_A_setPath : MethodName := ⟨R_A, "setPath", "(IIJ)V"⟩
abbrev b_P_path : ByteArray := prog_1_method_7_code
def y_P_path : MethodName := ⟨R_P, "path", "(IIJ)Z"⟩
abbrev b_Y_add : ByteArray := prog_4_method_3_code
def y_Y_add : MethodName := ⟨R_Y, "add", "(II)I"⟩
abbrev b_P_policy : ByteArray := prog_1_method_8_code
def y_P_policy : MethodName := ⟨R_P, "policy", "(II)I"⟩
abbrev b_P_hasBit : ByteArray := prog_1_method_20_code
def y_P_hasBit : MethodName := ⟨R_P, "hasBit", "(II)Z"⟩
abbrev b_Q_reach : ByteArray := prog_3_method_3_code
def y_Q_reach : MethodName := ⟨R_Q, "reach", "(I)V"⟩
abbrev b_Q_walk : ByteArray := prog_3_method_2_code
def y_Q_walk : MethodName := ⟨R_Q, "walk", "(LProvenanceRows$Artefacts;I)V"⟩
abbrev b_A_usedAt : ByteArray := prog_2_method_8_code
def y_A_usedAt : MethodName := ⟨R_A, "usedAt", "(II)I"⟩
abbrev b_P_usesBranchOutside : ByteArray := prog_1_method_24_code
def y_P_usesBranchOutside : MethodName := ⟨R_P, "usesBranchOutside", "(II)Z"⟩
abbrev b_Ig_bitCount : ByteArray := prog_9_method_49_code
def y_Ig_bitCount : MethodName := ⟨R_Ig, "bitCount", "(I)I"⟩
abbrev b_P_usesReviewedBelow : ByteArray := prog_1_method_25_code
def y_P_usesReviewedBelow : MethodName := ⟨R_P, "usesReviewedBelow", "(II)Z"⟩
abbrev b_P_usesFetchedUntold : ByteArray := prog_1_method_26_code
def y_P_usesFetchedUntold : MethodName := ⟨R_P, "usesFetchedUntold", "(I)Z"⟩
abbrev b_A_missingPlace : ByteArray := prog_2_method_9_code
def y_A_missingPlace : MethodName := ⟨R_A, "missingPlace", "(II)I"⟩
abbrev b_A_needsLaterBy : ByteArray := prog_2_method_10_code
def y_A_needsLaterBy : MethodName := ⟨R_A, "needsLaterBy", "(II)Z"⟩
abbrev b_W_sameInOrder : ByteArray := prog_5_method_5_code
def y_W_sameInOrder : MethodName := ⟨R_W, "sameInOrder", "(II)Z"⟩
abbrev b_A_clashing : ByteArray := prog_2_method_13_code
def y_A_clashing : MethodName := ⟨R_A, "clashing", "(II)Z"⟩
abbrev b_A_clashesWithAny : ByteArray := prog_2_method_12_code
def y_A_clashesWithAny : MethodName := ⟨R_A, "clashesWithAny", "(I)Z"⟩
abbrev b_A_restsOnNothing : ByteArray := prog_2_method_11_code
def y_A_restsOnNothing : MethodName := ⟨R_A, "restsOnNothing", "(I)Z"⟩
abbrev b_P_isBroken : ByteArray := prog_1_method_23_code
def y_P_isBroken : MethodName := ⟨R_P, "isBroken", "(II)Z"⟩
abbrev b_P_firstBrokenBy : ByteArray := prog_1_method_22_code
def y_P_firstBrokenBy : MethodName := ⟨R_P, "firstBrokenBy", "(I)I"⟩
abbrev b_P_verdict : ByteArray := prog_1_method_9_code
def y_P_verdict : MethodName := ⟨R_P, "verdict", "(I)I"⟩
abbrev b_P_culprit : ByteArray := prog_1_method_10_code
def y_P_culprit : MethodName := ⟨R_P, "culprit", "()I"⟩
abbrev b_Y_has : ByteArray := prog_4_method_2_code
def y_Y_has : MethodName := ⟨R_Y, "has", "(I)Z"⟩
abbrev b_P_breaks : ByteArray := prog_1_method_11_code
def y_P_breaks : MethodName := ⟨R_P, "breaks", "(II)Z"⟩
abbrev b_P_closure : ByteArray := prog_1_method_12_code
def y_P_closure : MethodName := ⟨R_P, "closure", "(I)I"⟩
abbrev b_P_at : ByteArray := prog_1_method_13_code
def y_P_at : MethodName := ⟨R_P, "at", "(I)I"⟩
abbrev b_P_usesDigest : ByteArray := prog_1_method_28_code
def y_P_usesDigest : MethodName := ⟨R_P, "usesDigest", "(IJ)Z"⟩
abbrev b_P_restsOn : ByteArray := prog_1_method_27_code
def y_P_restsOn : MethodName := ⟨R_P, "restsOn", "(IJ)Z"⟩
abbrev b_P_holds : ByteArray := prog_1_method_14_code
def y_P_holds : MethodName := ⟨R_P, "holds", "(JI)I"⟩
abbrev b_P_missing : ByteArray := prog_1_method_15_code
def y_P_missing : MethodName := ⟨R_P, "missing", "(II)I"⟩
abbrev b_A_differAtPath : ByteArray := prog_2_method_15_code
def y_A_differAtPath : MethodName := ⟨R_A, "differAtPath", "(III)Z"⟩
abbrev b_P_bitIf : ByteArray := prog_1_method_21_code
def y_P_bitIf : MethodName := ⟨R_P, "bitIf", "(ZI)I"⟩
abbrev b_P_rebuilt : ByteArray := prog_1_method_16_code
def y_P_rebuilt : MethodName := ⟨R_P, "rebuilt", "(II)I"⟩
abbrev b_W_sameAsSets : ByteArray := prog_5_method_6_code
def y_W_sameAsSets : MethodName := ⟨R_W, "sameAsSets", "(II)Z"⟩
abbrev b_P_differ : ByteArray := prog_1_method_17_code
def y_P_differ : MethodName := ⟨R_P, "differ", "(II)I"⟩
abbrev b_P_clash : ByteArray := prog_1_method_18_code
def y_P_clash : MethodName := ⟨R_P, "clash", "(II)I"⟩
abbrev b_M_within : ByteArray := prog_8_method_5_code
def y_M_within : MethodName := ⟨R_M, "within", "(III)Z"⟩
abbrev b_M_source : ByteArray := prog_8_method_6_code
def y_M_source : MethodName := ⟨R_M, "source", "(JII)I"⟩
abbrev b_M_isSource : ByteArray := prog_8_method_4_code
def y_M_isSource : MethodName := ⟨R_M, "isSource", "(I)Z"⟩
abbrev b_M_fetched : ByteArray := prog_8_method_7_code
def y_M_fetched : MethodName := ⟨R_M, "fetched", "(IZ)Z"⟩
abbrev b_M_artefact : ByteArray := prog_8_method_8_code
def y_M_artefact : MethodName := ⟨R_M, "artefact", "(JIIII)I"⟩
abbrev b_M_isArtefact : ByteArray := prog_8_method_3_code
def y_M_isArtefact : MethodName := ⟨R_M, "isArtefact", "(I)Z"⟩
abbrev b_M_hasUse : ByteArray := prog_8_method_9_code
def y_M_hasUse : MethodName := ⟨R_M, "hasUse", "(II)Z"⟩
abbrev b_M_uses : ByteArray := prog_8_method_10_code
def y_M_uses : MethodName := ⟨R_M, "uses", "(II)Z"⟩
abbrev b_M_hasNeed : ByteArray := prog_8_method_11_code
def y_M_hasNeed : MethodName := ⟨R_M, "hasNeed", "(IJ)Z"⟩
abbrev b_M_needs : ByteArray := prog_8_method_12_code
def y_M_needs : MethodName := ⟨R_M, "needs", "(IJ)Z"⟩
abbrev b_M_path : ByteArray := prog_8_method_13_code
def y_M_path : MethodName := ⟨R_M, "path", "(IIJ)Z"⟩
abbrev b_M_policy : ByteArray := prog_8_method_14_code
def y_M_policy : MethodName := ⟨R_M, "policy", "(II)I"⟩
abbrev b_M_come : ByteArray := prog_8_method_16_code
def y_M_come : MethodName := ⟨R_M, "come", "(I)V"⟩
abbrev b_M_meets : ByteArray := prog_8_method_15_code
def y_M_meets : MethodName := ⟨R_M, "meets", "(J)I"⟩
abbrev b_M_goAlong : ByteArray := prog_8_method_17_code
def y_M_goAlong : MethodName := ⟨R_M, "goAlong", "(I)V"⟩
abbrev b_M_closure : ByteArray := prog_8_method_18_code
def y_M_closure : MethodName := ⟨R_M, "closure", "(I)I"⟩
abbrev b_M_at : ByteArray := prog_8_method_19_code
def y_M_at : MethodName := ⟨R_M, "at", "(I)I"⟩
abbrev b_M_holds : ByteArray := prog_8_method_20_code
def y_M_holds : MethodName := ⟨R_M, "holds", "(JI)I"⟩
abbrev b_M_missing : ByteArray := prog_8_method_21_code
def y_M_missing : MethodName := ⟨R_M, "missing", "(II)I"⟩
abbrev b_M_others : ByteArray := prog_8_method_22_code
def y_M_others : MethodName := ⟨R_M, "others", "(II)I"⟩
abbrev b_M_sourceBreaks : ByteArray := prog_8_method_23_code
def y_M_sourceBreaks : MethodName := ⟨R_M, "sourceBreaks", "(III)Z"⟩
abbrev b_M_isLate : ByteArray := prog_8_method_24_code
def y_M_isLate : MethodName := ⟨R_M, "isLate", "(II)Z"⟩
abbrev b_M_agree : ByteArray := prog_8_method_25_code
def y_M_agree : MethodName := ⟨R_M, "agree", "(II)Z"⟩
abbrev b_M_isClash : ByteArray := prog_8_method_26_code
def y_M_isClash : MethodName := ⟨R_M, "isClash", "(II)Z"⟩
abbrev b_M_isBroken : ByteArray := prog_8_method_27_code
def y_M_isBroken : MethodName := ⟨R_M, "isBroken", "(II)Z"⟩
abbrev b_M_breaks : ByteArray := prog_8_method_28_code
def y_M_breaks : MethodName := ⟨R_M, "breaks", "(II)Z"⟩
abbrev b_M_verdict : ByteArray := prog_8_method_29_code
def y_M_verdict : MethodName := ⟨R_M, "verdict", "(I)I"⟩
abbrev b_M_culprit : ByteArray := prog_8_method_30_code
def y_M_culprit : MethodName := ⟨R_M, "culprit", "()I"⟩
abbrev b_M_rebuilt : ByteArray := prog_8_method_31_code
def y_M_rebuilt : MethodName := ⟨R_M, "rebuilt", "(II)I"⟩
abbrev b_M_sameSources : ByteArray := prog_8_method_32_code
def y_M_sameSources : MethodName := ⟨R_M, "sameSources", "(II)Z"⟩
abbrev b_M_sameNeeds : ByteArray := prog_8_method_33_code
def y_M_sameNeeds : MethodName := ⟨R_M, "sameNeeds", "(II)Z"⟩
abbrev b_M_differ : ByteArray := prog_8_method_34_code
def y_M_differ : MethodName := ⟨R_M, "differ", "(II)I"⟩
abbrev b_M_clash : ByteArray := prog_8_method_35_code
def y_M_clash : MethodName := ⟨R_M, "clash", "(II)I"⟩
abbrev b_S_init : ByteArray := prog_6_method_1_code
def y_S_init : MethodName := ⟨R_S, "<init>", "()V"⟩
abbrev b_W_init : ByteArray := prog_5_method_1_code
def y_W_init : MethodName := ⟨R_W, "<init>", "()V"⟩
abbrev b_A_init : ByteArray := prog_2_method_1_code
def y_A_init : MethodName := ⟨R_A, "<init>", "()V"⟩
abbrev b_Y_init : ByteArray := prog_4_method_1_code
def y_Y_init : MethodName := ⟨R_Y, "<init>", "()V"⟩
abbrev b_Q_init : ByteArray := prog_3_method_1_code
def y_Q_init : MethodName := ⟨R_Q, "<init>", "()V"⟩
abbrev b_P_init : ByteArray := prog_1_method_1_code
def y_P_init : MethodName := ⟨R_P, "<init>", "()V"⟩
abbrev b_M_init : ByteArray := prog_8_method_1_code
def y_M_init : MethodName := ⟨R_M, "<init>", "()V"⟩
def zTT : List Cond := lw_tbl.filter goodWord
theorem zmem {w : Cond} (h : w ∈ lw_tbl) (g : goodWord w = true) : w ∈ zTT := List.mem_filter.mpr ⟨h, g⟩
theorem zTT_good : ∀ w ∈ zTT, goodWord w = true := fun w h => (List.mem_filter.mp h).2
theorem zTT_in : ∀ w ∈ zTT, w ∈ lw_tbl := fun w h => (List.mem_filter.mp h).1
theorem zgC {cd : Cond} (h5 : cd ∈ zTT) : GoodIn zTT (cd :: zTT) := z_good zTT_good (fun w hw => by
  rcases List.mem_cons.mp hw with rfl | hw
  · exact h5
  · exact hw)
theorem zgV {own C : String} {idx : Nat} {y : MethodName} {cd : Cond} (h1 : Cond.methodLink own idx y ∈ zTT) (h2 : Cond.instanceMethod y ∈ zTT) (h3 : Cond.selects C y y ∈ zTT) (h4 : Cond.initialized C ∈ zTT) (h5 : cd ∈ zTT) : GoodIn zTT (wsV own idx C y (cd :: zTT)) := z_good zTT_good (fun w hw => by
  rcases List.mem_append.mp hw with hw | hw
  · simp only [List.mem_cons, List.not_mem_nil, or_false] at hw
    rcases hw with rfl | rfl | rfl | rfl
    · exact h1
    · exact h2
    · exact h3
    · exact h4
  · rcases List.mem_cons.mp hw with rfl | hw
    · exact h5
    · exact hw)
theorem zgS {own : String} {idx : Nat} {y : MethodName} {cd : Cond} (h1 : Cond.methodLink own idx y ∈ zTT) (h2 : Cond.static y ∈ zTT) (h4 : Cond.initialized y.cls ∈ zTT) (h5 : cd ∈ zTT) : GoodIn zTT (va_wsS own idx y (cd :: zTT)) := z_good zTT_good (fun w hw => by
  rcases List.mem_append.mp hw with hw | hw
  · simp only [List.mem_cons, List.not_mem_nil, or_false] at hw
    rcases hw with rfl | rfl | rfl
    · exact h1
    · exact h2
    · exact h4
  · rcases List.mem_cons.mp hw with rfl | hw
    · exact h5
    · exact hw)
abbrev zrm (f k : Nat) : Room := { frames := f, cells := 0, slots := 0, locals := k }
theorem i_P : ∀ w ∈ u_ws R_P F_P 7, w ∈ lw_tbl := by decide +kernel
theorem in_P : ∀ w ∈ u_ws R_P F_P 7, w ∈ zTT := fun w h => zmem (i_P w h) ((by decide +kernel : ∀ w ∈ u_ws R_P F_P 7, goodWord w = true) w h)
theorem i_S : ∀ w ∈ u_ws R_S F_S 5, w ∈ lw_tbl := by decide +kernel
theorem in_S : ∀ w ∈ u_ws R_S F_S 5, w ∈ zTT := fun w h => zmem (i_S w h) ((by decide +kernel : ∀ w ∈ u_ws R_S F_S 5, goodWord w = true) w h)
theorem i_A : ∀ w ∈ u_ws R_A F_A 11, w ∈ lw_tbl := by decide +kernel
theorem in_A : ∀ w ∈ u_ws R_A F_A 11, w ∈ zTT := fun w h => zmem (i_A w h) ((by decide +kernel : ∀ w ∈ u_ws R_A F_A 11, goodWord w = true) w h)
theorem i_W : ∀ w ∈ u_ws R_W F_W 2, w ∈ lw_tbl := by decide +kernel
theorem in_W : ∀ w ∈ u_ws R_W F_W 2, w ∈ zTT := fun w h => zmem (i_W w h) ((by decide +kernel : ∀ w ∈ u_ws R_W F_W 2, goodWord w = true) w h)
theorem i_Y : ∀ w ∈ u_ws R_Y F_Y 3, w ∈ lw_tbl := by decide +kernel
theorem in_Y : ∀ w ∈ u_ws R_Y F_Y 3, w ∈ zTT := fun w h => zmem (i_Y w h) ((by decide +kernel : ∀ w ∈ u_ws R_Y F_Y 3, goodWord w = true) w h)
theorem i_Q : ∀ w ∈ u_ws R_Q F_Q 3, w ∈ lw_tbl := by decide +kernel
theorem in_Q : ∀ w ∈ u_ws R_Q F_Q 3, w ∈ zTT := fun w h => zmem (i_Q w h) ((by decide +kernel : ∀ w ∈ u_ws R_Q F_Q 3, goodWord w = true) w h)
theorem i_M : ∀ w ∈ u_ws R_M F_M 27, w ∈ lw_tbl := by decide +kernel
theorem in_M : ∀ w ∈ u_ws R_M F_M 27, w ∈ zTT := fun w h => zmem (i_M w h) ((by decide +kernel : ∀ w ∈ u_ws R_M F_M 27, goodWord w = true) w h)
abbrev zcl : List vw_C := [(R_P, F_P, 7), (R_S, F_S, 5), (R_A, F_A, 11), (R_W, F_W, 2), (R_Y, F_Y, 3), (R_Q, F_Q, 3), (R_M, F_M, 27)]
def zwC (ad : Nat → Nat) (ca : Nat → ClassId) (σ : zS) : va_W := [(ad 0, .inr (0, [.ref (ad 1), .ref (ad 6), .ref (ad 21), .ref (ad 24), .ref (ad 26), .ref (ad 28), .int (σ.1 106 0)])), (ad 1, .inr (1, [.int (σ.1 120 0), .ref (ad 2), .ref (ad 3), .ref (ad 4), .ref (ad 5)])), (ad 2, .inl (ca 2, 24, .inr (.inl (σ.2 2)))), (ad 3, .inl (ca 3, 24, .inl (σ.1 3))), (ad 4, .inl (ca 4, 24, .inl (σ.1 4))), (ad 5, .inl (ca 5, 24, .inl (σ.1 5))), (ad 6, .inr (2, [.int (σ.1 220 0), .ref (ad 7), .ref (ad 8), .ref (ad 9), .ref (ad 10), .ref (ad 11), .ref (ad 12), .ref (ad 15), .ref (ad 18), .ref (ad 19), .ref (ad 20)])), (ad 7, .inl (ca 7, 32, .inr (.inl (σ.2 7)))), (ad 8, .inl (ca 8, 32, .inl (σ.1 8))), (ad 9, .inl (ca 9, 32, .inl (σ.1 9))), (ad 10, .inl (ca 10, 32, .inl (σ.1 10))), (ad 11, .inl (ca 11, 32, .inl (σ.1 11))), (ad 12, .inr (3, [.ref (ad 13), .ref (ad 14)])), (ad 13, .inl (ca 13, 32, .inl (σ.1 13))), (ad 14, .inl (ca 14, 192, .inr (.inl (σ.2 14)))), (ad 15, .inr (3, [.ref (ad 16), .ref (ad 17)])), (ad 16, .inl (ca 16, 32, .inl (σ.1 16))), (ad 17, .inl (ca 17, 192, .inr (.inl (σ.2 17)))), (ad 18, .inl (ca 18, 192, .inl (σ.1 18))), (ad 19, .inl (ca 19, 32, .inl (σ.1 19))), (ad 20, .inl (ca 20, 256, .inr (.inl (σ.2 20)))), (ad 21, .inr (4, [.int (σ.1 520 0), .ref (ad 22), .ref (ad 23)])), (ad 22, .inl (ca 22, 16, .inl (σ.1 22))), (ad 23, .inl (ca 23, 16, .inl (σ.1 23))), (ad 24, .inr (5, [.int (σ.1 580 0), .ref (ad 25), .int (σ.1 582 0)])), (ad 25, .inl (ca 25, 32, .inl (σ.1 25))), (ad 26, .inr (5, [.int (σ.1 620 0), .ref (ad 27), .int (σ.1 622 0)])), (ad 27, .inl (ca 27, 32, .inl (σ.1 27))), (ad 28, .inr (5, [.int (σ.1 660 0), .ref (ad 29), .int (σ.1 662 0)])), (ad 29, .inl (ca 29, 32, .inl (σ.1 29)))]
def zwM (ad : Nat → Nat) (ca : Nat → ClassId) (σ : zS) : va_W := [(ad 30, .inr (6, [.int (σ.1 700 0), .int (σ.1 701 0), .int (σ.1 702 0), .ref (ad 31), .ref (ad 32), .ref (ad 33), .ref (ad 34), .ref (ad 35), .ref (ad 36), .ref (ad 37), .ref (ad 38), .ref (ad 39), .ref (ad 40), .ref (ad 41), .ref (ad 42), .ref (ad 43), .ref (ad 44), .ref (ad 45), .ref (ad 46), .ref (ad 47), .int (σ.1 720 0), .int (σ.1 721 0), .int (σ.1 722 0), .int (σ.1 723 0), .ref (ad 48), .ref (ad 49), .ref (ad 50)])), (ad 31, .inl (ca 31, 24, .inr (.inl (σ.2 31)))), (ad 32, .inl (ca 32, 24, .inl (σ.1 32))), (ad 33, .inl (ca 33, 24, .inl (σ.1 33))), (ad 34, .inl (ca 34, 24, .inl (σ.1 34))), (ad 35, .inl (ca 35, 32, .inr (.inl (σ.2 35)))), (ad 36, .inl (ca 36, 192, .inr (.inl (σ.2 36)))), (ad 37, .inl (ca 37, 256, .inr (.inl (σ.2 37)))), (ad 38, .inl (ca 38, 32, .inl (σ.1 38))), (ad 39, .inl (ca 39, 32, .inl (σ.1 39))), (ad 40, .inl (ca 40, 32, .inl (σ.1 40))), (ad 41, .inl (ca 41, 32, .inl (σ.1 41))), (ad 42, .inl (ca 42, 32, .inl (σ.1 42))), (ad 43, .inl (ca 43, 192, .inl (σ.1 43))), (ad 44, .inl (ca 44, 32, .inl (σ.1 44))), (ad 45, .inl (ca 45, 32, .inl (σ.1 45))), (ad 46, .inl (ca 46, 16, .inl (σ.1 46))), (ad 47, .inl (ca 47, 16, .inl (σ.1 47))), (ad 48, .inl (ca 48, 32, .inl (σ.1 48))), (ad 49, .inl (ca 49, 32, .inl (σ.1 49))), (ad 50, .inl (ca 50, 32, .inl (σ.1 50)))]
def zty (ca : Nat → ClassId) : List (ClassId × FieldType) := [(ca 2, .long), (ca 3, .int), (ca 4, .int), (ca 5, .boolean), (ca 7, .long), (ca 8, .int), (ca 9, .int), (ca 10, .int), (ca 11, .int), (ca 13, .int), (ca 14, .long), (ca 16, .int), (ca 17, .long), (ca 18, .int), (ca 19, .int), (ca 20, .long), (ca 22, .int), (ca 23, .int), (ca 25, .int), (ca 27, .int), (ca 29, .int), (ca 31, .long), (ca 32, .int), (ca 33, .int), (ca 34, .boolean), (ca 35, .long), (ca 36, .long), (ca 37, .long), (ca 38, .int), (ca 39, .int), (ca 40, .int), (ca 41, .int), (ca 42, .int), (ca 43, .int), (ca 44, .int), (ca 45, .int), (ca 46, .int), (ca 47, .int), (ca 48, .int), (ca 49, .int), (ca 50, .int)]
def zNest (U : State) : Prop := va_Nw (.methodLinkNest "ProvenanceRows" 9 y_S_init "ProvenanceRows") U ∧ va_Nw (.methodLinkNest "ProvenanceRows" 18 y_A_init "ProvenanceRows") U ∧ va_Nw (.methodLinkNest "ProvenanceRows$Artefacts" 30 y_W_init "ProvenanceRows") U ∧ va_Nw (.methodLinkNest "ProvenanceRows" 25 y_Y_init "ProvenanceRows") U ∧ va_Nw (.methodLinkNest "ProvenanceRows" 32 y_Q_init "ProvenanceRows") U ∧ va_Nw (.methodLinkNest "ProvenanceRows$Closure" 41 y_P_hasBit "ProvenanceRows") U ∧ va_Nw (.methodLinkNest "ProvenanceRows$Artefacts" 81 y_P_hasBit "ProvenanceRows") U
theorem zNest_w {s U : State} (hW : s.WarmedH U.vm) (h : zNest s) : zNest U := by
  obtain ⟨h0, h1, h2, h3, h4, h5, h6⟩ := h
  exact ⟨va_Nw.warmM hW h0, va_Nw.warmM hW h1, va_Nw.warmM hW h2, va_Nw.warmM hW h3, va_Nw.warmM hW h4, va_Nw.warmM hW h5, va_Nw.warmM hW h6⟩
theorem zNest_c {U : State} (g : JFrame) (mk : MethodId) (a : Array Value) (h : zNest U) : zNest (U.calling g mk a) := by
  obtain ⟨h0, h1, h2, h3, h4, h5, h6⟩ := h
  exact ⟨va_Nw.same rfl rfl h0, va_Nw.same rfl rfl h1, va_Nw.same rfl rfl h2, va_Nw.same rfl rfl h3, va_Nw.same rfl rfl h4, va_Nw.same rfl rfl h5, va_Nw.same rfl rfl h6⟩
def zKK (D : va_G) (ca : Nat → ClassId) (U : State) : Prop := va_K D zcl (zty ca) U ∧ zNest U
theorem zKK_m (D : va_G) (ca : Nat → ClassId) : zKm (zKK D ca) := ⟨fun s U hW h => ⟨va_K.moved hW.alike h.1, zNest_w hW h.2⟩, fun U g mk a h => ⟨va_K.moved (u := U) (U := U.calling g mk a) (Vm.Alike.refl U.vm) h.1, zNest_c g mk a h.2⟩⟩
def zK0 (D : va_G) (U : State) : Prop := va_K D zcl [] U ∧ zNest U
theorem zK0_m (D : va_G) : zKm (zK0 D) := ⟨fun s U hW h => ⟨va_K.moved hW.alike h.1, zNest_w hW h.2⟩, fun U g mk a h => ⟨va_K.moved (u := U) (U := U.calling g mk a) (Vm.Alike.refl U.vm) h.1, zNest_c g mk a h.2⟩⟩
def zn_S (h0 : Nat) (u : (Nat → Nat) × (Nat → ClassId)) : va_W := [(h0, .inr (1, [.int 0, .ref (u.1 1), .ref (u.1 2), .ref (u.1 3), .ref (u.1 4)])), ((u.1 1), .inl (u.2 1, 24, .inr (.inl (fun _ => 0)))), ((u.1 2), .inl (u.2 2, 24, .inl (fun _ => 0))), ((u.1 3), .inl (u.2 3, 24, .inl (fun _ => 0))), ((u.1 4), .inl (u.2 4, 24, .inl (fun _ => 0)))]
def zt_S (u : (Nat → Nat) × (Nat → ClassId)) : List (ClassId × FieldType) := [(u.2 1, .long), (u.2 2, .int), (u.2 3, .int), (u.2 4, .boolean)]
def zn_W (h0 : Nat) (u : (Nat → Nat) × (Nat → ClassId)) : va_W := [(h0, .inr (3, [.ref (u.1 1), .ref (u.1 2)])), ((u.1 1), .inl (u.2 1, 32, .inl (fun _ => 0))), ((u.1 2), .inl (u.2 2, 192, .inr (.inl (fun _ => 0))))]
def zt_W (u : (Nat → Nat) × (Nat → ClassId)) : List (ClassId × FieldType) := [(u.2 1, .int), (u.2 2, .long)]
def zn_A (h0 : Nat) (u : (Nat → Nat) × (Nat → ClassId)) : va_W := [(h0, .inr (2, [.int 0, .ref (u.1 1), .ref (u.1 2), .ref (u.1 3), .ref (u.1 4), .ref (u.1 5), .ref (u.1 6), .ref (u.1 9), .ref (u.1 12), .ref (u.1 13), .ref (u.1 14)])), ((u.1 1), .inl (u.2 1, 32, .inr (.inl (fun _ => 0)))), ((u.1 2), .inl (u.2 2, 32, .inl (fun _ => 0))), ((u.1 3), .inl (u.2 3, 32, .inl (fun _ => 0))), ((u.1 4), .inl (u.2 4, 32, .inl (fun _ => 0))), ((u.1 5), .inl (u.2 5, 32, .inl (fun _ => 0))), ((u.1 6), .inr (3, [.ref (u.1 7), .ref (u.1 8)])), ((u.1 7), .inl (u.2 7, 32, .inl (fun _ => 0))), ((u.1 8), .inl (u.2 8, 192, .inr (.inl (fun _ => 0)))), ((u.1 9), .inr (3, [.ref (u.1 10), .ref (u.1 11)])), ((u.1 10), .inl (u.2 10, 32, .inl (fun _ => 0))), ((u.1 11), .inl (u.2 11, 192, .inr (.inl (fun _ => 0)))), ((u.1 12), .inl (u.2 12, 192, .inl (fun _ => 0))), ((u.1 13), .inl (u.2 13, 32, .inl (fun _ => 0))), ((u.1 14), .inl (u.2 14, 256, .inr (.inl (fun _ => 0))))]
def zt_A (u : (Nat → Nat) × (Nat → ClassId)) : List (ClassId × FieldType) := [(u.2 1, .long), (u.2 2, .int), (u.2 3, .int), (u.2 4, .int), (u.2 5, .int), (u.2 7, .int), (u.2 8, .long), (u.2 10, .int), (u.2 11, .long), (u.2 12, .int), (u.2 13, .int), (u.2 14, .long)]
def zn_Y (h0 : Nat) (u : (Nat → Nat) × (Nat → ClassId)) : va_W := [(h0, .inr (4, [.int 0, .ref (u.1 1), .ref (u.1 2)])), ((u.1 1), .inl (u.2 1, 16, .inl (fun _ => 0))), ((u.1 2), .inl (u.2 2, 16, .inl (fun _ => 0)))]
def zt_Y (u : (Nat → Nat) × (Nat → ClassId)) : List (ClassId × FieldType) := [(u.2 1, .int), (u.2 2, .int)]
def zn_Q (h0 : Nat) (u : (Nat → Nat) × (Nat → ClassId)) : va_W := [(h0, .inr (5, [.int 0, .ref (u.1 1), .int 0])), ((u.1 1), .inl (u.2 1, 32, .inl (fun _ => 0)))]
def zt_Q (u : (Nat → Nat) × (Nat → ClassId)) : List (ClassId × FieldType) := [(u.2 1, .int)]
def zn_P (h0 : Nat) (u : (Nat → Nat) × (Nat → ClassId)) : va_W := [(h0, .inr (0, [.ref (u.1 1), .ref (u.1 6), .ref (u.1 21), .ref (u.1 24), .ref (u.1 26), .ref (u.1 28), .int (-1)])), ((u.1 1), .inr (1, [.int 0, .ref (u.1 2), .ref (u.1 3), .ref (u.1 4), .ref (u.1 5)])), ((u.1 2), .inl (u.2 2, 24, .inr (.inl (fun _ => 0)))), ((u.1 3), .inl (u.2 3, 24, .inl (fun _ => 0))), ((u.1 4), .inl (u.2 4, 24, .inl (fun _ => 0))), ((u.1 5), .inl (u.2 5, 24, .inl (fun _ => 0))), ((u.1 6), .inr (2, [.int 0, .ref (u.1 7), .ref (u.1 8), .ref (u.1 9), .ref (u.1 10), .ref (u.1 11), .ref (u.1 12), .ref (u.1 15), .ref (u.1 18), .ref (u.1 19), .ref (u.1 20)])), ((u.1 7), .inl (u.2 7, 32, .inr (.inl (fun _ => 0)))), ((u.1 8), .inl (u.2 8, 32, .inl (fun _ => 0))), ((u.1 9), .inl (u.2 9, 32, .inl (fun _ => 0))), ((u.1 10), .inl (u.2 10, 32, .inl (fun _ => 0))), ((u.1 11), .inl (u.2 11, 32, .inl (fun _ => 0))), ((u.1 12), .inr (3, [.ref (u.1 13), .ref (u.1 14)])), ((u.1 13), .inl (u.2 13, 32, .inl (fun _ => 0))), ((u.1 14), .inl (u.2 14, 192, .inr (.inl (fun _ => 0)))), ((u.1 15), .inr (3, [.ref (u.1 16), .ref (u.1 17)])), ((u.1 16), .inl (u.2 16, 32, .inl (fun _ => 0))), ((u.1 17), .inl (u.2 17, 192, .inr (.inl (fun _ => 0)))), ((u.1 18), .inl (u.2 18, 192, .inl (fun _ => 0))), ((u.1 19), .inl (u.2 19, 32, .inl (fun _ => 0))), ((u.1 20), .inl (u.2 20, 256, .inr (.inl (fun _ => 0)))), ((u.1 21), .inr (4, [.int 0, .ref (u.1 22), .ref (u.1 23)])), ((u.1 22), .inl (u.2 22, 16, .inl (fun _ => 0))), ((u.1 23), .inl (u.2 23, 16, .inl (fun _ => 0))), ((u.1 24), .inr (5, [.int 0, .ref (u.1 25), .int 0])), ((u.1 25), .inl (u.2 25, 32, .inl (fun _ => 0))), ((u.1 26), .inr (5, [.int 0, .ref (u.1 27), .int 0])), ((u.1 27), .inl (u.2 27, 32, .inl (fun _ => 0))), ((u.1 28), .inr (5, [.int 0, .ref (u.1 29), .int 0])), ((u.1 29), .inl (u.2 29, 32, .inl (fun _ => 0)))]
def zt_P (u : (Nat → Nat) × (Nat → ClassId)) : List (ClassId × FieldType) := [(u.2 2, .long), (u.2 3, .int), (u.2 4, .int), (u.2 5, .boolean), (u.2 7, .long), (u.2 8, .int), (u.2 9, .int), (u.2 10, .int), (u.2 11, .int), (u.2 13, .int), (u.2 14, .long), (u.2 16, .int), (u.2 17, .long), (u.2 18, .int), (u.2 19, .int), (u.2 20, .long), (u.2 22, .int), (u.2 23, .int), (u.2 25, .int), (u.2 27, .int), (u.2 29, .int)]
def zn_M (h0 : Nat) (u : (Nat → Nat) × (Nat → ClassId)) : va_W := [(h0, .inr (6, [.int 0, .int 0, .int 0, .ref (u.1 1), .ref (u.1 2), .ref (u.1 3), .ref (u.1 4), .ref (u.1 5), .ref (u.1 6), .ref (u.1 7), .ref (u.1 8), .ref (u.1 9), .ref (u.1 10), .ref (u.1 11), .ref (u.1 12), .ref (u.1 13), .ref (u.1 14), .ref (u.1 15), .ref (u.1 16), .ref (u.1 17), .int (-1), .int 0, .int 0, .int 0, .ref (u.1 18), .ref (u.1 19), .ref (u.1 20)])), ((u.1 1), .inl (u.2 1, 24, .inr (.inl (fun _ => 0)))), ((u.1 2), .inl (u.2 2, 24, .inl (fun _ => 0))), ((u.1 3), .inl (u.2 3, 24, .inl (fun _ => 0))), ((u.1 4), .inl (u.2 4, 24, .inl (fun _ => 0))), ((u.1 5), .inl (u.2 5, 32, .inr (.inl (fun _ => 0)))), ((u.1 6), .inl (u.2 6, 192, .inr (.inl (fun _ => 0)))), ((u.1 7), .inl (u.2 7, 256, .inr (.inl (fun _ => 0)))), ((u.1 8), .inl (u.2 8, 32, .inl (fun _ => 0))), ((u.1 9), .inl (u.2 9, 32, .inl (fun _ => 0))), ((u.1 10), .inl (u.2 10, 32, .inl (fun _ => 0))), ((u.1 11), .inl (u.2 11, 32, .inl (fun _ => 0))), ((u.1 12), .inl (u.2 12, 32, .inl (fun _ => 0))), ((u.1 13), .inl (u.2 13, 192, .inl (fun _ => 0))), ((u.1 14), .inl (u.2 14, 32, .inl (fun _ => 0))), ((u.1 15), .inl (u.2 15, 32, .inl (fun _ => 0))), ((u.1 16), .inl (u.2 16, 16, .inl (fun _ => 0))), ((u.1 17), .inl (u.2 17, 16, .inl (fun _ => 0))), ((u.1 18), .inl (u.2 18, 32, .inl (fun _ => 0))), ((u.1 19), .inl (u.2 19, 32, .inl (fun _ => 0))), ((u.1 20), .inl (u.2 20, 32, .inl (fun _ => 0)))]
def zt_M (u : (Nat → Nat) × (Nat → ClassId)) : List (ClassId × FieldType) := [(u.2 1, .long), (u.2 2, .int), (u.2 3, .int), (u.2 4, .boolean), (u.2 5, .long), (u.2 6, .long), (u.2 7, .long), (u.2 8, .int), (u.2 9, .int), (u.2 10, .int), (u.2 11, .int), (u.2 12, .int), (u.2 13, .int), (u.2 14, .int), (u.2 15, .int), (u.2 16, .int), (u.2 17, .int), (u.2 18, .int), (u.2 19, .int), (u.2 20, .int)]
end
section
theorem w_field_P_10_P_0 : Cond.fieldLink R_P 10 (F_P 0).1 (F_P 0).2.1 (F_P 0).2.2.1 ∈ zTT := zmem (List.mem_of_getElem? (i := 174) (by decide +kernel)) rfl
theorem w_const_P_51_65535 : Cond.constant R_P 51 65535 ∈ zTT := zmem (List.mem_of_getElem? (i := 203) (by decide +kernel)) rfl
theorem w_field_S_26_S_0 : Cond.fieldLink R_S 26 (F_S 0).1 (F_S 0).2.1 (F_S 0).2.2.1 ∈ zTT := zmem (List.mem_of_getElem? (i := 49) (by decide +kernel)) rfl
theorem w_field_S_9_S_1 : Cond.fieldLink R_S 9 (F_S 1).1 (F_S 1).2.1 (F_S 1).2.2.1 ∈ zTT := zmem (List.mem_of_getElem? (i := 50) (by decide +kernel)) rfl
theorem w_field_S_15_S_2 : Cond.fieldLink R_S 15 (F_S 2).1 (F_S 2).2.1 (F_S 2).2.2.1 ∈ zTT := zmem (List.mem_of_getElem? (i := 52) (by decide +kernel)) rfl
theorem w_field_S_19_S_3 : Cond.fieldLink R_S 19 (F_S 3).1 (F_S 3).2.1 (F_S 3).2.2.1 ∈ zTT := zmem (List.mem_of_getElem? (i := 54) (by decide +kernel)) rfl
theorem w_mlink_P_52 : Cond.methodLink R_P 52 y_S_add ∈ zTT := zmem (List.mem_of_getElem? (i := 204) (by decide +kernel)) rfl
theorem w_imeth_S_add : Cond.instanceMethod y_S_add ∈ zTT := zmem (List.mem_of_getElem? (i := 205) (by decide +kernel)) rfl
theorem w_sel_S_add : Cond.selects R_S y_S_add y_S_add ∈ zTT := zmem (List.mem_of_getElem? (i := 206) (by decide +kernel)) rfl
theorem w_init_S : Cond.initialized R_S ∈ zTT := zmem (List.mem_of_getElem? (i := 28) (by decide +kernel)) rfl
set_option maxRecDepth 100000 in
theorem w_code_S_add : Cond.code y_S_add b_S_add 6 (some .int) ∈ zTT := zmem (List.mem_of_getElem? (i := 207) rfl) rfl
theorem w_mlink_P_47 : Cond.methodLink R_P 47 y_P_isUpTo ∈ zTT := zmem (List.mem_of_getElem? (i := 200) (by decide +kernel)) rfl
theorem w_stat_P_isUpTo : Cond.static y_P_isUpTo ∈ zTT := zmem (List.mem_of_getElem? (i := 201) (by decide +kernel)) rfl
theorem w_init_P : Cond.initialized R_P ∈ zTT := zmem (List.mem_of_getElem? (i := 27) (by decide +kernel)) rfl
set_option maxRecDepth 100000 in
theorem w_code_P_isUpTo : Cond.code y_P_isUpTo b_P_isUpTo 2 (some .boolean) ∈ zTT := zmem (List.mem_of_getElem? (i := 202) rfl) rfl
theorem w_field_P_60_S_4 : Cond.fieldLink R_P 60 (F_S 4).1 (F_S 4).2.1 (F_S 4).2.2.1 ∈ zTT := zmem (List.mem_of_getElem? (i := 57) (by decide +kernel)) rfl
theorem w_mlink_P_56 : Cond.methodLink R_P 56 y_S_has ∈ zTT := zmem (List.mem_of_getElem? (i := 212) (by decide +kernel)) rfl
theorem w_imeth_S_has : Cond.instanceMethod y_S_has ∈ zTT := zmem (List.mem_of_getElem? (i := 213) (by decide +kernel)) rfl
theorem w_sel_S_has : Cond.selects R_S y_S_has y_S_has ∈ zTT := zmem (List.mem_of_getElem? (i := 214) (by decide +kernel)) rfl
set_option maxRecDepth 100000 in
theorem w_code_S_has : Cond.code y_S_has b_S_has 2 (some .boolean) ∈ zTT := zmem (List.mem_of_getElem? (i := 215) rfl) rfl
theorem w_const_P_64_1000000000 : Cond.constant R_P 64 1000000000 ∈ zTT := zmem (List.mem_of_getElem? (i := 220) (by decide +kernel)) rfl
theorem w_field_P_19_P_1 : Cond.fieldLink R_P 19 (F_P 1).1 (F_P 1).2.1 (F_P 1).2.2.1 ∈ zTT := zmem (List.mem_of_getElem? (i := 175) (by decide +kernel)) rfl
theorem w_field_A_47_A_0 : Cond.fieldLink R_A 47 (F_A 0).1 (F_A 0).2.1 (F_A 0).2.2.1 ∈ zTT := zmem (List.mem_of_getElem? (i := 94) (by decide +kernel)) rfl
theorem w_field_A_9_A_1 : Cond.fieldLink R_A 9 (F_A 1).1 (F_A 1).2.1 (F_A 1).2.2.1 ∈ zTT := zmem (List.mem_of_getElem? (i := 96) (by decide +kernel)) rfl
theorem w_field_A_15_A_2 : Cond.fieldLink R_A 15 (F_A 2).1 (F_A 2).2.1 (F_A 2).2.2.1 ∈ zTT := zmem (List.mem_of_getElem? (i := 98) (by decide +kernel)) rfl
theorem w_field_A_19_A_3 : Cond.fieldLink R_A 19 (F_A 3).1 (F_A 3).2.1 (F_A 3).2.2.1 ∈ zTT := zmem (List.mem_of_getElem? (i := 100) (by decide +kernel)) rfl
theorem w_field_A_22_A_4 : Cond.fieldLink R_A 22 (F_A 4).1 (F_A 4).2.1 (F_A 4).2.2.1 ∈ zTT := zmem (List.mem_of_getElem? (i := 102) (by decide +kernel)) rfl
theorem w_field_A_25_A_5 : Cond.fieldLink R_A 25 (F_A 5).1 (F_A 5).2.1 (F_A 5).2.2.1 ∈ zTT := zmem (List.mem_of_getElem? (i := 104) (by decide +kernel)) rfl
theorem w_field_A_35_A_7 : Cond.fieldLink R_A 35 (F_A 7).1 (F_A 7).2.1 (F_A 7).2.2.1 ∈ zTT := zmem (List.mem_of_getElem? (i := 108) (by decide +kernel)) rfl
theorem w_field_A_55_W_0 : Cond.fieldLink R_A 55 (F_W 0).1 (F_W 0).2.1 (F_W 0).2.2.1 ∈ zTT := zmem (List.mem_of_getElem? (i := 86) (by decide +kernel)) rfl
theorem w_field_W_15_W_1 : Cond.fieldLink R_W 15 (F_W 1).1 (F_W 1).2.1 (F_W 1).2.2.1 ∈ zTT := zmem (List.mem_of_getElem? (i := 88) (by decide +kernel)) rfl
theorem w_mlink_A_58 : Cond.methodLink R_A 58 y_W_valueAt ∈ zTT := zmem (List.mem_of_getElem? (i := 229) (by decide +kernel)) rfl
theorem w_imeth_W_valueAt : Cond.instanceMethod y_W_valueAt ∈ zTT := zmem (List.mem_of_getElem? (i := 230) (by decide +kernel)) rfl
theorem w_sel_W_valueAt : Cond.selects R_W y_W_valueAt y_W_valueAt ∈ zTT := zmem (List.mem_of_getElem? (i := 231) (by decide +kernel)) rfl
theorem w_init_W : Cond.initialized R_W ∈ zTT := zmem (List.mem_of_getElem? (i := 30) (by decide +kernel)) rfl
set_option maxRecDepth 100000 in
theorem w_code_W_valueAt : Cond.code y_W_valueAt b_W_valueAt 3 (some .long) ∈ zTT := zmem (List.mem_of_getElem? (i := 232) rfl) rfl
theorem w_field_A_38_A_8 : Cond.fieldLink R_A 38 (F_A 8).1 (F_A 8).2.1 (F_A 8).2.2.1 ∈ zTT := zmem (List.mem_of_getElem? (i := 111) (by decide +kernel)) rfl
theorem w_mlink_A_62 : Cond.methodLink R_A 62 y_A_metByAt ∈ zTT := zmem (List.mem_of_getElem? (i := 233) (by decide +kernel)) rfl
theorem w_imeth_A_metByAt : Cond.instanceMethod y_A_metByAt ∈ zTT := zmem (List.mem_of_getElem? (i := 234) (by decide +kernel)) rfl
theorem w_sel_A_metByAt : Cond.selects R_A y_A_metByAt y_A_metByAt ∈ zTT := zmem (List.mem_of_getElem? (i := 235) (by decide +kernel)) rfl
theorem w_init_A : Cond.initialized R_A ∈ zTT := zmem (List.mem_of_getElem? (i := 29) (by decide +kernel)) rfl
set_option maxRecDepth 100000 in
theorem w_code_A_metByAt : Cond.code y_A_metByAt b_A_metByAt 3 (some .int) ∈ zTT := zmem (List.mem_of_getElem? (i := 236) rfl) rfl
theorem w_mlink_A_51 : Cond.methodLink R_A 51 y_A_meetMissing ∈ zTT := zmem (List.mem_of_getElem? (i := 225) (by decide +kernel)) rfl
theorem w_imeth_A_meetMissing : Cond.instanceMethod y_A_meetMissing ∈ zTT := zmem (List.mem_of_getElem? (i := 227) (by decide +kernel)) rfl
theorem w_sel_A_meetMissing : Cond.selects R_A y_A_meetMissing y_A_meetMissing ∈ zTT := zmem (List.mem_of_getElem? (i := 0) (by decide +kernel)) rfl
set_option maxRecDepth 100000 in
theorem w_code_A_meetMissing : Cond.code y_A_meetMissing b_A_meetMissing 5 none ∈ zTT := zmem (List.mem_of_getElem? (i := 228) rfl) rfl
theorem w_mlink_P_65 : Cond.methodLink R_P 65 y_A_add ∈ zTT := zmem (List.mem_of_getElem? (i := 221) (by decide +kernel)) rfl
theorem w_imeth_A_add : Cond.instanceMethod y_A_add ∈ zTT := zmem (List.mem_of_getElem? (i := 222) (by decide +kernel)) rfl
theorem w_sel_A_add : Cond.selects R_A y_A_add y_A_add ∈ zTT := zmem (List.mem_of_getElem? (i := 223) (by decide +kernel)) rfl
set_option maxRecDepth 100000 in
theorem w_code_A_add : Cond.code y_A_add b_A_add 8 (some .int) ∈ zTT := zmem (List.mem_of_getElem? (i := 224) rfl) rfl
theorem w_field_P_69_A_6 : Cond.fieldLink R_P 69 (F_A 6).1 (F_A 6).2.1 (F_A 6).2.2.1 ∈ zTT := zmem (List.mem_of_getElem? (i := 107) (by decide +kernel)) rfl
theorem w_field_W_9_W_0 : Cond.fieldLink R_W 9 (F_W 0).1 (F_W 0).2.1 (F_W 0).2.2.1 ∈ zTT := zmem (List.mem_of_getElem? (i := 84) (by decide +kernel)) rfl
theorem w_mlink_W_23 : Cond.methodLink R_W 23 y_W_valueAt ∈ zTT := zmem (List.mem_of_getElem? (i := 253) (by decide +kernel)) rfl
theorem w_mlink_W_19 : Cond.methodLink R_W 19 y_W_contains ∈ zTT := zmem (List.mem_of_getElem? (i := 249) (by decide +kernel)) rfl
theorem w_imeth_W_contains : Cond.instanceMethod y_W_contains ∈ zTT := zmem (List.mem_of_getElem? (i := 251) (by decide +kernel)) rfl
theorem w_sel_W_contains : Cond.selects R_W y_W_contains y_W_contains ∈ zTT := zmem (List.mem_of_getElem? (i := 1) (by decide +kernel)) rfl
set_option maxRecDepth 100000 in
theorem w_code_W_contains : Cond.code y_W_contains b_W_contains 5 (some .boolean) ∈ zTT := zmem (List.mem_of_getElem? (i := 252) rfl) rfl
theorem w_mlink_P_73 : Cond.methodLink R_P 73 y_W_append ∈ zTT := zmem (List.mem_of_getElem? (i := 245) (by decide +kernel)) rfl
theorem w_imeth_W_append : Cond.instanceMethod y_W_append ∈ zTT := zmem (List.mem_of_getElem? (i := 246) (by decide +kernel)) rfl
theorem w_sel_W_append : Cond.selects R_W y_W_append y_W_append ∈ zTT := zmem (List.mem_of_getElem? (i := 247) (by decide +kernel)) rfl
set_option maxRecDepth 100000 in
theorem w_code_W_append : Cond.code y_W_append b_W_append 4 (some .boolean) ∈ zTT := zmem (List.mem_of_getElem? (i := 248) rfl) rfl
theorem w_mlink_P_68 : Cond.methodLink R_P 68 y_A_has ∈ zTT := zmem (List.mem_of_getElem? (i := 241) (by decide +kernel)) rfl
theorem w_imeth_A_has : Cond.instanceMethod y_A_has ∈ zTT := zmem (List.mem_of_getElem? (i := 242) (by decide +kernel)) rfl
theorem w_sel_A_has : Cond.selects R_A y_A_has y_A_has ∈ zTT := zmem (List.mem_of_getElem? (i := 243) (by decide +kernel)) rfl
set_option maxRecDepth 100000 in
theorem w_code_A_has : Cond.code y_A_has b_A_has 2 (some .boolean) ∈ zTT := zmem (List.mem_of_getElem? (i := 244) rfl) rfl
theorem w_mlink_A_70 : Cond.methodLink R_A 70 y_A_firstOf ∈ zTT := zmem (List.mem_of_getElem? (i := 263) (by decide +kernel)) rfl
theorem w_imeth_A_firstOf : Cond.instanceMethod y_A_firstOf ∈ zTT := zmem (List.mem_of_getElem? (i := 265) (by decide +kernel)) rfl
theorem w_sel_A_firstOf : Cond.selects R_A y_A_firstOf y_A_firstOf ∈ zTT := zmem (List.mem_of_getElem? (i := 2) (by decide +kernel)) rfl
set_option maxRecDepth 100000 in
theorem w_code_A_firstOf : Cond.code y_A_firstOf b_A_firstOf 4 (some .int) ∈ zTT := zmem (List.mem_of_getElem? (i := 266) rfl) rfl
theorem w_mlink_A_66 : Cond.methodLink R_A 66 y_W_append ∈ zTT := zmem (List.mem_of_getElem? (i := 262) (by decide +kernel)) rfl
theorem w_mlink_P_79 : Cond.methodLink R_P 79 y_A_addNeeded ∈ zTT := zmem (List.mem_of_getElem? (i := 258) (by decide +kernel)) rfl
theorem w_imeth_A_addNeeded : Cond.instanceMethod y_A_addNeeded ∈ zTT := zmem (List.mem_of_getElem? (i := 259) (by decide +kernel)) rfl
theorem w_sel_A_addNeeded : Cond.selects R_A y_A_addNeeded y_A_addNeeded ∈ zTT := zmem (List.mem_of_getElem? (i := 260) (by decide +kernel)) rfl
set_option maxRecDepth 100000 in
theorem w_code_A_addNeeded : Cond.code y_A_addNeeded b_A_addNeeded 5 (some .boolean) ∈ zTT := zmem (List.mem_of_getElem? (i := 261) rfl) rfl
theorem w_field_A_41_A_9 : Cond.fieldLink R_A 41 (F_A 9).1 (F_A 9).2.1 (F_A 9).2.2.1 ∈ zTT := zmem (List.mem_of_getElem? (i := 112) (by decide +kernel)) rfl
theorem w_field_A_44_A_10 : Cond.fieldLink R_A 44 (F_A 10).1 (F_A 10).2.1 (F_A 10).2.2.1 ∈ zTT := zmem (List.mem_of_getElem? (i := 113) (by decide +kernel)) rfl
theorem w_mlink_P_82 : Cond.methodLink R_P 82 y_A_setPath ∈ zTT := zmem (List.mem_of_getElem? (i := 271) (by decide +kernel)) rfl
theorem w_imeth_A_setPath : Cond.instanceMethod y_A_setPath ∈ zTT := zmem (List.mem_of_getElem? (i := 272) (by decide +kernel)) rfl
theorem w_sel_A_setPath : Cond.selects R_A y_A_setPath y_A_setPath ∈ zTT := zmem (List.mem_of_getElem? (i := 273) (by decide +kernel)) rfl
set_option maxRecDepth 100000 in
theorem w_code_A_setPath : Cond.code y_A_setPath b_A_setPath 5 none ∈ zTT := zmem (List.mem_of_getElem? (i := 274) rfl) rfl
theorem w_field_P_26_P_2 : Cond.fieldLink R_P 26 (F_P 2).1 (F_P 2).2.1 (F_P 2).2.2.1 ∈ zTT := zmem (List.mem_of_getElem? (i := 176) (by decide +kernel)) rfl
theorem w_field_Y_18_Y_0 : Cond.fieldLink R_Y 18 (F_Y 0).1 (F_Y 0).2.1 (F_Y 0).2.2.1 ∈ zTT := zmem (List.mem_of_getElem? (i := 143) (by decide +kernel)) rfl
theorem w_field_Y_9_Y_1 : Cond.fieldLink R_Y 9 (F_Y 1).1 (F_Y 1).2.1 (F_Y 1).2.2.1 ∈ zTT := zmem (List.mem_of_getElem? (i := 145) (by decide +kernel)) rfl
theorem w_field_Y_15_Y_2 : Cond.fieldLink R_Y 15 (F_Y 2).1 (F_Y 2).2.1 (F_Y 2).2.2.1 ∈ zTT := zmem (List.mem_of_getElem? (i := 147) (by decide +kernel)) rfl
theorem w_mlink_P_86 : Cond.methodLink R_P 86 y_Y_add ∈ zTT := zmem (List.mem_of_getElem? (i := 279) (by decide +kernel)) rfl
theorem w_imeth_Y_add : Cond.instanceMethod y_Y_add ∈ zTT := zmem (List.mem_of_getElem? (i := 280) (by decide +kernel)) rfl
theorem w_sel_Y_add : Cond.selects R_Y y_Y_add y_Y_add ∈ zTT := zmem (List.mem_of_getElem? (i := 281) (by decide +kernel)) rfl
theorem w_init_Y : Cond.initialized R_Y ∈ zTT := zmem (List.mem_of_getElem? (i := 31) (by decide +kernel)) rfl
set_option maxRecDepth 100000 in
theorem w_code_Y_add : Cond.code y_Y_add b_Y_add 4 (some .int) ∈ zTT := zmem (List.mem_of_getElem? (i := 282) rfl) rfl
theorem w_field_P_37_P_4 : Cond.fieldLink R_P 37 (F_P 4).1 (F_P 4).2.1 (F_P 4).2.2.1 ∈ zTT := zmem (List.mem_of_getElem? (i := 178) (by decide +kernel)) rfl
theorem w_field_Q_15_Q_0 : Cond.fieldLink R_Q 15 (F_Q 0).1 (F_Q 0).2.1 (F_Q 0).2.2.1 ∈ zTT := zmem (List.mem_of_getElem? (i := 162) (by decide +kernel)) rfl
theorem w_field_Q_19_Q_2 : Cond.fieldLink R_Q 19 (F_Q 2).1 (F_Q 2).2.1 (F_Q 2).2.2.1 ∈ zTT := zmem (List.mem_of_getElem? (i := 166) (by decide +kernel)) rfl
theorem w_field_Q_9_Q_1 : Cond.fieldLink R_Q 9 (F_Q 1).1 (F_Q 1).2.1 (F_Q 1).2.2.1 ∈ zTT := zmem (List.mem_of_getElem? (i := 164) (by decide +kernel)) rfl
set_option maxRecDepth 100000 in
theorem w_code_P_hasBit : Cond.code y_P_hasBit b_P_hasBit 2 (some .boolean) ∈ zTT := zmem (List.mem_of_getElem? (i := 297) rfl) rfl
theorem w_stat_P_hasBit : Cond.static y_P_hasBit ∈ zTT := zmem (List.mem_of_getElem? (i := 296) (by decide +kernel)) rfl
theorem w_mlink_Q_22 : Cond.methodLink R_Q 22 y_Q_reach ∈ zTT := zmem (List.mem_of_getElem? (i := 291) (by decide +kernel)) rfl
theorem w_imeth_Q_reach : Cond.instanceMethod y_Q_reach ∈ zTT := zmem (List.mem_of_getElem? (i := 293) (by decide +kernel)) rfl
theorem w_sel_Q_reach : Cond.selects R_Q y_Q_reach y_Q_reach ∈ zTT := zmem (List.mem_of_getElem? (i := 3) (by decide +kernel)) rfl
theorem w_init_Q : Cond.initialized R_Q ∈ zTT := zmem (List.mem_of_getElem? (i := 32) (by decide +kernel)) rfl
set_option maxRecDepth 100000 in
theorem w_code_Q_reach : Cond.code y_Q_reach b_Q_reach 2 none ∈ zTT := zmem (List.mem_of_getElem? (i := 294) rfl) rfl
theorem w_field_Q_26_A_7 : Cond.fieldLink R_Q 26 (F_A 7).1 (F_A 7).2.1 (F_A 7).2.2.1 ∈ zTT := zmem (List.mem_of_getElem? (i := 109) (by decide +kernel)) rfl
theorem w_field_Q_32_W_0 : Cond.fieldLink R_Q 32 (F_W 0).1 (F_W 0).2.1 (F_W 0).2.2.1 ∈ zTT := zmem (List.mem_of_getElem? (i := 85) (by decide +kernel)) rfl
theorem w_mlink_Q_37 : Cond.methodLink R_Q 37 y_A_metByAt ∈ zTT := zmem (List.mem_of_getElem? (i := 298) (by decide +kernel)) rfl
theorem w_mlink_P_89 : Cond.methodLink R_P 89 y_Q_walk ∈ zTT := zmem (List.mem_of_getElem? (i := 287) (by decide +kernel)) rfl
theorem w_imeth_Q_walk : Cond.instanceMethod y_Q_walk ∈ zTT := zmem (List.mem_of_getElem? (i := 288) (by decide +kernel)) rfl
theorem w_sel_Q_walk : Cond.selects R_Q y_Q_walk y_Q_walk ∈ zTT := zmem (List.mem_of_getElem? (i := 289) (by decide +kernel)) rfl
set_option maxRecDepth 100000 in
theorem w_code_Q_walk : Cond.code y_Q_walk b_Q_walk 6 none ∈ zTT := zmem (List.mem_of_getElem? (i := 290) rfl) rfl
theorem w_field_P_93_Q_0 : Cond.fieldLink R_P 93 (F_Q 0).1 (F_Q 0).2.1 (F_Q 0).2.2.1 ∈ zTT := zmem (List.mem_of_getElem? (i := 163) (by decide +kernel)) rfl
theorem w_field_P_96_Q_1 : Cond.fieldLink R_P 96 (F_Q 1).1 (F_Q 1).2.1 (F_Q 1).2.2.1 ∈ zTT := zmem (List.mem_of_getElem? (i := 165) (by decide +kernel)) rfl
theorem w_field_P_148_Y_0 : Cond.fieldLink R_P 148 (F_Y 0).1 (F_Y 0).2.1 (F_Y 0).2.2.1 ∈ zTT := zmem (List.mem_of_getElem? (i := 144) (by decide +kernel)) rfl
theorem w_field_P_149_Y_2 : Cond.fieldLink R_P 149 (F_Y 2).1 (F_Y 2).2.1 (F_Y 2).2.2.1 ∈ zTT := zmem (List.mem_of_getElem? (i := 148) (by decide +kernel)) rfl
theorem w_field_P_152_Y_1 : Cond.fieldLink R_P 152 (F_Y 1).1 (F_Y 1).2.1 (F_Y 1).2.2.1 ∈ zTT := zmem (List.mem_of_getElem? (i := 146) (by decide +kernel)) rfl
theorem w_field_P_127_A_2 : Cond.fieldLink R_P 127 (F_A 2).1 (F_A 2).2.1 (F_A 2).2.2.1 ∈ zTT := zmem (List.mem_of_getElem? (i := 99) (by decide +kernel)) rfl
theorem w_mlink_P_155 : Cond.methodLink R_P 155 y_P_hasBit ∈ zTT := zmem (List.mem_of_getElem? (i := 307) (by decide +kernel)) rfl
theorem w_field_P_130_A_3 : Cond.fieldLink R_P 130 (F_A 3).1 (F_A 3).2.1 (F_A 3).2.2.1 ∈ zTT := zmem (List.mem_of_getElem? (i := 101) (by decide +kernel)) rfl
theorem w_field_P_176_W_0 : Cond.fieldLink R_P 176 (F_W 0).1 (F_W 0).2.1 (F_W 0).2.2.1 ∈ zTT := zmem (List.mem_of_getElem? (i := 87) (by decide +kernel)) rfl
theorem w_field_P_179_S_2 : Cond.fieldLink R_P 179 (F_S 2).1 (F_S 2).2.1 (F_S 2).2.2.1 ∈ zTT := zmem (List.mem_of_getElem? (i := 53) (by decide +kernel)) rfl
theorem w_field_A_31_A_6 : Cond.fieldLink R_A 31 (F_A 6).1 (F_A 6).2.1 (F_A 6).2.2.1 ∈ zTT := zmem (List.mem_of_getElem? (i := 106) (by decide +kernel)) rfl
theorem w_mlink_P_182 : Cond.methodLink R_P 182 y_A_usedAt ∈ zTT := zmem (List.mem_of_getElem? (i := 312) (by decide +kernel)) rfl
theorem w_imeth_A_usedAt : Cond.instanceMethod y_A_usedAt ∈ zTT := zmem (List.mem_of_getElem? (i := 313) (by decide +kernel)) rfl
theorem w_sel_A_usedAt : Cond.selects R_A y_A_usedAt y_A_usedAt ∈ zTT := zmem (List.mem_of_getElem? (i := 314) (by decide +kernel)) rfl
set_option maxRecDepth 100000 in
theorem w_code_A_usedAt : Cond.code y_A_usedAt b_A_usedAt 3 (some .int) ∈ zTT := zmem (List.mem_of_getElem? (i := 315) rfl) rfl
theorem w_mlink_P_158 : Cond.methodLink R_P 158 y_P_usesBranchOutside ∈ zTT := zmem (List.mem_of_getElem? (i := 308) (by decide +kernel)) rfl
theorem w_imeth_P_usesBranchOutside : Cond.instanceMethod y_P_usesBranchOutside ∈ zTT := zmem (List.mem_of_getElem? (i := 310) (by decide +kernel)) rfl
theorem w_sel_P_usesBranchOutside : Cond.selects R_P y_P_usesBranchOutside y_P_usesBranchOutside ∈ zTT := zmem (List.mem_of_getElem? (i := 6) (by decide +kernel)) rfl
set_option maxRecDepth 100000 in
theorem w_code_P_usesBranchOutside : Cond.code y_P_usesBranchOutside b_P_usesBranchOutside 4 (some .boolean) ∈ zTT := zmem (List.mem_of_getElem? (i := 311) rfl) rfl
theorem w_field_P_133_A_4 : Cond.fieldLink R_P 133 (F_A 4).1 (F_A 4).2.1 (F_A 4).2.2.1 ∈ zTT := zmem (List.mem_of_getElem? (i := 103) (by decide +kernel)) rfl
theorem w_field_P_185_S_3 : Cond.fieldLink R_P 185 (F_S 3).1 (F_S 3).2.1 (F_S 3).2.2.1 ∈ zTT := zmem (List.mem_of_getElem? (i := 55) (by decide +kernel)) rfl
theorem w_const_Ig_265_1431655765 : Cond.constant R_Ig 265 1431655765 ∈ zTT := zmem (List.mem_of_getElem? (i := 323) (by decide +kernel)) rfl
theorem w_const_Ig_266_858993459 : Cond.constant R_Ig 266 858993459 ∈ zTT := zmem (List.mem_of_getElem? (i := 324) (by decide +kernel)) rfl
theorem w_const_Ig_267_252645135 : Cond.constant R_Ig 267 252645135 ∈ zTT := zmem (List.mem_of_getElem? (i := 325) (by decide +kernel)) rfl
theorem w_mlink_P_188 : Cond.methodLink R_P 188 y_Ig_bitCount ∈ zTT := zmem (List.mem_of_getElem? (i := 320) (by decide +kernel)) rfl
theorem w_stat_Ig_bitCount : Cond.static y_Ig_bitCount ∈ zTT := zmem (List.mem_of_getElem? (i := 321) (by decide +kernel)) rfl
theorem w_init_Ig : Cond.initialized R_Ig ∈ zTT := zmem (List.mem_of_getElem? (i := 34) (by decide +kernel)) rfl
set_option maxRecDepth 100000 in
theorem w_code_Ig_bitCount : Cond.code y_Ig_bitCount b_Ig_bitCount 1 (some .int) ∈ zTT := zmem (List.mem_of_getElem? (i := 322) rfl) rfl
theorem w_mlink_P_161 : Cond.methodLink R_P 161 y_P_usesReviewedBelow ∈ zTT := zmem (List.mem_of_getElem? (i := 316) (by decide +kernel)) rfl
theorem w_imeth_P_usesReviewedBelow : Cond.instanceMethod y_P_usesReviewedBelow ∈ zTT := zmem (List.mem_of_getElem? (i := 318) (by decide +kernel)) rfl
theorem w_sel_P_usesReviewedBelow : Cond.selects R_P y_P_usesReviewedBelow y_P_usesReviewedBelow ∈ zTT := zmem (List.mem_of_getElem? (i := 7) (by decide +kernel)) rfl
set_option maxRecDepth 100000 in
theorem w_code_P_usesReviewedBelow : Cond.code y_P_usesReviewedBelow b_P_usesReviewedBelow 6 (some .boolean) ∈ zTT := zmem (List.mem_of_getElem? (i := 319) rfl) rfl
theorem w_mlink_P_164 : Cond.methodLink R_P 164 y_P_usesFetchedUntold ∈ zTT := zmem (List.mem_of_getElem? (i := 326) (by decide +kernel)) rfl
theorem w_imeth_P_usesFetchedUntold : Cond.instanceMethod y_P_usesFetchedUntold ∈ zTT := zmem (List.mem_of_getElem? (i := 328) (by decide +kernel)) rfl
theorem w_sel_P_usesFetchedUntold : Cond.selects R_P y_P_usesFetchedUntold y_P_usesFetchedUntold ∈ zTT := zmem (List.mem_of_getElem? (i := 8) (by decide +kernel)) rfl
set_option maxRecDepth 100000 in
theorem w_code_P_usesFetchedUntold : Cond.code y_P_usesFetchedUntold b_P_usesFetchedUntold 3 (some .boolean) ∈ zTT := zmem (List.mem_of_getElem? (i := 329) rfl) rfl
theorem w_mlink_P_112 : Cond.methodLink R_P 112 y_A_missingPlace ∈ zTT := zmem (List.mem_of_getElem? (i := 330) (by decide +kernel)) rfl
theorem w_imeth_A_missingPlace : Cond.instanceMethod y_A_missingPlace ∈ zTT := zmem (List.mem_of_getElem? (i := 331) (by decide +kernel)) rfl
theorem w_sel_A_missingPlace : Cond.selects R_A y_A_missingPlace y_A_missingPlace ∈ zTT := zmem (List.mem_of_getElem? (i := 332) (by decide +kernel)) rfl
set_option maxRecDepth 100000 in
theorem w_code_A_missingPlace : Cond.code y_A_missingPlace b_A_missingPlace 5 (some .int) ∈ zTT := zmem (List.mem_of_getElem? (i := 333) rfl) rfl
theorem w_mlink_P_167 : Cond.methodLink R_P 167 y_A_needsLaterBy ∈ zTT := zmem (List.mem_of_getElem? (i := 334) (by decide +kernel)) rfl
theorem w_imeth_A_needsLaterBy : Cond.instanceMethod y_A_needsLaterBy ∈ zTT := zmem (List.mem_of_getElem? (i := 335) (by decide +kernel)) rfl
theorem w_sel_A_needsLaterBy : Cond.selects R_A y_A_needsLaterBy y_A_needsLaterBy ∈ zTT := zmem (List.mem_of_getElem? (i := 336) (by decide +kernel)) rfl
set_option maxRecDepth 100000 in
theorem w_code_A_needsLaterBy : Cond.code y_A_needsLaterBy b_A_needsLaterBy 5 (some .boolean) ∈ zTT := zmem (List.mem_of_getElem? (i := 337) rfl) rfl
theorem w_mlink_A_78 : Cond.methodLink R_A 78 y_W_sameInOrder ∈ zTT := zmem (List.mem_of_getElem? (i := 346) (by decide +kernel)) rfl
theorem w_imeth_W_sameInOrder : Cond.instanceMethod y_W_sameInOrder ∈ zTT := zmem (List.mem_of_getElem? (i := 347) (by decide +kernel)) rfl
theorem w_sel_W_sameInOrder : Cond.selects R_W y_W_sameInOrder y_W_sameInOrder ∈ zTT := zmem (List.mem_of_getElem? (i := 348) (by decide +kernel)) rfl
set_option maxRecDepth 100000 in
theorem w_code_W_sameInOrder : Cond.code y_W_sameInOrder b_W_sameInOrder 4 (some .boolean) ∈ zTT := zmem (List.mem_of_getElem? (i := 349) rfl) rfl
theorem w_mlink_A_74 : Cond.methodLink R_A 74 y_A_clashing ∈ zTT := zmem (List.mem_of_getElem? (i := 342) (by decide +kernel)) rfl
theorem w_imeth_A_clashing : Cond.instanceMethod y_A_clashing ∈ zTT := zmem (List.mem_of_getElem? (i := 343) (by decide +kernel)) rfl
theorem w_sel_A_clashing : Cond.selects R_A y_A_clashing y_A_clashing ∈ zTT := zmem (List.mem_of_getElem? (i := 344) (by decide +kernel)) rfl
set_option maxRecDepth 100000 in
theorem w_code_A_clashing : Cond.code y_A_clashing b_A_clashing 4 (some .boolean) ∈ zTT := zmem (List.mem_of_getElem? (i := 345) rfl) rfl
theorem w_mlink_P_170 : Cond.methodLink R_P 170 y_A_clashesWithAny ∈ zTT := zmem (List.mem_of_getElem? (i := 338) (by decide +kernel)) rfl
theorem w_imeth_A_clashesWithAny : Cond.instanceMethod y_A_clashesWithAny ∈ zTT := zmem (List.mem_of_getElem? (i := 339) (by decide +kernel)) rfl
theorem w_sel_A_clashesWithAny : Cond.selects R_A y_A_clashesWithAny y_A_clashesWithAny ∈ zTT := zmem (List.mem_of_getElem? (i := 340) (by decide +kernel)) rfl
set_option maxRecDepth 100000 in
theorem w_code_A_clashesWithAny : Cond.code y_A_clashesWithAny b_A_clashesWithAny 3 (some .boolean) ∈ zTT := zmem (List.mem_of_getElem? (i := 341) rfl) rfl
theorem w_mlink_P_173 : Cond.methodLink R_P 173 y_A_restsOnNothing ∈ zTT := zmem (List.mem_of_getElem? (i := 350) (by decide +kernel)) rfl
theorem w_imeth_A_restsOnNothing : Cond.instanceMethod y_A_restsOnNothing ∈ zTT := zmem (List.mem_of_getElem? (i := 351) (by decide +kernel)) rfl
theorem w_sel_A_restsOnNothing : Cond.selects R_A y_A_restsOnNothing y_A_restsOnNothing ∈ zTT := zmem (List.mem_of_getElem? (i := 352) (by decide +kernel)) rfl
set_option maxRecDepth 100000 in
theorem w_code_A_restsOnNothing : Cond.code y_A_restsOnNothing b_A_restsOnNothing 2 (some .boolean) ∈ zTT := zmem (List.mem_of_getElem? (i := 353) rfl) rfl
theorem w_field_P_40_P_5 : Cond.fieldLink R_P 40 (F_P 5).1 (F_P 5).2.1 (F_P 5).2.2.1 ∈ zTT := zmem (List.mem_of_getElem? (i := 179) (by decide +kernel)) rfl
theorem w_mlink_P_105 : Cond.methodLink R_P 105 y_P_isBroken ∈ zTT := zmem (List.mem_of_getElem? (i := 303) (by decide +kernel)) rfl
theorem w_imeth_P_isBroken : Cond.instanceMethod y_P_isBroken ∈ zTT := zmem (List.mem_of_getElem? (i := 305) (by decide +kernel)) rfl
theorem w_sel_P_isBroken : Cond.selects R_P y_P_isBroken y_P_isBroken ∈ zTT := zmem (List.mem_of_getElem? (i := 5) (by decide +kernel)) rfl
set_option maxRecDepth 100000 in
theorem w_code_P_isBroken : Cond.code y_P_isBroken b_P_isBroken 4 (some .boolean) ∈ zTT := zmem (List.mem_of_getElem? (i := 306) rfl) rfl
theorem w_field_P_43_P_6 : Cond.fieldLink R_P 43 (F_P 6).1 (F_P 6).2.1 (F_P 6).2.2.1 ∈ zTT := zmem (List.mem_of_getElem? (i := 180) (by decide +kernel)) rfl
theorem w_mlink_P_100 : Cond.methodLink R_P 100 y_P_firstBrokenBy ∈ zTT := zmem (List.mem_of_getElem? (i := 299) (by decide +kernel)) rfl
theorem w_imeth_P_firstBrokenBy : Cond.instanceMethod y_P_firstBrokenBy ∈ zTT := zmem (List.mem_of_getElem? (i := 301) (by decide +kernel)) rfl
theorem w_sel_P_firstBrokenBy : Cond.selects R_P y_P_firstBrokenBy y_P_firstBrokenBy ∈ zTT := zmem (List.mem_of_getElem? (i := 4) (by decide +kernel)) rfl
set_option maxRecDepth 100000 in
theorem w_code_P_firstBrokenBy : Cond.code y_P_firstBrokenBy b_P_firstBrokenBy 3 (some .int) ∈ zTT := zmem (List.mem_of_getElem? (i := 302) rfl) rfl
theorem w_mlink_P_104 : Cond.methodLink R_P 104 y_Y_has ∈ zTT := zmem (List.mem_of_getElem? (i := 362) (by decide +kernel)) rfl
theorem w_imeth_Y_has : Cond.instanceMethod y_Y_has ∈ zTT := zmem (List.mem_of_getElem? (i := 363) (by decide +kernel)) rfl
theorem w_sel_Y_has : Cond.selects R_Y y_Y_has y_Y_has ∈ zTT := zmem (List.mem_of_getElem? (i := 364) (by decide +kernel)) rfl
set_option maxRecDepth 100000 in
theorem w_code_Y_has : Cond.code y_Y_has b_Y_has 2 (some .boolean) ∈ zTT := zmem (List.mem_of_getElem? (i := 365) rfl) rfl
theorem w_field_P_33_P_3 : Cond.fieldLink R_P 33 (F_P 3).1 (F_P 3).2.1 (F_P 3).2.2.1 ∈ zTT := zmem (List.mem_of_getElem? (i := 177) (by decide +kernel)) rfl
theorem w_field_P_108_A_0 : Cond.fieldLink R_P 108 (F_A 0).1 (F_A 0).2.1 (F_A 0).2.2.1 ∈ zTT := zmem (List.mem_of_getElem? (i := 95) (by decide +kernel)) rfl
theorem w_field_P_196_S_1 : Cond.fieldLink R_P 196 (F_S 1).1 (F_S 1).2.1 (F_S 1).2.2.1 ∈ zTT := zmem (List.mem_of_getElem? (i := 51) (by decide +kernel)) rfl
theorem w_mlink_P_193 : Cond.methodLink R_P 193 y_P_usesDigest ∈ zTT := zmem (List.mem_of_getElem? (i := 382) (by decide +kernel)) rfl
theorem w_imeth_P_usesDigest : Cond.instanceMethod y_P_usesDigest ∈ zTT := zmem (List.mem_of_getElem? (i := 384) (by decide +kernel)) rfl
theorem w_sel_P_usesDigest : Cond.selects R_P y_P_usesDigest y_P_usesDigest ∈ zTT := zmem (List.mem_of_getElem? (i := 10) (by decide +kernel)) rfl
set_option maxRecDepth 100000 in
theorem w_code_P_usesDigest : Cond.code y_P_usesDigest b_P_usesDigest 5 (some .boolean) ∈ zTT := zmem (List.mem_of_getElem? (i := 385) rfl) rfl
theorem w_mlink_P_109 : Cond.methodLink R_P 109 y_P_restsOn ∈ zTT := zmem (List.mem_of_getElem? (i := 378) (by decide +kernel)) rfl
theorem w_imeth_P_restsOn : Cond.instanceMethod y_P_restsOn ∈ zTT := zmem (List.mem_of_getElem? (i := 380) (by decide +kernel)) rfl
theorem w_sel_P_restsOn : Cond.selects R_P y_P_restsOn y_P_restsOn ∈ zTT := zmem (List.mem_of_getElem? (i := 9) (by decide +kernel)) rfl
set_option maxRecDepth 100000 in
theorem w_code_P_restsOn : Cond.code y_P_restsOn b_P_restsOn 5 (some .boolean) ∈ zTT := zmem (List.mem_of_getElem? (i := 381) rfl) rfl
theorem w_mlink_P_119 : Cond.methodLink R_P 119 y_P_bitIf ∈ zTT := zmem (List.mem_of_getElem? (i := 399) (by decide +kernel)) rfl
theorem w_stat_P_bitIf : Cond.static y_P_bitIf ∈ zTT := zmem (List.mem_of_getElem? (i := 400) (by decide +kernel)) rfl
set_option maxRecDepth 100000 in
theorem w_code_P_bitIf : Cond.code y_P_bitIf b_P_bitIf 2 (some .int) ∈ zTT := zmem (List.mem_of_getElem? (i := 401) rfl) rfl
theorem w_mlink_P_115 : Cond.methodLink R_P 115 y_A_differAtPath ∈ zTT := zmem (List.mem_of_getElem? (i := 394) (by decide +kernel)) rfl
theorem w_imeth_A_differAtPath : Cond.instanceMethod y_A_differAtPath ∈ zTT := zmem (List.mem_of_getElem? (i := 395) (by decide +kernel)) rfl
theorem w_sel_A_differAtPath : Cond.selects R_A y_A_differAtPath y_A_differAtPath ∈ zTT := zmem (List.mem_of_getElem? (i := 396) (by decide +kernel)) rfl
set_option maxRecDepth 100000 in
theorem w_code_A_differAtPath : Cond.code y_A_differAtPath b_A_differAtPath 4 (some .boolean) ∈ zTT := zmem (List.mem_of_getElem? (i := 397) rfl) rfl
theorem w_field_P_123_A_1 : Cond.fieldLink R_P 123 (F_A 1).1 (F_A 1).2.1 (F_A 1).2.2.1 ∈ zTT := zmem (List.mem_of_getElem? (i := 97) (by decide +kernel)) rfl
theorem w_field_P_136_A_5 : Cond.fieldLink R_P 136 (F_A 5).1 (F_A 5).2.1 (F_A 5).2.2.1 ∈ zTT := zmem (List.mem_of_getElem? (i := 105) (by decide +kernel)) rfl
theorem w_mlink_P_139 : Cond.methodLink R_P 139 y_W_sameAsSets ∈ zTT := zmem (List.mem_of_getElem? (i := 406) (by decide +kernel)) rfl
theorem w_imeth_W_sameAsSets : Cond.instanceMethod y_W_sameAsSets ∈ zTT := zmem (List.mem_of_getElem? (i := 407) (by decide +kernel)) rfl
theorem w_sel_W_sameAsSets : Cond.selects R_W y_W_sameAsSets y_W_sameAsSets ∈ zTT := zmem (List.mem_of_getElem? (i := 408) (by decide +kernel)) rfl
set_option maxRecDepth 100000 in
theorem w_code_W_sameAsSets : Cond.code y_W_sameAsSets b_W_sameAsSets 4 (some .boolean) ∈ zTT := zmem (List.mem_of_getElem? (i := 409) rfl) rfl
theorem w_field_P_142_A_7 : Cond.fieldLink R_P 142 (F_A 7).1 (F_A 7).2.1 (F_A 7).2.2.1 ∈ zTT := zmem (List.mem_of_getElem? (i := 110) (by decide +kernel)) rfl
theorem w_mlink_P_145 : Cond.methodLink R_P 145 y_A_clashing ∈ zTT := zmem (List.mem_of_getElem? (i := 414) (by decide +kernel)) rfl
theorem w_field_M_79_M_0 : Cond.fieldLink R_M 79 (F_M 0).1 (F_M 0).2.1 (F_M 0).2.2.1 ∈ zTT := zmem (List.mem_of_getElem? (i := 421) (by decide +kernel)) rfl
theorem w_field_M_7_M_3 : Cond.fieldLink R_M 7 (F_M 3).1 (F_M 3).2.1 (F_M 3).2.2.1 ∈ zTT := zmem (List.mem_of_getElem? (i := 424) (by decide +kernel)) rfl
theorem w_field_M_13_M_4 : Cond.fieldLink R_M 13 (F_M 4).1 (F_M 4).2.1 (F_M 4).2.2.1 ∈ zTT := zmem (List.mem_of_getElem? (i := 425) (by decide +kernel)) rfl
theorem w_field_M_17_M_5 : Cond.fieldLink R_M 17 (F_M 5).1 (F_M 5).2.1 (F_M 5).2.2.1 ∈ zTT := zmem (List.mem_of_getElem? (i := 426) (by decide +kernel)) rfl
theorem w_const_M_86_65535 : Cond.constant R_M 86 65535 ∈ zTT := zmem (List.mem_of_getElem? (i := 510) (by decide +kernel)) rfl
theorem w_mlink_M_82 : Cond.methodLink R_M 82 y_M_within ∈ zTT := zmem (List.mem_of_getElem? (i := 507) (by decide +kernel)) rfl
theorem w_stat_M_within : Cond.static y_M_within ∈ zTT := zmem (List.mem_of_getElem? (i := 508) (by decide +kernel)) rfl
theorem w_init_M : Cond.initialized R_M ∈ zTT := zmem (List.mem_of_getElem? (i := 33) (by decide +kernel)) rfl
set_option maxRecDepth 100000 in
theorem w_code_M_within : Cond.code y_M_within b_M_within 3 (some .boolean) ∈ zTT := zmem (List.mem_of_getElem? (i := 509) rfl) rfl
theorem w_field_M_20_M_6 : Cond.fieldLink R_M 20 (F_M 6).1 (F_M 6).2.1 (F_M 6).2.2.1 ∈ zTT := zmem (List.mem_of_getElem? (i := 427) (by decide +kernel)) rfl
theorem w_mlink_M_87 : Cond.methodLink R_M 87 y_M_isSource ∈ zTT := zmem (List.mem_of_getElem? (i := 515) (by decide +kernel)) rfl
theorem w_imeth_M_isSource : Cond.instanceMethod y_M_isSource ∈ zTT := zmem (List.mem_of_getElem? (i := 517) (by decide +kernel)) rfl
theorem w_sel_M_isSource : Cond.selects R_M y_M_isSource y_M_isSource ∈ zTT := zmem (List.mem_of_getElem? (i := 11) (by decide +kernel)) rfl
set_option maxRecDepth 100000 in
theorem w_code_M_isSource : Cond.code y_M_isSource b_M_isSource 2 (some .boolean) ∈ zTT := zmem (List.mem_of_getElem? (i := 518) rfl) rfl
theorem w_const_M_91_1000000000 : Cond.constant R_M 91 1000000000 ∈ zTT := zmem (List.mem_of_getElem? (i := 523) (by decide +kernel)) rfl
theorem w_field_M_76_M_1 : Cond.fieldLink R_M 76 (F_M 1).1 (F_M 1).2.1 (F_M 1).2.2.1 ∈ zTT := zmem (List.mem_of_getElem? (i := 422) (by decide +kernel)) rfl
theorem w_field_M_24_M_7 : Cond.fieldLink R_M 24 (F_M 7).1 (F_M 7).2.1 (F_M 7).2.2.1 ∈ zTT := zmem (List.mem_of_getElem? (i := 428) (by decide +kernel)) rfl
theorem w_field_M_33_M_10 : Cond.fieldLink R_M 33 (F_M 10).1 (F_M 10).2.1 (F_M 10).2.2.1 ∈ zTT := zmem (List.mem_of_getElem? (i := 431) (by decide +kernel)) rfl
theorem w_field_M_36_M_11 : Cond.fieldLink R_M 36 (F_M 11).1 (F_M 11).2.1 (F_M 11).2.2.1 ∈ zTT := zmem (List.mem_of_getElem? (i := 432) (by decide +kernel)) rfl
theorem w_field_M_39_M_12 : Cond.fieldLink R_M 39 (F_M 12).1 (F_M 12).2.1 (F_M 12).2.2.1 ∈ zTT := zmem (List.mem_of_getElem? (i := 433) (by decide +kernel)) rfl
theorem w_field_M_42_M_13 : Cond.fieldLink R_M 42 (F_M 13).1 (F_M 13).2.1 (F_M 13).2.2.1 ∈ zTT := zmem (List.mem_of_getElem? (i := 434) (by decide +kernel)) rfl
theorem w_field_M_45_M_14 : Cond.fieldLink R_M 45 (F_M 14).1 (F_M 14).2.1 (F_M 14).2.2.1 ∈ zTT := zmem (List.mem_of_getElem? (i := 435) (by decide +kernel)) rfl
theorem w_field_M_48_M_15 : Cond.fieldLink R_M 48 (F_M 15).1 (F_M 15).2.1 (F_M 15).2.2.1 ∈ zTT := zmem (List.mem_of_getElem? (i := 436) (by decide +kernel)) rfl
theorem w_mlink_M_95 : Cond.methodLink R_M 95 y_M_hasUse ∈ zTT := zmem (List.mem_of_getElem? (i := 532) (by decide +kernel)) rfl
theorem w_imeth_M_hasUse : Cond.instanceMethod y_M_hasUse ∈ zTT := zmem (List.mem_of_getElem? (i := 534) (by decide +kernel)) rfl
theorem w_sel_M_hasUse : Cond.selects R_M y_M_hasUse y_M_hasUse ∈ zTT := zmem (List.mem_of_getElem? (i := 13) (by decide +kernel)) rfl
set_option maxRecDepth 100000 in
theorem w_code_M_hasUse : Cond.code y_M_hasUse b_M_hasUse 5 (some .boolean) ∈ zTT := zmem (List.mem_of_getElem? (i := 535) rfl) rfl
theorem w_mlink_M_92 : Cond.methodLink R_M 92 y_M_isArtefact ∈ zTT := zmem (List.mem_of_getElem? (i := 528) (by decide +kernel)) rfl
theorem w_imeth_M_isArtefact : Cond.instanceMethod y_M_isArtefact ∈ zTT := zmem (List.mem_of_getElem? (i := 530) (by decide +kernel)) rfl
theorem w_sel_M_isArtefact : Cond.selects R_M y_M_isArtefact y_M_isArtefact ∈ zTT := zmem (List.mem_of_getElem? (i := 12) (by decide +kernel)) rfl
set_option maxRecDepth 100000 in
theorem w_code_M_isArtefact : Cond.code y_M_isArtefact b_M_isArtefact 2 (some .boolean) ∈ zTT := zmem (List.mem_of_getElem? (i := 531) rfl) rfl
theorem w_field_M_51_M_16 : Cond.fieldLink R_M 51 (F_M 16).1 (F_M 16).2.1 (F_M 16).2.2.1 ∈ zTT := zmem (List.mem_of_getElem? (i := 437) (by decide +kernel)) rfl
theorem w_field_M_27_M_8 : Cond.fieldLink R_M 27 (F_M 8).1 (F_M 8).2.1 (F_M 8).2.2.1 ∈ zTT := zmem (List.mem_of_getElem? (i := 429) (by decide +kernel)) rfl
theorem w_mlink_M_99 : Cond.methodLink R_M 99 y_M_hasNeed ∈ zTT := zmem (List.mem_of_getElem? (i := 540) (by decide +kernel)) rfl
theorem w_imeth_M_hasNeed : Cond.instanceMethod y_M_hasNeed ∈ zTT := zmem (List.mem_of_getElem? (i := 542) (by decide +kernel)) rfl
theorem w_sel_M_hasNeed : Cond.selects R_M y_M_hasNeed y_M_hasNeed ∈ zTT := zmem (List.mem_of_getElem? (i := 14) (by decide +kernel)) rfl
set_option maxRecDepth 100000 in
theorem w_code_M_hasNeed : Cond.code y_M_hasNeed b_M_hasNeed 6 (some .boolean) ∈ zTT := zmem (List.mem_of_getElem? (i := 543) rfl) rfl
theorem w_field_M_54_M_17 : Cond.fieldLink R_M 54 (F_M 17).1 (F_M 17).2.1 (F_M 17).2.2.1 ∈ zTT := zmem (List.mem_of_getElem? (i := 438) (by decide +kernel)) rfl
theorem w_field_M_30_M_9 : Cond.fieldLink R_M 30 (F_M 9).1 (F_M 9).2.1 (F_M 9).2.2.1 ∈ zTT := zmem (List.mem_of_getElem? (i := 430) (by decide +kernel)) rfl
theorem w_field_M_103_M_2 : Cond.fieldLink R_M 103 (F_M 2).1 (F_M 2).2.1 (F_M 2).2.2.1 ∈ zTT := zmem (List.mem_of_getElem? (i := 423) (by decide +kernel)) rfl
theorem w_field_M_57_M_18 : Cond.fieldLink R_M 57 (F_M 18).1 (F_M 18).2.1 (F_M 18).2.2.1 ∈ zTT := zmem (List.mem_of_getElem? (i := 439) (by decide +kernel)) rfl
theorem w_field_M_60_M_19 : Cond.fieldLink R_M 60 (F_M 19).1 (F_M 19).2.1 (F_M 19).2.2.1 ∈ zTT := zmem (List.mem_of_getElem? (i := 440) (by decide +kernel)) rfl
theorem w_field_M_106_M_21 : Cond.fieldLink R_M 106 (F_M 21).1 (F_M 21).2.1 (F_M 21).2.2.1 ∈ zTT := zmem (List.mem_of_getElem? (i := 442) (by decide +kernel)) rfl
theorem w_field_M_67_M_24 : Cond.fieldLink R_M 67 (F_M 24).1 (F_M 24).2.1 (F_M 24).2.2.1 ∈ zTT := zmem (List.mem_of_getElem? (i := 445) (by decide +kernel)) rfl
theorem w_mlink_M_109 : Cond.methodLink R_M 109 y_M_come ∈ zTT := zmem (List.mem_of_getElem? (i := 560) (by decide +kernel)) rfl
theorem w_imeth_M_come : Cond.instanceMethod y_M_come ∈ zTT := zmem (List.mem_of_getElem? (i := 562) (by decide +kernel)) rfl
theorem w_sel_M_come : Cond.selects R_M y_M_come y_M_come ∈ zTT := zmem (List.mem_of_getElem? (i := 16) (by decide +kernel)) rfl
set_option maxRecDepth 100000 in
theorem w_code_M_come : Cond.code y_M_come b_M_come 3 none ∈ zTT := zmem (List.mem_of_getElem? (i := 563) rfl) rfl
theorem w_mlink_M_113 : Cond.methodLink R_M 113 y_M_meets ∈ zTT := zmem (List.mem_of_getElem? (i := 564) (by decide +kernel)) rfl
theorem w_imeth_M_meets : Cond.instanceMethod y_M_meets ∈ zTT := zmem (List.mem_of_getElem? (i := 566) (by decide +kernel)) rfl
theorem w_sel_M_meets : Cond.selects R_M y_M_meets y_M_meets ∈ zTT := zmem (List.mem_of_getElem? (i := 17) (by decide +kernel)) rfl
set_option maxRecDepth 100000 in
theorem w_code_M_meets : Cond.code y_M_meets b_M_meets 4 (some .int) ∈ zTT := zmem (List.mem_of_getElem? (i := 567) rfl) rfl
theorem w_field_M_120_M_23 : Cond.fieldLink R_M 120 (F_M 23).1 (F_M 23).2.1 (F_M 23).2.2.1 ∈ zTT := zmem (List.mem_of_getElem? (i := 444) (by decide +kernel)) rfl
theorem w_mlink_M_117 : Cond.methodLink R_M 117 y_M_goAlong ∈ zTT := zmem (List.mem_of_getElem? (i := 556) (by decide +kernel)) rfl
theorem w_imeth_M_goAlong : Cond.instanceMethod y_M_goAlong ∈ zTT := zmem (List.mem_of_getElem? (i := 558) (by decide +kernel)) rfl
theorem w_sel_M_goAlong : Cond.selects R_M y_M_goAlong y_M_goAlong ∈ zTT := zmem (List.mem_of_getElem? (i := 15) (by decide +kernel)) rfl
set_option maxRecDepth 100000 in
theorem w_code_M_goAlong : Cond.code y_M_goAlong b_M_goAlong 7 none ∈ zTT := zmem (List.mem_of_getElem? (i := 559) rfl) rfl
theorem w_field_M_73_M_26 : Cond.fieldLink R_M 73 (F_M 26).1 (F_M 26).2.1 (F_M 26).2.2.1 ∈ zTT := zmem (List.mem_of_getElem? (i := 447) (by decide +kernel)) rfl
theorem w_mlink_M_123 : Cond.methodLink R_M 123 y_M_others ∈ zTT := zmem (List.mem_of_getElem? (i := 592) (by decide +kernel)) rfl
theorem w_imeth_M_others : Cond.instanceMethod y_M_others ∈ zTT := zmem (List.mem_of_getElem? (i := 594) (by decide +kernel)) rfl
theorem w_sel_M_others : Cond.selects R_M y_M_others y_M_others ∈ zTT := zmem (List.mem_of_getElem? (i := 20) (by decide +kernel)) rfl
set_option maxRecDepth 100000 in
theorem w_code_M_others : Cond.code y_M_others b_M_others 5 (some .int) ∈ zTT := zmem (List.mem_of_getElem? (i := 595) rfl) rfl
theorem w_mlink_M_130 : Cond.methodLink R_M 130 y_M_sourceBreaks ∈ zTT := zmem (List.mem_of_getElem? (i := 588) (by decide +kernel)) rfl
theorem w_imeth_M_sourceBreaks : Cond.instanceMethod y_M_sourceBreaks ∈ zTT := zmem (List.mem_of_getElem? (i := 590) (by decide +kernel)) rfl
theorem w_sel_M_sourceBreaks : Cond.selects R_M y_M_sourceBreaks y_M_sourceBreaks ∈ zTT := zmem (List.mem_of_getElem? (i := 19) (by decide +kernel)) rfl
set_option maxRecDepth 100000 in
theorem w_code_M_sourceBreaks : Cond.code y_M_sourceBreaks b_M_sourceBreaks 7 (some .boolean) ∈ zTT := zmem (List.mem_of_getElem? (i := 591) rfl) rfl
theorem w_mlink_M_133 : Cond.methodLink R_M 133 y_M_missing ∈ zTT := zmem (List.mem_of_getElem? (i := 596) (by decide +kernel)) rfl
theorem w_imeth_M_missing : Cond.instanceMethod y_M_missing ∈ zTT := zmem (List.mem_of_getElem? (i := 577) (by decide +kernel)) rfl
theorem w_sel_M_missing : Cond.selects R_M y_M_missing y_M_missing ∈ zTT := zmem (List.mem_of_getElem? (i := 578) (by decide +kernel)) rfl
set_option maxRecDepth 100000 in
theorem w_code_M_missing : Cond.code y_M_missing b_M_missing 5 (some .int) ∈ zTT := zmem (List.mem_of_getElem? (i := 579) rfl) rfl
theorem w_mlink_M_136 : Cond.methodLink R_M 136 y_M_isLate ∈ zTT := zmem (List.mem_of_getElem? (i := 597) (by decide +kernel)) rfl
theorem w_imeth_M_isLate : Cond.instanceMethod y_M_isLate ∈ zTT := zmem (List.mem_of_getElem? (i := 599) (by decide +kernel)) rfl
theorem w_sel_M_isLate : Cond.selects R_M y_M_isLate y_M_isLate ∈ zTT := zmem (List.mem_of_getElem? (i := 21) (by decide +kernel)) rfl
set_option maxRecDepth 100000 in
theorem w_code_M_isLate : Cond.code y_M_isLate b_M_isLate 5 (some .boolean) ∈ zTT := zmem (List.mem_of_getElem? (i := 600) rfl) rfl
theorem w_mlink_M_127 : Cond.methodLink R_M 127 y_M_agree ∈ zTT := zmem (List.mem_of_getElem? (i := 605) (by decide +kernel)) rfl
theorem w_imeth_M_agree : Cond.instanceMethod y_M_agree ∈ zTT := zmem (List.mem_of_getElem? (i := 607) (by decide +kernel)) rfl
theorem w_sel_M_agree : Cond.selects R_M y_M_agree y_M_agree ∈ zTT := zmem (List.mem_of_getElem? (i := 23) (by decide +kernel)) rfl
set_option maxRecDepth 100000 in
theorem w_code_M_agree : Cond.code y_M_agree b_M_agree 5 (some .boolean) ∈ zTT := zmem (List.mem_of_getElem? (i := 608) rfl) rfl
theorem w_mlink_M_139 : Cond.methodLink R_M 139 y_M_isClash ∈ zTT := zmem (List.mem_of_getElem? (i := 601) (by decide +kernel)) rfl
theorem w_imeth_M_isClash : Cond.instanceMethod y_M_isClash ∈ zTT := zmem (List.mem_of_getElem? (i := 603) (by decide +kernel)) rfl
theorem w_sel_M_isClash : Cond.selects R_M y_M_isClash y_M_isClash ∈ zTT := zmem (List.mem_of_getElem? (i := 22) (by decide +kernel)) rfl
set_option maxRecDepth 100000 in
theorem w_code_M_isClash : Cond.code y_M_isClash b_M_isClash 3 (some .boolean) ∈ zTT := zmem (List.mem_of_getElem? (i := 604) rfl) rfl
theorem w_mlink_M_142 : Cond.methodLink R_M 142 y_M_isBroken ∈ zTT := zmem (List.mem_of_getElem? (i := 584) (by decide +kernel)) rfl
theorem w_imeth_M_isBroken : Cond.instanceMethod y_M_isBroken ∈ zTT := zmem (List.mem_of_getElem? (i := 586) (by decide +kernel)) rfl
theorem w_sel_M_isBroken : Cond.selects R_M y_M_isBroken y_M_isBroken ∈ zTT := zmem (List.mem_of_getElem? (i := 18) (by decide +kernel)) rfl
set_option maxRecDepth 100000 in
theorem w_code_M_isBroken : Cond.code y_M_isBroken b_M_isBroken 6 (some .boolean) ∈ zTT := zmem (List.mem_of_getElem? (i := 587) rfl) rfl
theorem w_field_M_145_M_22 : Cond.fieldLink R_M 145 (F_M 22).1 (F_M 22).2.1 (F_M 22).2.2.1 ∈ zTT := zmem (List.mem_of_getElem? (i := 443) (by decide +kernel)) rfl
theorem w_field_M_70_M_25 : Cond.fieldLink R_M 70 (F_M 25).1 (F_M 25).2.1 (F_M 25).2.2.1 ∈ zTT := zmem (List.mem_of_getElem? (i := 446) (by decide +kernel)) rfl
theorem w_field_M_63_M_20 : Cond.fieldLink R_M 63 (F_M 20).1 (F_M 20).2.1 (F_M 20).2.2.1 ∈ zTT := zmem (List.mem_of_getElem? (i := 441) (by decide +kernel)) rfl
theorem w_mlink_M_148 : Cond.methodLink R_M 148 y_M_sameSources ∈ zTT := zmem (List.mem_of_getElem? (i := 625) (by decide +kernel)) rfl
theorem w_imeth_M_sameSources : Cond.instanceMethod y_M_sameSources ∈ zTT := zmem (List.mem_of_getElem? (i := 627) (by decide +kernel)) rfl
theorem w_sel_M_sameSources : Cond.selects R_M y_M_sameSources y_M_sameSources ∈ zTT := zmem (List.mem_of_getElem? (i := 24) (by decide +kernel)) rfl
set_option maxRecDepth 100000 in
theorem w_code_M_sameSources : Cond.code y_M_sameSources b_M_sameSources 5 (some .boolean) ∈ zTT := zmem (List.mem_of_getElem? (i := 628) rfl) rfl
theorem w_mlink_M_151 : Cond.methodLink R_M 151 y_M_sameNeeds ∈ zTT := zmem (List.mem_of_getElem? (i := 629) (by decide +kernel)) rfl
theorem w_imeth_M_sameNeeds : Cond.instanceMethod y_M_sameNeeds ∈ zTT := zmem (List.mem_of_getElem? (i := 631) (by decide +kernel)) rfl
theorem w_sel_M_sameNeeds : Cond.selects R_M y_M_sameNeeds y_M_sameNeeds ∈ zTT := zmem (List.mem_of_getElem? (i := 25) (by decide +kernel)) rfl
set_option maxRecDepth 100000 in
theorem w_code_M_sameNeeds : Cond.code y_M_sameNeeds b_M_sameNeeds 5 (some .boolean) ∈ zTT := zmem (List.mem_of_getElem? (i := 632) rfl) rfl
theorem w_mlinkobj_P_1 : Cond.methodLink R_P 1 Lib.objectInit ∈ zTT := zmem (List.mem_of_getElem? (i := 40) (by decide +kernel)) rfl
theorem w_oinst : Cond.instanceMethod Lib.objectInit ∈ zTT := zmem (List.mem_of_getElem? (i := 41) (by decide +kernel)) rfl
set_option maxRecDepth 100000 in
theorem w_ocode : Cond.code Lib.objectInit ⟨#[0xb1]⟩ 1 none ∈ zTT := zmem (List.mem_of_getElem? (i := 42) rfl) rfl
theorem w_clink_P_7_S : Cond.classLink R_P 7 R_S ∈ zTT := zmem (List.mem_of_getElem? (i := 43) (by decide +kernel)) rfl
theorem w_inst_S_5 : Cond.instantiable R_S 5 ∈ zTT := zmem (List.mem_of_getElem? (i := 44) (by decide +kernel)) rfl
theorem w_mlinkobj_S_3 : Cond.methodLink R_S 3 Lib.objectInit ∈ zTT := zmem (List.mem_of_getElem? (i := 48) (by decide +kernel)) rfl
theorem w_arr_long : Cond.arrayClass (newarray.typeOf .long) ∈ zTT := zmem (List.mem_of_getElem? (i := 69) (by decide +kernel)) rfl
theorem w_arr_int : Cond.arrayClass (newarray.typeOf .int) ∈ zTT := zmem (List.mem_of_getElem? (i := 70) (by decide +kernel)) rfl
theorem w_arr_boolean : Cond.arrayClass (newarray.typeOf .boolean) ∈ zTT := zmem (List.mem_of_getElem? (i := 71) (by decide +kernel)) rfl
theorem w_field_S_22_S_4 : Cond.fieldLink R_S 22 (F_S 4).1 (F_S 4).2.1 (F_S 4).2.2.1 ∈ zTT := zmem (List.mem_of_getElem? (i := 56) (by decide +kernel)) rfl
set_option maxRecDepth 100000 in
theorem w_code_S_init : Cond.code y_S_init b_S_init 1 none ∈ zTT := zmem (List.mem_of_getElem? (i := 47) rfl) rfl
theorem w_imeth_S_init : Cond.instanceMethod y_S_init ∈ zTT := zmem (List.mem_of_getElem? (i := 46) (by decide +kernel)) rfl
theorem w_clink_P_16_A : Cond.classLink R_P 16 R_A ∈ zTT := zmem (List.mem_of_getElem? (i := 72) (by decide +kernel)) rfl
theorem w_inst_A_11 : Cond.instantiable R_A 11 ∈ zTT := zmem (List.mem_of_getElem? (i := 73) (by decide +kernel)) rfl
theorem w_mlinkobj_A_3 : Cond.methodLink R_A 3 Lib.objectInit ∈ zTT := zmem (List.mem_of_getElem? (i := 77) (by decide +kernel)) rfl
theorem w_clink_A_28_W : Cond.classLink R_A 28 R_W ∈ zTT := zmem (List.mem_of_getElem? (i := 78) (by decide +kernel)) rfl
theorem w_inst_W_2 : Cond.instantiable R_W 2 ∈ zTT := zmem (List.mem_of_getElem? (i := 79) (by decide +kernel)) rfl
theorem w_mlinkobj_W_3 : Cond.methodLink R_W 3 Lib.objectInit ∈ zTT := zmem (List.mem_of_getElem? (i := 83) (by decide +kernel)) rfl
set_option maxRecDepth 100000 in
theorem w_code_W_init : Cond.code y_W_init b_W_init 1 none ∈ zTT := zmem (List.mem_of_getElem? (i := 82) rfl) rfl
theorem w_imeth_W_init : Cond.instanceMethod y_W_init ∈ zTT := zmem (List.mem_of_getElem? (i := 81) (by decide +kernel)) rfl
set_option maxRecDepth 100000 in
theorem w_code_A_init : Cond.code y_A_init b_A_init 1 none ∈ zTT := zmem (List.mem_of_getElem? (i := 76) rfl) rfl
theorem w_imeth_A_init : Cond.instanceMethod y_A_init ∈ zTT := zmem (List.mem_of_getElem? (i := 75) (by decide +kernel)) rfl
theorem w_clink_P_23_Y : Cond.classLink R_P 23 R_Y ∈ zTT := zmem (List.mem_of_getElem? (i := 137) (by decide +kernel)) rfl
theorem w_inst_Y_3 : Cond.instantiable R_Y 3 ∈ zTT := zmem (List.mem_of_getElem? (i := 138) (by decide +kernel)) rfl
theorem w_mlinkobj_Y_3 : Cond.methodLink R_Y 3 Lib.objectInit ∈ zTT := zmem (List.mem_of_getElem? (i := 142) (by decide +kernel)) rfl
set_option maxRecDepth 100000 in
theorem w_code_Y_init : Cond.code y_Y_init b_Y_init 1 none ∈ zTT := zmem (List.mem_of_getElem? (i := 141) rfl) rfl
theorem w_imeth_Y_init : Cond.instanceMethod y_Y_init ∈ zTT := zmem (List.mem_of_getElem? (i := 140) (by decide +kernel)) rfl
theorem w_clink_P_30_Q : Cond.classLink R_P 30 R_Q ∈ zTT := zmem (List.mem_of_getElem? (i := 156) (by decide +kernel)) rfl
theorem w_inst_Q_3 : Cond.instantiable R_Q 3 ∈ zTT := zmem (List.mem_of_getElem? (i := 157) (by decide +kernel)) rfl
theorem w_mlinkobj_Q_3 : Cond.methodLink R_Q 3 Lib.objectInit ∈ zTT := zmem (List.mem_of_getElem? (i := 161) (by decide +kernel)) rfl
set_option maxRecDepth 100000 in
theorem w_code_Q_init : Cond.code y_Q_init b_Q_init 1 none ∈ zTT := zmem (List.mem_of_getElem? (i := 160) rfl) rfl
theorem w_imeth_Q_init : Cond.instanceMethod y_Q_init ∈ zTT := zmem (List.mem_of_getElem? (i := 159) (by decide +kernel)) rfl
theorem w_mlinkobj_M_1 : Cond.methodLink R_M 1 Lib.objectInit ∈ zTT := zmem (List.mem_of_getElem? (i := 420) (by decide +kernel)) rfl
theorem gV_P_52 : GoodIn zTT (wsV R_P 52 R_S y_S_add (Cond.code y_S_add b_S_add 6 (some .int) :: zTT)) := zgV w_mlink_P_52 w_imeth_S_add w_sel_S_add w_init_S w_code_S_add
theorem gS_P_47 : GoodIn zTT (va_wsS R_P 47 y_P_isUpTo (Cond.code y_P_isUpTo b_P_isUpTo 2 (some .boolean) :: zTT)) := zgS w_mlink_P_47 w_stat_P_isUpTo w_init_P w_code_P_isUpTo
theorem gV_P_56 : GoodIn zTT (wsV R_P 56 R_S y_S_has (Cond.code y_S_has b_S_has 2 (some .boolean) :: zTT)) := zgV w_mlink_P_56 w_imeth_S_has w_sel_S_has w_init_S w_code_S_has
theorem gV_A_58 : GoodIn zTT (wsV R_A 58 R_W y_W_valueAt (Cond.code y_W_valueAt b_W_valueAt 3 (some .long) :: zTT)) := zgV w_mlink_A_58 w_imeth_W_valueAt w_sel_W_valueAt w_init_W w_code_W_valueAt
theorem gV_A_62 : GoodIn zTT (wsV R_A 62 R_A y_A_metByAt (Cond.code y_A_metByAt b_A_metByAt 3 (some .int) :: zTT)) := zgV w_mlink_A_62 w_imeth_A_metByAt w_sel_A_metByAt w_init_A w_code_A_metByAt
theorem gV_A_51 : GoodIn zTT (wsV R_A 51 R_A y_A_meetMissing (Cond.code y_A_meetMissing b_A_meetMissing 5 none :: zTT)) := zgV w_mlink_A_51 w_imeth_A_meetMissing w_sel_A_meetMissing w_init_A w_code_A_meetMissing
theorem gV_P_65 : GoodIn zTT (wsV R_P 65 R_A y_A_add (Cond.code y_A_add b_A_add 8 (some .int) :: zTT)) := zgV w_mlink_P_65 w_imeth_A_add w_sel_A_add w_init_A w_code_A_add
theorem gV_W_23 : GoodIn zTT (wsV R_W 23 R_W y_W_valueAt (Cond.code y_W_valueAt b_W_valueAt 3 (some .long) :: zTT)) := zgV w_mlink_W_23 w_imeth_W_valueAt w_sel_W_valueAt w_init_W w_code_W_valueAt
theorem gV_W_19 : GoodIn zTT (wsV R_W 19 R_W y_W_contains (Cond.code y_W_contains b_W_contains 5 (some .boolean) :: zTT)) := zgV w_mlink_W_19 w_imeth_W_contains w_sel_W_contains w_init_W w_code_W_contains
theorem gV_P_73 : GoodIn zTT (wsV R_P 73 R_W y_W_append (Cond.code y_W_append b_W_append 4 (some .boolean) :: zTT)) := zgV w_mlink_P_73 w_imeth_W_append w_sel_W_append w_init_W w_code_W_append
theorem gV_P_68 : GoodIn zTT (wsV R_P 68 R_A y_A_has (Cond.code y_A_has b_A_has 2 (some .boolean) :: zTT)) := zgV w_mlink_P_68 w_imeth_A_has w_sel_A_has w_init_A w_code_A_has
theorem gV_A_70 : GoodIn zTT (wsV R_A 70 R_A y_A_firstOf (Cond.code y_A_firstOf b_A_firstOf 4 (some .int) :: zTT)) := zgV w_mlink_A_70 w_imeth_A_firstOf w_sel_A_firstOf w_init_A w_code_A_firstOf
theorem gV_A_66 : GoodIn zTT (wsV R_A 66 R_W y_W_append (Cond.code y_W_append b_W_append 4 (some .boolean) :: zTT)) := zgV w_mlink_A_66 w_imeth_W_append w_sel_W_append w_init_W w_code_W_append
theorem gV_P_79 : GoodIn zTT (wsV R_P 79 R_A y_A_addNeeded (Cond.code y_A_addNeeded b_A_addNeeded 5 (some .boolean) :: zTT)) := zgV w_mlink_P_79 w_imeth_A_addNeeded w_sel_A_addNeeded w_init_A w_code_A_addNeeded
theorem gV_P_82 : GoodIn zTT (wsV R_P 82 R_A y_A_setPath (Cond.code y_A_setPath b_A_setPath 5 none :: zTT)) := zgV w_mlink_P_82 w_imeth_A_setPath w_sel_A_setPath w_init_A w_code_A_setPath
theorem gV_P_86 : GoodIn zTT (wsV R_P 86 R_Y y_Y_add (Cond.code y_Y_add b_Y_add 4 (some .int) :: zTT)) := zgV w_mlink_P_86 w_imeth_Y_add w_sel_Y_add w_init_Y w_code_Y_add
theorem gN_Q_41 : GoodIn zTT (Cond.code y_P_hasBit b_P_hasBit 2 (some .boolean) :: zTT) := zgC w_code_P_hasBit
theorem gN_Q_41_k (D : va_G) (ca : Nat → ClassId) : ∀ U, zKK D ca U → va_Nw (.methodLinkNest R_Q 41 y_P_hasBit "ProvenanceRows") U := fun U h => h.2.2.2.2.2.2.1
theorem gV_Q_22 : GoodIn zTT (wsV R_Q 22 R_Q y_Q_reach (Cond.code y_Q_reach b_Q_reach 2 none :: zTT)) := zgV w_mlink_Q_22 w_imeth_Q_reach w_sel_Q_reach w_init_Q w_code_Q_reach
theorem gV_Q_37 : GoodIn zTT (wsV R_Q 37 R_A y_A_metByAt (Cond.code y_A_metByAt b_A_metByAt 3 (some .int) :: zTT)) := zgV w_mlink_Q_37 w_imeth_A_metByAt w_sel_A_metByAt w_init_A w_code_A_metByAt
theorem gV_P_89 : GoodIn zTT (wsV R_P 89 R_Q y_Q_walk (Cond.code y_Q_walk b_Q_walk 6 none :: zTT)) := zgV w_mlink_P_89 w_imeth_Q_walk w_sel_Q_walk w_init_Q w_code_Q_walk
theorem gS_P_155 : GoodIn zTT (va_wsS R_P 155 y_P_hasBit (Cond.code y_P_hasBit b_P_hasBit 2 (some .boolean) :: zTT)) := zgS w_mlink_P_155 w_stat_P_hasBit w_init_P w_code_P_hasBit
theorem gV_P_182 : GoodIn zTT (wsV R_P 182 R_A y_A_usedAt (Cond.code y_A_usedAt b_A_usedAt 3 (some .int) :: zTT)) := zgV w_mlink_P_182 w_imeth_A_usedAt w_sel_A_usedAt w_init_A w_code_A_usedAt
theorem gV_P_158 : GoodIn zTT (wsV R_P 158 R_P y_P_usesBranchOutside (Cond.code y_P_usesBranchOutside b_P_usesBranchOutside 4 (some .boolean) :: zTT)) := zgV w_mlink_P_158 w_imeth_P_usesBranchOutside w_sel_P_usesBranchOutside w_init_P w_code_P_usesBranchOutside
theorem gS_P_188 : GoodIn zTT (va_wsS R_P 188 y_Ig_bitCount (Cond.code y_Ig_bitCount b_Ig_bitCount 1 (some .int) :: zTT)) := zgS w_mlink_P_188 w_stat_Ig_bitCount w_init_Ig w_code_Ig_bitCount
theorem gV_P_161 : GoodIn zTT (wsV R_P 161 R_P y_P_usesReviewedBelow (Cond.code y_P_usesReviewedBelow b_P_usesReviewedBelow 6 (some .boolean) :: zTT)) := zgV w_mlink_P_161 w_imeth_P_usesReviewedBelow w_sel_P_usesReviewedBelow w_init_P w_code_P_usesReviewedBelow
theorem gV_P_164 : GoodIn zTT (wsV R_P 164 R_P y_P_usesFetchedUntold (Cond.code y_P_usesFetchedUntold b_P_usesFetchedUntold 3 (some .boolean) :: zTT)) := zgV w_mlink_P_164 w_imeth_P_usesFetchedUntold w_sel_P_usesFetchedUntold w_init_P w_code_P_usesFetchedUntold
theorem gV_P_112 : GoodIn zTT (wsV R_P 112 R_A y_A_missingPlace (Cond.code y_A_missingPlace b_A_missingPlace 5 (some .int) :: zTT)) := zgV w_mlink_P_112 w_imeth_A_missingPlace w_sel_A_missingPlace w_init_A w_code_A_missingPlace
theorem gV_P_167 : GoodIn zTT (wsV R_P 167 R_A y_A_needsLaterBy (Cond.code y_A_needsLaterBy b_A_needsLaterBy 5 (some .boolean) :: zTT)) := zgV w_mlink_P_167 w_imeth_A_needsLaterBy w_sel_A_needsLaterBy w_init_A w_code_A_needsLaterBy
theorem gV_A_78 : GoodIn zTT (wsV R_A 78 R_W y_W_sameInOrder (Cond.code y_W_sameInOrder b_W_sameInOrder 4 (some .boolean) :: zTT)) := zgV w_mlink_A_78 w_imeth_W_sameInOrder w_sel_W_sameInOrder w_init_W w_code_W_sameInOrder
theorem gV_A_74 : GoodIn zTT (wsV R_A 74 R_A y_A_clashing (Cond.code y_A_clashing b_A_clashing 4 (some .boolean) :: zTT)) := zgV w_mlink_A_74 w_imeth_A_clashing w_sel_A_clashing w_init_A w_code_A_clashing
theorem gV_P_170 : GoodIn zTT (wsV R_P 170 R_A y_A_clashesWithAny (Cond.code y_A_clashesWithAny b_A_clashesWithAny 3 (some .boolean) :: zTT)) := zgV w_mlink_P_170 w_imeth_A_clashesWithAny w_sel_A_clashesWithAny w_init_A w_code_A_clashesWithAny
theorem gV_P_173 : GoodIn zTT (wsV R_P 173 R_A y_A_restsOnNothing (Cond.code y_A_restsOnNothing b_A_restsOnNothing 2 (some .boolean) :: zTT)) := zgV w_mlink_P_173 w_imeth_A_restsOnNothing w_sel_A_restsOnNothing w_init_A w_code_A_restsOnNothing
theorem gV_P_105 : GoodIn zTT (wsV R_P 105 R_P y_P_isBroken (Cond.code y_P_isBroken b_P_isBroken 4 (some .boolean) :: zTT)) := zgV w_mlink_P_105 w_imeth_P_isBroken w_sel_P_isBroken w_init_P w_code_P_isBroken
theorem gV_P_100 : GoodIn zTT (wsV R_P 100 R_P y_P_firstBrokenBy (Cond.code y_P_firstBrokenBy b_P_firstBrokenBy 3 (some .int) :: zTT)) := zgV w_mlink_P_100 w_imeth_P_firstBrokenBy w_sel_P_firstBrokenBy w_init_P w_code_P_firstBrokenBy
theorem gV_P_104 : GoodIn zTT (wsV R_P 104 R_Y y_Y_has (Cond.code y_Y_has b_Y_has 2 (some .boolean) :: zTT)) := zgV w_mlink_P_104 w_imeth_Y_has w_sel_Y_has w_init_Y w_code_Y_has
theorem gV_P_193 : GoodIn zTT (wsV R_P 193 R_P y_P_usesDigest (Cond.code y_P_usesDigest b_P_usesDigest 5 (some .boolean) :: zTT)) := zgV w_mlink_P_193 w_imeth_P_usesDigest w_sel_P_usesDigest w_init_P w_code_P_usesDigest
theorem gV_P_109 : GoodIn zTT (wsV R_P 109 R_P y_P_restsOn (Cond.code y_P_restsOn b_P_restsOn 5 (some .boolean) :: zTT)) := zgV w_mlink_P_109 w_imeth_P_restsOn w_sel_P_restsOn w_init_P w_code_P_restsOn
theorem gN_A_81 : GoodIn zTT (Cond.code y_P_hasBit b_P_hasBit 2 (some .boolean) :: zTT) := zgC w_code_P_hasBit
theorem gN_A_81_k (D : va_G) (ca : Nat → ClassId) : ∀ U, zKK D ca U → va_Nw (.methodLinkNest R_A 81 y_P_hasBit "ProvenanceRows") U := fun U h => h.2.2.2.2.2.2.2
theorem gS_P_119 : GoodIn zTT (va_wsS R_P 119 y_P_bitIf (Cond.code y_P_bitIf b_P_bitIf 2 (some .int) :: zTT)) := zgS w_mlink_P_119 w_stat_P_bitIf w_init_P w_code_P_bitIf
theorem gV_P_115 : GoodIn zTT (wsV R_P 115 R_A y_A_differAtPath (Cond.code y_A_differAtPath b_A_differAtPath 4 (some .boolean) :: zTT)) := zgV w_mlink_P_115 w_imeth_A_differAtPath w_sel_A_differAtPath w_init_A w_code_A_differAtPath
theorem gV_P_139 : GoodIn zTT (wsV R_P 139 R_W y_W_sameAsSets (Cond.code y_W_sameAsSets b_W_sameAsSets 4 (some .boolean) :: zTT)) := zgV w_mlink_P_139 w_imeth_W_sameAsSets w_sel_W_sameAsSets w_init_W w_code_W_sameAsSets
theorem gV_P_145 : GoodIn zTT (wsV R_P 145 R_A y_A_clashing (Cond.code y_A_clashing b_A_clashing 4 (some .boolean) :: zTT)) := zgV w_mlink_P_145 w_imeth_A_clashing w_sel_A_clashing w_init_A w_code_A_clashing
theorem gS_M_82 : GoodIn zTT (va_wsS R_M 82 y_M_within (Cond.code y_M_within b_M_within 3 (some .boolean) :: zTT)) := zgS w_mlink_M_82 w_stat_M_within w_init_M w_code_M_within
theorem gV_M_87 : GoodIn zTT (wsV R_M 87 R_M y_M_isSource (Cond.code y_M_isSource b_M_isSource 2 (some .boolean) :: zTT)) := zgV w_mlink_M_87 w_imeth_M_isSource w_sel_M_isSource w_init_M w_code_M_isSource
theorem gV_M_95 : GoodIn zTT (wsV R_M 95 R_M y_M_hasUse (Cond.code y_M_hasUse b_M_hasUse 5 (some .boolean) :: zTT)) := zgV w_mlink_M_95 w_imeth_M_hasUse w_sel_M_hasUse w_init_M w_code_M_hasUse
theorem gV_M_92 : GoodIn zTT (wsV R_M 92 R_M y_M_isArtefact (Cond.code y_M_isArtefact b_M_isArtefact 2 (some .boolean) :: zTT)) := zgV w_mlink_M_92 w_imeth_M_isArtefact w_sel_M_isArtefact w_init_M w_code_M_isArtefact
theorem gV_M_99 : GoodIn zTT (wsV R_M 99 R_M y_M_hasNeed (Cond.code y_M_hasNeed b_M_hasNeed 6 (some .boolean) :: zTT)) := zgV w_mlink_M_99 w_imeth_M_hasNeed w_sel_M_hasNeed w_init_M w_code_M_hasNeed
theorem gV_M_109 : GoodIn zTT (wsV R_M 109 R_M y_M_come (Cond.code y_M_come b_M_come 3 none :: zTT)) := zgV w_mlink_M_109 w_imeth_M_come w_sel_M_come w_init_M w_code_M_come
theorem gV_M_113 : GoodIn zTT (wsV R_M 113 R_M y_M_meets (Cond.code y_M_meets b_M_meets 4 (some .int) :: zTT)) := zgV w_mlink_M_113 w_imeth_M_meets w_sel_M_meets w_init_M w_code_M_meets
theorem gV_M_117 : GoodIn zTT (wsV R_M 117 R_M y_M_goAlong (Cond.code y_M_goAlong b_M_goAlong 7 none :: zTT)) := zgV w_mlink_M_117 w_imeth_M_goAlong w_sel_M_goAlong w_init_M w_code_M_goAlong
theorem gV_M_123 : GoodIn zTT (wsV R_M 123 R_M y_M_others (Cond.code y_M_others b_M_others 5 (some .int) :: zTT)) := zgV w_mlink_M_123 w_imeth_M_others w_sel_M_others w_init_M w_code_M_others
theorem gV_M_130 : GoodIn zTT (wsV R_M 130 R_M y_M_sourceBreaks (Cond.code y_M_sourceBreaks b_M_sourceBreaks 7 (some .boolean) :: zTT)) := zgV w_mlink_M_130 w_imeth_M_sourceBreaks w_sel_M_sourceBreaks w_init_M w_code_M_sourceBreaks
theorem gV_M_133 : GoodIn zTT (wsV R_M 133 R_M y_M_missing (Cond.code y_M_missing b_M_missing 5 (some .int) :: zTT)) := zgV w_mlink_M_133 w_imeth_M_missing w_sel_M_missing w_init_M w_code_M_missing
theorem gV_M_136 : GoodIn zTT (wsV R_M 136 R_M y_M_isLate (Cond.code y_M_isLate b_M_isLate 5 (some .boolean) :: zTT)) := zgV w_mlink_M_136 w_imeth_M_isLate w_sel_M_isLate w_init_M w_code_M_isLate
theorem gV_M_127 : GoodIn zTT (wsV R_M 127 R_M y_M_agree (Cond.code y_M_agree b_M_agree 5 (some .boolean) :: zTT)) := zgV w_mlink_M_127 w_imeth_M_agree w_sel_M_agree w_init_M w_code_M_agree
theorem gV_M_139 : GoodIn zTT (wsV R_M 139 R_M y_M_isClash (Cond.code y_M_isClash b_M_isClash 3 (some .boolean) :: zTT)) := zgV w_mlink_M_139 w_imeth_M_isClash w_sel_M_isClash w_init_M w_code_M_isClash
theorem gV_M_142 : GoodIn zTT (wsV R_M 142 R_M y_M_isBroken (Cond.code y_M_isBroken b_M_isBroken 6 (some .boolean) :: zTT)) := zgV w_mlink_M_142 w_imeth_M_isBroken w_sel_M_isBroken w_init_M w_code_M_isBroken
theorem gV_M_148 : GoodIn zTT (wsV R_M 148 R_M y_M_sameSources (Cond.code y_M_sameSources b_M_sameSources 5 (some .boolean) :: zTT)) := zgV w_mlink_M_148 w_imeth_M_sameSources w_sel_M_sameSources w_init_M w_code_M_sameSources
theorem gV_M_151 : GoodIn zTT (wsV R_M 151 R_M y_M_sameNeeds (Cond.code y_M_sameNeeds b_M_sameNeeds 5 (some .boolean) :: zTT)) := zgV w_mlink_M_151 w_imeth_M_sameNeeds w_sel_M_sameNeeds w_init_M w_code_M_sameNeeds
theorem gC_P_9 : GoodIn zTT (Cond.code y_S_init b_S_init 1 none :: zTT) := zgC w_code_S_init
theorem gC_P_9_k (D : va_G) : ∀ U, zK0 D U → va_Nw (.methodLinkNest R_P 9 y_S_init "ProvenanceRows") U := fun U h => h.2.1
theorem gC_A_30 : GoodIn zTT (Cond.code y_W_init b_W_init 1 none :: zTT) := zgC w_code_W_init
theorem gC_A_30_k (D : va_G) : ∀ U, zK0 D U → va_Nw (.methodLinkNest R_A 30 y_W_init "ProvenanceRows") U := fun U h => h.2.2.2.1
theorem gC_P_18 : GoodIn zTT (Cond.code y_A_init b_A_init 1 none :: zTT) := zgC w_code_A_init
theorem gC_P_18_k (D : va_G) : ∀ U, zK0 D U → va_Nw (.methodLinkNest R_P 18 y_A_init "ProvenanceRows") U := fun U h => h.2.2.1
theorem gC_P_25 : GoodIn zTT (Cond.code y_Y_init b_Y_init 1 none :: zTT) := zgC w_code_Y_init
theorem gC_P_25_k (D : va_G) : ∀ U, zK0 D U → va_Nw (.methodLinkNest R_P 25 y_Y_init "ProvenanceRows") U := fun U h => h.2.2.2.2.1
theorem gC_P_32 : GoodIn zTT (Cond.code y_Q_init b_Q_init 1 none :: zTT) := zgC w_code_Q_init
theorem gC_P_32_k (D : va_G) : ∀ U, zK0 D U → va_Nw (.methodLinkNest R_P 32 y_Q_init "ProvenanceRows") U := fun U h => h.2.2.2.2.2.1
end
section
theorem d_P_isUpTo_0 : decode b_P_isUpTo 0 = .ok (.iload_n 0, 1) := by decide +kernel
theorem d_P_isUpTo_1 : decode b_P_isUpTo 1 = .ok (.ifCond .lt 12, 3) := by decide +kernel
theorem d_P_isUpTo_4 : decode b_P_isUpTo 4 = .ok (.iload_n 0, 1) := by decide +kernel
theorem d_P_isUpTo_5 : decode b_P_isUpTo 5 = .ok (.iload_n 1, 1) := by decide +kernel
theorem d_P_isUpTo_6 : decode b_P_isUpTo 6 = .ok (.if_icmp .gt 7, 3) := by decide +kernel
theorem d_P_isUpTo_9 : decode b_P_isUpTo 9 = .ok (.iconst 1, 1) := by decide +kernel
theorem d_P_isUpTo_10 : decode b_P_isUpTo 10 = .ok (.goto 4, 3) := by decide +kernel
theorem d_P_isUpTo_13 : decode b_P_isUpTo 13 = .ok (.iconst 0, 1) := by decide +kernel
theorem d_P_isUpTo_14 : decode b_P_isUpTo 14 = .ok (.ireturn, 1) := by decide +kernel
theorem d_S_add_0 : decode b_S_add 0 = .ok (.aload_n 0, 1) := by decide +kernel
theorem d_S_add_1 : decode b_S_add 1 = .ok (.getfield 26, 3) := by decide +kernel
theorem d_S_add_4 : decode b_S_add 4 = .ok (.bipush 24, 2) := by decide +kernel
theorem d_S_add_6 : decode b_S_add 6 = .ok (.if_icmp .lt 5, 3) := by decide +kernel
theorem d_S_add_9 : decode b_S_add 9 = .ok (.iconst (-1), 1) := by decide +kernel
theorem d_S_add_10 : decode b_S_add 10 = .ok (.ireturn, 1) := by decide +kernel
theorem d_S_add_11 : decode b_S_add 11 = .ok (.aload_n 0, 1) := by decide +kernel
theorem d_S_add_12 : decode b_S_add 12 = .ok (.getfield 26, 3) := by decide +kernel
theorem d_S_add_15 : decode b_S_add 15 = .ok (.istore 5, 2) := by decide +kernel
theorem d_S_add_17 : decode b_S_add 17 = .ok (.aload_n 0, 1) := by decide +kernel
theorem d_S_add_18 : decode b_S_add 18 = .ok (.getfield 9, 3) := by decide +kernel
theorem d_S_add_21 : decode b_S_add 21 = .ok (.iload 5, 2) := by decide +kernel
theorem d_S_add_23 : decode b_S_add 23 = .ok (.lload_n 1, 1) := by decide +kernel
theorem d_S_add_24 : decode b_S_add 24 = .ok (.lastore, 1) := by decide +kernel
theorem d_S_add_25 : decode b_S_add 25 = .ok (.aload_n 0, 1) := by decide +kernel
theorem d_S_add_26 : decode b_S_add 26 = .ok (.getfield 15, 3) := by decide +kernel
theorem d_S_add_29 : decode b_S_add 29 = .ok (.iload 5, 2) := by decide +kernel
theorem d_S_add_31 : decode b_S_add 31 = .ok (.iload_n 3, 1) := by decide +kernel
theorem d_S_add_32 : decode b_S_add 32 = .ok (.iastore, 1) := by decide +kernel
theorem d_S_add_33 : decode b_S_add 33 = .ok (.aload_n 0, 1) := by decide +kernel
theorem d_S_add_34 : decode b_S_add 34 = .ok (.getfield 19, 3) := by decide +kernel
theorem d_S_add_37 : decode b_S_add 37 = .ok (.iload 5, 2) := by decide +kernel
theorem d_S_add_39 : decode b_S_add 39 = .ok (.iload 4, 2) := by decide +kernel
theorem d_S_add_41 : decode b_S_add 41 = .ok (.iastore, 1) := by decide +kernel
theorem d_S_add_42 : decode b_S_add 42 = .ok (.aload_n 0, 1) := by decide +kernel
theorem d_S_add_43 : decode b_S_add 43 = .ok (.dup, 1) := by decide +kernel
theorem d_S_add_44 : decode b_S_add 44 = .ok (.getfield 26, 3) := by decide +kernel
theorem d_S_add_47 : decode b_S_add 47 = .ok (.iconst 1, 1) := by decide +kernel
theorem d_S_add_48 : decode b_S_add 48 = .ok (.iadd, 1) := by decide +kernel
theorem d_S_add_49 : decode b_S_add 49 = .ok (.putfield 26, 3) := by decide +kernel
theorem d_S_add_52 : decode b_S_add 52 = .ok (.iload 5, 2) := by decide +kernel
theorem d_S_add_54 : decode b_S_add 54 = .ok (.ireturn, 1) := by decide +kernel
theorem d_P_source_0 : decode b_P_source 0 = .ok (.iload_n 3, 1) := by decide +kernel
theorem d_P_source_1 : decode b_P_source 1 = .ok (.bipush 7, 2) := by decide +kernel
theorem d_P_source_3 : decode b_P_source 3 = .ok (.invokestatic 47, 3) := by decide +kernel
theorem d_P_source_6 : decode b_P_source 6 = .ok (.ifCond .ne 5, 3) := by decide +kernel
theorem d_P_source_9 : decode b_P_source 9 = .ok (.iconst (-1), 1) := by decide +kernel
theorem d_P_source_10 : decode b_P_source 10 = .ok (.ireturn, 1) := by decide +kernel
theorem d_P_source_11 : decode b_P_source 11 = .ok (.aload_n 0, 1) := by decide +kernel
theorem d_P_source_12 : decode b_P_source 12 = .ok (.getfield 10, 3) := by decide +kernel
theorem d_P_source_15 : decode b_P_source 15 = .ok (.lload_n 1, 1) := by decide +kernel
theorem d_P_source_16 : decode b_P_source 16 = .ok (.iload_n 3, 1) := by decide +kernel
theorem d_P_source_17 : decode b_P_source 17 = .ok (.iload 4, 2) := by decide +kernel
theorem d_P_source_19 : decode b_P_source 19 = .ok (.ldc 51, 2) := by decide +kernel
theorem d_P_source_21 : decode b_P_source 21 = .ok (.iand, 1) := by decide +kernel
theorem d_P_source_22 : decode b_P_source 22 = .ok (.invokevirtual 52, 3) := by decide +kernel
theorem d_P_source_25 : decode b_P_source 25 = .ok (.ireturn, 1) := by decide +kernel
theorem d_S_has_0 : decode b_S_has 0 = .ok (.iload_n 1, 1) := by decide +kernel
theorem d_S_has_1 : decode b_S_has 1 = .ok (.ifCond .lt 15, 3) := by decide +kernel
theorem d_S_has_4 : decode b_S_has 4 = .ok (.iload_n 1, 1) := by decide +kernel
theorem d_S_has_5 : decode b_S_has 5 = .ok (.aload_n 0, 1) := by decide +kernel
theorem d_S_has_6 : decode b_S_has 6 = .ok (.getfield 26, 3) := by decide +kernel
theorem d_S_has_9 : decode b_S_has 9 = .ok (.if_icmp .ge 7, 3) := by decide +kernel
theorem d_S_has_12 : decode b_S_has 12 = .ok (.iconst 1, 1) := by decide +kernel
theorem d_S_has_13 : decode b_S_has 13 = .ok (.goto 4, 3) := by decide +kernel
theorem d_S_has_16 : decode b_S_has 16 = .ok (.iconst 0, 1) := by decide +kernel
theorem d_S_has_17 : decode b_S_has 17 = .ok (.ireturn, 1) := by decide +kernel
theorem d_P_fetched_0 : decode b_P_fetched 0 = .ok (.aload_n 0, 1) := by decide +kernel
theorem d_P_fetched_1 : decode b_P_fetched 1 = .ok (.getfield 10, 3) := by decide +kernel
theorem d_P_fetched_4 : decode b_P_fetched 4 = .ok (.iload_n 1, 1) := by decide +kernel
theorem d_P_fetched_5 : decode b_P_fetched 5 = .ok (.invokevirtual 56, 3) := by decide +kernel
theorem d_P_fetched_8 : decode b_P_fetched 8 = .ok (.ifCond .ne 5, 3) := by decide +kernel
theorem d_P_fetched_11 : decode b_P_fetched 11 = .ok (.iconst 0, 1) := by decide +kernel
theorem d_P_fetched_12 : decode b_P_fetched 12 = .ok (.ireturn, 1) := by decide +kernel
theorem d_P_fetched_13 : decode b_P_fetched 13 = .ok (.aload_n 0, 1) := by decide +kernel
theorem d_P_fetched_14 : decode b_P_fetched 14 = .ok (.getfield 10, 3) := by decide +kernel
theorem d_P_fetched_17 : decode b_P_fetched 17 = .ok (.getfield 60, 3) := by decide +kernel
theorem d_P_fetched_20 : decode b_P_fetched 20 = .ok (.iload_n 1, 1) := by decide +kernel
theorem d_P_fetched_21 : decode b_P_fetched 21 = .ok (.iload_n 2, 1) := by decide +kernel
theorem d_P_fetched_22 : decode b_P_fetched 22 = .ok (.ifCond .ne 7, 3) := by decide +kernel
theorem d_P_fetched_25 : decode b_P_fetched 25 = .ok (.iconst 1, 1) := by decide +kernel
theorem d_P_fetched_26 : decode b_P_fetched 26 = .ok (.goto 4, 3) := by decide +kernel
theorem d_P_fetched_29 : decode b_P_fetched 29 = .ok (.iconst 0, 1) := by decide +kernel
theorem d_P_fetched_30 : decode b_P_fetched 30 = .ok (.bastore, 1) := by decide +kernel
theorem d_P_fetched_31 : decode b_P_fetched 31 = .ok (.iconst 1, 1) := by decide +kernel
theorem d_P_fetched_32 : decode b_P_fetched 32 = .ok (.ireturn, 1) := by decide +kernel
theorem d_W_valueAt_0 : decode b_W_valueAt 0 = .ok (.aload_n 0, 1) := by decide +kernel
theorem d_W_valueAt_1 : decode b_W_valueAt 1 = .ok (.getfield 15, 3) := by decide +kernel
theorem d_W_valueAt_4 : decode b_W_valueAt 4 = .ok (.iload_n 1, 1) := by decide +kernel
theorem d_W_valueAt_5 : decode b_W_valueAt 5 = .ok (.bipush 6, 2) := by decide +kernel
theorem d_W_valueAt_7 : decode b_W_valueAt 7 = .ok (.imul, 1) := by decide +kernel
theorem d_W_valueAt_8 : decode b_W_valueAt 8 = .ok (.iload_n 2, 1) := by decide +kernel
theorem d_W_valueAt_9 : decode b_W_valueAt 9 = .ok (.iadd, 1) := by decide +kernel
theorem d_W_valueAt_10 : decode b_W_valueAt 10 = .ok (.laload, 1) := by decide +kernel
theorem d_W_valueAt_11 : decode b_W_valueAt 11 = .ok (.lreturn, 1) := by decide +kernel
theorem d_A_metByAt_0 : decode b_A_metByAt 0 = .ok (.aload_n 0, 1) := by decide +kernel
theorem d_A_metByAt_1 : decode b_A_metByAt 1 = .ok (.getfield 38, 3) := by decide +kernel
theorem d_A_metByAt_4 : decode b_A_metByAt 4 = .ok (.iload_n 1, 1) := by decide +kernel
theorem d_A_metByAt_5 : decode b_A_metByAt 5 = .ok (.bipush 6, 2) := by decide +kernel
theorem d_A_metByAt_7 : decode b_A_metByAt 7 = .ok (.imul, 1) := by decide +kernel
theorem d_A_metByAt_8 : decode b_A_metByAt 8 = .ok (.iload_n 2, 1) := by decide +kernel
theorem d_A_metByAt_9 : decode b_A_metByAt 9 = .ok (.iadd, 1) := by decide +kernel
theorem d_A_metByAt_10 : decode b_A_metByAt 10 = .ok (.iaload, 1) := by decide +kernel
theorem d_A_metByAt_11 : decode b_A_metByAt 11 = .ok (.ireturn, 1) := by decide +kernel
theorem d_A_meetMissing_0 : decode b_A_meetMissing 0 = .ok (.iconst 0, 1) := by decide +kernel
theorem d_A_meetMissing_1 : decode b_A_meetMissing 1 = .ok (.istore_n 2, 1) := by decide +kernel
theorem d_A_meetMissing_2 : decode b_A_meetMissing 2 = .ok (.iload_n 2, 1) := by decide +kernel
theorem d_A_meetMissing_3 : decode b_A_meetMissing 3 = .ok (.aload_n 0, 1) := by decide +kernel
theorem d_A_meetMissing_4 : decode b_A_meetMissing 4 = .ok (.getfield 47, 3) := by decide +kernel
theorem d_A_meetMissing_7 : decode b_A_meetMissing 7 = .ok (.if_icmp .ge 83, 3) := by decide +kernel
theorem d_A_meetMissing_10 : decode b_A_meetMissing 10 = .ok (.iconst 0, 1) := by decide +kernel
theorem d_A_meetMissing_11 : decode b_A_meetMissing 11 = .ok (.istore_n 3, 1) := by decide +kernel
theorem d_A_meetMissing_12 : decode b_A_meetMissing 12 = .ok (.iload_n 3, 1) := by decide +kernel
theorem d_A_meetMissing_13 : decode b_A_meetMissing 13 = .ok (.aload_n 0, 1) := by decide +kernel
theorem d_A_meetMissing_14 : decode b_A_meetMissing 14 = .ok (.getfield 35, 3) := by decide +kernel
theorem d_A_meetMissing_17 : decode b_A_meetMissing 17 = .ok (.getfield 55, 3) := by decide +kernel
theorem d_A_meetMissing_20 : decode b_A_meetMissing 20 = .ok (.iload_n 2, 1) := by decide +kernel
theorem d_A_meetMissing_21 : decode b_A_meetMissing 21 = .ok (.iaload, 1) := by decide +kernel
theorem d_A_meetMissing_22 : decode b_A_meetMissing 22 = .ok (.if_icmp .ge 62, 3) := by decide +kernel
theorem d_A_meetMissing_25 : decode b_A_meetMissing 25 = .ok (.aload_n 0, 1) := by decide +kernel
theorem d_A_meetMissing_26 : decode b_A_meetMissing 26 = .ok (.getfield 35, 3) := by decide +kernel
theorem d_A_meetMissing_29 : decode b_A_meetMissing 29 = .ok (.iload_n 2, 1) := by decide +kernel
theorem d_A_meetMissing_30 : decode b_A_meetMissing 30 = .ok (.iload_n 3, 1) := by decide +kernel
theorem d_A_meetMissing_31 : decode b_A_meetMissing 31 = .ok (.invokevirtual 58, 3) := by decide +kernel
theorem d_A_meetMissing_34 : decode b_A_meetMissing 34 = .ok (.aload_n 0, 1) := by decide +kernel
theorem d_A_meetMissing_35 : decode b_A_meetMissing 35 = .ok (.getfield 9, 3) := by decide +kernel
theorem d_A_meetMissing_38 : decode b_A_meetMissing 38 = .ok (.iload_n 1, 1) := by decide +kernel
theorem d_A_meetMissing_39 : decode b_A_meetMissing 39 = .ok (.laload, 1) := by decide +kernel
theorem d_A_meetMissing_40 : decode b_A_meetMissing 40 = .ok (.lcmp, 1) := by decide +kernel
theorem d_A_meetMissing_41 : decode b_A_meetMissing 41 = .ok (.ifCond .ne 7, 3) := by decide +kernel
theorem d_A_meetMissing_44 : decode b_A_meetMissing 44 = .ok (.iconst 1, 1) := by decide +kernel
theorem d_A_meetMissing_45 : decode b_A_meetMissing 45 = .ok (.goto 4, 3) := by decide +kernel
theorem d_A_meetMissing_48 : decode b_A_meetMissing 48 = .ok (.iconst 0, 1) := by decide +kernel
theorem d_A_meetMissing_49 : decode b_A_meetMissing 49 = .ok (.istore 4, 2) := by decide +kernel
theorem d_A_meetMissing_51 : decode b_A_meetMissing 51 = .ok (.iload 4, 2) := by decide +kernel
theorem d_A_meetMissing_53 : decode b_A_meetMissing 53 = .ok (.ifCond .eq 25, 3) := by decide +kernel
theorem d_A_meetMissing_56 : decode b_A_meetMissing 56 = .ok (.aload_n 0, 1) := by decide +kernel
theorem d_A_meetMissing_57 : decode b_A_meetMissing 57 = .ok (.iload_n 2, 1) := by decide +kernel
theorem d_A_meetMissing_58 : decode b_A_meetMissing 58 = .ok (.iload_n 3, 1) := by decide +kernel
theorem d_A_meetMissing_59 : decode b_A_meetMissing 59 = .ok (.invokevirtual 62, 3) := by decide +kernel
theorem d_A_meetMissing_62 : decode b_A_meetMissing 62 = .ok (.iconst (-1), 1) := by decide +kernel
theorem d_A_meetMissing_63 : decode b_A_meetMissing 63 = .ok (.if_icmp .ne 15, 3) := by decide +kernel
theorem d_A_meetMissing_66 : decode b_A_meetMissing 66 = .ok (.aload_n 0, 1) := by decide +kernel
theorem d_A_meetMissing_67 : decode b_A_meetMissing 67 = .ok (.getfield 38, 3) := by decide +kernel
theorem d_A_meetMissing_70 : decode b_A_meetMissing 70 = .ok (.iload_n 2, 1) := by decide +kernel
theorem d_A_meetMissing_71 : decode b_A_meetMissing 71 = .ok (.bipush 6, 2) := by decide +kernel
theorem d_A_meetMissing_73 : decode b_A_meetMissing 73 = .ok (.imul, 1) := by decide +kernel
theorem d_A_meetMissing_74 : decode b_A_meetMissing 74 = .ok (.iload_n 3, 1) := by decide +kernel
theorem d_A_meetMissing_75 : decode b_A_meetMissing 75 = .ok (.iadd, 1) := by decide +kernel
theorem d_A_meetMissing_76 : decode b_A_meetMissing 76 = .ok (.iload_n 1, 1) := by decide +kernel
theorem d_A_meetMissing_77 : decode b_A_meetMissing 77 = .ok (.iastore, 1) := by decide +kernel
theorem d_A_meetMissing_78 : decode b_A_meetMissing 78 = .ok (.iinc 3 1, 3) := by decide +kernel
theorem d_A_meetMissing_81 : decode b_A_meetMissing 81 = .ok (.goto (-69), 3) := by decide +kernel
theorem d_A_meetMissing_84 : decode b_A_meetMissing 84 = .ok (.iinc 2 1, 3) := by decide +kernel
theorem d_A_meetMissing_87 : decode b_A_meetMissing 87 = .ok (.goto (-85), 3) := by decide +kernel
theorem d_A_meetMissing_90 : decode b_A_meetMissing 90 = .ok (.return_, 1) := by decide +kernel
theorem d_A_add_0 : decode b_A_add 0 = .ok (.aload_n 0, 1) := by decide +kernel
theorem d_A_add_1 : decode b_A_add 1 = .ok (.getfield 47, 3) := by decide +kernel
theorem d_A_add_4 : decode b_A_add 4 = .ok (.bipush 32, 2) := by decide +kernel
theorem d_A_add_6 : decode b_A_add 6 = .ok (.if_icmp .lt 5, 3) := by decide +kernel
theorem d_A_add_9 : decode b_A_add 9 = .ok (.iconst (-1), 1) := by decide +kernel
theorem d_A_add_10 : decode b_A_add 10 = .ok (.ireturn, 1) := by decide +kernel
theorem d_A_add_11 : decode b_A_add 11 = .ok (.aload_n 0, 1) := by decide +kernel
theorem d_A_add_12 : decode b_A_add 12 = .ok (.getfield 47, 3) := by decide +kernel
theorem d_A_add_15 : decode b_A_add 15 = .ok (.istore 7, 2) := by decide +kernel
theorem d_A_add_17 : decode b_A_add 17 = .ok (.aload_n 0, 1) := by decide +kernel
theorem d_A_add_18 : decode b_A_add 18 = .ok (.getfield 9, 3) := by decide +kernel
theorem d_A_add_21 : decode b_A_add 21 = .ok (.iload 7, 2) := by decide +kernel
theorem d_A_add_23 : decode b_A_add 23 = .ok (.lload_n 1, 1) := by decide +kernel
theorem d_A_add_24 : decode b_A_add 24 = .ok (.lastore, 1) := by decide +kernel
theorem d_A_add_25 : decode b_A_add 25 = .ok (.aload_n 0, 1) := by decide +kernel
theorem d_A_add_26 : decode b_A_add 26 = .ok (.getfield 15, 3) := by decide +kernel
theorem d_A_add_29 : decode b_A_add 29 = .ok (.iload 7, 2) := by decide +kernel
theorem d_A_add_31 : decode b_A_add 31 = .ok (.iload_n 3, 1) := by decide +kernel
theorem d_A_add_32 : decode b_A_add 32 = .ok (.iastore, 1) := by decide +kernel
theorem d_A_add_33 : decode b_A_add 33 = .ok (.aload_n 0, 1) := by decide +kernel
theorem d_A_add_34 : decode b_A_add 34 = .ok (.getfield 19, 3) := by decide +kernel
theorem d_A_add_37 : decode b_A_add 37 = .ok (.iload 7, 2) := by decide +kernel
theorem d_A_add_39 : decode b_A_add 39 = .ok (.iload 4, 2) := by decide +kernel
theorem d_A_add_41 : decode b_A_add 41 = .ok (.iastore, 1) := by decide +kernel
theorem d_A_add_42 : decode b_A_add 42 = .ok (.aload_n 0, 1) := by decide +kernel
theorem d_A_add_43 : decode b_A_add 43 = .ok (.getfield 22, 3) := by decide +kernel
theorem d_A_add_46 : decode b_A_add 46 = .ok (.iload 7, 2) := by decide +kernel
theorem d_A_add_48 : decode b_A_add 48 = .ok (.iload 5, 2) := by decide +kernel
theorem d_A_add_50 : decode b_A_add 50 = .ok (.iastore, 1) := by decide +kernel
theorem d_A_add_51 : decode b_A_add 51 = .ok (.aload_n 0, 1) := by decide +kernel
theorem d_A_add_52 : decode b_A_add 52 = .ok (.getfield 25, 3) := by decide +kernel
theorem d_A_add_55 : decode b_A_add 55 = .ok (.iload 7, 2) := by decide +kernel
theorem d_A_add_57 : decode b_A_add 57 = .ok (.iload 6, 2) := by decide +kernel
theorem d_A_add_59 : decode b_A_add 59 = .ok (.iastore, 1) := by decide +kernel
theorem d_A_add_60 : decode b_A_add 60 = .ok (.aload_n 0, 1) := by decide +kernel
theorem d_A_add_61 : decode b_A_add 61 = .ok (.dup, 1) := by decide +kernel
theorem d_A_add_62 : decode b_A_add 62 = .ok (.getfield 47, 3) := by decide +kernel
theorem d_A_add_65 : decode b_A_add 65 = .ok (.iconst 1, 1) := by decide +kernel
theorem d_A_add_66 : decode b_A_add 66 = .ok (.iadd, 1) := by decide +kernel
theorem d_A_add_67 : decode b_A_add 67 = .ok (.putfield 47, 3) := by decide +kernel
theorem d_A_add_70 : decode b_A_add 70 = .ok (.aload_n 0, 1) := by decide +kernel
theorem d_A_add_71 : decode b_A_add 71 = .ok (.iload 7, 2) := by decide +kernel
theorem d_A_add_73 : decode b_A_add 73 = .ok (.invokevirtual 51, 3) := by decide +kernel
theorem d_A_add_76 : decode b_A_add 76 = .ok (.iload 7, 2) := by decide +kernel
theorem d_A_add_78 : decode b_A_add 78 = .ok (.ireturn, 1) := by decide +kernel
theorem d_P_artefact_0 : decode b_P_artefact 0 = .ok (.iload_n 3, 1) := by decide +kernel
theorem d_P_artefact_1 : decode b_P_artefact 1 = .ok (.iconst (-1), 1) := by decide +kernel
theorem d_P_artefact_2 : decode b_P_artefact 2 = .ok (.if_icmp .eq 12, 3) := by decide +kernel
theorem d_P_artefact_5 : decode b_P_artefact 5 = .ok (.iload_n 3, 1) := by decide +kernel
theorem d_P_artefact_6 : decode b_P_artefact 6 = .ok (.bipush 7, 2) := by decide +kernel
theorem d_P_artefact_8 : decode b_P_artefact 8 = .ok (.invokestatic 47, 3) := by decide +kernel
theorem d_P_artefact_11 : decode b_P_artefact 11 = .ok (.ifCond .eq 7, 3) := by decide +kernel
theorem d_P_artefact_14 : decode b_P_artefact 14 = .ok (.iconst 1, 1) := by decide +kernel
theorem d_P_artefact_15 : decode b_P_artefact 15 = .ok (.goto 4, 3) := by decide +kernel
theorem d_P_artefact_18 : decode b_P_artefact 18 = .ok (.iconst 0, 1) := by decide +kernel
theorem d_P_artefact_19 : decode b_P_artefact 19 = .ok (.istore 7, 2) := by decide +kernel
theorem d_P_artefact_21 : decode b_P_artefact 21 = .ok (.iload 7, 2) := by decide +kernel
theorem d_P_artefact_23 : decode b_P_artefact 23 = .ok (.ifCond .eq 13, 3) := by decide +kernel
theorem d_P_artefact_26 : decode b_P_artefact 26 = .ok (.iload 4, 2) := by decide +kernel
theorem d_P_artefact_28 : decode b_P_artefact 28 = .ok (.bipush 7, 2) := by decide +kernel
theorem d_P_artefact_30 : decode b_P_artefact 30 = .ok (.invokestatic 47, 3) := by decide +kernel
theorem d_P_artefact_33 : decode b_P_artefact 33 = .ok (.ifCond .ne 5, 3) := by decide +kernel
theorem d_P_artefact_36 : decode b_P_artefact 36 = .ok (.iconst (-1), 1) := by decide +kernel
theorem d_P_artefact_37 : decode b_P_artefact 37 = .ok (.ireturn, 1) := by decide +kernel
theorem d_P_artefact_38 : decode b_P_artefact 38 = .ok (.iload 5, 2) := by decide +kernel
theorem d_P_artefact_40 : decode b_P_artefact 40 = .ok (.bipush 15, 2) := by decide +kernel
theorem d_P_artefact_42 : decode b_P_artefact 42 = .ok (.invokestatic 47, 3) := by decide +kernel
theorem d_P_artefact_45 : decode b_P_artefact 45 = .ok (.ifCond .eq 13, 3) := by decide +kernel
theorem d_P_artefact_48 : decode b_P_artefact 48 = .ok (.iload 6, 2) := by decide +kernel
theorem d_P_artefact_50 : decode b_P_artefact 50 = .ok (.ldc 64, 2) := by decide +kernel
theorem d_P_artefact_52 : decode b_P_artefact 52 = .ok (.invokestatic 47, 3) := by decide +kernel
theorem d_P_artefact_55 : decode b_P_artefact 55 = .ok (.ifCond .ne 5, 3) := by decide +kernel
theorem d_P_artefact_58 : decode b_P_artefact 58 = .ok (.iconst (-1), 1) := by decide +kernel
theorem d_P_artefact_59 : decode b_P_artefact 59 = .ok (.ireturn, 1) := by decide +kernel
theorem d_P_artefact_60 : decode b_P_artefact 60 = .ok (.aload_n 0, 1) := by decide +kernel
theorem d_P_artefact_61 : decode b_P_artefact 61 = .ok (.getfield 19, 3) := by decide +kernel
theorem d_P_artefact_64 : decode b_P_artefact 64 = .ok (.lload_n 1, 1) := by decide +kernel
theorem d_P_artefact_65 : decode b_P_artefact 65 = .ok (.iload_n 3, 1) := by decide +kernel
theorem d_P_artefact_66 : decode b_P_artefact 66 = .ok (.iload 4, 2) := by decide +kernel
theorem d_P_artefact_68 : decode b_P_artefact 68 = .ok (.iload 5, 2) := by decide +kernel
theorem d_P_artefact_70 : decode b_P_artefact 70 = .ok (.iload 6, 2) := by decide +kernel
theorem d_P_artefact_72 : decode b_P_artefact 72 = .ok (.invokevirtual 65, 3) := by decide +kernel
theorem d_P_artefact_75 : decode b_P_artefact 75 = .ok (.ireturn, 1) := by decide +kernel
theorem d_A_has_0 : decode b_A_has 0 = .ok (.iload_n 1, 1) := by decide +kernel
theorem d_A_has_1 : decode b_A_has 1 = .ok (.ifCond .lt 15, 3) := by decide +kernel
theorem d_A_has_4 : decode b_A_has 4 = .ok (.iload_n 1, 1) := by decide +kernel
theorem d_A_has_5 : decode b_A_has 5 = .ok (.aload_n 0, 1) := by decide +kernel
theorem d_A_has_6 : decode b_A_has 6 = .ok (.getfield 47, 3) := by decide +kernel
theorem d_A_has_9 : decode b_A_has 9 = .ok (.if_icmp .ge 7, 3) := by decide +kernel
theorem d_A_has_12 : decode b_A_has 12 = .ok (.iconst 1, 1) := by decide +kernel
theorem d_A_has_13 : decode b_A_has 13 = .ok (.goto 4, 3) := by decide +kernel
theorem d_A_has_16 : decode b_A_has 16 = .ok (.iconst 0, 1) := by decide +kernel
theorem d_A_has_17 : decode b_A_has 17 = .ok (.ireturn, 1) := by decide +kernel
theorem d_W_contains_0 : decode b_W_contains 0 = .ok (.iconst 0, 1) := by decide +kernel
theorem d_W_contains_1 : decode b_W_contains 1 = .ok (.istore 4, 2) := by decide +kernel
theorem d_W_contains_3 : decode b_W_contains 3 = .ok (.iload 4, 2) := by decide +kernel
theorem d_W_contains_5 : decode b_W_contains 5 = .ok (.aload_n 0, 1) := by decide +kernel
theorem d_W_contains_6 : decode b_W_contains 6 = .ok (.getfield 9, 3) := by decide +kernel
theorem d_W_contains_9 : decode b_W_contains 9 = .ok (.iload_n 1, 1) := by decide +kernel
theorem d_W_contains_10 : decode b_W_contains 10 = .ok (.iaload, 1) := by decide +kernel
theorem d_W_contains_11 : decode b_W_contains 11 = .ok (.if_icmp .ge 23, 3) := by decide +kernel
theorem d_W_contains_14 : decode b_W_contains 14 = .ok (.aload_n 0, 1) := by decide +kernel
theorem d_W_contains_15 : decode b_W_contains 15 = .ok (.iload_n 1, 1) := by decide +kernel
theorem d_W_contains_16 : decode b_W_contains 16 = .ok (.iload 4, 2) := by decide +kernel
theorem d_W_contains_18 : decode b_W_contains 18 = .ok (.invokevirtual 23, 3) := by decide +kernel
theorem d_W_contains_21 : decode b_W_contains 21 = .ok (.lload_n 2, 1) := by decide +kernel
theorem d_W_contains_22 : decode b_W_contains 22 = .ok (.lcmp, 1) := by decide +kernel
theorem d_W_contains_23 : decode b_W_contains 23 = .ok (.ifCond .ne 5, 3) := by decide +kernel
theorem d_W_contains_26 : decode b_W_contains 26 = .ok (.iconst 1, 1) := by decide +kernel
theorem d_W_contains_27 : decode b_W_contains 27 = .ok (.ireturn, 1) := by decide +kernel
theorem d_W_contains_28 : decode b_W_contains 28 = .ok (.iinc 4 1, 3) := by decide +kernel
theorem d_W_contains_31 : decode b_W_contains 31 = .ok (.goto (-28), 3) := by decide +kernel
theorem d_W_contains_34 : decode b_W_contains 34 = .ok (.iconst 0, 1) := by decide +kernel
theorem d_W_contains_35 : decode b_W_contains 35 = .ok (.ireturn, 1) := by decide +kernel
theorem d_W_append_0 : decode b_W_append 0 = .ok (.aload_n 0, 1) := by decide +kernel
theorem d_W_append_1 : decode b_W_append 1 = .ok (.getfield 9, 3) := by decide +kernel
theorem d_W_append_4 : decode b_W_append 4 = .ok (.iload_n 1, 1) := by decide +kernel
theorem d_W_append_5 : decode b_W_append 5 = .ok (.iaload, 1) := by decide +kernel
theorem d_W_append_6 : decode b_W_append 6 = .ok (.bipush 6, 2) := by decide +kernel
theorem d_W_append_8 : decode b_W_append 8 = .ok (.if_icmp .ge 12, 3) := by decide +kernel
theorem d_W_append_11 : decode b_W_append 11 = .ok (.aload_n 0, 1) := by decide +kernel
theorem d_W_append_12 : decode b_W_append 12 = .ok (.iload_n 1, 1) := by decide +kernel
theorem d_W_append_13 : decode b_W_append 13 = .ok (.lload_n 2, 1) := by decide +kernel
theorem d_W_append_14 : decode b_W_append 14 = .ok (.invokevirtual 19, 3) := by decide +kernel
theorem d_W_append_17 : decode b_W_append 17 = .ok (.ifCond .eq 5, 3) := by decide +kernel
theorem d_W_append_20 : decode b_W_append 20 = .ok (.iconst 0, 1) := by decide +kernel
theorem d_W_append_21 : decode b_W_append 21 = .ok (.ireturn, 1) := by decide +kernel
theorem d_W_append_22 : decode b_W_append 22 = .ok (.aload_n 0, 1) := by decide +kernel
theorem d_W_append_23 : decode b_W_append 23 = .ok (.getfield 15, 3) := by decide +kernel
theorem d_W_append_26 : decode b_W_append 26 = .ok (.iload_n 1, 1) := by decide +kernel
theorem d_W_append_27 : decode b_W_append 27 = .ok (.bipush 6, 2) := by decide +kernel
theorem d_W_append_29 : decode b_W_append 29 = .ok (.imul, 1) := by decide +kernel
theorem d_W_append_30 : decode b_W_append 30 = .ok (.aload_n 0, 1) := by decide +kernel
theorem d_W_append_31 : decode b_W_append 31 = .ok (.getfield 9, 3) := by decide +kernel
theorem d_W_append_34 : decode b_W_append 34 = .ok (.iload_n 1, 1) := by decide +kernel
theorem d_W_append_35 : decode b_W_append 35 = .ok (.iaload, 1) := by decide +kernel
theorem d_W_append_36 : decode b_W_append 36 = .ok (.iadd, 1) := by decide +kernel
theorem d_W_append_37 : decode b_W_append 37 = .ok (.lload_n 2, 1) := by decide +kernel
theorem d_W_append_38 : decode b_W_append 38 = .ok (.lastore, 1) := by decide +kernel
theorem d_W_append_39 : decode b_W_append 39 = .ok (.aload_n 0, 1) := by decide +kernel
theorem d_W_append_40 : decode b_W_append 40 = .ok (.getfield 9, 3) := by decide +kernel
theorem d_W_append_43 : decode b_W_append 43 = .ok (.iload_n 1, 1) := by decide +kernel
theorem d_W_append_44 : decode b_W_append 44 = .ok (.dup2, 1) := by decide +kernel
theorem d_W_append_45 : decode b_W_append 45 = .ok (.iaload, 1) := by decide +kernel
theorem d_W_append_46 : decode b_W_append 46 = .ok (.iconst 1, 1) := by decide +kernel
theorem d_W_append_47 : decode b_W_append 47 = .ok (.iadd, 1) := by decide +kernel
theorem d_W_append_48 : decode b_W_append 48 = .ok (.iastore, 1) := by decide +kernel
theorem d_W_append_49 : decode b_W_append 49 = .ok (.iconst 1, 1) := by decide +kernel
theorem d_W_append_50 : decode b_W_append 50 = .ok (.ireturn, 1) := by decide +kernel
theorem d_P_uses_0 : decode b_P_uses 0 = .ok (.aload_n 0, 1) := by decide +kernel
theorem d_P_uses_1 : decode b_P_uses 1 = .ok (.getfield 19, 3) := by decide +kernel
theorem d_P_uses_4 : decode b_P_uses 4 = .ok (.iload_n 1, 1) := by decide +kernel
theorem d_P_uses_5 : decode b_P_uses 5 = .ok (.invokevirtual 68, 3) := by decide +kernel
theorem d_P_uses_8 : decode b_P_uses 8 = .ok (.ifCond .eq 14, 3) := by decide +kernel
theorem d_P_uses_11 : decode b_P_uses 11 = .ok (.aload_n 0, 1) := by decide +kernel
theorem d_P_uses_12 : decode b_P_uses 12 = .ok (.getfield 10, 3) := by decide +kernel
theorem d_P_uses_15 : decode b_P_uses 15 = .ok (.iload_n 2, 1) := by decide +kernel
theorem d_P_uses_16 : decode b_P_uses 16 = .ok (.invokevirtual 56, 3) := by decide +kernel
theorem d_P_uses_19 : decode b_P_uses 19 = .ok (.ifCond .ne 5, 3) := by decide +kernel
theorem d_P_uses_22 : decode b_P_uses 22 = .ok (.iconst 0, 1) := by decide +kernel
theorem d_P_uses_23 : decode b_P_uses 23 = .ok (.ireturn, 1) := by decide +kernel
theorem d_P_uses_24 : decode b_P_uses 24 = .ok (.aload_n 0, 1) := by decide +kernel
theorem d_P_uses_25 : decode b_P_uses 25 = .ok (.getfield 19, 3) := by decide +kernel
theorem d_P_uses_28 : decode b_P_uses 28 = .ok (.getfield 69, 3) := by decide +kernel
theorem d_P_uses_31 : decode b_P_uses 31 = .ok (.iload_n 1, 1) := by decide +kernel
theorem d_P_uses_32 : decode b_P_uses 32 = .ok (.iload_n 2, 1) := by decide +kernel
theorem d_P_uses_33 : decode b_P_uses 33 = .ok (.i2l, 1) := by decide +kernel
theorem d_P_uses_34 : decode b_P_uses 34 = .ok (.invokevirtual 73, 3) := by decide +kernel
theorem d_P_uses_37 : decode b_P_uses 37 = .ok (.ireturn, 1) := by decide +kernel
theorem d_A_firstOf_0 : decode b_A_firstOf 0 = .ok (.iconst 0, 1) := by decide +kernel
theorem d_A_firstOf_1 : decode b_A_firstOf 1 = .ok (.istore_n 3, 1) := by decide +kernel
theorem d_A_firstOf_2 : decode b_A_firstOf 2 = .ok (.iload_n 3, 1) := by decide +kernel
theorem d_A_firstOf_3 : decode b_A_firstOf 3 = .ok (.aload_n 0, 1) := by decide +kernel
theorem d_A_firstOf_4 : decode b_A_firstOf 4 = .ok (.getfield 47, 3) := by decide +kernel
theorem d_A_firstOf_7 : decode b_A_firstOf 7 = .ok (.if_icmp .ge 22, 3) := by decide +kernel
theorem d_A_firstOf_10 : decode b_A_firstOf 10 = .ok (.aload_n 0, 1) := by decide +kernel
theorem d_A_firstOf_11 : decode b_A_firstOf 11 = .ok (.getfield 9, 3) := by decide +kernel
theorem d_A_firstOf_14 : decode b_A_firstOf 14 = .ok (.iload_n 3, 1) := by decide +kernel
theorem d_A_firstOf_15 : decode b_A_firstOf 15 = .ok (.laload, 1) := by decide +kernel
theorem d_A_firstOf_16 : decode b_A_firstOf 16 = .ok (.lload_n 1, 1) := by decide +kernel
theorem d_A_firstOf_17 : decode b_A_firstOf 17 = .ok (.lcmp, 1) := by decide +kernel
theorem d_A_firstOf_18 : decode b_A_firstOf 18 = .ok (.ifCond .ne 5, 3) := by decide +kernel
theorem d_A_firstOf_21 : decode b_A_firstOf 21 = .ok (.iload_n 3, 1) := by decide +kernel
theorem d_A_firstOf_22 : decode b_A_firstOf 22 = .ok (.ireturn, 1) := by decide +kernel
theorem d_A_firstOf_23 : decode b_A_firstOf 23 = .ok (.iinc 3 1, 3) := by decide +kernel
theorem d_A_firstOf_26 : decode b_A_firstOf 26 = .ok (.goto (-24), 3) := by decide +kernel
theorem d_A_firstOf_29 : decode b_A_firstOf 29 = .ok (.iconst (-1), 1) := by decide +kernel
theorem d_A_firstOf_30 : decode b_A_firstOf 30 = .ok (.ireturn, 1) := by decide +kernel
theorem d_A_addNeeded_0 : decode b_A_addNeeded 0 = .ok (.aload_n 0, 1) := by decide +kernel
theorem d_A_addNeeded_1 : decode b_A_addNeeded 1 = .ok (.getfield 35, 3) := by decide +kernel
theorem d_A_addNeeded_4 : decode b_A_addNeeded 4 = .ok (.getfield 55, 3) := by decide +kernel
theorem d_A_addNeeded_7 : decode b_A_addNeeded 7 = .ok (.iload_n 1, 1) := by decide +kernel
theorem d_A_addNeeded_8 : decode b_A_addNeeded 8 = .ok (.iaload, 1) := by decide +kernel
theorem d_A_addNeeded_9 : decode b_A_addNeeded 9 = .ok (.istore 4, 2) := by decide +kernel
theorem d_A_addNeeded_11 : decode b_A_addNeeded 11 = .ok (.aload_n 0, 1) := by decide +kernel
theorem d_A_addNeeded_12 : decode b_A_addNeeded 12 = .ok (.getfield 35, 3) := by decide +kernel
theorem d_A_addNeeded_15 : decode b_A_addNeeded 15 = .ok (.iload_n 1, 1) := by decide +kernel
theorem d_A_addNeeded_16 : decode b_A_addNeeded 16 = .ok (.lload_n 2, 1) := by decide +kernel
theorem d_A_addNeeded_17 : decode b_A_addNeeded 17 = .ok (.invokevirtual 66, 3) := by decide +kernel
theorem d_A_addNeeded_20 : decode b_A_addNeeded 20 = .ok (.ifCond .ne 5, 3) := by decide +kernel
theorem d_A_addNeeded_23 : decode b_A_addNeeded 23 = .ok (.iconst 0, 1) := by decide +kernel
theorem d_A_addNeeded_24 : decode b_A_addNeeded 24 = .ok (.ireturn, 1) := by decide +kernel
theorem d_A_addNeeded_25 : decode b_A_addNeeded 25 = .ok (.aload_n 0, 1) := by decide +kernel
theorem d_A_addNeeded_26 : decode b_A_addNeeded 26 = .ok (.getfield 38, 3) := by decide +kernel
theorem d_A_addNeeded_29 : decode b_A_addNeeded 29 = .ok (.iload_n 1, 1) := by decide +kernel
theorem d_A_addNeeded_30 : decode b_A_addNeeded 30 = .ok (.bipush 6, 2) := by decide +kernel
theorem d_A_addNeeded_32 : decode b_A_addNeeded 32 = .ok (.imul, 1) := by decide +kernel
theorem d_A_addNeeded_33 : decode b_A_addNeeded 33 = .ok (.iload 4, 2) := by decide +kernel
theorem d_A_addNeeded_35 : decode b_A_addNeeded 35 = .ok (.iadd, 1) := by decide +kernel
theorem d_A_addNeeded_36 : decode b_A_addNeeded 36 = .ok (.aload_n 0, 1) := by decide +kernel
theorem d_A_addNeeded_37 : decode b_A_addNeeded 37 = .ok (.lload_n 2, 1) := by decide +kernel
theorem d_A_addNeeded_38 : decode b_A_addNeeded 38 = .ok (.invokevirtual 70, 3) := by decide +kernel
theorem d_A_addNeeded_41 : decode b_A_addNeeded 41 = .ok (.iastore, 1) := by decide +kernel
theorem d_A_addNeeded_42 : decode b_A_addNeeded 42 = .ok (.iconst 1, 1) := by decide +kernel
theorem d_A_addNeeded_43 : decode b_A_addNeeded 43 = .ok (.ireturn, 1) := by decide +kernel
theorem d_P_needs_0 : decode b_P_needs 0 = .ok (.aload_n 0, 1) := by decide +kernel
theorem d_P_needs_1 : decode b_P_needs 1 = .ok (.getfield 19, 3) := by decide +kernel
theorem d_P_needs_4 : decode b_P_needs 4 = .ok (.iload_n 1, 1) := by decide +kernel
theorem d_P_needs_5 : decode b_P_needs 5 = .ok (.invokevirtual 68, 3) := by decide +kernel
theorem d_P_needs_8 : decode b_P_needs 8 = .ok (.ifCond .ne 5, 3) := by decide +kernel
theorem d_P_needs_11 : decode b_P_needs 11 = .ok (.iconst 0, 1) := by decide +kernel
theorem d_P_needs_12 : decode b_P_needs 12 = .ok (.ireturn, 1) := by decide +kernel
theorem d_P_needs_13 : decode b_P_needs 13 = .ok (.aload_n 0, 1) := by decide +kernel
theorem d_P_needs_14 : decode b_P_needs 14 = .ok (.getfield 19, 3) := by decide +kernel
theorem d_P_needs_17 : decode b_P_needs 17 = .ok (.iload_n 1, 1) := by decide +kernel
theorem d_P_needs_18 : decode b_P_needs 18 = .ok (.lload_n 2, 1) := by decide +kernel
theorem d_P_needs_19 : decode b_P_needs 19 = .ok (.invokevirtual 79, 3) := by decide +kernel
theorem d_P_needs_22 : decode b_P_needs 22 = .ok (.ireturn, 1) := by decide +kernel
theorem d_A_setPath_0 : decode b_A_setPath 0 = .ok (.aload_n 0, 1) := by decide +kernel
theorem d_A_setPath_1 : decode b_A_setPath 1 = .ok (.getfield 41, 3) := by decide +kernel
theorem d_A_setPath_4 : decode b_A_setPath 4 = .ok (.iload_n 1, 1) := by decide +kernel
theorem d_A_setPath_5 : decode b_A_setPath 5 = .ok (.dup2, 1) := by decide +kernel
theorem d_A_setPath_6 : decode b_A_setPath 6 = .ok (.iaload, 1) := by decide +kernel
theorem d_A_setPath_7 : decode b_A_setPath 7 = .ok (.iconst 1, 1) := by decide +kernel
theorem d_A_setPath_8 : decode b_A_setPath 8 = .ok (.iload_n 2, 1) := by decide +kernel
theorem d_A_setPath_9 : decode b_A_setPath 9 = .ok (.ishl, 1) := by decide +kernel
theorem d_A_setPath_10 : decode b_A_setPath 10 = .ok (.ior, 1) := by decide +kernel
theorem d_A_setPath_11 : decode b_A_setPath 11 = .ok (.iastore, 1) := by decide +kernel
theorem d_A_setPath_12 : decode b_A_setPath 12 = .ok (.aload_n 0, 1) := by decide +kernel
theorem d_A_setPath_13 : decode b_A_setPath 13 = .ok (.getfield 44, 3) := by decide +kernel
theorem d_A_setPath_16 : decode b_A_setPath 16 = .ok (.iload_n 1, 1) := by decide +kernel
theorem d_A_setPath_17 : decode b_A_setPath 17 = .ok (.bipush 8, 2) := by decide +kernel
theorem d_A_setPath_19 : decode b_A_setPath 19 = .ok (.imul, 1) := by decide +kernel
theorem d_A_setPath_20 : decode b_A_setPath 20 = .ok (.iload_n 2, 1) := by decide +kernel
theorem d_A_setPath_21 : decode b_A_setPath 21 = .ok (.iadd, 1) := by decide +kernel
theorem d_A_setPath_22 : decode b_A_setPath 22 = .ok (.lload_n 3, 1) := by decide +kernel
theorem d_A_setPath_23 : decode b_A_setPath 23 = .ok (.lastore, 1) := by decide +kernel
theorem d_A_setPath_24 : decode b_A_setPath 24 = .ok (.return_, 1) := by decide +kernel
theorem d_P_path_0 : decode b_P_path 0 = .ok (.aload_n 0, 1) := by decide +kernel
theorem d_P_path_1 : decode b_P_path 1 = .ok (.getfield 19, 3) := by decide +kernel
theorem d_P_path_4 : decode b_P_path 4 = .ok (.iload_n 1, 1) := by decide +kernel
theorem d_P_path_5 : decode b_P_path 5 = .ok (.invokevirtual 68, 3) := by decide +kernel
theorem d_P_path_8 : decode b_P_path 8 = .ok (.ifCond .eq 12, 3) := by decide +kernel
theorem d_P_path_11 : decode b_P_path 11 = .ok (.iload_n 2, 1) := by decide +kernel
theorem d_P_path_12 : decode b_P_path 12 = .ok (.bipush 7, 2) := by decide +kernel
theorem d_P_path_14 : decode b_P_path 14 = .ok (.invokestatic 47, 3) := by decide +kernel
theorem d_P_path_17 : decode b_P_path 17 = .ok (.ifCond .ne 5, 3) := by decide +kernel
theorem d_P_path_20 : decode b_P_path 20 = .ok (.iconst 0, 1) := by decide +kernel
theorem d_P_path_21 : decode b_P_path 21 = .ok (.ireturn, 1) := by decide +kernel
theorem d_P_path_22 : decode b_P_path 22 = .ok (.aload_n 0, 1) := by decide +kernel
theorem d_P_path_23 : decode b_P_path 23 = .ok (.getfield 19, 3) := by decide +kernel
theorem d_P_path_26 : decode b_P_path 26 = .ok (.iload_n 1, 1) := by decide +kernel
theorem d_P_path_27 : decode b_P_path 27 = .ok (.iload_n 2, 1) := by decide +kernel
theorem d_P_path_28 : decode b_P_path 28 = .ok (.lload_n 3, 1) := by decide +kernel
theorem d_P_path_29 : decode b_P_path 29 = .ok (.invokevirtual 82, 3) := by decide +kernel
theorem d_P_path_32 : decode b_P_path 32 = .ok (.iconst 1, 1) := by decide +kernel
theorem d_P_path_33 : decode b_P_path 33 = .ok (.ireturn, 1) := by decide +kernel
theorem d_Y_add_0 : decode b_Y_add 0 = .ok (.aload_n 0, 1) := by decide +kernel
theorem d_Y_add_1 : decode b_Y_add 1 = .ok (.getfield 18, 3) := by decide +kernel
theorem d_Y_add_4 : decode b_Y_add 4 = .ok (.bipush 16, 2) := by decide +kernel
theorem d_Y_add_6 : decode b_Y_add 6 = .ok (.if_icmp .lt 5, 3) := by decide +kernel
theorem d_Y_add_9 : decode b_Y_add 9 = .ok (.iconst (-1), 1) := by decide +kernel
theorem d_Y_add_10 : decode b_Y_add 10 = .ok (.ireturn, 1) := by decide +kernel
theorem d_Y_add_11 : decode b_Y_add 11 = .ok (.aload_n 0, 1) := by decide +kernel
theorem d_Y_add_12 : decode b_Y_add 12 = .ok (.getfield 18, 3) := by decide +kernel
theorem d_Y_add_15 : decode b_Y_add 15 = .ok (.istore_n 3, 1) := by decide +kernel
theorem d_Y_add_16 : decode b_Y_add 16 = .ok (.aload_n 0, 1) := by decide +kernel
theorem d_Y_add_17 : decode b_Y_add 17 = .ok (.getfield 9, 3) := by decide +kernel
theorem d_Y_add_20 : decode b_Y_add 20 = .ok (.iload_n 3, 1) := by decide +kernel
theorem d_Y_add_21 : decode b_Y_add 21 = .ok (.iload_n 1, 1) := by decide +kernel
theorem d_Y_add_22 : decode b_Y_add 22 = .ok (.iastore, 1) := by decide +kernel
theorem d_Y_add_23 : decode b_Y_add 23 = .ok (.aload_n 0, 1) := by decide +kernel
theorem d_Y_add_24 : decode b_Y_add 24 = .ok (.getfield 15, 3) := by decide +kernel
theorem d_Y_add_27 : decode b_Y_add 27 = .ok (.iload_n 3, 1) := by decide +kernel
theorem d_Y_add_28 : decode b_Y_add 28 = .ok (.iload_n 2, 1) := by decide +kernel
theorem d_Y_add_29 : decode b_Y_add 29 = .ok (.iastore, 1) := by decide +kernel
theorem d_Y_add_30 : decode b_Y_add 30 = .ok (.aload_n 0, 1) := by decide +kernel
theorem d_Y_add_31 : decode b_Y_add 31 = .ok (.dup, 1) := by decide +kernel
theorem d_Y_add_32 : decode b_Y_add 32 = .ok (.getfield 18, 3) := by decide +kernel
theorem d_Y_add_35 : decode b_Y_add 35 = .ok (.iconst 1, 1) := by decide +kernel
theorem d_Y_add_36 : decode b_Y_add 36 = .ok (.iadd, 1) := by decide +kernel
theorem d_Y_add_37 : decode b_Y_add 37 = .ok (.putfield 18, 3) := by decide +kernel
theorem d_Y_add_40 : decode b_Y_add 40 = .ok (.iload_n 3, 1) := by decide +kernel
theorem d_Y_add_41 : decode b_Y_add 41 = .ok (.ireturn, 1) := by decide +kernel
theorem d_P_policy_0 : decode b_P_policy 0 = .ok (.iload_n 1, 1) := by decide +kernel
theorem d_P_policy_1 : decode b_P_policy 1 = .ok (.bipush 9, 2) := by decide +kernel
theorem d_P_policy_3 : decode b_P_policy 3 = .ok (.invokestatic 47, 3) := by decide +kernel
theorem d_P_policy_6 : decode b_P_policy 6 = .ok (.ifCond .ne 5, 3) := by decide +kernel
theorem d_P_policy_9 : decode b_P_policy 9 = .ok (.iconst (-1), 1) := by decide +kernel
theorem d_P_policy_10 : decode b_P_policy 10 = .ok (.ireturn, 1) := by decide +kernel
theorem d_P_policy_11 : decode b_P_policy 11 = .ok (.aload_n 0, 1) := by decide +kernel
theorem d_P_policy_12 : decode b_P_policy 12 = .ok (.getfield 26, 3) := by decide +kernel
theorem d_P_policy_15 : decode b_P_policy 15 = .ok (.iload_n 1, 1) := by decide +kernel
theorem d_P_policy_16 : decode b_P_policy 16 = .ok (.iload_n 2, 1) := by decide +kernel
theorem d_P_policy_17 : decode b_P_policy 17 = .ok (.invokevirtual 86, 3) := by decide +kernel
theorem d_P_policy_20 : decode b_P_policy 20 = .ok (.ireturn, 1) := by decide +kernel
theorem d_P_hasBit_0 : decode b_P_hasBit 0 = .ok (.iload_n 1, 1) := by decide +kernel
theorem d_P_hasBit_1 : decode b_P_hasBit 1 = .ok (.ifCond .lt 15, 3) := by decide +kernel
theorem d_P_hasBit_4 : decode b_P_hasBit 4 = .ok (.iload_n 0, 1) := by decide +kernel
theorem d_P_hasBit_5 : decode b_P_hasBit 5 = .ok (.iload_n 1, 1) := by decide +kernel
theorem d_P_hasBit_6 : decode b_P_hasBit 6 = .ok (.iushr, 1) := by decide +kernel
theorem d_P_hasBit_7 : decode b_P_hasBit 7 = .ok (.iconst 1, 1) := by decide +kernel
theorem d_P_hasBit_8 : decode b_P_hasBit 8 = .ok (.iand, 1) := by decide +kernel
theorem d_P_hasBit_9 : decode b_P_hasBit 9 = .ok (.ifCond .eq 7, 3) := by decide +kernel
theorem d_P_hasBit_12 : decode b_P_hasBit 12 = .ok (.iconst 1, 1) := by decide +kernel
theorem d_P_hasBit_13 : decode b_P_hasBit 13 = .ok (.goto 4, 3) := by decide +kernel
theorem d_P_hasBit_16 : decode b_P_hasBit 16 = .ok (.iconst 0, 1) := by decide +kernel
theorem d_P_hasBit_17 : decode b_P_hasBit 17 = .ok (.ireturn, 1) := by decide +kernel
theorem d_Q_reach_0 : decode b_Q_reach 0 = .ok (.iload_n 1, 1) := by decide +kernel
theorem d_Q_reach_1 : decode b_Q_reach 1 = .ok (.iconst (-1), 1) := by decide +kernel
theorem d_Q_reach_2 : decode b_Q_reach 2 = .ok (.if_icmp .eq 23, 3) := by decide +kernel
theorem d_Q_reach_5 : decode b_Q_reach 5 = .ok (.aload_n 0, 1) := by decide +kernel
theorem d_Q_reach_6 : decode b_Q_reach 6 = .ok (.getfield 19, 3) := by decide +kernel
theorem d_Q_reach_9 : decode b_Q_reach 9 = .ok (.iload_n 1, 1) := by decide +kernel
theorem d_Q_reach_10 : decode b_Q_reach 10 = .ok (.invokestatic 41, 3) := by decide +kernel
theorem d_Q_reach_13 : decode b_Q_reach 13 = .ok (.ifCond .ne 12, 3) := by decide +kernel
theorem d_Q_reach_16 : decode b_Q_reach 16 = .ok (.aload_n 0, 1) := by decide +kernel
theorem d_Q_reach_17 : decode b_Q_reach 17 = .ok (.getfield 15, 3) := by decide +kernel
theorem d_Q_reach_20 : decode b_Q_reach 20 = .ok (.bipush 32, 2) := by decide +kernel
theorem d_Q_reach_22 : decode b_Q_reach 22 = .ok (.if_icmp .lt 4, 3) := by decide +kernel
theorem d_Q_reach_25 : decode b_Q_reach 25 = .ok (.return_, 1) := by decide +kernel
theorem d_Q_reach_26 : decode b_Q_reach 26 = .ok (.aload_n 0, 1) := by decide +kernel
theorem d_Q_reach_27 : decode b_Q_reach 27 = .ok (.dup, 1) := by decide +kernel
theorem d_Q_reach_28 : decode b_Q_reach 28 = .ok (.getfield 19, 3) := by decide +kernel
theorem d_Q_reach_31 : decode b_Q_reach 31 = .ok (.iconst 1, 1) := by decide +kernel
theorem d_Q_reach_32 : decode b_Q_reach 32 = .ok (.iload_n 1, 1) := by decide +kernel
theorem d_Q_reach_33 : decode b_Q_reach 33 = .ok (.ishl, 1) := by decide +kernel
theorem d_Q_reach_34 : decode b_Q_reach 34 = .ok (.ior, 1) := by decide +kernel
theorem d_Q_reach_35 : decode b_Q_reach 35 = .ok (.putfield 19, 3) := by decide +kernel
theorem d_Q_reach_38 : decode b_Q_reach 38 = .ok (.aload_n 0, 1) := by decide +kernel
theorem d_Q_reach_39 : decode b_Q_reach 39 = .ok (.getfield 9, 3) := by decide +kernel
theorem d_Q_reach_42 : decode b_Q_reach 42 = .ok (.aload_n 0, 1) := by decide +kernel
theorem d_Q_reach_43 : decode b_Q_reach 43 = .ok (.getfield 15, 3) := by decide +kernel
theorem d_Q_reach_46 : decode b_Q_reach 46 = .ok (.iload_n 1, 1) := by decide +kernel
theorem d_Q_reach_47 : decode b_Q_reach 47 = .ok (.iastore, 1) := by decide +kernel
theorem d_Q_reach_48 : decode b_Q_reach 48 = .ok (.aload_n 0, 1) := by decide +kernel
theorem d_Q_reach_49 : decode b_Q_reach 49 = .ok (.dup, 1) := by decide +kernel
theorem d_Q_reach_50 : decode b_Q_reach 50 = .ok (.getfield 15, 3) := by decide +kernel
theorem d_Q_reach_53 : decode b_Q_reach 53 = .ok (.iconst 1, 1) := by decide +kernel
theorem d_Q_reach_54 : decode b_Q_reach 54 = .ok (.iadd, 1) := by decide +kernel
theorem d_Q_reach_55 : decode b_Q_reach 55 = .ok (.putfield 15, 3) := by decide +kernel
theorem d_Q_reach_58 : decode b_Q_reach 58 = .ok (.return_, 1) := by decide +kernel
theorem d_Q_walk_0 : decode b_Q_walk 0 = .ok (.aload_n 0, 1) := by decide +kernel
theorem d_Q_walk_1 : decode b_Q_walk 1 = .ok (.iconst 0, 1) := by decide +kernel
theorem d_Q_walk_2 : decode b_Q_walk 2 = .ok (.putfield 15, 3) := by decide +kernel
theorem d_Q_walk_5 : decode b_Q_walk 5 = .ok (.aload_n 0, 1) := by decide +kernel
theorem d_Q_walk_6 : decode b_Q_walk 6 = .ok (.iconst 0, 1) := by decide +kernel
theorem d_Q_walk_7 : decode b_Q_walk 7 = .ok (.putfield 19, 3) := by decide +kernel
theorem d_Q_walk_10 : decode b_Q_walk 10 = .ok (.aload_n 0, 1) := by decide +kernel
theorem d_Q_walk_11 : decode b_Q_walk 11 = .ok (.iload_n 2, 1) := by decide +kernel
theorem d_Q_walk_12 : decode b_Q_walk 12 = .ok (.invokevirtual 22, 3) := by decide +kernel
theorem d_Q_walk_15 : decode b_Q_walk 15 = .ok (.iconst 0, 1) := by decide +kernel
theorem d_Q_walk_16 : decode b_Q_walk 16 = .ok (.istore_n 3, 1) := by decide +kernel
theorem d_Q_walk_17 : decode b_Q_walk 17 = .ok (.iload_n 3, 1) := by decide +kernel
theorem d_Q_walk_18 : decode b_Q_walk 18 = .ok (.bipush 32, 2) := by decide +kernel
theorem d_Q_walk_20 : decode b_Q_walk 20 = .ok (.if_icmp .ge 61, 3) := by decide +kernel
theorem d_Q_walk_23 : decode b_Q_walk 23 = .ok (.iload_n 3, 1) := by decide +kernel
theorem d_Q_walk_24 : decode b_Q_walk 24 = .ok (.aload_n 0, 1) := by decide +kernel
theorem d_Q_walk_25 : decode b_Q_walk 25 = .ok (.getfield 15, 3) := by decide +kernel
theorem d_Q_walk_28 : decode b_Q_walk 28 = .ok (.if_icmp .ge 53, 3) := by decide +kernel
theorem d_Q_walk_31 : decode b_Q_walk 31 = .ok (.aload_n 0, 1) := by decide +kernel
theorem d_Q_walk_32 : decode b_Q_walk 32 = .ok (.getfield 9, 3) := by decide +kernel
theorem d_Q_walk_35 : decode b_Q_walk 35 = .ok (.iload_n 3, 1) := by decide +kernel
theorem d_Q_walk_36 : decode b_Q_walk 36 = .ok (.iaload, 1) := by decide +kernel
theorem d_Q_walk_37 : decode b_Q_walk 37 = .ok (.istore 4, 2) := by decide +kernel
theorem d_Q_walk_39 : decode b_Q_walk 39 = .ok (.iconst 0, 1) := by decide +kernel
theorem d_Q_walk_40 : decode b_Q_walk 40 = .ok (.istore 5, 2) := by decide +kernel
theorem d_Q_walk_42 : decode b_Q_walk 42 = .ok (.iload 5, 2) := by decide +kernel
theorem d_Q_walk_44 : decode b_Q_walk 44 = .ok (.aload_n 1, 1) := by decide +kernel
theorem d_Q_walk_45 : decode b_Q_walk 45 = .ok (.getfield 26, 3) := by decide +kernel
theorem d_Q_walk_48 : decode b_Q_walk 48 = .ok (.getfield 32, 3) := by decide +kernel
theorem d_Q_walk_51 : decode b_Q_walk 51 = .ok (.iload 4, 2) := by decide +kernel
theorem d_Q_walk_53 : decode b_Q_walk 53 = .ok (.iaload, 1) := by decide +kernel
theorem d_Q_walk_54 : decode b_Q_walk 54 = .ok (.if_icmp .ge 21, 3) := by decide +kernel
theorem d_Q_walk_57 : decode b_Q_walk 57 = .ok (.aload_n 0, 1) := by decide +kernel
theorem d_Q_walk_58 : decode b_Q_walk 58 = .ok (.aload_n 1, 1) := by decide +kernel
theorem d_Q_walk_59 : decode b_Q_walk 59 = .ok (.iload 4, 2) := by decide +kernel
theorem d_Q_walk_61 : decode b_Q_walk 61 = .ok (.iload 5, 2) := by decide +kernel
theorem d_Q_walk_63 : decode b_Q_walk 63 = .ok (.invokevirtual 37, 3) := by decide +kernel
theorem d_Q_walk_66 : decode b_Q_walk 66 = .ok (.invokevirtual 22, 3) := by decide +kernel
theorem d_Q_walk_69 : decode b_Q_walk 69 = .ok (.iinc 5 1, 3) := by decide +kernel
theorem d_Q_walk_72 : decode b_Q_walk 72 = .ok (.goto (-30), 3) := by decide +kernel
theorem d_Q_walk_75 : decode b_Q_walk 75 = .ok (.iinc 3 1, 3) := by decide +kernel
theorem d_Q_walk_78 : decode b_Q_walk 78 = .ok (.goto (-61), 3) := by decide +kernel
theorem d_Q_walk_81 : decode b_Q_walk 81 = .ok (.return_, 1) := by decide +kernel
theorem d_A_usedAt_0 : decode b_A_usedAt 0 = .ok (.aload_n 0, 1) := by decide +kernel
theorem d_A_usedAt_1 : decode b_A_usedAt 1 = .ok (.getfield 31, 3) := by decide +kernel
theorem d_A_usedAt_4 : decode b_A_usedAt 4 = .ok (.iload_n 1, 1) := by decide +kernel
theorem d_A_usedAt_5 : decode b_A_usedAt 5 = .ok (.iload_n 2, 1) := by decide +kernel
theorem d_A_usedAt_6 : decode b_A_usedAt 6 = .ok (.invokevirtual 58, 3) := by decide +kernel
theorem d_A_usedAt_9 : decode b_A_usedAt 9 = .ok (.l2i, 1) := by decide +kernel
theorem d_A_usedAt_10 : decode b_A_usedAt 10 = .ok (.ireturn, 1) := by decide +kernel
theorem d_P_usesBranchOutside_0 : decode b_P_usesBranchOutside 0 = .ok (.iconst 0, 1) := by decide +kernel
theorem d_P_usesBranchOutside_1 : decode b_P_usesBranchOutside 1 = .ok (.istore_n 3, 1) := by decide +kernel
theorem d_P_usesBranchOutside_2 : decode b_P_usesBranchOutside 2 = .ok (.iload_n 3, 1) := by decide +kernel
theorem d_P_usesBranchOutside_3 : decode b_P_usesBranchOutside 3 = .ok (.aload_n 0, 1) := by decide +kernel
theorem d_P_usesBranchOutside_4 : decode b_P_usesBranchOutside 4 = .ok (.getfield 19, 3) := by decide +kernel
theorem d_P_usesBranchOutside_7 : decode b_P_usesBranchOutside 7 = .ok (.getfield 69, 3) := by decide +kernel
theorem d_P_usesBranchOutside_10 : decode b_P_usesBranchOutside 10 = .ok (.getfield 176, 3) := by decide +kernel
theorem d_P_usesBranchOutside_13 : decode b_P_usesBranchOutside 13 = .ok (.iload_n 1, 1) := by decide +kernel
theorem d_P_usesBranchOutside_14 : decode b_P_usesBranchOutside 14 = .ok (.iaload, 1) := by decide +kernel
theorem d_P_usesBranchOutside_15 : decode b_P_usesBranchOutside 15 = .ok (.if_icmp .ge 35, 3) := by decide +kernel
theorem d_P_usesBranchOutside_18 : decode b_P_usesBranchOutside 18 = .ok (.iload_n 2, 1) := by decide +kernel
theorem d_P_usesBranchOutside_19 : decode b_P_usesBranchOutside 19 = .ok (.aload_n 0, 1) := by decide +kernel
theorem d_P_usesBranchOutside_20 : decode b_P_usesBranchOutside 20 = .ok (.getfield 10, 3) := by decide +kernel
theorem d_P_usesBranchOutside_23 : decode b_P_usesBranchOutside 23 = .ok (.getfield 179, 3) := by decide +kernel
theorem d_P_usesBranchOutside_26 : decode b_P_usesBranchOutside 26 = .ok (.aload_n 0, 1) := by decide +kernel
theorem d_P_usesBranchOutside_27 : decode b_P_usesBranchOutside 27 = .ok (.getfield 19, 3) := by decide +kernel
theorem d_P_usesBranchOutside_30 : decode b_P_usesBranchOutside 30 = .ok (.iload_n 1, 1) := by decide +kernel
theorem d_P_usesBranchOutside_31 : decode b_P_usesBranchOutside 31 = .ok (.iload_n 3, 1) := by decide +kernel
theorem d_P_usesBranchOutside_32 : decode b_P_usesBranchOutside 32 = .ok (.invokevirtual 182, 3) := by decide +kernel
theorem d_P_usesBranchOutside_35 : decode b_P_usesBranchOutside 35 = .ok (.iaload, 1) := by decide +kernel
theorem d_P_usesBranchOutside_36 : decode b_P_usesBranchOutside 36 = .ok (.invokestatic 155, 3) := by decide +kernel
theorem d_P_usesBranchOutside_39 : decode b_P_usesBranchOutside 39 = .ok (.ifCond .ne 5, 3) := by decide +kernel
theorem d_P_usesBranchOutside_42 : decode b_P_usesBranchOutside 42 = .ok (.iconst 1, 1) := by decide +kernel
theorem d_P_usesBranchOutside_43 : decode b_P_usesBranchOutside 43 = .ok (.ireturn, 1) := by decide +kernel
theorem d_P_usesBranchOutside_44 : decode b_P_usesBranchOutside 44 = .ok (.iinc 3 1, 3) := by decide +kernel
theorem d_P_usesBranchOutside_47 : decode b_P_usesBranchOutside 47 = .ok (.goto (-45), 3) := by decide +kernel
theorem d_P_usesBranchOutside_50 : decode b_P_usesBranchOutside 50 = .ok (.iconst 0, 1) := by decide +kernel
theorem d_P_usesBranchOutside_51 : decode b_P_usesBranchOutside 51 = .ok (.ireturn, 1) := by decide +kernel
theorem d_Ig_bitCount_0 : decode b_Ig_bitCount 0 = .ok (.iload_n 0, 1) := by decide +kernel
theorem d_Ig_bitCount_1 : decode b_Ig_bitCount 1 = .ok (.iload_n 0, 1) := by decide +kernel
theorem d_Ig_bitCount_2 : decode b_Ig_bitCount 2 = .ok (.iconst 1, 1) := by decide +kernel
theorem d_Ig_bitCount_3 : decode b_Ig_bitCount 3 = .ok (.iushr, 1) := by decide +kernel
theorem d_Ig_bitCount_4 : decode b_Ig_bitCount 4 = .ok (.ldc_w 265, 3) := by decide +kernel
theorem d_Ig_bitCount_7 : decode b_Ig_bitCount 7 = .ok (.iand, 1) := by decide +kernel
theorem d_Ig_bitCount_8 : decode b_Ig_bitCount 8 = .ok (.isub, 1) := by decide +kernel
theorem d_Ig_bitCount_9 : decode b_Ig_bitCount 9 = .ok (.istore_n 0, 1) := by decide +kernel
theorem d_Ig_bitCount_10 : decode b_Ig_bitCount 10 = .ok (.iload_n 0, 1) := by decide +kernel
theorem d_Ig_bitCount_11 : decode b_Ig_bitCount 11 = .ok (.ldc_w 266, 3) := by decide +kernel
theorem d_Ig_bitCount_14 : decode b_Ig_bitCount 14 = .ok (.iand, 1) := by decide +kernel
theorem d_Ig_bitCount_15 : decode b_Ig_bitCount 15 = .ok (.iload_n 0, 1) := by decide +kernel
theorem d_Ig_bitCount_16 : decode b_Ig_bitCount 16 = .ok (.iconst 2, 1) := by decide +kernel
theorem d_Ig_bitCount_17 : decode b_Ig_bitCount 17 = .ok (.iushr, 1) := by decide +kernel
theorem d_Ig_bitCount_18 : decode b_Ig_bitCount 18 = .ok (.ldc_w 266, 3) := by decide +kernel
theorem d_Ig_bitCount_21 : decode b_Ig_bitCount 21 = .ok (.iand, 1) := by decide +kernel
theorem d_Ig_bitCount_22 : decode b_Ig_bitCount 22 = .ok (.iadd, 1) := by decide +kernel
theorem d_Ig_bitCount_23 : decode b_Ig_bitCount 23 = .ok (.istore_n 0, 1) := by decide +kernel
theorem d_Ig_bitCount_24 : decode b_Ig_bitCount 24 = .ok (.iload_n 0, 1) := by decide +kernel
theorem d_Ig_bitCount_25 : decode b_Ig_bitCount 25 = .ok (.iload_n 0, 1) := by decide +kernel
theorem d_Ig_bitCount_26 : decode b_Ig_bitCount 26 = .ok (.iconst 4, 1) := by decide +kernel
theorem d_Ig_bitCount_27 : decode b_Ig_bitCount 27 = .ok (.iushr, 1) := by decide +kernel
theorem d_Ig_bitCount_28 : decode b_Ig_bitCount 28 = .ok (.iadd, 1) := by decide +kernel
theorem d_Ig_bitCount_29 : decode b_Ig_bitCount 29 = .ok (.ldc_w 267, 3) := by decide +kernel
theorem d_Ig_bitCount_32 : decode b_Ig_bitCount 32 = .ok (.iand, 1) := by decide +kernel
theorem d_Ig_bitCount_33 : decode b_Ig_bitCount 33 = .ok (.istore_n 0, 1) := by decide +kernel
theorem d_Ig_bitCount_34 : decode b_Ig_bitCount 34 = .ok (.iload_n 0, 1) := by decide +kernel
theorem d_Ig_bitCount_35 : decode b_Ig_bitCount 35 = .ok (.iload_n 0, 1) := by decide +kernel
theorem d_Ig_bitCount_36 : decode b_Ig_bitCount 36 = .ok (.bipush 8, 2) := by decide +kernel
theorem d_Ig_bitCount_38 : decode b_Ig_bitCount 38 = .ok (.iushr, 1) := by decide +kernel
theorem d_Ig_bitCount_39 : decode b_Ig_bitCount 39 = .ok (.iadd, 1) := by decide +kernel
theorem d_Ig_bitCount_40 : decode b_Ig_bitCount 40 = .ok (.istore_n 0, 1) := by decide +kernel
theorem d_Ig_bitCount_41 : decode b_Ig_bitCount 41 = .ok (.iload_n 0, 1) := by decide +kernel
theorem d_Ig_bitCount_42 : decode b_Ig_bitCount 42 = .ok (.iload_n 0, 1) := by decide +kernel
theorem d_Ig_bitCount_43 : decode b_Ig_bitCount 43 = .ok (.bipush 16, 2) := by decide +kernel
theorem d_Ig_bitCount_45 : decode b_Ig_bitCount 45 = .ok (.iushr, 1) := by decide +kernel
theorem d_Ig_bitCount_46 : decode b_Ig_bitCount 46 = .ok (.iadd, 1) := by decide +kernel
theorem d_Ig_bitCount_47 : decode b_Ig_bitCount 47 = .ok (.istore_n 0, 1) := by decide +kernel
theorem d_Ig_bitCount_48 : decode b_Ig_bitCount 48 = .ok (.iload_n 0, 1) := by decide +kernel
theorem d_Ig_bitCount_49 : decode b_Ig_bitCount 49 = .ok (.bipush 63, 2) := by decide +kernel
theorem d_Ig_bitCount_51 : decode b_Ig_bitCount 51 = .ok (.iand, 1) := by decide +kernel
theorem d_Ig_bitCount_52 : decode b_Ig_bitCount 52 = .ok (.ireturn, 1) := by decide +kernel
theorem d_P_usesReviewedBelow_0 : decode b_P_usesReviewedBelow 0 = .ok (.iconst 1, 1) := by decide +kernel
theorem d_P_usesReviewedBelow_1 : decode b_P_usesReviewedBelow 1 = .ok (.aload_n 0, 1) := by decide +kernel
theorem d_P_usesReviewedBelow_2 : decode b_P_usesReviewedBelow 2 = .ok (.getfield 19, 3) := by decide +kernel
theorem d_P_usesReviewedBelow_5 : decode b_P_usesReviewedBelow 5 = .ok (.getfield 133, 3) := by decide +kernel
theorem d_P_usesReviewedBelow_8 : decode b_P_usesReviewedBelow 8 = .ok (.iload_n 1, 1) := by decide +kernel
theorem d_P_usesReviewedBelow_9 : decode b_P_usesReviewedBelow 9 = .ok (.iaload, 1) := by decide +kernel
theorem d_P_usesReviewedBelow_10 : decode b_P_usesReviewedBelow 10 = .ok (.ishl, 1) := by decide +kernel
theorem d_P_usesReviewedBelow_11 : decode b_P_usesReviewedBelow 11 = .ok (.iconst (-1), 1) := by decide +kernel
theorem d_P_usesReviewedBelow_12 : decode b_P_usesReviewedBelow 12 = .ok (.ixor, 1) := by decide +kernel
theorem d_P_usesReviewedBelow_13 : decode b_P_usesReviewedBelow 13 = .ok (.istore_n 3, 1) := by decide +kernel
theorem d_P_usesReviewedBelow_14 : decode b_P_usesReviewedBelow 14 = .ok (.iconst 0, 1) := by decide +kernel
theorem d_P_usesReviewedBelow_15 : decode b_P_usesReviewedBelow 15 = .ok (.istore 4, 2) := by decide +kernel
theorem d_P_usesReviewedBelow_17 : decode b_P_usesReviewedBelow 17 = .ok (.iload 4, 2) := by decide +kernel
theorem d_P_usesReviewedBelow_19 : decode b_P_usesReviewedBelow 19 = .ok (.aload_n 0, 1) := by decide +kernel
theorem d_P_usesReviewedBelow_20 : decode b_P_usesReviewedBelow 20 = .ok (.getfield 19, 3) := by decide +kernel
theorem d_P_usesReviewedBelow_23 : decode b_P_usesReviewedBelow 23 = .ok (.getfield 69, 3) := by decide +kernel
theorem d_P_usesReviewedBelow_26 : decode b_P_usesReviewedBelow 26 = .ok (.getfield 176, 3) := by decide +kernel
theorem d_P_usesReviewedBelow_29 : decode b_P_usesReviewedBelow 29 = .ok (.iload_n 1, 1) := by decide +kernel
theorem d_P_usesReviewedBelow_30 : decode b_P_usesReviewedBelow 30 = .ok (.iaload, 1) := by decide +kernel
theorem d_P_usesReviewedBelow_31 : decode b_P_usesReviewedBelow 31 = .ok (.if_icmp .ge 42, 3) := by decide +kernel
theorem d_P_usesReviewedBelow_34 : decode b_P_usesReviewedBelow 34 = .ok (.aload_n 0, 1) := by decide +kernel
theorem d_P_usesReviewedBelow_35 : decode b_P_usesReviewedBelow 35 = .ok (.getfield 10, 3) := by decide +kernel
theorem d_P_usesReviewedBelow_38 : decode b_P_usesReviewedBelow 38 = .ok (.getfield 185, 3) := by decide +kernel
theorem d_P_usesReviewedBelow_41 : decode b_P_usesReviewedBelow 41 = .ok (.aload_n 0, 1) := by decide +kernel
theorem d_P_usesReviewedBelow_42 : decode b_P_usesReviewedBelow 42 = .ok (.getfield 19, 3) := by decide +kernel
theorem d_P_usesReviewedBelow_45 : decode b_P_usesReviewedBelow 45 = .ok (.iload_n 1, 1) := by decide +kernel
theorem d_P_usesReviewedBelow_46 : decode b_P_usesReviewedBelow 46 = .ok (.iload 4, 2) := by decide +kernel
theorem d_P_usesReviewedBelow_48 : decode b_P_usesReviewedBelow 48 = .ok (.invokevirtual 182, 3) := by decide +kernel
theorem d_P_usesReviewedBelow_51 : decode b_P_usesReviewedBelow 51 = .ok (.iaload, 1) := by decide +kernel
theorem d_P_usesReviewedBelow_52 : decode b_P_usesReviewedBelow 52 = .ok (.istore 5, 2) := by decide +kernel
theorem d_P_usesReviewedBelow_54 : decode b_P_usesReviewedBelow 54 = .ok (.iload 5, 2) := by decide +kernel
theorem d_P_usesReviewedBelow_56 : decode b_P_usesReviewedBelow 56 = .ok (.iload_n 3, 1) := by decide +kernel
theorem d_P_usesReviewedBelow_57 : decode b_P_usesReviewedBelow 57 = .ok (.iand, 1) := by decide +kernel
theorem d_P_usesReviewedBelow_58 : decode b_P_usesReviewedBelow 58 = .ok (.invokestatic 188, 3) := by decide +kernel
theorem d_P_usesReviewedBelow_61 : decode b_P_usesReviewedBelow 61 = .ok (.iload_n 2, 1) := by decide +kernel
theorem d_P_usesReviewedBelow_62 : decode b_P_usesReviewedBelow 62 = .ok (.if_icmp .ge 5, 3) := by decide +kernel
theorem d_P_usesReviewedBelow_65 : decode b_P_usesReviewedBelow 65 = .ok (.iconst 1, 1) := by decide +kernel
theorem d_P_usesReviewedBelow_66 : decode b_P_usesReviewedBelow 66 = .ok (.ireturn, 1) := by decide +kernel
theorem d_P_usesReviewedBelow_67 : decode b_P_usesReviewedBelow 67 = .ok (.iinc 4 1, 3) := by decide +kernel
theorem d_P_usesReviewedBelow_70 : decode b_P_usesReviewedBelow 70 = .ok (.goto (-53), 3) := by decide +kernel
theorem d_P_usesReviewedBelow_73 : decode b_P_usesReviewedBelow 73 = .ok (.iconst 0, 1) := by decide +kernel
theorem d_P_usesReviewedBelow_74 : decode b_P_usesReviewedBelow 74 = .ok (.ireturn, 1) := by decide +kernel
theorem d_P_usesFetchedUntold_0 : decode b_P_usesFetchedUntold 0 = .ok (.iconst 0, 1) := by decide +kernel
theorem d_P_usesFetchedUntold_1 : decode b_P_usesFetchedUntold 1 = .ok (.istore_n 2, 1) := by decide +kernel
theorem d_P_usesFetchedUntold_2 : decode b_P_usesFetchedUntold 2 = .ok (.iload_n 2, 1) := by decide +kernel
theorem d_P_usesFetchedUntold_3 : decode b_P_usesFetchedUntold 3 = .ok (.aload_n 0, 1) := by decide +kernel
theorem d_P_usesFetchedUntold_4 : decode b_P_usesFetchedUntold 4 = .ok (.getfield 19, 3) := by decide +kernel
theorem d_P_usesFetchedUntold_7 : decode b_P_usesFetchedUntold 7 = .ok (.getfield 69, 3) := by decide +kernel
theorem d_P_usesFetchedUntold_10 : decode b_P_usesFetchedUntold 10 = .ok (.getfield 176, 3) := by decide +kernel
theorem d_P_usesFetchedUntold_13 : decode b_P_usesFetchedUntold 13 = .ok (.iload_n 1, 1) := by decide +kernel
theorem d_P_usesFetchedUntold_14 : decode b_P_usesFetchedUntold 14 = .ok (.iaload, 1) := by decide +kernel
theorem d_P_usesFetchedUntold_15 : decode b_P_usesFetchedUntold 15 = .ok (.if_icmp .ge 31, 3) := by decide +kernel
theorem d_P_usesFetchedUntold_18 : decode b_P_usesFetchedUntold 18 = .ok (.aload_n 0, 1) := by decide +kernel
theorem d_P_usesFetchedUntold_19 : decode b_P_usesFetchedUntold 19 = .ok (.getfield 10, 3) := by decide +kernel
theorem d_P_usesFetchedUntold_22 : decode b_P_usesFetchedUntold 22 = .ok (.getfield 60, 3) := by decide +kernel
theorem d_P_usesFetchedUntold_25 : decode b_P_usesFetchedUntold 25 = .ok (.aload_n 0, 1) := by decide +kernel
theorem d_P_usesFetchedUntold_26 : decode b_P_usesFetchedUntold 26 = .ok (.getfield 19, 3) := by decide +kernel
theorem d_P_usesFetchedUntold_29 : decode b_P_usesFetchedUntold 29 = .ok (.iload_n 1, 1) := by decide +kernel
theorem d_P_usesFetchedUntold_30 : decode b_P_usesFetchedUntold 30 = .ok (.iload_n 2, 1) := by decide +kernel
theorem d_P_usesFetchedUntold_31 : decode b_P_usesFetchedUntold 31 = .ok (.invokevirtual 182, 3) := by decide +kernel
theorem d_P_usesFetchedUntold_34 : decode b_P_usesFetchedUntold 34 = .ok (.baload, 1) := by decide +kernel
theorem d_P_usesFetchedUntold_35 : decode b_P_usesFetchedUntold 35 = .ok (.ifCond .eq 5, 3) := by decide +kernel
theorem d_P_usesFetchedUntold_38 : decode b_P_usesFetchedUntold 38 = .ok (.iconst 1, 1) := by decide +kernel
theorem d_P_usesFetchedUntold_39 : decode b_P_usesFetchedUntold 39 = .ok (.ireturn, 1) := by decide +kernel
theorem d_P_usesFetchedUntold_40 : decode b_P_usesFetchedUntold 40 = .ok (.iinc 2 1, 3) := by decide +kernel
theorem d_P_usesFetchedUntold_43 : decode b_P_usesFetchedUntold 43 = .ok (.goto (-41), 3) := by decide +kernel
theorem d_P_usesFetchedUntold_46 : decode b_P_usesFetchedUntold 46 = .ok (.iconst 0, 1) := by decide +kernel
theorem d_P_usesFetchedUntold_47 : decode b_P_usesFetchedUntold 47 = .ok (.ireturn, 1) := by decide +kernel
theorem d_A_missingPlace_0 : decode b_A_missingPlace 0 = .ok (.iconst 0, 1) := by decide +kernel
theorem d_A_missingPlace_1 : decode b_A_missingPlace 1 = .ok (.istore_n 3, 1) := by decide +kernel
theorem d_A_missingPlace_2 : decode b_A_missingPlace 2 = .ok (.iconst 0, 1) := by decide +kernel
theorem d_A_missingPlace_3 : decode b_A_missingPlace 3 = .ok (.istore 4, 2) := by decide +kernel
theorem d_A_missingPlace_5 : decode b_A_missingPlace 5 = .ok (.iload 4, 2) := by decide +kernel
theorem d_A_missingPlace_7 : decode b_A_missingPlace 7 = .ok (.aload_n 0, 1) := by decide +kernel
theorem d_A_missingPlace_8 : decode b_A_missingPlace 8 = .ok (.getfield 35, 3) := by decide +kernel
theorem d_A_missingPlace_11 : decode b_A_missingPlace 11 = .ok (.getfield 55, 3) := by decide +kernel
theorem d_A_missingPlace_14 : decode b_A_missingPlace 14 = .ok (.iload_n 1, 1) := by decide +kernel
theorem d_A_missingPlace_15 : decode b_A_missingPlace 15 = .ok (.iaload, 1) := by decide +kernel
theorem d_A_missingPlace_16 : decode b_A_missingPlace 16 = .ok (.if_icmp .ge 31, 3) := by decide +kernel
theorem d_A_missingPlace_19 : decode b_A_missingPlace 19 = .ok (.aload_n 0, 1) := by decide +kernel
theorem d_A_missingPlace_20 : decode b_A_missingPlace 20 = .ok (.iload_n 1, 1) := by decide +kernel
theorem d_A_missingPlace_21 : decode b_A_missingPlace 21 = .ok (.iload 4, 2) := by decide +kernel
theorem d_A_missingPlace_23 : decode b_A_missingPlace 23 = .ok (.invokevirtual 62, 3) := by decide +kernel
theorem d_A_missingPlace_26 : decode b_A_missingPlace 26 = .ok (.iconst (-1), 1) := by decide +kernel
theorem d_A_missingPlace_27 : decode b_A_missingPlace 27 = .ok (.if_icmp .ne 14, 3) := by decide +kernel
theorem d_A_missingPlace_30 : decode b_A_missingPlace 30 = .ok (.iload_n 3, 1) := by decide +kernel
theorem d_A_missingPlace_31 : decode b_A_missingPlace 31 = .ok (.iload_n 2, 1) := by decide +kernel
theorem d_A_missingPlace_32 : decode b_A_missingPlace 32 = .ok (.if_icmp .ne 6, 3) := by decide +kernel
theorem d_A_missingPlace_35 : decode b_A_missingPlace 35 = .ok (.iload 4, 2) := by decide +kernel
theorem d_A_missingPlace_37 : decode b_A_missingPlace 37 = .ok (.ireturn, 1) := by decide +kernel
theorem d_A_missingPlace_38 : decode b_A_missingPlace 38 = .ok (.iinc 3 1, 3) := by decide +kernel
theorem d_A_missingPlace_41 : decode b_A_missingPlace 41 = .ok (.iinc 4 1, 3) := by decide +kernel
theorem d_A_missingPlace_44 : decode b_A_missingPlace 44 = .ok (.goto (-39), 3) := by decide +kernel
theorem d_A_missingPlace_47 : decode b_A_missingPlace 47 = .ok (.iconst (-1), 1) := by decide +kernel
theorem d_A_missingPlace_48 : decode b_A_missingPlace 48 = .ok (.ireturn, 1) := by decide +kernel
theorem d_A_needsLaterBy_0 : decode b_A_needsLaterBy 0 = .ok (.iconst 0, 1) := by decide +kernel
theorem d_A_needsLaterBy_1 : decode b_A_needsLaterBy 1 = .ok (.istore_n 3, 1) := by decide +kernel
theorem d_A_needsLaterBy_2 : decode b_A_needsLaterBy 2 = .ok (.iload_n 3, 1) := by decide +kernel
theorem d_A_needsLaterBy_3 : decode b_A_needsLaterBy 3 = .ok (.aload_n 0, 1) := by decide +kernel
theorem d_A_needsLaterBy_4 : decode b_A_needsLaterBy 4 = .ok (.getfield 35, 3) := by decide +kernel
theorem d_A_needsLaterBy_7 : decode b_A_needsLaterBy 7 = .ok (.getfield 55, 3) := by decide +kernel
theorem d_A_needsLaterBy_10 : decode b_A_needsLaterBy 10 = .ok (.iload_n 1, 1) := by decide +kernel
theorem d_A_needsLaterBy_11 : decode b_A_needsLaterBy 11 = .ok (.iaload, 1) := by decide +kernel
theorem d_A_needsLaterBy_12 : decode b_A_needsLaterBy 12 = .ok (.if_icmp .ge 43, 3) := by decide +kernel
theorem d_A_needsLaterBy_15 : decode b_A_needsLaterBy 15 = .ok (.aload_n 0, 1) := by decide +kernel
theorem d_A_needsLaterBy_16 : decode b_A_needsLaterBy 16 = .ok (.iload_n 1, 1) := by decide +kernel
theorem d_A_needsLaterBy_17 : decode b_A_needsLaterBy 17 = .ok (.iload_n 3, 1) := by decide +kernel
theorem d_A_needsLaterBy_18 : decode b_A_needsLaterBy 18 = .ok (.invokevirtual 62, 3) := by decide +kernel
theorem d_A_needsLaterBy_21 : decode b_A_needsLaterBy 21 = .ok (.istore 4, 2) := by decide +kernel
theorem d_A_needsLaterBy_23 : decode b_A_needsLaterBy 23 = .ok (.iload 4, 2) := by decide +kernel
theorem d_A_needsLaterBy_25 : decode b_A_needsLaterBy 25 = .ok (.iconst (-1), 1) := by decide +kernel
theorem d_A_needsLaterBy_26 : decode b_A_needsLaterBy 26 = .ok (.if_icmp .eq 23, 3) := by decide +kernel
theorem d_A_needsLaterBy_29 : decode b_A_needsLaterBy 29 = .ok (.aload_n 0, 1) := by decide +kernel
theorem d_A_needsLaterBy_30 : decode b_A_needsLaterBy 30 = .ok (.getfield 25, 3) := by decide +kernel
theorem d_A_needsLaterBy_33 : decode b_A_needsLaterBy 33 = .ok (.iload 4, 2) := by decide +kernel
theorem d_A_needsLaterBy_35 : decode b_A_needsLaterBy 35 = .ok (.iaload, 1) := by decide +kernel
theorem d_A_needsLaterBy_36 : decode b_A_needsLaterBy 36 = .ok (.aload_n 0, 1) := by decide +kernel
theorem d_A_needsLaterBy_37 : decode b_A_needsLaterBy 37 = .ok (.getfield 25, 3) := by decide +kernel
theorem d_A_needsLaterBy_40 : decode b_A_needsLaterBy 40 = .ok (.iload_n 1, 1) := by decide +kernel
theorem d_A_needsLaterBy_41 : decode b_A_needsLaterBy 41 = .ok (.iaload, 1) := by decide +kernel
theorem d_A_needsLaterBy_42 : decode b_A_needsLaterBy 42 = .ok (.isub, 1) := by decide +kernel
theorem d_A_needsLaterBy_43 : decode b_A_needsLaterBy 43 = .ok (.iload_n 2, 1) := by decide +kernel
theorem d_A_needsLaterBy_44 : decode b_A_needsLaterBy 44 = .ok (.if_icmp .le 5, 3) := by decide +kernel
theorem d_A_needsLaterBy_47 : decode b_A_needsLaterBy 47 = .ok (.iconst 1, 1) := by decide +kernel
theorem d_A_needsLaterBy_48 : decode b_A_needsLaterBy 48 = .ok (.ireturn, 1) := by decide +kernel
theorem d_A_needsLaterBy_49 : decode b_A_needsLaterBy 49 = .ok (.iinc 3 1, 3) := by decide +kernel
theorem d_A_needsLaterBy_52 : decode b_A_needsLaterBy 52 = .ok (.goto (-50), 3) := by decide +kernel
theorem d_A_needsLaterBy_55 : decode b_A_needsLaterBy 55 = .ok (.iconst 0, 1) := by decide +kernel
theorem d_A_needsLaterBy_56 : decode b_A_needsLaterBy 56 = .ok (.ireturn, 1) := by decide +kernel
theorem d_W_sameInOrder_0 : decode b_W_sameInOrder 0 = .ok (.aload_n 0, 1) := by decide +kernel
theorem d_W_sameInOrder_1 : decode b_W_sameInOrder 1 = .ok (.getfield 9, 3) := by decide +kernel
theorem d_W_sameInOrder_4 : decode b_W_sameInOrder 4 = .ok (.iload_n 1, 1) := by decide +kernel
theorem d_W_sameInOrder_5 : decode b_W_sameInOrder 5 = .ok (.iaload, 1) := by decide +kernel
theorem d_W_sameInOrder_6 : decode b_W_sameInOrder 6 = .ok (.aload_n 0, 1) := by decide +kernel
theorem d_W_sameInOrder_7 : decode b_W_sameInOrder 7 = .ok (.getfield 9, 3) := by decide +kernel
theorem d_W_sameInOrder_10 : decode b_W_sameInOrder 10 = .ok (.iload_n 2, 1) := by decide +kernel
theorem d_W_sameInOrder_11 : decode b_W_sameInOrder 11 = .ok (.iaload, 1) := by decide +kernel
theorem d_W_sameInOrder_12 : decode b_W_sameInOrder 12 = .ok (.if_icmp .eq 5, 3) := by decide +kernel
theorem d_W_sameInOrder_15 : decode b_W_sameInOrder 15 = .ok (.iconst 0, 1) := by decide +kernel
theorem d_W_sameInOrder_16 : decode b_W_sameInOrder 16 = .ok (.ireturn, 1) := by decide +kernel
theorem d_W_sameInOrder_17 : decode b_W_sameInOrder 17 = .ok (.iconst 0, 1) := by decide +kernel
theorem d_W_sameInOrder_18 : decode b_W_sameInOrder 18 = .ok (.istore_n 3, 1) := by decide +kernel
theorem d_W_sameInOrder_19 : decode b_W_sameInOrder 19 = .ok (.iload_n 3, 1) := by decide +kernel
theorem d_W_sameInOrder_20 : decode b_W_sameInOrder 20 = .ok (.aload_n 0, 1) := by decide +kernel
theorem d_W_sameInOrder_21 : decode b_W_sameInOrder 21 = .ok (.getfield 9, 3) := by decide +kernel
theorem d_W_sameInOrder_24 : decode b_W_sameInOrder 24 = .ok (.iload_n 1, 1) := by decide +kernel
theorem d_W_sameInOrder_25 : decode b_W_sameInOrder 25 = .ok (.iaload, 1) := by decide +kernel
theorem d_W_sameInOrder_26 : decode b_W_sameInOrder 26 = .ok (.if_icmp .ge 27, 3) := by decide +kernel
theorem d_W_sameInOrder_29 : decode b_W_sameInOrder 29 = .ok (.aload_n 0, 1) := by decide +kernel
theorem d_W_sameInOrder_30 : decode b_W_sameInOrder 30 = .ok (.iload_n 1, 1) := by decide +kernel
theorem d_W_sameInOrder_31 : decode b_W_sameInOrder 31 = .ok (.iload_n 3, 1) := by decide +kernel
theorem d_W_sameInOrder_32 : decode b_W_sameInOrder 32 = .ok (.invokevirtual 23, 3) := by decide +kernel
theorem d_W_sameInOrder_35 : decode b_W_sameInOrder 35 = .ok (.aload_n 0, 1) := by decide +kernel
theorem d_W_sameInOrder_36 : decode b_W_sameInOrder 36 = .ok (.iload_n 2, 1) := by decide +kernel
theorem d_W_sameInOrder_37 : decode b_W_sameInOrder 37 = .ok (.iload_n 3, 1) := by decide +kernel
theorem d_W_sameInOrder_38 : decode b_W_sameInOrder 38 = .ok (.invokevirtual 23, 3) := by decide +kernel
theorem d_W_sameInOrder_41 : decode b_W_sameInOrder 41 = .ok (.lcmp, 1) := by decide +kernel
theorem d_W_sameInOrder_42 : decode b_W_sameInOrder 42 = .ok (.ifCond .eq 5, 3) := by decide +kernel
theorem d_W_sameInOrder_45 : decode b_W_sameInOrder 45 = .ok (.iconst 0, 1) := by decide +kernel
theorem d_W_sameInOrder_46 : decode b_W_sameInOrder 46 = .ok (.ireturn, 1) := by decide +kernel
theorem d_W_sameInOrder_47 : decode b_W_sameInOrder 47 = .ok (.iinc 3 1, 3) := by decide +kernel
theorem d_W_sameInOrder_50 : decode b_W_sameInOrder 50 = .ok (.goto (-31), 3) := by decide +kernel
theorem d_W_sameInOrder_53 : decode b_W_sameInOrder 53 = .ok (.iconst 1, 1) := by decide +kernel
theorem d_W_sameInOrder_54 : decode b_W_sameInOrder 54 = .ok (.ireturn, 1) := by decide +kernel
theorem d_A_clashing_0 : decode b_A_clashing 0 = .ok (.aload_n 0, 1) := by decide +kernel
theorem d_A_clashing_1 : decode b_A_clashing 1 = .ok (.getfield 9, 3) := by decide +kernel
theorem d_A_clashing_4 : decode b_A_clashing 4 = .ok (.iload_n 1, 1) := by decide +kernel
theorem d_A_clashing_5 : decode b_A_clashing 5 = .ok (.laload, 1) := by decide +kernel
theorem d_A_clashing_6 : decode b_A_clashing 6 = .ok (.aload_n 0, 1) := by decide +kernel
theorem d_A_clashing_7 : decode b_A_clashing 7 = .ok (.getfield 9, 3) := by decide +kernel
theorem d_A_clashing_10 : decode b_A_clashing 10 = .ok (.iload_n 2, 1) := by decide +kernel
theorem d_A_clashing_11 : decode b_A_clashing 11 = .ok (.laload, 1) := by decide +kernel
theorem d_A_clashing_12 : decode b_A_clashing 12 = .ok (.lcmp, 1) := by decide +kernel
theorem d_A_clashing_13 : decode b_A_clashing 13 = .ok (.ifCond .eq 5, 3) := by decide +kernel
theorem d_A_clashing_16 : decode b_A_clashing 16 = .ok (.iconst 0, 1) := by decide +kernel
theorem d_A_clashing_17 : decode b_A_clashing 17 = .ok (.ireturn, 1) := by decide +kernel
theorem d_A_clashing_18 : decode b_A_clashing 18 = .ok (.aload_n 0, 1) := by decide +kernel
theorem d_A_clashing_19 : decode b_A_clashing 19 = .ok (.getfield 15, 3) := by decide +kernel
theorem d_A_clashing_22 : decode b_A_clashing 22 = .ok (.iload_n 1, 1) := by decide +kernel
theorem d_A_clashing_23 : decode b_A_clashing 23 = .ok (.iaload, 1) := by decide +kernel
theorem d_A_clashing_24 : decode b_A_clashing 24 = .ok (.aload_n 0, 1) := by decide +kernel
theorem d_A_clashing_25 : decode b_A_clashing 25 = .ok (.getfield 15, 3) := by decide +kernel
theorem d_A_clashing_28 : decode b_A_clashing 28 = .ok (.iload_n 2, 1) := by decide +kernel
theorem d_A_clashing_29 : decode b_A_clashing 29 = .ok (.iaload, 1) := by decide +kernel
theorem d_A_clashing_30 : decode b_A_clashing 30 = .ok (.if_icmp .ne 46, 3) := by decide +kernel
theorem d_A_clashing_33 : decode b_A_clashing 33 = .ok (.aload_n 0, 1) := by decide +kernel
theorem d_A_clashing_34 : decode b_A_clashing 34 = .ok (.getfield 19, 3) := by decide +kernel
theorem d_A_clashing_37 : decode b_A_clashing 37 = .ok (.iload_n 1, 1) := by decide +kernel
theorem d_A_clashing_38 : decode b_A_clashing 38 = .ok (.iaload, 1) := by decide +kernel
theorem d_A_clashing_39 : decode b_A_clashing 39 = .ok (.aload_n 0, 1) := by decide +kernel
theorem d_A_clashing_40 : decode b_A_clashing 40 = .ok (.getfield 19, 3) := by decide +kernel
theorem d_A_clashing_43 : decode b_A_clashing 43 = .ok (.iload_n 2, 1) := by decide +kernel
theorem d_A_clashing_44 : decode b_A_clashing 44 = .ok (.iaload, 1) := by decide +kernel
theorem d_A_clashing_45 : decode b_A_clashing 45 = .ok (.if_icmp .ne 31, 3) := by decide +kernel
theorem d_A_clashing_48 : decode b_A_clashing 48 = .ok (.aload_n 0, 1) := by decide +kernel
theorem d_A_clashing_49 : decode b_A_clashing 49 = .ok (.getfield 31, 3) := by decide +kernel
theorem d_A_clashing_52 : decode b_A_clashing 52 = .ok (.iload_n 1, 1) := by decide +kernel
theorem d_A_clashing_53 : decode b_A_clashing 53 = .ok (.iload_n 2, 1) := by decide +kernel
theorem d_A_clashing_54 : decode b_A_clashing 54 = .ok (.invokevirtual 78, 3) := by decide +kernel
theorem d_A_clashing_57 : decode b_A_clashing 57 = .ok (.ifCond .eq 19, 3) := by decide +kernel
theorem d_A_clashing_60 : decode b_A_clashing 60 = .ok (.aload_n 0, 1) := by decide +kernel
theorem d_A_clashing_61 : decode b_A_clashing 61 = .ok (.getfield 35, 3) := by decide +kernel
theorem d_A_clashing_64 : decode b_A_clashing 64 = .ok (.iload_n 1, 1) := by decide +kernel
theorem d_A_clashing_65 : decode b_A_clashing 65 = .ok (.iload_n 2, 1) := by decide +kernel
theorem d_A_clashing_66 : decode b_A_clashing 66 = .ok (.invokevirtual 78, 3) := by decide +kernel
theorem d_A_clashing_69 : decode b_A_clashing 69 = .ok (.ifCond .eq 7, 3) := by decide +kernel
theorem d_A_clashing_72 : decode b_A_clashing 72 = .ok (.iconst 1, 1) := by decide +kernel
theorem d_A_clashing_73 : decode b_A_clashing 73 = .ok (.goto 4, 3) := by decide +kernel
theorem d_A_clashing_76 : decode b_A_clashing 76 = .ok (.iconst 0, 1) := by decide +kernel
theorem d_A_clashing_77 : decode b_A_clashing 77 = .ok (.istore_n 3, 1) := by decide +kernel
theorem d_A_clashing_78 : decode b_A_clashing 78 = .ok (.iload_n 3, 1) := by decide +kernel
theorem d_A_clashing_79 : decode b_A_clashing 79 = .ok (.ifCond .ne 7, 3) := by decide +kernel
theorem d_A_clashing_82 : decode b_A_clashing 82 = .ok (.iconst 1, 1) := by decide +kernel
theorem d_A_clashing_83 : decode b_A_clashing 83 = .ok (.goto 4, 3) := by decide +kernel
theorem d_A_clashing_86 : decode b_A_clashing 86 = .ok (.iconst 0, 1) := by decide +kernel
theorem d_A_clashing_87 : decode b_A_clashing 87 = .ok (.ireturn, 1) := by decide +kernel
theorem d_A_clashesWithAny_0 : decode b_A_clashesWithAny 0 = .ok (.iconst 0, 1) := by decide +kernel
theorem d_A_clashesWithAny_1 : decode b_A_clashesWithAny 1 = .ok (.istore_n 2, 1) := by decide +kernel
theorem d_A_clashesWithAny_2 : decode b_A_clashesWithAny 2 = .ok (.iload_n 2, 1) := by decide +kernel
theorem d_A_clashesWithAny_3 : decode b_A_clashesWithAny 3 = .ok (.aload_n 0, 1) := by decide +kernel
theorem d_A_clashesWithAny_4 : decode b_A_clashesWithAny 4 = .ok (.getfield 47, 3) := by decide +kernel
theorem d_A_clashesWithAny_7 : decode b_A_clashesWithAny 7 = .ok (.if_icmp .ge 20, 3) := by decide +kernel
theorem d_A_clashesWithAny_10 : decode b_A_clashesWithAny 10 = .ok (.aload_n 0, 1) := by decide +kernel
theorem d_A_clashesWithAny_11 : decode b_A_clashesWithAny 11 = .ok (.iload_n 1, 1) := by decide +kernel
theorem d_A_clashesWithAny_12 : decode b_A_clashesWithAny 12 = .ok (.iload_n 2, 1) := by decide +kernel
theorem d_A_clashesWithAny_13 : decode b_A_clashesWithAny 13 = .ok (.invokevirtual 74, 3) := by decide +kernel
theorem d_A_clashesWithAny_16 : decode b_A_clashesWithAny 16 = .ok (.ifCond .eq 5, 3) := by decide +kernel
theorem d_A_clashesWithAny_19 : decode b_A_clashesWithAny 19 = .ok (.iconst 1, 1) := by decide +kernel
theorem d_A_clashesWithAny_20 : decode b_A_clashesWithAny 20 = .ok (.ireturn, 1) := by decide +kernel
theorem d_A_clashesWithAny_21 : decode b_A_clashesWithAny 21 = .ok (.iinc 2 1, 3) := by decide +kernel
theorem d_A_clashesWithAny_24 : decode b_A_clashesWithAny 24 = .ok (.goto (-22), 3) := by decide +kernel
theorem d_A_clashesWithAny_27 : decode b_A_clashesWithAny 27 = .ok (.iconst 0, 1) := by decide +kernel
theorem d_A_clashesWithAny_28 : decode b_A_clashesWithAny 28 = .ok (.ireturn, 1) := by decide +kernel
theorem d_A_restsOnNothing_0 : decode b_A_restsOnNothing 0 = .ok (.aload_n 0, 1) := by decide +kernel
theorem d_A_restsOnNothing_1 : decode b_A_restsOnNothing 1 = .ok (.getfield 31, 3) := by decide +kernel
theorem d_A_restsOnNothing_4 : decode b_A_restsOnNothing 4 = .ok (.getfield 55, 3) := by decide +kernel
theorem d_A_restsOnNothing_7 : decode b_A_restsOnNothing 7 = .ok (.iload_n 1, 1) := by decide +kernel
theorem d_A_restsOnNothing_8 : decode b_A_restsOnNothing 8 = .ok (.iaload, 1) := by decide +kernel
theorem d_A_restsOnNothing_9 : decode b_A_restsOnNothing 9 = .ok (.ifCond .ne 19, 3) := by decide +kernel
theorem d_A_restsOnNothing_12 : decode b_A_restsOnNothing 12 = .ok (.aload_n 0, 1) := by decide +kernel
theorem d_A_restsOnNothing_13 : decode b_A_restsOnNothing 13 = .ok (.getfield 35, 3) := by decide +kernel
theorem d_A_restsOnNothing_16 : decode b_A_restsOnNothing 16 = .ok (.getfield 55, 3) := by decide +kernel
theorem d_A_restsOnNothing_19 : decode b_A_restsOnNothing 19 = .ok (.iload_n 1, 1) := by decide +kernel
theorem d_A_restsOnNothing_20 : decode b_A_restsOnNothing 20 = .ok (.iaload, 1) := by decide +kernel
theorem d_A_restsOnNothing_21 : decode b_A_restsOnNothing 21 = .ok (.ifCond .ne 7, 3) := by decide +kernel
theorem d_A_restsOnNothing_24 : decode b_A_restsOnNothing 24 = .ok (.iconst 1, 1) := by decide +kernel
theorem d_A_restsOnNothing_25 : decode b_A_restsOnNothing 25 = .ok (.goto 4, 3) := by decide +kernel
theorem d_A_restsOnNothing_28 : decode b_A_restsOnNothing 28 = .ok (.iconst 0, 1) := by decide +kernel
theorem d_A_restsOnNothing_29 : decode b_A_restsOnNothing 29 = .ok (.ireturn, 1) := by decide +kernel
theorem d_P_isBroken_0 : decode b_P_isBroken 0 = .ok (.aload_n 0, 1) := by decide +kernel
theorem d_P_isBroken_1 : decode b_P_isBroken 1 = .ok (.getfield 26, 3) := by decide +kernel
theorem d_P_isBroken_4 : decode b_P_isBroken 4 = .ok (.getfield 149, 3) := by decide +kernel
theorem d_P_isBroken_7 : decode b_P_isBroken 7 = .ok (.iload_n 1, 1) := by decide +kernel
theorem d_P_isBroken_8 : decode b_P_isBroken 8 = .ok (.iaload, 1) := by decide +kernel
theorem d_P_isBroken_9 : decode b_P_isBroken 9 = .ok (.istore_n 3, 1) := by decide +kernel
theorem d_P_isBroken_10 : decode b_P_isBroken 10 = .ok (.aload_n 0, 1) := by decide +kernel
theorem d_P_isBroken_11 : decode b_P_isBroken 11 = .ok (.getfield 26, 3) := by decide +kernel
theorem d_P_isBroken_14 : decode b_P_isBroken 14 = .ok (.getfield 152, 3) := by decide +kernel
theorem d_P_isBroken_17 : decode b_P_isBroken 17 = .ok (.iload_n 1, 1) := by decide +kernel
theorem d_P_isBroken_18 : decode b_P_isBroken 18 = .ok (.iaload, 1) := by decide +kernel
theorem d_P_isBroken_19 : decode b_P_isBroken 19 = .ok (.tableswitch 193 0 9 #[53, 75, 97, 104, 111, 117, 136, 146, 155, 164], 53) := by decide +kernel
theorem d_P_isBroken_72 : decode b_P_isBroken 72 = .ok (.iload_n 3, 1) := by decide +kernel
theorem d_P_isBroken_73 : decode b_P_isBroken 73 = .ok (.aload_n 0, 1) := by decide +kernel
theorem d_P_isBroken_74 : decode b_P_isBroken 74 = .ok (.getfield 19, 3) := by decide +kernel
theorem d_P_isBroken_77 : decode b_P_isBroken 77 = .ok (.getfield 127, 3) := by decide +kernel
theorem d_P_isBroken_80 : decode b_P_isBroken 80 = .ok (.iload_n 2, 1) := by decide +kernel
theorem d_P_isBroken_81 : decode b_P_isBroken 81 = .ok (.iaload, 1) := by decide +kernel
theorem d_P_isBroken_82 : decode b_P_isBroken 82 = .ok (.invokestatic 155, 3) := by decide +kernel
theorem d_P_isBroken_85 : decode b_P_isBroken 85 = .ok (.ifCond .ne 7, 3) := by decide +kernel
theorem d_P_isBroken_88 : decode b_P_isBroken 88 = .ok (.iconst 1, 1) := by decide +kernel
theorem d_P_isBroken_89 : decode b_P_isBroken 89 = .ok (.goto 4, 3) := by decide +kernel
theorem d_P_isBroken_92 : decode b_P_isBroken 92 = .ok (.iconst 0, 1) := by decide +kernel
theorem d_P_isBroken_93 : decode b_P_isBroken 93 = .ok (.ireturn, 1) := by decide +kernel
theorem d_P_isBroken_94 : decode b_P_isBroken 94 = .ok (.iload_n 3, 1) := by decide +kernel
theorem d_P_isBroken_95 : decode b_P_isBroken 95 = .ok (.aload_n 0, 1) := by decide +kernel
theorem d_P_isBroken_96 : decode b_P_isBroken 96 = .ok (.getfield 19, 3) := by decide +kernel
theorem d_P_isBroken_99 : decode b_P_isBroken 99 = .ok (.getfield 130, 3) := by decide +kernel
theorem d_P_isBroken_102 : decode b_P_isBroken 102 = .ok (.iload_n 2, 1) := by decide +kernel
theorem d_P_isBroken_103 : decode b_P_isBroken 103 = .ok (.iaload, 1) := by decide +kernel
theorem d_P_isBroken_104 : decode b_P_isBroken 104 = .ok (.invokestatic 155, 3) := by decide +kernel
theorem d_P_isBroken_107 : decode b_P_isBroken 107 = .ok (.ifCond .ne 7, 3) := by decide +kernel
theorem d_P_isBroken_110 : decode b_P_isBroken 110 = .ok (.iconst 1, 1) := by decide +kernel
theorem d_P_isBroken_111 : decode b_P_isBroken 111 = .ok (.goto 4, 3) := by decide +kernel
theorem d_P_isBroken_114 : decode b_P_isBroken 114 = .ok (.iconst 0, 1) := by decide +kernel
theorem d_P_isBroken_115 : decode b_P_isBroken 115 = .ok (.ireturn, 1) := by decide +kernel
theorem d_P_isBroken_116 : decode b_P_isBroken 116 = .ok (.aload_n 0, 1) := by decide +kernel
theorem d_P_isBroken_117 : decode b_P_isBroken 117 = .ok (.iload_n 2, 1) := by decide +kernel
theorem d_P_isBroken_118 : decode b_P_isBroken 118 = .ok (.iload_n 3, 1) := by decide +kernel
theorem d_P_isBroken_119 : decode b_P_isBroken 119 = .ok (.invokevirtual 158, 3) := by decide +kernel
theorem d_P_isBroken_122 : decode b_P_isBroken 122 = .ok (.ireturn, 1) := by decide +kernel
theorem d_P_isBroken_123 : decode b_P_isBroken 123 = .ok (.aload_n 0, 1) := by decide +kernel
theorem d_P_isBroken_124 : decode b_P_isBroken 124 = .ok (.iload_n 2, 1) := by decide +kernel
theorem d_P_isBroken_125 : decode b_P_isBroken 125 = .ok (.iload_n 3, 1) := by decide +kernel
theorem d_P_isBroken_126 : decode b_P_isBroken 126 = .ok (.invokevirtual 161, 3) := by decide +kernel
theorem d_P_isBroken_129 : decode b_P_isBroken 129 = .ok (.ireturn, 1) := by decide +kernel
theorem d_P_isBroken_130 : decode b_P_isBroken 130 = .ok (.aload_n 0, 1) := by decide +kernel
theorem d_P_isBroken_131 : decode b_P_isBroken 131 = .ok (.iload_n 2, 1) := by decide +kernel
theorem d_P_isBroken_132 : decode b_P_isBroken 132 = .ok (.invokevirtual 164, 3) := by decide +kernel
theorem d_P_isBroken_135 : decode b_P_isBroken 135 = .ok (.ireturn, 1) := by decide +kernel
theorem d_P_isBroken_136 : decode b_P_isBroken 136 = .ok (.aload_n 0, 1) := by decide +kernel
theorem d_P_isBroken_137 : decode b_P_isBroken 137 = .ok (.getfield 19, 3) := by decide +kernel
theorem d_P_isBroken_140 : decode b_P_isBroken 140 = .ok (.iload_n 2, 1) := by decide +kernel
theorem d_P_isBroken_141 : decode b_P_isBroken 141 = .ok (.iconst 0, 1) := by decide +kernel
theorem d_P_isBroken_142 : decode b_P_isBroken 142 = .ok (.invokevirtual 112, 3) := by decide +kernel
theorem d_P_isBroken_145 : decode b_P_isBroken 145 = .ok (.iconst (-1), 1) := by decide +kernel
theorem d_P_isBroken_146 : decode b_P_isBroken 146 = .ok (.if_icmp .eq 7, 3) := by decide +kernel
theorem d_P_isBroken_149 : decode b_P_isBroken 149 = .ok (.iconst 1, 1) := by decide +kernel
theorem d_P_isBroken_150 : decode b_P_isBroken 150 = .ok (.goto 4, 3) := by decide +kernel
theorem d_P_isBroken_153 : decode b_P_isBroken 153 = .ok (.iconst 0, 1) := by decide +kernel
theorem d_P_isBroken_154 : decode b_P_isBroken 154 = .ok (.ireturn, 1) := by decide +kernel
theorem d_P_isBroken_155 : decode b_P_isBroken 155 = .ok (.aload_n 0, 1) := by decide +kernel
theorem d_P_isBroken_156 : decode b_P_isBroken 156 = .ok (.getfield 19, 3) := by decide +kernel
theorem d_P_isBroken_159 : decode b_P_isBroken 159 = .ok (.iload_n 2, 1) := by decide +kernel
theorem d_P_isBroken_160 : decode b_P_isBroken 160 = .ok (.iload_n 3, 1) := by decide +kernel
theorem d_P_isBroken_161 : decode b_P_isBroken 161 = .ok (.invokevirtual 167, 3) := by decide +kernel
theorem d_P_isBroken_164 : decode b_P_isBroken 164 = .ok (.ireturn, 1) := by decide +kernel
theorem d_P_isBroken_165 : decode b_P_isBroken 165 = .ok (.aload_n 0, 1) := by decide +kernel
theorem d_P_isBroken_166 : decode b_P_isBroken 166 = .ok (.getfield 19, 3) := by decide +kernel
theorem d_P_isBroken_169 : decode b_P_isBroken 169 = .ok (.iload_n 2, 1) := by decide +kernel
theorem d_P_isBroken_170 : decode b_P_isBroken 170 = .ok (.invokevirtual 170, 3) := by decide +kernel
theorem d_P_isBroken_173 : decode b_P_isBroken 173 = .ok (.ireturn, 1) := by decide +kernel
theorem d_P_isBroken_174 : decode b_P_isBroken 174 = .ok (.aload_n 0, 1) := by decide +kernel
theorem d_P_isBroken_175 : decode b_P_isBroken 175 = .ok (.getfield 19, 3) := by decide +kernel
theorem d_P_isBroken_178 : decode b_P_isBroken 178 = .ok (.iload_n 2, 1) := by decide +kernel
theorem d_P_isBroken_179 : decode b_P_isBroken 179 = .ok (.invokevirtual 173, 3) := by decide +kernel
theorem d_P_isBroken_182 : decode b_P_isBroken 182 = .ok (.ireturn, 1) := by decide +kernel
theorem d_P_isBroken_183 : decode b_P_isBroken 183 = .ok (.aload_n 0, 1) := by decide +kernel
theorem d_P_isBroken_184 : decode b_P_isBroken 184 = .ok (.getfield 40, 3) := by decide +kernel
theorem d_P_isBroken_187 : decode b_P_isBroken 187 = .ok (.aload_n 0, 1) := by decide +kernel
theorem d_P_isBroken_188 : decode b_P_isBroken 188 = .ok (.getfield 19, 3) := by decide +kernel
theorem d_P_isBroken_191 : decode b_P_isBroken 191 = .ok (.iload_n 2, 1) := by decide +kernel
theorem d_P_isBroken_192 : decode b_P_isBroken 192 = .ok (.invokevirtual 89, 3) := by decide +kernel
theorem d_P_isBroken_195 : decode b_P_isBroken 195 = .ok (.aload_n 0, 1) := by decide +kernel
theorem d_P_isBroken_196 : decode b_P_isBroken 196 = .ok (.getfield 40, 3) := by decide +kernel
theorem d_P_isBroken_199 : decode b_P_isBroken 199 = .ok (.getfield 93, 3) := by decide +kernel
theorem d_P_isBroken_202 : decode b_P_isBroken 202 = .ok (.iload_n 3, 1) := by decide +kernel
theorem d_P_isBroken_203 : decode b_P_isBroken 203 = .ok (.if_icmp .le 7, 3) := by decide +kernel
theorem d_P_isBroken_206 : decode b_P_isBroken 206 = .ok (.iconst 1, 1) := by decide +kernel
theorem d_P_isBroken_207 : decode b_P_isBroken 207 = .ok (.goto 4, 3) := by decide +kernel
theorem d_P_isBroken_210 : decode b_P_isBroken 210 = .ok (.iconst 0, 1) := by decide +kernel
theorem d_P_isBroken_211 : decode b_P_isBroken 211 = .ok (.ireturn, 1) := by decide +kernel
theorem d_P_isBroken_212 : decode b_P_isBroken 212 = .ok (.iconst 0, 1) := by decide +kernel
theorem d_P_isBroken_213 : decode b_P_isBroken 213 = .ok (.ireturn, 1) := by decide +kernel
theorem d_P_firstBrokenBy_0 : decode b_P_firstBrokenBy 0 = .ok (.iconst 0, 1) := by decide +kernel
theorem d_P_firstBrokenBy_1 : decode b_P_firstBrokenBy 1 = .ok (.istore_n 2, 1) := by decide +kernel
theorem d_P_firstBrokenBy_2 : decode b_P_firstBrokenBy 2 = .ok (.iload_n 2, 1) := by decide +kernel
theorem d_P_firstBrokenBy_3 : decode b_P_firstBrokenBy 3 = .ok (.aload_n 0, 1) := by decide +kernel
theorem d_P_firstBrokenBy_4 : decode b_P_firstBrokenBy 4 = .ok (.getfield 26, 3) := by decide +kernel
theorem d_P_firstBrokenBy_7 : decode b_P_firstBrokenBy 7 = .ok (.getfield 148, 3) := by decide +kernel
theorem d_P_firstBrokenBy_10 : decode b_P_firstBrokenBy 10 = .ok (.if_icmp .ge 20, 3) := by decide +kernel
theorem d_P_firstBrokenBy_13 : decode b_P_firstBrokenBy 13 = .ok (.aload_n 0, 1) := by decide +kernel
theorem d_P_firstBrokenBy_14 : decode b_P_firstBrokenBy 14 = .ok (.iload_n 2, 1) := by decide +kernel
theorem d_P_firstBrokenBy_15 : decode b_P_firstBrokenBy 15 = .ok (.iload_n 1, 1) := by decide +kernel
theorem d_P_firstBrokenBy_16 : decode b_P_firstBrokenBy 16 = .ok (.invokevirtual 105, 3) := by decide +kernel
theorem d_P_firstBrokenBy_19 : decode b_P_firstBrokenBy 19 = .ok (.ifCond .eq 5, 3) := by decide +kernel
theorem d_P_firstBrokenBy_22 : decode b_P_firstBrokenBy 22 = .ok (.iload_n 2, 1) := by decide +kernel
theorem d_P_firstBrokenBy_23 : decode b_P_firstBrokenBy 23 = .ok (.ireturn, 1) := by decide +kernel
theorem d_P_firstBrokenBy_24 : decode b_P_firstBrokenBy 24 = .ok (.iinc 2 1, 3) := by decide +kernel
theorem d_P_firstBrokenBy_27 : decode b_P_firstBrokenBy 27 = .ok (.goto (-25), 3) := by decide +kernel
theorem d_P_firstBrokenBy_30 : decode b_P_firstBrokenBy 30 = .ok (.iconst (-1), 1) := by decide +kernel
theorem d_P_firstBrokenBy_31 : decode b_P_firstBrokenBy 31 = .ok (.ireturn, 1) := by decide +kernel
theorem d_P_verdict_0 : decode b_P_verdict 0 = .ok (.aload_n 0, 1) := by decide +kernel
theorem d_P_verdict_1 : decode b_P_verdict 1 = .ok (.getfield 19, 3) := by decide +kernel
theorem d_P_verdict_4 : decode b_P_verdict 4 = .ok (.iload_n 1, 1) := by decide +kernel
theorem d_P_verdict_5 : decode b_P_verdict 5 = .ok (.invokevirtual 68, 3) := by decide +kernel
theorem d_P_verdict_8 : decode b_P_verdict 8 = .ok (.ifCond .ne 6, 3) := by decide +kernel
theorem d_P_verdict_11 : decode b_P_verdict 11 = .ok (.bipush (-2), 2) := by decide +kernel
theorem d_P_verdict_13 : decode b_P_verdict 13 = .ok (.ireturn, 1) := by decide +kernel
theorem d_P_verdict_14 : decode b_P_verdict 14 = .ok (.aload_n 0, 1) := by decide +kernel
theorem d_P_verdict_15 : decode b_P_verdict 15 = .ok (.getfield 37, 3) := by decide +kernel
theorem d_P_verdict_18 : decode b_P_verdict 18 = .ok (.aload_n 0, 1) := by decide +kernel
theorem d_P_verdict_19 : decode b_P_verdict 19 = .ok (.getfield 19, 3) := by decide +kernel
theorem d_P_verdict_22 : decode b_P_verdict 22 = .ok (.iload_n 1, 1) := by decide +kernel
theorem d_P_verdict_23 : decode b_P_verdict 23 = .ok (.invokevirtual 89, 3) := by decide +kernel
theorem d_P_verdict_26 : decode b_P_verdict 26 = .ok (.iconst 0, 1) := by decide +kernel
theorem d_P_verdict_27 : decode b_P_verdict 27 = .ok (.istore_n 2, 1) := by decide +kernel
theorem d_P_verdict_28 : decode b_P_verdict 28 = .ok (.iload_n 2, 1) := by decide +kernel
theorem d_P_verdict_29 : decode b_P_verdict 29 = .ok (.aload_n 0, 1) := by decide +kernel
theorem d_P_verdict_30 : decode b_P_verdict 30 = .ok (.getfield 37, 3) := by decide +kernel
theorem d_P_verdict_33 : decode b_P_verdict 33 = .ok (.getfield 93, 3) := by decide +kernel
theorem d_P_verdict_36 : decode b_P_verdict 36 = .ok (.if_icmp .ge 40, 3) := by decide +kernel
theorem d_P_verdict_39 : decode b_P_verdict 39 = .ok (.aload_n 0, 1) := by decide +kernel
theorem d_P_verdict_40 : decode b_P_verdict 40 = .ok (.getfield 37, 3) := by decide +kernel
theorem d_P_verdict_43 : decode b_P_verdict 43 = .ok (.getfield 96, 3) := by decide +kernel
theorem d_P_verdict_46 : decode b_P_verdict 46 = .ok (.iload_n 2, 1) := by decide +kernel
theorem d_P_verdict_47 : decode b_P_verdict 47 = .ok (.iaload, 1) := by decide +kernel
theorem d_P_verdict_48 : decode b_P_verdict 48 = .ok (.istore_n 3, 1) := by decide +kernel
theorem d_P_verdict_49 : decode b_P_verdict 49 = .ok (.aload_n 0, 1) := by decide +kernel
theorem d_P_verdict_50 : decode b_P_verdict 50 = .ok (.iload_n 3, 1) := by decide +kernel
theorem d_P_verdict_51 : decode b_P_verdict 51 = .ok (.invokevirtual 100, 3) := by decide +kernel
theorem d_P_verdict_54 : decode b_P_verdict 54 = .ok (.istore 4, 2) := by decide +kernel
theorem d_P_verdict_56 : decode b_P_verdict 56 = .ok (.iload 4, 2) := by decide +kernel
theorem d_P_verdict_58 : decode b_P_verdict 58 = .ok (.iconst (-1), 1) := by decide +kernel
theorem d_P_verdict_59 : decode b_P_verdict 59 = .ok (.if_icmp .eq 11, 3) := by decide +kernel
theorem d_P_verdict_62 : decode b_P_verdict 62 = .ok (.aload_n 0, 1) := by decide +kernel
theorem d_P_verdict_63 : decode b_P_verdict 63 = .ok (.iload_n 3, 1) := by decide +kernel
theorem d_P_verdict_64 : decode b_P_verdict 64 = .ok (.putfield 43, 3) := by decide +kernel
theorem d_P_verdict_67 : decode b_P_verdict 67 = .ok (.iload 4, 2) := by decide +kernel
theorem d_P_verdict_69 : decode b_P_verdict 69 = .ok (.ireturn, 1) := by decide +kernel
theorem d_P_verdict_70 : decode b_P_verdict 70 = .ok (.iinc 2 1, 3) := by decide +kernel
theorem d_P_verdict_73 : decode b_P_verdict 73 = .ok (.goto (-45), 3) := by decide +kernel
theorem d_P_verdict_76 : decode b_P_verdict 76 = .ok (.iconst (-1), 1) := by decide +kernel
theorem d_P_verdict_77 : decode b_P_verdict 77 = .ok (.ireturn, 1) := by decide +kernel
theorem d_P_culprit_0 : decode b_P_culprit 0 = .ok (.aload_n 0, 1) := by decide +kernel
theorem d_P_culprit_1 : decode b_P_culprit 1 = .ok (.getfield 43, 3) := by decide +kernel
theorem d_P_culprit_4 : decode b_P_culprit 4 = .ok (.ireturn, 1) := by decide +kernel
theorem d_Y_has_0 : decode b_Y_has 0 = .ok (.iload_n 1, 1) := by decide +kernel
theorem d_Y_has_1 : decode b_Y_has 1 = .ok (.ifCond .lt 15, 3) := by decide +kernel
theorem d_Y_has_4 : decode b_Y_has 4 = .ok (.iload_n 1, 1) := by decide +kernel
theorem d_Y_has_5 : decode b_Y_has 5 = .ok (.aload_n 0, 1) := by decide +kernel
theorem d_Y_has_6 : decode b_Y_has 6 = .ok (.getfield 18, 3) := by decide +kernel
theorem d_Y_has_9 : decode b_Y_has 9 = .ok (.if_icmp .ge 7, 3) := by decide +kernel
theorem d_Y_has_12 : decode b_Y_has 12 = .ok (.iconst 1, 1) := by decide +kernel
theorem d_Y_has_13 : decode b_Y_has 13 = .ok (.goto 4, 3) := by decide +kernel
theorem d_Y_has_16 : decode b_Y_has 16 = .ok (.iconst 0, 1) := by decide +kernel
theorem d_Y_has_17 : decode b_Y_has 17 = .ok (.ireturn, 1) := by decide +kernel
theorem d_P_breaks_0 : decode b_P_breaks 0 = .ok (.aload_n 0, 1) := by decide +kernel
theorem d_P_breaks_1 : decode b_P_breaks 1 = .ok (.getfield 19, 3) := by decide +kernel
theorem d_P_breaks_4 : decode b_P_breaks 4 = .ok (.iload_n 1, 1) := by decide +kernel
theorem d_P_breaks_5 : decode b_P_breaks 5 = .ok (.invokevirtual 68, 3) := by decide +kernel
theorem d_P_breaks_8 : decode b_P_breaks 8 = .ok (.ifCond .eq 27, 3) := by decide +kernel
theorem d_P_breaks_11 : decode b_P_breaks 11 = .ok (.aload_n 0, 1) := by decide +kernel
theorem d_P_breaks_12 : decode b_P_breaks 12 = .ok (.getfield 26, 3) := by decide +kernel
theorem d_P_breaks_15 : decode b_P_breaks 15 = .ok (.iload_n 2, 1) := by decide +kernel
theorem d_P_breaks_16 : decode b_P_breaks 16 = .ok (.invokevirtual 104, 3) := by decide +kernel
theorem d_P_breaks_19 : decode b_P_breaks 19 = .ok (.ifCond .eq 16, 3) := by decide +kernel
theorem d_P_breaks_22 : decode b_P_breaks 22 = .ok (.aload_n 0, 1) := by decide +kernel
theorem d_P_breaks_23 : decode b_P_breaks 23 = .ok (.iload_n 2, 1) := by decide +kernel
theorem d_P_breaks_24 : decode b_P_breaks 24 = .ok (.iload_n 1, 1) := by decide +kernel
theorem d_P_breaks_25 : decode b_P_breaks 25 = .ok (.invokevirtual 105, 3) := by decide +kernel
theorem d_P_breaks_28 : decode b_P_breaks 28 = .ok (.ifCond .eq 7, 3) := by decide +kernel
theorem d_P_breaks_31 : decode b_P_breaks 31 = .ok (.iconst 1, 1) := by decide +kernel
theorem d_P_breaks_32 : decode b_P_breaks 32 = .ok (.goto 4, 3) := by decide +kernel
theorem d_P_breaks_35 : decode b_P_breaks 35 = .ok (.iconst 0, 1) := by decide +kernel
theorem d_P_breaks_36 : decode b_P_breaks 36 = .ok (.ireturn, 1) := by decide +kernel
theorem d_P_closure_0 : decode b_P_closure 0 = .ok (.aload_n 0, 1) := by decide +kernel
theorem d_P_closure_1 : decode b_P_closure 1 = .ok (.getfield 19, 3) := by decide +kernel
theorem d_P_closure_4 : decode b_P_closure 4 = .ok (.iload_n 1, 1) := by decide +kernel
theorem d_P_closure_5 : decode b_P_closure 5 = .ok (.invokevirtual 68, 3) := by decide +kernel
theorem d_P_closure_8 : decode b_P_closure 8 = .ok (.ifCond .ne 5, 3) := by decide +kernel
theorem d_P_closure_11 : decode b_P_closure 11 = .ok (.iconst (-1), 1) := by decide +kernel
theorem d_P_closure_12 : decode b_P_closure 12 = .ok (.ireturn, 1) := by decide +kernel
theorem d_P_closure_13 : decode b_P_closure 13 = .ok (.aload_n 0, 1) := by decide +kernel
theorem d_P_closure_14 : decode b_P_closure 14 = .ok (.getfield 33, 3) := by decide +kernel
theorem d_P_closure_17 : decode b_P_closure 17 = .ok (.aload_n 0, 1) := by decide +kernel
theorem d_P_closure_18 : decode b_P_closure 18 = .ok (.getfield 19, 3) := by decide +kernel
theorem d_P_closure_21 : decode b_P_closure 21 = .ok (.iload_n 1, 1) := by decide +kernel
theorem d_P_closure_22 : decode b_P_closure 22 = .ok (.invokevirtual 89, 3) := by decide +kernel
theorem d_P_closure_25 : decode b_P_closure 25 = .ok (.aload_n 0, 1) := by decide +kernel
theorem d_P_closure_26 : decode b_P_closure 26 = .ok (.getfield 33, 3) := by decide +kernel
theorem d_P_closure_29 : decode b_P_closure 29 = .ok (.getfield 93, 3) := by decide +kernel
theorem d_P_closure_32 : decode b_P_closure 32 = .ok (.ireturn, 1) := by decide +kernel
theorem d_P_at_0 : decode b_P_at 0 = .ok (.iload_n 1, 1) := by decide +kernel
theorem d_P_at_1 : decode b_P_at 1 = .ok (.ifCond .lt 14, 3) := by decide +kernel
theorem d_P_at_4 : decode b_P_at 4 = .ok (.iload_n 1, 1) := by decide +kernel
theorem d_P_at_5 : decode b_P_at 5 = .ok (.aload_n 0, 1) := by decide +kernel
theorem d_P_at_6 : decode b_P_at 6 = .ok (.getfield 33, 3) := by decide +kernel
theorem d_P_at_9 : decode b_P_at 9 = .ok (.getfield 93, 3) := by decide +kernel
theorem d_P_at_12 : decode b_P_at 12 = .ok (.if_icmp .lt 5, 3) := by decide +kernel
theorem d_P_at_15 : decode b_P_at 15 = .ok (.iconst (-1), 1) := by decide +kernel
theorem d_P_at_16 : decode b_P_at 16 = .ok (.ireturn, 1) := by decide +kernel
theorem d_P_at_17 : decode b_P_at 17 = .ok (.aload_n 0, 1) := by decide +kernel
theorem d_P_at_18 : decode b_P_at 18 = .ok (.getfield 33, 3) := by decide +kernel
theorem d_P_at_21 : decode b_P_at 21 = .ok (.getfield 96, 3) := by decide +kernel
theorem d_P_at_24 : decode b_P_at 24 = .ok (.iload_n 1, 1) := by decide +kernel
theorem d_P_at_25 : decode b_P_at 25 = .ok (.iaload, 1) := by decide +kernel
theorem d_P_at_26 : decode b_P_at 26 = .ok (.ireturn, 1) := by decide +kernel
theorem d_P_usesDigest_0 : decode b_P_usesDigest 0 = .ok (.iconst 0, 1) := by decide +kernel
theorem d_P_usesDigest_1 : decode b_P_usesDigest 1 = .ok (.istore 4, 2) := by decide +kernel
theorem d_P_usesDigest_3 : decode b_P_usesDigest 3 = .ok (.iload 4, 2) := by decide +kernel
theorem d_P_usesDigest_5 : decode b_P_usesDigest 5 = .ok (.aload_n 0, 1) := by decide +kernel
theorem d_P_usesDigest_6 : decode b_P_usesDigest 6 = .ok (.getfield 19, 3) := by decide +kernel
theorem d_P_usesDigest_9 : decode b_P_usesDigest 9 = .ok (.getfield 69, 3) := by decide +kernel
theorem d_P_usesDigest_12 : decode b_P_usesDigest 12 = .ok (.getfield 176, 3) := by decide +kernel
theorem d_P_usesDigest_15 : decode b_P_usesDigest 15 = .ok (.iload_n 1, 1) := by decide +kernel
theorem d_P_usesDigest_16 : decode b_P_usesDigest 16 = .ok (.iaload, 1) := by decide +kernel
theorem d_P_usesDigest_17 : decode b_P_usesDigest 17 = .ok (.if_icmp .ge 34, 3) := by decide +kernel
theorem d_P_usesDigest_20 : decode b_P_usesDigest 20 = .ok (.aload_n 0, 1) := by decide +kernel
theorem d_P_usesDigest_21 : decode b_P_usesDigest 21 = .ok (.getfield 10, 3) := by decide +kernel
theorem d_P_usesDigest_24 : decode b_P_usesDigest 24 = .ok (.getfield 196, 3) := by decide +kernel
theorem d_P_usesDigest_27 : decode b_P_usesDigest 27 = .ok (.aload_n 0, 1) := by decide +kernel
theorem d_P_usesDigest_28 : decode b_P_usesDigest 28 = .ok (.getfield 19, 3) := by decide +kernel
theorem d_P_usesDigest_31 : decode b_P_usesDigest 31 = .ok (.iload_n 1, 1) := by decide +kernel
theorem d_P_usesDigest_32 : decode b_P_usesDigest 32 = .ok (.iload 4, 2) := by decide +kernel
theorem d_P_usesDigest_34 : decode b_P_usesDigest 34 = .ok (.invokevirtual 182, 3) := by decide +kernel
theorem d_P_usesDigest_37 : decode b_P_usesDigest 37 = .ok (.laload, 1) := by decide +kernel
theorem d_P_usesDigest_38 : decode b_P_usesDigest 38 = .ok (.lload_n 2, 1) := by decide +kernel
theorem d_P_usesDigest_39 : decode b_P_usesDigest 39 = .ok (.lcmp, 1) := by decide +kernel
theorem d_P_usesDigest_40 : decode b_P_usesDigest 40 = .ok (.ifCond .ne 5, 3) := by decide +kernel
theorem d_P_usesDigest_43 : decode b_P_usesDigest 43 = .ok (.iconst 1, 1) := by decide +kernel
theorem d_P_usesDigest_44 : decode b_P_usesDigest 44 = .ok (.ireturn, 1) := by decide +kernel
theorem d_P_usesDigest_45 : decode b_P_usesDigest 45 = .ok (.iinc 4 1, 3) := by decide +kernel
theorem d_P_usesDigest_48 : decode b_P_usesDigest 48 = .ok (.goto (-45), 3) := by decide +kernel
theorem d_P_usesDigest_51 : decode b_P_usesDigest 51 = .ok (.iconst 0, 1) := by decide +kernel
theorem d_P_usesDigest_52 : decode b_P_usesDigest 52 = .ok (.ireturn, 1) := by decide +kernel
theorem d_P_restsOn_0 : decode b_P_restsOn 0 = .ok (.aload_n 0, 1) := by decide +kernel
theorem d_P_restsOn_1 : decode b_P_restsOn 1 = .ok (.getfield 37, 3) := by decide +kernel
theorem d_P_restsOn_4 : decode b_P_restsOn 4 = .ok (.aload_n 0, 1) := by decide +kernel
theorem d_P_restsOn_5 : decode b_P_restsOn 5 = .ok (.getfield 19, 3) := by decide +kernel
theorem d_P_restsOn_8 : decode b_P_restsOn 8 = .ok (.iload_n 1, 1) := by decide +kernel
theorem d_P_restsOn_9 : decode b_P_restsOn 9 = .ok (.invokevirtual 89, 3) := by decide +kernel
theorem d_P_restsOn_12 : decode b_P_restsOn 12 = .ok (.iconst 0, 1) := by decide +kernel
theorem d_P_restsOn_13 : decode b_P_restsOn 13 = .ok (.istore 4, 2) := by decide +kernel
theorem d_P_restsOn_15 : decode b_P_restsOn 15 = .ok (.iload 4, 2) := by decide +kernel
theorem d_P_restsOn_17 : decode b_P_restsOn 17 = .ok (.aload_n 0, 1) := by decide +kernel
theorem d_P_restsOn_18 : decode b_P_restsOn 18 = .ok (.getfield 37, 3) := by decide +kernel
theorem d_P_restsOn_21 : decode b_P_restsOn 21 = .ok (.getfield 93, 3) := by decide +kernel
theorem d_P_restsOn_24 : decode b_P_restsOn 24 = .ok (.if_icmp .ge 29, 3) := by decide +kernel
theorem d_P_restsOn_27 : decode b_P_restsOn 27 = .ok (.aload_n 0, 1) := by decide +kernel
theorem d_P_restsOn_28 : decode b_P_restsOn 28 = .ok (.aload_n 0, 1) := by decide +kernel
theorem d_P_restsOn_29 : decode b_P_restsOn 29 = .ok (.getfield 37, 3) := by decide +kernel
theorem d_P_restsOn_32 : decode b_P_restsOn 32 = .ok (.getfield 96, 3) := by decide +kernel
theorem d_P_restsOn_35 : decode b_P_restsOn 35 = .ok (.iload 4, 2) := by decide +kernel
theorem d_P_restsOn_37 : decode b_P_restsOn 37 = .ok (.iaload, 1) := by decide +kernel
theorem d_P_restsOn_38 : decode b_P_restsOn 38 = .ok (.lload_n 2, 1) := by decide +kernel
theorem d_P_restsOn_39 : decode b_P_restsOn 39 = .ok (.invokevirtual 193, 3) := by decide +kernel
theorem d_P_restsOn_42 : decode b_P_restsOn 42 = .ok (.ifCond .eq 5, 3) := by decide +kernel
theorem d_P_restsOn_45 : decode b_P_restsOn 45 = .ok (.iconst 1, 1) := by decide +kernel
theorem d_P_restsOn_46 : decode b_P_restsOn 46 = .ok (.ireturn, 1) := by decide +kernel
theorem d_P_restsOn_47 : decode b_P_restsOn 47 = .ok (.iinc 4 1, 3) := by decide +kernel
theorem d_P_restsOn_50 : decode b_P_restsOn 50 = .ok (.goto (-35), 3) := by decide +kernel
theorem d_P_restsOn_53 : decode b_P_restsOn 53 = .ok (.iconst 0, 1) := by decide +kernel
theorem d_P_restsOn_54 : decode b_P_restsOn 54 = .ok (.ireturn, 1) := by decide +kernel
theorem d_P_holds_0 : decode b_P_holds 0 = .ok (.iconst 0, 1) := by decide +kernel
theorem d_P_holds_1 : decode b_P_holds 1 = .ok (.istore 4, 2) := by decide +kernel
theorem d_P_holds_3 : decode b_P_holds 3 = .ok (.iconst 0, 1) := by decide +kernel
theorem d_P_holds_4 : decode b_P_holds 4 = .ok (.istore 5, 2) := by decide +kernel
theorem d_P_holds_6 : decode b_P_holds 6 = .ok (.iload 5, 2) := by decide +kernel
theorem d_P_holds_8 : decode b_P_holds 8 = .ok (.aload_n 0, 1) := by decide +kernel
theorem d_P_holds_9 : decode b_P_holds 9 = .ok (.getfield 19, 3) := by decide +kernel
theorem d_P_holds_12 : decode b_P_holds 12 = .ok (.getfield 108, 3) := by decide +kernel
theorem d_P_holds_15 : decode b_P_holds 15 = .ok (.if_icmp .ge 31, 3) := by decide +kernel
theorem d_P_holds_18 : decode b_P_holds 18 = .ok (.aload_n 0, 1) := by decide +kernel
theorem d_P_holds_19 : decode b_P_holds 19 = .ok (.iload 5, 2) := by decide +kernel
theorem d_P_holds_21 : decode b_P_holds 21 = .ok (.lload_n 1, 1) := by decide +kernel
theorem d_P_holds_22 : decode b_P_holds 22 = .ok (.invokevirtual 109, 3) := by decide +kernel
theorem d_P_holds_25 : decode b_P_holds 25 = .ok (.ifCond .eq 15, 3) := by decide +kernel
theorem d_P_holds_28 : decode b_P_holds 28 = .ok (.iload 4, 2) := by decide +kernel
theorem d_P_holds_30 : decode b_P_holds 30 = .ok (.iload_n 3, 1) := by decide +kernel
theorem d_P_holds_31 : decode b_P_holds 31 = .ok (.if_icmp .ne 6, 3) := by decide +kernel
theorem d_P_holds_34 : decode b_P_holds 34 = .ok (.iload 5, 2) := by decide +kernel
theorem d_P_holds_36 : decode b_P_holds 36 = .ok (.ireturn, 1) := by decide +kernel
theorem d_P_holds_37 : decode b_P_holds 37 = .ok (.iinc 4 1, 3) := by decide +kernel
theorem d_P_holds_40 : decode b_P_holds 40 = .ok (.iinc 5 1, 3) := by decide +kernel
theorem d_P_holds_43 : decode b_P_holds 43 = .ok (.goto (-37), 3) := by decide +kernel
theorem d_P_holds_46 : decode b_P_holds 46 = .ok (.iconst (-1), 1) := by decide +kernel
theorem d_P_holds_47 : decode b_P_holds 47 = .ok (.ireturn, 1) := by decide +kernel
theorem d_P_missing_0 : decode b_P_missing 0 = .ok (.aload_n 0, 1) := by decide +kernel
theorem d_P_missing_1 : decode b_P_missing 1 = .ok (.getfield 19, 3) := by decide +kernel
theorem d_P_missing_4 : decode b_P_missing 4 = .ok (.iload_n 1, 1) := by decide +kernel
theorem d_P_missing_5 : decode b_P_missing 5 = .ok (.invokevirtual 68, 3) := by decide +kernel
theorem d_P_missing_8 : decode b_P_missing 8 = .ok (.ifCond .ne 5, 3) := by decide +kernel
theorem d_P_missing_11 : decode b_P_missing 11 = .ok (.iconst (-1), 1) := by decide +kernel
theorem d_P_missing_12 : decode b_P_missing 12 = .ok (.ireturn, 1) := by decide +kernel
theorem d_P_missing_13 : decode b_P_missing 13 = .ok (.aload_n 0, 1) := by decide +kernel
theorem d_P_missing_14 : decode b_P_missing 14 = .ok (.getfield 19, 3) := by decide +kernel
theorem d_P_missing_17 : decode b_P_missing 17 = .ok (.iload_n 1, 1) := by decide +kernel
theorem d_P_missing_18 : decode b_P_missing 18 = .ok (.iload_n 2, 1) := by decide +kernel
theorem d_P_missing_19 : decode b_P_missing 19 = .ok (.invokevirtual 112, 3) := by decide +kernel
theorem d_P_missing_22 : decode b_P_missing 22 = .ok (.ireturn, 1) := by decide +kernel
theorem d_A_differAtPath_0 : decode b_A_differAtPath 0 = .ok (.aload_n 0, 1) := by decide +kernel
theorem d_A_differAtPath_1 : decode b_A_differAtPath 1 = .ok (.getfield 41, 3) := by decide +kernel
theorem d_A_differAtPath_4 : decode b_A_differAtPath 4 = .ok (.iload_n 1, 1) := by decide +kernel
theorem d_A_differAtPath_5 : decode b_A_differAtPath 5 = .ok (.iaload, 1) := by decide +kernel
theorem d_A_differAtPath_6 : decode b_A_differAtPath 6 = .ok (.iload_n 3, 1) := by decide +kernel
theorem d_A_differAtPath_7 : decode b_A_differAtPath 7 = .ok (.invokestatic 81, 3) := by decide +kernel
theorem d_A_differAtPath_10 : decode b_A_differAtPath 10 = .ok (.aload_n 0, 1) := by decide +kernel
theorem d_A_differAtPath_11 : decode b_A_differAtPath 11 = .ok (.getfield 41, 3) := by decide +kernel
theorem d_A_differAtPath_14 : decode b_A_differAtPath 14 = .ok (.iload_n 2, 1) := by decide +kernel
theorem d_A_differAtPath_15 : decode b_A_differAtPath 15 = .ok (.iaload, 1) := by decide +kernel
theorem d_A_differAtPath_16 : decode b_A_differAtPath 16 = .ok (.iload_n 3, 1) := by decide +kernel
theorem d_A_differAtPath_17 : decode b_A_differAtPath 17 = .ok (.invokestatic 81, 3) := by decide +kernel
theorem d_A_differAtPath_20 : decode b_A_differAtPath 20 = .ok (.if_icmp .ne 29, 3) := by decide +kernel
theorem d_A_differAtPath_23 : decode b_A_differAtPath 23 = .ok (.aload_n 0, 1) := by decide +kernel
theorem d_A_differAtPath_24 : decode b_A_differAtPath 24 = .ok (.getfield 44, 3) := by decide +kernel
theorem d_A_differAtPath_27 : decode b_A_differAtPath 27 = .ok (.iload_n 1, 1) := by decide +kernel
theorem d_A_differAtPath_28 : decode b_A_differAtPath 28 = .ok (.bipush 8, 2) := by decide +kernel
theorem d_A_differAtPath_30 : decode b_A_differAtPath 30 = .ok (.imul, 1) := by decide +kernel
theorem d_A_differAtPath_31 : decode b_A_differAtPath 31 = .ok (.iload_n 3, 1) := by decide +kernel
theorem d_A_differAtPath_32 : decode b_A_differAtPath 32 = .ok (.iadd, 1) := by decide +kernel
theorem d_A_differAtPath_33 : decode b_A_differAtPath 33 = .ok (.laload, 1) := by decide +kernel
theorem d_A_differAtPath_34 : decode b_A_differAtPath 34 = .ok (.aload_n 0, 1) := by decide +kernel
theorem d_A_differAtPath_35 : decode b_A_differAtPath 35 = .ok (.getfield 44, 3) := by decide +kernel
theorem d_A_differAtPath_38 : decode b_A_differAtPath 38 = .ok (.iload_n 2, 1) := by decide +kernel
theorem d_A_differAtPath_39 : decode b_A_differAtPath 39 = .ok (.bipush 8, 2) := by decide +kernel
theorem d_A_differAtPath_41 : decode b_A_differAtPath 41 = .ok (.imul, 1) := by decide +kernel
theorem d_A_differAtPath_42 : decode b_A_differAtPath 42 = .ok (.iload_n 3, 1) := by decide +kernel
theorem d_A_differAtPath_43 : decode b_A_differAtPath 43 = .ok (.iadd, 1) := by decide +kernel
theorem d_A_differAtPath_44 : decode b_A_differAtPath 44 = .ok (.laload, 1) := by decide +kernel
theorem d_A_differAtPath_45 : decode b_A_differAtPath 45 = .ok (.lcmp, 1) := by decide +kernel
theorem d_A_differAtPath_46 : decode b_A_differAtPath 46 = .ok (.ifCond .eq 7, 3) := by decide +kernel
theorem d_A_differAtPath_49 : decode b_A_differAtPath 49 = .ok (.iconst 1, 1) := by decide +kernel
theorem d_A_differAtPath_50 : decode b_A_differAtPath 50 = .ok (.goto 4, 3) := by decide +kernel
theorem d_A_differAtPath_53 : decode b_A_differAtPath 53 = .ok (.iconst 0, 1) := by decide +kernel
theorem d_A_differAtPath_54 : decode b_A_differAtPath 54 = .ok (.ireturn, 1) := by decide +kernel
theorem d_P_bitIf_0 : decode b_P_bitIf 0 = .ok (.iload_n 0, 1) := by decide +kernel
theorem d_P_bitIf_1 : decode b_P_bitIf 1 = .ok (.ifCond .eq 9, 3) := by decide +kernel
theorem d_P_bitIf_4 : decode b_P_bitIf 4 = .ok (.iconst 1, 1) := by decide +kernel
theorem d_P_bitIf_5 : decode b_P_bitIf 5 = .ok (.iload_n 1, 1) := by decide +kernel
theorem d_P_bitIf_6 : decode b_P_bitIf 6 = .ok (.ishl, 1) := by decide +kernel
theorem d_P_bitIf_7 : decode b_P_bitIf 7 = .ok (.goto 4, 3) := by decide +kernel
theorem d_P_bitIf_10 : decode b_P_bitIf 10 = .ok (.iconst 0, 1) := by decide +kernel
theorem d_P_bitIf_11 : decode b_P_bitIf 11 = .ok (.ireturn, 1) := by decide +kernel
theorem d_P_rebuilt_0 : decode b_P_rebuilt 0 = .ok (.aload_n 0, 1) := by decide +kernel
theorem d_P_rebuilt_1 : decode b_P_rebuilt 1 = .ok (.getfield 19, 3) := by decide +kernel
theorem d_P_rebuilt_4 : decode b_P_rebuilt 4 = .ok (.iload_n 1, 1) := by decide +kernel
theorem d_P_rebuilt_5 : decode b_P_rebuilt 5 = .ok (.invokevirtual 68, 3) := by decide +kernel
theorem d_P_rebuilt_8 : decode b_P_rebuilt 8 = .ok (.ifCond .eq 14, 3) := by decide +kernel
theorem d_P_rebuilt_11 : decode b_P_rebuilt 11 = .ok (.aload_n 0, 1) := by decide +kernel
theorem d_P_rebuilt_12 : decode b_P_rebuilt 12 = .ok (.getfield 19, 3) := by decide +kernel
theorem d_P_rebuilt_15 : decode b_P_rebuilt 15 = .ok (.iload_n 2, 1) := by decide +kernel
theorem d_P_rebuilt_16 : decode b_P_rebuilt 16 = .ok (.invokevirtual 68, 3) := by decide +kernel
theorem d_P_rebuilt_19 : decode b_P_rebuilt 19 = .ok (.ifCond .ne 5, 3) := by decide +kernel
theorem d_P_rebuilt_22 : decode b_P_rebuilt 22 = .ok (.iconst (-1), 1) := by decide +kernel
theorem d_P_rebuilt_23 : decode b_P_rebuilt 23 = .ok (.ireturn, 1) := by decide +kernel
theorem d_P_rebuilt_24 : decode b_P_rebuilt 24 = .ok (.iconst 0, 1) := by decide +kernel
theorem d_P_rebuilt_25 : decode b_P_rebuilt 25 = .ok (.istore_n 3, 1) := by decide +kernel
theorem d_P_rebuilt_26 : decode b_P_rebuilt 26 = .ok (.iconst 0, 1) := by decide +kernel
theorem d_P_rebuilt_27 : decode b_P_rebuilt 27 = .ok (.istore 4, 2) := by decide +kernel
theorem d_P_rebuilt_29 : decode b_P_rebuilt 29 = .ok (.iload 4, 2) := by decide +kernel
theorem d_P_rebuilt_31 : decode b_P_rebuilt 31 = .ok (.bipush 8, 2) := by decide +kernel
theorem d_P_rebuilt_33 : decode b_P_rebuilt 33 = .ok (.if_icmp .ge 28, 3) := by decide +kernel
theorem d_P_rebuilt_36 : decode b_P_rebuilt 36 = .ok (.iload_n 3, 1) := by decide +kernel
theorem d_P_rebuilt_37 : decode b_P_rebuilt 37 = .ok (.aload_n 0, 1) := by decide +kernel
theorem d_P_rebuilt_38 : decode b_P_rebuilt 38 = .ok (.getfield 19, 3) := by decide +kernel
theorem d_P_rebuilt_41 : decode b_P_rebuilt 41 = .ok (.iload_n 1, 1) := by decide +kernel
theorem d_P_rebuilt_42 : decode b_P_rebuilt 42 = .ok (.iload_n 2, 1) := by decide +kernel
theorem d_P_rebuilt_43 : decode b_P_rebuilt 43 = .ok (.iload 4, 2) := by decide +kernel
theorem d_P_rebuilt_45 : decode b_P_rebuilt 45 = .ok (.invokevirtual 115, 3) := by decide +kernel
theorem d_P_rebuilt_48 : decode b_P_rebuilt 48 = .ok (.iload 4, 2) := by decide +kernel
theorem d_P_rebuilt_50 : decode b_P_rebuilt 50 = .ok (.invokestatic 119, 3) := by decide +kernel
theorem d_P_rebuilt_53 : decode b_P_rebuilt 53 = .ok (.ior, 1) := by decide +kernel
theorem d_P_rebuilt_54 : decode b_P_rebuilt 54 = .ok (.istore_n 3, 1) := by decide +kernel
theorem d_P_rebuilt_55 : decode b_P_rebuilt 55 = .ok (.iinc 4 1, 3) := by decide +kernel
theorem d_P_rebuilt_58 : decode b_P_rebuilt 58 = .ok (.goto (-29), 3) := by decide +kernel
theorem d_P_rebuilt_61 : decode b_P_rebuilt 61 = .ok (.iload_n 3, 1) := by decide +kernel
theorem d_P_rebuilt_62 : decode b_P_rebuilt 62 = .ok (.ireturn, 1) := by decide +kernel
theorem d_W_sameAsSets_0 : decode b_W_sameAsSets 0 = .ok (.aload_n 0, 1) := by decide +kernel
theorem d_W_sameAsSets_1 : decode b_W_sameAsSets 1 = .ok (.getfield 9, 3) := by decide +kernel
theorem d_W_sameAsSets_4 : decode b_W_sameAsSets 4 = .ok (.iload_n 1, 1) := by decide +kernel
theorem d_W_sameAsSets_5 : decode b_W_sameAsSets 5 = .ok (.iaload, 1) := by decide +kernel
theorem d_W_sameAsSets_6 : decode b_W_sameAsSets 6 = .ok (.aload_n 0, 1) := by decide +kernel
theorem d_W_sameAsSets_7 : decode b_W_sameAsSets 7 = .ok (.getfield 9, 3) := by decide +kernel
theorem d_W_sameAsSets_10 : decode b_W_sameAsSets 10 = .ok (.iload_n 2, 1) := by decide +kernel
theorem d_W_sameAsSets_11 : decode b_W_sameAsSets 11 = .ok (.iaload, 1) := by decide +kernel
theorem d_W_sameAsSets_12 : decode b_W_sameAsSets 12 = .ok (.if_icmp .eq 5, 3) := by decide +kernel
theorem d_W_sameAsSets_15 : decode b_W_sameAsSets 15 = .ok (.iconst 0, 1) := by decide +kernel
theorem d_W_sameAsSets_16 : decode b_W_sameAsSets 16 = .ok (.ireturn, 1) := by decide +kernel
theorem d_W_sameAsSets_17 : decode b_W_sameAsSets 17 = .ok (.iconst 0, 1) := by decide +kernel
theorem d_W_sameAsSets_18 : decode b_W_sameAsSets 18 = .ok (.istore_n 3, 1) := by decide +kernel
theorem d_W_sameAsSets_19 : decode b_W_sameAsSets 19 = .ok (.iload_n 3, 1) := by decide +kernel
theorem d_W_sameAsSets_20 : decode b_W_sameAsSets 20 = .ok (.aload_n 0, 1) := by decide +kernel
theorem d_W_sameAsSets_21 : decode b_W_sameAsSets 21 = .ok (.getfield 9, 3) := by decide +kernel
theorem d_W_sameAsSets_24 : decode b_W_sameAsSets 24 = .ok (.iload_n 1, 1) := by decide +kernel
theorem d_W_sameAsSets_25 : decode b_W_sameAsSets 25 = .ok (.iaload, 1) := by decide +kernel
theorem d_W_sameAsSets_26 : decode b_W_sameAsSets 26 = .ok (.if_icmp .ge 25, 3) := by decide +kernel
theorem d_W_sameAsSets_29 : decode b_W_sameAsSets 29 = .ok (.aload_n 0, 1) := by decide +kernel
theorem d_W_sameAsSets_30 : decode b_W_sameAsSets 30 = .ok (.iload_n 2, 1) := by decide +kernel
theorem d_W_sameAsSets_31 : decode b_W_sameAsSets 31 = .ok (.aload_n 0, 1) := by decide +kernel
theorem d_W_sameAsSets_32 : decode b_W_sameAsSets 32 = .ok (.iload_n 1, 1) := by decide +kernel
theorem d_W_sameAsSets_33 : decode b_W_sameAsSets 33 = .ok (.iload_n 3, 1) := by decide +kernel
theorem d_W_sameAsSets_34 : decode b_W_sameAsSets 34 = .ok (.invokevirtual 23, 3) := by decide +kernel
theorem d_W_sameAsSets_37 : decode b_W_sameAsSets 37 = .ok (.invokevirtual 19, 3) := by decide +kernel
theorem d_W_sameAsSets_40 : decode b_W_sameAsSets 40 = .ok (.ifCond .ne 5, 3) := by decide +kernel
theorem d_W_sameAsSets_43 : decode b_W_sameAsSets 43 = .ok (.iconst 0, 1) := by decide +kernel
theorem d_W_sameAsSets_44 : decode b_W_sameAsSets 44 = .ok (.ireturn, 1) := by decide +kernel
theorem d_W_sameAsSets_45 : decode b_W_sameAsSets 45 = .ok (.iinc 3 1, 3) := by decide +kernel
theorem d_W_sameAsSets_48 : decode b_W_sameAsSets 48 = .ok (.goto (-29), 3) := by decide +kernel
theorem d_W_sameAsSets_51 : decode b_W_sameAsSets 51 = .ok (.iconst 1, 1) := by decide +kernel
theorem d_W_sameAsSets_52 : decode b_W_sameAsSets 52 = .ok (.ireturn, 1) := by decide +kernel
theorem d_P_differ_0 : decode b_P_differ 0 = .ok (.aload_n 0, 1) := by decide +kernel
theorem d_P_differ_1 : decode b_P_differ 1 = .ok (.getfield 19, 3) := by decide +kernel
theorem d_P_differ_4 : decode b_P_differ 4 = .ok (.iload_n 1, 1) := by decide +kernel
theorem d_P_differ_5 : decode b_P_differ 5 = .ok (.invokevirtual 68, 3) := by decide +kernel
theorem d_P_differ_8 : decode b_P_differ 8 = .ok (.ifCond .eq 14, 3) := by decide +kernel
theorem d_P_differ_11 : decode b_P_differ 11 = .ok (.aload_n 0, 1) := by decide +kernel
theorem d_P_differ_12 : decode b_P_differ 12 = .ok (.getfield 19, 3) := by decide +kernel
theorem d_P_differ_15 : decode b_P_differ 15 = .ok (.iload_n 2, 1) := by decide +kernel
theorem d_P_differ_16 : decode b_P_differ 16 = .ok (.invokevirtual 68, 3) := by decide +kernel
theorem d_P_differ_19 : decode b_P_differ 19 = .ok (.ifCond .ne 5, 3) := by decide +kernel
theorem d_P_differ_22 : decode b_P_differ 22 = .ok (.iconst (-1), 1) := by decide +kernel
theorem d_P_differ_23 : decode b_P_differ 23 = .ok (.ireturn, 1) := by decide +kernel
theorem d_P_differ_24 : decode b_P_differ 24 = .ok (.aload_n 0, 1) := by decide +kernel
theorem d_P_differ_25 : decode b_P_differ 25 = .ok (.getfield 19, 3) := by decide +kernel
theorem d_P_differ_28 : decode b_P_differ 28 = .ok (.getfield 123, 3) := by decide +kernel
theorem d_P_differ_31 : decode b_P_differ 31 = .ok (.iload_n 1, 1) := by decide +kernel
theorem d_P_differ_32 : decode b_P_differ 32 = .ok (.laload, 1) := by decide +kernel
theorem d_P_differ_33 : decode b_P_differ 33 = .ok (.aload_n 0, 1) := by decide +kernel
theorem d_P_differ_34 : decode b_P_differ 34 = .ok (.getfield 19, 3) := by decide +kernel
theorem d_P_differ_37 : decode b_P_differ 37 = .ok (.getfield 123, 3) := by decide +kernel
theorem d_P_differ_40 : decode b_P_differ 40 = .ok (.iload_n 2, 1) := by decide +kernel
theorem d_P_differ_41 : decode b_P_differ 41 = .ok (.laload, 1) := by decide +kernel
theorem d_P_differ_42 : decode b_P_differ 42 = .ok (.lcmp, 1) := by decide +kernel
theorem d_P_differ_43 : decode b_P_differ 43 = .ok (.ifCond .eq 7, 3) := by decide +kernel
theorem d_P_differ_46 : decode b_P_differ 46 = .ok (.iconst 1, 1) := by decide +kernel
theorem d_P_differ_47 : decode b_P_differ 47 = .ok (.goto 4, 3) := by decide +kernel
theorem d_P_differ_50 : decode b_P_differ 50 = .ok (.iconst 0, 1) := by decide +kernel
theorem d_P_differ_51 : decode b_P_differ 51 = .ok (.iconst 0, 1) := by decide +kernel
theorem d_P_differ_52 : decode b_P_differ 52 = .ok (.invokestatic 119, 3) := by decide +kernel
theorem d_P_differ_55 : decode b_P_differ 55 = .ok (.aload_n 0, 1) := by decide +kernel
theorem d_P_differ_56 : decode b_P_differ 56 = .ok (.getfield 19, 3) := by decide +kernel
theorem d_P_differ_59 : decode b_P_differ 59 = .ok (.getfield 127, 3) := by decide +kernel
theorem d_P_differ_62 : decode b_P_differ 62 = .ok (.iload_n 1, 1) := by decide +kernel
theorem d_P_differ_63 : decode b_P_differ 63 = .ok (.iaload, 1) := by decide +kernel
theorem d_P_differ_64 : decode b_P_differ 64 = .ok (.aload_n 0, 1) := by decide +kernel
theorem d_P_differ_65 : decode b_P_differ 65 = .ok (.getfield 19, 3) := by decide +kernel
theorem d_P_differ_68 : decode b_P_differ 68 = .ok (.getfield 127, 3) := by decide +kernel
theorem d_P_differ_71 : decode b_P_differ 71 = .ok (.iload_n 2, 1) := by decide +kernel
theorem d_P_differ_72 : decode b_P_differ 72 = .ok (.iaload, 1) := by decide +kernel
theorem d_P_differ_73 : decode b_P_differ 73 = .ok (.if_icmp .eq 7, 3) := by decide +kernel
theorem d_P_differ_76 : decode b_P_differ 76 = .ok (.iconst 1, 1) := by decide +kernel
theorem d_P_differ_77 : decode b_P_differ 77 = .ok (.goto 4, 3) := by decide +kernel
theorem d_P_differ_80 : decode b_P_differ 80 = .ok (.iconst 0, 1) := by decide +kernel
theorem d_P_differ_81 : decode b_P_differ 81 = .ok (.iconst 1, 1) := by decide +kernel
theorem d_P_differ_82 : decode b_P_differ 82 = .ok (.invokestatic 119, 3) := by decide +kernel
theorem d_P_differ_85 : decode b_P_differ 85 = .ok (.ior, 1) := by decide +kernel
theorem d_P_differ_86 : decode b_P_differ 86 = .ok (.aload_n 0, 1) := by decide +kernel
theorem d_P_differ_87 : decode b_P_differ 87 = .ok (.getfield 19, 3) := by decide +kernel
theorem d_P_differ_90 : decode b_P_differ 90 = .ok (.getfield 130, 3) := by decide +kernel
theorem d_P_differ_93 : decode b_P_differ 93 = .ok (.iload_n 1, 1) := by decide +kernel
theorem d_P_differ_94 : decode b_P_differ 94 = .ok (.iaload, 1) := by decide +kernel
theorem d_P_differ_95 : decode b_P_differ 95 = .ok (.aload_n 0, 1) := by decide +kernel
theorem d_P_differ_96 : decode b_P_differ 96 = .ok (.getfield 19, 3) := by decide +kernel
theorem d_P_differ_99 : decode b_P_differ 99 = .ok (.getfield 130, 3) := by decide +kernel
theorem d_P_differ_102 : decode b_P_differ 102 = .ok (.iload_n 2, 1) := by decide +kernel
theorem d_P_differ_103 : decode b_P_differ 103 = .ok (.iaload, 1) := by decide +kernel
theorem d_P_differ_104 : decode b_P_differ 104 = .ok (.if_icmp .eq 7, 3) := by decide +kernel
theorem d_P_differ_107 : decode b_P_differ 107 = .ok (.iconst 1, 1) := by decide +kernel
theorem d_P_differ_108 : decode b_P_differ 108 = .ok (.goto 4, 3) := by decide +kernel
theorem d_P_differ_111 : decode b_P_differ 111 = .ok (.iconst 0, 1) := by decide +kernel
theorem d_P_differ_112 : decode b_P_differ 112 = .ok (.iconst 2, 1) := by decide +kernel
theorem d_P_differ_113 : decode b_P_differ 113 = .ok (.invokestatic 119, 3) := by decide +kernel
theorem d_P_differ_116 : decode b_P_differ 116 = .ok (.ior, 1) := by decide +kernel
theorem d_P_differ_117 : decode b_P_differ 117 = .ok (.aload_n 0, 1) := by decide +kernel
theorem d_P_differ_118 : decode b_P_differ 118 = .ok (.getfield 19, 3) := by decide +kernel
theorem d_P_differ_121 : decode b_P_differ 121 = .ok (.getfield 133, 3) := by decide +kernel
theorem d_P_differ_124 : decode b_P_differ 124 = .ok (.iload_n 1, 1) := by decide +kernel
theorem d_P_differ_125 : decode b_P_differ 125 = .ok (.iaload, 1) := by decide +kernel
theorem d_P_differ_126 : decode b_P_differ 126 = .ok (.aload_n 0, 1) := by decide +kernel
theorem d_P_differ_127 : decode b_P_differ 127 = .ok (.getfield 19, 3) := by decide +kernel
theorem d_P_differ_130 : decode b_P_differ 130 = .ok (.getfield 133, 3) := by decide +kernel
theorem d_P_differ_133 : decode b_P_differ 133 = .ok (.iload_n 2, 1) := by decide +kernel
theorem d_P_differ_134 : decode b_P_differ 134 = .ok (.iaload, 1) := by decide +kernel
theorem d_P_differ_135 : decode b_P_differ 135 = .ok (.if_icmp .eq 7, 3) := by decide +kernel
theorem d_P_differ_138 : decode b_P_differ 138 = .ok (.iconst 1, 1) := by decide +kernel
theorem d_P_differ_139 : decode b_P_differ 139 = .ok (.goto 4, 3) := by decide +kernel
theorem d_P_differ_142 : decode b_P_differ 142 = .ok (.iconst 0, 1) := by decide +kernel
theorem d_P_differ_143 : decode b_P_differ 143 = .ok (.iconst 3, 1) := by decide +kernel
theorem d_P_differ_144 : decode b_P_differ 144 = .ok (.invokestatic 119, 3) := by decide +kernel
theorem d_P_differ_147 : decode b_P_differ 147 = .ok (.ior, 1) := by decide +kernel
theorem d_P_differ_148 : decode b_P_differ 148 = .ok (.aload_n 0, 1) := by decide +kernel
theorem d_P_differ_149 : decode b_P_differ 149 = .ok (.getfield 19, 3) := by decide +kernel
theorem d_P_differ_152 : decode b_P_differ 152 = .ok (.getfield 136, 3) := by decide +kernel
theorem d_P_differ_155 : decode b_P_differ 155 = .ok (.iload_n 1, 1) := by decide +kernel
theorem d_P_differ_156 : decode b_P_differ 156 = .ok (.iaload, 1) := by decide +kernel
theorem d_P_differ_157 : decode b_P_differ 157 = .ok (.aload_n 0, 1) := by decide +kernel
theorem d_P_differ_158 : decode b_P_differ 158 = .ok (.getfield 19, 3) := by decide +kernel
theorem d_P_differ_161 : decode b_P_differ 161 = .ok (.getfield 136, 3) := by decide +kernel
theorem d_P_differ_164 : decode b_P_differ 164 = .ok (.iload_n 2, 1) := by decide +kernel
theorem d_P_differ_165 : decode b_P_differ 165 = .ok (.iaload, 1) := by decide +kernel
theorem d_P_differ_166 : decode b_P_differ 166 = .ok (.if_icmp .eq 7, 3) := by decide +kernel
theorem d_P_differ_169 : decode b_P_differ 169 = .ok (.iconst 1, 1) := by decide +kernel
theorem d_P_differ_170 : decode b_P_differ 170 = .ok (.goto 4, 3) := by decide +kernel
theorem d_P_differ_173 : decode b_P_differ 173 = .ok (.iconst 0, 1) := by decide +kernel
theorem d_P_differ_174 : decode b_P_differ 174 = .ok (.iconst 4, 1) := by decide +kernel
theorem d_P_differ_175 : decode b_P_differ 175 = .ok (.invokestatic 119, 3) := by decide +kernel
theorem d_P_differ_178 : decode b_P_differ 178 = .ok (.ior, 1) := by decide +kernel
theorem d_P_differ_179 : decode b_P_differ 179 = .ok (.aload_n 0, 1) := by decide +kernel
theorem d_P_differ_180 : decode b_P_differ 180 = .ok (.getfield 19, 3) := by decide +kernel
theorem d_P_differ_183 : decode b_P_differ 183 = .ok (.getfield 69, 3) := by decide +kernel
theorem d_P_differ_186 : decode b_P_differ 186 = .ok (.iload_n 1, 1) := by decide +kernel
theorem d_P_differ_187 : decode b_P_differ 187 = .ok (.iload_n 2, 1) := by decide +kernel
theorem d_P_differ_188 : decode b_P_differ 188 = .ok (.invokevirtual 139, 3) := by decide +kernel
theorem d_P_differ_191 : decode b_P_differ 191 = .ok (.ifCond .ne 7, 3) := by decide +kernel
theorem d_P_differ_194 : decode b_P_differ 194 = .ok (.iconst 1, 1) := by decide +kernel
theorem d_P_differ_195 : decode b_P_differ 195 = .ok (.goto 4, 3) := by decide +kernel
theorem d_P_differ_198 : decode b_P_differ 198 = .ok (.iconst 0, 1) := by decide +kernel
theorem d_P_differ_199 : decode b_P_differ 199 = .ok (.iconst 5, 1) := by decide +kernel
theorem d_P_differ_200 : decode b_P_differ 200 = .ok (.invokestatic 119, 3) := by decide +kernel
theorem d_P_differ_203 : decode b_P_differ 203 = .ok (.ior, 1) := by decide +kernel
theorem d_P_differ_204 : decode b_P_differ 204 = .ok (.aload_n 0, 1) := by decide +kernel
theorem d_P_differ_205 : decode b_P_differ 205 = .ok (.getfield 19, 3) := by decide +kernel
theorem d_P_differ_208 : decode b_P_differ 208 = .ok (.getfield 142, 3) := by decide +kernel
theorem d_P_differ_211 : decode b_P_differ 211 = .ok (.iload_n 1, 1) := by decide +kernel
theorem d_P_differ_212 : decode b_P_differ 212 = .ok (.iload_n 2, 1) := by decide +kernel
theorem d_P_differ_213 : decode b_P_differ 213 = .ok (.invokevirtual 139, 3) := by decide +kernel
theorem d_P_differ_216 : decode b_P_differ 216 = .ok (.ifCond .ne 7, 3) := by decide +kernel
theorem d_P_differ_219 : decode b_P_differ 219 = .ok (.iconst 1, 1) := by decide +kernel
theorem d_P_differ_220 : decode b_P_differ 220 = .ok (.goto 4, 3) := by decide +kernel
theorem d_P_differ_223 : decode b_P_differ 223 = .ok (.iconst 0, 1) := by decide +kernel
theorem d_P_differ_224 : decode b_P_differ 224 = .ok (.bipush 6, 2) := by decide +kernel
theorem d_P_differ_226 : decode b_P_differ 226 = .ok (.invokestatic 119, 3) := by decide +kernel
theorem d_P_differ_229 : decode b_P_differ 229 = .ok (.ior, 1) := by decide +kernel
theorem d_P_differ_230 : decode b_P_differ 230 = .ok (.ireturn, 1) := by decide +kernel
theorem d_P_clash_0 : decode b_P_clash 0 = .ok (.iload_n 2, 1) := by decide +kernel
theorem d_P_clash_1 : decode b_P_clash 1 = .ok (.ifCond .eq 10, 3) := by decide +kernel
theorem d_P_clash_4 : decode b_P_clash 4 = .ok (.iload_n 2, 1) := by decide +kernel
theorem d_P_clash_5 : decode b_P_clash 5 = .ok (.iconst 1, 1) := by decide +kernel
theorem d_P_clash_6 : decode b_P_clash 6 = .ok (.if_icmp .eq 5, 3) := by decide +kernel
theorem d_P_clash_9 : decode b_P_clash 9 = .ok (.iconst (-1), 1) := by decide +kernel
theorem d_P_clash_10 : decode b_P_clash 10 = .ok (.ireturn, 1) := by decide +kernel
theorem d_P_clash_11 : decode b_P_clash 11 = .ok (.iconst 0, 1) := by decide +kernel
theorem d_P_clash_12 : decode b_P_clash 12 = .ok (.istore_n 3, 1) := by decide +kernel
theorem d_P_clash_13 : decode b_P_clash 13 = .ok (.iconst 0, 1) := by decide +kernel
theorem d_P_clash_14 : decode b_P_clash 14 = .ok (.istore 4, 2) := by decide +kernel
theorem d_P_clash_16 : decode b_P_clash 16 = .ok (.iload 4, 2) := by decide +kernel
theorem d_P_clash_18 : decode b_P_clash 18 = .ok (.aload_n 0, 1) := by decide +kernel
theorem d_P_clash_19 : decode b_P_clash 19 = .ok (.getfield 19, 3) := by decide +kernel
theorem d_P_clash_22 : decode b_P_clash 22 = .ok (.getfield 108, 3) := by decide +kernel
theorem d_P_clash_25 : decode b_P_clash 25 = .ok (.if_icmp .ge 67, 3) := by decide +kernel
theorem d_P_clash_28 : decode b_P_clash 28 = .ok (.iload 4, 2) := by decide +kernel
theorem d_P_clash_30 : decode b_P_clash 30 = .ok (.iconst 1, 1) := by decide +kernel
theorem d_P_clash_31 : decode b_P_clash 31 = .ok (.iadd, 1) := by decide +kernel
theorem d_P_clash_32 : decode b_P_clash 32 = .ok (.istore 5, 2) := by decide +kernel
theorem d_P_clash_34 : decode b_P_clash 34 = .ok (.iload 5, 2) := by decide +kernel
theorem d_P_clash_36 : decode b_P_clash 36 = .ok (.aload_n 0, 1) := by decide +kernel
theorem d_P_clash_37 : decode b_P_clash 37 = .ok (.getfield 19, 3) := by decide +kernel
theorem d_P_clash_40 : decode b_P_clash 40 = .ok (.getfield 108, 3) := by decide +kernel
theorem d_P_clash_43 : decode b_P_clash 43 = .ok (.if_icmp .ge 43, 3) := by decide +kernel
theorem d_P_clash_46 : decode b_P_clash 46 = .ok (.aload_n 0, 1) := by decide +kernel
theorem d_P_clash_47 : decode b_P_clash 47 = .ok (.getfield 19, 3) := by decide +kernel
theorem d_P_clash_50 : decode b_P_clash 50 = .ok (.iload 4, 2) := by decide +kernel
theorem d_P_clash_52 : decode b_P_clash 52 = .ok (.iload 5, 2) := by decide +kernel
theorem d_P_clash_54 : decode b_P_clash 54 = .ok (.invokevirtual 145, 3) := by decide +kernel
theorem d_P_clash_57 : decode b_P_clash 57 = .ok (.ifCond .eq 23, 3) := by decide +kernel
theorem d_P_clash_60 : decode b_P_clash 60 = .ok (.iload_n 3, 1) := by decide +kernel
theorem d_P_clash_61 : decode b_P_clash 61 = .ok (.iload_n 1, 1) := by decide +kernel
theorem d_P_clash_62 : decode b_P_clash 62 = .ok (.if_icmp .ne 15, 3) := by decide +kernel
theorem d_P_clash_65 : decode b_P_clash 65 = .ok (.iload_n 2, 1) := by decide +kernel
theorem d_P_clash_66 : decode b_P_clash 66 = .ok (.ifCond .ne 8, 3) := by decide +kernel
theorem d_P_clash_69 : decode b_P_clash 69 = .ok (.iload 4, 2) := by decide +kernel
theorem d_P_clash_71 : decode b_P_clash 71 = .ok (.goto 5, 3) := by decide +kernel
theorem d_P_clash_74 : decode b_P_clash 74 = .ok (.iload 5, 2) := by decide +kernel
theorem d_P_clash_76 : decode b_P_clash 76 = .ok (.ireturn, 1) := by decide +kernel
theorem d_P_clash_77 : decode b_P_clash 77 = .ok (.iinc 3 1, 3) := by decide +kernel
theorem d_P_clash_80 : decode b_P_clash 80 = .ok (.iinc 5 1, 3) := by decide +kernel
theorem d_P_clash_83 : decode b_P_clash 83 = .ok (.goto (-49), 3) := by decide +kernel
theorem d_P_clash_86 : decode b_P_clash 86 = .ok (.iinc 4 1, 3) := by decide +kernel
theorem d_P_clash_89 : decode b_P_clash 89 = .ok (.goto (-73), 3) := by decide +kernel
theorem d_P_clash_92 : decode b_P_clash 92 = .ok (.iconst (-1), 1) := by decide +kernel
theorem d_P_clash_93 : decode b_P_clash 93 = .ok (.ireturn, 1) := by decide +kernel
theorem d_S_init_0 : decode b_S_init 0 = .ok (.aload_n 0, 1) := by decide +kernel
theorem d_S_init_1 : decode b_S_init 1 = .ok (.invokespecial 3, 3) := by decide +kernel
theorem d_S_init_4 : decode b_S_init 4 = .ok (.aload_n 0, 1) := by decide +kernel
theorem d_S_init_5 : decode b_S_init 5 = .ok (.bipush 24, 2) := by decide +kernel
theorem d_S_init_7 : decode b_S_init 7 = .ok (.newarray .long, 2) := by decide +kernel
theorem d_S_init_9 : decode b_S_init 9 = .ok (.putfield 9, 3) := by decide +kernel
theorem d_S_init_12 : decode b_S_init 12 = .ok (.aload_n 0, 1) := by decide +kernel
theorem d_S_init_13 : decode b_S_init 13 = .ok (.bipush 24, 2) := by decide +kernel
theorem d_S_init_15 : decode b_S_init 15 = .ok (.newarray .int, 2) := by decide +kernel
theorem d_S_init_17 : decode b_S_init 17 = .ok (.putfield 15, 3) := by decide +kernel
theorem d_S_init_20 : decode b_S_init 20 = .ok (.aload_n 0, 1) := by decide +kernel
theorem d_S_init_21 : decode b_S_init 21 = .ok (.bipush 24, 2) := by decide +kernel
theorem d_S_init_23 : decode b_S_init 23 = .ok (.newarray .int, 2) := by decide +kernel
theorem d_S_init_25 : decode b_S_init 25 = .ok (.putfield 19, 3) := by decide +kernel
theorem d_S_init_28 : decode b_S_init 28 = .ok (.aload_n 0, 1) := by decide +kernel
theorem d_S_init_29 : decode b_S_init 29 = .ok (.bipush 24, 2) := by decide +kernel
theorem d_S_init_31 : decode b_S_init 31 = .ok (.newarray .boolean, 2) := by decide +kernel
theorem d_S_init_33 : decode b_S_init 33 = .ok (.putfield 22, 3) := by decide +kernel
theorem d_S_init_36 : decode b_S_init 36 = .ok (.return_, 1) := by decide +kernel
theorem d_W_init_0 : decode b_W_init 0 = .ok (.aload_n 0, 1) := by decide +kernel
theorem d_W_init_1 : decode b_W_init 1 = .ok (.invokespecial 3, 3) := by decide +kernel
theorem d_W_init_4 : decode b_W_init 4 = .ok (.aload_n 0, 1) := by decide +kernel
theorem d_W_init_5 : decode b_W_init 5 = .ok (.bipush 32, 2) := by decide +kernel
theorem d_W_init_7 : decode b_W_init 7 = .ok (.newarray .int, 2) := by decide +kernel
theorem d_W_init_9 : decode b_W_init 9 = .ok (.putfield 9, 3) := by decide +kernel
theorem d_W_init_12 : decode b_W_init 12 = .ok (.aload_n 0, 1) := by decide +kernel
theorem d_W_init_13 : decode b_W_init 13 = .ok (.sipush 192, 3) := by decide +kernel
theorem d_W_init_16 : decode b_W_init 16 = .ok (.newarray .long, 2) := by decide +kernel
theorem d_W_init_18 : decode b_W_init 18 = .ok (.putfield 15, 3) := by decide +kernel
theorem d_W_init_21 : decode b_W_init 21 = .ok (.return_, 1) := by decide +kernel
theorem d_A_init_0 : decode b_A_init 0 = .ok (.aload_n 0, 1) := by decide +kernel
theorem d_A_init_1 : decode b_A_init 1 = .ok (.invokespecial 3, 3) := by decide +kernel
theorem d_A_init_4 : decode b_A_init 4 = .ok (.aload_n 0, 1) := by decide +kernel
theorem d_A_init_5 : decode b_A_init 5 = .ok (.bipush 32, 2) := by decide +kernel
theorem d_A_init_7 : decode b_A_init 7 = .ok (.newarray .long, 2) := by decide +kernel
theorem d_A_init_9 : decode b_A_init 9 = .ok (.putfield 9, 3) := by decide +kernel
theorem d_A_init_12 : decode b_A_init 12 = .ok (.aload_n 0, 1) := by decide +kernel
theorem d_A_init_13 : decode b_A_init 13 = .ok (.bipush 32, 2) := by decide +kernel
theorem d_A_init_15 : decode b_A_init 15 = .ok (.newarray .int, 2) := by decide +kernel
theorem d_A_init_17 : decode b_A_init 17 = .ok (.putfield 15, 3) := by decide +kernel
theorem d_A_init_20 : decode b_A_init 20 = .ok (.aload_n 0, 1) := by decide +kernel
theorem d_A_init_21 : decode b_A_init 21 = .ok (.bipush 32, 2) := by decide +kernel
theorem d_A_init_23 : decode b_A_init 23 = .ok (.newarray .int, 2) := by decide +kernel
theorem d_A_init_25 : decode b_A_init 25 = .ok (.putfield 19, 3) := by decide +kernel
theorem d_A_init_28 : decode b_A_init 28 = .ok (.aload_n 0, 1) := by decide +kernel
theorem d_A_init_29 : decode b_A_init 29 = .ok (.bipush 32, 2) := by decide +kernel
theorem d_A_init_31 : decode b_A_init 31 = .ok (.newarray .int, 2) := by decide +kernel
theorem d_A_init_33 : decode b_A_init 33 = .ok (.putfield 22, 3) := by decide +kernel
theorem d_A_init_36 : decode b_A_init 36 = .ok (.aload_n 0, 1) := by decide +kernel
theorem d_A_init_37 : decode b_A_init 37 = .ok (.bipush 32, 2) := by decide +kernel
theorem d_A_init_39 : decode b_A_init 39 = .ok (.newarray .int, 2) := by decide +kernel
theorem d_A_init_41 : decode b_A_init 41 = .ok (.putfield 25, 3) := by decide +kernel
theorem d_A_init_44 : decode b_A_init 44 = .ok (.aload_n 0, 1) := by decide +kernel
theorem d_A_init_45 : decode b_A_init 45 = .ok (.new 28, 3) := by decide +kernel
theorem d_A_init_48 : decode b_A_init 48 = .ok (.dup, 1) := by decide +kernel
theorem d_A_init_49 : decode b_A_init 49 = .ok (.invokespecial 30, 3) := by decide +kernel
theorem d_A_init_52 : decode b_A_init 52 = .ok (.putfield 31, 3) := by decide +kernel
theorem d_A_init_55 : decode b_A_init 55 = .ok (.aload_n 0, 1) := by decide +kernel
theorem d_A_init_56 : decode b_A_init 56 = .ok (.new 28, 3) := by decide +kernel
theorem d_A_init_59 : decode b_A_init 59 = .ok (.dup, 1) := by decide +kernel
theorem d_A_init_60 : decode b_A_init 60 = .ok (.invokespecial 30, 3) := by decide +kernel
theorem d_A_init_63 : decode b_A_init 63 = .ok (.putfield 35, 3) := by decide +kernel
theorem d_A_init_66 : decode b_A_init 66 = .ok (.aload_n 0, 1) := by decide +kernel
theorem d_A_init_67 : decode b_A_init 67 = .ok (.sipush 192, 3) := by decide +kernel
theorem d_A_init_70 : decode b_A_init 70 = .ok (.newarray .int, 2) := by decide +kernel
theorem d_A_init_72 : decode b_A_init 72 = .ok (.putfield 38, 3) := by decide +kernel
theorem d_A_init_75 : decode b_A_init 75 = .ok (.aload_n 0, 1) := by decide +kernel
theorem d_A_init_76 : decode b_A_init 76 = .ok (.bipush 32, 2) := by decide +kernel
theorem d_A_init_78 : decode b_A_init 78 = .ok (.newarray .int, 2) := by decide +kernel
theorem d_A_init_80 : decode b_A_init 80 = .ok (.putfield 41, 3) := by decide +kernel
theorem d_A_init_83 : decode b_A_init 83 = .ok (.aload_n 0, 1) := by decide +kernel
theorem d_A_init_84 : decode b_A_init 84 = .ok (.sipush 256, 3) := by decide +kernel
theorem d_A_init_87 : decode b_A_init 87 = .ok (.newarray .long, 2) := by decide +kernel
theorem d_A_init_89 : decode b_A_init 89 = .ok (.putfield 44, 3) := by decide +kernel
theorem d_A_init_92 : decode b_A_init 92 = .ok (.return_, 1) := by decide +kernel
theorem d_Y_init_0 : decode b_Y_init 0 = .ok (.aload_n 0, 1) := by decide +kernel
theorem d_Y_init_1 : decode b_Y_init 1 = .ok (.invokespecial 3, 3) := by decide +kernel
theorem d_Y_init_4 : decode b_Y_init 4 = .ok (.aload_n 0, 1) := by decide +kernel
theorem d_Y_init_5 : decode b_Y_init 5 = .ok (.bipush 16, 2) := by decide +kernel
theorem d_Y_init_7 : decode b_Y_init 7 = .ok (.newarray .int, 2) := by decide +kernel
theorem d_Y_init_9 : decode b_Y_init 9 = .ok (.putfield 9, 3) := by decide +kernel
theorem d_Y_init_12 : decode b_Y_init 12 = .ok (.aload_n 0, 1) := by decide +kernel
theorem d_Y_init_13 : decode b_Y_init 13 = .ok (.bipush 16, 2) := by decide +kernel
theorem d_Y_init_15 : decode b_Y_init 15 = .ok (.newarray .int, 2) := by decide +kernel
theorem d_Y_init_17 : decode b_Y_init 17 = .ok (.putfield 15, 3) := by decide +kernel
theorem d_Y_init_20 : decode b_Y_init 20 = .ok (.return_, 1) := by decide +kernel
theorem d_Q_init_0 : decode b_Q_init 0 = .ok (.aload_n 0, 1) := by decide +kernel
theorem d_Q_init_1 : decode b_Q_init 1 = .ok (.invokespecial 3, 3) := by decide +kernel
theorem d_Q_init_4 : decode b_Q_init 4 = .ok (.aload_n 0, 1) := by decide +kernel
theorem d_Q_init_5 : decode b_Q_init 5 = .ok (.bipush 32, 2) := by decide +kernel
theorem d_Q_init_7 : decode b_Q_init 7 = .ok (.newarray .int, 2) := by decide +kernel
theorem d_Q_init_9 : decode b_Q_init 9 = .ok (.putfield 9, 3) := by decide +kernel
theorem d_Q_init_12 : decode b_Q_init 12 = .ok (.return_, 1) := by decide +kernel
theorem d_P_init_0 : decode b_P_init 0 = .ok (.aload_n 0, 1) := by decide +kernel
theorem d_P_init_1 : decode b_P_init 1 = .ok (.invokespecial 1, 3) := by decide +kernel
theorem d_P_init_4 : decode b_P_init 4 = .ok (.aload_n 0, 1) := by decide +kernel
theorem d_P_init_5 : decode b_P_init 5 = .ok (.new 7, 3) := by decide +kernel
theorem d_P_init_8 : decode b_P_init 8 = .ok (.dup, 1) := by decide +kernel
theorem d_P_init_9 : decode b_P_init 9 = .ok (.invokespecial 9, 3) := by decide +kernel
theorem d_P_init_12 : decode b_P_init 12 = .ok (.putfield 10, 3) := by decide +kernel
theorem d_P_init_15 : decode b_P_init 15 = .ok (.aload_n 0, 1) := by decide +kernel
theorem d_P_init_16 : decode b_P_init 16 = .ok (.new 16, 3) := by decide +kernel
theorem d_P_init_19 : decode b_P_init 19 = .ok (.dup, 1) := by decide +kernel
theorem d_P_init_20 : decode b_P_init 20 = .ok (.invokespecial 18, 3) := by decide +kernel
theorem d_P_init_23 : decode b_P_init 23 = .ok (.putfield 19, 3) := by decide +kernel
theorem d_P_init_26 : decode b_P_init 26 = .ok (.aload_n 0, 1) := by decide +kernel
theorem d_P_init_27 : decode b_P_init 27 = .ok (.new 23, 3) := by decide +kernel
theorem d_P_init_30 : decode b_P_init 30 = .ok (.dup, 1) := by decide +kernel
theorem d_P_init_31 : decode b_P_init 31 = .ok (.invokespecial 25, 3) := by decide +kernel
theorem d_P_init_34 : decode b_P_init 34 = .ok (.putfield 26, 3) := by decide +kernel
theorem d_P_init_37 : decode b_P_init 37 = .ok (.aload_n 0, 1) := by decide +kernel
theorem d_P_init_38 : decode b_P_init 38 = .ok (.new 30, 3) := by decide +kernel
theorem d_P_init_41 : decode b_P_init 41 = .ok (.dup, 1) := by decide +kernel
theorem d_P_init_42 : decode b_P_init 42 = .ok (.invokespecial 32, 3) := by decide +kernel
theorem d_P_init_45 : decode b_P_init 45 = .ok (.putfield 33, 3) := by decide +kernel
theorem d_P_init_48 : decode b_P_init 48 = .ok (.aload_n 0, 1) := by decide +kernel
theorem d_P_init_49 : decode b_P_init 49 = .ok (.new 30, 3) := by decide +kernel
theorem d_P_init_52 : decode b_P_init 52 = .ok (.dup, 1) := by decide +kernel
theorem d_P_init_53 : decode b_P_init 53 = .ok (.invokespecial 32, 3) := by decide +kernel
theorem d_P_init_56 : decode b_P_init 56 = .ok (.putfield 37, 3) := by decide +kernel
theorem d_P_init_59 : decode b_P_init 59 = .ok (.aload_n 0, 1) := by decide +kernel
theorem d_P_init_60 : decode b_P_init 60 = .ok (.new 30, 3) := by decide +kernel
theorem d_P_init_63 : decode b_P_init 63 = .ok (.dup, 1) := by decide +kernel
theorem d_P_init_64 : decode b_P_init 64 = .ok (.invokespecial 32, 3) := by decide +kernel
theorem d_P_init_67 : decode b_P_init 67 = .ok (.putfield 40, 3) := by decide +kernel
theorem d_P_init_70 : decode b_P_init 70 = .ok (.aload_n 0, 1) := by decide +kernel
theorem d_P_init_71 : decode b_P_init 71 = .ok (.iconst (-1), 1) := by decide +kernel
theorem d_P_init_72 : decode b_P_init 72 = .ok (.putfield 43, 3) := by decide +kernel
theorem d_P_init_75 : decode b_P_init 75 = .ok (.return_, 1) := by decide +kernel
end
section
theorem d_M_within_0 : decode b_M_within 0 = .ok (.iload_n 0, 1) := by decide +kernel
theorem d_M_within_1 : decode b_M_within 1 = .ok (.iload_n 1, 1) := by decide +kernel
theorem d_M_within_2 : decode b_M_within 2 = .ok (.if_icmp .lt 12, 3) := by decide +kernel
theorem d_M_within_5 : decode b_M_within 5 = .ok (.iload_n 0, 1) := by decide +kernel
theorem d_M_within_6 : decode b_M_within 6 = .ok (.iload_n 2, 1) := by decide +kernel
theorem d_M_within_7 : decode b_M_within 7 = .ok (.if_icmp .gt 7, 3) := by decide +kernel
theorem d_M_within_10 : decode b_M_within 10 = .ok (.iconst 1, 1) := by decide +kernel
theorem d_M_within_11 : decode b_M_within 11 = .ok (.goto 4, 3) := by decide +kernel
theorem d_M_within_14 : decode b_M_within 14 = .ok (.iconst 0, 1) := by decide +kernel
theorem d_M_within_15 : decode b_M_within 15 = .ok (.ireturn, 1) := by decide +kernel
theorem d_M_source_0 : decode b_M_source 0 = .ok (.aload_n 0, 1) := by decide +kernel
theorem d_M_source_1 : decode b_M_source 1 = .ok (.getfield 79, 3) := by decide +kernel
theorem d_M_source_4 : decode b_M_source 4 = .ok (.bipush 24, 2) := by decide +kernel
theorem d_M_source_6 : decode b_M_source 6 = .ok (.if_icmp .eq 13, 3) := by decide +kernel
theorem d_M_source_9 : decode b_M_source 9 = .ok (.iload_n 3, 1) := by decide +kernel
theorem d_M_source_10 : decode b_M_source 10 = .ok (.iconst 0, 1) := by decide +kernel
theorem d_M_source_11 : decode b_M_source 11 = .ok (.bipush 7, 2) := by decide +kernel
theorem d_M_source_13 : decode b_M_source 13 = .ok (.invokestatic 82, 3) := by decide +kernel
theorem d_M_source_16 : decode b_M_source 16 = .ok (.ifCond .ne 5, 3) := by decide +kernel
theorem d_M_source_19 : decode b_M_source 19 = .ok (.iconst (-1), 1) := by decide +kernel
theorem d_M_source_20 : decode b_M_source 20 = .ok (.ireturn, 1) := by decide +kernel
theorem d_M_source_21 : decode b_M_source 21 = .ok (.aload_n 0, 1) := by decide +kernel
theorem d_M_source_22 : decode b_M_source 22 = .ok (.getfield 7, 3) := by decide +kernel
theorem d_M_source_25 : decode b_M_source 25 = .ok (.aload_n 0, 1) := by decide +kernel
theorem d_M_source_26 : decode b_M_source 26 = .ok (.getfield 79, 3) := by decide +kernel
theorem d_M_source_29 : decode b_M_source 29 = .ok (.lload_n 1, 1) := by decide +kernel
theorem d_M_source_30 : decode b_M_source 30 = .ok (.lastore, 1) := by decide +kernel
theorem d_M_source_31 : decode b_M_source 31 = .ok (.aload_n 0, 1) := by decide +kernel
theorem d_M_source_32 : decode b_M_source 32 = .ok (.getfield 13, 3) := by decide +kernel
theorem d_M_source_35 : decode b_M_source 35 = .ok (.aload_n 0, 1) := by decide +kernel
theorem d_M_source_36 : decode b_M_source 36 = .ok (.getfield 79, 3) := by decide +kernel
theorem d_M_source_39 : decode b_M_source 39 = .ok (.iload_n 3, 1) := by decide +kernel
theorem d_M_source_40 : decode b_M_source 40 = .ok (.iastore, 1) := by decide +kernel
theorem d_M_source_41 : decode b_M_source 41 = .ok (.aload_n 0, 1) := by decide +kernel
theorem d_M_source_42 : decode b_M_source 42 = .ok (.getfield 17, 3) := by decide +kernel
theorem d_M_source_45 : decode b_M_source 45 = .ok (.aload_n 0, 1) := by decide +kernel
theorem d_M_source_46 : decode b_M_source 46 = .ok (.getfield 79, 3) := by decide +kernel
theorem d_M_source_49 : decode b_M_source 49 = .ok (.iload 4, 2) := by decide +kernel
theorem d_M_source_51 : decode b_M_source 51 = .ok (.ldc 86, 2) := by decide +kernel
theorem d_M_source_53 : decode b_M_source 53 = .ok (.iand, 1) := by decide +kernel
theorem d_M_source_54 : decode b_M_source 54 = .ok (.iastore, 1) := by decide +kernel
theorem d_M_source_55 : decode b_M_source 55 = .ok (.aload_n 0, 1) := by decide +kernel
theorem d_M_source_56 : decode b_M_source 56 = .ok (.dup, 1) := by decide +kernel
theorem d_M_source_57 : decode b_M_source 57 = .ok (.getfield 79, 3) := by decide +kernel
theorem d_M_source_60 : decode b_M_source 60 = .ok (.iconst 1, 1) := by decide +kernel
theorem d_M_source_61 : decode b_M_source 61 = .ok (.iadd, 1) := by decide +kernel
theorem d_M_source_62 : decode b_M_source 62 = .ok (.putfield 79, 3) := by decide +kernel
theorem d_M_source_65 : decode b_M_source 65 = .ok (.aload_n 0, 1) := by decide +kernel
theorem d_M_source_66 : decode b_M_source 66 = .ok (.getfield 79, 3) := by decide +kernel
theorem d_M_source_69 : decode b_M_source 69 = .ok (.iconst 1, 1) := by decide +kernel
theorem d_M_source_70 : decode b_M_source 70 = .ok (.isub, 1) := by decide +kernel
theorem d_M_source_71 : decode b_M_source 71 = .ok (.ireturn, 1) := by decide +kernel
theorem d_M_isSource_0 : decode b_M_isSource 0 = .ok (.iload_n 1, 1) := by decide +kernel
theorem d_M_isSource_1 : decode b_M_isSource 1 = .ok (.ifCond .lt 15, 3) := by decide +kernel
theorem d_M_isSource_4 : decode b_M_isSource 4 = .ok (.iload_n 1, 1) := by decide +kernel
theorem d_M_isSource_5 : decode b_M_isSource 5 = .ok (.aload_n 0, 1) := by decide +kernel
theorem d_M_isSource_6 : decode b_M_isSource 6 = .ok (.getfield 79, 3) := by decide +kernel
theorem d_M_isSource_9 : decode b_M_isSource 9 = .ok (.if_icmp .ge 7, 3) := by decide +kernel
theorem d_M_isSource_12 : decode b_M_isSource 12 = .ok (.iconst 1, 1) := by decide +kernel
theorem d_M_isSource_13 : decode b_M_isSource 13 = .ok (.goto 4, 3) := by decide +kernel
theorem d_M_isSource_16 : decode b_M_isSource 16 = .ok (.iconst 0, 1) := by decide +kernel
theorem d_M_isSource_17 : decode b_M_isSource 17 = .ok (.ireturn, 1) := by decide +kernel
theorem d_M_fetched_0 : decode b_M_fetched 0 = .ok (.aload_n 0, 1) := by decide +kernel
theorem d_M_fetched_1 : decode b_M_fetched 1 = .ok (.iload_n 1, 1) := by decide +kernel
theorem d_M_fetched_2 : decode b_M_fetched 2 = .ok (.invokevirtual 87, 3) := by decide +kernel
theorem d_M_fetched_5 : decode b_M_fetched 5 = .ok (.ifCond .ne 5, 3) := by decide +kernel
theorem d_M_fetched_8 : decode b_M_fetched 8 = .ok (.iconst 0, 1) := by decide +kernel
theorem d_M_fetched_9 : decode b_M_fetched 9 = .ok (.ireturn, 1) := by decide +kernel
theorem d_M_fetched_10 : decode b_M_fetched 10 = .ok (.aload_n 0, 1) := by decide +kernel
theorem d_M_fetched_11 : decode b_M_fetched 11 = .ok (.getfield 20, 3) := by decide +kernel
theorem d_M_fetched_14 : decode b_M_fetched 14 = .ok (.iload_n 1, 1) := by decide +kernel
theorem d_M_fetched_15 : decode b_M_fetched 15 = .ok (.iload_n 2, 1) := by decide +kernel
theorem d_M_fetched_16 : decode b_M_fetched 16 = .ok (.ifCond .ne 7, 3) := by decide +kernel
theorem d_M_fetched_19 : decode b_M_fetched 19 = .ok (.iconst 1, 1) := by decide +kernel
theorem d_M_fetched_20 : decode b_M_fetched 20 = .ok (.goto 4, 3) := by decide +kernel
theorem d_M_fetched_23 : decode b_M_fetched 23 = .ok (.iconst 0, 1) := by decide +kernel
theorem d_M_fetched_24 : decode b_M_fetched 24 = .ok (.bastore, 1) := by decide +kernel
theorem d_M_fetched_25 : decode b_M_fetched 25 = .ok (.iconst 1, 1) := by decide +kernel
theorem d_M_fetched_26 : decode b_M_fetched 26 = .ok (.ireturn, 1) := by decide +kernel
theorem d_M_artefact_0 : decode b_M_artefact 0 = .ok (.iload_n 3, 1) := by decide +kernel
theorem d_M_artefact_1 : decode b_M_artefact 1 = .ok (.iconst (-1), 1) := by decide +kernel
theorem d_M_artefact_2 : decode b_M_artefact 2 = .ok (.bipush 7, 2) := by decide +kernel
theorem d_M_artefact_4 : decode b_M_artefact 4 = .ok (.invokestatic 82, 3) := by decide +kernel
theorem d_M_artefact_7 : decode b_M_artefact 7 = .ok (.ifCond .eq 40, 3) := by decide +kernel
theorem d_M_artefact_10 : decode b_M_artefact 10 = .ok (.iload 4, 2) := by decide +kernel
theorem d_M_artefact_12 : decode b_M_artefact 12 = .ok (.iconst 0, 1) := by decide +kernel
theorem d_M_artefact_13 : decode b_M_artefact 13 = .ok (.bipush 7, 2) := by decide +kernel
theorem d_M_artefact_15 : decode b_M_artefact 15 = .ok (.invokestatic 82, 3) := by decide +kernel
theorem d_M_artefact_18 : decode b_M_artefact 18 = .ok (.ifCond .eq 29, 3) := by decide +kernel
theorem d_M_artefact_21 : decode b_M_artefact 21 = .ok (.iload 5, 2) := by decide +kernel
theorem d_M_artefact_23 : decode b_M_artefact 23 = .ok (.iconst 0, 1) := by decide +kernel
theorem d_M_artefact_24 : decode b_M_artefact 24 = .ok (.bipush 15, 2) := by decide +kernel
theorem d_M_artefact_26 : decode b_M_artefact 26 = .ok (.invokestatic 82, 3) := by decide +kernel
theorem d_M_artefact_29 : decode b_M_artefact 29 = .ok (.ifCond .eq 18, 3) := by decide +kernel
theorem d_M_artefact_32 : decode b_M_artefact 32 = .ok (.iload 6, 2) := by decide +kernel
theorem d_M_artefact_34 : decode b_M_artefact 34 = .ok (.iconst 0, 1) := by decide +kernel
theorem d_M_artefact_35 : decode b_M_artefact 35 = .ok (.ldc 91, 2) := by decide +kernel
theorem d_M_artefact_37 : decode b_M_artefact 37 = .ok (.invokestatic 82, 3) := by decide +kernel
theorem d_M_artefact_40 : decode b_M_artefact 40 = .ok (.ifCond .eq 7, 3) := by decide +kernel
theorem d_M_artefact_43 : decode b_M_artefact 43 = .ok (.iconst 1, 1) := by decide +kernel
theorem d_M_artefact_44 : decode b_M_artefact 44 = .ok (.goto 4, 3) := by decide +kernel
theorem d_M_artefact_47 : decode b_M_artefact 47 = .ok (.iconst 0, 1) := by decide +kernel
theorem d_M_artefact_48 : decode b_M_artefact 48 = .ok (.istore 7, 2) := by decide +kernel
theorem d_M_artefact_50 : decode b_M_artefact 50 = .ok (.aload_n 0, 1) := by decide +kernel
theorem d_M_artefact_51 : decode b_M_artefact 51 = .ok (.getfield 76, 3) := by decide +kernel
theorem d_M_artefact_54 : decode b_M_artefact 54 = .ok (.bipush 32, 2) := by decide +kernel
theorem d_M_artefact_56 : decode b_M_artefact 56 = .ok (.if_icmp .eq 8, 3) := by decide +kernel
theorem d_M_artefact_59 : decode b_M_artefact 59 = .ok (.iload 7, 2) := by decide +kernel
theorem d_M_artefact_61 : decode b_M_artefact 61 = .ok (.ifCond .ne 5, 3) := by decide +kernel
theorem d_M_artefact_64 : decode b_M_artefact 64 = .ok (.iconst (-1), 1) := by decide +kernel
theorem d_M_artefact_65 : decode b_M_artefact 65 = .ok (.ireturn, 1) := by decide +kernel
theorem d_M_artefact_66 : decode b_M_artefact 66 = .ok (.aload_n 0, 1) := by decide +kernel
theorem d_M_artefact_67 : decode b_M_artefact 67 = .ok (.getfield 24, 3) := by decide +kernel
theorem d_M_artefact_70 : decode b_M_artefact 70 = .ok (.aload_n 0, 1) := by decide +kernel
theorem d_M_artefact_71 : decode b_M_artefact 71 = .ok (.getfield 76, 3) := by decide +kernel
theorem d_M_artefact_74 : decode b_M_artefact 74 = .ok (.lload_n 1, 1) := by decide +kernel
theorem d_M_artefact_75 : decode b_M_artefact 75 = .ok (.lastore, 1) := by decide +kernel
theorem d_M_artefact_76 : decode b_M_artefact 76 = .ok (.aload_n 0, 1) := by decide +kernel
theorem d_M_artefact_77 : decode b_M_artefact 77 = .ok (.getfield 33, 3) := by decide +kernel
theorem d_M_artefact_80 : decode b_M_artefact 80 = .ok (.aload_n 0, 1) := by decide +kernel
theorem d_M_artefact_81 : decode b_M_artefact 81 = .ok (.getfield 76, 3) := by decide +kernel
theorem d_M_artefact_84 : decode b_M_artefact 84 = .ok (.iload_n 3, 1) := by decide +kernel
theorem d_M_artefact_85 : decode b_M_artefact 85 = .ok (.iastore, 1) := by decide +kernel
theorem d_M_artefact_86 : decode b_M_artefact 86 = .ok (.aload_n 0, 1) := by decide +kernel
theorem d_M_artefact_87 : decode b_M_artefact 87 = .ok (.getfield 36, 3) := by decide +kernel
theorem d_M_artefact_90 : decode b_M_artefact 90 = .ok (.aload_n 0, 1) := by decide +kernel
theorem d_M_artefact_91 : decode b_M_artefact 91 = .ok (.getfield 76, 3) := by decide +kernel
theorem d_M_artefact_94 : decode b_M_artefact 94 = .ok (.iload 4, 2) := by decide +kernel
theorem d_M_artefact_96 : decode b_M_artefact 96 = .ok (.iastore, 1) := by decide +kernel
theorem d_M_artefact_97 : decode b_M_artefact 97 = .ok (.aload_n 0, 1) := by decide +kernel
theorem d_M_artefact_98 : decode b_M_artefact 98 = .ok (.getfield 39, 3) := by decide +kernel
theorem d_M_artefact_101 : decode b_M_artefact 101 = .ok (.aload_n 0, 1) := by decide +kernel
theorem d_M_artefact_102 : decode b_M_artefact 102 = .ok (.getfield 76, 3) := by decide +kernel
theorem d_M_artefact_105 : decode b_M_artefact 105 = .ok (.iload 5, 2) := by decide +kernel
theorem d_M_artefact_107 : decode b_M_artefact 107 = .ok (.iastore, 1) := by decide +kernel
theorem d_M_artefact_108 : decode b_M_artefact 108 = .ok (.aload_n 0, 1) := by decide +kernel
theorem d_M_artefact_109 : decode b_M_artefact 109 = .ok (.getfield 42, 3) := by decide +kernel
theorem d_M_artefact_112 : decode b_M_artefact 112 = .ok (.aload_n 0, 1) := by decide +kernel
theorem d_M_artefact_113 : decode b_M_artefact 113 = .ok (.getfield 76, 3) := by decide +kernel
theorem d_M_artefact_116 : decode b_M_artefact 116 = .ok (.iload 6, 2) := by decide +kernel
theorem d_M_artefact_118 : decode b_M_artefact 118 = .ok (.iastore, 1) := by decide +kernel
theorem d_M_artefact_119 : decode b_M_artefact 119 = .ok (.aload_n 0, 1) := by decide +kernel
theorem d_M_artefact_120 : decode b_M_artefact 120 = .ok (.dup, 1) := by decide +kernel
theorem d_M_artefact_121 : decode b_M_artefact 121 = .ok (.getfield 76, 3) := by decide +kernel
theorem d_M_artefact_124 : decode b_M_artefact 124 = .ok (.iconst 1, 1) := by decide +kernel
theorem d_M_artefact_125 : decode b_M_artefact 125 = .ok (.iadd, 1) := by decide +kernel
theorem d_M_artefact_126 : decode b_M_artefact 126 = .ok (.putfield 76, 3) := by decide +kernel
theorem d_M_artefact_129 : decode b_M_artefact 129 = .ok (.aload_n 0, 1) := by decide +kernel
theorem d_M_artefact_130 : decode b_M_artefact 130 = .ok (.getfield 76, 3) := by decide +kernel
theorem d_M_artefact_133 : decode b_M_artefact 133 = .ok (.iconst 1, 1) := by decide +kernel
theorem d_M_artefact_134 : decode b_M_artefact 134 = .ok (.isub, 1) := by decide +kernel
theorem d_M_artefact_135 : decode b_M_artefact 135 = .ok (.ireturn, 1) := by decide +kernel
theorem d_M_isArtefact_0 : decode b_M_isArtefact 0 = .ok (.iload_n 1, 1) := by decide +kernel
theorem d_M_isArtefact_1 : decode b_M_isArtefact 1 = .ok (.ifCond .lt 15, 3) := by decide +kernel
theorem d_M_isArtefact_4 : decode b_M_isArtefact 4 = .ok (.iload_n 1, 1) := by decide +kernel
theorem d_M_isArtefact_5 : decode b_M_isArtefact 5 = .ok (.aload_n 0, 1) := by decide +kernel
theorem d_M_isArtefact_6 : decode b_M_isArtefact 6 = .ok (.getfield 76, 3) := by decide +kernel
theorem d_M_isArtefact_9 : decode b_M_isArtefact 9 = .ok (.if_icmp .ge 7, 3) := by decide +kernel
theorem d_M_isArtefact_12 : decode b_M_isArtefact 12 = .ok (.iconst 1, 1) := by decide +kernel
theorem d_M_isArtefact_13 : decode b_M_isArtefact 13 = .ok (.goto 4, 3) := by decide +kernel
theorem d_M_isArtefact_16 : decode b_M_isArtefact 16 = .ok (.iconst 0, 1) := by decide +kernel
theorem d_M_isArtefact_17 : decode b_M_isArtefact 17 = .ok (.ireturn, 1) := by decide +kernel
theorem d_M_hasUse_0 : decode b_M_hasUse 0 = .ok (.iconst 0, 1) := by decide +kernel
theorem d_M_hasUse_1 : decode b_M_hasUse 1 = .ok (.istore_n 3, 1) := by decide +kernel
theorem d_M_hasUse_2 : decode b_M_hasUse 2 = .ok (.iconst 0, 1) := by decide +kernel
theorem d_M_hasUse_3 : decode b_M_hasUse 3 = .ok (.istore 4, 2) := by decide +kernel
theorem d_M_hasUse_5 : decode b_M_hasUse 5 = .ok (.iload 4, 2) := by decide +kernel
theorem d_M_hasUse_7 : decode b_M_hasUse 7 = .ok (.aload_n 0, 1) := by decide +kernel
theorem d_M_hasUse_8 : decode b_M_hasUse 8 = .ok (.getfield 45, 3) := by decide +kernel
theorem d_M_hasUse_11 : decode b_M_hasUse 11 = .ok (.iload_n 1, 1) := by decide +kernel
theorem d_M_hasUse_12 : decode b_M_hasUse 12 = .ok (.iaload, 1) := by decide +kernel
theorem d_M_hasUse_13 : decode b_M_hasUse 13 = .ok (.if_icmp .ge 35, 3) := by decide +kernel
theorem d_M_hasUse_16 : decode b_M_hasUse 16 = .ok (.iload_n 3, 1) := by decide +kernel
theorem d_M_hasUse_17 : decode b_M_hasUse 17 = .ok (.ifCond .ne 19, 3) := by decide +kernel
theorem d_M_hasUse_20 : decode b_M_hasUse 20 = .ok (.aload_n 0, 1) := by decide +kernel
theorem d_M_hasUse_21 : decode b_M_hasUse 21 = .ok (.getfield 48, 3) := by decide +kernel
theorem d_M_hasUse_24 : decode b_M_hasUse 24 = .ok (.bipush 6, 2) := by decide +kernel
theorem d_M_hasUse_26 : decode b_M_hasUse 26 = .ok (.iload_n 1, 1) := by decide +kernel
theorem d_M_hasUse_27 : decode b_M_hasUse 27 = .ok (.imul, 1) := by decide +kernel
theorem d_M_hasUse_28 : decode b_M_hasUse 28 = .ok (.iload 4, 2) := by decide +kernel
theorem d_M_hasUse_30 : decode b_M_hasUse 30 = .ok (.iadd, 1) := by decide +kernel
theorem d_M_hasUse_31 : decode b_M_hasUse 31 = .ok (.iaload, 1) := by decide +kernel
theorem d_M_hasUse_32 : decode b_M_hasUse 32 = .ok (.iload_n 2, 1) := by decide +kernel
theorem d_M_hasUse_33 : decode b_M_hasUse 33 = .ok (.if_icmp .ne 7, 3) := by decide +kernel
theorem d_M_hasUse_36 : decode b_M_hasUse 36 = .ok (.iconst 1, 1) := by decide +kernel
theorem d_M_hasUse_37 : decode b_M_hasUse 37 = .ok (.goto 4, 3) := by decide +kernel
theorem d_M_hasUse_40 : decode b_M_hasUse 40 = .ok (.iconst 0, 1) := by decide +kernel
theorem d_M_hasUse_41 : decode b_M_hasUse 41 = .ok (.istore_n 3, 1) := by decide +kernel
theorem d_M_hasUse_42 : decode b_M_hasUse 42 = .ok (.iinc 4 1, 3) := by decide +kernel
theorem d_M_hasUse_45 : decode b_M_hasUse 45 = .ok (.goto (-40), 3) := by decide +kernel
theorem d_M_hasUse_48 : decode b_M_hasUse 48 = .ok (.iload_n 3, 1) := by decide +kernel
theorem d_M_hasUse_49 : decode b_M_hasUse 49 = .ok (.ireturn, 1) := by decide +kernel
theorem d_M_uses_0 : decode b_M_uses 0 = .ok (.aload_n 0, 1) := by decide +kernel
theorem d_M_uses_1 : decode b_M_uses 1 = .ok (.iload_n 1, 1) := by decide +kernel
theorem d_M_uses_2 : decode b_M_uses 2 = .ok (.invokevirtual 92, 3) := by decide +kernel
theorem d_M_uses_5 : decode b_M_uses 5 = .ok (.ifCond .eq 31, 3) := by decide +kernel
theorem d_M_uses_8 : decode b_M_uses 8 = .ok (.aload_n 0, 1) := by decide +kernel
theorem d_M_uses_9 : decode b_M_uses 9 = .ok (.iload_n 2, 1) := by decide +kernel
theorem d_M_uses_10 : decode b_M_uses 10 = .ok (.invokevirtual 87, 3) := by decide +kernel
theorem d_M_uses_13 : decode b_M_uses 13 = .ok (.ifCond .eq 23, 3) := by decide +kernel
theorem d_M_uses_16 : decode b_M_uses 16 = .ok (.aload_n 0, 1) := by decide +kernel
theorem d_M_uses_17 : decode b_M_uses 17 = .ok (.iload_n 1, 1) := by decide +kernel
theorem d_M_uses_18 : decode b_M_uses 18 = .ok (.iload_n 2, 1) := by decide +kernel
theorem d_M_uses_19 : decode b_M_uses 19 = .ok (.invokevirtual 95, 3) := by decide +kernel
theorem d_M_uses_22 : decode b_M_uses 22 = .ok (.ifCond .ne 14, 3) := by decide +kernel
theorem d_M_uses_25 : decode b_M_uses 25 = .ok (.aload_n 0, 1) := by decide +kernel
theorem d_M_uses_26 : decode b_M_uses 26 = .ok (.getfield 45, 3) := by decide +kernel
theorem d_M_uses_29 : decode b_M_uses 29 = .ok (.iload_n 1, 1) := by decide +kernel
theorem d_M_uses_30 : decode b_M_uses 30 = .ok (.iaload, 1) := by decide +kernel
theorem d_M_uses_31 : decode b_M_uses 31 = .ok (.bipush 6, 2) := by decide +kernel
theorem d_M_uses_33 : decode b_M_uses 33 = .ok (.if_icmp .ne 5, 3) := by decide +kernel
theorem d_M_uses_36 : decode b_M_uses 36 = .ok (.iconst 0, 1) := by decide +kernel
theorem d_M_uses_37 : decode b_M_uses 37 = .ok (.ireturn, 1) := by decide +kernel
theorem d_M_uses_38 : decode b_M_uses 38 = .ok (.aload_n 0, 1) := by decide +kernel
theorem d_M_uses_39 : decode b_M_uses 39 = .ok (.getfield 48, 3) := by decide +kernel
theorem d_M_uses_42 : decode b_M_uses 42 = .ok (.bipush 6, 2) := by decide +kernel
theorem d_M_uses_44 : decode b_M_uses 44 = .ok (.iload_n 1, 1) := by decide +kernel
theorem d_M_uses_45 : decode b_M_uses 45 = .ok (.imul, 1) := by decide +kernel
theorem d_M_uses_46 : decode b_M_uses 46 = .ok (.aload_n 0, 1) := by decide +kernel
theorem d_M_uses_47 : decode b_M_uses 47 = .ok (.getfield 45, 3) := by decide +kernel
theorem d_M_uses_50 : decode b_M_uses 50 = .ok (.iload_n 1, 1) := by decide +kernel
theorem d_M_uses_51 : decode b_M_uses 51 = .ok (.iaload, 1) := by decide +kernel
theorem d_M_uses_52 : decode b_M_uses 52 = .ok (.iadd, 1) := by decide +kernel
theorem d_M_uses_53 : decode b_M_uses 53 = .ok (.iload_n 2, 1) := by decide +kernel
theorem d_M_uses_54 : decode b_M_uses 54 = .ok (.iastore, 1) := by decide +kernel
theorem d_M_uses_55 : decode b_M_uses 55 = .ok (.aload_n 0, 1) := by decide +kernel
theorem d_M_uses_56 : decode b_M_uses 56 = .ok (.getfield 45, 3) := by decide +kernel
theorem d_M_uses_59 : decode b_M_uses 59 = .ok (.iload_n 1, 1) := by decide +kernel
theorem d_M_uses_60 : decode b_M_uses 60 = .ok (.dup2, 1) := by decide +kernel
theorem d_M_uses_61 : decode b_M_uses 61 = .ok (.iaload, 1) := by decide +kernel
theorem d_M_uses_62 : decode b_M_uses 62 = .ok (.iconst 1, 1) := by decide +kernel
theorem d_M_uses_63 : decode b_M_uses 63 = .ok (.iadd, 1) := by decide +kernel
theorem d_M_uses_64 : decode b_M_uses 64 = .ok (.iastore, 1) := by decide +kernel
theorem d_M_uses_65 : decode b_M_uses 65 = .ok (.iconst 1, 1) := by decide +kernel
theorem d_M_uses_66 : decode b_M_uses 66 = .ok (.ireturn, 1) := by decide +kernel
theorem d_M_hasNeed_0 : decode b_M_hasNeed 0 = .ok (.iconst 0, 1) := by decide +kernel
theorem d_M_hasNeed_1 : decode b_M_hasNeed 1 = .ok (.istore 4, 2) := by decide +kernel
theorem d_M_hasNeed_3 : decode b_M_hasNeed 3 = .ok (.iconst 0, 1) := by decide +kernel
theorem d_M_hasNeed_4 : decode b_M_hasNeed 4 = .ok (.istore 5, 2) := by decide +kernel
theorem d_M_hasNeed_6 : decode b_M_hasNeed 6 = .ok (.iload 5, 2) := by decide +kernel
theorem d_M_hasNeed_8 : decode b_M_hasNeed 8 = .ok (.aload_n 0, 1) := by decide +kernel
theorem d_M_hasNeed_9 : decode b_M_hasNeed 9 = .ok (.getfield 51, 3) := by decide +kernel
theorem d_M_hasNeed_12 : decode b_M_hasNeed 12 = .ok (.iload_n 1, 1) := by decide +kernel
theorem d_M_hasNeed_13 : decode b_M_hasNeed 13 = .ok (.iaload, 1) := by decide +kernel
theorem d_M_hasNeed_14 : decode b_M_hasNeed 14 = .ok (.if_icmp .ge 38, 3) := by decide +kernel
theorem d_M_hasNeed_17 : decode b_M_hasNeed 17 = .ok (.iload 4, 2) := by decide +kernel
theorem d_M_hasNeed_19 : decode b_M_hasNeed 19 = .ok (.ifCond .ne 20, 3) := by decide +kernel
theorem d_M_hasNeed_22 : decode b_M_hasNeed 22 = .ok (.aload_n 0, 1) := by decide +kernel
theorem d_M_hasNeed_23 : decode b_M_hasNeed 23 = .ok (.getfield 27, 3) := by decide +kernel
theorem d_M_hasNeed_26 : decode b_M_hasNeed 26 = .ok (.bipush 6, 2) := by decide +kernel
theorem d_M_hasNeed_28 : decode b_M_hasNeed 28 = .ok (.iload_n 1, 1) := by decide +kernel
theorem d_M_hasNeed_29 : decode b_M_hasNeed 29 = .ok (.imul, 1) := by decide +kernel
theorem d_M_hasNeed_30 : decode b_M_hasNeed 30 = .ok (.iload 5, 2) := by decide +kernel
theorem d_M_hasNeed_32 : decode b_M_hasNeed 32 = .ok (.iadd, 1) := by decide +kernel
theorem d_M_hasNeed_33 : decode b_M_hasNeed 33 = .ok (.laload, 1) := by decide +kernel
theorem d_M_hasNeed_34 : decode b_M_hasNeed 34 = .ok (.lload_n 2, 1) := by decide +kernel
theorem d_M_hasNeed_35 : decode b_M_hasNeed 35 = .ok (.lcmp, 1) := by decide +kernel
theorem d_M_hasNeed_36 : decode b_M_hasNeed 36 = .ok (.ifCond .ne 7, 3) := by decide +kernel
theorem d_M_hasNeed_39 : decode b_M_hasNeed 39 = .ok (.iconst 1, 1) := by decide +kernel
theorem d_M_hasNeed_40 : decode b_M_hasNeed 40 = .ok (.goto 4, 3) := by decide +kernel
theorem d_M_hasNeed_43 : decode b_M_hasNeed 43 = .ok (.iconst 0, 1) := by decide +kernel
theorem d_M_hasNeed_44 : decode b_M_hasNeed 44 = .ok (.istore 4, 2) := by decide +kernel
theorem d_M_hasNeed_46 : decode b_M_hasNeed 46 = .ok (.iinc 5 1, 3) := by decide +kernel
theorem d_M_hasNeed_49 : decode b_M_hasNeed 49 = .ok (.goto (-43), 3) := by decide +kernel
theorem d_M_hasNeed_52 : decode b_M_hasNeed 52 = .ok (.iload 4, 2) := by decide +kernel
theorem d_M_hasNeed_54 : decode b_M_hasNeed 54 = .ok (.ireturn, 1) := by decide +kernel
theorem d_M_needs_0 : decode b_M_needs 0 = .ok (.aload_n 0, 1) := by decide +kernel
theorem d_M_needs_1 : decode b_M_needs 1 = .ok (.iload_n 1, 1) := by decide +kernel
theorem d_M_needs_2 : decode b_M_needs 2 = .ok (.invokevirtual 92, 3) := by decide +kernel
theorem d_M_needs_5 : decode b_M_needs 5 = .ok (.ifCond .eq 23, 3) := by decide +kernel
theorem d_M_needs_8 : decode b_M_needs 8 = .ok (.aload_n 0, 1) := by decide +kernel
theorem d_M_needs_9 : decode b_M_needs 9 = .ok (.iload_n 1, 1) := by decide +kernel
theorem d_M_needs_10 : decode b_M_needs 10 = .ok (.lload_n 2, 1) := by decide +kernel
theorem d_M_needs_11 : decode b_M_needs 11 = .ok (.invokevirtual 99, 3) := by decide +kernel
theorem d_M_needs_14 : decode b_M_needs 14 = .ok (.ifCond .ne 14, 3) := by decide +kernel
theorem d_M_needs_17 : decode b_M_needs 17 = .ok (.aload_n 0, 1) := by decide +kernel
theorem d_M_needs_18 : decode b_M_needs 18 = .ok (.getfield 51, 3) := by decide +kernel
theorem d_M_needs_21 : decode b_M_needs 21 = .ok (.iload_n 1, 1) := by decide +kernel
theorem d_M_needs_22 : decode b_M_needs 22 = .ok (.iaload, 1) := by decide +kernel
theorem d_M_needs_23 : decode b_M_needs 23 = .ok (.bipush 6, 2) := by decide +kernel
theorem d_M_needs_25 : decode b_M_needs 25 = .ok (.if_icmp .ne 5, 3) := by decide +kernel
theorem d_M_needs_28 : decode b_M_needs 28 = .ok (.iconst 0, 1) := by decide +kernel
theorem d_M_needs_29 : decode b_M_needs 29 = .ok (.ireturn, 1) := by decide +kernel
theorem d_M_needs_30 : decode b_M_needs 30 = .ok (.aload_n 0, 1) := by decide +kernel
theorem d_M_needs_31 : decode b_M_needs 31 = .ok (.getfield 27, 3) := by decide +kernel
theorem d_M_needs_34 : decode b_M_needs 34 = .ok (.bipush 6, 2) := by decide +kernel
theorem d_M_needs_36 : decode b_M_needs 36 = .ok (.iload_n 1, 1) := by decide +kernel
theorem d_M_needs_37 : decode b_M_needs 37 = .ok (.imul, 1) := by decide +kernel
theorem d_M_needs_38 : decode b_M_needs 38 = .ok (.aload_n 0, 1) := by decide +kernel
theorem d_M_needs_39 : decode b_M_needs 39 = .ok (.getfield 51, 3) := by decide +kernel
theorem d_M_needs_42 : decode b_M_needs 42 = .ok (.iload_n 1, 1) := by decide +kernel
theorem d_M_needs_43 : decode b_M_needs 43 = .ok (.iaload, 1) := by decide +kernel
theorem d_M_needs_44 : decode b_M_needs 44 = .ok (.iadd, 1) := by decide +kernel
theorem d_M_needs_45 : decode b_M_needs 45 = .ok (.lload_n 2, 1) := by decide +kernel
theorem d_M_needs_46 : decode b_M_needs 46 = .ok (.lastore, 1) := by decide +kernel
theorem d_M_needs_47 : decode b_M_needs 47 = .ok (.aload_n 0, 1) := by decide +kernel
theorem d_M_needs_48 : decode b_M_needs 48 = .ok (.getfield 51, 3) := by decide +kernel
theorem d_M_needs_51 : decode b_M_needs 51 = .ok (.iload_n 1, 1) := by decide +kernel
theorem d_M_needs_52 : decode b_M_needs 52 = .ok (.dup2, 1) := by decide +kernel
theorem d_M_needs_53 : decode b_M_needs 53 = .ok (.iaload, 1) := by decide +kernel
theorem d_M_needs_54 : decode b_M_needs 54 = .ok (.iconst 1, 1) := by decide +kernel
theorem d_M_needs_55 : decode b_M_needs 55 = .ok (.iadd, 1) := by decide +kernel
theorem d_M_needs_56 : decode b_M_needs 56 = .ok (.iastore, 1) := by decide +kernel
theorem d_M_needs_57 : decode b_M_needs 57 = .ok (.iconst 1, 1) := by decide +kernel
theorem d_M_needs_58 : decode b_M_needs 58 = .ok (.ireturn, 1) := by decide +kernel
theorem d_M_path_0 : decode b_M_path 0 = .ok (.aload_n 0, 1) := by decide +kernel
theorem d_M_path_1 : decode b_M_path 1 = .ok (.iload_n 1, 1) := by decide +kernel
theorem d_M_path_2 : decode b_M_path 2 = .ok (.invokevirtual 92, 3) := by decide +kernel
theorem d_M_path_5 : decode b_M_path 5 = .ok (.ifCond .eq 13, 3) := by decide +kernel
theorem d_M_path_8 : decode b_M_path 8 = .ok (.iload_n 2, 1) := by decide +kernel
theorem d_M_path_9 : decode b_M_path 9 = .ok (.iconst 0, 1) := by decide +kernel
theorem d_M_path_10 : decode b_M_path 10 = .ok (.bipush 7, 2) := by decide +kernel
theorem d_M_path_12 : decode b_M_path 12 = .ok (.invokestatic 82, 3) := by decide +kernel
theorem d_M_path_15 : decode b_M_path 15 = .ok (.ifCond .ne 5, 3) := by decide +kernel
theorem d_M_path_18 : decode b_M_path 18 = .ok (.iconst 0, 1) := by decide +kernel
theorem d_M_path_19 : decode b_M_path 19 = .ok (.ireturn, 1) := by decide +kernel
theorem d_M_path_20 : decode b_M_path 20 = .ok (.aload_n 0, 1) := by decide +kernel
theorem d_M_path_21 : decode b_M_path 21 = .ok (.getfield 54, 3) := by decide +kernel
theorem d_M_path_24 : decode b_M_path 24 = .ok (.iload_n 1, 1) := by decide +kernel
theorem d_M_path_25 : decode b_M_path 25 = .ok (.aload_n 0, 1) := by decide +kernel
theorem d_M_path_26 : decode b_M_path 26 = .ok (.getfield 54, 3) := by decide +kernel
theorem d_M_path_29 : decode b_M_path 29 = .ok (.iload_n 1, 1) := by decide +kernel
theorem d_M_path_30 : decode b_M_path 30 = .ok (.iaload, 1) := by decide +kernel
theorem d_M_path_31 : decode b_M_path 31 = .ok (.iconst 1, 1) := by decide +kernel
theorem d_M_path_32 : decode b_M_path 32 = .ok (.iload_n 2, 1) := by decide +kernel
theorem d_M_path_33 : decode b_M_path 33 = .ok (.ishl, 1) := by decide +kernel
theorem d_M_path_34 : decode b_M_path 34 = .ok (.ior, 1) := by decide +kernel
theorem d_M_path_35 : decode b_M_path 35 = .ok (.iastore, 1) := by decide +kernel
theorem d_M_path_36 : decode b_M_path 36 = .ok (.aload_n 0, 1) := by decide +kernel
theorem d_M_path_37 : decode b_M_path 37 = .ok (.getfield 30, 3) := by decide +kernel
theorem d_M_path_40 : decode b_M_path 40 = .ok (.bipush 8, 2) := by decide +kernel
theorem d_M_path_42 : decode b_M_path 42 = .ok (.iload_n 1, 1) := by decide +kernel
theorem d_M_path_43 : decode b_M_path 43 = .ok (.imul, 1) := by decide +kernel
theorem d_M_path_44 : decode b_M_path 44 = .ok (.iload_n 2, 1) := by decide +kernel
theorem d_M_path_45 : decode b_M_path 45 = .ok (.iadd, 1) := by decide +kernel
theorem d_M_path_46 : decode b_M_path 46 = .ok (.lload_n 3, 1) := by decide +kernel
theorem d_M_path_47 : decode b_M_path 47 = .ok (.lastore, 1) := by decide +kernel
theorem d_M_path_48 : decode b_M_path 48 = .ok (.iconst 1, 1) := by decide +kernel
theorem d_M_path_49 : decode b_M_path 49 = .ok (.ireturn, 1) := by decide +kernel
theorem d_M_policy_0 : decode b_M_policy 0 = .ok (.aload_n 0, 1) := by decide +kernel
theorem d_M_policy_1 : decode b_M_policy 1 = .ok (.getfield 103, 3) := by decide +kernel
theorem d_M_policy_4 : decode b_M_policy 4 = .ok (.bipush 16, 2) := by decide +kernel
theorem d_M_policy_6 : decode b_M_policy 6 = .ok (.if_icmp .eq 13, 3) := by decide +kernel
theorem d_M_policy_9 : decode b_M_policy 9 = .ok (.iload_n 1, 1) := by decide +kernel
theorem d_M_policy_10 : decode b_M_policy 10 = .ok (.iconst 0, 1) := by decide +kernel
theorem d_M_policy_11 : decode b_M_policy 11 = .ok (.bipush 9, 2) := by decide +kernel
theorem d_M_policy_13 : decode b_M_policy 13 = .ok (.invokestatic 82, 3) := by decide +kernel
theorem d_M_policy_16 : decode b_M_policy 16 = .ok (.ifCond .ne 5, 3) := by decide +kernel
theorem d_M_policy_19 : decode b_M_policy 19 = .ok (.iconst (-1), 1) := by decide +kernel
theorem d_M_policy_20 : decode b_M_policy 20 = .ok (.ireturn, 1) := by decide +kernel
theorem d_M_policy_21 : decode b_M_policy 21 = .ok (.aload_n 0, 1) := by decide +kernel
theorem d_M_policy_22 : decode b_M_policy 22 = .ok (.getfield 57, 3) := by decide +kernel
theorem d_M_policy_25 : decode b_M_policy 25 = .ok (.aload_n 0, 1) := by decide +kernel
theorem d_M_policy_26 : decode b_M_policy 26 = .ok (.getfield 103, 3) := by decide +kernel
theorem d_M_policy_29 : decode b_M_policy 29 = .ok (.iload_n 1, 1) := by decide +kernel
theorem d_M_policy_30 : decode b_M_policy 30 = .ok (.iastore, 1) := by decide +kernel
theorem d_M_policy_31 : decode b_M_policy 31 = .ok (.aload_n 0, 1) := by decide +kernel
theorem d_M_policy_32 : decode b_M_policy 32 = .ok (.getfield 60, 3) := by decide +kernel
theorem d_M_policy_35 : decode b_M_policy 35 = .ok (.aload_n 0, 1) := by decide +kernel
theorem d_M_policy_36 : decode b_M_policy 36 = .ok (.getfield 103, 3) := by decide +kernel
theorem d_M_policy_39 : decode b_M_policy 39 = .ok (.iload_n 2, 1) := by decide +kernel
theorem d_M_policy_40 : decode b_M_policy 40 = .ok (.iastore, 1) := by decide +kernel
theorem d_M_policy_41 : decode b_M_policy 41 = .ok (.aload_n 0, 1) := by decide +kernel
theorem d_M_policy_42 : decode b_M_policy 42 = .ok (.dup, 1) := by decide +kernel
theorem d_M_policy_43 : decode b_M_policy 43 = .ok (.getfield 103, 3) := by decide +kernel
theorem d_M_policy_46 : decode b_M_policy 46 = .ok (.iconst 1, 1) := by decide +kernel
theorem d_M_policy_47 : decode b_M_policy 47 = .ok (.iadd, 1) := by decide +kernel
theorem d_M_policy_48 : decode b_M_policy 48 = .ok (.putfield 103, 3) := by decide +kernel
theorem d_M_policy_51 : decode b_M_policy 51 = .ok (.aload_n 0, 1) := by decide +kernel
theorem d_M_policy_52 : decode b_M_policy 52 = .ok (.getfield 103, 3) := by decide +kernel
theorem d_M_policy_55 : decode b_M_policy 55 = .ok (.iconst 1, 1) := by decide +kernel
theorem d_M_policy_56 : decode b_M_policy 56 = .ok (.isub, 1) := by decide +kernel
theorem d_M_policy_57 : decode b_M_policy 57 = .ok (.ireturn, 1) := by decide +kernel
theorem d_M_come_0 : decode b_M_come 0 = .ok (.iconst 0, 1) := by decide +kernel
theorem d_M_come_1 : decode b_M_come 1 = .ok (.istore_n 2, 1) := by decide +kernel
theorem d_M_come_2 : decode b_M_come 2 = .ok (.iload_n 2, 1) := by decide +kernel
theorem d_M_come_3 : decode b_M_come 3 = .ok (.aload_n 0, 1) := by decide +kernel
theorem d_M_come_4 : decode b_M_come 4 = .ok (.getfield 106, 3) := by decide +kernel
theorem d_M_come_7 : decode b_M_come 7 = .ok (.if_icmp .ge 20, 3) := by decide +kernel
theorem d_M_come_10 : decode b_M_come 10 = .ok (.aload_n 0, 1) := by decide +kernel
theorem d_M_come_11 : decode b_M_come 11 = .ok (.getfield 67, 3) := by decide +kernel
theorem d_M_come_14 : decode b_M_come 14 = .ok (.iload_n 2, 1) := by decide +kernel
theorem d_M_come_15 : decode b_M_come 15 = .ok (.iaload, 1) := by decide +kernel
theorem d_M_come_16 : decode b_M_come 16 = .ok (.iload_n 1, 1) := by decide +kernel
theorem d_M_come_17 : decode b_M_come 17 = .ok (.if_icmp .ne 4, 3) := by decide +kernel
theorem d_M_come_20 : decode b_M_come 20 = .ok (.return_, 1) := by decide +kernel
theorem d_M_come_21 : decode b_M_come 21 = .ok (.iinc 2 1, 3) := by decide +kernel
theorem d_M_come_24 : decode b_M_come 24 = .ok (.goto (-22), 3) := by decide +kernel
theorem d_M_come_27 : decode b_M_come 27 = .ok (.aload_n 0, 1) := by decide +kernel
theorem d_M_come_28 : decode b_M_come 28 = .ok (.getfield 67, 3) := by decide +kernel
theorem d_M_come_31 : decode b_M_come 31 = .ok (.aload_n 0, 1) := by decide +kernel
theorem d_M_come_32 : decode b_M_come 32 = .ok (.getfield 106, 3) := by decide +kernel
theorem d_M_come_35 : decode b_M_come 35 = .ok (.iload_n 1, 1) := by decide +kernel
theorem d_M_come_36 : decode b_M_come 36 = .ok (.iastore, 1) := by decide +kernel
theorem d_M_come_37 : decode b_M_come 37 = .ok (.aload_n 0, 1) := by decide +kernel
theorem d_M_come_38 : decode b_M_come 38 = .ok (.dup, 1) := by decide +kernel
theorem d_M_come_39 : decode b_M_come 39 = .ok (.getfield 106, 3) := by decide +kernel
theorem d_M_come_42 : decode b_M_come 42 = .ok (.iconst 1, 1) := by decide +kernel
theorem d_M_come_43 : decode b_M_come 43 = .ok (.iadd, 1) := by decide +kernel
theorem d_M_come_44 : decode b_M_come 44 = .ok (.putfield 106, 3) := by decide +kernel
theorem d_M_come_47 : decode b_M_come 47 = .ok (.return_, 1) := by decide +kernel
theorem d_M_meets_0 : decode b_M_meets 0 = .ok (.iconst 0, 1) := by decide +kernel
theorem d_M_meets_1 : decode b_M_meets 1 = .ok (.istore_n 3, 1) := by decide +kernel
theorem d_M_meets_2 : decode b_M_meets 2 = .ok (.iload_n 3, 1) := by decide +kernel
theorem d_M_meets_3 : decode b_M_meets 3 = .ok (.aload_n 0, 1) := by decide +kernel
theorem d_M_meets_4 : decode b_M_meets 4 = .ok (.getfield 76, 3) := by decide +kernel
theorem d_M_meets_7 : decode b_M_meets 7 = .ok (.if_icmp .ge 20, 3) := by decide +kernel
theorem d_M_meets_10 : decode b_M_meets 10 = .ok (.aload_n 0, 1) := by decide +kernel
theorem d_M_meets_11 : decode b_M_meets 11 = .ok (.getfield 24, 3) := by decide +kernel
theorem d_M_meets_14 : decode b_M_meets 14 = .ok (.iload_n 3, 1) := by decide +kernel
theorem d_M_meets_15 : decode b_M_meets 15 = .ok (.laload, 1) := by decide +kernel
theorem d_M_meets_16 : decode b_M_meets 16 = .ok (.lload_n 1, 1) := by decide +kernel
theorem d_M_meets_17 : decode b_M_meets 17 = .ok (.lcmp, 1) := by decide +kernel
theorem d_M_meets_18 : decode b_M_meets 18 = .ok (.ifCond .eq 9, 3) := by decide +kernel
theorem d_M_meets_21 : decode b_M_meets 21 = .ok (.iinc 3 1, 3) := by decide +kernel
theorem d_M_meets_24 : decode b_M_meets 24 = .ok (.goto (-22), 3) := by decide +kernel
theorem d_M_meets_27 : decode b_M_meets 27 = .ok (.iload_n 3, 1) := by decide +kernel
theorem d_M_meets_28 : decode b_M_meets 28 = .ok (.aload_n 0, 1) := by decide +kernel
theorem d_M_meets_29 : decode b_M_meets 29 = .ok (.getfield 76, 3) := by decide +kernel
theorem d_M_meets_32 : decode b_M_meets 32 = .ok (.if_icmp .ge 7, 3) := by decide +kernel
theorem d_M_meets_35 : decode b_M_meets 35 = .ok (.iload_n 3, 1) := by decide +kernel
theorem d_M_meets_36 : decode b_M_meets 36 = .ok (.goto 4, 3) := by decide +kernel
theorem d_M_meets_39 : decode b_M_meets 39 = .ok (.iconst (-1), 1) := by decide +kernel
theorem d_M_meets_40 : decode b_M_meets 40 = .ok (.ireturn, 1) := by decide +kernel
theorem d_M_goAlong_0 : decode b_M_goAlong 0 = .ok (.aload_n 0, 1) := by decide +kernel
theorem d_M_goAlong_1 : decode b_M_goAlong 1 = .ok (.iconst 0, 1) := by decide +kernel
theorem d_M_goAlong_2 : decode b_M_goAlong 2 = .ok (.putfield 106, 3) := by decide +kernel
theorem d_M_goAlong_5 : decode b_M_goAlong 5 = .ok (.aload_n 0, 1) := by decide +kernel
theorem d_M_goAlong_6 : decode b_M_goAlong 6 = .ok (.iload_n 1, 1) := by decide +kernel
theorem d_M_goAlong_7 : decode b_M_goAlong 7 = .ok (.invokevirtual 109, 3) := by decide +kernel
theorem d_M_goAlong_10 : decode b_M_goAlong 10 = .ok (.iconst 0, 1) := by decide +kernel
theorem d_M_goAlong_11 : decode b_M_goAlong 11 = .ok (.istore_n 2, 1) := by decide +kernel
theorem d_M_goAlong_12 : decode b_M_goAlong 12 = .ok (.iload_n 2, 1) := by decide +kernel
theorem d_M_goAlong_13 : decode b_M_goAlong 13 = .ok (.aload_n 0, 1) := by decide +kernel
theorem d_M_goAlong_14 : decode b_M_goAlong 14 = .ok (.getfield 106, 3) := by decide +kernel
theorem d_M_goAlong_17 : decode b_M_goAlong 17 = .ok (.if_icmp .ge 90, 3) := by decide +kernel
theorem d_M_goAlong_20 : decode b_M_goAlong 20 = .ok (.aload_n 0, 1) := by decide +kernel
theorem d_M_goAlong_21 : decode b_M_goAlong 21 = .ok (.getfield 106, 3) := by decide +kernel
theorem d_M_goAlong_24 : decode b_M_goAlong 24 = .ok (.istore_n 3, 1) := by decide +kernel
theorem d_M_goAlong_25 : decode b_M_goAlong 25 = .ok (.iload_n 2, 1) := by decide +kernel
theorem d_M_goAlong_26 : decode b_M_goAlong 26 = .ok (.istore 4, 2) := by decide +kernel
theorem d_M_goAlong_28 : decode b_M_goAlong 28 = .ok (.iload 4, 2) := by decide +kernel
theorem d_M_goAlong_30 : decode b_M_goAlong 30 = .ok (.iload_n 3, 1) := by decide +kernel
theorem d_M_goAlong_31 : decode b_M_goAlong 31 = .ok (.if_icmp .ge 71, 3) := by decide +kernel
theorem d_M_goAlong_34 : decode b_M_goAlong 34 = .ok (.iconst 0, 1) := by decide +kernel
theorem d_M_goAlong_35 : decode b_M_goAlong 35 = .ok (.istore 5, 2) := by decide +kernel
theorem d_M_goAlong_37 : decode b_M_goAlong 37 = .ok (.iload 5, 2) := by decide +kernel
theorem d_M_goAlong_39 : decode b_M_goAlong 39 = .ok (.aload_n 0, 1) := by decide +kernel
theorem d_M_goAlong_40 : decode b_M_goAlong 40 = .ok (.getfield 51, 3) := by decide +kernel
theorem d_M_goAlong_43 : decode b_M_goAlong 43 = .ok (.aload_n 0, 1) := by decide +kernel
theorem d_M_goAlong_44 : decode b_M_goAlong 44 = .ok (.getfield 67, 3) := by decide +kernel
theorem d_M_goAlong_47 : decode b_M_goAlong 47 = .ok (.iload 4, 2) := by decide +kernel
theorem d_M_goAlong_49 : decode b_M_goAlong 49 = .ok (.iaload, 1) := by decide +kernel
theorem d_M_goAlong_50 : decode b_M_goAlong 50 = .ok (.iaload, 1) := by decide +kernel
theorem d_M_goAlong_51 : decode b_M_goAlong 51 = .ok (.if_icmp .ge 45, 3) := by decide +kernel
theorem d_M_goAlong_54 : decode b_M_goAlong 54 = .ok (.aload_n 0, 1) := by decide +kernel
theorem d_M_goAlong_55 : decode b_M_goAlong 55 = .ok (.aload_n 0, 1) := by decide +kernel
theorem d_M_goAlong_56 : decode b_M_goAlong 56 = .ok (.getfield 27, 3) := by decide +kernel
theorem d_M_goAlong_59 : decode b_M_goAlong 59 = .ok (.bipush 6, 2) := by decide +kernel
theorem d_M_goAlong_61 : decode b_M_goAlong 61 = .ok (.aload_n 0, 1) := by decide +kernel
theorem d_M_goAlong_62 : decode b_M_goAlong 62 = .ok (.getfield 67, 3) := by decide +kernel
theorem d_M_goAlong_65 : decode b_M_goAlong 65 = .ok (.iload 4, 2) := by decide +kernel
theorem d_M_goAlong_67 : decode b_M_goAlong 67 = .ok (.iaload, 1) := by decide +kernel
theorem d_M_goAlong_68 : decode b_M_goAlong 68 = .ok (.imul, 1) := by decide +kernel
theorem d_M_goAlong_69 : decode b_M_goAlong 69 = .ok (.iload 5, 2) := by decide +kernel
theorem d_M_goAlong_71 : decode b_M_goAlong 71 = .ok (.iadd, 1) := by decide +kernel
theorem d_M_goAlong_72 : decode b_M_goAlong 72 = .ok (.laload, 1) := by decide +kernel
theorem d_M_goAlong_73 : decode b_M_goAlong 73 = .ok (.invokevirtual 113, 3) := by decide +kernel
theorem d_M_goAlong_76 : decode b_M_goAlong 76 = .ok (.istore 6, 2) := by decide +kernel
theorem d_M_goAlong_78 : decode b_M_goAlong 78 = .ok (.iload 6, 2) := by decide +kernel
theorem d_M_goAlong_80 : decode b_M_goAlong 80 = .ok (.iconst (-1), 1) := by decide +kernel
theorem d_M_goAlong_81 : decode b_M_goAlong 81 = .ok (.if_icmp .eq 9, 3) := by decide +kernel
theorem d_M_goAlong_84 : decode b_M_goAlong 84 = .ok (.aload_n 0, 1) := by decide +kernel
theorem d_M_goAlong_85 : decode b_M_goAlong 85 = .ok (.iload 6, 2) := by decide +kernel
theorem d_M_goAlong_87 : decode b_M_goAlong 87 = .ok (.invokevirtual 109, 3) := by decide +kernel
theorem d_M_goAlong_90 : decode b_M_goAlong 90 = .ok (.iinc 5 1, 3) := by decide +kernel
theorem d_M_goAlong_93 : decode b_M_goAlong 93 = .ok (.goto (-56), 3) := by decide +kernel
theorem d_M_goAlong_96 : decode b_M_goAlong 96 = .ok (.iinc 4 1, 3) := by decide +kernel
theorem d_M_goAlong_99 : decode b_M_goAlong 99 = .ok (.goto (-71), 3) := by decide +kernel
theorem d_M_goAlong_102 : decode b_M_goAlong 102 = .ok (.iload_n 3, 1) := by decide +kernel
theorem d_M_goAlong_103 : decode b_M_goAlong 103 = .ok (.istore_n 2, 1) := by decide +kernel
theorem d_M_goAlong_104 : decode b_M_goAlong 104 = .ok (.goto (-92), 3) := by decide +kernel
theorem d_M_goAlong_107 : decode b_M_goAlong 107 = .ok (.return_, 1) := by decide +kernel
theorem d_M_closure_0 : decode b_M_closure 0 = .ok (.aload_n 0, 1) := by decide +kernel
theorem d_M_closure_1 : decode b_M_closure 1 = .ok (.iload_n 1, 1) := by decide +kernel
theorem d_M_closure_2 : decode b_M_closure 2 = .ok (.invokevirtual 92, 3) := by decide +kernel
theorem d_M_closure_5 : decode b_M_closure 5 = .ok (.ifCond .ne 5, 3) := by decide +kernel
theorem d_M_closure_8 : decode b_M_closure 8 = .ok (.iconst (-1), 1) := by decide +kernel
theorem d_M_closure_9 : decode b_M_closure 9 = .ok (.ireturn, 1) := by decide +kernel
theorem d_M_closure_10 : decode b_M_closure 10 = .ok (.aload_n 0, 1) := by decide +kernel
theorem d_M_closure_11 : decode b_M_closure 11 = .ok (.iload_n 1, 1) := by decide +kernel
theorem d_M_closure_12 : decode b_M_closure 12 = .ok (.invokevirtual 117, 3) := by decide +kernel
theorem d_M_closure_15 : decode b_M_closure 15 = .ok (.aload_n 0, 1) := by decide +kernel
theorem d_M_closure_16 : decode b_M_closure 16 = .ok (.aload_n 0, 1) := by decide +kernel
theorem d_M_closure_17 : decode b_M_closure 17 = .ok (.getfield 106, 3) := by decide +kernel
theorem d_M_closure_20 : decode b_M_closure 20 = .ok (.putfield 120, 3) := by decide +kernel
theorem d_M_closure_23 : decode b_M_closure 23 = .ok (.iconst 0, 1) := by decide +kernel
theorem d_M_closure_24 : decode b_M_closure 24 = .ok (.istore_n 2, 1) := by decide +kernel
theorem d_M_closure_25 : decode b_M_closure 25 = .ok (.iload_n 2, 1) := by decide +kernel
theorem d_M_closure_26 : decode b_M_closure 26 = .ok (.aload_n 0, 1) := by decide +kernel
theorem d_M_closure_27 : decode b_M_closure 27 = .ok (.getfield 106, 3) := by decide +kernel
theorem d_M_closure_30 : decode b_M_closure 30 = .ok (.if_icmp .ge 21, 3) := by decide +kernel
theorem d_M_closure_33 : decode b_M_closure 33 = .ok (.aload_n 0, 1) := by decide +kernel
theorem d_M_closure_34 : decode b_M_closure 34 = .ok (.getfield 73, 3) := by decide +kernel
theorem d_M_closure_37 : decode b_M_closure 37 = .ok (.iload_n 2, 1) := by decide +kernel
theorem d_M_closure_38 : decode b_M_closure 38 = .ok (.aload_n 0, 1) := by decide +kernel
theorem d_M_closure_39 : decode b_M_closure 39 = .ok (.getfield 67, 3) := by decide +kernel
theorem d_M_closure_42 : decode b_M_closure 42 = .ok (.iload_n 2, 1) := by decide +kernel
theorem d_M_closure_43 : decode b_M_closure 43 = .ok (.iaload, 1) := by decide +kernel
theorem d_M_closure_44 : decode b_M_closure 44 = .ok (.iastore, 1) := by decide +kernel
theorem d_M_closure_45 : decode b_M_closure 45 = .ok (.iinc 2 1, 3) := by decide +kernel
theorem d_M_closure_48 : decode b_M_closure 48 = .ok (.goto (-23), 3) := by decide +kernel
theorem d_M_closure_51 : decode b_M_closure 51 = .ok (.aload_n 0, 1) := by decide +kernel
theorem d_M_closure_52 : decode b_M_closure 52 = .ok (.getfield 120, 3) := by decide +kernel
theorem d_M_closure_55 : decode b_M_closure 55 = .ok (.ireturn, 1) := by decide +kernel
theorem d_M_at_0 : decode b_M_at 0 = .ok (.iload_n 1, 1) := by decide +kernel
theorem d_M_at_1 : decode b_M_at 1 = .ok (.ifCond .lt 20, 3) := by decide +kernel
theorem d_M_at_4 : decode b_M_at 4 = .ok (.iload_n 1, 1) := by decide +kernel
theorem d_M_at_5 : decode b_M_at 5 = .ok (.aload_n 0, 1) := by decide +kernel
theorem d_M_at_6 : decode b_M_at 6 = .ok (.getfield 120, 3) := by decide +kernel
theorem d_M_at_9 : decode b_M_at 9 = .ok (.if_icmp .ge 12, 3) := by decide +kernel
theorem d_M_at_12 : decode b_M_at 12 = .ok (.aload_n 0, 1) := by decide +kernel
theorem d_M_at_13 : decode b_M_at 13 = .ok (.getfield 73, 3) := by decide +kernel
theorem d_M_at_16 : decode b_M_at 16 = .ok (.iload_n 1, 1) := by decide +kernel
theorem d_M_at_17 : decode b_M_at 17 = .ok (.iaload, 1) := by decide +kernel
theorem d_M_at_18 : decode b_M_at 18 = .ok (.goto 4, 3) := by decide +kernel
theorem d_M_at_21 : decode b_M_at 21 = .ok (.iconst (-1), 1) := by decide +kernel
theorem d_M_at_22 : decode b_M_at 22 = .ok (.ireturn, 1) := by decide +kernel
theorem d_M_holds_0 : decode b_M_holds 0 = .ok (.iload_n 3, 1) := by decide +kernel
theorem d_M_holds_1 : decode b_M_holds 1 = .ok (.istore 4, 2) := by decide +kernel
theorem d_M_holds_3 : decode b_M_holds 3 = .ok (.iconst 0, 1) := by decide +kernel
theorem d_M_holds_4 : decode b_M_holds 4 = .ok (.istore 5, 2) := by decide +kernel
theorem d_M_holds_6 : decode b_M_holds 6 = .ok (.iload 5, 2) := by decide +kernel
theorem d_M_holds_8 : decode b_M_holds 8 = .ok (.aload_n 0, 1) := by decide +kernel
theorem d_M_holds_9 : decode b_M_holds 9 = .ok (.getfield 76, 3) := by decide +kernel
theorem d_M_holds_12 : decode b_M_holds 12 = .ok (.if_icmp .ge 134, 3) := by decide +kernel
theorem d_M_holds_15 : decode b_M_holds 15 = .ok (.iload_n 3, 1) := by decide +kernel
theorem d_M_holds_16 : decode b_M_holds 16 = .ok (.ifCond .lt 130, 3) := by decide +kernel
theorem d_M_holds_19 : decode b_M_holds 19 = .ok (.aload_n 0, 1) := by decide +kernel
theorem d_M_holds_20 : decode b_M_holds 20 = .ok (.iload 5, 2) := by decide +kernel
theorem d_M_holds_22 : decode b_M_holds 22 = .ok (.invokevirtual 117, 3) := by decide +kernel
theorem d_M_holds_25 : decode b_M_holds 25 = .ok (.iconst 0, 1) := by decide +kernel
theorem d_M_holds_26 : decode b_M_holds 26 = .ok (.istore 6, 2) := by decide +kernel
theorem d_M_holds_28 : decode b_M_holds 28 = .ok (.iconst 0, 1) := by decide +kernel
theorem d_M_holds_29 : decode b_M_holds 29 = .ok (.istore 7, 2) := by decide +kernel
theorem d_M_holds_31 : decode b_M_holds 31 = .ok (.iload 7, 2) := by decide +kernel
theorem d_M_holds_33 : decode b_M_holds 33 = .ok (.aload_n 0, 1) := by decide +kernel
theorem d_M_holds_34 : decode b_M_holds 34 = .ok (.getfield 106, 3) := by decide +kernel
theorem d_M_holds_37 : decode b_M_holds 37 = .ok (.if_icmp .ge 75, 3) := by decide +kernel
theorem d_M_holds_40 : decode b_M_holds 40 = .ok (.iconst 0, 1) := by decide +kernel
theorem d_M_holds_41 : decode b_M_holds 41 = .ok (.istore 8, 2) := by decide +kernel
theorem d_M_holds_43 : decode b_M_holds 43 = .ok (.iload 8, 2) := by decide +kernel
theorem d_M_holds_45 : decode b_M_holds 45 = .ok (.aload_n 0, 1) := by decide +kernel
theorem d_M_holds_46 : decode b_M_holds 46 = .ok (.getfield 45, 3) := by decide +kernel
theorem d_M_holds_49 : decode b_M_holds 49 = .ok (.aload_n 0, 1) := by decide +kernel
theorem d_M_holds_50 : decode b_M_holds 50 = .ok (.getfield 67, 3) := by decide +kernel
theorem d_M_holds_53 : decode b_M_holds 53 = .ok (.iload 7, 2) := by decide +kernel
theorem d_M_holds_55 : decode b_M_holds 55 = .ok (.iaload, 1) := by decide +kernel
theorem d_M_holds_56 : decode b_M_holds 56 = .ok (.iaload, 1) := by decide +kernel
theorem d_M_holds_57 : decode b_M_holds 57 = .ok (.if_icmp .ge 49, 3) := by decide +kernel
theorem d_M_holds_60 : decode b_M_holds 60 = .ok (.iload 6, 2) := by decide +kernel
theorem d_M_holds_62 : decode b_M_holds 62 = .ok (.ifCond .ne 31, 3) := by decide +kernel
theorem d_M_holds_65 : decode b_M_holds 65 = .ok (.aload_n 0, 1) := by decide +kernel
theorem d_M_holds_66 : decode b_M_holds 66 = .ok (.getfield 7, 3) := by decide +kernel
theorem d_M_holds_69 : decode b_M_holds 69 = .ok (.aload_n 0, 1) := by decide +kernel
theorem d_M_holds_70 : decode b_M_holds 70 = .ok (.getfield 48, 3) := by decide +kernel
theorem d_M_holds_73 : decode b_M_holds 73 = .ok (.bipush 6, 2) := by decide +kernel
theorem d_M_holds_75 : decode b_M_holds 75 = .ok (.aload_n 0, 1) := by decide +kernel
theorem d_M_holds_76 : decode b_M_holds 76 = .ok (.getfield 67, 3) := by decide +kernel
theorem d_M_holds_79 : decode b_M_holds 79 = .ok (.iload 7, 2) := by decide +kernel
theorem d_M_holds_81 : decode b_M_holds 81 = .ok (.iaload, 1) := by decide +kernel
theorem d_M_holds_82 : decode b_M_holds 82 = .ok (.imul, 1) := by decide +kernel
theorem d_M_holds_83 : decode b_M_holds 83 = .ok (.iload 8, 2) := by decide +kernel
theorem d_M_holds_85 : decode b_M_holds 85 = .ok (.iadd, 1) := by decide +kernel
theorem d_M_holds_86 : decode b_M_holds 86 = .ok (.iaload, 1) := by decide +kernel
theorem d_M_holds_87 : decode b_M_holds 87 = .ok (.laload, 1) := by decide +kernel
theorem d_M_holds_88 : decode b_M_holds 88 = .ok (.lload_n 1, 1) := by decide +kernel
theorem d_M_holds_89 : decode b_M_holds 89 = .ok (.lcmp, 1) := by decide +kernel
theorem d_M_holds_90 : decode b_M_holds 90 = .ok (.ifCond .ne 7, 3) := by decide +kernel
theorem d_M_holds_93 : decode b_M_holds 93 = .ok (.iconst 1, 1) := by decide +kernel
theorem d_M_holds_94 : decode b_M_holds 94 = .ok (.goto 4, 3) := by decide +kernel
theorem d_M_holds_97 : decode b_M_holds 97 = .ok (.iconst 0, 1) := by decide +kernel
theorem d_M_holds_98 : decode b_M_holds 98 = .ok (.istore 6, 2) := by decide +kernel
theorem d_M_holds_100 : decode b_M_holds 100 = .ok (.iinc 8 1, 3) := by decide +kernel
theorem d_M_holds_103 : decode b_M_holds 103 = .ok (.goto (-60), 3) := by decide +kernel
theorem d_M_holds_106 : decode b_M_holds 106 = .ok (.iinc 7 1, 3) := by decide +kernel
theorem d_M_holds_109 : decode b_M_holds 109 = .ok (.goto (-78), 3) := by decide +kernel
theorem d_M_holds_112 : decode b_M_holds 112 = .ok (.iload 6, 2) := by decide +kernel
theorem d_M_holds_114 : decode b_M_holds 114 = .ok (.ifCond .eq 11, 3) := by decide +kernel
theorem d_M_holds_117 : decode b_M_holds 117 = .ok (.iload 4, 2) := by decide +kernel
theorem d_M_holds_119 : decode b_M_holds 119 = .ok (.ifCond .ne 6, 3) := by decide +kernel
theorem d_M_holds_122 : decode b_M_holds 122 = .ok (.iload 5, 2) := by decide +kernel
theorem d_M_holds_124 : decode b_M_holds 124 = .ok (.ireturn, 1) := by decide +kernel
theorem d_M_holds_125 : decode b_M_holds 125 = .ok (.iload 4, 2) := by decide +kernel
theorem d_M_holds_127 : decode b_M_holds 127 = .ok (.iload 6, 2) := by decide +kernel
theorem d_M_holds_129 : decode b_M_holds 129 = .ok (.ifCond .eq 7, 3) := by decide +kernel
theorem d_M_holds_132 : decode b_M_holds 132 = .ok (.iconst 1, 1) := by decide +kernel
theorem d_M_holds_133 : decode b_M_holds 133 = .ok (.goto 4, 3) := by decide +kernel
theorem d_M_holds_136 : decode b_M_holds 136 = .ok (.iconst 0, 1) := by decide +kernel
theorem d_M_holds_137 : decode b_M_holds 137 = .ok (.isub, 1) := by decide +kernel
theorem d_M_holds_138 : decode b_M_holds 138 = .ok (.istore 4, 2) := by decide +kernel
theorem d_M_holds_140 : decode b_M_holds 140 = .ok (.iinc 5 1, 3) := by decide +kernel
theorem d_M_holds_143 : decode b_M_holds 143 = .ok (.goto (-137), 3) := by decide +kernel
theorem d_M_holds_146 : decode b_M_holds 146 = .ok (.iconst (-1), 1) := by decide +kernel
theorem d_M_holds_147 : decode b_M_holds 147 = .ok (.ireturn, 1) := by decide +kernel
theorem d_M_missing_0 : decode b_M_missing 0 = .ok (.aload_n 0, 1) := by decide +kernel
theorem d_M_missing_1 : decode b_M_missing 1 = .ok (.iload_n 1, 1) := by decide +kernel
theorem d_M_missing_2 : decode b_M_missing 2 = .ok (.invokevirtual 92, 3) := by decide +kernel
theorem d_M_missing_5 : decode b_M_missing 5 = .ok (.ifCond .eq 7, 3) := by decide +kernel
theorem d_M_missing_8 : decode b_M_missing 8 = .ok (.iload_n 2, 1) := by decide +kernel
theorem d_M_missing_9 : decode b_M_missing 9 = .ok (.ifCond .ge 5, 3) := by decide +kernel
theorem d_M_missing_12 : decode b_M_missing 12 = .ok (.iconst (-1), 1) := by decide +kernel
theorem d_M_missing_13 : decode b_M_missing 13 = .ok (.ireturn, 1) := by decide +kernel
theorem d_M_missing_14 : decode b_M_missing 14 = .ok (.iload_n 2, 1) := by decide +kernel
theorem d_M_missing_15 : decode b_M_missing 15 = .ok (.istore_n 3, 1) := by decide +kernel
theorem d_M_missing_16 : decode b_M_missing 16 = .ok (.iconst 0, 1) := by decide +kernel
theorem d_M_missing_17 : decode b_M_missing 17 = .ok (.istore 4, 2) := by decide +kernel
theorem d_M_missing_19 : decode b_M_missing 19 = .ok (.iload 4, 2) := by decide +kernel
theorem d_M_missing_21 : decode b_M_missing 21 = .ok (.aload_n 0, 1) := by decide +kernel
theorem d_M_missing_22 : decode b_M_missing 22 = .ok (.getfield 51, 3) := by decide +kernel
theorem d_M_missing_25 : decode b_M_missing 25 = .ok (.iload_n 1, 1) := by decide +kernel
theorem d_M_missing_26 : decode b_M_missing 26 = .ok (.iaload, 1) := by decide +kernel
theorem d_M_missing_27 : decode b_M_missing 27 = .ok (.if_icmp .ge 42, 3) := by decide +kernel
theorem d_M_missing_30 : decode b_M_missing 30 = .ok (.aload_n 0, 1) := by decide +kernel
theorem d_M_missing_31 : decode b_M_missing 31 = .ok (.aload_n 0, 1) := by decide +kernel
theorem d_M_missing_32 : decode b_M_missing 32 = .ok (.getfield 27, 3) := by decide +kernel
theorem d_M_missing_35 : decode b_M_missing 35 = .ok (.bipush 6, 2) := by decide +kernel
theorem d_M_missing_37 : decode b_M_missing 37 = .ok (.iload_n 1, 1) := by decide +kernel
theorem d_M_missing_38 : decode b_M_missing 38 = .ok (.imul, 1) := by decide +kernel
theorem d_M_missing_39 : decode b_M_missing 39 = .ok (.iload 4, 2) := by decide +kernel
theorem d_M_missing_41 : decode b_M_missing 41 = .ok (.iadd, 1) := by decide +kernel
theorem d_M_missing_42 : decode b_M_missing 42 = .ok (.laload, 1) := by decide +kernel
theorem d_M_missing_43 : decode b_M_missing 43 = .ok (.invokevirtual 113, 3) := by decide +kernel
theorem d_M_missing_46 : decode b_M_missing 46 = .ok (.iconst (-1), 1) := by decide +kernel
theorem d_M_missing_47 : decode b_M_missing 47 = .ok (.if_icmp .eq 6, 3) := by decide +kernel
theorem d_M_missing_50 : decode b_M_missing 50 = .ok (.goto 13, 3) := by decide +kernel
theorem d_M_missing_53 : decode b_M_missing 53 = .ok (.iload_n 3, 1) := by decide +kernel
theorem d_M_missing_54 : decode b_M_missing 54 = .ok (.ifCond .ne 6, 3) := by decide +kernel
theorem d_M_missing_57 : decode b_M_missing 57 = .ok (.iload 4, 2) := by decide +kernel
theorem d_M_missing_59 : decode b_M_missing 59 = .ok (.ireturn, 1) := by decide +kernel
theorem d_M_missing_60 : decode b_M_missing 60 = .ok (.iinc 3 (-1), 3) := by decide +kernel
theorem d_M_missing_63 : decode b_M_missing 63 = .ok (.iinc 4 1, 3) := by decide +kernel
theorem d_M_missing_66 : decode b_M_missing 66 = .ok (.goto (-47), 3) := by decide +kernel
theorem d_M_missing_69 : decode b_M_missing 69 = .ok (.iconst (-1), 1) := by decide +kernel
theorem d_M_missing_70 : decode b_M_missing 70 = .ok (.ireturn, 1) := by decide +kernel
theorem d_M_others_0 : decode b_M_others 0 = .ok (.iconst 0, 1) := by decide +kernel
theorem d_M_others_1 : decode b_M_others 1 = .ok (.istore_n 3, 1) := by decide +kernel
theorem d_M_others_2 : decode b_M_others 2 = .ok (.iconst 0, 1) := by decide +kernel
theorem d_M_others_3 : decode b_M_others 3 = .ok (.istore 4, 2) := by decide +kernel
theorem d_M_others_5 : decode b_M_others 5 = .ok (.iload 4, 2) := by decide +kernel
theorem d_M_others_7 : decode b_M_others 7 = .ok (.bipush 16, 2) := by decide +kernel
theorem d_M_others_9 : decode b_M_others 9 = .ok (.if_icmp .ge 33, 3) := by decide +kernel
theorem d_M_others_12 : decode b_M_others 12 = .ok (.iload_n 3, 1) := by decide +kernel
theorem d_M_others_13 : decode b_M_others 13 = .ok (.iload 4, 2) := by decide +kernel
theorem d_M_others_15 : decode b_M_others 15 = .ok (.iload_n 2, 1) := by decide +kernel
theorem d_M_others_16 : decode b_M_others 16 = .ok (.if_icmp .ne 7, 3) := by decide +kernel
theorem d_M_others_19 : decode b_M_others 19 = .ok (.iconst 0, 1) := by decide +kernel
theorem d_M_others_20 : decode b_M_others 20 = .ok (.goto 14, 3) := by decide +kernel
theorem d_M_others_23 : decode b_M_others 23 = .ok (.aload_n 0, 1) := by decide +kernel
theorem d_M_others_24 : decode b_M_others 24 = .ok (.getfield 17, 3) := by decide +kernel
theorem d_M_others_27 : decode b_M_others 27 = .ok (.iload_n 1, 1) := by decide +kernel
theorem d_M_others_28 : decode b_M_others 28 = .ok (.iaload, 1) := by decide +kernel
theorem d_M_others_29 : decode b_M_others 29 = .ok (.iload 4, 2) := by decide +kernel
theorem d_M_others_31 : decode b_M_others 31 = .ok (.ishr, 1) := by decide +kernel
theorem d_M_others_32 : decode b_M_others 32 = .ok (.iconst 1, 1) := by decide +kernel
theorem d_M_others_33 : decode b_M_others 33 = .ok (.iand, 1) := by decide +kernel
theorem d_M_others_34 : decode b_M_others 34 = .ok (.iadd, 1) := by decide +kernel
theorem d_M_others_35 : decode b_M_others 35 = .ok (.istore_n 3, 1) := by decide +kernel
theorem d_M_others_36 : decode b_M_others 36 = .ok (.iinc 4 1, 3) := by decide +kernel
theorem d_M_others_39 : decode b_M_others 39 = .ok (.goto (-34), 3) := by decide +kernel
theorem d_M_others_42 : decode b_M_others 42 = .ok (.iload_n 3, 1) := by decide +kernel
theorem d_M_others_43 : decode b_M_others 43 = .ok (.ireturn, 1) := by decide +kernel
theorem d_M_sourceBreaks_0 : decode b_M_sourceBreaks 0 = .ok (.iconst 0, 1) := by decide +kernel
theorem d_M_sourceBreaks_1 : decode b_M_sourceBreaks 1 = .ok (.istore 4, 2) := by decide +kernel
theorem d_M_sourceBreaks_3 : decode b_M_sourceBreaks 3 = .ok (.iload 4, 2) := by decide +kernel
theorem d_M_sourceBreaks_5 : decode b_M_sourceBreaks 5 = .ok (.aload_n 0, 1) := by decide +kernel
theorem d_M_sourceBreaks_6 : decode b_M_sourceBreaks 6 = .ok (.getfield 45, 3) := by decide +kernel
theorem d_M_sourceBreaks_9 : decode b_M_sourceBreaks 9 = .ok (.iload_n 1, 1) := by decide +kernel
theorem d_M_sourceBreaks_10 : decode b_M_sourceBreaks 10 = .ok (.iaload, 1) := by decide +kernel
theorem d_M_sourceBreaks_11 : decode b_M_sourceBreaks 11 = .ok (.if_icmp .ge 95, 3) := by decide +kernel
theorem d_M_sourceBreaks_14 : decode b_M_sourceBreaks 14 = .ok (.aload_n 0, 1) := by decide +kernel
theorem d_M_sourceBreaks_15 : decode b_M_sourceBreaks 15 = .ok (.getfield 48, 3) := by decide +kernel
theorem d_M_sourceBreaks_18 : decode b_M_sourceBreaks 18 = .ok (.bipush 6, 2) := by decide +kernel
theorem d_M_sourceBreaks_20 : decode b_M_sourceBreaks 20 = .ok (.iload_n 1, 1) := by decide +kernel
theorem d_M_sourceBreaks_21 : decode b_M_sourceBreaks 21 = .ok (.imul, 1) := by decide +kernel
theorem d_M_sourceBreaks_22 : decode b_M_sourceBreaks 22 = .ok (.iload 4, 2) := by decide +kernel
theorem d_M_sourceBreaks_24 : decode b_M_sourceBreaks 24 = .ok (.iadd, 1) := by decide +kernel
theorem d_M_sourceBreaks_25 : decode b_M_sourceBreaks 25 = .ok (.iaload, 1) := by decide +kernel
theorem d_M_sourceBreaks_26 : decode b_M_sourceBreaks 26 = .ok (.istore 5, 2) := by decide +kernel
theorem d_M_sourceBreaks_28 : decode b_M_sourceBreaks 28 = .ok (.iload_n 2, 1) := by decide +kernel
theorem d_M_sourceBreaks_29 : decode b_M_sourceBreaks 29 = .ok (.iconst 2, 1) := by decide +kernel
theorem d_M_sourceBreaks_30 : decode b_M_sourceBreaks 30 = .ok (.if_icmp .ne 25, 3) := by decide +kernel
theorem d_M_sourceBreaks_33 : decode b_M_sourceBreaks 33 = .ok (.iload_n 3, 1) := by decide +kernel
theorem d_M_sourceBreaks_34 : decode b_M_sourceBreaks 34 = .ok (.aload_n 0, 1) := by decide +kernel
theorem d_M_sourceBreaks_35 : decode b_M_sourceBreaks 35 = .ok (.getfield 13, 3) := by decide +kernel
theorem d_M_sourceBreaks_38 : decode b_M_sourceBreaks 38 = .ok (.iload 5, 2) := by decide +kernel
theorem d_M_sourceBreaks_40 : decode b_M_sourceBreaks 40 = .ok (.iaload, 1) := by decide +kernel
theorem d_M_sourceBreaks_41 : decode b_M_sourceBreaks 41 = .ok (.ishr, 1) := by decide +kernel
theorem d_M_sourceBreaks_42 : decode b_M_sourceBreaks 42 = .ok (.iconst 1, 1) := by decide +kernel
theorem d_M_sourceBreaks_43 : decode b_M_sourceBreaks 43 = .ok (.iand, 1) := by decide +kernel
theorem d_M_sourceBreaks_44 : decode b_M_sourceBreaks 44 = .ok (.ifCond .ne 7, 3) := by decide +kernel
theorem d_M_sourceBreaks_47 : decode b_M_sourceBreaks 47 = .ok (.iconst 1, 1) := by decide +kernel
theorem d_M_sourceBreaks_48 : decode b_M_sourceBreaks 48 = .ok (.goto 43, 3) := by decide +kernel
theorem d_M_sourceBreaks_51 : decode b_M_sourceBreaks 51 = .ok (.iconst 0, 1) := by decide +kernel
theorem d_M_sourceBreaks_52 : decode b_M_sourceBreaks 52 = .ok (.goto 39, 3) := by decide +kernel
theorem d_M_sourceBreaks_55 : decode b_M_sourceBreaks 55 = .ok (.iload_n 2, 1) := by decide +kernel
theorem d_M_sourceBreaks_56 : decode b_M_sourceBreaks 56 = .ok (.iconst 3, 1) := by decide +kernel
theorem d_M_sourceBreaks_57 : decode b_M_sourceBreaks 57 = .ok (.if_icmp .ne 27, 3) := by decide +kernel
theorem d_M_sourceBreaks_60 : decode b_M_sourceBreaks 60 = .ok (.aload_n 0, 1) := by decide +kernel
theorem d_M_sourceBreaks_61 : decode b_M_sourceBreaks 61 = .ok (.iload 5, 2) := by decide +kernel
theorem d_M_sourceBreaks_63 : decode b_M_sourceBreaks 63 = .ok (.aload_n 0, 1) := by decide +kernel
theorem d_M_sourceBreaks_64 : decode b_M_sourceBreaks 64 = .ok (.getfield 39, 3) := by decide +kernel
theorem d_M_sourceBreaks_67 : decode b_M_sourceBreaks 67 = .ok (.iload_n 1, 1) := by decide +kernel
theorem d_M_sourceBreaks_68 : decode b_M_sourceBreaks 68 = .ok (.iaload, 1) := by decide +kernel
theorem d_M_sourceBreaks_69 : decode b_M_sourceBreaks 69 = .ok (.invokevirtual 123, 3) := by decide +kernel
theorem d_M_sourceBreaks_72 : decode b_M_sourceBreaks 72 = .ok (.iload_n 3, 1) := by decide +kernel
theorem d_M_sourceBreaks_73 : decode b_M_sourceBreaks 73 = .ok (.if_icmp .ge 7, 3) := by decide +kernel
theorem d_M_sourceBreaks_76 : decode b_M_sourceBreaks 76 = .ok (.iconst 1, 1) := by decide +kernel
theorem d_M_sourceBreaks_77 : decode b_M_sourceBreaks 77 = .ok (.goto 14, 3) := by decide +kernel
theorem d_M_sourceBreaks_80 : decode b_M_sourceBreaks 80 = .ok (.iconst 0, 1) := by decide +kernel
theorem d_M_sourceBreaks_81 : decode b_M_sourceBreaks 81 = .ok (.goto 10, 3) := by decide +kernel
theorem d_M_sourceBreaks_84 : decode b_M_sourceBreaks 84 = .ok (.aload_n 0, 1) := by decide +kernel
theorem d_M_sourceBreaks_85 : decode b_M_sourceBreaks 85 = .ok (.getfield 20, 3) := by decide +kernel
theorem d_M_sourceBreaks_88 : decode b_M_sourceBreaks 88 = .ok (.iload 5, 2) := by decide +kernel
theorem d_M_sourceBreaks_90 : decode b_M_sourceBreaks 90 = .ok (.baload, 1) := by decide +kernel
theorem d_M_sourceBreaks_91 : decode b_M_sourceBreaks 91 = .ok (.istore 6, 2) := by decide +kernel
theorem d_M_sourceBreaks_93 : decode b_M_sourceBreaks 93 = .ok (.iload 6, 2) := by decide +kernel
theorem d_M_sourceBreaks_95 : decode b_M_sourceBreaks 95 = .ok (.ifCond .eq 5, 3) := by decide +kernel
theorem d_M_sourceBreaks_98 : decode b_M_sourceBreaks 98 = .ok (.iconst 1, 1) := by decide +kernel
theorem d_M_sourceBreaks_99 : decode b_M_sourceBreaks 99 = .ok (.ireturn, 1) := by decide +kernel
theorem d_M_sourceBreaks_100 : decode b_M_sourceBreaks 100 = .ok (.iinc 4 1, 3) := by decide +kernel
theorem d_M_sourceBreaks_103 : decode b_M_sourceBreaks 103 = .ok (.goto (-100), 3) := by decide +kernel
theorem d_M_sourceBreaks_106 : decode b_M_sourceBreaks 106 = .ok (.iconst 0, 1) := by decide +kernel
theorem d_M_sourceBreaks_107 : decode b_M_sourceBreaks 107 = .ok (.ireturn, 1) := by decide +kernel
theorem d_M_isLate_0 : decode b_M_isLate 0 = .ok (.iconst 0, 1) := by decide +kernel
theorem d_M_isLate_1 : decode b_M_isLate 1 = .ok (.istore_n 3, 1) := by decide +kernel
theorem d_M_isLate_2 : decode b_M_isLate 2 = .ok (.iload_n 3, 1) := by decide +kernel
theorem d_M_isLate_3 : decode b_M_isLate 3 = .ok (.aload_n 0, 1) := by decide +kernel
theorem d_M_isLate_4 : decode b_M_isLate 4 = .ok (.getfield 51, 3) := by decide +kernel
theorem d_M_isLate_7 : decode b_M_isLate 7 = .ok (.iload_n 1, 1) := by decide +kernel
theorem d_M_isLate_8 : decode b_M_isLate 8 = .ok (.iaload, 1) := by decide +kernel
theorem d_M_isLate_9 : decode b_M_isLate 9 = .ok (.if_icmp .ge 52, 3) := by decide +kernel
theorem d_M_isLate_12 : decode b_M_isLate 12 = .ok (.aload_n 0, 1) := by decide +kernel
theorem d_M_isLate_13 : decode b_M_isLate 13 = .ok (.aload_n 0, 1) := by decide +kernel
theorem d_M_isLate_14 : decode b_M_isLate 14 = .ok (.getfield 27, 3) := by decide +kernel
theorem d_M_isLate_17 : decode b_M_isLate 17 = .ok (.bipush 6, 2) := by decide +kernel
theorem d_M_isLate_19 : decode b_M_isLate 19 = .ok (.iload_n 1, 1) := by decide +kernel
theorem d_M_isLate_20 : decode b_M_isLate 20 = .ok (.imul, 1) := by decide +kernel
theorem d_M_isLate_21 : decode b_M_isLate 21 = .ok (.iload_n 3, 1) := by decide +kernel
theorem d_M_isLate_22 : decode b_M_isLate 22 = .ok (.iadd, 1) := by decide +kernel
theorem d_M_isLate_23 : decode b_M_isLate 23 = .ok (.laload, 1) := by decide +kernel
theorem d_M_isLate_24 : decode b_M_isLate 24 = .ok (.invokevirtual 113, 3) := by decide +kernel
theorem d_M_isLate_27 : decode b_M_isLate 27 = .ok (.istore 4, 2) := by decide +kernel
theorem d_M_isLate_29 : decode b_M_isLate 29 = .ok (.iload 4, 2) := by decide +kernel
theorem d_M_isLate_31 : decode b_M_isLate 31 = .ok (.iconst (-1), 1) := by decide +kernel
theorem d_M_isLate_32 : decode b_M_isLate 32 = .ok (.if_icmp .eq 23, 3) := by decide +kernel
theorem d_M_isLate_35 : decode b_M_isLate 35 = .ok (.aload_n 0, 1) := by decide +kernel
theorem d_M_isLate_36 : decode b_M_isLate 36 = .ok (.getfield 42, 3) := by decide +kernel
theorem d_M_isLate_39 : decode b_M_isLate 39 = .ok (.iload 4, 2) := by decide +kernel
theorem d_M_isLate_41 : decode b_M_isLate 41 = .ok (.iaload, 1) := by decide +kernel
theorem d_M_isLate_42 : decode b_M_isLate 42 = .ok (.aload_n 0, 1) := by decide +kernel
theorem d_M_isLate_43 : decode b_M_isLate 43 = .ok (.getfield 42, 3) := by decide +kernel
theorem d_M_isLate_46 : decode b_M_isLate 46 = .ok (.iload_n 1, 1) := by decide +kernel
theorem d_M_isLate_47 : decode b_M_isLate 47 = .ok (.iaload, 1) := by decide +kernel
theorem d_M_isLate_48 : decode b_M_isLate 48 = .ok (.isub, 1) := by decide +kernel
theorem d_M_isLate_49 : decode b_M_isLate 49 = .ok (.iload_n 2, 1) := by decide +kernel
theorem d_M_isLate_50 : decode b_M_isLate 50 = .ok (.if_icmp .le 5, 3) := by decide +kernel
theorem d_M_isLate_53 : decode b_M_isLate 53 = .ok (.iconst 1, 1) := by decide +kernel
theorem d_M_isLate_54 : decode b_M_isLate 54 = .ok (.ireturn, 1) := by decide +kernel
theorem d_M_isLate_55 : decode b_M_isLate 55 = .ok (.iinc 3 1, 3) := by decide +kernel
theorem d_M_isLate_58 : decode b_M_isLate 58 = .ok (.goto (-56), 3) := by decide +kernel
theorem d_M_isLate_61 : decode b_M_isLate 61 = .ok (.iconst 0, 1) := by decide +kernel
theorem d_M_isLate_62 : decode b_M_isLate 62 = .ok (.ireturn, 1) := by decide +kernel
theorem d_M_agree_0 : decode b_M_agree 0 = .ok (.aload_n 0, 1) := by decide +kernel
theorem d_M_agree_1 : decode b_M_agree 1 = .ok (.getfield 33, 3) := by decide +kernel
theorem d_M_agree_4 : decode b_M_agree 4 = .ok (.iload_n 1, 1) := by decide +kernel
theorem d_M_agree_5 : decode b_M_agree 5 = .ok (.iaload, 1) := by decide +kernel
theorem d_M_agree_6 : decode b_M_agree 6 = .ok (.aload_n 0, 1) := by decide +kernel
theorem d_M_agree_7 : decode b_M_agree 7 = .ok (.getfield 33, 3) := by decide +kernel
theorem d_M_agree_10 : decode b_M_agree 10 = .ok (.iload_n 2, 1) := by decide +kernel
theorem d_M_agree_11 : decode b_M_agree 11 = .ok (.iaload, 1) := by decide +kernel
theorem d_M_agree_12 : decode b_M_agree 12 = .ok (.if_icmp .ne 52, 3) := by decide +kernel
theorem d_M_agree_15 : decode b_M_agree 15 = .ok (.aload_n 0, 1) := by decide +kernel
theorem d_M_agree_16 : decode b_M_agree 16 = .ok (.getfield 36, 3) := by decide +kernel
theorem d_M_agree_19 : decode b_M_agree 19 = .ok (.iload_n 1, 1) := by decide +kernel
theorem d_M_agree_20 : decode b_M_agree 20 = .ok (.iaload, 1) := by decide +kernel
theorem d_M_agree_21 : decode b_M_agree 21 = .ok (.aload_n 0, 1) := by decide +kernel
theorem d_M_agree_22 : decode b_M_agree 22 = .ok (.getfield 36, 3) := by decide +kernel
theorem d_M_agree_25 : decode b_M_agree 25 = .ok (.iload_n 2, 1) := by decide +kernel
theorem d_M_agree_26 : decode b_M_agree 26 = .ok (.iaload, 1) := by decide +kernel
theorem d_M_agree_27 : decode b_M_agree 27 = .ok (.if_icmp .ne 37, 3) := by decide +kernel
theorem d_M_agree_30 : decode b_M_agree 30 = .ok (.aload_n 0, 1) := by decide +kernel
theorem d_M_agree_31 : decode b_M_agree 31 = .ok (.getfield 45, 3) := by decide +kernel
theorem d_M_agree_34 : decode b_M_agree 34 = .ok (.iload_n 1, 1) := by decide +kernel
theorem d_M_agree_35 : decode b_M_agree 35 = .ok (.iaload, 1) := by decide +kernel
theorem d_M_agree_36 : decode b_M_agree 36 = .ok (.aload_n 0, 1) := by decide +kernel
theorem d_M_agree_37 : decode b_M_agree 37 = .ok (.getfield 45, 3) := by decide +kernel
theorem d_M_agree_40 : decode b_M_agree 40 = .ok (.iload_n 2, 1) := by decide +kernel
theorem d_M_agree_41 : decode b_M_agree 41 = .ok (.iaload, 1) := by decide +kernel
theorem d_M_agree_42 : decode b_M_agree 42 = .ok (.if_icmp .ne 22, 3) := by decide +kernel
theorem d_M_agree_45 : decode b_M_agree 45 = .ok (.aload_n 0, 1) := by decide +kernel
theorem d_M_agree_46 : decode b_M_agree 46 = .ok (.getfield 51, 3) := by decide +kernel
theorem d_M_agree_49 : decode b_M_agree 49 = .ok (.iload_n 1, 1) := by decide +kernel
theorem d_M_agree_50 : decode b_M_agree 50 = .ok (.iaload, 1) := by decide +kernel
theorem d_M_agree_51 : decode b_M_agree 51 = .ok (.aload_n 0, 1) := by decide +kernel
theorem d_M_agree_52 : decode b_M_agree 52 = .ok (.getfield 51, 3) := by decide +kernel
theorem d_M_agree_55 : decode b_M_agree 55 = .ok (.iload_n 2, 1) := by decide +kernel
theorem d_M_agree_56 : decode b_M_agree 56 = .ok (.iaload, 1) := by decide +kernel
theorem d_M_agree_57 : decode b_M_agree 57 = .ok (.if_icmp .ne 7, 3) := by decide +kernel
theorem d_M_agree_60 : decode b_M_agree 60 = .ok (.iconst 1, 1) := by decide +kernel
theorem d_M_agree_61 : decode b_M_agree 61 = .ok (.goto 4, 3) := by decide +kernel
theorem d_M_agree_64 : decode b_M_agree 64 = .ok (.iconst 0, 1) := by decide +kernel
theorem d_M_agree_65 : decode b_M_agree 65 = .ok (.istore_n 3, 1) := by decide +kernel
theorem d_M_agree_66 : decode b_M_agree 66 = .ok (.iconst 0, 1) := by decide +kernel
theorem d_M_agree_67 : decode b_M_agree 67 = .ok (.istore 4, 2) := by decide +kernel
theorem d_M_agree_69 : decode b_M_agree 69 = .ok (.iload 4, 2) := by decide +kernel
theorem d_M_agree_71 : decode b_M_agree 71 = .ok (.aload_n 0, 1) := by decide +kernel
theorem d_M_agree_72 : decode b_M_agree 72 = .ok (.getfield 45, 3) := by decide +kernel
theorem d_M_agree_75 : decode b_M_agree 75 = .ok (.iload_n 1, 1) := by decide +kernel
theorem d_M_agree_76 : decode b_M_agree 76 = .ok (.iaload, 1) := by decide +kernel
theorem d_M_agree_77 : decode b_M_agree 77 = .ok (.if_icmp .ge 46, 3) := by decide +kernel
theorem d_M_agree_80 : decode b_M_agree 80 = .ok (.iload_n 3, 1) := by decide +kernel
theorem d_M_agree_81 : decode b_M_agree 81 = .ok (.ifCond .eq 42, 3) := by decide +kernel
theorem d_M_agree_84 : decode b_M_agree 84 = .ok (.aload_n 0, 1) := by decide +kernel
theorem d_M_agree_85 : decode b_M_agree 85 = .ok (.getfield 48, 3) := by decide +kernel
theorem d_M_agree_88 : decode b_M_agree 88 = .ok (.bipush 6, 2) := by decide +kernel
theorem d_M_agree_90 : decode b_M_agree 90 = .ok (.iload_n 1, 1) := by decide +kernel
theorem d_M_agree_91 : decode b_M_agree 91 = .ok (.imul, 1) := by decide +kernel
theorem d_M_agree_92 : decode b_M_agree 92 = .ok (.iload 4, 2) := by decide +kernel
theorem d_M_agree_94 : decode b_M_agree 94 = .ok (.iadd, 1) := by decide +kernel
theorem d_M_agree_95 : decode b_M_agree 95 = .ok (.iaload, 1) := by decide +kernel
theorem d_M_agree_96 : decode b_M_agree 96 = .ok (.aload_n 0, 1) := by decide +kernel
theorem d_M_agree_97 : decode b_M_agree 97 = .ok (.getfield 48, 3) := by decide +kernel
theorem d_M_agree_100 : decode b_M_agree 100 = .ok (.bipush 6, 2) := by decide +kernel
theorem d_M_agree_102 : decode b_M_agree 102 = .ok (.iload_n 2, 1) := by decide +kernel
theorem d_M_agree_103 : decode b_M_agree 103 = .ok (.imul, 1) := by decide +kernel
theorem d_M_agree_104 : decode b_M_agree 104 = .ok (.iload 4, 2) := by decide +kernel
theorem d_M_agree_106 : decode b_M_agree 106 = .ok (.iadd, 1) := by decide +kernel
theorem d_M_agree_107 : decode b_M_agree 107 = .ok (.iaload, 1) := by decide +kernel
theorem d_M_agree_108 : decode b_M_agree 108 = .ok (.if_icmp .ne 7, 3) := by decide +kernel
theorem d_M_agree_111 : decode b_M_agree 111 = .ok (.iconst 1, 1) := by decide +kernel
theorem d_M_agree_112 : decode b_M_agree 112 = .ok (.goto 4, 3) := by decide +kernel
theorem d_M_agree_115 : decode b_M_agree 115 = .ok (.iconst 0, 1) := by decide +kernel
theorem d_M_agree_116 : decode b_M_agree 116 = .ok (.istore_n 3, 1) := by decide +kernel
theorem d_M_agree_117 : decode b_M_agree 117 = .ok (.iinc 4 1, 3) := by decide +kernel
theorem d_M_agree_120 : decode b_M_agree 120 = .ok (.goto (-51), 3) := by decide +kernel
theorem d_M_agree_123 : decode b_M_agree 123 = .ok (.iconst 0, 1) := by decide +kernel
theorem d_M_agree_124 : decode b_M_agree 124 = .ok (.istore 4, 2) := by decide +kernel
theorem d_M_agree_126 : decode b_M_agree 126 = .ok (.iload 4, 2) := by decide +kernel
theorem d_M_agree_128 : decode b_M_agree 128 = .ok (.aload_n 0, 1) := by decide +kernel
theorem d_M_agree_129 : decode b_M_agree 129 = .ok (.getfield 51, 3) := by decide +kernel
theorem d_M_agree_132 : decode b_M_agree 132 = .ok (.iload_n 1, 1) := by decide +kernel
theorem d_M_agree_133 : decode b_M_agree 133 = .ok (.iaload, 1) := by decide +kernel
theorem d_M_agree_134 : decode b_M_agree 134 = .ok (.if_icmp .ge 47, 3) := by decide +kernel
theorem d_M_agree_137 : decode b_M_agree 137 = .ok (.iload_n 3, 1) := by decide +kernel
theorem d_M_agree_138 : decode b_M_agree 138 = .ok (.ifCond .eq 43, 3) := by decide +kernel
theorem d_M_agree_141 : decode b_M_agree 141 = .ok (.aload_n 0, 1) := by decide +kernel
theorem d_M_agree_142 : decode b_M_agree 142 = .ok (.getfield 27, 3) := by decide +kernel
theorem d_M_agree_145 : decode b_M_agree 145 = .ok (.bipush 6, 2) := by decide +kernel
theorem d_M_agree_147 : decode b_M_agree 147 = .ok (.iload_n 1, 1) := by decide +kernel
theorem d_M_agree_148 : decode b_M_agree 148 = .ok (.imul, 1) := by decide +kernel
theorem d_M_agree_149 : decode b_M_agree 149 = .ok (.iload 4, 2) := by decide +kernel
theorem d_M_agree_151 : decode b_M_agree 151 = .ok (.iadd, 1) := by decide +kernel
theorem d_M_agree_152 : decode b_M_agree 152 = .ok (.laload, 1) := by decide +kernel
theorem d_M_agree_153 : decode b_M_agree 153 = .ok (.aload_n 0, 1) := by decide +kernel
theorem d_M_agree_154 : decode b_M_agree 154 = .ok (.getfield 27, 3) := by decide +kernel
theorem d_M_agree_157 : decode b_M_agree 157 = .ok (.bipush 6, 2) := by decide +kernel
theorem d_M_agree_159 : decode b_M_agree 159 = .ok (.iload_n 2, 1) := by decide +kernel
theorem d_M_agree_160 : decode b_M_agree 160 = .ok (.imul, 1) := by decide +kernel
theorem d_M_agree_161 : decode b_M_agree 161 = .ok (.iload 4, 2) := by decide +kernel
theorem d_M_agree_163 : decode b_M_agree 163 = .ok (.iadd, 1) := by decide +kernel
theorem d_M_agree_164 : decode b_M_agree 164 = .ok (.laload, 1) := by decide +kernel
theorem d_M_agree_165 : decode b_M_agree 165 = .ok (.lcmp, 1) := by decide +kernel
theorem d_M_agree_166 : decode b_M_agree 166 = .ok (.ifCond .ne 7, 3) := by decide +kernel
theorem d_M_agree_169 : decode b_M_agree 169 = .ok (.iconst 1, 1) := by decide +kernel
theorem d_M_agree_170 : decode b_M_agree 170 = .ok (.goto 4, 3) := by decide +kernel
theorem d_M_agree_173 : decode b_M_agree 173 = .ok (.iconst 0, 1) := by decide +kernel
theorem d_M_agree_174 : decode b_M_agree 174 = .ok (.istore_n 3, 1) := by decide +kernel
theorem d_M_agree_175 : decode b_M_agree 175 = .ok (.iinc 4 1, 3) := by decide +kernel
theorem d_M_agree_178 : decode b_M_agree 178 = .ok (.goto (-52), 3) := by decide +kernel
theorem d_M_agree_181 : decode b_M_agree 181 = .ok (.iload_n 3, 1) := by decide +kernel
theorem d_M_agree_182 : decode b_M_agree 182 = .ok (.ireturn, 1) := by decide +kernel
theorem d_M_isClash_0 : decode b_M_isClash 0 = .ok (.aload_n 0, 1) := by decide +kernel
theorem d_M_isClash_1 : decode b_M_isClash 1 = .ok (.getfield 24, 3) := by decide +kernel
theorem d_M_isClash_4 : decode b_M_isClash 4 = .ok (.iload_n 1, 1) := by decide +kernel
theorem d_M_isClash_5 : decode b_M_isClash 5 = .ok (.laload, 1) := by decide +kernel
theorem d_M_isClash_6 : decode b_M_isClash 6 = .ok (.aload_n 0, 1) := by decide +kernel
theorem d_M_isClash_7 : decode b_M_isClash 7 = .ok (.getfield 24, 3) := by decide +kernel
theorem d_M_isClash_10 : decode b_M_isClash 10 = .ok (.iload_n 2, 1) := by decide +kernel
theorem d_M_isClash_11 : decode b_M_isClash 11 = .ok (.laload, 1) := by decide +kernel
theorem d_M_isClash_12 : decode b_M_isClash 12 = .ok (.lcmp, 1) := by decide +kernel
theorem d_M_isClash_13 : decode b_M_isClash 13 = .ok (.ifCond .ne 16, 3) := by decide +kernel
theorem d_M_isClash_16 : decode b_M_isClash 16 = .ok (.aload_n 0, 1) := by decide +kernel
theorem d_M_isClash_17 : decode b_M_isClash 17 = .ok (.iload_n 1, 1) := by decide +kernel
theorem d_M_isClash_18 : decode b_M_isClash 18 = .ok (.iload_n 2, 1) := by decide +kernel
theorem d_M_isClash_19 : decode b_M_isClash 19 = .ok (.invokevirtual 127, 3) := by decide +kernel
theorem d_M_isClash_22 : decode b_M_isClash 22 = .ok (.ifCond .ne 7, 3) := by decide +kernel
theorem d_M_isClash_25 : decode b_M_isClash 25 = .ok (.iconst 1, 1) := by decide +kernel
theorem d_M_isClash_26 : decode b_M_isClash 26 = .ok (.goto 4, 3) := by decide +kernel
theorem d_M_isClash_29 : decode b_M_isClash 29 = .ok (.iconst 0, 1) := by decide +kernel
theorem d_M_isClash_30 : decode b_M_isClash 30 = .ok (.ireturn, 1) := by decide +kernel
theorem d_M_isBroken_0 : decode b_M_isBroken 0 = .ok (.aload_n 0, 1) := by decide +kernel
theorem d_M_isBroken_1 : decode b_M_isBroken 1 = .ok (.getfield 60, 3) := by decide +kernel
theorem d_M_isBroken_4 : decode b_M_isBroken 4 = .ok (.iload_n 2, 1) := by decide +kernel
theorem d_M_isBroken_5 : decode b_M_isBroken 5 = .ok (.iaload, 1) := by decide +kernel
theorem d_M_isBroken_6 : decode b_M_isBroken 6 = .ok (.istore_n 3, 1) := by decide +kernel
theorem d_M_isBroken_7 : decode b_M_isBroken 7 = .ok (.aload_n 0, 1) := by decide +kernel
theorem d_M_isBroken_8 : decode b_M_isBroken 8 = .ok (.getfield 57, 3) := by decide +kernel
theorem d_M_isBroken_11 : decode b_M_isBroken 11 = .ok (.iload_n 2, 1) := by decide +kernel
theorem d_M_isBroken_12 : decode b_M_isBroken 12 = .ok (.iaload, 1) := by decide +kernel
theorem d_M_isBroken_13 : decode b_M_isBroken 13 = .ok (.tableswitch 205 0 8 #[51, 80, 99, 99, 99, 112, 128, 135, 181], 51) := by decide +kernel
theorem d_M_isBroken_64 : decode b_M_isBroken 64 = .ok (.aload_n 0, 1) := by decide +kernel
theorem d_M_isBroken_65 : decode b_M_isBroken 65 = .ok (.getfield 33, 3) := by decide +kernel
theorem d_M_isBroken_68 : decode b_M_isBroken 68 = .ok (.iload_n 1, 1) := by decide +kernel
theorem d_M_isBroken_69 : decode b_M_isBroken 69 = .ok (.iaload, 1) := by decide +kernel
theorem d_M_isBroken_70 : decode b_M_isBroken 70 = .ok (.iconst (-1), 1) := by decide +kernel
theorem d_M_isBroken_71 : decode b_M_isBroken 71 = .ok (.if_icmp .eq 16, 3) := by decide +kernel
theorem d_M_isBroken_74 : decode b_M_isBroken 74 = .ok (.iload_n 3, 1) := by decide +kernel
theorem d_M_isBroken_75 : decode b_M_isBroken 75 = .ok (.aload_n 0, 1) := by decide +kernel
theorem d_M_isBroken_76 : decode b_M_isBroken 76 = .ok (.getfield 33, 3) := by decide +kernel
theorem d_M_isBroken_79 : decode b_M_isBroken 79 = .ok (.iload_n 1, 1) := by decide +kernel
theorem d_M_isBroken_80 : decode b_M_isBroken 80 = .ok (.iaload, 1) := by decide +kernel
theorem d_M_isBroken_81 : decode b_M_isBroken 81 = .ok (.ishr, 1) := by decide +kernel
theorem d_M_isBroken_82 : decode b_M_isBroken 82 = .ok (.iconst 1, 1) := by decide +kernel
theorem d_M_isBroken_83 : decode b_M_isBroken 83 = .ok (.iand, 1) := by decide +kernel
theorem d_M_isBroken_84 : decode b_M_isBroken 84 = .ok (.ifCond .ne 7, 3) := by decide +kernel
theorem d_M_isBroken_87 : decode b_M_isBroken 87 = .ok (.iconst 1, 1) := by decide +kernel
theorem d_M_isBroken_88 : decode b_M_isBroken 88 = .ok (.goto 4, 3) := by decide +kernel
theorem d_M_isBroken_91 : decode b_M_isBroken 91 = .ok (.iconst 0, 1) := by decide +kernel
theorem d_M_isBroken_92 : decode b_M_isBroken 92 = .ok (.ireturn, 1) := by decide +kernel
theorem d_M_isBroken_93 : decode b_M_isBroken 93 = .ok (.iload_n 3, 1) := by decide +kernel
theorem d_M_isBroken_94 : decode b_M_isBroken 94 = .ok (.aload_n 0, 1) := by decide +kernel
theorem d_M_isBroken_95 : decode b_M_isBroken 95 = .ok (.getfield 36, 3) := by decide +kernel
theorem d_M_isBroken_98 : decode b_M_isBroken 98 = .ok (.iload_n 1, 1) := by decide +kernel
theorem d_M_isBroken_99 : decode b_M_isBroken 99 = .ok (.iaload, 1) := by decide +kernel
theorem d_M_isBroken_100 : decode b_M_isBroken 100 = .ok (.ishr, 1) := by decide +kernel
theorem d_M_isBroken_101 : decode b_M_isBroken 101 = .ok (.iconst 1, 1) := by decide +kernel
theorem d_M_isBroken_102 : decode b_M_isBroken 102 = .ok (.iand, 1) := by decide +kernel
theorem d_M_isBroken_103 : decode b_M_isBroken 103 = .ok (.ifCond .ne 7, 3) := by decide +kernel
theorem d_M_isBroken_106 : decode b_M_isBroken 106 = .ok (.iconst 1, 1) := by decide +kernel
theorem d_M_isBroken_107 : decode b_M_isBroken 107 = .ok (.goto 4, 3) := by decide +kernel
theorem d_M_isBroken_110 : decode b_M_isBroken 110 = .ok (.iconst 0, 1) := by decide +kernel
theorem d_M_isBroken_111 : decode b_M_isBroken 111 = .ok (.ireturn, 1) := by decide +kernel
theorem d_M_isBroken_112 : decode b_M_isBroken 112 = .ok (.aload_n 0, 1) := by decide +kernel
theorem d_M_isBroken_113 : decode b_M_isBroken 113 = .ok (.iload_n 1, 1) := by decide +kernel
theorem d_M_isBroken_114 : decode b_M_isBroken 114 = .ok (.aload_n 0, 1) := by decide +kernel
theorem d_M_isBroken_115 : decode b_M_isBroken 115 = .ok (.getfield 57, 3) := by decide +kernel
theorem d_M_isBroken_118 : decode b_M_isBroken 118 = .ok (.iload_n 2, 1) := by decide +kernel
theorem d_M_isBroken_119 : decode b_M_isBroken 119 = .ok (.iaload, 1) := by decide +kernel
theorem d_M_isBroken_120 : decode b_M_isBroken 120 = .ok (.iload_n 3, 1) := by decide +kernel
theorem d_M_isBroken_121 : decode b_M_isBroken 121 = .ok (.invokevirtual 130, 3) := by decide +kernel
theorem d_M_isBroken_124 : decode b_M_isBroken 124 = .ok (.ireturn, 1) := by decide +kernel
theorem d_M_isBroken_125 : decode b_M_isBroken 125 = .ok (.aload_n 0, 1) := by decide +kernel
theorem d_M_isBroken_126 : decode b_M_isBroken 126 = .ok (.iload_n 1, 1) := by decide +kernel
theorem d_M_isBroken_127 : decode b_M_isBroken 127 = .ok (.iconst 0, 1) := by decide +kernel
theorem d_M_isBroken_128 : decode b_M_isBroken 128 = .ok (.invokevirtual 133, 3) := by decide +kernel
theorem d_M_isBroken_131 : decode b_M_isBroken 131 = .ok (.iconst (-1), 1) := by decide +kernel
theorem d_M_isBroken_132 : decode b_M_isBroken 132 = .ok (.if_icmp .eq 7, 3) := by decide +kernel
theorem d_M_isBroken_135 : decode b_M_isBroken 135 = .ok (.iconst 1, 1) := by decide +kernel
theorem d_M_isBroken_136 : decode b_M_isBroken 136 = .ok (.goto 4, 3) := by decide +kernel
theorem d_M_isBroken_139 : decode b_M_isBroken 139 = .ok (.iconst 0, 1) := by decide +kernel
theorem d_M_isBroken_140 : decode b_M_isBroken 140 = .ok (.ireturn, 1) := by decide +kernel
theorem d_M_isBroken_141 : decode b_M_isBroken 141 = .ok (.aload_n 0, 1) := by decide +kernel
theorem d_M_isBroken_142 : decode b_M_isBroken 142 = .ok (.iload_n 1, 1) := by decide +kernel
theorem d_M_isBroken_143 : decode b_M_isBroken 143 = .ok (.iload_n 3, 1) := by decide +kernel
theorem d_M_isBroken_144 : decode b_M_isBroken 144 = .ok (.invokevirtual 136, 3) := by decide +kernel
theorem d_M_isBroken_147 : decode b_M_isBroken 147 = .ok (.ireturn, 1) := by decide +kernel
theorem d_M_isBroken_148 : decode b_M_isBroken 148 = .ok (.iconst 0, 1) := by decide +kernel
theorem d_M_isBroken_149 : decode b_M_isBroken 149 = .ok (.istore 4, 2) := by decide +kernel
theorem d_M_isBroken_151 : decode b_M_isBroken 151 = .ok (.iconst 0, 1) := by decide +kernel
theorem d_M_isBroken_152 : decode b_M_isBroken 152 = .ok (.istore 5, 2) := by decide +kernel
theorem d_M_isBroken_154 : decode b_M_isBroken 154 = .ok (.iload 5, 2) := by decide +kernel
theorem d_M_isBroken_156 : decode b_M_isBroken 156 = .ok (.aload_n 0, 1) := by decide +kernel
theorem d_M_isBroken_157 : decode b_M_isBroken 157 = .ok (.getfield 76, 3) := by decide +kernel
theorem d_M_isBroken_160 : decode b_M_isBroken 160 = .ok (.if_icmp .ge 31, 3) := by decide +kernel
theorem d_M_isBroken_163 : decode b_M_isBroken 163 = .ok (.iload 4, 2) := by decide +kernel
theorem d_M_isBroken_165 : decode b_M_isBroken 165 = .ok (.ifCond .ne 13, 3) := by decide +kernel
theorem d_M_isBroken_168 : decode b_M_isBroken 168 = .ok (.aload_n 0, 1) := by decide +kernel
theorem d_M_isBroken_169 : decode b_M_isBroken 169 = .ok (.iload_n 1, 1) := by decide +kernel
theorem d_M_isBroken_170 : decode b_M_isBroken 170 = .ok (.iload 5, 2) := by decide +kernel
theorem d_M_isBroken_172 : decode b_M_isBroken 172 = .ok (.invokevirtual 139, 3) := by decide +kernel
theorem d_M_isBroken_175 : decode b_M_isBroken 175 = .ok (.ifCond .eq 7, 3) := by decide +kernel
theorem d_M_isBroken_178 : decode b_M_isBroken 178 = .ok (.iconst 1, 1) := by decide +kernel
theorem d_M_isBroken_179 : decode b_M_isBroken 179 = .ok (.goto 4, 3) := by decide +kernel
theorem d_M_isBroken_182 : decode b_M_isBroken 182 = .ok (.iconst 0, 1) := by decide +kernel
theorem d_M_isBroken_183 : decode b_M_isBroken 183 = .ok (.istore 4, 2) := by decide +kernel
theorem d_M_isBroken_185 : decode b_M_isBroken 185 = .ok (.iinc 5 1, 3) := by decide +kernel
theorem d_M_isBroken_188 : decode b_M_isBroken 188 = .ok (.goto (-34), 3) := by decide +kernel
theorem d_M_isBroken_191 : decode b_M_isBroken 191 = .ok (.iload 4, 2) := by decide +kernel
theorem d_M_isBroken_193 : decode b_M_isBroken 193 = .ok (.ireturn, 1) := by decide +kernel
theorem d_M_isBroken_194 : decode b_M_isBroken 194 = .ok (.aload_n 0, 1) := by decide +kernel
theorem d_M_isBroken_195 : decode b_M_isBroken 195 = .ok (.getfield 45, 3) := by decide +kernel
theorem d_M_isBroken_198 : decode b_M_isBroken 198 = .ok (.iload_n 1, 1) := by decide +kernel
theorem d_M_isBroken_199 : decode b_M_isBroken 199 = .ok (.iaload, 1) := by decide +kernel
theorem d_M_isBroken_200 : decode b_M_isBroken 200 = .ok (.ifCond .ne 16, 3) := by decide +kernel
theorem d_M_isBroken_203 : decode b_M_isBroken 203 = .ok (.aload_n 0, 1) := by decide +kernel
theorem d_M_isBroken_204 : decode b_M_isBroken 204 = .ok (.getfield 51, 3) := by decide +kernel
theorem d_M_isBroken_207 : decode b_M_isBroken 207 = .ok (.iload_n 1, 1) := by decide +kernel
theorem d_M_isBroken_208 : decode b_M_isBroken 208 = .ok (.iaload, 1) := by decide +kernel
theorem d_M_isBroken_209 : decode b_M_isBroken 209 = .ok (.ifCond .ne 7, 3) := by decide +kernel
theorem d_M_isBroken_212 : decode b_M_isBroken 212 = .ok (.iconst 1, 1) := by decide +kernel
theorem d_M_isBroken_213 : decode b_M_isBroken 213 = .ok (.goto 4, 3) := by decide +kernel
theorem d_M_isBroken_216 : decode b_M_isBroken 216 = .ok (.iconst 0, 1) := by decide +kernel
theorem d_M_isBroken_217 : decode b_M_isBroken 217 = .ok (.ireturn, 1) := by decide +kernel
theorem d_M_isBroken_218 : decode b_M_isBroken 218 = .ok (.aload_n 0, 1) := by decide +kernel
theorem d_M_isBroken_219 : decode b_M_isBroken 219 = .ok (.iload_n 1, 1) := by decide +kernel
theorem d_M_isBroken_220 : decode b_M_isBroken 220 = .ok (.invokevirtual 117, 3) := by decide +kernel
theorem d_M_isBroken_223 : decode b_M_isBroken 223 = .ok (.aload_n 0, 1) := by decide +kernel
theorem d_M_isBroken_224 : decode b_M_isBroken 224 = .ok (.getfield 106, 3) := by decide +kernel
theorem d_M_isBroken_227 : decode b_M_isBroken 227 = .ok (.iload_n 3, 1) := by decide +kernel
theorem d_M_isBroken_228 : decode b_M_isBroken 228 = .ok (.if_icmp .le 7, 3) := by decide +kernel
theorem d_M_isBroken_231 : decode b_M_isBroken 231 = .ok (.iconst 1, 1) := by decide +kernel
theorem d_M_isBroken_232 : decode b_M_isBroken 232 = .ok (.goto 4, 3) := by decide +kernel
theorem d_M_isBroken_235 : decode b_M_isBroken 235 = .ok (.iconst 0, 1) := by decide +kernel
theorem d_M_isBroken_236 : decode b_M_isBroken 236 = .ok (.ireturn, 1) := by decide +kernel
theorem d_M_breaks_0 : decode b_M_breaks 0 = .ok (.aload_n 0, 1) := by decide +kernel
theorem d_M_breaks_1 : decode b_M_breaks 1 = .ok (.iload_n 1, 1) := by decide +kernel
theorem d_M_breaks_2 : decode b_M_breaks 2 = .ok (.invokevirtual 92, 3) := by decide +kernel
theorem d_M_breaks_5 : decode b_M_breaks 5 = .ok (.ifCond .eq 28, 3) := by decide +kernel
theorem d_M_breaks_8 : decode b_M_breaks 8 = .ok (.iload_n 2, 1) := by decide +kernel
theorem d_M_breaks_9 : decode b_M_breaks 9 = .ok (.ifCond .lt 24, 3) := by decide +kernel
theorem d_M_breaks_12 : decode b_M_breaks 12 = .ok (.iload_n 2, 1) := by decide +kernel
theorem d_M_breaks_13 : decode b_M_breaks 13 = .ok (.aload_n 0, 1) := by decide +kernel
theorem d_M_breaks_14 : decode b_M_breaks 14 = .ok (.getfield 103, 3) := by decide +kernel
theorem d_M_breaks_17 : decode b_M_breaks 17 = .ok (.if_icmp .ge 16, 3) := by decide +kernel
theorem d_M_breaks_20 : decode b_M_breaks 20 = .ok (.aload_n 0, 1) := by decide +kernel
theorem d_M_breaks_21 : decode b_M_breaks 21 = .ok (.iload_n 1, 1) := by decide +kernel
theorem d_M_breaks_22 : decode b_M_breaks 22 = .ok (.iload_n 2, 1) := by decide +kernel
theorem d_M_breaks_23 : decode b_M_breaks 23 = .ok (.invokevirtual 142, 3) := by decide +kernel
theorem d_M_breaks_26 : decode b_M_breaks 26 = .ok (.ifCond .eq 7, 3) := by decide +kernel
theorem d_M_breaks_29 : decode b_M_breaks 29 = .ok (.iconst 1, 1) := by decide +kernel
theorem d_M_breaks_30 : decode b_M_breaks 30 = .ok (.goto 4, 3) := by decide +kernel
theorem d_M_breaks_33 : decode b_M_breaks 33 = .ok (.iconst 0, 1) := by decide +kernel
theorem d_M_breaks_34 : decode b_M_breaks 34 = .ok (.ireturn, 1) := by decide +kernel
theorem d_M_verdict_0 : decode b_M_verdict 0 = .ok (.aload_n 0, 1) := by decide +kernel
theorem d_M_verdict_1 : decode b_M_verdict 1 = .ok (.iload_n 1, 1) := by decide +kernel
theorem d_M_verdict_2 : decode b_M_verdict 2 = .ok (.invokevirtual 92, 3) := by decide +kernel
theorem d_M_verdict_5 : decode b_M_verdict 5 = .ok (.ifCond .ne 6, 3) := by decide +kernel
theorem d_M_verdict_8 : decode b_M_verdict 8 = .ok (.bipush (-2), 2) := by decide +kernel
theorem d_M_verdict_10 : decode b_M_verdict 10 = .ok (.ireturn, 1) := by decide +kernel
theorem d_M_verdict_11 : decode b_M_verdict 11 = .ok (.aload_n 0, 1) := by decide +kernel
theorem d_M_verdict_12 : decode b_M_verdict 12 = .ok (.iload_n 1, 1) := by decide +kernel
theorem d_M_verdict_13 : decode b_M_verdict 13 = .ok (.invokevirtual 117, 3) := by decide +kernel
theorem d_M_verdict_16 : decode b_M_verdict 16 = .ok (.aload_n 0, 1) := by decide +kernel
theorem d_M_verdict_17 : decode b_M_verdict 17 = .ok (.aload_n 0, 1) := by decide +kernel
theorem d_M_verdict_18 : decode b_M_verdict 18 = .ok (.getfield 106, 3) := by decide +kernel
theorem d_M_verdict_21 : decode b_M_verdict 21 = .ok (.putfield 145, 3) := by decide +kernel
theorem d_M_verdict_24 : decode b_M_verdict 24 = .ok (.iconst 0, 1) := by decide +kernel
theorem d_M_verdict_25 : decode b_M_verdict 25 = .ok (.istore_n 2, 1) := by decide +kernel
theorem d_M_verdict_26 : decode b_M_verdict 26 = .ok (.iload_n 2, 1) := by decide +kernel
theorem d_M_verdict_27 : decode b_M_verdict 27 = .ok (.aload_n 0, 1) := by decide +kernel
theorem d_M_verdict_28 : decode b_M_verdict 28 = .ok (.getfield 145, 3) := by decide +kernel
theorem d_M_verdict_31 : decode b_M_verdict 31 = .ok (.if_icmp .ge 21, 3) := by decide +kernel
theorem d_M_verdict_34 : decode b_M_verdict 34 = .ok (.aload_n 0, 1) := by decide +kernel
theorem d_M_verdict_35 : decode b_M_verdict 35 = .ok (.getfield 70, 3) := by decide +kernel
theorem d_M_verdict_38 : decode b_M_verdict 38 = .ok (.iload_n 2, 1) := by decide +kernel
theorem d_M_verdict_39 : decode b_M_verdict 39 = .ok (.aload_n 0, 1) := by decide +kernel
theorem d_M_verdict_40 : decode b_M_verdict 40 = .ok (.getfield 67, 3) := by decide +kernel
theorem d_M_verdict_43 : decode b_M_verdict 43 = .ok (.iload_n 2, 1) := by decide +kernel
theorem d_M_verdict_44 : decode b_M_verdict 44 = .ok (.iaload, 1) := by decide +kernel
theorem d_M_verdict_45 : decode b_M_verdict 45 = .ok (.iastore, 1) := by decide +kernel
theorem d_M_verdict_46 : decode b_M_verdict 46 = .ok (.iinc 2 1, 3) := by decide +kernel
theorem d_M_verdict_49 : decode b_M_verdict 49 = .ok (.goto (-23), 3) := by decide +kernel
theorem d_M_verdict_52 : decode b_M_verdict 52 = .ok (.iconst 0, 1) := by decide +kernel
theorem d_M_verdict_53 : decode b_M_verdict 53 = .ok (.istore_n 2, 1) := by decide +kernel
theorem d_M_verdict_54 : decode b_M_verdict 54 = .ok (.iload_n 2, 1) := by decide +kernel
theorem d_M_verdict_55 : decode b_M_verdict 55 = .ok (.aload_n 0, 1) := by decide +kernel
theorem d_M_verdict_56 : decode b_M_verdict 56 = .ok (.getfield 145, 3) := by decide +kernel
theorem d_M_verdict_59 : decode b_M_verdict 59 = .ok (.if_icmp .ge 54, 3) := by decide +kernel
theorem d_M_verdict_62 : decode b_M_verdict 62 = .ok (.iconst 0, 1) := by decide +kernel
theorem d_M_verdict_63 : decode b_M_verdict 63 = .ok (.istore_n 3, 1) := by decide +kernel
theorem d_M_verdict_64 : decode b_M_verdict 64 = .ok (.iload_n 3, 1) := by decide +kernel
theorem d_M_verdict_65 : decode b_M_verdict 65 = .ok (.aload_n 0, 1) := by decide +kernel
theorem d_M_verdict_66 : decode b_M_verdict 66 = .ok (.getfield 103, 3) := by decide +kernel
theorem d_M_verdict_69 : decode b_M_verdict 69 = .ok (.if_icmp .ge 38, 3) := by decide +kernel
theorem d_M_verdict_72 : decode b_M_verdict 72 = .ok (.aload_n 0, 1) := by decide +kernel
theorem d_M_verdict_73 : decode b_M_verdict 73 = .ok (.aload_n 0, 1) := by decide +kernel
theorem d_M_verdict_74 : decode b_M_verdict 74 = .ok (.getfield 70, 3) := by decide +kernel
theorem d_M_verdict_77 : decode b_M_verdict 77 = .ok (.iload_n 2, 1) := by decide +kernel
theorem d_M_verdict_78 : decode b_M_verdict 78 = .ok (.iaload, 1) := by decide +kernel
theorem d_M_verdict_79 : decode b_M_verdict 79 = .ok (.iload_n 3, 1) := by decide +kernel
theorem d_M_verdict_80 : decode b_M_verdict 80 = .ok (.invokevirtual 142, 3) := by decide +kernel
theorem d_M_verdict_83 : decode b_M_verdict 83 = .ok (.ifCond .ne 6, 3) := by decide +kernel
theorem d_M_verdict_86 : decode b_M_verdict 86 = .ok (.goto 15, 3) := by decide +kernel
theorem d_M_verdict_89 : decode b_M_verdict 89 = .ok (.aload_n 0, 1) := by decide +kernel
theorem d_M_verdict_90 : decode b_M_verdict 90 = .ok (.aload_n 0, 1) := by decide +kernel
theorem d_M_verdict_91 : decode b_M_verdict 91 = .ok (.getfield 70, 3) := by decide +kernel
theorem d_M_verdict_94 : decode b_M_verdict 94 = .ok (.iload_n 2, 1) := by decide +kernel
theorem d_M_verdict_95 : decode b_M_verdict 95 = .ok (.iaload, 1) := by decide +kernel
theorem d_M_verdict_96 : decode b_M_verdict 96 = .ok (.putfield 63, 3) := by decide +kernel
theorem d_M_verdict_99 : decode b_M_verdict 99 = .ok (.iload_n 3, 1) := by decide +kernel
theorem d_M_verdict_100 : decode b_M_verdict 100 = .ok (.ireturn, 1) := by decide +kernel
theorem d_M_verdict_101 : decode b_M_verdict 101 = .ok (.iinc 3 1, 3) := by decide +kernel
theorem d_M_verdict_104 : decode b_M_verdict 104 = .ok (.goto (-40), 3) := by decide +kernel
theorem d_M_verdict_107 : decode b_M_verdict 107 = .ok (.iinc 2 1, 3) := by decide +kernel
theorem d_M_verdict_110 : decode b_M_verdict 110 = .ok (.goto (-56), 3) := by decide +kernel
theorem d_M_verdict_113 : decode b_M_verdict 113 = .ok (.iconst (-1), 1) := by decide +kernel
theorem d_M_verdict_114 : decode b_M_verdict 114 = .ok (.ireturn, 1) := by decide +kernel
theorem d_M_culprit_0 : decode b_M_culprit 0 = .ok (.aload_n 0, 1) := by decide +kernel
theorem d_M_culprit_1 : decode b_M_culprit 1 = .ok (.getfield 63, 3) := by decide +kernel
theorem d_M_culprit_4 : decode b_M_culprit 4 = .ok (.ireturn, 1) := by decide +kernel
theorem d_M_rebuilt_0 : decode b_M_rebuilt 0 = .ok (.aload_n 0, 1) := by decide +kernel
theorem d_M_rebuilt_1 : decode b_M_rebuilt 1 = .ok (.iload_n 1, 1) := by decide +kernel
theorem d_M_rebuilt_2 : decode b_M_rebuilt 2 = .ok (.invokevirtual 92, 3) := by decide +kernel
theorem d_M_rebuilt_5 : decode b_M_rebuilt 5 = .ok (.ifCond .eq 11, 3) := by decide +kernel
theorem d_M_rebuilt_8 : decode b_M_rebuilt 8 = .ok (.aload_n 0, 1) := by decide +kernel
theorem d_M_rebuilt_9 : decode b_M_rebuilt 9 = .ok (.iload_n 2, 1) := by decide +kernel
theorem d_M_rebuilt_10 : decode b_M_rebuilt 10 = .ok (.invokevirtual 92, 3) := by decide +kernel
theorem d_M_rebuilt_13 : decode b_M_rebuilt 13 = .ok (.ifCond .ne 5, 3) := by decide +kernel
theorem d_M_rebuilt_16 : decode b_M_rebuilt 16 = .ok (.iconst (-1), 1) := by decide +kernel
theorem d_M_rebuilt_17 : decode b_M_rebuilt 17 = .ok (.ireturn, 1) := by decide +kernel
theorem d_M_rebuilt_18 : decode b_M_rebuilt 18 = .ok (.iconst 0, 1) := by decide +kernel
theorem d_M_rebuilt_19 : decode b_M_rebuilt 19 = .ok (.istore_n 3, 1) := by decide +kernel
theorem d_M_rebuilt_20 : decode b_M_rebuilt 20 = .ok (.iconst 0, 1) := by decide +kernel
theorem d_M_rebuilt_21 : decode b_M_rebuilt 21 = .ok (.istore 4, 2) := by decide +kernel
theorem d_M_rebuilt_23 : decode b_M_rebuilt 23 = .ok (.iload 4, 2) := by decide +kernel
theorem d_M_rebuilt_25 : decode b_M_rebuilt 25 = .ok (.bipush 8, 2) := by decide +kernel
theorem d_M_rebuilt_27 : decode b_M_rebuilt 27 = .ok (.if_icmp .ge 100, 3) := by decide +kernel
theorem d_M_rebuilt_30 : decode b_M_rebuilt 30 = .ok (.aload_n 0, 1) := by decide +kernel
theorem d_M_rebuilt_31 : decode b_M_rebuilt 31 = .ok (.getfield 54, 3) := by decide +kernel
theorem d_M_rebuilt_34 : decode b_M_rebuilt 34 = .ok (.iload_n 1, 1) := by decide +kernel
theorem d_M_rebuilt_35 : decode b_M_rebuilt 35 = .ok (.iaload, 1) := by decide +kernel
theorem d_M_rebuilt_36 : decode b_M_rebuilt 36 = .ok (.iload 4, 2) := by decide +kernel
theorem d_M_rebuilt_38 : decode b_M_rebuilt 38 = .ok (.ishr, 1) := by decide +kernel
theorem d_M_rebuilt_39 : decode b_M_rebuilt 39 = .ok (.iconst 1, 1) := by decide +kernel
theorem d_M_rebuilt_40 : decode b_M_rebuilt 40 = .ok (.iand, 1) := by decide +kernel
theorem d_M_rebuilt_41 : decode b_M_rebuilt 41 = .ok (.iconst 1, 1) := by decide +kernel
theorem d_M_rebuilt_42 : decode b_M_rebuilt 42 = .ok (.if_icmp .ne 7, 3) := by decide +kernel
theorem d_M_rebuilt_45 : decode b_M_rebuilt 45 = .ok (.iconst 1, 1) := by decide +kernel
theorem d_M_rebuilt_46 : decode b_M_rebuilt 46 = .ok (.goto 4, 3) := by decide +kernel
theorem d_M_rebuilt_49 : decode b_M_rebuilt 49 = .ok (.iconst 0, 1) := by decide +kernel
theorem d_M_rebuilt_50 : decode b_M_rebuilt 50 = .ok (.istore 5, 2) := by decide +kernel
theorem d_M_rebuilt_52 : decode b_M_rebuilt 52 = .ok (.aload_n 0, 1) := by decide +kernel
theorem d_M_rebuilt_53 : decode b_M_rebuilt 53 = .ok (.getfield 54, 3) := by decide +kernel
theorem d_M_rebuilt_56 : decode b_M_rebuilt 56 = .ok (.iload_n 2, 1) := by decide +kernel
theorem d_M_rebuilt_57 : decode b_M_rebuilt 57 = .ok (.iaload, 1) := by decide +kernel
theorem d_M_rebuilt_58 : decode b_M_rebuilt 58 = .ok (.iload 4, 2) := by decide +kernel
theorem d_M_rebuilt_60 : decode b_M_rebuilt 60 = .ok (.ishr, 1) := by decide +kernel
theorem d_M_rebuilt_61 : decode b_M_rebuilt 61 = .ok (.iconst 1, 1) := by decide +kernel
theorem d_M_rebuilt_62 : decode b_M_rebuilt 62 = .ok (.iand, 1) := by decide +kernel
theorem d_M_rebuilt_63 : decode b_M_rebuilt 63 = .ok (.iconst 1, 1) := by decide +kernel
theorem d_M_rebuilt_64 : decode b_M_rebuilt 64 = .ok (.if_icmp .ne 7, 3) := by decide +kernel
theorem d_M_rebuilt_67 : decode b_M_rebuilt 67 = .ok (.iconst 1, 1) := by decide +kernel
theorem d_M_rebuilt_68 : decode b_M_rebuilt 68 = .ok (.goto 4, 3) := by decide +kernel
theorem d_M_rebuilt_71 : decode b_M_rebuilt 71 = .ok (.iconst 0, 1) := by decide +kernel
theorem d_M_rebuilt_72 : decode b_M_rebuilt 72 = .ok (.istore 6, 2) := by decide +kernel
theorem d_M_rebuilt_74 : decode b_M_rebuilt 74 = .ok (.iload 5, 2) := by decide +kernel
theorem d_M_rebuilt_76 : decode b_M_rebuilt 76 = .ok (.iload 6, 2) := by decide +kernel
theorem d_M_rebuilt_78 : decode b_M_rebuilt 78 = .ok (.if_icmp .ne 36, 3) := by decide +kernel
theorem d_M_rebuilt_81 : decode b_M_rebuilt 81 = .ok (.iload 5, 2) := by decide +kernel
theorem d_M_rebuilt_83 : decode b_M_rebuilt 83 = .ok (.ifCond .eq 38, 3) := by decide +kernel
theorem d_M_rebuilt_86 : decode b_M_rebuilt 86 = .ok (.aload_n 0, 1) := by decide +kernel
theorem d_M_rebuilt_87 : decode b_M_rebuilt 87 = .ok (.getfield 30, 3) := by decide +kernel
theorem d_M_rebuilt_90 : decode b_M_rebuilt 90 = .ok (.bipush 8, 2) := by decide +kernel
theorem d_M_rebuilt_92 : decode b_M_rebuilt 92 = .ok (.iload_n 1, 1) := by decide +kernel
theorem d_M_rebuilt_93 : decode b_M_rebuilt 93 = .ok (.imul, 1) := by decide +kernel
theorem d_M_rebuilt_94 : decode b_M_rebuilt 94 = .ok (.iload 4, 2) := by decide +kernel
theorem d_M_rebuilt_96 : decode b_M_rebuilt 96 = .ok (.iadd, 1) := by decide +kernel
theorem d_M_rebuilt_97 : decode b_M_rebuilt 97 = .ok (.laload, 1) := by decide +kernel
theorem d_M_rebuilt_98 : decode b_M_rebuilt 98 = .ok (.aload_n 0, 1) := by decide +kernel
theorem d_M_rebuilt_99 : decode b_M_rebuilt 99 = .ok (.getfield 30, 3) := by decide +kernel
theorem d_M_rebuilt_102 : decode b_M_rebuilt 102 = .ok (.bipush 8, 2) := by decide +kernel
theorem d_M_rebuilt_104 : decode b_M_rebuilt 104 = .ok (.iload_n 2, 1) := by decide +kernel
theorem d_M_rebuilt_105 : decode b_M_rebuilt 105 = .ok (.imul, 1) := by decide +kernel
theorem d_M_rebuilt_106 : decode b_M_rebuilt 106 = .ok (.iload 4, 2) := by decide +kernel
theorem d_M_rebuilt_108 : decode b_M_rebuilt 108 = .ok (.iadd, 1) := by decide +kernel
theorem d_M_rebuilt_109 : decode b_M_rebuilt 109 = .ok (.laload, 1) := by decide +kernel
theorem d_M_rebuilt_110 : decode b_M_rebuilt 110 = .ok (.lcmp, 1) := by decide +kernel
theorem d_M_rebuilt_111 : decode b_M_rebuilt 111 = .ok (.ifCond .eq 10, 3) := by decide +kernel
theorem d_M_rebuilt_114 : decode b_M_rebuilt 114 = .ok (.iload_n 3, 1) := by decide +kernel
theorem d_M_rebuilt_115 : decode b_M_rebuilt 115 = .ok (.iconst 1, 1) := by decide +kernel
theorem d_M_rebuilt_116 : decode b_M_rebuilt 116 = .ok (.iload 4, 2) := by decide +kernel
theorem d_M_rebuilt_118 : decode b_M_rebuilt 118 = .ok (.ishl, 1) := by decide +kernel
theorem d_M_rebuilt_119 : decode b_M_rebuilt 119 = .ok (.ior, 1) := by decide +kernel
theorem d_M_rebuilt_120 : decode b_M_rebuilt 120 = .ok (.istore_n 3, 1) := by decide +kernel
theorem d_M_rebuilt_121 : decode b_M_rebuilt 121 = .ok (.iinc 4 1, 3) := by decide +kernel
theorem d_M_rebuilt_124 : decode b_M_rebuilt 124 = .ok (.goto (-101), 3) := by decide +kernel
theorem d_M_rebuilt_127 : decode b_M_rebuilt 127 = .ok (.iload_n 3, 1) := by decide +kernel
theorem d_M_rebuilt_128 : decode b_M_rebuilt 128 = .ok (.ireturn, 1) := by decide +kernel
theorem d_M_sameSources_0 : decode b_M_sameSources 0 = .ok (.aload_n 0, 1) := by decide +kernel
theorem d_M_sameSources_1 : decode b_M_sameSources 1 = .ok (.getfield 45, 3) := by decide +kernel
theorem d_M_sameSources_4 : decode b_M_sameSources 4 = .ok (.iload_n 1, 1) := by decide +kernel
theorem d_M_sameSources_5 : decode b_M_sameSources 5 = .ok (.iaload, 1) := by decide +kernel
theorem d_M_sameSources_6 : decode b_M_sameSources 6 = .ok (.aload_n 0, 1) := by decide +kernel
theorem d_M_sameSources_7 : decode b_M_sameSources 7 = .ok (.getfield 45, 3) := by decide +kernel
theorem d_M_sameSources_10 : decode b_M_sameSources 10 = .ok (.iload_n 2, 1) := by decide +kernel
theorem d_M_sameSources_11 : decode b_M_sameSources 11 = .ok (.iaload, 1) := by decide +kernel
theorem d_M_sameSources_12 : decode b_M_sameSources 12 = .ok (.if_icmp .ne 7, 3) := by decide +kernel
theorem d_M_sameSources_15 : decode b_M_sameSources 15 = .ok (.iconst 1, 1) := by decide +kernel
theorem d_M_sameSources_16 : decode b_M_sameSources 16 = .ok (.goto 4, 3) := by decide +kernel
theorem d_M_sameSources_19 : decode b_M_sameSources 19 = .ok (.iconst 0, 1) := by decide +kernel
theorem d_M_sameSources_20 : decode b_M_sameSources 20 = .ok (.istore_n 3, 1) := by decide +kernel
theorem d_M_sameSources_21 : decode b_M_sameSources 21 = .ok (.iconst 0, 1) := by decide +kernel
theorem d_M_sameSources_22 : decode b_M_sameSources 22 = .ok (.istore 4, 2) := by decide +kernel
theorem d_M_sameSources_24 : decode b_M_sameSources 24 = .ok (.iload 4, 2) := by decide +kernel
theorem d_M_sameSources_26 : decode b_M_sameSources 26 = .ok (.aload_n 0, 1) := by decide +kernel
theorem d_M_sameSources_27 : decode b_M_sameSources 27 = .ok (.getfield 45, 3) := by decide +kernel
theorem d_M_sameSources_30 : decode b_M_sameSources 30 = .ok (.iload_n 1, 1) := by decide +kernel
theorem d_M_sameSources_31 : decode b_M_sameSources 31 = .ok (.iaload, 1) := by decide +kernel
theorem d_M_sameSources_32 : decode b_M_sameSources 32 = .ok (.if_icmp .ge 31, 3) := by decide +kernel
theorem d_M_sameSources_35 : decode b_M_sameSources 35 = .ok (.iload_n 3, 1) := by decide +kernel
theorem d_M_sameSources_36 : decode b_M_sameSources 36 = .ok (.ifCond .eq 27, 3) := by decide +kernel
theorem d_M_sameSources_39 : decode b_M_sameSources 39 = .ok (.aload_n 0, 1) := by decide +kernel
theorem d_M_sameSources_40 : decode b_M_sameSources 40 = .ok (.iload_n 2, 1) := by decide +kernel
theorem d_M_sameSources_41 : decode b_M_sameSources 41 = .ok (.aload_n 0, 1) := by decide +kernel
theorem d_M_sameSources_42 : decode b_M_sameSources 42 = .ok (.getfield 48, 3) := by decide +kernel
theorem d_M_sameSources_45 : decode b_M_sameSources 45 = .ok (.bipush 6, 2) := by decide +kernel
theorem d_M_sameSources_47 : decode b_M_sameSources 47 = .ok (.iload_n 1, 1) := by decide +kernel
theorem d_M_sameSources_48 : decode b_M_sameSources 48 = .ok (.imul, 1) := by decide +kernel
theorem d_M_sameSources_49 : decode b_M_sameSources 49 = .ok (.iload 4, 2) := by decide +kernel
theorem d_M_sameSources_51 : decode b_M_sameSources 51 = .ok (.iadd, 1) := by decide +kernel
theorem d_M_sameSources_52 : decode b_M_sameSources 52 = .ok (.iaload, 1) := by decide +kernel
theorem d_M_sameSources_53 : decode b_M_sameSources 53 = .ok (.invokevirtual 95, 3) := by decide +kernel
theorem d_M_sameSources_56 : decode b_M_sameSources 56 = .ok (.istore_n 3, 1) := by decide +kernel
theorem d_M_sameSources_57 : decode b_M_sameSources 57 = .ok (.iinc 4 1, 3) := by decide +kernel
theorem d_M_sameSources_60 : decode b_M_sameSources 60 = .ok (.goto (-36), 3) := by decide +kernel
theorem d_M_sameSources_63 : decode b_M_sameSources 63 = .ok (.iload_n 3, 1) := by decide +kernel
theorem d_M_sameSources_64 : decode b_M_sameSources 64 = .ok (.ireturn, 1) := by decide +kernel
theorem d_M_sameNeeds_0 : decode b_M_sameNeeds 0 = .ok (.aload_n 0, 1) := by decide +kernel
theorem d_M_sameNeeds_1 : decode b_M_sameNeeds 1 = .ok (.getfield 51, 3) := by decide +kernel
theorem d_M_sameNeeds_4 : decode b_M_sameNeeds 4 = .ok (.iload_n 1, 1) := by decide +kernel
theorem d_M_sameNeeds_5 : decode b_M_sameNeeds 5 = .ok (.iaload, 1) := by decide +kernel
theorem d_M_sameNeeds_6 : decode b_M_sameNeeds 6 = .ok (.aload_n 0, 1) := by decide +kernel
theorem d_M_sameNeeds_7 : decode b_M_sameNeeds 7 = .ok (.getfield 51, 3) := by decide +kernel
theorem d_M_sameNeeds_10 : decode b_M_sameNeeds 10 = .ok (.iload_n 2, 1) := by decide +kernel
theorem d_M_sameNeeds_11 : decode b_M_sameNeeds 11 = .ok (.iaload, 1) := by decide +kernel
theorem d_M_sameNeeds_12 : decode b_M_sameNeeds 12 = .ok (.if_icmp .ne 7, 3) := by decide +kernel
theorem d_M_sameNeeds_15 : decode b_M_sameNeeds 15 = .ok (.iconst 1, 1) := by decide +kernel
theorem d_M_sameNeeds_16 : decode b_M_sameNeeds 16 = .ok (.goto 4, 3) := by decide +kernel
theorem d_M_sameNeeds_19 : decode b_M_sameNeeds 19 = .ok (.iconst 0, 1) := by decide +kernel
theorem d_M_sameNeeds_20 : decode b_M_sameNeeds 20 = .ok (.istore_n 3, 1) := by decide +kernel
theorem d_M_sameNeeds_21 : decode b_M_sameNeeds 21 = .ok (.iconst 0, 1) := by decide +kernel
theorem d_M_sameNeeds_22 : decode b_M_sameNeeds 22 = .ok (.istore 4, 2) := by decide +kernel
theorem d_M_sameNeeds_24 : decode b_M_sameNeeds 24 = .ok (.iload 4, 2) := by decide +kernel
theorem d_M_sameNeeds_26 : decode b_M_sameNeeds 26 = .ok (.aload_n 0, 1) := by decide +kernel
theorem d_M_sameNeeds_27 : decode b_M_sameNeeds 27 = .ok (.getfield 51, 3) := by decide +kernel
theorem d_M_sameNeeds_30 : decode b_M_sameNeeds 30 = .ok (.iload_n 1, 1) := by decide +kernel
theorem d_M_sameNeeds_31 : decode b_M_sameNeeds 31 = .ok (.iaload, 1) := by decide +kernel
theorem d_M_sameNeeds_32 : decode b_M_sameNeeds 32 = .ok (.if_icmp .ge 31, 3) := by decide +kernel
theorem d_M_sameNeeds_35 : decode b_M_sameNeeds 35 = .ok (.iload_n 3, 1) := by decide +kernel
theorem d_M_sameNeeds_36 : decode b_M_sameNeeds 36 = .ok (.ifCond .eq 27, 3) := by decide +kernel
theorem d_M_sameNeeds_39 : decode b_M_sameNeeds 39 = .ok (.aload_n 0, 1) := by decide +kernel
theorem d_M_sameNeeds_40 : decode b_M_sameNeeds 40 = .ok (.iload_n 2, 1) := by decide +kernel
theorem d_M_sameNeeds_41 : decode b_M_sameNeeds 41 = .ok (.aload_n 0, 1) := by decide +kernel
theorem d_M_sameNeeds_42 : decode b_M_sameNeeds 42 = .ok (.getfield 27, 3) := by decide +kernel
theorem d_M_sameNeeds_45 : decode b_M_sameNeeds 45 = .ok (.bipush 6, 2) := by decide +kernel
theorem d_M_sameNeeds_47 : decode b_M_sameNeeds 47 = .ok (.iload_n 1, 1) := by decide +kernel
theorem d_M_sameNeeds_48 : decode b_M_sameNeeds 48 = .ok (.imul, 1) := by decide +kernel
theorem d_M_sameNeeds_49 : decode b_M_sameNeeds 49 = .ok (.iload 4, 2) := by decide +kernel
theorem d_M_sameNeeds_51 : decode b_M_sameNeeds 51 = .ok (.iadd, 1) := by decide +kernel
theorem d_M_sameNeeds_52 : decode b_M_sameNeeds 52 = .ok (.laload, 1) := by decide +kernel
theorem d_M_sameNeeds_53 : decode b_M_sameNeeds 53 = .ok (.invokevirtual 99, 3) := by decide +kernel
theorem d_M_sameNeeds_56 : decode b_M_sameNeeds 56 = .ok (.istore_n 3, 1) := by decide +kernel
theorem d_M_sameNeeds_57 : decode b_M_sameNeeds 57 = .ok (.iinc 4 1, 3) := by decide +kernel
theorem d_M_sameNeeds_60 : decode b_M_sameNeeds 60 = .ok (.goto (-36), 3) := by decide +kernel
theorem d_M_sameNeeds_63 : decode b_M_sameNeeds 63 = .ok (.iload_n 3, 1) := by decide +kernel
theorem d_M_sameNeeds_64 : decode b_M_sameNeeds 64 = .ok (.ireturn, 1) := by decide +kernel
theorem d_M_differ_0 : decode b_M_differ 0 = .ok (.aload_n 0, 1) := by decide +kernel
theorem d_M_differ_1 : decode b_M_differ 1 = .ok (.iload_n 1, 1) := by decide +kernel
theorem d_M_differ_2 : decode b_M_differ 2 = .ok (.invokevirtual 92, 3) := by decide +kernel
theorem d_M_differ_5 : decode b_M_differ 5 = .ok (.ifCond .eq 11, 3) := by decide +kernel
theorem d_M_differ_8 : decode b_M_differ 8 = .ok (.aload_n 0, 1) := by decide +kernel
theorem d_M_differ_9 : decode b_M_differ 9 = .ok (.iload_n 2, 1) := by decide +kernel
theorem d_M_differ_10 : decode b_M_differ 10 = .ok (.invokevirtual 92, 3) := by decide +kernel
theorem d_M_differ_13 : decode b_M_differ 13 = .ok (.ifCond .ne 5, 3) := by decide +kernel
theorem d_M_differ_16 : decode b_M_differ 16 = .ok (.iconst (-1), 1) := by decide +kernel
theorem d_M_differ_17 : decode b_M_differ 17 = .ok (.ireturn, 1) := by decide +kernel
theorem d_M_differ_18 : decode b_M_differ 18 = .ok (.aload_n 0, 1) := by decide +kernel
theorem d_M_differ_19 : decode b_M_differ 19 = .ok (.getfield 24, 3) := by decide +kernel
theorem d_M_differ_22 : decode b_M_differ 22 = .ok (.iload_n 1, 1) := by decide +kernel
theorem d_M_differ_23 : decode b_M_differ 23 = .ok (.laload, 1) := by decide +kernel
theorem d_M_differ_24 : decode b_M_differ 24 = .ok (.aload_n 0, 1) := by decide +kernel
theorem d_M_differ_25 : decode b_M_differ 25 = .ok (.getfield 24, 3) := by decide +kernel
theorem d_M_differ_28 : decode b_M_differ 28 = .ok (.iload_n 2, 1) := by decide +kernel
theorem d_M_differ_29 : decode b_M_differ 29 = .ok (.laload, 1) := by decide +kernel
theorem d_M_differ_30 : decode b_M_differ 30 = .ok (.lcmp, 1) := by decide +kernel
theorem d_M_differ_31 : decode b_M_differ 31 = .ok (.ifCond .eq 7, 3) := by decide +kernel
theorem d_M_differ_34 : decode b_M_differ 34 = .ok (.iconst 1, 1) := by decide +kernel
theorem d_M_differ_35 : decode b_M_differ 35 = .ok (.goto 4, 3) := by decide +kernel
theorem d_M_differ_38 : decode b_M_differ 38 = .ok (.iconst 0, 1) := by decide +kernel
theorem d_M_differ_39 : decode b_M_differ 39 = .ok (.istore_n 3, 1) := by decide +kernel
theorem d_M_differ_40 : decode b_M_differ 40 = .ok (.iload_n 3, 1) := by decide +kernel
theorem d_M_differ_41 : decode b_M_differ 41 = .ok (.aload_n 0, 1) := by decide +kernel
theorem d_M_differ_42 : decode b_M_differ 42 = .ok (.getfield 33, 3) := by decide +kernel
theorem d_M_differ_45 : decode b_M_differ 45 = .ok (.iload_n 1, 1) := by decide +kernel
theorem d_M_differ_46 : decode b_M_differ 46 = .ok (.iaload, 1) := by decide +kernel
theorem d_M_differ_47 : decode b_M_differ 47 = .ok (.aload_n 0, 1) := by decide +kernel
theorem d_M_differ_48 : decode b_M_differ 48 = .ok (.getfield 33, 3) := by decide +kernel
theorem d_M_differ_51 : decode b_M_differ 51 = .ok (.iload_n 2, 1) := by decide +kernel
theorem d_M_differ_52 : decode b_M_differ 52 = .ok (.iaload, 1) := by decide +kernel
theorem d_M_differ_53 : decode b_M_differ 53 = .ok (.if_icmp .eq 7, 3) := by decide +kernel
theorem d_M_differ_56 : decode b_M_differ 56 = .ok (.iconst 2, 1) := by decide +kernel
theorem d_M_differ_57 : decode b_M_differ 57 = .ok (.goto 4, 3) := by decide +kernel
theorem d_M_differ_60 : decode b_M_differ 60 = .ok (.iconst 0, 1) := by decide +kernel
theorem d_M_differ_61 : decode b_M_differ 61 = .ok (.iadd, 1) := by decide +kernel
theorem d_M_differ_62 : decode b_M_differ 62 = .ok (.istore_n 3, 1) := by decide +kernel
theorem d_M_differ_63 : decode b_M_differ 63 = .ok (.iload_n 3, 1) := by decide +kernel
theorem d_M_differ_64 : decode b_M_differ 64 = .ok (.aload_n 0, 1) := by decide +kernel
theorem d_M_differ_65 : decode b_M_differ 65 = .ok (.getfield 36, 3) := by decide +kernel
theorem d_M_differ_68 : decode b_M_differ 68 = .ok (.iload_n 1, 1) := by decide +kernel
theorem d_M_differ_69 : decode b_M_differ 69 = .ok (.iaload, 1) := by decide +kernel
theorem d_M_differ_70 : decode b_M_differ 70 = .ok (.aload_n 0, 1) := by decide +kernel
theorem d_M_differ_71 : decode b_M_differ 71 = .ok (.getfield 36, 3) := by decide +kernel
theorem d_M_differ_74 : decode b_M_differ 74 = .ok (.iload_n 2, 1) := by decide +kernel
theorem d_M_differ_75 : decode b_M_differ 75 = .ok (.iaload, 1) := by decide +kernel
theorem d_M_differ_76 : decode b_M_differ 76 = .ok (.if_icmp .eq 7, 3) := by decide +kernel
theorem d_M_differ_79 : decode b_M_differ 79 = .ok (.iconst 4, 1) := by decide +kernel
theorem d_M_differ_80 : decode b_M_differ 80 = .ok (.goto 4, 3) := by decide +kernel
theorem d_M_differ_83 : decode b_M_differ 83 = .ok (.iconst 0, 1) := by decide +kernel
theorem d_M_differ_84 : decode b_M_differ 84 = .ok (.iadd, 1) := by decide +kernel
theorem d_M_differ_85 : decode b_M_differ 85 = .ok (.istore_n 3, 1) := by decide +kernel
theorem d_M_differ_86 : decode b_M_differ 86 = .ok (.iload_n 3, 1) := by decide +kernel
theorem d_M_differ_87 : decode b_M_differ 87 = .ok (.aload_n 0, 1) := by decide +kernel
theorem d_M_differ_88 : decode b_M_differ 88 = .ok (.getfield 39, 3) := by decide +kernel
theorem d_M_differ_91 : decode b_M_differ 91 = .ok (.iload_n 1, 1) := by decide +kernel
theorem d_M_differ_92 : decode b_M_differ 92 = .ok (.iaload, 1) := by decide +kernel
theorem d_M_differ_93 : decode b_M_differ 93 = .ok (.aload_n 0, 1) := by decide +kernel
theorem d_M_differ_94 : decode b_M_differ 94 = .ok (.getfield 39, 3) := by decide +kernel
theorem d_M_differ_97 : decode b_M_differ 97 = .ok (.iload_n 2, 1) := by decide +kernel
theorem d_M_differ_98 : decode b_M_differ 98 = .ok (.iaload, 1) := by decide +kernel
theorem d_M_differ_99 : decode b_M_differ 99 = .ok (.if_icmp .eq 8, 3) := by decide +kernel
theorem d_M_differ_102 : decode b_M_differ 102 = .ok (.bipush 8, 2) := by decide +kernel
theorem d_M_differ_104 : decode b_M_differ 104 = .ok (.goto 4, 3) := by decide +kernel
theorem d_M_differ_107 : decode b_M_differ 107 = .ok (.iconst 0, 1) := by decide +kernel
theorem d_M_differ_108 : decode b_M_differ 108 = .ok (.iadd, 1) := by decide +kernel
theorem d_M_differ_109 : decode b_M_differ 109 = .ok (.istore_n 3, 1) := by decide +kernel
theorem d_M_differ_110 : decode b_M_differ 110 = .ok (.iload_n 3, 1) := by decide +kernel
theorem d_M_differ_111 : decode b_M_differ 111 = .ok (.aload_n 0, 1) := by decide +kernel
theorem d_M_differ_112 : decode b_M_differ 112 = .ok (.getfield 42, 3) := by decide +kernel
theorem d_M_differ_115 : decode b_M_differ 115 = .ok (.iload_n 1, 1) := by decide +kernel
theorem d_M_differ_116 : decode b_M_differ 116 = .ok (.iaload, 1) := by decide +kernel
theorem d_M_differ_117 : decode b_M_differ 117 = .ok (.aload_n 0, 1) := by decide +kernel
theorem d_M_differ_118 : decode b_M_differ 118 = .ok (.getfield 42, 3) := by decide +kernel
theorem d_M_differ_121 : decode b_M_differ 121 = .ok (.iload_n 2, 1) := by decide +kernel
theorem d_M_differ_122 : decode b_M_differ 122 = .ok (.iaload, 1) := by decide +kernel
theorem d_M_differ_123 : decode b_M_differ 123 = .ok (.if_icmp .eq 8, 3) := by decide +kernel
theorem d_M_differ_126 : decode b_M_differ 126 = .ok (.bipush 16, 2) := by decide +kernel
theorem d_M_differ_128 : decode b_M_differ 128 = .ok (.goto 4, 3) := by decide +kernel
theorem d_M_differ_131 : decode b_M_differ 131 = .ok (.iconst 0, 1) := by decide +kernel
theorem d_M_differ_132 : decode b_M_differ 132 = .ok (.iadd, 1) := by decide +kernel
theorem d_M_differ_133 : decode b_M_differ 133 = .ok (.istore_n 3, 1) := by decide +kernel
theorem d_M_differ_134 : decode b_M_differ 134 = .ok (.iload_n 3, 1) := by decide +kernel
theorem d_M_differ_135 : decode b_M_differ 135 = .ok (.aload_n 0, 1) := by decide +kernel
theorem d_M_differ_136 : decode b_M_differ 136 = .ok (.iload_n 1, 1) := by decide +kernel
theorem d_M_differ_137 : decode b_M_differ 137 = .ok (.iload_n 2, 1) := by decide +kernel
theorem d_M_differ_138 : decode b_M_differ 138 = .ok (.invokevirtual 148, 3) := by decide +kernel
theorem d_M_differ_141 : decode b_M_differ 141 = .ok (.ifCond .eq 7, 3) := by decide +kernel
theorem d_M_differ_144 : decode b_M_differ 144 = .ok (.iconst 0, 1) := by decide +kernel
theorem d_M_differ_145 : decode b_M_differ 145 = .ok (.goto 5, 3) := by decide +kernel
theorem d_M_differ_148 : decode b_M_differ 148 = .ok (.bipush 32, 2) := by decide +kernel
theorem d_M_differ_150 : decode b_M_differ 150 = .ok (.iadd, 1) := by decide +kernel
theorem d_M_differ_151 : decode b_M_differ 151 = .ok (.istore_n 3, 1) := by decide +kernel
theorem d_M_differ_152 : decode b_M_differ 152 = .ok (.iload_n 3, 1) := by decide +kernel
theorem d_M_differ_153 : decode b_M_differ 153 = .ok (.aload_n 0, 1) := by decide +kernel
theorem d_M_differ_154 : decode b_M_differ 154 = .ok (.iload_n 1, 1) := by decide +kernel
theorem d_M_differ_155 : decode b_M_differ 155 = .ok (.iload_n 2, 1) := by decide +kernel
theorem d_M_differ_156 : decode b_M_differ 156 = .ok (.invokevirtual 151, 3) := by decide +kernel
theorem d_M_differ_159 : decode b_M_differ 159 = .ok (.ifCond .eq 7, 3) := by decide +kernel
theorem d_M_differ_162 : decode b_M_differ 162 = .ok (.iconst 0, 1) := by decide +kernel
theorem d_M_differ_163 : decode b_M_differ 163 = .ok (.goto 5, 3) := by decide +kernel
theorem d_M_differ_166 : decode b_M_differ 166 = .ok (.bipush 64, 2) := by decide +kernel
theorem d_M_differ_168 : decode b_M_differ 168 = .ok (.iadd, 1) := by decide +kernel
theorem d_M_differ_169 : decode b_M_differ 169 = .ok (.ireturn, 1) := by decide +kernel
theorem d_M_clash_0 : decode b_M_clash 0 = .ok (.iload_n 1, 1) := by decide +kernel
theorem d_M_clash_1 : decode b_M_clash 1 = .ok (.ifCond .lt 12, 3) := by decide +kernel
theorem d_M_clash_4 : decode b_M_clash 4 = .ok (.iload_n 2, 1) := by decide +kernel
theorem d_M_clash_5 : decode b_M_clash 5 = .ok (.iconst 0, 1) := by decide +kernel
theorem d_M_clash_6 : decode b_M_clash 6 = .ok (.iconst 1, 1) := by decide +kernel
theorem d_M_clash_7 : decode b_M_clash 7 = .ok (.invokestatic 82, 3) := by decide +kernel
theorem d_M_clash_10 : decode b_M_clash 10 = .ok (.ifCond .ne 5, 3) := by decide +kernel
theorem d_M_clash_13 : decode b_M_clash 13 = .ok (.iconst (-1), 1) := by decide +kernel
theorem d_M_clash_14 : decode b_M_clash 14 = .ok (.ireturn, 1) := by decide +kernel
theorem d_M_clash_15 : decode b_M_clash 15 = .ok (.iload_n 1, 1) := by decide +kernel
theorem d_M_clash_16 : decode b_M_clash 16 = .ok (.istore_n 3, 1) := by decide +kernel
theorem d_M_clash_17 : decode b_M_clash 17 = .ok (.iconst 0, 1) := by decide +kernel
theorem d_M_clash_18 : decode b_M_clash 18 = .ok (.istore 4, 2) := by decide +kernel
theorem d_M_clash_20 : decode b_M_clash 20 = .ok (.iload 4, 2) := by decide +kernel
theorem d_M_clash_22 : decode b_M_clash 22 = .ok (.aload_n 0, 1) := by decide +kernel
theorem d_M_clash_23 : decode b_M_clash 23 = .ok (.getfield 76, 3) := by decide +kernel
theorem d_M_clash_26 : decode b_M_clash 26 = .ok (.if_icmp .ge 63, 3) := by decide +kernel
theorem d_M_clash_29 : decode b_M_clash 29 = .ok (.iload 4, 2) := by decide +kernel
theorem d_M_clash_31 : decode b_M_clash 31 = .ok (.iconst 1, 1) := by decide +kernel
theorem d_M_clash_32 : decode b_M_clash 32 = .ok (.iadd, 1) := by decide +kernel
theorem d_M_clash_33 : decode b_M_clash 33 = .ok (.istore 5, 2) := by decide +kernel
theorem d_M_clash_35 : decode b_M_clash 35 = .ok (.iload 5, 2) := by decide +kernel
theorem d_M_clash_37 : decode b_M_clash 37 = .ok (.aload_n 0, 1) := by decide +kernel
theorem d_M_clash_38 : decode b_M_clash 38 = .ok (.getfield 76, 3) := by decide +kernel
theorem d_M_clash_41 : decode b_M_clash 41 = .ok (.if_icmp .ge 42, 3) := by decide +kernel
theorem d_M_clash_44 : decode b_M_clash 44 = .ok (.aload_n 0, 1) := by decide +kernel
theorem d_M_clash_45 : decode b_M_clash 45 = .ok (.iload 4, 2) := by decide +kernel
theorem d_M_clash_47 : decode b_M_clash 47 = .ok (.iload 5, 2) := by decide +kernel
theorem d_M_clash_49 : decode b_M_clash 49 = .ok (.invokevirtual 139, 3) := by decide +kernel
theorem d_M_clash_52 : decode b_M_clash 52 = .ok (.ifCond .ne 6, 3) := by decide +kernel
theorem d_M_clash_55 : decode b_M_clash 55 = .ok (.goto 22, 3) := by decide +kernel
theorem d_M_clash_58 : decode b_M_clash 58 = .ok (.iload_n 3, 1) := by decide +kernel
theorem d_M_clash_59 : decode b_M_clash 59 = .ok (.ifCond .ne 15, 3) := by decide +kernel
theorem d_M_clash_62 : decode b_M_clash 62 = .ok (.iload_n 2, 1) := by decide +kernel
theorem d_M_clash_63 : decode b_M_clash 63 = .ok (.ifCond .ne 8, 3) := by decide +kernel
theorem d_M_clash_66 : decode b_M_clash 66 = .ok (.iload 4, 2) := by decide +kernel
theorem d_M_clash_68 : decode b_M_clash 68 = .ok (.goto 5, 3) := by decide +kernel
theorem d_M_clash_71 : decode b_M_clash 71 = .ok (.iload 5, 2) := by decide +kernel
theorem d_M_clash_73 : decode b_M_clash 73 = .ok (.ireturn, 1) := by decide +kernel
theorem d_M_clash_74 : decode b_M_clash 74 = .ok (.iinc 3 (-1), 3) := by decide +kernel
theorem d_M_clash_77 : decode b_M_clash 77 = .ok (.iinc 5 1, 3) := by decide +kernel
theorem d_M_clash_80 : decode b_M_clash 80 = .ok (.goto (-45), 3) := by decide +kernel
theorem d_M_clash_83 : decode b_M_clash 83 = .ok (.iinc 4 1, 3) := by decide +kernel
theorem d_M_clash_86 : decode b_M_clash 86 = .ok (.goto (-66), 3) := by decide +kernel
theorem d_M_clash_89 : decode b_M_clash 89 = .ok (.iconst (-1), 1) := by decide +kernel
theorem d_M_clash_90 : decode b_M_clash 90 = .ok (.ireturn, 1) := by decide +kernel
theorem d_M_init_0 : decode b_M_init 0 = .ok (.aload_n 0, 1) := by decide +kernel
theorem d_M_init_1 : decode b_M_init 1 = .ok (.invokespecial 1, 3) := by decide +kernel
theorem d_M_init_4 : decode b_M_init 4 = .ok (.aload_n 0, 1) := by decide +kernel
theorem d_M_init_5 : decode b_M_init 5 = .ok (.bipush 24, 2) := by decide +kernel
theorem d_M_init_7 : decode b_M_init 7 = .ok (.newarray .long, 2) := by decide +kernel
theorem d_M_init_9 : decode b_M_init 9 = .ok (.putfield 7, 3) := by decide +kernel
theorem d_M_init_12 : decode b_M_init 12 = .ok (.aload_n 0, 1) := by decide +kernel
theorem d_M_init_13 : decode b_M_init 13 = .ok (.bipush 24, 2) := by decide +kernel
theorem d_M_init_15 : decode b_M_init 15 = .ok (.newarray .int, 2) := by decide +kernel
theorem d_M_init_17 : decode b_M_init 17 = .ok (.putfield 13, 3) := by decide +kernel
theorem d_M_init_20 : decode b_M_init 20 = .ok (.aload_n 0, 1) := by decide +kernel
theorem d_M_init_21 : decode b_M_init 21 = .ok (.bipush 24, 2) := by decide +kernel
theorem d_M_init_23 : decode b_M_init 23 = .ok (.newarray .int, 2) := by decide +kernel
theorem d_M_init_25 : decode b_M_init 25 = .ok (.putfield 17, 3) := by decide +kernel
theorem d_M_init_28 : decode b_M_init 28 = .ok (.aload_n 0, 1) := by decide +kernel
theorem d_M_init_29 : decode b_M_init 29 = .ok (.bipush 24, 2) := by decide +kernel
theorem d_M_init_31 : decode b_M_init 31 = .ok (.newarray .boolean, 2) := by decide +kernel
theorem d_M_init_33 : decode b_M_init 33 = .ok (.putfield 20, 3) := by decide +kernel
theorem d_M_init_36 : decode b_M_init 36 = .ok (.aload_n 0, 1) := by decide +kernel
theorem d_M_init_37 : decode b_M_init 37 = .ok (.bipush 32, 2) := by decide +kernel
theorem d_M_init_39 : decode b_M_init 39 = .ok (.newarray .long, 2) := by decide +kernel
theorem d_M_init_41 : decode b_M_init 41 = .ok (.putfield 24, 3) := by decide +kernel
theorem d_M_init_44 : decode b_M_init 44 = .ok (.aload_n 0, 1) := by decide +kernel
theorem d_M_init_45 : decode b_M_init 45 = .ok (.sipush 192, 3) := by decide +kernel
theorem d_M_init_48 : decode b_M_init 48 = .ok (.newarray .long, 2) := by decide +kernel
theorem d_M_init_50 : decode b_M_init 50 = .ok (.putfield 27, 3) := by decide +kernel
theorem d_M_init_53 : decode b_M_init 53 = .ok (.aload_n 0, 1) := by decide +kernel
theorem d_M_init_54 : decode b_M_init 54 = .ok (.sipush 256, 3) := by decide +kernel
theorem d_M_init_57 : decode b_M_init 57 = .ok (.newarray .long, 2) := by decide +kernel
theorem d_M_init_59 : decode b_M_init 59 = .ok (.putfield 30, 3) := by decide +kernel
theorem d_M_init_62 : decode b_M_init 62 = .ok (.aload_n 0, 1) := by decide +kernel
theorem d_M_init_63 : decode b_M_init 63 = .ok (.bipush 32, 2) := by decide +kernel
theorem d_M_init_65 : decode b_M_init 65 = .ok (.newarray .int, 2) := by decide +kernel
theorem d_M_init_67 : decode b_M_init 67 = .ok (.putfield 33, 3) := by decide +kernel
theorem d_M_init_70 : decode b_M_init 70 = .ok (.aload_n 0, 1) := by decide +kernel
theorem d_M_init_71 : decode b_M_init 71 = .ok (.bipush 32, 2) := by decide +kernel
theorem d_M_init_73 : decode b_M_init 73 = .ok (.newarray .int, 2) := by decide +kernel
theorem d_M_init_75 : decode b_M_init 75 = .ok (.putfield 36, 3) := by decide +kernel
theorem d_M_init_78 : decode b_M_init 78 = .ok (.aload_n 0, 1) := by decide +kernel
theorem d_M_init_79 : decode b_M_init 79 = .ok (.bipush 32, 2) := by decide +kernel
theorem d_M_init_81 : decode b_M_init 81 = .ok (.newarray .int, 2) := by decide +kernel
theorem d_M_init_83 : decode b_M_init 83 = .ok (.putfield 39, 3) := by decide +kernel
theorem d_M_init_86 : decode b_M_init 86 = .ok (.aload_n 0, 1) := by decide +kernel
theorem d_M_init_87 : decode b_M_init 87 = .ok (.bipush 32, 2) := by decide +kernel
theorem d_M_init_89 : decode b_M_init 89 = .ok (.newarray .int, 2) := by decide +kernel
theorem d_M_init_91 : decode b_M_init 91 = .ok (.putfield 42, 3) := by decide +kernel
theorem d_M_init_94 : decode b_M_init 94 = .ok (.aload_n 0, 1) := by decide +kernel
theorem d_M_init_95 : decode b_M_init 95 = .ok (.bipush 32, 2) := by decide +kernel
theorem d_M_init_97 : decode b_M_init 97 = .ok (.newarray .int, 2) := by decide +kernel
theorem d_M_init_99 : decode b_M_init 99 = .ok (.putfield 45, 3) := by decide +kernel
theorem d_M_init_102 : decode b_M_init 102 = .ok (.aload_n 0, 1) := by decide +kernel
theorem d_M_init_103 : decode b_M_init 103 = .ok (.sipush 192, 3) := by decide +kernel
theorem d_M_init_106 : decode b_M_init 106 = .ok (.newarray .int, 2) := by decide +kernel
theorem d_M_init_108 : decode b_M_init 108 = .ok (.putfield 48, 3) := by decide +kernel
theorem d_M_init_111 : decode b_M_init 111 = .ok (.aload_n 0, 1) := by decide +kernel
theorem d_M_init_112 : decode b_M_init 112 = .ok (.bipush 32, 2) := by decide +kernel
theorem d_M_init_114 : decode b_M_init 114 = .ok (.newarray .int, 2) := by decide +kernel
theorem d_M_init_116 : decode b_M_init 116 = .ok (.putfield 51, 3) := by decide +kernel
theorem d_M_init_119 : decode b_M_init 119 = .ok (.aload_n 0, 1) := by decide +kernel
theorem d_M_init_120 : decode b_M_init 120 = .ok (.bipush 32, 2) := by decide +kernel
theorem d_M_init_122 : decode b_M_init 122 = .ok (.newarray .int, 2) := by decide +kernel
theorem d_M_init_124 : decode b_M_init 124 = .ok (.putfield 54, 3) := by decide +kernel
theorem d_M_init_127 : decode b_M_init 127 = .ok (.aload_n 0, 1) := by decide +kernel
theorem d_M_init_128 : decode b_M_init 128 = .ok (.bipush 16, 2) := by decide +kernel
theorem d_M_init_130 : decode b_M_init 130 = .ok (.newarray .int, 2) := by decide +kernel
theorem d_M_init_132 : decode b_M_init 132 = .ok (.putfield 57, 3) := by decide +kernel
theorem d_M_init_135 : decode b_M_init 135 = .ok (.aload_n 0, 1) := by decide +kernel
theorem d_M_init_136 : decode b_M_init 136 = .ok (.bipush 16, 2) := by decide +kernel
theorem d_M_init_138 : decode b_M_init 138 = .ok (.newarray .int, 2) := by decide +kernel
theorem d_M_init_140 : decode b_M_init 140 = .ok (.putfield 60, 3) := by decide +kernel
theorem d_M_init_143 : decode b_M_init 143 = .ok (.aload_n 0, 1) := by decide +kernel
theorem d_M_init_144 : decode b_M_init 144 = .ok (.iconst (-1), 1) := by decide +kernel
theorem d_M_init_145 : decode b_M_init 145 = .ok (.putfield 63, 3) := by decide +kernel
theorem d_M_init_148 : decode b_M_init 148 = .ok (.aload_n 0, 1) := by decide +kernel
theorem d_M_init_149 : decode b_M_init 149 = .ok (.bipush 32, 2) := by decide +kernel
theorem d_M_init_151 : decode b_M_init 151 = .ok (.newarray .int, 2) := by decide +kernel
theorem d_M_init_153 : decode b_M_init 153 = .ok (.putfield 67, 3) := by decide +kernel
theorem d_M_init_156 : decode b_M_init 156 = .ok (.aload_n 0, 1) := by decide +kernel
theorem d_M_init_157 : decode b_M_init 157 = .ok (.bipush 32, 2) := by decide +kernel
theorem d_M_init_159 : decode b_M_init 159 = .ok (.newarray .int, 2) := by decide +kernel
theorem d_M_init_161 : decode b_M_init 161 = .ok (.putfield 70, 3) := by decide +kernel
theorem d_M_init_164 : decode b_M_init 164 = .ok (.aload_n 0, 1) := by decide +kernel
theorem d_M_init_165 : decode b_M_init 165 = .ok (.bipush 32, 2) := by decide +kernel
theorem d_M_init_167 : decode b_M_init 167 = .ok (.newarray .int, 2) := by decide +kernel
theorem d_M_init_169 : decode b_M_init 169 = .ok (.putfield 73, 3) := by decide +kernel
theorem d_M_init_172 : decode b_M_init 172 = .ok (.return_, 1) := by decide +kernel
end
section
def fn_P_isUpTo (x0 : Int32) (x1 : Int32) (σ : zS) : Option (Int32 × zS) := if x0 < 0 then some ((0 : Int32), σ) else if x1 < x0 then some ((0 : Int32), σ) else some ((1 : Int32), σ)
set_option maxRecDepth 100000 in
set_option maxHeartbeats 4000000 in
theorem ct_P_isUpTo (l : Launch) (D : va_G) (ca : Nat → ClassId) (wl : zS → va_W) (x0 : Int32) (x1 : Int32) (σ : zS) : zC zemI l y_P_isUpTo (Cond.code y_P_isUpTo b_P_isUpTo 2 (some .boolean) :: zTT) (zrm 0 0) D zcl (zKK D ca) wl σ [.int x0, .int x1] (fn_P_isUpTo x0 x1 σ) := by
  refine zmk_z (tys := zty ca) (by decide) (zKK_m D ca) (fun _ h => h.1) (Nat.le_of_ble_eq_true rfl) (fun V ex hX hR => ?_)
  show zJ V (if x0 < 0 then some ((0 : Int32), σ) else if x1 < x0 then some ((0 : Int32), σ) else some ((1 : Int32), σ)) (wl σ ++ ex) 0 [(0, .int x0), (1, .int x1)] []
  refine z_iload_n (i := 0) hX d_P_isUpTo_0 rfl rfl ?_
  refine z_if_lt (tgt := 13) hX d_P_isUpTo_1 (by decide) (fun c1 => ?_) (fun c1 => ?_)
  · refine z_iconst (v := 0) hX d_P_isUpTo_13 (by decide) ?_
    exact z_zret hR rfl d_P_isUpTo_14
  · refine z_iload_n (i := 0) hX d_P_isUpTo_4 rfl rfl ?_
    refine z_iload_n (i := 1) hX d_P_isUpTo_5 rfl rfl ?_
    refine z_icmp_gt (tgt := 13) hX d_P_isUpTo_6 (by decide) (fun c6 => ?_) (fun c6 => ?_)
    · refine z_iconst (v := 0) hX d_P_isUpTo_13 (by decide) ?_
      exact z_zret hR rfl d_P_isUpTo_14
    · refine z_iconst (v := 1) hX d_P_isUpTo_9 (by decide) ?_
      refine z_goto (tgt := 14) hX d_P_isUpTo_10 (by decide) ?_
      exact z_zret hR rfl d_P_isUpTo_14
def fn_S_add (x1 : Int64) (x3 : Int32) (x4 : Int32) (σ : zS) : Option (Int32 × zS) := if (σ.1 120 0) < (24 : Int32) then zgd (zin (σ.1 120 0) 24) (zgd (zin (σ.1 120 0) 24) (zgd (zin (σ.1 120 0) 24) (some (σ.1 120 0, (zF (zI (zI (zL σ 2 (σ.1 120 0).toNatClampNeg x1) 3 (σ.1 120 0).toNatClampNeg x3) 4 (σ.1 120 0).toNatClampNeg x4) 120 (((zI (zI (zL σ 2 (σ.1 120 0).toNatClampNeg x1) 3 (σ.1 120 0).toNatClampNeg x3) 4 (σ.1 120 0).toNatClampNeg x4).1 120 0) + (1 : Int32))))))) else some ((-1 : Int32), σ)
set_option maxRecDepth 100000 in
set_option maxHeartbeats 4000000 in
theorem ct_S_add (l : Launch) (D : va_G) (ad : Nat → Nat) (ca : Nat → ClassId) (x1 : Int64) (x3 : Int32) (x4 : Int32) (σ : zS) : zC zemI l y_S_add (Cond.code y_S_add b_S_add 6 (some .int) :: zTT) (zrm 0 0) D zcl (zKK D ca) (zwC ad ca) σ [.ref (ad 1), .long x1, .int x3, .int x4] (fn_S_add x1 x3 x4 σ) := by
  refine zmk_i (tys := zty ca) (by decide) (zKK_m D ca) (fun _ h => h.1) (Nat.le_of_ble_eq_true rfl) (fun V ex hX hR => ?_)
  show zJ V (if (σ.1 120 0) < (24 : Int32) then zgd (zin (σ.1 120 0) 24) (zgd (zin (σ.1 120 0) 24) (zgd (zin (σ.1 120 0) 24) (some (σ.1 120 0, (zF (zI (zI (zL σ 2 (σ.1 120 0).toNatClampNeg x1) 3 (σ.1 120 0).toNatClampNeg x3) 4 (σ.1 120 0).toNatClampNeg x4) 120 (((zI (zI (zL σ 2 (σ.1 120 0).toNatClampNeg x1) 3 (σ.1 120 0).toNatClampNeg x3) 4 (σ.1 120 0).toNatClampNeg x4).1 120 0) + (1 : Int32))))))) else some ((-1 : Int32), σ)) (zwC ad ca σ ++ ex) 0 [(0, .ref (ad 1)), (1, .long x1), (3, .int x3), (4, .int x4)] []
  refine z_aload_n (i := 0) hX d_S_add_0 rfl rfl ?_
  refine z_get (C := R_S) (T := F_S) (N := 5) hX in_S 1 rfl rfl 0 (by decide) w_field_S_26_S_0 rfl d_S_add_1 ?_
  refine z_bipush (v := 24) hX d_S_add_4 (by decide) ?_
  refine z_icmp_lt (tgt := 11) hX d_S_add_6 (by decide) (fun c6 => ?_) (fun c6 => ?_)
  · refine z_aload_n (i := 0) hX d_S_add_11 rfl rfl ?_
    refine z_get (C := R_S) (T := F_S) (N := 5) hX in_S 1 rfl rfl 0 (by decide) w_field_S_26_S_0 rfl d_S_add_12 ?_
    refine z_istore (i := 5) (lv2 := [(5, .int (σ.1 120 0)), (0, .ref (ad 1)), (1, .long x1), (3, .int x3), (4, .int x4)]) hX d_S_add_15 (by decide) rfl ?_
    refine z_aload_n (i := 0) hX d_S_add_17 rfl rfl ?_
    refine z_get (C := R_S) (T := F_S) (N := 5) hX in_S 1 rfl rfl 1 (by decide) w_field_S_9_S_1 rfl d_S_add_18 ?_
    refine z_iload (i := 5) hX d_S_add_21 rfl ?_
    refine z_lload_n (i := 1) hX d_S_add_23 rfl rfl ?_
    refine z_last (w2 := zwC ad ca (zL σ 2 (σ.1 120 0).toNatClampNeg x1) ++ ex) hX 2 0 rfl rfl rfl d_S_add_24 ?_
    refine z_aload_n (i := 0) hX d_S_add_25 rfl rfl ?_
    refine z_get (C := R_S) (T := F_S) (N := 5) hX in_S 1 rfl rfl 2 (by decide) w_field_S_15_S_2 rfl d_S_add_26 ?_
    refine z_iload (i := 5) hX d_S_add_29 rfl ?_
    refine z_iload_n (i := 3) hX d_S_add_31 rfl rfl ?_
    refine z_iast (w2 := zwC ad ca (zI (zL σ 2 (σ.1 120 0).toNatClampNeg x1) 3 (σ.1 120 0).toNatClampNeg x3) ++ ex) hX 3 1 rfl rfl rfl d_S_add_32 ?_
    refine z_aload_n (i := 0) hX d_S_add_33 rfl rfl ?_
    refine z_get (C := R_S) (T := F_S) (N := 5) hX in_S 1 rfl rfl 3 (by decide) w_field_S_19_S_3 rfl d_S_add_34 ?_
    refine z_iload (i := 5) hX d_S_add_37 rfl ?_
    refine z_iload (i := 4) hX d_S_add_39 rfl ?_
    refine z_iast (w2 := zwC ad ca (zI (zI (zL σ 2 (σ.1 120 0).toNatClampNeg x1) 3 (σ.1 120 0).toNatClampNeg x3) 4 (σ.1 120 0).toNatClampNeg x4) ++ ex) hX 4 2 rfl rfl rfl d_S_add_41 ?_
    refine z_aload_n (i := 0) hX d_S_add_42 rfl rfl ?_
    refine z_dup hX d_S_add_43 rfl ?_
    refine z_get (C := R_S) (T := F_S) (N := 5) hX in_S 1 rfl rfl 0 (by decide) w_field_S_26_S_0 rfl d_S_add_44 ?_
    refine z_iconst (v := 1) hX d_S_add_47 (by decide) ?_
    refine z_iadd hX d_S_add_48 ?_
    refine z_put (C := R_S) (T := F_S) (N := 5) (w2 := zwC ad ca (zF (zI (zI (zL σ 2 (σ.1 120 0).toNatClampNeg x1) 3 (σ.1 120 0).toNatClampNeg x3) 4 (σ.1 120 0).toNatClampNeg x4) 120 (((zI (zI (zL σ 2 (σ.1 120 0).toNatClampNeg x1) 3 (σ.1 120 0).toNatClampNeg x3) 4 (σ.1 120 0).toNatClampNeg x4).1 120 0) + (1 : Int32))) ++ ex) hX in_S t_S t_S_ok n_S 1 rfl rfl 0 (by decide) w_field_S_26_S_0 rfl rfl rfl (Nat.le_of_ble_eq_true rfl) rfl d_S_add_49 ?_
    refine z_iload (i := 5) hX d_S_add_52 rfl ?_
    exact z_iret hR d_S_add_54
  · refine z_iconst (v := -1) hX d_S_add_9 (by decide) ?_
    exact z_iret hR d_S_add_10
def fn_P_source (x1 : Int64) (x3 : Int32) (x4 : Int32) (σ : zS) : Option (Int32 × zS) := zb (fn_P_isUpTo x3 (7 : Int32) σ) (fun r3 s3 => if r3 = 0 then some ((-1 : Int32), s3) else zb (fn_S_add x1 x3 (x4 &&& (65535 : Int32)) s3) (fun r22 s22 => some (r22, s22)))
set_option maxRecDepth 100000 in
set_option maxHeartbeats 4000000 in
theorem ct_P_source (l : Launch) (D : va_G) (ad : Nat → Nat) (ca : Nat → ClassId) (x1 : Int64) (x3 : Int32) (x4 : Int32) (σ : zS) : zC zemI l y_P_source (Cond.code y_P_source b_P_source 5 (some .int) :: zTT) (zrm 1 25) D zcl (zKK D ca) (zwC ad ca) σ [.ref (ad 0), .long x1, .int x3, .int x4] (fn_P_source x1 x3 x4 σ) := by
  refine zmk_i (tys := zty ca) (by decide) (zKK_m D ca) (fun _ h => h.1) (Nat.le_of_ble_eq_true rfl) (fun V ex hX hR => ?_)
  show zJ V (zb (fn_P_isUpTo x3 (7 : Int32) σ) (fun r3 s3 => if r3 = 0 then some ((-1 : Int32), s3) else zb (fn_S_add x1 x3 (x4 &&& (65535 : Int32)) s3) (fun r22 s22 => some (r22, s22)))) (zwC ad ca σ ++ ex) 0 [(0, .ref (ad 0)), (1, .long x1), (3, .int x3), (4, .int x4)] []
  refine z_iload_n (i := 3) hX d_P_source_0 rfl rfl ?_
  refine z_bipush (v := 7) hX d_P_source_1 (by decide) ?_
  refine z_callSi (wl := zwC ad ca) (n := 2) (rest := []) hX [.int x3, .int (7 : Int32)] (ct_P_isUpTo l D ca (zwC ad ca) x3 (7 : Int32) σ) gS_P_47 ⟨rfl, rfl⟩ ⟨by decide, by decide⟩ (by decide +kernel) rfl rfl (Nat.le_of_ble_eq_true rfl) d_P_source_3 (fun r3 s3 => ?_)
  refine z_if_ne (tgt := 11) hX d_P_source_6 (by decide) (fun c6 => ?_) (fun c6 => ?_)
  · refine z_iconst (v := -1) hX d_P_source_9 (by decide) ?_
    exact z_iret hR d_P_source_10
  · refine z_aload_n (i := 0) hX d_P_source_11 rfl rfl ?_
    refine z_get (C := R_P) (T := F_P) (N := 7) hX in_P 0 rfl rfl 0 (by decide) w_field_P_10_P_0 rfl d_P_source_12 ?_
    refine z_lload_n (i := 1) hX d_P_source_15 rfl rfl ?_
    refine z_iload_n (i := 3) hX d_P_source_16 rfl rfl ?_
    refine z_iload (i := 4) hX d_P_source_17 rfl ?_
    refine z_ldc (v := 65535) hX w_const_P_51_65535 d_P_source_19 ?_
    refine z_iand hX d_P_source_21 ?_
    refine z_callVi (wl := zwC ad ca) (C := R_S) (n := 3) (rest := []) hX [.long x1, .int x3, .int (x4 &&& (65535 : Int32))] (ct_S_add l D ad ca x1 x3 (x4 &&& (65535 : Int32)) s3) gV_P_52 ⟨rfl, rfl⟩ ⟨by decide, by decide⟩ (by decide +kernel) rfl 1 rfl rfl rfl rfl (Nat.le_of_ble_eq_true rfl) d_P_source_22 (fun r22 s22 => ?_)
    exact z_iret hR d_P_source_25
def fn_S_has (x1 : Int32) (σ : zS) : Option (Int32 × zS) := if x1 < 0 then some ((0 : Int32), σ) else if x1 < (σ.1 120 0) then some ((1 : Int32), σ) else some ((0 : Int32), σ)
set_option maxRecDepth 100000 in
set_option maxHeartbeats 4000000 in
theorem ct_S_has (l : Launch) (D : va_G) (ad : Nat → Nat) (ca : Nat → ClassId) (x1 : Int32) (σ : zS) : zC zemI l y_S_has (Cond.code y_S_has b_S_has 2 (some .boolean) :: zTT) (zrm 0 0) D zcl (zKK D ca) (zwC ad ca) σ [.ref (ad 1), .int x1] (fn_S_has x1 σ) := by
  refine zmk_z (tys := zty ca) (by decide) (zKK_m D ca) (fun _ h => h.1) (Nat.le_of_ble_eq_true rfl) (fun V ex hX hR => ?_)
  show zJ V (if x1 < 0 then some ((0 : Int32), σ) else if x1 < (σ.1 120 0) then some ((1 : Int32), σ) else some ((0 : Int32), σ)) (zwC ad ca σ ++ ex) 0 [(0, .ref (ad 1)), (1, .int x1)] []
  refine z_iload_n (i := 1) hX d_S_has_0 rfl rfl ?_
  refine z_if_lt (tgt := 16) hX d_S_has_1 (by decide) (fun c1 => ?_) (fun c1 => ?_)
  · refine z_iconst (v := 0) hX d_S_has_16 (by decide) ?_
    exact z_zret hR rfl d_S_has_17
  · refine z_iload_n (i := 1) hX d_S_has_4 rfl rfl ?_
    refine z_aload_n (i := 0) hX d_S_has_5 rfl rfl ?_
    refine z_get (C := R_S) (T := F_S) (N := 5) hX in_S 1 rfl rfl 0 (by decide) w_field_S_26_S_0 rfl d_S_has_6 ?_
    refine z_icmp_ge (tgt := 16) hX d_S_has_9 (by decide) (fun c9 => ?_) (fun c9 => ?_)
    · refine z_iconst (v := 1) hX d_S_has_12 (by decide) ?_
      refine z_goto (tgt := 17) hX d_S_has_13 (by decide) ?_
      exact z_zret hR rfl d_S_has_17
    · refine z_iconst (v := 0) hX d_S_has_16 (by decide) ?_
      exact z_zret hR rfl d_S_has_17
def fn_P_fetched (x1 : Int32) (x2 : Int32) (σ : zS) : Option (Int32 × zS) := zb (fn_S_has x1 σ) (fun r5 s5 => if r5 = 0 then some ((0 : Int32), s5) else if x2 = 0 then zgd (zin x1 24) (some ((1 : Int32), (zI s5 5 x1.toNatClampNeg (vp_nar .boolean (1 : Int32))))) else zgd (zin x1 24) (some ((1 : Int32), (zI s5 5 x1.toNatClampNeg (vp_nar .boolean (0 : Int32))))))
set_option maxRecDepth 100000 in
set_option maxHeartbeats 4000000 in
theorem ct_P_fetched (l : Launch) (D : va_G) (ad : Nat → Nat) (ca : Nat → ClassId) (x1 : Int32) (x2 : Int32) (σ : zS) : zC zemI l y_P_fetched (Cond.code y_P_fetched b_P_fetched 3 (some .boolean) :: zTT) (zrm 1 21) D zcl (zKK D ca) (zwC ad ca) σ [.ref (ad 0), .int x1, .int x2] (fn_P_fetched x1 x2 σ) := by
  refine zmk_z (tys := zty ca) (by decide) (zKK_m D ca) (fun _ h => h.1) (Nat.le_of_ble_eq_true rfl) (fun V ex hX hR => ?_)
  show zJ V (zb (fn_S_has x1 σ) (fun r5 s5 => if r5 = 0 then some ((0 : Int32), s5) else if x2 = 0 then zgd (zin x1 24) (some ((1 : Int32), (zI s5 5 x1.toNatClampNeg (vp_nar .boolean (1 : Int32))))) else zgd (zin x1 24) (some ((1 : Int32), (zI s5 5 x1.toNatClampNeg (vp_nar .boolean (0 : Int32))))))) (zwC ad ca σ ++ ex) 0 [(0, .ref (ad 0)), (1, .int x1), (2, .int x2)] []
  refine z_aload_n (i := 0) hX d_P_fetched_0 rfl rfl ?_
  refine z_get (C := R_P) (T := F_P) (N := 7) hX in_P 0 rfl rfl 0 (by decide) w_field_P_10_P_0 rfl d_P_fetched_1 ?_
  refine z_iload_n (i := 1) hX d_P_fetched_4 rfl rfl ?_
  refine z_callVi (wl := zwC ad ca) (C := R_S) (n := 1) (rest := []) hX [.int x1] (ct_S_has l D ad ca x1 σ) gV_P_56 ⟨rfl, rfl⟩ ⟨by decide, by decide⟩ (by decide +kernel) rfl 1 rfl rfl rfl rfl (Nat.le_of_ble_eq_true rfl) d_P_fetched_5 (fun r5 s5 => ?_)
  refine z_if_ne (tgt := 13) hX d_P_fetched_8 (by decide) (fun c8 => ?_) (fun c8 => ?_)
  · refine z_iconst (v := 0) hX d_P_fetched_11 (by decide) ?_
    exact z_zret hR rfl d_P_fetched_12
  · refine z_aload_n (i := 0) hX d_P_fetched_13 rfl rfl ?_
    refine z_get (C := R_P) (T := F_P) (N := 7) hX in_P 0 rfl rfl 0 (by decide) w_field_P_10_P_0 rfl d_P_fetched_14 ?_
    refine z_get (C := R_S) (T := F_S) (N := 5) hX in_S 1 rfl rfl 4 (by decide) w_field_P_60_S_4 rfl d_P_fetched_17 ?_
    refine z_iload_n (i := 1) hX d_P_fetched_20 rfl rfl ?_
    refine z_iload_n (i := 2) hX d_P_fetched_21 rfl rfl ?_
    refine z_if_ne (tgt := 29) hX d_P_fetched_22 (by decide) (fun c22 => ?_) (fun c22 => ?_)
    · refine z_iconst (v := 1) hX d_P_fetched_25 (by decide) ?_
      refine z_goto (tgt := 30) hX d_P_fetched_26 (by decide) ?_
      refine z_zast (w2 := zwC ad ca (zI s5 5 x1.toNatClampNeg (vp_nar .boolean (1 : Int32))) ++ ex) hX 5 3 rfl rfl rfl d_P_fetched_30 ?_
      refine z_iconst (v := 1) hX d_P_fetched_31 (by decide) ?_
      exact z_zret hR rfl d_P_fetched_32
    · refine z_iconst (v := 0) hX d_P_fetched_29 (by decide) ?_
      refine z_zast (w2 := zwC ad ca (zI s5 5 x1.toNatClampNeg (vp_nar .boolean (0 : Int32))) ++ ex) hX 5 3 rfl rfl rfl d_P_fetched_30 ?_
      refine z_iconst (v := 1) hX d_P_fetched_31 (by decide) ?_
      exact z_zret hR rfl d_P_fetched_32
def fn_W_valueAt_n (x1 : Int32) (x2 : Int32) (σ : zS) : Option (Int64 × zS) := zgd (zin ((x1 * (6 : Int32)) + x2) 192) (some (σ.2 17 ((x1 * (6 : Int32)) + x2).toNatClampNeg, σ))
set_option maxRecDepth 100000 in
set_option maxHeartbeats 4000000 in
theorem ct_W_valueAt_n (l : Launch) (D : va_G) (ad : Nat → Nat) (ca : Nat → ClassId) (x1 : Int32) (x2 : Int32) (σ : zS) : zC zemL l y_W_valueAt (Cond.code y_W_valueAt b_W_valueAt 3 (some .long) :: zTT) (zrm 0 0) D zcl (zKK D ca) (zwC ad ca) σ [.ref (ad 15), .int x1, .int x2] (fn_W_valueAt_n x1 x2 σ) := by
  refine zmk_l (tys := zty ca) (by decide) (zKK_m D ca) (fun _ h => h.1) (Nat.le_of_ble_eq_true rfl) (fun V ex hX hR => ?_)
  show zJ V (zgd (zin ((x1 * (6 : Int32)) + x2) 192) (some (σ.2 17 ((x1 * (6 : Int32)) + x2).toNatClampNeg, σ))) (zwC ad ca σ ++ ex) 0 [(0, .ref (ad 15)), (1, .int x1), (2, .int x2)] []
  refine z_aload_n (i := 0) hX d_W_valueAt_0 rfl rfl ?_
  refine z_get (C := R_W) (T := F_W) (N := 2) hX in_W 15 rfl rfl 1 (by decide) w_field_W_15_W_1 rfl d_W_valueAt_1 ?_
  refine z_iload_n (i := 1) hX d_W_valueAt_4 rfl rfl ?_
  refine z_bipush (v := 6) hX d_W_valueAt_5 (by decide) ?_
  refine z_imul hX d_W_valueAt_7 ?_
  refine z_iload_n (i := 2) hX d_W_valueAt_8 rfl rfl ?_
  refine z_iadd hX d_W_valueAt_9 ?_
  refine z_lald hX 17 12 rfl rfl d_W_valueAt_10 ?_
  exact z_lret hR d_W_valueAt_11
def fn_A_metByAt (x1 : Int32) (x2 : Int32) (σ : zS) : Option (Int32 × zS) := zgd (zin ((x1 * (6 : Int32)) + x2) 192) (some (σ.1 18 ((x1 * (6 : Int32)) + x2).toNatClampNeg, σ))
set_option maxRecDepth 100000 in
set_option maxHeartbeats 4000000 in
theorem ct_A_metByAt (l : Launch) (D : va_G) (ad : Nat → Nat) (ca : Nat → ClassId) (x1 : Int32) (x2 : Int32) (σ : zS) : zC zemI l y_A_metByAt (Cond.code y_A_metByAt b_A_metByAt 3 (some .int) :: zTT) (zrm 0 0) D zcl (zKK D ca) (zwC ad ca) σ [.ref (ad 6), .int x1, .int x2] (fn_A_metByAt x1 x2 σ) := by
  refine zmk_i (tys := zty ca) (by decide) (zKK_m D ca) (fun _ h => h.1) (Nat.le_of_ble_eq_true rfl) (fun V ex hX hR => ?_)
  show zJ V (zgd (zin ((x1 * (6 : Int32)) + x2) 192) (some (σ.1 18 ((x1 * (6 : Int32)) + x2).toNatClampNeg, σ))) (zwC ad ca σ ++ ex) 0 [(0, .ref (ad 6)), (1, .int x1), (2, .int x2)] []
  refine z_aload_n (i := 0) hX d_A_metByAt_0 rfl rfl ?_
  refine z_get (C := R_A) (T := F_A) (N := 11) hX in_A 6 rfl rfl 8 (by decide) w_field_A_38_A_8 rfl d_A_metByAt_1 ?_
  refine z_iload_n (i := 1) hX d_A_metByAt_4 rfl rfl ?_
  refine z_bipush (v := 6) hX d_A_metByAt_5 (by decide) ?_
  refine z_imul hX d_A_metByAt_7 ?_
  refine z_iload_n (i := 2) hX d_A_metByAt_8 rfl rfl ?_
  refine z_iadd hX d_A_metByAt_9 ?_
  refine z_iald hX 18 13 rfl rfl d_A_metByAt_10 ?_
  exact z_iret hR d_A_metByAt_11
def fn_A_meetMissing_49 (k2 : Int32 → Int32 → zS → Option (Unit × zS)) (k12 : Int32 → Int32 → Int32 → zS → Option (Unit × zS)) (x1 : Int32) (x2 : Int32) (x3 : Int32) (y0 : Int32) (σ : zS) : Option (Unit × zS) := if y0 = 0 then k12 x1 x2 (x3 + 1) σ else zb (fn_A_metByAt x2 x3 σ) (fun r59 s59 => if r59 = (-1 : Int32) then zgd (zin ((x2 * (6 : Int32)) + x3) 192) (k12 x1 x2 (x3 + 1) (zI s59 18 ((x2 * (6 : Int32)) + x3).toNatClampNeg x1)) else k12 x1 x2 (x3 + 1) s59)
set_option maxRecDepth 100000 in
set_option maxHeartbeats 4000000 in
theorem bk_A_meetMissing_49 (l : Launch) (D : va_G) (ad : Nat → Nat) (ca : Nat → ClassId) {V : zV Unit} {ex : va_W} (hX : zIs V l b_A_meetMissing R_A zTT (zKK D ca) D zcl (zty ca) 5 (zrm 1 22)) (hR : zRv V b_A_meetMissing (zwC ad ca) ex) (k2 : Int32 → Int32 → zS → Option (Unit × zS)) (hk2 : ∀ (z1 : Int32) (z2 : Int32) (σ : zS), zJ V (k2 z1 z2 σ) (zwC ad ca σ ++ ex) 2 [(0, .ref (ad 6)), (1, .int z1), (2, .int z2)] []) (k12 : Int32 → Int32 → Int32 → zS → Option (Unit × zS)) (hk12 : ∀ (z1 : Int32) (z2 : Int32) (z3 : Int32) (σ : zS), zJ V (k12 z1 z2 z3 σ) (zwC ad ca σ ++ ex) 12 [(0, .ref (ad 6)), (1, .int z1), (2, .int z2), (3, .int z3)] []) : ∀ (x1 : Int32) (x2 : Int32) (x3 : Int32) (y0 : Int32) (σ : zS), zJ V (fn_A_meetMissing_49 k2 k12 x1 x2 x3 y0 σ) (zwC ad ca σ ++ ex) 49 [(0, .ref (ad 6)), (1, .int x1), (2, .int x2), (3, .int x3)] [.int y0] := by
  intro x1 x2 x3 y0 σ
  show zJ V (if y0 = 0 then k12 x1 x2 (x3 + 1) σ else zb (fn_A_metByAt x2 x3 σ) (fun r59 s59 => if r59 = (-1 : Int32) then zgd (zin ((x2 * (6 : Int32)) + x3) 192) (k12 x1 x2 (x3 + 1) (zI s59 18 ((x2 * (6 : Int32)) + x3).toNatClampNeg x1)) else k12 x1 x2 (x3 + 1) s59)) _ _ _ _
  refine z_istore (i := 4) (lv2 := [(4, .int y0), (0, .ref (ad 6)), (1, .int x1), (2, .int x2), (3, .int x3)]) hX d_A_meetMissing_49 (by decide) rfl ?_
  refine z_iload (i := 4) hX d_A_meetMissing_51 rfl ?_
  refine z_if_eq (tgt := 78) hX d_A_meetMissing_53 (by decide) (fun c53 => ?_) (fun c53 => ?_)
  · refine z_iinc (v := x3 + 1) (lv2 := [(3, .int (x3 + 1)), (4, .int y0), (0, .ref (ad 6)), (1, .int x1), (2, .int x2)]) hX d_A_meetMissing_78 4 rfl (by first | rfl | decide) (by decide) rfl ?_
    refine z_goto (tgt := 12) hX d_A_meetMissing_81 (by decide) ?_
    refine z_lv hX [2, 3, 4, 0] (lv2 := [(0, .ref (ad 6)), (1, .int x1), (2, .int x2), (3, .int (x3 + 1))]) rfl ?_
    exact hk12 _ _ _ _
  · refine z_aload_n (i := 0) hX d_A_meetMissing_56 rfl rfl ?_
    refine z_iload_n (i := 2) hX d_A_meetMissing_57 rfl rfl ?_
    refine z_iload_n (i := 3) hX d_A_meetMissing_58 rfl rfl ?_
    refine z_callVi (wl := zwC ad ca) (C := R_A) (n := 2) (rest := []) hX [.int x2, .int x3] (ct_A_metByAt l D ad ca x2 x3 σ) gV_A_62 ⟨rfl, rfl⟩ ⟨by decide, by decide⟩ (by decide +kernel) rfl 6 rfl rfl rfl rfl (Nat.le_of_ble_eq_true rfl) d_A_meetMissing_59 (fun r59 s59 => ?_)
    refine z_iconst (v := -1) hX d_A_meetMissing_62 (by decide) ?_
    refine z_icmp_ne (tgt := 78) hX d_A_meetMissing_63 (by decide) (fun c63 => ?_) (fun c63 => ?_)
    · refine z_aload_n (i := 0) hX d_A_meetMissing_66 rfl rfl ?_
      refine z_get (C := R_A) (T := F_A) (N := 11) hX in_A 6 rfl rfl 8 (by decide) w_field_A_38_A_8 rfl d_A_meetMissing_67 ?_
      refine z_iload_n (i := 2) hX d_A_meetMissing_70 rfl rfl ?_
      refine z_bipush (v := 6) hX d_A_meetMissing_71 (by decide) ?_
      refine z_imul hX d_A_meetMissing_73 ?_
      refine z_iload_n (i := 3) hX d_A_meetMissing_74 rfl rfl ?_
      refine z_iadd hX d_A_meetMissing_75 ?_
      refine z_iload_n (i := 1) hX d_A_meetMissing_76 rfl rfl ?_
      refine z_iast (w2 := zwC ad ca (zI s59 18 ((x2 * (6 : Int32)) + x3).toNatClampNeg x1) ++ ex) hX 18 13 rfl rfl rfl d_A_meetMissing_77 ?_
      refine z_iinc (v := x3 + 1) (lv2 := [(3, .int (x3 + 1)), (4, .int y0), (0, .ref (ad 6)), (1, .int x1), (2, .int x2)]) hX d_A_meetMissing_78 4 rfl (by first | rfl | decide) (by decide) rfl ?_
      refine z_goto (tgt := 12) hX d_A_meetMissing_81 (by decide) ?_
      refine z_lv hX [2, 3, 4, 0] (lv2 := [(0, .ref (ad 6)), (1, .int x1), (2, .int x2), (3, .int (x3 + 1))]) rfl ?_
      exact hk12 _ _ _ _
    · refine z_iinc (v := x3 + 1) (lv2 := [(3, .int (x3 + 1)), (4, .int y0), (0, .ref (ad 6)), (1, .int x1), (2, .int x2)]) hX d_A_meetMissing_78 4 rfl (by first | rfl | decide) (by decide) rfl ?_
      refine z_goto (tgt := 12) hX d_A_meetMissing_81 (by decide) ?_
      refine z_lv hX [2, 3, 4, 0] (lv2 := [(0, .ref (ad 6)), (1, .int x1), (2, .int x2), (3, .int (x3 + 1))]) rfl ?_
      exact hk12 _ _ _ _
def fn_A_meetMissing_12 (k2 : Int32 → Int32 → zS → Option (Unit × zS)) : Nat → Int32 → Int32 → Int32 → zS → Option (Unit × zS)
  | 0, _, _, _, _ => none
  | n + 1, x1, x2, x3, σ => zgd (zin x2 32) (if x3 < (σ.1 16 x2.toNatClampNeg) then zb (fn_W_valueAt_n x2 x3 σ) (fun r31 s31 => zgd (zin x1 32) (if (lg_cmp r31 (s31.2 7 x1.toNatClampNeg)) = 0 then fn_A_meetMissing_49 k2 (fn_A_meetMissing_12 k2 n) x1 x2 x3 (1 : Int32) s31 else fn_A_meetMissing_49 k2 (fn_A_meetMissing_12 k2 n) x1 x2 x3 (0 : Int32) s31)) else k2 x1 (x2 + 1) σ)
set_option maxRecDepth 100000 in
set_option maxHeartbeats 4000000 in
theorem bk_A_meetMissing_12 (l : Launch) (D : va_G) (ad : Nat → Nat) (ca : Nat → ClassId) {V : zV Unit} {ex : va_W} (hX : zIs V l b_A_meetMissing R_A zTT (zKK D ca) D zcl (zty ca) 5 (zrm 1 22)) (hR : zRv V b_A_meetMissing (zwC ad ca) ex) (k2 : Int32 → Int32 → zS → Option (Unit × zS)) (hk2 : ∀ (z1 : Int32) (z2 : Int32) (σ : zS), zJ V (k2 z1 z2 σ) (zwC ad ca σ ++ ex) 2 [(0, .ref (ad 6)), (1, .int z1), (2, .int z2)] []) : ∀ (n : Nat) (x1 : Int32) (x2 : Int32) (x3 : Int32) (σ : zS), zJ V (fn_A_meetMissing_12 k2 n x1 x2 x3 σ) (zwC ad ca σ ++ ex) 12 [(0, .ref (ad 6)), (1, .int x1), (2, .int x2), (3, .int x3)] [] := by
  intro n
  induction n with
  | zero => intros; exact z_none
  | succ n ih =>
    intro x1 x2 x3 σ
    show zJ V (zgd (zin x2 32) (if x3 < (σ.1 16 x2.toNatClampNeg) then zb (fn_W_valueAt_n x2 x3 σ) (fun r31 s31 => zgd (zin x1 32) (if (lg_cmp r31 (s31.2 7 x1.toNatClampNeg)) = 0 then fn_A_meetMissing_49 k2 (fn_A_meetMissing_12 k2 n) x1 x2 x3 (1 : Int32) s31 else fn_A_meetMissing_49 k2 (fn_A_meetMissing_12 k2 n) x1 x2 x3 (0 : Int32) s31)) else k2 x1 (x2 + 1) σ)) _ _ _ _
    refine z_iload_n (i := 3) hX d_A_meetMissing_12 rfl rfl ?_
    refine z_aload_n (i := 0) hX d_A_meetMissing_13 rfl rfl ?_
    refine z_get (C := R_A) (T := F_A) (N := 11) hX in_A 6 rfl rfl 7 (by decide) w_field_A_35_A_7 rfl d_A_meetMissing_14 ?_
    refine z_get (C := R_W) (T := F_W) (N := 2) hX in_W 15 rfl rfl 0 (by decide) w_field_A_55_W_0 rfl d_A_meetMissing_17 ?_
    refine z_iload_n (i := 2) hX d_A_meetMissing_20 rfl rfl ?_
    refine z_iald hX 16 11 rfl rfl d_A_meetMissing_21 ?_
    refine z_icmp_ge (tgt := 84) hX d_A_meetMissing_22 (by decide) (fun c22 => ?_) (fun c22 => ?_)
    · refine z_aload_n (i := 0) hX d_A_meetMissing_25 rfl rfl ?_
      refine z_get (C := R_A) (T := F_A) (N := 11) hX in_A 6 rfl rfl 7 (by decide) w_field_A_35_A_7 rfl d_A_meetMissing_26 ?_
      refine z_iload_n (i := 2) hX d_A_meetMissing_29 rfl rfl ?_
      refine z_iload_n (i := 3) hX d_A_meetMissing_30 rfl rfl ?_
      refine z_callVl (wl := zwC ad ca) (C := R_W) (n := 2) (rest := []) hX [.int x2, .int x3] (ct_W_valueAt_n l D ad ca x2 x3 σ) gV_A_58 ⟨rfl, rfl⟩ ⟨by decide, by decide⟩ (by decide +kernel) rfl 15 rfl rfl rfl rfl (Nat.le_of_ble_eq_true rfl) d_A_meetMissing_31 (fun r31 s31 => ?_)
      refine z_aload_n (i := 0) hX d_A_meetMissing_34 rfl rfl ?_
      refine z_get (C := R_A) (T := F_A) (N := 11) hX in_A 6 rfl rfl 1 (by decide) w_field_A_9_A_1 rfl d_A_meetMissing_35 ?_
      refine z_iload_n (i := 1) hX d_A_meetMissing_38 rfl rfl ?_
      refine z_lald hX 7 4 rfl rfl d_A_meetMissing_39 ?_
      refine z_lcmp hX d_A_meetMissing_40 ?_
      refine z_if_ne (tgt := 48) hX d_A_meetMissing_41 (by decide) (fun c41 => ?_) (fun c41 => ?_)
      · refine z_iconst (v := 1) hX d_A_meetMissing_44 (by decide) ?_
        refine z_goto (tgt := 49) hX d_A_meetMissing_45 (by decide) ?_
        exact bk_A_meetMissing_49 l D ad ca hX hR k2 hk2 (fn_A_meetMissing_12 k2 n) ih _ _ _ _ _
      · refine z_iconst (v := 0) hX d_A_meetMissing_48 (by decide) ?_
        exact bk_A_meetMissing_49 l D ad ca hX hR k2 hk2 (fn_A_meetMissing_12 k2 n) ih _ _ _ _ _
    · refine z_iinc (v := x2 + 1) (lv2 := [(2, .int (x2 + 1)), (0, .ref (ad 6)), (1, .int x1), (3, .int x3)]) hX d_A_meetMissing_84 2 rfl (by first | rfl | decide) (by decide) rfl ?_
      refine z_goto (tgt := 2) hX d_A_meetMissing_87 (by decide) ?_
      refine z_lv hX [1, 2, 0] (lv2 := [(0, .ref (ad 6)), (1, .int x1), (2, .int (x2 + 1))]) rfl ?_
      exact hk2 _ _ _
def fn_A_meetMissing_2 : Nat → Int32 → Int32 → zS → Option (Unit × zS)
  | 0, _, _, _ => none
  | n + 1, x1, x2, σ => if x2 < (σ.1 220 0) then fn_A_meetMissing_12 (fn_A_meetMissing_2 n) 100 x1 x2 (0 : Int32) σ else some ((), σ)
set_option maxRecDepth 100000 in
set_option maxHeartbeats 4000000 in
theorem bk_A_meetMissing_2 (l : Launch) (D : va_G) (ad : Nat → Nat) (ca : Nat → ClassId) {V : zV Unit} {ex : va_W} (hX : zIs V l b_A_meetMissing R_A zTT (zKK D ca) D zcl (zty ca) 5 (zrm 1 22)) (hR : zRv V b_A_meetMissing (zwC ad ca) ex) : ∀ (n : Nat) (x1 : Int32) (x2 : Int32) (σ : zS), zJ V (fn_A_meetMissing_2 n x1 x2 σ) (zwC ad ca σ ++ ex) 2 [(0, .ref (ad 6)), (1, .int x1), (2, .int x2)] [] := by
  intro n
  induction n with
  | zero => intros; exact z_none
  | succ n ih =>
    intro x1 x2 σ
    show zJ V (if x2 < (σ.1 220 0) then fn_A_meetMissing_12 (fn_A_meetMissing_2 n) 100 x1 x2 (0 : Int32) σ else some ((), σ)) _ _ _ _
    refine z_iload_n (i := 2) hX d_A_meetMissing_2 rfl rfl ?_
    refine z_aload_n (i := 0) hX d_A_meetMissing_3 rfl rfl ?_
    refine z_get (C := R_A) (T := F_A) (N := 11) hX in_A 6 rfl rfl 0 (by decide) w_field_A_47_A_0 rfl d_A_meetMissing_4 ?_
    refine z_icmp_ge (tgt := 90) hX d_A_meetMissing_7 (by decide) (fun c7 => ?_) (fun c7 => ?_)
    · refine z_iconst (v := 0) hX d_A_meetMissing_10 (by decide) ?_
      refine z_istore_n (i := 3) (lv2 := [(3, .int (0 : Int32)), (0, .ref (ad 6)), (1, .int x1), (2, .int x2)]) hX d_A_meetMissing_11 rfl (by decide) rfl ?_
      refine z_lv hX [1, 2, 3, 0] (lv2 := [(0, .ref (ad 6)), (1, .int x1), (2, .int x2), (3, .int (0 : Int32))]) rfl ?_
      exact bk_A_meetMissing_12 l D ad ca hX hR (fn_A_meetMissing_2 n) ih 100 _ _ _ _
    · exact z_vret hR d_A_meetMissing_90
def fn_A_meetMissing (x1 : Int32) (σ : zS) : Option (Unit × zS) := fn_A_meetMissing_2 100 x1 (0 : Int32) σ
set_option maxRecDepth 100000 in
set_option maxHeartbeats 4000000 in
theorem ct_A_meetMissing (l : Launch) (D : va_G) (ad : Nat → Nat) (ca : Nat → ClassId) (x1 : Int32) (σ : zS) : zC zemV l y_A_meetMissing (Cond.code y_A_meetMissing b_A_meetMissing 5 none :: zTT) (zrm 1 22) D zcl (zKK D ca) (zwC ad ca) σ [.ref (ad 6), .int x1] (fn_A_meetMissing x1 σ) := by
  refine zmk_v (tys := zty ca) (by decide) (zKK_m D ca) (fun _ h => h.1) (Nat.le_of_ble_eq_true rfl) (fun V ex hX hR => ?_)
  show zJ V (fn_A_meetMissing_2 100 x1 (0 : Int32) σ) (zwC ad ca σ ++ ex) 0 [(0, .ref (ad 6)), (1, .int x1)] []
  refine z_iconst (v := 0) hX d_A_meetMissing_0 (by decide) ?_
  refine z_istore_n (i := 2) (lv2 := [(2, .int (0 : Int32)), (0, .ref (ad 6)), (1, .int x1)]) hX d_A_meetMissing_1 rfl (by decide) rfl ?_
  refine z_lv hX [1, 2, 0] (lv2 := [(0, .ref (ad 6)), (1, .int x1), (2, .int (0 : Int32))]) rfl ?_
  exact bk_A_meetMissing_2 l D ad ca hX hR 100 _ _ _
def fn_A_add (x1 : Int64) (x3 : Int32) (x4 : Int32) (x5 : Int32) (x6 : Int32) (σ : zS) : Option (Int32 × zS) := if (σ.1 220 0) < (32 : Int32) then zgd (zin (σ.1 220 0) 32) (zgd (zin (σ.1 220 0) 32) (zgd (zin (σ.1 220 0) 32) (zgd (zin (σ.1 220 0) 32) (zgd (zin (σ.1 220 0) 32) (zb (fn_A_meetMissing (σ.1 220 0) (zF (zI (zI (zI (zI (zL σ 7 (σ.1 220 0).toNatClampNeg x1) 8 (σ.1 220 0).toNatClampNeg x3) 9 (σ.1 220 0).toNatClampNeg x4) 10 (σ.1 220 0).toNatClampNeg x5) 11 (σ.1 220 0).toNatClampNeg x6) 220 (((zI (zI (zI (zI (zL σ 7 (σ.1 220 0).toNatClampNeg x1) 8 (σ.1 220 0).toNatClampNeg x3) 9 (σ.1 220 0).toNatClampNeg x4) 10 (σ.1 220 0).toNatClampNeg x5) 11 (σ.1 220 0).toNatClampNeg x6).1 220 0) + (1 : Int32)))) (fun r73 s73 => some (σ.1 220 0, s73))))))) else some ((-1 : Int32), σ)
set_option maxRecDepth 100000 in
set_option maxHeartbeats 4000000 in
theorem ct_A_add (l : Launch) (D : va_G) (ad : Nat → Nat) (ca : Nat → ClassId) (x1 : Int64) (x3 : Int32) (x4 : Int32) (x5 : Int32) (x6 : Int32) (σ : zS) : zC zemI l y_A_add (Cond.code y_A_add b_A_add 8 (some .int) :: zTT) (zrm 2 46) D zcl (zKK D ca) (zwC ad ca) σ [.ref (ad 6), .long x1, .int x3, .int x4, .int x5, .int x6] (fn_A_add x1 x3 x4 x5 x6 σ) := by
  refine zmk_i (tys := zty ca) (by decide) (zKK_m D ca) (fun _ h => h.1) (Nat.le_of_ble_eq_true rfl) (fun V ex hX hR => ?_)
  show zJ V (if (σ.1 220 0) < (32 : Int32) then zgd (zin (σ.1 220 0) 32) (zgd (zin (σ.1 220 0) 32) (zgd (zin (σ.1 220 0) 32) (zgd (zin (σ.1 220 0) 32) (zgd (zin (σ.1 220 0) 32) (zb (fn_A_meetMissing (σ.1 220 0) (zF (zI (zI (zI (zI (zL σ 7 (σ.1 220 0).toNatClampNeg x1) 8 (σ.1 220 0).toNatClampNeg x3) 9 (σ.1 220 0).toNatClampNeg x4) 10 (σ.1 220 0).toNatClampNeg x5) 11 (σ.1 220 0).toNatClampNeg x6) 220 (((zI (zI (zI (zI (zL σ 7 (σ.1 220 0).toNatClampNeg x1) 8 (σ.1 220 0).toNatClampNeg x3) 9 (σ.1 220 0).toNatClampNeg x4) 10 (σ.1 220 0).toNatClampNeg x5) 11 (σ.1 220 0).toNatClampNeg x6).1 220 0) + (1 : Int32)))) (fun r73 s73 => some (σ.1 220 0, s73))))))) else some ((-1 : Int32), σ)) (zwC ad ca σ ++ ex) 0 [(0, .ref (ad 6)), (1, .long x1), (3, .int x3), (4, .int x4), (5, .int x5), (6, .int x6)] []
  refine z_aload_n (i := 0) hX d_A_add_0 rfl rfl ?_
  refine z_get (C := R_A) (T := F_A) (N := 11) hX in_A 6 rfl rfl 0 (by decide) w_field_A_47_A_0 rfl d_A_add_1 ?_
  refine z_bipush (v := 32) hX d_A_add_4 (by decide) ?_
  refine z_icmp_lt (tgt := 11) hX d_A_add_6 (by decide) (fun c6 => ?_) (fun c6 => ?_)
  · refine z_aload_n (i := 0) hX d_A_add_11 rfl rfl ?_
    refine z_get (C := R_A) (T := F_A) (N := 11) hX in_A 6 rfl rfl 0 (by decide) w_field_A_47_A_0 rfl d_A_add_12 ?_
    refine z_istore (i := 7) (lv2 := [(7, .int (σ.1 220 0)), (0, .ref (ad 6)), (1, .long x1), (3, .int x3), (4, .int x4), (5, .int x5), (6, .int x6)]) hX d_A_add_15 (by decide) rfl ?_
    refine z_aload_n (i := 0) hX d_A_add_17 rfl rfl ?_
    refine z_get (C := R_A) (T := F_A) (N := 11) hX in_A 6 rfl rfl 1 (by decide) w_field_A_9_A_1 rfl d_A_add_18 ?_
    refine z_iload (i := 7) hX d_A_add_21 rfl ?_
    refine z_lload_n (i := 1) hX d_A_add_23 rfl rfl ?_
    refine z_last (w2 := zwC ad ca (zL σ 7 (σ.1 220 0).toNatClampNeg x1) ++ ex) hX 7 4 rfl rfl rfl d_A_add_24 ?_
    refine z_aload_n (i := 0) hX d_A_add_25 rfl rfl ?_
    refine z_get (C := R_A) (T := F_A) (N := 11) hX in_A 6 rfl rfl 2 (by decide) w_field_A_15_A_2 rfl d_A_add_26 ?_
    refine z_iload (i := 7) hX d_A_add_29 rfl ?_
    refine z_iload_n (i := 3) hX d_A_add_31 rfl rfl ?_
    refine z_iast (w2 := zwC ad ca (zI (zL σ 7 (σ.1 220 0).toNatClampNeg x1) 8 (σ.1 220 0).toNatClampNeg x3) ++ ex) hX 8 5 rfl rfl rfl d_A_add_32 ?_
    refine z_aload_n (i := 0) hX d_A_add_33 rfl rfl ?_
    refine z_get (C := R_A) (T := F_A) (N := 11) hX in_A 6 rfl rfl 3 (by decide) w_field_A_19_A_3 rfl d_A_add_34 ?_
    refine z_iload (i := 7) hX d_A_add_37 rfl ?_
    refine z_iload (i := 4) hX d_A_add_39 rfl ?_
    refine z_iast (w2 := zwC ad ca (zI (zI (zL σ 7 (σ.1 220 0).toNatClampNeg x1) 8 (σ.1 220 0).toNatClampNeg x3) 9 (σ.1 220 0).toNatClampNeg x4) ++ ex) hX 9 6 rfl rfl rfl d_A_add_41 ?_
    refine z_aload_n (i := 0) hX d_A_add_42 rfl rfl ?_
    refine z_get (C := R_A) (T := F_A) (N := 11) hX in_A 6 rfl rfl 4 (by decide) w_field_A_22_A_4 rfl d_A_add_43 ?_
    refine z_iload (i := 7) hX d_A_add_46 rfl ?_
    refine z_iload (i := 5) hX d_A_add_48 rfl ?_
    refine z_iast (w2 := zwC ad ca (zI (zI (zI (zL σ 7 (σ.1 220 0).toNatClampNeg x1) 8 (σ.1 220 0).toNatClampNeg x3) 9 (σ.1 220 0).toNatClampNeg x4) 10 (σ.1 220 0).toNatClampNeg x5) ++ ex) hX 10 7 rfl rfl rfl d_A_add_50 ?_
    refine z_aload_n (i := 0) hX d_A_add_51 rfl rfl ?_
    refine z_get (C := R_A) (T := F_A) (N := 11) hX in_A 6 rfl rfl 5 (by decide) w_field_A_25_A_5 rfl d_A_add_52 ?_
    refine z_iload (i := 7) hX d_A_add_55 rfl ?_
    refine z_iload (i := 6) hX d_A_add_57 rfl ?_
    refine z_iast (w2 := zwC ad ca (zI (zI (zI (zI (zL σ 7 (σ.1 220 0).toNatClampNeg x1) 8 (σ.1 220 0).toNatClampNeg x3) 9 (σ.1 220 0).toNatClampNeg x4) 10 (σ.1 220 0).toNatClampNeg x5) 11 (σ.1 220 0).toNatClampNeg x6) ++ ex) hX 11 8 rfl rfl rfl d_A_add_59 ?_
    refine z_aload_n (i := 0) hX d_A_add_60 rfl rfl ?_
    refine z_dup hX d_A_add_61 rfl ?_
    refine z_get (C := R_A) (T := F_A) (N := 11) hX in_A 6 rfl rfl 0 (by decide) w_field_A_47_A_0 rfl d_A_add_62 ?_
    refine z_iconst (v := 1) hX d_A_add_65 (by decide) ?_
    refine z_iadd hX d_A_add_66 ?_
    refine z_put (C := R_A) (T := F_A) (N := 11) (w2 := zwC ad ca (zF (zI (zI (zI (zI (zL σ 7 (σ.1 220 0).toNatClampNeg x1) 8 (σ.1 220 0).toNatClampNeg x3) 9 (σ.1 220 0).toNatClampNeg x4) 10 (σ.1 220 0).toNatClampNeg x5) 11 (σ.1 220 0).toNatClampNeg x6) 220 (((zI (zI (zI (zI (zL σ 7 (σ.1 220 0).toNatClampNeg x1) 8 (σ.1 220 0).toNatClampNeg x3) 9 (σ.1 220 0).toNatClampNeg x4) 10 (σ.1 220 0).toNatClampNeg x5) 11 (σ.1 220 0).toNatClampNeg x6).1 220 0) + (1 : Int32))) ++ ex) hX in_A t_A t_A_ok n_A 6 rfl rfl 0 (by decide) w_field_A_47_A_0 rfl rfl rfl (Nat.le_of_ble_eq_true rfl) rfl d_A_add_67 ?_
    refine z_aload_n (i := 0) hX d_A_add_70 rfl rfl ?_
    refine z_iload (i := 7) hX d_A_add_71 rfl ?_
    refine z_callVv (wl := zwC ad ca) (C := R_A) (n := 1) (rest := []) hX [.int (σ.1 220 0)] (ct_A_meetMissing l D ad ca (σ.1 220 0) (zF (zI (zI (zI (zI (zL σ 7 (σ.1 220 0).toNatClampNeg x1) 8 (σ.1 220 0).toNatClampNeg x3) 9 (σ.1 220 0).toNatClampNeg x4) 10 (σ.1 220 0).toNatClampNeg x5) 11 (σ.1 220 0).toNatClampNeg x6) 220 (((zI (zI (zI (zI (zL σ 7 (σ.1 220 0).toNatClampNeg x1) 8 (σ.1 220 0).toNatClampNeg x3) 9 (σ.1 220 0).toNatClampNeg x4) 10 (σ.1 220 0).toNatClampNeg x5) 11 (σ.1 220 0).toNatClampNeg x6).1 220 0) + (1 : Int32)))) gV_A_51 ⟨rfl, rfl⟩ ⟨by decide, by decide⟩ (by decide +kernel) rfl 6 rfl rfl rfl rfl (Nat.le_of_ble_eq_true rfl) d_A_add_73 (fun r73 s73 => ?_)
    refine z_iload (i := 7) hX d_A_add_76 rfl ?_
    exact z_iret hR d_A_add_78
  · refine z_iconst (v := -1) hX d_A_add_9 (by decide) ?_
    exact z_iret hR d_A_add_10
def fn_P_artefact_19 (x1 : Int64) (x3 : Int32) (x4 : Int32) (x5 : Int32) (x6 : Int32) (y0 : Int32) (σ : zS) : Option (Int32 × zS) := if y0 = 0 then some ((-1 : Int32), σ) else zb (fn_P_isUpTo x4 (7 : Int32) σ) (fun r30 s30 => if r30 = 0 then some ((-1 : Int32), s30) else zb (fn_P_isUpTo x5 (15 : Int32) s30) (fun r42 s42 => if r42 = 0 then some ((-1 : Int32), s42) else zb (fn_P_isUpTo x6 (1000000000 : Int32) s42) (fun r52 s52 => if r52 = 0 then some ((-1 : Int32), s52) else zb (fn_A_add x1 x3 x4 x5 x6 s52) (fun r72 s72 => some (r72, s72)))))
set_option maxRecDepth 100000 in
set_option maxHeartbeats 4000000 in
theorem bk_P_artefact_19 (l : Launch) (D : va_G) (ad : Nat → Nat) (ca : Nat → ClassId) {V : zV Int32} {ex : va_W} (hX : zIs V l b_P_artefact R_P zTT (zKK D ca) D zcl (zty ca) 8 (zrm 3 73)) (hR : zRi V b_P_artefact (zwC ad ca) ex) : ∀ (x1 : Int64) (x3 : Int32) (x4 : Int32) (x5 : Int32) (x6 : Int32) (y0 : Int32) (σ : zS), zJ V (fn_P_artefact_19 x1 x3 x4 x5 x6 y0 σ) (zwC ad ca σ ++ ex) 19 [(0, .ref (ad 0)), (1, .long x1), (3, .int x3), (4, .int x4), (5, .int x5), (6, .int x6)] [.int y0] := by
  intro x1 x3 x4 x5 x6 y0 σ
  show zJ V (if y0 = 0 then some ((-1 : Int32), σ) else zb (fn_P_isUpTo x4 (7 : Int32) σ) (fun r30 s30 => if r30 = 0 then some ((-1 : Int32), s30) else zb (fn_P_isUpTo x5 (15 : Int32) s30) (fun r42 s42 => if r42 = 0 then some ((-1 : Int32), s42) else zb (fn_P_isUpTo x6 (1000000000 : Int32) s42) (fun r52 s52 => if r52 = 0 then some ((-1 : Int32), s52) else zb (fn_A_add x1 x3 x4 x5 x6 s52) (fun r72 s72 => some (r72, s72)))))) _ _ _ _
  refine z_istore (i := 7) (lv2 := [(7, .int y0), (0, .ref (ad 0)), (1, .long x1), (3, .int x3), (4, .int x4), (5, .int x5), (6, .int x6)]) hX d_P_artefact_19 (by decide) rfl ?_
  refine z_iload (i := 7) hX d_P_artefact_21 rfl ?_
  refine z_if_eq (tgt := 36) hX d_P_artefact_23 (by decide) (fun c23 => ?_) (fun c23 => ?_)
  · refine z_iconst (v := -1) hX d_P_artefact_36 (by decide) ?_
    exact z_iret hR d_P_artefact_37
  · refine z_iload (i := 4) hX d_P_artefact_26 rfl ?_
    refine z_bipush (v := 7) hX d_P_artefact_28 (by decide) ?_
    refine z_callSi (wl := zwC ad ca) (n := 2) (rest := []) hX [.int x4, .int (7 : Int32)] (ct_P_isUpTo l D ca (zwC ad ca) x4 (7 : Int32) σ) gS_P_47 ⟨rfl, rfl⟩ ⟨by decide, by decide⟩ (by decide +kernel) rfl rfl (Nat.le_of_ble_eq_true rfl) d_P_artefact_30 (fun r30 s30 => ?_)
    refine z_if_ne (tgt := 38) hX d_P_artefact_33 (by decide) (fun c33 => ?_) (fun c33 => ?_)
    · refine z_iconst (v := -1) hX d_P_artefact_36 (by decide) ?_
      exact z_iret hR d_P_artefact_37
    · refine z_iload (i := 5) hX d_P_artefact_38 rfl ?_
      refine z_bipush (v := 15) hX d_P_artefact_40 (by decide) ?_
      refine z_callSi (wl := zwC ad ca) (n := 2) (rest := []) hX [.int x5, .int (15 : Int32)] (ct_P_isUpTo l D ca (zwC ad ca) x5 (15 : Int32) s30) gS_P_47 ⟨rfl, rfl⟩ ⟨by decide, by decide⟩ (by decide +kernel) rfl rfl (Nat.le_of_ble_eq_true rfl) d_P_artefact_42 (fun r42 s42 => ?_)
      refine z_if_eq (tgt := 58) hX d_P_artefact_45 (by decide) (fun c45 => ?_) (fun c45 => ?_)
      · refine z_iconst (v := -1) hX d_P_artefact_58 (by decide) ?_
        exact z_iret hR d_P_artefact_59
      · refine z_iload (i := 6) hX d_P_artefact_48 rfl ?_
        refine z_ldc (v := 1000000000) hX w_const_P_64_1000000000 d_P_artefact_50 ?_
        refine z_callSi (wl := zwC ad ca) (n := 2) (rest := []) hX [.int x6, .int (1000000000 : Int32)] (ct_P_isUpTo l D ca (zwC ad ca) x6 (1000000000 : Int32) s42) gS_P_47 ⟨rfl, rfl⟩ ⟨by decide, by decide⟩ (by decide +kernel) rfl rfl (Nat.le_of_ble_eq_true rfl) d_P_artefact_52 (fun r52 s52 => ?_)
        refine z_if_ne (tgt := 60) hX d_P_artefact_55 (by decide) (fun c55 => ?_) (fun c55 => ?_)
        · refine z_iconst (v := -1) hX d_P_artefact_58 (by decide) ?_
          exact z_iret hR d_P_artefact_59
        · refine z_aload_n (i := 0) hX d_P_artefact_60 rfl rfl ?_
          refine z_get (C := R_P) (T := F_P) (N := 7) hX in_P 0 rfl rfl 1 (by decide) w_field_P_19_P_1 rfl d_P_artefact_61 ?_
          refine z_lload_n (i := 1) hX d_P_artefact_64 rfl rfl ?_
          refine z_iload_n (i := 3) hX d_P_artefact_65 rfl rfl ?_
          refine z_iload (i := 4) hX d_P_artefact_66 rfl ?_
          refine z_iload (i := 5) hX d_P_artefact_68 rfl ?_
          refine z_iload (i := 6) hX d_P_artefact_70 rfl ?_
          refine z_callVi (wl := zwC ad ca) (C := R_A) (n := 5) (rest := []) hX [.long x1, .int x3, .int x4, .int x5, .int x6] (ct_A_add l D ad ca x1 x3 x4 x5 x6 s52) gV_P_65 ⟨rfl, rfl⟩ ⟨by decide, by decide⟩ (by decide +kernel) rfl 6 rfl rfl rfl rfl (Nat.le_of_ble_eq_true rfl) d_P_artefact_72 (fun r72 s72 => ?_)
          exact z_iret hR d_P_artefact_75
def fn_P_artefact_14 (x1 : Int64) (x3 : Int32) (x4 : Int32) (x5 : Int32) (x6 : Int32) (σ : zS) : Option (Int32 × zS) := fn_P_artefact_19 x1 x3 x4 x5 x6 (1 : Int32) σ
set_option maxRecDepth 100000 in
set_option maxHeartbeats 4000000 in
theorem bk_P_artefact_14 (l : Launch) (D : va_G) (ad : Nat → Nat) (ca : Nat → ClassId) {V : zV Int32} {ex : va_W} (hX : zIs V l b_P_artefact R_P zTT (zKK D ca) D zcl (zty ca) 8 (zrm 3 73)) (hR : zRi V b_P_artefact (zwC ad ca) ex) : ∀ (x1 : Int64) (x3 : Int32) (x4 : Int32) (x5 : Int32) (x6 : Int32) (σ : zS), zJ V (fn_P_artefact_14 x1 x3 x4 x5 x6 σ) (zwC ad ca σ ++ ex) 14 [(0, .ref (ad 0)), (1, .long x1), (3, .int x3), (4, .int x4), (5, .int x5), (6, .int x6)] [] := by
  intro x1 x3 x4 x5 x6 σ
  show zJ V (fn_P_artefact_19 x1 x3 x4 x5 x6 (1 : Int32) σ) _ _ _ _
  refine z_iconst (v := 1) hX d_P_artefact_14 (by decide) ?_
  refine z_goto (tgt := 19) hX d_P_artefact_15 (by decide) ?_
  exact bk_P_artefact_19 l D ad ca hX hR _ _ _ _ _ _ _
def fn_P_artefact (x1 : Int64) (x3 : Int32) (x4 : Int32) (x5 : Int32) (x6 : Int32) (σ : zS) : Option (Int32 × zS) := if x3 = (-1 : Int32) then fn_P_artefact_14 x1 x3 x4 x5 x6 σ else zb (fn_P_isUpTo x3 (7 : Int32) σ) (fun r8 s8 => if r8 = 0 then fn_P_artefact_19 x1 x3 x4 x5 x6 (0 : Int32) s8 else fn_P_artefact_14 x1 x3 x4 x5 x6 s8)
set_option maxRecDepth 100000 in
set_option maxHeartbeats 4000000 in
theorem ct_P_artefact (l : Launch) (D : va_G) (ad : Nat → Nat) (ca : Nat → ClassId) (x1 : Int64) (x3 : Int32) (x4 : Int32) (x5 : Int32) (x6 : Int32) (σ : zS) : zC zemI l y_P_artefact (Cond.code y_P_artefact b_P_artefact 8 (some .int) :: zTT) (zrm 3 73) D zcl (zKK D ca) (zwC ad ca) σ [.ref (ad 0), .long x1, .int x3, .int x4, .int x5, .int x6] (fn_P_artefact x1 x3 x4 x5 x6 σ) := by
  refine zmk_i (tys := zty ca) (by decide) (zKK_m D ca) (fun _ h => h.1) (Nat.le_of_ble_eq_true rfl) (fun V ex hX hR => ?_)
  show zJ V (if x3 = (-1 : Int32) then fn_P_artefact_14 x1 x3 x4 x5 x6 σ else zb (fn_P_isUpTo x3 (7 : Int32) σ) (fun r8 s8 => if r8 = 0 then fn_P_artefact_19 x1 x3 x4 x5 x6 (0 : Int32) s8 else fn_P_artefact_14 x1 x3 x4 x5 x6 s8)) (zwC ad ca σ ++ ex) 0 [(0, .ref (ad 0)), (1, .long x1), (3, .int x3), (4, .int x4), (5, .int x5), (6, .int x6)] []
  refine z_iload_n (i := 3) hX d_P_artefact_0 rfl rfl ?_
  refine z_iconst (v := -1) hX d_P_artefact_1 (by decide) ?_
  refine z_icmp_eq (tgt := 14) hX d_P_artefact_2 (by decide) (fun c2 => ?_) (fun c2 => ?_)
  · exact bk_P_artefact_14 l D ad ca hX hR _ _ _ _ _ _
  · refine z_iload_n (i := 3) hX d_P_artefact_5 rfl rfl ?_
    refine z_bipush (v := 7) hX d_P_artefact_6 (by decide) ?_
    refine z_callSi (wl := zwC ad ca) (n := 2) (rest := []) hX [.int x3, .int (7 : Int32)] (ct_P_isUpTo l D ca (zwC ad ca) x3 (7 : Int32) σ) gS_P_47 ⟨rfl, rfl⟩ ⟨by decide, by decide⟩ (by decide +kernel) rfl rfl (Nat.le_of_ble_eq_true rfl) d_P_artefact_8 (fun r8 s8 => ?_)
    refine z_if_eq (tgt := 18) hX d_P_artefact_11 (by decide) (fun c11 => ?_) (fun c11 => ?_)
    · refine z_iconst (v := 0) hX d_P_artefact_18 (by decide) ?_
      exact bk_P_artefact_19 l D ad ca hX hR _ _ _ _ _ _ _
    · exact bk_P_artefact_14 l D ad ca hX hR _ _ _ _ _ _
def fn_A_has (x1 : Int32) (σ : zS) : Option (Int32 × zS) := if x1 < 0 then some ((0 : Int32), σ) else if x1 < (σ.1 220 0) then some ((1 : Int32), σ) else some ((0 : Int32), σ)
set_option maxRecDepth 100000 in
set_option maxHeartbeats 4000000 in
theorem ct_A_has (l : Launch) (D : va_G) (ad : Nat → Nat) (ca : Nat → ClassId) (x1 : Int32) (σ : zS) : zC zemI l y_A_has (Cond.code y_A_has b_A_has 2 (some .boolean) :: zTT) (zrm 0 0) D zcl (zKK D ca) (zwC ad ca) σ [.ref (ad 6), .int x1] (fn_A_has x1 σ) := by
  refine zmk_z (tys := zty ca) (by decide) (zKK_m D ca) (fun _ h => h.1) (Nat.le_of_ble_eq_true rfl) (fun V ex hX hR => ?_)
  show zJ V (if x1 < 0 then some ((0 : Int32), σ) else if x1 < (σ.1 220 0) then some ((1 : Int32), σ) else some ((0 : Int32), σ)) (zwC ad ca σ ++ ex) 0 [(0, .ref (ad 6)), (1, .int x1)] []
  refine z_iload_n (i := 1) hX d_A_has_0 rfl rfl ?_
  refine z_if_lt (tgt := 16) hX d_A_has_1 (by decide) (fun c1 => ?_) (fun c1 => ?_)
  · refine z_iconst (v := 0) hX d_A_has_16 (by decide) ?_
    exact z_zret hR rfl d_A_has_17
  · refine z_iload_n (i := 1) hX d_A_has_4 rfl rfl ?_
    refine z_aload_n (i := 0) hX d_A_has_5 rfl rfl ?_
    refine z_get (C := R_A) (T := F_A) (N := 11) hX in_A 6 rfl rfl 0 (by decide) w_field_A_47_A_0 rfl d_A_has_6 ?_
    refine z_icmp_ge (tgt := 16) hX d_A_has_9 (by decide) (fun c9 => ?_) (fun c9 => ?_)
    · refine z_iconst (v := 1) hX d_A_has_12 (by decide) ?_
      refine z_goto (tgt := 17) hX d_A_has_13 (by decide) ?_
      exact z_zret hR rfl d_A_has_17
    · refine z_iconst (v := 0) hX d_A_has_16 (by decide) ?_
      exact z_zret hR rfl d_A_has_17
def fn_W_valueAt_u (x1 : Int32) (x2 : Int32) (σ : zS) : Option (Int64 × zS) := zgd (zin ((x1 * (6 : Int32)) + x2) 192) (some (σ.2 14 ((x1 * (6 : Int32)) + x2).toNatClampNeg, σ))
set_option maxRecDepth 100000 in
set_option maxHeartbeats 4000000 in
theorem ct_W_valueAt_u (l : Launch) (D : va_G) (ad : Nat → Nat) (ca : Nat → ClassId) (x1 : Int32) (x2 : Int32) (σ : zS) : zC zemL l y_W_valueAt (Cond.code y_W_valueAt b_W_valueAt 3 (some .long) :: zTT) (zrm 0 0) D zcl (zKK D ca) (zwC ad ca) σ [.ref (ad 12), .int x1, .int x2] (fn_W_valueAt_u x1 x2 σ) := by
  refine zmk_l (tys := zty ca) (by decide) (zKK_m D ca) (fun _ h => h.1) (Nat.le_of_ble_eq_true rfl) (fun V ex hX hR => ?_)
  show zJ V (zgd (zin ((x1 * (6 : Int32)) + x2) 192) (some (σ.2 14 ((x1 * (6 : Int32)) + x2).toNatClampNeg, σ))) (zwC ad ca σ ++ ex) 0 [(0, .ref (ad 12)), (1, .int x1), (2, .int x2)] []
  refine z_aload_n (i := 0) hX d_W_valueAt_0 rfl rfl ?_
  refine z_get (C := R_W) (T := F_W) (N := 2) hX in_W 12 rfl rfl 1 (by decide) w_field_W_15_W_1 rfl d_W_valueAt_1 ?_
  refine z_iload_n (i := 1) hX d_W_valueAt_4 rfl rfl ?_
  refine z_bipush (v := 6) hX d_W_valueAt_5 (by decide) ?_
  refine z_imul hX d_W_valueAt_7 ?_
  refine z_iload_n (i := 2) hX d_W_valueAt_8 rfl rfl ?_
  refine z_iadd hX d_W_valueAt_9 ?_
  refine z_lald hX 14 10 rfl rfl d_W_valueAt_10 ?_
  exact z_lret hR d_W_valueAt_11
def fn_W_contains_u_3 : Nat → Int32 → Int64 → Int32 → zS → Option (Int32 × zS)
  | 0, _, _, _, _ => none
  | n + 1, x1, x2, x4, σ => zgd (zin x1 32) (if x4 < (σ.1 13 x1.toNatClampNeg) then zb (fn_W_valueAt_u x1 x4 σ) (fun r18 s18 => if (lg_cmp r18 x2) = 0 then some ((1 : Int32), s18) else fn_W_contains_u_3 n x1 x2 (x4 + 1) s18) else some ((0 : Int32), σ))
set_option maxRecDepth 100000 in
set_option maxHeartbeats 4000000 in
theorem bk_W_contains_u_3 (l : Launch) (D : va_G) (ad : Nat → Nat) (ca : Nat → ClassId) {V : zV Int32} {ex : va_W} (hX : zIs V l b_W_contains R_W zTT (zKK D ca) D zcl (zty ca) 5 (zrm 1 22)) (hR : zRz V b_W_contains (zwC ad ca) ex) : ∀ (n : Nat) (x1 : Int32) (x2 : Int64) (x4 : Int32) (σ : zS), zJ V (fn_W_contains_u_3 n x1 x2 x4 σ) (zwC ad ca σ ++ ex) 3 [(0, .ref (ad 12)), (1, .int x1), (2, .long x2), (4, .int x4)] [] := by
  intro n
  induction n with
  | zero => intros; exact z_none
  | succ n ih =>
    intro x1 x2 x4 σ
    show zJ V (zgd (zin x1 32) (if x4 < (σ.1 13 x1.toNatClampNeg) then zb (fn_W_valueAt_u x1 x4 σ) (fun r18 s18 => if (lg_cmp r18 x2) = 0 then some ((1 : Int32), s18) else fn_W_contains_u_3 n x1 x2 (x4 + 1) s18) else some ((0 : Int32), σ))) _ _ _ _
    refine z_iload (i := 4) hX d_W_contains_3 rfl ?_
    refine z_aload_n (i := 0) hX d_W_contains_5 rfl rfl ?_
    refine z_get (C := R_W) (T := F_W) (N := 2) hX in_W 12 rfl rfl 0 (by decide) w_field_W_9_W_0 rfl d_W_contains_6 ?_
    refine z_iload_n (i := 1) hX d_W_contains_9 rfl rfl ?_
    refine z_iald hX 13 9 rfl rfl d_W_contains_10 ?_
    refine z_icmp_ge (tgt := 34) hX d_W_contains_11 (by decide) (fun c11 => ?_) (fun c11 => ?_)
    · refine z_aload_n (i := 0) hX d_W_contains_14 rfl rfl ?_
      refine z_iload_n (i := 1) hX d_W_contains_15 rfl rfl ?_
      refine z_iload (i := 4) hX d_W_contains_16 rfl ?_
      refine z_callVl (wl := zwC ad ca) (C := R_W) (n := 2) (rest := []) hX [.int x1, .int x4] (ct_W_valueAt_u l D ad ca x1 x4 σ) gV_W_23 ⟨rfl, rfl⟩ ⟨by decide, by decide⟩ (by decide +kernel) rfl 12 rfl rfl rfl rfl (Nat.le_of_ble_eq_true rfl) d_W_contains_18 (fun r18 s18 => ?_)
      refine z_lload_n (i := 2) hX d_W_contains_21 rfl rfl ?_
      refine z_lcmp hX d_W_contains_22 ?_
      refine z_if_ne (tgt := 28) hX d_W_contains_23 (by decide) (fun c23 => ?_) (fun c23 => ?_)
      · refine z_iconst (v := 1) hX d_W_contains_26 (by decide) ?_
        exact z_zret hR rfl d_W_contains_27
      · refine z_iinc (v := x4 + 1) (lv2 := [(4, .int (x4 + 1)), (0, .ref (ad 12)), (1, .int x1), (2, .long x2)]) hX d_W_contains_28 3 rfl (by first | rfl | decide) (by decide) rfl ?_
        refine z_goto (tgt := 3) hX d_W_contains_31 (by decide) ?_
        refine z_lv hX [1, 2, 3, 0] (lv2 := [(0, .ref (ad 12)), (1, .int x1), (2, .long x2), (4, .int (x4 + 1))]) rfl ?_
        exact ih _ _ _ _
    · refine z_iconst (v := 0) hX d_W_contains_34 (by decide) ?_
      exact z_zret hR rfl d_W_contains_35
def fn_W_contains_u (x1 : Int32) (x2 : Int64) (σ : zS) : Option (Int32 × zS) := fn_W_contains_u_3 100 x1 x2 (0 : Int32) σ
set_option maxRecDepth 100000 in
set_option maxHeartbeats 4000000 in
theorem ct_W_contains_u (l : Launch) (D : va_G) (ad : Nat → Nat) (ca : Nat → ClassId) (x1 : Int32) (x2 : Int64) (σ : zS) : zC zemI l y_W_contains (Cond.code y_W_contains b_W_contains 5 (some .boolean) :: zTT) (zrm 1 22) D zcl (zKK D ca) (zwC ad ca) σ [.ref (ad 12), .int x1, .long x2] (fn_W_contains_u x1 x2 σ) := by
  refine zmk_z (tys := zty ca) (by decide) (zKK_m D ca) (fun _ h => h.1) (Nat.le_of_ble_eq_true rfl) (fun V ex hX hR => ?_)
  show zJ V (fn_W_contains_u_3 100 x1 x2 (0 : Int32) σ) (zwC ad ca σ ++ ex) 0 [(0, .ref (ad 12)), (1, .int x1), (2, .long x2)] []
  refine z_iconst (v := 0) hX d_W_contains_0 (by decide) ?_
  refine z_istore (i := 4) (lv2 := [(4, .int (0 : Int32)), (0, .ref (ad 12)), (1, .int x1), (2, .long x2)]) hX d_W_contains_1 (by decide) rfl ?_
  refine z_lv hX [1, 2, 3, 0] (lv2 := [(0, .ref (ad 12)), (1, .int x1), (2, .long x2), (4, .int (0 : Int32))]) rfl ?_
  exact bk_W_contains_u_3 l D ad ca hX hR 100 _ _ _ _
def fn_W_append_u (x1 : Int32) (x2 : Int64) (σ : zS) : Option (Int32 × zS) := zgd (zin x1 32) (if (σ.1 13 x1.toNatClampNeg) < (6 : Int32) then zb (fn_W_contains_u x1 x2 σ) (fun r14 s14 => if r14 = 0 then zgd (zin x1 32) (zgd (zin ((x1 * (6 : Int32)) + (s14.1 13 x1.toNatClampNeg)) 192) (zgd (zin x1 32) (zgd (zin x1 32) (some ((1 : Int32), (zI (zL s14 14 ((x1 * (6 : Int32)) + (s14.1 13 x1.toNatClampNeg)).toNatClampNeg x2) 13 x1.toNatClampNeg (((zL s14 14 ((x1 * (6 : Int32)) + (s14.1 13 x1.toNatClampNeg)).toNatClampNeg x2).1 13 x1.toNatClampNeg) + (1 : Int32)))))))) else some ((0 : Int32), s14)) else some ((0 : Int32), σ))
set_option maxRecDepth 100000 in
set_option maxHeartbeats 4000000 in
theorem ct_W_append_u (l : Launch) (D : va_G) (ad : Nat → Nat) (ca : Nat → ClassId) (x1 : Int32) (x2 : Int64) (σ : zS) : zC zemI l y_W_append (Cond.code y_W_append b_W_append 4 (some .boolean) :: zTT) (zrm 2 46) D zcl (zKK D ca) (zwC ad ca) σ [.ref (ad 12), .int x1, .long x2] (fn_W_append_u x1 x2 σ) := by
  refine zmk_z (tys := zty ca) (by decide) (zKK_m D ca) (fun _ h => h.1) (Nat.le_of_ble_eq_true rfl) (fun V ex hX hR => ?_)
  show zJ V (zgd (zin x1 32) (if (σ.1 13 x1.toNatClampNeg) < (6 : Int32) then zb (fn_W_contains_u x1 x2 σ) (fun r14 s14 => if r14 = 0 then zgd (zin x1 32) (zgd (zin ((x1 * (6 : Int32)) + (s14.1 13 x1.toNatClampNeg)) 192) (zgd (zin x1 32) (zgd (zin x1 32) (some ((1 : Int32), (zI (zL s14 14 ((x1 * (6 : Int32)) + (s14.1 13 x1.toNatClampNeg)).toNatClampNeg x2) 13 x1.toNatClampNeg (((zL s14 14 ((x1 * (6 : Int32)) + (s14.1 13 x1.toNatClampNeg)).toNatClampNeg x2).1 13 x1.toNatClampNeg) + (1 : Int32)))))))) else some ((0 : Int32), s14)) else some ((0 : Int32), σ))) (zwC ad ca σ ++ ex) 0 [(0, .ref (ad 12)), (1, .int x1), (2, .long x2)] []
  refine z_aload_n (i := 0) hX d_W_append_0 rfl rfl ?_
  refine z_get (C := R_W) (T := F_W) (N := 2) hX in_W 12 rfl rfl 0 (by decide) w_field_W_9_W_0 rfl d_W_append_1 ?_
  refine z_iload_n (i := 1) hX d_W_append_4 rfl rfl ?_
  refine z_iald hX 13 9 rfl rfl d_W_append_5 ?_
  refine z_bipush (v := 6) hX d_W_append_6 (by decide) ?_
  refine z_icmp_ge (tgt := 20) hX d_W_append_8 (by decide) (fun c8 => ?_) (fun c8 => ?_)
  · refine z_aload_n (i := 0) hX d_W_append_11 rfl rfl ?_
    refine z_iload_n (i := 1) hX d_W_append_12 rfl rfl ?_
    refine z_lload_n (i := 2) hX d_W_append_13 rfl rfl ?_
    refine z_callVi (wl := zwC ad ca) (C := R_W) (n := 2) (rest := []) hX [.int x1, .long x2] (ct_W_contains_u l D ad ca x1 x2 σ) gV_W_19 ⟨rfl, rfl⟩ ⟨by decide, by decide⟩ (by decide +kernel) rfl 12 rfl rfl rfl rfl (Nat.le_of_ble_eq_true rfl) d_W_append_14 (fun r14 s14 => ?_)
    refine z_if_eq (tgt := 22) hX d_W_append_17 (by decide) (fun c17 => ?_) (fun c17 => ?_)
    · refine z_aload_n (i := 0) hX d_W_append_22 rfl rfl ?_
      refine z_get (C := R_W) (T := F_W) (N := 2) hX in_W 12 rfl rfl 1 (by decide) w_field_W_15_W_1 rfl d_W_append_23 ?_
      refine z_iload_n (i := 1) hX d_W_append_26 rfl rfl ?_
      refine z_bipush (v := 6) hX d_W_append_27 (by decide) ?_
      refine z_imul hX d_W_append_29 ?_
      refine z_aload_n (i := 0) hX d_W_append_30 rfl rfl ?_
      refine z_get (C := R_W) (T := F_W) (N := 2) hX in_W 12 rfl rfl 0 (by decide) w_field_W_9_W_0 rfl d_W_append_31 ?_
      refine z_iload_n (i := 1) hX d_W_append_34 rfl rfl ?_
      refine z_iald hX 13 9 rfl rfl d_W_append_35 ?_
      refine z_iadd hX d_W_append_36 ?_
      refine z_lload_n (i := 2) hX d_W_append_37 rfl rfl ?_
      refine z_last (w2 := zwC ad ca (zL s14 14 ((x1 * (6 : Int32)) + (s14.1 13 x1.toNatClampNeg)).toNatClampNeg x2) ++ ex) hX 14 10 rfl rfl rfl d_W_append_38 ?_
      refine z_aload_n (i := 0) hX d_W_append_39 rfl rfl ?_
      refine z_get (C := R_W) (T := F_W) (N := 2) hX in_W 12 rfl rfl 0 (by decide) w_field_W_9_W_0 rfl d_W_append_40 ?_
      refine z_iload_n (i := 1) hX d_W_append_43 rfl rfl ?_
      refine z_dup2 hX d_W_append_44 rfl rfl ?_
      refine z_iald hX 13 9 rfl rfl d_W_append_45 ?_
      refine z_iconst (v := 1) hX d_W_append_46 (by decide) ?_
      refine z_iadd hX d_W_append_47 ?_
      refine z_iast (w2 := zwC ad ca (zI (zL s14 14 ((x1 * (6 : Int32)) + (s14.1 13 x1.toNatClampNeg)).toNatClampNeg x2) 13 x1.toNatClampNeg (((zL s14 14 ((x1 * (6 : Int32)) + (s14.1 13 x1.toNatClampNeg)).toNatClampNeg x2).1 13 x1.toNatClampNeg) + (1 : Int32))) ++ ex) hX 13 9 rfl rfl rfl d_W_append_48 ?_
      refine z_iconst (v := 1) hX d_W_append_49 (by decide) ?_
      exact z_zret hR rfl d_W_append_50
    · refine z_iconst (v := 0) hX d_W_append_20 (by decide) ?_
      exact z_zret hR rfl d_W_append_21
  · refine z_iconst (v := 0) hX d_W_append_20 (by decide) ?_
    exact z_zret hR rfl d_W_append_21
def fn_P_uses (x1 : Int32) (x2 : Int32) (σ : zS) : Option (Int32 × zS) := zb (fn_A_has x1 σ) (fun r5 s5 => if r5 = 0 then some ((0 : Int32), s5) else zb (fn_S_has x2 s5) (fun r16 s16 => if r16 = 0 then some ((0 : Int32), s16) else zb (fn_W_append_u x1 x2.toInt64 s16) (fun r34 s34 => zgd (zbo r34) (some (r34, s34)))))
set_option maxRecDepth 100000 in
set_option maxHeartbeats 4000000 in
theorem ct_P_uses (l : Launch) (D : va_G) (ad : Nat → Nat) (ca : Nat → ClassId) (x1 : Int32) (x2 : Int32) (σ : zS) : zC zemI l y_P_uses (Cond.code y_P_uses b_P_uses 3 (some .boolean) :: zTT) (zrm 3 69) D zcl (zKK D ca) (zwC ad ca) σ [.ref (ad 0), .int x1, .int x2] (fn_P_uses x1 x2 σ) := by
  refine zmk_z (tys := zty ca) (by decide) (zKK_m D ca) (fun _ h => h.1) (Nat.le_of_ble_eq_true rfl) (fun V ex hX hR => ?_)
  show zJ V (zb (fn_A_has x1 σ) (fun r5 s5 => if r5 = 0 then some ((0 : Int32), s5) else zb (fn_S_has x2 s5) (fun r16 s16 => if r16 = 0 then some ((0 : Int32), s16) else zb (fn_W_append_u x1 x2.toInt64 s16) (fun r34 s34 => zgd (zbo r34) (some (r34, s34)))))) (zwC ad ca σ ++ ex) 0 [(0, .ref (ad 0)), (1, .int x1), (2, .int x2)] []
  refine z_aload_n (i := 0) hX d_P_uses_0 rfl rfl ?_
  refine z_get (C := R_P) (T := F_P) (N := 7) hX in_P 0 rfl rfl 1 (by decide) w_field_P_19_P_1 rfl d_P_uses_1 ?_
  refine z_iload_n (i := 1) hX d_P_uses_4 rfl rfl ?_
  refine z_callVi (wl := zwC ad ca) (C := R_A) (n := 1) (rest := []) hX [.int x1] (ct_A_has l D ad ca x1 σ) gV_P_68 ⟨rfl, rfl⟩ ⟨by decide, by decide⟩ (by decide +kernel) rfl 6 rfl rfl rfl rfl (Nat.le_of_ble_eq_true rfl) d_P_uses_5 (fun r5 s5 => ?_)
  refine z_if_eq (tgt := 22) hX d_P_uses_8 (by decide) (fun c8 => ?_) (fun c8 => ?_)
  · refine z_iconst (v := 0) hX d_P_uses_22 (by decide) ?_
    exact z_zret hR rfl d_P_uses_23
  · refine z_aload_n (i := 0) hX d_P_uses_11 rfl rfl ?_
    refine z_get (C := R_P) (T := F_P) (N := 7) hX in_P 0 rfl rfl 0 (by decide) w_field_P_10_P_0 rfl d_P_uses_12 ?_
    refine z_iload_n (i := 2) hX d_P_uses_15 rfl rfl ?_
    refine z_callVi (wl := zwC ad ca) (C := R_S) (n := 1) (rest := []) hX [.int x2] (ct_S_has l D ad ca x2 s5) gV_P_56 ⟨rfl, rfl⟩ ⟨by decide, by decide⟩ (by decide +kernel) rfl 1 rfl rfl rfl rfl (Nat.le_of_ble_eq_true rfl) d_P_uses_16 (fun r16 s16 => ?_)
    refine z_if_ne (tgt := 24) hX d_P_uses_19 (by decide) (fun c19 => ?_) (fun c19 => ?_)
    · refine z_iconst (v := 0) hX d_P_uses_22 (by decide) ?_
      exact z_zret hR rfl d_P_uses_23
    · refine z_aload_n (i := 0) hX d_P_uses_24 rfl rfl ?_
      refine z_get (C := R_P) (T := F_P) (N := 7) hX in_P 0 rfl rfl 1 (by decide) w_field_P_19_P_1 rfl d_P_uses_25 ?_
      refine z_get (C := R_A) (T := F_A) (N := 11) hX in_A 6 rfl rfl 6 (by decide) w_field_P_69_A_6 rfl d_P_uses_28 ?_
      refine z_iload_n (i := 1) hX d_P_uses_31 rfl rfl ?_
      refine z_iload_n (i := 2) hX d_P_uses_32 rfl rfl ?_
      refine z_i2l hX d_P_uses_33 ?_
      refine z_callVi (wl := zwC ad ca) (C := R_W) (n := 2) (rest := []) hX [.int x1, .long x2.toInt64] (ct_W_append_u l D ad ca x1 x2.toInt64 s16) gV_P_73 ⟨rfl, rfl⟩ ⟨by decide, by decide⟩ (by decide +kernel) rfl 12 rfl rfl rfl rfl (Nat.le_of_ble_eq_true rfl) d_P_uses_34 (fun r34 s34 => ?_)
      exact z_zretg hR d_P_uses_37
def fn_W_contains_n_3 : Nat → Int32 → Int64 → Int32 → zS → Option (Int32 × zS)
  | 0, _, _, _, _ => none
  | n + 1, x1, x2, x4, σ => zgd (zin x1 32) (if x4 < (σ.1 16 x1.toNatClampNeg) then zb (fn_W_valueAt_n x1 x4 σ) (fun r18 s18 => if (lg_cmp r18 x2) = 0 then some ((1 : Int32), s18) else fn_W_contains_n_3 n x1 x2 (x4 + 1) s18) else some ((0 : Int32), σ))
set_option maxRecDepth 100000 in
set_option maxHeartbeats 4000000 in
theorem bk_W_contains_n_3 (l : Launch) (D : va_G) (ad : Nat → Nat) (ca : Nat → ClassId) {V : zV Int32} {ex : va_W} (hX : zIs V l b_W_contains R_W zTT (zKK D ca) D zcl (zty ca) 5 (zrm 1 22)) (hR : zRz V b_W_contains (zwC ad ca) ex) : ∀ (n : Nat) (x1 : Int32) (x2 : Int64) (x4 : Int32) (σ : zS), zJ V (fn_W_contains_n_3 n x1 x2 x4 σ) (zwC ad ca σ ++ ex) 3 [(0, .ref (ad 15)), (1, .int x1), (2, .long x2), (4, .int x4)] [] := by
  intro n
  induction n with
  | zero => intros; exact z_none
  | succ n ih =>
    intro x1 x2 x4 σ
    show zJ V (zgd (zin x1 32) (if x4 < (σ.1 16 x1.toNatClampNeg) then zb (fn_W_valueAt_n x1 x4 σ) (fun r18 s18 => if (lg_cmp r18 x2) = 0 then some ((1 : Int32), s18) else fn_W_contains_n_3 n x1 x2 (x4 + 1) s18) else some ((0 : Int32), σ))) _ _ _ _
    refine z_iload (i := 4) hX d_W_contains_3 rfl ?_
    refine z_aload_n (i := 0) hX d_W_contains_5 rfl rfl ?_
    refine z_get (C := R_W) (T := F_W) (N := 2) hX in_W 15 rfl rfl 0 (by decide) w_field_W_9_W_0 rfl d_W_contains_6 ?_
    refine z_iload_n (i := 1) hX d_W_contains_9 rfl rfl ?_
    refine z_iald hX 16 11 rfl rfl d_W_contains_10 ?_
    refine z_icmp_ge (tgt := 34) hX d_W_contains_11 (by decide) (fun c11 => ?_) (fun c11 => ?_)
    · refine z_aload_n (i := 0) hX d_W_contains_14 rfl rfl ?_
      refine z_iload_n (i := 1) hX d_W_contains_15 rfl rfl ?_
      refine z_iload (i := 4) hX d_W_contains_16 rfl ?_
      refine z_callVl (wl := zwC ad ca) (C := R_W) (n := 2) (rest := []) hX [.int x1, .int x4] (ct_W_valueAt_n l D ad ca x1 x4 σ) gV_W_23 ⟨rfl, rfl⟩ ⟨by decide, by decide⟩ (by decide +kernel) rfl 15 rfl rfl rfl rfl (Nat.le_of_ble_eq_true rfl) d_W_contains_18 (fun r18 s18 => ?_)
      refine z_lload_n (i := 2) hX d_W_contains_21 rfl rfl ?_
      refine z_lcmp hX d_W_contains_22 ?_
      refine z_if_ne (tgt := 28) hX d_W_contains_23 (by decide) (fun c23 => ?_) (fun c23 => ?_)
      · refine z_iconst (v := 1) hX d_W_contains_26 (by decide) ?_
        exact z_zret hR rfl d_W_contains_27
      · refine z_iinc (v := x4 + 1) (lv2 := [(4, .int (x4 + 1)), (0, .ref (ad 15)), (1, .int x1), (2, .long x2)]) hX d_W_contains_28 3 rfl (by first | rfl | decide) (by decide) rfl ?_
        refine z_goto (tgt := 3) hX d_W_contains_31 (by decide) ?_
        refine z_lv hX [1, 2, 3, 0] (lv2 := [(0, .ref (ad 15)), (1, .int x1), (2, .long x2), (4, .int (x4 + 1))]) rfl ?_
        exact ih _ _ _ _
    · refine z_iconst (v := 0) hX d_W_contains_34 (by decide) ?_
      exact z_zret hR rfl d_W_contains_35
def fn_W_contains_n (x1 : Int32) (x2 : Int64) (σ : zS) : Option (Int32 × zS) := fn_W_contains_n_3 100 x1 x2 (0 : Int32) σ
set_option maxRecDepth 100000 in
set_option maxHeartbeats 4000000 in
theorem ct_W_contains_n (l : Launch) (D : va_G) (ad : Nat → Nat) (ca : Nat → ClassId) (x1 : Int32) (x2 : Int64) (σ : zS) : zC zemI l y_W_contains (Cond.code y_W_contains b_W_contains 5 (some .boolean) :: zTT) (zrm 1 22) D zcl (zKK D ca) (zwC ad ca) σ [.ref (ad 15), .int x1, .long x2] (fn_W_contains_n x1 x2 σ) := by
  refine zmk_z (tys := zty ca) (by decide) (zKK_m D ca) (fun _ h => h.1) (Nat.le_of_ble_eq_true rfl) (fun V ex hX hR => ?_)
  show zJ V (fn_W_contains_n_3 100 x1 x2 (0 : Int32) σ) (zwC ad ca σ ++ ex) 0 [(0, .ref (ad 15)), (1, .int x1), (2, .long x2)] []
  refine z_iconst (v := 0) hX d_W_contains_0 (by decide) ?_
  refine z_istore (i := 4) (lv2 := [(4, .int (0 : Int32)), (0, .ref (ad 15)), (1, .int x1), (2, .long x2)]) hX d_W_contains_1 (by decide) rfl ?_
  refine z_lv hX [1, 2, 3, 0] (lv2 := [(0, .ref (ad 15)), (1, .int x1), (2, .long x2), (4, .int (0 : Int32))]) rfl ?_
  exact bk_W_contains_n_3 l D ad ca hX hR 100 _ _ _ _
def fn_W_append_n (x1 : Int32) (x2 : Int64) (σ : zS) : Option (Int32 × zS) := zgd (zin x1 32) (if (σ.1 16 x1.toNatClampNeg) < (6 : Int32) then zb (fn_W_contains_n x1 x2 σ) (fun r14 s14 => if r14 = 0 then zgd (zin x1 32) (zgd (zin ((x1 * (6 : Int32)) + (s14.1 16 x1.toNatClampNeg)) 192) (zgd (zin x1 32) (zgd (zin x1 32) (some ((1 : Int32), (zI (zL s14 17 ((x1 * (6 : Int32)) + (s14.1 16 x1.toNatClampNeg)).toNatClampNeg x2) 16 x1.toNatClampNeg (((zL s14 17 ((x1 * (6 : Int32)) + (s14.1 16 x1.toNatClampNeg)).toNatClampNeg x2).1 16 x1.toNatClampNeg) + (1 : Int32)))))))) else some ((0 : Int32), s14)) else some ((0 : Int32), σ))
set_option maxRecDepth 100000 in
set_option maxHeartbeats 4000000 in
theorem ct_W_append_n (l : Launch) (D : va_G) (ad : Nat → Nat) (ca : Nat → ClassId) (x1 : Int32) (x2 : Int64) (σ : zS) : zC zemI l y_W_append (Cond.code y_W_append b_W_append 4 (some .boolean) :: zTT) (zrm 2 46) D zcl (zKK D ca) (zwC ad ca) σ [.ref (ad 15), .int x1, .long x2] (fn_W_append_n x1 x2 σ) := by
  refine zmk_z (tys := zty ca) (by decide) (zKK_m D ca) (fun _ h => h.1) (Nat.le_of_ble_eq_true rfl) (fun V ex hX hR => ?_)
  show zJ V (zgd (zin x1 32) (if (σ.1 16 x1.toNatClampNeg) < (6 : Int32) then zb (fn_W_contains_n x1 x2 σ) (fun r14 s14 => if r14 = 0 then zgd (zin x1 32) (zgd (zin ((x1 * (6 : Int32)) + (s14.1 16 x1.toNatClampNeg)) 192) (zgd (zin x1 32) (zgd (zin x1 32) (some ((1 : Int32), (zI (zL s14 17 ((x1 * (6 : Int32)) + (s14.1 16 x1.toNatClampNeg)).toNatClampNeg x2) 16 x1.toNatClampNeg (((zL s14 17 ((x1 * (6 : Int32)) + (s14.1 16 x1.toNatClampNeg)).toNatClampNeg x2).1 16 x1.toNatClampNeg) + (1 : Int32)))))))) else some ((0 : Int32), s14)) else some ((0 : Int32), σ))) (zwC ad ca σ ++ ex) 0 [(0, .ref (ad 15)), (1, .int x1), (2, .long x2)] []
  refine z_aload_n (i := 0) hX d_W_append_0 rfl rfl ?_
  refine z_get (C := R_W) (T := F_W) (N := 2) hX in_W 15 rfl rfl 0 (by decide) w_field_W_9_W_0 rfl d_W_append_1 ?_
  refine z_iload_n (i := 1) hX d_W_append_4 rfl rfl ?_
  refine z_iald hX 16 11 rfl rfl d_W_append_5 ?_
  refine z_bipush (v := 6) hX d_W_append_6 (by decide) ?_
  refine z_icmp_ge (tgt := 20) hX d_W_append_8 (by decide) (fun c8 => ?_) (fun c8 => ?_)
  · refine z_aload_n (i := 0) hX d_W_append_11 rfl rfl ?_
    refine z_iload_n (i := 1) hX d_W_append_12 rfl rfl ?_
    refine z_lload_n (i := 2) hX d_W_append_13 rfl rfl ?_
    refine z_callVi (wl := zwC ad ca) (C := R_W) (n := 2) (rest := []) hX [.int x1, .long x2] (ct_W_contains_n l D ad ca x1 x2 σ) gV_W_19 ⟨rfl, rfl⟩ ⟨by decide, by decide⟩ (by decide +kernel) rfl 15 rfl rfl rfl rfl (Nat.le_of_ble_eq_true rfl) d_W_append_14 (fun r14 s14 => ?_)
    refine z_if_eq (tgt := 22) hX d_W_append_17 (by decide) (fun c17 => ?_) (fun c17 => ?_)
    · refine z_aload_n (i := 0) hX d_W_append_22 rfl rfl ?_
      refine z_get (C := R_W) (T := F_W) (N := 2) hX in_W 15 rfl rfl 1 (by decide) w_field_W_15_W_1 rfl d_W_append_23 ?_
      refine z_iload_n (i := 1) hX d_W_append_26 rfl rfl ?_
      refine z_bipush (v := 6) hX d_W_append_27 (by decide) ?_
      refine z_imul hX d_W_append_29 ?_
      refine z_aload_n (i := 0) hX d_W_append_30 rfl rfl ?_
      refine z_get (C := R_W) (T := F_W) (N := 2) hX in_W 15 rfl rfl 0 (by decide) w_field_W_9_W_0 rfl d_W_append_31 ?_
      refine z_iload_n (i := 1) hX d_W_append_34 rfl rfl ?_
      refine z_iald hX 16 11 rfl rfl d_W_append_35 ?_
      refine z_iadd hX d_W_append_36 ?_
      refine z_lload_n (i := 2) hX d_W_append_37 rfl rfl ?_
      refine z_last (w2 := zwC ad ca (zL s14 17 ((x1 * (6 : Int32)) + (s14.1 16 x1.toNatClampNeg)).toNatClampNeg x2) ++ ex) hX 17 12 rfl rfl rfl d_W_append_38 ?_
      refine z_aload_n (i := 0) hX d_W_append_39 rfl rfl ?_
      refine z_get (C := R_W) (T := F_W) (N := 2) hX in_W 15 rfl rfl 0 (by decide) w_field_W_9_W_0 rfl d_W_append_40 ?_
      refine z_iload_n (i := 1) hX d_W_append_43 rfl rfl ?_
      refine z_dup2 hX d_W_append_44 rfl rfl ?_
      refine z_iald hX 16 11 rfl rfl d_W_append_45 ?_
      refine z_iconst (v := 1) hX d_W_append_46 (by decide) ?_
      refine z_iadd hX d_W_append_47 ?_
      refine z_iast (w2 := zwC ad ca (zI (zL s14 17 ((x1 * (6 : Int32)) + (s14.1 16 x1.toNatClampNeg)).toNatClampNeg x2) 16 x1.toNatClampNeg (((zL s14 17 ((x1 * (6 : Int32)) + (s14.1 16 x1.toNatClampNeg)).toNatClampNeg x2).1 16 x1.toNatClampNeg) + (1 : Int32))) ++ ex) hX 16 11 rfl rfl rfl d_W_append_48 ?_
      refine z_iconst (v := 1) hX d_W_append_49 (by decide) ?_
      exact z_zret hR rfl d_W_append_50
    · refine z_iconst (v := 0) hX d_W_append_20 (by decide) ?_
      exact z_zret hR rfl d_W_append_21
  · refine z_iconst (v := 0) hX d_W_append_20 (by decide) ?_
    exact z_zret hR rfl d_W_append_21
def fn_A_firstOf_2 : Nat → Int64 → Int32 → zS → Option (Int32 × zS)
  | 0, _, _, _ => none
  | n + 1, x1, x3, σ => if x3 < (σ.1 220 0) then zgd (zin x3 32) (if (lg_cmp (σ.2 7 x3.toNatClampNeg) x1) = 0 then some (x3, σ) else fn_A_firstOf_2 n x1 (x3 + 1) σ) else some ((-1 : Int32), σ)
set_option maxRecDepth 100000 in
set_option maxHeartbeats 4000000 in
theorem bk_A_firstOf_2 (l : Launch) (D : va_G) (ad : Nat → Nat) (ca : Nat → ClassId) {V : zV Int32} {ex : va_W} (hX : zIs V l b_A_firstOf R_A zTT (zKK D ca) D zcl (zty ca) 4 (zrm 0 0)) (hR : zRi V b_A_firstOf (zwC ad ca) ex) : ∀ (n : Nat) (x1 : Int64) (x3 : Int32) (σ : zS), zJ V (fn_A_firstOf_2 n x1 x3 σ) (zwC ad ca σ ++ ex) 2 [(0, .ref (ad 6)), (1, .long x1), (3, .int x3)] [] := by
  intro n
  induction n with
  | zero => intros; exact z_none
  | succ n ih =>
    intro x1 x3 σ
    show zJ V (if x3 < (σ.1 220 0) then zgd (zin x3 32) (if (lg_cmp (σ.2 7 x3.toNatClampNeg) x1) = 0 then some (x3, σ) else fn_A_firstOf_2 n x1 (x3 + 1) σ) else some ((-1 : Int32), σ)) _ _ _ _
    refine z_iload_n (i := 3) hX d_A_firstOf_2 rfl rfl ?_
    refine z_aload_n (i := 0) hX d_A_firstOf_3 rfl rfl ?_
    refine z_get (C := R_A) (T := F_A) (N := 11) hX in_A 6 rfl rfl 0 (by decide) w_field_A_47_A_0 rfl d_A_firstOf_4 ?_
    refine z_icmp_ge (tgt := 29) hX d_A_firstOf_7 (by decide) (fun c7 => ?_) (fun c7 => ?_)
    · refine z_aload_n (i := 0) hX d_A_firstOf_10 rfl rfl ?_
      refine z_get (C := R_A) (T := F_A) (N := 11) hX in_A 6 rfl rfl 1 (by decide) w_field_A_9_A_1 rfl d_A_firstOf_11 ?_
      refine z_iload_n (i := 3) hX d_A_firstOf_14 rfl rfl ?_
      refine z_lald hX 7 4 rfl rfl d_A_firstOf_15 ?_
      refine z_lload_n (i := 1) hX d_A_firstOf_16 rfl rfl ?_
      refine z_lcmp hX d_A_firstOf_17 ?_
      refine z_if_ne (tgt := 23) hX d_A_firstOf_18 (by decide) (fun c18 => ?_) (fun c18 => ?_)
      · refine z_iload_n (i := 3) hX d_A_firstOf_21 rfl rfl ?_
        exact z_iret hR d_A_firstOf_22
      · refine z_iinc (v := x3 + 1) (lv2 := [(3, .int (x3 + 1)), (0, .ref (ad 6)), (1, .long x1)]) hX d_A_firstOf_23 2 rfl (by first | rfl | decide) (by decide) rfl ?_
        refine z_goto (tgt := 2) hX d_A_firstOf_26 (by decide) ?_
        refine z_lv hX [1, 2, 0] (lv2 := [(0, .ref (ad 6)), (1, .long x1), (3, .int (x3 + 1))]) rfl ?_
        exact ih _ _ _
    · refine z_iconst (v := -1) hX d_A_firstOf_29 (by decide) ?_
      exact z_iret hR d_A_firstOf_30
def fn_A_firstOf (x1 : Int64) (σ : zS) : Option (Int32 × zS) := fn_A_firstOf_2 100 x1 (0 : Int32) σ
set_option maxRecDepth 100000 in
set_option maxHeartbeats 4000000 in
theorem ct_A_firstOf (l : Launch) (D : va_G) (ad : Nat → Nat) (ca : Nat → ClassId) (x1 : Int64) (σ : zS) : zC zemI l y_A_firstOf (Cond.code y_A_firstOf b_A_firstOf 4 (some .int) :: zTT) (zrm 0 0) D zcl (zKK D ca) (zwC ad ca) σ [.ref (ad 6), .long x1] (fn_A_firstOf x1 σ) := by
  refine zmk_i (tys := zty ca) (by decide) (zKK_m D ca) (fun _ h => h.1) (Nat.le_of_ble_eq_true rfl) (fun V ex hX hR => ?_)
  show zJ V (fn_A_firstOf_2 100 x1 (0 : Int32) σ) (zwC ad ca σ ++ ex) 0 [(0, .ref (ad 6)), (1, .long x1)] []
  refine z_iconst (v := 0) hX d_A_firstOf_0 (by decide) ?_
  refine z_istore_n (i := 3) (lv2 := [(3, .int (0 : Int32)), (0, .ref (ad 6)), (1, .long x1)]) hX d_A_firstOf_1 rfl (by decide) rfl ?_
  refine z_lv hX [1, 2, 0] (lv2 := [(0, .ref (ad 6)), (1, .long x1), (3, .int (0 : Int32))]) rfl ?_
  exact bk_A_firstOf_2 l D ad ca hX hR 100 _ _ _
end
