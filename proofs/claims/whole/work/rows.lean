section
-- ===== PART A: goes FIRST, ahead of the names: the tables' words, and 'selects' of the private methods out of them =====
/-- a private method of a class that the tables say can be made, by its rows of tables_1 -/
def lw_okq (q : MethodName × Nat) : Prop := (q.1.cls ≠ "java/lang/invoke/MethodHandle" ∧ q.1.cls ≠ "java/lang/invoke/VarHandle") ∧ Cond.instantiable q.1.cls q.2 ∈ tables_1 ∧ Cond.privateMethod q.1 ∈ tables_1 ∧ Cond.instanceMethod q.1 ∈ tables_1
theorem lw_p0 : lw_okq (⟨"ProvenanceRows$Artefacts", "meetMissing", "(I)V"⟩, 11) := ⟨⟨by decide +kernel, by decide +kernel⟩, List.mem_of_getElem? (i := 47) (by decide +kernel), List.mem_of_getElem? (i := 200) (by decide +kernel), List.mem_of_getElem? (i := 201) (by decide +kernel)⟩
theorem lw_p1 : lw_okq (⟨"ProvenanceRows$Rows", "contains", "(IJ)Z"⟩, 2) := ⟨⟨by decide +kernel, by decide +kernel⟩, List.mem_of_getElem? (i := 53) (by decide +kernel), List.mem_of_getElem? (i := 224) (by decide +kernel), List.mem_of_getElem? (i := 225) (by decide +kernel)⟩
theorem lw_p2 : lw_okq (⟨"ProvenanceRows$Artefacts", "firstOf", "(J)I"⟩, 11) := ⟨⟨by decide +kernel, by decide +kernel⟩, List.mem_of_getElem? (i := 47) (by decide +kernel), List.mem_of_getElem? (i := 238) (by decide +kernel), List.mem_of_getElem? (i := 239) (by decide +kernel)⟩
theorem lw_p3 : lw_okq (⟨"ProvenanceRows$Closure", "reach", "(I)V"⟩, 3) := ⟨⟨by decide +kernel, by decide +kernel⟩, List.mem_of_getElem? (i := 131) (by decide +kernel), List.mem_of_getElem? (i := 266) (by decide +kernel), List.mem_of_getElem? (i := 267) (by decide +kernel)⟩
theorem lw_p4 : lw_okq (⟨"ProvenanceRows", "firstBrokenBy", "(I)I"⟩, 7) := ⟨⟨by decide +kernel, by decide +kernel⟩, List.mem_of_getElem? (i := 10) (by decide +kernel), List.mem_of_getElem? (i := 274) (by decide +kernel), List.mem_of_getElem? (i := 275) (by decide +kernel)⟩
theorem lw_p5 : lw_okq (⟨"ProvenanceRows", "isBroken", "(II)Z"⟩, 7) := ⟨⟨by decide +kernel, by decide +kernel⟩, List.mem_of_getElem? (i := 10) (by decide +kernel), List.mem_of_getElem? (i := 278) (by decide +kernel), List.mem_of_getElem? (i := 279) (by decide +kernel)⟩
theorem lw_p6 : lw_okq (⟨"ProvenanceRows", "usesBranchOutside", "(II)Z"⟩, 7) := ⟨⟨by decide +kernel, by decide +kernel⟩, List.mem_of_getElem? (i := 10) (by decide +kernel), List.mem_of_getElem? (i := 283) (by decide +kernel), List.mem_of_getElem? (i := 284) (by decide +kernel)⟩
theorem lw_p7 : lw_okq (⟨"ProvenanceRows", "usesReviewedBelow", "(II)Z"⟩, 7) := ⟨⟨by decide +kernel, by decide +kernel⟩, List.mem_of_getElem? (i := 10) (by decide +kernel), List.mem_of_getElem? (i := 291) (by decide +kernel), List.mem_of_getElem? (i := 292) (by decide +kernel)⟩
theorem lw_p8 : lw_okq (⟨"ProvenanceRows", "usesFetchedUntold", "(I)Z"⟩, 7) := ⟨⟨by decide +kernel, by decide +kernel⟩, List.mem_of_getElem? (i := 10) (by decide +kernel), List.mem_of_getElem? (i := 301) (by decide +kernel), List.mem_of_getElem? (i := 302) (by decide +kernel)⟩
theorem lw_p9 : lw_okq (⟨"ProvenanceRows", "restsOn", "(IJ)Z"⟩, 7) := ⟨⟨by decide +kernel, by decide +kernel⟩, List.mem_of_getElem? (i := 10) (by decide +kernel), List.mem_of_getElem? (i := 353) (by decide +kernel), List.mem_of_getElem? (i := 354) (by decide +kernel)⟩
theorem lw_p10 : lw_okq (⟨"ProvenanceRows", "usesDigest", "(IJ)Z"⟩, 7) := ⟨⟨by decide +kernel, by decide +kernel⟩, List.mem_of_getElem? (i := 10) (by decide +kernel), List.mem_of_getElem? (i := 357) (by decide +kernel), List.mem_of_getElem? (i := 358) (by decide +kernel)⟩
theorem lw_p11 : lw_okq (⟨"ProvenanceRowsModel", "isSource", "(I)Z"⟩, 27) := ⟨⟨by decide +kernel, by decide +kernel⟩, List.mem_of_getElem? (i := 390) (by decide +kernel), List.mem_of_getElem? (i := 490) (by decide +kernel), List.mem_of_getElem? (i := 491) (by decide +kernel)⟩
theorem lw_p12 : lw_okq (⟨"ProvenanceRowsModel", "isArtefact", "(I)Z"⟩, 27) := ⟨⟨by decide +kernel, by decide +kernel⟩, List.mem_of_getElem? (i := 390) (by decide +kernel), List.mem_of_getElem? (i := 503) (by decide +kernel), List.mem_of_getElem? (i := 504) (by decide +kernel)⟩
theorem lw_p13 : lw_okq (⟨"ProvenanceRowsModel", "hasUse", "(II)Z"⟩, 27) := ⟨⟨by decide +kernel, by decide +kernel⟩, List.mem_of_getElem? (i := 390) (by decide +kernel), List.mem_of_getElem? (i := 507) (by decide +kernel), List.mem_of_getElem? (i := 508) (by decide +kernel)⟩
theorem lw_p14 : lw_okq (⟨"ProvenanceRowsModel", "hasNeed", "(IJ)Z"⟩, 27) := ⟨⟨by decide +kernel, by decide +kernel⟩, List.mem_of_getElem? (i := 390) (by decide +kernel), List.mem_of_getElem? (i := 515) (by decide +kernel), List.mem_of_getElem? (i := 516) (by decide +kernel)⟩
theorem lw_p15 : lw_okq (⟨"ProvenanceRowsModel", "goAlong", "(I)V"⟩, 27) := ⟨⟨by decide +kernel, by decide +kernel⟩, List.mem_of_getElem? (i := 390) (by decide +kernel), List.mem_of_getElem? (i := 531) (by decide +kernel), List.mem_of_getElem? (i := 532) (by decide +kernel)⟩
def lw_privs_1 : List (MethodName × Nat) := [(⟨"ProvenanceRows$Artefacts", "meetMissing", "(I)V"⟩, 11), (⟨"ProvenanceRows$Rows", "contains", "(IJ)Z"⟩, 2), (⟨"ProvenanceRows$Artefacts", "firstOf", "(J)I"⟩, 11), (⟨"ProvenanceRows$Closure", "reach", "(I)V"⟩, 3), (⟨"ProvenanceRows", "firstBrokenBy", "(I)I"⟩, 7), (⟨"ProvenanceRows", "isBroken", "(II)Z"⟩, 7), (⟨"ProvenanceRows", "usesBranchOutside", "(II)Z"⟩, 7), (⟨"ProvenanceRows", "usesReviewedBelow", "(II)Z"⟩, 7), (⟨"ProvenanceRows", "usesFetchedUntold", "(I)Z"⟩, 7), (⟨"ProvenanceRows", "restsOn", "(IJ)Z"⟩, 7), (⟨"ProvenanceRows", "usesDigest", "(IJ)Z"⟩, 7), (⟨"ProvenanceRowsModel", "isSource", "(I)Z"⟩, 27), (⟨"ProvenanceRowsModel", "isArtefact", "(I)Z"⟩, 27), (⟨"ProvenanceRowsModel", "hasUse", "(II)Z"⟩, 27), (⟨"ProvenanceRowsModel", "hasNeed", "(IJ)Z"⟩, 27), (⟨"ProvenanceRowsModel", "goAlong", "(I)V"⟩, 27)]
theorem lw_r1 : ∀ q ∈ lw_privs_1, lw_okq q := List.forall_mem_cons.mpr ⟨lw_p0, List.forall_mem_cons.mpr ⟨lw_p1, List.forall_mem_cons.mpr ⟨lw_p2, List.forall_mem_cons.mpr ⟨lw_p3, List.forall_mem_cons.mpr ⟨lw_p4, List.forall_mem_cons.mpr ⟨lw_p5, List.forall_mem_cons.mpr ⟨lw_p6, List.forall_mem_cons.mpr ⟨lw_p7, List.forall_mem_cons.mpr ⟨lw_p8, List.forall_mem_cons.mpr ⟨lw_p9, List.forall_mem_cons.mpr ⟨lw_p10, List.forall_mem_cons.mpr ⟨lw_p11, List.forall_mem_cons.mpr ⟨lw_p12, List.forall_mem_cons.mpr ⟨lw_p13, List.forall_mem_cons.mpr ⟨lw_p14, List.forall_mem_cons.mpr ⟨lw_p15, fun _ h => absurd h List.not_mem_nil⟩⟩⟩⟩⟩⟩⟩⟩⟩⟩⟩⟩⟩⟩⟩⟩
theorem lw_p16 : lw_okq (⟨"ProvenanceRowsModel", "come", "(I)V"⟩, 27) := ⟨⟨by decide +kernel, by decide +kernel⟩, List.mem_of_getElem? (i := 390) (by decide +kernel), List.mem_of_getElem? (i := 535) (by decide +kernel), List.mem_of_getElem? (i := 536) (by decide +kernel)⟩
theorem lw_p17 : lw_okq (⟨"ProvenanceRowsModel", "meets", "(J)I"⟩, 27) := ⟨⟨by decide +kernel, by decide +kernel⟩, List.mem_of_getElem? (i := 390) (by decide +kernel), List.mem_of_getElem? (i := 539) (by decide +kernel), List.mem_of_getElem? (i := 540) (by decide +kernel)⟩
theorem lw_p18 : lw_okq (⟨"ProvenanceRowsModel", "isBroken", "(II)Z"⟩, 27) := ⟨⟨by decide +kernel, by decide +kernel⟩, List.mem_of_getElem? (i := 390) (by decide +kernel), List.mem_of_getElem? (i := 559) (by decide +kernel), List.mem_of_getElem? (i := 560) (by decide +kernel)⟩
theorem lw_p19 : lw_okq (⟨"ProvenanceRowsModel", "sourceBreaks", "(III)Z"⟩, 27) := ⟨⟨by decide +kernel, by decide +kernel⟩, List.mem_of_getElem? (i := 390) (by decide +kernel), List.mem_of_getElem? (i := 563) (by decide +kernel), List.mem_of_getElem? (i := 564) (by decide +kernel)⟩
theorem lw_p20 : lw_okq (⟨"ProvenanceRowsModel", "others", "(II)I"⟩, 27) := ⟨⟨by decide +kernel, by decide +kernel⟩, List.mem_of_getElem? (i := 390) (by decide +kernel), List.mem_of_getElem? (i := 567) (by decide +kernel), List.mem_of_getElem? (i := 568) (by decide +kernel)⟩
theorem lw_p21 : lw_okq (⟨"ProvenanceRowsModel", "isLate", "(II)Z"⟩, 27) := ⟨⟨by decide +kernel, by decide +kernel⟩, List.mem_of_getElem? (i := 390) (by decide +kernel), List.mem_of_getElem? (i := 572) (by decide +kernel), List.mem_of_getElem? (i := 573) (by decide +kernel)⟩
theorem lw_p22 : lw_okq (⟨"ProvenanceRowsModel", "isClash", "(II)Z"⟩, 27) := ⟨⟨by decide +kernel, by decide +kernel⟩, List.mem_of_getElem? (i := 390) (by decide +kernel), List.mem_of_getElem? (i := 576) (by decide +kernel), List.mem_of_getElem? (i := 577) (by decide +kernel)⟩
theorem lw_p23 : lw_okq (⟨"ProvenanceRowsModel", "agree", "(II)Z"⟩, 27) := ⟨⟨by decide +kernel, by decide +kernel⟩, List.mem_of_getElem? (i := 390) (by decide +kernel), List.mem_of_getElem? (i := 580) (by decide +kernel), List.mem_of_getElem? (i := 581) (by decide +kernel)⟩
theorem lw_p24 : lw_okq (⟨"ProvenanceRowsModel", "sameSources", "(II)Z"⟩, 27) := ⟨⟨by decide +kernel, by decide +kernel⟩, List.mem_of_getElem? (i := 390) (by decide +kernel), List.mem_of_getElem? (i := 600) (by decide +kernel), List.mem_of_getElem? (i := 601) (by decide +kernel)⟩
theorem lw_p25 : lw_okq (⟨"ProvenanceRowsModel", "sameNeeds", "(II)Z"⟩, 27) := ⟨⟨by decide +kernel, by decide +kernel⟩, List.mem_of_getElem? (i := 390) (by decide +kernel), List.mem_of_getElem? (i := 604) (by decide +kernel), List.mem_of_getElem? (i := 605) (by decide +kernel)⟩
def lw_privs_2 : List (MethodName × Nat) := [(⟨"ProvenanceRowsModel", "come", "(I)V"⟩, 27), (⟨"ProvenanceRowsModel", "meets", "(J)I"⟩, 27), (⟨"ProvenanceRowsModel", "isBroken", "(II)Z"⟩, 27), (⟨"ProvenanceRowsModel", "sourceBreaks", "(III)Z"⟩, 27), (⟨"ProvenanceRowsModel", "others", "(II)I"⟩, 27), (⟨"ProvenanceRowsModel", "isLate", "(II)Z"⟩, 27), (⟨"ProvenanceRowsModel", "isClash", "(II)Z"⟩, 27), (⟨"ProvenanceRowsModel", "agree", "(II)Z"⟩, 27), (⟨"ProvenanceRowsModel", "sameSources", "(II)Z"⟩, 27), (⟨"ProvenanceRowsModel", "sameNeeds", "(II)Z"⟩, 27)]
theorem lw_r2 : ∀ q ∈ lw_privs_2, lw_okq q := List.forall_mem_cons.mpr ⟨lw_p16, List.forall_mem_cons.mpr ⟨lw_p17, List.forall_mem_cons.mpr ⟨lw_p18, List.forall_mem_cons.mpr ⟨lw_p19, List.forall_mem_cons.mpr ⟨lw_p20, List.forall_mem_cons.mpr ⟨lw_p21, List.forall_mem_cons.mpr ⟨lw_p22, List.forall_mem_cons.mpr ⟨lw_p23, List.forall_mem_cons.mpr ⟨lw_p24, List.forall_mem_cons.mpr ⟨lw_p25, fun _ h => absurd h List.not_mem_nil⟩⟩⟩⟩⟩⟩⟩⟩⟩⟩
def lw_privs : List (MethodName × Nat) := lw_privs_1 ++ (lw_privs_2)
def lw_tbl : List Cond := k2_sels lw_privs ++ tables_1
theorem lw_privs_ok : ∀ q ∈ lw_privs, lw_okq q := by
  show ∀ q ∈ lw_privs_1 ++ (lw_privs_2), lw_okq q
  exact List.forall_mem_append.mpr ⟨lw_r1, lw_r2⟩
-- ===== end of PART A; then your names; then what follows =====
end
section
/-! The walk's own words. A state of numbers is zS: int rows and long rows by number (a field is a row whose place 0 is read). zJ V f w pc lv st: if the pure value f is some out, the machine, at pc with these numbered slots and this stack in the world w, ends as out says. One row an instruction; guards of f stand for what the machine would refuse. -/
abbrev zS : Type := (Nat → Nat → Int32) × (Nat → Nat → Int64)
def zU {α : Type} (f : Nat → α) (k : Nat) (v : α) : Nat → α := fun j => bif Nat.beq j k then v else f j
def zI (σ : zS) (k i : Nat) (v : Int32) : zS := (zU σ.1 k (upd (σ.1 k) i v), σ.2)
def zF (σ : zS) (k : Nat) (v : Int32) : zS := (zU σ.1 k (fun _ => v), σ.2)
def zL (σ : zS) (k i : Nat) (v : Int64) : zS := (σ.1, zU σ.2 k (vp_updL (σ.2 k) i v))
def zin (i : Int32) (n : Nat) : Bool := decide (0 ≤ i.toInt ∧ i.toInt < (n : Int))
theorem zin_vp {i : Int32} {n : Nat} (h : zin i n = true) : vp_in i n := vp_in_iff.mpr (of_decide_eq_true h)
def zgd {γ : Type} (b : Bool) (e : Option γ) : Option γ := bif b then e else none
def zb {β γ : Type} (x : Option (β × zS)) (k : β → zS → Option γ) : Option γ := match x with
  | none => none
  | some o => k o.1 o.2
def zush (x y : Int32) : Int32 := (x.toUInt32 >>> (y.toUInt32 &&& Int32.toUInt32 31)).toInt32
def zshl (x y : Int32) : Int32 := x <<< (y &&& 31)
def zlsh (x : Int64) (y : Int32) : Int64 := x <<< (y.toInt64 &&& 63)
def zshr (x y : Int32) : Int32 := x >>> (y &&& 31)
def zg : List (Nat × Value) → Nat → Option Value
  | [], _ => none
  | q :: r, i => bif Nat.beq q.1 i then some q.2 else zg r i
theorem zg_mem : ∀ {lv : List (Nat × Value)} {i : Nat} {v : Value}, zg lv i = some v → (i, v) ∈ lv
  | [], i, v, h => by cases h
  | q :: r, i, v, h => by
    unfold zg at h
    cases hb : Nat.beq q.1 i with
    | true =>
      rw [hb] at h
      have e1 : q.1 = i := Nat.eq_of_beq_eq_true hb
      have e2 : q.2 = v := Option.some.inj h
      rw [← e1, ← e2]
      exact List.mem_cons_self
    | false =>
      rw [hb] at h
      exact List.mem_cons_of_mem _ (zg_mem h)
theorem zg_at {ls : Array Slot} {nL : Nat} {lv : List (Nat × Value)} {i : Nat} {v : Value} (h : lv_has ls nL lv) (hg : zg lv i = some v) : ls[i]? = some (.val v) := h.2.2 (i, v) (zg_mem hg)
abbrev zV (α : Type) : Type := va_W → Nat → List (Nat × Value) → List Value → α × zS → Prop
def zJ {α : Type} (V : zV α) (f : Option (α × zS)) (w : va_W) (pc : Nat) (lv : List (Nat × Value)) (st : List Value) : Prop := ∀ out : α × zS, f = some out → V w pc lv st out
/-- what a contract's start may ask of the tables: it stays when the machine warms up, and at a call -/
def zKm (KK : State → Prop) : Prop := (∀ s U : State, s.WarmedH U.vm → KK s → KK U) ∧ ∀ (U : State) (g : JFrame) (mk : MethodId) (a : Array Value), KK U → KK (U.calling g mk a)
/-- V is a method's own machine -/
def zIs {α : Type} (V : zV α) (l : Launch) (cc : ByteArray) (own : String) (TT : List Cond) (KK : State → Prop) (D : va_G) (cl : List vw_C) (tys : List (ClassId × FieldType)) (nL : Nat) (R : Room) : Prop :=
  ∃ (p : Program) (e : Env) (s : State) (m : MethodId) (args : Array Value) (below : List Frame) (meth : Method) (c : Code) (cells slots : Nat) (A : Nat → Prop) (H0 : Heap) (Qo : α × zS → State → Prop),
    V = (fun w pc lv st out => ∀ (H : Heap) (locs : List Loc) (ls : Array Slot), va_P D cl w H → va_D A w → va_S A H0 H locs → lv_has ls nL lv → W p l e R s m args below meth c H locs cells slots (Qo out) (F0 m pc ls st)) ∧
    p.tables.exec = Jvm.exec ∧ c.code = cc ∧ c.maxLocals = nL ∧ s.vm.findClass own = some m.cls ∧ (∀ w ∈ TT, w.before args s = true) ∧ zKm KK ∧ KK s ∧ va_K D cl tys s ∧ (∀ q, H0.size ≤ q → A q) ∧ cells ≤ R.cells ∧ slots ≤ R.slots
def zRi (V : zV Int32) (cc : ByteArray) (wl : zS → va_W) (ex : va_W) : Prop := ∀ (σ : zS) (r : Int32) (pc : Nat) (lv : List (Nat × Value)), decode cc pc = .ok (.ireturn, 1) → V (wl σ ++ ex) pc lv [.int r] (r, σ)
def zRz (V : zV Int32) (cc : ByteArray) (wl : zS → va_W) (ex : va_W) : Prop := ∀ (σ : zS) (r : Int32) (pc : Nat) (lv : List (Nat × Value)), narrow .boolean (.int r) = .int r → decode cc pc = .ok (.ireturn, 1) → V (wl σ ++ ex) pc lv [.int r] (r, σ)
def zRl (V : zV Int64) (cc : ByteArray) (wl : zS → va_W) (ex : va_W) : Prop := ∀ (σ : zS) (r : Int64) (pc : Nat) (lv : List (Nat × Value)), decode cc pc = .ok (.lreturn, 1) → V (wl σ ++ ex) pc lv [.long r] (r, σ)
def zRv (V : zV Unit) (cc : ByteArray) (wl : zS → va_W) (ex : va_W) : Prop := ∀ (σ : zS) (pc : Nat) (lv : List (Nat × Value)), decode cc pc = .ok (.return_, 1) → V (wl σ ++ ex) pc lv [] ((), σ)
abbrev zemI : Int32 → Option Value := fun r => some (.int r)
abbrev zemL : Int64 → Option Value := fun r => some (.long r)
abbrev zemV : Unit → Option Value := fun _ => none
/-- a contract: on any world that begins with wl σ, called with av, y ends as f says -/
def zC {α : Type} (em : α → Option Value) (l : Launch) (y : MethodName) (wds : List Cond) (rm : Room) (D : va_G) (cl : List vw_C) (KK : State → Prop) (wl : zS → va_W) (σ : zS) (av : List Value) (f : Option (α × zS)) : Prop :=
  ∀ (out : α × zS) (ex : va_W) (sz : Nat), f = some out → Met l y wds rm (va_Pc av (fun U => U.heap.size = sz ∧ va_P D cl (wl σ ++ ex) U.heap ∧ KK U ∧ va_D (fun _ => True) (wl σ ++ ex)))
    (fun _ st oc t => (oc = .returned (em out.1) ∧ va_P D cl (wl out.2 ++ ex) t.heap ∧ va_D (va_A (wl σ ++ ex) sz) (wl out.2 ++ ex)) ∧ va_F (va_A (wl σ ++ ex) sz) st t) 0 0 (va_A (wl σ ++ ex) sz)

section ZR
variable {α : Type} {V : zV α} {l : Launch} {cc : ByteArray} {own : String} {TT : List Cond} {KK : State → Prop} {D : va_G} {cl : List vw_C} {tys : List (ClassId × FieldType)} {nL : Nat} {R : Room} {f : Option (α × zS)} {w : va_W} {pc : Nat} {lv : List (Nat × Value)} {st : List Value}

theorem z_iconst (hX : zIs V l cc own TT KK D cl tys nL R) {n : Int} {v : Int32} (hd : decode cc pc = .ok (.iconst n, 1)) (hv : Int32.ofInt n = v) (k : zJ V f w (pc + 1) lv (.int v :: st)) : zJ V f w pc lv (st) := by
  obtain ⟨p, e, s, m, args, below, meth, c, cells, slots, A, H0, Qo, rfl, hx, hb, hml, hown, hts, hKm, hKK, hK, hA, hcs⟩ := hX
  intro out hf H locs ls hP hD hS hl
  exact lv_iconst hx hb hd hv (k out hf H locs ls hP hD hS hl)
theorem z_bipush (hX : zIs V l cc own TT KK D cl tys nL R) {n : Int} {v : Int32} (hd : decode cc pc = .ok (.bipush n, 2)) (hv : (Int8.ofInt n).toInt32 = v) (k : zJ V f w (pc + 2) lv (.int v :: st)) : zJ V f w pc lv (st) := by
  obtain ⟨p, e, s, m, args, below, meth, c, cells, slots, A, H0, Qo, rfl, hx, hb, hml, hown, hts, hKm, hKK, hK, hA, hcs⟩ := hX
  intro out hf H locs ls hP hD hS hl
  exact lv_bipush hx hb hd hv (k out hf H locs ls hP hD hS hl)
theorem z_sipush (hX : zIs V l cc own TT KK D cl tys nL R) {n : Int} {v : Int32} (hd : decode cc pc = .ok (.sipush n, 3)) (hv : (Int16.ofInt n).toInt32 = v) (k : zJ V f w (pc + 3) lv (.int v :: st)) : zJ V f w pc lv (st) := by
  obtain ⟨p, e, s, m, args, below, meth, c, cells, slots, A, H0, Qo, rfl, hx, hb, hml, hown, hts, hKm, hKK, hK, hA, hcs⟩ := hX
  intro out hf H locs ls hP hD hS hl
  exact lv_sipush hx hb hd hv (k out hf H locs ls hP hD hS hl)
theorem z_lconst (hX : zIs V l cc own TT KK D cl tys nL R) {n : Fin 2} {v : Int64} (hd : decode cc pc = .ok (.lconst n, 1)) (hv : Int64.ofNat (n : Nat) = v) (k : zJ V f w (pc + 1) lv (.long v :: st)) : zJ V f w pc lv (st) := by
  obtain ⟨p, e, s, m, args, below, meth, c, cells, slots, A, H0, Qo, rfl, hx, hb, hml, hown, hts, hKm, hKK, hK, hA, hcs⟩ := hX
  intro out hf H locs ls hP hD hS hl
  exact lv_lconst hx hb hd hv (k out hf H locs ls hP hD hS hl)
theorem z_iload_n (hX : zIs V l cc own TT KK D cl tys nL R) {j : Fin 4} {i : Nat} {x : Int32} (hd : decode cc pc = .ok (.iload_n j, 1)) (hi : (j : Nat) = i) (hg : zg lv i = some (.int x)) (k : zJ V f w (pc + 1) lv (.int x :: st)) : zJ V f w pc lv (st) := by
  obtain ⟨p, e, s, m, args, below, meth, c, cells, slots, A, H0, Qo, rfl, hx, hb, hml, hown, hts, hKm, hKK, hK, hA, hcs⟩ := hX
  intro out hf H locs ls hP hD hS hl
  exact lv_iload_n hx hb hd hi (zg_at hl hg) (k out hf H locs ls hP hD hS hl)
theorem z_iload (hX : zIs V l cc own TT KK D cl tys nL R) {i : Nat} {x : Int32} (hd : decode cc pc = .ok (.iload i, 2)) (hg : zg lv i = some (.int x)) (k : zJ V f w (pc + 2) lv (.int x :: st)) : zJ V f w pc lv (st) := by
  obtain ⟨p, e, s, m, args, below, meth, c, cells, slots, A, H0, Qo, rfl, hx, hb, hml, hown, hts, hKm, hKK, hK, hA, hcs⟩ := hX
  intro out hf H locs ls hP hD hS hl
  exact lv_iload hx hb hd (zg_at hl hg) (k out hf H locs ls hP hD hS hl)
theorem z_lload_n (hX : zIs V l cc own TT KK D cl tys nL R) {j : Fin 4} {i : Nat} {x : Int64} (hd : decode cc pc = .ok (.lload_n j, 1)) (hi : (j : Nat) = i) (hg : zg lv i = some (.long x)) (k : zJ V f w (pc + 1) lv (.long x :: st)) : zJ V f w pc lv (st) := by
  obtain ⟨p, e, s, m, args, below, meth, c, cells, slots, A, H0, Qo, rfl, hx, hb, hml, hown, hts, hKm, hKK, hK, hA, hcs⟩ := hX
  intro out hf H locs ls hP hD hS hl
  exact lv_lload_n hx hb hd hi (zg_at hl hg) (k out hf H locs ls hP hD hS hl)
theorem z_lload (hX : zIs V l cc own TT KK D cl tys nL R) {i : Nat} {x : Int64} (hd : decode cc pc = .ok (.lload i, 2)) (hg : zg lv i = some (.long x)) (k : zJ V f w (pc + 2) lv (.long x :: st)) : zJ V f w pc lv (st) := by
  obtain ⟨p, e, s, m, args, below, meth, c, cells, slots, A, H0, Qo, rfl, hx, hb, hml, hown, hts, hKm, hKK, hK, hA, hcs⟩ := hX
  intro out hf H locs ls hP hD hS hl
  exact lv_lload hx hb hd (zg_at hl hg) (k out hf H locs ls hP hD hS hl)
theorem z_aload_n (hX : zIs V l cc own TT KK D cl tys nL R) {j : Fin 4} {i : Nat} {x : Nat} (hd : decode cc pc = .ok (.aload_n j, 1)) (hi : (j : Nat) = i) (hg : zg lv i = some (.ref x)) (k : zJ V f w (pc + 1) lv (.ref x :: st)) : zJ V f w pc lv (st) := by
  obtain ⟨p, e, s, m, args, below, meth, c, cells, slots, A, H0, Qo, rfl, hx, hb, hml, hown, hts, hKm, hKK, hK, hA, hcs⟩ := hX
  intro out hf H locs ls hP hD hS hl
  exact lv_aload_n hx hb hd hi (zg_at hl hg) (k out hf H locs ls hP hD hS hl)
theorem z_aload (hX : zIs V l cc own TT KK D cl tys nL R) {i : Nat} {x : Nat} (hd : decode cc pc = .ok (.aload i, 2)) (hg : zg lv i = some (.ref x)) (k : zJ V f w (pc + 2) lv (.ref x :: st)) : zJ V f w pc lv (st) := by
  obtain ⟨p, e, s, m, args, below, meth, c, cells, slots, A, H0, Qo, rfl, hx, hb, hml, hown, hts, hKm, hKK, hK, hA, hcs⟩ := hX
  intro out hf H locs ls hP hD hS hl
  exact lv_aload hx hb hd (zg_at hl hg) (k out hf H locs ls hP hD hS hl)
theorem z_iadd (hX : zIs V l cc own TT KK D cl tys nL R) {x y : Int32} (hd : decode cc pc = .ok (.iadd, 1)) (k : zJ V f w (pc + 1) lv (.int (x + y) :: st)) : zJ V f w pc lv (.int y :: .int x :: st) := by
  obtain ⟨p, e, s, m, args, below, meth, c, cells, slots, A, H0, Qo, rfl, hx, hb, hml, hown, hts, hKm, hKK, hK, hA, hcs⟩ := hX
  intro out hf H locs ls hP hD hS hl
  exact lv_iadd hx hb hd (k out hf H locs ls hP hD hS hl)
theorem z_isub (hX : zIs V l cc own TT KK D cl tys nL R) {x y : Int32} (hd : decode cc pc = .ok (.isub, 1)) (k : zJ V f w (pc + 1) lv (.int (x - y) :: st)) : zJ V f w pc lv (.int y :: .int x :: st) := by
  obtain ⟨p, e, s, m, args, below, meth, c, cells, slots, A, H0, Qo, rfl, hx, hb, hml, hown, hts, hKm, hKK, hK, hA, hcs⟩ := hX
  intro out hf H locs ls hP hD hS hl
  exact lv_isub hx hb hd (k out hf H locs ls hP hD hS hl)
theorem z_imul (hX : zIs V l cc own TT KK D cl tys nL R) {x y : Int32} (hd : decode cc pc = .ok (.imul, 1)) (k : zJ V f w (pc + 1) lv (.int (x * y) :: st)) : zJ V f w pc lv (.int y :: .int x :: st) := by
  obtain ⟨p, e, s, m, args, below, meth, c, cells, slots, A, H0, Qo, rfl, hx, hb, hml, hown, hts, hKm, hKK, hK, hA, hcs⟩ := hX
  intro out hf H locs ls hP hD hS hl
  exact lv_imul hx hb hd (k out hf H locs ls hP hD hS hl)
theorem z_iand (hX : zIs V l cc own TT KK D cl tys nL R) {x y : Int32} (hd : decode cc pc = .ok (.iand, 1)) (k : zJ V f w (pc + 1) lv (.int (x &&& y) :: st)) : zJ V f w pc lv (.int y :: .int x :: st) := by
  obtain ⟨p, e, s, m, args, below, meth, c, cells, slots, A, H0, Qo, rfl, hx, hb, hml, hown, hts, hKm, hKK, hK, hA, hcs⟩ := hX
  intro out hf H locs ls hP hD hS hl
  exact lv_iand hx hb hd (k out hf H locs ls hP hD hS hl)
theorem z_ior (hX : zIs V l cc own TT KK D cl tys nL R) {x y : Int32} (hd : decode cc pc = .ok (.ior, 1)) (k : zJ V f w (pc + 1) lv (.int (x ||| y) :: st)) : zJ V f w pc lv (.int y :: .int x :: st) := by
  obtain ⟨p, e, s, m, args, below, meth, c, cells, slots, A, H0, Qo, rfl, hx, hb, hml, hown, hts, hKm, hKK, hK, hA, hcs⟩ := hX
  intro out hf H locs ls hP hD hS hl
  exact lv_ior hx hb hd (k out hf H locs ls hP hD hS hl)
theorem z_ixor (hX : zIs V l cc own TT KK D cl tys nL R) {x y : Int32} (hd : decode cc pc = .ok (.ixor, 1)) (k : zJ V f w (pc + 1) lv (.int (x ^^^ y) :: st)) : zJ V f w pc lv (.int y :: .int x :: st) := by
  obtain ⟨p, e, s, m, args, below, meth, c, cells, slots, A, H0, Qo, rfl, hx, hb, hml, hown, hts, hKm, hKK, hK, hA, hcs⟩ := hX
  intro out hf H locs ls hP hD hS hl
  exact lv_ixor hx hb hd (k out hf H locs ls hP hD hS hl)
theorem z_ishl (hX : zIs V l cc own TT KK D cl tys nL R) {x y : Int32} (hd : decode cc pc = .ok (.ishl, 1)) (k : zJ V f w (pc + 1) lv (.int (zshl x y) :: st)) : zJ V f w pc lv (.int y :: .int x :: st) := by
  obtain ⟨p, e, s, m, args, below, meth, c, cells, slots, A, H0, Qo, rfl, hx, hb, hml, hown, hts, hKm, hKK, hK, hA, hcs⟩ := hX
  intro out hf H locs ls hP hD hS hl
  exact lv_ishl hx hb hd (k out hf H locs ls hP hD hS hl)
theorem z_ishr (hX : zIs V l cc own TT KK D cl tys nL R) {x y : Int32} (hd : decode cc pc = .ok (.ishr, 1)) (k : zJ V f w (pc + 1) lv (.int (zshr x y) :: st)) : zJ V f w pc lv (.int y :: .int x :: st) := by
  obtain ⟨p, e, s, m, args, below, meth, c, cells, slots, A, H0, Qo, rfl, hx, hb, hml, hown, hts, hKm, hKK, hK, hA, hcs⟩ := hX
  intro out hf H locs ls hP hD hS hl
  exact lv_ishr hx hb hd (k out hf H locs ls hP hD hS hl)
theorem z_ladd (hX : zIs V l cc own TT KK D cl tys nL R) {x y : Int64} (hd : decode cc pc = .ok (.ladd, 1)) (k : zJ V f w (pc + 1) lv (.long (x + y) :: st)) : zJ V f w pc lv (.long y :: .long x :: st) := by
  obtain ⟨p, e, s, m, args, below, meth, c, cells, slots, A, H0, Qo, rfl, hx, hb, hml, hown, hts, hKm, hKK, hK, hA, hcs⟩ := hX
  intro out hf H locs ls hP hD hS hl
  exact lv_ladd hx hb hd (k out hf H locs ls hP hD hS hl)
theorem z_land (hX : zIs V l cc own TT KK D cl tys nL R) {x y : Int64} (hd : decode cc pc = .ok (.land, 1)) (k : zJ V f w (pc + 1) lv (.long (x &&& y) :: st)) : zJ V f w pc lv (.long y :: .long x :: st) := by
  obtain ⟨p, e, s, m, args, below, meth, c, cells, slots, A, H0, Qo, rfl, hx, hb, hml, hown, hts, hKm, hKK, hK, hA, hcs⟩ := hX
  intro out hf H locs ls hP hD hS hl
  exact lv_land hx hb hd (k out hf H locs ls hP hD hS hl)
theorem z_lor (hX : zIs V l cc own TT KK D cl tys nL R) {x y : Int64} (hd : decode cc pc = .ok (.lor, 1)) (k : zJ V f w (pc + 1) lv (.long (x ||| y) :: st)) : zJ V f w pc lv (.long y :: .long x :: st) := by
  obtain ⟨p, e, s, m, args, below, meth, c, cells, slots, A, H0, Qo, rfl, hx, hb, hml, hown, hts, hKm, hKK, hK, hA, hcs⟩ := hX
  intro out hf H locs ls hP hD hS hl
  exact lv_lor hx hb hd (k out hf H locs ls hP hD hS hl)
theorem z_lxor (hX : zIs V l cc own TT KK D cl tys nL R) {x y : Int64} (hd : decode cc pc = .ok (.lxor, 1)) (k : zJ V f w (pc + 1) lv (.long (x ^^^ y) :: st)) : zJ V f w pc lv (.long y :: .long x :: st) := by
  obtain ⟨p, e, s, m, args, below, meth, c, cells, slots, A, H0, Qo, rfl, hx, hb, hml, hown, hts, hKm, hKK, hK, hA, hcs⟩ := hX
  intro out hf H locs ls hP hD hS hl
  exact lv_lxor hx hb hd (k out hf H locs ls hP hD hS hl)
theorem z_lshl (hX : zIs V l cc own TT KK D cl tys nL R) {x : Int64} {y : Int32} (hd : decode cc pc = .ok (.lshl, 1)) (k : zJ V f w (pc + 1) lv (.long (zlsh x y) :: st)) : zJ V f w pc lv (.int y :: .long x :: st) := by
  obtain ⟨p, e, s, m, args, below, meth, c, cells, slots, A, H0, Qo, rfl, hx, hb, hml, hown, hts, hKm, hKK, hK, hA, hcs⟩ := hX
  intro out hf H locs ls hP hD hS hl
  exact lv_lshl hx hb hd rfl (k out hf H locs ls hP hD hS hl)
theorem z_iushr (hX : zIs V l cc own TT KK D cl tys nL R) {x y : Int32} (hd : decode cc pc = .ok (.iushr, 1)) (k : zJ V f w (pc + 1) lv (.int (zush x y) :: st)) : zJ V f w pc lv (.int y :: .int x :: st) := by
  obtain ⟨p, e, s, m, args, below, meth, c, cells, slots, A, H0, Qo, rfl, hx, hb, hml, hown, hts, hKm, hKK, hK, hA, hcs⟩ := hX
  intro out hf H locs ls hP hD hS hl
  exact lv_iushr hx hb hd rfl (k out hf H locs ls hP hD hS hl)
theorem z_l2i (hX : zIs V l cc own TT KK D cl tys nL R) {x : Int64} (hd : decode cc pc = .ok (.l2i, 1)) (k : zJ V f w (pc + 1) lv (.int x.toInt32 :: st)) : zJ V f w pc lv (.long x :: st) := by
  obtain ⟨p, e, s, m, args, below, meth, c, cells, slots, A, H0, Qo, rfl, hx, hb, hml, hown, hts, hKm, hKK, hK, hA, hcs⟩ := hX
  intro out hf H locs ls hP hD hS hl
  exact lv_l2i hx hb hd rfl (k out hf H locs ls hP hD hS hl)
theorem z_i2l (hX : zIs V l cc own TT KK D cl tys nL R) {x : Int32} (hd : decode cc pc = .ok (.i2l, 1)) (k : zJ V f w (pc + 1) lv (.long x.toInt64 :: st)) : zJ V f w pc lv (.int x :: st) := by
  obtain ⟨p, e, s, m, args, below, meth, c, cells, slots, A, H0, Qo, rfl, hx, hb, hml, hown, hts, hKm, hKK, hK, hA, hcs⟩ := hX
  intro out hf H locs ls hP hD hS hl
  exact lv_i2l hx hb hd rfl (k out hf H locs ls hP hD hS hl)
theorem z_lcmp (hX : zIs V l cc own TT KK D cl tys nL R) {x y : Int64} (hd : decode cc pc = .ok (.lcmp, 1)) (k : zJ V f w (pc + 1) lv (.int (lg_cmp x y) :: st)) : zJ V f w pc lv (.long y :: .long x :: st) := by
  obtain ⟨p, e, s, m, args, below, meth, c, cells, slots, A, H0, Qo, rfl, hx, hb, hml, hown, hts, hKm, hKK, hK, hA, hcs⟩ := hX
  intro out hf H locs ls hP hD hS hl
  exact W.lcmp hx hb hd (k out hf H locs ls hP hD hS hl)
theorem z_dup (hX : zIs V l cc own TT KK D cl tys nL R) {va : Value} (hd : decode cc pc = .ok (.dup, 1)) (h1 : va.category = 1) (k : zJ V f w (pc + 1) lv (va :: va :: st)) : zJ V f w pc lv (va :: st) := by
  obtain ⟨p, e, s, m, args, below, meth, c, cells, slots, A, H0, Qo, rfl, hx, hb, hml, hown, hts, hKm, hKK, hK, hA, hcs⟩ := hX
  intro out hf H locs ls hP hD hS hl
  exact lv_dup hx hb hd h1 (k out hf H locs ls hP hD hS hl)
theorem z_pop (hX : zIs V l cc own TT KK D cl tys nL R) {va : Value} (hd : decode cc pc = .ok (.pop, 1)) (h1 : va.category = 1) (k : zJ V f w (pc + 1) lv (st)) : zJ V f w pc lv (va :: st) := by
  obtain ⟨p, e, s, m, args, below, meth, c, cells, slots, A, H0, Qo, rfl, hx, hb, hml, hown, hts, hKm, hKK, hK, hA, hcs⟩ := hX
  intro out hf H locs ls hP hD hS hl
  exact lv_pop hx hb hd h1 (k out hf H locs ls hP hD hS hl)
theorem z_dup_x1 (hX : zIs V l cc own TT KK D cl tys nL R) {va vb : Value} (hd : decode cc pc = .ok (.dup_x1, 1)) (h1 : va.category = 1) (h2 : vb.category = 1) (k : zJ V f w (pc + 1) lv (va :: vb :: va :: st)) : zJ V f w pc lv (va :: vb :: st) := by
  obtain ⟨p, e, s, m, args, below, meth, c, cells, slots, A, H0, Qo, rfl, hx, hb, hml, hown, hts, hKm, hKK, hK, hA, hcs⟩ := hX
  intro out hf H locs ls hP hD hS hl
  exact lv_dup_x1 hx hb hd h1 h2 (k out hf H locs ls hP hD hS hl)
theorem z_dup2 (hX : zIs V l cc own TT KK D cl tys nL R) {va vb : Value} (hd : decode cc pc = .ok (.dup2, 1)) (h1 : va.category = 1) (h2 : vb.category = 1) (k : zJ V f w (pc + 1) lv (va :: vb :: va :: vb :: st)) : zJ V f w pc lv (va :: vb :: st) := by
  obtain ⟨p, e, s, m, args, below, meth, c, cells, slots, A, H0, Qo, rfl, hx, hb, hml, hown, hts, hKm, hKK, hK, hA, hcs⟩ := hX
  intro out hf H locs ls hP hD hS hl
  exact lv_dup2_11 hx hb hd h1 h2 (k out hf H locs ls hP hD hS hl)
theorem z_istore_n (hX : zIs V l cc own TT KK D cl tys nL R) {j : Fin 4} {i : Nat} {x : Int32} {lv2 : List (Nat × Value)} (hd : decode cc pc = .ok (.istore_n j, 1)) (hi : (j : Nat) = i) (hn : i < nL) (hl2 : (i, Value.int x) :: lv.filter (fun q => !(q.1 == i) && !(q.1 + 1 == i && q.2.category == 2)) = lv2) (k : zJ V f w (pc + 1) lv2 st) : zJ V f w pc lv (.int x :: st) := by
  obtain ⟨p, e, s, m, args, below, meth, c, cells, slots, A, H0, Qo, rfl, hx, hb, hml, hown, hts, hKm, hKK, hK, hA, hcs⟩ := hX
  intro out hf H locs ls hP hD hS hl
  exact lv_istore_n hx hb hd hi hl hn hl2 (fun ls' hl' => k out hf H locs ls' hP hD hS hl')
theorem z_istore (hX : zIs V l cc own TT KK D cl tys nL R) {i : Nat} {x : Int32} {lv2 : List (Nat × Value)} (hd : decode cc pc = .ok (.istore i, 2)) (hn : i < nL) (hl2 : (i, Value.int x) :: lv.filter (fun q => !(q.1 == i) && !(q.1 + 1 == i && q.2.category == 2)) = lv2) (k : zJ V f w (pc + 2) lv2 st) : zJ V f w pc lv (.int x :: st) := by
  obtain ⟨p, e, s, m, args, below, meth, c, cells, slots, A, H0, Qo, rfl, hx, hb, hml, hown, hts, hKm, hKK, hK, hA, hcs⟩ := hX
  intro out hf H locs ls hP hD hS hl
  exact lv_istore hx hb hd hl hn hl2 (fun ls' hl' => k out hf H locs ls' hP hD hS hl')
theorem z_astore_n (hX : zIs V l cc own TT KK D cl tys nL R) {j : Fin 4} {i : Nat} {x : Nat} {lv2 : List (Nat × Value)} (hd : decode cc pc = .ok (.astore_n j, 1)) (hi : (j : Nat) = i) (hn : i < nL) (hl2 : (i, Value.ref x) :: lv.filter (fun q => !(q.1 == i) && !(q.1 + 1 == i && q.2.category == 2)) = lv2) (k : zJ V f w (pc + 1) lv2 st) : zJ V f w pc lv (.ref x :: st) := by
  obtain ⟨p, e, s, m, args, below, meth, c, cells, slots, A, H0, Qo, rfl, hx, hb, hml, hown, hts, hKm, hKK, hK, hA, hcs⟩ := hX
  intro out hf H locs ls hP hD hS hl
  exact lv_astore_n hx hb hd hi hl hn hl2 (fun ls' hl' => k out hf H locs ls' hP hD hS hl')
theorem z_astore (hX : zIs V l cc own TT KK D cl tys nL R) {i : Nat} {x : Nat} {lv2 : List (Nat × Value)} (hd : decode cc pc = .ok (.astore i, 2)) (hn : i < nL) (hl2 : (i, Value.ref x) :: lv.filter (fun q => !(q.1 == i) && !(q.1 + 1 == i && q.2.category == 2)) = lv2) (k : zJ V f w (pc + 2) lv2 st) : zJ V f w pc lv (.ref x :: st) := by
  obtain ⟨p, e, s, m, args, below, meth, c, cells, slots, A, H0, Qo, rfl, hx, hb, hml, hown, hts, hKm, hKK, hK, hA, hcs⟩ := hX
  intro out hf H locs ls hP hD hS hl
  exact lv_astore hx hb hd hl hn hl2 (fun ls' hl' => k out hf H locs ls' hP hD hS hl')
theorem z_lstore_n (hX : zIs V l cc own TT KK D cl tys nL R) {j : Fin 4} {i : Nat} {x : Int64} {lv2 : List (Nat × Value)} (hd : decode cc pc = .ok (.lstore_n j, 1)) (hi : (j : Nat) = i) (hn : i + 1 < nL) (hl2 : (i, Value.long x) :: lv.filter (fun q => !(q.1 == i) && (!(q.1 == i + 1) && !(q.1 + 1 == i && q.2.category == 2))) = lv2) (k : zJ V f w (pc + 1) lv2 st) : zJ V f w pc lv (.long x :: st) := by
  obtain ⟨p, e, s, m, args, below, meth, c, cells, slots, A, H0, Qo, rfl, hx, hb, hml, hown, hts, hKm, hKK, hK, hA, hcs⟩ := hX
  intro out hf H locs ls hP hD hS hl
  exact lv_lstore_n hx hb hd hi hl hn hl2 (fun ls' hl' => k out hf H locs ls' hP hD hS hl')
theorem z_lstore (hX : zIs V l cc own TT KK D cl tys nL R) {i : Nat} {x : Int64} {lv2 : List (Nat × Value)} (hd : decode cc pc = .ok (.lstore i, 2)) (hn : i + 1 < nL) (hl2 : (i, Value.long x) :: lv.filter (fun q => !(q.1 == i) && (!(q.1 == i + 1) && !(q.1 + 1 == i && q.2.category == 2))) = lv2) (k : zJ V f w (pc + 2) lv2 st) : zJ V f w pc lv (.long x :: st) := by
  obtain ⟨p, e, s, m, args, below, meth, c, cells, slots, A, H0, Qo, rfl, hx, hb, hml, hown, hts, hKm, hKK, hK, hA, hcs⟩ := hX
  intro out hf H locs ls hP hD hS hl
  exact lv_lstore hx hb hd hl hn hl2 (fun ls' hl' => k out hf H locs ls' hP hD hS hl')
theorem z_iinc (hX : zIs V l cc own TT KK D cl tys nL R) {i : Nat} {n : Int} {x v : Int32} {lv2 : List (Nat × Value)} (hd : decode cc pc = .ok (.iinc i n, 3)) (k0 : Nat) (hk : lv[k0]? = some (i, .int x)) (hv : x + Int32.ofInt n = v) (hn : i < nL) (hl2 : (i, Value.int v) :: lv.filter (fun q => !(q.1 == i) && !(q.1 + 1 == i && q.2.category == 2)) = lv2) (k : zJ V f w (pc + 3) lv2 st) : zJ V f w pc lv st := by
  obtain ⟨p, e, s, m, args, below, meth, c, cells, slots, A, H0, Qo, rfl, hx, hb, hml, hown, hts, hKm, hKK, hK, hA, hcs⟩ := hX
  intro out hf H locs ls hP hD hS hl
  exact lv_iinc hx hb hd hl hk hv hn hl2 (fun ls' hl' => k out hf H locs ls' hP hD hS hl')
/-- fewer numbered slots, in another order -/
theorem z_lv (hX : zIs V l cc own TT KK D cl tys nL R) (ks : List Nat) {lv2 : List (Nat × Value)} (h : lv_pick lv ks = lv2) (k : zJ V f w pc lv2 st) : zJ V f w pc lv st := by
  obtain ⟨p, e, s, m, args, below, meth, c, cells, slots, A, H0, Qo, rfl, hx, hb, hml, hown, hts, hKm, hKK, hK, hA, hcs⟩ := hX
  intro out hf H locs ls hP hD hS hl
  exact k out hf H locs ls hP hD hS (lv_sub hl ks h)
theorem z_goto (hX : zIs V l cc own TT KK D cl tys nL R) {off : Int} {tgt : Nat} (hd : decode cc pc = .ok (.goto off, 3)) (ht : (pc : Int) + off = (tgt : Int)) (k : zJ V f w tgt lv st) : zJ V f w pc lv st := by
  obtain ⟨p, e, s, m, args, below, meth, c, cells, slots, A, H0, Qo, rfl, hx, hb, hml, hown, hts, hKm, hKK, hK, hA, hcs⟩ := hX
  intro out hf H locs ls hP hD hS hl
  exact lv_goto hx hb hd ht (k out hf H locs ls hP hD hS hl)
theorem z_if_eq (hX : zIs V l cc own TT KK D cl tys nL R) {e1 e2 : Option (α × zS)} {x : Int32} {off : Int} {tgt : Nat} {inst : Decidable (x = 0)} (hd : decode cc pc = .ok (.ifCond .eq off, 3)) (ht : (pc : Int) + off = (tgt : Int)) (k1 : x = 0 → zJ V e1 w tgt lv st) (k2 : ¬ x = 0 → zJ V e2 w (pc + 3) lv st) : zJ V (if x = 0 then e1 else e2) w pc lv (.int x :: st) := by
  obtain ⟨p, e, s, m, args, below, meth, c, cells, slots, A, H0, Qo, rfl, hx, hb, hml, hown, hts, hKm, hKK, hK, hA, hcs⟩ := hX
  intro out hf H locs ls hP hD hS hl
  exact lv_if_eq hx hb hd ht (fun h => k1 h out (by rw [← hf, if_pos h]) H locs ls hP hD hS hl) (fun h => k2 h out (by rw [← hf, if_neg h]) H locs ls hP hD hS hl)
theorem z_if_ne (hX : zIs V l cc own TT KK D cl tys nL R) {e1 e2 : Option (α × zS)} {x : Int32} {off : Int} {tgt : Nat} {inst : Decidable (x = 0)} (hd : decode cc pc = .ok (.ifCond .ne off, 3)) (ht : (pc : Int) + off = (tgt : Int)) (k1 : x = 0 → zJ V e1 w (pc + 3) lv st) (k2 : ¬ x = 0 → zJ V e2 w tgt lv st) : zJ V (if x = 0 then e1 else e2) w pc lv (.int x :: st) := by
  obtain ⟨p, e, s, m, args, below, meth, c, cells, slots, A, H0, Qo, rfl, hx, hb, hml, hown, hts, hKm, hKK, hK, hA, hcs⟩ := hX
  intro out hf H locs ls hP hD hS hl
  exact lv_if_ne hx hb hd ht (fun h => k2 h out (by rw [← hf, if_neg h]) H locs ls hP hD hS hl) (fun h => k1 h out (by rw [← hf, if_pos h]) H locs ls hP hD hS hl)
theorem z_if_lt (hX : zIs V l cc own TT KK D cl tys nL R) {e1 e2 : Option (α × zS)} {x : Int32} {off : Int} {tgt : Nat} {inst : Decidable (x < 0)} (hd : decode cc pc = .ok (.ifCond .lt off, 3)) (ht : (pc : Int) + off = (tgt : Int)) (k1 : x < 0 → zJ V e1 w tgt lv st) (k2 : ¬ x < 0 → zJ V e2 w (pc + 3) lv st) : zJ V (if x < 0 then e1 else e2) w pc lv (.int x :: st) := by
  obtain ⟨p, e, s, m, args, below, meth, c, cells, slots, A, H0, Qo, rfl, hx, hb, hml, hown, hts, hKm, hKK, hK, hA, hcs⟩ := hX
  intro out hf H locs ls hP hD hS hl
  exact lv_if_lt hx hb hd ht (fun h => k1 h out (by rw [← hf, if_pos h]) H locs ls hP hD hS hl) (fun h => k2 h out (by rw [← hf, if_neg h]) H locs ls hP hD hS hl)
theorem z_if_ge (hX : zIs V l cc own TT KK D cl tys nL R) {e1 e2 : Option (α × zS)} {x : Int32} {off : Int} {tgt : Nat} {inst : Decidable (x < 0)} (hd : decode cc pc = .ok (.ifCond .ge off, 3)) (ht : (pc : Int) + off = (tgt : Int)) (k1 : x < 0 → zJ V e1 w (pc + 3) lv st) (k2 : ¬ x < 0 → zJ V e2 w tgt lv st) : zJ V (if x < 0 then e1 else e2) w pc lv (.int x :: st) := by
  obtain ⟨p, e, s, m, args, below, meth, c, cells, slots, A, H0, Qo, rfl, hx, hb, hml, hown, hts, hKm, hKK, hK, hA, hcs⟩ := hX
  intro out hf H locs ls hP hD hS hl
  exact lv_if_ge hx hb hd ht (fun h => k2 (Int32.not_lt.mpr h) out (by rw [← hf, if_neg (Int32.not_lt.mpr h)]) H locs ls hP hD hS hl) (fun h => k1 (Int32.not_le.mp h) out (by rw [← hf, if_pos (Int32.not_le.mp h)]) H locs ls hP hD hS hl)
theorem z_if_gt (hX : zIs V l cc own TT KK D cl tys nL R) {e1 e2 : Option (α × zS)} {x : Int32} {off : Int} {tgt : Nat} {inst : Decidable (0 < x)} (hd : decode cc pc = .ok (.ifCond .gt off, 3)) (ht : (pc : Int) + off = (tgt : Int)) (k1 : 0 < x → zJ V e1 w tgt lv st) (k2 : ¬ 0 < x → zJ V e2 w (pc + 3) lv st) : zJ V (if 0 < x then e1 else e2) w pc lv (.int x :: st) := by
  obtain ⟨p, e, s, m, args, below, meth, c, cells, slots, A, H0, Qo, rfl, hx, hb, hml, hown, hts, hKm, hKK, hK, hA, hcs⟩ := hX
  intro out hf H locs ls hP hD hS hl
  exact lv_if_gt hx hb hd ht (fun h => k1 h out (by rw [← hf, if_pos h]) H locs ls hP hD hS hl) (fun h => k2 h out (by rw [← hf, if_neg h]) H locs ls hP hD hS hl)
theorem z_if_le (hX : zIs V l cc own TT KK D cl tys nL R) {e1 e2 : Option (α × zS)} {x : Int32} {off : Int} {tgt : Nat} {inst : Decidable (0 < x)} (hd : decode cc pc = .ok (.ifCond .le off, 3)) (ht : (pc : Int) + off = (tgt : Int)) (k1 : 0 < x → zJ V e1 w (pc + 3) lv st) (k2 : ¬ 0 < x → zJ V e2 w tgt lv st) : zJ V (if 0 < x then e1 else e2) w pc lv (.int x :: st) := by
  obtain ⟨p, e, s, m, args, below, meth, c, cells, slots, A, H0, Qo, rfl, hx, hb, hml, hown, hts, hKm, hKK, hK, hA, hcs⟩ := hX
  intro out hf H locs ls hP hD hS hl
  exact lv_if_le hx hb hd ht (fun h => k2 (Int32.not_lt.mpr h) out (by rw [← hf, if_neg (Int32.not_lt.mpr h)]) H locs ls hP hD hS hl) (fun h => k1 (Int32.not_le.mp h) out (by rw [← hf, if_pos (Int32.not_le.mp h)]) H locs ls hP hD hS hl)
theorem z_icmp_eq (hX : zIs V l cc own TT KK D cl tys nL R) {e1 e2 : Option (α × zS)} {x y : Int32} {off : Int} {tgt : Nat} {inst : Decidable (x = y)} (hd : decode cc pc = .ok (.if_icmp .eq off, 3)) (ht : (pc : Int) + off = (tgt : Int)) (k1 : x = y → zJ V e1 w tgt lv st) (k2 : ¬ x = y → zJ V e2 w (pc + 3) lv st) : zJ V (if x = y then e1 else e2) w pc lv (.int y :: .int x :: st) := by
  obtain ⟨p, e, s, m, args, below, meth, c, cells, slots, A, H0, Qo, rfl, hx, hb, hml, hown, hts, hKm, hKK, hK, hA, hcs⟩ := hX
  intro out hf H locs ls hP hD hS hl
  exact lv_icmp_eq hx hb hd ht (fun h => k1 h out (by rw [← hf, if_pos h]) H locs ls hP hD hS hl) (fun h => k2 h out (by rw [← hf, if_neg h]) H locs ls hP hD hS hl)
theorem z_icmp_ne (hX : zIs V l cc own TT KK D cl tys nL R) {e1 e2 : Option (α × zS)} {x y : Int32} {off : Int} {tgt : Nat} {inst : Decidable (x = y)} (hd : decode cc pc = .ok (.if_icmp .ne off, 3)) (ht : (pc : Int) + off = (tgt : Int)) (k1 : x = y → zJ V e1 w (pc + 3) lv st) (k2 : ¬ x = y → zJ V e2 w tgt lv st) : zJ V (if x = y then e1 else e2) w pc lv (.int y :: .int x :: st) := by
  obtain ⟨p, e, s, m, args, below, meth, c, cells, slots, A, H0, Qo, rfl, hx, hb, hml, hown, hts, hKm, hKK, hK, hA, hcs⟩ := hX
  intro out hf H locs ls hP hD hS hl
  exact lv_icmp_ne hx hb hd ht (fun h => k2 h out (by rw [← hf, if_neg h]) H locs ls hP hD hS hl) (fun h => k1 h out (by rw [← hf, if_pos h]) H locs ls hP hD hS hl)
theorem z_icmp_lt (hX : zIs V l cc own TT KK D cl tys nL R) {e1 e2 : Option (α × zS)} {x y : Int32} {off : Int} {tgt : Nat} {inst : Decidable (x < y)} (hd : decode cc pc = .ok (.if_icmp .lt off, 3)) (ht : (pc : Int) + off = (tgt : Int)) (k1 : x < y → zJ V e1 w tgt lv st) (k2 : ¬ x < y → zJ V e2 w (pc + 3) lv st) : zJ V (if x < y then e1 else e2) w pc lv (.int y :: .int x :: st) := by
  obtain ⟨p, e, s, m, args, below, meth, c, cells, slots, A, H0, Qo, rfl, hx, hb, hml, hown, hts, hKm, hKK, hK, hA, hcs⟩ := hX
  intro out hf H locs ls hP hD hS hl
  exact lv_icmp_lt hx hb hd ht (fun h => k1 h out (by rw [← hf, if_pos h]) H locs ls hP hD hS hl) (fun h => k2 h out (by rw [← hf, if_neg h]) H locs ls hP hD hS hl)
theorem z_icmp_ge (hX : zIs V l cc own TT KK D cl tys nL R) {e1 e2 : Option (α × zS)} {x y : Int32} {off : Int} {tgt : Nat} {inst : Decidable (x < y)} (hd : decode cc pc = .ok (.if_icmp .ge off, 3)) (ht : (pc : Int) + off = (tgt : Int)) (k1 : x < y → zJ V e1 w (pc + 3) lv st) (k2 : ¬ x < y → zJ V e2 w tgt lv st) : zJ V (if x < y then e1 else e2) w pc lv (.int y :: .int x :: st) := by
  obtain ⟨p, e, s, m, args, below, meth, c, cells, slots, A, H0, Qo, rfl, hx, hb, hml, hown, hts, hKm, hKK, hK, hA, hcs⟩ := hX
  intro out hf H locs ls hP hD hS hl
  exact lv_icmp_ge hx hb hd ht (fun h => k2 (Int32.not_lt.mpr h) out (by rw [← hf, if_neg (Int32.not_lt.mpr h)]) H locs ls hP hD hS hl) (fun h => k1 (Int32.not_le.mp h) out (by rw [← hf, if_pos (Int32.not_le.mp h)]) H locs ls hP hD hS hl)
theorem z_icmp_gt (hX : zIs V l cc own TT KK D cl tys nL R) {e1 e2 : Option (α × zS)} {x y : Int32} {off : Int} {tgt : Nat} {inst : Decidable (y < x)} (hd : decode cc pc = .ok (.if_icmp .gt off, 3)) (ht : (pc : Int) + off = (tgt : Int)) (k1 : y < x → zJ V e1 w tgt lv st) (k2 : ¬ y < x → zJ V e2 w (pc + 3) lv st) : zJ V (if y < x then e1 else e2) w pc lv (.int y :: .int x :: st) := by
  obtain ⟨p, e, s, m, args, below, meth, c, cells, slots, A, H0, Qo, rfl, hx, hb, hml, hown, hts, hKm, hKK, hK, hA, hcs⟩ := hX
  intro out hf H locs ls hP hD hS hl
  exact lv_icmp_gt hx hb hd ht (fun h => k1 h out (by rw [← hf, if_pos h]) H locs ls hP hD hS hl) (fun h => k2 h out (by rw [← hf, if_neg h]) H locs ls hP hD hS hl)
theorem z_icmp_le (hX : zIs V l cc own TT KK D cl tys nL R) {e1 e2 : Option (α × zS)} {x y : Int32} {off : Int} {tgt : Nat} {inst : Decidable (y < x)} (hd : decode cc pc = .ok (.if_icmp .le off, 3)) (ht : (pc : Int) + off = (tgt : Int)) (k1 : y < x → zJ V e1 w (pc + 3) lv st) (k2 : ¬ y < x → zJ V e2 w tgt lv st) : zJ V (if y < x then e1 else e2) w pc lv (.int y :: .int x :: st) := by
  obtain ⟨p, e, s, m, args, below, meth, c, cells, slots, A, H0, Qo, rfl, hx, hb, hml, hown, hts, hKm, hKK, hK, hA, hcs⟩ := hX
  intro out hf H locs ls hP hD hS hl
  exact lv_icmp_le hx hb hd ht (fun h => k2 (Int32.not_lt.mpr h) out (by rw [← hf, if_neg (Int32.not_lt.mpr h)]) H locs ls hP hD hS hl) (fun h => k1 (Int32.not_le.mp h) out (by rw [← hf, if_pos (Int32.not_le.mp h)]) H locs ls hP hD hS hl)
/-- a question that the machine asks later on: both ways at one place -/
theorem z_by {c : Prop} {inst : Decidable c} {e1 e2 : Option (α × zS)} (k1 : c → zJ V e1 w pc lv st) (k2 : ¬ c → zJ V e2 w pc lv st) : zJ V (if c then e1 else e2) w pc lv st := by
  intro out hf
  by_cases h : c
  · exact k1 h out (by rw [← hf, if_pos h])
  · exact k2 h out (by rw [← hf, if_neg h])
/-- a guard -/
theorem z_gd {b : Bool} (k : b = true → zJ V f w pc lv st) : zJ V (zgd b f) w pc lv st := by
  intro out hf
  cases hb : b with
  | true => rw [hb] at hf; exact k hb out hf
  | false => rw [hb] at hf; cases hf
theorem z_none : zJ V none w pc lv st := fun out hf => by cases hf
theorem z_tabIn (hX : zIs V l cc own TT KK D cl tys nL R) {dflt lo hi : Int} {offs : Array Int} {len : Nat} {x : Int32} {off : Int} {tgt : Nat} (hd : decode cc pc = .ok (.tableswitch dflt lo hi offs, len)) (h1 : ¬ x.toInt < lo) (h2 : ¬ hi < x.toInt) (ho : offs[(x.toInt - lo).toNat]? = some off) (ht : (pc : Int) + off = (tgt : Int)) (k : zJ V f w tgt lv st) : zJ V f w pc lv (.int x :: st) := by
  obtain ⟨p, e, s, m, args, below, meth, c, cells, slots, A, H0, Qo, rfl, hx, hb, hml, hown, hts, hKm, hKK, hK, hA, hcs⟩ := hX
  intro out hf H locs ls hP hD hS hl
  exact lv_tableIn hx hb hd h1 h2 ho ht (k out hf H locs ls hP hD hS hl)
theorem z_tabOut (hX : zIs V l cc own TT KK D cl tys nL R) {dflt lo hi : Int} {offs : Array Int} {len : Nat} {x : Int32} {tgt : Nat} (hd : decode cc pc = .ok (.tableswitch dflt lo hi offs, len)) (h : x.toInt < lo ∨ hi < x.toInt) (ht : (pc : Int) + dflt = (tgt : Int)) (k : zJ V f w tgt lv st) : zJ V f w pc lv (.int x :: st) := by
  obtain ⟨p, e, s, m, args, below, meth, c, cells, slots, A, H0, Qo, rfl, hx, hb, hml, hown, hts, hKm, hKK, hK, hA, hcs⟩ := hX
  intro out hf H locs ls hP hD hS hl
  exact lv_tableOut hx hb hd h ht (k out hf H locs ls hP hD hS hl)
theorem z_ldc (hX : zIs V l cc own TT KK D cl tys nL R) {index : Nat} {v : Int32} (hc : Cond.constant own index v ∈ TT) (hd : decode cc pc = .ok (.ldc index, 2)) (k : zJ V f w (pc + 2) lv (.int v :: st)) : zJ V f w pc lv st := by
  obtain ⟨p, e, s, m, args, below, meth, c, cells, slots, A, H0, Qo, rfl, hx, hb, hml, hown, hts, hKm, hKK, hK, hA, hcs⟩ := hX
  intro out hf H locs ls hP hD hS hl
  exact lv_ldc hx hb hown (hts _ hc) hd (k out hf H locs ls hP hD hS hl)
theorem z_ldcw (hX : zIs V l cc own TT KK D cl tys nL R) {index : Nat} {v : Int32} (hc : Cond.constant own index v ∈ TT) (hd : decode cc pc = .ok (.ldc_w index, 3)) (k : zJ V f w (pc + 3) lv (.int v :: st)) : zJ V f w pc lv st := by
  obtain ⟨p, e, s, m, args, below, meth, c, cells, slots, A, H0, Qo, rfl, hx, hb, hml, hown, hts, hKm, hKK, hK, hA, hcs⟩ := hX
  intro out hf H locs ls hP hD hS hl
  exact lv_ldcw hx hb hown (hts _ hc) hd (k out hf H locs ls hP hD hS hl)
theorem z_ldc2 (hX : zIs V l cc own TT KK D cl tys nL R) {index : Nat} {v : Int64} (hc : Cond.constantLong own index v ∈ TT) (hd : decode cc pc = .ok (.ldc2_w index, 3)) (k : zJ V f w (pc + 3) lv (.long v :: st)) : zJ V f w pc lv st := by
  obtain ⟨p, e, s, m, args, below, meth, c, cells, slots, A, H0, Qo, rfl, hx, hb, hml, hown, hts, hKm, hKK, hK, hA, hcs⟩ := hX
  intro out hf H locs ls hP hD hS hl
  exact lv_ldc2 hx hb hown (hts _ hc) hd (k out hf H locs ls hP hD hS hl)
theorem z_get (hX : zIs V l cc own TT KK D cl tys nL R) {C : String} {T : u_T} {N ci index a : Nat} {fs : List Value} {v : Value} (hin : ∀ w ∈ u_ws C T N, w ∈ TT) (q0 : Nat) (he : w[q0]? = some (a, .inr (ci, fs))) (hc : cl[ci]? = some (C, T, N)) (k0 : Nat) (hk : k0 < N) (hlink : Cond.fieldLink own index (T k0).1 (T k0).2.1 (T k0).2.2.1 ∈ TT) (hv : fs[k0]? = some v) (hd : decode cc pc = .ok (.getfield index, 3)) (k : zJ V f w (pc + 3) lv (v :: st)) : zJ V f w pc lv (.ref a :: st) := by
  obtain ⟨p, e, s, m, args, below, meth, c, cells, slots, A, H0, Qo, rfl, hx, hb, hml, hown, hts, hKm, hKK, hK, hA, hcs⟩ := hX
  intro out hf H locs ls hP hD hS hl
  exact va_get hx hb hts hin hown hK hP q0 he hc k0 hk (hts _ hlink) (fun _ h => h) hv hd (k out hf H locs ls hP hD hS hl)
theorem z_put (hX : zIs V l cc own TT KK D cl tys nL R) {C : String} {T : u_T} {N ci index a : Nat} {fs : List Value} {v : Value} {w2 : va_W} (hin : ∀ w ∈ u_ws C T N, w ∈ TT) (ty0 : Nat → FieldType) (hty : ∀ k, k < N → parseFieldDescriptor (T k).2.2.1 = some (ty0 k)) (hnm : ∀ a, a < N → ∀ b, b < N → a ≠ b → (T a).2.1 ≠ (T b).2.1) (q0 : Nat) (he : w[q0]? = some (a, .inr (ci, fs))) (hc : cl[ci]? = some (C, T, N)) (k0 : Nat) (hk : k0 < N) (hlink : Cond.fieldLink own index (T k0).1 (T k0).2.1 (T k0).2.2.1 ∈ TT) (hfin : (T k0).2.2.2 = false) (hn : narrow (ty0 k0) v = v) (hfit : fits (ty0 k0) v = true) (hl : k0 < fs.length) (hw : w.set q0 (a, .inr (ci, fs.set k0 v)) = w2) (hd : decode cc pc = .ok (.putfield index, 3)) (k : zJ V f w2 (pc + 3) lv st) : zJ V f w pc lv (v :: .ref a :: st) := by
  obtain ⟨p, e, s, m, args, below, meth, c, cells, slots, A, H0, Qo, rfl, hx, hb, hml, hown, hts, hKm, hKK, hK, hA, hcs⟩ := hX
  intro out hf H locs ls hP hD hS hl9
  subst hw
  exact va_put hx hb hts hin ty0 hty hnm hown hK hP hD hS q0 he hc k0 hk (hts _ hlink) (fun _ h => h) hfin (hty k0 hk) hn hfit hl hd (fun H1 locs1 h1 h2 h3 => k out hf H1 locs1 ls h1 h2 h3 hl9)
theorem z_iald (hX : zIs V l cc own TT KK D cl tys nL R) {a n : Nat} {cA : ClassId} {g : Nat → Int32} {i : Int32} (q0 t0 : Nat) (ha : w[q0]? = some (a, .inl (cA, n, .inl g))) (ht : tys[t0]? = some (cA, .int)) (hd : decode cc pc = .ok (.iaload, 1)) (k : zJ V f w (pc + 1) lv (.int (g i.toNatClampNeg) :: st)) : zJ V (zgd (zin i n) f) w pc lv (.int i :: .ref a :: st) := by
  refine z_gd (fun hi => ?_)
  obtain ⟨p, e, s, m, args, below, meth, c, cells, slots, A, H0, Qo, rfl, hx, hb, hml, hown, hts, hKm, hKK, hK, hA, hcs⟩ := hX
  intro out hf H locs ls hP hD hS hl
  exact va_iald hx hb hK hP q0 t0 ha ht (zin_vp hi) hd (k out hf H locs ls hP hD hS hl)
theorem z_zald (hX : zIs V l cc own TT KK D cl tys nL R) {a n : Nat} {cA : ClassId} {g : Nat → Int32} {i : Int32} (q0 t0 : Nat) (ha : w[q0]? = some (a, .inl (cA, n, .inl g))) (ht : tys[t0]? = some (cA, .boolean)) (hd : decode cc pc = .ok (.baload, 1)) (k : zJ V f w (pc + 1) lv (.int (g i.toNatClampNeg) :: st)) : zJ V (zgd (zin i n) f) w pc lv (.int i :: .ref a :: st) := by
  refine z_gd (fun hi => ?_)
  obtain ⟨p, e, s, m, args, below, meth, c, cells, slots, A, H0, Qo, rfl, hx, hb, hml, hown, hts, hKm, hKK, hK, hA, hcs⟩ := hX
  intro out hf H locs ls hP hD hS hl
  exact va_zald hx hb hK hP q0 t0 ha ht (zin_vp hi) hd (k out hf H locs ls hP hD hS hl)
theorem z_bald (hX : zIs V l cc own TT KK D cl tys nL R) {a n : Nat} {cA : ClassId} {g : Nat → Int32} {i : Int32} (q0 t0 : Nat) (ha : w[q0]? = some (a, .inl (cA, n, .inl g))) (ht : tys[t0]? = some (cA, .byte)) (hd : decode cc pc = .ok (.baload, 1)) (k : zJ V f w (pc + 1) lv (.int (g i.toNatClampNeg) :: st)) : zJ V (zgd (zin i n) f) w pc lv (.int i :: .ref a :: st) := by
  refine z_gd (fun hi => ?_)
  obtain ⟨p, e, s, m, args, below, meth, c, cells, slots, A, H0, Qo, rfl, hx, hb, hml, hown, hts, hKm, hKK, hK, hA, hcs⟩ := hX
  intro out hf H locs ls hP hD hS hl
  exact va_bald hx hb hK hP q0 t0 ha ht (zin_vp hi) hd (k out hf H locs ls hP hD hS hl)
theorem z_lald (hX : zIs V l cc own TT KK D cl tys nL R) {a n : Nat} {cA : ClassId} {g : Nat → Int64} {i : Int32} (q0 t0 : Nat) (ha : w[q0]? = some (a, .inl (cA, n, .inr (.inl g)))) (ht : tys[t0]? = some (cA, .long)) (hd : decode cc pc = .ok (.laload, 1)) (k : zJ V f w (pc + 1) lv (.long (g i.toNatClampNeg) :: st)) : zJ V (zgd (zin i n) f) w pc lv (.int i :: .ref a :: st) := by
  refine z_gd (fun hi => ?_)
  obtain ⟨p, e, s, m, args, below, meth, c, cells, slots, A, H0, Qo, rfl, hx, hb, hml, hown, hts, hKm, hKK, hK, hA, hcs⟩ := hX
  intro out hf H locs ls hP hD hS hl
  exact va_lald hx hb hK hP q0 t0 ha ht (zin_vp hi) hd (k out hf H locs ls hP hD hS hl)
theorem z_iast (hX : zIs V l cc own TT KK D cl tys nL R) {a n : Nat} {cA : ClassId} {g : Nat → Int32} {i : Int32} {x : Int32} {w2 : va_W} (q0 t0 : Nat) (ha : w[q0]? = some (a, .inl (cA, n, .inl g))) (ht : tys[t0]? = some (cA, .int)) (hw : w.set q0 (a, .inl (cA, n, .inl (upd g i.toNatClampNeg x))) = w2) (hd : decode cc pc = .ok (.iastore, 1)) (k : zJ V f w2 (pc + 1) lv st) : zJ V (zgd (zin i n) f) w pc lv (.int x :: .int i :: .ref a :: st) := by
  refine z_gd (fun hi => ?_)
  obtain ⟨p, e, s, m, args, below, meth, c, cells, slots, A, H0, Qo, rfl, hx, hb, hml, hown, hts, hKm, hKK, hK, hA, hcs⟩ := hX
  intro out hf H locs ls hP hD hS hl
  subst hw
  exact va_iast hx hb hK hP hD hS q0 t0 ha ht (zin_vp hi) hd (fun H1 locs1 h1 h2 h3 => k out hf H1 locs1 ls h1 h2 h3 hl)
theorem z_zast (hX : zIs V l cc own TT KK D cl tys nL R) {a n : Nat} {cA : ClassId} {g : Nat → Int32} {i : Int32} {x : Int32} {w2 : va_W} (q0 t0 : Nat) (ha : w[q0]? = some (a, .inl (cA, n, .inl g))) (ht : tys[t0]? = some (cA, .boolean)) (hw : w.set q0 (a, .inl (cA, n, .inl (upd g i.toNatClampNeg (vp_nar .boolean x)))) = w2) (hd : decode cc pc = .ok (.bastore, 1)) (k : zJ V f w2 (pc + 1) lv st) : zJ V (zgd (zin i n) f) w pc lv (.int x :: .int i :: .ref a :: st) := by
  refine z_gd (fun hi => ?_)
  obtain ⟨p, e, s, m, args, below, meth, c, cells, slots, A, H0, Qo, rfl, hx, hb, hml, hown, hts, hKm, hKK, hK, hA, hcs⟩ := hX
  intro out hf H locs ls hP hD hS hl
  subst hw
  exact va_zast hx hb hK hP hD hS q0 t0 ha ht (zin_vp hi) hd (fun H1 locs1 h1 h2 h3 => k out hf H1 locs1 ls h1 h2 h3 hl)
theorem z_bast (hX : zIs V l cc own TT KK D cl tys nL R) {a n : Nat} {cA : ClassId} {g : Nat → Int32} {i : Int32} {x : Int32} {w2 : va_W} (q0 t0 : Nat) (ha : w[q0]? = some (a, .inl (cA, n, .inl g))) (ht : tys[t0]? = some (cA, .byte)) (hw : w.set q0 (a, .inl (cA, n, .inl (upd g i.toNatClampNeg (vp_nar .byte x)))) = w2) (hd : decode cc pc = .ok (.bastore, 1)) (k : zJ V f w2 (pc + 1) lv st) : zJ V (zgd (zin i n) f) w pc lv (.int x :: .int i :: .ref a :: st) := by
  refine z_gd (fun hi => ?_)
  obtain ⟨p, e, s, m, args, below, meth, c, cells, slots, A, H0, Qo, rfl, hx, hb, hml, hown, hts, hKm, hKK, hK, hA, hcs⟩ := hX
  intro out hf H locs ls hP hD hS hl
  subst hw
  exact va_bast hx hb hK hP hD hS q0 t0 ha ht (zin_vp hi) hd (fun H1 locs1 h1 h2 h3 => k out hf H1 locs1 ls h1 h2 h3 hl)
theorem z_last (hX : zIs V l cc own TT KK D cl tys nL R) {a n : Nat} {cA : ClassId} {g : Nat → Int64} {i : Int32} {x : Int64} {w2 : va_W} (q0 t0 : Nat) (ha : w[q0]? = some (a, .inl (cA, n, .inr (.inl g)))) (ht : tys[t0]? = some (cA, .long)) (hw : w.set q0 (a, .inl (cA, n, .inr (.inl (vp_updL g i.toNatClampNeg x)))) = w2) (hd : decode cc pc = .ok (.lastore, 1)) (k : zJ V f w2 (pc + 1) lv st) : zJ V (zgd (zin i n) f) w pc lv (.long x :: .int i :: .ref a :: st) := by
  refine z_gd (fun hi => ?_)
  obtain ⟨p, e, s, m, args, below, meth, c, cells, slots, A, H0, Qo, rfl, hx, hb, hml, hown, hts, hKm, hKK, hK, hA, hcs⟩ := hX
  intro out hf H locs ls hP hD hS hl
  subst hw
  exact va_last hx hb hK hP hD hS q0 t0 ha ht (zin_vp hi) hd (fun H1 locs1 h1 h2 h3 => k out hf H1 locs1 ls h1 h2 h3 hl)
end ZR
section ZE
variable {cc : ByteArray} {wl : zS → va_W} {ex : va_W} {σ : zS} {pc : Nat} {lv : List (Nat × Value)}
theorem z_iret {V : zV Int32} {r : Int32} (hR : zRi V cc wl ex) (hd : decode cc pc = .ok (.ireturn, 1)) : zJ V (some (r, σ)) (wl σ ++ ex) pc lv [.int r] := fun out hf => by cases hf; exact hR σ r pc lv hd
theorem z_zret {V : zV Int32} {r : Int32} (hR : zRz V cc wl ex) (hn : narrow .boolean (.int r) = .int r) (hd : decode cc pc = .ok (.ireturn, 1)) : zJ V (some (r, σ)) (wl σ ++ ex) pc lv [.int r] := fun out hf => by cases hf; exact hR σ r pc lv hn hd
def zbo (r : Int32) : Bool := decide (r = 0 ∨ r = 1)
theorem zbo_n {r : Int32} (h : zbo r = true) : narrow .boolean (.int r) = .int r := by
  rcases (of_decide_eq_true h : r = 0 ∨ r = 1) with rfl | rfl <;> rfl
theorem z_zretg {V : zV Int32} {r : Int32} (hR : zRz V cc wl ex) (hd : decode cc pc = .ok (.ireturn, 1)) : zJ V (zgd (zbo r) (some (r, σ))) (wl σ ++ ex) pc lv [.int r] := z_gd (fun h => z_zret hR (zbo_n h) hd)
theorem z_lret {V : zV Int64} {r : Int64} (hR : zRl V cc wl ex) (hd : decode cc pc = .ok (.lreturn, 1)) : zJ V (some (r, σ)) (wl σ ++ ex) pc lv [.long r] := fun out hf => by cases hf; exact hR σ r pc lv hd
theorem z_vret {V : zV Unit} (hR : zRv V cc wl ex) (hd : decode cc pc = .ok (.return_, 1)) : zJ V (some ((), σ)) (wl σ ++ ex) pc lv [] := fun out hf => by cases hf; exact hR σ pc lv hd
end ZE
section ZCALL
variable {p : Program} {l : Launch} {e : Env} {R : Room} {s : State} {m : MethodId} {args : Array Value} {below : List Frame} {meth : Method} {c : Code} {H : Heap} {locs : List Loc} {cells slots : Nat} {Q : State → Prop}
theorem z_call {β : Type} {em : β → Option Value} {pc : Nat} {ls : Array Slot} {rest st0 : List Value} {D : va_G} {cl : List vw_C} {w w1 : va_W} {A : Nat → Prop} {H0 : Heap} {r : β}
    (hr : va_Run p l e R s m args below meth c H locs cells slots 0 0 (F0 m pc ls st0) rest (fun st oc t => (oc = .returned (em r) ∧ va_P D cl w1 t.heap ∧ va_D (va_A w H.size) w1) ∧ va_F (va_A w H.size) st t) (va_A w H.size))
    (hD : va_D A w) (hS : va_S A H0 H locs) (hA : ∀ q, H0.size ≤ q → A q)
    (kk : ∀ (H1 : Heap) (locs1 : List Loc), va_P D cl w1 H1 → va_D A w1 → va_S A H0 H1 locs1 → W p l e R s m args below meth c H1 locs1 cells slots Q (F0 m (pc + 3) ls ((em r).toList ++ rest))) : W p l e R s m args below meth c H locs cells slots Q (F0 m pc ls st0) := by
  intro T hT X
  obtain ⟨v, st₀, t, T', L, h0, X', hL, e1, e2, ⟨⟨hv, hp, hd⟩, hz, hk⟩, st⟩ := hr T hT X
  have hv := Outcome.returned.inj hv
  subst hv
  rw [h0] at hz hk
  have hAA : ∀ q, va_A w H.size q → A q := fun q h => by
    rcases h with ⟨k, e9, h⟩ | h
    · exact hD.2 k (q, e9) h
    · exact hA q (Nat.le_trans hS.1 h)
  obtain ⟨t2, a1, b1⟩ := kk T'.heap (locs ++ L) (by rw [e1]; exact hp) (hd.weaken (fun k q _ h => hAA q.1 h))
    ⟨Nat.le_trans hS.1 (by rw [e1]; exact hz), fun q h1 h2 => by rw [e1, hk q (Nat.lt_of_lt_of_le h1 hS.1) (fun z => h2 (hAA q z))]; exact hS.2.1 q h1 h2, fun q hq => by
      rcases List.mem_append.mp hq with h | h
      · exact hS.2.2 q h
      · exact hAA _ (hL q h)⟩ T' rfl X'
  exact ⟨t2, st t2 a1, b1⟩
end ZCALL
theorem zb_some {β γ : Type} {x : Option (β × zS)} {k : β → zS → Option γ} {out : γ} (h : zb x k = some out) : ∃ (r : β) (σ1 : zS), x = some (r, σ1) ∧ k r σ1 = some out := by
  cases x with
  | none => cases h
  | some o => exact ⟨o.1, o.2, rfl, h⟩
/-- words of a list that holds good words alone -/
theorem z_good {big ws : List Cond} (hb : ∀ w ∈ big, goodWord w = true) (h : ∀ w ∈ ws, w ∈ big) : GoodIn big ws := fun w hw => ⟨h w hw, good_of_word (hb w (h w hw))⟩
section ZCR
variable {α : Type} {V : zV α} {l : Launch} {cc : ByteArray} {own : String} {TT : List Cond} {KK : State → Prop} {D : va_G} {cl : List vw_C} {tys : List (ClassId × FieldType)} {nL : Nat} {R : Room} {pc : Nat} {lv : List (Nat × Value)} {st rest : List Value} {wl : zS → va_W} {σ : zS} {ex : va_W} {y : MethodName} {bytes : ByteArray} {maxL index : Nat} {ret : Option FieldType} {rm : Room}

theorem z_callVi (hX : zIs V l cc own TT KK D cl tys nL R) {fC : Option (Int32 × zS)} {k : Int32 → zS → Option (α × zS)} {C : String} {b ci : Nat} {fs : List Value} {cv : vw_C} {n : Nat} (As : List Value) (hM : zC zemI l y (Cond.code y bytes maxL ret :: TT) rm D cl KK wl σ (.ref b :: As) fC) (hT : GoodIn TT (wsV own index C y (Cond.code y bytes maxL ret :: TT))) (hrm : rm.cells = 0 ∧ rm.slots = 0) (hR : rm.frames + 1 ≤ R.frames ∧ 8 + (maxL + 11) + rm.locals ≤ R.locals) (hd : y.cls = C ∧ y.cls ≠ "java/lang/invoke/MethodHandle" ∧ y.cls ≠ "java/lang/invoke/VarHandle" ∧ (parseMethodDescriptor y.desc).map (fun d => d.parameters.length) = some n) (hn : As.length = n)
    (q0 : Nat) (hq : (wl σ ++ ex)[q0]? = some (b, .inr (ci, fs))) (hc : cl[ci]? = some cv) (hcv : cv.1 = C) (hst : st = As.reverse ++ .ref b :: rest) (hW : (rest.map fun v => v.category).sum ≤ 8) (hdg : decode cc pc = .ok (.invokevirtual index, 3))
    (kk : ∀ (r : Int32) (σ1 : zS), zJ V (k r σ1) (wl σ1 ++ ex) (pc + 3) lv (.int r :: rest)) : zJ V (zb fC k) (wl σ ++ ex) pc lv st := by
  obtain ⟨p, e, s, m, args, below, meth, c, cells, slots, A, H0, Qo, rfl, hx, hb, hml, hown, hts, hKm, hKK, hK, hA, hcs⟩ := hX
  intro out hf
  obtain ⟨r, σ1, hfc, hk⟩ := zb_some hf
  intro H locs ls hP hD hS hl
  have hMr := hM (r, σ1) ex H.size hfc
  subst hst
  subst hcv
  exact z_call (em := zemI) (w := wl σ ++ ex) (w1 := wl σ1 ++ ex) (r := r) (va_runV (As := As) (rest := rest) ⟨hx, hb, hml, hown, hts⟩ hMr (cwV n hts hT rfl hrm.1 hrm.2 hd hR) ⟨fun a U g mk q => by obtain ⟨q0, q1, qP, qK, qD⟩ := q; exact ⟨q0, q1, qP, hKm.2 U g mk a qK, qD⟩, va_recv hK hP hc hq, fun U hU hW => ⟨rfl, by rw [hU], by rw [hU]; exact hP, hKm.1 _ U hW hKK, hD.weaken (fun _ _ _ _ => trivial)⟩⟩ rfl hn hl.1 rfl (lv_room hW) hdg ⟨by rw [Nat.add_zero]; exact hcs.1, by rw [Nat.add_zero]; exact hcs.2⟩) hD hS hA (fun H1 locs1 h1 h2 h3 => kk r σ1 out hk H1 locs1 ls h1 h2 h3 hl)
theorem z_callSi (hX : zIs V l cc own TT KK D cl tys nL R) {fC : Option (Int32 × zS)} {k : Int32 → zS → Option (α × zS)} {n : Nat} (As : List Value) (hM : zC zemI l y (Cond.code y bytes maxL ret :: TT) rm D cl KK wl σ As fC) (hT : GoodIn TT (va_wsS own index y (Cond.code y bytes maxL ret :: TT))) (hrm : rm.cells = 0 ∧ rm.slots = 0) (hR : rm.frames + 1 ≤ R.frames ∧ 8 + (maxL + 11) + rm.locals ≤ R.locals) (hd : y.cls ≠ "java/lang/invoke/MethodHandle" ∧ y.cls ≠ "java/lang/invoke/VarHandle" ∧ (parseMethodDescriptor y.desc).map (fun d => d.parameters.length) = some n) (hn : As.length = n)
    (hst : st = As.reverse ++ rest) (hW : (rest.map fun v => v.category).sum ≤ 8) (hdg : decode cc pc = .ok (.invokestatic index, 3))
    (kk : ∀ (r : Int32) (σ1 : zS), zJ V (k r σ1) (wl σ1 ++ ex) (pc + 3) lv (.int r :: rest)) : zJ V (zb fC k) (wl σ ++ ex) pc lv st := by
  obtain ⟨p, e, s, m, args, below, meth, c, cells, slots, A, H0, Qo, rfl, hx, hb, hml, hown, hts, hKm, hKK, hK, hA, hcs⟩ := hX
  intro out hf
  obtain ⟨r, σ1, hfc, hk⟩ := zb_some hf
  intro H locs ls hP hD hS hl
  have hMr := hM (r, σ1) ex H.size hfc
  subst hst
  exact z_call (em := zemI) (w := wl σ ++ ex) (w1 := wl σ1 ++ ex) (r := r) (va_runS (As := As) (rest := rest) ⟨hx, hb, hml, hown, hts⟩ hMr (va_cwS n hts hT rfl hrm.1 hrm.2 hd hR) ⟨fun a U g mk q => by obtain ⟨q0, q1, qP, qK, qD⟩ := q; exact ⟨q0, q1, qP, hKm.2 U g mk a qK, qD⟩, fun U hU hW => ⟨rfl, by rw [hU], by rw [hU]; exact hP, hKm.1 _ U hW hKK, hD.weaken (fun _ _ _ _ => trivial)⟩⟩ rfl hn hl.1 rfl (lv_room hW) hdg ⟨by rw [Nat.add_zero]; exact hcs.1, by rw [Nat.add_zero]; exact hcs.2⟩) hD hS hA (fun H1 locs1 h1 h2 h3 => kk r σ1 out hk H1 locs1 ls h1 h2 h3 hl)
theorem z_callSNi (hX : zIs V l cc own TT KK D cl tys nL R) {fC : Option (Int32 × zS)} {k : Int32 → zS → Option (α × zS)} {host : String} {n : Nat} (As : List Value) (hM : zC zemI l y (Cond.code y bytes maxL ret :: TT) rm D cl KK wl σ As fC) (hG : GoodIn TT (Cond.code y bytes maxL ret :: TT)) (hN : ∀ U, KK U → va_Nw (.methodLinkNest own index y host) U) (hstat : Cond.static y ∈ TT) (hini : Cond.initialized y.cls ∈ TT) (hrm : rm.cells = 0 ∧ rm.slots = 0) (hR : rm.frames + 1 ≤ R.frames ∧ 8 + (maxL + 11) + rm.locals ≤ R.locals) (hd : y.cls ≠ "java/lang/invoke/MethodHandle" ∧ y.cls ≠ "java/lang/invoke/VarHandle" ∧ (parseMethodDescriptor y.desc).map (fun d => d.parameters.length) = some n) (hn : As.length = n)
    (hst : st = As.reverse ++ rest) (hW : (rest.map fun v => v.category).sum ≤ 8) (hdg : decode cc pc = .ok (.invokestatic index, 3))
    (kk : ∀ (r : Int32) (σ1 : zS), zJ V (k r σ1) (wl σ1 ++ ex) (pc + 3) lv (.int r :: rest)) : zJ V (zb fC k) (wl σ ++ ex) pc lv st := by
  obtain ⟨p, e, s, m, args, below, meth, c, cells, slots, A, H0, Qo, rfl, hx, hb, hml, hown, hts, hKm, hKK, hK, hA, hcs⟩ := hX
  intro out hf
  obtain ⟨r, σ1, hfc, hk⟩ := zb_some hf
  intro H locs ls hP hD hS hl
  have hMr := hM (r, σ1) ex H.size hfc
  subst hst
  exact z_call (em := zemI) (w := wl σ ++ ex) (w1 := wl σ1 ++ ex) (r := r) (va_runSN (As := As) (rest := rest) ⟨hx, hb, hml, hown, hts⟩ hMr ⟨va_cnB n hts hG rfl hrm.1 hrm.2 (hN s hKK) (hts _ hini) hd hR, hts _ hstat, trivial⟩ ⟨fun a U g mk q => by obtain ⟨q0, q1, qP, qK, qD⟩ := q; exact ⟨q0, q1, qP, hKm.2 U g mk a qK, qD⟩, fun U hU hW => ⟨rfl, by rw [hU], by rw [hU]; exact hP, hKm.1 _ U hW hKK, hD.weaken (fun _ _ _ _ => trivial)⟩⟩ rfl hn hl.1 rfl (lv_room hW) hdg ⟨by rw [Nat.add_zero]; exact hcs.1, by rw [Nat.add_zero]; exact hcs.2⟩) hD hS hA (fun H1 locs1 h1 h2 h3 => kk r σ1 out hk H1 locs1 ls h1 h2 h3 hl)

theorem z_callVl (hX : zIs V l cc own TT KK D cl tys nL R) {fC : Option (Int64 × zS)} {k : Int64 → zS → Option (α × zS)} {C : String} {b ci : Nat} {fs : List Value} {cv : vw_C} {n : Nat} (As : List Value) (hM : zC zemL l y (Cond.code y bytes maxL ret :: TT) rm D cl KK wl σ (.ref b :: As) fC) (hT : GoodIn TT (wsV own index C y (Cond.code y bytes maxL ret :: TT))) (hrm : rm.cells = 0 ∧ rm.slots = 0) (hR : rm.frames + 1 ≤ R.frames ∧ 8 + (maxL + 11) + rm.locals ≤ R.locals) (hd : y.cls = C ∧ y.cls ≠ "java/lang/invoke/MethodHandle" ∧ y.cls ≠ "java/lang/invoke/VarHandle" ∧ (parseMethodDescriptor y.desc).map (fun d => d.parameters.length) = some n) (hn : As.length = n)
    (q0 : Nat) (hq : (wl σ ++ ex)[q0]? = some (b, .inr (ci, fs))) (hc : cl[ci]? = some cv) (hcv : cv.1 = C) (hst : st = As.reverse ++ .ref b :: rest) (hW : (rest.map fun v => v.category).sum ≤ 8) (hdg : decode cc pc = .ok (.invokevirtual index, 3))
    (kk : ∀ (r : Int64) (σ1 : zS), zJ V (k r σ1) (wl σ1 ++ ex) (pc + 3) lv (.long r :: rest)) : zJ V (zb fC k) (wl σ ++ ex) pc lv st := by
  obtain ⟨p, e, s, m, args, below, meth, c, cells, slots, A, H0, Qo, rfl, hx, hb, hml, hown, hts, hKm, hKK, hK, hA, hcs⟩ := hX
  intro out hf
  obtain ⟨r, σ1, hfc, hk⟩ := zb_some hf
  intro H locs ls hP hD hS hl
  have hMr := hM (r, σ1) ex H.size hfc
  subst hst
  subst hcv
  exact z_call (em := zemL) (w := wl σ ++ ex) (w1 := wl σ1 ++ ex) (r := r) (va_runV (As := As) (rest := rest) ⟨hx, hb, hml, hown, hts⟩ hMr (cwV n hts hT rfl hrm.1 hrm.2 hd hR) ⟨fun a U g mk q => by obtain ⟨q0, q1, qP, qK, qD⟩ := q; exact ⟨q0, q1, qP, hKm.2 U g mk a qK, qD⟩, va_recv hK hP hc hq, fun U hU hW => ⟨rfl, by rw [hU], by rw [hU]; exact hP, hKm.1 _ U hW hKK, hD.weaken (fun _ _ _ _ => trivial)⟩⟩ rfl hn hl.1 rfl (lv_room hW) hdg ⟨by rw [Nat.add_zero]; exact hcs.1, by rw [Nat.add_zero]; exact hcs.2⟩) hD hS hA (fun H1 locs1 h1 h2 h3 => kk r σ1 out hk H1 locs1 ls h1 h2 h3 hl)
theorem z_callSl (hX : zIs V l cc own TT KK D cl tys nL R) {fC : Option (Int64 × zS)} {k : Int64 → zS → Option (α × zS)} {n : Nat} (As : List Value) (hM : zC zemL l y (Cond.code y bytes maxL ret :: TT) rm D cl KK wl σ As fC) (hT : GoodIn TT (va_wsS own index y (Cond.code y bytes maxL ret :: TT))) (hrm : rm.cells = 0 ∧ rm.slots = 0) (hR : rm.frames + 1 ≤ R.frames ∧ 8 + (maxL + 11) + rm.locals ≤ R.locals) (hd : y.cls ≠ "java/lang/invoke/MethodHandle" ∧ y.cls ≠ "java/lang/invoke/VarHandle" ∧ (parseMethodDescriptor y.desc).map (fun d => d.parameters.length) = some n) (hn : As.length = n)
    (hst : st = As.reverse ++ rest) (hW : (rest.map fun v => v.category).sum ≤ 8) (hdg : decode cc pc = .ok (.invokestatic index, 3))
    (kk : ∀ (r : Int64) (σ1 : zS), zJ V (k r σ1) (wl σ1 ++ ex) (pc + 3) lv (.long r :: rest)) : zJ V (zb fC k) (wl σ ++ ex) pc lv st := by
  obtain ⟨p, e, s, m, args, below, meth, c, cells, slots, A, H0, Qo, rfl, hx, hb, hml, hown, hts, hKm, hKK, hK, hA, hcs⟩ := hX
  intro out hf
  obtain ⟨r, σ1, hfc, hk⟩ := zb_some hf
  intro H locs ls hP hD hS hl
  have hMr := hM (r, σ1) ex H.size hfc
  subst hst
  exact z_call (em := zemL) (w := wl σ ++ ex) (w1 := wl σ1 ++ ex) (r := r) (va_runS (As := As) (rest := rest) ⟨hx, hb, hml, hown, hts⟩ hMr (va_cwS n hts hT rfl hrm.1 hrm.2 hd hR) ⟨fun a U g mk q => by obtain ⟨q0, q1, qP, qK, qD⟩ := q; exact ⟨q0, q1, qP, hKm.2 U g mk a qK, qD⟩, fun U hU hW => ⟨rfl, by rw [hU], by rw [hU]; exact hP, hKm.1 _ U hW hKK, hD.weaken (fun _ _ _ _ => trivial)⟩⟩ rfl hn hl.1 rfl (lv_room hW) hdg ⟨by rw [Nat.add_zero]; exact hcs.1, by rw [Nat.add_zero]; exact hcs.2⟩) hD hS hA (fun H1 locs1 h1 h2 h3 => kk r σ1 out hk H1 locs1 ls h1 h2 h3 hl)
theorem z_callSNl (hX : zIs V l cc own TT KK D cl tys nL R) {fC : Option (Int64 × zS)} {k : Int64 → zS → Option (α × zS)} {host : String} {n : Nat} (As : List Value) (hM : zC zemL l y (Cond.code y bytes maxL ret :: TT) rm D cl KK wl σ As fC) (hG : GoodIn TT (Cond.code y bytes maxL ret :: TT)) (hN : ∀ U, KK U → va_Nw (.methodLinkNest own index y host) U) (hstat : Cond.static y ∈ TT) (hini : Cond.initialized y.cls ∈ TT) (hrm : rm.cells = 0 ∧ rm.slots = 0) (hR : rm.frames + 1 ≤ R.frames ∧ 8 + (maxL + 11) + rm.locals ≤ R.locals) (hd : y.cls ≠ "java/lang/invoke/MethodHandle" ∧ y.cls ≠ "java/lang/invoke/VarHandle" ∧ (parseMethodDescriptor y.desc).map (fun d => d.parameters.length) = some n) (hn : As.length = n)
    (hst : st = As.reverse ++ rest) (hW : (rest.map fun v => v.category).sum ≤ 8) (hdg : decode cc pc = .ok (.invokestatic index, 3))
    (kk : ∀ (r : Int64) (σ1 : zS), zJ V (k r σ1) (wl σ1 ++ ex) (pc + 3) lv (.long r :: rest)) : zJ V (zb fC k) (wl σ ++ ex) pc lv st := by
  obtain ⟨p, e, s, m, args, below, meth, c, cells, slots, A, H0, Qo, rfl, hx, hb, hml, hown, hts, hKm, hKK, hK, hA, hcs⟩ := hX
  intro out hf
  obtain ⟨r, σ1, hfc, hk⟩ := zb_some hf
  intro H locs ls hP hD hS hl
  have hMr := hM (r, σ1) ex H.size hfc
  subst hst
  exact z_call (em := zemL) (w := wl σ ++ ex) (w1 := wl σ1 ++ ex) (r := r) (va_runSN (As := As) (rest := rest) ⟨hx, hb, hml, hown, hts⟩ hMr ⟨va_cnB n hts hG rfl hrm.1 hrm.2 (hN s hKK) (hts _ hini) hd hR, hts _ hstat, trivial⟩ ⟨fun a U g mk q => by obtain ⟨q0, q1, qP, qK, qD⟩ := q; exact ⟨q0, q1, qP, hKm.2 U g mk a qK, qD⟩, fun U hU hW => ⟨rfl, by rw [hU], by rw [hU]; exact hP, hKm.1 _ U hW hKK, hD.weaken (fun _ _ _ _ => trivial)⟩⟩ rfl hn hl.1 rfl (lv_room hW) hdg ⟨by rw [Nat.add_zero]; exact hcs.1, by rw [Nat.add_zero]; exact hcs.2⟩) hD hS hA (fun H1 locs1 h1 h2 h3 => kk r σ1 out hk H1 locs1 ls h1 h2 h3 hl)

theorem z_callVv (hX : zIs V l cc own TT KK D cl tys nL R) {fC : Option (Unit × zS)} {k : Unit → zS → Option (α × zS)} {C : String} {b ci : Nat} {fs : List Value} {cv : vw_C} {n : Nat} (As : List Value) (hM : zC zemV l y (Cond.code y bytes maxL ret :: TT) rm D cl KK wl σ (.ref b :: As) fC) (hT : GoodIn TT (wsV own index C y (Cond.code y bytes maxL ret :: TT))) (hrm : rm.cells = 0 ∧ rm.slots = 0) (hR : rm.frames + 1 ≤ R.frames ∧ 8 + (maxL + 11) + rm.locals ≤ R.locals) (hd : y.cls = C ∧ y.cls ≠ "java/lang/invoke/MethodHandle" ∧ y.cls ≠ "java/lang/invoke/VarHandle" ∧ (parseMethodDescriptor y.desc).map (fun d => d.parameters.length) = some n) (hn : As.length = n)
    (q0 : Nat) (hq : (wl σ ++ ex)[q0]? = some (b, .inr (ci, fs))) (hc : cl[ci]? = some cv) (hcv : cv.1 = C) (hst : st = As.reverse ++ .ref b :: rest) (hW : (rest.map fun v => v.category).sum ≤ 8) (hdg : decode cc pc = .ok (.invokevirtual index, 3))
    (kk : ∀ (r : Unit) (σ1 : zS), zJ V (k r σ1) (wl σ1 ++ ex) (pc + 3) lv (rest)) : zJ V (zb fC k) (wl σ ++ ex) pc lv st := by
  obtain ⟨p, e, s, m, args, below, meth, c, cells, slots, A, H0, Qo, rfl, hx, hb, hml, hown, hts, hKm, hKK, hK, hA, hcs⟩ := hX
  intro out hf
  obtain ⟨r, σ1, hfc, hk⟩ := zb_some hf
  intro H locs ls hP hD hS hl
  have hMr := hM (r, σ1) ex H.size hfc
  subst hst
  subst hcv
  exact z_call (em := zemV) (w := wl σ ++ ex) (w1 := wl σ1 ++ ex) (r := r) (va_runV (As := As) (rest := rest) ⟨hx, hb, hml, hown, hts⟩ hMr (cwV n hts hT rfl hrm.1 hrm.2 hd hR) ⟨fun a U g mk q => by obtain ⟨q0, q1, qP, qK, qD⟩ := q; exact ⟨q0, q1, qP, hKm.2 U g mk a qK, qD⟩, va_recv hK hP hc hq, fun U hU hW => ⟨rfl, by rw [hU], by rw [hU]; exact hP, hKm.1 _ U hW hKK, hD.weaken (fun _ _ _ _ => trivial)⟩⟩ rfl hn hl.1 rfl (lv_room hW) hdg ⟨by rw [Nat.add_zero]; exact hcs.1, by rw [Nat.add_zero]; exact hcs.2⟩) hD hS hA (fun H1 locs1 h1 h2 h3 => kk r σ1 out hk H1 locs1 ls h1 h2 h3 hl)
theorem z_callSv (hX : zIs V l cc own TT KK D cl tys nL R) {fC : Option (Unit × zS)} {k : Unit → zS → Option (α × zS)} {n : Nat} (As : List Value) (hM : zC zemV l y (Cond.code y bytes maxL ret :: TT) rm D cl KK wl σ As fC) (hT : GoodIn TT (va_wsS own index y (Cond.code y bytes maxL ret :: TT))) (hrm : rm.cells = 0 ∧ rm.slots = 0) (hR : rm.frames + 1 ≤ R.frames ∧ 8 + (maxL + 11) + rm.locals ≤ R.locals) (hd : y.cls ≠ "java/lang/invoke/MethodHandle" ∧ y.cls ≠ "java/lang/invoke/VarHandle" ∧ (parseMethodDescriptor y.desc).map (fun d => d.parameters.length) = some n) (hn : As.length = n)
    (hst : st = As.reverse ++ rest) (hW : (rest.map fun v => v.category).sum ≤ 8) (hdg : decode cc pc = .ok (.invokestatic index, 3))
    (kk : ∀ (r : Unit) (σ1 : zS), zJ V (k r σ1) (wl σ1 ++ ex) (pc + 3) lv (rest)) : zJ V (zb fC k) (wl σ ++ ex) pc lv st := by
  obtain ⟨p, e, s, m, args, below, meth, c, cells, slots, A, H0, Qo, rfl, hx, hb, hml, hown, hts, hKm, hKK, hK, hA, hcs⟩ := hX
  intro out hf
  obtain ⟨r, σ1, hfc, hk⟩ := zb_some hf
  intro H locs ls hP hD hS hl
  have hMr := hM (r, σ1) ex H.size hfc
  subst hst
  exact z_call (em := zemV) (w := wl σ ++ ex) (w1 := wl σ1 ++ ex) (r := r) (va_runS (As := As) (rest := rest) ⟨hx, hb, hml, hown, hts⟩ hMr (va_cwS n hts hT rfl hrm.1 hrm.2 hd hR) ⟨fun a U g mk q => by obtain ⟨q0, q1, qP, qK, qD⟩ := q; exact ⟨q0, q1, qP, hKm.2 U g mk a qK, qD⟩, fun U hU hW => ⟨rfl, by rw [hU], by rw [hU]; exact hP, hKm.1 _ U hW hKK, hD.weaken (fun _ _ _ _ => trivial)⟩⟩ rfl hn hl.1 rfl (lv_room hW) hdg ⟨by rw [Nat.add_zero]; exact hcs.1, by rw [Nat.add_zero]; exact hcs.2⟩) hD hS hA (fun H1 locs1 h1 h2 h3 => kk r σ1 out hk H1 locs1 ls h1 h2 h3 hl)
theorem z_callSNv (hX : zIs V l cc own TT KK D cl tys nL R) {fC : Option (Unit × zS)} {k : Unit → zS → Option (α × zS)} {host : String} {n : Nat} (As : List Value) (hM : zC zemV l y (Cond.code y bytes maxL ret :: TT) rm D cl KK wl σ As fC) (hG : GoodIn TT (Cond.code y bytes maxL ret :: TT)) (hN : ∀ U, KK U → va_Nw (.methodLinkNest own index y host) U) (hstat : Cond.static y ∈ TT) (hini : Cond.initialized y.cls ∈ TT) (hrm : rm.cells = 0 ∧ rm.slots = 0) (hR : rm.frames + 1 ≤ R.frames ∧ 8 + (maxL + 11) + rm.locals ≤ R.locals) (hd : y.cls ≠ "java/lang/invoke/MethodHandle" ∧ y.cls ≠ "java/lang/invoke/VarHandle" ∧ (parseMethodDescriptor y.desc).map (fun d => d.parameters.length) = some n) (hn : As.length = n)
    (hst : st = As.reverse ++ rest) (hW : (rest.map fun v => v.category).sum ≤ 8) (hdg : decode cc pc = .ok (.invokestatic index, 3))
    (kk : ∀ (r : Unit) (σ1 : zS), zJ V (k r σ1) (wl σ1 ++ ex) (pc + 3) lv (rest)) : zJ V (zb fC k) (wl σ ++ ex) pc lv st := by
  obtain ⟨p, e, s, m, args, below, meth, c, cells, slots, A, H0, Qo, rfl, hx, hb, hml, hown, hts, hKm, hKK, hK, hA, hcs⟩ := hX
  intro out hf
  obtain ⟨r, σ1, hfc, hk⟩ := zb_some hf
  intro H locs ls hP hD hS hl
  have hMr := hM (r, σ1) ex H.size hfc
  subst hst
  exact z_call (em := zemV) (w := wl σ ++ ex) (w1 := wl σ1 ++ ex) (r := r) (va_runSN (As := As) (rest := rest) ⟨hx, hb, hml, hown, hts⟩ hMr ⟨va_cnB n hts hG rfl hrm.1 hrm.2 (hN s hKK) (hts _ hini) hd hR, hts _ hstat, trivial⟩ ⟨fun a U g mk q => by obtain ⟨q0, q1, qP, qK, qD⟩ := q; exact ⟨q0, q1, qP, hKm.2 U g mk a qK, qD⟩, fun U hU hW => ⟨rfl, by rw [hU], by rw [hU]; exact hP, hKm.1 _ U hW hKK, hD.weaken (fun _ _ _ _ => trivial)⟩⟩ rfl hn hl.1 rfl (lv_room hW) hdg ⟨by rw [Nat.add_zero]; exact hcs.1, by rw [Nat.add_zero]; exact hcs.2⟩) hD hS hA (fun H1 locs1 h1 h2 h3 => kk r σ1 out hk H1 locs1 ls h1 h2 h3 hl)

end ZCR
section ZMK
variable {l : Launch} {cc : ByteArray} {TT : List Cond} {KK : State → Prop} {D : va_G} {cl : List vw_C} {tys : List (ClassId × FieldType)} {nL : Nat} {rm : Room} {wl : zS → va_W} {σ : zS} {y : MethodName} {av : List Value}

theorem zmk_i {f : Option (Int32 × zS)} (hy : plainName y.cls = true) (hKm : zKm KK) (hKt : ∀ U, KK U → va_K D cl tys U) (hav : (lg_sl av).length ≤ nL)
    (hbody : ∀ (V : zV Int32) (ex : va_W), zIs V l cc y.cls TT KK D cl tys nL rm → zRi V cc wl ex → zJ V f (wl σ ++ ex) 0 (lv_args 0 av) []) : zC zemI l y (Cond.code y cc nL (some .int) :: TT) rm D cl KK wl σ av f := by
  intro out ex sz hf
  refine Met.ofW (cc := cc) (maxL := nL) (ret := (some .int)) hy rfl ?_
  intro p e s m args below meth c s₁ B hml hv
  obtain ⟨rfl, hsz, hP, hKK, hD0⟩ := hv
  have hx := B.exec
  have hb := B.bytes
  have hr := B.returns
  have hts := atoms_spec (ws := Cond.code y cc nL (some .int) :: TT) B.pre
  have hown : s.vm.findClass y.cls = some m.cls := findClass_of_methodNamed B.named
  have hlocks := B.notSynchronized
  subst hsz
  have hD := hD0.self (sz := s.heap.size)
  have hA : ∀ q : Nat, s.heap.size ≤ q → va_A (wl σ ++ ex) s.heap.size q := fun q h => Or.inr h
  have hl := lv_entry av (n := nL) hav
  rw [lg_entry_eq]
  refine hbody (fun w pc lv st out => ∀ (H : Heap) (locs : List Loc) (ls : Array Slot), va_P D cl w H → va_D (va_A (wl σ ++ ex) s.heap.size) w → va_S (va_A (wl σ ++ ex) s.heap.size) s.heap H locs → lv_has ls nL lv → W p l e rm s m av.toArray below meth c H locs 0 0 (MQ below (fun _ st oc t => (oc = .returned (zemI out.1) ∧ va_P D cl (wl out.2 ++ ex) t.heap ∧ va_D (va_A (wl σ ++ ex) s.heap.size) (wl out.2 ++ ex)) ∧ va_F (va_A (wl σ ++ ex) s.heap.size) st t) av.toArray s 0 0 (va_A (wl σ ++ ex) s.heap.size)) (F0 m pc ls st)) ex
    ⟨p, e, s, m, av.toArray, below, meth, c, 0, 0, va_A (wl σ ++ ex) s.heap.size, s.heap, (fun out => MQ below (fun _ st oc t => (oc = .returned (zemI out.1) ∧ va_P D cl (wl out.2 ++ ex) t.heap ∧ va_D (va_A (wl σ ++ ex) s.heap.size) (wl out.2 ++ ex)) ∧ va_F (va_A (wl σ ++ ex) s.heap.size) st t) av.toArray s 0 0 (va_A (wl σ ++ ex) s.heap.size)), rfl, hx, hb, hml, hown, fun w h => hts w (List.mem_cons_of_mem _ h), hKm, hKK, hKt s hKK, hA, Nat.zero_le _, Nat.zero_le _⟩ ?_ out hf s.heap [] _ hP hD va_S.rf hl
  intro σ1 r pc lv hd H locs ls hP1 hD1 hS1 hl1
  exact W.iret (v := r) hx hb hr (fun t ht hW => ⟨⟨rfl, by rw [ht]; exact hP1, hD1⟩, hS1.F ht⟩) hS1.2.2 hd
theorem zmk_z {f : Option (Int32 × zS)} (hy : plainName y.cls = true) (hKm : zKm KK) (hKt : ∀ U, KK U → va_K D cl tys U) (hav : (lg_sl av).length ≤ nL)
    (hbody : ∀ (V : zV Int32) (ex : va_W), zIs V l cc y.cls TT KK D cl tys nL rm → zRz V cc wl ex → zJ V f (wl σ ++ ex) 0 (lv_args 0 av) []) : zC zemI l y (Cond.code y cc nL (some .boolean) :: TT) rm D cl KK wl σ av f := by
  intro out ex sz hf
  refine Met.ofW (cc := cc) (maxL := nL) (ret := (some .boolean)) hy rfl ?_
  intro p e s m args below meth c s₁ B hml hv
  obtain ⟨rfl, hsz, hP, hKK, hD0⟩ := hv
  have hx := B.exec
  have hb := B.bytes
  have hr := B.returns
  have hts := atoms_spec (ws := Cond.code y cc nL (some .boolean) :: TT) B.pre
  have hown : s.vm.findClass y.cls = some m.cls := findClass_of_methodNamed B.named
  have hlocks := B.notSynchronized
  subst hsz
  have hD := hD0.self (sz := s.heap.size)
  have hA : ∀ q : Nat, s.heap.size ≤ q → va_A (wl σ ++ ex) s.heap.size q := fun q h => Or.inr h
  have hl := lv_entry av (n := nL) hav
  rw [lg_entry_eq]
  refine hbody (fun w pc lv st out => ∀ (H : Heap) (locs : List Loc) (ls : Array Slot), va_P D cl w H → va_D (va_A (wl σ ++ ex) s.heap.size) w → va_S (va_A (wl σ ++ ex) s.heap.size) s.heap H locs → lv_has ls nL lv → W p l e rm s m av.toArray below meth c H locs 0 0 (MQ below (fun _ st oc t => (oc = .returned (zemI out.1) ∧ va_P D cl (wl out.2 ++ ex) t.heap ∧ va_D (va_A (wl σ ++ ex) s.heap.size) (wl out.2 ++ ex)) ∧ va_F (va_A (wl σ ++ ex) s.heap.size) st t) av.toArray s 0 0 (va_A (wl σ ++ ex) s.heap.size)) (F0 m pc ls st)) ex
    ⟨p, e, s, m, av.toArray, below, meth, c, 0, 0, va_A (wl σ ++ ex) s.heap.size, s.heap, (fun out => MQ below (fun _ st oc t => (oc = .returned (zemI out.1) ∧ va_P D cl (wl out.2 ++ ex) t.heap ∧ va_D (va_A (wl σ ++ ex) s.heap.size) (wl out.2 ++ ex)) ∧ va_F (va_A (wl σ ++ ex) s.heap.size) st t) av.toArray s 0 0 (va_A (wl σ ++ ex) s.heap.size)), rfl, hx, hb, hml, hown, fun w h => hts w (List.mem_cons_of_mem _ h), hKm, hKK, hKt s hKK, hA, Nat.zero_le _, Nat.zero_le _⟩ ?_ out hf s.heap [] _ hP hD va_S.rf hl
  intro σ1 r pc lv hn hd H locs ls hP1 hD1 hS1 hl1
  exact W.zret (v := r) hx hb hr hn (fun t ht hW => ⟨⟨rfl, by rw [ht]; exact hP1, hD1⟩, hS1.F ht⟩) hS1.2.2 hd
theorem zmk_l {f : Option (Int64 × zS)} (hy : plainName y.cls = true) (hKm : zKm KK) (hKt : ∀ U, KK U → va_K D cl tys U) (hav : (lg_sl av).length ≤ nL)
    (hbody : ∀ (V : zV Int64) (ex : va_W), zIs V l cc y.cls TT KK D cl tys nL rm → zRl V cc wl ex → zJ V f (wl σ ++ ex) 0 (lv_args 0 av) []) : zC zemL l y (Cond.code y cc nL (some .long) :: TT) rm D cl KK wl σ av f := by
  intro out ex sz hf
  refine Met.ofW (cc := cc) (maxL := nL) (ret := (some .long)) hy rfl ?_
  intro p e s m args below meth c s₁ B hml hv
  obtain ⟨rfl, hsz, hP, hKK, hD0⟩ := hv
  have hx := B.exec
  have hb := B.bytes
  have hr := B.returns
  have hts := atoms_spec (ws := Cond.code y cc nL (some .long) :: TT) B.pre
  have hown : s.vm.findClass y.cls = some m.cls := findClass_of_methodNamed B.named
  have hlocks := B.notSynchronized
  subst hsz
  have hD := hD0.self (sz := s.heap.size)
  have hA : ∀ q : Nat, s.heap.size ≤ q → va_A (wl σ ++ ex) s.heap.size q := fun q h => Or.inr h
  have hl := lv_entry av (n := nL) hav
  rw [lg_entry_eq]
  refine hbody (fun w pc lv st out => ∀ (H : Heap) (locs : List Loc) (ls : Array Slot), va_P D cl w H → va_D (va_A (wl σ ++ ex) s.heap.size) w → va_S (va_A (wl σ ++ ex) s.heap.size) s.heap H locs → lv_has ls nL lv → W p l e rm s m av.toArray below meth c H locs 0 0 (MQ below (fun _ st oc t => (oc = .returned (zemL out.1) ∧ va_P D cl (wl out.2 ++ ex) t.heap ∧ va_D (va_A (wl σ ++ ex) s.heap.size) (wl out.2 ++ ex)) ∧ va_F (va_A (wl σ ++ ex) s.heap.size) st t) av.toArray s 0 0 (va_A (wl σ ++ ex) s.heap.size)) (F0 m pc ls st)) ex
    ⟨p, e, s, m, av.toArray, below, meth, c, 0, 0, va_A (wl σ ++ ex) s.heap.size, s.heap, (fun out => MQ below (fun _ st oc t => (oc = .returned (zemL out.1) ∧ va_P D cl (wl out.2 ++ ex) t.heap ∧ va_D (va_A (wl σ ++ ex) s.heap.size) (wl out.2 ++ ex)) ∧ va_F (va_A (wl σ ++ ex) s.heap.size) st t) av.toArray s 0 0 (va_A (wl σ ++ ex) s.heap.size)), rfl, hx, hb, hml, hown, fun w h => hts w (List.mem_cons_of_mem _ h), hKm, hKK, hKt s hKK, hA, Nat.zero_le _, Nat.zero_le _⟩ ?_ out hf s.heap [] _ hP hD va_S.rf hl
  intro σ1 r pc lv hd H locs ls hP1 hD1 hS1 hl1
  exact W.lret (v := r) hx hb hr (fun t ht hW => ⟨⟨rfl, by rw [ht]; exact hP1, hD1⟩, hS1.F ht⟩) hS1.2.2 hd
theorem zmk_v {f : Option (Unit × zS)} (hy : plainName y.cls = true) (hKm : zKm KK) (hKt : ∀ U, KK U → va_K D cl tys U) (hav : (lg_sl av).length ≤ nL)
    (hbody : ∀ (V : zV Unit) (ex : va_W), zIs V l cc y.cls TT KK D cl tys nL rm → zRv V cc wl ex → zJ V f (wl σ ++ ex) 0 (lv_args 0 av) []) : zC zemV l y (Cond.code y cc nL none :: TT) rm D cl KK wl σ av f := by
  intro out ex sz hf
  refine Met.ofW (cc := cc) (maxL := nL) (ret := none) hy rfl ?_
  intro p e s m args below meth c s₁ B hml hv
  obtain ⟨rfl, hsz, hP, hKK, hD0⟩ := hv
  have hx := B.exec
  have hb := B.bytes
  have hr := B.returns
  have hts := atoms_spec (ws := Cond.code y cc nL none :: TT) B.pre
  have hown : s.vm.findClass y.cls = some m.cls := findClass_of_methodNamed B.named
  have hlocks := B.notSynchronized
  subst hsz
  have hD := hD0.self (sz := s.heap.size)
  have hA : ∀ q : Nat, s.heap.size ≤ q → va_A (wl σ ++ ex) s.heap.size q := fun q h => Or.inr h
  have hl := lv_entry av (n := nL) hav
  rw [lg_entry_eq]
  refine hbody (fun w pc lv st out => ∀ (H : Heap) (locs : List Loc) (ls : Array Slot), va_P D cl w H → va_D (va_A (wl σ ++ ex) s.heap.size) w → va_S (va_A (wl σ ++ ex) s.heap.size) s.heap H locs → lv_has ls nL lv → W p l e rm s m av.toArray below meth c H locs 0 0 (MQ below (fun _ st oc t => (oc = .returned (zemV out.1) ∧ va_P D cl (wl out.2 ++ ex) t.heap ∧ va_D (va_A (wl σ ++ ex) s.heap.size) (wl out.2 ++ ex)) ∧ va_F (va_A (wl σ ++ ex) s.heap.size) st t) av.toArray s 0 0 (va_A (wl σ ++ ex) s.heap.size)) (F0 m pc ls st)) ex
    ⟨p, e, s, m, av.toArray, below, meth, c, 0, 0, va_A (wl σ ++ ex) s.heap.size, s.heap, (fun out => MQ below (fun _ st oc t => (oc = .returned (zemV out.1) ∧ va_P D cl (wl out.2 ++ ex) t.heap ∧ va_D (va_A (wl σ ++ ex) s.heap.size) (wl out.2 ++ ex)) ∧ va_F (va_A (wl σ ++ ex) s.heap.size) st t) av.toArray s 0 0 (va_A (wl σ ++ ex) s.heap.size)), rfl, hx, hb, hml, hown, fun w h => hts w (List.mem_cons_of_mem _ h), hKm, hKK, hKt s hKK, hA, Nat.zero_le _, Nat.zero_le _⟩ ?_ out hf s.heap [] _ hP hD va_S.rf hl
  intro σ1 pc lv hd H locs ls hP1 hD1 hS1 hl1
  exact W.vret hx hb hr (fun t ht hW => ⟨⟨rfl, by rw [ht]; exact hP1, hD1⟩, hS1.F ht⟩) hS1.2.2 hd
end ZMK
end
section
/-! Worlds that grow: V w tys cells slots pc lv st: the machine from here on ends well (whatever the heap that holds w). -/
abbrev zGV : Type := va_W → List (ClassId × FieldType) → Nat → Nat → Nat → List (Nat × Value) → List Value → Prop
def zGIs (V : zGV) (l : Launch) (cc : ByteArray) (own : String) (TT : List Cond) (KK : State → Prop) (D : va_G) (cl : List vw_C) (nL : Nat) (R : Room) : Prop :=
  ∃ (p : Program) (e : Env) (s : State) (m : MethodId) (args : Array Value) (below : List Frame) (meth : Method) (c : Code) (A : Nat → Prop) (H0 : Heap) (Q : State → Prop),
    V = (fun w tys cells slots pc lv st => ∀ (H : Heap) (locs : List Loc) (ls : Array Slot), va_K D cl tys s → va_P D cl w H → va_D A w → va_S A H0 H locs → lv_has ls nL lv → W p l e R s m args below meth c H locs cells slots Q (F0 m pc ls st)) ∧
    p.tables.exec = Jvm.exec ∧ c.code = cc ∧ c.maxLocals = nL ∧ s.vm.findClass own = some m.cls ∧ (∀ w ∈ TT, w.before args s = true) ∧ zKm KK ∧ KK s ∧ (∀ q, H0.size ≤ q → A q)
/-- the method is a constructor -/
def zGn (V : zGV) (l : Launch) (cc : ByteArray) (own : String) (TT : List Cond) (KK : State → Prop) (D : va_G) (cl : List vw_C) (nL : Nat) (R : Room) : Prop :=
  ∃ (p : Program) (e : Env) (s : State) (m : MethodId) (args : Array Value) (below : List Frame) (meth : Method) (c : Code) (A : Nat → Prop) (H0 : Heap) (Q : State → Prop),
    V = (fun w tys cells slots pc lv st => ∀ (H : Heap) (locs : List Loc) (ls : Array Slot), va_K D cl tys s → va_P D cl w H → va_D A w → va_S A H0 H locs → lv_has ls nL lv → W p l e R s m args below meth c H locs cells slots Q (F0 m pc ls st)) ∧
    p.tables.exec = Jvm.exec ∧ c.code = cc ∧ c.maxLocals = nL ∧ s.vm.findClass own = some m.cls ∧ (∀ w ∈ TT, w.before args s = true) ∧ zKm KK ∧ KK s ∧ (∀ q, H0.size ≤ q → A q) ∧ meth.name = "<init>"
theorem zGn.is {V : zGV} {l : Launch} {cc : ByteArray} {own : String} {TT : List Cond} {KK : State → Prop} {D : va_G} {cl : List vw_C} {nL : Nat} {R : Room} (h : zGn V l cc own TT KK D cl nL R) : zGIs V l cc own TT KK D cl nL R := by
  obtain ⟨p, e, s, m, args, below, meth, c, A, H0, Q, h1, h2, h3, h4, h5, h6, h7, h8, h9, -⟩ := h
  exact ⟨p, e, s, m, args, below, meth, c, A, H0, Q, h1, h2, h3, h4, h5, h6, h7, h8, h9⟩
section ZGR
variable {V : zGV} {l : Launch} {cc : ByteArray} {own : String} {TT : List Cond} {KK : State → Prop} {D : va_G} {cl : List vw_C} {nL : Nat} {R : Room} {w : va_W} {tys : List (ClassId × FieldType)} {cells slots pc : Nat} {lv : List (Nat × Value)} {st : List Value}

theorem g_iconst (hX : zGIs V l cc own TT KK D cl nL R) {n : Int} {v : Int32} (hd : decode cc pc = .ok (.iconst n, 1)) (hv : Int32.ofInt n = v) (k : V w tys cells slots (pc + 1) lv (.int v :: st)) : V w tys cells slots pc lv (st) := by
  obtain ⟨p, e, s, m, args, below, meth, c, A, H0, Q, rfl, hx, hb, hml, hown, hts, hKm, hKK, hA⟩ := hX
  intro H locs ls hK hP hD hS hl
  exact lv_iconst hx hb hd hv (k H locs ls hK hP hD hS hl)
theorem g_bipush (hX : zGIs V l cc own TT KK D cl nL R) {n : Int} {v : Int32} (hd : decode cc pc = .ok (.bipush n, 2)) (hv : (Int8.ofInt n).toInt32 = v) (k : V w tys cells slots (pc + 2) lv (.int v :: st)) : V w tys cells slots pc lv (st) := by
  obtain ⟨p, e, s, m, args, below, meth, c, A, H0, Q, rfl, hx, hb, hml, hown, hts, hKm, hKK, hA⟩ := hX
  intro H locs ls hK hP hD hS hl
  exact lv_bipush hx hb hd hv (k H locs ls hK hP hD hS hl)
theorem g_sipush (hX : zGIs V l cc own TT KK D cl nL R) {n : Int} {v : Int32} (hd : decode cc pc = .ok (.sipush n, 3)) (hv : (Int16.ofInt n).toInt32 = v) (k : V w tys cells slots (pc + 3) lv (.int v :: st)) : V w tys cells slots pc lv (st) := by
  obtain ⟨p, e, s, m, args, below, meth, c, A, H0, Q, rfl, hx, hb, hml, hown, hts, hKm, hKK, hA⟩ := hX
  intro H locs ls hK hP hD hS hl
  exact lv_sipush hx hb hd hv (k H locs ls hK hP hD hS hl)
theorem g_aload_n (hX : zGIs V l cc own TT KK D cl nL R) {j : Fin 4} {i : Nat} {x : Nat} (hd : decode cc pc = .ok (.aload_n j, 1)) (hi : (j : Nat) = i) (hg : zg lv i = some (.ref x)) (k : V w tys cells slots (pc + 1) lv (.ref x :: st)) : V w tys cells slots pc lv (st) := by
  obtain ⟨p, e, s, m, args, below, meth, c, A, H0, Q, rfl, hx, hb, hml, hown, hts, hKm, hKK, hA⟩ := hX
  intro H locs ls hK hP hD hS hl
  exact lv_aload_n hx hb hd hi (zg_at hl hg) (k H locs ls hK hP hD hS hl)
theorem g_dup (hX : zGIs V l cc own TT KK D cl nL R) {va : Value} (hd : decode cc pc = .ok (.dup, 1)) (h1 : va.category = 1) (k : V w tys cells slots (pc + 1) lv (va :: va :: st)) : V w tys cells slots pc lv (va :: st) := by
  obtain ⟨p, e, s, m, args, below, meth, c, A, H0, Q, rfl, hx, hb, hml, hown, hts, hKm, hKK, hA⟩ := hX
  intro H locs ls hK hP hD hS hl
  exact lv_dup hx hb hd h1 (k H locs ls hK hP hD hS hl)
theorem g_istore_n (hX : zGIs V l cc own TT KK D cl nL R) {j : Fin 4} {i : Nat} {x : Int32} {lv2 : List (Nat × Value)} (hd : decode cc pc = .ok (.istore_n j, 1)) (hi : (j : Nat) = i) (hn : i < nL) (hl2 : (i, Value.int x) :: lv.filter (fun q => !(q.1 == i) && !(q.1 + 1 == i && q.2.category == 2)) = lv2) (k : V w tys cells slots (pc + 1) lv2 st) : V w tys cells slots pc lv (.int x :: st) := by
  obtain ⟨p, e, s, m, args, below, meth, c, A, H0, Q, rfl, hx, hb, hml, hown, hts, hKm, hKK, hA⟩ := hX
  intro H locs ls hK hP hD hS hl
  exact lv_istore_n hx hb hd hi hl hn hl2 (fun ls' hl' => k H locs ls' hK hP hD hS hl')
theorem g_istore (hX : zGIs V l cc own TT KK D cl nL R) {i : Nat} {x : Int32} {lv2 : List (Nat × Value)} (hd : decode cc pc = .ok (.istore i, 2)) (hn : i < nL) (hl2 : (i, Value.int x) :: lv.filter (fun q => !(q.1 == i) && !(q.1 + 1 == i && q.2.category == 2)) = lv2) (k : V w tys cells slots (pc + 2) lv2 st) : V w tys cells slots pc lv (.int x :: st) := by
  obtain ⟨p, e, s, m, args, below, meth, c, A, H0, Q, rfl, hx, hb, hml, hown, hts, hKm, hKK, hA⟩ := hX
  intro H locs ls hK hP hD hS hl
  exact lv_istore hx hb hd hl hn hl2 (fun ls' hl' => k H locs ls' hK hP hD hS hl')
theorem g_astore_n (hX : zGIs V l cc own TT KK D cl nL R) {j : Fin 4} {i : Nat} {x : Nat} {lv2 : List (Nat × Value)} (hd : decode cc pc = .ok (.astore_n j, 1)) (hi : (j : Nat) = i) (hn : i < nL) (hl2 : (i, Value.ref x) :: lv.filter (fun q => !(q.1 == i) && !(q.1 + 1 == i && q.2.category == 2)) = lv2) (k : V w tys cells slots (pc + 1) lv2 st) : V w tys cells slots pc lv (.ref x :: st) := by
  obtain ⟨p, e, s, m, args, below, meth, c, A, H0, Q, rfl, hx, hb, hml, hown, hts, hKm, hKK, hA⟩ := hX
  intro H locs ls hK hP hD hS hl
  exact lv_astore_n hx hb hd hi hl hn hl2 (fun ls' hl' => k H locs ls' hK hP hD hS hl')
theorem g_astore (hX : zGIs V l cc own TT KK D cl nL R) {i : Nat} {x : Nat} {lv2 : List (Nat × Value)} (hd : decode cc pc = .ok (.astore i, 2)) (hn : i < nL) (hl2 : (i, Value.ref x) :: lv.filter (fun q => !(q.1 == i) && !(q.1 + 1 == i && q.2.category == 2)) = lv2) (k : V w tys cells slots (pc + 2) lv2 st) : V w tys cells slots pc lv (.ref x :: st) := by
  obtain ⟨p, e, s, m, args, below, meth, c, A, H0, Q, rfl, hx, hb, hml, hown, hts, hKm, hKK, hA⟩ := hX
  intro H locs ls hK hP hD hS hl
  exact lv_astore hx hb hd hl hn hl2 (fun ls' hl' => k H locs ls' hK hP hD hS hl')
theorem g_objInit (hX : zGIs V l cc own TT KK D cl nL R) {idx a : Nat} (h1 : Cond.methodLink own idx Lib.objectInit ∈ TT) (h2 : Cond.instanceMethod Lib.objectInit ∈ TT) (h3 : Cond.code Lib.objectInit ⟨#[0xb1]⟩ 1 none ∈ TT) (hd : decode cc pc = .ok (.invokespecial idx, 3)) (hf : 1 ≤ R.frames) (hr : (st.map fun v => v.category).sum + 12 ≤ R.locals) (k : V w tys cells slots (pc + 3) lv st) : V w tys cells slots pc lv (.ref a :: st) := by
  obtain ⟨p, e, s, m, args, below, meth, c, A, H0, Q, rfl, hx, hb, hml, hown, hts, hKm, hKK, hA⟩ := hX
  intro H locs ls hK hP hD hS hl
  refine W.objInit hx hb hown (hts _ h1) (hts _ h2) (hts _ h3) rfl (by rw [hml]; exact hl.1) rfl hd hf ?_ (k H locs ls hK hP hD hS hl)
  simpa [JFrame.monitorRoom] using hr
theorem g_new (hX : zGIs V l cc own TT KK D cl nL R) {C : String} {T : u_T} {N ci index : Nat} {fs : List Value} (hin : ∀ w ∈ u_ws C T N, w ∈ TT) (ty0 : Nat → FieldType) (hty : ∀ k, k < N → parseFieldDescriptor (T k).2.2.1 = some (ty0 k)) (h1 : Cond.classLink own index C ∈ TT) (h2 : Cond.instantiable C N ∈ TT) (h3 : Cond.initialized C ∈ TT) (hc : cl[ci]? = some (C, T, N)) (hfs : ∀ j, j < N → defaultValue (ty0 j) = vp_V fs j) (hcells : cells + 1 ≤ R.cells) (hslots : slots + N ≤ R.slots) (hd : decode cc pc = .ok (.new index, 3))
    (k : ∀ q : Nat, V (w ++ [(q, .inr (ci, fs))]) tys (cells + 1) (slots + N) (pc + 3) lv (.ref q :: st)) : V w tys cells slots pc lv st := by
  obtain ⟨p, e, s, m, args, below, meth, c, A, H0, Q, rfl, hx, hb, hml, hown, hts, hKm, hKK, hA⟩ := hX
  intro H locs ls hK hP hD hS hl
  exact va_new hx hb hts hin ty0 hty hown (hts _ h1) (hts _ h2) (hts _ h3) hK hP hD hS hA hc hfs hcells hslots hd (fun q H1 h1 h2 h3 => k q H1 locs ls hK h1 h2 h3 hl)
theorem g_newa (hX : zGIs V l cc own TT KK D cl nL R) {atype : ArrayType} {ty : FieldType} {n : Int32} {N' : Nat} {a0 : vp_A} (h1 : Cond.arrayClass (newarray.typeOf atype) ∈ TT) (hty : newarray.typeOf atype = ty) (ha : ∀ cA : ClassId, vp_cell cA a0 = arrV cA N' (fun _ => defaultValue ty)) (hn : ¬ n < 0) (hN : n.toNatClampNeg = N') (hbytes : N' * componentBytes ty ≤ 536870912) (hcells : cells + 1 ≤ R.cells) (hslots : slots + N' ≤ R.slots) (hd : decode cc pc = .ok (.newarray atype, 2))
    (k : ∀ (q : Nat) (cA : ClassId), V (w ++ [(q, .inl (cA, a0))]) (tys ++ [(cA, ty)]) (cells + 1) (slots + N') (pc + 2) lv (.ref q :: st)) : V w tys cells slots pc lv (.int n :: st) := by
  obtain ⟨p, e, s, m, args, below, meth, c, A, H0, Q, rfl, hx, hb, hml, hown, hts, hKm, hKK, hA⟩ := hX
  intro H locs ls hK hP hD hS hl
  exact va_newa hx hb (hts _ h1) hty hK hP hD hS hA ha hn hN hbytes hcells hslots hd (fun q cA H1 h0 h1 h2 h3 => k q cA H1 locs ls h0 h1 h2 h3 hl)
theorem g_putF (hX : zGn V l cc own TT KK D cl nL R) {C : String} {T : u_T} {N ci index a : Nat} {fs : List Value} {v : Value} {w2 : va_W} (hin : ∀ w ∈ u_ws C T N, w ∈ TT) (ty0 : Nat → FieldType) (hty : ∀ k, k < N → parseFieldDescriptor (T k).2.2.1 = some (ty0 k)) (hnm : ∀ a, a < N → ∀ b, b < N → a ≠ b → (T a).2.1 ≠ (T b).2.1) (q0 : Nat) (he : w[q0]? = some (a, .inr (ci, fs))) (hc : cl[ci]? = some (C, T, N)) (k0 : Nat) (hk : k0 < N) (hlink : Cond.fieldLink own index (T k0).1 (T k0).2.1 (T k0).2.2.1 ∈ TT) (hfin : (T k0).2.2.2 = true) (hdecl : (T k0).1 = own) (hn : narrow (ty0 k0) v = v) (hfit : fits (ty0 k0) v = true) (hlen : k0 < fs.length) (hw : w.set q0 (a, .inr (ci, fs.set k0 v)) = w2) (hd : decode cc pc = .ok (.putfield index, 3)) (k : V w2 tys cells slots (pc + 3) lv st) : V w tys cells slots pc lv (v :: .ref a :: st) := by
  obtain ⟨p, e, s, m, args, below, meth, c, A, H0, Q, rfl, hx, hb, hml, hown, hts, hKm, hKK, hA, hin2⟩ := hX
  intro H locs ls hK hP hD hS hl
  subst hw
  exact va_putF hx hb hts hin ty0 hty hnm hown hK hP hD hS q0 he hc k0 hk (hts _ hlink) (fun _ h => h) hfin hin2 hdecl (hty k0 hk) hn hfit hlen hd (fun H1 locs1 h1 h2 h3 => k H1 locs1 ls hK h1 h2 h3 hl)
theorem g_put (hX : zGIs V l cc own TT KK D cl nL R) {C : String} {T : u_T} {N ci index a : Nat} {fs : List Value} {v : Value} {w2 : va_W} (hin : ∀ w ∈ u_ws C T N, w ∈ TT) (ty0 : Nat → FieldType) (hty : ∀ k, k < N → parseFieldDescriptor (T k).2.2.1 = some (ty0 k)) (hnm : ∀ a, a < N → ∀ b, b < N → a ≠ b → (T a).2.1 ≠ (T b).2.1) (q0 : Nat) (he : w[q0]? = some (a, .inr (ci, fs))) (hc : cl[ci]? = some (C, T, N)) (k0 : Nat) (hk : k0 < N) (hlink : Cond.fieldLink own index (T k0).1 (T k0).2.1 (T k0).2.2.1 ∈ TT) (hfin : (T k0).2.2.2 = false) (hn : narrow (ty0 k0) v = v) (hfit : fits (ty0 k0) v = true) (hlen : k0 < fs.length) (hw : w.set q0 (a, .inr (ci, fs.set k0 v)) = w2) (hd : decode cc pc = .ok (.putfield index, 3)) (k : V w2 tys cells slots (pc + 3) lv st) : V w tys cells slots pc lv (v :: .ref a :: st) := by
  obtain ⟨p, e, s, m, args, below, meth, c, A, H0, Q, rfl, hx, hb, hml, hown, hts, hKm, hKK, hA⟩ := hX
  intro H locs ls hK hP hD hS hl
  subst hw
  exact va_put hx hb hts hin ty0 hty hnm hown hK hP hD hS q0 he hc k0 hk (hts _ hlink) (fun _ h => h) hfin (hty k0 hk) hn hfit hlen hd (fun H1 locs1 h1 h2 h3 => k H1 locs1 ls hK h1 h2 h3 hl)
end ZGR
/-- a constructor's contract: of a fresh cell it makes the world w1 h0 u, for some addresses and array kinds u -/
def zN (l : Launch) (y : MethodName) (wds : List Cond) (rm : Room) (D : va_G) (cl : List vw_C) (KK : State → Prop) (ci : Nat) (fs0 : List Value) (mc ms : Nat) (w1 : Nat → (Nat → Nat) × (Nat → ClassId) → va_W) (t1 : (Nat → Nat) × (Nat → ClassId) → List (ClassId × FieldType)) : Prop :=
  ∀ h0 sz : Nat, Met l y wds rm (va_Pc [.ref h0] (fun U => U.heap.size = sz ∧ va_P D cl [(h0, .inr (ci, fs0))] U.heap ∧ KK U ∧ va_D (fun _ => True) [(h0, .inr (ci, fs0))]))
    (va_Qv (fun _ : (Nat → Nat) × (Nat → ClassId) => True) (fun u t => va_P D cl (w1 h0 u) t.heap ∧ va_K D cl (t1 u) t ∧ va_D (va_A [(h0, .inr (ci, fs0))] sz) (w1 h0 u)) (va_A [(h0, .inr (ci, fs0))] sz)) mc ms (va_A [(h0, .inr (ci, fs0))] sz)
section ZGC
variable {V : zGV} {l : Launch} {cc : ByteArray} {own : String} {TT : List Cond} {KK : State → Prop} {D : va_G} {cl : List vw_C} {nL : Nat} {R : Room} {w : va_W} {tys : List (ClassId × FieldType)} {cells slots pc : Nat} {lv : List (Nat × Value)} {st : List Value}
/-- behind a constructor: the rest of the world is as it was -/
theorem g_joined {p : Program} {e : Env} {s : State} {m : MethodId} {args : Array Value} {below : List Frame} {meth : Method} {c : Code} {A : Nat → Prop} {H0 H : Heap} {Q : State → Prop} {locs : List Loc} {ls : Array Slot} {ci q mc ms : Nat} {fs0 : List Value} {w1 : (Nat → Nat) × (Nat → ClassId) → va_W} {t1 : (Nat → Nat) × (Nat → ClassId) → List (ClassId × FieldType)} {st0 : List Value} {av : Array Value}
    (hr : va_Run p l e R s m args below meth c H locs cells slots mc ms (F0 m pc ls st0) st (va_Qv (fun _ : (Nat → Nat) × (Nat → ClassId) => True) (fun u t => va_P D cl (w1 u) t.heap ∧ va_K D cl (t1 u) t ∧ va_D (va_A [(q, .inr (ci, fs0))] H.size) (w1 u)) (va_A [(q, .inr (ci, fs0))] H.size) av) (va_A [(q, .inr (ci, fs0))] H.size))
    (hA : ∀ x, H0.size ≤ x → A x) (hK : va_K D cl tys s) (hP : va_P D cl (w ++ [(q, .inr (ci, fs0))]) H) (hD : va_D A (w ++ [(q, .inr (ci, fs0))])) (hS : va_S A H0 H locs)
    (kk : ∀ (u : (Nat → Nat) × (Nat → ClassId)) (H1 : Heap) (locs1 : List Loc), va_K D cl (tys ++ t1 u) s → va_P D cl (w ++ w1 u) H1 → va_D A (w ++ w1 u) → va_S A H0 H1 locs1 → W p l e R s m args below meth c H1 locs1 (cells + mc) (slots + ms) Q (F0 m (pc + 3) ls st)) : W p l e R s m args below meth c H locs cells slots Q (F0 m pc ls st0) := by
  have hlast : (w ++ [(q, Sum.inr (ci, fs0))] : va_W)[w.length]? = some (q, .inr (ci, fs0)) := by simp
  have hAA : ∀ x, va_A [(q, .inr (ci, fs0))] H.size x → A x := fun x h => by
    rcases h with ⟨k, e9, h⟩ | h
    · have hk0 : k = 0 := by
        have := (List.getElem?_eq_some_iff.mp h).1
        simp at this
        exact this
      subst hk0
      cases h
      exact hD.2 _ _ hlast
    · exact hA x (Nat.le_trans hS.1 h)
  refine va_callv hr hS (fun x _ h => hAA x h) hAA (fun u t H1 locs1 ht hvm _ hB hz hk hS1 => ?_)
  obtain ⟨hP1, hK1, hD1⟩ := hB
  rw [ht] at hP1
  have hapart : ∀ (k : Nat) (x : Nat × va_E), w[k]? = some x → x.1 < H.size ∧ ¬ va_A [(q, .inr (ci, fs0))] H.size x.1 := by
    intro k x hx
    have hkl : k < w.length := (List.getElem?_eq_some_iff.mp hx).1
    have hx' : (w ++ [(q, Sum.inr (ci, fs0))] : va_W)[k]? = some x := by rw [List.getElem?_append_left hkl]; exact hx
    have hlt := (hP k x hx').lt
    refine ⟨hlt, fun h => ?_⟩
    rcases h with ⟨k2, e9, h⟩ | h
    · have hk0 : k2 = 0 := by
        have := (List.getElem?_eq_some_iff.mp h).1
        simp at this
        exact this
      subst hk0
      have hxq : x.1 = q := by cases h; rfl
      have := hD.1 k w.length x _ hx' hlast hxq
      omega
    · omega
  refine kk u H1 locs1 (hK.app (va_K.moved hvm.symm hK1)) (va_P.app (fun k x hx => ?_) hP1) (va_D.app ?_ (hD1.weaken (fun k x _ h => hAA x.1 h)) (fun i j x y hx hy hxy => ?_)) hS1
  · have hkl : k < w.length := (List.getElem?_eq_some_iff.mp hx).1
    have hx' : (w ++ [(q, Sum.inr (ci, fs0))] : va_W)[k]? = some x := by rw [List.getElem?_append_left hkl]; exact hx
    exact (hP k x hx').kept (hk x.1 (hapart k x hx).1 (hapart k x hx).2)
  · refine ⟨fun i j x y hi hj hxy => ?_, fun k x hx => ?_⟩
    · have hil : i < w.length := (List.getElem?_eq_some_iff.mp hi).1
      have hjl : j < w.length := (List.getElem?_eq_some_iff.mp hj).1
      exact hD.1 i j x y (by rw [List.getElem?_append_left hil]; exact hi) (by rw [List.getElem?_append_left hjl]; exact hj) hxy
    · have hkl : k < w.length := (List.getElem?_eq_some_iff.mp hx).1
      exact hD.2 k x (by rw [List.getElem?_append_left hkl]; exact hx)
  · exact (hapart i x hx).2 (by rw [hxy]; exact hD1.2 j y hy)
theorem g_ctorN (hX : zGIs V l cc own TT KK D cl nL R) {ci q mc ms index maxL : Nat} {y : MethodName} {bytes : ByteArray} {rm : Room} {host : String} {fs0 : List Value} {w1 : Nat → (Nat → Nat) × (Nat → ClassId) → va_W} {t1 : (Nat → Nat) × (Nat → ClassId) → List (ClassId × FieldType)} (hM : zN l y (Cond.code y bytes maxL none :: TT) rm D cl KK ci fs0 mc ms w1 t1) (hG : GoodIn TT (Cond.code y bytes maxL none :: TT)) (hN : ∀ U, KK U → va_Nw (.methodLinkNest own index y host) U) (hinst : Cond.instanceMethod y ∈ TT) (hini : Cond.initialized y.cls ∈ TT) (hrm : rm.cells = mc ∧ rm.slots = ms) (hR : rm.frames + 1 ≤ R.frames ∧ 8 + (maxL + 11) + rm.locals ≤ R.locals) (hy : y.name = "<init>") (hd : y.cls ≠ "java/lang/invoke/MethodHandle" ∧ y.cls ≠ "java/lang/invoke/VarHandle" ∧ (parseMethodDescriptor y.desc).map (fun d => d.parameters.length) = some 0)
    (hW : (st.map fun v => v.category).sum ≤ 8) (hf : cells + mc ≤ R.cells ∧ slots + ms ≤ R.slots) (hdg : decode cc pc = .ok (.invokespecial index, 3))
    (k : ∀ u : (Nat → Nat) × (Nat → ClassId), V (w ++ w1 q u) (tys ++ t1 u) (cells + mc) (slots + ms) (pc + 3) lv st) : V (w ++ [(q, .inr (ci, fs0))]) tys cells slots pc lv (.ref q :: st) := by
  obtain ⟨p, e, s, m, args, below, meth, c, A, H0, Q, rfl, hx, hb, hml, hown, hts, hKm, hKK, hA⟩ := hX
  intro H locs ls hK hP hD hS hl
  have hPl : va_P D cl [(q, .inr (ci, fs0))] H := fun k9 x hx => hP (w.length + k9) x (by rw [List.getElem?_append_right (by omega)]; simpa using hx)
  have hDl : va_D (fun _ => True) [(q, Sum.inr (ci, fs0))] := ⟨fun i j x y9 hi hj _ => by
    have h1 := (List.getElem?_eq_some_iff.mp hi).1
    have h2 := (List.getElem?_eq_some_iff.mp hj).1
    simp at h1 h2
    omega, fun _ _ _ => trivial⟩
  exact g_joined (w1 := w1 q) (t1 := t1) (va_runIN (As := []) (rest := st) ⟨hx, hb, hml, hown, hts⟩ (hM q H.size) ⟨va_cnB 0 hts hG rfl hrm.1 hrm.2 (hN s hKK) (hts _ hini) hd hR, hy, hts _ hinst⟩ ⟨fun a U g mk x => by obtain ⟨x0, x1, xP, xK, xD⟩ := x; exact ⟨x0, x1, xP, hKm.2 U g mk a xK, xD⟩, fun U hU hW9 => ⟨rfl, by rw [hU], by rw [hU]; exact hPl, hKm.1 _ U hW9 hKK, hDl⟩⟩ rfl rfl hl.1 rfl (lv_room hW) hdg hf) hA hK hP hD hS (fun u H1 locs1 h0 h1 h2 h3 => k u H1 locs1 ls h0 h1 h2 h3 hl)
theorem g_ctor (hX : zGIs V l cc own TT KK D cl nL R) {ci q mc ms index maxL : Nat} {y : MethodName} {bytes : ByteArray} {rm : Room} {fs0 : List Value} {w1 : Nat → (Nat → Nat) × (Nat → ClassId) → va_W} {t1 : (Nat → Nat) × (Nat → ClassId) → List (ClassId × FieldType)} (hM : zN l y (Cond.code y bytes maxL none :: TT) rm D cl KK ci fs0 mc ms w1 t1) (hG : GoodIn TT (Cond.code y bytes maxL none :: TT)) (hN : Cond.methodLink own index y ∈ TT) (hinst : Cond.instanceMethod y ∈ TT) (hini : Cond.initialized y.cls ∈ TT) (hrm : rm.cells = mc ∧ rm.slots = ms) (hR : rm.frames + 1 ≤ R.frames ∧ 8 + (maxL + 11) + rm.locals ≤ R.locals) (hy : y.name = "<init>") (hd : y.cls ≠ "java/lang/invoke/MethodHandle" ∧ y.cls ≠ "java/lang/invoke/VarHandle" ∧ (parseMethodDescriptor y.desc).map (fun d => d.parameters.length) = some 0)
    (hW : (st.map fun v => v.category).sum ≤ 8) (hf : cells + mc ≤ R.cells ∧ slots + ms ≤ R.slots) (hdg : decode cc pc = .ok (.invokespecial index, 3))
    (k : ∀ u : (Nat → Nat) × (Nat → ClassId), V (w ++ w1 q u) (tys ++ t1 u) (cells + mc) (slots + ms) (pc + 3) lv st) : V (w ++ [(q, .inr (ci, fs0))]) tys cells slots pc lv (.ref q :: st) := by
  obtain ⟨p, e, s, m, args, below, meth, c, A, H0, Q, rfl, hx, hb, hml, hown, hts, hKm, hKK, hA⟩ := hX
  intro H locs ls hK hP hD hS hl
  have hPl : va_P D cl [(q, .inr (ci, fs0))] H := fun k9 x hx => hP (w.length + k9) x (by rw [List.getElem?_append_right (by omega)]; simpa using hx)
  have hDl : va_D (fun _ => True) [(q, Sum.inr (ci, fs0))] := ⟨fun i j x y9 hi hj _ => by
    have h1 := (List.getElem?_eq_some_iff.mp hi).1
    have h2 := (List.getElem?_eq_some_iff.mp hj).1
    simp at h1 h2
    omega, fun _ _ _ => trivial⟩
  exact g_joined (w1 := w1 q) (t1 := t1) (va_runI (As := []) (rest := st) ⟨hx, hb, hml, hown, hts⟩ (hM q H.size) (cwI 0 hts hG rfl hrm.1 hrm.2 (hts _ hini) (hts _ hN) (hts _ hinst) hy hd hR) ⟨fun a U g mk x => by obtain ⟨x0, x1, xP, xK, xD⟩ := x; exact ⟨x0, x1, xP, hKm.2 U g mk a xK, xD⟩, fun U hU hW9 => ⟨rfl, by rw [hU], by rw [hU]; exact hPl, hKm.1 _ U hW9 hKK, hDl⟩⟩ rfl rfl hl.1 rfl (lv_room hW) hdg hf) hA hK hP hD hS (fun u H1 locs1 h0 h1 h2 h3 => k u H1 locs1 ls h0 h1 h2 h3 hl)
end ZGC
/-- a constructor's contract out of its walk; its end is 'hE' -/
theorem zmk_n {l : Launch} {cc : ByteArray} {TT : List Cond} {KK : State → Prop} {D : va_G} {cl : List vw_C} {nL : Nat} {rm : Room} {y : MethodName} {ci mc ms : Nat} {fs0 : List Value} {w1 : Nat → (Nat → Nat) × (Nat → ClassId) → va_W} {t1 : (Nat → Nat) × (Nat → ClassId) → List (ClassId × FieldType)} (hy : plainName y.cls = true) (hyn : y.name = "<init>") (hKm : zKm KK) (hKt : ∀ U, KK U → va_K D cl [] U) (hnL : 1 ≤ nL)
    (hbody : ∀ (V : zGV) (h0 : Nat), zGn V l cc y.cls TT KK D cl nL rm → (∀ (u : (Nat → Nat) × (Nat → ClassId)) (pc : Nat) (lv : List (Nat × Value)), decode cc pc = .ok (.return_, 1) → V (w1 h0 u) (t1 u) mc ms pc lv []) → V [(h0, .inr (ci, fs0))] [] 0 0 0 [(0, .ref h0)] []) : zN l y (Cond.code y cc nL none :: TT) rm D cl KK ci fs0 mc ms w1 t1 := by
  intro h0 sz
  refine Met.ofW (cc := cc) (maxL := nL) (ret := none) hy rfl ?_
  intro p e s m args below meth c s₁ B hml hv
  obtain ⟨rfl, hsz, hP, hKK, hD0⟩ := hv
  have hx := B.exec
  have hb := B.bytes
  have hr := B.returns
  have hts := atoms_spec (ws := Cond.code y cc nL none :: TT) B.pre
  have hown : s.vm.findClass y.cls = some m.cls := findClass_of_methodNamed B.named
  have hlocks := B.notSynchronized
  have hin : meth.name = "<init>" := by rw [(name_of_methodNamed B.named B.method).1, hyn]
  subst hsz
  have hD := hD0.self (sz := s.heap.size)
  have hA : ∀ q : Nat, s.heap.size ≤ q → va_A [(h0, .inr (ci, fs0))] s.heap.size q := fun q h => Or.inr h
  have hl := lv_entry [.ref h0] (n := nL) (by simpa [lg_sl, Value.category] using hnL)
  rw [lg_entry_eq]
  refine hbody (fun w tys cells slots pc lv st => ∀ (H : Heap) (locs : List Loc) (ls : Array Slot), va_K D cl tys s → va_P D cl w H → va_D (va_A [(h0, .inr (ci, fs0))] s.heap.size) w → va_S (va_A [(h0, .inr (ci, fs0))] s.heap.size) s.heap H locs → lv_has ls nL lv → W p l e rm s m ([.ref h0] : List Value).toArray below meth c H locs cells slots (MQ below (va_Qv (fun _ : (Nat → Nat) × (Nat → ClassId) => True) (fun u t => va_P D cl (w1 h0 u) t.heap ∧ va_K D cl (t1 u) t ∧ va_D (va_A [(h0, .inr (ci, fs0))] s.heap.size) (w1 h0 u)) (va_A [(h0, .inr (ci, fs0))] s.heap.size)) ([.ref h0] : List Value).toArray s mc ms (va_A [(h0, .inr (ci, fs0))] s.heap.size)) (F0 m pc ls st)) h0
    ⟨p, e, s, m, _, below, meth, c, va_A [(h0, .inr (ci, fs0))] s.heap.size, s.heap, _, rfl, hx, hb, hml, hown, fun w h => hts w (List.mem_cons_of_mem _ h), hKm, hKK, hA, hin⟩ ?_ s.heap [] _ (hKt s hKK) hP hD va_S.rf hl
  intro u pc lv hd H locs ls hK1 hP1 hD1 hS1 hl1
  exact W.vret hx hb hr (fun t ht hW => ⟨⟨u, rfl, trivial, by rw [ht]; exact hP1, va_K.moved hW.alike hK1, hD1⟩, hS1.F ht⟩) hS1.2.2 hd
end
section
/-! The law's own machine: the script b of L ints xs lies outside the world. -/
def zIsL {α : Type} (V : zV α) (l : Launch) (cc : ByteArray) (own : String) (TT : List Cond) (KK : State → Prop) (D : va_G) (cl : List vw_C) (tys : List (ClassId × FieldType)) (nL : Nat) (R : Room) (b L : Nat) (xs : Nat → Int32) : Prop :=
  ∃ (p : Program) (e : Env) (s : State) (m : MethodId) (args : Array Value) (below : List Frame) (meth : Method) (c : Code) (cells slots : Nat) (A : Nat → Prop) (H0 : Heap) (Qo : α × zS → State → Prop),
    V = (fun w pc lv st out => ∀ (H : Heap) (locs : List Loc) (ls : Array Slot), va_P D cl w H → va_D A w → va_S A H0 H locs → lv_has ls nL lv → W p l e R s m args below meth c H locs cells slots (Qo out) (F0 m pc ls st)) ∧
    (p.tables.exec = Jvm.exec ∧ c.code = cc ∧ c.maxLocals = nL ∧ s.vm.findClass own = some m.cls ∧ (∀ w ∈ TT, w.before args s = true) ∧ zKm KK ∧ KK s ∧ va_K D cl tys s ∧ (∀ q, H0.size ≤ q → A q) ∧ cells ≤ R.cells ∧ slots ≤ R.slots) ∧ va_X b L xs s H0 ∧ b < H0.size ∧ ¬ A b
theorem zIsL.is {α : Type} {V : zV α} {l : Launch} {cc : ByteArray} {own : String} {TT : List Cond} {KK : State → Prop} {D : va_G} {cl : List vw_C} {tys : List (ClassId × FieldType)} {nL : Nat} {R : Room} {b L : Nat} {xs : Nat → Int32} (h : zIsL V l cc own TT KK D cl tys nL R b L xs) : zIs V l cc own TT KK D cl tys nL R := by
  obtain ⟨p, e, s, m, args, below, meth, c, cells, slots, A, H0, Qo, h1, h2, -⟩ := h
  exact ⟨p, e, s, m, args, below, meth, c, cells, slots, A, H0, Qo, h1, h2⟩
section ZLR
variable {α : Type} {V : zV α} {l : Launch} {cc : ByteArray} {own : String} {TT : List Cond} {KK : State → Prop} {D : va_G} {cl : List vw_C} {tys : List (ClassId × FieldType)} {nL : Nat} {R : Room} {f : Option (α × zS)} {w : va_W} {pc : Nat} {lv : List (Nat × Value)} {st : List Value} {b L : Nat} {xs : Nat → Int32}
theorem z_sld (hX : zIsL V l cc own TT KK D cl tys nL R b L xs) {i : Int32} (hd : decode cc pc = .ok (.iaload, 1)) (k : zJ V f w (pc + 1) lv (.int (xs i.toNatClampNeg) :: st)) : zJ V (zgd (zin i L) f) w pc lv (.int i :: .ref b :: st) := by
  refine z_gd (fun hi => ?_)
  obtain ⟨p, e, s, m, args, below, meth, c, cells, slots, A, H0, Qo, rfl, ⟨hx, hb, hml, hown, hts, hKm, hKK, hK, hA, hcs⟩, hXs, hbl, hbA⟩ := hX
  intro out hf H locs ls hP hD hS hl
  exact va_sld hx hb hXs hbl hbA hS (zin_vp hi) hd (k out hf H locs ls hP hD hS hl)
theorem z_slen (hX : zIsL V l cc own TT KK D cl tys nL R b L xs) (hd : decode cc pc = .ok (.arraylength, 1)) (k : zJ V f w (pc + 1) lv (.int (nI L) :: st)) : zJ V f w pc lv (.ref b :: st) := by
  obtain ⟨p, e, s, m, args, below, meth, c, cells, slots, A, H0, Qo, rfl, ⟨hx, hb, hml, hown, hts, hKm, hKK, hK, hA, hcs⟩, hXs, hbl, hbA⟩ := hX
  intro out hf H locs ls hP hD hS hl
  exact va_slen hx hb hXs hbl hbA hS hd (k out hf H locs ls hP hD hS hl)
end ZLR
theorem zsw_at {a b : va_W} {k : Nat} {q : Nat × va_E} (h : (b ++ a)[k]? = some q) : ∃ k2, (a ++ b)[k2]? = some q ∧ (k2 = if k < b.length then a.length + k else k - b.length) := by
  by_cases hk : k < b.length
  · refine ⟨a.length + k, ?_, by rw [if_pos hk]⟩
    rw [List.getElem?_append_left hk] at h
    rw [List.getElem?_append_right (by omega)]
    rw [show a.length + k - a.length = k by omega]
    exact h
  · refine ⟨k - b.length, ?_, by rw [if_neg hk]⟩
    rw [List.getElem?_append_right (by omega)] at h
    have hl : k - b.length < a.length := (List.getElem?_eq_some_iff.mp h).1
    rw [List.getElem?_append_left hl]
    exact h
theorem zsw_P {D : va_G} {cl : List vw_C} {a b : va_W} {H : Heap} (h : va_P D cl (a ++ b) H) : va_P D cl (b ++ a) H := fun k q hq => by
  obtain ⟨k2, h2, -⟩ := zsw_at hq
  exact h k2 q h2
theorem zsw_D {A : Nat → Prop} {a b : va_W} (h : va_D A (a ++ b)) : va_D A (b ++ a) := by
  refine ⟨fun i j p q hi hj hpq => ?_, fun k q hq => ?_⟩
  · obtain ⟨i2, h2, e2⟩ := zsw_at hi
    obtain ⟨j2, h3, e3⟩ := zsw_at hj
    have hij := h.1 i2 j2 p q h2 h3 hpq
    have hil : i < (b ++ a).length := (List.getElem?_eq_some_iff.mp hi).1
    have hjl : j < (b ++ a).length := (List.getElem?_eq_some_iff.mp hj).1
    rw [List.length_append] at hil hjl
    subst e2
    subst e3
    by_cases h1 : i < b.length <;> by_cases h4 : j < b.length
    · rw [if_pos h1, if_pos h4] at hij; omega
    · rw [if_pos h1, if_neg h4] at hij; omega
    · rw [if_neg h1, if_pos h4] at hij; omega
    · rw [if_neg h1, if_neg h4] at hij; omega
  · obtain ⟨k2, h2, -⟩ := zsw_at hq
    exact h.2 k2 q h2
/-- two worlds side by side, the other way round -/
theorem z_swap {α : Type} {V : zV α} {l : Launch} {cc : ByteArray} {own : String} {TT : List Cond} {KK : State → Prop} {D : va_G} {cl : List vw_C} {tys : List (ClassId × FieldType)} {nL : Nat} {R : Room} {f : Option (α × zS)} {a b : va_W} {pc : Nat} {lv : List (Nat × Value)} {st : List Value} (hX : zIs V l cc own TT KK D cl tys nL R) (k : zJ V f (b ++ a) pc lv st) : zJ V f (a ++ b) pc lv st := by
  obtain ⟨p, e, s, m, args, below, meth, c, cells, slots, A, H0, Qo, rfl, hx, hb, hml, hown, hts, hKm, hKK, hK, hA, hcs⟩ := hX
  intro out hf H locs ls hP hD hS hl
  exact k out hf H locs ls (zsw_P hP) (zsw_D hD) hS hl
end
section
/-! names: the classes, their fields, the methods; the good words of the tables -/
def R_P : String := "ProvenanceRows"
def F_P : u_T := fun k => match k with
  | 0 => ("ProvenanceRows", "sources", "LProvenanceRows$Sources;", true)
  | 1 => ("ProvenanceRows", "artefacts", "LProvenanceRows$Artefacts;", true)
  | 2 => ("ProvenanceRows", "rules", "LProvenanceRows$Policy;", true)
  | 3 => ("ProvenanceRows", "latestClosure", "LProvenanceRows$Closure;", true)
  | 4 => ("ProvenanceRows", "walkedClosure", "LProvenanceRows$Closure;", true)
  | 5 => ("ProvenanceRows", "countedClosure", "LProvenanceRows$Closure;", true)
  | _ => ("ProvenanceRows", "latestCulprit", "I", false)
def t_P : Nat → FieldType := fun k => match k with
  | 0 => .object "ProvenanceRows$Sources"
  | 1 => .object "ProvenanceRows$Artefacts"
  | 2 => .object "ProvenanceRows$Policy"
  | 3 => .object "ProvenanceRows$Closure"
  | 4 => .object "ProvenanceRows$Closure"
  | 5 => .object "ProvenanceRows$Closure"
  | _ => .int
theorem n_P : ∀ a, a < 7 → ∀ b, b < 7 → a ≠ b → (F_P a).2.1 ≠ (F_P b).2.1 := by decide +kernel
theorem t_P_ok : ∀ k, k < 7 → parseFieldDescriptor (F_P k).2.2.1 = some (t_P k) := by decide +kernel
def R_S : String := "ProvenanceRows$Sources"
def F_S : u_T := fun k => match k with
  | 0 => ("ProvenanceRows$Sources", "count", "I", false)
  | 1 => ("ProvenanceRows$Sources", "digests", "[J", true)
  | 2 => ("ProvenanceRows$Sources", "branches", "[I", true)
  | 3 => ("ProvenanceRows$Sources", "reviews", "[I", true)
  | _ => ("ProvenanceRows$Sources", "fetchedUntold", "[Z", true)
def t_S : Nat → FieldType := fun k => match k with
  | 0 => .int
  | 1 => .array .long
  | 2 => .array .int
  | 3 => .array .int
  | _ => .array .boolean
theorem n_S : ∀ a, a < 5 → ∀ b, b < 5 → a ≠ b → (F_S a).2.1 ≠ (F_S b).2.1 := by decide +kernel
theorem t_S_ok : ∀ k, k < 5 → parseFieldDescriptor (F_S k).2.2.1 = some (t_S k) := by decide +kernel
def R_A : String := "ProvenanceRows$Artefacts"
def F_A : u_T := fun k => match k with
  | 0 => ("ProvenanceRows$Artefacts", "count", "I", false)
  | 1 => ("ProvenanceRows$Artefacts", "digests", "[J", true)
  | 2 => ("ProvenanceRows$Artefacts", "builders", "[I", true)
  | 3 => ("ProvenanceRows$Artefacts", "tools", "[I", true)
  | 4 => ("ProvenanceRows$Artefacts", "authors", "[I", true)
  | 5 => ("ProvenanceRows$Artefacts", "times", "[I", true)
  | 6 => ("ProvenanceRows$Artefacts", "used", "LProvenanceRows$Rows;", true)
  | 7 => ("ProvenanceRows$Artefacts", "needed", "LProvenanceRows$Rows;", true)
  | 8 => ("ProvenanceRows$Artefacts", "metBy", "[I", true)
  | 9 => ("ProvenanceRows$Artefacts", "pathBits", "[I", true)
  | _ => ("ProvenanceRows$Artefacts", "pathDigests", "[J", true)
def t_A : Nat → FieldType := fun k => match k with
  | 0 => .int
  | 1 => .array .long
  | 2 => .array .int
  | 3 => .array .int
  | 4 => .array .int
  | 5 => .array .int
  | 6 => .object "ProvenanceRows$Rows"
  | 7 => .object "ProvenanceRows$Rows"
  | 8 => .array .int
  | 9 => .array .int
  | _ => .array .long
theorem n_A : ∀ a, a < 11 → ∀ b, b < 11 → a ≠ b → (F_A a).2.1 ≠ (F_A b).2.1 := by decide +kernel
theorem t_A_ok : ∀ k, k < 11 → parseFieldDescriptor (F_A k).2.2.1 = some (t_A k) := by decide +kernel
def R_W : String := "ProvenanceRows$Rows"
def F_W : u_T := fun k => match k with
  | 0 => ("ProvenanceRows$Rows", "counts", "[I", true)
  | _ => ("ProvenanceRows$Rows", "values", "[J", true)
def t_W : Nat → FieldType := fun k => match k with
  | 0 => .array .int
  | _ => .array .long
theorem n_W : ∀ a, a < 2 → ∀ b, b < 2 → a ≠ b → (F_W a).2.1 ≠ (F_W b).2.1 := by decide +kernel
theorem t_W_ok : ∀ k, k < 2 → parseFieldDescriptor (F_W k).2.2.1 = some (t_W k) := by decide +kernel
def R_Y : String := "ProvenanceRows$Policy"
def F_Y : u_T := fun k => match k with
  | 0 => ("ProvenanceRows$Policy", "count", "I", false)
  | 1 => ("ProvenanceRows$Policy", "kinds", "[I", true)
  | _ => ("ProvenanceRows$Policy", "values", "[I", true)
def t_Y : Nat → FieldType := fun k => match k with
  | 0 => .int
  | 1 => .array .int
  | _ => .array .int
theorem n_Y : ∀ a, a < 3 → ∀ b, b < 3 → a ≠ b → (F_Y a).2.1 ≠ (F_Y b).2.1 := by decide +kernel
theorem t_Y_ok : ∀ k, k < 3 → parseFieldDescriptor (F_Y k).2.2.1 = some (t_Y k) := by decide +kernel
def R_Q : String := "ProvenanceRows$Closure"
def F_Q : u_T := fun k => match k with
  | 0 => ("ProvenanceRows$Closure", "count", "I", false)
  | 1 => ("ProvenanceRows$Closure", "order", "[I", true)
  | _ => ("ProvenanceRows$Closure", "reached", "I", false)
def t_Q : Nat → FieldType := fun k => match k with
  | 0 => .int
  | 1 => .array .int
  | _ => .int
theorem n_Q : ∀ a, a < 3 → ∀ b, b < 3 → a ≠ b → (F_Q a).2.1 ≠ (F_Q b).2.1 := by decide +kernel
theorem t_Q_ok : ∀ k, k < 3 → parseFieldDescriptor (F_Q k).2.2.1 = some (t_Q k) := by decide +kernel
def R_M : String := "ProvenanceRowsModel"
def F_M : u_T := fun k => match k with
  | 0 => ("ProvenanceRowsModel", "sources", "I", false)
  | 1 => ("ProvenanceRowsModel", "artefacts", "I", false)
  | 2 => ("ProvenanceRowsModel", "rules", "I", false)
  | 3 => ("ProvenanceRowsModel", "sourceDigest", "[J", true)
  | 4 => ("ProvenanceRowsModel", "branch", "[I", true)
  | 5 => ("ProvenanceRowsModel", "reviews", "[I", true)
  | 6 => ("ProvenanceRowsModel", "untold", "[Z", true)
  | 7 => ("ProvenanceRowsModel", "digest", "[J", true)
  | 8 => ("ProvenanceRowsModel", "need", "[J", true)
  | 9 => ("ProvenanceRowsModel", "content", "[J", true)
  | 10 => ("ProvenanceRowsModel", "builder", "[I", true)
  | 11 => ("ProvenanceRowsModel", "tool", "[I", true)
  | 12 => ("ProvenanceRowsModel", "author", "[I", true)
  | 13 => ("ProvenanceRowsModel", "time", "[I", true)
  | 14 => ("ProvenanceRowsModel", "uses", "[I", true)
  | 15 => ("ProvenanceRowsModel", "use", "[I", true)
  | 16 => ("ProvenanceRowsModel", "wants", "[I", true)
  | 17 => ("ProvenanceRowsModel", "paths", "[I", true)
  | 18 => ("ProvenanceRowsModel", "kind", "[I", true)
  | 19 => ("ProvenanceRowsModel", "value", "[I", true)
  | 20 => ("ProvenanceRowsModel", "culprit", "I", false)
  | 21 => ("ProvenanceRowsModel", "reached", "I", false)
  | 22 => ("ProvenanceRowsModel", "judged", "I", false)
  | 23 => ("ProvenanceRowsModel", "kept", "I", false)
  | 24 => ("ProvenanceRowsModel", "reach", "[I", true)
  | 25 => ("ProvenanceRowsModel", "judge", "[I", true)
  | _ => ("ProvenanceRowsModel", "keep", "[I", true)
def t_M : Nat → FieldType := fun k => match k with
  | 0 => .int
  | 1 => .int
  | 2 => .int
  | 3 => .array .long
  | 4 => .array .int
  | 5 => .array .int
  | 6 => .array .boolean
  | 7 => .array .long
  | 8 => .array .long
  | 9 => .array .long
  | 10 => .array .int
  | 11 => .array .int
  | 12 => .array .int
  | 13 => .array .int
  | 14 => .array .int
  | 15 => .array .int
  | 16 => .array .int
  | 17 => .array .int
  | 18 => .array .int
  | 19 => .array .int
  | 20 => .int
  | 21 => .int
  | 22 => .int
  | 23 => .int
  | 24 => .array .int
  | 25 => .array .int
  | _ => .array .int
theorem n_M : ∀ a, a < 27 → ∀ b, b < 27 → a ≠ b → (F_M a).2.1 ≠ (F_M b).2.1 := by decide +kernel
theorem t_M_ok : ∀ k, k < 27 → parseFieldDescriptor (F_M k).2.2.1 = some (t_M k) := by decide +kernel
def R_L : String := "ProvenanceRowsLaw"
def R_Ig : String := "java/lang/Integer"
abbrev b_P_isUpTo : ByteArray := prog_1_method_19_code
def y_P_isUpTo : MethodName := ⟨R_P, "isUpTo", "(II)Z"⟩
abbrev b_S_add : ByteArray := prog_6_method_3_code
def y_S_add : MethodName := ⟨R_S, "add", "(JII)I"⟩
abbrev b_P_source : ByteArray := prog_1_method_2_code
def y_P_source : MethodName := ⟨R_P, "source", "(JII)I"⟩
abbrev b_S_has : ByteArray := prog_6_method_2_code
def y_S_has : MethodName := ⟨R_S, "has", "(I)Z"⟩
abbrev b_P_fetched : ByteArray := prog_1_method_3_code
def y_P_fetched : MethodName := ⟨R_P, "fetched", "(IZ)Z"⟩
abbrev b_W_valueAt : ByteArray := prog_5_method_2_code
def y_W_valueAt : MethodName := ⟨R_W, "valueAt", "(II)J"⟩
abbrev b_A_metByAt : ByteArray := prog_2_method_7_code
def y_A_metByAt : MethodName := ⟨R_A, "metByAt", "(II)I"⟩
abbrev b_A_meetMissing : ByteArray := prog_2_method_4_code
def y_A_meetMissing : MethodName := ⟨R_A, "meetMissing", "(I)V"⟩
abbrev b_A_add : ByteArray := prog_2_method_3_code
def y_A_add : MethodName := ⟨R_A, "add", "(JIIII)I"⟩
abbrev b_P_artefact : ByteArray := prog_1_method_4_code
def y_P_artefact : MethodName := ⟨R_P, "artefact", "(JIIII)I"⟩
abbrev b_A_has : ByteArray := prog_2_method_2_code
def y_A_has : MethodName := ⟨R_A, "has", "(I)Z"⟩
abbrev b_W_contains : ByteArray := prog_5_method_4_code
def y_W_contains : MethodName := ⟨R_W, "contains", "(IJ)Z"⟩
abbrev b_W_append : ByteArray := prog_5_method_3_code
def y_W_append : MethodName := ⟨R_W, "append", "(IJ)Z"⟩
abbrev b_P_uses : ByteArray := prog_1_method_5_code
def y_P_uses : MethodName := ⟨R_P, "uses", "(II)Z"⟩
abbrev b_A_firstOf : ByteArray := prog_2_method_6_code
def y_A_firstOf : MethodName := ⟨R_A, "firstOf", "(J)I"⟩
abbrev b_A_addNeeded : ByteArray := prog_2_method_5_code
def y_A_addNeeded : MethodName := ⟨R_A, "addNeeded", "(IJ)Z"⟩
abbrev b_P_needs : ByteArray := prog_1_method_6_code
def y_P_needs : MethodName := ⟨R_P, "needs", "(IJ)Z"⟩
abbrev b_A_setPath : ByteArray := prog_2_method_14_code
def y_A_setPath : MethodName := ⟨R_A, "setPath", "(IIJ)V"⟩
abbrev b_P_path : ByteArray := prog_1_method_7_code
def y_P_path : MethodName := ⟨R_P, "path", "(IIJ)Z"⟩
abbrev b_Y_add : ByteArray := prog_4_method_3_code
def y_Y_add : MethodName := ⟨R_Y, "add", "(II)I"⟩
abbrev b_P_policy : ByteArray := prog_1_method_8_code
def y_P_policy : MethodName := ⟨R_P, "policy", "(II)I"⟩
abbrev b_P_hasBit : ByteArray := prog_1_method_20_code
def y_P_hasBit : MethodName := ⟨R_P, "hasBit", "(II)Z"⟩
abbrev b_Q_reach : ByteArray := prog_3_method_3_code
def y_Q_reach : MethodName := ⟨R_Q, "reach", "(I)V"⟩
abbrev b_Q_walk : ByteArray := prog_3_method_2_code
def y_Q_walk : MethodName := ⟨R_Q, "walk", "(LProvenanceRows$Artefacts;I)V"⟩
abbrev b_A_usedAt : ByteArray := prog_2_method_8_code
def y_A_usedAt : MethodName := ⟨R_A, "usedAt", "(II)I"⟩
abbrev b_P_usesBranchOutside : ByteArray := prog_1_method_24_code
def y_P_usesBranchOutside : MethodName := ⟨R_P, "usesBranchOutside", "(II)Z"⟩
abbrev b_Ig_bitCount : ByteArray := prog_9_method_49_code
def y_Ig_bitCount : MethodName := ⟨R_Ig, "bitCount", "(I)I"⟩
abbrev b_P_usesReviewedBelow : ByteArray := prog_1_method_25_code
def y_P_usesReviewedBelow : MethodName := ⟨R_P, "usesReviewedBelow", "(II)Z"⟩
abbrev b_P_usesFetchedUntold : ByteArray := prog_1_method_26_code
def y_P_usesFetchedUntold : MethodName := ⟨R_P, "usesFetchedUntold", "(I)Z"⟩
abbrev b_A_missingPlace : ByteArray := prog_2_method_9_code
def y_A_missingPlace : MethodName := ⟨R_A, "missingPlace", "(II)I"⟩
abbrev b_A_needsLaterBy : ByteArray := prog_2_method_10_code
def y_A_needsLaterBy : MethodName := ⟨R_A, "needsLaterBy", "(II)Z"⟩
abbrev b_W_sameInOrder : ByteArray := prog_5_method_5_code
def y_W_sameInOrder : MethodName := ⟨R_W, "sameInOrder", "(II)Z"⟩
abbrev b_A_clashing : ByteArray := prog_2_method_13_code
def y_A_clashing : MethodName := ⟨R_A, "clashing", "(II)Z"⟩
abbrev b_A_clashesWithAny : ByteArray := prog_2_method_12_code
def y_A_clashesWithAny : MethodName := ⟨R_A, "clashesWithAny", "(I)Z"⟩
abbrev b_A_restsOnNothing : ByteArray := prog_2_method_11_code
def y_A_restsOnNothing : MethodName := ⟨R_A, "restsOnNothing", "(I)Z"⟩
abbrev b_P_isBroken : ByteArray := prog_1_method_23_code
def y_P_isBroken : MethodName := ⟨R_P, "isBroken", "(II)Z"⟩
abbrev b_P_firstBrokenBy : ByteArray := prog_1_method_22_code
def y_P_firstBrokenBy : MethodName := ⟨R_P, "firstBrokenBy", "(I)I"⟩
abbrev b_P_verdict : ByteArray := prog_1_method_9_code
def y_P_verdict : MethodName := ⟨R_P, "verdict", "(I)I"⟩
abbrev b_P_culprit : ByteArray := prog_1_method_10_code
def y_P_culprit : MethodName := ⟨R_P, "culprit", "()I"⟩
abbrev b_Y_has : ByteArray := prog_4_method_2_code
def y_Y_has : MethodName := ⟨R_Y, "has", "(I)Z"⟩
abbrev b_P_breaks : ByteArray := prog_1_method_11_code
def y_P_breaks : MethodName := ⟨R_P, "breaks", "(II)Z"⟩
abbrev b_P_closure : ByteArray := prog_1_method_12_code
def y_P_closure : MethodName := ⟨R_P, "closure", "(I)I"⟩
abbrev b_P_at : ByteArray := prog_1_method_13_code
def y_P_at : MethodName := ⟨R_P, "at", "(I)I"⟩
abbrev b_P_usesDigest : ByteArray := prog_1_method_28_code
def y_P_usesDigest : MethodName := ⟨R_P, "usesDigest", "(IJ)Z"⟩
abbrev b_P_restsOn : ByteArray := prog_1_method_27_code
def y_P_restsOn : MethodName := ⟨R_P, "restsOn", "(IJ)Z"⟩
abbrev b_P_holds : ByteArray := prog_1_method_14_code
def y_P_holds : MethodName := ⟨R_P, "holds", "(JI)I"⟩
abbrev b_P_missing : ByteArray := prog_1_method_15_code
def y_P_missing : MethodName := ⟨R_P, "missing", "(II)I"⟩
abbrev b_A_differAtPath : ByteArray := prog_2_method_15_code
def y_A_differAtPath : MethodName := ⟨R_A, "differAtPath", "(III)Z"⟩
abbrev b_P_bitIf : ByteArray := prog_1_method_21_code
def y_P_bitIf : MethodName := ⟨R_P, "bitIf", "(ZI)I"⟩
abbrev b_P_rebuilt : ByteArray := prog_1_method_16_code
def y_P_rebuilt : MethodName := ⟨R_P, "rebuilt", "(II)I"⟩
abbrev b_W_sameAsSets : ByteArray := prog_5_method_6_code
def y_W_sameAsSets : MethodName := ⟨R_W, "sameAsSets", "(II)Z"⟩
abbrev b_P_differ : ByteArray := prog_1_method_17_code
def y_P_differ : MethodName := ⟨R_P, "differ", "(II)I"⟩
abbrev b_P_clash : ByteArray := prog_1_method_18_code
def y_P_clash : MethodName := ⟨R_P, "clash", "(II)I"⟩
abbrev b_M_within : ByteArray := prog_8_method_5_code
def y_M_within : MethodName := ⟨R_M, "within", "(III)Z"⟩
abbrev b_M_source : ByteArray := prog_8_method_6_code
def y_M_source : MethodName := ⟨R_M, "source", "(JII)I"⟩
abbrev b_M_isSource : ByteArray := prog_8_method_4_code
def y_M_isSource : MethodName := ⟨R_M, "isSource", "(I)Z"⟩
abbrev b_M_fetched : ByteArray := prog_8_method_7_code
def y_M_fetched : MethodName := ⟨R_M, "fetched", "(IZ)Z"⟩
abbrev b_M_artefact : ByteArray := prog_8_method_8_code
def y_M_artefact : MethodName := ⟨R_M, "artefact", "(JIIII)I"⟩
abbrev b_M_isArtefact : ByteArray := prog_8_method_3_code
def y_M_isArtefact : MethodName := ⟨R_M, "isArtefact", "(I)Z"⟩
abbrev b_M_hasUse : ByteArray := prog_8_method_9_code
def y_M_hasUse : MethodName := ⟨R_M, "hasUse", "(II)Z"⟩
abbrev b_M_uses : ByteArray := prog_8_method_10_code
def y_M_uses : MethodName := ⟨R_M, "uses", "(II)Z"⟩
abbrev b_M_hasNeed : ByteArray := prog_8_method_11_code
def y_M_hasNeed : MethodName := ⟨R_M, "hasNeed", "(IJ)Z"⟩
abbrev b_M_needs : ByteArray := prog_8_method_12_code
def y_M_needs : MethodName := ⟨R_M, "needs", "(IJ)Z"⟩
abbrev b_M_path : ByteArray := prog_8_method_13_code
def y_M_path : MethodName := ⟨R_M, "path", "(IIJ)Z"⟩
abbrev b_M_policy : ByteArray := prog_8_method_14_code
def y_M_policy : MethodName := ⟨R_M, "policy", "(II)I"⟩
abbrev b_M_come : ByteArray := prog_8_method_16_code
def y_M_come : MethodName := ⟨R_M, "come", "(I)V"⟩
abbrev b_M_meets : ByteArray := prog_8_method_15_code
def y_M_meets : MethodName := ⟨R_M, "meets", "(J)I"⟩
abbrev b_M_goAlong : ByteArray := prog_8_method_17_code
def y_M_goAlong : MethodName := ⟨R_M, "goAlong", "(I)V"⟩
abbrev b_M_closure : ByteArray := prog_8_method_18_code
def y_M_closure : MethodName := ⟨R_M, "closure", "(I)I"⟩
abbrev b_M_at : ByteArray := prog_8_method_19_code
def y_M_at : MethodName := ⟨R_M, "at", "(I)I"⟩
abbrev b_M_holds : ByteArray := prog_8_method_20_code
def y_M_holds : MethodName := ⟨R_M, "holds", "(JI)I"⟩
abbrev b_M_missing : ByteArray := prog_8_method_21_code
def y_M_missing : MethodName := ⟨R_M, "missing", "(II)I"⟩
abbrev b_M_others : ByteArray := prog_8_method_22_code
def y_M_others : MethodName := ⟨R_M, "others", "(II)I"⟩
abbrev b_M_sourceBreaks : ByteArray := prog_8_method_23_code
def y_M_sourceBreaks : MethodName := ⟨R_M, "sourceBreaks", "(III)Z"⟩
abbrev b_M_isLate : ByteArray := prog_8_method_24_code
def y_M_isLate : MethodName := ⟨R_M, "isLate", "(II)Z"⟩
abbrev b_M_agree : ByteArray := prog_8_method_25_code
def y_M_agree : MethodName := ⟨R_M, "agree", "(II)Z"⟩
abbrev b_M_isClash : ByteArray := prog_8_method_26_code
def y_M_isClash : MethodName := ⟨R_M, "isClash", "(II)Z"⟩
abbrev b_M_isBroken : ByteArray := prog_8_method_27_code
def y_M_isBroken : MethodName := ⟨R_M, "isBroken", "(II)Z"⟩
abbrev b_M_breaks : ByteArray := prog_8_method_28_code
def y_M_breaks : MethodName := ⟨R_M, "breaks", "(II)Z"⟩
abbrev b_M_verdict : ByteArray := prog_8_method_29_code
def y_M_verdict : MethodName := ⟨R_M, "verdict", "(I)I"⟩
abbrev b_M_culprit : ByteArray := prog_8_method_30_code
def y_M_culprit : MethodName := ⟨R_M, "culprit", "()I"⟩
abbrev b_M_rebuilt : ByteArray := prog_8_method_31_code
def y_M_rebuilt : MethodName := ⟨R_M, "rebuilt", "(II)I"⟩
abbrev b_M_sameSources : ByteArray := prog_8_method_32_code
def y_M_sameSources : MethodName := ⟨R_M, "sameSources", "(II)Z"⟩
abbrev b_M_sameNeeds : ByteArray := prog_8_method_33_code
def y_M_sameNeeds : MethodName := ⟨R_M, "sameNeeds", "(II)Z"⟩
abbrev b_M_differ : ByteArray := prog_8_method_34_code
def y_M_differ : MethodName := ⟨R_M, "differ", "(II)I"⟩
abbrev b_M_clash : ByteArray := prog_8_method_35_code
def y_M_clash : MethodName := ⟨R_M, "clash", "(II)I"⟩
abbrev b_S_init : ByteArray := prog_6_method_1_code
def y_S_init : MethodName := ⟨R_S, "<init>", "()V"⟩
abbrev b_W_init : ByteArray := prog_5_method_1_code
def y_W_init : MethodName := ⟨R_W, "<init>", "()V"⟩
abbrev b_A_init : ByteArray := prog_2_method_1_code
def y_A_init : MethodName := ⟨R_A, "<init>", "()V"⟩
abbrev b_Y_init : ByteArray := prog_4_method_1_code
def y_Y_init : MethodName := ⟨R_Y, "<init>", "()V"⟩
abbrev b_Q_init : ByteArray := prog_3_method_1_code
def y_Q_init : MethodName := ⟨R_Q, "<init>", "()V"⟩
abbrev b_P_init : ByteArray := prog_1_method_1_code
def y_P_init : MethodName := ⟨R_P, "<init>", "()V"⟩
abbrev b_M_init : ByteArray := prog_8_method_1_code
def y_M_init : MethodName := ⟨R_M, "<init>", "()V"⟩
def zTT : List Cond := lw_tbl.filter goodWord
theorem zmem {w : Cond} (h : w ∈ lw_tbl) (g : goodWord w = true) : w ∈ zTT := List.mem_filter.mpr ⟨h, g⟩
theorem zTT_good : ∀ w ∈ zTT, goodWord w = true := fun w h => (List.mem_filter.mp h).2
theorem zTT_in : ∀ w ∈ zTT, w ∈ lw_tbl := fun w h => (List.mem_filter.mp h).1
theorem zgC {cd : Cond} (h5 : cd ∈ zTT) : GoodIn zTT (cd :: zTT) := z_good zTT_good (fun w hw => by
  rcases List.mem_cons.mp hw with rfl | hw
  · exact h5
  · exact hw)
theorem zgV {own C : String} {idx : Nat} {y : MethodName} {cd : Cond} (h1 : Cond.methodLink own idx y ∈ zTT) (h2 : Cond.instanceMethod y ∈ zTT) (h3 : Cond.selects C y y ∈ zTT) (h4 : Cond.initialized C ∈ zTT) (h5 : cd ∈ zTT) : GoodIn zTT (wsV own idx C y (cd :: zTT)) := z_good zTT_good (fun w hw => by
  rcases List.mem_append.mp hw with hw | hw
  · simp only [List.mem_cons, List.not_mem_nil, or_false] at hw
    rcases hw with rfl | rfl | rfl | rfl
    · exact h1
    · exact h2
    · exact h3
    · exact h4
  · rcases List.mem_cons.mp hw with rfl | hw
    · exact h5
    · exact hw)
theorem zgS {own : String} {idx : Nat} {y : MethodName} {cd : Cond} (h1 : Cond.methodLink own idx y ∈ zTT) (h2 : Cond.static y ∈ zTT) (h4 : Cond.initialized y.cls ∈ zTT) (h5 : cd ∈ zTT) : GoodIn zTT (va_wsS own idx y (cd :: zTT)) := z_good zTT_good (fun w hw => by
  rcases List.mem_append.mp hw with hw | hw
  · simp only [List.mem_cons, List.not_mem_nil, or_false] at hw
    rcases hw with rfl | rfl | rfl
    · exact h1
    · exact h2
    · exact h4
  · rcases List.mem_cons.mp hw with rfl | hw
    · exact h5
    · exact hw)
abbrev zrm (f k : Nat) : Room := { frames := f, cells := 0, slots := 0, locals := k }
theorem i_P : ∀ w ∈ u_ws R_P F_P 7, w ∈ lw_tbl := by decide +kernel
theorem in_P : ∀ w ∈ u_ws R_P F_P 7, w ∈ zTT := fun w h => zmem (i_P w h) ((by decide +kernel : ∀ w ∈ u_ws R_P F_P 7, goodWord w = true) w h)
theorem i_S : ∀ w ∈ u_ws R_S F_S 5, w ∈ lw_tbl := by decide +kernel
theorem in_S : ∀ w ∈ u_ws R_S F_S 5, w ∈ zTT := fun w h => zmem (i_S w h) ((by decide +kernel : ∀ w ∈ u_ws R_S F_S 5, goodWord w = true) w h)
theorem i_A : ∀ w ∈ u_ws R_A F_A 11, w ∈ lw_tbl := by decide +kernel
theorem in_A : ∀ w ∈ u_ws R_A F_A 11, w ∈ zTT := fun w h => zmem (i_A w h) ((by decide +kernel : ∀ w ∈ u_ws R_A F_A 11, goodWord w = true) w h)
theorem i_W : ∀ w ∈ u_ws R_W F_W 2, w ∈ lw_tbl := by decide +kernel
theorem in_W : ∀ w ∈ u_ws R_W F_W 2, w ∈ zTT := fun w h => zmem (i_W w h) ((by decide +kernel : ∀ w ∈ u_ws R_W F_W 2, goodWord w = true) w h)
theorem i_Y : ∀ w ∈ u_ws R_Y F_Y 3, w ∈ lw_tbl := by decide +kernel
theorem in_Y : ∀ w ∈ u_ws R_Y F_Y 3, w ∈ zTT := fun w h => zmem (i_Y w h) ((by decide +kernel : ∀ w ∈ u_ws R_Y F_Y 3, goodWord w = true) w h)
theorem i_Q : ∀ w ∈ u_ws R_Q F_Q 3, w ∈ lw_tbl := by decide +kernel
theorem in_Q : ∀ w ∈ u_ws R_Q F_Q 3, w ∈ zTT := fun w h => zmem (i_Q w h) ((by decide +kernel : ∀ w ∈ u_ws R_Q F_Q 3, goodWord w = true) w h)
theorem i_M : ∀ w ∈ u_ws R_M F_M 27, w ∈ lw_tbl := by decide +kernel
theorem in_M : ∀ w ∈ u_ws R_M F_M 27, w ∈ zTT := fun w h => zmem (i_M w h) ((by decide +kernel : ∀ w ∈ u_ws R_M F_M 27, goodWord w = true) w h)
abbrev zcl : List vw_C := [(R_P, F_P, 7), (R_S, F_S, 5), (R_A, F_A, 11), (R_W, F_W, 2), (R_Y, F_Y, 3), (R_Q, F_Q, 3), (R_M, F_M, 27)]
def zwC (ad : Nat → Nat) (ca : Nat → ClassId) (σ : zS) : va_W := [(ad 0, .inr (0, [.ref (ad 1), .ref (ad 6), .ref (ad 21), .ref (ad 24), .ref (ad 26), .ref (ad 28), .int (σ.1 106 0)])), (ad 1, .inr (1, [.int (σ.1 120 0), .ref (ad 2), .ref (ad 3), .ref (ad 4), .ref (ad 5)])), (ad 2, .inl (ca 2, 24, .inr (.inl (σ.2 2)))), (ad 3, .inl (ca 3, 24, .inl (σ.1 3))), (ad 4, .inl (ca 4, 24, .inl (σ.1 4))), (ad 5, .inl (ca 5, 24, .inl (σ.1 5))), (ad 6, .inr (2, [.int (σ.1 220 0), .ref (ad 7), .ref (ad 8), .ref (ad 9), .ref (ad 10), .ref (ad 11), .ref (ad 12), .ref (ad 15), .ref (ad 18), .ref (ad 19), .ref (ad 20)])), (ad 7, .inl (ca 7, 32, .inr (.inl (σ.2 7)))), (ad 8, .inl (ca 8, 32, .inl (σ.1 8))), (ad 9, .inl (ca 9, 32, .inl (σ.1 9))), (ad 10, .inl (ca 10, 32, .inl (σ.1 10))), (ad 11, .inl (ca 11, 32, .inl (σ.1 11))), (ad 12, .inr (3, [.ref (ad 13), .ref (ad 14)])), (ad 13, .inl (ca 13, 32, .inl (σ.1 13))), (ad 14, .inl (ca 14, 192, .inr (.inl (σ.2 14)))), (ad 15, .inr (3, [.ref (ad 16), .ref (ad 17)])), (ad 16, .inl (ca 16, 32, .inl (σ.1 16))), (ad 17, .inl (ca 17, 192, .inr (.inl (σ.2 17)))), (ad 18, .inl (ca 18, 192, .inl (σ.1 18))), (ad 19, .inl (ca 19, 32, .inl (σ.1 19))), (ad 20, .inl (ca 20, 256, .inr (.inl (σ.2 20)))), (ad 21, .inr (4, [.int (σ.1 520 0), .ref (ad 22), .ref (ad 23)])), (ad 22, .inl (ca 22, 16, .inl (σ.1 22))), (ad 23, .inl (ca 23, 16, .inl (σ.1 23))), (ad 24, .inr (5, [.int (σ.1 580 0), .ref (ad 25), .int (σ.1 582 0)])), (ad 25, .inl (ca 25, 32, .inl (σ.1 25))), (ad 26, .inr (5, [.int (σ.1 620 0), .ref (ad 27), .int (σ.1 622 0)])), (ad 27, .inl (ca 27, 32, .inl (σ.1 27))), (ad 28, .inr (5, [.int (σ.1 660 0), .ref (ad 29), .int (σ.1 662 0)])), (ad 29, .inl (ca 29, 32, .inl (σ.1 29)))]
def zwM (ad : Nat → Nat) (ca : Nat → ClassId) (σ : zS) : va_W := [(ad 30, .inr (6, [.int (σ.1 700 0), .int (σ.1 701 0), .int (σ.1 702 0), .ref (ad 31), .ref (ad 32), .ref (ad 33), .ref (ad 34), .ref (ad 35), .ref (ad 36), .ref (ad 37), .ref (ad 38), .ref (ad 39), .ref (ad 40), .ref (ad 41), .ref (ad 42), .ref (ad 43), .ref (ad 44), .ref (ad 45), .ref (ad 46), .ref (ad 47), .int (σ.1 720 0), .int (σ.1 721 0), .int (σ.1 722 0), .int (σ.1 723 0), .ref (ad 48), .ref (ad 49), .ref (ad 50)])), (ad 31, .inl (ca 31, 24, .inr (.inl (σ.2 31)))), (ad 32, .inl (ca 32, 24, .inl (σ.1 32))), (ad 33, .inl (ca 33, 24, .inl (σ.1 33))), (ad 34, .inl (ca 34, 24, .inl (σ.1 34))), (ad 35, .inl (ca 35, 32, .inr (.inl (σ.2 35)))), (ad 36, .inl (ca 36, 192, .inr (.inl (σ.2 36)))), (ad 37, .inl (ca 37, 256, .inr (.inl (σ.2 37)))), (ad 38, .inl (ca 38, 32, .inl (σ.1 38))), (ad 39, .inl (ca 39, 32, .inl (σ.1 39))), (ad 40, .inl (ca 40, 32, .inl (σ.1 40))), (ad 41, .inl (ca 41, 32, .inl (σ.1 41))), (ad 42, .inl (ca 42, 32, .inl (σ.1 42))), (ad 43, .inl (ca 43, 192, .inl (σ.1 43))), (ad 44, .inl (ca 44, 32, .inl (σ.1 44))), (ad 45, .inl (ca 45, 32, .inl (σ.1 45))), (ad 46, .inl (ca 46, 16, .inl (σ.1 46))), (ad 47, .inl (ca 47, 16, .inl (σ.1 47))), (ad 48, .inl (ca 48, 32, .inl (σ.1 48))), (ad 49, .inl (ca 49, 32, .inl (σ.1 49))), (ad 50, .inl (ca 50, 32, .inl (σ.1 50)))]
def zty (ca : Nat → ClassId) : List (ClassId × FieldType) := [(ca 2, .long), (ca 3, .int), (ca 4, .int), (ca 5, .boolean), (ca 7, .long), (ca 8, .int), (ca 9, .int), (ca 10, .int), (ca 11, .int), (ca 13, .int), (ca 14, .long), (ca 16, .int), (ca 17, .long), (ca 18, .int), (ca 19, .int), (ca 20, .long), (ca 22, .int), (ca 23, .int), (ca 25, .int), (ca 27, .int), (ca 29, .int), (ca 31, .long), (ca 32, .int), (ca 33, .int), (ca 34, .boolean), (ca 35, .long), (ca 36, .long), (ca 37, .long), (ca 38, .int), (ca 39, .int), (ca 40, .int), (ca 41, .int), (ca 42, .int), (ca 43, .int), (ca 44, .int), (ca 45, .int), (ca 46, .int), (ca 47, .int), (ca 48, .int), (ca 49, .int), (ca 50, .int)]
def zNest (U : State) : Prop := va_Nw (.methodLinkNest "ProvenanceRows" 9 y_S_init "ProvenanceRows") U ∧ va_Nw (.methodLinkNest "ProvenanceRows" 18 y_A_init "ProvenanceRows") U ∧ va_Nw (.methodLinkNest "ProvenanceRows$Artefacts" 30 y_W_init "ProvenanceRows") U ∧ va_Nw (.methodLinkNest "ProvenanceRows" 25 y_Y_init "ProvenanceRows") U ∧ va_Nw (.methodLinkNest "ProvenanceRows" 32 y_Q_init "ProvenanceRows") U ∧ va_Nw (.methodLinkNest "ProvenanceRows$Closure" 41 y_P_hasBit "ProvenanceRows") U ∧ va_Nw (.methodLinkNest "ProvenanceRows$Artefacts" 81 y_P_hasBit "ProvenanceRows") U
theorem zNest_w {s U : State} (hW : s.WarmedH U.vm) (h : zNest s) : zNest U := by
  obtain ⟨h0, h1, h2, h3, h4, h5, h6⟩ := h
  exact ⟨va_Nw.warmM hW h0, va_Nw.warmM hW h1, va_Nw.warmM hW h2, va_Nw.warmM hW h3, va_Nw.warmM hW h4, va_Nw.warmM hW h5, va_Nw.warmM hW h6⟩
theorem zNest_c {U : State} (g : JFrame) (mk : MethodId) (a : Array Value) (h : zNest U) : zNest (U.calling g mk a) := by
  obtain ⟨h0, h1, h2, h3, h4, h5, h6⟩ := h
  exact ⟨va_Nw.same rfl rfl h0, va_Nw.same rfl rfl h1, va_Nw.same rfl rfl h2, va_Nw.same rfl rfl h3, va_Nw.same rfl rfl h4, va_Nw.same rfl rfl h5, va_Nw.same rfl rfl h6⟩
def zKK (D : va_G) (ca : Nat → ClassId) (U : State) : Prop := va_K D zcl (zty ca) U ∧ zNest U
theorem zKK_m (D : va_G) (ca : Nat → ClassId) : zKm (zKK D ca) := ⟨fun s U hW h => ⟨va_K.moved hW.alike h.1, zNest_w hW h.2⟩, fun U g mk a h => ⟨va_K.moved (u := U) (U := U.calling g mk a) (Vm.Alike.refl U.vm) h.1, zNest_c g mk a h.2⟩⟩
def zK0 (D : va_G) (U : State) : Prop := va_K D zcl [] U ∧ zNest U
theorem zK0_m (D : va_G) : zKm (zK0 D) := ⟨fun s U hW h => ⟨va_K.moved hW.alike h.1, zNest_w hW h.2⟩, fun U g mk a h => ⟨va_K.moved (u := U) (U := U.calling g mk a) (Vm.Alike.refl U.vm) h.1, zNest_c g mk a h.2⟩⟩
def zn_S (h0 : Nat) (u : (Nat → Nat) × (Nat → ClassId)) : va_W := [(h0, .inr (1, [.int 0, .ref (u.1 1), .ref (u.1 2), .ref (u.1 3), .ref (u.1 4)])), ((u.1 1), .inl (u.2 1, 24, .inr (.inl (fun _ => 0)))), ((u.1 2), .inl (u.2 2, 24, .inl (fun _ => 0))), ((u.1 3), .inl (u.2 3, 24, .inl (fun _ => 0))), ((u.1 4), .inl (u.2 4, 24, .inl (fun _ => 0)))]
def zt_S (u : (Nat → Nat) × (Nat → ClassId)) : List (ClassId × FieldType) := [(u.2 1, .long), (u.2 2, .int), (u.2 3, .int), (u.2 4, .boolean)]
def zn_W (h0 : Nat) (u : (Nat → Nat) × (Nat → ClassId)) : va_W := [(h0, .inr (3, [.ref (u.1 1), .ref (u.1 2)])), ((u.1 1), .inl (u.2 1, 32, .inl (fun _ => 0))), ((u.1 2), .inl (u.2 2, 192, .inr (.inl (fun _ => 0))))]
def zt_W (u : (Nat → Nat) × (Nat → ClassId)) : List (ClassId × FieldType) := [(u.2 1, .int), (u.2 2, .long)]
def zn_A (h0 : Nat) (u : (Nat → Nat) × (Nat → ClassId)) : va_W := [(h0, .inr (2, [.int 0, .ref (u.1 1), .ref (u.1 2), .ref (u.1 3), .ref (u.1 4), .ref (u.1 5), .ref (u.1 6), .ref (u.1 9), .ref (u.1 12), .ref (u.1 13), .ref (u.1 14)])), ((u.1 1), .inl (u.2 1, 32, .inr (.inl (fun _ => 0)))), ((u.1 2), .inl (u.2 2, 32, .inl (fun _ => 0))), ((u.1 3), .inl (u.2 3, 32, .inl (fun _ => 0))), ((u.1 4), .inl (u.2 4, 32, .inl (fun _ => 0))), ((u.1 5), .inl (u.2 5, 32, .inl (fun _ => 0))), ((u.1 6), .inr (3, [.ref (u.1 7), .ref (u.1 8)])), ((u.1 7), .inl (u.2 7, 32, .inl (fun _ => 0))), ((u.1 8), .inl (u.2 8, 192, .inr (.inl (fun _ => 0)))), ((u.1 9), .inr (3, [.ref (u.1 10), .ref (u.1 11)])), ((u.1 10), .inl (u.2 10, 32, .inl (fun _ => 0))), ((u.1 11), .inl (u.2 11, 192, .inr (.inl (fun _ => 0)))), ((u.1 12), .inl (u.2 12, 192, .inl (fun _ => 0))), ((u.1 13), .inl (u.2 13, 32, .inl (fun _ => 0))), ((u.1 14), .inl (u.2 14, 256, .inr (.inl (fun _ => 0))))]
def zt_A (u : (Nat → Nat) × (Nat → ClassId)) : List (ClassId × FieldType) := [(u.2 1, .long), (u.2 2, .int), (u.2 3, .int), (u.2 4, .int), (u.2 5, .int), (u.2 7, .int), (u.2 8, .long), (u.2 10, .int), (u.2 11, .long), (u.2 12, .int), (u.2 13, .int), (u.2 14, .long)]
def zn_Y (h0 : Nat) (u : (Nat → Nat) × (Nat → ClassId)) : va_W := [(h0, .inr (4, [.int 0, .ref (u.1 1), .ref (u.1 2)])), ((u.1 1), .inl (u.2 1, 16, .inl (fun _ => 0))), ((u.1 2), .inl (u.2 2, 16, .inl (fun _ => 0)))]
def zt_Y (u : (Nat → Nat) × (Nat → ClassId)) : List (ClassId × FieldType) := [(u.2 1, .int), (u.2 2, .int)]
def zn_Q (h0 : Nat) (u : (Nat → Nat) × (Nat → ClassId)) : va_W := [(h0, .inr (5, [.int 0, .ref (u.1 1), .int 0])), ((u.1 1), .inl (u.2 1, 32, .inl (fun _ => 0)))]
def zt_Q (u : (Nat → Nat) × (Nat → ClassId)) : List (ClassId × FieldType) := [(u.2 1, .int)]
def zn_P (h0 : Nat) (u : (Nat → Nat) × (Nat → ClassId)) : va_W := [(h0, .inr (0, [.ref (u.1 1), .ref (u.1 6), .ref (u.1 21), .ref (u.1 24), .ref (u.1 26), .ref (u.1 28), .int (-1)])), ((u.1 1), .inr (1, [.int 0, .ref (u.1 2), .ref (u.1 3), .ref (u.1 4), .ref (u.1 5)])), ((u.1 2), .inl (u.2 2, 24, .inr (.inl (fun _ => 0)))), ((u.1 3), .inl (u.2 3, 24, .inl (fun _ => 0))), ((u.1 4), .inl (u.2 4, 24, .inl (fun _ => 0))), ((u.1 5), .inl (u.2 5, 24, .inl (fun _ => 0))), ((u.1 6), .inr (2, [.int 0, .ref (u.1 7), .ref (u.1 8), .ref (u.1 9), .ref (u.1 10), .ref (u.1 11), .ref (u.1 12), .ref (u.1 15), .ref (u.1 18), .ref (u.1 19), .ref (u.1 20)])), ((u.1 7), .inl (u.2 7, 32, .inr (.inl (fun _ => 0)))), ((u.1 8), .inl (u.2 8, 32, .inl (fun _ => 0))), ((u.1 9), .inl (u.2 9, 32, .inl (fun _ => 0))), ((u.1 10), .inl (u.2 10, 32, .inl (fun _ => 0))), ((u.1 11), .inl (u.2 11, 32, .inl (fun _ => 0))), ((u.1 12), .inr (3, [.ref (u.1 13), .ref (u.1 14)])), ((u.1 13), .inl (u.2 13, 32, .inl (fun _ => 0))), ((u.1 14), .inl (u.2 14, 192, .inr (.inl (fun _ => 0)))), ((u.1 15), .inr (3, [.ref (u.1 16), .ref (u.1 17)])), ((u.1 16), .inl (u.2 16, 32, .inl (fun _ => 0))), ((u.1 17), .inl (u.2 17, 192, .inr (.inl (fun _ => 0)))), ((u.1 18), .inl (u.2 18, 192, .inl (fun _ => 0))), ((u.1 19), .inl (u.2 19, 32, .inl (fun _ => 0))), ((u.1 20), .inl (u.2 20, 256, .inr (.inl (fun _ => 0)))), ((u.1 21), .inr (4, [.int 0, .ref (u.1 22), .ref (u.1 23)])), ((u.1 22), .inl (u.2 22, 16, .inl (fun _ => 0))), ((u.1 23), .inl (u.2 23, 16, .inl (fun _ => 0))), ((u.1 24), .inr (5, [.int 0, .ref (u.1 25), .int 0])), ((u.1 25), .inl (u.2 25, 32, .inl (fun _ => 0))), ((u.1 26), .inr (5, [.int 0, .ref (u.1 27), .int 0])), ((u.1 27), .inl (u.2 27, 32, .inl (fun _ => 0))), ((u.1 28), .inr (5, [.int 0, .ref (u.1 29), .int 0])), ((u.1 29), .inl (u.2 29, 32, .inl (fun _ => 0)))]
def zt_P (u : (Nat → Nat) × (Nat → ClassId)) : List (ClassId × FieldType) := [(u.2 2, .long), (u.2 3, .int), (u.2 4, .int), (u.2 5, .boolean), (u.2 7, .long), (u.2 8, .int), (u.2 9, .int), (u.2 10, .int), (u.2 11, .int), (u.2 13, .int), (u.2 14, .long), (u.2 16, .int), (u.2 17, .long), (u.2 18, .int), (u.2 19, .int), (u.2 20, .long), (u.2 22, .int), (u.2 23, .int), (u.2 25, .int), (u.2 27, .int), (u.2 29, .int)]
def zn_M (h0 : Nat) (u : (Nat → Nat) × (Nat → ClassId)) : va_W := [(h0, .inr (6, [.int 0, .int 0, .int 0, .ref (u.1 1), .ref (u.1 2), .ref (u.1 3), .ref (u.1 4), .ref (u.1 5), .ref (u.1 6), .ref (u.1 7), .ref (u.1 8), .ref (u.1 9), .ref (u.1 10), .ref (u.1 11), .ref (u.1 12), .ref (u.1 13), .ref (u.1 14), .ref (u.1 15), .ref (u.1 16), .ref (u.1 17), .int (-1), .int 0, .int 0, .int 0, .ref (u.1 18), .ref (u.1 19), .ref (u.1 20)])), ((u.1 1), .inl (u.2 1, 24, .inr (.inl (fun _ => 0)))), ((u.1 2), .inl (u.2 2, 24, .inl (fun _ => 0))), ((u.1 3), .inl (u.2 3, 24, .inl (fun _ => 0))), ((u.1 4), .inl (u.2 4, 24, .inl (fun _ => 0))), ((u.1 5), .inl (u.2 5, 32, .inr (.inl (fun _ => 0)))), ((u.1 6), .inl (u.2 6, 192, .inr (.inl (fun _ => 0)))), ((u.1 7), .inl (u.2 7, 256, .inr (.inl (fun _ => 0)))), ((u.1 8), .inl (u.2 8, 32, .inl (fun _ => 0))), ((u.1 9), .inl (u.2 9, 32, .inl (fun _ => 0))), ((u.1 10), .inl (u.2 10, 32, .inl (fun _ => 0))), ((u.1 11), .inl (u.2 11, 32, .inl (fun _ => 0))), ((u.1 12), .inl (u.2 12, 32, .inl (fun _ => 0))), ((u.1 13), .inl (u.2 13, 192, .inl (fun _ => 0))), ((u.1 14), .inl (u.2 14, 32, .inl (fun _ => 0))), ((u.1 15), .inl (u.2 15, 32, .inl (fun _ => 0))), ((u.1 16), .inl (u.2 16, 16, .inl (fun _ => 0))), ((u.1 17), .inl (u.2 17, 16, .inl (fun _ => 0))), ((u.1 18), .inl (u.2 18, 32, .inl (fun _ => 0))), ((u.1 19), .inl (u.2 19, 32, .inl (fun _ => 0))), ((u.1 20), .inl (u.2 20, 32, .inl (fun _ => 0)))]
def zt_M (u : (Nat → Nat) × (Nat → ClassId)) : List (ClassId × FieldType) := [(u.2 1, .long), (u.2 2, .int), (u.2 3, .int), (u.2 4, .boolean), (u.2 5, .long), (u.2 6, .long), (u.2 7, .long), (u.2 8, .int), (u.2 9, .int), (u.2 10, .int), (u.2 11, .int), (u.2 12, .int), (u.2 13, .int), (u.2 14, .int), (u.2 15, .int), (u.2 16, .int), (u.2 17, .int), (u.2 18, .int), (u.2 19, .int), (u.2 20, .int)]
end
section
theorem w_field_P_10_P_0 : Cond.fieldLink R_P 10 (F_P 0).1 (F_P 0).2.1 (F_P 0).2.2.1 ∈ zTT := zmem (List.mem_of_getElem? (i := 174) (by decide +kernel)) rfl
theorem w_const_P_51_65535 : Cond.constant R_P 51 65535 ∈ zTT := zmem (List.mem_of_getElem? (i := 203) (by decide +kernel)) rfl
theorem w_field_S_26_S_0 : Cond.fieldLink R_S 26 (F_S 0).1 (F_S 0).2.1 (F_S 0).2.2.1 ∈ zTT := zmem (List.mem_of_getElem? (i := 49) (by decide +kernel)) rfl
theorem w_field_S_9_S_1 : Cond.fieldLink R_S 9 (F_S 1).1 (F_S 1).2.1 (F_S 1).2.2.1 ∈ zTT := zmem (List.mem_of_getElem? (i := 50) (by decide +kernel)) rfl
theorem w_field_S_15_S_2 : Cond.fieldLink R_S 15 (F_S 2).1 (F_S 2).2.1 (F_S 2).2.2.1 ∈ zTT := zmem (List.mem_of_getElem? (i := 52) (by decide +kernel)) rfl
theorem w_field_S_19_S_3 : Cond.fieldLink R_S 19 (F_S 3).1 (F_S 3).2.1 (F_S 3).2.2.1 ∈ zTT := zmem (List.mem_of_getElem? (i := 54) (by decide +kernel)) rfl
theorem w_mlink_P_52 : Cond.methodLink R_P 52 y_S_add ∈ zTT := zmem (List.mem_of_getElem? (i := 204) (by decide +kernel)) rfl
theorem w_imeth_S_add : Cond.instanceMethod y_S_add ∈ zTT := zmem (List.mem_of_getElem? (i := 205) (by decide +kernel)) rfl
theorem w_sel_S_add : Cond.selects R_S y_S_add y_S_add ∈ zTT := zmem (List.mem_of_getElem? (i := 206) (by decide +kernel)) rfl
theorem w_init_S : Cond.initialized R_S ∈ zTT := zmem (List.mem_of_getElem? (i := 28) (by decide +kernel)) rfl
set_option maxRecDepth 100000 in
theorem w_code_S_add : Cond.code y_S_add b_S_add 6 (some .int) ∈ zTT := zmem (List.mem_of_getElem? (i := 207) rfl) rfl
theorem w_mlink_P_47 : Cond.methodLink R_P 47 y_P_isUpTo ∈ zTT := zmem (List.mem_of_getElem? (i := 200) (by decide +kernel)) rfl
theorem w_stat_P_isUpTo : Cond.static y_P_isUpTo ∈ zTT := zmem (List.mem_of_getElem? (i := 201) (by decide +kernel)) rfl
theorem w_init_P : Cond.initialized R_P ∈ zTT := zmem (List.mem_of_getElem? (i := 27) (by decide +kernel)) rfl
set_option maxRecDepth 100000 in
theorem w_code_P_isUpTo : Cond.code y_P_isUpTo b_P_isUpTo 2 (some .boolean) ∈ zTT := zmem (List.mem_of_getElem? (i := 202) rfl) rfl
theorem w_field_P_60_S_4 : Cond.fieldLink R_P 60 (F_S 4).1 (F_S 4).2.1 (F_S 4).2.2.1 ∈ zTT := zmem (List.mem_of_getElem? (i := 57) (by decide +kernel)) rfl
theorem w_mlink_P_56 : Cond.methodLink R_P 56 y_S_has ∈ zTT := zmem (List.mem_of_getElem? (i := 212) (by decide +kernel)) rfl
theorem w_imeth_S_has : Cond.instanceMethod y_S_has ∈ zTT := zmem (List.mem_of_getElem? (i := 213) (by decide +kernel)) rfl
theorem w_sel_S_has : Cond.selects R_S y_S_has y_S_has ∈ zTT := zmem (List.mem_of_getElem? (i := 214) (by decide +kernel)) rfl
set_option maxRecDepth 100000 in
theorem w_code_S_has : Cond.code y_S_has b_S_has 2 (some .boolean) ∈ zTT := zmem (List.mem_of_getElem? (i := 215) rfl) rfl
theorem w_const_P_64_1000000000 : Cond.constant R_P 64 1000000000 ∈ zTT := zmem (List.mem_of_getElem? (i := 220) (by decide +kernel)) rfl
theorem w_field_P_19_P_1 : Cond.fieldLink R_P 19 (F_P 1).1 (F_P 1).2.1 (F_P 1).2.2.1 ∈ zTT := zmem (List.mem_of_getElem? (i := 175) (by decide +kernel)) rfl
theorem w_field_A_47_A_0 : Cond.fieldLink R_A 47 (F_A 0).1 (F_A 0).2.1 (F_A 0).2.2.1 ∈ zTT := zmem (List.mem_of_getElem? (i := 94) (by decide +kernel)) rfl
theorem w_field_A_9_A_1 : Cond.fieldLink R_A 9 (F_A 1).1 (F_A 1).2.1 (F_A 1).2.2.1 ∈ zTT := zmem (List.mem_of_getElem? (i := 96) (by decide +kernel)) rfl
theorem w_field_A_15_A_2 : Cond.fieldLink R_A 15 (F_A 2).1 (F_A 2).2.1 (F_A 2).2.2.1 ∈ zTT := zmem (List.mem_of_getElem? (i := 98) (by decide +kernel)) rfl
theorem w_field_A_19_A_3 : Cond.fieldLink R_A 19 (F_A 3).1 (F_A 3).2.1 (F_A 3).2.2.1 ∈ zTT := zmem (List.mem_of_getElem? (i := 100) (by decide +kernel)) rfl
theorem w_field_A_22_A_4 : Cond.fieldLink R_A 22 (F_A 4).1 (F_A 4).2.1 (F_A 4).2.2.1 ∈ zTT := zmem (List.mem_of_getElem? (i := 102) (by decide +kernel)) rfl
theorem w_field_A_25_A_5 : Cond.fieldLink R_A 25 (F_A 5).1 (F_A 5).2.1 (F_A 5).2.2.1 ∈ zTT := zmem (List.mem_of_getElem? (i := 104) (by decide +kernel)) rfl
theorem w_field_A_35_A_7 : Cond.fieldLink R_A 35 (F_A 7).1 (F_A 7).2.1 (F_A 7).2.2.1 ∈ zTT := zmem (List.mem_of_getElem? (i := 108) (by decide +kernel)) rfl
theorem w_field_A_55_W_0 : Cond.fieldLink R_A 55 (F_W 0).1 (F_W 0).2.1 (F_W 0).2.2.1 ∈ zTT := zmem (List.mem_of_getElem? (i := 86) (by decide +kernel)) rfl
theorem w_field_W_15_W_1 : Cond.fieldLink R_W 15 (F_W 1).1 (F_W 1).2.1 (F_W 1).2.2.1 ∈ zTT := zmem (List.mem_of_getElem? (i := 88) (by decide +kernel)) rfl
theorem w_mlink_A_58 : Cond.methodLink R_A 58 y_W_valueAt ∈ zTT := zmem (List.mem_of_getElem? (i := 229) (by decide +kernel)) rfl
theorem w_imeth_W_valueAt : Cond.instanceMethod y_W_valueAt ∈ zTT := zmem (List.mem_of_getElem? (i := 230) (by decide +kernel)) rfl
theorem w_sel_W_valueAt : Cond.selects R_W y_W_valueAt y_W_valueAt ∈ zTT := zmem (List.mem_of_getElem? (i := 231) (by decide +kernel)) rfl
theorem w_init_W : Cond.initialized R_W ∈ zTT := zmem (List.mem_of_getElem? (i := 30) (by decide +kernel)) rfl
set_option maxRecDepth 100000 in
theorem w_code_W_valueAt : Cond.code y_W_valueAt b_W_valueAt 3 (some .long) ∈ zTT := zmem (List.mem_of_getElem? (i := 232) rfl) rfl
theorem w_field_A_38_A_8 : Cond.fieldLink R_A 38 (F_A 8).1 (F_A 8).2.1 (F_A 8).2.2.1 ∈ zTT := zmem (List.mem_of_getElem? (i := 111) (by decide +kernel)) rfl
theorem w_mlink_A_62 : Cond.methodLink R_A 62 y_A_metByAt ∈ zTT := zmem (List.mem_of_getElem? (i := 233) (by decide +kernel)) rfl
theorem w_imeth_A_metByAt : Cond.instanceMethod y_A_metByAt ∈ zTT := zmem (List.mem_of_getElem? (i := 234) (by decide +kernel)) rfl
theorem w_sel_A_metByAt : Cond.selects R_A y_A_metByAt y_A_metByAt ∈ zTT := zmem (List.mem_of_getElem? (i := 235) (by decide +kernel)) rfl
theorem w_init_A : Cond.initialized R_A ∈ zTT := zmem (List.mem_of_getElem? (i := 29) (by decide +kernel)) rfl
set_option maxRecDepth 100000 in
theorem w_code_A_metByAt : Cond.code y_A_metByAt b_A_metByAt 3 (some .int) ∈ zTT := zmem (List.mem_of_getElem? (i := 236) rfl) rfl
theorem w_mlink_A_51 : Cond.methodLink R_A 51 y_A_meetMissing ∈ zTT := zmem (List.mem_of_getElem? (i := 225) (by decide +kernel)) rfl
theorem w_imeth_A_meetMissing : Cond.instanceMethod y_A_meetMissing ∈ zTT := zmem (List.mem_of_getElem? (i := 227) (by decide +kernel)) rfl
theorem w_sel_A_meetMissing : Cond.selects R_A y_A_meetMissing y_A_meetMissing ∈ zTT := zmem (List.mem_of_getElem? (i := 0) (by decide +kernel)) rfl
set_option maxRecDepth 100000 in
theorem w_code_A_meetMissing : Cond.code y_A_meetMissing b_A_meetMissing 5 none ∈ zTT := zmem (List.mem_of_getElem? (i := 228) rfl) rfl
theorem w_mlink_P_65 : Cond.methodLink R_P 65 y_A_add ∈ zTT := zmem (List.mem_of_getElem? (i := 221) (by decide +kernel)) rfl
theorem w_imeth_A_add : Cond.instanceMethod y_A_add ∈ zTT := zmem (List.mem_of_getElem? (i := 222) (by decide +kernel)) rfl
theorem w_sel_A_add : Cond.selects R_A y_A_add y_A_add ∈ zTT := zmem (List.mem_of_getElem? (i := 223) (by decide +kernel)) rfl
set_option maxRecDepth 100000 in
theorem w_code_A_add : Cond.code y_A_add b_A_add 8 (some .int) ∈ zTT := zmem (List.mem_of_getElem? (i := 224) rfl) rfl
theorem w_field_P_69_A_6 : Cond.fieldLink R_P 69 (F_A 6).1 (F_A 6).2.1 (F_A 6).2.2.1 ∈ zTT := zmem (List.mem_of_getElem? (i := 107) (by decide +kernel)) rfl
theorem w_field_W_9_W_0 : Cond.fieldLink R_W 9 (F_W 0).1 (F_W 0).2.1 (F_W 0).2.2.1 ∈ zTT := zmem (List.mem_of_getElem? (i := 84) (by decide +kernel)) rfl
theorem w_mlink_W_23 : Cond.methodLink R_W 23 y_W_valueAt ∈ zTT := zmem (List.mem_of_getElem? (i := 253) (by decide +kernel)) rfl
theorem w_mlink_W_19 : Cond.methodLink R_W 19 y_W_contains ∈ zTT := zmem (List.mem_of_getElem? (i := 249) (by decide +kernel)) rfl
theorem w_imeth_W_contains : Cond.instanceMethod y_W_contains ∈ zTT := zmem (List.mem_of_getElem? (i := 251) (by decide +kernel)) rfl
theorem w_sel_W_contains : Cond.selects R_W y_W_contains y_W_contains ∈ zTT := zmem (List.mem_of_getElem? (i := 1) (by decide +kernel)) rfl
set_option maxRecDepth 100000 in
theorem w_code_W_contains : Cond.code y_W_contains b_W_contains 5 (some .boolean) ∈ zTT := zmem (List.mem_of_getElem? (i := 252) rfl) rfl
theorem w_mlink_P_73 : Cond.methodLink R_P 73 y_W_append ∈ zTT := zmem (List.mem_of_getElem? (i := 245) (by decide +kernel)) rfl
theorem w_imeth_W_append : Cond.instanceMethod y_W_append ∈ zTT := zmem (List.mem_of_getElem? (i := 246) (by decide +kernel)) rfl
theorem w_sel_W_append : Cond.selects R_W y_W_append y_W_append ∈ zTT := zmem (List.mem_of_getElem? (i := 247) (by decide +kernel)) rfl
set_option maxRecDepth 100000 in
theorem w_code_W_append : Cond.code y_W_append b_W_append 4 (some .boolean) ∈ zTT := zmem (List.mem_of_getElem? (i := 248) rfl) rfl
theorem w_mlink_P_68 : Cond.methodLink R_P 68 y_A_has ∈ zTT := zmem (List.mem_of_getElem? (i := 241) (by decide +kernel)) rfl
theorem w_imeth_A_has : Cond.instanceMethod y_A_has ∈ zTT := zmem (List.mem_of_getElem? (i := 242) (by decide +kernel)) rfl
theorem w_sel_A_has : Cond.selects R_A y_A_has y_A_has ∈ zTT := zmem (List.mem_of_getElem? (i := 243) (by decide +kernel)) rfl
set_option maxRecDepth 100000 in
theorem w_code_A_has : Cond.code y_A_has b_A_has 2 (some .boolean) ∈ zTT := zmem (List.mem_of_getElem? (i := 244) rfl) rfl
theorem w_mlink_A_70 : Cond.methodLink R_A 70 y_A_firstOf ∈ zTT := zmem (List.mem_of_getElem? (i := 263) (by decide +kernel)) rfl
theorem w_imeth_A_firstOf : Cond.instanceMethod y_A_firstOf ∈ zTT := zmem (List.mem_of_getElem? (i := 265) (by decide +kernel)) rfl
theorem w_sel_A_firstOf : Cond.selects R_A y_A_firstOf y_A_firstOf ∈ zTT := zmem (List.mem_of_getElem? (i := 2) (by decide +kernel)) rfl
set_option maxRecDepth 100000 in
theorem w_code_A_firstOf : Cond.code y_A_firstOf b_A_firstOf 4 (some .int) ∈ zTT := zmem (List.mem_of_getElem? (i := 266) rfl) rfl
theorem w_mlink_A_66 : Cond.methodLink R_A 66 y_W_append ∈ zTT := zmem (List.mem_of_getElem? (i := 262) (by decide +kernel)) rfl
theorem w_mlink_P_79 : Cond.methodLink R_P 79 y_A_addNeeded ∈ zTT := zmem (List.mem_of_getElem? (i := 258) (by decide +kernel)) rfl
theorem w_imeth_A_addNeeded : Cond.instanceMethod y_A_addNeeded ∈ zTT := zmem (List.mem_of_getElem? (i := 259) (by decide +kernel)) rfl
theorem w_sel_A_addNeeded : Cond.selects R_A y_A_addNeeded y_A_addNeeded ∈ zTT := zmem (List.mem_of_getElem? (i := 260) (by decide +kernel)) rfl
set_option maxRecDepth 100000 in
theorem w_code_A_addNeeded : Cond.code y_A_addNeeded b_A_addNeeded 5 (some .boolean) ∈ zTT := zmem (List.mem_of_getElem? (i := 261) rfl) rfl
theorem w_field_A_41_A_9 : Cond.fieldLink R_A 41 (F_A 9).1 (F_A 9).2.1 (F_A 9).2.2.1 ∈ zTT := zmem (List.mem_of_getElem? (i := 112) (by decide +kernel)) rfl
theorem w_field_A_44_A_10 : Cond.fieldLink R_A 44 (F_A 10).1 (F_A 10).2.1 (F_A 10).2.2.1 ∈ zTT := zmem (List.mem_of_getElem? (i := 113) (by decide +kernel)) rfl
theorem w_mlink_P_82 : Cond.methodLink R_P 82 y_A_setPath ∈ zTT := zmem (List.mem_of_getElem? (i := 271) (by decide +kernel)) rfl
theorem w_imeth_A_setPath : Cond.instanceMethod y_A_setPath ∈ zTT := zmem (List.mem_of_getElem? (i := 272) (by decide +kernel)) rfl
theorem w_sel_A_setPath : Cond.selects R_A y_A_setPath y_A_setPath ∈ zTT := zmem (List.mem_of_getElem? (i := 273) (by decide +kernel)) rfl
set_option maxRecDepth 100000 in
theorem w_code_A_setPath : Cond.code y_A_setPath b_A_setPath 5 none ∈ zTT := zmem (List.mem_of_getElem? (i := 274) rfl) rfl
theorem w_field_P_26_P_2 : Cond.fieldLink R_P 26 (F_P 2).1 (F_P 2).2.1 (F_P 2).2.2.1 ∈ zTT := zmem (List.mem_of_getElem? (i := 176) (by decide +kernel)) rfl
theorem w_field_Y_18_Y_0 : Cond.fieldLink R_Y 18 (F_Y 0).1 (F_Y 0).2.1 (F_Y 0).2.2.1 ∈ zTT := zmem (List.mem_of_getElem? (i := 143) (by decide +kernel)) rfl
theorem w_field_Y_9_Y_1 : Cond.fieldLink R_Y 9 (F_Y 1).1 (F_Y 1).2.1 (F_Y 1).2.2.1 ∈ zTT := zmem (List.mem_of_getElem? (i := 145) (by decide +kernel)) rfl
theorem w_field_Y_15_Y_2 : Cond.fieldLink R_Y 15 (F_Y 2).1 (F_Y 2).2.1 (F_Y 2).2.2.1 ∈ zTT := zmem (List.mem_of_getElem? (i := 147) (by decide +kernel)) rfl
theorem w_mlink_P_86 : Cond.methodLink R_P 86 y_Y_add ∈ zTT := zmem (List.mem_of_getElem? (i := 279) (by decide +kernel)) rfl
theorem w_imeth_Y_add : Cond.instanceMethod y_Y_add ∈ zTT := zmem (List.mem_of_getElem? (i := 280) (by decide +kernel)) rfl
theorem w_sel_Y_add : Cond.selects R_Y y_Y_add y_Y_add ∈ zTT := zmem (List.mem_of_getElem? (i := 281) (by decide +kernel)) rfl
theorem w_init_Y : Cond.initialized R_Y ∈ zTT := zmem (List.mem_of_getElem? (i := 31) (by decide +kernel)) rfl
set_option maxRecDepth 100000 in
theorem w_code_Y_add : Cond.code y_Y_add b_Y_add 4 (some .int) ∈ zTT := zmem (List.mem_of_getElem? (i := 282) rfl) rfl
theorem w_field_P_37_P_4 : Cond.fieldLink R_P 37 (F_P 4).1 (F_P 4).2.1 (F_P 4).2.2.1 ∈ zTT := zmem (List.mem_of_getElem? (i := 178) (by decide +kernel)) rfl
theorem w_field_Q_15_Q_0 : Cond.fieldLink R_Q 15 (F_Q 0).1 (F_Q 0).2.1 (F_Q 0).2.2.1 ∈ zTT := zmem (List.mem_of_getElem? (i := 162) (by decide +kernel)) rfl
theorem w_field_Q_19_Q_2 : Cond.fieldLink R_Q 19 (F_Q 2).1 (F_Q 2).2.1 (F_Q 2).2.2.1 ∈ zTT := zmem (List.mem_of_getElem? (i := 166) (by decide +kernel)) rfl
theorem w_field_Q_9_Q_1 : Cond.fieldLink R_Q 9 (F_Q 1).1 (F_Q 1).2.1 (F_Q 1).2.2.1 ∈ zTT := zmem (List.mem_of_getElem? (i := 164) (by decide +kernel)) rfl
set_option maxRecDepth 100000 in
theorem w_code_P_hasBit : Cond.code y_P_hasBit b_P_hasBit 2 (some .boolean) ∈ zTT := zmem (List.mem_of_getElem? (i := 297) rfl) rfl
theorem w_stat_P_hasBit : Cond.static y_P_hasBit ∈ zTT := zmem (List.mem_of_getElem? (i := 296) (by decide +kernel)) rfl
theorem w_mlink_Q_22 : Cond.methodLink R_Q 22 y_Q_reach ∈ zTT := zmem (List.mem_of_getElem? (i := 291) (by decide +kernel)) rfl
theorem w_imeth_Q_reach : Cond.instanceMethod y_Q_reach ∈ zTT := zmem (List.mem_of_getElem? (i := 293) (by decide +kernel)) rfl
theorem w_sel_Q_reach : Cond.selects R_Q y_Q_reach y_Q_reach ∈ zTT := zmem (List.mem_of_getElem? (i := 3) (by decide +kernel)) rfl
theorem w_init_Q : Cond.initialized R_Q ∈ zTT := zmem (List.mem_of_getElem? (i := 32) (by decide +kernel)) rfl
set_option maxRecDepth 100000 in
theorem w_code_Q_reach : Cond.code y_Q_reach b_Q_reach 2 none ∈ zTT := zmem (List.mem_of_getElem? (i := 294) rfl) rfl
theorem w_field_Q_26_A_7 : Cond.fieldLink R_Q 26 (F_A 7).1 (F_A 7).2.1 (F_A 7).2.2.1 ∈ zTT := zmem (List.mem_of_getElem? (i := 109) (by decide +kernel)) rfl
theorem w_field_Q_32_W_0 : Cond.fieldLink R_Q 32 (F_W 0).1 (F_W 0).2.1 (F_W 0).2.2.1 ∈ zTT := zmem (List.mem_of_getElem? (i := 85) (by decide +kernel)) rfl
theorem w_mlink_Q_37 : Cond.methodLink R_Q 37 y_A_metByAt ∈ zTT := zmem (List.mem_of_getElem? (i := 298) (by decide +kernel)) rfl
theorem w_mlink_P_89 : Cond.methodLink R_P 89 y_Q_walk ∈ zTT := zmem (List.mem_of_getElem? (i := 287) (by decide +kernel)) rfl
theorem w_imeth_Q_walk : Cond.instanceMethod y_Q_walk ∈ zTT := zmem (List.mem_of_getElem? (i := 288) (by decide +kernel)) rfl
theorem w_sel_Q_walk : Cond.selects R_Q y_Q_walk y_Q_walk ∈ zTT := zmem (List.mem_of_getElem? (i := 289) (by decide +kernel)) rfl
set_option maxRecDepth 100000 in
theorem w_code_Q_walk : Cond.code y_Q_walk b_Q_walk 6 none ∈ zTT := zmem (List.mem_of_getElem? (i := 290) rfl) rfl
theorem w_field_P_93_Q_0 : Cond.fieldLink R_P 93 (F_Q 0).1 (F_Q 0).2.1 (F_Q 0).2.2.1 ∈ zTT := zmem (List.mem_of_getElem? (i := 163) (by decide +kernel)) rfl
theorem w_field_P_96_Q_1 : Cond.fieldLink R_P 96 (F_Q 1).1 (F_Q 1).2.1 (F_Q 1).2.2.1 ∈ zTT := zmem (List.mem_of_getElem? (i := 165) (by decide +kernel)) rfl
theorem w_field_P_148_Y_0 : Cond.fieldLink R_P 148 (F_Y 0).1 (F_Y 0).2.1 (F_Y 0).2.2.1 ∈ zTT := zmem (List.mem_of_getElem? (i := 144) (by decide +kernel)) rfl
theorem w_field_P_149_Y_2 : Cond.fieldLink R_P 149 (F_Y 2).1 (F_Y 2).2.1 (F_Y 2).2.2.1 ∈ zTT := zmem (List.mem_of_getElem? (i := 148) (by decide +kernel)) rfl
theorem w_field_P_152_Y_1 : Cond.fieldLink R_P 152 (F_Y 1).1 (F_Y 1).2.1 (F_Y 1).2.2.1 ∈ zTT := zmem (List.mem_of_getElem? (i := 146) (by decide +kernel)) rfl
theorem w_field_P_127_A_2 : Cond.fieldLink R_P 127 (F_A 2).1 (F_A 2).2.1 (F_A 2).2.2.1 ∈ zTT := zmem (List.mem_of_getElem? (i := 99) (by decide +kernel)) rfl
theorem w_mlink_P_155 : Cond.methodLink R_P 155 y_P_hasBit ∈ zTT := zmem (List.mem_of_getElem? (i := 307) (by decide +kernel)) rfl
theorem w_field_P_130_A_3 : Cond.fieldLink R_P 130 (F_A 3).1 (F_A 3).2.1 (F_A 3).2.2.1 ∈ zTT := zmem (List.mem_of_getElem? (i := 101) (by decide +kernel)) rfl
theorem w_field_P_176_W_0 : Cond.fieldLink R_P 176 (F_W 0).1 (F_W 0).2.1 (F_W 0).2.2.1 ∈ zTT := zmem (List.mem_of_getElem? (i := 87) (by decide +kernel)) rfl
theorem w_field_P_179_S_2 : Cond.fieldLink R_P 179 (F_S 2).1 (F_S 2).2.1 (F_S 2).2.2.1 ∈ zTT := zmem (List.mem_of_getElem? (i := 53) (by decide +kernel)) rfl
theorem w_field_A_31_A_6 : Cond.fieldLink R_A 31 (F_A 6).1 (F_A 6).2.1 (F_A 6).2.2.1 ∈ zTT := zmem (List.mem_of_getElem? (i := 106) (by decide +kernel)) rfl
theorem w_mlink_P_182 : Cond.methodLink R_P 182 y_A_usedAt ∈ zTT := zmem (List.mem_of_getElem? (i := 312) (by decide +kernel)) rfl
theorem w_imeth_A_usedAt : Cond.instanceMethod y_A_usedAt ∈ zTT := zmem (List.mem_of_getElem? (i := 313) (by decide +kernel)) rfl
theorem w_sel_A_usedAt : Cond.selects R_A y_A_usedAt y_A_usedAt ∈ zTT := zmem (List.mem_of_getElem? (i := 314) (by decide +kernel)) rfl
set_option maxRecDepth 100000 in
theorem w_code_A_usedAt : Cond.code y_A_usedAt b_A_usedAt 3 (some .int) ∈ zTT := zmem (List.mem_of_getElem? (i := 315) rfl) rfl
theorem w_mlink_P_158 : Cond.methodLink R_P 158 y_P_usesBranchOutside ∈ zTT := zmem (List.mem_of_getElem? (i := 308) (by decide +kernel)) rfl
theorem w_imeth_P_usesBranchOutside : Cond.instanceMethod y_P_usesBranchOutside ∈ zTT := zmem (List.mem_of_getElem? (i := 310) (by decide +kernel)) rfl
theorem w_sel_P_usesBranchOutside : Cond.selects R_P y_P_usesBranchOutside y_P_usesBranchOutside ∈ zTT := zmem (List.mem_of_getElem? (i := 6) (by decide +kernel)) rfl
set_option maxRecDepth 100000 in
theorem w_code_P_usesBranchOutside : Cond.code y_P_usesBranchOutside b_P_usesBranchOutside 4 (some .boolean) ∈ zTT := zmem (List.mem_of_getElem? (i := 311) rfl) rfl
theorem w_field_P_133_A_4 : Cond.fieldLink R_P 133 (F_A 4).1 (F_A 4).2.1 (F_A 4).2.2.1 ∈ zTT := zmem (List.mem_of_getElem? (i := 103) (by decide +kernel)) rfl
theorem w_field_P_185_S_3 : Cond.fieldLink R_P 185 (F_S 3).1 (F_S 3).2.1 (F_S 3).2.2.1 ∈ zTT := zmem (List.mem_of_getElem? (i := 55) (by decide +kernel)) rfl
theorem w_const_Ig_265_1431655765 : Cond.constant R_Ig 265 1431655765 ∈ zTT := zmem (List.mem_of_getElem? (i := 323) (by decide +kernel)) rfl
theorem w_const_Ig_266_858993459 : Cond.constant R_Ig 266 858993459 ∈ zTT := zmem (List.mem_of_getElem? (i := 324) (by decide +kernel)) rfl
theorem w_const_Ig_267_252645135 : Cond.constant R_Ig 267 252645135 ∈ zTT := zmem (List.mem_of_getElem? (i := 325) (by decide +kernel)) rfl
theorem w_mlink_P_188 : Cond.methodLink R_P 188 y_Ig_bitCount ∈ zTT := zmem (List.mem_of_getElem? (i := 320) (by decide +kernel)) rfl
theorem w_stat_Ig_bitCount : Cond.static y_Ig_bitCount ∈ zTT := zmem (List.mem_of_getElem? (i := 321) (by decide +kernel)) rfl
theorem w_init_Ig : Cond.initialized R_Ig ∈ zTT := zmem (List.mem_of_getElem? (i := 34) (by decide +kernel)) rfl
set_option maxRecDepth 100000 in
theorem w_code_Ig_bitCount : Cond.code y_Ig_bitCount b_Ig_bitCount 1 (some .int) ∈ zTT := zmem (List.mem_of_getElem? (i := 322) rfl) rfl
theorem w_mlink_P_161 : Cond.methodLink R_P 161 y_P_usesReviewedBelow ∈ zTT := zmem (List.mem_of_getElem? (i := 316) (by decide +kernel)) rfl
theorem w_imeth_P_usesReviewedBelow : Cond.instanceMethod y_P_usesReviewedBelow ∈ zTT := zmem (List.mem_of_getElem? (i := 318) (by decide +kernel)) rfl
theorem w_sel_P_usesReviewedBelow : Cond.selects R_P y_P_usesReviewedBelow y_P_usesReviewedBelow ∈ zTT := zmem (List.mem_of_getElem? (i := 7) (by decide +kernel)) rfl
set_option maxRecDepth 100000 in
theorem w_code_P_usesReviewedBelow : Cond.code y_P_usesReviewedBelow b_P_usesReviewedBelow 6 (some .boolean) ∈ zTT := zmem (List.mem_of_getElem? (i := 319) rfl) rfl
theorem w_mlink_P_164 : Cond.methodLink R_P 164 y_P_usesFetchedUntold ∈ zTT := zmem (List.mem_of_getElem? (i := 326) (by decide +kernel)) rfl
theorem w_imeth_P_usesFetchedUntold : Cond.instanceMethod y_P_usesFetchedUntold ∈ zTT := zmem (List.mem_of_getElem? (i := 328) (by decide +kernel)) rfl
theorem w_sel_P_usesFetchedUntold : Cond.selects R_P y_P_usesFetchedUntold y_P_usesFetchedUntold ∈ zTT := zmem (List.mem_of_getElem? (i := 8) (by decide +kernel)) rfl
set_option maxRecDepth 100000 in
theorem w_code_P_usesFetchedUntold : Cond.code y_P_usesFetchedUntold b_P_usesFetchedUntold 3 (some .boolean) ∈ zTT := zmem (List.mem_of_getElem? (i := 329) rfl) rfl
theorem w_mlink_P_112 : Cond.methodLink R_P 112 y_A_missingPlace ∈ zTT := zmem (List.mem_of_getElem? (i := 330) (by decide +kernel)) rfl
theorem w_imeth_A_missingPlace : Cond.instanceMethod y_A_missingPlace ∈ zTT := zmem (List.mem_of_getElem? (i := 331) (by decide +kernel)) rfl
theorem w_sel_A_missingPlace : Cond.selects R_A y_A_missingPlace y_A_missingPlace ∈ zTT := zmem (List.mem_of_getElem? (i := 332) (by decide +kernel)) rfl
set_option maxRecDepth 100000 in
theorem w_code_A_missingPlace : Cond.code y_A_missingPlace b_A_missingPlace 5 (some .int) ∈ zTT := zmem (List.mem_of_getElem? (i := 333) rfl) rfl
theorem w_mlink_P_167 : Cond.methodLink R_P 167 y_A_needsLaterBy ∈ zTT := zmem (List.mem_of_getElem? (i := 334) (by decide +kernel)) rfl
theorem w_imeth_A_needsLaterBy : Cond.instanceMethod y_A_needsLaterBy ∈ zTT := zmem (List.mem_of_getElem? (i := 335) (by decide +kernel)) rfl
theorem w_sel_A_needsLaterBy : Cond.selects R_A y_A_needsLaterBy y_A_needsLaterBy ∈ zTT := zmem (List.mem_of_getElem? (i := 336) (by decide +kernel)) rfl
set_option maxRecDepth 100000 in
theorem w_code_A_needsLaterBy : Cond.code y_A_needsLaterBy b_A_needsLaterBy 5 (some .boolean) ∈ zTT := zmem (List.mem_of_getElem? (i := 337) rfl) rfl
theorem w_mlink_A_78 : Cond.methodLink R_A 78 y_W_sameInOrder ∈ zTT := zmem (List.mem_of_getElem? (i := 346) (by decide +kernel)) rfl
theorem w_imeth_W_sameInOrder : Cond.instanceMethod y_W_sameInOrder ∈ zTT := zmem (List.mem_of_getElem? (i := 347) (by decide +kernel)) rfl
theorem w_sel_W_sameInOrder : Cond.selects R_W y_W_sameInOrder y_W_sameInOrder ∈ zTT := zmem (List.mem_of_getElem? (i := 348) (by decide +kernel)) rfl
set_option maxRecDepth 100000 in
theorem w_code_W_sameInOrder : Cond.code y_W_sameInOrder b_W_sameInOrder 4 (some .boolean) ∈ zTT := zmem (List.mem_of_getElem? (i := 349) rfl) rfl
theorem w_mlink_A_74 : Cond.methodLink R_A 74 y_A_clashing ∈ zTT := zmem (List.mem_of_getElem? (i := 342) (by decide +kernel)) rfl
theorem w_imeth_A_clashing : Cond.instanceMethod y_A_clashing ∈ zTT := zmem (List.mem_of_getElem? (i := 343) (by decide +kernel)) rfl
theorem w_sel_A_clashing : Cond.selects R_A y_A_clashing y_A_clashing ∈ zTT := zmem (List.mem_of_getElem? (i := 344) (by decide +kernel)) rfl
set_option maxRecDepth 100000 in
theorem w_code_A_clashing : Cond.code y_A_clashing b_A_clashing 4 (some .boolean) ∈ zTT := zmem (List.mem_of_getElem? (i := 345) rfl) rfl
theorem w_mlink_P_170 : Cond.methodLink R_P 170 y_A_clashesWithAny ∈ zTT := zmem (List.mem_of_getElem? (i := 338) (by decide +kernel)) rfl
theorem w_imeth_A_clashesWithAny : Cond.instanceMethod y_A_clashesWithAny ∈ zTT := zmem (List.mem_of_getElem? (i := 339) (by decide +kernel)) rfl
theorem w_sel_A_clashesWithAny : Cond.selects R_A y_A_clashesWithAny y_A_clashesWithAny ∈ zTT := zmem (List.mem_of_getElem? (i := 340) (by decide +kernel)) rfl
set_option maxRecDepth 100000 in
theorem w_code_A_clashesWithAny : Cond.code y_A_clashesWithAny b_A_clashesWithAny 3 (some .boolean) ∈ zTT := zmem (List.mem_of_getElem? (i := 341) rfl) rfl
theorem w_mlink_P_173 : Cond.methodLink R_P 173 y_A_restsOnNothing ∈ zTT := zmem (List.mem_of_getElem? (i := 350) (by decide +kernel)) rfl
theorem w_imeth_A_restsOnNothing : Cond.instanceMethod y_A_restsOnNothing ∈ zTT := zmem (List.mem_of_getElem? (i := 351) (by decide +kernel)) rfl
theorem w_sel_A_restsOnNothing : Cond.selects R_A y_A_restsOnNothing y_A_restsOnNothing ∈ zTT := zmem (List.mem_of_getElem? (i := 352) (by decide +kernel)) rfl
set_option maxRecDepth 100000 in
theorem w_code_A_restsOnNothing : Cond.code y_A_restsOnNothing b_A_restsOnNothing 2 (some .boolean) ∈ zTT := zmem (List.mem_of_getElem? (i := 353) rfl) rfl
theorem w_field_P_40_P_5 : Cond.fieldLink R_P 40 (F_P 5).1 (F_P 5).2.1 (F_P 5).2.2.1 ∈ zTT := zmem (List.mem_of_getElem? (i := 179) (by decide +kernel)) rfl
theorem w_mlink_P_105 : Cond.methodLink R_P 105 y_P_isBroken ∈ zTT := zmem (List.mem_of_getElem? (i := 303) (by decide +kernel)) rfl
theorem w_imeth_P_isBroken : Cond.instanceMethod y_P_isBroken ∈ zTT := zmem (List.mem_of_getElem? (i := 305) (by decide +kernel)) rfl
theorem w_sel_P_isBroken : Cond.selects R_P y_P_isBroken y_P_isBroken ∈ zTT := zmem (List.mem_of_getElem? (i := 5) (by decide +kernel)) rfl
set_option maxRecDepth 100000 in
theorem w_code_P_isBroken : Cond.code y_P_isBroken b_P_isBroken 4 (some .boolean) ∈ zTT := zmem (List.mem_of_getElem? (i := 306) rfl) rfl
theorem w_field_P_43_P_6 : Cond.fieldLink R_P 43 (F_P 6).1 (F_P 6).2.1 (F_P 6).2.2.1 ∈ zTT := zmem (List.mem_of_getElem? (i := 180) (by decide +kernel)) rfl
theorem w_mlink_P_100 : Cond.methodLink R_P 100 y_P_firstBrokenBy ∈ zTT := zmem (List.mem_of_getElem? (i := 299) (by decide +kernel)) rfl
theorem w_imeth_P_firstBrokenBy : Cond.instanceMethod y_P_firstBrokenBy ∈ zTT := zmem (List.mem_of_getElem? (i := 301) (by decide +kernel)) rfl
theorem w_sel_P_firstBrokenBy : Cond.selects R_P y_P_firstBrokenBy y_P_firstBrokenBy ∈ zTT := zmem (List.mem_of_getElem? (i := 4) (by decide +kernel)) rfl
set_option maxRecDepth 100000 in
theorem w_code_P_firstBrokenBy : Cond.code y_P_firstBrokenBy b_P_firstBrokenBy 3 (some .int) ∈ zTT := zmem (List.mem_of_getElem? (i := 302) rfl) rfl
theorem w_mlink_P_104 : Cond.methodLink R_P 104 y_Y_has ∈ zTT := zmem (List.mem_of_getElem? (i := 362) (by decide +kernel)) rfl
theorem w_imeth_Y_has : Cond.instanceMethod y_Y_has ∈ zTT := zmem (List.mem_of_getElem? (i := 363) (by decide +kernel)) rfl
theorem w_sel_Y_has : Cond.selects R_Y y_Y_has y_Y_has ∈ zTT := zmem (List.mem_of_getElem? (i := 364) (by decide +kernel)) rfl
set_option maxRecDepth 100000 in
theorem w_code_Y_has : Cond.code y_Y_has b_Y_has 2 (some .boolean) ∈ zTT := zmem (List.mem_of_getElem? (i := 365) rfl) rfl
theorem w_field_P_33_P_3 : Cond.fieldLink R_P 33 (F_P 3).1 (F_P 3).2.1 (F_P 3).2.2.1 ∈ zTT := zmem (List.mem_of_getElem? (i := 177) (by decide +kernel)) rfl
theorem w_field_P_108_A_0 : Cond.fieldLink R_P 108 (F_A 0).1 (F_A 0).2.1 (F_A 0).2.2.1 ∈ zTT := zmem (List.mem_of_getElem? (i := 95) (by decide +kernel)) rfl
theorem w_field_P_196_S_1 : Cond.fieldLink R_P 196 (F_S 1).1 (F_S 1).2.1 (F_S 1).2.2.1 ∈ zTT := zmem (List.mem_of_getElem? (i := 51) (by decide +kernel)) rfl
theorem w_mlink_P_193 : Cond.methodLink R_P 193 y_P_usesDigest ∈ zTT := zmem (List.mem_of_getElem? (i := 382) (by decide +kernel)) rfl
theorem w_imeth_P_usesDigest : Cond.instanceMethod y_P_usesDigest ∈ zTT := zmem (List.mem_of_getElem? (i := 384) (by decide +kernel)) rfl
theorem w_sel_P_usesDigest : Cond.selects R_P y_P_usesDigest y_P_usesDigest ∈ zTT := zmem (List.mem_of_getElem? (i := 10) (by decide +kernel)) rfl
set_option maxRecDepth 100000 in
theorem w_code_P_usesDigest : Cond.code y_P_usesDigest b_P_usesDigest 5 (some .boolean) ∈ zTT := zmem (List.mem_of_getElem? (i := 385) rfl) rfl
theorem w_mlink_P_109 : Cond.methodLink R_P 109 y_P_restsOn ∈ zTT := zmem (List.mem_of_getElem? (i := 378) (by decide +kernel)) rfl
theorem w_imeth_P_restsOn : Cond.instanceMethod y_P_restsOn ∈ zTT := zmem (List.mem_of_getElem? (i := 380) (by decide +kernel)) rfl
theorem w_sel_P_restsOn : Cond.selects R_P y_P_restsOn y_P_restsOn ∈ zTT := zmem (List.mem_of_getElem? (i := 9) (by decide +kernel)) rfl
set_option maxRecDepth 100000 in
theorem w_code_P_restsOn : Cond.code y_P_restsOn b_P_restsOn 5 (some .boolean) ∈ zTT := zmem (List.mem_of_getElem? (i := 381) rfl) rfl
theorem w_mlink_P_119 : Cond.methodLink R_P 119 y_P_bitIf ∈ zTT := zmem (List.mem_of_getElem? (i := 399) (by decide +kernel)) rfl
theorem w_stat_P_bitIf : Cond.static y_P_bitIf ∈ zTT := zmem (List.mem_of_getElem? (i := 400) (by decide +kernel)) rfl
set_option maxRecDepth 100000 in
theorem w_code_P_bitIf : Cond.code y_P_bitIf b_P_bitIf 2 (some .int) ∈ zTT := zmem (List.mem_of_getElem? (i := 401) rfl) rfl
theorem w_mlink_P_115 : Cond.methodLink R_P 115 y_A_differAtPath ∈ zTT := zmem (List.mem_of_getElem? (i := 394) (by decide +kernel)) rfl
theorem w_imeth_A_differAtPath : Cond.instanceMethod y_A_differAtPath ∈ zTT := zmem (List.mem_of_getElem? (i := 395) (by decide +kernel)) rfl
theorem w_sel_A_differAtPath : Cond.selects R_A y_A_differAtPath y_A_differAtPath ∈ zTT := zmem (List.mem_of_getElem? (i := 396) (by decide +kernel)) rfl
set_option maxRecDepth 100000 in
theorem w_code_A_differAtPath : Cond.code y_A_differAtPath b_A_differAtPath 4 (some .boolean) ∈ zTT := zmem (List.mem_of_getElem? (i := 397) rfl) rfl
theorem w_field_P_123_A_1 : Cond.fieldLink R_P 123 (F_A 1).1 (F_A 1).2.1 (F_A 1).2.2.1 ∈ zTT := zmem (List.mem_of_getElem? (i := 97) (by decide +kernel)) rfl
theorem w_field_P_136_A_5 : Cond.fieldLink R_P 136 (F_A 5).1 (F_A 5).2.1 (F_A 5).2.2.1 ∈ zTT := zmem (List.mem_of_getElem? (i := 105) (by decide +kernel)) rfl
theorem w_mlink_P_139 : Cond.methodLink R_P 139 y_W_sameAsSets ∈ zTT := zmem (List.mem_of_getElem? (i := 406) (by decide +kernel)) rfl
theorem w_imeth_W_sameAsSets : Cond.instanceMethod y_W_sameAsSets ∈ zTT := zmem (List.mem_of_getElem? (i := 407) (by decide +kernel)) rfl
theorem w_sel_W_sameAsSets : Cond.selects R_W y_W_sameAsSets y_W_sameAsSets ∈ zTT := zmem (List.mem_of_getElem? (i := 408) (by decide +kernel)) rfl
set_option maxRecDepth 100000 in
theorem w_code_W_sameAsSets : Cond.code y_W_sameAsSets b_W_sameAsSets 4 (some .boolean) ∈ zTT := zmem (List.mem_of_getElem? (i := 409) rfl) rfl
theorem w_field_P_142_A_7 : Cond.fieldLink R_P 142 (F_A 7).1 (F_A 7).2.1 (F_A 7).2.2.1 ∈ zTT := zmem (List.mem_of_getElem? (i := 110) (by decide +kernel)) rfl
theorem w_mlink_P_145 : Cond.methodLink R_P 145 y_A_clashing ∈ zTT := zmem (List.mem_of_getElem? (i := 414) (by decide +kernel)) rfl
theorem w_field_M_79_M_0 : Cond.fieldLink R_M 79 (F_M 0).1 (F_M 0).2.1 (F_M 0).2.2.1 ∈ zTT := zmem (List.mem_of_getElem? (i := 421) (by decide +kernel)) rfl
theorem w_field_M_7_M_3 : Cond.fieldLink R_M 7 (F_M 3).1 (F_M 3).2.1 (F_M 3).2.2.1 ∈ zTT := zmem (List.mem_of_getElem? (i := 424) (by decide +kernel)) rfl
theorem w_field_M_13_M_4 : Cond.fieldLink R_M 13 (F_M 4).1 (F_M 4).2.1 (F_M 4).2.2.1 ∈ zTT := zmem (List.mem_of_getElem? (i := 425) (by decide +kernel)) rfl
theorem w_field_M_17_M_5 : Cond.fieldLink R_M 17 (F_M 5).1 (F_M 5).2.1 (F_M 5).2.2.1 ∈ zTT := zmem (List.mem_of_getElem? (i := 426) (by decide +kernel)) rfl
theorem w_const_M_86_65535 : Cond.constant R_M 86 65535 ∈ zTT := zmem (List.mem_of_getElem? (i := 510) (by decide +kernel)) rfl
theorem w_mlink_M_82 : Cond.methodLink R_M 82 y_M_within ∈ zTT := zmem (List.mem_of_getElem? (i := 507) (by decide +kernel)) rfl
theorem w_stat_M_within : Cond.static y_M_within ∈ zTT := zmem (List.mem_of_getElem? (i := 508) (by decide +kernel)) rfl
theorem w_init_M : Cond.initialized R_M ∈ zTT := zmem (List.mem_of_getElem? (i := 33) (by decide +kernel)) rfl
set_option maxRecDepth 100000 in
theorem w_code_M_within : Cond.code y_M_within b_M_within 3 (some .boolean) ∈ zTT := zmem (List.mem_of_getElem? (i := 509) rfl) rfl
theorem w_field_M_20_M_6 : Cond.fieldLink R_M 20 (F_M 6).1 (F_M 6).2.1 (F_M 6).2.2.1 ∈ zTT := zmem (List.mem_of_getElem? (i := 427) (by decide +kernel)) rfl
theorem w_mlink_M_87 : Cond.methodLink R_M 87 y_M_isSource ∈ zTT := zmem (List.mem_of_getElem? (i := 515) (by decide +kernel)) rfl
theorem w_imeth_M_isSource : Cond.instanceMethod y_M_isSource ∈ zTT := zmem (List.mem_of_getElem? (i := 517) (by decide +kernel)) rfl
theorem w_sel_M_isSource : Cond.selects R_M y_M_isSource y_M_isSource ∈ zTT := zmem (List.mem_of_getElem? (i := 11) (by decide +kernel)) rfl
set_option maxRecDepth 100000 in
theorem w_code_M_isSource : Cond.code y_M_isSource b_M_isSource 2 (some .boolean) ∈ zTT := zmem (List.mem_of_getElem? (i := 518) rfl) rfl
theorem w_const_M_91_1000000000 : Cond.constant R_M 91 1000000000 ∈ zTT := zmem (List.mem_of_getElem? (i := 523) (by decide +kernel)) rfl
theorem w_field_M_76_M_1 : Cond.fieldLink R_M 76 (F_M 1).1 (F_M 1).2.1 (F_M 1).2.2.1 ∈ zTT := zmem (List.mem_of_getElem? (i := 422) (by decide +kernel)) rfl
theorem w_field_M_24_M_7 : Cond.fieldLink R_M 24 (F_M 7).1 (F_M 7).2.1 (F_M 7).2.2.1 ∈ zTT := zmem (List.mem_of_getElem? (i := 428) (by decide +kernel)) rfl
theorem w_field_M_33_M_10 : Cond.fieldLink R_M 33 (F_M 10).1 (F_M 10).2.1 (F_M 10).2.2.1 ∈ zTT := zmem (List.mem_of_getElem? (i := 431) (by decide +kernel)) rfl
theorem w_field_M_36_M_11 : Cond.fieldLink R_M 36 (F_M 11).1 (F_M 11).2.1 (F_M 11).2.2.1 ∈ zTT := zmem (List.mem_of_getElem? (i := 432) (by decide +kernel)) rfl
theorem w_field_M_39_M_12 : Cond.fieldLink R_M 39 (F_M 12).1 (F_M 12).2.1 (F_M 12).2.2.1 ∈ zTT := zmem (List.mem_of_getElem? (i := 433) (by decide +kernel)) rfl
theorem w_field_M_42_M_13 : Cond.fieldLink R_M 42 (F_M 13).1 (F_M 13).2.1 (F_M 13).2.2.1 ∈ zTT := zmem (List.mem_of_getElem? (i := 434) (by decide +kernel)) rfl
theorem w_field_M_45_M_14 : Cond.fieldLink R_M 45 (F_M 14).1 (F_M 14).2.1 (F_M 14).2.2.1 ∈ zTT := zmem (List.mem_of_getElem? (i := 435) (by decide +kernel)) rfl
theorem w_field_M_48_M_15 : Cond.fieldLink R_M 48 (F_M 15).1 (F_M 15).2.1 (F_M 15).2.2.1 ∈ zTT := zmem (List.mem_of_getElem? (i := 436) (by decide +kernel)) rfl
theorem w_mlink_M_95 : Cond.methodLink R_M 95 y_M_hasUse ∈ zTT := zmem (List.mem_of_getElem? (i := 532) (by decide +kernel)) rfl
theorem w_imeth_M_hasUse : Cond.instanceMethod y_M_hasUse ∈ zTT := zmem (List.mem_of_getElem? (i := 534) (by decide +kernel)) rfl
theorem w_sel_M_hasUse : Cond.selects R_M y_M_hasUse y_M_hasUse ∈ zTT := zmem (List.mem_of_getElem? (i := 13) (by decide +kernel)) rfl
set_option maxRecDepth 100000 in
theorem w_code_M_hasUse : Cond.code y_M_hasUse b_M_hasUse 5 (some .boolean) ∈ zTT := zmem (List.mem_of_getElem? (i := 535) rfl) rfl
theorem w_mlink_M_92 : Cond.methodLink R_M 92 y_M_isArtefact ∈ zTT := zmem (List.mem_of_getElem? (i := 528) (by decide +kernel)) rfl
theorem w_imeth_M_isArtefact : Cond.instanceMethod y_M_isArtefact ∈ zTT := zmem (List.mem_of_getElem? (i := 530) (by decide +kernel)) rfl
theorem w_sel_M_isArtefact : Cond.selects R_M y_M_isArtefact y_M_isArtefact ∈ zTT := zmem (List.mem_of_getElem? (i := 12) (by decide +kernel)) rfl
set_option maxRecDepth 100000 in
theorem w_code_M_isArtefact : Cond.code y_M_isArtefact b_M_isArtefact 2 (some .boolean) ∈ zTT := zmem (List.mem_of_getElem? (i := 531) rfl) rfl
theorem w_field_M_51_M_16 : Cond.fieldLink R_M 51 (F_M 16).1 (F_M 16).2.1 (F_M 16).2.2.1 ∈ zTT := zmem (List.mem_of_getElem? (i := 437) (by decide +kernel)) rfl
theorem w_field_M_27_M_8 : Cond.fieldLink R_M 27 (F_M 8).1 (F_M 8).2.1 (F_M 8).2.2.1 ∈ zTT := zmem (List.mem_of_getElem? (i := 429) (by decide +kernel)) rfl
theorem w_mlink_M_99 : Cond.methodLink R_M 99 y_M_hasNeed ∈ zTT := zmem (List.mem_of_getElem? (i := 540) (by decide +kernel)) rfl
theorem w_imeth_M_hasNeed : Cond.instanceMethod y_M_hasNeed ∈ zTT := zmem (List.mem_of_getElem? (i := 542) (by decide +kernel)) rfl
theorem w_sel_M_hasNeed : Cond.selects R_M y_M_hasNeed y_M_hasNeed ∈ zTT := zmem (List.mem_of_getElem? (i := 14) (by decide +kernel)) rfl
set_option maxRecDepth 100000 in
theorem w_code_M_hasNeed : Cond.code y_M_hasNeed b_M_hasNeed 6 (some .boolean) ∈ zTT := zmem (List.mem_of_getElem? (i := 543) rfl) rfl
theorem w_field_M_54_M_17 : Cond.fieldLink R_M 54 (F_M 17).1 (F_M 17).2.1 (F_M 17).2.2.1 ∈ zTT := zmem (List.mem_of_getElem? (i := 438) (by decide +kernel)) rfl
theorem w_field_M_30_M_9 : Cond.fieldLink R_M 30 (F_M 9).1 (F_M 9).2.1 (F_M 9).2.2.1 ∈ zTT := zmem (List.mem_of_getElem? (i := 430) (by decide +kernel)) rfl
theorem w_field_M_103_M_2 : Cond.fieldLink R_M 103 (F_M 2).1 (F_M 2).2.1 (F_M 2).2.2.1 ∈ zTT := zmem (List.mem_of_getElem? (i := 423) (by decide +kernel)) rfl
theorem w_field_M_57_M_18 : Cond.fieldLink R_M 57 (F_M 18).1 (F_M 18).2.1 (F_M 18).2.2.1 ∈ zTT := zmem (List.mem_of_getElem? (i := 439) (by decide +kernel)) rfl
theorem w_field_M_60_M_19 : Cond.fieldLink R_M 60 (F_M 19).1 (F_M 19).2.1 (F_M 19).2.2.1 ∈ zTT := zmem (List.mem_of_getElem? (i := 440) (by decide +kernel)) rfl
theorem w_field_M_106_M_21 : Cond.fieldLink R_M 106 (F_M 21).1 (F_M 21).2.1 (F_M 21).2.2.1 ∈ zTT := zmem (List.mem_of_getElem? (i := 442) (by decide +kernel)) rfl
theorem w_field_M_67_M_24 : Cond.fieldLink R_M 67 (F_M 24).1 (F_M 24).2.1 (F_M 24).2.2.1 ∈ zTT := zmem (List.mem_of_getElem? (i := 445) (by decide +kernel)) rfl
theorem w_mlink_M_109 : Cond.methodLink R_M 109 y_M_come ∈ zTT := zmem (List.mem_of_getElem? (i := 560) (by decide +kernel)) rfl
theorem w_imeth_M_come : Cond.instanceMethod y_M_come ∈ zTT := zmem (List.mem_of_getElem? (i := 562) (by decide +kernel)) rfl
theorem w_sel_M_come : Cond.selects R_M y_M_come y_M_come ∈ zTT := zmem (List.mem_of_getElem? (i := 16) (by decide +kernel)) rfl
set_option maxRecDepth 100000 in
theorem w_code_M_come : Cond.code y_M_come b_M_come 3 none ∈ zTT := zmem (List.mem_of_getElem? (i := 563) rfl) rfl
theorem w_mlink_M_113 : Cond.methodLink R_M 113 y_M_meets ∈ zTT := zmem (List.mem_of_getElem? (i := 564) (by decide +kernel)) rfl
theorem w_imeth_M_meets : Cond.instanceMethod y_M_meets ∈ zTT := zmem (List.mem_of_getElem? (i := 566) (by decide +kernel)) rfl
theorem w_sel_M_meets : Cond.selects R_M y_M_meets y_M_meets ∈ zTT := zmem (List.mem_of_getElem? (i := 17) (by decide +kernel)) rfl
set_option maxRecDepth 100000 in
theorem w_code_M_meets : Cond.code y_M_meets b_M_meets 4 (some .int) ∈ zTT := zmem (List.mem_of_getElem? (i := 567) rfl) rfl
theorem w_field_M_120_M_23 : Cond.fieldLink R_M 120 (F_M 23).1 (F_M 23).2.1 (F_M 23).2.2.1 ∈ zTT := zmem (List.mem_of_getElem? (i := 444) (by decide +kernel)) rfl
theorem w_mlink_M_117 : Cond.methodLink R_M 117 y_M_goAlong ∈ zTT := zmem (List.mem_of_getElem? (i := 556) (by decide +kernel)) rfl
theorem w_imeth_M_goAlong : Cond.instanceMethod y_M_goAlong ∈ zTT := zmem (List.mem_of_getElem? (i := 558) (by decide +kernel)) rfl
theorem w_sel_M_goAlong : Cond.selects R_M y_M_goAlong y_M_goAlong ∈ zTT := zmem (List.mem_of_getElem? (i := 15) (by decide +kernel)) rfl
set_option maxRecDepth 100000 in
theorem w_code_M_goAlong : Cond.code y_M_goAlong b_M_goAlong 7 none ∈ zTT := zmem (List.mem_of_getElem? (i := 559) rfl) rfl
theorem w_field_M_73_M_26 : Cond.fieldLink R_M 73 (F_M 26).1 (F_M 26).2.1 (F_M 26).2.2.1 ∈ zTT := zmem (List.mem_of_getElem? (i := 447) (by decide +kernel)) rfl
theorem w_mlink_M_123 : Cond.methodLink R_M 123 y_M_others ∈ zTT := zmem (List.mem_of_getElem? (i := 592) (by decide +kernel)) rfl
theorem w_imeth_M_others : Cond.instanceMethod y_M_others ∈ zTT := zmem (List.mem_of_getElem? (i := 594) (by decide +kernel)) rfl
theorem w_sel_M_others : Cond.selects R_M y_M_others y_M_others ∈ zTT := zmem (List.mem_of_getElem? (i := 20) (by decide +kernel)) rfl
set_option maxRecDepth 100000 in
theorem w_code_M_others : Cond.code y_M_others b_M_others 5 (some .int) ∈ zTT := zmem (List.mem_of_getElem? (i := 595) rfl) rfl
theorem w_mlink_M_130 : Cond.methodLink R_M 130 y_M_sourceBreaks ∈ zTT := zmem (List.mem_of_getElem? (i := 588) (by decide +kernel)) rfl
theorem w_imeth_M_sourceBreaks : Cond.instanceMethod y_M_sourceBreaks ∈ zTT := zmem (List.mem_of_getElem? (i := 590) (by decide +kernel)) rfl
theorem w_sel_M_sourceBreaks : Cond.selects R_M y_M_sourceBreaks y_M_sourceBreaks ∈ zTT := zmem (List.mem_of_getElem? (i := 19) (by decide +kernel)) rfl
set_option maxRecDepth 100000 in
theorem w_code_M_sourceBreaks : Cond.code y_M_sourceBreaks b_M_sourceBreaks 7 (some .boolean) ∈ zTT := zmem (List.mem_of_getElem? (i := 591) rfl) rfl
theorem w_mlink_M_133 : Cond.methodLink R_M 133 y_M_missing ∈ zTT := zmem (List.mem_of_getElem? (i := 596) (by decide +kernel)) rfl
theorem w_imeth_M_missing : Cond.instanceMethod y_M_missing ∈ zTT := zmem (List.mem_of_getElem? (i := 577) (by decide +kernel)) rfl
theorem w_sel_M_missing : Cond.selects R_M y_M_missing y_M_missing ∈ zTT := zmem (List.mem_of_getElem? (i := 578) (by decide +kernel)) rfl
set_option maxRecDepth 100000 in
theorem w_code_M_missing : Cond.code y_M_missing b_M_missing 5 (some .int) ∈ zTT := zmem (List.mem_of_getElem? (i := 579) rfl) rfl
theorem w_mlink_M_136 : Cond.methodLink R_M 136 y_M_isLate ∈ zTT := zmem (List.mem_of_getElem? (i := 597) (by decide +kernel)) rfl
theorem w_imeth_M_isLate : Cond.instanceMethod y_M_isLate ∈ zTT := zmem (List.mem_of_getElem? (i := 599) (by decide +kernel)) rfl
theorem w_sel_M_isLate : Cond.selects R_M y_M_isLate y_M_isLate ∈ zTT := zmem (List.mem_of_getElem? (i := 21) (by decide +kernel)) rfl
set_option maxRecDepth 100000 in
theorem w_code_M_isLate : Cond.code y_M_isLate b_M_isLate 5 (some .boolean) ∈ zTT := zmem (List.mem_of_getElem? (i := 600) rfl) rfl
theorem w_mlink_M_127 : Cond.methodLink R_M 127 y_M_agree ∈ zTT := zmem (List.mem_of_getElem? (i := 605) (by decide +kernel)) rfl
theorem w_imeth_M_agree : Cond.instanceMethod y_M_agree ∈ zTT := zmem (List.mem_of_getElem? (i := 607) (by decide +kernel)) rfl
theorem w_sel_M_agree : Cond.selects R_M y_M_agree y_M_agree ∈ zTT := zmem (List.mem_of_getElem? (i := 23) (by decide +kernel)) rfl
set_option maxRecDepth 100000 in
theorem w_code_M_agree : Cond.code y_M_agree b_M_agree 5 (some .boolean) ∈ zTT := zmem (List.mem_of_getElem? (i := 608) rfl) rfl
theorem w_mlink_M_139 : Cond.methodLink R_M 139 y_M_isClash ∈ zTT := zmem (List.mem_of_getElem? (i := 601) (by decide +kernel)) rfl
theorem w_imeth_M_isClash : Cond.instanceMethod y_M_isClash ∈ zTT := zmem (List.mem_of_getElem? (i := 603) (by decide +kernel)) rfl
theorem w_sel_M_isClash : Cond.selects R_M y_M_isClash y_M_isClash ∈ zTT := zmem (List.mem_of_getElem? (i := 22) (by decide +kernel)) rfl
set_option maxRecDepth 100000 in
theorem w_code_M_isClash : Cond.code y_M_isClash b_M_isClash 3 (some .boolean) ∈ zTT := zmem (List.mem_of_getElem? (i := 604) rfl) rfl
theorem w_mlink_M_142 : Cond.methodLink R_M 142 y_M_isBroken ∈ zTT := zmem (List.mem_of_getElem? (i := 584) (by decide +kernel)) rfl
theorem w_imeth_M_isBroken : Cond.instanceMethod y_M_isBroken ∈ zTT := zmem (List.mem_of_getElem? (i := 586) (by decide +kernel)) rfl
theorem w_sel_M_isBroken : Cond.selects R_M y_M_isBroken y_M_isBroken ∈ zTT := zmem (List.mem_of_getElem? (i := 18) (by decide +kernel)) rfl
set_option maxRecDepth 100000 in
theorem w_code_M_isBroken : Cond.code y_M_isBroken b_M_isBroken 6 (some .boolean) ∈ zTT := zmem (List.mem_of_getElem? (i := 587) rfl) rfl
theorem w_field_M_145_M_22 : Cond.fieldLink R_M 145 (F_M 22).1 (F_M 22).2.1 (F_M 22).2.2.1 ∈ zTT := zmem (List.mem_of_getElem? (i := 443) (by decide +kernel)) rfl
theorem w_field_M_70_M_25 : Cond.fieldLink R_M 70 (F_M 25).1 (F_M 25).2.1 (F_M 25).2.2.1 ∈ zTT := zmem (List.mem_of_getElem? (i := 446) (by decide +kernel)) rfl
theorem w_field_M_63_M_20 : Cond.fieldLink R_M 63 (F_M 20).1 (F_M 20).2.1 (F_M 20).2.2.1 ∈ zTT := zmem (List.mem_of_getElem? (i := 441) (by decide +kernel)) rfl
theorem w_mlink_M_148 : Cond.methodLink R_M 148 y_M_sameSources ∈ zTT := zmem (List.mem_of_getElem? (i := 625) (by decide +kernel)) rfl
theorem w_imeth_M_sameSources : Cond.instanceMethod y_M_sameSources ∈ zTT := zmem (List.mem_of_getElem? (i := 627) (by decide +kernel)) rfl
theorem w_sel_M_sameSources : Cond.selects R_M y_M_sameSources y_M_sameSources ∈ zTT := zmem (List.mem_of_getElem? (i := 24) (by decide +kernel)) rfl
set_option maxRecDepth 100000 in
theorem w_code_M_sameSources : Cond.code y_M_sameSources b_M_sameSources 5 (some .boolean) ∈ zTT := zmem (List.mem_of_getElem? (i := 628) rfl) rfl
theorem w_mlink_M_151 : Cond.methodLink R_M 151 y_M_sameNeeds ∈ zTT := zmem (List.mem_of_getElem? (i := 629) (by decide +kernel)) rfl
theorem w_imeth_M_sameNeeds : Cond.instanceMethod y_M_sameNeeds ∈ zTT := zmem (List.mem_of_getElem? (i := 631) (by decide +kernel)) rfl
theorem w_sel_M_sameNeeds : Cond.selects R_M y_M_sameNeeds y_M_sameNeeds ∈ zTT := zmem (List.mem_of_getElem? (i := 25) (by decide +kernel)) rfl
set_option maxRecDepth 100000 in
theorem w_code_M_sameNeeds : Cond.code y_M_sameNeeds b_M_sameNeeds 5 (some .boolean) ∈ zTT := zmem (List.mem_of_getElem? (i := 632) rfl) rfl
theorem w_mlinkobj_P_1 : Cond.methodLink R_P 1 Lib.objectInit ∈ zTT := zmem (List.mem_of_getElem? (i := 40) (by decide +kernel)) rfl
theorem w_oinst : Cond.instanceMethod Lib.objectInit ∈ zTT := zmem (List.mem_of_getElem? (i := 41) (by decide +kernel)) rfl
set_option maxRecDepth 100000 in
theorem w_ocode : Cond.code Lib.objectInit ⟨#[0xb1]⟩ 1 none ∈ zTT := zmem (List.mem_of_getElem? (i := 42) rfl) rfl
theorem w_clink_P_7_S : Cond.classLink R_P 7 R_S ∈ zTT := zmem (List.mem_of_getElem? (i := 43) (by decide +kernel)) rfl
theorem w_inst_S_5 : Cond.instantiable R_S 5 ∈ zTT := zmem (List.mem_of_getElem? (i := 44) (by decide +kernel)) rfl
theorem w_mlinkobj_S_3 : Cond.methodLink R_S 3 Lib.objectInit ∈ zTT := zmem (List.mem_of_getElem? (i := 48) (by decide +kernel)) rfl
theorem w_arr_long : Cond.arrayClass (newarray.typeOf .long) ∈ zTT := zmem (List.mem_of_getElem? (i := 69) (by decide +kernel)) rfl
theorem w_arr_int : Cond.arrayClass (newarray.typeOf .int) ∈ zTT := zmem (List.mem_of_getElem? (i := 70) (by decide +kernel)) rfl
theorem w_arr_boolean : Cond.arrayClass (newarray.typeOf .boolean) ∈ zTT := zmem (List.mem_of_getElem? (i := 71) (by decide +kernel)) rfl
theorem w_field_S_22_S_4 : Cond.fieldLink R_S 22 (F_S 4).1 (F_S 4).2.1 (F_S 4).2.2.1 ∈ zTT := zmem (List.mem_of_getElem? (i := 56) (by decide +kernel)) rfl
set_option maxRecDepth 100000 in
theorem w_code_S_init : Cond.code y_S_init b_S_init 1 none ∈ zTT := zmem (List.mem_of_getElem? (i := 47) rfl) rfl
theorem w_imeth_S_init : Cond.instanceMethod y_S_init ∈ zTT := zmem (List.mem_of_getElem? (i := 46) (by decide +kernel)) rfl
theorem w_clink_P_16_A : Cond.classLink R_P 16 R_A ∈ zTT := zmem (List.mem_of_getElem? (i := 72) (by decide +kernel)) rfl
theorem w_inst_A_11 : Cond.instantiable R_A 11 ∈ zTT := zmem (List.mem_of_getElem? (i := 73) (by decide +kernel)) rfl
theorem w_mlinkobj_A_3 : Cond.methodLink R_A 3 Lib.objectInit ∈ zTT := zmem (List.mem_of_getElem? (i := 77) (by decide +kernel)) rfl
theorem w_clink_A_28_W : Cond.classLink R_A 28 R_W ∈ zTT := zmem (List.mem_of_getElem? (i := 78) (by decide +kernel)) rfl
theorem w_inst_W_2 : Cond.instantiable R_W 2 ∈ zTT := zmem (List.mem_of_getElem? (i := 79) (by decide +kernel)) rfl
theorem w_mlinkobj_W_3 : Cond.methodLink R_W 3 Lib.objectInit ∈ zTT := zmem (List.mem_of_getElem? (i := 83) (by decide +kernel)) rfl
set_option maxRecDepth 100000 in
theorem w_code_W_init : Cond.code y_W_init b_W_init 1 none ∈ zTT := zmem (List.mem_of_getElem? (i := 82) rfl) rfl
theorem w_imeth_W_init : Cond.instanceMethod y_W_init ∈ zTT := zmem (List.mem_of_getElem? (i := 81) (by decide +kernel)) rfl
set_option maxRecDepth 100000 in
theorem w_code_A_init : Cond.code y_A_init b_A_init 1 none ∈ zTT := zmem (List.mem_of_getElem? (i := 76) rfl) rfl
theorem w_imeth_A_init : Cond.instanceMethod y_A_init ∈ zTT := zmem (List.mem_of_getElem? (i := 75) (by decide +kernel)) rfl
theorem w_clink_P_23_Y : Cond.classLink R_P 23 R_Y ∈ zTT := zmem (List.mem_of_getElem? (i := 137) (by decide +kernel)) rfl
theorem w_inst_Y_3 : Cond.instantiable R_Y 3 ∈ zTT := zmem (List.mem_of_getElem? (i := 138) (by decide +kernel)) rfl
theorem w_mlinkobj_Y_3 : Cond.methodLink R_Y 3 Lib.objectInit ∈ zTT := zmem (List.mem_of_getElem? (i := 142) (by decide +kernel)) rfl
set_option maxRecDepth 100000 in
theorem w_code_Y_init : Cond.code y_Y_init b_Y_init 1 none ∈ zTT := zmem (List.mem_of_getElem? (i := 141) rfl) rfl
theorem w_imeth_Y_init : Cond.instanceMethod y_Y_init ∈ zTT := zmem (List.mem_of_getElem? (i := 140) (by decide +kernel)) rfl
theorem w_clink_P_30_Q : Cond.classLink R_P 30 R_Q ∈ zTT := zmem (List.mem_of_getElem? (i := 156) (by decide +kernel)) rfl
theorem w_inst_Q_3 : Cond.instantiable R_Q 3 ∈ zTT := zmem (List.mem_of_getElem? (i := 157) (by decide +kernel)) rfl
theorem w_mlinkobj_Q_3 : Cond.methodLink R_Q 3 Lib.objectInit ∈ zTT := zmem (List.mem_of_getElem? (i := 161) (by decide +kernel)) rfl
set_option maxRecDepth 100000 in
theorem w_code_Q_init : Cond.code y_Q_init b_Q_init 1 none ∈ zTT := zmem (List.mem_of_getElem? (i := 160) rfl) rfl
theorem w_imeth_Q_init : Cond.instanceMethod y_Q_init ∈ zTT := zmem (List.mem_of_getElem? (i := 159) (by decide +kernel)) rfl
theorem w_mlinkobj_M_1 : Cond.methodLink R_M 1 Lib.objectInit ∈ zTT := zmem (List.mem_of_getElem? (i := 420) (by decide +kernel)) rfl
theorem gV_P_52 : GoodIn zTT (wsV R_P 52 R_S y_S_add (Cond.code y_S_add b_S_add 6 (some .int) :: zTT)) := zgV w_mlink_P_52 w_imeth_S_add w_sel_S_add w_init_S w_code_S_add
theorem gS_P_47 : GoodIn zTT (va_wsS R_P 47 y_P_isUpTo (Cond.code y_P_isUpTo b_P_isUpTo 2 (some .boolean) :: zTT)) := zgS w_mlink_P_47 w_stat_P_isUpTo w_init_P w_code_P_isUpTo
theorem gV_P_56 : GoodIn zTT (wsV R_P 56 R_S y_S_has (Cond.code y_S_has b_S_has 2 (some .boolean) :: zTT)) := zgV w_mlink_P_56 w_imeth_S_has w_sel_S_has w_init_S w_code_S_has
theorem gV_A_58 : GoodIn zTT (wsV R_A 58 R_W y_W_valueAt (Cond.code y_W_valueAt b_W_valueAt 3 (some .long) :: zTT)) := zgV w_mlink_A_58 w_imeth_W_valueAt w_sel_W_valueAt w_init_W w_code_W_valueAt
theorem gV_A_62 : GoodIn zTT (wsV R_A 62 R_A y_A_metByAt (Cond.code y_A_metByAt b_A_metByAt 3 (some .int) :: zTT)) := zgV w_mlink_A_62 w_imeth_A_metByAt w_sel_A_metByAt w_init_A w_code_A_metByAt
theorem gV_A_51 : GoodIn zTT (wsV R_A 51 R_A y_A_meetMissing (Cond.code y_A_meetMissing b_A_meetMissing 5 none :: zTT)) := zgV w_mlink_A_51 w_imeth_A_meetMissing w_sel_A_meetMissing w_init_A w_code_A_meetMissing
theorem gV_P_65 : GoodIn zTT (wsV R_P 65 R_A y_A_add (Cond.code y_A_add b_A_add 8 (some .int) :: zTT)) := zgV w_mlink_P_65 w_imeth_A_add w_sel_A_add w_init_A w_code_A_add
theorem gV_W_23 : GoodIn zTT (wsV R_W 23 R_W y_W_valueAt (Cond.code y_W_valueAt b_W_valueAt 3 (some .long) :: zTT)) := zgV w_mlink_W_23 w_imeth_W_valueAt w_sel_W_valueAt w_init_W w_code_W_valueAt
theorem gV_W_19 : GoodIn zTT (wsV R_W 19 R_W y_W_contains (Cond.code y_W_contains b_W_contains 5 (some .boolean) :: zTT)) := zgV w_mlink_W_19 w_imeth_W_contains w_sel_W_contains w_init_W w_code_W_contains
theorem gV_P_73 : GoodIn zTT (wsV R_P 73 R_W y_W_append (Cond.code y_W_append b_W_append 4 (some .boolean) :: zTT)) := zgV w_mlink_P_73 w_imeth_W_append w_sel_W_append w_init_W w_code_W_append
theorem gV_P_68 : GoodIn zTT (wsV R_P 68 R_A y_A_has (Cond.code y_A_has b_A_has 2 (some .boolean) :: zTT)) := zgV w_mlink_P_68 w_imeth_A_has w_sel_A_has w_init_A w_code_A_has
theorem gV_A_70 : GoodIn zTT (wsV R_A 70 R_A y_A_firstOf (Cond.code y_A_firstOf b_A_firstOf 4 (some .int) :: zTT)) := zgV w_mlink_A_70 w_imeth_A_firstOf w_sel_A_firstOf w_init_A w_code_A_firstOf
theorem gV_A_66 : GoodIn zTT (wsV R_A 66 R_W y_W_append (Cond.code y_W_append b_W_append 4 (some .boolean) :: zTT)) := zgV w_mlink_A_66 w_imeth_W_append w_sel_W_append w_init_W w_code_W_append
theorem gV_P_79 : GoodIn zTT (wsV R_P 79 R_A y_A_addNeeded (Cond.code y_A_addNeeded b_A_addNeeded 5 (some .boolean) :: zTT)) := zgV w_mlink_P_79 w_imeth_A_addNeeded w_sel_A_addNeeded w_init_A w_code_A_addNeeded
theorem gV_P_82 : GoodIn zTT (wsV R_P 82 R_A y_A_setPath (Cond.code y_A_setPath b_A_setPath 5 none :: zTT)) := zgV w_mlink_P_82 w_imeth_A_setPath w_sel_A_setPath w_init_A w_code_A_setPath
theorem gV_P_86 : GoodIn zTT (wsV R_P 86 R_Y y_Y_add (Cond.code y_Y_add b_Y_add 4 (some .int) :: zTT)) := zgV w_mlink_P_86 w_imeth_Y_add w_sel_Y_add w_init_Y w_code_Y_add
theorem gN_Q_41 : GoodIn zTT (Cond.code y_P_hasBit b_P_hasBit 2 (some .boolean) :: zTT) := zgC w_code_P_hasBit
theorem gN_Q_41_k (D : va_G) (ca : Nat → ClassId) : ∀ U, zKK D ca U → va_Nw (.methodLinkNest R_Q 41 y_P_hasBit "ProvenanceRows") U := fun U h => h.2.2.2.2.2.2.1
theorem gV_Q_22 : GoodIn zTT (wsV R_Q 22 R_Q y_Q_reach (Cond.code y_Q_reach b_Q_reach 2 none :: zTT)) := zgV w_mlink_Q_22 w_imeth_Q_reach w_sel_Q_reach w_init_Q w_code_Q_reach
theorem gV_Q_37 : GoodIn zTT (wsV R_Q 37 R_A y_A_metByAt (Cond.code y_A_metByAt b_A_metByAt 3 (some .int) :: zTT)) := zgV w_mlink_Q_37 w_imeth_A_metByAt w_sel_A_metByAt w_init_A w_code_A_metByAt
theorem gV_P_89 : GoodIn zTT (wsV R_P 89 R_Q y_Q_walk (Cond.code y_Q_walk b_Q_walk 6 none :: zTT)) := zgV w_mlink_P_89 w_imeth_Q_walk w_sel_Q_walk w_init_Q w_code_Q_walk
theorem gS_P_155 : GoodIn zTT (va_wsS R_P 155 y_P_hasBit (Cond.code y_P_hasBit b_P_hasBit 2 (some .boolean) :: zTT)) := zgS w_mlink_P_155 w_stat_P_hasBit w_init_P w_code_P_hasBit
theorem gV_P_182 : GoodIn zTT (wsV R_P 182 R_A y_A_usedAt (Cond.code y_A_usedAt b_A_usedAt 3 (some .int) :: zTT)) := zgV w_mlink_P_182 w_imeth_A_usedAt w_sel_A_usedAt w_init_A w_code_A_usedAt
theorem gV_P_158 : GoodIn zTT (wsV R_P 158 R_P y_P_usesBranchOutside (Cond.code y_P_usesBranchOutside b_P_usesBranchOutside 4 (some .boolean) :: zTT)) := zgV w_mlink_P_158 w_imeth_P_usesBranchOutside w_sel_P_usesBranchOutside w_init_P w_code_P_usesBranchOutside
theorem gS_P_188 : GoodIn zTT (va_wsS R_P 188 y_Ig_bitCount (Cond.code y_Ig_bitCount b_Ig_bitCount 1 (some .int) :: zTT)) := zgS w_mlink_P_188 w_stat_Ig_bitCount w_init_Ig w_code_Ig_bitCount
theorem gV_P_161 : GoodIn zTT (wsV R_P 161 R_P y_P_usesReviewedBelow (Cond.code y_P_usesReviewedBelow b_P_usesReviewedBelow 6 (some .boolean) :: zTT)) := zgV w_mlink_P_161 w_imeth_P_usesReviewedBelow w_sel_P_usesReviewedBelow w_init_P w_code_P_usesReviewedBelow
theorem gV_P_164 : GoodIn zTT (wsV R_P 164 R_P y_P_usesFetchedUntold (Cond.code y_P_usesFetchedUntold b_P_usesFetchedUntold 3 (some .boolean) :: zTT)) := zgV w_mlink_P_164 w_imeth_P_usesFetchedUntold w_sel_P_usesFetchedUntold w_init_P w_code_P_usesFetchedUntold
theorem gV_P_112 : GoodIn zTT (wsV R_P 112 R_A y_A_missingPlace (Cond.code y_A_missingPlace b_A_missingPlace 5 (some .int) :: zTT)) := zgV w_mlink_P_112 w_imeth_A_missingPlace w_sel_A_missingPlace w_init_A w_code_A_missingPlace
theorem gV_P_167 : GoodIn zTT (wsV R_P 167 R_A y_A_needsLaterBy (Cond.code y_A_needsLaterBy b_A_needsLaterBy 5 (some .boolean) :: zTT)) := zgV w_mlink_P_167 w_imeth_A_needsLaterBy w_sel_A_needsLaterBy w_init_A w_code_A_needsLaterBy
theorem gV_A_78 : GoodIn zTT (wsV R_A 78 R_W y_W_sameInOrder (Cond.code y_W_sameInOrder b_W_sameInOrder 4 (some .boolean) :: zTT)) := zgV w_mlink_A_78 w_imeth_W_sameInOrder w_sel_W_sameInOrder w_init_W w_code_W_sameInOrder
theorem gV_A_74 : GoodIn zTT (wsV R_A 74 R_A y_A_clashing (Cond.code y_A_clashing b_A_clashing 4 (some .boolean) :: zTT)) := zgV w_mlink_A_74 w_imeth_A_clashing w_sel_A_clashing w_init_A w_code_A_clashing
theorem gV_P_170 : GoodIn zTT (wsV R_P 170 R_A y_A_clashesWithAny (Cond.code y_A_clashesWithAny b_A_clashesWithAny 3 (some .boolean) :: zTT)) := zgV w_mlink_P_170 w_imeth_A_clashesWithAny w_sel_A_clashesWithAny w_init_A w_code_A_clashesWithAny
theorem gV_P_173 : GoodIn zTT (wsV R_P 173 R_A y_A_restsOnNothing (Cond.code y_A_restsOnNothing b_A_restsOnNothing 2 (some .boolean) :: zTT)) := zgV w_mlink_P_173 w_imeth_A_restsOnNothing w_sel_A_restsOnNothing w_init_A w_code_A_restsOnNothing
theorem gV_P_105 : GoodIn zTT (wsV R_P 105 R_P y_P_isBroken (Cond.code y_P_isBroken b_P_isBroken 4 (some .boolean) :: zTT)) := zgV w_mlink_P_105 w_imeth_P_isBroken w_sel_P_isBroken w_init_P w_code_P_isBroken
theorem gV_P_100 : GoodIn zTT (wsV R_P 100 R_P y_P_firstBrokenBy (Cond.code y_P_firstBrokenBy b_P_firstBrokenBy 3 (some .int) :: zTT)) := zgV w_mlink_P_100 w_imeth_P_firstBrokenBy w_sel_P_firstBrokenBy w_init_P w_code_P_firstBrokenBy
theorem gV_P_104 : GoodIn zTT (wsV R_P 104 R_Y y_Y_has (Cond.code y_Y_has b_Y_has 2 (some .boolean) :: zTT)) := zgV w_mlink_P_104 w_imeth_Y_has w_sel_Y_has w_init_Y w_code_Y_has
theorem gV_P_193 : GoodIn zTT (wsV R_P 193 R_P y_P_usesDigest (Cond.code y_P_usesDigest b_P_usesDigest 5 (some .boolean) :: zTT)) := zgV w_mlink_P_193 w_imeth_P_usesDigest w_sel_P_usesDigest w_init_P w_code_P_usesDigest
theorem gV_P_109 : GoodIn zTT (wsV R_P 109 R_P y_P_restsOn (Cond.code y_P_restsOn b_P_restsOn 5 (some .boolean) :: zTT)) := zgV w_mlink_P_109 w_imeth_P_restsOn w_sel_P_restsOn w_init_P w_code_P_restsOn
theorem gN_A_81 : GoodIn zTT (Cond.code y_P_hasBit b_P_hasBit 2 (some .boolean) :: zTT) := zgC w_code_P_hasBit
theorem gN_A_81_k (D : va_G) (ca : Nat → ClassId) : ∀ U, zKK D ca U → va_Nw (.methodLinkNest R_A 81 y_P_hasBit "ProvenanceRows") U := fun U h => h.2.2.2.2.2.2.2
theorem gS_P_119 : GoodIn zTT (va_wsS R_P 119 y_P_bitIf (Cond.code y_P_bitIf b_P_bitIf 2 (some .int) :: zTT)) := zgS w_mlink_P_119 w_stat_P_bitIf w_init_P w_code_P_bitIf
theorem gV_P_115 : GoodIn zTT (wsV R_P 115 R_A y_A_differAtPath (Cond.code y_A_differAtPath b_A_differAtPath 4 (some .boolean) :: zTT)) := zgV w_mlink_P_115 w_imeth_A_differAtPath w_sel_A_differAtPath w_init_A w_code_A_differAtPath
theorem gV_P_139 : GoodIn zTT (wsV R_P 139 R_W y_W_sameAsSets (Cond.code y_W_sameAsSets b_W_sameAsSets 4 (some .boolean) :: zTT)) := zgV w_mlink_P_139 w_imeth_W_sameAsSets w_sel_W_sameAsSets w_init_W w_code_W_sameAsSets
theorem gV_P_145 : GoodIn zTT (wsV R_P 145 R_A y_A_clashing (Cond.code y_A_clashing b_A_clashing 4 (some .boolean) :: zTT)) := zgV w_mlink_P_145 w_imeth_A_clashing w_sel_A_clashing w_init_A w_code_A_clashing
theorem gS_M_82 : GoodIn zTT (va_wsS R_M 82 y_M_within (Cond.code y_M_within b_M_within 3 (some .boolean) :: zTT)) := zgS w_mlink_M_82 w_stat_M_within w_init_M w_code_M_within
theorem gV_M_87 : GoodIn zTT (wsV R_M 87 R_M y_M_isSource (Cond.code y_M_isSource b_M_isSource 2 (some .boolean) :: zTT)) := zgV w_mlink_M_87 w_imeth_M_isSource w_sel_M_isSource w_init_M w_code_M_isSource
theorem gV_M_95 : GoodIn zTT (wsV R_M 95 R_M y_M_hasUse (Cond.code y_M_hasUse b_M_hasUse 5 (some .boolean) :: zTT)) := zgV w_mlink_M_95 w_imeth_M_hasUse w_sel_M_hasUse w_init_M w_code_M_hasUse
theorem gV_M_92 : GoodIn zTT (wsV R_M 92 R_M y_M_isArtefact (Cond.code y_M_isArtefact b_M_isArtefact 2 (some .boolean) :: zTT)) := zgV w_mlink_M_92 w_imeth_M_isArtefact w_sel_M_isArtefact w_init_M w_code_M_isArtefact
theorem gV_M_99 : GoodIn zTT (wsV R_M 99 R_M y_M_hasNeed (Cond.code y_M_hasNeed b_M_hasNeed 6 (some .boolean) :: zTT)) := zgV w_mlink_M_99 w_imeth_M_hasNeed w_sel_M_hasNeed w_init_M w_code_M_hasNeed
theorem gV_M_109 : GoodIn zTT (wsV R_M 109 R_M y_M_come (Cond.code y_M_come b_M_come 3 none :: zTT)) := zgV w_mlink_M_109 w_imeth_M_come w_sel_M_come w_init_M w_code_M_come
theorem gV_M_113 : GoodIn zTT (wsV R_M 113 R_M y_M_meets (Cond.code y_M_meets b_M_meets 4 (some .int) :: zTT)) := zgV w_mlink_M_113 w_imeth_M_meets w_sel_M_meets w_init_M w_code_M_meets
theorem gV_M_117 : GoodIn zTT (wsV R_M 117 R_M y_M_goAlong (Cond.code y_M_goAlong b_M_goAlong 7 none :: zTT)) := zgV w_mlink_M_117 w_imeth_M_goAlong w_sel_M_goAlong w_init_M w_code_M_goAlong
theorem gV_M_123 : GoodIn zTT (wsV R_M 123 R_M y_M_others (Cond.code y_M_others b_M_others 5 (some .int) :: zTT)) := zgV w_mlink_M_123 w_imeth_M_others w_sel_M_others w_init_M w_code_M_others
theorem gV_M_130 : GoodIn zTT (wsV R_M 130 R_M y_M_sourceBreaks (Cond.code y_M_sourceBreaks b_M_sourceBreaks 7 (some .boolean) :: zTT)) := zgV w_mlink_M_130 w_imeth_M_sourceBreaks w_sel_M_sourceBreaks w_init_M w_code_M_sourceBreaks
theorem gV_M_133 : GoodIn zTT (wsV R_M 133 R_M y_M_missing (Cond.code y_M_missing b_M_missing 5 (some .int) :: zTT)) := zgV w_mlink_M_133 w_imeth_M_missing w_sel_M_missing w_init_M w_code_M_missing
theorem gV_M_136 : GoodIn zTT (wsV R_M 136 R_M y_M_isLate (Cond.code y_M_isLate b_M_isLate 5 (some .boolean) :: zTT)) := zgV w_mlink_M_136 w_imeth_M_isLate w_sel_M_isLate w_init_M w_code_M_isLate
theorem gV_M_127 : GoodIn zTT (wsV R_M 127 R_M y_M_agree (Cond.code y_M_agree b_M_agree 5 (some .boolean) :: zTT)) := zgV w_mlink_M_127 w_imeth_M_agree w_sel_M_agree w_init_M w_code_M_agree
theorem gV_M_139 : GoodIn zTT (wsV R_M 139 R_M y_M_isClash (Cond.code y_M_isClash b_M_isClash 3 (some .boolean) :: zTT)) := zgV w_mlink_M_139 w_imeth_M_isClash w_sel_M_isClash w_init_M w_code_M_isClash
theorem gV_M_142 : GoodIn zTT (wsV R_M 142 R_M y_M_isBroken (Cond.code y_M_isBroken b_M_isBroken 6 (some .boolean) :: zTT)) := zgV w_mlink_M_142 w_imeth_M_isBroken w_sel_M_isBroken w_init_M w_code_M_isBroken
theorem gV_M_148 : GoodIn zTT (wsV R_M 148 R_M y_M_sameSources (Cond.code y_M_sameSources b_M_sameSources 5 (some .boolean) :: zTT)) := zgV w_mlink_M_148 w_imeth_M_sameSources w_sel_M_sameSources w_init_M w_code_M_sameSources
theorem gV_M_151 : GoodIn zTT (wsV R_M 151 R_M y_M_sameNeeds (Cond.code y_M_sameNeeds b_M_sameNeeds 5 (some .boolean) :: zTT)) := zgV w_mlink_M_151 w_imeth_M_sameNeeds w_sel_M_sameNeeds w_init_M w_code_M_sameNeeds
theorem gC_P_9 : GoodIn zTT (Cond.code y_S_init b_S_init 1 none :: zTT) := zgC w_code_S_init
theorem gC_P_9_k (D : va_G) : ∀ U, zK0 D U → va_Nw (.methodLinkNest R_P 9 y_S_init "ProvenanceRows") U := fun U h => h.2.1
theorem gC_A_30 : GoodIn zTT (Cond.code y_W_init b_W_init 1 none :: zTT) := zgC w_code_W_init
theorem gC_A_30_k (D : va_G) : ∀ U, zK0 D U → va_Nw (.methodLinkNest R_A 30 y_W_init "ProvenanceRows") U := fun U h => h.2.2.2.1
theorem gC_P_18 : GoodIn zTT (Cond.code y_A_init b_A_init 1 none :: zTT) := zgC w_code_A_init
theorem gC_P_18_k (D : va_G) : ∀ U, zK0 D U → va_Nw (.methodLinkNest R_P 18 y_A_init "ProvenanceRows") U := fun U h => h.2.2.1
theorem gC_P_25 : GoodIn zTT (Cond.code y_Y_init b_Y_init 1 none :: zTT) := zgC w_code_Y_init
theorem gC_P_25_k (D : va_G) : ∀ U, zK0 D U → va_Nw (.methodLinkNest R_P 25 y_Y_init "ProvenanceRows") U := fun U h => h.2.2.2.2.1
theorem gC_P_32 : GoodIn zTT (Cond.code y_Q_init b_Q_init 1 none :: zTT) := zgC w_code_Q_init
theorem gC_P_32_k (D : va_G) : ∀ U, zK0 D U → va_Nw (.methodLinkNest R_P 32 y_Q_init "ProvenanceRows") U := fun U h => h.2.2.2.2.2.1
end
