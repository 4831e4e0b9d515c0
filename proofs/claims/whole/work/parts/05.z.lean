/-! The walk's own words. A state of numbers is zS: int rows and long rows by number (a field is a row whose place 0 is read). zJ V f w pc lv st: if the pure value f is some out, the machine, at pc with these numbered slots and this stack in the world w, ends as out says. One row an instruction; guards of f stand for what the machine would refuse. -/
abbrev zS : Type := (Nat → Nat → Int32) × (Nat → Nat → Int64)
def zU {α : Type} (f : Nat → α) (k : Nat) (v : α) : Nat → α := fun j => bif Nat.beq j k then v else f j
def zI (σ : zS) (k i : Nat) (v : Int32) : zS := (zU σ.1 k (upd (σ.1 k) i v), σ.2)
def zF (σ : zS) (k : Nat) (v : Int32) : zS := (zU σ.1 k (fun _ => v), σ.2)
def zL (σ : zS) (k i : Nat) (v : Int64) : zS := (σ.1, zU σ.2 k (vp_updL (σ.2 k) i v))
def zin (i : Int32) (n : Nat) : Bool := decide (0 ≤ i.toInt ∧ i.toInt < (n : Int))
theorem zin_vp {i : Int32} {n : Nat} (h : zin i n = true) : vp_in i n := vp_in_iff.mpr (of_decide_eq_true h)
def zgd {γ : Type} (b : Bool) (e : Option γ) : Option γ := bif b then e else none
def zb {β γ : Type} (x : Option (β × zS)) (k : β → zS → Option γ) : Option γ := match x with
  | none => none
  | some o => k o.1 o.2
/-- a new state gets a name -/
def zst {γ : Type} (x : zS) (k : zS → Option γ) : Option γ := k x
def zush (x y : Int32) : Int32 := (x.toUInt32 >>> (y.toUInt32 &&& Int32.toUInt32 31)).toInt32
def zshl (x y : Int32) : Int32 := x <<< (y &&& 31)
def zlsh (x : Int64) (y : Int32) : Int64 := x <<< (y.toInt64 &&& 63)
def zshr (x y : Int32) : Int32 := x >>> (y &&& 31)
def zg : List (Nat × Value) → Nat → Option Value
  | [], _ => none
  | q :: r, i => bif Nat.beq q.1 i then some q.2 else zg r i
theorem zg_mem : ∀ {lv : List (Nat × Value)} {i : Nat} {v : Value}, zg lv i = some v → (i, v) ∈ lv
  | [], i, v, h => by cases h
  | q :: r, i, v, h => by
    unfold zg at h
    cases hb : Nat.beq q.1 i with
    | true =>
      rw [hb] at h
      have e1 : q.1 = i := Nat.eq_of_beq_eq_true hb
      have e2 : q.2 = v := Option.some.inj h
      rw [← e1, ← e2]
      exact List.mem_cons_self
    | false =>
      rw [hb] at h
      exact List.mem_cons_of_mem _ (zg_mem h)
theorem zg_at {ls : Array Slot} {nL : Nat} {lv : List (Nat × Value)} {i : Nat} {v : Value} (h : lv_has ls nL lv) (hg : zg lv i = some v) : ls[i]? = some (.val v) := h.2.2 (i, v) (zg_mem hg)
abbrev zV (α : Type) : Type := va_W → Nat → List (Nat × Value) → List Value → α × zS → Prop
def zJ {α : Type} (V : zV α) (f : Option (α × zS)) (w : va_W) (pc : Nat) (lv : List (Nat × Value)) (st : List Value) : Prop := ∀ out : α × zS, f = some out → V w pc lv st out
/-- what a contract's start may ask of the tables: it stays when the machine warms up, and at a call -/
def zKm (KK : State → Prop) : Prop := (∀ s U : State, s.WarmedH U.vm → KK s → KK U) ∧ ∀ (U : State) (g : JFrame) (mk : MethodId) (a : Array Value), KK U → KK (U.calling g mk a)
/-- V is a method's own machine -/
def zIs {α : Type} (V : zV α) (l : Launch) (cc : ByteArray) (own : String) (TT : List Cond) (KK : State → Prop) (D : va_G) (cl : List vw_C) (tys : List (ClassId × FieldType)) (nL : Nat) (R : Room) : Prop :=
  ∃ (p : Program) (e : Env) (s : State) (m : MethodId) (args : Array Value) (below : List Frame) (meth : Method) (c : Code) (cells slots : Nat) (A : Nat → Prop) (H0 : Heap) (Qo : α × zS → State → Prop),
    V = (fun w pc lv st out => ∀ (H : Heap) (locs : List Loc) (ls : Array Slot), va_P D cl w H → va_D A w → va_S A H0 H locs → lv_has ls nL lv → W p l e R s m args below meth c H locs cells slots (Qo out) (F0 m pc ls st)) ∧
    p.tables.exec = Jvm.exec ∧ c.code = cc ∧ c.maxLocals = nL ∧ s.vm.findClass own = some m.cls ∧ (∀ w ∈ TT, w.before args s = true) ∧ zKm KK ∧ KK s ∧ va_K D cl tys s ∧ (∀ q, H0.size ≤ q → A q) ∧ cells ≤ R.cells ∧ slots ≤ R.slots
def zRi (V : zV Int32) (cc : ByteArray) (wl : zS → va_W) (ex : va_W) : Prop := ∀ (σ : zS) (r : Int32) (pc : Nat) (lv : List (Nat × Value)), decode cc pc = .ok (.ireturn, 1) → V (wl σ ++ ex) pc lv [.int r] (r, σ)
def zRz (V : zV Int32) (cc : ByteArray) (wl : zS → va_W) (ex : va_W) : Prop := ∀ (σ : zS) (r : Int32) (pc : Nat) (lv : List (Nat × Value)), narrow .boolean (.int r) = .int r → decode cc pc = .ok (.ireturn, 1) → V (wl σ ++ ex) pc lv [.int r] (r, σ)
def zRl (V : zV Int64) (cc : ByteArray) (wl : zS → va_W) (ex : va_W) : Prop := ∀ (σ : zS) (r : Int64) (pc : Nat) (lv : List (Nat × Value)), decode cc pc = .ok (.lreturn, 1) → V (wl σ ++ ex) pc lv [.long r] (r, σ)
def zRv (V : zV Unit) (cc : ByteArray) (wl : zS → va_W) (ex : va_W) : Prop := ∀ (σ : zS) (pc : Nat) (lv : List (Nat × Value)), decode cc pc = .ok (.return_, 1) → V (wl σ ++ ex) pc lv [] ((), σ)
abbrev zemI : Int32 → Option Value := fun r => some (.int r)
abbrev zemL : Int64 → Option Value := fun r => some (.long r)
abbrev zemV : Unit → Option Value := fun _ => none
/-- a contract: on any world that begins with wl σ, called with av, y ends as f says -/
def zC {α : Type} (em : α → Option Value) (l : Launch) (y : MethodName) (wds : List Cond) (rm : Room) (D : va_G) (cl : List vw_C) (KK : State → Prop) (wl : zS → va_W) (σ : zS) (av : List Value) (f : Option (α × zS)) : Prop :=
  ∀ (out : α × zS) (ex : va_W) (sz : Nat), f = some out → Met l y wds rm (va_Pc av (fun U => U.heap.size = sz ∧ va_P D cl (wl σ ++ ex) U.heap ∧ KK U ∧ va_D (fun _ => True) (wl σ ++ ex)))
    (fun _ st oc t => (oc = .returned (em out.1) ∧ va_P D cl (wl out.2 ++ ex) t.heap ∧ va_D (va_A (wl σ ++ ex) sz) (wl out.2 ++ ex)) ∧ va_F (va_A (wl σ ++ ex) sz) st t) 0 0 (va_A (wl σ ++ ex) sz)

section ZR
variable {α : Type} {V : zV α} {l : Launch} {cc : ByteArray} {own : String} {TT : List Cond} {KK : State → Prop} {D : va_G} {cl : List vw_C} {tys : List (ClassId × FieldType)} {nL : Nat} {R : Room} {f : Option (α × zS)} {w : va_W} {pc : Nat} {lv : List (Nat × Value)} {st : List Value}

theorem z_iconst (hX : zIs V l cc own TT KK D cl tys nL R) {n : Int} {v : Int32} (hd : decode cc pc = .ok (.iconst n, 1)) (hv : Int32.ofInt n = v) (k : zJ V f w (pc + 1) lv (.int v :: st)) : zJ V f w pc lv (st) := by
  obtain ⟨p, e, s, m, args, below, meth, c, cells, slots, A, H0, Qo, rfl, hx, hb, hml, hown, hts, hKm, hKK, hK, hA, hcs⟩ := hX
  intro out hf H locs ls hP hD hS hl
  exact lv_iconst hx hb hd hv (k out hf H locs ls hP hD hS hl)
theorem z_bipush (hX : zIs V l cc own TT KK D cl tys nL R) {n : Int} {v : Int32} (hd : decode cc pc = .ok (.bipush n, 2)) (hv : (Int8.ofInt n).toInt32 = v) (k : zJ V f w (pc + 2) lv (.int v :: st)) : zJ V f w pc lv (st) := by
  obtain ⟨p, e, s, m, args, below, meth, c, cells, slots, A, H0, Qo, rfl, hx, hb, hml, hown, hts, hKm, hKK, hK, hA, hcs⟩ := hX
  intro out hf H locs ls hP hD hS hl
  exact lv_bipush hx hb hd hv (k out hf H locs ls hP hD hS hl)
theorem z_sipush (hX : zIs V l cc own TT KK D cl tys nL R) {n : Int} {v : Int32} (hd : decode cc pc = .ok (.sipush n, 3)) (hv : (Int16.ofInt n).toInt32 = v) (k : zJ V f w (pc + 3) lv (.int v :: st)) : zJ V f w pc lv (st) := by
  obtain ⟨p, e, s, m, args, below, meth, c, cells, slots, A, H0, Qo, rfl, hx, hb, hml, hown, hts, hKm, hKK, hK, hA, hcs⟩ := hX
  intro out hf H locs ls hP hD hS hl
  exact lv_sipush hx hb hd hv (k out hf H locs ls hP hD hS hl)
theorem z_lconst (hX : zIs V l cc own TT KK D cl tys nL R) {n : Fin 2} {v : Int64} (hd : decode cc pc = .ok (.lconst n, 1)) (hv : Int64.ofNat (n : Nat) = v) (k : zJ V f w (pc + 1) lv (.long v :: st)) : zJ V f w pc lv (st) := by
  obtain ⟨p, e, s, m, args, below, meth, c, cells, slots, A, H0, Qo, rfl, hx, hb, hml, hown, hts, hKm, hKK, hK, hA, hcs⟩ := hX
  intro out hf H locs ls hP hD hS hl
  exact lv_lconst hx hb hd hv (k out hf H locs ls hP hD hS hl)
theorem z_iload_n (hX : zIs V l cc own TT KK D cl tys nL R) {j : Fin 4} {i : Nat} {x : Int32} (hd : decode cc pc = .ok (.iload_n j, 1)) (hi : (j : Nat) = i) (hg : zg lv i = some (.int x)) (k : zJ V f w (pc + 1) lv (.int x :: st)) : zJ V f w pc lv (st) := by
  obtain ⟨p, e, s, m, args, below, meth, c, cells, slots, A, H0, Qo, rfl, hx, hb, hml, hown, hts, hKm, hKK, hK, hA, hcs⟩ := hX
  intro out hf H locs ls hP hD hS hl
  exact lv_iload_n hx hb hd hi (zg_at hl hg) (k out hf H locs ls hP hD hS hl)
theorem z_iload (hX : zIs V l cc own TT KK D cl tys nL R) {i : Nat} {x : Int32} (hd : decode cc pc = .ok (.iload i, 2)) (hg : zg lv i = some (.int x)) (k : zJ V f w (pc + 2) lv (.int x :: st)) : zJ V f w pc lv (st) := by
  obtain ⟨p, e, s, m, args, below, meth, c, cells, slots, A, H0, Qo, rfl, hx, hb, hml, hown, hts, hKm, hKK, hK, hA, hcs⟩ := hX
  intro out hf H locs ls hP hD hS hl
  exact lv_iload hx hb hd (zg_at hl hg) (k out hf H locs ls hP hD hS hl)
theorem z_lload_n (hX : zIs V l cc own TT KK D cl tys nL R) {j : Fin 4} {i : Nat} {x : Int64} (hd : decode cc pc = .ok (.lload_n j, 1)) (hi : (j : Nat) = i) (hg : zg lv i = some (.long x)) (k : zJ V f w (pc + 1) lv (.long x :: st)) : zJ V f w pc lv (st) := by
  obtain ⟨p, e, s, m, args, below, meth, c, cells, slots, A, H0, Qo, rfl, hx, hb, hml, hown, hts, hKm, hKK, hK, hA, hcs⟩ := hX
  intro out hf H locs ls hP hD hS hl
  exact lv_lload_n hx hb hd hi (zg_at hl hg) (k out hf H locs ls hP hD hS hl)
theorem z_lload (hX : zIs V l cc own TT KK D cl tys nL R) {i : Nat} {x : Int64} (hd : decode cc pc = .ok (.lload i, 2)) (hg : zg lv i = some (.long x)) (k : zJ V f w (pc + 2) lv (.long x :: st)) : zJ V f w pc lv (st) := by
  obtain ⟨p, e, s, m, args, below, meth, c, cells, slots, A, H0, Qo, rfl, hx, hb, hml, hown, hts, hKm, hKK, hK, hA, hcs⟩ := hX
  intro out hf H locs ls hP hD hS hl
  exact lv_lload hx hb hd (zg_at hl hg) (k out hf H locs ls hP hD hS hl)
theorem z_aload_n (hX : zIs V l cc own TT KK D cl tys nL R) {j : Fin 4} {i : Nat} {x : Nat} (hd : decode cc pc = .ok (.aload_n j, 1)) (hi : (j : Nat) = i) (hg : zg lv i = some (.ref x)) (k : zJ V f w (pc + 1) lv (.ref x :: st)) : zJ V f w pc lv (st) := by
  obtain ⟨p, e, s, m, args, below, meth, c, cells, slots, A, H0, Qo, rfl, hx, hb, hml, hown, hts, hKm, hKK, hK, hA, hcs⟩ := hX
  intro out hf H locs ls hP hD hS hl
  exact lv_aload_n hx hb hd hi (zg_at hl hg) (k out hf H locs ls hP hD hS hl)
theorem z_aload (hX : zIs V l cc own TT KK D cl tys nL R) {i : Nat} {x : Nat} (hd : decode cc pc = .ok (.aload i, 2)) (hg : zg lv i = some (.ref x)) (k : zJ V f w (pc + 2) lv (.ref x :: st)) : zJ V f w pc lv (st) := by
  obtain ⟨p, e, s, m, args, below, meth, c, cells, slots, A, H0, Qo, rfl, hx, hb, hml, hown, hts, hKm, hKK, hK, hA, hcs⟩ := hX
  intro out hf H locs ls hP hD hS hl
  exact lv_aload hx hb hd (zg_at hl hg) (k out hf H locs ls hP hD hS hl)
theorem z_iadd (hX : zIs V l cc own TT KK D cl tys nL R) {x y : Int32} (hd : decode cc pc = .ok (.iadd, 1)) (k : zJ V f w (pc + 1) lv (.int (x + y) :: st)) : zJ V f w pc lv (.int y :: .int x :: st) := by
  obtain ⟨p, e, s, m, args, below, meth, c, cells, slots, A, H0, Qo, rfl, hx, hb, hml, hown, hts, hKm, hKK, hK, hA, hcs⟩ := hX
  intro out hf H locs ls hP hD hS hl
  exact lv_iadd hx hb hd (k out hf H locs ls hP hD hS hl)
theorem z_isub (hX : zIs V l cc own TT KK D cl tys nL R) {x y : Int32} (hd : decode cc pc = .ok (.isub, 1)) (k : zJ V f w (pc + 1) lv (.int (x - y) :: st)) : zJ V f w pc lv (.int y :: .int x :: st) := by
  obtain ⟨p, e, s, m, args, below, meth, c, cells, slots, A, H0, Qo, rfl, hx, hb, hml, hown, hts, hKm, hKK, hK, hA, hcs⟩ := hX
  intro out hf H locs ls hP hD hS hl
  exact lv_isub hx hb hd (k out hf H locs ls hP hD hS hl)
theorem z_imul (hX : zIs V l cc own TT KK D cl tys nL R) {x y : Int32} (hd : decode cc pc = .ok (.imul, 1)) (k : zJ V f w (pc + 1) lv (.int (x * y) :: st)) : zJ V f w pc lv (.int y :: .int x :: st) := by
  obtain ⟨p, e, s, m, args, below, meth, c, cells, slots, A, H0, Qo, rfl, hx, hb, hml, hown, hts, hKm, hKK, hK, hA, hcs⟩ := hX
  intro out hf H locs ls hP hD hS hl
  exact lv_imul hx hb hd (k out hf H locs ls hP hD hS hl)
theorem z_iand (hX : zIs V l cc own TT KK D cl tys nL R) {x y : Int32} (hd : decode cc pc = .ok (.iand, 1)) (k : zJ V f w (pc + 1) lv (.int (x &&& y) :: st)) : zJ V f w pc lv (.int y :: .int x :: st) := by
  obtain ⟨p, e, s, m, args, below, meth, c, cells, slots, A, H0, Qo, rfl, hx, hb, hml, hown, hts, hKm, hKK, hK, hA, hcs⟩ := hX
  intro out hf H locs ls hP hD hS hl
  exact lv_iand hx hb hd (k out hf H locs ls hP hD hS hl)
theorem z_ior (hX : zIs V l cc own TT KK D cl tys nL R) {x y : Int32} (hd : decode cc pc = .ok (.ior, 1)) (k : zJ V f w (pc + 1) lv (.int (x ||| y) :: st)) : zJ V f w pc lv (.int y :: .int x :: st) := by
  obtain ⟨p, e, s, m, args, below, meth, c, cells, slots, A, H0, Qo, rfl, hx, hb, hml, hown, hts, hKm, hKK, hK, hA, hcs⟩ := hX
  intro out hf H locs ls hP hD hS hl
  exact lv_ior hx hb hd (k out hf H locs ls hP hD hS hl)
theorem z_ixor (hX : zIs V l cc own TT KK D cl tys nL R) {x y : Int32} (hd : decode cc pc = .ok (.ixor, 1)) (k : zJ V f w (pc + 1) lv (.int (x ^^^ y) :: st)) : zJ V f w pc lv (.int y :: .int x :: st) := by
  obtain ⟨p, e, s, m, args, below, meth, c, cells, slots, A, H0, Qo, rfl, hx, hb, hml, hown, hts, hKm, hKK, hK, hA, hcs⟩ := hX
  intro out hf H locs ls hP hD hS hl
  exact lv_ixor hx hb hd (k out hf H locs ls hP hD hS hl)
theorem z_ishl (hX : zIs V l cc own TT KK D cl tys nL R) {x y : Int32} (hd : decode cc pc = .ok (.ishl, 1)) (k : zJ V f w (pc + 1) lv (.int (zshl x y) :: st)) : zJ V f w pc lv (.int y :: .int x :: st) := by
  obtain ⟨p, e, s, m, args, below, meth, c, cells, slots, A, H0, Qo, rfl, hx, hb, hml, hown, hts, hKm, hKK, hK, hA, hcs⟩ := hX
  intro out hf H locs ls hP hD hS hl
  exact lv_ishl hx hb hd (k out hf H locs ls hP hD hS hl)
theorem z_ishr (hX : zIs V l cc own TT KK D cl tys nL R) {x y : Int32} (hd : decode cc pc = .ok (.ishr, 1)) (k : zJ V f w (pc + 1) lv (.int (zshr x y) :: st)) : zJ V f w pc lv (.int y :: .int x :: st) := by
  obtain ⟨p, e, s, m, args, below, meth, c, cells, slots, A, H0, Qo, rfl, hx, hb, hml, hown, hts, hKm, hKK, hK, hA, hcs⟩ := hX
  intro out hf H locs ls hP hD hS hl
  exact lv_ishr hx hb hd (k out hf H locs ls hP hD hS hl)
theorem z_ladd (hX : zIs V l cc own TT KK D cl tys nL R) {x y : Int64} (hd : decode cc pc = .ok (.ladd, 1)) (k : zJ V f w (pc + 1) lv (.long (x + y) :: st)) : zJ V f w pc lv (.long y :: .long x :: st) := by
  obtain ⟨p, e, s, m, args, below, meth, c, cells, slots, A, H0, Qo, rfl, hx, hb, hml, hown, hts, hKm, hKK, hK, hA, hcs⟩ := hX
  intro out hf H locs ls hP hD hS hl
  exact lv_ladd hx hb hd (k out hf H locs ls hP hD hS hl)
theorem z_land (hX : zIs V l cc own TT KK D cl tys nL R) {x y : Int64} (hd : decode cc pc = .ok (.land, 1)) (k : zJ V f w (pc + 1) lv (.long (x &&& y) :: st)) : zJ V f w pc lv (.long y :: .long x :: st) := by
  obtain ⟨p, e, s, m, args, below, meth, c, cells, slots, A, H0, Qo, rfl, hx, hb, hml, hown, hts, hKm, hKK, hK, hA, hcs⟩ := hX
  intro out hf H locs ls hP hD hS hl
  exact lv_land hx hb hd (k out hf H locs ls hP hD hS hl)
theorem z_lor (hX : zIs V l cc own TT KK D cl tys nL R) {x y : Int64} (hd : decode cc pc = .ok (.lor, 1)) (k : zJ V f w (pc + 1) lv (.long (x ||| y) :: st)) : zJ V f w pc lv (.long y :: .long x :: st) := by
  obtain ⟨p, e, s, m, args, below, meth, c, cells, slots, A, H0, Qo, rfl, hx, hb, hml, hown, hts, hKm, hKK, hK, hA, hcs⟩ := hX
  intro out hf H locs ls hP hD hS hl
  exact lv_lor hx hb hd (k out hf H locs ls hP hD hS hl)
theorem z_lxor (hX : zIs V l cc own TT KK D cl tys nL R) {x y : Int64} (hd : decode cc pc = .ok (.lxor, 1)) (k : zJ V f w (pc + 1) lv (.long (x ^^^ y) :: st)) : zJ V f w pc lv (.long y :: .long x :: st) := by
  obtain ⟨p, e, s, m, args, below, meth, c, cells, slots, A, H0, Qo, rfl, hx, hb, hml, hown, hts, hKm, hKK, hK, hA, hcs⟩ := hX
  intro out hf H locs ls hP hD hS hl
  exact lv_lxor hx hb hd (k out hf H locs ls hP hD hS hl)
theorem z_lshl (hX : zIs V l cc own TT KK D cl tys nL R) {x : Int64} {y : Int32} (hd : decode cc pc = .ok (.lshl, 1)) (k : zJ V f w (pc + 1) lv (.long (zlsh x y) :: st)) : zJ V f w pc lv (.int y :: .long x :: st) := by
  obtain ⟨p, e, s, m, args, below, meth, c, cells, slots, A, H0, Qo, rfl, hx, hb, hml, hown, hts, hKm, hKK, hK, hA, hcs⟩ := hX
  intro out hf H locs ls hP hD hS hl
  exact lv_lshl hx hb hd rfl (k out hf H locs ls hP hD hS hl)
theorem z_iushr (hX : zIs V l cc own TT KK D cl tys nL R) {x y : Int32} (hd : decode cc pc = .ok (.iushr, 1)) (k : zJ V f w (pc + 1) lv (.int (zush x y) :: st)) : zJ V f w pc lv (.int y :: .int x :: st) := by
  obtain ⟨p, e, s, m, args, below, meth, c, cells, slots, A, H0, Qo, rfl, hx, hb, hml, hown, hts, hKm, hKK, hK, hA, hcs⟩ := hX
  intro out hf H locs ls hP hD hS hl
  exact lv_iushr hx hb hd rfl (k out hf H locs ls hP hD hS hl)
theorem z_l2i (hX : zIs V l cc own TT KK D cl tys nL R) {x : Int64} (hd : decode cc pc = .ok (.l2i, 1)) (k : zJ V f w (pc + 1) lv (.int x.toInt32 :: st)) : zJ V f w pc lv (.long x :: st) := by
  obtain ⟨p, e, s, m, args, below, meth, c, cells, slots, A, H0, Qo, rfl, hx, hb, hml, hown, hts, hKm, hKK, hK, hA, hcs⟩ := hX
  intro out hf H locs ls hP hD hS hl
  exact lv_l2i hx hb hd rfl (k out hf H locs ls hP hD hS hl)
theorem z_i2l (hX : zIs V l cc own TT KK D cl tys nL R) {x : Int32} (hd : decode cc pc = .ok (.i2l, 1)) (k : zJ V f w (pc + 1) lv (.long x.toInt64 :: st)) : zJ V f w pc lv (.int x :: st) := by
  obtain ⟨p, e, s, m, args, below, meth, c, cells, slots, A, H0, Qo, rfl, hx, hb, hml, hown, hts, hKm, hKK, hK, hA, hcs⟩ := hX
  intro out hf H locs ls hP hD hS hl
  exact lv_i2l hx hb hd rfl (k out hf H locs ls hP hD hS hl)
theorem z_lcmp (hX : zIs V l cc own TT KK D cl tys nL R) {x y : Int64} (hd : decode cc pc = .ok (.lcmp, 1)) (k : zJ V f w (pc + 1) lv (.int (lg_cmp x y) :: st)) : zJ V f w pc lv (.long y :: .long x :: st) := by
  obtain ⟨p, e, s, m, args, below, meth, c, cells, slots, A, H0, Qo, rfl, hx, hb, hml, hown, hts, hKm, hKK, hK, hA, hcs⟩ := hX
  intro out hf H locs ls hP hD hS hl
  exact W.lcmp hx hb hd (k out hf H locs ls hP hD hS hl)
theorem z_dup (hX : zIs V l cc own TT KK D cl tys nL R) {va : Value} (hd : decode cc pc = .ok (.dup, 1)) (h1 : va.category = 1) (k : zJ V f w (pc + 1) lv (va :: va :: st)) : zJ V f w pc lv (va :: st) := by
  obtain ⟨p, e, s, m, args, below, meth, c, cells, slots, A, H0, Qo, rfl, hx, hb, hml, hown, hts, hKm, hKK, hK, hA, hcs⟩ := hX
  intro out hf H locs ls hP hD hS hl
  exact lv_dup hx hb hd h1 (k out hf H locs ls hP hD hS hl)
theorem z_pop (hX : zIs V l cc own TT KK D cl tys nL R) {va : Value} (hd : decode cc pc = .ok (.pop, 1)) (h1 : va.category = 1) (k : zJ V f w (pc + 1) lv (st)) : zJ V f w pc lv (va :: st) := by
  obtain ⟨p, e, s, m, args, below, meth, c, cells, slots, A, H0, Qo, rfl, hx, hb, hml, hown, hts, hKm, hKK, hK, hA, hcs⟩ := hX
  intro out hf H locs ls hP hD hS hl
  exact lv_pop hx hb hd h1 (k out hf H locs ls hP hD hS hl)
theorem z_dup_x1 (hX : zIs V l cc own TT KK D cl tys nL R) {va vb : Value} (hd : decode cc pc = .ok (.dup_x1, 1)) (h1 : va.category = 1) (h2 : vb.category = 1) (k : zJ V f w (pc + 1) lv (va :: vb :: va :: st)) : zJ V f w pc lv (va :: vb :: st) := by
  obtain ⟨p, e, s, m, args, below, meth, c, cells, slots, A, H0, Qo, rfl, hx, hb, hml, hown, hts, hKm, hKK, hK, hA, hcs⟩ := hX
  intro out hf H locs ls hP hD hS hl
  exact lv_dup_x1 hx hb hd h1 h2 (k out hf H locs ls hP hD hS hl)
theorem z_dup2 (hX : zIs V l cc own TT KK D cl tys nL R) {va vb : Value} (hd : decode cc pc = .ok (.dup2, 1)) (h1 : va.category = 1) (h2 : vb.category = 1) (k : zJ V f w (pc + 1) lv (va :: vb :: va :: vb :: st)) : zJ V f w pc lv (va :: vb :: st) := by
  obtain ⟨p, e, s, m, args, below, meth, c, cells, slots, A, H0, Qo, rfl, hx, hb, hml, hown, hts, hKm, hKK, hK, hA, hcs⟩ := hX
  intro out hf H locs ls hP hD hS hl
  exact lv_dup2_11 hx hb hd h1 h2 (k out hf H locs ls hP hD hS hl)
theorem z_istore_n (hX : zIs V l cc own TT KK D cl tys nL R) {j : Fin 4} {i : Nat} {x : Int32} {lv2 : List (Nat × Value)} (hd : decode cc pc = .ok (.istore_n j, 1)) (hi : (j : Nat) = i) (hn : i < nL) (hl2 : (i, Value.int x) :: lv.filter (fun q => !(q.1 == i) && !(q.1 + 1 == i && q.2.category == 2)) = lv2) (k : zJ V f w (pc + 1) lv2 st) : zJ V f w pc lv (.int x :: st) := by
  obtain ⟨p, e, s, m, args, below, meth, c, cells, slots, A, H0, Qo, rfl, hx, hb, hml, hown, hts, hKm, hKK, hK, hA, hcs⟩ := hX
  intro out hf H locs ls hP hD hS hl
  exact lv_istore_n hx hb hd hi hl hn hl2 (fun ls' hl' => k out hf H locs ls' hP hD hS hl')
theorem z_istore (hX : zIs V l cc own TT KK D cl tys nL R) {i : Nat} {x : Int32} {lv2 : List (Nat × Value)} (hd : decode cc pc = .ok (.istore i, 2)) (hn : i < nL) (hl2 : (i, Value.int x) :: lv.filter (fun q => !(q.1 == i) && !(q.1 + 1 == i && q.2.category == 2)) = lv2) (k : zJ V f w (pc + 2) lv2 st) : zJ V f w pc lv (.int x :: st) := by
  obtain ⟨p, e, s, m, args, below, meth, c, cells, slots, A, H0, Qo, rfl, hx, hb, hml, hown, hts, hKm, hKK, hK, hA, hcs⟩ := hX
  intro out hf H locs ls hP hD hS hl
  exact lv_istore hx hb hd hl hn hl2 (fun ls' hl' => k out hf H locs ls' hP hD hS hl')
theorem z_astore_n (hX : zIs V l cc own TT KK D cl tys nL R) {j : Fin 4} {i : Nat} {x : Nat} {lv2 : List (Nat × Value)} (hd : decode cc pc = .ok (.astore_n j, 1)) (hi : (j : Nat) = i) (hn : i < nL) (hl2 : (i, Value.ref x) :: lv.filter (fun q => !(q.1 == i) && !(q.1 + 1 == i && q.2.category == 2)) = lv2) (k : zJ V f w (pc + 1) lv2 st) : zJ V f w pc lv (.ref x :: st) := by
  obtain ⟨p, e, s, m, args, below, meth, c, cells, slots, A, H0, Qo, rfl, hx, hb, hml, hown, hts, hKm, hKK, hK, hA, hcs⟩ := hX
  intro out hf H locs ls hP hD hS hl
  exact lv_astore_n hx hb hd hi hl hn hl2 (fun ls' hl' => k out hf H locs ls' hP hD hS hl')
theorem z_astore (hX : zIs V l cc own TT KK D cl tys nL R) {i : Nat} {x : Nat} {lv2 : List (Nat × Value)} (hd : decode cc pc = .ok (.astore i, 2)) (hn : i < nL) (hl2 : (i, Value.ref x) :: lv.filter (fun q => !(q.1 == i) && !(q.1 + 1 == i && q.2.category == 2)) = lv2) (k : zJ V f w (pc + 2) lv2 st) : zJ V f w pc lv (.ref x :: st) := by
  obtain ⟨p, e, s, m, args, below, meth, c, cells, slots, A, H0, Qo, rfl, hx, hb, hml, hown, hts, hKm, hKK, hK, hA, hcs⟩ := hX
  intro out hf H locs ls hP hD hS hl
  exact lv_astore hx hb hd hl hn hl2 (fun ls' hl' => k out hf H locs ls' hP hD hS hl')
theorem z_lstore_n (hX : zIs V l cc own TT KK D cl tys nL R) {j : Fin 4} {i : Nat} {x : Int64} {lv2 : List (Nat × Value)} (hd : decode cc pc = .ok (.lstore_n j, 1)) (hi : (j : Nat) = i) (hn : i + 1 < nL) (hl2 : (i, Value.long x) :: lv.filter (fun q => !(q.1 == i) && (!(q.1 == i + 1) && !(q.1 + 1 == i && q.2.category == 2))) = lv2) (k : zJ V f w (pc + 1) lv2 st) : zJ V f w pc lv (.long x :: st) := by
  obtain ⟨p, e, s, m, args, below, meth, c, cells, slots, A, H0, Qo, rfl, hx, hb, hml, hown, hts, hKm, hKK, hK, hA, hcs⟩ := hX
  intro out hf H locs ls hP hD hS hl
  exact lv_lstore_n hx hb hd hi hl hn hl2 (fun ls' hl' => k out hf H locs ls' hP hD hS hl')
theorem z_lstore (hX : zIs V l cc own TT KK D cl tys nL R) {i : Nat} {x : Int64} {lv2 : List (Nat × Value)} (hd : decode cc pc = .ok (.lstore i, 2)) (hn : i + 1 < nL) (hl2 : (i, Value.long x) :: lv.filter (fun q => !(q.1 == i) && (!(q.1 == i + 1) && !(q.1 + 1 == i && q.2.category == 2))) = lv2) (k : zJ V f w (pc + 2) lv2 st) : zJ V f w pc lv (.long x :: st) := by
  obtain ⟨p, e, s, m, args, below, meth, c, cells, slots, A, H0, Qo, rfl, hx, hb, hml, hown, hts, hKm, hKK, hK, hA, hcs⟩ := hX
  intro out hf H locs ls hP hD hS hl
  exact lv_lstore hx hb hd hl hn hl2 (fun ls' hl' => k out hf H locs ls' hP hD hS hl')
theorem z_iinc (hX : zIs V l cc own TT KK D cl tys nL R) {i : Nat} {n : Int} {x v : Int32} {lv2 : List (Nat × Value)} (hd : decode cc pc = .ok (.iinc i n, 3)) (k0 : Nat) (hk : lv[k0]? = some (i, .int x)) (hv : x + Int32.ofInt n = v) (hn : i < nL) (hl2 : (i, Value.int v) :: lv.filter (fun q => !(q.1 == i) && !(q.1 + 1 == i && q.2.category == 2)) = lv2) (k : zJ V f w (pc + 3) lv2 st) : zJ V f w pc lv st := by
  obtain ⟨p, e, s, m, args, below, meth, c, cells, slots, A, H0, Qo, rfl, hx, hb, hml, hown, hts, hKm, hKK, hK, hA, hcs⟩ := hX
  intro out hf H locs ls hP hD hS hl
  exact lv_iinc hx hb hd hl hk hv hn hl2 (fun ls' hl' => k out hf H locs ls' hP hD hS hl')
/-- fewer numbered slots, in another order -/
theorem z_lv (hX : zIs V l cc own TT KK D cl tys nL R) (ks : List Nat) {lv2 : List (Nat × Value)} (h : lv_pick lv ks = lv2) (k : zJ V f w pc lv2 st) : zJ V f w pc lv st := by
  obtain ⟨p, e, s, m, args, below, meth, c, cells, slots, A, H0, Qo, rfl, hx, hb, hml, hown, hts, hKm, hKK, hK, hA, hcs⟩ := hX
  intro out hf H locs ls hP hD hS hl
  exact k out hf H locs ls hP hD hS (lv_sub hl ks h)
theorem z_goto (hX : zIs V l cc own TT KK D cl tys nL R) {off : Int} {tgt : Nat} (hd : decode cc pc = .ok (.goto off, 3)) (ht : (pc : Int) + off = (tgt : Int)) (k : zJ V f w tgt lv st) : zJ V f w pc lv st := by
  obtain ⟨p, e, s, m, args, below, meth, c, cells, slots, A, H0, Qo, rfl, hx, hb, hml, hown, hts, hKm, hKK, hK, hA, hcs⟩ := hX
  intro out hf H locs ls hP hD hS hl
  exact lv_goto hx hb hd ht (k out hf H locs ls hP hD hS hl)
theorem z_if_eq (hX : zIs V l cc own TT KK D cl tys nL R) {e1 e2 : Option (α × zS)} {x : Int32} {off : Int} {tgt : Nat} {inst : Decidable (x = 0)} (hd : decode cc pc = .ok (.ifCond .eq off, 3)) (ht : (pc : Int) + off = (tgt : Int)) (k1 : x = 0 → zJ V e1 w tgt lv st) (k2 : ¬ x = 0 → zJ V e2 w (pc + 3) lv st) : zJ V (if x = 0 then e1 else e2) w pc lv (.int x :: st) := by
  obtain ⟨p, e, s, m, args, below, meth, c, cells, slots, A, H0, Qo, rfl, hx, hb, hml, hown, hts, hKm, hKK, hK, hA, hcs⟩ := hX
  intro out hf H locs ls hP hD hS hl
  exact lv_if_eq hx hb hd ht (fun h => k1 h out (by rw [← hf, if_pos h]) H locs ls hP hD hS hl) (fun h => k2 h out (by rw [← hf, if_neg h]) H locs ls hP hD hS hl)
theorem z_if_ne (hX : zIs V l cc own TT KK D cl tys nL R) {e1 e2 : Option (α × zS)} {x : Int32} {off : Int} {tgt : Nat} {inst : Decidable (x = 0)} (hd : decode cc pc = .ok (.ifCond .ne off, 3)) (ht : (pc : Int) + off = (tgt : Int)) (k1 : x = 0 → zJ V e1 w (pc + 3) lv st) (k2 : ¬ x = 0 → zJ V e2 w tgt lv st) : zJ V (if x = 0 then e1 else e2) w pc lv (.int x :: st) := by
  obtain ⟨p, e, s, m, args, below, meth, c, cells, slots, A, H0, Qo, rfl, hx, hb, hml, hown, hts, hKm, hKK, hK, hA, hcs⟩ := hX
  intro out hf H locs ls hP hD hS hl
  exact lv_if_ne hx hb hd ht (fun h => k2 h out (by rw [← hf, if_neg h]) H locs ls hP hD hS hl) (fun h => k1 h out (by rw [← hf, if_pos h]) H locs ls hP hD hS hl)
theorem z_if_lt (hX : zIs V l cc own TT KK D cl tys nL R) {e1 e2 : Option (α × zS)} {x : Int32} {off : Int} {tgt : Nat} {inst : Decidable (x < 0)} (hd : decode cc pc = .ok (.ifCond .lt off, 3)) (ht : (pc : Int) + off = (tgt : Int)) (k1 : x < 0 → zJ V e1 w tgt lv st) (k2 : ¬ x < 0 → zJ V e2 w (pc + 3) lv st) : zJ V (if x < 0 then e1 else e2) w pc lv (.int x :: st) := by
  obtain ⟨p, e, s, m, args, below, meth, c, cells, slots, A, H0, Qo, rfl, hx, hb, hml, hown, hts, hKm, hKK, hK, hA, hcs⟩ := hX
  intro out hf H locs ls hP hD hS hl
  exact lv_if_lt hx hb hd ht (fun h => k1 h out (by rw [← hf, if_pos h]) H locs ls hP hD hS hl) (fun h => k2 h out (by rw [← hf, if_neg h]) H locs ls hP hD hS hl)
theorem z_if_ge (hX : zIs V l cc own TT KK D cl tys nL R) {e1 e2 : Option (α × zS)} {x : Int32} {off : Int} {tgt : Nat} {inst : Decidable (x < 0)} (hd : decode cc pc = .ok (.ifCond .ge off, 3)) (ht : (pc : Int) + off = (tgt : Int)) (k1 : x < 0 → zJ V e1 w (pc + 3) lv st) (k2 : ¬ x < 0 → zJ V e2 w tgt lv st) : zJ V (if x < 0 then e1 else e2) w pc lv (.int x :: st) := by
  obtain ⟨p, e, s, m, args, below, meth, c, cells, slots, A, H0, Qo, rfl, hx, hb, hml, hown, hts, hKm, hKK, hK, hA, hcs⟩ := hX
  intro out hf H locs ls hP hD hS hl
  exact lv_if_ge hx hb hd ht (fun h => k2 (Int32.not_lt.mpr h) out (by rw [← hf, if_neg (Int32.not_lt.mpr h)]) H locs ls hP hD hS hl) (fun h => k1 (Int32.not_le.mp h) out (by rw [← hf, if_pos (Int32.not_le.mp h)]) H locs ls hP hD hS hl)
theorem z_if_gt (hX : zIs V l cc own TT KK D cl tys nL R) {e1 e2 : Option (α × zS)} {x : Int32} {off : Int} {tgt : Nat} {inst : Decidable (0 < x)} (hd : decode cc pc = .ok (.ifCond .gt off, 3)) (ht : (pc : Int) + off = (tgt : Int)) (k1 : 0 < x → zJ V e1 w tgt lv st) (k2 : ¬ 0 < x → zJ V e2 w (pc + 3) lv st) : zJ V (if 0 < x then e1 else e2) w pc lv (.int x :: st) := by
  obtain ⟨p, e, s, m, args, below, meth, c, cells, slots, A, H0, Qo, rfl, hx, hb, hml, hown, hts, hKm, hKK, hK, hA, hcs⟩ := hX
  intro out hf H locs ls hP hD hS hl
  exact lv_if_gt hx hb hd ht (fun h => k1 h out (by rw [← hf, if_pos h]) H locs ls hP hD hS hl) (fun h => k2 h out (by rw [← hf, if_neg h]) H locs ls hP hD hS hl)
theorem z_if_le (hX : zIs V l cc own TT KK D cl tys nL R) {e1 e2 : Option (α × zS)} {x : Int32} {off : Int} {tgt : Nat} {inst : Decidable (0 < x)} (hd : decode cc pc = .ok (.ifCond .le off, 3)) (ht : (pc : Int) + off = (tgt : Int)) (k1 : 0 < x → zJ V e1 w (pc + 3) lv st) (k2 : ¬ 0 < x → zJ V e2 w tgt lv st) : zJ V (if 0 < x then e1 else e2) w pc lv (.int x :: st) := by
  obtain ⟨p, e, s, m, args, below, meth, c, cells, slots, A, H0, Qo, rfl, hx, hb, hml, hown, hts, hKm, hKK, hK, hA, hcs⟩ := hX
  intro out hf H locs ls hP hD hS hl
  exact lv_if_le hx hb hd ht (fun h => k2 (Int32.not_lt.mpr h) out (by rw [← hf, if_neg (Int32.not_lt.mpr h)]) H locs ls hP hD hS hl) (fun h => k1 (Int32.not_le.mp h) out (by rw [← hf, if_pos (Int32.not_le.mp h)]) H locs ls hP hD hS hl)
theorem z_icmp_eq (hX : zIs V l cc own TT KK D cl tys nL R) {e1 e2 : Option (α × zS)} {x y : Int32} {off : Int} {tgt : Nat} {inst : Decidable (x = y)} (hd : decode cc pc = .ok (.if_icmp .eq off, 3)) (ht : (pc : Int) + off = (tgt : Int)) (k1 : x = y → zJ V e1 w tgt lv st) (k2 : ¬ x = y → zJ V e2 w (pc + 3) lv st) : zJ V (if x = y then e1 else e2) w pc lv (.int y :: .int x :: st) := by
  obtain ⟨p, e, s, m, args, below, meth, c, cells, slots, A, H0, Qo, rfl, hx, hb, hml, hown, hts, hKm, hKK, hK, hA, hcs⟩ := hX
  intro out hf H locs ls hP hD hS hl
  exact lv_icmp_eq hx hb hd ht (fun h => k1 h out (by rw [← hf, if_pos h]) H locs ls hP hD hS hl) (fun h => k2 h out (by rw [← hf, if_neg h]) H locs ls hP hD hS hl)
theorem z_icmp_ne (hX : zIs V l cc own TT KK D cl tys nL R) {e1 e2 : Option (α × zS)} {x y : Int32} {off : Int} {tgt : Nat} {inst : Decidable (x = y)} (hd : decode cc pc = .ok (.if_icmp .ne off, 3)) (ht : (pc : Int) + off = (tgt : Int)) (k1 : x = y → zJ V e1 w (pc + 3) lv st) (k2 : ¬ x = y → zJ V e2 w tgt lv st) : zJ V (if x = y then e1 else e2) w pc lv (.int y :: .int x :: st) := by
  obtain ⟨p, e, s, m, args, below, meth, c, cells, slots, A, H0, Qo, rfl, hx, hb, hml, hown, hts, hKm, hKK, hK, hA, hcs⟩ := hX
  intro out hf H locs ls hP hD hS hl
  exact lv_icmp_ne hx hb hd ht (fun h => k2 h out (by rw [← hf, if_neg h]) H locs ls hP hD hS hl) (fun h => k1 h out (by rw [← hf, if_pos h]) H locs ls hP hD hS hl)
theorem z_icmp_lt (hX : zIs V l cc own TT KK D cl tys nL R) {e1 e2 : Option (α × zS)} {x y : Int32} {off : Int} {tgt : Nat} {inst : Decidable (x < y)} (hd : decode cc pc = .ok (.if_icmp .lt off, 3)) (ht : (pc : Int) + off = (tgt : Int)) (k1 : x < y → zJ V e1 w tgt lv st) (k2 : ¬ x < y → zJ V e2 w (pc + 3) lv st) : zJ V (if x < y then e1 else e2) w pc lv (.int y :: .int x :: st) := by
  obtain ⟨p, e, s, m, args, below, meth, c, cells, slots, A, H0, Qo, rfl, hx, hb, hml, hown, hts, hKm, hKK, hK, hA, hcs⟩ := hX
  intro out hf H locs ls hP hD hS hl
  exact lv_icmp_lt hx hb hd ht (fun h => k1 h out (by rw [← hf, if_pos h]) H locs ls hP hD hS hl) (fun h => k2 h out (by rw [← hf, if_neg h]) H locs ls hP hD hS hl)
theorem z_icmp_ge (hX : zIs V l cc own TT KK D cl tys nL R) {e1 e2 : Option (α × zS)} {x y : Int32} {off : Int} {tgt : Nat} {inst : Decidable (x < y)} (hd : decode cc pc = .ok (.if_icmp .ge off, 3)) (ht : (pc : Int) + off = (tgt : Int)) (k1 : x < y → zJ V e1 w (pc + 3) lv st) (k2 : ¬ x < y → zJ V e2 w tgt lv st) : zJ V (if x < y then e1 else e2) w pc lv (.int y :: .int x :: st) := by
  obtain ⟨p, e, s, m, args, below, meth, c, cells, slots, A, H0, Qo, rfl, hx, hb, hml, hown, hts, hKm, hKK, hK, hA, hcs⟩ := hX
  intro out hf H locs ls hP hD hS hl
  exact lv_icmp_ge hx hb hd ht (fun h => k2 (Int32.not_lt.mpr h) out (by rw [← hf, if_neg (Int32.not_lt.mpr h)]) H locs ls hP hD hS hl) (fun h => k1 (Int32.not_le.mp h) out (by rw [← hf, if_pos (Int32.not_le.mp h)]) H locs ls hP hD hS hl)
theorem z_icmp_gt (hX : zIs V l cc own TT KK D cl tys nL R) {e1 e2 : Option (α × zS)} {x y : Int32} {off : Int} {tgt : Nat} {inst : Decidable (y < x)} (hd : decode cc pc = .ok (.if_icmp .gt off, 3)) (ht : (pc : Int) + off = (tgt : Int)) (k1 : y < x → zJ V e1 w tgt lv st) (k2 : ¬ y < x → zJ V e2 w (pc + 3) lv st) : zJ V (if y < x then e1 else e2) w pc lv (.int y :: .int x :: st) := by
  obtain ⟨p, e, s, m, args, below, meth, c, cells, slots, A, H0, Qo, rfl, hx, hb, hml, hown, hts, hKm, hKK, hK, hA, hcs⟩ := hX
  intro out hf H locs ls hP hD hS hl
  exact lv_icmp_gt hx hb hd ht (fun h => k1 h out (by rw [← hf, if_pos h]) H locs ls hP hD hS hl) (fun h => k2 h out (by rw [← hf, if_neg h]) H locs ls hP hD hS hl)
theorem z_icmp_le (hX : zIs V l cc own TT KK D cl tys nL R) {e1 e2 : Option (α × zS)} {x y : Int32} {off : Int} {tgt : Nat} {inst : Decidable (y < x)} (hd : decode cc pc = .ok (.if_icmp .le off, 3)) (ht : (pc : Int) + off = (tgt : Int)) (k1 : y < x → zJ V e1 w (pc + 3) lv st) (k2 : ¬ y < x → zJ V e2 w tgt lv st) : zJ V (if y < x then e1 else e2) w pc lv (.int y :: .int x :: st) := by
  obtain ⟨p, e, s, m, args, below, meth, c, cells, slots, A, H0, Qo, rfl, hx, hb, hml, hown, hts, hKm, hKK, hK, hA, hcs⟩ := hX
  intro out hf H locs ls hP hD hS hl
  exact lv_icmp_le hx hb hd ht (fun h => k2 (Int32.not_lt.mpr h) out (by rw [← hf, if_neg (Int32.not_lt.mpr h)]) H locs ls hP hD hS hl) (fun h => k1 (Int32.not_le.mp h) out (by rw [← hf, if_pos (Int32.not_le.mp h)]) H locs ls hP hD hS hl)
/-- a question that the machine asks later on: both ways at one place -/
theorem z_by {c : Prop} {inst : Decidable c} {e1 e2 : Option (α × zS)} (k1 : c → zJ V e1 w pc lv st) (k2 : ¬ c → zJ V e2 w pc lv st) : zJ V (if c then e1 else e2) w pc lv st := by
  intro out hf
  by_cases h : c
  · exact k1 h out (by rw [← hf, if_pos h])
  · exact k2 h out (by rw [← hf, if_neg h])
/-- a guard -/
theorem z_gd {b : Bool} (k : b = true → zJ V f w pc lv st) : zJ V (zgd b f) w pc lv st := by
  intro out hf
  cases hb : b with
  | true => rw [hb] at hf; exact k hb out hf
  | false => rw [hb] at hf; cases hf
theorem z_none : zJ V none w pc lv st := fun out hf => by cases hf
theorem z_tabIn (hX : zIs V l cc own TT KK D cl tys nL R) {dflt lo hi : Int} {offs : Array Int} {len : Nat} {x : Int32} {off : Int} {tgt : Nat} (hd : decode cc pc = .ok (.tableswitch dflt lo hi offs, len)) (h1 : ¬ x.toInt < lo) (h2 : ¬ hi < x.toInt) (ho : offs[(x.toInt - lo).toNat]? = some off) (ht : (pc : Int) + off = (tgt : Int)) (k : zJ V f w tgt lv st) : zJ V f w pc lv (.int x :: st) := by
  obtain ⟨p, e, s, m, args, below, meth, c, cells, slots, A, H0, Qo, rfl, hx, hb, hml, hown, hts, hKm, hKK, hK, hA, hcs⟩ := hX
  intro out hf H locs ls hP hD hS hl
  exact lv_tableIn hx hb hd h1 h2 ho ht (k out hf H locs ls hP hD hS hl)
theorem z_tabOut (hX : zIs V l cc own TT KK D cl tys nL R) {dflt lo hi : Int} {offs : Array Int} {len : Nat} {x : Int32} {tgt : Nat} (hd : decode cc pc = .ok (.tableswitch dflt lo hi offs, len)) (h : x.toInt < lo ∨ hi < x.toInt) (ht : (pc : Int) + dflt = (tgt : Int)) (k : zJ V f w tgt lv st) : zJ V f w pc lv (.int x :: st) := by
  obtain ⟨p, e, s, m, args, below, meth, c, cells, slots, A, H0, Qo, rfl, hx, hb, hml, hown, hts, hKm, hKK, hK, hA, hcs⟩ := hX
  intro out hf H locs ls hP hD hS hl
  exact lv_tableOut hx hb hd h ht (k out hf H locs ls hP hD hS hl)
theorem z_ldc (hX : zIs V l cc own TT KK D cl tys nL R) {index : Nat} {v : Int32} (hc : Cond.constant own index v ∈ TT) (hd : decode cc pc = .ok (.ldc index, 2)) (k : zJ V f w (pc + 2) lv (.int v :: st)) : zJ V f w pc lv st := by
  obtain ⟨p, e, s, m, args, below, meth, c, cells, slots, A, H0, Qo, rfl, hx, hb, hml, hown, hts, hKm, hKK, hK, hA, hcs⟩ := hX
  intro out hf H locs ls hP hD hS hl
  exact lv_ldc hx hb hown (hts _ hc) hd (k out hf H locs ls hP hD hS hl)
theorem z_ldcw (hX : zIs V l cc own TT KK D cl tys nL R) {index : Nat} {v : Int32} (hc : Cond.constant own index v ∈ TT) (hd : decode cc pc = .ok (.ldc_w index, 3)) (k : zJ V f w (pc + 3) lv (.int v :: st)) : zJ V f w pc lv st := by
  obtain ⟨p, e, s, m, args, below, meth, c, cells, slots, A, H0, Qo, rfl, hx, hb, hml, hown, hts, hKm, hKK, hK, hA, hcs⟩ := hX
  intro out hf H locs ls hP hD hS hl
  exact lv_ldcw hx hb hown (hts _ hc) hd (k out hf H locs ls hP hD hS hl)
theorem z_ldc2 (hX : zIs V l cc own TT KK D cl tys nL R) {index : Nat} {v : Int64} (hc : Cond.constantLong own index v ∈ TT) (hd : decode cc pc = .ok (.ldc2_w index, 3)) (k : zJ V f w (pc + 3) lv (.long v :: st)) : zJ V f w pc lv st := by
  obtain ⟨p, e, s, m, args, below, meth, c, cells, slots, A, H0, Qo, rfl, hx, hb, hml, hown, hts, hKm, hKK, hK, hA, hcs⟩ := hX
  intro out hf H locs ls hP hD hS hl
  exact lv_ldc2 hx hb hown (hts _ hc) hd (k out hf H locs ls hP hD hS hl)
theorem z_get (hX : zIs V l cc own TT KK D cl tys nL R) {C : String} {T : u_T} {N ci index a : Nat} {fs : List Value} {v : Value} (hin : ∀ w ∈ u_ws C T N, w ∈ TT) (q0 : Nat) (he : w[q0]? = some (a, .inr (ci, fs))) (hc : cl[ci]? = some (C, T, N)) (k0 : Nat) (hk : k0 < N) (hlink : Cond.fieldLink own index (T k0).1 (T k0).2.1 (T k0).2.2.1 ∈ TT) (hv : fs[k0]? = some v) (hd : decode cc pc = .ok (.getfield index, 3)) (k : zJ V f w (pc + 3) lv (v :: st)) : zJ V f w pc lv (.ref a :: st) := by
  obtain ⟨p, e, s, m, args, below, meth, c, cells, slots, A, H0, Qo, rfl, hx, hb, hml, hown, hts, hKm, hKK, hK, hA, hcs⟩ := hX
  intro out hf H locs ls hP hD hS hl
  exact va_get hx hb hts hin hown hK hP q0 he hc k0 hk (hts _ hlink) (fun _ h => h) hv hd (k out hf H locs ls hP hD hS hl)
theorem z_put (hX : zIs V l cc own TT KK D cl tys nL R) {C : String} {T : u_T} {N ci index a : Nat} {fs : List Value} {v : Value} {wl : zS → va_W} {ex : va_W} {x9 : zS} {f9 : zS → Option (α × zS)} (hin : ∀ w ∈ u_ws C T N, w ∈ TT) (ty0 : Nat → FieldType) (hty : ∀ k, k < N → parseFieldDescriptor (T k).2.2.1 = some (ty0 k)) (hnm : ∀ a, a < N → ∀ b, b < N → a ≠ b → (T a).2.1 ≠ (T b).2.1) (q0 : Nat) (he : w[q0]? = some (a, .inr (ci, fs))) (hc : cl[ci]? = some (C, T, N)) (k0 : Nat) (hk : k0 < N) (hlink : Cond.fieldLink own index (T k0).1 (T k0).2.1 (T k0).2.2.1 ∈ TT) (hfin : (T k0).2.2.2 = false) (hn : narrow (ty0 k0) v = v) (hfit : fits (ty0 k0) v = true) (hl : k0 < fs.length) (hw : w.set q0 (a, .inr (ci, fs.set k0 v)) = wl x9 ++ ex) (hd : decode cc pc = .ok (.putfield index, 3)) (k : ∀ s9 : zS, zJ V (f9 s9) (wl s9 ++ ex) (pc + 3) lv st) : zJ V (zst x9 f9) w pc lv (v :: .ref a :: st) := by
  obtain ⟨p, e, s, m, args, below, meth, c, cells, slots, A, H0, Qo, rfl, hx, hb, hml, hown, hts, hKm, hKK, hK, hA, hcs⟩ := hX
  intro out hf H locs ls hP hD hS hl9
  exact va_put hx hb hts hin ty0 hty hnm hown hK hP hD hS q0 he hc k0 hk (hts _ hlink) (fun _ h => h) hfin (hty k0 hk) hn hfit hl hd (fun H1 locs1 h1 h2 h3 => k x9 out hf H1 locs1 ls (by rw [← hw]; exact h1) (by rw [← hw]; exact h2) h3 hl9)
theorem z_iald (hX : zIs V l cc own TT KK D cl tys nL R) {a n : Nat} {cA : ClassId} {g : Nat → Int32} {i : Int32} (q0 t0 : Nat) (ha : w[q0]? = some (a, .inl (cA, n, .inl g))) (ht : tys[t0]? = some (cA, .int)) (hd : decode cc pc = .ok (.iaload, 1)) (k : zJ V f w (pc + 1) lv (.int (g i.toNatClampNeg) :: st)) : zJ V (zgd (zin i n) f) w pc lv (.int i :: .ref a :: st) := by
  refine z_gd (fun hi => ?_)
  obtain ⟨p, e, s, m, args, below, meth, c, cells, slots, A, H0, Qo, rfl, hx, hb, hml, hown, hts, hKm, hKK, hK, hA, hcs⟩ := hX
  intro out hf H locs ls hP hD hS hl
  exact va_iald hx hb hK hP q0 t0 ha ht (zin_vp hi) hd (k out hf H locs ls hP hD hS hl)
theorem z_zald (hX : zIs V l cc own TT KK D cl tys nL R) {a n : Nat} {cA : ClassId} {g : Nat → Int32} {i : Int32} (q0 t0 : Nat) (ha : w[q0]? = some (a, .inl (cA, n, .inl g))) (ht : tys[t0]? = some (cA, .boolean)) (hd : decode cc pc = .ok (.baload, 1)) (k : zJ V f w (pc + 1) lv (.int (g i.toNatClampNeg) :: st)) : zJ V (zgd (zin i n) f) w pc lv (.int i :: .ref a :: st) := by
  refine z_gd (fun hi => ?_)
  obtain ⟨p, e, s, m, args, below, meth, c, cells, slots, A, H0, Qo, rfl, hx, hb, hml, hown, hts, hKm, hKK, hK, hA, hcs⟩ := hX
  intro out hf H locs ls hP hD hS hl
  exact va_zald hx hb hK hP q0 t0 ha ht (zin_vp hi) hd (k out hf H locs ls hP hD hS hl)
theorem z_bald (hX : zIs V l cc own TT KK D cl tys nL R) {a n : Nat} {cA : ClassId} {g : Nat → Int32} {i : Int32} (q0 t0 : Nat) (ha : w[q0]? = some (a, .inl (cA, n, .inl g))) (ht : tys[t0]? = some (cA, .byte)) (hd : decode cc pc = .ok (.baload, 1)) (k : zJ V f w (pc + 1) lv (.int (g i.toNatClampNeg) :: st)) : zJ V (zgd (zin i n) f) w pc lv (.int i :: .ref a :: st) := by
  refine z_gd (fun hi => ?_)
  obtain ⟨p, e, s, m, args, below, meth, c, cells, slots, A, H0, Qo, rfl, hx, hb, hml, hown, hts, hKm, hKK, hK, hA, hcs⟩ := hX
  intro out hf H locs ls hP hD hS hl
  exact va_bald hx hb hK hP q0 t0 ha ht (zin_vp hi) hd (k out hf H locs ls hP hD hS hl)
theorem z_lald (hX : zIs V l cc own TT KK D cl tys nL R) {a n : Nat} {cA : ClassId} {g : Nat → Int64} {i : Int32} (q0 t0 : Nat) (ha : w[q0]? = some (a, .inl (cA, n, .inr (.inl g)))) (ht : tys[t0]? = some (cA, .long)) (hd : decode cc pc = .ok (.laload, 1)) (k : zJ V f w (pc + 1) lv (.long (g i.toNatClampNeg) :: st)) : zJ V (zgd (zin i n) f) w pc lv (.int i :: .ref a :: st) := by
  refine z_gd (fun hi => ?_)
  obtain ⟨p, e, s, m, args, below, meth, c, cells, slots, A, H0, Qo, rfl, hx, hb, hml, hown, hts, hKm, hKK, hK, hA, hcs⟩ := hX
  intro out hf H locs ls hP hD hS hl
  exact va_lald hx hb hK hP q0 t0 ha ht (zin_vp hi) hd (k out hf H locs ls hP hD hS hl)
theorem z_iast (hX : zIs V l cc own TT KK D cl tys nL R) {a n : Nat} {cA : ClassId} {g : Nat → Int32} {i : Int32} {x : Int32} {wl : zS → va_W} {ex : va_W} {x9 : zS} {f9 : zS → Option (α × zS)} (q0 t0 : Nat) (ha : w[q0]? = some (a, .inl (cA, n, .inl g))) (ht : tys[t0]? = some (cA, .int)) (hw : w.set q0 (a, .inl (cA, n, .inl (upd g i.toNatClampNeg x))) = wl x9 ++ ex) (hd : decode cc pc = .ok (.iastore, 1)) (k : ∀ s9 : zS, zJ V (f9 s9) (wl s9 ++ ex) (pc + 1) lv st) : zJ V (zgd (zin i n) (zst x9 f9)) w pc lv (.int x :: .int i :: .ref a :: st) := by
  refine z_gd (fun hi => ?_)
  obtain ⟨p, e, s, m, args, below, meth, c, cells, slots, A, H0, Qo, rfl, hx, hb, hml, hown, hts, hKm, hKK, hK, hA, hcs⟩ := hX
  intro out hf H locs ls hP hD hS hl
  exact va_iast hx hb hK hP hD hS q0 t0 ha ht (zin_vp hi) hd (fun H1 locs1 h1 h2 h3 => k x9 out hf H1 locs1 ls (by rw [← hw]; exact h1) (by rw [← hw]; exact h2) h3 hl)
theorem z_zast (hX : zIs V l cc own TT KK D cl tys nL R) {a n : Nat} {cA : ClassId} {g : Nat → Int32} {i : Int32} {x : Int32} {wl : zS → va_W} {ex : va_W} {x9 : zS} {f9 : zS → Option (α × zS)} (q0 t0 : Nat) (ha : w[q0]? = some (a, .inl (cA, n, .inl g))) (ht : tys[t0]? = some (cA, .boolean)) (hw : w.set q0 (a, .inl (cA, n, .inl (upd g i.toNatClampNeg (vp_nar .boolean x)))) = wl x9 ++ ex) (hd : decode cc pc = .ok (.bastore, 1)) (k : ∀ s9 : zS, zJ V (f9 s9) (wl s9 ++ ex) (pc + 1) lv st) : zJ V (zgd (zin i n) (zst x9 f9)) w pc lv (.int x :: .int i :: .ref a :: st) := by
  refine z_gd (fun hi => ?_)
  obtain ⟨p, e, s, m, args, below, meth, c, cells, slots, A, H0, Qo, rfl, hx, hb, hml, hown, hts, hKm, hKK, hK, hA, hcs⟩ := hX
  intro out hf H locs ls hP hD hS hl
  exact va_zast hx hb hK hP hD hS q0 t0 ha ht (zin_vp hi) hd (fun H1 locs1 h1 h2 h3 => k x9 out hf H1 locs1 ls (by rw [← hw]; exact h1) (by rw [← hw]; exact h2) h3 hl)
theorem z_bast (hX : zIs V l cc own TT KK D cl tys nL R) {a n : Nat} {cA : ClassId} {g : Nat → Int32} {i : Int32} {x : Int32} {wl : zS → va_W} {ex : va_W} {x9 : zS} {f9 : zS → Option (α × zS)} (q0 t0 : Nat) (ha : w[q0]? = some (a, .inl (cA, n, .inl g))) (ht : tys[t0]? = some (cA, .byte)) (hw : w.set q0 (a, .inl (cA, n, .inl (upd g i.toNatClampNeg (vp_nar .byte x)))) = wl x9 ++ ex) (hd : decode cc pc = .ok (.bastore, 1)) (k : ∀ s9 : zS, zJ V (f9 s9) (wl s9 ++ ex) (pc + 1) lv st) : zJ V (zgd (zin i n) (zst x9 f9)) w pc lv (.int x :: .int i :: .ref a :: st) := by
  refine z_gd (fun hi => ?_)
  obtain ⟨p, e, s, m, args, below, meth, c, cells, slots, A, H0, Qo, rfl, hx, hb, hml, hown, hts, hKm, hKK, hK, hA, hcs⟩ := hX
  intro out hf H locs ls hP hD hS hl
  exact va_bast hx hb hK hP hD hS q0 t0 ha ht (zin_vp hi) hd (fun H1 locs1 h1 h2 h3 => k x9 out hf H1 locs1 ls (by rw [← hw]; exact h1) (by rw [← hw]; exact h2) h3 hl)
theorem z_last (hX : zIs V l cc own TT KK D cl tys nL R) {a n : Nat} {cA : ClassId} {g : Nat → Int64} {i : Int32} {x : Int64} {wl : zS → va_W} {ex : va_W} {x9 : zS} {f9 : zS → Option (α × zS)} (q0 t0 : Nat) (ha : w[q0]? = some (a, .inl (cA, n, .inr (.inl g)))) (ht : tys[t0]? = some (cA, .long)) (hw : w.set q0 (a, .inl (cA, n, .inr (.inl (vp_updL g i.toNatClampNeg x)))) = wl x9 ++ ex) (hd : decode cc pc = .ok (.lastore, 1)) (k : ∀ s9 : zS, zJ V (f9 s9) (wl s9 ++ ex) (pc + 1) lv st) : zJ V (zgd (zin i n) (zst x9 f9)) w pc lv (.long x :: .int i :: .ref a :: st) := by
  refine z_gd (fun hi => ?_)
  obtain ⟨p, e, s, m, args, below, meth, c, cells, slots, A, H0, Qo, rfl, hx, hb, hml, hown, hts, hKm, hKK, hK, hA, hcs⟩ := hX
  intro out hf H locs ls hP hD hS hl
  exact va_last hx hb hK hP hD hS q0 t0 ha ht (zin_vp hi) hd (fun H1 locs1 h1 h2 h3 => k x9 out hf H1 locs1 ls (by rw [← hw]; exact h1) (by rw [← hw]; exact h2) h3 hl)
end ZR
section ZE
variable {cc : ByteArray} {wl : zS → va_W} {ex : va_W} {σ : zS} {pc : Nat} {lv : List (Nat × Value)}
theorem z_iret {V : zV Int32} {r : Int32} (hR : zRi V cc wl ex) (hd : decode cc pc = .ok (.ireturn, 1)) : zJ V (some (r, σ)) (wl σ ++ ex) pc lv [.int r] := fun out hf => by cases hf; exact hR σ r pc lv hd
theorem z_zret {V : zV Int32} {r : Int32} (hR : zRz V cc wl ex) (hn : narrow .boolean (.int r) = .int r) (hd : decode cc pc = .ok (.ireturn, 1)) : zJ V (some (r, σ)) (wl σ ++ ex) pc lv [.int r] := fun out hf => by cases hf; exact hR σ r pc lv hn hd
def zbo (r : Int32) : Bool := decide (r = 0 ∨ r = 1)
theorem zbo_n {r : Int32} (h : zbo r = true) : narrow .boolean (.int r) = .int r := by
  rcases (of_decide_eq_true h : r = 0 ∨ r = 1) with rfl | rfl <;> rfl
theorem z_zretg {V : zV Int32} {r : Int32} (hR : zRz V cc wl ex) (hd : decode cc pc = .ok (.ireturn, 1)) : zJ V (zgd (zbo r) (some (r, σ))) (wl σ ++ ex) pc lv [.int r] := z_gd (fun h => z_zret hR (zbo_n h) hd)
theorem z_lret {V : zV Int64} {r : Int64} (hR : zRl V cc wl ex) (hd : decode cc pc = .ok (.lreturn, 1)) : zJ V (some (r, σ)) (wl σ ++ ex) pc lv [.long r] := fun out hf => by cases hf; exact hR σ r pc lv hd
theorem z_vret {V : zV Unit} (hR : zRv V cc wl ex) (hd : decode cc pc = .ok (.return_, 1)) : zJ V (some ((), σ)) (wl σ ++ ex) pc lv [] := fun out hf => by cases hf; exact hR σ pc lv hd
end ZE
section ZCALL
variable {p : Program} {l : Launch} {e : Env} {R : Room} {s : State} {m : MethodId} {args : Array Value} {below : List Frame} {meth : Method} {c : Code} {H : Heap} {locs : List Loc} {cells slots : Nat} {Q : State → Prop}
theorem z_call {β : Type} {em : β → Option Value} {pc : Nat} {ls : Array Slot} {rest st0 : List Value} {D : va_G} {cl : List vw_C} {w w1 : va_W} {A : Nat → Prop} {H0 : Heap} {r : β}
    (hr : va_Run p l e R s m args below meth c H locs cells slots 0 0 (F0 m pc ls st0) rest (fun st oc t => (oc = .returned (em r) ∧ va_P D cl w1 t.heap ∧ va_D (va_A w H.size) w1) ∧ va_F (va_A w H.size) st t) (va_A w H.size))
    (hD : va_D A w) (hS : va_S A H0 H locs) (hA : ∀ q, H0.size ≤ q → A q)
    (kk : ∀ (H1 : Heap) (locs1 : List Loc), va_P D cl w1 H1 → va_D A w1 → va_S A H0 H1 locs1 → W p l e R s m args below meth c H1 locs1 cells slots Q (F0 m (pc + 3) ls ((em r).toList ++ rest))) : W p l e R s m args below meth c H locs cells slots Q (F0 m pc ls st0) := by
  intro T hT X
  obtain ⟨v, st₀, t, T', L, h0, X', hL, e1, e2, ⟨⟨hv, hp, hd⟩, hz, hk⟩, st⟩ := hr T hT X
  have hv := Outcome.returned.inj hv
  subst hv
  rw [h0] at hz hk
  have hAA : ∀ q, va_A w H.size q → A q := fun q h => by
    rcases h with ⟨k, e9, h⟩ | h
    · exact hD.2 k (q, e9) h
    · exact hA q (Nat.le_trans hS.1 h)
  obtain ⟨t2, a1, b1⟩ := kk T'.heap (locs ++ L) (by rw [e1]; exact hp) (hd.weaken (fun k q _ h => hAA q.1 h))
    ⟨Nat.le_trans hS.1 (by rw [e1]; exact hz), fun q h1 h2 => by rw [e1, hk q (Nat.lt_of_lt_of_le h1 hS.1) (fun z => h2 (hAA q z))]; exact hS.2.1 q h1 h2, fun q hq => by
      rcases List.mem_append.mp hq with h | h
      · exact hS.2.2 q h
      · exact hAA _ (hL q h)⟩ T' rfl X'
  exact ⟨t2, st t2 a1, b1⟩
end ZCALL
theorem zb_some {β γ : Type} {x : Option (β × zS)} {k : β → zS → Option γ} {out : γ} (h : zb x k = some out) : ∃ (r : β) (σ1 : zS), x = some (r, σ1) ∧ k r σ1 = some out := by
  cases x with
  | none => cases h
  | some o => exact ⟨o.1, o.2, rfl, h⟩
/-- words of a list that holds good words alone -/
theorem z_good {big ws : List Cond} (hb : ∀ w ∈ big, goodWord w = true) (h : ∀ w ∈ ws, w ∈ big) : GoodIn big ws := fun w hw => ⟨h w hw, good_of_word (hb w (h w hw))⟩
section ZCR
variable {α : Type} {V : zV α} {l : Launch} {cc : ByteArray} {own : String} {TT : List Cond} {KK : State → Prop} {D : va_G} {cl : List vw_C} {tys : List (ClassId × FieldType)} {nL : Nat} {R : Room} {pc : Nat} {lv : List (Nat × Value)} {st rest : List Value} {wl : zS → va_W} {σ : zS} {ex : va_W} {y : MethodName} {bytes : ByteArray} {maxL index : Nat} {ret : Option FieldType} {rm : Room}

theorem z_callVi (hX : zIs V l cc own TT KK D cl tys nL R) {fC : Option (Int32 × zS)} {k : Int32 → zS → Option (α × zS)} {C : String} {b ci : Nat} {fs : List Value} {cv : vw_C} {n : Nat} (As : List Value) (hM : zC zemI l y (Cond.code y bytes maxL ret :: TT) rm D cl KK wl σ (.ref b :: As) fC) (hT : GoodIn TT (wsV own index C y (Cond.code y bytes maxL ret :: TT))) (hrm : rm.cells = 0 ∧ rm.slots = 0) (hR : rm.frames + 1 ≤ R.frames ∧ 8 + (maxL + 11) + rm.locals ≤ R.locals) (hd : y.cls = C ∧ y.cls ≠ "java/lang/invoke/MethodHandle" ∧ y.cls ≠ "java/lang/invoke/VarHandle" ∧ (parseMethodDescriptor y.desc).map (fun d => d.parameters.length) = some n) (hn : As.length = n)
    (q0 : Nat) (hq : (wl σ ++ ex)[q0]? = some (b, .inr (ci, fs))) (hc : cl[ci]? = some cv) (hcv : cv.1 = C) (hst : st = As.reverse ++ .ref b :: rest) (hW : (rest.map fun v => v.category).sum ≤ 8) (hdg : decode cc pc = .ok (.invokevirtual index, 3))
    (kk : ∀ (r : Int32) (σ1 : zS), zJ V (k r σ1) (wl σ1 ++ ex) (pc + 3) lv (.int r :: rest)) : zJ V (zb fC k) (wl σ ++ ex) pc lv st := by
  obtain ⟨p, e, s, m, args, below, meth, c, cells, slots, A, H0, Qo, rfl, hx, hb, hml, hown, hts, hKm, hKK, hK, hA, hcs⟩ := hX
  intro out hf
  obtain ⟨r, σ1, hfc, hk⟩ := zb_some hf
  intro H locs ls hP hD hS hl
  have hMr := hM (r, σ1) ex H.size hfc
  subst hst
  subst hcv
  exact z_call (em := zemI) (w := wl σ ++ ex) (w1 := wl σ1 ++ ex) (r := r) (va_runV (As := As) (rest := rest) ⟨hx, hb, hml, hown, hts⟩ hMr (cwV n hts hT rfl hrm.1 hrm.2 hd hR) ⟨fun a U g mk q => by obtain ⟨q0, q1, qP, qK, qD⟩ := q; exact ⟨q0, q1, qP, hKm.2 U g mk a qK, qD⟩, va_recv hK hP hc hq, fun U hU hW => ⟨rfl, by rw [hU], by rw [hU]; exact hP, hKm.1 _ U hW hKK, hD.weaken (fun _ _ _ _ => trivial)⟩⟩ rfl hn hl.1 rfl (lv_room hW) hdg ⟨by rw [Nat.add_zero]; exact hcs.1, by rw [Nat.add_zero]; exact hcs.2⟩) hD hS hA (fun H1 locs1 h1 h2 h3 => kk r σ1 out hk H1 locs1 ls h1 h2 h3 hl)
theorem z_callSi (hX : zIs V l cc own TT KK D cl tys nL R) {fC : Option (Int32 × zS)} {k : Int32 → zS → Option (α × zS)} {n : Nat} (As : List Value) (hM : zC zemI l y (Cond.code y bytes maxL ret :: TT) rm D cl KK wl σ As fC) (hT : GoodIn TT (va_wsS own index y (Cond.code y bytes maxL ret :: TT))) (hrm : rm.cells = 0 ∧ rm.slots = 0) (hR : rm.frames + 1 ≤ R.frames ∧ 8 + (maxL + 11) + rm.locals ≤ R.locals) (hd : y.cls ≠ "java/lang/invoke/MethodHandle" ∧ y.cls ≠ "java/lang/invoke/VarHandle" ∧ (parseMethodDescriptor y.desc).map (fun d => d.parameters.length) = some n) (hn : As.length = n)
    (hst : st = As.reverse ++ rest) (hW : (rest.map fun v => v.category).sum ≤ 8) (hdg : decode cc pc = .ok (.invokestatic index, 3))
    (kk : ∀ (r : Int32) (σ1 : zS), zJ V (k r σ1) (wl σ1 ++ ex) (pc + 3) lv (.int r :: rest)) : zJ V (zb fC k) (wl σ ++ ex) pc lv st := by
  obtain ⟨p, e, s, m, args, below, meth, c, cells, slots, A, H0, Qo, rfl, hx, hb, hml, hown, hts, hKm, hKK, hK, hA, hcs⟩ := hX
  intro out hf
  obtain ⟨r, σ1, hfc, hk⟩ := zb_some hf
  intro H locs ls hP hD hS hl
  have hMr := hM (r, σ1) ex H.size hfc
  subst hst
  exact z_call (em := zemI) (w := wl σ ++ ex) (w1 := wl σ1 ++ ex) (r := r) (va_runS (As := As) (rest := rest) ⟨hx, hb, hml, hown, hts⟩ hMr (va_cwS n hts hT rfl hrm.1 hrm.2 hd hR) ⟨fun a U g mk q => by obtain ⟨q0, q1, qP, qK, qD⟩ := q; exact ⟨q0, q1, qP, hKm.2 U g mk a qK, qD⟩, fun U hU hW => ⟨rfl, by rw [hU], by rw [hU]; exact hP, hKm.1 _ U hW hKK, hD.weaken (fun _ _ _ _ => trivial)⟩⟩ rfl hn hl.1 rfl (lv_room hW) hdg ⟨by rw [Nat.add_zero]; exact hcs.1, by rw [Nat.add_zero]; exact hcs.2⟩) hD hS hA (fun H1 locs1 h1 h2 h3 => kk r σ1 out hk H1 locs1 ls h1 h2 h3 hl)
theorem z_callSNi (hX : zIs V l cc own TT KK D cl tys nL R) {fC : Option (Int32 × zS)} {k : Int32 → zS → Option (α × zS)} {host : String} {n : Nat} (As : List Value) (hM : zC zemI l y (Cond.code y bytes maxL ret :: TT) rm D cl KK wl σ As fC) (hG : GoodIn TT (Cond.code y bytes maxL ret :: TT)) (hN : ∀ U, KK U → va_Nw (.methodLinkNest own index y host) U) (hstat : Cond.static y ∈ TT) (hini : Cond.initialized y.cls ∈ TT) (hrm : rm.cells = 0 ∧ rm.slots = 0) (hR : rm.frames + 1 ≤ R.frames ∧ 8 + (maxL + 11) + rm.locals ≤ R.locals) (hd : y.cls ≠ "java/lang/invoke/MethodHandle" ∧ y.cls ≠ "java/lang/invoke/VarHandle" ∧ (parseMethodDescriptor y.desc).map (fun d => d.parameters.length) = some n) (hn : As.length = n)
    (hst : st = As.reverse ++ rest) (hW : (rest.map fun v => v.category).sum ≤ 8) (hdg : decode cc pc = .ok (.invokestatic index, 3))
    (kk : ∀ (r : Int32) (σ1 : zS), zJ V (k r σ1) (wl σ1 ++ ex) (pc + 3) lv (.int r :: rest)) : zJ V (zb fC k) (wl σ ++ ex) pc lv st := by
  obtain ⟨p, e, s, m, args, below, meth, c, cells, slots, A, H0, Qo, rfl, hx, hb, hml, hown, hts, hKm, hKK, hK, hA, hcs⟩ := hX
  intro out hf
  obtain ⟨r, σ1, hfc, hk⟩ := zb_some hf
  intro H locs ls hP hD hS hl
  have hMr := hM (r, σ1) ex H.size hfc
  subst hst
  exact z_call (em := zemI) (w := wl σ ++ ex) (w1 := wl σ1 ++ ex) (r := r) (va_runSN (As := As) (rest := rest) ⟨hx, hb, hml, hown, hts⟩ hMr ⟨va_cnB n hts hG rfl hrm.1 hrm.2 (hN s hKK) (hts _ hini) hd hR, hts _ hstat, trivial⟩ ⟨fun a U g mk q => by obtain ⟨q0, q1, qP, qK, qD⟩ := q; exact ⟨q0, q1, qP, hKm.2 U g mk a qK, qD⟩, fun U hU hW => ⟨rfl, by rw [hU], by rw [hU]; exact hP, hKm.1 _ U hW hKK, hD.weaken (fun _ _ _ _ => trivial)⟩⟩ rfl hn hl.1 rfl (lv_room hW) hdg ⟨by rw [Nat.add_zero]; exact hcs.1, by rw [Nat.add_zero]; exact hcs.2⟩) hD hS hA (fun H1 locs1 h1 h2 h3 => kk r σ1 out hk H1 locs1 ls h1 h2 h3 hl)

theorem z_callVl (hX : zIs V l cc own TT KK D cl tys nL R) {fC : Option (Int64 × zS)} {k : Int64 → zS → Option (α × zS)} {C : String} {b ci : Nat} {fs : List Value} {cv : vw_C} {n : Nat} (As : List Value) (hM : zC zemL l y (Cond.code y bytes maxL ret :: TT) rm D cl KK wl σ (.ref b :: As) fC) (hT : GoodIn TT (wsV own index C y (Cond.code y bytes maxL ret :: TT))) (hrm : rm.cells = 0 ∧ rm.slots = 0) (hR : rm.frames + 1 ≤ R.frames ∧ 8 + (maxL + 11) + rm.locals ≤ R.locals) (hd : y.cls = C ∧ y.cls ≠ "java/lang/invoke/MethodHandle" ∧ y.cls ≠ "java/lang/invoke/VarHandle" ∧ (parseMethodDescriptor y.desc).map (fun d => d.parameters.length) = some n) (hn : As.length = n)
    (q0 : Nat) (hq : (wl σ ++ ex)[q0]? = some (b, .inr (ci, fs))) (hc : cl[ci]? = some cv) (hcv : cv.1 = C) (hst : st = As.reverse ++ .ref b :: rest) (hW : (rest.map fun v => v.category).sum ≤ 8) (hdg : decode cc pc = .ok (.invokevirtual index, 3))
    (kk : ∀ (r : Int64) (σ1 : zS), zJ V (k r σ1) (wl σ1 ++ ex) (pc + 3) lv (.long r :: rest)) : zJ V (zb fC k) (wl σ ++ ex) pc lv st := by
  obtain ⟨p, e, s, m, args, below, meth, c, cells, slots, A, H0, Qo, rfl, hx, hb, hml, hown, hts, hKm, hKK, hK, hA, hcs⟩ := hX
  intro out hf
  obtain ⟨r, σ1, hfc, hk⟩ := zb_some hf
  intro H locs ls hP hD hS hl
  have hMr := hM (r, σ1) ex H.size hfc
  subst hst
  subst hcv
  exact z_call (em := zemL) (w := wl σ ++ ex) (w1 := wl σ1 ++ ex) (r := r) (va_runV (As := As) (rest := rest) ⟨hx, hb, hml, hown, hts⟩ hMr (cwV n hts hT rfl hrm.1 hrm.2 hd hR) ⟨fun a U g mk q => by obtain ⟨q0, q1, qP, qK, qD⟩ := q; exact ⟨q0, q1, qP, hKm.2 U g mk a qK, qD⟩, va_recv hK hP hc hq, fun U hU hW => ⟨rfl, by rw [hU], by rw [hU]; exact hP, hKm.1 _ U hW hKK, hD.weaken (fun _ _ _ _ => trivial)⟩⟩ rfl hn hl.1 rfl (lv_room hW) hdg ⟨by rw [Nat.add_zero]; exact hcs.1, by rw [Nat.add_zero]; exact hcs.2⟩) hD hS hA (fun H1 locs1 h1 h2 h3 => kk r σ1 out hk H1 locs1 ls h1 h2 h3 hl)
theorem z_callSl (hX : zIs V l cc own TT KK D cl tys nL R) {fC : Option (Int64 × zS)} {k : Int64 → zS → Option (α × zS)} {n : Nat} (As : List Value) (hM : zC zemL l y (Cond.code y bytes maxL ret :: TT) rm D cl KK wl σ As fC) (hT : GoodIn TT (va_wsS own index y (Cond.code y bytes maxL ret :: TT))) (hrm : rm.cells = 0 ∧ rm.slots = 0) (hR : rm.frames + 1 ≤ R.frames ∧ 8 + (maxL + 11) + rm.locals ≤ R.locals) (hd : y.cls ≠ "java/lang/invoke/MethodHandle" ∧ y.cls ≠ "java/lang/invoke/VarHandle" ∧ (parseMethodDescriptor y.desc).map (fun d => d.parameters.length) = some n) (hn : As.length = n)
    (hst : st = As.reverse ++ rest) (hW : (rest.map fun v => v.category).sum ≤ 8) (hdg : decode cc pc = .ok (.invokestatic index, 3))
    (kk : ∀ (r : Int64) (σ1 : zS), zJ V (k r σ1) (wl σ1 ++ ex) (pc + 3) lv (.long r :: rest)) : zJ V (zb fC k) (wl σ ++ ex) pc lv st := by
  obtain ⟨p, e, s, m, args, below, meth, c, cells, slots, A, H0, Qo, rfl, hx, hb, hml, hown, hts, hKm, hKK, hK, hA, hcs⟩ := hX
  intro out hf
  obtain ⟨r, σ1, hfc, hk⟩ := zb_some hf
  intro H locs ls hP hD hS hl
  have hMr := hM (r, σ1) ex H.size hfc
  subst hst
  exact z_call (em := zemL) (w := wl σ ++ ex) (w1 := wl σ1 ++ ex) (r := r) (va_runS (As := As) (rest := rest) ⟨hx, hb, hml, hown, hts⟩ hMr (va_cwS n hts hT rfl hrm.1 hrm.2 hd hR) ⟨fun a U g mk q => by obtain ⟨q0, q1, qP, qK, qD⟩ := q; exact ⟨q0, q1, qP, hKm.2 U g mk a qK, qD⟩, fun U hU hW => ⟨rfl, by rw [hU], by rw [hU]; exact hP, hKm.1 _ U hW hKK, hD.weaken (fun _ _ _ _ => trivial)⟩⟩ rfl hn hl.1 rfl (lv_room hW) hdg ⟨by rw [Nat.add_zero]; exact hcs.1, by rw [Nat.add_zero]; exact hcs.2⟩) hD hS hA (fun H1 locs1 h1 h2 h3 => kk r σ1 out hk H1 locs1 ls h1 h2 h3 hl)
theorem z_callSNl (hX : zIs V l cc own TT KK D cl tys nL R) {fC : Option (Int64 × zS)} {k : Int64 → zS → Option (α × zS)} {host : String} {n : Nat} (As : List Value) (hM : zC zemL l y (Cond.code y bytes maxL ret :: TT) rm D cl KK wl σ As fC) (hG : GoodIn TT (Cond.code y bytes maxL ret :: TT)) (hN : ∀ U, KK U → va_Nw (.methodLinkNest own index y host) U) (hstat : Cond.static y ∈ TT) (hini : Cond.initialized y.cls ∈ TT) (hrm : rm.cells = 0 ∧ rm.slots = 0) (hR : rm.frames + 1 ≤ R.frames ∧ 8 + (maxL + 11) + rm.locals ≤ R.locals) (hd : y.cls ≠ "java/lang/invoke/MethodHandle" ∧ y.cls ≠ "java/lang/invoke/VarHandle" ∧ (parseMethodDescriptor y.desc).map (fun d => d.parameters.length) = some n) (hn : As.length = n)
    (hst : st = As.reverse ++ rest) (hW : (rest.map fun v => v.category).sum ≤ 8) (hdg : decode cc pc = .ok (.invokestatic index, 3))
    (kk : ∀ (r : Int64) (σ1 : zS), zJ V (k r σ1) (wl σ1 ++ ex) (pc + 3) lv (.long r :: rest)) : zJ V (zb fC k) (wl σ ++ ex) pc lv st := by
  obtain ⟨p, e, s, m, args, below, meth, c, cells, slots, A, H0, Qo, rfl, hx, hb, hml, hown, hts, hKm, hKK, hK, hA, hcs⟩ := hX
  intro out hf
  obtain ⟨r, σ1, hfc, hk⟩ := zb_some hf
  intro H locs ls hP hD hS hl
  have hMr := hM (r, σ1) ex H.size hfc
  subst hst
  exact z_call (em := zemL) (w := wl σ ++ ex) (w1 := wl σ1 ++ ex) (r := r) (va_runSN (As := As) (rest := rest) ⟨hx, hb, hml, hown, hts⟩ hMr ⟨va_cnB n hts hG rfl hrm.1 hrm.2 (hN s hKK) (hts _ hini) hd hR, hts _ hstat, trivial⟩ ⟨fun a U g mk q => by obtain ⟨q0, q1, qP, qK, qD⟩ := q; exact ⟨q0, q1, qP, hKm.2 U g mk a qK, qD⟩, fun U hU hW => ⟨rfl, by rw [hU], by rw [hU]; exact hP, hKm.1 _ U hW hKK, hD.weaken (fun _ _ _ _ => trivial)⟩⟩ rfl hn hl.1 rfl (lv_room hW) hdg ⟨by rw [Nat.add_zero]; exact hcs.1, by rw [Nat.add_zero]; exact hcs.2⟩) hD hS hA (fun H1 locs1 h1 h2 h3 => kk r σ1 out hk H1 locs1 ls h1 h2 h3 hl)

theorem z_callVv (hX : zIs V l cc own TT KK D cl tys nL R) {fC : Option (Unit × zS)} {k : Unit → zS → Option (α × zS)} {C : String} {b ci : Nat} {fs : List Value} {cv : vw_C} {n : Nat} (As : List Value) (hM : zC zemV l y (Cond.code y bytes maxL ret :: TT) rm D cl KK wl σ (.ref b :: As) fC) (hT : GoodIn TT (wsV own index C y (Cond.code y bytes maxL ret :: TT))) (hrm : rm.cells = 0 ∧ rm.slots = 0) (hR : rm.frames + 1 ≤ R.frames ∧ 8 + (maxL + 11) + rm.locals ≤ R.locals) (hd : y.cls = C ∧ y.cls ≠ "java/lang/invoke/MethodHandle" ∧ y.cls ≠ "java/lang/invoke/VarHandle" ∧ (parseMethodDescriptor y.desc).map (fun d => d.parameters.length) = some n) (hn : As.length = n)
    (q0 : Nat) (hq : (wl σ ++ ex)[q0]? = some (b, .inr (ci, fs))) (hc : cl[ci]? = some cv) (hcv : cv.1 = C) (hst : st = As.reverse ++ .ref b :: rest) (hW : (rest.map fun v => v.category).sum ≤ 8) (hdg : decode cc pc = .ok (.invokevirtual index, 3))
    (kk : ∀ (r : Unit) (σ1 : zS), zJ V (k r σ1) (wl σ1 ++ ex) (pc + 3) lv (rest)) : zJ V (zb fC k) (wl σ ++ ex) pc lv st := by
  obtain ⟨p, e, s, m, args, below, meth, c, cells, slots, A, H0, Qo, rfl, hx, hb, hml, hown, hts, hKm, hKK, hK, hA, hcs⟩ := hX
  intro out hf
  obtain ⟨r, σ1, hfc, hk⟩ := zb_some hf
  intro H locs ls hP hD hS hl
  have hMr := hM (r, σ1) ex H.size hfc
  subst hst
  subst hcv
  exact z_call (em := zemV) (w := wl σ ++ ex) (w1 := wl σ1 ++ ex) (r := r) (va_runV (As := As) (rest := rest) ⟨hx, hb, hml, hown, hts⟩ hMr (cwV n hts hT rfl hrm.1 hrm.2 hd hR) ⟨fun a U g mk q => by obtain ⟨q0, q1, qP, qK, qD⟩ := q; exact ⟨q0, q1, qP, hKm.2 U g mk a qK, qD⟩, va_recv hK hP hc hq, fun U hU hW => ⟨rfl, by rw [hU], by rw [hU]; exact hP, hKm.1 _ U hW hKK, hD.weaken (fun _ _ _ _ => trivial)⟩⟩ rfl hn hl.1 rfl (lv_room hW) hdg ⟨by rw [Nat.add_zero]; exact hcs.1, by rw [Nat.add_zero]; exact hcs.2⟩) hD hS hA (fun H1 locs1 h1 h2 h3 => kk r σ1 out hk H1 locs1 ls h1 h2 h3 hl)
theorem z_callSv (hX : zIs V l cc own TT KK D cl tys nL R) {fC : Option (Unit × zS)} {k : Unit → zS → Option (α × zS)} {n : Nat} (As : List Value) (hM : zC zemV l y (Cond.code y bytes maxL ret :: TT) rm D cl KK wl σ As fC) (hT : GoodIn TT (va_wsS own index y (Cond.code y bytes maxL ret :: TT))) (hrm : rm.cells = 0 ∧ rm.slots = 0) (hR : rm.frames + 1 ≤ R.frames ∧ 8 + (maxL + 11) + rm.locals ≤ R.locals) (hd : y.cls ≠ "java/lang/invoke/MethodHandle" ∧ y.cls ≠ "java/lang/invoke/VarHandle" ∧ (parseMethodDescriptor y.desc).map (fun d => d.parameters.length) = some n) (hn : As.length = n)
    (hst : st = As.reverse ++ rest) (hW : (rest.map fun v => v.category).sum ≤ 8) (hdg : decode cc pc = .ok (.invokestatic index, 3))
    (kk : ∀ (r : Unit) (σ1 : zS), zJ V (k r σ1) (wl σ1 ++ ex) (pc + 3) lv (rest)) : zJ V (zb fC k) (wl σ ++ ex) pc lv st := by
  obtain ⟨p, e, s, m, args, below, meth, c, cells, slots, A, H0, Qo, rfl, hx, hb, hml, hown, hts, hKm, hKK, hK, hA, hcs⟩ := hX
  intro out hf
  obtain ⟨r, σ1, hfc, hk⟩ := zb_some hf
  intro H locs ls hP hD hS hl
  have hMr := hM (r, σ1) ex H.size hfc
  subst hst
  exact z_call (em := zemV) (w := wl σ ++ ex) (w1 := wl σ1 ++ ex) (r := r) (va_runS (As := As) (rest := rest) ⟨hx, hb, hml, hown, hts⟩ hMr (va_cwS n hts hT rfl hrm.1 hrm.2 hd hR) ⟨fun a U g mk q => by obtain ⟨q0, q1, qP, qK, qD⟩ := q; exact ⟨q0, q1, qP, hKm.2 U g mk a qK, qD⟩, fun U hU hW => ⟨rfl, by rw [hU], by rw [hU]; exact hP, hKm.1 _ U hW hKK, hD.weaken (fun _ _ _ _ => trivial)⟩⟩ rfl hn hl.1 rfl (lv_room hW) hdg ⟨by rw [Nat.add_zero]; exact hcs.1, by rw [Nat.add_zero]; exact hcs.2⟩) hD hS hA (fun H1 locs1 h1 h2 h3 => kk r σ1 out hk H1 locs1 ls h1 h2 h3 hl)
theorem z_callSNv (hX : zIs V l cc own TT KK D cl tys nL R) {fC : Option (Unit × zS)} {k : Unit → zS → Option (α × zS)} {host : String} {n : Nat} (As : List Value) (hM : zC zemV l y (Cond.code y bytes maxL ret :: TT) rm D cl KK wl σ As fC) (hG : GoodIn TT (Cond.code y bytes maxL ret :: TT)) (hN : ∀ U, KK U → va_Nw (.methodLinkNest own index y host) U) (hstat : Cond.static y ∈ TT) (hini : Cond.initialized y.cls ∈ TT) (hrm : rm.cells = 0 ∧ rm.slots = 0) (hR : rm.frames + 1 ≤ R.frames ∧ 8 + (maxL + 11) + rm.locals ≤ R.locals) (hd : y.cls ≠ "java/lang/invoke/MethodHandle" ∧ y.cls ≠ "java/lang/invoke/VarHandle" ∧ (parseMethodDescriptor y.desc).map (fun d => d.parameters.length) = some n) (hn : As.length = n)
    (hst : st = As.reverse ++ rest) (hW : (rest.map fun v => v.category).sum ≤ 8) (hdg : decode cc pc = .ok (.invokestatic index, 3))
    (kk : ∀ (r : Unit) (σ1 : zS), zJ V (k r σ1) (wl σ1 ++ ex) (pc + 3) lv (rest)) : zJ V (zb fC k) (wl σ ++ ex) pc lv st := by
  obtain ⟨p, e, s, m, args, below, meth, c, cells, slots, A, H0, Qo, rfl, hx, hb, hml, hown, hts, hKm, hKK, hK, hA, hcs⟩ := hX
  intro out hf
  obtain ⟨r, σ1, hfc, hk⟩ := zb_some hf
  intro H locs ls hP hD hS hl
  have hMr := hM (r, σ1) ex H.size hfc
  subst hst
  exact z_call (em := zemV) (w := wl σ ++ ex) (w1 := wl σ1 ++ ex) (r := r) (va_runSN (As := As) (rest := rest) ⟨hx, hb, hml, hown, hts⟩ hMr ⟨va_cnB n hts hG rfl hrm.1 hrm.2 (hN s hKK) (hts _ hini) hd hR, hts _ hstat, trivial⟩ ⟨fun a U g mk q => by obtain ⟨q0, q1, qP, qK, qD⟩ := q; exact ⟨q0, q1, qP, hKm.2 U g mk a qK, qD⟩, fun U hU hW => ⟨rfl, by rw [hU], by rw [hU]; exact hP, hKm.1 _ U hW hKK, hD.weaken (fun _ _ _ _ => trivial)⟩⟩ rfl hn hl.1 rfl (lv_room hW) hdg ⟨by rw [Nat.add_zero]; exact hcs.1, by rw [Nat.add_zero]; exact hcs.2⟩) hD hS hA (fun H1 locs1 h1 h2 h3 => kk r σ1 out hk H1 locs1 ls h1 h2 h3 hl)

end ZCR
section ZMK
variable {l : Launch} {cc : ByteArray} {TT : List Cond} {KK : State → Prop} {D : va_G} {cl : List vw_C} {tys : List (ClassId × FieldType)} {nL : Nat} {rm : Room} {wl : zS → va_W} {σ : zS} {y : MethodName} {av : List Value}

theorem zmk_i {f : Option (Int32 × zS)} (hy : plainName y.cls = true) (hKm : zKm KK) (hKt : ∀ U, KK U → va_K D cl tys U) (hav : (lg_sl av).length ≤ nL)
    (hbody : ∀ (V : zV Int32) (ex : va_W), zIs V l cc y.cls TT KK D cl tys nL rm → zRi V cc wl ex → zJ V f (wl σ ++ ex) 0 (lv_args 0 av) []) : zC zemI l y (Cond.code y cc nL (some .int) :: TT) rm D cl KK wl σ av f := by
  intro out ex sz hf
  refine Met.ofW (cc := cc) (maxL := nL) (ret := (some .int)) hy rfl ?_
  intro p e s m args below meth c s₁ B hml hv
  obtain ⟨rfl, hsz, hP, hKK, hD0⟩ := hv
  have hx := B.exec
  have hb := B.bytes
  have hr := B.returns
  have hts := atoms_spec (ws := Cond.code y cc nL (some .int) :: TT) B.pre
  have hown : s.vm.findClass y.cls = some m.cls := findClass_of_methodNamed B.named
  have hlocks := B.notSynchronized
  subst hsz
  have hD := hD0.self (sz := s.heap.size)
  have hA : ∀ q : Nat, s.heap.size ≤ q → va_A (wl σ ++ ex) s.heap.size q := fun q h => Or.inr h
  have hl := lv_entry av (n := nL) hav
  rw [lg_entry_eq]
  refine hbody (fun w pc lv st out => ∀ (H : Heap) (locs : List Loc) (ls : Array Slot), va_P D cl w H → va_D (va_A (wl σ ++ ex) s.heap.size) w → va_S (va_A (wl σ ++ ex) s.heap.size) s.heap H locs → lv_has ls nL lv → W p l e rm s m av.toArray below meth c H locs 0 0 (MQ below (fun _ st oc t => (oc = .returned (zemI out.1) ∧ va_P D cl (wl out.2 ++ ex) t.heap ∧ va_D (va_A (wl σ ++ ex) s.heap.size) (wl out.2 ++ ex)) ∧ va_F (va_A (wl σ ++ ex) s.heap.size) st t) av.toArray s 0 0 (va_A (wl σ ++ ex) s.heap.size)) (F0 m pc ls st)) ex
    ⟨p, e, s, m, av.toArray, below, meth, c, 0, 0, va_A (wl σ ++ ex) s.heap.size, s.heap, (fun out => MQ below (fun _ st oc t => (oc = .returned (zemI out.1) ∧ va_P D cl (wl out.2 ++ ex) t.heap ∧ va_D (va_A (wl σ ++ ex) s.heap.size) (wl out.2 ++ ex)) ∧ va_F (va_A (wl σ ++ ex) s.heap.size) st t) av.toArray s 0 0 (va_A (wl σ ++ ex) s.heap.size)), rfl, hx, hb, hml, hown, fun w h => hts w (List.mem_cons_of_mem _ h), hKm, hKK, hKt s hKK, hA, Nat.zero_le _, Nat.zero_le _⟩ ?_ out hf s.heap [] _ hP hD va_S.rf hl
  intro σ1 r pc lv hd H locs ls hP1 hD1 hS1 hl1
  exact W.iret (v := r) hx hb hr (fun t ht hW => ⟨⟨rfl, by rw [ht]; exact hP1, hD1⟩, hS1.F ht⟩) hS1.2.2 hd
theorem zmk_z {f : Option (Int32 × zS)} (hy : plainName y.cls = true) (hKm : zKm KK) (hKt : ∀ U, KK U → va_K D cl tys U) (hav : (lg_sl av).length ≤ nL)
    (hbody : ∀ (V : zV Int32) (ex : va_W), zIs V l cc y.cls TT KK D cl tys nL rm → zRz V cc wl ex → zJ V f (wl σ ++ ex) 0 (lv_args 0 av) []) : zC zemI l y (Cond.code y cc nL (some .boolean) :: TT) rm D cl KK wl σ av f := by
  intro out ex sz hf
  refine Met.ofW (cc := cc) (maxL := nL) (ret := (some .boolean)) hy rfl ?_
  intro p e s m args below meth c s₁ B hml hv
  obtain ⟨rfl, hsz, hP, hKK, hD0⟩ := hv
  have hx := B.exec
  have hb := B.bytes
  have hr := B.returns
  have hts := atoms_spec (ws := Cond.code y cc nL (some .boolean) :: TT) B.pre
  have hown : s.vm.findClass y.cls = some m.cls := findClass_of_methodNamed B.named
  have hlocks := B.notSynchronized
  subst hsz
  have hD := hD0.self (sz := s.heap.size)
  have hA : ∀ q : Nat, s.heap.size ≤ q → va_A (wl σ ++ ex) s.heap.size q := fun q h => Or.inr h
  have hl := lv_entry av (n := nL) hav
  rw [lg_entry_eq]
  refine hbody (fun w pc lv st out => ∀ (H : Heap) (locs : List Loc) (ls : Array Slot), va_P D cl w H → va_D (va_A (wl σ ++ ex) s.heap.size) w → va_S (va_A (wl σ ++ ex) s.heap.size) s.heap H locs → lv_has ls nL lv → W p l e rm s m av.toArray below meth c H locs 0 0 (MQ below (fun _ st oc t => (oc = .returned (zemI out.1) ∧ va_P D cl (wl out.2 ++ ex) t.heap ∧ va_D (va_A (wl σ ++ ex) s.heap.size) (wl out.2 ++ ex)) ∧ va_F (va_A (wl σ ++ ex) s.heap.size) st t) av.toArray s 0 0 (va_A (wl σ ++ ex) s.heap.size)) (F0 m pc ls st)) ex
    ⟨p, e, s, m, av.toArray, below, meth, c, 0, 0, va_A (wl σ ++ ex) s.heap.size, s.heap, (fun out => MQ below (fun _ st oc t => (oc = .returned (zemI out.1) ∧ va_P D cl (wl out.2 ++ ex) t.heap ∧ va_D (va_A (wl σ ++ ex) s.heap.size) (wl out.2 ++ ex)) ∧ va_F (va_A (wl σ ++ ex) s.heap.size) st t) av.toArray s 0 0 (va_A (wl σ ++ ex) s.heap.size)), rfl, hx, hb, hml, hown, fun w h => hts w (List.mem_cons_of_mem _ h), hKm, hKK, hKt s hKK, hA, Nat.zero_le _, Nat.zero_le _⟩ ?_ out hf s.heap [] _ hP hD va_S.rf hl
  intro σ1 r pc lv hn hd H locs ls hP1 hD1 hS1 hl1
  exact W.zret (v := r) hx hb hr hn (fun t ht hW => ⟨⟨rfl, by rw [ht]; exact hP1, hD1⟩, hS1.F ht⟩) hS1.2.2 hd
theorem zmk_l {f : Option (Int64 × zS)} (hy : plainName y.cls = true) (hKm : zKm KK) (hKt : ∀ U, KK U → va_K D cl tys U) (hav : (lg_sl av).length ≤ nL)
    (hbody : ∀ (V : zV Int64) (ex : va_W), zIs V l cc y.cls TT KK D cl tys nL rm → zRl V cc wl ex → zJ V f (wl σ ++ ex) 0 (lv_args 0 av) []) : zC zemL l y (Cond.code y cc nL (some .long) :: TT) rm D cl KK wl σ av f := by
  intro out ex sz hf
  refine Met.ofW (cc := cc) (maxL := nL) (ret := (some .long)) hy rfl ?_
  intro p e s m args below meth c s₁ B hml hv
  obtain ⟨rfl, hsz, hP, hKK, hD0⟩ := hv
  have hx := B.exec
  have hb := B.bytes
  have hr := B.returns
  have hts := atoms_spec (ws := Cond.code y cc nL (some .long) :: TT) B.pre
  have hown : s.vm.findClass y.cls = some m.cls := findClass_of_methodNamed B.named
  have hlocks := B.notSynchronized
  subst hsz
  have hD := hD0.self (sz := s.heap.size)
  have hA : ∀ q : Nat, s.heap.size ≤ q → va_A (wl σ ++ ex) s.heap.size q := fun q h => Or.inr h
  have hl := lv_entry av (n := nL) hav
  rw [lg_entry_eq]
  refine hbody (fun w pc lv st out => ∀ (H : Heap) (locs : List Loc) (ls : Array Slot), va_P D cl w H → va_D (va_A (wl σ ++ ex) s.heap.size) w → va_S (va_A (wl σ ++ ex) s.heap.size) s.heap H locs → lv_has ls nL lv → W p l e rm s m av.toArray below meth c H locs 0 0 (MQ below (fun _ st oc t => (oc = .returned (zemL out.1) ∧ va_P D cl (wl out.2 ++ ex) t.heap ∧ va_D (va_A (wl σ ++ ex) s.heap.size) (wl out.2 ++ ex)) ∧ va_F (va_A (wl σ ++ ex) s.heap.size) st t) av.toArray s 0 0 (va_A (wl σ ++ ex) s.heap.size)) (F0 m pc ls st)) ex
    ⟨p, e, s, m, av.toArray, below, meth, c, 0, 0, va_A (wl σ ++ ex) s.heap.size, s.heap, (fun out => MQ below (fun _ st oc t => (oc = .returned (zemL out.1) ∧ va_P D cl (wl out.2 ++ ex) t.heap ∧ va_D (va_A (wl σ ++ ex) s.heap.size) (wl out.2 ++ ex)) ∧ va_F (va_A (wl σ ++ ex) s.heap.size) st t) av.toArray s 0 0 (va_A (wl σ ++ ex) s.heap.size)), rfl, hx, hb, hml, hown, fun w h => hts w (List.mem_cons_of_mem _ h), hKm, hKK, hKt s hKK, hA, Nat.zero_le _, Nat.zero_le _⟩ ?_ out hf s.heap [] _ hP hD va_S.rf hl
  intro σ1 r pc lv hd H locs ls hP1 hD1 hS1 hl1
  exact W.lret (v := r) hx hb hr (fun t ht hW => ⟨⟨rfl, by rw [ht]; exact hP1, hD1⟩, hS1.F ht⟩) hS1.2.2 hd
theorem zmk_v {f : Option (Unit × zS)} (hy : plainName y.cls = true) (hKm : zKm KK) (hKt : ∀ U, KK U → va_K D cl tys U) (hav : (lg_sl av).length ≤ nL)
    (hbody : ∀ (V : zV Unit) (ex : va_W), zIs V l cc y.cls TT KK D cl tys nL rm → zRv V cc wl ex → zJ V f (wl σ ++ ex) 0 (lv_args 0 av) []) : zC zemV l y (Cond.code y cc nL none :: TT) rm D cl KK wl σ av f := by
  intro out ex sz hf
  refine Met.ofW (cc := cc) (maxL := nL) (ret := none) hy rfl ?_
  intro p e s m args below meth c s₁ B hml hv
  obtain ⟨rfl, hsz, hP, hKK, hD0⟩ := hv
  have hx := B.exec
  have hb := B.bytes
  have hr := B.returns
  have hts := atoms_spec (ws := Cond.code y cc nL none :: TT) B.pre
  have hown : s.vm.findClass y.cls = some m.cls := findClass_of_methodNamed B.named
  have hlocks := B.notSynchronized
  subst hsz
  have hD := hD0.self (sz := s.heap.size)
  have hA : ∀ q : Nat, s.heap.size ≤ q → va_A (wl σ ++ ex) s.heap.size q := fun q h => Or.inr h
  have hl := lv_entry av (n := nL) hav
  rw [lg_entry_eq]
  refine hbody (fun w pc lv st out => ∀ (H : Heap) (locs : List Loc) (ls : Array Slot), va_P D cl w H → va_D (va_A (wl σ ++ ex) s.heap.size) w → va_S (va_A (wl σ ++ ex) s.heap.size) s.heap H locs → lv_has ls nL lv → W p l e rm s m av.toArray below meth c H locs 0 0 (MQ below (fun _ st oc t => (oc = .returned (zemV out.1) ∧ va_P D cl (wl out.2 ++ ex) t.heap ∧ va_D (va_A (wl σ ++ ex) s.heap.size) (wl out.2 ++ ex)) ∧ va_F (va_A (wl σ ++ ex) s.heap.size) st t) av.toArray s 0 0 (va_A (wl σ ++ ex) s.heap.size)) (F0 m pc ls st)) ex
    ⟨p, e, s, m, av.toArray, below, meth, c, 0, 0, va_A (wl σ ++ ex) s.heap.size, s.heap, (fun out => MQ below (fun _ st oc t => (oc = .returned (zemV out.1) ∧ va_P D cl (wl out.2 ++ ex) t.heap ∧ va_D (va_A (wl σ ++ ex) s.heap.size) (wl out.2 ++ ex)) ∧ va_F (va_A (wl σ ++ ex) s.heap.size) st t) av.toArray s 0 0 (va_A (wl σ ++ ex) s.heap.size)), rfl, hx, hb, hml, hown, fun w h => hts w (List.mem_cons_of_mem _ h), hKm, hKK, hKt s hKK, hA, Nat.zero_le _, Nat.zero_le _⟩ ?_ out hf s.heap [] _ hP hD va_S.rf hl
  intro σ1 pc lv hd H locs ls hP1 hD1 hS1 hl1
  exact W.vret hx hb hr (fun t ht hW => ⟨⟨rfl, by rw [ht]; exact hP1, hD1⟩, hS1.F ht⟩) hS1.2.2 hd
end ZMK
