/-! Worlds that grow: V w tys cells slots pc lv st: the machine from here on ends well (whatever the heap that holds w). -/
abbrev zGV : Type := va_W → List (ClassId × FieldType) → Nat → Nat → Nat → List (Nat × Value) → List Value → Prop
def zGIs (V : zGV) (l : Launch) (cc : ByteArray) (own : String) (TT : List Cond) (KK : State → Prop) (D : va_G) (cl : List vw_C) (nL : Nat) (R : Room) : Prop :=
  ∃ (p : Program) (e : Env) (s : State) (m : MethodId) (args : Array Value) (below : List Frame) (meth : Method) (c : Code) (A : Nat → Prop) (H0 : Heap) (Q : State → Prop),
    V = (fun w tys cells slots pc lv st => ∀ (H : Heap) (locs : List Loc) (ls : Array Slot), va_K D cl tys s → va_P D cl w H → va_D A w → va_S A H0 H locs → lv_has ls nL lv → W p l e R s m args below meth c H locs cells slots Q (F0 m pc ls st)) ∧
    p.tables.exec = Jvm.exec ∧ c.code = cc ∧ c.maxLocals = nL ∧ s.vm.findClass own = some m.cls ∧ (∀ w ∈ TT, w.before args s = true) ∧ zKm KK ∧ KK s ∧ (∀ q, H0.size ≤ q → A q)
/-- the method is a constructor -/
def zGn (V : zGV) (l : Launch) (cc : ByteArray) (own : String) (TT : List Cond) (KK : State → Prop) (D : va_G) (cl : List vw_C) (nL : Nat) (R : Room) : Prop :=
  ∃ (p : Program) (e : Env) (s : State) (m : MethodId) (args : Array Value) (below : List Frame) (meth : Method) (c : Code) (A : Nat → Prop) (H0 : Heap) (Q : State → Prop),
    V = (fun w tys cells slots pc lv st => ∀ (H : Heap) (locs : List Loc) (ls : Array Slot), va_K D cl tys s → va_P D cl w H → va_D A w → va_S A H0 H locs → lv_has ls nL lv → W p l e R s m args below meth c H locs cells slots Q (F0 m pc ls st)) ∧
    p.tables.exec = Jvm.exec ∧ c.code = cc ∧ c.maxLocals = nL ∧ s.vm.findClass own = some m.cls ∧ (∀ w ∈ TT, w.before args s = true) ∧ zKm KK ∧ KK s ∧ (∀ q, H0.size ≤ q → A q) ∧ meth.name = "<init>"
theorem zGn.is {V : zGV} {l : Launch} {cc : ByteArray} {own : String} {TT : List Cond} {KK : State → Prop} {D : va_G} {cl : List vw_C} {nL : Nat} {R : Room} (h : zGn V l cc own TT KK D cl nL R) : zGIs V l cc own TT KK D cl nL R := by
  obtain ⟨p, e, s, m, args, below, meth, c, A, H0, Q, h1, h2, h3, h4, h5, h6, h7, h8, h9, -⟩ := h
  exact ⟨p, e, s, m, args, below, meth, c, A, H0, Q, h1, h2, h3, h4, h5, h6, h7, h8, h9⟩
section ZGR
variable {V : zGV} {l : Launch} {cc : ByteArray} {own : String} {TT : List Cond} {KK : State → Prop} {D : va_G} {cl : List vw_C} {nL : Nat} {R : Room} {w : va_W} {tys : List (ClassId × FieldType)} {cells slots pc : Nat} {lv : List (Nat × Value)} {st : List Value}

theorem g_iconst (hX : zGIs V l cc own TT KK D cl nL R) {n : Int} {v : Int32} (hd : decode cc pc = .ok (.iconst n, 1)) (hv : Int32.ofInt n = v) (k : V w tys cells slots (pc + 1) lv (.int v :: st)) : V w tys cells slots pc lv (st) := by
  obtain ⟨p, e, s, m, args, below, meth, c, A, H0, Q, rfl, hx, hb, hml, hown, hts, hKm, hKK, hA⟩ := hX
  intro H locs ls hK hP hD hS hl
  exact lv_iconst hx hb hd hv (k H locs ls hK hP hD hS hl)
theorem g_bipush (hX : zGIs V l cc own TT KK D cl nL R) {n : Int} {v : Int32} (hd : decode cc pc = .ok (.bipush n, 2)) (hv : (Int8.ofInt n).toInt32 = v) (k : V w tys cells slots (pc + 2) lv (.int v :: st)) : V w tys cells slots pc lv (st) := by
  obtain ⟨p, e, s, m, args, below, meth, c, A, H0, Q, rfl, hx, hb, hml, hown, hts, hKm, hKK, hA⟩ := hX
  intro H locs ls hK hP hD hS hl
  exact lv_bipush hx hb hd hv (k H locs ls hK hP hD hS hl)
theorem g_sipush (hX : zGIs V l cc own TT KK D cl nL R) {n : Int} {v : Int32} (hd : decode cc pc = .ok (.sipush n, 3)) (hv : (Int16.ofInt n).toInt32 = v) (k : V w tys cells slots (pc + 3) lv (.int v :: st)) : V w tys cells slots pc lv (st) := by
  obtain ⟨p, e, s, m, args, below, meth, c, A, H0, Q, rfl, hx, hb, hml, hown, hts, hKm, hKK, hA⟩ := hX
  intro H locs ls hK hP hD hS hl
  exact lv_sipush hx hb hd hv (k H locs ls hK hP hD hS hl)
theorem g_aload_n (hX : zGIs V l cc own TT KK D cl nL R) {j : Fin 4} {i : Nat} {x : Nat} (hd : decode cc pc = .ok (.aload_n j, 1)) (hi : (j : Nat) = i) (hg : zg lv i = some (.ref x)) (k : V w tys cells slots (pc + 1) lv (.ref x :: st)) : V w tys cells slots pc lv (st) := by
  obtain ⟨p, e, s, m, args, below, meth, c, A, H0, Q, rfl, hx, hb, hml, hown, hts, hKm, hKK, hA⟩ := hX
  intro H locs ls hK hP hD hS hl
  exact lv_aload_n hx hb hd hi (zg_at hl hg) (k H locs ls hK hP hD hS hl)
theorem g_dup (hX : zGIs V l cc own TT KK D cl nL R) {va : Value} (hd : decode cc pc = .ok (.dup, 1)) (h1 : va.category = 1) (k : V w tys cells slots (pc + 1) lv (va :: va :: st)) : V w tys cells slots pc lv (va :: st) := by
  obtain ⟨p, e, s, m, args, below, meth, c, A, H0, Q, rfl, hx, hb, hml, hown, hts, hKm, hKK, hA⟩ := hX
  intro H locs ls hK hP hD hS hl
  exact lv_dup hx hb hd h1 (k H locs ls hK hP hD hS hl)
theorem g_istore_n (hX : zGIs V l cc own TT KK D cl nL R) {j : Fin 4} {i : Nat} {x : Int32} {lv2 : List (Nat × Value)} (hd : decode cc pc = .ok (.istore_n j, 1)) (hi : (j : Nat) = i) (hn : i < nL) (hl2 : (i, Value.int x) :: lv.filter (fun q => !(q.1 == i) && !(q.1 + 1 == i && q.2.category == 2)) = lv2) (k : V w tys cells slots (pc + 1) lv2 st) : V w tys cells slots pc lv (.int x :: st) := by
  obtain ⟨p, e, s, m, args, below, meth, c, A, H0, Q, rfl, hx, hb, hml, hown, hts, hKm, hKK, hA⟩ := hX
  intro H locs ls hK hP hD hS hl
  exact lv_istore_n hx hb hd hi hl hn hl2 (fun ls' hl' => k H locs ls' hK hP hD hS hl')
theorem g_istore (hX : zGIs V l cc own TT KK D cl nL R) {i : Nat} {x : Int32} {lv2 : List (Nat × Value)} (hd : decode cc pc = .ok (.istore i, 2)) (hn : i < nL) (hl2 : (i, Value.int x) :: lv.filter (fun q => !(q.1 == i) && !(q.1 + 1 == i && q.2.category == 2)) = lv2) (k : V w tys cells slots (pc + 2) lv2 st) : V w tys cells slots pc lv (.int x :: st) := by
  obtain ⟨p, e, s, m, args, below, meth, c, A, H0, Q, rfl, hx, hb, hml, hown, hts, hKm, hKK, hA⟩ := hX
  intro H locs ls hK hP hD hS hl
  exact lv_istore hx hb hd hl hn hl2 (fun ls' hl' => k H locs ls' hK hP hD hS hl')
theorem g_astore_n (hX : zGIs V l cc own TT KK D cl nL R) {j : Fin 4} {i : Nat} {x : Nat} {lv2 : List (Nat × Value)} (hd : decode cc pc = .ok (.astore_n j, 1)) (hi : (j : Nat) = i) (hn : i < nL) (hl2 : (i, Value.ref x) :: lv.filter (fun q => !(q.1 == i) && !(q.1 + 1 == i && q.2.category == 2)) = lv2) (k : V w tys cells slots (pc + 1) lv2 st) : V w tys cells slots pc lv (.ref x :: st) := by
  obtain ⟨p, e, s, m, args, below, meth, c, A, H0, Q, rfl, hx, hb, hml, hown, hts, hKm, hKK, hA⟩ := hX
  intro H locs ls hK hP hD hS hl
  exact lv_astore_n hx hb hd hi hl hn hl2 (fun ls' hl' => k H locs ls' hK hP hD hS hl')
theorem g_astore (hX : zGIs V l cc own TT KK D cl nL R) {i : Nat} {x : Nat} {lv2 : List (Nat × Value)} (hd : decode cc pc = .ok (.astore i, 2)) (hn : i < nL) (hl2 : (i, Value.ref x) :: lv.filter (fun q => !(q.1 == i) && !(q.1 + 1 == i && q.2.category == 2)) = lv2) (k : V w tys cells slots (pc + 2) lv2 st) : V w tys cells slots pc lv (.ref x :: st) := by
  obtain ⟨p, e, s, m, args, below, meth, c, A, H0, Q, rfl, hx, hb, hml, hown, hts, hKm, hKK, hA⟩ := hX
  intro H locs ls hK hP hD hS hl
  exact lv_astore hx hb hd hl hn hl2 (fun ls' hl' => k H locs ls' hK hP hD hS hl')
theorem g_objInit (hX : zGIs V l cc own TT KK D cl nL R) {idx a : Nat} (h1 : Cond.methodLink own idx Lib.objectInit ∈ TT) (h2 : Cond.instanceMethod Lib.objectInit ∈ TT) (h3 : Cond.code Lib.objectInit ⟨#[0xb1]⟩ 1 none ∈ TT) (hd : decode cc pc = .ok (.invokespecial idx, 3)) (hf : 1 ≤ R.frames) (hr : (st.map fun v => v.category).sum + 12 ≤ R.locals) (k : V w tys cells slots (pc + 3) lv st) : V w tys cells slots pc lv (.ref a :: st) := by
  obtain ⟨p, e, s, m, args, below, meth, c, A, H0, Q, rfl, hx, hb, hml, hown, hts, hKm, hKK, hA⟩ := hX
  intro H locs ls hK hP hD hS hl
  refine W.objInit hx hb hown (hts _ h1) (hts _ h2) (hts _ h3) rfl (by rw [hml]; exact hl.1) rfl hd hf ?_ (k H locs ls hK hP hD hS hl)
  simpa [JFrame.monitorRoom] using hr
theorem g_new (hX : zGIs V l cc own TT KK D cl nL R) {C : String} {T : u_T} {N ci index : Nat} {fs : List Value} (hin : ∀ w ∈ u_ws C T N, w ∈ TT) (ty0 : Nat → FieldType) (hty : ∀ k, k < N → parseFieldDescriptor (T k).2.2.1 = some (ty0 k)) (h1 : Cond.classLink own index C ∈ TT) (h2 : Cond.instantiable C N ∈ TT) (h3 : Cond.initialized C ∈ TT) (hc : cl[ci]? = some (C, T, N)) (hfs : ∀ j, j < N → defaultValue (ty0 j) = vp_V fs j) (hcells : cells + 1 ≤ R.cells) (hslots : slots + N ≤ R.slots) (hd : decode cc pc = .ok (.new index, 3))
    (k : ∀ q : Nat, V (w ++ [(q, .inr (ci, fs))]) tys (cells + 1) (slots + N) (pc + 3) lv (.ref q :: st)) : V w tys cells slots pc lv st := by
  obtain ⟨p, e, s, m, args, below, meth, c, A, H0, Q, rfl, hx, hb, hml, hown, hts, hKm, hKK, hA⟩ := hX
  intro H locs ls hK hP hD hS hl
  exact va_new hx hb hts hin ty0 hty hown (hts _ h1) (hts _ h2) (hts _ h3) hK hP hD hS hA hc hfs hcells hslots hd (fun q H1 h1 h2 h3 => k q H1 locs ls hK h1 h2 h3 hl)
theorem g_newa (hX : zGIs V l cc own TT KK D cl nL R) {atype : ArrayType} {ty : FieldType} {n : Int32} {N' : Nat} {a0 : vp_A} (h1 : Cond.arrayClass (newarray.typeOf atype) ∈ TT) (hty : newarray.typeOf atype = ty) (ha : ∀ cA : ClassId, vp_cell cA a0 = arrV cA N' (fun _ => defaultValue ty)) (hn : ¬ n < 0) (hN : n.toNatClampNeg = N') (hbytes : N' * componentBytes ty ≤ 536870912) (hcells : cells + 1 ≤ R.cells) (hslots : slots + N' ≤ R.slots) (hd : decode cc pc = .ok (.newarray atype, 2))
    (k : ∀ (q : Nat) (cA : ClassId), V (w ++ [(q, .inl (cA, a0))]) (tys ++ [(cA, ty)]) (cells + 1) (slots + N') (pc + 2) lv (.ref q :: st)) : V w tys cells slots pc lv (.int n :: st) := by
  obtain ⟨p, e, s, m, args, below, meth, c, A, H0, Q, rfl, hx, hb, hml, hown, hts, hKm, hKK, hA⟩ := hX
  intro H locs ls hK hP hD hS hl
  exact va_newa hx hb (hts _ h1) hty hK hP hD hS hA ha hn hN hbytes hcells hslots hd (fun q cA H1 h0 h1 h2 h3 => k q cA H1 locs ls h0 h1 h2 h3 hl)
theorem g_putF (hX : zGn V l cc own TT KK D cl nL R) {C : String} {T : u_T} {N ci index a : Nat} {fs : List Value} {v : Value} {w2 : va_W} (hin : ∀ w ∈ u_ws C T N, w ∈ TT) (ty0 : Nat → FieldType) (hty : ∀ k, k < N → parseFieldDescriptor (T k).2.2.1 = some (ty0 k)) (hnm : ∀ a, a < N → ∀ b, b < N → a ≠ b → (T a).2.1 ≠ (T b).2.1) (q0 : Nat) (he : w[q0]? = some (a, .inr (ci, fs))) (hc : cl[ci]? = some (C, T, N)) (k0 : Nat) (hk : k0 < N) (hlink : Cond.fieldLink own index (T k0).1 (T k0).2.1 (T k0).2.2.1 ∈ TT) (hfin : (T k0).2.2.2 = true) (hdecl : (T k0).1 = own) (hn : narrow (ty0 k0) v = v) (hfit : fits (ty0 k0) v = true) (hlen : k0 < fs.length) (hw : w.set q0 (a, .inr (ci, fs.set k0 v)) = w2) (hd : decode cc pc = .ok (.putfield index, 3)) (k : V w2 tys cells slots (pc + 3) lv st) : V w tys cells slots pc lv (v :: .ref a :: st) := by
  obtain ⟨p, e, s, m, args, below, meth, c, A, H0, Q, rfl, hx, hb, hml, hown, hts, hKm, hKK, hA, hin2⟩ := hX
  intro H locs ls hK hP hD hS hl
  subst hw
  exact va_putF hx hb hts hin ty0 hty hnm hown hK hP hD hS q0 he hc k0 hk (hts _ hlink) (fun _ h => h) hfin hin2 hdecl (hty k0 hk) hn hfit hlen hd (fun H1 locs1 h1 h2 h3 => k H1 locs1 ls hK h1 h2 h3 hl)
theorem g_put (hX : zGIs V l cc own TT KK D cl nL R) {C : String} {T : u_T} {N ci index a : Nat} {fs : List Value} {v : Value} {w2 : va_W} (hin : ∀ w ∈ u_ws C T N, w ∈ TT) (ty0 : Nat → FieldType) (hty : ∀ k, k < N → parseFieldDescriptor (T k).2.2.1 = some (ty0 k)) (hnm : ∀ a, a < N → ∀ b, b < N → a ≠ b → (T a).2.1 ≠ (T b).2.1) (q0 : Nat) (he : w[q0]? = some (a, .inr (ci, fs))) (hc : cl[ci]? = some (C, T, N)) (k0 : Nat) (hk : k0 < N) (hlink : Cond.fieldLink own index (T k0).1 (T k0).2.1 (T k0).2.2.1 ∈ TT) (hfin : (T k0).2.2.2 = false) (hn : narrow (ty0 k0) v = v) (hfit : fits (ty0 k0) v = true) (hlen : k0 < fs.length) (hw : w.set q0 (a, .inr (ci, fs.set k0 v)) = w2) (hd : decode cc pc = .ok (.putfield index, 3)) (k : V w2 tys cells slots (pc + 3) lv st) : V w tys cells slots pc lv (v :: .ref a :: st) := by
  obtain ⟨p, e, s, m, args, below, meth, c, A, H0, Q, rfl, hx, hb, hml, hown, hts, hKm, hKK, hA⟩ := hX
  intro H locs ls hK hP hD hS hl
  subst hw
  exact va_put hx hb hts hin ty0 hty hnm hown hK hP hD hS q0 he hc k0 hk (hts _ hlink) (fun _ h => h) hfin (hty k0 hk) hn hfit hlen hd (fun H1 locs1 h1 h2 h3 => k H1 locs1 ls hK h1 h2 h3 hl)
end ZGR
/-- a constructor's contract: of a fresh cell it makes the world w1 h0 u, for some addresses and array kinds u -/
def zN (l : Launch) (y : MethodName) (wds : List Cond) (rm : Room) (D : va_G) (cl : List vw_C) (KK : State → Prop) (ci : Nat) (fs0 : List Value) (mc ms : Nat) (w1 : Nat → (Nat → Nat) × (Nat → ClassId) → va_W) (t1 : (Nat → Nat) × (Nat → ClassId) → List (ClassId × FieldType)) : Prop :=
  ∀ h0 sz : Nat, Met l y wds rm (va_Pc [.ref h0] (fun U => U.heap.size = sz ∧ va_P D cl [(h0, .inr (ci, fs0))] U.heap ∧ KK U ∧ va_D (fun _ => True) [(h0, .inr (ci, fs0))]))
    (va_Qv (fun _ : (Nat → Nat) × (Nat → ClassId) => True) (fun u t => va_P D cl (w1 h0 u) t.heap ∧ va_K D cl (t1 u) t ∧ va_D (va_A [(h0, .inr (ci, fs0))] sz) (w1 h0 u)) (va_A [(h0, .inr (ci, fs0))] sz)) mc ms (va_A [(h0, .inr (ci, fs0))] sz)
section ZGC
variable {V : zGV} {l : Launch} {cc : ByteArray} {own : String} {TT : List Cond} {KK : State → Prop} {D : va_G} {cl : List vw_C} {nL : Nat} {R : Room} {w : va_W} {tys : List (ClassId × FieldType)} {cells slots pc : Nat} {lv : List (Nat × Value)} {st : List Value}
/-- behind a constructor: the rest of the world is as it was -/
theorem g_joined {p : Program} {e : Env} {s : State} {m : MethodId} {args : Array Value} {below : List Frame} {meth : Method} {c : Code} {A : Nat → Prop} {H0 H : Heap} {Q : State → Prop} {locs : List Loc} {ls : Array Slot} {ci q mc ms : Nat} {fs0 : List Value} {w1 : (Nat → Nat) × (Nat → ClassId) → va_W} {t1 : (Nat → Nat) × (Nat → ClassId) → List (ClassId × FieldType)} {st0 : List Value} {av : Array Value}
    (hr : va_Run p l e R s m args below meth c H locs cells slots mc ms (F0 m pc ls st0) st (va_Qv (fun _ : (Nat → Nat) × (Nat → ClassId) => True) (fun u t => va_P D cl (w1 u) t.heap ∧ va_K D cl (t1 u) t ∧ va_D (va_A [(q, .inr (ci, fs0))] H.size) (w1 u)) (va_A [(q, .inr (ci, fs0))] H.size) av) (va_A [(q, .inr (ci, fs0))] H.size))
    (hA : ∀ x, H0.size ≤ x → A x) (hK : va_K D cl tys s) (hP : va_P D cl (w ++ [(q, .inr (ci, fs0))]) H) (hD : va_D A (w ++ [(q, .inr (ci, fs0))])) (hS : va_S A H0 H locs)
    (kk : ∀ (u : (Nat → Nat) × (Nat → ClassId)) (H1 : Heap) (locs1 : List Loc), va_K D cl (tys ++ t1 u) s → va_P D cl (w ++ w1 u) H1 → va_D A (w ++ w1 u) → va_S A H0 H1 locs1 → W p l e R s m args below meth c H1 locs1 (cells + mc) (slots + ms) Q (F0 m (pc + 3) ls st)) : W p l e R s m args below meth c H locs cells slots Q (F0 m pc ls st0) := by
  have hlast : (w ++ [(q, Sum.inr (ci, fs0))] : va_W)[w.length]? = some (q, .inr (ci, fs0)) := by simp
  have hAA : ∀ x, va_A [(q, .inr (ci, fs0))] H.size x → A x := fun x h => by
    rcases h with ⟨k, e9, h⟩ | h
    · have hk0 : k = 0 := by
        have := (List.getElem?_eq_some_iff.mp h).1
        simp at this
        exact this
      subst hk0
      cases h
      exact hD.2 _ _ hlast
    · exact hA x (Nat.le_trans hS.1 h)
  refine va_callv hr hS (fun x _ h => hAA x h) hAA (fun u t H1 locs1 ht hvm _ hB hz hk hS1 => ?_)
  obtain ⟨hP1, hK1, hD1⟩ := hB
  rw [ht] at hP1
  have hapart : ∀ (k : Nat) (x : Nat × va_E), w[k]? = some x → x.1 < H.size ∧ ¬ va_A [(q, .inr (ci, fs0))] H.size x.1 := by
    intro k x hx
    have hkl : k < w.length := (List.getElem?_eq_some_iff.mp hx).1
    have hx' : (w ++ [(q, Sum.inr (ci, fs0))] : va_W)[k]? = some x := by rw [List.getElem?_append_left hkl]; exact hx
    have hlt := (hP k x hx').lt
    refine ⟨hlt, fun h => ?_⟩
    rcases h with ⟨k2, e9, h⟩ | h
    · have hk0 : k2 = 0 := by
        have := (List.getElem?_eq_some_iff.mp h).1
        simp at this
        exact this
      subst hk0
      have hxq : x.1 = q := by cases h; rfl
      have := hD.1 k w.length x _ hx' hlast hxq
      omega
    · omega
  refine kk u H1 locs1 (hK.app (va_K.moved hvm.symm hK1)) (va_P.app (fun k x hx => ?_) hP1) (va_D.app ?_ (hD1.weaken (fun k x _ h => hAA x.1 h)) (fun i j x y hx hy hxy => ?_)) hS1
  · have hkl : k < w.length := (List.getElem?_eq_some_iff.mp hx).1
    have hx' : (w ++ [(q, Sum.inr (ci, fs0))] : va_W)[k]? = some x := by rw [List.getElem?_append_left hkl]; exact hx
    exact (hP k x hx').kept (hk x.1 (hapart k x hx).1 (hapart k x hx).2)
  · refine ⟨fun i j x y hi hj hxy => ?_, fun k x hx => ?_⟩
    · have hil : i < w.length := (List.getElem?_eq_some_iff.mp hi).1
      have hjl : j < w.length := (List.getElem?_eq_some_iff.mp hj).1
      exact hD.1 i j x y (by rw [List.getElem?_append_left hil]; exact hi) (by rw [List.getElem?_append_left hjl]; exact hj) hxy
    · have hkl : k < w.length := (List.getElem?_eq_some_iff.mp hx).1
      exact hD.2 k x (by rw [List.getElem?_append_left hkl]; exact hx)
  · exact (hapart i x hx).2 (by rw [hxy]; exact hD1.2 j y hy)
theorem g_ctorN (hX : zGIs V l cc own TT KK D cl nL R) {ci q mc ms index maxL : Nat} {y : MethodName} {bytes : ByteArray} {rm : Room} {host : String} {fs0 : List Value} {w1 : Nat → (Nat → Nat) × (Nat → ClassId) → va_W} {t1 : (Nat → Nat) × (Nat → ClassId) → List (ClassId × FieldType)} (hM : zN l y (Cond.code y bytes maxL none :: TT) rm D cl KK ci fs0 mc ms w1 t1) (hG : GoodIn TT (Cond.code y bytes maxL none :: TT)) (hN : ∀ U, KK U → va_Nw (.methodLinkNest own index y host) U) (hinst : Cond.instanceMethod y ∈ TT) (hini : Cond.initialized y.cls ∈ TT) (hrm : rm.cells = mc ∧ rm.slots = ms) (hR : rm.frames + 1 ≤ R.frames ∧ 8 + (maxL + 11) + rm.locals ≤ R.locals) (hy : y.name = "<init>") (hd : y.cls ≠ "java/lang/invoke/MethodHandle" ∧ y.cls ≠ "java/lang/invoke/VarHandle" ∧ (parseMethodDescriptor y.desc).map (fun d => d.parameters.length) = some 0)
    (hW : (st.map fun v => v.category).sum ≤ 8) (hf : cells + mc ≤ R.cells ∧ slots + ms ≤ R.slots) (hdg : decode cc pc = .ok (.invokespecial index, 3))
    (k : ∀ u : (Nat → Nat) × (Nat → ClassId), V (w ++ w1 q u) (tys ++ t1 u) (cells + mc) (slots + ms) (pc + 3) lv st) : V (w ++ [(q, .inr (ci, fs0))]) tys cells slots pc lv (.ref q :: st) := by
  obtain ⟨p, e, s, m, args, below, meth, c, A, H0, Q, rfl, hx, hb, hml, hown, hts, hKm, hKK, hA⟩ := hX
  intro H locs ls hK hP hD hS hl
  have hPl : va_P D cl [(q, .inr (ci, fs0))] H := fun k9 x hx => hP (w.length + k9) x (by rw [List.getElem?_append_right (by omega)]; simpa using hx)
  have hDl : va_D (fun _ => True) [(q, Sum.inr (ci, fs0))] := ⟨fun i j x y9 hi hj _ => by
    have h1 := (List.getElem?_eq_some_iff.mp hi).1
    have h2 := (List.getElem?_eq_some_iff.mp hj).1
    simp at h1 h2
    omega, fun _ _ _ => trivial⟩
  exact g_joined (w1 := w1 q) (t1 := t1) (va_runIN (As := []) (rest := st) ⟨hx, hb, hml, hown, hts⟩ (hM q H.size) ⟨va_cnB 0 hts hG rfl hrm.1 hrm.2 (hN s hKK) (hts _ hini) hd hR, hy, hts _ hinst⟩ ⟨fun a U g mk x => by obtain ⟨x0, x1, xP, xK, xD⟩ := x; exact ⟨x0, x1, xP, hKm.2 U g mk a xK, xD⟩, fun U hU hW9 => ⟨rfl, by rw [hU], by rw [hU]; exact hPl, hKm.1 _ U hW9 hKK, hDl⟩⟩ rfl rfl hl.1 rfl (lv_room hW) hdg hf) hA hK hP hD hS (fun u H1 locs1 h0 h1 h2 h3 => k u H1 locs1 ls h0 h1 h2 h3 hl)
theorem g_ctor (hX : zGIs V l cc own TT KK D cl nL R) {ci q mc ms index maxL : Nat} {y : MethodName} {bytes : ByteArray} {rm : Room} {fs0 : List Value} {w1 : Nat → (Nat → Nat) × (Nat → ClassId) → va_W} {t1 : (Nat → Nat) × (Nat → ClassId) → List (ClassId × FieldType)} (hM : zN l y (Cond.code y bytes maxL none :: TT) rm D cl KK ci fs0 mc ms w1 t1) (hG : GoodIn TT (Cond.code y bytes maxL none :: TT)) (hN : Cond.methodLink own index y ∈ TT) (hinst : Cond.instanceMethod y ∈ TT) (hini : Cond.initialized y.cls ∈ TT) (hrm : rm.cells = mc ∧ rm.slots = ms) (hR : rm.frames + 1 ≤ R.frames ∧ 8 + (maxL + 11) + rm.locals ≤ R.locals) (hy : y.name = "<init>") (hd : y.cls ≠ "java/lang/invoke/MethodHandle" ∧ y.cls ≠ "java/lang/invoke/VarHandle" ∧ (parseMethodDescriptor y.desc).map (fun d => d.parameters.length) = some 0)
    (hW : (st.map fun v => v.category).sum ≤ 8) (hf : cells + mc ≤ R.cells ∧ slots + ms ≤ R.slots) (hdg : decode cc pc = .ok (.invokespecial index, 3))
    (k : ∀ u : (Nat → Nat) × (Nat → ClassId), V (w ++ w1 q u) (tys ++ t1 u) (cells + mc) (slots + ms) (pc + 3) lv st) : V (w ++ [(q, .inr (ci, fs0))]) tys cells slots pc lv (.ref q :: st) := by
  obtain ⟨p, e, s, m, args, below, meth, c, A, H0, Q, rfl, hx, hb, hml, hown, hts, hKm, hKK, hA⟩ := hX
  intro H locs ls hK hP hD hS hl
  have hPl : va_P D cl [(q, .inr (ci, fs0))] H := fun k9 x hx => hP (w.length + k9) x (by rw [List.getElem?_append_right (by omega)]; simpa using hx)
  have hDl : va_D (fun _ => True) [(q, Sum.inr (ci, fs0))] := ⟨fun i j x y9 hi hj _ => by
    have h1 := (List.getElem?_eq_some_iff.mp hi).1
    have h2 := (List.getElem?_eq_some_iff.mp hj).1
    simp at h1 h2
    omega, fun _ _ _ => trivial⟩
  exact g_joined (w1 := w1 q) (t1 := t1) (va_runI (As := []) (rest := st) ⟨hx, hb, hml, hown, hts⟩ (hM q H.size) (cwI 0 hts hG rfl hrm.1 hrm.2 (hts _ hini) (hts _ hN) (hts _ hinst) hy hd hR) ⟨fun a U g mk x => by obtain ⟨x0, x1, xP, xK, xD⟩ := x; exact ⟨x0, x1, xP, hKm.2 U g mk a xK, xD⟩, fun U hU hW9 => ⟨rfl, by rw [hU], by rw [hU]; exact hPl, hKm.1 _ U hW9 hKK, hDl⟩⟩ rfl rfl hl.1 rfl (lv_room hW) hdg hf) hA hK hP hD hS (fun u H1 locs1 h0 h1 h2 h3 => k u H1 locs1 ls h0 h1 h2 h3 hl)
end ZGC
/-- a constructor's contract out of its walk; its end is 'hE' -/
theorem zmk_n {l : Launch} {cc : ByteArray} {TT : List Cond} {KK : State → Prop} {D : va_G} {cl : List vw_C} {nL : Nat} {rm : Room} {y : MethodName} {ci mc ms : Nat} {fs0 : List Value} {w1 : Nat → (Nat → Nat) × (Nat → ClassId) → va_W} {t1 : (Nat → Nat) × (Nat → ClassId) → List (ClassId × FieldType)} (hy : plainName y.cls = true) (hyn : y.name = "<init>") (hKm : zKm KK) (hKt : ∀ U, KK U → va_K D cl [] U) (hnL : 1 ≤ nL)
    (hbody : ∀ (V : zGV) (h0 : Nat), zGn V l cc y.cls TT KK D cl nL rm → (∀ (u : (Nat → Nat) × (Nat → ClassId)) (pc : Nat) (lv : List (Nat × Value)), decode cc pc = .ok (.return_, 1) → V (w1 h0 u) (t1 u) mc ms pc lv []) → V [(h0, .inr (ci, fs0))] [] 0 0 0 [(0, .ref h0)] []) : zN l y (Cond.code y cc nL none :: TT) rm D cl KK ci fs0 mc ms w1 t1 := by
  intro h0 sz
  refine Met.ofW (cc := cc) (maxL := nL) (ret := none) hy rfl ?_
  intro p e s m args below meth c s₁ B hml hv
  obtain ⟨rfl, hsz, hP, hKK, hD0⟩ := hv
  have hx := B.exec
  have hb := B.bytes
  have hr := B.returns
  have hts := atoms_spec (ws := Cond.code y cc nL none :: TT) B.pre
  have hown : s.vm.findClass y.cls = some m.cls := findClass_of_methodNamed B.named
  have hlocks := B.notSynchronized
  have hin : meth.name = "<init>" := by rw [(name_of_methodNamed B.named B.method).1, hyn]
  subst hsz
  have hD := hD0.self (sz := s.heap.size)
  have hA : ∀ q : Nat, s.heap.size ≤ q → va_A [(h0, .inr (ci, fs0))] s.heap.size q := fun q h => Or.inr h
  have hl := lv_entry [.ref h0] (n := nL) (by simpa [lg_sl, Value.category] using hnL)
  rw [lg_entry_eq]
  refine hbody (fun w tys cells slots pc lv st => ∀ (H : Heap) (locs : List Loc) (ls : Array Slot), va_K D cl tys s → va_P D cl w H → va_D (va_A [(h0, .inr (ci, fs0))] s.heap.size) w → va_S (va_A [(h0, .inr (ci, fs0))] s.heap.size) s.heap H locs → lv_has ls nL lv → W p l e rm s m ([.ref h0] : List Value).toArray below meth c H locs cells slots (MQ below (va_Qv (fun _ : (Nat → Nat) × (Nat → ClassId) => True) (fun u t => va_P D cl (w1 h0 u) t.heap ∧ va_K D cl (t1 u) t ∧ va_D (va_A [(h0, .inr (ci, fs0))] s.heap.size) (w1 h0 u)) (va_A [(h0, .inr (ci, fs0))] s.heap.size)) ([.ref h0] : List Value).toArray s mc ms (va_A [(h0, .inr (ci, fs0))] s.heap.size)) (F0 m pc ls st)) h0
    ⟨p, e, s, m, _, below, meth, c, va_A [(h0, .inr (ci, fs0))] s.heap.size, s.heap, _, rfl, hx, hb, hml, hown, fun w h => hts w (List.mem_cons_of_mem _ h), hKm, hKK, hA, hin⟩ ?_ s.heap [] _ (hKt s hKK) hP hD va_S.rf hl
  intro u pc lv hd H locs ls hK1 hP1 hD1 hS1 hl1
  exact W.vret hx hb hr (fun t ht hW => ⟨⟨u, rfl, trivial, by rw [ht]; exact hP1, va_K.moved hW.alike hK1, hD1⟩, hS1.F ht⟩) hS1.2.2 hd
