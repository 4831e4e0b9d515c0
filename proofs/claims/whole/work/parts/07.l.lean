/-! The law's own machine: the script b of L ints xs lies outside the world. -/
def zIsL {α : Type} (V : zV α) (l : Launch) (cc : ByteArray) (own : String) (TT : List Cond) (KK : State → Prop) (D : va_G) (cl : List vw_C) (tys : List (ClassId × FieldType)) (nL : Nat) (R : Room) (b L : Nat) (xs : Nat → Int32) : Prop :=
  ∃ (p : Program) (e : Env) (s : State) (m : MethodId) (args : Array Value) (below : List Frame) (meth : Method) (c : Code) (cells slots : Nat) (A : Nat → Prop) (H0 : Heap) (Qo : α × zS → State → Prop),
    V = (fun w pc lv st out => ∀ (H : Heap) (locs : List Loc) (ls : Array Slot), va_P D cl w H → va_D A w → va_S A H0 H locs → lv_has ls nL lv → W p l e R s m args below meth c H locs cells slots (Qo out) (F0 m pc ls st)) ∧
    (p.tables.exec = Jvm.exec ∧ c.code = cc ∧ c.maxLocals = nL ∧ s.vm.findClass own = some m.cls ∧ (∀ w ∈ TT, w.before args s = true) ∧ zKm KK ∧ KK s ∧ va_K D cl tys s ∧ (∀ q, H0.size ≤ q → A q) ∧ cells ≤ R.cells ∧ slots ≤ R.slots) ∧ va_X b L xs s H0 ∧ b < H0.size ∧ ¬ A b
theorem zIsL.is {α : Type} {V : zV α} {l : Launch} {cc : ByteArray} {own : String} {TT : List Cond} {KK : State → Prop} {D : va_G} {cl : List vw_C} {tys : List (ClassId × FieldType)} {nL : Nat} {R : Room} {b L : Nat} {xs : Nat → Int32} (h : zIsL V l cc own TT KK D cl tys nL R b L xs) : zIs V l cc own TT KK D cl tys nL R := by
  obtain ⟨p, e, s, m, args, below, meth, c, cells, slots, A, H0, Qo, h1, h2, -⟩ := h
  exact ⟨p, e, s, m, args, below, meth, c, cells, slots, A, H0, Qo, h1, h2⟩
section ZLR
variable {α : Type} {V : zV α} {l : Launch} {cc : ByteArray} {own : String} {TT : List Cond} {KK : State → Prop} {D : va_G} {cl : List vw_C} {tys : List (ClassId × FieldType)} {nL : Nat} {R : Room} {f : Option (α × zS)} {w : va_W} {pc : Nat} {lv : List (Nat × Value)} {st : List Value} {b L : Nat} {xs : Nat → Int32}
theorem z_sld (hX : zIsL V l cc own TT KK D cl tys nL R b L xs) {i : Int32} (hd : decode cc pc = .ok (.iaload, 1)) (k : zJ V f w (pc + 1) lv (.int (xs i.toNatClampNeg) :: st)) : zJ V (zgd (zin i L) f) w pc lv (.int i :: .ref b :: st) := by
  refine z_gd (fun hi => ?_)
  obtain ⟨p, e, s, m, args, below, meth, c, cells, slots, A, H0, Qo, rfl, ⟨hx, hb, hml, hown, hts, hKm, hKK, hK, hA, hcs⟩, hXs, hbl, hbA⟩ := hX
  intro out hf H locs ls hP hD hS hl
  exact va_sld hx hb hXs hbl hbA hS (zin_vp hi) hd (k out hf H locs ls hP hD hS hl)
theorem z_slen (hX : zIsL V l cc own TT KK D cl tys nL R b L xs) (hd : decode cc pc = .ok (.arraylength, 1)) (k : zJ V f w (pc + 1) lv (.int (nI L) :: st)) : zJ V f w pc lv (.ref b :: st) := by
  obtain ⟨p, e, s, m, args, below, meth, c, cells, slots, A, H0, Qo, rfl, ⟨hx, hb, hml, hown, hts, hKm, hKK, hK, hA, hcs⟩, hXs, hbl, hbA⟩ := hX
  intro out hf H locs ls hP hD hS hl
  exact va_slen hx hb hXs hbl hbA hS hd (k out hf H locs ls hP hD hS hl)
end ZLR
theorem zsw_at {a b : va_W} {k : Nat} {q : Nat × va_E} (h : (b ++ a)[k]? = some q) : ∃ k2, (a ++ b)[k2]? = some q ∧ (k2 = if k < b.length then a.length + k else k - b.length) := by
  by_cases hk : k < b.length
  · refine ⟨a.length + k, ?_, by rw [if_pos hk]⟩
    rw [List.getElem?_append_left hk] at h
    rw [List.getElem?_append_right (by omega)]
    rw [show a.length + k - a.length = k by omega]
    exact h
  · refine ⟨k - b.length, ?_, by rw [if_neg hk]⟩
    rw [List.getElem?_append_right (by omega)] at h
    have hl : k - b.length < a.length := (List.getElem?_eq_some_iff.mp h).1
    rw [List.getElem?_append_left hl]
    exact h
theorem zsw_P {D : va_G} {cl : List vw_C} {a b : va_W} {H : Heap} (h : va_P D cl (a ++ b) H) : va_P D cl (b ++ a) H := fun k q hq => by
  obtain ⟨k2, h2, -⟩ := zsw_at hq
  exact h k2 q h2
theorem zsw_D {A : Nat → Prop} {a b : va_W} (h : va_D A (a ++ b)) : va_D A (b ++ a) := by
  refine ⟨fun i j p q hi hj hpq => ?_, fun k q hq => ?_⟩
  · obtain ⟨i2, h2, e2⟩ := zsw_at hi
    obtain ⟨j2, h3, e3⟩ := zsw_at hj
    have hij := h.1 i2 j2 p q h2 h3 hpq
    have hil : i < (b ++ a).length := (List.getElem?_eq_some_iff.mp hi).1
    have hjl : j < (b ++ a).length := (List.getElem?_eq_some_iff.mp hj).1
    rw [List.length_append] at hil hjl
    subst e2
    subst e3
    by_cases h1 : i < b.length <;> by_cases h4 : j < b.length
    · rw [if_pos h1, if_pos h4] at hij; omega
    · rw [if_pos h1, if_neg h4] at hij; omega
    · rw [if_neg h1, if_pos h4] at hij; omega
    · rw [if_neg h1, if_neg h4] at hij; omega
  · obtain ⟨k2, h2, -⟩ := zsw_at hq
    exact h.2 k2 q h2
/-- two worlds side by side, the other way round -/
theorem z_swap {α : Type} {V : zV α} {l : Launch} {cc : ByteArray} {own : String} {TT : List Cond} {KK : State → Prop} {D : va_G} {cl : List vw_C} {tys : List (ClassId × FieldType)} {nL : Nat} {R : Room} {f : Option (α × zS)} {a b : va_W} {pc : Nat} {lv : List (Nat × Value)} {st : List Value} (hX : zIs V l cc own TT KK D cl tys nL R) (k : zJ V f (b ++ a) pc lv st) : zJ V f (a ++ b) pc lv st := by
  obtain ⟨p, e, s, m, args, below, meth, c, cells, slots, A, H0, Qo, rfl, hx, hb, hml, hown, hts, hKm, hKK, hK, hA, hcs⟩ := hX
  intro out hf H locs ls hP hD hS hl
  exact k out hf H locs ls (zsw_P hP) (zsw_D hD) hS hl

