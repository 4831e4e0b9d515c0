set_option maxRecDepth 100000 in
set_option maxHeartbeats 8000000 in
theorem law_g (l : Launch) (D : va_G) {V : zGV} {b : Nat} (hX : zGIs V l code R_L zTT (zK0 D) D zcl 4 room_1) (hk : ∀ (q0 : Nat) (u0 : (Nat → Nat) × (Nat → ClassId)) (q8 : Nat) (u8 : (Nat → Nat) × (Nat → ClassId)), V (zn_P q0 u0 ++ zn_M q8 u8) (zt_P u0 ++ zt_M u8) 51 2498 18 [(3, .int 0), (2, .ref q8), (1, .ref q0), (0, .ref b)] []) : V [] [] 0 0 0 [(0, .ref b)] [] := by
  refine g_new (C := R_P) (T := F_P) (N := 7) (ci := 0) (fs := [.null, .null, .null, .null, .null, .null, .int 0]) hX in_P t_P t_P_ok w_clink_L_7_P w_inst_P_7 w_init_P rfl (fun j hj => by rcases (show j = 0 ∨ j = 1 ∨ j = 2 ∨ j = 3 ∨ j = 4 ∨ j = 5 ∨ j = 6 by omega) with rfl | rfl | rfl | rfl | rfl | rfl | rfl <;> rfl) (by decide) (by decide) d_L_law_0 (fun q0 => ?_)
  refine g_dup hX d_L_law_3 rfl ?_
  refine g_ctor hX (cn_P l D) gI_L_9 w_mlink_L_9 w_imeth_P_init w_init_P ⟨rfl, rfl⟩ ⟨by decide, by decide⟩ rfl (by decide +kernel) (Nat.le_of_ble_eq_true rfl) ⟨by decide, by decide⟩ d_L_law_4 (fun u4 => ?_)
  refine g_astore_n (i := 1) (lv2 := [(1, .ref q0), (0, .ref b)]) hX d_L_law_7 rfl (by decide) rfl ?_
  refine g_new (C := R_M) (T := F_M) (N := 27) (ci := 6) (fs := [.int 0, .int 0, .int 0, .null, .null, .null, .null, .null, .null, .null, .null, .null, .null, .null, .null, .null, .null, .null, .null, .null, .int 0, .int 0, .int 0, .int 0, .null, .null, .null]) hX in_M t_M t_M_ok w_clink_L_10_M w_inst_M_27 w_init_M rfl (fun j hj => by rcases (show j = 0 ∨ j = 1 ∨ j = 2 ∨ j = 3 ∨ j = 4 ∨ j = 5 ∨ j = 6 ∨ j = 7 ∨ j = 8 ∨ j = 9 ∨ j = 10 ∨ j = 11 ∨ j = 12 ∨ j = 13 ∨ j = 14 ∨ j = 15 ∨ j = 16 ∨ j = 17 ∨ j = 18 ∨ j = 19 ∨ j = 20 ∨ j = 21 ∨ j = 22 ∨ j = 23 ∨ j = 24 ∨ j = 25 ∨ j = 26 by omega) with rfl | rfl | rfl | rfl | rfl | rfl | rfl | rfl | rfl | rfl | rfl | rfl | rfl | rfl | rfl | rfl | rfl | rfl | rfl | rfl | rfl | rfl | rfl | rfl | rfl | rfl | rfl <;> rfl) (by decide) (by decide) d_L_law_8 (fun q8 => ?_)
  refine g_dup hX d_L_law_11 rfl ?_
  refine g_ctor hX (cn_M l D) gI_L_12 w_mlink_L_12 w_imeth_M_init w_init_M ⟨rfl, rfl⟩ ⟨by decide, by decide⟩ rfl (by decide +kernel) (Nat.le_of_ble_eq_true rfl) ⟨by decide, by decide⟩ d_L_law_12 (fun u12 => ?_)
  refine g_astore_n (i := 2) (lv2 := [(2, .ref q8), (1, .ref q0), (0, .ref b)]) hX d_L_law_15 rfl (by decide) rfl ?_
  refine g_iconst (v := 0) hX d_L_law_16 (by decide) ?_
  refine g_istore_n (i := 3) (lv2 := [(3, .int 0), (2, .ref q8), (1, .ref q0), (0, .ref b)]) hX d_L_law_17 rfl (by decide) rfl ?_
  exact hk q0 u4 q8 u12
/-! THE CLAIM OUT OF ONE WALK OF THE LAW'S BODY. Your part is whole_start (and what it stands on); all else here is the same for every law, but numbers. -/
def R_law : String := "ProvenanceRowsLaw"
def lw_P (b : Addr) (xs : List Int32) (args : Array Value) (s : State) : Prop := args = #[.ref b] ∧ s.IntsAt b xs ∧ xs.length ≤ 3584 ∧ (Jvm.Cond.and given_1 narrow_1).before args s = true
def lw_Q (_ : Array Value) (s : State) (o : Outcome) (t : State) : Prop := o = .returned (some (.int 1)) ∧ Framed s o t [] 51 2498
def lw_Z (below : List Frame) (a : Array Value) (s : State) : State → Prop := fun t => ∃ o, t.status = .running ∧ Ended t below o ∧ lw_Q a s o t
/-- the law's own end, with 1 on the stack, nothing written that was there before, its room as the claim has it -/
theorem lw_ret {p : Program} {l : Launch} {e : Env} {s : State} {m : MethodId} {below : List Frame} {meth : Method} {c : Code} {b : Nat} (hx : p.tables.exec = Jvm.exec) (hb : c.code = code) (hr : meth.sig.returnType = ret) (hlocks : meth.locks = false) {pc : Nat} {H : Heap} {ls : Array Slot} (hdg : decode code pc = .ok (.ireturn, 1)) : W p l e room_1 s m #[Value.ref b] below meth c H [] 51 2498 (lw_Z below #[Value.ref b] s) (F0 m pc ls [.int 1]) := by
  intro T hT X
  obtain ⟨fs, hret, hrun, hended, hW, hframe⟩ := X.leave (v := some (.int 1)) (hlocks := hlocks) (fun h => by rw [hr] at h; cases h)
  have hmeth' : T.vm.method? m = some meth := X.method'
  refine ⟨T.setFrames fs, ?_, .returned (some (.int 1)), hrun, hended, rfl, ⟨_, rfl⟩, hW, hframe⟩
  jvm_step X.here [X.here.top, hx, hb, hdg, hmeth', hr, ret, narrow_b1]
  (try refine ⟨rfl, ?_⟩); (try refine ⟨rfl, ?_⟩)
  first | (intro acts; rw [hret _ acts rfl rfl rfl]) | rw [hret _ _ rfl rfl rfl]
  exact Steps.refl _
/-- what holds at the law's entry: the machine, the code, the tables' words (any of lw_tbl by 'hts w (by decide +kernel)'), the script of L ints xs at the cell b, what the Statement gives of the start (any of its parts by flat_of_before) -/
def lw_At (p : Program) (s : State) (m : MethodId) (meth : Method) (c : Code) (b L : Nat) (xs : Nat → Int32) : Prop :=
  p.tables.exec = Jvm.exec ∧ c.code = code ∧ meth.sig.returnType = ret ∧ c.maxLocals = 4 ∧ s.vm.findClass R_law = some m.cls ∧ (∀ w ∈ lw_tbl, w.before #[Value.ref b] s = true) ∧ va_X b L xs s s.heap ∧ b < s.heap.size ∧ meth.locks = false ∧ (Jvm.Cond.and given_1 narrow_1).before #[Value.ref b] s = true
set_option maxRecDepth 100000 in
set_option maxHeartbeats 8000000 in
/-- the law, from its entry -/
theorem whole_start {p : Program} {e : Env} {s : State} {m : MethodId} {below : List Frame} {meth : Method} {c : Code} (l : Launch) {b L : Nat} {xs : Nat → Int32} (hL : L ≤ 3584) (C0 : lw_At p s m meth c b L xs) : W p l e room_1 s m #[Value.ref b] below meth c s.heap [] 0 0 (lw_Z below #[Value.ref b] s) (entryFrame m ([Value.ref b] : List Value).toArray 4) := by
  obtain ⟨hx, hb, hr, hml, hown, hts, hX, hbl, hlocks, hgv⟩ := id C0
  have hA : ∀ q : Nat, s.heap.size ≤ q → (fun q : Nat => s.heap.size ≤ q) q := fun _ h => h
  have hbA : ¬ (fun q : Nat => s.heap.size ≤ q) b := Nat.not_le.mpr hbl
  obtain ⟨c0, iS0, hKn0⟩ := u_known (C := R_P) (T := F_P) (N := 7) (n := 7) hts i_P (hts _ (zTT_in _ w_inst_P_7))
  obtain ⟨c1, iS1, hKn1⟩ := u_known (C := R_S) (T := F_S) (N := 5) (n := 5) hts i_S (hts _ (zTT_in _ w_inst_S_5))
  obtain ⟨c2, iS2, hKn2⟩ := u_known (C := R_A) (T := F_A) (N := 11) (n := 11) hts i_A (hts _ (zTT_in _ w_inst_A_11))
  obtain ⟨c3, iS3, hKn3⟩ := u_known (C := R_W) (T := F_W) (N := 2) (n := 2) hts i_W (hts _ (zTT_in _ w_inst_W_2))
  obtain ⟨c4, iS4, hKn4⟩ := u_known (C := R_Y) (T := F_Y) (N := 3) (n := 3) hts i_Y (hts _ (zTT_in _ w_inst_Y_3))
  obtain ⟨c5, iS5, hKn5⟩ := u_known (C := R_Q) (T := F_Q) (N := 3) (n := 3) hts i_Q (hts _ (zTT_in _ w_inst_Q_3))
  obtain ⟨c6, iS6, hKn6⟩ := u_known (C := R_M) (T := F_M) (N := 27) (n := 27) hts i_M (hts _ (zTT_in _ w_inst_M_27))
  obtain ⟨dC, dI, hKc⟩ : ∃ (dC : Nat → ClassId) (dI : Nat → Nat → Nat), ∀ (k : Nat) (q : vw_C), zcl[k]? = some q → u_Kn s q.1 q.2.1 q.2.2 (dC k) (dI k) := by
    refine ⟨fun k => if k = 0 then c0 else if k = 1 then c1 else if k = 2 then c2 else if k = 3 then c3 else if k = 4 then c4 else if k = 5 then c5 else c6, fun k => if k = 0 then iS0 else if k = 1 then iS1 else if k = 2 then iS2 else if k = 3 then iS3 else if k = 4 then iS4 else if k = 5 then iS5 else iS6, ?_⟩
    intro k q hq
    match k, hq with
    | 0, hq => cases hq; exact hKn0
    | 1, hq => cases hq; exact hKn1
    | 2, hq => cases hq; exact hKn2
    | 3, hq => cases hq; exact hKn3
    | 4, hq => cases hq; exact hKn4
    | 5, hq => cases hq; exact hKn5
    | 6, hq => cases hq; exact hKn6
    | k + 7, hq => simp [zcl] at hq
  have hK : va_K (dC, dI) zcl [] s := ⟨hKc, fun k q h => by simp at h⟩
  have hN : zNest s := ⟨va_Nw.of rfl (hts (.methodLinkNest "ProvenanceRows" 9 y_S_init "ProvenanceRows") (List.mem_of_getElem? (i := 45) (by decide +kernel))), va_Nw.of rfl (hts (.methodLinkNest "ProvenanceRows" 18 y_A_init "ProvenanceRows") (List.mem_of_getElem? (i := 74) (by decide +kernel))), va_Nw.of rfl (hts (.methodLinkNest "ProvenanceRows$Artefacts" 30 y_W_init "ProvenanceRows") (List.mem_of_getElem? (i := 80) (by decide +kernel))), va_Nw.of rfl (hts (.methodLinkNest "ProvenanceRows" 25 y_Y_init "ProvenanceRows") (List.mem_of_getElem? (i := 139) (by decide +kernel))), va_Nw.of rfl (hts (.methodLinkNest "ProvenanceRows" 32 y_Q_init "ProvenanceRows") (List.mem_of_getElem? (i := 158) (by decide +kernel))), va_Nw.of rfl (hts (.methodLinkNest "ProvenanceRows$Closure" 41 y_P_hasBit "ProvenanceRows") (List.mem_of_getElem? (i := 295) (by decide +kernel))), va_Nw.of rfl (hts (.methodLinkNest "ProvenanceRows$Artefacts" 81 y_P_hasBit "ProvenanceRows") (List.mem_of_getElem? (i := 398) (by decide +kernel)))⟩
  have hP : va_P (dC, dI) zcl [] s.heap := fun k q h => by simp at h
  have hD : va_D (fun q : Nat => s.heap.size ≤ q) [] := ⟨fun i j p q h => by simp at h, fun k q h => by simp at h⟩
  have hl := lv_entry ([.ref b]) (n := 4) (Nat.le_of_ble_eq_true rfl)
  have htt : ∀ w ∈ zTT, w.before #[Value.ref b] s = true := fun w h => hts w (zTT_in w h)
  rw [lg_entry_eq]
  refine law_g l (dC, dI) (b := b) (V := fun w tys cells slots pc lv st => ∀ (H : Heap) (locs : List Loc) (ls : Array Slot), va_K (dC, dI) zcl tys s → va_P (dC, dI) zcl w H → va_D (fun q : Nat => s.heap.size ≤ q) w → va_S (fun q : Nat => s.heap.size ≤ q) s.heap H locs → lv_has ls 4 lv → W p l e room_1 s m #[Value.ref b] below meth c H locs cells slots (lw_Z below #[Value.ref b] s) (F0 m pc ls st)) ⟨p, e, s, m, #[Value.ref b], below, meth, c, (fun q : Nat => s.heap.size ≤ q), s.heap, lw_Z below #[Value.ref b] s, rfl, hx, hb, hml, hown, htt, zK0_m (dC, dI), ⟨hK, hN⟩, hA⟩ ?_ s.heap [] _ hK hP hD va_S.rf hl
  intro q0 u0 q8 u8
  rw [zw0 q0 u0 q8 u8, zt0 u0 u8]
  intro H locs ls hK1 hP1 hD1 hS1 hl1
  obtain ⟨σ1, hpure⟩ := pure_law L xs hL
  refine bk_L_law_18 l (dC, dI) (zad q0 u0 q8 u8) (zca u0 u8) (V := fun w pc lv st out => ∀ (H : Heap) (locs : List Loc) (ls : Array Slot), va_P (dC, dI) zcl w H → va_D (fun q : Nat => s.heap.size ≤ q) w → va_S (fun q : Nat => s.heap.size ≤ q) s.heap H locs → lv_has ls 4 lv → W p l e room_1 s m #[Value.ref b] below meth c H locs 51 2498 (lw_Z below #[Value.ref b] s) (F0 m pc ls st)) (b := b) (L := L) (xs := xs) ⟨p, e, s, m, #[Value.ref b], below, meth, c, 51, 2498, (fun q : Nat => s.heap.size ≤ q), s.heap, (fun _ => lw_Z below #[Value.ref b] s), rfl, ⟨hx, hb, hml, hown, htt, zKK_m (dC, dI) (zca u0 u8), ⟨hK1, hN⟩, hK1, hA, by decide, by decide⟩, hX, hbl, hbA⟩ ?_ 600 0 zs0 zm0 (1, σ1) hpure H locs ls hP1 hD1 hS1 (lv_sub hl1 [3, 2, 1, 0] rfl)
  intro w σ pc lv hd H2 locs2 ls2 hP2 hD2 hS2 hl2
  refine va_forget (fun q hq => hS2.2.2 q hq) ?_
  exact lw_ret hx hb hr hlocks hd
set_option maxHeartbeats 4000000 in
theorem lw_walk (l : Launch) (b : Addr) (xs : List Int32) : MetFree l x (headSpec (Jvm.Cond.code x code maxLocals ret :: tables_1) room_1) (lw_P b xs) (fun _ _ _ _ _ => True) lw_Q := by
  refine MetFree.of_bodyS (code := code) (maxLocals := maxLocals) (ret := ret) (by decide) ?_ ?_
  · intro args s m h hn
    obtain ⟨meth, c, h1, h2, h3, h4, h5, h6, -, -⟩ := Cond.code_spec hn (atoms_spec (ws := Jvm.Cond.code x code maxLocals ret :: tables_1) h _ List.mem_cons_self)
    exact ⟨meth, c, h1, h2, h3, h4, h5, h6⟩
  · intro p e s m args below meth c s₁ B hml0 hP _
    obtain ⟨rfl, hx, hbd, hgv⟩ := hP
    obtain ⟨scr, harrAt, hlist, hof, hsmall⟩ := hx
    obtain ⟨hcb, hkn, -, -⟩ := State.arrayAt?_spec harrAt
    have hown : s.vm.findClass R_law = some m.cls := findClass_of_methodNamed B.named
    have hts0 : ∀ c ∈ (Jvm.Cond.code x code maxLocals ret :: tables_1), c.before #[Value.ref b] s = true := atoms_spec (ws := Jvm.Cond.code x code maxLocals ret :: tables_1) B.pre
    have hts : ∀ w ∈ lw_tbl, w.before #[Value.ref b] s = true := k2_hts_sels lw_privs (fun w hw => hts0 w (List.mem_cons_of_mem _ hw)) lw_privs_ok
    have hml : c.maxLocals = 4 := B.maxLocals_eq (hts0 _ List.mem_cons_self)
    have X₀ : Stand p l e room_1 s m #[Value.ref b] below meth c s₁ [] 0 0 := Stand.of_body B
    have hh0 : s₁.heap = s.heap := by rw [B.state]; rfl
    have hsz : scr.slots.size = xs.length := by rw [← Array.length_toList, hlist, List.length_map]
    have hval : ∀ j : Nat, j < xs.length → scr.slots[j]? = some (.int (xs.getD j 0)) := fun j hj => by
      rw [← Array.getElem?_toList, hlist]
      simp [hj]
    have hbl : b < s.heap.size := (Array.getElem?_eq_some_iff.mp hcb).1
    have hX : va_X b xs.length (fun j => xs.getD j 0) s s.heap := ⟨scr, hcb, hof, hkn, hsz, hval⟩
    have K : W p l e room_1 s m #[Value.ref b] below meth c s₁.heap [] 0 0 (lw_Z below #[Value.ref b] s) (entryFrame m ([Value.ref b] : List Value).toArray 4) := by
      rw [hh0]
      exact whole_start l hbd ⟨B.exec, B.bytes, B.returns, hml, hown, hts, hX, hbl, B.notSynchronized, hgv⟩
    obtain ⟨t, a1, o, b1, b2, b3⟩ := K s₁ rfl X₀
    exact ⟨t, o, a1, b1, b2, b3⟩
theorem lw_pre_spec {args : Array Value} {s : State} (h : (Jvm.Cond.and given_1 narrow_1).before args s = true) (hr : rest_1_c.before args s = true) : ∃ (b : Addr) (xs : List Int32), lw_P b xs args s := by
  have hs := flat_of_before _ h
  have hq := flat_of_before _ hr
  have hc : (Cond.count 1).before args s = true := hs _ (by decide +kernel)
  have harr : (Cond.arrayOf (.arg 0) .int).before args s = true := hs _ (by decide +kernel)
  have hle : (Cond.le (.length (.arg 0)) (.int 3584)).before args s = true := hs _ (by decide +kernel)
  have hlen : (Cond.isInt (.length (.arg 0))).before args s = true := hq _ (by decide +kernel)
  have hall : (Cond.all (.arg 0) (.isInt (.elem (.arg 0) (.index 0)))).before args s = true := hq _ (by decide +kernel)
  obtain ⟨b, xs, hb, hx⟩ := State.ints_of_pre rfl harr hlen hall
  have hsm : xs.length < 2 ^ 31 := hx.choose_spec.2.2.2
  have hev : (Term.length (.arg 0)).eval args s none [] s = some (.int xs.length.toInt32) := hx.length_eval hb
  have hv := Cond.le_ints hev (show (Term.int 3584).eval args s none [] s = some (.int 3584) from rfl)
  have hd : xs.length.toInt32 ≤ 3584 := by
    simpa [Cond.before, Cond.holds, hv] using hle
  have hN : xs.length ≤ 3584 := (Int32.ofNat_le_ofNat hsm (by decide)).mp (show Int32.ofNat xs.length ≤ Int32.ofNat 3584 from hd)
  exact ⟨b, xs, Cond.one_arg hc (show args[0]? = some (.ref b) from hb), hx, hN, h⟩
theorem lw_comes (l : Launch) : Comes l x (Jvm.Cond.code x code maxLocals ret :: tables_1) room_1 (fun tb e args s => Calls_1 tb e args s ∧ rest_1 tb e args s ∧ Pre_1 tb e args s)
    (fun _ _ args s o t => lw_Q args s o t) := by
  intro p e ha hc hk s m args below hf hfit hheap happ hpre
  obtain ⟨b, xs, hP⟩ := lw_pre_spec hpre.2.2 hpre.2.1
  obtain ⟨k, o, h1, h2, h3, hQ⟩ := lw_walk l b xs p e ha hc hk s m args below hf ((Spec.applies_iff_loose hf).mp happ).1 hP trivial
  exact ⟨k, o, h1, h2, h3, hQ⟩
theorem lw_frame {s t : State} {o : Outcome} {args : Array Value} (h : Framed s o t [] 51 2498) :
    Framed s o t (fieldLocs frame_1_writes args s ++ arrayLocs frame_1_arrays args s ++ staticLocs frame_1_statics s) 51 2498 := h
theorem lw_limb (L : Cond) (hL : ∀ (args : Array Value) (s t : State), L.after args s (.returned (some (.int 1))) t = true) :
    ArmFor flags0 classFile x code maxLocals ret World_1 tables_1 room_1 Calls_1 rest_1 Pre_1
      (fun tb e a s o t => postC L tb e a s o t ∧ Framed s o t (fieldLocs frame_1_writes a s ++ arrayLocs frame_1_arrays a s ++ staticLocs frame_1_statics s) 51 2498) := by
  intro l _ _ _ p e ha hc hk s m args below hf hfit hheap happ hpre
  obtain ⟨k, o, h1, h2, h3, rfl, hF⟩ := lw_comes l p e ha hc hk s m args below hf hfit hheap happ hpre
  exact ⟨k, _, h1, h2, h3, hL args s _, lw_frame hF⟩
theorem i_vc : Claimed_1_1 ∧ Claimed_1_2 := ⟨lw_limb limb_1_1 (fun args s t => by simp [limb_1_1, Cond.after, Cond.holds, Cond.value]), lw_limb limb_1_2 (fun args s t => Cond.after_iff.mpr (by
  first | (rw [show limb_1_2 = Cond.eq .result (.int 1) from rfl, Cond.eq_ints (x := 1) (y := 1) rfl rfl]; simp; done) | (simp [limb_1_2, Cond.value, Term.eval]; done)))⟩
