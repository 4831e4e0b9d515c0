def fn_P_verdict_28 : Nat → Int32 → zS → Option (Int32 × zS)
  | 0, _, _ => none
  | n + 1, x2, σ => if x2 < (σ.1 620 0) then zgd (zin x2 32) (zb (fn_P_firstBrokenBy (σ.1 27 x2.toNatClampNeg) σ) (fun r51 s51 => if r51 = (-1 : Int32) then fn_P_verdict_28 n (x2 + 1) s51 else zst (zF s51 106 (σ.1 27 x2.toNatClampNeg)) (fun s64 => some (r51, s64)))) else some ((-1 : Int32), σ)
set_option maxRecDepth 100000 in
set_option maxHeartbeats 4000000 in
theorem bk_P_verdict_28 (l : Launch) (D : va_G) (ad : Nat → Nat) (ca : Nat → ClassId) {V : zV Int32} {ex : va_W} (hX : zIs V l b_P_verdict R_P zTT (zKK D ca) D zcl (zty ca) 5 (zrm 6 135)) (hR : zRi V b_P_verdict (zwC ad ca) ex) : ∀ (n : Nat) (x2 : Int32) (σ : zS), zJ V (fn_P_verdict_28 n x2 σ) (zwC ad ca σ ++ ex) 28 [(0, .ref (ad 0)), (2, .int x2)] [] := by
  intro n
  induction n with
  | zero => intros; exact z_none
  | succ n ih =>
    intro x2 σ
    show zJ V (if x2 < (σ.1 620 0) then zgd (zin x2 32) (zb (fn_P_firstBrokenBy (σ.1 27 x2.toNatClampNeg) σ) (fun r51 s51 => if r51 = (-1 : Int32) then fn_P_verdict_28 n (x2 + 1) s51 else zst (zF s51 106 (σ.1 27 x2.toNatClampNeg)) (fun s64 => some (r51, s64)))) else some ((-1 : Int32), σ)) _ _ _ _
    refine z_iload_n (i := 2) hX d_P_verdict_28 rfl rfl ?_
    refine z_aload_n (i := 0) hX d_P_verdict_29 rfl rfl ?_
    refine z_get (C := R_P) (T := F_P) (N := 7) hX in_P 0 rfl rfl 4 (by decide) w_field_P_37_P_4 rfl d_P_verdict_30 ?_
    refine z_get (C := R_Q) (T := F_Q) (N := 3) hX in_Q 26 rfl rfl 0 (by decide) w_field_P_93_Q_0 rfl d_P_verdict_33 ?_
    refine z_icmp_ge (tgt := 76) hX d_P_verdict_36 (by decide) (fun c36 => ?_) (fun c36 => ?_)
    · refine z_aload_n (i := 0) hX d_P_verdict_39 rfl rfl ?_
      refine z_get (C := R_P) (T := F_P) (N := 7) hX in_P 0 rfl rfl 4 (by decide) w_field_P_37_P_4 rfl d_P_verdict_40 ?_
      refine z_get (C := R_Q) (T := F_Q) (N := 3) hX in_Q 26 rfl rfl 1 (by decide) w_field_P_96_Q_1 rfl d_P_verdict_43 ?_
      refine z_iload_n (i := 2) hX d_P_verdict_46 rfl rfl ?_
      refine z_iald hX 27 19 rfl rfl d_P_verdict_47 ?_
      refine z_istore_n (i := 3) (lv2 := [(3, .int (σ.1 27 x2.toNatClampNeg)), (0, .ref (ad 0)), (2, .int x2)]) hX d_P_verdict_48 rfl (by decide) rfl ?_
      refine z_aload_n (i := 0) hX d_P_verdict_49 rfl rfl ?_
      refine z_iload_n (i := 3) hX d_P_verdict_50 rfl rfl ?_
      refine z_callVi (wl := zwC ad ca) (C := R_P) (n := 1) (rest := []) hX [.int (σ.1 27 x2.toNatClampNeg)] (ct_P_firstBrokenBy l D ad ca (σ.1 27 x2.toNatClampNeg) σ) gV_P_100 ⟨rfl, rfl⟩ ⟨by decide, by decide⟩ (by decide +kernel) rfl 0 rfl rfl rfl rfl (Nat.le_of_ble_eq_true rfl) d_P_verdict_51 (fun r51 s51 => ?_)
      refine z_istore (i := 4) (lv2 := [(4, .int r51), (3, .int (σ.1 27 x2.toNatClampNeg)), (0, .ref (ad 0)), (2, .int x2)]) hX d_P_verdict_54 (by decide) rfl ?_
      refine z_iload (i := 4) hX d_P_verdict_56 rfl ?_
      refine z_iconst (v := -1) hX d_P_verdict_58 (by decide) ?_
      refine z_icmp_eq (tgt := 70) hX d_P_verdict_59 (by decide) (fun c59 => ?_) (fun c59 => ?_)
      · refine z_iinc (v := x2 + 1) (lv2 := [(2, .int (x2 + 1)), (4, .int r51), (3, .int (σ.1 27 x2.toNatClampNeg)), (0, .ref (ad 0))]) hX d_P_verdict_70 3 rfl (by first | rfl | decide) (by decide) rfl ?_
        refine z_goto (tgt := 28) hX d_P_verdict_73 (by decide) ?_
        refine z_lv hX [3, 0] (lv2 := [(0, .ref (ad 0)), (2, .int (x2 + 1))]) rfl ?_
        exact ih _ _
      · refine z_aload_n (i := 0) hX d_P_verdict_62 rfl rfl ?_
        refine z_iload_n (i := 3) hX d_P_verdict_63 rfl rfl ?_
        refine z_put (C := R_P) (T := F_P) (N := 7) (wl := zwC ad ca) (ex := ex) (x9 := (zF s51 106 (σ.1 27 x2.toNatClampNeg))) hX in_P t_P t_P_ok n_P 0 rfl rfl 6 (by decide) w_field_P_43_P_6 rfl rfl rfl (Nat.le_of_ble_eq_true rfl) rfl d_P_verdict_64 (fun s64 => ?_)
        refine z_iload (i := 4) hX d_P_verdict_67 rfl ?_
        exact z_iret hR d_P_verdict_69
    · refine z_iconst (v := -1) hX d_P_verdict_76 (by decide) ?_
      exact z_iret hR d_P_verdict_77
def fn_P_verdict (x1 : Int32) (σ : zS) : Option (Int32 × zS) := zb (fn_A_has x1 σ) (fun r5 s5 => if r5 = 0 then some ((-2 : Int32), s5) else zb (fn_Q_walk_w x1 s5) (fun r23 s23 => fn_P_verdict_28 100 (0 : Int32) s23))
set_option maxRecDepth 100000 in
set_option maxHeartbeats 4000000 in
theorem ct_P_verdict (l : Launch) (D : va_G) (ad : Nat → Nat) (ca : Nat → ClassId) (x1 : Int32) (σ : zS) : zC zemI l y_P_verdict (Cond.code y_P_verdict b_P_verdict 5 (some .int) :: zTT) (zrm 6 135) D zcl (zKK D ca) (zwC ad ca) σ [.ref (ad 0), .int x1] (fn_P_verdict x1 σ) := by
  refine zmk_i (tys := zty ca) (by decide) (zKK_m D ca) (fun _ h => h.1) (Nat.le_of_ble_eq_true rfl) (fun V ex hX hR => ?_)
  show zJ V (zb (fn_A_has x1 σ) (fun r5 s5 => if r5 = 0 then some ((-2 : Int32), s5) else zb (fn_Q_walk_w x1 s5) (fun r23 s23 => fn_P_verdict_28 100 (0 : Int32) s23))) (zwC ad ca σ ++ ex) 0 [(0, .ref (ad 0)), (1, .int x1)] []
  refine z_aload_n (i := 0) hX d_P_verdict_0 rfl rfl ?_
  refine z_get (C := R_P) (T := F_P) (N := 7) hX in_P 0 rfl rfl 1 (by decide) w_field_P_19_P_1 rfl d_P_verdict_1 ?_
  refine z_iload_n (i := 1) hX d_P_verdict_4 rfl rfl ?_
  refine z_callVi (wl := zwC ad ca) (C := R_A) (n := 1) (rest := []) hX [.int x1] (ct_A_has l D ad ca x1 σ) gV_P_68 ⟨rfl, rfl⟩ ⟨by decide, by decide⟩ (by decide +kernel) rfl 6 rfl rfl rfl rfl (Nat.le_of_ble_eq_true rfl) d_P_verdict_5 (fun r5 s5 => ?_)
  refine z_if_ne (tgt := 14) hX d_P_verdict_8 (by decide) (fun c8 => ?_) (fun c8 => ?_)
  · refine z_bipush (v := -2) hX d_P_verdict_11 (by decide) ?_
    exact z_iret hR d_P_verdict_13
  · refine z_aload_n (i := 0) hX d_P_verdict_14 rfl rfl ?_
    refine z_get (C := R_P) (T := F_P) (N := 7) hX in_P 0 rfl rfl 4 (by decide) w_field_P_37_P_4 rfl d_P_verdict_15 ?_
    refine z_aload_n (i := 0) hX d_P_verdict_18 rfl rfl ?_
    refine z_get (C := R_P) (T := F_P) (N := 7) hX in_P 0 rfl rfl 1 (by decide) w_field_P_19_P_1 rfl d_P_verdict_19 ?_
    refine z_iload_n (i := 1) hX d_P_verdict_22 rfl rfl ?_
    refine z_callVv (wl := zwC ad ca) (C := R_Q) (n := 2) (rest := []) hX [.ref (ad 6), .int x1] (ct_Q_walk_w l D ad ca x1 s5) gV_P_89 ⟨rfl, rfl⟩ ⟨by decide, by decide⟩ (by decide +kernel) rfl 26 rfl rfl rfl rfl (Nat.le_of_ble_eq_true rfl) d_P_verdict_23 (fun r23 s23 => ?_)
    refine z_iconst (v := 0) hX d_P_verdict_26 (by decide) ?_
    refine z_istore_n (i := 2) (lv2 := [(2, .int (0 : Int32)), (0, .ref (ad 0)), (1, .int x1)]) hX d_P_verdict_27 rfl (by decide) rfl ?_
    refine z_lv hX [1, 0] (lv2 := [(0, .ref (ad 0)), (2, .int (0 : Int32))]) rfl ?_
    exact bk_P_verdict_28 l D ad ca hX hR 100 _ _
def fn_P_culprit  (σ : zS) : Option (Int32 × zS) := some (σ.1 106 0, σ)
set_option maxRecDepth 100000 in
set_option maxHeartbeats 4000000 in
theorem ct_P_culprit (l : Launch) (D : va_G) (ad : Nat → Nat) (ca : Nat → ClassId)  (σ : zS) : zC zemI l y_P_culprit (Cond.code y_P_culprit b_P_culprit 1 (some .int) :: zTT) (zrm 0 0) D zcl (zKK D ca) (zwC ad ca) σ [.ref (ad 0)] (fn_P_culprit σ) := by
  refine zmk_i (tys := zty ca) (by decide) (zKK_m D ca) (fun _ h => h.1) (Nat.le_of_ble_eq_true rfl) (fun V ex hX hR => ?_)
  show zJ V (some (σ.1 106 0, σ)) (zwC ad ca σ ++ ex) 0 [(0, .ref (ad 0))] []
  refine z_aload_n (i := 0) hX d_P_culprit_0 rfl rfl ?_
  refine z_get (C := R_P) (T := F_P) (N := 7) hX in_P 0 rfl rfl 6 (by decide) w_field_P_43_P_6 rfl d_P_culprit_1 ?_
  exact z_iret hR d_P_culprit_4
def fn_Y_has (x1 : Int32) (σ : zS) : Option (Int32 × zS) := if x1 < 0 then some ((0 : Int32), σ) else if x1 < (σ.1 520 0) then some ((1 : Int32), σ) else some ((0 : Int32), σ)
set_option maxRecDepth 100000 in
set_option maxHeartbeats 4000000 in
theorem ct_Y_has (l : Launch) (D : va_G) (ad : Nat → Nat) (ca : Nat → ClassId) (x1 : Int32) (σ : zS) : zC zemI l y_Y_has (Cond.code y_Y_has b_Y_has 2 (some .boolean) :: zTT) (zrm 0 0) D zcl (zKK D ca) (zwC ad ca) σ [.ref (ad 21), .int x1] (fn_Y_has x1 σ) := by
  refine zmk_z (tys := zty ca) (by decide) (zKK_m D ca) (fun _ h => h.1) (Nat.le_of_ble_eq_true rfl) (fun V ex hX hR => ?_)
  show zJ V (if x1 < 0 then some ((0 : Int32), σ) else if x1 < (σ.1 520 0) then some ((1 : Int32), σ) else some ((0 : Int32), σ)) (zwC ad ca σ ++ ex) 0 [(0, .ref (ad 21)), (1, .int x1)] []
  refine z_iload_n (i := 1) hX d_Y_has_0 rfl rfl ?_
  refine z_if_lt (tgt := 16) hX d_Y_has_1 (by decide) (fun c1 => ?_) (fun c1 => ?_)
  · refine z_iconst (v := 0) hX d_Y_has_16 (by decide) ?_
    exact z_zret hR rfl d_Y_has_17
  · refine z_iload_n (i := 1) hX d_Y_has_4 rfl rfl ?_
    refine z_aload_n (i := 0) hX d_Y_has_5 rfl rfl ?_
    refine z_get (C := R_Y) (T := F_Y) (N := 3) hX in_Y 21 rfl rfl 0 (by decide) w_field_Y_18_Y_0 rfl d_Y_has_6 ?_
    refine z_icmp_ge (tgt := 16) hX d_Y_has_9 (by decide) (fun c9 => ?_) (fun c9 => ?_)
    · refine z_iconst (v := 1) hX d_Y_has_12 (by decide) ?_
      refine z_goto (tgt := 17) hX d_Y_has_13 (by decide) ?_
      exact z_zret hR rfl d_Y_has_17
    · refine z_iconst (v := 0) hX d_Y_has_16 (by decide) ?_
      exact z_zret hR rfl d_Y_has_17
def fn_P_breaks (x1 : Int32) (x2 : Int32) (σ : zS) : Option (Int32 × zS) := zb (fn_A_has x1 σ) (fun r5 s5 => if r5 = 0 then some ((0 : Int32), s5) else zb (fn_Y_has x2 s5) (fun r16 s16 => if r16 = 0 then some ((0 : Int32), s16) else zb (fn_P_isBroken x2 x1 s16) (fun r25 s25 => if r25 = 0 then some ((0 : Int32), s25) else some ((1 : Int32), s25))))
set_option maxRecDepth 100000 in
set_option maxHeartbeats 4000000 in
theorem ct_P_breaks (l : Launch) (D : va_G) (ad : Nat → Nat) (ca : Nat → ClassId) (x1 : Int32) (x2 : Int32) (σ : zS) : zC zemI l y_P_breaks (Cond.code y_P_breaks b_P_breaks 3 (some .boolean) :: zTT) (zrm 5 113) D zcl (zKK D ca) (zwC ad ca) σ [.ref (ad 0), .int x1, .int x2] (fn_P_breaks x1 x2 σ) := by
  refine zmk_z (tys := zty ca) (by decide) (zKK_m D ca) (fun _ h => h.1) (Nat.le_of_ble_eq_true rfl) (fun V ex hX hR => ?_)
  show zJ V (zb (fn_A_has x1 σ) (fun r5 s5 => if r5 = 0 then some ((0 : Int32), s5) else zb (fn_Y_has x2 s5) (fun r16 s16 => if r16 = 0 then some ((0 : Int32), s16) else zb (fn_P_isBroken x2 x1 s16) (fun r25 s25 => if r25 = 0 then some ((0 : Int32), s25) else some ((1 : Int32), s25))))) (zwC ad ca σ ++ ex) 0 [(0, .ref (ad 0)), (1, .int x1), (2, .int x2)] []
  refine z_aload_n (i := 0) hX d_P_breaks_0 rfl rfl ?_
  refine z_get (C := R_P) (T := F_P) (N := 7) hX in_P 0 rfl rfl 1 (by decide) w_field_P_19_P_1 rfl d_P_breaks_1 ?_
  refine z_iload_n (i := 1) hX d_P_breaks_4 rfl rfl ?_
  refine z_callVi (wl := zwC ad ca) (C := R_A) (n := 1) (rest := []) hX [.int x1] (ct_A_has l D ad ca x1 σ) gV_P_68 ⟨rfl, rfl⟩ ⟨by decide, by decide⟩ (by decide +kernel) rfl 6 rfl rfl rfl rfl (Nat.le_of_ble_eq_true rfl) d_P_breaks_5 (fun r5 s5 => ?_)
  refine z_if_eq (tgt := 35) hX d_P_breaks_8 (by decide) (fun c8 => ?_) (fun c8 => ?_)
  · refine z_iconst (v := 0) hX d_P_breaks_35 (by decide) ?_
    exact z_zret hR rfl d_P_breaks_36
  · refine z_aload_n (i := 0) hX d_P_breaks_11 rfl rfl ?_
    refine z_get (C := R_P) (T := F_P) (N := 7) hX in_P 0 rfl rfl 2 (by decide) w_field_P_26_P_2 rfl d_P_breaks_12 ?_
    refine z_iload_n (i := 2) hX d_P_breaks_15 rfl rfl ?_
    refine z_callVi (wl := zwC ad ca) (C := R_Y) (n := 1) (rest := []) hX [.int x2] (ct_Y_has l D ad ca x2 s5) gV_P_104 ⟨rfl, rfl⟩ ⟨by decide, by decide⟩ (by decide +kernel) rfl 21 rfl rfl rfl rfl (Nat.le_of_ble_eq_true rfl) d_P_breaks_16 (fun r16 s16 => ?_)
    refine z_if_eq (tgt := 35) hX d_P_breaks_19 (by decide) (fun c19 => ?_) (fun c19 => ?_)
    · refine z_iconst (v := 0) hX d_P_breaks_35 (by decide) ?_
      exact z_zret hR rfl d_P_breaks_36
    · refine z_aload_n (i := 0) hX d_P_breaks_22 rfl rfl ?_
      refine z_iload_n (i := 2) hX d_P_breaks_23 rfl rfl ?_
      refine z_iload_n (i := 1) hX d_P_breaks_24 rfl rfl ?_
      refine z_callVi (wl := zwC ad ca) (C := R_P) (n := 2) (rest := []) hX [.int x2, .int x1] (ct_P_isBroken l D ad ca x2 x1 s16) gV_P_105 ⟨rfl, rfl⟩ ⟨by decide, by decide⟩ (by decide +kernel) rfl 0 rfl rfl rfl rfl (Nat.le_of_ble_eq_true rfl) d_P_breaks_25 (fun r25 s25 => ?_)
      refine z_if_eq (tgt := 35) hX d_P_breaks_28 (by decide) (fun c28 => ?_) (fun c28 => ?_)
      · refine z_iconst (v := 0) hX d_P_breaks_35 (by decide) ?_
        exact z_zret hR rfl d_P_breaks_36
      · refine z_iconst (v := 1) hX d_P_breaks_31 (by decide) ?_
        refine z_goto (tgt := 36) hX d_P_breaks_32 (by decide) ?_
        exact z_zret hR rfl d_P_breaks_36
def fn_Q_reach_l (x1 : Int32) (σ : zS) : Option (Unit × zS) := if x1 = (-1 : Int32) then some ((), σ) else zb (fn_P_hasBit (σ.1 582 0) x1 σ) (fun r10 s10 => if r10 = 0 then if (s10.1 580 0) < (32 : Int32) then zst (zF s10 582 ((s10.1 582 0) ||| (zshl (1 : Int32) x1))) (fun s35 => zgd (zin (s35.1 580 0) 32) (zst (zI s35 25 (s35.1 580 0).toNatClampNeg x1) (fun s47 => zst (zF s47 580 ((s47.1 580 0) + (1 : Int32))) (fun s55 => some ((), s55))))) else some ((), s10) else some ((), s10))
set_option maxRecDepth 100000 in
set_option maxHeartbeats 4000000 in
theorem ct_Q_reach_l (l : Launch) (D : va_G) (ad : Nat → Nat) (ca : Nat → ClassId) (x1 : Int32) (σ : zS) : zC zemV l y_Q_reach (Cond.code y_Q_reach b_Q_reach 2 none :: zTT) (zrm 1 21) D zcl (zKK D ca) (zwC ad ca) σ [.ref (ad 24), .int x1] (fn_Q_reach_l x1 σ) := by
  refine zmk_v (tys := zty ca) (by decide) (zKK_m D ca) (fun _ h => h.1) (Nat.le_of_ble_eq_true rfl) (fun V ex hX hR => ?_)
  show zJ V (if x1 = (-1 : Int32) then some ((), σ) else zb (fn_P_hasBit (σ.1 582 0) x1 σ) (fun r10 s10 => if r10 = 0 then if (s10.1 580 0) < (32 : Int32) then zst (zF s10 582 ((s10.1 582 0) ||| (zshl (1 : Int32) x1))) (fun s35 => zgd (zin (s35.1 580 0) 32) (zst (zI s35 25 (s35.1 580 0).toNatClampNeg x1) (fun s47 => zst (zF s47 580 ((s47.1 580 0) + (1 : Int32))) (fun s55 => some ((), s55))))) else some ((), s10) else some ((), s10))) (zwC ad ca σ ++ ex) 0 [(0, .ref (ad 24)), (1, .int x1)] []
  refine z_iload_n (i := 1) hX d_Q_reach_0 rfl rfl ?_
  refine z_iconst (v := -1) hX d_Q_reach_1 (by decide) ?_
  refine z_icmp_eq (tgt := 25) hX d_Q_reach_2 (by decide) (fun c2 => ?_) (fun c2 => ?_)
  · exact z_vret hR d_Q_reach_25
  · refine z_aload_n (i := 0) hX d_Q_reach_5 rfl rfl ?_
    refine z_get (C := R_Q) (T := F_Q) (N := 3) hX in_Q 24 rfl rfl 2 (by decide) w_field_Q_19_Q_2 rfl d_Q_reach_6 ?_
    refine z_iload_n (i := 1) hX d_Q_reach_9 rfl rfl ?_
    refine z_callSNi (wl := zwC ad ca) (n := 2) (rest := []) hX [.int (σ.1 582 0), .int x1] (ct_P_hasBit l D ca (zwC ad ca) (σ.1 582 0) x1 σ) gN_Q_41 (gN_Q_41_k D ca) w_stat_P_hasBit w_init_P ⟨rfl, rfl⟩ ⟨by decide, by decide⟩ (by decide +kernel) rfl rfl (Nat.le_of_ble_eq_true rfl) d_Q_reach_10 (fun r10 s10 => ?_)
    refine z_if_ne (tgt := 25) hX d_Q_reach_13 (by decide) (fun c13 => ?_) (fun c13 => ?_)
    · refine z_aload_n (i := 0) hX d_Q_reach_16 rfl rfl ?_
      refine z_get (C := R_Q) (T := F_Q) (N := 3) hX in_Q 24 rfl rfl 0 (by decide) w_field_Q_15_Q_0 rfl d_Q_reach_17 ?_
      refine z_bipush (v := 32) hX d_Q_reach_20 (by decide) ?_
      refine z_icmp_lt (tgt := 26) hX d_Q_reach_22 (by decide) (fun c22 => ?_) (fun c22 => ?_)
      · refine z_aload_n (i := 0) hX d_Q_reach_26 rfl rfl ?_
        refine z_dup hX d_Q_reach_27 rfl ?_
        refine z_get (C := R_Q) (T := F_Q) (N := 3) hX in_Q 24 rfl rfl 2 (by decide) w_field_Q_19_Q_2 rfl d_Q_reach_28 ?_
        refine z_iconst (v := 1) hX d_Q_reach_31 (by decide) ?_
        refine z_iload_n (i := 1) hX d_Q_reach_32 rfl rfl ?_
        refine z_ishl hX d_Q_reach_33 ?_
        refine z_ior hX d_Q_reach_34 ?_
        refine z_put (C := R_Q) (T := F_Q) (N := 3) (wl := zwC ad ca) (ex := ex) (x9 := (zF s10 582 ((s10.1 582 0) ||| (zshl (1 : Int32) x1)))) hX in_Q t_Q t_Q_ok n_Q 24 rfl rfl 2 (by decide) w_field_Q_19_Q_2 rfl rfl rfl (Nat.le_of_ble_eq_true rfl) rfl d_Q_reach_35 (fun s35 => ?_)
        refine z_aload_n (i := 0) hX d_Q_reach_38 rfl rfl ?_
        refine z_get (C := R_Q) (T := F_Q) (N := 3) hX in_Q 24 rfl rfl 1 (by decide) w_field_Q_9_Q_1 rfl d_Q_reach_39 ?_
        refine z_aload_n (i := 0) hX d_Q_reach_42 rfl rfl ?_
        refine z_get (C := R_Q) (T := F_Q) (N := 3) hX in_Q 24 rfl rfl 0 (by decide) w_field_Q_15_Q_0 rfl d_Q_reach_43 ?_
        refine z_iload_n (i := 1) hX d_Q_reach_46 rfl rfl ?_
        refine z_iast (wl := zwC ad ca) (ex := ex) (x9 := (zI s35 25 (s35.1 580 0).toNatClampNeg x1)) hX 25 18 rfl rfl rfl d_Q_reach_47 (fun s47 => ?_)
        refine z_aload_n (i := 0) hX d_Q_reach_48 rfl rfl ?_
        refine z_dup hX d_Q_reach_49 rfl ?_
        refine z_get (C := R_Q) (T := F_Q) (N := 3) hX in_Q 24 rfl rfl 0 (by decide) w_field_Q_15_Q_0 rfl d_Q_reach_50 ?_
        refine z_iconst (v := 1) hX d_Q_reach_53 (by decide) ?_
        refine z_iadd hX d_Q_reach_54 ?_
        refine z_put (C := R_Q) (T := F_Q) (N := 3) (wl := zwC ad ca) (ex := ex) (x9 := (zF s47 580 ((s47.1 580 0) + (1 : Int32)))) hX in_Q t_Q t_Q_ok n_Q 24 rfl rfl 0 (by decide) w_field_Q_15_Q_0 rfl rfl rfl (Nat.le_of_ble_eq_true rfl) rfl d_Q_reach_55 (fun s55 => ?_)
        exact z_vret hR d_Q_reach_58
      · exact z_vret hR d_Q_reach_25
    · exact z_vret hR d_Q_reach_25
def fn_Q_walk_l_42 (k17 : Int32 → zS → Option (Unit × zS)) : Nat → Int32 → Int32 → Int32 → zS → Option (Unit × zS)
  | 0, _, _, _, _ => none
  | n + 1, x3, x4, x5, σ => zgd (zin x4 32) (if x5 < (σ.1 16 x4.toNatClampNeg) then zb (fn_A_metByAt x4 x5 σ) (fun r63 s63 => zb (fn_Q_reach_l r63 s63) (fun r66 s66 => fn_Q_walk_l_42 k17 n x3 x4 (x5 + 1) s66)) else k17 (x3 + 1) σ)
set_option maxRecDepth 100000 in
set_option maxHeartbeats 4000000 in
theorem bk_Q_walk_l_42 (l : Launch) (D : va_G) (ad : Nat → Nat) (ca : Nat → ClassId) {V : zV Unit} {ex : va_W} (hX : zIs V l b_Q_walk R_Q zTT (zKK D ca) D zcl (zty ca) 6 (zrm 2 42)) (hR : zRv V b_Q_walk (zwC ad ca) ex) (k17 : Int32 → zS → Option (Unit × zS)) (hk17 : ∀ (z3 : Int32) (σ : zS), zJ V (k17 z3 σ) (zwC ad ca σ ++ ex) 17 [(0, .ref (ad 24)), (1, .ref (ad 6)), (3, .int z3)] []) : ∀ (n : Nat) (x3 : Int32) (x4 : Int32) (x5 : Int32) (σ : zS), zJ V (fn_Q_walk_l_42 k17 n x3 x4 x5 σ) (zwC ad ca σ ++ ex) 42 [(0, .ref (ad 24)), (1, .ref (ad 6)), (3, .int x3), (4, .int x4), (5, .int x5)] [] := by
  intro n
  induction n with
  | zero => intros; exact z_none
  | succ n ih =>
    intro x3 x4 x5 σ
    show zJ V (zgd (zin x4 32) (if x5 < (σ.1 16 x4.toNatClampNeg) then zb (fn_A_metByAt x4 x5 σ) (fun r63 s63 => zb (fn_Q_reach_l r63 s63) (fun r66 s66 => fn_Q_walk_l_42 k17 n x3 x4 (x5 + 1) s66)) else k17 (x3 + 1) σ)) _ _ _ _
    refine z_iload (i := 5) hX d_Q_walk_42 rfl ?_
    refine z_aload_n (i := 1) hX d_Q_walk_44 rfl rfl ?_
    refine z_get (C := R_A) (T := F_A) (N := 11) hX in_A 6 rfl rfl 7 (by decide) w_field_Q_26_A_7 rfl d_Q_walk_45 ?_
    refine z_get (C := R_W) (T := F_W) (N := 2) hX in_W 15 rfl rfl 0 (by decide) w_field_Q_32_W_0 rfl d_Q_walk_48 ?_
    refine z_iload (i := 4) hX d_Q_walk_51 rfl ?_
    refine z_iald hX 16 11 rfl rfl d_Q_walk_53 ?_
    refine z_icmp_ge (tgt := 75) hX d_Q_walk_54 (by decide) (fun c54 => ?_) (fun c54 => ?_)
    · refine z_aload_n (i := 0) hX d_Q_walk_57 rfl rfl ?_
      refine z_aload_n (i := 1) hX d_Q_walk_58 rfl rfl ?_
      refine z_iload (i := 4) hX d_Q_walk_59 rfl ?_
      refine z_iload (i := 5) hX d_Q_walk_61 rfl ?_
      refine z_callVi (wl := zwC ad ca) (C := R_A) (n := 2) (rest := [.ref (ad 24)]) hX [.int x4, .int x5] (ct_A_metByAt l D ad ca x4 x5 σ) gV_Q_37 ⟨rfl, rfl⟩ ⟨by decide, by decide⟩ (by decide +kernel) rfl 6 rfl rfl rfl rfl (Nat.le_of_ble_eq_true rfl) d_Q_walk_63 (fun r63 s63 => ?_)
      refine z_callVv (wl := zwC ad ca) (C := R_Q) (n := 1) (rest := []) hX [.int r63] (ct_Q_reach_l l D ad ca r63 s63) gV_Q_22 ⟨rfl, rfl⟩ ⟨by decide, by decide⟩ (by decide +kernel) rfl 24 rfl rfl rfl rfl (Nat.le_of_ble_eq_true rfl) d_Q_walk_66 (fun r66 s66 => ?_)
      refine z_iinc (v := x5 + 1) (lv2 := [(5, .int (x5 + 1)), (0, .ref (ad 24)), (1, .ref (ad 6)), (3, .int x3), (4, .int x4)]) hX d_Q_walk_69 4 rfl (by first | rfl | decide) (by decide) rfl ?_
      refine z_goto (tgt := 42) hX d_Q_walk_72 (by decide) ?_
      refine z_lv hX [1, 2, 3, 4, 0] (lv2 := [(0, .ref (ad 24)), (1, .ref (ad 6)), (3, .int x3), (4, .int x4), (5, .int (x5 + 1))]) rfl ?_
      exact ih _ _ _ _
    · refine z_iinc (v := x3 + 1) (lv2 := [(3, .int (x3 + 1)), (0, .ref (ad 24)), (1, .ref (ad 6)), (4, .int x4), (5, .int x5)]) hX d_Q_walk_75 2 rfl (by first | rfl | decide) (by decide) rfl ?_
      refine z_goto (tgt := 17) hX d_Q_walk_78 (by decide) ?_
      refine z_lv hX [1, 2, 0] (lv2 := [(0, .ref (ad 24)), (1, .ref (ad 6)), (3, .int (x3 + 1))]) rfl ?_
      exact hk17 _ _
def fn_Q_walk_l_17 : Nat → Int32 → zS → Option (Unit × zS)
  | 0, _, _ => none
  | n + 1, x3, σ => if x3 < (32 : Int32) then if x3 < (σ.1 580 0) then zgd (zin x3 32) (fn_Q_walk_l_42 (fn_Q_walk_l_17 n) 100 x3 (σ.1 25 x3.toNatClampNeg) (0 : Int32) σ) else some ((), σ) else some ((), σ)
set_option maxRecDepth 100000 in
set_option maxHeartbeats 4000000 in
theorem bk_Q_walk_l_17 (l : Launch) (D : va_G) (ad : Nat → Nat) (ca : Nat → ClassId) {V : zV Unit} {ex : va_W} (hX : zIs V l b_Q_walk R_Q zTT (zKK D ca) D zcl (zty ca) 6 (zrm 2 42)) (hR : zRv V b_Q_walk (zwC ad ca) ex) : ∀ (n : Nat) (x3 : Int32) (σ : zS), zJ V (fn_Q_walk_l_17 n x3 σ) (zwC ad ca σ ++ ex) 17 [(0, .ref (ad 24)), (1, .ref (ad 6)), (3, .int x3)] [] := by
  intro n
  induction n with
  | zero => intros; exact z_none
  | succ n ih =>
    intro x3 σ
    show zJ V (if x3 < (32 : Int32) then if x3 < (σ.1 580 0) then zgd (zin x3 32) (fn_Q_walk_l_42 (fn_Q_walk_l_17 n) 100 x3 (σ.1 25 x3.toNatClampNeg) (0 : Int32) σ) else some ((), σ) else some ((), σ)) _ _ _ _
    refine z_iload_n (i := 3) hX d_Q_walk_17 rfl rfl ?_
    refine z_bipush (v := 32) hX d_Q_walk_18 (by decide) ?_
    refine z_icmp_ge (tgt := 81) hX d_Q_walk_20 (by decide) (fun c20 => ?_) (fun c20 => ?_)
    · refine z_iload_n (i := 3) hX d_Q_walk_23 rfl rfl ?_
      refine z_aload_n (i := 0) hX d_Q_walk_24 rfl rfl ?_
      refine z_get (C := R_Q) (T := F_Q) (N := 3) hX in_Q 24 rfl rfl 0 (by decide) w_field_Q_15_Q_0 rfl d_Q_walk_25 ?_
      refine z_icmp_ge (tgt := 81) hX d_Q_walk_28 (by decide) (fun c28 => ?_) (fun c28 => ?_)
      · refine z_aload_n (i := 0) hX d_Q_walk_31 rfl rfl ?_
        refine z_get (C := R_Q) (T := F_Q) (N := 3) hX in_Q 24 rfl rfl 1 (by decide) w_field_Q_9_Q_1 rfl d_Q_walk_32 ?_
        refine z_iload_n (i := 3) hX d_Q_walk_35 rfl rfl ?_
        refine z_iald hX 25 18 rfl rfl d_Q_walk_36 ?_
        refine z_istore (i := 4) (lv2 := [(4, .int (σ.1 25 x3.toNatClampNeg)), (0, .ref (ad 24)), (1, .ref (ad 6)), (3, .int x3)]) hX d_Q_walk_37 (by decide) rfl ?_
        refine z_iconst (v := 0) hX d_Q_walk_39 (by decide) ?_
        refine z_istore (i := 5) (lv2 := [(5, .int (0 : Int32)), (4, .int (σ.1 25 x3.toNatClampNeg)), (0, .ref (ad 24)), (1, .ref (ad 6)), (3, .int x3)]) hX d_Q_walk_40 (by decide) rfl ?_
        refine z_lv hX [2, 3, 4, 1, 0] (lv2 := [(0, .ref (ad 24)), (1, .ref (ad 6)), (3, .int x3), (4, .int (σ.1 25 x3.toNatClampNeg)), (5, .int (0 : Int32))]) rfl ?_
        exact bk_Q_walk_l_42 l D ad ca hX hR (fn_Q_walk_l_17 n) ih 100 _ _ _ _
      · exact z_vret hR d_Q_walk_81
    · exact z_vret hR d_Q_walk_81
def fn_Q_walk_l (x2 : Int32) (σ : zS) : Option (Unit × zS) := zst (zF σ 580 (0 : Int32)) (fun s2 => zst (zF s2 582 (0 : Int32)) (fun s7 => zb (fn_Q_reach_l x2 s7) (fun r12 s12 => fn_Q_walk_l_17 100 (0 : Int32) s12)))
set_option maxRecDepth 100000 in
set_option maxHeartbeats 4000000 in
theorem ct_Q_walk_l (l : Launch) (D : va_G) (ad : Nat → Nat) (ca : Nat → ClassId) (x2 : Int32) (σ : zS) : zC zemV l y_Q_walk (Cond.code y_Q_walk b_Q_walk 6 none :: zTT) (zrm 2 42) D zcl (zKK D ca) (zwC ad ca) σ [.ref (ad 24), .ref (ad 6), .int x2] (fn_Q_walk_l x2 σ) := by
  refine zmk_v (tys := zty ca) (by decide) (zKK_m D ca) (fun _ h => h.1) (Nat.le_of_ble_eq_true rfl) (fun V ex hX hR => ?_)
  show zJ V (zst (zF σ 580 (0 : Int32)) (fun s2 => zst (zF s2 582 (0 : Int32)) (fun s7 => zb (fn_Q_reach_l x2 s7) (fun r12 s12 => fn_Q_walk_l_17 100 (0 : Int32) s12)))) (zwC ad ca σ ++ ex) 0 [(0, .ref (ad 24)), (1, .ref (ad 6)), (2, .int x2)] []
  refine z_aload_n (i := 0) hX d_Q_walk_0 rfl rfl ?_
  refine z_iconst (v := 0) hX d_Q_walk_1 (by decide) ?_
  refine z_put (C := R_Q) (T := F_Q) (N := 3) (wl := zwC ad ca) (ex := ex) (x9 := (zF σ 580 (0 : Int32))) hX in_Q t_Q t_Q_ok n_Q 24 rfl rfl 0 (by decide) w_field_Q_15_Q_0 rfl rfl rfl (Nat.le_of_ble_eq_true rfl) rfl d_Q_walk_2 (fun s2 => ?_)
  refine z_aload_n (i := 0) hX d_Q_walk_5 rfl rfl ?_
  refine z_iconst (v := 0) hX d_Q_walk_6 (by decide) ?_
  refine z_put (C := R_Q) (T := F_Q) (N := 3) (wl := zwC ad ca) (ex := ex) (x9 := (zF s2 582 (0 : Int32))) hX in_Q t_Q t_Q_ok n_Q 24 rfl rfl 2 (by decide) w_field_Q_19_Q_2 rfl rfl rfl (Nat.le_of_ble_eq_true rfl) rfl d_Q_walk_7 (fun s7 => ?_)
  refine z_aload_n (i := 0) hX d_Q_walk_10 rfl rfl ?_
  refine z_iload_n (i := 2) hX d_Q_walk_11 rfl rfl ?_
  refine z_callVv (wl := zwC ad ca) (C := R_Q) (n := 1) (rest := []) hX [.int x2] (ct_Q_reach_l l D ad ca x2 s7) gV_Q_22 ⟨rfl, rfl⟩ ⟨by decide, by decide⟩ (by decide +kernel) rfl 24 rfl rfl rfl rfl (Nat.le_of_ble_eq_true rfl) d_Q_walk_12 (fun r12 s12 => ?_)
  refine z_iconst (v := 0) hX d_Q_walk_15 (by decide) ?_
  refine z_istore_n (i := 3) (lv2 := [(3, .int (0 : Int32)), (0, .ref (ad 24)), (1, .ref (ad 6)), (2, .int x2)]) hX d_Q_walk_16 rfl (by decide) rfl ?_
  refine z_lv hX [1, 2, 0] (lv2 := [(0, .ref (ad 24)), (1, .ref (ad 6)), (3, .int (0 : Int32))]) rfl ?_
  exact bk_Q_walk_l_17 l D ad ca hX hR 100 _ _
def fn_P_closure (x1 : Int32) (σ : zS) : Option (Int32 × zS) := zb (fn_A_has x1 σ) (fun r5 s5 => if r5 = 0 then some ((-1 : Int32), s5) else zb (fn_Q_walk_l x1 s5) (fun r22 s22 => some (s22.1 580 0, s22)))
set_option maxRecDepth 100000 in
set_option maxHeartbeats 4000000 in
theorem ct_P_closure (l : Launch) (D : va_G) (ad : Nat → Nat) (ca : Nat → ClassId) (x1 : Int32) (σ : zS) : zC zemI l y_P_closure (Cond.code y_P_closure b_P_closure 2 (some .int) :: zTT) (zrm 3 67) D zcl (zKK D ca) (zwC ad ca) σ [.ref (ad 0), .int x1] (fn_P_closure x1 σ) := by
  refine zmk_i (tys := zty ca) (by decide) (zKK_m D ca) (fun _ h => h.1) (Nat.le_of_ble_eq_true rfl) (fun V ex hX hR => ?_)
  show zJ V (zb (fn_A_has x1 σ) (fun r5 s5 => if r5 = 0 then some ((-1 : Int32), s5) else zb (fn_Q_walk_l x1 s5) (fun r22 s22 => some (s22.1 580 0, s22)))) (zwC ad ca σ ++ ex) 0 [(0, .ref (ad 0)), (1, .int x1)] []
  refine z_aload_n (i := 0) hX d_P_closure_0 rfl rfl ?_
  refine z_get (C := R_P) (T := F_P) (N := 7) hX in_P 0 rfl rfl 1 (by decide) w_field_P_19_P_1 rfl d_P_closure_1 ?_
  refine z_iload_n (i := 1) hX d_P_closure_4 rfl rfl ?_
  refine z_callVi (wl := zwC ad ca) (C := R_A) (n := 1) (rest := []) hX [.int x1] (ct_A_has l D ad ca x1 σ) gV_P_68 ⟨rfl, rfl⟩ ⟨by decide, by decide⟩ (by decide +kernel) rfl 6 rfl rfl rfl rfl (Nat.le_of_ble_eq_true rfl) d_P_closure_5 (fun r5 s5 => ?_)
  refine z_if_ne (tgt := 13) hX d_P_closure_8 (by decide) (fun c8 => ?_) (fun c8 => ?_)
  · refine z_iconst (v := -1) hX d_P_closure_11 (by decide) ?_
    exact z_iret hR d_P_closure_12
  · refine z_aload_n (i := 0) hX d_P_closure_13 rfl rfl ?_
    refine z_get (C := R_P) (T := F_P) (N := 7) hX in_P 0 rfl rfl 3 (by decide) w_field_P_33_P_3 rfl d_P_closure_14 ?_
    refine z_aload_n (i := 0) hX d_P_closure_17 rfl rfl ?_
    refine z_get (C := R_P) (T := F_P) (N := 7) hX in_P 0 rfl rfl 1 (by decide) w_field_P_19_P_1 rfl d_P_closure_18 ?_
    refine z_iload_n (i := 1) hX d_P_closure_21 rfl rfl ?_
    refine z_callVv (wl := zwC ad ca) (C := R_Q) (n := 2) (rest := []) hX [.ref (ad 6), .int x1] (ct_Q_walk_l l D ad ca x1 s5) gV_P_89 ⟨rfl, rfl⟩ ⟨by decide, by decide⟩ (by decide +kernel) rfl 24 rfl rfl rfl rfl (Nat.le_of_ble_eq_true rfl) d_P_closure_22 (fun r22 s22 => ?_)
    refine z_aload_n (i := 0) hX d_P_closure_25 rfl rfl ?_
    refine z_get (C := R_P) (T := F_P) (N := 7) hX in_P 0 rfl rfl 3 (by decide) w_field_P_33_P_3 rfl d_P_closure_26 ?_
    refine z_get (C := R_Q) (T := F_Q) (N := 3) hX in_Q 24 rfl rfl 0 (by decide) w_field_P_93_Q_0 rfl d_P_closure_29 ?_
    exact z_iret hR d_P_closure_32
def fn_P_at (x1 : Int32) (σ : zS) : Option (Int32 × zS) := if x1 < 0 then some ((-1 : Int32), σ) else if x1 < (σ.1 580 0) then zgd (zin x1 32) (some (σ.1 25 x1.toNatClampNeg, σ)) else some ((-1 : Int32), σ)
set_option maxRecDepth 100000 in
set_option maxHeartbeats 4000000 in
theorem ct_P_at (l : Launch) (D : va_G) (ad : Nat → Nat) (ca : Nat → ClassId) (x1 : Int32) (σ : zS) : zC zemI l y_P_at (Cond.code y_P_at b_P_at 2 (some .int) :: zTT) (zrm 0 0) D zcl (zKK D ca) (zwC ad ca) σ [.ref (ad 0), .int x1] (fn_P_at x1 σ) := by
  refine zmk_i (tys := zty ca) (by decide) (zKK_m D ca) (fun _ h => h.1) (Nat.le_of_ble_eq_true rfl) (fun V ex hX hR => ?_)
  show zJ V (if x1 < 0 then some ((-1 : Int32), σ) else if x1 < (σ.1 580 0) then zgd (zin x1 32) (some (σ.1 25 x1.toNatClampNeg, σ)) else some ((-1 : Int32), σ)) (zwC ad ca σ ++ ex) 0 [(0, .ref (ad 0)), (1, .int x1)] []
  refine z_iload_n (i := 1) hX d_P_at_0 rfl rfl ?_
  refine z_if_lt (tgt := 15) hX d_P_at_1 (by decide) (fun c1 => ?_) (fun c1 => ?_)
  · refine z_iconst (v := -1) hX d_P_at_15 (by decide) ?_
    exact z_iret hR d_P_at_16
  · refine z_iload_n (i := 1) hX d_P_at_4 rfl rfl ?_
    refine z_aload_n (i := 0) hX d_P_at_5 rfl rfl ?_
    refine z_get (C := R_P) (T := F_P) (N := 7) hX in_P 0 rfl rfl 3 (by decide) w_field_P_33_P_3 rfl d_P_at_6 ?_
    refine z_get (C := R_Q) (T := F_Q) (N := 3) hX in_Q 24 rfl rfl 0 (by decide) w_field_P_93_Q_0 rfl d_P_at_9 ?_
    refine z_icmp_lt (tgt := 17) hX d_P_at_12 (by decide) (fun c12 => ?_) (fun c12 => ?_)
    · refine z_aload_n (i := 0) hX d_P_at_17 rfl rfl ?_
      refine z_get (C := R_P) (T := F_P) (N := 7) hX in_P 0 rfl rfl 3 (by decide) w_field_P_33_P_3 rfl d_P_at_18 ?_
      refine z_get (C := R_Q) (T := F_Q) (N := 3) hX in_Q 24 rfl rfl 1 (by decide) w_field_P_96_Q_1 rfl d_P_at_21 ?_
      refine z_iload_n (i := 1) hX d_P_at_24 rfl rfl ?_
      refine z_iald hX 25 18 rfl rfl d_P_at_25 ?_
      exact z_iret hR d_P_at_26
    · refine z_iconst (v := -1) hX d_P_at_15 (by decide) ?_
      exact z_iret hR d_P_at_16
def fn_P_usesDigest_3 : Nat → Int32 → Int64 → Int32 → zS → Option (Int32 × zS)
  | 0, _, _, _, _ => none
  | n + 1, x1, x2, x4, σ => zgd (zin x1 32) (if x4 < (σ.1 13 x1.toNatClampNeg) then zb (fn_A_usedAt x1 x4 σ) (fun r34 s34 => zgd (zin r34 24) (if (lg_cmp (s34.2 2 r34.toNatClampNeg) x2) = 0 then some ((1 : Int32), s34) else fn_P_usesDigest_3 n x1 x2 (x4 + 1) s34)) else some ((0 : Int32), σ))
set_option maxRecDepth 100000 in
set_option maxHeartbeats 4000000 in
theorem bk_P_usesDigest_3 (l : Launch) (D : va_G) (ad : Nat → Nat) (ca : Nat → ClassId) {V : zV Int32} {ex : va_W} (hX : zIs V l b_P_usesDigest R_P zTT (zKK D ca) D zcl (zty ca) 5 (zrm 2 44)) (hR : zRz V b_P_usesDigest (zwC ad ca) ex) : ∀ (n : Nat) (x1 : Int32) (x2 : Int64) (x4 : Int32) (σ : zS), zJ V (fn_P_usesDigest_3 n x1 x2 x4 σ) (zwC ad ca σ ++ ex) 3 [(0, .ref (ad 0)), (1, .int x1), (2, .long x2), (4, .int x4)] [] := by
  intro n
  induction n with
  | zero => intros; exact z_none
  | succ n ih =>
    intro x1 x2 x4 σ
    show zJ V (zgd (zin x1 32) (if x4 < (σ.1 13 x1.toNatClampNeg) then zb (fn_A_usedAt x1 x4 σ) (fun r34 s34 => zgd (zin r34 24) (if (lg_cmp (s34.2 2 r34.toNatClampNeg) x2) = 0 then some ((1 : Int32), s34) else fn_P_usesDigest_3 n x1 x2 (x4 + 1) s34)) else some ((0 : Int32), σ))) _ _ _ _
    refine z_iload (i := 4) hX d_P_usesDigest_3 rfl ?_
    refine z_aload_n (i := 0) hX d_P_usesDigest_5 rfl rfl ?_
    refine z_get (C := R_P) (T := F_P) (N := 7) hX in_P 0 rfl rfl 1 (by decide) w_field_P_19_P_1 rfl d_P_usesDigest_6 ?_
    refine z_get (C := R_A) (T := F_A) (N := 11) hX in_A 6 rfl rfl 6 (by decide) w_field_P_69_A_6 rfl d_P_usesDigest_9 ?_
    refine z_get (C := R_W) (T := F_W) (N := 2) hX in_W 12 rfl rfl 0 (by decide) w_field_P_176_W_0 rfl d_P_usesDigest_12 ?_
    refine z_iload_n (i := 1) hX d_P_usesDigest_15 rfl rfl ?_
    refine z_iald hX 13 9 rfl rfl d_P_usesDigest_16 ?_
    refine z_icmp_ge (tgt := 51) hX d_P_usesDigest_17 (by decide) (fun c17 => ?_) (fun c17 => ?_)
    · refine z_aload_n (i := 0) hX d_P_usesDigest_20 rfl rfl ?_
      refine z_get (C := R_P) (T := F_P) (N := 7) hX in_P 0 rfl rfl 0 (by decide) w_field_P_10_P_0 rfl d_P_usesDigest_21 ?_
      refine z_get (C := R_S) (T := F_S) (N := 5) hX in_S 1 rfl rfl 1 (by decide) w_field_P_196_S_1 rfl d_P_usesDigest_24 ?_
      refine z_aload_n (i := 0) hX d_P_usesDigest_27 rfl rfl ?_
      refine z_get (C := R_P) (T := F_P) (N := 7) hX in_P 0 rfl rfl 1 (by decide) w_field_P_19_P_1 rfl d_P_usesDigest_28 ?_
      refine z_iload_n (i := 1) hX d_P_usesDigest_31 rfl rfl ?_
      refine z_iload (i := 4) hX d_P_usesDigest_32 rfl ?_
      refine z_callVi (wl := zwC ad ca) (C := R_A) (n := 2) (rest := [.ref (ad 2)]) hX [.int x1, .int x4] (ct_A_usedAt l D ad ca x1 x4 σ) gV_P_182 ⟨rfl, rfl⟩ ⟨by decide, by decide⟩ (by decide +kernel) rfl 6 rfl rfl rfl rfl (Nat.le_of_ble_eq_true rfl) d_P_usesDigest_34 (fun r34 s34 => ?_)
      refine z_lald hX 2 0 rfl rfl d_P_usesDigest_37 ?_
      refine z_lload_n (i := 2) hX d_P_usesDigest_38 rfl rfl ?_
      refine z_lcmp hX d_P_usesDigest_39 ?_
      refine z_if_ne (tgt := 45) hX d_P_usesDigest_40 (by decide) (fun c40 => ?_) (fun c40 => ?_)
      · refine z_iconst (v := 1) hX d_P_usesDigest_43 (by decide) ?_
        exact z_zret hR rfl d_P_usesDigest_44
      · refine z_iinc (v := x4 + 1) (lv2 := [(4, .int (x4 + 1)), (0, .ref (ad 0)), (1, .int x1), (2, .long x2)]) hX d_P_usesDigest_45 3 rfl (by first | rfl | decide) (by decide) rfl ?_
        refine z_goto (tgt := 3) hX d_P_usesDigest_48 (by decide) ?_
        refine z_lv hX [1, 2, 3, 0] (lv2 := [(0, .ref (ad 0)), (1, .int x1), (2, .long x2), (4, .int (x4 + 1))]) rfl ?_
        exact ih _ _ _ _
    · refine z_iconst (v := 0) hX d_P_usesDigest_51 (by decide) ?_
      exact z_zret hR rfl d_P_usesDigest_52
def fn_P_usesDigest (x1 : Int32) (x2 : Int64) (σ : zS) : Option (Int32 × zS) := fn_P_usesDigest_3 100 x1 x2 (0 : Int32) σ
set_option maxRecDepth 100000 in
set_option maxHeartbeats 4000000 in
theorem ct_P_usesDigest (l : Launch) (D : va_G) (ad : Nat → Nat) (ca : Nat → ClassId) (x1 : Int32) (x2 : Int64) (σ : zS) : zC zemI l y_P_usesDigest (Cond.code y_P_usesDigest b_P_usesDigest 5 (some .boolean) :: zTT) (zrm 2 44) D zcl (zKK D ca) (zwC ad ca) σ [.ref (ad 0), .int x1, .long x2] (fn_P_usesDigest x1 x2 σ) := by
  refine zmk_z (tys := zty ca) (by decide) (zKK_m D ca) (fun _ h => h.1) (Nat.le_of_ble_eq_true rfl) (fun V ex hX hR => ?_)
  show zJ V (fn_P_usesDigest_3 100 x1 x2 (0 : Int32) σ) (zwC ad ca σ ++ ex) 0 [(0, .ref (ad 0)), (1, .int x1), (2, .long x2)] []
  refine z_iconst (v := 0) hX d_P_usesDigest_0 (by decide) ?_
  refine z_istore (i := 4) (lv2 := [(4, .int (0 : Int32)), (0, .ref (ad 0)), (1, .int x1), (2, .long x2)]) hX d_P_usesDigest_1 (by decide) rfl ?_
  refine z_lv hX [1, 2, 3, 0] (lv2 := [(0, .ref (ad 0)), (1, .int x1), (2, .long x2), (4, .int (0 : Int32))]) rfl ?_
  exact bk_P_usesDigest_3 l D ad ca hX hR 100 _ _ _ _
def fn_P_restsOn_15 : Nat → Int64 → Int32 → zS → Option (Int32 × zS)
  | 0, _, _, _ => none
  | n + 1, x2, x4, σ => if x4 < (σ.1 620 0) then zgd (zin x4 32) (zb (fn_P_usesDigest (σ.1 27 x4.toNatClampNeg) x2 σ) (fun r39 s39 => if r39 = 0 then fn_P_restsOn_15 n x2 (x4 + 1) s39 else some ((1 : Int32), s39))) else some ((0 : Int32), σ)
set_option maxRecDepth 100000 in
set_option maxHeartbeats 4000000 in
theorem bk_P_restsOn_15 (l : Launch) (D : va_G) (ad : Nat → Nat) (ca : Nat → ClassId) {V : zV Int32} {ex : va_W} (hX : zIs V l b_P_restsOn R_P zTT (zKK D ca) D zcl (zty ca) 5 (zrm 3 68)) (hR : zRz V b_P_restsOn (zwC ad ca) ex) : ∀ (n : Nat) (x2 : Int64) (x4 : Int32) (σ : zS), zJ V (fn_P_restsOn_15 n x2 x4 σ) (zwC ad ca σ ++ ex) 15 [(0, .ref (ad 0)), (2, .long x2), (4, .int x4)] [] := by
  intro n
  induction n with
  | zero => intros; exact z_none
  | succ n ih =>
    intro x2 x4 σ
    show zJ V (if x4 < (σ.1 620 0) then zgd (zin x4 32) (zb (fn_P_usesDigest (σ.1 27 x4.toNatClampNeg) x2 σ) (fun r39 s39 => if r39 = 0 then fn_P_restsOn_15 n x2 (x4 + 1) s39 else some ((1 : Int32), s39))) else some ((0 : Int32), σ)) _ _ _ _
    refine z_iload (i := 4) hX d_P_restsOn_15 rfl ?_
    refine z_aload_n (i := 0) hX d_P_restsOn_17 rfl rfl ?_
    refine z_get (C := R_P) (T := F_P) (N := 7) hX in_P 0 rfl rfl 4 (by decide) w_field_P_37_P_4 rfl d_P_restsOn_18 ?_
    refine z_get (C := R_Q) (T := F_Q) (N := 3) hX in_Q 26 rfl rfl 0 (by decide) w_field_P_93_Q_0 rfl d_P_restsOn_21 ?_
    refine z_icmp_ge (tgt := 53) hX d_P_restsOn_24 (by decide) (fun c24 => ?_) (fun c24 => ?_)
    · refine z_aload_n (i := 0) hX d_P_restsOn_27 rfl rfl ?_
      refine z_aload_n (i := 0) hX d_P_restsOn_28 rfl rfl ?_
      refine z_get (C := R_P) (T := F_P) (N := 7) hX in_P 0 rfl rfl 4 (by decide) w_field_P_37_P_4 rfl d_P_restsOn_29 ?_
      refine z_get (C := R_Q) (T := F_Q) (N := 3) hX in_Q 26 rfl rfl 1 (by decide) w_field_P_96_Q_1 rfl d_P_restsOn_32 ?_
      refine z_iload (i := 4) hX d_P_restsOn_35 rfl ?_
      refine z_iald hX 27 19 rfl rfl d_P_restsOn_37 ?_
      refine z_lload_n (i := 2) hX d_P_restsOn_38 rfl rfl ?_
      refine z_callVi (wl := zwC ad ca) (C := R_P) (n := 2) (rest := []) hX [.int (σ.1 27 x4.toNatClampNeg), .long x2] (ct_P_usesDigest l D ad ca (σ.1 27 x4.toNatClampNeg) x2 σ) gV_P_193 ⟨rfl, rfl⟩ ⟨by decide, by decide⟩ (by decide +kernel) rfl 0 rfl rfl rfl rfl (Nat.le_of_ble_eq_true rfl) d_P_restsOn_39 (fun r39 s39 => ?_)
      refine z_if_eq (tgt := 47) hX d_P_restsOn_42 (by decide) (fun c42 => ?_) (fun c42 => ?_)
      · refine z_iinc (v := x4 + 1) (lv2 := [(4, .int (x4 + 1)), (0, .ref (ad 0)), (2, .long x2)]) hX d_P_restsOn_47 2 rfl (by first | rfl | decide) (by decide) rfl ?_
        refine z_goto (tgt := 15) hX d_P_restsOn_50 (by decide) ?_
        refine z_lv hX [1, 2, 0] (lv2 := [(0, .ref (ad 0)), (2, .long x2), (4, .int (x4 + 1))]) rfl ?_
        exact ih _ _ _
      · refine z_iconst (v := 1) hX d_P_restsOn_45 (by decide) ?_
        exact z_zret hR rfl d_P_restsOn_46
    · refine z_iconst (v := 0) hX d_P_restsOn_53 (by decide) ?_
      exact z_zret hR rfl d_P_restsOn_54
def fn_P_restsOn (x1 : Int32) (x2 : Int64) (σ : zS) : Option (Int32 × zS) := zb (fn_Q_walk_w x1 σ) (fun r9 s9 => fn_P_restsOn_15 100 x2 (0 : Int32) s9)
set_option maxRecDepth 100000 in
set_option maxHeartbeats 4000000 in
theorem ct_P_restsOn (l : Launch) (D : va_G) (ad : Nat → Nat) (ca : Nat → ClassId) (x1 : Int32) (x2 : Int64) (σ : zS) : zC zemI l y_P_restsOn (Cond.code y_P_restsOn b_P_restsOn 5 (some .boolean) :: zTT) (zrm 3 68) D zcl (zKK D ca) (zwC ad ca) σ [.ref (ad 0), .int x1, .long x2] (fn_P_restsOn x1 x2 σ) := by
  refine zmk_z (tys := zty ca) (by decide) (zKK_m D ca) (fun _ h => h.1) (Nat.le_of_ble_eq_true rfl) (fun V ex hX hR => ?_)
  show zJ V (zb (fn_Q_walk_w x1 σ) (fun r9 s9 => fn_P_restsOn_15 100 x2 (0 : Int32) s9)) (zwC ad ca σ ++ ex) 0 [(0, .ref (ad 0)), (1, .int x1), (2, .long x2)] []
  refine z_aload_n (i := 0) hX d_P_restsOn_0 rfl rfl ?_
  refine z_get (C := R_P) (T := F_P) (N := 7) hX in_P 0 rfl rfl 4 (by decide) w_field_P_37_P_4 rfl d_P_restsOn_1 ?_
  refine z_aload_n (i := 0) hX d_P_restsOn_4 rfl rfl ?_
  refine z_get (C := R_P) (T := F_P) (N := 7) hX in_P 0 rfl rfl 1 (by decide) w_field_P_19_P_1 rfl d_P_restsOn_5 ?_
  refine z_iload_n (i := 1) hX d_P_restsOn_8 rfl rfl ?_
  refine z_callVv (wl := zwC ad ca) (C := R_Q) (n := 2) (rest := []) hX [.ref (ad 6), .int x1] (ct_Q_walk_w l D ad ca x1 σ) gV_P_89 ⟨rfl, rfl⟩ ⟨by decide, by decide⟩ (by decide +kernel) rfl 26 rfl rfl rfl rfl (Nat.le_of_ble_eq_true rfl) d_P_restsOn_9 (fun r9 s9 => ?_)
  refine z_iconst (v := 0) hX d_P_restsOn_12 (by decide) ?_
  refine z_istore (i := 4) (lv2 := [(4, .int (0 : Int32)), (0, .ref (ad 0)), (1, .int x1), (2, .long x2)]) hX d_P_restsOn_13 (by decide) rfl ?_
  refine z_lv hX [1, 3, 0] (lv2 := [(0, .ref (ad 0)), (2, .long x2), (4, .int (0 : Int32))]) rfl ?_
  exact bk_P_restsOn_15 l D ad ca hX hR 100 _ _ _
def fn_P_holds_6 : Nat → Int64 → Int32 → Int32 → Int32 → zS → Option (Int32 × zS)
  | 0, _, _, _, _, _ => none
  | n + 1, x1, x3, x4, x5, σ => if x5 < (σ.1 220 0) then zb (fn_P_restsOn x5 x1 σ) (fun r22 s22 => if r22 = 0 then fn_P_holds_6 n x1 x3 x4 (x5 + 1) s22 else if x4 = x3 then some (x5, s22) else fn_P_holds_6 n x1 x3 (x4 + 1) (x5 + 1) s22) else some ((-1 : Int32), σ)
set_option maxRecDepth 100000 in
set_option maxHeartbeats 4000000 in
theorem bk_P_holds_6 (l : Launch) (D : va_G) (ad : Nat → Nat) (ca : Nat → ClassId) {V : zV Int32} {ex : va_W} (hX : zIs V l b_P_holds R_P zTT (zKK D ca) D zcl (zty ca) 6 (zrm 4 92)) (hR : zRi V b_P_holds (zwC ad ca) ex) : ∀ (n : Nat) (x1 : Int64) (x3 : Int32) (x4 : Int32) (x5 : Int32) (σ : zS), zJ V (fn_P_holds_6 n x1 x3 x4 x5 σ) (zwC ad ca σ ++ ex) 6 [(0, .ref (ad 0)), (1, .long x1), (3, .int x3), (4, .int x4), (5, .int x5)] [] := by
  intro n
  induction n with
  | zero => intros; exact z_none
  | succ n ih =>
    intro x1 x3 x4 x5 σ
    show zJ V (if x5 < (σ.1 220 0) then zb (fn_P_restsOn x5 x1 σ) (fun r22 s22 => if r22 = 0 then fn_P_holds_6 n x1 x3 x4 (x5 + 1) s22 else if x4 = x3 then some (x5, s22) else fn_P_holds_6 n x1 x3 (x4 + 1) (x5 + 1) s22) else some ((-1 : Int32), σ)) _ _ _ _
    refine z_iload (i := 5) hX d_P_holds_6 rfl ?_
    refine z_aload_n (i := 0) hX d_P_holds_8 rfl rfl ?_
    refine z_get (C := R_P) (T := F_P) (N := 7) hX in_P 0 rfl rfl 1 (by decide) w_field_P_19_P_1 rfl d_P_holds_9 ?_
    refine z_get (C := R_A) (T := F_A) (N := 11) hX in_A 6 rfl rfl 0 (by decide) w_field_P_108_A_0 rfl d_P_holds_12 ?_
    refine z_icmp_ge (tgt := 46) hX d_P_holds_15 (by decide) (fun c15 => ?_) (fun c15 => ?_)
    · refine z_aload_n (i := 0) hX d_P_holds_18 rfl rfl ?_
      refine z_iload (i := 5) hX d_P_holds_19 rfl ?_
      refine z_lload_n (i := 1) hX d_P_holds_21 rfl rfl ?_
      refine z_callVi (wl := zwC ad ca) (C := R_P) (n := 2) (rest := []) hX [.int x5, .long x1] (ct_P_restsOn l D ad ca x5 x1 σ) gV_P_109 ⟨rfl, rfl⟩ ⟨by decide, by decide⟩ (by decide +kernel) rfl 0 rfl rfl rfl rfl (Nat.le_of_ble_eq_true rfl) d_P_holds_22 (fun r22 s22 => ?_)
      refine z_if_eq (tgt := 40) hX d_P_holds_25 (by decide) (fun c25 => ?_) (fun c25 => ?_)
      · refine z_iinc (v := x5 + 1) (lv2 := [(5, .int (x5 + 1)), (0, .ref (ad 0)), (1, .long x1), (3, .int x3), (4, .int x4)]) hX d_P_holds_40 4 rfl (by first | rfl | decide) (by decide) rfl ?_
        refine z_goto (tgt := 6) hX d_P_holds_43 (by decide) ?_
        refine z_lv hX [1, 2, 3, 4, 0] (lv2 := [(0, .ref (ad 0)), (1, .long x1), (3, .int x3), (4, .int x4), (5, .int (x5 + 1))]) rfl ?_
        exact ih _ _ _ _ _
      · refine z_iload (i := 4) hX d_P_holds_28 rfl ?_
        refine z_iload_n (i := 3) hX d_P_holds_30 rfl rfl ?_
        refine z_icmp_ne (tgt := 37) hX d_P_holds_31 (by decide) (fun c31 => ?_) (fun c31 => ?_)
        · refine z_iload (i := 5) hX d_P_holds_34 rfl ?_
          exact z_iret hR d_P_holds_36
        · refine z_iinc (v := x4 + 1) (lv2 := [(4, .int (x4 + 1)), (0, .ref (ad 0)), (1, .long x1), (3, .int x3), (5, .int x5)]) hX d_P_holds_37 3 rfl (by first | rfl | decide) (by decide) rfl ?_
          refine z_iinc (v := x5 + 1) (lv2 := [(5, .int (x5 + 1)), (4, .int (x4 + 1)), (0, .ref (ad 0)), (1, .long x1), (3, .int x3)]) hX d_P_holds_40 4 rfl (by first | rfl | decide) (by decide) rfl ?_
          refine z_goto (tgt := 6) hX d_P_holds_43 (by decide) ?_
          refine z_lv hX [2, 3, 4, 1, 0] (lv2 := [(0, .ref (ad 0)), (1, .long x1), (3, .int x3), (4, .int (x4 + 1)), (5, .int (x5 + 1))]) rfl ?_
          exact ih _ _ _ _ _
    · refine z_iconst (v := -1) hX d_P_holds_46 (by decide) ?_
      exact z_iret hR d_P_holds_47
def fn_P_holds (x1 : Int64) (x3 : Int32) (σ : zS) : Option (Int32 × zS) := fn_P_holds_6 100 x1 x3 (0 : Int32) (0 : Int32) σ
set_option maxRecDepth 100000 in
set_option maxHeartbeats 4000000 in
theorem ct_P_holds (l : Launch) (D : va_G) (ad : Nat → Nat) (ca : Nat → ClassId) (x1 : Int64) (x3 : Int32) (σ : zS) : zC zemI l y_P_holds (Cond.code y_P_holds b_P_holds 6 (some .int) :: zTT) (zrm 4 92) D zcl (zKK D ca) (zwC ad ca) σ [.ref (ad 0), .long x1, .int x3] (fn_P_holds x1 x3 σ) := by
  refine zmk_i (tys := zty ca) (by decide) (zKK_m D ca) (fun _ h => h.1) (Nat.le_of_ble_eq_true rfl) (fun V ex hX hR => ?_)
  show zJ V (fn_P_holds_6 100 x1 x3 (0 : Int32) (0 : Int32) σ) (zwC ad ca σ ++ ex) 0 [(0, .ref (ad 0)), (1, .long x1), (3, .int x3)] []
  refine z_iconst (v := 0) hX d_P_holds_0 (by decide) ?_
  refine z_istore (i := 4) (lv2 := [(4, .int (0 : Int32)), (0, .ref (ad 0)), (1, .long x1), (3, .int x3)]) hX d_P_holds_1 (by decide) rfl ?_
  refine z_iconst (v := 0) hX d_P_holds_3 (by decide) ?_
  refine z_istore (i := 5) (lv2 := [(5, .int (0 : Int32)), (4, .int (0 : Int32)), (0, .ref (ad 0)), (1, .long x1), (3, .int x3)]) hX d_P_holds_4 (by decide) rfl ?_
  refine z_lv hX [2, 3, 4, 1, 0] (lv2 := [(0, .ref (ad 0)), (1, .long x1), (3, .int x3), (4, .int (0 : Int32)), (5, .int (0 : Int32))]) rfl ?_
  exact bk_P_holds_6 l D ad ca hX hR 100 _ _ _ _ _
def fn_P_missing (x1 : Int32) (x2 : Int32) (σ : zS) : Option (Int32 × zS) := zb (fn_A_has x1 σ) (fun r5 s5 => if r5 = 0 then some ((-1 : Int32), s5) else zb (fn_A_missingPlace x1 x2 s5) (fun r19 s19 => some (r19, s19)))
set_option maxRecDepth 100000 in
set_option maxHeartbeats 4000000 in
theorem ct_P_missing (l : Launch) (D : va_G) (ad : Nat → Nat) (ca : Nat → ClassId) (x1 : Int32) (x2 : Int32) (σ : zS) : zC zemI l y_P_missing (Cond.code y_P_missing b_P_missing 3 (some .int) :: zTT) (zrm 2 46) D zcl (zKK D ca) (zwC ad ca) σ [.ref (ad 0), .int x1, .int x2] (fn_P_missing x1 x2 σ) := by
  refine zmk_i (tys := zty ca) (by decide) (zKK_m D ca) (fun _ h => h.1) (Nat.le_of_ble_eq_true rfl) (fun V ex hX hR => ?_)
  show zJ V (zb (fn_A_has x1 σ) (fun r5 s5 => if r5 = 0 then some ((-1 : Int32), s5) else zb (fn_A_missingPlace x1 x2 s5) (fun r19 s19 => some (r19, s19)))) (zwC ad ca σ ++ ex) 0 [(0, .ref (ad 0)), (1, .int x1), (2, .int x2)] []
  refine z_aload_n (i := 0) hX d_P_missing_0 rfl rfl ?_
  refine z_get (C := R_P) (T := F_P) (N := 7) hX in_P 0 rfl rfl 1 (by decide) w_field_P_19_P_1 rfl d_P_missing_1 ?_
  refine z_iload_n (i := 1) hX d_P_missing_4 rfl rfl ?_
  refine z_callVi (wl := zwC ad ca) (C := R_A) (n := 1) (rest := []) hX [.int x1] (ct_A_has l D ad ca x1 σ) gV_P_68 ⟨rfl, rfl⟩ ⟨by decide, by decide⟩ (by decide +kernel) rfl 6 rfl rfl rfl rfl (Nat.le_of_ble_eq_true rfl) d_P_missing_5 (fun r5 s5 => ?_)
  refine z_if_ne (tgt := 13) hX d_P_missing_8 (by decide) (fun c8 => ?_) (fun c8 => ?_)
  · refine z_iconst (v := -1) hX d_P_missing_11 (by decide) ?_
    exact z_iret hR d_P_missing_12
  · refine z_aload_n (i := 0) hX d_P_missing_13 rfl rfl ?_
    refine z_get (C := R_P) (T := F_P) (N := 7) hX in_P 0 rfl rfl 1 (by decide) w_field_P_19_P_1 rfl d_P_missing_14 ?_
    refine z_iload_n (i := 1) hX d_P_missing_17 rfl rfl ?_
    refine z_iload_n (i := 2) hX d_P_missing_18 rfl rfl ?_
    refine z_callVi (wl := zwC ad ca) (C := R_A) (n := 2) (rest := []) hX [.int x1, .int x2] (ct_A_missingPlace l D ad ca x1 x2 s5) gV_P_112 ⟨rfl, rfl⟩ ⟨by decide, by decide⟩ (by decide +kernel) rfl 6 rfl rfl rfl rfl (Nat.le_of_ble_eq_true rfl) d_P_missing_19 (fun r19 s19 => ?_)
    exact z_iret hR d_P_missing_22
def fn_A_differAtPath (x1 : Int32) (x2 : Int32) (x3 : Int32) (σ : zS) : Option (Int32 × zS) := zgd (zin x1 32) (zb (fn_P_hasBit (σ.1 19 x1.toNatClampNeg) x3 σ) (fun r7 s7 => zgd (zin x2 32) (zb (fn_P_hasBit (s7.1 19 x2.toNatClampNeg) x3 s7) (fun r17 s17 => if r7 = r17 then zgd (zin ((x1 * (8 : Int32)) + x3) 256) (zgd (zin ((x2 * (8 : Int32)) + x3) 256) (if (lg_cmp (s17.2 20 ((x1 * (8 : Int32)) + x3).toNatClampNeg) (s17.2 20 ((x2 * (8 : Int32)) + x3).toNatClampNeg)) = 0 then some ((0 : Int32), s17) else some ((1 : Int32), s17))) else some ((1 : Int32), s17)))))
set_option maxRecDepth 100000 in
set_option maxHeartbeats 4000000 in
theorem ct_A_differAtPath (l : Launch) (D : va_G) (ad : Nat → Nat) (ca : Nat → ClassId) (x1 : Int32) (x2 : Int32) (x3 : Int32) (σ : zS) : zC zemI l y_A_differAtPath (Cond.code y_A_differAtPath b_A_differAtPath 4 (some .boolean) :: zTT) (zrm 1 21) D zcl (zKK D ca) (zwC ad ca) σ [.ref (ad 6), .int x1, .int x2, .int x3] (fn_A_differAtPath x1 x2 x3 σ) := by
  refine zmk_z (tys := zty ca) (by decide) (zKK_m D ca) (fun _ h => h.1) (Nat.le_of_ble_eq_true rfl) (fun V ex hX hR => ?_)
  show zJ V (zgd (zin x1 32) (zb (fn_P_hasBit (σ.1 19 x1.toNatClampNeg) x3 σ) (fun r7 s7 => zgd (zin x2 32) (zb (fn_P_hasBit (s7.1 19 x2.toNatClampNeg) x3 s7) (fun r17 s17 => if r7 = r17 then zgd (zin ((x1 * (8 : Int32)) + x3) 256) (zgd (zin ((x2 * (8 : Int32)) + x3) 256) (if (lg_cmp (s17.2 20 ((x1 * (8 : Int32)) + x3).toNatClampNeg) (s17.2 20 ((x2 * (8 : Int32)) + x3).toNatClampNeg)) = 0 then some ((0 : Int32), s17) else some ((1 : Int32), s17))) else some ((1 : Int32), s17)))))) (zwC ad ca σ ++ ex) 0 [(0, .ref (ad 6)), (1, .int x1), (2, .int x2), (3, .int x3)] []
  refine z_aload_n (i := 0) hX d_A_differAtPath_0 rfl rfl ?_
  refine z_get (C := R_A) (T := F_A) (N := 11) hX in_A 6 rfl rfl 9 (by decide) w_field_A_41_A_9 rfl d_A_differAtPath_1 ?_
  refine z_iload_n (i := 1) hX d_A_differAtPath_4 rfl rfl ?_
  refine z_iald hX 19 14 rfl rfl d_A_differAtPath_5 ?_
  refine z_iload_n (i := 3) hX d_A_differAtPath_6 rfl rfl ?_
  refine z_callSNi (wl := zwC ad ca) (n := 2) (rest := []) hX [.int (σ.1 19 x1.toNatClampNeg), .int x3] (ct_P_hasBit l D ca (zwC ad ca) (σ.1 19 x1.toNatClampNeg) x3 σ) gN_A_81 (gN_A_81_k D ca) w_stat_P_hasBit w_init_P ⟨rfl, rfl⟩ ⟨by decide, by decide⟩ (by decide +kernel) rfl rfl (Nat.le_of_ble_eq_true rfl) d_A_differAtPath_7 (fun r7 s7 => ?_)
  refine z_aload_n (i := 0) hX d_A_differAtPath_10 rfl rfl ?_
  refine z_get (C := R_A) (T := F_A) (N := 11) hX in_A 6 rfl rfl 9 (by decide) w_field_A_41_A_9 rfl d_A_differAtPath_11 ?_
  refine z_iload_n (i := 2) hX d_A_differAtPath_14 rfl rfl ?_
  refine z_iald hX 19 14 rfl rfl d_A_differAtPath_15 ?_
  refine z_iload_n (i := 3) hX d_A_differAtPath_16 rfl rfl ?_
  refine z_callSNi (wl := zwC ad ca) (n := 2) (rest := [.int r7]) hX [.int (s7.1 19 x2.toNatClampNeg), .int x3] (ct_P_hasBit l D ca (zwC ad ca) (s7.1 19 x2.toNatClampNeg) x3 s7) gN_A_81 (gN_A_81_k D ca) w_stat_P_hasBit w_init_P ⟨rfl, rfl⟩ ⟨by decide, by decide⟩ (by decide +kernel) rfl rfl (Nat.le_of_ble_eq_true rfl) d_A_differAtPath_17 (fun r17 s17 => ?_)
  refine z_icmp_ne (tgt := 49) hX d_A_differAtPath_20 (by decide) (fun c20 => ?_) (fun c20 => ?_)
  · refine z_aload_n (i := 0) hX d_A_differAtPath_23 rfl rfl ?_
    refine z_get (C := R_A) (T := F_A) (N := 11) hX in_A 6 rfl rfl 10 (by decide) w_field_A_44_A_10 rfl d_A_differAtPath_24 ?_
    refine z_iload_n (i := 1) hX d_A_differAtPath_27 rfl rfl ?_
    refine z_bipush (v := 8) hX d_A_differAtPath_28 (by decide) ?_
    refine z_imul hX d_A_differAtPath_30 ?_
    refine z_iload_n (i := 3) hX d_A_differAtPath_31 rfl rfl ?_
    refine z_iadd hX d_A_differAtPath_32 ?_
    refine z_lald hX 20 15 rfl rfl d_A_differAtPath_33 ?_
    refine z_aload_n (i := 0) hX d_A_differAtPath_34 rfl rfl ?_
    refine z_get (C := R_A) (T := F_A) (N := 11) hX in_A 6 rfl rfl 10 (by decide) w_field_A_44_A_10 rfl d_A_differAtPath_35 ?_
    refine z_iload_n (i := 2) hX d_A_differAtPath_38 rfl rfl ?_
    refine z_bipush (v := 8) hX d_A_differAtPath_39 (by decide) ?_
    refine z_imul hX d_A_differAtPath_41 ?_
    refine z_iload_n (i := 3) hX d_A_differAtPath_42 rfl rfl ?_
    refine z_iadd hX d_A_differAtPath_43 ?_
    refine z_lald hX 20 15 rfl rfl d_A_differAtPath_44 ?_
    refine z_lcmp hX d_A_differAtPath_45 ?_
    refine z_if_eq (tgt := 53) hX d_A_differAtPath_46 (by decide) (fun c46 => ?_) (fun c46 => ?_)
    · refine z_iconst (v := 0) hX d_A_differAtPath_53 (by decide) ?_
      exact z_zret hR rfl d_A_differAtPath_54
    · refine z_iconst (v := 1) hX d_A_differAtPath_49 (by decide) ?_
      refine z_goto (tgt := 54) hX d_A_differAtPath_50 (by decide) ?_
      exact z_zret hR rfl d_A_differAtPath_54
  · refine z_iconst (v := 1) hX d_A_differAtPath_49 (by decide) ?_
    refine z_goto (tgt := 54) hX d_A_differAtPath_50 (by decide) ?_
    exact z_zret hR rfl d_A_differAtPath_54
def fn_P_bitIf (x0 : Int32) (x1 : Int32) (σ : zS) : Option (Int32 × zS) := if x0 = 0 then some ((0 : Int32), σ) else some (zshl (1 : Int32) x1, σ)
set_option maxRecDepth 100000 in
set_option maxHeartbeats 4000000 in
theorem ct_P_bitIf (l : Launch) (D : va_G) (ca : Nat → ClassId) (wl : zS → va_W) (x0 : Int32) (x1 : Int32) (σ : zS) : zC zemI l y_P_bitIf (Cond.code y_P_bitIf b_P_bitIf 2 (some .int) :: zTT) (zrm 0 0) D zcl (zKK D ca) wl σ [.int x0, .int x1] (fn_P_bitIf x0 x1 σ) := by
  refine zmk_i (tys := zty ca) (by decide) (zKK_m D ca) (fun _ h => h.1) (Nat.le_of_ble_eq_true rfl) (fun V ex hX hR => ?_)
  show zJ V (if x0 = 0 then some ((0 : Int32), σ) else some (zshl (1 : Int32) x1, σ)) (wl σ ++ ex) 0 [(0, .int x0), (1, .int x1)] []
  refine z_iload_n (i := 0) hX d_P_bitIf_0 rfl rfl ?_
  refine z_if_eq (tgt := 10) hX d_P_bitIf_1 (by decide) (fun c1 => ?_) (fun c1 => ?_)
  · refine z_iconst (v := 0) hX d_P_bitIf_10 (by decide) ?_
    exact z_iret hR d_P_bitIf_11
  · refine z_iconst (v := 1) hX d_P_bitIf_4 (by decide) ?_
    refine z_iload_n (i := 1) hX d_P_bitIf_5 rfl rfl ?_
    refine z_ishl hX d_P_bitIf_6 ?_
    refine z_goto (tgt := 11) hX d_P_bitIf_7 (by decide) ?_
    exact z_iret hR d_P_bitIf_11
def fn_P_rebuilt_29 : Nat → Int32 → Int32 → Int32 → Int32 → zS → Option (Int32 × zS)
  | 0, _, _, _, _, _ => none
  | n + 1, x1, x2, x3, x4, σ => if x4 < (8 : Int32) then zb (fn_A_differAtPath x1 x2 x4 σ) (fun r45 s45 => zb (fn_P_bitIf r45 x4 s45) (fun r50 s50 => fn_P_rebuilt_29 n x1 x2 (x3 ||| r50) (x4 + 1) s50)) else some (x3, σ)
set_option maxRecDepth 100000 in
set_option maxHeartbeats 4000000 in
theorem bk_P_rebuilt_29 (l : Launch) (D : va_G) (ad : Nat → Nat) (ca : Nat → ClassId) {V : zV Int32} {ex : va_W} (hX : zIs V l b_P_rebuilt R_P zTT (zKK D ca) D zcl (zty ca) 5 (zrm 2 44)) (hR : zRi V b_P_rebuilt (zwC ad ca) ex) : ∀ (n : Nat) (x1 : Int32) (x2 : Int32) (x3 : Int32) (x4 : Int32) (σ : zS), zJ V (fn_P_rebuilt_29 n x1 x2 x3 x4 σ) (zwC ad ca σ ++ ex) 29 [(0, .ref (ad 0)), (1, .int x1), (2, .int x2), (3, .int x3), (4, .int x4)] [] := by
  intro n
  induction n with
  | zero => intros; exact z_none
  | succ n ih =>
    intro x1 x2 x3 x4 σ
    show zJ V (if x4 < (8 : Int32) then zb (fn_A_differAtPath x1 x2 x4 σ) (fun r45 s45 => zb (fn_P_bitIf r45 x4 s45) (fun r50 s50 => fn_P_rebuilt_29 n x1 x2 (x3 ||| r50) (x4 + 1) s50)) else some (x3, σ)) _ _ _ _
    refine z_iload (i := 4) hX d_P_rebuilt_29 rfl ?_
    refine z_bipush (v := 8) hX d_P_rebuilt_31 (by decide) ?_
    refine z_icmp_ge (tgt := 61) hX d_P_rebuilt_33 (by decide) (fun c33 => ?_) (fun c33 => ?_)
    · refine z_iload_n (i := 3) hX d_P_rebuilt_36 rfl rfl ?_
      refine z_aload_n (i := 0) hX d_P_rebuilt_37 rfl rfl ?_
      refine z_get (C := R_P) (T := F_P) (N := 7) hX in_P 0 rfl rfl 1 (by decide) w_field_P_19_P_1 rfl d_P_rebuilt_38 ?_
      refine z_iload_n (i := 1) hX d_P_rebuilt_41 rfl rfl ?_
      refine z_iload_n (i := 2) hX d_P_rebuilt_42 rfl rfl ?_
      refine z_iload (i := 4) hX d_P_rebuilt_43 rfl ?_
      refine z_callVi (wl := zwC ad ca) (C := R_A) (n := 3) (rest := [.int x3]) hX [.int x1, .int x2, .int x4] (ct_A_differAtPath l D ad ca x1 x2 x4 σ) gV_P_115 ⟨rfl, rfl⟩ ⟨by decide, by decide⟩ (by decide +kernel) rfl 6 rfl rfl rfl rfl (Nat.le_of_ble_eq_true rfl) d_P_rebuilt_45 (fun r45 s45 => ?_)
      refine z_iload (i := 4) hX d_P_rebuilt_48 rfl ?_
      refine z_callSi (wl := zwC ad ca) (n := 2) (rest := [.int x3]) hX [.int r45, .int x4] (ct_P_bitIf l D ca (zwC ad ca) r45 x4 s45) gS_P_119 ⟨rfl, rfl⟩ ⟨by decide, by decide⟩ (by decide +kernel) rfl rfl (Nat.le_of_ble_eq_true rfl) d_P_rebuilt_50 (fun r50 s50 => ?_)
      refine z_ior hX d_P_rebuilt_53 ?_
      refine z_istore_n (i := 3) (lv2 := [(3, .int (x3 ||| r50)), (0, .ref (ad 0)), (1, .int x1), (2, .int x2), (4, .int x4)]) hX d_P_rebuilt_54 rfl (by decide) rfl ?_
      refine z_iinc (v := x4 + 1) (lv2 := [(4, .int (x4 + 1)), (3, .int (x3 ||| r50)), (0, .ref (ad 0)), (1, .int x1), (2, .int x2)]) hX d_P_rebuilt_55 4 rfl (by first | rfl | decide) (by decide) rfl ?_
      refine z_goto (tgt := 29) hX d_P_rebuilt_58 (by decide) ?_
      refine z_lv hX [2, 3, 4, 1, 0] (lv2 := [(0, .ref (ad 0)), (1, .int x1), (2, .int x2), (3, .int (x3 ||| r50)), (4, .int (x4 + 1))]) rfl ?_
      exact ih _ _ _ _ _
    · refine z_iload_n (i := 3) hX d_P_rebuilt_61 rfl rfl ?_
      exact z_iret hR d_P_rebuilt_62
def fn_P_rebuilt (x1 : Int32) (x2 : Int32) (σ : zS) : Option (Int32 × zS) := zb (fn_A_has x1 σ) (fun r5 s5 => if r5 = 0 then some ((-1 : Int32), s5) else zb (fn_A_has x2 s5) (fun r16 s16 => if r16 = 0 then some ((-1 : Int32), s16) else fn_P_rebuilt_29 100 x1 x2 (0 : Int32) (0 : Int32) s16))
set_option maxRecDepth 100000 in
set_option maxHeartbeats 4000000 in
theorem ct_P_rebuilt (l : Launch) (D : va_G) (ad : Nat → Nat) (ca : Nat → ClassId) (x1 : Int32) (x2 : Int32) (σ : zS) : zC zemI l y_P_rebuilt (Cond.code y_P_rebuilt b_P_rebuilt 5 (some .int) :: zTT) (zrm 2 44) D zcl (zKK D ca) (zwC ad ca) σ [.ref (ad 0), .int x1, .int x2] (fn_P_rebuilt x1 x2 σ) := by
  refine zmk_i (tys := zty ca) (by decide) (zKK_m D ca) (fun _ h => h.1) (Nat.le_of_ble_eq_true rfl) (fun V ex hX hR => ?_)
  show zJ V (zb (fn_A_has x1 σ) (fun r5 s5 => if r5 = 0 then some ((-1 : Int32), s5) else zb (fn_A_has x2 s5) (fun r16 s16 => if r16 = 0 then some ((-1 : Int32), s16) else fn_P_rebuilt_29 100 x1 x2 (0 : Int32) (0 : Int32) s16))) (zwC ad ca σ ++ ex) 0 [(0, .ref (ad 0)), (1, .int x1), (2, .int x2)] []
  refine z_aload_n (i := 0) hX d_P_rebuilt_0 rfl rfl ?_
  refine z_get (C := R_P) (T := F_P) (N := 7) hX in_P 0 rfl rfl 1 (by decide) w_field_P_19_P_1 rfl d_P_rebuilt_1 ?_
  refine z_iload_n (i := 1) hX d_P_rebuilt_4 rfl rfl ?_
  refine z_callVi (wl := zwC ad ca) (C := R_A) (n := 1) (rest := []) hX [.int x1] (ct_A_has l D ad ca x1 σ) gV_P_68 ⟨rfl, rfl⟩ ⟨by decide, by decide⟩ (by decide +kernel) rfl 6 rfl rfl rfl rfl (Nat.le_of_ble_eq_true rfl) d_P_rebuilt_5 (fun r5 s5 => ?_)
  refine z_if_eq (tgt := 22) hX d_P_rebuilt_8 (by decide) (fun c8 => ?_) (fun c8 => ?_)
  · refine z_iconst (v := -1) hX d_P_rebuilt_22 (by decide) ?_
    exact z_iret hR d_P_rebuilt_23
  · refine z_aload_n (i := 0) hX d_P_rebuilt_11 rfl rfl ?_
    refine z_get (C := R_P) (T := F_P) (N := 7) hX in_P 0 rfl rfl 1 (by decide) w_field_P_19_P_1 rfl d_P_rebuilt_12 ?_
    refine z_iload_n (i := 2) hX d_P_rebuilt_15 rfl rfl ?_
    refine z_callVi (wl := zwC ad ca) (C := R_A) (n := 1) (rest := []) hX [.int x2] (ct_A_has l D ad ca x2 s5) gV_P_68 ⟨rfl, rfl⟩ ⟨by decide, by decide⟩ (by decide +kernel) rfl 6 rfl rfl rfl rfl (Nat.le_of_ble_eq_true rfl) d_P_rebuilt_16 (fun r16 s16 => ?_)
    refine z_if_ne (tgt := 24) hX d_P_rebuilt_19 (by decide) (fun c19 => ?_) (fun c19 => ?_)
    · refine z_iconst (v := -1) hX d_P_rebuilt_22 (by decide) ?_
      exact z_iret hR d_P_rebuilt_23
    · refine z_iconst (v := 0) hX d_P_rebuilt_24 (by decide) ?_
      refine z_istore_n (i := 3) (lv2 := [(3, .int (0 : Int32)), (0, .ref (ad 0)), (1, .int x1), (2, .int x2)]) hX d_P_rebuilt_25 rfl (by decide) rfl ?_
      refine z_iconst (v := 0) hX d_P_rebuilt_26 (by decide) ?_
      refine z_istore (i := 4) (lv2 := [(4, .int (0 : Int32)), (3, .int (0 : Int32)), (0, .ref (ad 0)), (1, .int x1), (2, .int x2)]) hX d_P_rebuilt_27 (by decide) rfl ?_
      refine z_lv hX [2, 3, 4, 1, 0] (lv2 := [(0, .ref (ad 0)), (1, .int x1), (2, .int x2), (3, .int (0 : Int32)), (4, .int (0 : Int32))]) rfl ?_
      exact bk_P_rebuilt_29 l D ad ca hX hR 100 _ _ _ _ _
def fn_W_sameAsSets_u_19 : Nat → Int32 → Int32 → Int32 → zS → Option (Int32 × zS)
  | 0, _, _, _, _ => none
  | n + 1, x1, x2, x3, σ => zgd (zin x1 32) (if x3 < (σ.1 13 x1.toNatClampNeg) then zb (fn_W_valueAt_u x1 x3 σ) (fun r34 s34 => zb (fn_W_contains_u x2 r34 s34) (fun r37 s37 => if r37 = 0 then some ((0 : Int32), s37) else fn_W_sameAsSets_u_19 n x1 x2 (x3 + 1) s37)) else some ((1 : Int32), σ))
set_option maxRecDepth 100000 in
set_option maxHeartbeats 4000000 in
theorem bk_W_sameAsSets_u_19 (l : Launch) (D : va_G) (ad : Nat → Nat) (ca : Nat → ClassId) {V : zV Int32} {ex : va_W} (hX : zIs V l b_W_sameAsSets R_W zTT (zKK D ca) D zcl (zty ca) 4 (zrm 2 46)) (hR : zRz V b_W_sameAsSets (zwC ad ca) ex) : ∀ (n : Nat) (x1 : Int32) (x2 : Int32) (x3 : Int32) (σ : zS), zJ V (fn_W_sameAsSets_u_19 n x1 x2 x3 σ) (zwC ad ca σ ++ ex) 19 [(0, .ref (ad 12)), (1, .int x1), (2, .int x2), (3, .int x3)] [] := by
  intro n
  induction n with
  | zero => intros; exact z_none
  | succ n ih =>
    intro x1 x2 x3 σ
    show zJ V (zgd (zin x1 32) (if x3 < (σ.1 13 x1.toNatClampNeg) then zb (fn_W_valueAt_u x1 x3 σ) (fun r34 s34 => zb (fn_W_contains_u x2 r34 s34) (fun r37 s37 => if r37 = 0 then some ((0 : Int32), s37) else fn_W_sameAsSets_u_19 n x1 x2 (x3 + 1) s37)) else some ((1 : Int32), σ))) _ _ _ _
    refine z_iload_n (i := 3) hX d_W_sameAsSets_19 rfl rfl ?_
    refine z_aload_n (i := 0) hX d_W_sameAsSets_20 rfl rfl ?_
    refine z_get (C := R_W) (T := F_W) (N := 2) hX in_W 12 rfl rfl 0 (by decide) w_field_W_9_W_0 rfl d_W_sameAsSets_21 ?_
    refine z_iload_n (i := 1) hX d_W_sameAsSets_24 rfl rfl ?_
    refine z_iald hX 13 9 rfl rfl d_W_sameAsSets_25 ?_
    refine z_icmp_ge (tgt := 51) hX d_W_sameAsSets_26 (by decide) (fun c26 => ?_) (fun c26 => ?_)
    · refine z_aload_n (i := 0) hX d_W_sameAsSets_29 rfl rfl ?_
      refine z_iload_n (i := 2) hX d_W_sameAsSets_30 rfl rfl ?_
      refine z_aload_n (i := 0) hX d_W_sameAsSets_31 rfl rfl ?_
      refine z_iload_n (i := 1) hX d_W_sameAsSets_32 rfl rfl ?_
      refine z_iload_n (i := 3) hX d_W_sameAsSets_33 rfl rfl ?_
      refine z_callVl (wl := zwC ad ca) (C := R_W) (n := 2) (rest := [.int x2, .ref (ad 12)]) hX [.int x1, .int x3] (ct_W_valueAt_u l D ad ca x1 x3 σ) gV_W_23 ⟨rfl, rfl⟩ ⟨by decide, by decide⟩ (by decide +kernel) rfl 12 rfl rfl rfl rfl (Nat.le_of_ble_eq_true rfl) d_W_sameAsSets_34 (fun r34 s34 => ?_)
      refine z_callVi (wl := zwC ad ca) (C := R_W) (n := 2) (rest := []) hX [.int x2, .long r34] (ct_W_contains_u l D ad ca x2 r34 s34) gV_W_19 ⟨rfl, rfl⟩ ⟨by decide, by decide⟩ (by decide +kernel) rfl 12 rfl rfl rfl rfl (Nat.le_of_ble_eq_true rfl) d_W_sameAsSets_37 (fun r37 s37 => ?_)
      refine z_if_ne (tgt := 45) hX d_W_sameAsSets_40 (by decide) (fun c40 => ?_) (fun c40 => ?_)
      · refine z_iconst (v := 0) hX d_W_sameAsSets_43 (by decide) ?_
        exact z_zret hR rfl d_W_sameAsSets_44
      · refine z_iinc (v := x3 + 1) (lv2 := [(3, .int (x3 + 1)), (0, .ref (ad 12)), (1, .int x1), (2, .int x2)]) hX d_W_sameAsSets_45 3 rfl (by first | rfl | decide) (by decide) rfl ?_
        refine z_goto (tgt := 19) hX d_W_sameAsSets_48 (by decide) ?_
        refine z_lv hX [1, 2, 3, 0] (lv2 := [(0, .ref (ad 12)), (1, .int x1), (2, .int x2), (3, .int (x3 + 1))]) rfl ?_
        exact ih _ _ _ _
    · refine z_iconst (v := 1) hX d_W_sameAsSets_51 (by decide) ?_
      exact z_zret hR rfl d_W_sameAsSets_52
def fn_W_sameAsSets_u (x1 : Int32) (x2 : Int32) (σ : zS) : Option (Int32 × zS) := zgd (zin x1 32) (zgd (zin x2 32) (if (σ.1 13 x1.toNatClampNeg) = (σ.1 13 x2.toNatClampNeg) then fn_W_sameAsSets_u_19 100 x1 x2 (0 : Int32) σ else some ((0 : Int32), σ)))
set_option maxRecDepth 100000 in
set_option maxHeartbeats 4000000 in
theorem ct_W_sameAsSets_u (l : Launch) (D : va_G) (ad : Nat → Nat) (ca : Nat → ClassId) (x1 : Int32) (x2 : Int32) (σ : zS) : zC zemI l y_W_sameAsSets (Cond.code y_W_sameAsSets b_W_sameAsSets 4 (some .boolean) :: zTT) (zrm 2 46) D zcl (zKK D ca) (zwC ad ca) σ [.ref (ad 12), .int x1, .int x2] (fn_W_sameAsSets_u x1 x2 σ) := by
  refine zmk_z (tys := zty ca) (by decide) (zKK_m D ca) (fun _ h => h.1) (Nat.le_of_ble_eq_true rfl) (fun V ex hX hR => ?_)
  show zJ V (zgd (zin x1 32) (zgd (zin x2 32) (if (σ.1 13 x1.toNatClampNeg) = (σ.1 13 x2.toNatClampNeg) then fn_W_sameAsSets_u_19 100 x1 x2 (0 : Int32) σ else some ((0 : Int32), σ)))) (zwC ad ca σ ++ ex) 0 [(0, .ref (ad 12)), (1, .int x1), (2, .int x2)] []
  refine z_aload_n (i := 0) hX d_W_sameAsSets_0 rfl rfl ?_
  refine z_get (C := R_W) (T := F_W) (N := 2) hX in_W 12 rfl rfl 0 (by decide) w_field_W_9_W_0 rfl d_W_sameAsSets_1 ?_
  refine z_iload_n (i := 1) hX d_W_sameAsSets_4 rfl rfl ?_
  refine z_iald hX 13 9 rfl rfl d_W_sameAsSets_5 ?_
  refine z_aload_n (i := 0) hX d_W_sameAsSets_6 rfl rfl ?_
  refine z_get (C := R_W) (T := F_W) (N := 2) hX in_W 12 rfl rfl 0 (by decide) w_field_W_9_W_0 rfl d_W_sameAsSets_7 ?_
  refine z_iload_n (i := 2) hX d_W_sameAsSets_10 rfl rfl ?_
  refine z_iald hX 13 9 rfl rfl d_W_sameAsSets_11 ?_
  refine z_icmp_eq (tgt := 17) hX d_W_sameAsSets_12 (by decide) (fun c12 => ?_) (fun c12 => ?_)
  · refine z_iconst (v := 0) hX d_W_sameAsSets_17 (by decide) ?_
    refine z_istore_n (i := 3) (lv2 := [(3, .int (0 : Int32)), (0, .ref (ad 12)), (1, .int x1), (2, .int x2)]) hX d_W_sameAsSets_18 rfl (by decide) rfl ?_
    refine z_lv hX [1, 2, 3, 0] (lv2 := [(0, .ref (ad 12)), (1, .int x1), (2, .int x2), (3, .int (0 : Int32))]) rfl ?_
    exact bk_W_sameAsSets_u_19 l D ad ca hX hR 100 _ _ _ _
  · refine z_iconst (v := 0) hX d_W_sameAsSets_15 (by decide) ?_
    exact z_zret hR rfl d_W_sameAsSets_16
