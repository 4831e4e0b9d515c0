def fn_M_rebuilt_72 (k23 : Int32 → Int32 → Int32 → Int32 → zS → Option (Int32 × zS)) (x1 : Int32) (x2 : Int32) (x3 : Int32) (x4 : Int32) (x5 : Int32) (y0 : Int32) (σ : zS) : Option (Int32 × zS) := if x5 = y0 then if x5 = 0 then k23 x1 x2 x3 (x4 + 1) σ else zgd (zin (((8 : Int32) * x1) + x4) 256) (zgd (zin (((8 : Int32) * x2) + x4) 256) (if (lg_cmp (σ.2 37 (((8 : Int32) * x1) + x4).toNatClampNeg) (σ.2 37 (((8 : Int32) * x2) + x4).toNatClampNeg)) = 0 then k23 x1 x2 x3 (x4 + 1) σ else k23 x1 x2 (x3 ||| (zshl (1 : Int32) x4)) (x4 + 1) σ)) else k23 x1 x2 (x3 ||| (zshl (1 : Int32) x4)) (x4 + 1) σ
set_option maxRecDepth 100000 in
set_option maxHeartbeats 4000000 in
theorem bk_M_rebuilt_72 (l : Launch) (D : va_G) (ad : Nat → Nat) (ca : Nat → ClassId) {V : zV Int32} {ex : va_W} (hX : zIs V l b_M_rebuilt R_M zTT (zKK D ca) D zcl (zty ca) 7 (zrm 1 21)) (hR : zRi V b_M_rebuilt (zwM ad ca) ex) (k23 : Int32 → Int32 → Int32 → Int32 → zS → Option (Int32 × zS)) (hk23 : ∀ (z1 : Int32) (z2 : Int32) (z3 : Int32) (z4 : Int32) (σ : zS), zJ V (k23 z1 z2 z3 z4 σ) (zwM ad ca σ ++ ex) 23 [(0, .ref (ad 30)), (1, .int z1), (2, .int z2), (3, .int z3), (4, .int z4)] []) : ∀ (x1 : Int32) (x2 : Int32) (x3 : Int32) (x4 : Int32) (x5 : Int32) (y0 : Int32) (σ : zS), zJ V (fn_M_rebuilt_72 k23 x1 x2 x3 x4 x5 y0 σ) (zwM ad ca σ ++ ex) 72 [(0, .ref (ad 30)), (1, .int x1), (2, .int x2), (3, .int x3), (4, .int x4), (5, .int x5)] [.int y0] := by
  intro x1 x2 x3 x4 x5 y0 σ
  show zJ V (if x5 = y0 then if x5 = 0 then k23 x1 x2 x3 (x4 + 1) σ else zgd (zin (((8 : Int32) * x1) + x4) 256) (zgd (zin (((8 : Int32) * x2) + x4) 256) (if (lg_cmp (σ.2 37 (((8 : Int32) * x1) + x4).toNatClampNeg) (σ.2 37 (((8 : Int32) * x2) + x4).toNatClampNeg)) = 0 then k23 x1 x2 x3 (x4 + 1) σ else k23 x1 x2 (x3 ||| (zshl (1 : Int32) x4)) (x4 + 1) σ)) else k23 x1 x2 (x3 ||| (zshl (1 : Int32) x4)) (x4 + 1) σ) _ _ _ _
  refine z_istore (i := 6) (lv2 := [(6, .int y0), (0, .ref (ad 30)), (1, .int x1), (2, .int x2), (3, .int x3), (4, .int x4), (5, .int x5)]) hX d_M_rebuilt_72 (by decide) rfl ?_
  refine z_iload (i := 5) hX d_M_rebuilt_74 rfl ?_
  refine z_iload (i := 6) hX d_M_rebuilt_76 rfl ?_
  refine z_icmp_ne (tgt := 114) hX d_M_rebuilt_78 (by decide) (fun c78 => ?_) (fun c78 => ?_)
  · refine z_iload (i := 5) hX d_M_rebuilt_81 rfl ?_
    refine z_if_eq (tgt := 121) hX d_M_rebuilt_83 (by decide) (fun c83 => ?_) (fun c83 => ?_)
    · refine z_iinc (v := x4 + 1) (lv2 := [(4, .int (x4 + 1)), (6, .int y0), (0, .ref (ad 30)), (1, .int x1), (2, .int x2), (3, .int x3), (5, .int x5)]) hX d_M_rebuilt_121 5 rfl (by first | rfl | decide) (by decide) rfl ?_
      refine z_goto (tgt := 23) hX d_M_rebuilt_124 (by decide) ?_
      refine z_lv hX [2, 3, 4, 5, 0] (lv2 := [(0, .ref (ad 30)), (1, .int x1), (2, .int x2), (3, .int x3), (4, .int (x4 + 1))]) rfl ?_
      exact hk23 _ _ _ _ _
    · refine z_aload_n (i := 0) hX d_M_rebuilt_86 rfl rfl ?_
      refine z_get (C := R_M) (T := F_M) (N := 27) hX in_M 0 rfl rfl 9 (by decide) w_field_M_30_M_9 rfl d_M_rebuilt_87 ?_
      refine z_bipush (v := 8) hX d_M_rebuilt_90 (by decide) ?_
      refine z_iload_n (i := 1) hX d_M_rebuilt_92 rfl rfl ?_
      refine z_imul hX d_M_rebuilt_93 ?_
      refine z_iload (i := 4) hX d_M_rebuilt_94 rfl ?_
      refine z_iadd hX d_M_rebuilt_96 ?_
      refine z_lald hX 7 27 rfl rfl d_M_rebuilt_97 ?_
      refine z_aload_n (i := 0) hX d_M_rebuilt_98 rfl rfl ?_
      refine z_get (C := R_M) (T := F_M) (N := 27) hX in_M 0 rfl rfl 9 (by decide) w_field_M_30_M_9 rfl d_M_rebuilt_99 ?_
      refine z_bipush (v := 8) hX d_M_rebuilt_102 (by decide) ?_
      refine z_iload_n (i := 2) hX d_M_rebuilt_104 rfl rfl ?_
      refine z_imul hX d_M_rebuilt_105 ?_
      refine z_iload (i := 4) hX d_M_rebuilt_106 rfl ?_
      refine z_iadd hX d_M_rebuilt_108 ?_
      refine z_lald hX 7 27 rfl rfl d_M_rebuilt_109 ?_
      refine z_lcmp hX d_M_rebuilt_110 ?_
      refine z_if_eq (tgt := 121) hX d_M_rebuilt_111 (by decide) (fun c111 => ?_) (fun c111 => ?_)
      · refine z_iinc (v := x4 + 1) (lv2 := [(4, .int (x4 + 1)), (6, .int y0), (0, .ref (ad 30)), (1, .int x1), (2, .int x2), (3, .int x3), (5, .int x5)]) hX d_M_rebuilt_121 5 rfl (by first | rfl | decide) (by decide) rfl ?_
        refine z_goto (tgt := 23) hX d_M_rebuilt_124 (by decide) ?_
        refine z_lv hX [2, 3, 4, 5, 0] (lv2 := [(0, .ref (ad 30)), (1, .int x1), (2, .int x2), (3, .int x3), (4, .int (x4 + 1))]) rfl ?_
        exact hk23 _ _ _ _ _
      · refine z_iload_n (i := 3) hX d_M_rebuilt_114 rfl rfl ?_
        refine z_iconst (v := 1) hX d_M_rebuilt_115 (by decide) ?_
        refine z_iload (i := 4) hX d_M_rebuilt_116 rfl ?_
        refine z_ishl hX d_M_rebuilt_118 ?_
        refine z_ior hX d_M_rebuilt_119 ?_
        refine z_istore_n (i := 3) (lv2 := [(3, .int (x3 ||| (zshl (1 : Int32) x4))), (6, .int y0), (0, .ref (ad 30)), (1, .int x1), (2, .int x2), (4, .int x4), (5, .int x5)]) hX d_M_rebuilt_120 rfl (by decide) rfl ?_
        refine z_iinc (v := x4 + 1) (lv2 := [(4, .int (x4 + 1)), (3, .int (x3 ||| (zshl (1 : Int32) x4))), (6, .int y0), (0, .ref (ad 30)), (1, .int x1), (2, .int x2), (5, .int x5)]) hX d_M_rebuilt_121 5 rfl (by first | rfl | decide) (by decide) rfl ?_
        refine z_goto (tgt := 23) hX d_M_rebuilt_124 (by decide) ?_
        refine z_lv hX [3, 4, 5, 1, 0] (lv2 := [(0, .ref (ad 30)), (1, .int x1), (2, .int x2), (3, .int (x3 ||| (zshl (1 : Int32) x4))), (4, .int (x4 + 1))]) rfl ?_
        exact hk23 _ _ _ _ _
  · refine z_iload_n (i := 3) hX d_M_rebuilt_114 rfl rfl ?_
    refine z_iconst (v := 1) hX d_M_rebuilt_115 (by decide) ?_
    refine z_iload (i := 4) hX d_M_rebuilt_116 rfl ?_
    refine z_ishl hX d_M_rebuilt_118 ?_
    refine z_ior hX d_M_rebuilt_119 ?_
    refine z_istore_n (i := 3) (lv2 := [(3, .int (x3 ||| (zshl (1 : Int32) x4))), (6, .int y0), (0, .ref (ad 30)), (1, .int x1), (2, .int x2), (4, .int x4), (5, .int x5)]) hX d_M_rebuilt_120 rfl (by decide) rfl ?_
    refine z_iinc (v := x4 + 1) (lv2 := [(4, .int (x4 + 1)), (3, .int (x3 ||| (zshl (1 : Int32) x4))), (6, .int y0), (0, .ref (ad 30)), (1, .int x1), (2, .int x2), (5, .int x5)]) hX d_M_rebuilt_121 5 rfl (by first | rfl | decide) (by decide) rfl ?_
    refine z_goto (tgt := 23) hX d_M_rebuilt_124 (by decide) ?_
    refine z_lv hX [3, 4, 5, 1, 0] (lv2 := [(0, .ref (ad 30)), (1, .int x1), (2, .int x2), (3, .int (x3 ||| (zshl (1 : Int32) x4))), (4, .int (x4 + 1))]) rfl ?_
    exact hk23 _ _ _ _ _
def fn_M_rebuilt_50 (k23 : Int32 → Int32 → Int32 → Int32 → zS → Option (Int32 × zS)) (x1 : Int32) (x2 : Int32) (x3 : Int32) (x4 : Int32) (y0 : Int32) (σ : zS) : Option (Int32 × zS) := zgd (zin x2 32) (if ((zshr (σ.1 45 x2.toNatClampNeg) x4) &&& (1 : Int32)) = (1 : Int32) then fn_M_rebuilt_72 k23 x1 x2 x3 x4 y0 (1 : Int32) σ else fn_M_rebuilt_72 k23 x1 x2 x3 x4 y0 (0 : Int32) σ)
set_option maxRecDepth 100000 in
set_option maxHeartbeats 4000000 in
theorem bk_M_rebuilt_50 (l : Launch) (D : va_G) (ad : Nat → Nat) (ca : Nat → ClassId) {V : zV Int32} {ex : va_W} (hX : zIs V l b_M_rebuilt R_M zTT (zKK D ca) D zcl (zty ca) 7 (zrm 1 21)) (hR : zRi V b_M_rebuilt (zwM ad ca) ex) (k23 : Int32 → Int32 → Int32 → Int32 → zS → Option (Int32 × zS)) (hk23 : ∀ (z1 : Int32) (z2 : Int32) (z3 : Int32) (z4 : Int32) (σ : zS), zJ V (k23 z1 z2 z3 z4 σ) (zwM ad ca σ ++ ex) 23 [(0, .ref (ad 30)), (1, .int z1), (2, .int z2), (3, .int z3), (4, .int z4)] []) : ∀ (x1 : Int32) (x2 : Int32) (x3 : Int32) (x4 : Int32) (y0 : Int32) (σ : zS), zJ V (fn_M_rebuilt_50 k23 x1 x2 x3 x4 y0 σ) (zwM ad ca σ ++ ex) 50 [(0, .ref (ad 30)), (1, .int x1), (2, .int x2), (3, .int x3), (4, .int x4)] [.int y0] := by
  intro x1 x2 x3 x4 y0 σ
  show zJ V (zgd (zin x2 32) (if ((zshr (σ.1 45 x2.toNatClampNeg) x4) &&& (1 : Int32)) = (1 : Int32) then fn_M_rebuilt_72 k23 x1 x2 x3 x4 y0 (1 : Int32) σ else fn_M_rebuilt_72 k23 x1 x2 x3 x4 y0 (0 : Int32) σ)) _ _ _ _
  refine z_istore (i := 5) (lv2 := [(5, .int y0), (0, .ref (ad 30)), (1, .int x1), (2, .int x2), (3, .int x3), (4, .int x4)]) hX d_M_rebuilt_50 (by decide) rfl ?_
  refine z_aload_n (i := 0) hX d_M_rebuilt_52 rfl rfl ?_
  refine z_get (C := R_M) (T := F_M) (N := 27) hX in_M 0 rfl rfl 17 (by decide) w_field_M_54_M_17 rfl d_M_rebuilt_53 ?_
  refine z_iload_n (i := 2) hX d_M_rebuilt_56 rfl rfl ?_
  refine z_iald hX 15 35 rfl rfl d_M_rebuilt_57 ?_
  refine z_iload (i := 4) hX d_M_rebuilt_58 rfl ?_
  refine z_ishr hX d_M_rebuilt_60 ?_
  refine z_iconst (v := 1) hX d_M_rebuilt_61 (by decide) ?_
  refine z_iand hX d_M_rebuilt_62 ?_
  refine z_iconst (v := 1) hX d_M_rebuilt_63 (by decide) ?_
  refine z_icmp_ne (tgt := 71) hX d_M_rebuilt_64 (by decide) (fun c64 => ?_) (fun c64 => ?_)
  · refine z_iconst (v := 1) hX d_M_rebuilt_67 (by decide) ?_
    refine z_goto (tgt := 72) hX d_M_rebuilt_68 (by decide) ?_
    refine z_lv hX [1, 2, 3, 4, 5, 0] (lv2 := [(0, .ref (ad 30)), (1, .int x1), (2, .int x2), (3, .int x3), (4, .int x4), (5, .int y0)]) rfl ?_
    exact bk_M_rebuilt_72 l D ad ca hX hR k23 hk23 _ _ _ _ _ _ _
  · refine z_iconst (v := 0) hX d_M_rebuilt_71 (by decide) ?_
    refine z_lv hX [1, 2, 3, 4, 5, 0] (lv2 := [(0, .ref (ad 30)), (1, .int x1), (2, .int x2), (3, .int x3), (4, .int x4), (5, .int y0)]) rfl ?_
    exact bk_M_rebuilt_72 l D ad ca hX hR k23 hk23 _ _ _ _ _ _ _
def fn_M_rebuilt_23 : Nat → Int32 → Int32 → Int32 → Int32 → zS → Option (Int32 × zS)
  | 0, _, _, _, _, _ => none
  | n + 1, x1, x2, x3, x4, σ => if x4 < (8 : Int32) then zgd (zin x1 32) (if ((zshr (σ.1 45 x1.toNatClampNeg) x4) &&& (1 : Int32)) = (1 : Int32) then fn_M_rebuilt_50 (fn_M_rebuilt_23 n) x1 x2 x3 x4 (1 : Int32) σ else fn_M_rebuilt_50 (fn_M_rebuilt_23 n) x1 x2 x3 x4 (0 : Int32) σ) else some (x3, σ)
set_option maxRecDepth 100000 in
set_option maxHeartbeats 4000000 in
theorem bk_M_rebuilt_23 (l : Launch) (D : va_G) (ad : Nat → Nat) (ca : Nat → ClassId) {V : zV Int32} {ex : va_W} (hX : zIs V l b_M_rebuilt R_M zTT (zKK D ca) D zcl (zty ca) 7 (zrm 1 21)) (hR : zRi V b_M_rebuilt (zwM ad ca) ex) : ∀ (n : Nat) (x1 : Int32) (x2 : Int32) (x3 : Int32) (x4 : Int32) (σ : zS), zJ V (fn_M_rebuilt_23 n x1 x2 x3 x4 σ) (zwM ad ca σ ++ ex) 23 [(0, .ref (ad 30)), (1, .int x1), (2, .int x2), (3, .int x3), (4, .int x4)] [] := by
  intro n
  induction n with
  | zero => intros; exact z_none
  | succ n ih =>
    intro x1 x2 x3 x4 σ
    show zJ V (if x4 < (8 : Int32) then zgd (zin x1 32) (if ((zshr (σ.1 45 x1.toNatClampNeg) x4) &&& (1 : Int32)) = (1 : Int32) then fn_M_rebuilt_50 (fn_M_rebuilt_23 n) x1 x2 x3 x4 (1 : Int32) σ else fn_M_rebuilt_50 (fn_M_rebuilt_23 n) x1 x2 x3 x4 (0 : Int32) σ) else some (x3, σ)) _ _ _ _
    refine z_iload (i := 4) hX d_M_rebuilt_23 rfl ?_
    refine z_bipush (v := 8) hX d_M_rebuilt_25 (by decide) ?_
    refine z_icmp_ge (tgt := 127) hX d_M_rebuilt_27 (by decide) (fun c27 => ?_) (fun c27 => ?_)
    · refine z_aload_n (i := 0) hX d_M_rebuilt_30 rfl rfl ?_
      refine z_get (C := R_M) (T := F_M) (N := 27) hX in_M 0 rfl rfl 17 (by decide) w_field_M_54_M_17 rfl d_M_rebuilt_31 ?_
      refine z_iload_n (i := 1) hX d_M_rebuilt_34 rfl rfl ?_
      refine z_iald hX 15 35 rfl rfl d_M_rebuilt_35 ?_
      refine z_iload (i := 4) hX d_M_rebuilt_36 rfl ?_
      refine z_ishr hX d_M_rebuilt_38 ?_
      refine z_iconst (v := 1) hX d_M_rebuilt_39 (by decide) ?_
      refine z_iand hX d_M_rebuilt_40 ?_
      refine z_iconst (v := 1) hX d_M_rebuilt_41 (by decide) ?_
      refine z_icmp_ne (tgt := 49) hX d_M_rebuilt_42 (by decide) (fun c42 => ?_) (fun c42 => ?_)
      · refine z_iconst (v := 1) hX d_M_rebuilt_45 (by decide) ?_
        refine z_goto (tgt := 50) hX d_M_rebuilt_46 (by decide) ?_
        exact bk_M_rebuilt_50 l D ad ca hX hR (fn_M_rebuilt_23 n) ih _ _ _ _ _ _
      · refine z_iconst (v := 0) hX d_M_rebuilt_49 (by decide) ?_
        exact bk_M_rebuilt_50 l D ad ca hX hR (fn_M_rebuilt_23 n) ih _ _ _ _ _ _
    · refine z_iload_n (i := 3) hX d_M_rebuilt_127 rfl rfl ?_
      exact z_iret hR d_M_rebuilt_128
def fn_M_rebuilt (x1 : Int32) (x2 : Int32) (σ : zS) : Option (Int32 × zS) := zb (fn_M_isArtefact x1 σ) (fun r2 s2 => if r2 = 0 then some ((-1 : Int32), s2) else zb (fn_M_isArtefact x2 s2) (fun r10 s10 => if r10 = 0 then some ((-1 : Int32), s10) else fn_M_rebuilt_23 100 x1 x2 (0 : Int32) (0 : Int32) s10))
set_option maxRecDepth 100000 in
set_option maxHeartbeats 4000000 in
theorem ct_M_rebuilt (l : Launch) (D : va_G) (ad : Nat → Nat) (ca : Nat → ClassId) (x1 : Int32) (x2 : Int32) (σ : zS) : zC zemI l y_M_rebuilt (Cond.code y_M_rebuilt b_M_rebuilt 7 (some .int) :: zTT) (zrm 1 21) D zcl (zKK D ca) (zwM ad ca) σ [.ref (ad 30), .int x1, .int x2] (fn_M_rebuilt x1 x2 σ) := by
  refine zmk_i (tys := zty ca) (by decide) (zKK_m D ca) (fun _ h => h.1) (Nat.le_of_ble_eq_true rfl) (fun V ex hX hR => ?_)
  show zJ V (zb (fn_M_isArtefact x1 σ) (fun r2 s2 => if r2 = 0 then some ((-1 : Int32), s2) else zb (fn_M_isArtefact x2 s2) (fun r10 s10 => if r10 = 0 then some ((-1 : Int32), s10) else fn_M_rebuilt_23 100 x1 x2 (0 : Int32) (0 : Int32) s10))) (zwM ad ca σ ++ ex) 0 [(0, .ref (ad 30)), (1, .int x1), (2, .int x2)] []
  refine z_aload_n (i := 0) hX d_M_rebuilt_0 rfl rfl ?_
  refine z_iload_n (i := 1) hX d_M_rebuilt_1 rfl rfl ?_
  refine z_callVi (wl := zwM ad ca) (C := R_M) (n := 1) (rest := []) hX [.int x1] (ct_M_isArtefact l D ad ca x1 σ) gV_M_92 ⟨rfl, rfl⟩ ⟨by decide, by decide⟩ (by decide +kernel) rfl 0 rfl rfl rfl rfl (Nat.le_of_ble_eq_true rfl) d_M_rebuilt_2 (fun r2 s2 => ?_)
  refine z_if_eq (tgt := 16) hX d_M_rebuilt_5 (by decide) (fun c5 => ?_) (fun c5 => ?_)
  · refine z_iconst (v := -1) hX d_M_rebuilt_16 (by decide) ?_
    exact z_iret hR d_M_rebuilt_17
  · refine z_aload_n (i := 0) hX d_M_rebuilt_8 rfl rfl ?_
    refine z_iload_n (i := 2) hX d_M_rebuilt_9 rfl rfl ?_
    refine z_callVi (wl := zwM ad ca) (C := R_M) (n := 1) (rest := []) hX [.int x2] (ct_M_isArtefact l D ad ca x2 s2) gV_M_92 ⟨rfl, rfl⟩ ⟨by decide, by decide⟩ (by decide +kernel) rfl 0 rfl rfl rfl rfl (Nat.le_of_ble_eq_true rfl) d_M_rebuilt_10 (fun r10 s10 => ?_)
    refine z_if_ne (tgt := 18) hX d_M_rebuilt_13 (by decide) (fun c13 => ?_) (fun c13 => ?_)
    · refine z_iconst (v := -1) hX d_M_rebuilt_16 (by decide) ?_
      exact z_iret hR d_M_rebuilt_17
    · refine z_iconst (v := 0) hX d_M_rebuilt_18 (by decide) ?_
      refine z_istore_n (i := 3) (lv2 := [(3, .int (0 : Int32)), (0, .ref (ad 30)), (1, .int x1), (2, .int x2)]) hX d_M_rebuilt_19 rfl (by decide) rfl ?_
      refine z_iconst (v := 0) hX d_M_rebuilt_20 (by decide) ?_
      refine z_istore (i := 4) (lv2 := [(4, .int (0 : Int32)), (3, .int (0 : Int32)), (0, .ref (ad 30)), (1, .int x1), (2, .int x2)]) hX d_M_rebuilt_21 (by decide) rfl ?_
      refine z_lv hX [2, 3, 4, 1, 0] (lv2 := [(0, .ref (ad 30)), (1, .int x1), (2, .int x2), (3, .int (0 : Int32)), (4, .int (0 : Int32))]) rfl ?_
      exact bk_M_rebuilt_23 l D ad ca hX hR 100 _ _ _ _ _
def fn_M_sameSources_24 : Nat → Int32 → Int32 → Int32 → Int32 → zS → Option (Int32 × zS)
  | 0, _, _, _, _, _ => none
  | n + 1, x1, x2, x3, x4, σ => zgd (zin x1 32) (if x4 < (σ.1 42 x1.toNatClampNeg) then if x3 = 0 then zgd (zbo x3) (some (x3, σ)) else zgd (zin (((6 : Int32) * x1) + x4) 192) (zb (fn_M_hasUse x2 (σ.1 43 (((6 : Int32) * x1) + x4).toNatClampNeg) σ) (fun r53 s53 => fn_M_sameSources_24 n x1 x2 r53 (x4 + 1) s53)) else zgd (zbo x3) (some (x3, σ)))
set_option maxRecDepth 100000 in
set_option maxHeartbeats 4000000 in
theorem bk_M_sameSources_24 (l : Launch) (D : va_G) (ad : Nat → Nat) (ca : Nat → ClassId) {V : zV Int32} {ex : va_W} (hX : zIs V l b_M_sameSources R_M zTT (zKK D ca) D zcl (zty ca) 5 (zrm 1 24)) (hR : zRz V b_M_sameSources (zwM ad ca) ex) : ∀ (n : Nat) (x1 : Int32) (x2 : Int32) (x3 : Int32) (x4 : Int32) (σ : zS), zJ V (fn_M_sameSources_24 n x1 x2 x3 x4 σ) (zwM ad ca σ ++ ex) 24 [(0, .ref (ad 30)), (1, .int x1), (2, .int x2), (3, .int x3), (4, .int x4)] [] := by
  intro n
  induction n with
  | zero => intros; exact z_none
  | succ n ih =>
    intro x1 x2 x3 x4 σ
    show zJ V (zgd (zin x1 32) (if x4 < (σ.1 42 x1.toNatClampNeg) then if x3 = 0 then zgd (zbo x3) (some (x3, σ)) else zgd (zin (((6 : Int32) * x1) + x4) 192) (zb (fn_M_hasUse x2 (σ.1 43 (((6 : Int32) * x1) + x4).toNatClampNeg) σ) (fun r53 s53 => fn_M_sameSources_24 n x1 x2 r53 (x4 + 1) s53)) else zgd (zbo x3) (some (x3, σ)))) _ _ _ _
    refine z_iload (i := 4) hX d_M_sameSources_24 rfl ?_
    refine z_aload_n (i := 0) hX d_M_sameSources_26 rfl rfl ?_
    refine z_get (C := R_M) (T := F_M) (N := 27) hX in_M 0 rfl rfl 14 (by decide) w_field_M_45_M_14 rfl d_M_sameSources_27 ?_
    refine z_iload_n (i := 1) hX d_M_sameSources_30 rfl rfl ?_
    refine z_iald hX 12 32 rfl rfl d_M_sameSources_31 ?_
    refine z_icmp_ge (tgt := 63) hX d_M_sameSources_32 (by decide) (fun c32 => ?_) (fun c32 => ?_)
    · refine z_iload_n (i := 3) hX d_M_sameSources_35 rfl rfl ?_
      refine z_if_eq (tgt := 63) hX d_M_sameSources_36 (by decide) (fun c36 => ?_) (fun c36 => ?_)
      · refine z_iload_n (i := 3) hX d_M_sameSources_63 rfl rfl ?_
        exact z_zretg hR d_M_sameSources_64
      · refine z_aload_n (i := 0) hX d_M_sameSources_39 rfl rfl ?_
        refine z_iload_n (i := 2) hX d_M_sameSources_40 rfl rfl ?_
        refine z_aload_n (i := 0) hX d_M_sameSources_41 rfl rfl ?_
        refine z_get (C := R_M) (T := F_M) (N := 27) hX in_M 0 rfl rfl 15 (by decide) w_field_M_48_M_15 rfl d_M_sameSources_42 ?_
        refine z_bipush (v := 6) hX d_M_sameSources_45 (by decide) ?_
        refine z_iload_n (i := 1) hX d_M_sameSources_47 rfl rfl ?_
        refine z_imul hX d_M_sameSources_48 ?_
        refine z_iload (i := 4) hX d_M_sameSources_49 rfl ?_
        refine z_iadd hX d_M_sameSources_51 ?_
        refine z_iald hX 13 33 rfl rfl d_M_sameSources_52 ?_
        refine z_callVi (wl := zwM ad ca) (C := R_M) (n := 2) (rest := []) hX [.int x2, .int (σ.1 43 (((6 : Int32) * x1) + x4).toNatClampNeg)] (ct_M_hasUse l D ad ca x2 (σ.1 43 (((6 : Int32) * x1) + x4).toNatClampNeg) σ) gV_M_95 ⟨rfl, rfl⟩ ⟨by decide, by decide⟩ (by decide +kernel) rfl 0 rfl rfl rfl rfl (Nat.le_of_ble_eq_true rfl) d_M_sameSources_53 (fun r53 s53 => ?_)
        refine z_istore_n (i := 3) (lv2 := [(3, .int r53), (0, .ref (ad 30)), (1, .int x1), (2, .int x2), (4, .int x4)]) hX d_M_sameSources_56 rfl (by decide) rfl ?_
        refine z_iinc (v := x4 + 1) (lv2 := [(4, .int (x4 + 1)), (3, .int r53), (0, .ref (ad 30)), (1, .int x1), (2, .int x2)]) hX d_M_sameSources_57 4 rfl (by first | rfl | decide) (by decide) rfl ?_
        refine z_goto (tgt := 24) hX d_M_sameSources_60 (by decide) ?_
        refine z_lv hX [2, 3, 4, 1, 0] (lv2 := [(0, .ref (ad 30)), (1, .int x1), (2, .int x2), (3, .int r53), (4, .int (x4 + 1))]) rfl ?_
        exact ih _ _ _ _ _
    · refine z_iload_n (i := 3) hX d_M_sameSources_63 rfl rfl ?_
      exact z_zretg hR d_M_sameSources_64
def fn_M_sameSources (x1 : Int32) (x2 : Int32) (σ : zS) : Option (Int32 × zS) := zgd (zin x1 32) (zgd (zin x2 32) (if (σ.1 42 x1.toNatClampNeg) = (σ.1 42 x2.toNatClampNeg) then fn_M_sameSources_24 100 x1 x2 (1 : Int32) (0 : Int32) σ else fn_M_sameSources_24 100 x1 x2 (0 : Int32) (0 : Int32) σ))
set_option maxRecDepth 100000 in
set_option maxHeartbeats 4000000 in
theorem ct_M_sameSources (l : Launch) (D : va_G) (ad : Nat → Nat) (ca : Nat → ClassId) (x1 : Int32) (x2 : Int32) (σ : zS) : zC zemI l y_M_sameSources (Cond.code y_M_sameSources b_M_sameSources 5 (some .boolean) :: zTT) (zrm 1 24) D zcl (zKK D ca) (zwM ad ca) σ [.ref (ad 30), .int x1, .int x2] (fn_M_sameSources x1 x2 σ) := by
  refine zmk_z (tys := zty ca) (by decide) (zKK_m D ca) (fun _ h => h.1) (Nat.le_of_ble_eq_true rfl) (fun V ex hX hR => ?_)
  show zJ V (zgd (zin x1 32) (zgd (zin x2 32) (if (σ.1 42 x1.toNatClampNeg) = (σ.1 42 x2.toNatClampNeg) then fn_M_sameSources_24 100 x1 x2 (1 : Int32) (0 : Int32) σ else fn_M_sameSources_24 100 x1 x2 (0 : Int32) (0 : Int32) σ))) (zwM ad ca σ ++ ex) 0 [(0, .ref (ad 30)), (1, .int x1), (2, .int x2)] []
  refine z_aload_n (i := 0) hX d_M_sameSources_0 rfl rfl ?_
  refine z_get (C := R_M) (T := F_M) (N := 27) hX in_M 0 rfl rfl 14 (by decide) w_field_M_45_M_14 rfl d_M_sameSources_1 ?_
  refine z_iload_n (i := 1) hX d_M_sameSources_4 rfl rfl ?_
  refine z_iald hX 12 32 rfl rfl d_M_sameSources_5 ?_
  refine z_aload_n (i := 0) hX d_M_sameSources_6 rfl rfl ?_
  refine z_get (C := R_M) (T := F_M) (N := 27) hX in_M 0 rfl rfl 14 (by decide) w_field_M_45_M_14 rfl d_M_sameSources_7 ?_
  refine z_iload_n (i := 2) hX d_M_sameSources_10 rfl rfl ?_
  refine z_iald hX 12 32 rfl rfl d_M_sameSources_11 ?_
  refine z_icmp_ne (tgt := 19) hX d_M_sameSources_12 (by decide) (fun c12 => ?_) (fun c12 => ?_)
  · refine z_iconst (v := 1) hX d_M_sameSources_15 (by decide) ?_
    refine z_goto (tgt := 20) hX d_M_sameSources_16 (by decide) ?_
    refine z_istore_n (i := 3) (lv2 := [(3, .int (1 : Int32)), (0, .ref (ad 30)), (1, .int x1), (2, .int x2)]) hX d_M_sameSources_20 rfl (by decide) rfl ?_
    refine z_iconst (v := 0) hX d_M_sameSources_21 (by decide) ?_
    refine z_istore (i := 4) (lv2 := [(4, .int (0 : Int32)), (3, .int (1 : Int32)), (0, .ref (ad 30)), (1, .int x1), (2, .int x2)]) hX d_M_sameSources_22 (by decide) rfl ?_
    refine z_lv hX [2, 3, 4, 1, 0] (lv2 := [(0, .ref (ad 30)), (1, .int x1), (2, .int x2), (3, .int (1 : Int32)), (4, .int (0 : Int32))]) rfl ?_
    exact bk_M_sameSources_24 l D ad ca hX hR 100 _ _ _ _ _
  · refine z_iconst (v := 0) hX d_M_sameSources_19 (by decide) ?_
    refine z_istore_n (i := 3) (lv2 := [(3, .int (0 : Int32)), (0, .ref (ad 30)), (1, .int x1), (2, .int x2)]) hX d_M_sameSources_20 rfl (by decide) rfl ?_
    refine z_iconst (v := 0) hX d_M_sameSources_21 (by decide) ?_
    refine z_istore (i := 4) (lv2 := [(4, .int (0 : Int32)), (3, .int (0 : Int32)), (0, .ref (ad 30)), (1, .int x1), (2, .int x2)]) hX d_M_sameSources_22 (by decide) rfl ?_
    refine z_lv hX [2, 3, 4, 1, 0] (lv2 := [(0, .ref (ad 30)), (1, .int x1), (2, .int x2), (3, .int (0 : Int32)), (4, .int (0 : Int32))]) rfl ?_
    exact bk_M_sameSources_24 l D ad ca hX hR 100 _ _ _ _ _
def fn_M_sameNeeds_24 : Nat → Int32 → Int32 → Int32 → Int32 → zS → Option (Int32 × zS)
  | 0, _, _, _, _, _ => none
  | n + 1, x1, x2, x3, x4, σ => zgd (zin x1 32) (if x4 < (σ.1 44 x1.toNatClampNeg) then if x3 = 0 then zgd (zbo x3) (some (x3, σ)) else zgd (zin (((6 : Int32) * x1) + x4) 192) (zb (fn_M_hasNeed x2 (σ.2 36 (((6 : Int32) * x1) + x4).toNatClampNeg) σ) (fun r53 s53 => fn_M_sameNeeds_24 n x1 x2 r53 (x4 + 1) s53)) else zgd (zbo x3) (some (x3, σ)))
set_option maxRecDepth 100000 in
set_option maxHeartbeats 4000000 in
theorem bk_M_sameNeeds_24 (l : Launch) (D : va_G) (ad : Nat → Nat) (ca : Nat → ClassId) {V : zV Int32} {ex : va_W} (hX : zIs V l b_M_sameNeeds R_M zTT (zKK D ca) D zcl (zty ca) 5 (zrm 1 25)) (hR : zRz V b_M_sameNeeds (zwM ad ca) ex) : ∀ (n : Nat) (x1 : Int32) (x2 : Int32) (x3 : Int32) (x4 : Int32) (σ : zS), zJ V (fn_M_sameNeeds_24 n x1 x2 x3 x4 σ) (zwM ad ca σ ++ ex) 24 [(0, .ref (ad 30)), (1, .int x1), (2, .int x2), (3, .int x3), (4, .int x4)] [] := by
  intro n
  induction n with
  | zero => intros; exact z_none
  | succ n ih =>
    intro x1 x2 x3 x4 σ
    show zJ V (zgd (zin x1 32) (if x4 < (σ.1 44 x1.toNatClampNeg) then if x3 = 0 then zgd (zbo x3) (some (x3, σ)) else zgd (zin (((6 : Int32) * x1) + x4) 192) (zb (fn_M_hasNeed x2 (σ.2 36 (((6 : Int32) * x1) + x4).toNatClampNeg) σ) (fun r53 s53 => fn_M_sameNeeds_24 n x1 x2 r53 (x4 + 1) s53)) else zgd (zbo x3) (some (x3, σ)))) _ _ _ _
    refine z_iload (i := 4) hX d_M_sameNeeds_24 rfl ?_
    refine z_aload_n (i := 0) hX d_M_sameNeeds_26 rfl rfl ?_
    refine z_get (C := R_M) (T := F_M) (N := 27) hX in_M 0 rfl rfl 16 (by decide) w_field_M_51_M_16 rfl d_M_sameNeeds_27 ?_
    refine z_iload_n (i := 1) hX d_M_sameNeeds_30 rfl rfl ?_
    refine z_iald hX 14 34 rfl rfl d_M_sameNeeds_31 ?_
    refine z_icmp_ge (tgt := 63) hX d_M_sameNeeds_32 (by decide) (fun c32 => ?_) (fun c32 => ?_)
    · refine z_iload_n (i := 3) hX d_M_sameNeeds_35 rfl rfl ?_
      refine z_if_eq (tgt := 63) hX d_M_sameNeeds_36 (by decide) (fun c36 => ?_) (fun c36 => ?_)
      · refine z_iload_n (i := 3) hX d_M_sameNeeds_63 rfl rfl ?_
        exact z_zretg hR d_M_sameNeeds_64
      · refine z_aload_n (i := 0) hX d_M_sameNeeds_39 rfl rfl ?_
        refine z_iload_n (i := 2) hX d_M_sameNeeds_40 rfl rfl ?_
        refine z_aload_n (i := 0) hX d_M_sameNeeds_41 rfl rfl ?_
        refine z_get (C := R_M) (T := F_M) (N := 27) hX in_M 0 rfl rfl 8 (by decide) w_field_M_27_M_8 rfl d_M_sameNeeds_42 ?_
        refine z_bipush (v := 6) hX d_M_sameNeeds_45 (by decide) ?_
        refine z_iload_n (i := 1) hX d_M_sameNeeds_47 rfl rfl ?_
        refine z_imul hX d_M_sameNeeds_48 ?_
        refine z_iload (i := 4) hX d_M_sameNeeds_49 rfl ?_
        refine z_iadd hX d_M_sameNeeds_51 ?_
        refine z_lald hX 6 26 rfl rfl d_M_sameNeeds_52 ?_
        refine z_callVi (wl := zwM ad ca) (C := R_M) (n := 2) (rest := []) hX [.int x2, .long (σ.2 36 (((6 : Int32) * x1) + x4).toNatClampNeg)] (ct_M_hasNeed l D ad ca x2 (σ.2 36 (((6 : Int32) * x1) + x4).toNatClampNeg) σ) gV_M_99 ⟨rfl, rfl⟩ ⟨by decide, by decide⟩ (by decide +kernel) rfl 0 rfl rfl rfl rfl (Nat.le_of_ble_eq_true rfl) d_M_sameNeeds_53 (fun r53 s53 => ?_)
        refine z_istore_n (i := 3) (lv2 := [(3, .int r53), (0, .ref (ad 30)), (1, .int x1), (2, .int x2), (4, .int x4)]) hX d_M_sameNeeds_56 rfl (by decide) rfl ?_
        refine z_iinc (v := x4 + 1) (lv2 := [(4, .int (x4 + 1)), (3, .int r53), (0, .ref (ad 30)), (1, .int x1), (2, .int x2)]) hX d_M_sameNeeds_57 4 rfl (by first | rfl | decide) (by decide) rfl ?_
        refine z_goto (tgt := 24) hX d_M_sameNeeds_60 (by decide) ?_
        refine z_lv hX [2, 3, 4, 1, 0] (lv2 := [(0, .ref (ad 30)), (1, .int x1), (2, .int x2), (3, .int r53), (4, .int (x4 + 1))]) rfl ?_
        exact ih _ _ _ _ _
    · refine z_iload_n (i := 3) hX d_M_sameNeeds_63 rfl rfl ?_
      exact z_zretg hR d_M_sameNeeds_64
def fn_M_sameNeeds (x1 : Int32) (x2 : Int32) (σ : zS) : Option (Int32 × zS) := zgd (zin x1 32) (zgd (zin x2 32) (if (σ.1 44 x1.toNatClampNeg) = (σ.1 44 x2.toNatClampNeg) then fn_M_sameNeeds_24 100 x1 x2 (1 : Int32) (0 : Int32) σ else fn_M_sameNeeds_24 100 x1 x2 (0 : Int32) (0 : Int32) σ))
set_option maxRecDepth 100000 in
set_option maxHeartbeats 4000000 in
theorem ct_M_sameNeeds (l : Launch) (D : va_G) (ad : Nat → Nat) (ca : Nat → ClassId) (x1 : Int32) (x2 : Int32) (σ : zS) : zC zemI l y_M_sameNeeds (Cond.code y_M_sameNeeds b_M_sameNeeds 5 (some .boolean) :: zTT) (zrm 1 25) D zcl (zKK D ca) (zwM ad ca) σ [.ref (ad 30), .int x1, .int x2] (fn_M_sameNeeds x1 x2 σ) := by
  refine zmk_z (tys := zty ca) (by decide) (zKK_m D ca) (fun _ h => h.1) (Nat.le_of_ble_eq_true rfl) (fun V ex hX hR => ?_)
  show zJ V (zgd (zin x1 32) (zgd (zin x2 32) (if (σ.1 44 x1.toNatClampNeg) = (σ.1 44 x2.toNatClampNeg) then fn_M_sameNeeds_24 100 x1 x2 (1 : Int32) (0 : Int32) σ else fn_M_sameNeeds_24 100 x1 x2 (0 : Int32) (0 : Int32) σ))) (zwM ad ca σ ++ ex) 0 [(0, .ref (ad 30)), (1, .int x1), (2, .int x2)] []
  refine z_aload_n (i := 0) hX d_M_sameNeeds_0 rfl rfl ?_
  refine z_get (C := R_M) (T := F_M) (N := 27) hX in_M 0 rfl rfl 16 (by decide) w_field_M_51_M_16 rfl d_M_sameNeeds_1 ?_
  refine z_iload_n (i := 1) hX d_M_sameNeeds_4 rfl rfl ?_
  refine z_iald hX 14 34 rfl rfl d_M_sameNeeds_5 ?_
  refine z_aload_n (i := 0) hX d_M_sameNeeds_6 rfl rfl ?_
  refine z_get (C := R_M) (T := F_M) (N := 27) hX in_M 0 rfl rfl 16 (by decide) w_field_M_51_M_16 rfl d_M_sameNeeds_7 ?_
  refine z_iload_n (i := 2) hX d_M_sameNeeds_10 rfl rfl ?_
  refine z_iald hX 14 34 rfl rfl d_M_sameNeeds_11 ?_
  refine z_icmp_ne (tgt := 19) hX d_M_sameNeeds_12 (by decide) (fun c12 => ?_) (fun c12 => ?_)
  · refine z_iconst (v := 1) hX d_M_sameNeeds_15 (by decide) ?_
    refine z_goto (tgt := 20) hX d_M_sameNeeds_16 (by decide) ?_
    refine z_istore_n (i := 3) (lv2 := [(3, .int (1 : Int32)), (0, .ref (ad 30)), (1, .int x1), (2, .int x2)]) hX d_M_sameNeeds_20 rfl (by decide) rfl ?_
    refine z_iconst (v := 0) hX d_M_sameNeeds_21 (by decide) ?_
    refine z_istore (i := 4) (lv2 := [(4, .int (0 : Int32)), (3, .int (1 : Int32)), (0, .ref (ad 30)), (1, .int x1), (2, .int x2)]) hX d_M_sameNeeds_22 (by decide) rfl ?_
    refine z_lv hX [2, 3, 4, 1, 0] (lv2 := [(0, .ref (ad 30)), (1, .int x1), (2, .int x2), (3, .int (1 : Int32)), (4, .int (0 : Int32))]) rfl ?_
    exact bk_M_sameNeeds_24 l D ad ca hX hR 100 _ _ _ _ _
  · refine z_iconst (v := 0) hX d_M_sameNeeds_19 (by decide) ?_
    refine z_istore_n (i := 3) (lv2 := [(3, .int (0 : Int32)), (0, .ref (ad 30)), (1, .int x1), (2, .int x2)]) hX d_M_sameNeeds_20 rfl (by decide) rfl ?_
    refine z_iconst (v := 0) hX d_M_sameNeeds_21 (by decide) ?_
    refine z_istore (i := 4) (lv2 := [(4, .int (0 : Int32)), (3, .int (0 : Int32)), (0, .ref (ad 30)), (1, .int x1), (2, .int x2)]) hX d_M_sameNeeds_22 (by decide) rfl ?_
    refine z_lv hX [2, 3, 4, 1, 0] (lv2 := [(0, .ref (ad 30)), (1, .int x1), (2, .int x2), (3, .int (0 : Int32)), (4, .int (0 : Int32))]) rfl ?_
    exact bk_M_sameNeeds_24 l D ad ca hX hR 100 _ _ _ _ _
def fn_M_differ_150 (x1 : Int32) (x2 : Int32) (y0 : Int32) (y1 : Int32) (σ : zS) : Option (Int32 × zS) := zb (fn_M_sameNeeds x1 x2 σ) (fun r156 s156 => if r156 = 0 then some ((y1 + y0) + (64 : Int32), s156) else some ((y1 + y0) + (0 : Int32), s156))
set_option maxRecDepth 100000 in
set_option maxHeartbeats 4000000 in
theorem bk_M_differ_150 (l : Launch) (D : va_G) (ad : Nat → Nat) (ca : Nat → ClassId) {V : zV Int32} {ex : va_W} (hX : zIs V l b_M_differ R_M zTT (zKK D ca) D zcl (zty ca) 4 (zrm 2 49)) (hR : zRi V b_M_differ (zwM ad ca) ex) : ∀ (x1 : Int32) (x2 : Int32) (y0 : Int32) (y1 : Int32) (σ : zS), zJ V (fn_M_differ_150 x1 x2 y0 y1 σ) (zwM ad ca σ ++ ex) 150 [(0, .ref (ad 30)), (1, .int x1), (2, .int x2)] [.int y0, .int y1] := by
  intro x1 x2 y0 y1 σ
  show zJ V (zb (fn_M_sameNeeds x1 x2 σ) (fun r156 s156 => if r156 = 0 then some ((y1 + y0) + (64 : Int32), s156) else some ((y1 + y0) + (0 : Int32), s156))) _ _ _ _
  refine z_iadd hX d_M_differ_150 ?_
  refine z_istore_n (i := 3) (lv2 := [(3, .int (y1 + y0)), (0, .ref (ad 30)), (1, .int x1), (2, .int x2)]) hX d_M_differ_151 rfl (by decide) rfl ?_
  refine z_iload_n (i := 3) hX d_M_differ_152 rfl rfl ?_
  refine z_aload_n (i := 0) hX d_M_differ_153 rfl rfl ?_
  refine z_iload_n (i := 1) hX d_M_differ_154 rfl rfl ?_
  refine z_iload_n (i := 2) hX d_M_differ_155 rfl rfl ?_
  refine z_callVi (wl := zwM ad ca) (C := R_M) (n := 2) (rest := [.int (y1 + y0)]) hX [.int x1, .int x2] (ct_M_sameNeeds l D ad ca x1 x2 σ) gV_M_151 ⟨rfl, rfl⟩ ⟨by decide, by decide⟩ (by decide +kernel) rfl 0 rfl rfl rfl rfl (Nat.le_of_ble_eq_true rfl) d_M_differ_156 (fun r156 s156 => ?_)
  refine z_if_eq (tgt := 166) hX d_M_differ_159 (by decide) (fun c159 => ?_) (fun c159 => ?_)
  · refine z_bipush (v := 64) hX d_M_differ_166 (by decide) ?_
    refine z_iadd hX d_M_differ_168 ?_
    exact z_iret hR d_M_differ_169
  · refine z_iconst (v := 0) hX d_M_differ_162 (by decide) ?_
    refine z_goto (tgt := 168) hX d_M_differ_163 (by decide) ?_
    refine z_iadd hX d_M_differ_168 ?_
    exact z_iret hR d_M_differ_169
def fn_M_differ_132 (x1 : Int32) (x2 : Int32) (y0 : Int32) (y1 : Int32) (σ : zS) : Option (Int32 × zS) := zb (fn_M_sameSources x1 x2 σ) (fun r138 s138 => if r138 = 0 then fn_M_differ_150 x1 x2 (32 : Int32) (y1 + y0) s138 else fn_M_differ_150 x1 x2 (0 : Int32) (y1 + y0) s138)
set_option maxRecDepth 100000 in
set_option maxHeartbeats 4000000 in
theorem bk_M_differ_132 (l : Launch) (D : va_G) (ad : Nat → Nat) (ca : Nat → ClassId) {V : zV Int32} {ex : va_W} (hX : zIs V l b_M_differ R_M zTT (zKK D ca) D zcl (zty ca) 4 (zrm 2 49)) (hR : zRi V b_M_differ (zwM ad ca) ex) : ∀ (x1 : Int32) (x2 : Int32) (y0 : Int32) (y1 : Int32) (σ : zS), zJ V (fn_M_differ_132 x1 x2 y0 y1 σ) (zwM ad ca σ ++ ex) 132 [(0, .ref (ad 30)), (1, .int x1), (2, .int x2)] [.int y0, .int y1] := by
  intro x1 x2 y0 y1 σ
  show zJ V (zb (fn_M_sameSources x1 x2 σ) (fun r138 s138 => if r138 = 0 then fn_M_differ_150 x1 x2 (32 : Int32) (y1 + y0) s138 else fn_M_differ_150 x1 x2 (0 : Int32) (y1 + y0) s138)) _ _ _ _
  refine z_iadd hX d_M_differ_132 ?_
  refine z_istore_n (i := 3) (lv2 := [(3, .int (y1 + y0)), (0, .ref (ad 30)), (1, .int x1), (2, .int x2)]) hX d_M_differ_133 rfl (by decide) rfl ?_
  refine z_iload_n (i := 3) hX d_M_differ_134 rfl rfl ?_
  refine z_aload_n (i := 0) hX d_M_differ_135 rfl rfl ?_
  refine z_iload_n (i := 1) hX d_M_differ_136 rfl rfl ?_
  refine z_iload_n (i := 2) hX d_M_differ_137 rfl rfl ?_
  refine z_callVi (wl := zwM ad ca) (C := R_M) (n := 2) (rest := [.int (y1 + y0)]) hX [.int x1, .int x2] (ct_M_sameSources l D ad ca x1 x2 σ) gV_M_148 ⟨rfl, rfl⟩ ⟨by decide, by decide⟩ (by decide +kernel) rfl 0 rfl rfl rfl rfl (Nat.le_of_ble_eq_true rfl) d_M_differ_138 (fun r138 s138 => ?_)
  refine z_if_eq (tgt := 148) hX d_M_differ_141 (by decide) (fun c141 => ?_) (fun c141 => ?_)
  · refine z_bipush (v := 32) hX d_M_differ_148 (by decide) ?_
    refine z_lv hX [1, 2, 3] (lv2 := [(0, .ref (ad 30)), (1, .int x1), (2, .int x2)]) rfl ?_
    exact bk_M_differ_150 l D ad ca hX hR _ _ _ _ _
  · refine z_iconst (v := 0) hX d_M_differ_144 (by decide) ?_
    refine z_goto (tgt := 150) hX d_M_differ_145 (by decide) ?_
    refine z_lv hX [1, 2, 3] (lv2 := [(0, .ref (ad 30)), (1, .int x1), (2, .int x2)]) rfl ?_
    exact bk_M_differ_150 l D ad ca hX hR _ _ _ _ _
def fn_M_differ_108 (x1 : Int32) (x2 : Int32) (y0 : Int32) (y1 : Int32) (σ : zS) : Option (Int32 × zS) := zgd (zin x1 32) (zgd (zin x2 32) (if (σ.1 41 x1.toNatClampNeg) = (σ.1 41 x2.toNatClampNeg) then fn_M_differ_132 x1 x2 (0 : Int32) (y1 + y0) σ else fn_M_differ_132 x1 x2 (16 : Int32) (y1 + y0) σ))
set_option maxRecDepth 100000 in
set_option maxHeartbeats 4000000 in
theorem bk_M_differ_108 (l : Launch) (D : va_G) (ad : Nat → Nat) (ca : Nat → ClassId) {V : zV Int32} {ex : va_W} (hX : zIs V l b_M_differ R_M zTT (zKK D ca) D zcl (zty ca) 4 (zrm 2 49)) (hR : zRi V b_M_differ (zwM ad ca) ex) : ∀ (x1 : Int32) (x2 : Int32) (y0 : Int32) (y1 : Int32) (σ : zS), zJ V (fn_M_differ_108 x1 x2 y0 y1 σ) (zwM ad ca σ ++ ex) 108 [(0, .ref (ad 30)), (1, .int x1), (2, .int x2)] [.int y0, .int y1] := by
  intro x1 x2 y0 y1 σ
  show zJ V (zgd (zin x1 32) (zgd (zin x2 32) (if (σ.1 41 x1.toNatClampNeg) = (σ.1 41 x2.toNatClampNeg) then fn_M_differ_132 x1 x2 (0 : Int32) (y1 + y0) σ else fn_M_differ_132 x1 x2 (16 : Int32) (y1 + y0) σ))) _ _ _ _
  refine z_iadd hX d_M_differ_108 ?_
  refine z_istore_n (i := 3) (lv2 := [(3, .int (y1 + y0)), (0, .ref (ad 30)), (1, .int x1), (2, .int x2)]) hX d_M_differ_109 rfl (by decide) rfl ?_
  refine z_iload_n (i := 3) hX d_M_differ_110 rfl rfl ?_
  refine z_aload_n (i := 0) hX d_M_differ_111 rfl rfl ?_
  refine z_get (C := R_M) (T := F_M) (N := 27) hX in_M 0 rfl rfl 13 (by decide) w_field_M_42_M_13 rfl d_M_differ_112 ?_
  refine z_iload_n (i := 1) hX d_M_differ_115 rfl rfl ?_
  refine z_iald hX 11 31 rfl rfl d_M_differ_116 ?_
  refine z_aload_n (i := 0) hX d_M_differ_117 rfl rfl ?_
  refine z_get (C := R_M) (T := F_M) (N := 27) hX in_M 0 rfl rfl 13 (by decide) w_field_M_42_M_13 rfl d_M_differ_118 ?_
  refine z_iload_n (i := 2) hX d_M_differ_121 rfl rfl ?_
  refine z_iald hX 11 31 rfl rfl d_M_differ_122 ?_
  refine z_icmp_eq (tgt := 131) hX d_M_differ_123 (by decide) (fun c123 => ?_) (fun c123 => ?_)
  · refine z_iconst (v := 0) hX d_M_differ_131 (by decide) ?_
    refine z_lv hX [1, 2, 3] (lv2 := [(0, .ref (ad 30)), (1, .int x1), (2, .int x2)]) rfl ?_
    exact bk_M_differ_132 l D ad ca hX hR _ _ _ _ _
  · refine z_bipush (v := 16) hX d_M_differ_126 (by decide) ?_
    refine z_goto (tgt := 132) hX d_M_differ_128 (by decide) ?_
    refine z_lv hX [1, 2, 3] (lv2 := [(0, .ref (ad 30)), (1, .int x1), (2, .int x2)]) rfl ?_
    exact bk_M_differ_132 l D ad ca hX hR _ _ _ _ _
def fn_M_differ_84 (x1 : Int32) (x2 : Int32) (y0 : Int32) (y1 : Int32) (σ : zS) : Option (Int32 × zS) := zgd (zin x1 32) (zgd (zin x2 32) (if (σ.1 40 x1.toNatClampNeg) = (σ.1 40 x2.toNatClampNeg) then fn_M_differ_108 x1 x2 (0 : Int32) (y1 + y0) σ else fn_M_differ_108 x1 x2 (8 : Int32) (y1 + y0) σ))
set_option maxRecDepth 100000 in
set_option maxHeartbeats 4000000 in
theorem bk_M_differ_84 (l : Launch) (D : va_G) (ad : Nat → Nat) (ca : Nat → ClassId) {V : zV Int32} {ex : va_W} (hX : zIs V l b_M_differ R_M zTT (zKK D ca) D zcl (zty ca) 4 (zrm 2 49)) (hR : zRi V b_M_differ (zwM ad ca) ex) : ∀ (x1 : Int32) (x2 : Int32) (y0 : Int32) (y1 : Int32) (σ : zS), zJ V (fn_M_differ_84 x1 x2 y0 y1 σ) (zwM ad ca σ ++ ex) 84 [(0, .ref (ad 30)), (1, .int x1), (2, .int x2)] [.int y0, .int y1] := by
  intro x1 x2 y0 y1 σ
  show zJ V (zgd (zin x1 32) (zgd (zin x2 32) (if (σ.1 40 x1.toNatClampNeg) = (σ.1 40 x2.toNatClampNeg) then fn_M_differ_108 x1 x2 (0 : Int32) (y1 + y0) σ else fn_M_differ_108 x1 x2 (8 : Int32) (y1 + y0) σ))) _ _ _ _
  refine z_iadd hX d_M_differ_84 ?_
  refine z_istore_n (i := 3) (lv2 := [(3, .int (y1 + y0)), (0, .ref (ad 30)), (1, .int x1), (2, .int x2)]) hX d_M_differ_85 rfl (by decide) rfl ?_
  refine z_iload_n (i := 3) hX d_M_differ_86 rfl rfl ?_
  refine z_aload_n (i := 0) hX d_M_differ_87 rfl rfl ?_
  refine z_get (C := R_M) (T := F_M) (N := 27) hX in_M 0 rfl rfl 12 (by decide) w_field_M_39_M_12 rfl d_M_differ_88 ?_
  refine z_iload_n (i := 1) hX d_M_differ_91 rfl rfl ?_
  refine z_iald hX 10 30 rfl rfl d_M_differ_92 ?_
  refine z_aload_n (i := 0) hX d_M_differ_93 rfl rfl ?_
  refine z_get (C := R_M) (T := F_M) (N := 27) hX in_M 0 rfl rfl 12 (by decide) w_field_M_39_M_12 rfl d_M_differ_94 ?_
  refine z_iload_n (i := 2) hX d_M_differ_97 rfl rfl ?_
  refine z_iald hX 10 30 rfl rfl d_M_differ_98 ?_
  refine z_icmp_eq (tgt := 107) hX d_M_differ_99 (by decide) (fun c99 => ?_) (fun c99 => ?_)
  · refine z_iconst (v := 0) hX d_M_differ_107 (by decide) ?_
    refine z_lv hX [1, 2, 3] (lv2 := [(0, .ref (ad 30)), (1, .int x1), (2, .int x2)]) rfl ?_
    exact bk_M_differ_108 l D ad ca hX hR _ _ _ _ _
  · refine z_bipush (v := 8) hX d_M_differ_102 (by decide) ?_
    refine z_goto (tgt := 108) hX d_M_differ_104 (by decide) ?_
    refine z_lv hX [1, 2, 3] (lv2 := [(0, .ref (ad 30)), (1, .int x1), (2, .int x2)]) rfl ?_
    exact bk_M_differ_108 l D ad ca hX hR _ _ _ _ _
def fn_M_differ_61 (x1 : Int32) (x2 : Int32) (y0 : Int32) (y1 : Int32) (σ : zS) : Option (Int32 × zS) := zgd (zin x1 32) (zgd (zin x2 32) (if (σ.1 39 x1.toNatClampNeg) = (σ.1 39 x2.toNatClampNeg) then fn_M_differ_84 x1 x2 (0 : Int32) (y1 + y0) σ else fn_M_differ_84 x1 x2 (4 : Int32) (y1 + y0) σ))
set_option maxRecDepth 100000 in
set_option maxHeartbeats 4000000 in
theorem bk_M_differ_61 (l : Launch) (D : va_G) (ad : Nat → Nat) (ca : Nat → ClassId) {V : zV Int32} {ex : va_W} (hX : zIs V l b_M_differ R_M zTT (zKK D ca) D zcl (zty ca) 4 (zrm 2 49)) (hR : zRi V b_M_differ (zwM ad ca) ex) : ∀ (x1 : Int32) (x2 : Int32) (y0 : Int32) (y1 : Int32) (σ : zS), zJ V (fn_M_differ_61 x1 x2 y0 y1 σ) (zwM ad ca σ ++ ex) 61 [(0, .ref (ad 30)), (1, .int x1), (2, .int x2)] [.int y0, .int y1] := by
  intro x1 x2 y0 y1 σ
  show zJ V (zgd (zin x1 32) (zgd (zin x2 32) (if (σ.1 39 x1.toNatClampNeg) = (σ.1 39 x2.toNatClampNeg) then fn_M_differ_84 x1 x2 (0 : Int32) (y1 + y0) σ else fn_M_differ_84 x1 x2 (4 : Int32) (y1 + y0) σ))) _ _ _ _
  refine z_iadd hX d_M_differ_61 ?_
  refine z_istore_n (i := 3) (lv2 := [(3, .int (y1 + y0)), (0, .ref (ad 30)), (1, .int x1), (2, .int x2)]) hX d_M_differ_62 rfl (by decide) rfl ?_
  refine z_iload_n (i := 3) hX d_M_differ_63 rfl rfl ?_
  refine z_aload_n (i := 0) hX d_M_differ_64 rfl rfl ?_
  refine z_get (C := R_M) (T := F_M) (N := 27) hX in_M 0 rfl rfl 11 (by decide) w_field_M_36_M_11 rfl d_M_differ_65 ?_
  refine z_iload_n (i := 1) hX d_M_differ_68 rfl rfl ?_
  refine z_iald hX 9 29 rfl rfl d_M_differ_69 ?_
  refine z_aload_n (i := 0) hX d_M_differ_70 rfl rfl ?_
  refine z_get (C := R_M) (T := F_M) (N := 27) hX in_M 0 rfl rfl 11 (by decide) w_field_M_36_M_11 rfl d_M_differ_71 ?_
  refine z_iload_n (i := 2) hX d_M_differ_74 rfl rfl ?_
  refine z_iald hX 9 29 rfl rfl d_M_differ_75 ?_
  refine z_icmp_eq (tgt := 83) hX d_M_differ_76 (by decide) (fun c76 => ?_) (fun c76 => ?_)
  · refine z_iconst (v := 0) hX d_M_differ_83 (by decide) ?_
    refine z_lv hX [1, 2, 3] (lv2 := [(0, .ref (ad 30)), (1, .int x1), (2, .int x2)]) rfl ?_
    exact bk_M_differ_84 l D ad ca hX hR _ _ _ _ _
  · refine z_iconst (v := 4) hX d_M_differ_79 (by decide) ?_
    refine z_goto (tgt := 84) hX d_M_differ_80 (by decide) ?_
    refine z_lv hX [1, 2, 3] (lv2 := [(0, .ref (ad 30)), (1, .int x1), (2, .int x2)]) rfl ?_
    exact bk_M_differ_84 l D ad ca hX hR _ _ _ _ _
def fn_M_differ_39 (x1 : Int32) (x2 : Int32) (y0 : Int32) (σ : zS) : Option (Int32 × zS) := zgd (zin x1 32) (zgd (zin x2 32) (if (σ.1 38 x1.toNatClampNeg) = (σ.1 38 x2.toNatClampNeg) then fn_M_differ_61 x1 x2 (0 : Int32) y0 σ else fn_M_differ_61 x1 x2 (2 : Int32) y0 σ))
set_option maxRecDepth 100000 in
set_option maxHeartbeats 4000000 in
theorem bk_M_differ_39 (l : Launch) (D : va_G) (ad : Nat → Nat) (ca : Nat → ClassId) {V : zV Int32} {ex : va_W} (hX : zIs V l b_M_differ R_M zTT (zKK D ca) D zcl (zty ca) 4 (zrm 2 49)) (hR : zRi V b_M_differ (zwM ad ca) ex) : ∀ (x1 : Int32) (x2 : Int32) (y0 : Int32) (σ : zS), zJ V (fn_M_differ_39 x1 x2 y0 σ) (zwM ad ca σ ++ ex) 39 [(0, .ref (ad 30)), (1, .int x1), (2, .int x2)] [.int y0] := by
  intro x1 x2 y0 σ
  show zJ V (zgd (zin x1 32) (zgd (zin x2 32) (if (σ.1 38 x1.toNatClampNeg) = (σ.1 38 x2.toNatClampNeg) then fn_M_differ_61 x1 x2 (0 : Int32) y0 σ else fn_M_differ_61 x1 x2 (2 : Int32) y0 σ))) _ _ _ _
  refine z_istore_n (i := 3) (lv2 := [(3, .int y0), (0, .ref (ad 30)), (1, .int x1), (2, .int x2)]) hX d_M_differ_39 rfl (by decide) rfl ?_
  refine z_iload_n (i := 3) hX d_M_differ_40 rfl rfl ?_
  refine z_aload_n (i := 0) hX d_M_differ_41 rfl rfl ?_
  refine z_get (C := R_M) (T := F_M) (N := 27) hX in_M 0 rfl rfl 10 (by decide) w_field_M_33_M_10 rfl d_M_differ_42 ?_
  refine z_iload_n (i := 1) hX d_M_differ_45 rfl rfl ?_
  refine z_iald hX 8 28 rfl rfl d_M_differ_46 ?_
  refine z_aload_n (i := 0) hX d_M_differ_47 rfl rfl ?_
  refine z_get (C := R_M) (T := F_M) (N := 27) hX in_M 0 rfl rfl 10 (by decide) w_field_M_33_M_10 rfl d_M_differ_48 ?_
  refine z_iload_n (i := 2) hX d_M_differ_51 rfl rfl ?_
  refine z_iald hX 8 28 rfl rfl d_M_differ_52 ?_
  refine z_icmp_eq (tgt := 60) hX d_M_differ_53 (by decide) (fun c53 => ?_) (fun c53 => ?_)
  · refine z_iconst (v := 0) hX d_M_differ_60 (by decide) ?_
    refine z_lv hX [1, 2, 3] (lv2 := [(0, .ref (ad 30)), (1, .int x1), (2, .int x2)]) rfl ?_
    exact bk_M_differ_61 l D ad ca hX hR _ _ _ _ _
  · refine z_iconst (v := 2) hX d_M_differ_56 (by decide) ?_
    refine z_goto (tgt := 61) hX d_M_differ_57 (by decide) ?_
    refine z_lv hX [1, 2, 3] (lv2 := [(0, .ref (ad 30)), (1, .int x1), (2, .int x2)]) rfl ?_
    exact bk_M_differ_61 l D ad ca hX hR _ _ _ _ _
def fn_M_differ (x1 : Int32) (x2 : Int32) (σ : zS) : Option (Int32 × zS) := zb (fn_M_isArtefact x1 σ) (fun r2 s2 => if r2 = 0 then some ((-1 : Int32), s2) else zb (fn_M_isArtefact x2 s2) (fun r10 s10 => if r10 = 0 then some ((-1 : Int32), s10) else zgd (zin x1 32) (zgd (zin x2 32) (if (lg_cmp (s10.2 35 x1.toNatClampNeg) (s10.2 35 x2.toNatClampNeg)) = 0 then fn_M_differ_39 x1 x2 (0 : Int32) s10 else fn_M_differ_39 x1 x2 (1 : Int32) s10))))
set_option maxRecDepth 100000 in
set_option maxHeartbeats 4000000 in
theorem ct_M_differ (l : Launch) (D : va_G) (ad : Nat → Nat) (ca : Nat → ClassId) (x1 : Int32) (x2 : Int32) (σ : zS) : zC zemI l y_M_differ (Cond.code y_M_differ b_M_differ 4 (some .int) :: zTT) (zrm 2 49) D zcl (zKK D ca) (zwM ad ca) σ [.ref (ad 30), .int x1, .int x2] (fn_M_differ x1 x2 σ) := by
  refine zmk_i (tys := zty ca) (by decide) (zKK_m D ca) (fun _ h => h.1) (Nat.le_of_ble_eq_true rfl) (fun V ex hX hR => ?_)
  show zJ V (zb (fn_M_isArtefact x1 σ) (fun r2 s2 => if r2 = 0 then some ((-1 : Int32), s2) else zb (fn_M_isArtefact x2 s2) (fun r10 s10 => if r10 = 0 then some ((-1 : Int32), s10) else zgd (zin x1 32) (zgd (zin x2 32) (if (lg_cmp (s10.2 35 x1.toNatClampNeg) (s10.2 35 x2.toNatClampNeg)) = 0 then fn_M_differ_39 x1 x2 (0 : Int32) s10 else fn_M_differ_39 x1 x2 (1 : Int32) s10))))) (zwM ad ca σ ++ ex) 0 [(0, .ref (ad 30)), (1, .int x1), (2, .int x2)] []
  refine z_aload_n (i := 0) hX d_M_differ_0 rfl rfl ?_
  refine z_iload_n (i := 1) hX d_M_differ_1 rfl rfl ?_
  refine z_callVi (wl := zwM ad ca) (C := R_M) (n := 1) (rest := []) hX [.int x1] (ct_M_isArtefact l D ad ca x1 σ) gV_M_92 ⟨rfl, rfl⟩ ⟨by decide, by decide⟩ (by decide +kernel) rfl 0 rfl rfl rfl rfl (Nat.le_of_ble_eq_true rfl) d_M_differ_2 (fun r2 s2 => ?_)
  refine z_if_eq (tgt := 16) hX d_M_differ_5 (by decide) (fun c5 => ?_) (fun c5 => ?_)
  · refine z_iconst (v := -1) hX d_M_differ_16 (by decide) ?_
    exact z_iret hR d_M_differ_17
  · refine z_aload_n (i := 0) hX d_M_differ_8 rfl rfl ?_
    refine z_iload_n (i := 2) hX d_M_differ_9 rfl rfl ?_
    refine z_callVi (wl := zwM ad ca) (C := R_M) (n := 1) (rest := []) hX [.int x2] (ct_M_isArtefact l D ad ca x2 s2) gV_M_92 ⟨rfl, rfl⟩ ⟨by decide, by decide⟩ (by decide +kernel) rfl 0 rfl rfl rfl rfl (Nat.le_of_ble_eq_true rfl) d_M_differ_10 (fun r10 s10 => ?_)
    refine z_if_ne (tgt := 18) hX d_M_differ_13 (by decide) (fun c13 => ?_) (fun c13 => ?_)
    · refine z_iconst (v := -1) hX d_M_differ_16 (by decide) ?_
      exact z_iret hR d_M_differ_17
    · refine z_aload_n (i := 0) hX d_M_differ_18 rfl rfl ?_
      refine z_get (C := R_M) (T := F_M) (N := 27) hX in_M 0 rfl rfl 7 (by decide) w_field_M_24_M_7 rfl d_M_differ_19 ?_
      refine z_iload_n (i := 1) hX d_M_differ_22 rfl rfl ?_
      refine z_lald hX 5 25 rfl rfl d_M_differ_23 ?_
      refine z_aload_n (i := 0) hX d_M_differ_24 rfl rfl ?_
      refine z_get (C := R_M) (T := F_M) (N := 27) hX in_M 0 rfl rfl 7 (by decide) w_field_M_24_M_7 rfl d_M_differ_25 ?_
      refine z_iload_n (i := 2) hX d_M_differ_28 rfl rfl ?_
      refine z_lald hX 5 25 rfl rfl d_M_differ_29 ?_
      refine z_lcmp hX d_M_differ_30 ?_
      refine z_if_eq (tgt := 38) hX d_M_differ_31 (by decide) (fun c31 => ?_) (fun c31 => ?_)
      · refine z_iconst (v := 0) hX d_M_differ_38 (by decide) ?_
        exact bk_M_differ_39 l D ad ca hX hR _ _ _ _
      · refine z_iconst (v := 1) hX d_M_differ_34 (by decide) ?_
        refine z_goto (tgt := 39) hX d_M_differ_35 (by decide) ?_
        exact bk_M_differ_39 l D ad ca hX hR _ _ _ _
def fn_M_clash_35 (k20 : Int32 → Int32 → Int32 → zS → Option (Int32 × zS)) : Nat → Int32 → Int32 → Int32 → Int32 → zS → Option (Int32 × zS)
  | 0, _, _, _, _, _ => none
  | n + 1, x2, x3, x4, x5, σ => if x5 < (σ.1 701 0) then zb (fn_M_isClash x4 x5 σ) (fun r49 s49 => if r49 = 0 then fn_M_clash_35 k20 n x2 x3 x4 (x5 + 1) s49 else if x3 = 0 then if x2 = 0 then some (x4, s49) else some (x5, s49) else fn_M_clash_35 k20 n x2 (x3 + (-1 : Int32)) x4 (x5 + 1) s49) else k20 x2 x3 (x4 + 1) σ
set_option maxRecDepth 100000 in
set_option maxHeartbeats 4000000 in
theorem bk_M_clash_35 (l : Launch) (D : va_G) (ad : Nat → Nat) (ca : Nat → ClassId) {V : zV Int32} {ex : va_W} (hX : zIs V l b_M_clash R_M zTT (zKK D ca) D zcl (zty ca) 6 (zrm 2 46)) (hR : zRi V b_M_clash (zwM ad ca) ex) (k20 : Int32 → Int32 → Int32 → zS → Option (Int32 × zS)) (hk20 : ∀ (z2 : Int32) (z3 : Int32) (z4 : Int32) (σ : zS), zJ V (k20 z2 z3 z4 σ) (zwM ad ca σ ++ ex) 20 [(0, .ref (ad 30)), (2, .int z2), (3, .int z3), (4, .int z4)] []) : ∀ (n : Nat) (x2 : Int32) (x3 : Int32) (x4 : Int32) (x5 : Int32) (σ : zS), zJ V (fn_M_clash_35 k20 n x2 x3 x4 x5 σ) (zwM ad ca σ ++ ex) 35 [(0, .ref (ad 30)), (2, .int x2), (3, .int x3), (4, .int x4), (5, .int x5)] [] := by
  intro n
  induction n with
  | zero => intros; exact z_none
  | succ n ih =>
    intro x2 x3 x4 x5 σ
    show zJ V (if x5 < (σ.1 701 0) then zb (fn_M_isClash x4 x5 σ) (fun r49 s49 => if r49 = 0 then fn_M_clash_35 k20 n x2 x3 x4 (x5 + 1) s49 else if x3 = 0 then if x2 = 0 then some (x4, s49) else some (x5, s49) else fn_M_clash_35 k20 n x2 (x3 + (-1 : Int32)) x4 (x5 + 1) s49) else k20 x2 x3 (x4 + 1) σ) _ _ _ _
    refine z_iload (i := 5) hX d_M_clash_35 rfl ?_
    refine z_aload_n (i := 0) hX d_M_clash_37 rfl rfl ?_
    refine z_get (C := R_M) (T := F_M) (N := 27) hX in_M 0 rfl rfl 1 (by decide) w_field_M_76_M_1 rfl d_M_clash_38 ?_
    refine z_icmp_ge (tgt := 83) hX d_M_clash_41 (by decide) (fun c41 => ?_) (fun c41 => ?_)
    · refine z_aload_n (i := 0) hX d_M_clash_44 rfl rfl ?_
      refine z_iload (i := 4) hX d_M_clash_45 rfl ?_
      refine z_iload (i := 5) hX d_M_clash_47 rfl ?_
      refine z_callVi (wl := zwM ad ca) (C := R_M) (n := 2) (rest := []) hX [.int x4, .int x5] (ct_M_isClash l D ad ca x4 x5 σ) gV_M_139 ⟨rfl, rfl⟩ ⟨by decide, by decide⟩ (by decide +kernel) rfl 0 rfl rfl rfl rfl (Nat.le_of_ble_eq_true rfl) d_M_clash_49 (fun r49 s49 => ?_)
      refine z_if_ne (tgt := 58) hX d_M_clash_52 (by decide) (fun c52 => ?_) (fun c52 => ?_)
      · refine z_goto (tgt := 77) hX d_M_clash_55 (by decide) ?_
        refine z_iinc (v := x5 + 1) (lv2 := [(5, .int (x5 + 1)), (0, .ref (ad 30)), (2, .int x2), (3, .int x3), (4, .int x4)]) hX d_M_clash_77 4 rfl (by first | rfl | decide) (by decide) rfl ?_
        refine z_goto (tgt := 35) hX d_M_clash_80 (by decide) ?_
        refine z_lv hX [1, 2, 3, 4, 0] (lv2 := [(0, .ref (ad 30)), (2, .int x2), (3, .int x3), (4, .int x4), (5, .int (x5 + 1))]) rfl ?_
        exact ih _ _ _ _ _
      · refine z_iload_n (i := 3) hX d_M_clash_58 rfl rfl ?_
        refine z_if_ne (tgt := 74) hX d_M_clash_59 (by decide) (fun c59 => ?_) (fun c59 => ?_)
        · refine z_iload_n (i := 2) hX d_M_clash_62 rfl rfl ?_
          refine z_if_ne (tgt := 71) hX d_M_clash_63 (by decide) (fun c63 => ?_) (fun c63 => ?_)
          · refine z_iload (i := 4) hX d_M_clash_66 rfl ?_
            refine z_goto (tgt := 73) hX d_M_clash_68 (by decide) ?_
            exact z_iret hR d_M_clash_73
          · refine z_iload (i := 5) hX d_M_clash_71 rfl ?_
            exact z_iret hR d_M_clash_73
        · refine z_iinc (v := x3 + (-1 : Int32)) (lv2 := [(3, .int (x3 + (-1 : Int32))), (0, .ref (ad 30)), (2, .int x2), (4, .int x4), (5, .int x5)]) hX d_M_clash_74 2 rfl (by first | rfl | decide) (by decide) rfl ?_
          refine z_iinc (v := x5 + 1) (lv2 := [(5, .int (x5 + 1)), (3, .int (x3 + (-1 : Int32))), (0, .ref (ad 30)), (2, .int x2), (4, .int x4)]) hX d_M_clash_77 4 rfl (by first | rfl | decide) (by decide) rfl ?_
          refine z_goto (tgt := 35) hX d_M_clash_80 (by decide) ?_
          refine z_lv hX [2, 3, 1, 4, 0] (lv2 := [(0, .ref (ad 30)), (2, .int x2), (3, .int (x3 + (-1 : Int32))), (4, .int x4), (5, .int (x5 + 1))]) rfl ?_
          exact ih _ _ _ _ _
    · refine z_iinc (v := x4 + 1) (lv2 := [(4, .int (x4 + 1)), (0, .ref (ad 30)), (2, .int x2), (3, .int x3), (5, .int x5)]) hX d_M_clash_83 3 rfl (by first | rfl | decide) (by decide) rfl ?_
      refine z_goto (tgt := 20) hX d_M_clash_86 (by decide) ?_
      refine z_lv hX [1, 2, 3, 0] (lv2 := [(0, .ref (ad 30)), (2, .int x2), (3, .int x3), (4, .int (x4 + 1))]) rfl ?_
      exact hk20 _ _ _ _
def fn_M_clash_20 : Nat → Int32 → Int32 → Int32 → zS → Option (Int32 × zS)
  | 0, _, _, _, _ => none
  | n + 1, x2, x3, x4, σ => if x4 < (σ.1 701 0) then fn_M_clash_35 (fn_M_clash_20 n) 100 x2 x3 x4 (x4 + (1 : Int32)) σ else some ((-1 : Int32), σ)
set_option maxRecDepth 100000 in
set_option maxHeartbeats 4000000 in
theorem bk_M_clash_20 (l : Launch) (D : va_G) (ad : Nat → Nat) (ca : Nat → ClassId) {V : zV Int32} {ex : va_W} (hX : zIs V l b_M_clash R_M zTT (zKK D ca) D zcl (zty ca) 6 (zrm 2 46)) (hR : zRi V b_M_clash (zwM ad ca) ex) : ∀ (n : Nat) (x2 : Int32) (x3 : Int32) (x4 : Int32) (σ : zS), zJ V (fn_M_clash_20 n x2 x3 x4 σ) (zwM ad ca σ ++ ex) 20 [(0, .ref (ad 30)), (2, .int x2), (3, .int x3), (4, .int x4)] [] := by
  intro n
  induction n with
  | zero => intros; exact z_none
  | succ n ih =>
    intro x2 x3 x4 σ
    show zJ V (if x4 < (σ.1 701 0) then fn_M_clash_35 (fn_M_clash_20 n) 100 x2 x3 x4 (x4 + (1 : Int32)) σ else some ((-1 : Int32), σ)) _ _ _ _
    refine z_iload (i := 4) hX d_M_clash_20 rfl ?_
    refine z_aload_n (i := 0) hX d_M_clash_22 rfl rfl ?_
    refine z_get (C := R_M) (T := F_M) (N := 27) hX in_M 0 rfl rfl 1 (by decide) w_field_M_76_M_1 rfl d_M_clash_23 ?_
    refine z_icmp_ge (tgt := 89) hX d_M_clash_26 (by decide) (fun c26 => ?_) (fun c26 => ?_)
    · refine z_iload (i := 4) hX d_M_clash_29 rfl ?_
      refine z_iconst (v := 1) hX d_M_clash_31 (by decide) ?_
      refine z_iadd hX d_M_clash_32 ?_
      refine z_istore (i := 5) (lv2 := [(5, .int (x4 + (1 : Int32))), (0, .ref (ad 30)), (2, .int x2), (3, .int x3), (4, .int x4)]) hX d_M_clash_33 (by decide) rfl ?_
      refine z_lv hX [1, 2, 3, 4, 0] (lv2 := [(0, .ref (ad 30)), (2, .int x2), (3, .int x3), (4, .int x4), (5, .int (x4 + (1 : Int32)))]) rfl ?_
      exact bk_M_clash_35 l D ad ca hX hR (fn_M_clash_20 n) ih 100 _ _ _ _ _
    · refine z_iconst (v := -1) hX d_M_clash_89 (by decide) ?_
      exact z_iret hR d_M_clash_90
def fn_M_clash (x1 : Int32) (x2 : Int32) (σ : zS) : Option (Int32 × zS) := if x1 < 0 then some ((-1 : Int32), σ) else zb (fn_M_within x2 (0 : Int32) (1 : Int32) σ) (fun r7 s7 => if r7 = 0 then some ((-1 : Int32), s7) else fn_M_clash_20 100 x2 x1 (0 : Int32) s7)
set_option maxRecDepth 100000 in
set_option maxHeartbeats 4000000 in
theorem ct_M_clash (l : Launch) (D : va_G) (ad : Nat → Nat) (ca : Nat → ClassId) (x1 : Int32) (x2 : Int32) (σ : zS) : zC zemI l y_M_clash (Cond.code y_M_clash b_M_clash 6 (some .int) :: zTT) (zrm 2 46) D zcl (zKK D ca) (zwM ad ca) σ [.ref (ad 30), .int x1, .int x2] (fn_M_clash x1 x2 σ) := by
  refine zmk_i (tys := zty ca) (by decide) (zKK_m D ca) (fun _ h => h.1) (Nat.le_of_ble_eq_true rfl) (fun V ex hX hR => ?_)
  show zJ V (if x1 < 0 then some ((-1 : Int32), σ) else zb (fn_M_within x2 (0 : Int32) (1 : Int32) σ) (fun r7 s7 => if r7 = 0 then some ((-1 : Int32), s7) else fn_M_clash_20 100 x2 x1 (0 : Int32) s7)) (zwM ad ca σ ++ ex) 0 [(0, .ref (ad 30)), (1, .int x1), (2, .int x2)] []
  refine z_iload_n (i := 1) hX d_M_clash_0 rfl rfl ?_
  refine z_if_lt (tgt := 13) hX d_M_clash_1 (by decide) (fun c1 => ?_) (fun c1 => ?_)
  · refine z_iconst (v := -1) hX d_M_clash_13 (by decide) ?_
    exact z_iret hR d_M_clash_14
  · refine z_iload_n (i := 2) hX d_M_clash_4 rfl rfl ?_
    refine z_iconst (v := 0) hX d_M_clash_5 (by decide) ?_
    refine z_iconst (v := 1) hX d_M_clash_6 (by decide) ?_
    refine z_callSi (wl := zwM ad ca) (n := 3) (rest := []) hX [.int x2, .int (0 : Int32), .int (1 : Int32)] (ct_M_within l D ca (zwM ad ca) x2 (0 : Int32) (1 : Int32) σ) gS_M_82 ⟨rfl, rfl⟩ ⟨by decide, by decide⟩ (by decide +kernel) rfl rfl (Nat.le_of_ble_eq_true rfl) d_M_clash_7 (fun r7 s7 => ?_)
    refine z_if_ne (tgt := 15) hX d_M_clash_10 (by decide) (fun c10 => ?_) (fun c10 => ?_)
    · refine z_iconst (v := -1) hX d_M_clash_13 (by decide) ?_
      exact z_iret hR d_M_clash_14
    · refine z_iload_n (i := 1) hX d_M_clash_15 rfl rfl ?_
      refine z_istore_n (i := 3) (lv2 := [(3, .int x1), (0, .ref (ad 30)), (1, .int x1), (2, .int x2)]) hX d_M_clash_16 rfl (by decide) rfl ?_
      refine z_iconst (v := 0) hX d_M_clash_17 (by decide) ?_
      refine z_istore (i := 4) (lv2 := [(4, .int (0 : Int32)), (3, .int x1), (0, .ref (ad 30)), (1, .int x1), (2, .int x2)]) hX d_M_clash_18 (by decide) rfl ?_
      refine z_lv hX [2, 4, 1, 0] (lv2 := [(0, .ref (ad 30)), (2, .int x2), (3, .int x1), (4, .int (0 : Int32))]) rfl ?_
      exact bk_M_clash_20 l D ad ca hX hR 100 _ _ _ _
