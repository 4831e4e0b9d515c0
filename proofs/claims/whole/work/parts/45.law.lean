def fn_L_law_18 (L : Nat) (xs : Nat → Int32) : Nat → Int32 → zS → zS → Option (Int32 × zS)
  | 0, _, _, _ => none
  | n + 1, x3, σ, τ => if ((nI L) - (7 : Int32)) < x3 then some (1, σ) else zgd (zin x3 L) (if ((xs x3.toNatClampNeg) &&& (31 : Int32)) = (0 : Int32) then zgd (zin (x3 + (1 : Int32)) L) (zgd (zin (x3 + (2 : Int32)) L) (zgd (zin (x3 + (3 : Int32)) L) (zgd (zin (x3 + (4 : Int32)) L) (zb (fn_P_source ((zlsh ((xs (x3 + (1 : Int32)).toNatClampNeg).toInt64) (32 : Int32)) ||| (((xs (x3 + (2 : Int32)).toNatClampNeg).toInt64) &&& (4294967295 : Int64))) (xs (x3 + (3 : Int32)).toNatClampNeg) (xs (x3 + (4 : Int32)).toNatClampNeg) σ) (fun r147 s147 => zgd (zin (x3 + (1 : Int32)) L) (zgd (zin (x3 + (2 : Int32)) L) (zgd (zin (x3 + (3 : Int32)) L) (zgd (zin (x3 + (4 : Int32)) L) (zb (fn_M_source ((zlsh ((xs (x3 + (1 : Int32)).toNatClampNeg).toInt64) (32 : Int32)) ||| (((xs (x3 + (2 : Int32)).toNatClampNeg).toInt64) &&& (4294967295 : Int64))) (xs (x3 + (3 : Int32)).toNatClampNeg) (xs (x3 + (4 : Int32)).toNatClampNeg) τ) (fun r181 s181 => if r147 = r181 then fn_L_law_18 L xs n (x3 + 7) s147 s181 else none)))))))))) else if ((xs x3.toNatClampNeg) &&& (31 : Int32)) = (1 : Int32) then zgd (zin (x3 + (1 : Int32)) L) (zgd (zin (x3 + (2 : Int32)) L) (if (xs (x3 + (2 : Int32)).toNatClampNeg) = 0 then zb (fn_P_fetched (xs (x3 + (1 : Int32)).toNatClampNeg) (0 : Int32) σ) (fun r208 s208 => zgd (zin (x3 + (1 : Int32)) L) (zgd (zin (x3 + (2 : Int32)) L) (if (xs (x3 + (2 : Int32)).toNatClampNeg) = 0 then zb (fn_M_fetched (xs (x3 + (1 : Int32)).toNatClampNeg) (0 : Int32) τ) (fun r230 s230 => if r208 = r230 then fn_L_law_18 L xs n (x3 + 7) s208 s230 else none) else zb (fn_M_fetched (xs (x3 + (1 : Int32)).toNatClampNeg) (1 : Int32) τ) (fun r230 s230 => if r208 = r230 then fn_L_law_18 L xs n (x3 + 7) s208 s230 else none)))) else zb (fn_P_fetched (xs (x3 + (1 : Int32)).toNatClampNeg) (1 : Int32) σ) (fun r208 s208 => zgd (zin (x3 + (1 : Int32)) L) (zgd (zin (x3 + (2 : Int32)) L) (if (xs (x3 + (2 : Int32)).toNatClampNeg) = 0 then zb (fn_M_fetched (xs (x3 + (1 : Int32)).toNatClampNeg) (0 : Int32) τ) (fun r230 s230 => if r208 = r230 then fn_L_law_18 L xs n (x3 + 7) s208 s230 else none) else zb (fn_M_fetched (xs (x3 + (1 : Int32)).toNatClampNeg) (1 : Int32) τ) (fun r230 s230 => if r208 = r230 then fn_L_law_18 L xs n (x3 + 7) s208 s230 else none)))))) else if ((xs x3.toNatClampNeg) &&& (31 : Int32)) = (2 : Int32) then zgd (zin (x3 + (1 : Int32)) L) (zgd (zin (x3 + (2 : Int32)) L) (zgd (zin (x3 + (3 : Int32)) L) (zgd (zin (x3 + (4 : Int32)) L) (zgd (zin (x3 + (5 : Int32)) L) (zgd (zin (x3 + (6 : Int32)) L) (zb (fn_P_artefact ((zlsh ((xs (x3 + (1 : Int32)).toNatClampNeg).toInt64) (32 : Int32)) ||| (((xs (x3 + (2 : Int32)).toNatClampNeg).toInt64) &&& (4294967295 : Int64))) (xs (x3 + (3 : Int32)).toNatClampNeg) (xs (x3 + (4 : Int32)).toNatClampNeg) (xs (x3 + (5 : Int32)).toNatClampNeg) (xs (x3 + (6 : Int32)).toNatClampNeg) σ) (fun r280 s280 => zgd (zin (x3 + (1 : Int32)) L) (zgd (zin (x3 + (2 : Int32)) L) (zgd (zin (x3 + (3 : Int32)) L) (zgd (zin (x3 + (4 : Int32)) L) (zgd (zin (x3 + (5 : Int32)) L) (zgd (zin (x3 + (6 : Int32)) L) (zb (fn_M_artefact ((zlsh ((xs (x3 + (1 : Int32)).toNatClampNeg).toInt64) (32 : Int32)) ||| (((xs (x3 + (2 : Int32)).toNatClampNeg).toInt64) &&& (4294967295 : Int64))) (xs (x3 + (3 : Int32)).toNatClampNeg) (xs (x3 + (4 : Int32)).toNatClampNeg) (xs (x3 + (5 : Int32)).toNatClampNeg) (xs (x3 + (6 : Int32)).toNatClampNeg) τ) (fun r325 s325 => if r280 = r325 then fn_L_law_18 L xs n (x3 + 7) s280 s325 else none)))))))))))))) else if ((xs x3.toNatClampNeg) &&& (31 : Int32)) = (3 : Int32) then zgd (zin (x3 + (1 : Int32)) L) (zgd (zin (x3 + (2 : Int32)) L) (zb (fn_P_uses (xs (x3 + (1 : Int32)).toNatClampNeg) (xs (x3 + (2 : Int32)).toNatClampNeg) σ) (fun r344 s344 => zgd (zin (x3 + (1 : Int32)) L) (zgd (zin (x3 + (2 : Int32)) L) (zb (fn_M_uses (xs (x3 + (1 : Int32)).toNatClampNeg) (xs (x3 + (2 : Int32)).toNatClampNeg) τ) (fun r358 s358 => if r344 = r358 then fn_L_law_18 L xs n (x3 + 7) s344 s358 else none)))))) else if ((xs x3.toNatClampNeg) &&& (31 : Int32)) = (4 : Int32) then zgd (zin (x3 + (1 : Int32)) L) (zgd (zin (x3 + (2 : Int32)) L) (zgd (zin (x3 + (3 : Int32)) L) (zb (fn_P_needs (xs (x3 + (1 : Int32)).toNatClampNeg) ((zlsh ((xs (x3 + (2 : Int32)).toNatClampNeg).toInt64) (32 : Int32)) ||| (((xs (x3 + (3 : Int32)).toNatClampNeg).toInt64) &&& (4294967295 : Int64))) σ) (fun r392 s392 => zgd (zin (x3 + (1 : Int32)) L) (zgd (zin (x3 + (2 : Int32)) L) (zgd (zin (x3 + (3 : Int32)) L) (zb (fn_M_needs (xs (x3 + (1 : Int32)).toNatClampNeg) ((zlsh ((xs (x3 + (2 : Int32)).toNatClampNeg).toInt64) (32 : Int32)) ||| (((xs (x3 + (3 : Int32)).toNatClampNeg).toInt64) &&& (4294967295 : Int64))) τ) (fun r421 s421 => if r392 = r421 then fn_L_law_18 L xs n (x3 + 7) s392 s421 else none)))))))) else if ((xs x3.toNatClampNeg) &&& (31 : Int32)) = (5 : Int32) then zgd (zin (x3 + (1 : Int32)) L) (zgd (zin (x3 + (2 : Int32)) L) (zgd (zin (x3 + (3 : Int32)) L) (zgd (zin (x3 + (4 : Int32)) L) (zb (fn_P_path (xs (x3 + (1 : Int32)).toNatClampNeg) (xs (x3 + (2 : Int32)).toNatClampNeg) ((zlsh ((xs (x3 + (3 : Int32)).toNatClampNeg).toInt64) (32 : Int32)) ||| (((xs (x3 + (4 : Int32)).toNatClampNeg).toInt64) &&& (4294967295 : Int64))) σ) (fun r460 s460 => zgd (zin (x3 + (1 : Int32)) L) (zgd (zin (x3 + (2 : Int32)) L) (zgd (zin (x3 + (3 : Int32)) L) (zgd (zin (x3 + (4 : Int32)) L) (zb (fn_M_path (xs (x3 + (1 : Int32)).toNatClampNeg) (xs (x3 + (2 : Int32)).toNatClampNeg) ((zlsh ((xs (x3 + (3 : Int32)).toNatClampNeg).toInt64) (32 : Int32)) ||| (((xs (x3 + (4 : Int32)).toNatClampNeg).toInt64) &&& (4294967295 : Int64))) τ) (fun r494 s494 => if r460 = r494 then fn_L_law_18 L xs n (x3 + 7) s460 s494 else none)))))))))) else if ((xs x3.toNatClampNeg) &&& (31 : Int32)) = (6 : Int32) then zgd (zin (x3 + (1 : Int32)) L) (zgd (zin (x3 + (2 : Int32)) L) (zb (fn_P_policy (xs (x3 + (1 : Int32)).toNatClampNeg) (xs (x3 + (2 : Int32)).toNatClampNeg) σ) (fun r513 s513 => zgd (zin (x3 + (1 : Int32)) L) (zgd (zin (x3 + (2 : Int32)) L) (zb (fn_M_policy (xs (x3 + (1 : Int32)).toNatClampNeg) (xs (x3 + (2 : Int32)).toNatClampNeg) τ) (fun r527 s527 => if r513 = r527 then fn_L_law_18 L xs n (x3 + 7) s513 s527 else none)))))) else if ((xs x3.toNatClampNeg) &&& (31 : Int32)) = (7 : Int32) then zgd (zin (x3 + (1 : Int32)) L) (zb (fn_P_verdict (xs (x3 + (1 : Int32)).toNatClampNeg) σ) (fun r541 s541 => zgd (zin (x3 + (1 : Int32)) L) (zb (fn_M_verdict (xs (x3 + (1 : Int32)).toNatClampNeg) τ) (fun r550 s550 => if r541 = r550 then fn_L_law_18 L xs n (x3 + 7) s541 s550 else none)))) else if ((xs x3.toNatClampNeg) &&& (31 : Int32)) = (8 : Int32) then zb (fn_P_culprit σ) (fun r559 s559 => zb (fn_M_culprit τ) (fun r563 s563 => if r559 = r563 then fn_L_law_18 L xs n (x3 + 7) s559 s563 else none)) else if ((xs x3.toNatClampNeg) &&& (31 : Int32)) = (9 : Int32) then zgd (zin (x3 + (1 : Int32)) L) (zgd (zin (x3 + (2 : Int32)) L) (zb (fn_P_breaks (xs (x3 + (1 : Int32)).toNatClampNeg) (xs (x3 + (2 : Int32)).toNatClampNeg) σ) (fun r582 s582 => zgd (zin (x3 + (1 : Int32)) L) (zgd (zin (x3 + (2 : Int32)) L) (zb (fn_M_breaks (xs (x3 + (1 : Int32)).toNatClampNeg) (xs (x3 + (2 : Int32)).toNatClampNeg) τ) (fun r596 s596 => if r582 = r596 then fn_L_law_18 L xs n (x3 + 7) s582 s596 else none)))))) else if ((xs x3.toNatClampNeg) &&& (31 : Int32)) = (10 : Int32) then zgd (zin (x3 + (1 : Int32)) L) (zb (fn_P_closure (xs (x3 + (1 : Int32)).toNatClampNeg) σ) (fun r610 s610 => zgd (zin (x3 + (1 : Int32)) L) (zb (fn_M_closure (xs (x3 + (1 : Int32)).toNatClampNeg) τ) (fun r619 s619 => if r610 = r619 then fn_L_law_18 L xs n (x3 + 7) s610 s619 else none)))) else if ((xs x3.toNatClampNeg) &&& (31 : Int32)) = (11 : Int32) then zgd (zin (x3 + (1 : Int32)) L) (zb (fn_P_at (xs (x3 + (1 : Int32)).toNatClampNeg) σ) (fun r633 s633 => zgd (zin (x3 + (1 : Int32)) L) (zb (fn_M_at (xs (x3 + (1 : Int32)).toNatClampNeg) τ) (fun r642 s642 => if r633 = r642 then fn_L_law_18 L xs n (x3 + 7) s633 s642 else none)))) else if ((xs x3.toNatClampNeg) &&& (31 : Int32)) = (12 : Int32) then zgd (zin (x3 + (1 : Int32)) L) (zgd (zin (x3 + (2 : Int32)) L) (zgd (zin (x3 + (3 : Int32)) L) (zb (fn_P_holds ((zlsh ((xs (x3 + (1 : Int32)).toNatClampNeg).toInt64) (32 : Int32)) ||| (((xs (x3 + (2 : Int32)).toNatClampNeg).toInt64) &&& (4294967295 : Int64))) (xs (x3 + (3 : Int32)).toNatClampNeg) σ) (fun r676 s676 => zgd (zin (x3 + (1 : Int32)) L) (zgd (zin (x3 + (2 : Int32)) L) (zgd (zin (x3 + (3 : Int32)) L) (zb (fn_M_holds ((zlsh ((xs (x3 + (1 : Int32)).toNatClampNeg).toInt64) (32 : Int32)) ||| (((xs (x3 + (2 : Int32)).toNatClampNeg).toInt64) &&& (4294967295 : Int64))) (xs (x3 + (3 : Int32)).toNatClampNeg) τ) (fun r705 s705 => if r676 = r705 then fn_L_law_18 L xs n (x3 + 7) s676 s705 else none)))))))) else if ((xs x3.toNatClampNeg) &&& (31 : Int32)) = (13 : Int32) then zgd (zin (x3 + (1 : Int32)) L) (zgd (zin (x3 + (2 : Int32)) L) (zb (fn_P_missing (xs (x3 + (1 : Int32)).toNatClampNeg) (xs (x3 + (2 : Int32)).toNatClampNeg) σ) (fun r724 s724 => zgd (zin (x3 + (1 : Int32)) L) (zgd (zin (x3 + (2 : Int32)) L) (zb (fn_M_missing (xs (x3 + (1 : Int32)).toNatClampNeg) (xs (x3 + (2 : Int32)).toNatClampNeg) τ) (fun r738 s738 => if r724 = r738 then fn_L_law_18 L xs n (x3 + 7) s724 s738 else none)))))) else if ((xs x3.toNatClampNeg) &&& (31 : Int32)) = (14 : Int32) then zgd (zin (x3 + (1 : Int32)) L) (zgd (zin (x3 + (2 : Int32)) L) (zb (fn_P_rebuilt (xs (x3 + (1 : Int32)).toNatClampNeg) (xs (x3 + (2 : Int32)).toNatClampNeg) σ) (fun r757 s757 => zgd (zin (x3 + (1 : Int32)) L) (zgd (zin (x3 + (2 : Int32)) L) (zb (fn_M_rebuilt (xs (x3 + (1 : Int32)).toNatClampNeg) (xs (x3 + (2 : Int32)).toNatClampNeg) τ) (fun r771 s771 => if r757 = r771 then fn_L_law_18 L xs n (x3 + 7) s757 s771 else none)))))) else if ((xs x3.toNatClampNeg) &&& (31 : Int32)) = (15 : Int32) then zgd (zin (x3 + (1 : Int32)) L) (zgd (zin (x3 + (2 : Int32)) L) (zb (fn_P_differ (xs (x3 + (1 : Int32)).toNatClampNeg) (xs (x3 + (2 : Int32)).toNatClampNeg) σ) (fun r790 s790 => zgd (zin (x3 + (1 : Int32)) L) (zgd (zin (x3 + (2 : Int32)) L) (zb (fn_M_differ (xs (x3 + (1 : Int32)).toNatClampNeg) (xs (x3 + (2 : Int32)).toNatClampNeg) τ) (fun r804 s804 => if r790 = r804 then fn_L_law_18 L xs n (x3 + 7) s790 s804 else none)))))) else if ((xs x3.toNatClampNeg) &&& (31 : Int32)) = (16 : Int32) then zgd (zin (x3 + (1 : Int32)) L) (zgd (zin (x3 + (2 : Int32)) L) (zb (fn_P_clash (xs (x3 + (1 : Int32)).toNatClampNeg) (xs (x3 + (2 : Int32)).toNatClampNeg) σ) (fun r823 s823 => zgd (zin (x3 + (1 : Int32)) L) (zgd (zin (x3 + (2 : Int32)) L) (zb (fn_M_clash (xs (x3 + (1 : Int32)).toNatClampNeg) (xs (x3 + (2 : Int32)).toNatClampNeg) τ) (fun r837 s837 => if r823 = r837 then fn_L_law_18 L xs n (x3 + 7) s823 s837 else none)))))) else fn_L_law_18 L xs n (x3 + 7) σ τ)
def zRL (V : zV Int32) (cc : ByteArray) : Prop := ∀ (w : va_W) (σ : zS) (pc : Nat) (lv : List (Nat × Value)), decode cc pc = .ok (.ireturn, 1) → V w pc lv [.int 1] (1, σ)
theorem z_lawret {V : zV Int32} {cc : ByteArray} {w : va_W} {σ : zS} {pc : Nat} {lv : List (Nat × Value)} (hR : zRL V cc) (hd : decode cc pc = .ok (.ireturn, 1)) : zJ V (some (1, σ)) w pc lv [.int 1] := fun out hf => by cases hf; exact hR w σ pc lv hd
set_option maxRecDepth 100000 in
set_option maxHeartbeats 8000000 in
theorem bk_L_law_18 (l : Launch) (D : va_G) (ad : Nat → Nat) (ca : Nat → ClassId) {V : zV Int32} {b L : Nat} {xs : Nat → Int32} (hXL : zIsL V l code R_L zTT (zKK D ca) D zcl (zty ca) 4 room_1 b L xs) (hR : zRL V code) : ∀ (n : Nat) (x3 : Int32) (σ τ : zS), zJ V (fn_L_law_18 L xs n x3 σ τ) (zwC ad ca σ ++ zwM ad ca τ) 18 [(0, .ref b), (1, .ref (ad 0)), (2, .ref (ad 30)), (3, .int x3)] [] := by
  have hX := hXL.is
  intro n
  induction n with
  | zero => intros; exact z_none
  | succ n ih =>
    intro x3 σ τ
    show zJ V (if ((nI L) - (7 : Int32)) < x3 then some (1, σ) else zgd (zin x3 L) (if ((xs x3.toNatClampNeg) &&& (31 : Int32)) = (0 : Int32) then zgd (zin (x3 + (1 : Int32)) L) (zgd (zin (x3 + (2 : Int32)) L) (zgd (zin (x3 + (3 : Int32)) L) (zgd (zin (x3 + (4 : Int32)) L) (zb (fn_P_source ((zlsh ((xs (x3 + (1 : Int32)).toNatClampNeg).toInt64) (32 : Int32)) ||| (((xs (x3 + (2 : Int32)).toNatClampNeg).toInt64) &&& (4294967295 : Int64))) (xs (x3 + (3 : Int32)).toNatClampNeg) (xs (x3 + (4 : Int32)).toNatClampNeg) σ) (fun r147 s147 => zgd (zin (x3 + (1 : Int32)) L) (zgd (zin (x3 + (2 : Int32)) L) (zgd (zin (x3 + (3 : Int32)) L) (zgd (zin (x3 + (4 : Int32)) L) (zb (fn_M_source ((zlsh ((xs (x3 + (1 : Int32)).toNatClampNeg).toInt64) (32 : Int32)) ||| (((xs (x3 + (2 : Int32)).toNatClampNeg).toInt64) &&& (4294967295 : Int64))) (xs (x3 + (3 : Int32)).toNatClampNeg) (xs (x3 + (4 : Int32)).toNatClampNeg) τ) (fun r181 s181 => if r147 = r181 then fn_L_law_18 L xs n (x3 + 7) s147 s181 else none)))))))))) else if ((xs x3.toNatClampNeg) &&& (31 : Int32)) = (1 : Int32) then zgd (zin (x3 + (1 : Int32)) L) (zgd (zin (x3 + (2 : Int32)) L) (if (xs (x3 + (2 : Int32)).toNatClampNeg) = 0 then zb (fn_P_fetched (xs (x3 + (1 : Int32)).toNatClampNeg) (0 : Int32) σ) (fun r208 s208 => zgd (zin (x3 + (1 : Int32)) L) (zgd (zin (x3 + (2 : Int32)) L) (if (xs (x3 + (2 : Int32)).toNatClampNeg) = 0 then zb (fn_M_fetched (xs (x3 + (1 : Int32)).toNatClampNeg) (0 : Int32) τ) (fun r230 s230 => if r208 = r230 then fn_L_law_18 L xs n (x3 + 7) s208 s230 else none) else zb (fn_M_fetched (xs (x3 + (1 : Int32)).toNatClampNeg) (1 : Int32) τ) (fun r230 s230 => if r208 = r230 then fn_L_law_18 L xs n (x3 + 7) s208 s230 else none)))) else zb (fn_P_fetched (xs (x3 + (1 : Int32)).toNatClampNeg) (1 : Int32) σ) (fun r208 s208 => zgd (zin (x3 + (1 : Int32)) L) (zgd (zin (x3 + (2 : Int32)) L) (if (xs (x3 + (2 : Int32)).toNatClampNeg) = 0 then zb (fn_M_fetched (xs (x3 + (1 : Int32)).toNatClampNeg) (0 : Int32) τ) (fun r230 s230 => if r208 = r230 then fn_L_law_18 L xs n (x3 + 7) s208 s230 else none) else zb (fn_M_fetched (xs (x3 + (1 : Int32)).toNatClampNeg) (1 : Int32) τ) (fun r230 s230 => if r208 = r230 then fn_L_law_18 L xs n (x3 + 7) s208 s230 else none)))))) else if ((xs x3.toNatClampNeg) &&& (31 : Int32)) = (2 : Int32) then zgd (zin (x3 + (1 : Int32)) L) (zgd (zin (x3 + (2 : Int32)) L) (zgd (zin (x3 + (3 : Int32)) L) (zgd (zin (x3 + (4 : Int32)) L) (zgd (zin (x3 + (5 : Int32)) L) (zgd (zin (x3 + (6 : Int32)) L) (zb (fn_P_artefact ((zlsh ((xs (x3 + (1 : Int32)).toNatClampNeg).toInt64) (32 : Int32)) ||| (((xs (x3 + (2 : Int32)).toNatClampNeg).toInt64) &&& (4294967295 : Int64))) (xs (x3 + (3 : Int32)).toNatClampNeg) (xs (x3 + (4 : Int32)).toNatClampNeg) (xs (x3 + (5 : Int32)).toNatClampNeg) (xs (x3 + (6 : Int32)).toNatClampNeg) σ) (fun r280 s280 => zgd (zin (x3 + (1 : Int32)) L) (zgd (zin (x3 + (2 : Int32)) L) (zgd (zin (x3 + (3 : Int32)) L) (zgd (zin (x3 + (4 : Int32)) L) (zgd (zin (x3 + (5 : Int32)) L) (zgd (zin (x3 + (6 : Int32)) L) (zb (fn_M_artefact ((zlsh ((xs (x3 + (1 : Int32)).toNatClampNeg).toInt64) (32 : Int32)) ||| (((xs (x3 + (2 : Int32)).toNatClampNeg).toInt64) &&& (4294967295 : Int64))) (xs (x3 + (3 : Int32)).toNatClampNeg) (xs (x3 + (4 : Int32)).toNatClampNeg) (xs (x3 + (5 : Int32)).toNatClampNeg) (xs (x3 + (6 : Int32)).toNatClampNeg) τ) (fun r325 s325 => if r280 = r325 then fn_L_law_18 L xs n (x3 + 7) s280 s325 else none)))))))))))))) else if ((xs x3.toNatClampNeg) &&& (31 : Int32)) = (3 : Int32) then zgd (zin (x3 + (1 : Int32)) L) (zgd (zin (x3 + (2 : Int32)) L) (zb (fn_P_uses (xs (x3 + (1 : Int32)).toNatClampNeg) (xs (x3 + (2 : Int32)).toNatClampNeg) σ) (fun r344 s344 => zgd (zin (x3 + (1 : Int32)) L) (zgd (zin (x3 + (2 : Int32)) L) (zb (fn_M_uses (xs (x3 + (1 : Int32)).toNatClampNeg) (xs (x3 + (2 : Int32)).toNatClampNeg) τ) (fun r358 s358 => if r344 = r358 then fn_L_law_18 L xs n (x3 + 7) s344 s358 else none)))))) else if ((xs x3.toNatClampNeg) &&& (31 : Int32)) = (4 : Int32) then zgd (zin (x3 + (1 : Int32)) L) (zgd (zin (x3 + (2 : Int32)) L) (zgd (zin (x3 + (3 : Int32)) L) (zb (fn_P_needs (xs (x3 + (1 : Int32)).toNatClampNeg) ((zlsh ((xs (x3 + (2 : Int32)).toNatClampNeg).toInt64) (32 : Int32)) ||| (((xs (x3 + (3 : Int32)).toNatClampNeg).toInt64) &&& (4294967295 : Int64))) σ) (fun r392 s392 => zgd (zin (x3 + (1 : Int32)) L) (zgd (zin (x3 + (2 : Int32)) L) (zgd (zin (x3 + (3 : Int32)) L) (zb (fn_M_needs (xs (x3 + (1 : Int32)).toNatClampNeg) ((zlsh ((xs (x3 + (2 : Int32)).toNatClampNeg).toInt64) (32 : Int32)) ||| (((xs (x3 + (3 : Int32)).toNatClampNeg).toInt64) &&& (4294967295 : Int64))) τ) (fun r421 s421 => if r392 = r421 then fn_L_law_18 L xs n (x3 + 7) s392 s421 else none)))))))) else if ((xs x3.toNatClampNeg) &&& (31 : Int32)) = (5 : Int32) then zgd (zin (x3 + (1 : Int32)) L) (zgd (zin (x3 + (2 : Int32)) L) (zgd (zin (x3 + (3 : Int32)) L) (zgd (zin (x3 + (4 : Int32)) L) (zb (fn_P_path (xs (x3 + (1 : Int32)).toNatClampNeg) (xs (x3 + (2 : Int32)).toNatClampNeg) ((zlsh ((xs (x3 + (3 : Int32)).toNatClampNeg).toInt64) (32 : Int32)) ||| (((xs (x3 + (4 : Int32)).toNatClampNeg).toInt64) &&& (4294967295 : Int64))) σ) (fun r460 s460 => zgd (zin (x3 + (1 : Int32)) L) (zgd (zin (x3 + (2 : Int32)) L) (zgd (zin (x3 + (3 : Int32)) L) (zgd (zin (x3 + (4 : Int32)) L) (zb (fn_M_path (xs (x3 + (1 : Int32)).toNatClampNeg) (xs (x3 + (2 : Int32)).toNatClampNeg) ((zlsh ((xs (x3 + (3 : Int32)).toNatClampNeg).toInt64) (32 : Int32)) ||| (((xs (x3 + (4 : Int32)).toNatClampNeg).toInt64) &&& (4294967295 : Int64))) τ) (fun r494 s494 => if r460 = r494 then fn_L_law_18 L xs n (x3 + 7) s460 s494 else none)))))))))) else if ((xs x3.toNatClampNeg) &&& (31 : Int32)) = (6 : Int32) then zgd (zin (x3 + (1 : Int32)) L) (zgd (zin (x3 + (2 : Int32)) L) (zb (fn_P_policy (xs (x3 + (1 : Int32)).toNatClampNeg) (xs (x3 + (2 : Int32)).toNatClampNeg) σ) (fun r513 s513 => zgd (zin (x3 + (1 : Int32)) L) (zgd (zin (x3 + (2 : Int32)) L) (zb (fn_M_policy (xs (x3 + (1 : Int32)).toNatClampNeg) (xs (x3 + (2 : Int32)).toNatClampNeg) τ) (fun r527 s527 => if r513 = r527 then fn_L_law_18 L xs n (x3 + 7) s513 s527 else none)))))) else if ((xs x3.toNatClampNeg) &&& (31 : Int32)) = (7 : Int32) then zgd (zin (x3 + (1 : Int32)) L) (zb (fn_P_verdict (xs (x3 + (1 : Int32)).toNatClampNeg) σ) (fun r541 s541 => zgd (zin (x3 + (1 : Int32)) L) (zb (fn_M_verdict (xs (x3 + (1 : Int32)).toNatClampNeg) τ) (fun r550 s550 => if r541 = r550 then fn_L_law_18 L xs n (x3 + 7) s541 s550 else none)))) else if ((xs x3.toNatClampNeg) &&& (31 : Int32)) = (8 : Int32) then zb (fn_P_culprit σ) (fun r559 s559 => zb (fn_M_culprit τ) (fun r563 s563 => if r559 = r563 then fn_L_law_18 L xs n (x3 + 7) s559 s563 else none)) else if ((xs x3.toNatClampNeg) &&& (31 : Int32)) = (9 : Int32) then zgd (zin (x3 + (1 : Int32)) L) (zgd (zin (x3 + (2 : Int32)) L) (zb (fn_P_breaks (xs (x3 + (1 : Int32)).toNatClampNeg) (xs (x3 + (2 : Int32)).toNatClampNeg) σ) (fun r582 s582 => zgd (zin (x3 + (1 : Int32)) L) (zgd (zin (x3 + (2 : Int32)) L) (zb (fn_M_breaks (xs (x3 + (1 : Int32)).toNatClampNeg) (xs (x3 + (2 : Int32)).toNatClampNeg) τ) (fun r596 s596 => if r582 = r596 then fn_L_law_18 L xs n (x3 + 7) s582 s596 else none)))))) else if ((xs x3.toNatClampNeg) &&& (31 : Int32)) = (10 : Int32) then zgd (zin (x3 + (1 : Int32)) L) (zb (fn_P_closure (xs (x3 + (1 : Int32)).toNatClampNeg) σ) (fun r610 s610 => zgd (zin (x3 + (1 : Int32)) L) (zb (fn_M_closure (xs (x3 + (1 : Int32)).toNatClampNeg) τ) (fun r619 s619 => if r610 = r619 then fn_L_law_18 L xs n (x3 + 7) s610 s619 else none)))) else if ((xs x3.toNatClampNeg) &&& (31 : Int32)) = (11 : Int32) then zgd (zin (x3 + (1 : Int32)) L) (zb (fn_P_at (xs (x3 + (1 : Int32)).toNatClampNeg) σ) (fun r633 s633 => zgd (zin (x3 + (1 : Int32)) L) (zb (fn_M_at (xs (x3 + (1 : Int32)).toNatClampNeg) τ) (fun r642 s642 => if r633 = r642 then fn_L_law_18 L xs n (x3 + 7) s633 s642 else none)))) else if ((xs x3.toNatClampNeg) &&& (31 : Int32)) = (12 : Int32) then zgd (zin (x3 + (1 : Int32)) L) (zgd (zin (x3 + (2 : Int32)) L) (zgd (zin (x3 + (3 : Int32)) L) (zb (fn_P_holds ((zlsh ((xs (x3 + (1 : Int32)).toNatClampNeg).toInt64) (32 : Int32)) ||| (((xs (x3 + (2 : Int32)).toNatClampNeg).toInt64) &&& (4294967295 : Int64))) (xs (x3 + (3 : Int32)).toNatClampNeg) σ) (fun r676 s676 => zgd (zin (x3 + (1 : Int32)) L) (zgd (zin (x3 + (2 : Int32)) L) (zgd (zin (x3 + (3 : Int32)) L) (zb (fn_M_holds ((zlsh ((xs (x3 + (1 : Int32)).toNatClampNeg).toInt64) (32 : Int32)) ||| (((xs (x3 + (2 : Int32)).toNatClampNeg).toInt64) &&& (4294967295 : Int64))) (xs (x3 + (3 : Int32)).toNatClampNeg) τ) (fun r705 s705 => if r676 = r705 then fn_L_law_18 L xs n (x3 + 7) s676 s705 else none)))))))) else if ((xs x3.toNatClampNeg) &&& (31 : Int32)) = (13 : Int32) then zgd (zin (x3 + (1 : Int32)) L) (zgd (zin (x3 + (2 : Int32)) L) (zb (fn_P_missing (xs (x3 + (1 : Int32)).toNatClampNeg) (xs (x3 + (2 : Int32)).toNatClampNeg) σ) (fun r724 s724 => zgd (zin (x3 + (1 : Int32)) L) (zgd (zin (x3 + (2 : Int32)) L) (zb (fn_M_missing (xs (x3 + (1 : Int32)).toNatClampNeg) (xs (x3 + (2 : Int32)).toNatClampNeg) τ) (fun r738 s738 => if r724 = r738 then fn_L_law_18 L xs n (x3 + 7) s724 s738 else none)))))) else if ((xs x3.toNatClampNeg) &&& (31 : Int32)) = (14 : Int32) then zgd (zin (x3 + (1 : Int32)) L) (zgd (zin (x3 + (2 : Int32)) L) (zb (fn_P_rebuilt (xs (x3 + (1 : Int32)).toNatClampNeg) (xs (x3 + (2 : Int32)).toNatClampNeg) σ) (fun r757 s757 => zgd (zin (x3 + (1 : Int32)) L) (zgd (zin (x3 + (2 : Int32)) L) (zb (fn_M_rebuilt (xs (x3 + (1 : Int32)).toNatClampNeg) (xs (x3 + (2 : Int32)).toNatClampNeg) τ) (fun r771 s771 => if r757 = r771 then fn_L_law_18 L xs n (x3 + 7) s757 s771 else none)))))) else if ((xs x3.toNatClampNeg) &&& (31 : Int32)) = (15 : Int32) then zgd (zin (x3 + (1 : Int32)) L) (zgd (zin (x3 + (2 : Int32)) L) (zb (fn_P_differ (xs (x3 + (1 : Int32)).toNatClampNeg) (xs (x3 + (2 : Int32)).toNatClampNeg) σ) (fun r790 s790 => zgd (zin (x3 + (1 : Int32)) L) (zgd (zin (x3 + (2 : Int32)) L) (zb (fn_M_differ (xs (x3 + (1 : Int32)).toNatClampNeg) (xs (x3 + (2 : Int32)).toNatClampNeg) τ) (fun r804 s804 => if r790 = r804 then fn_L_law_18 L xs n (x3 + 7) s790 s804 else none)))))) else if ((xs x3.toNatClampNeg) &&& (31 : Int32)) = (16 : Int32) then zgd (zin (x3 + (1 : Int32)) L) (zgd (zin (x3 + (2 : Int32)) L) (zb (fn_P_clash (xs (x3 + (1 : Int32)).toNatClampNeg) (xs (x3 + (2 : Int32)).toNatClampNeg) σ) (fun r823 s823 => zgd (zin (x3 + (1 : Int32)) L) (zgd (zin (x3 + (2 : Int32)) L) (zb (fn_M_clash (xs (x3 + (1 : Int32)).toNatClampNeg) (xs (x3 + (2 : Int32)).toNatClampNeg) τ) (fun r837 s837 => if r823 = r837 then fn_L_law_18 L xs n (x3 + 7) s823 s837 else none)))))) else fn_L_law_18 L xs n (x3 + 7) σ τ)) _ _ _ _
    refine z_iload_n (i := 3) hX d_L_law_18 rfl rfl ?_
    refine z_aload_n (i := 0) hX d_L_law_19 rfl rfl ?_
    refine z_slen hXL d_L_law_20 ?_
    refine z_bipush (v := 7) hX d_L_law_21 (by decide) ?_
    refine z_isub hX d_L_law_23 ?_
    refine z_icmp_gt (tgt := 851) hX d_L_law_24 (by decide) (fun c24 => ?_) (fun c24 => ?_)
    · refine z_iconst (v := 1) hX d_L_law_851 (by decide) ?_
      exact z_lawret hR d_L_law_852
    · refine z_aload_n (i := 0) hX d_L_law_27 rfl rfl ?_
      refine z_iload_n (i := 3) hX d_L_law_28 rfl rfl ?_
      refine z_sld hXL d_L_law_29 ?_
      refine z_bipush (v := 31) hX d_L_law_30 (by decide) ?_
      refine z_iand hX d_L_law_32 ?_
      refine z_by (fun c33_0 => ?_) (fun c33_0 => ?_)
      · refine z_tabIn (tgt := 116) (off := 83) hX d_L_law_33 (by rw [c33_0]; decide) (by rw [c33_0]; decide) (by rw [c33_0]; rfl) (by decide) ?_
        refine z_aload_n (i := 1) hX d_L_law_116 rfl rfl ?_
        refine z_aload_n (i := 0) hX d_L_law_117 rfl rfl ?_
        refine z_iload_n (i := 3) hX d_L_law_118 rfl rfl ?_
        refine z_iconst (v := 1) hX d_L_law_119 (by decide) ?_
        refine z_iadd hX d_L_law_120 ?_
        refine z_sld hXL d_L_law_121 ?_
        refine z_i2l hX d_L_law_122 ?_
        refine z_bipush (v := 32) hX d_L_law_123 (by decide) ?_
        refine z_lshl hX d_L_law_125 ?_
        refine z_aload_n (i := 0) hX d_L_law_126 rfl rfl ?_
        refine z_iload_n (i := 3) hX d_L_law_127 rfl rfl ?_
        refine z_iconst (v := 2) hX d_L_law_128 (by decide) ?_
        refine z_iadd hX d_L_law_129 ?_
        refine z_sld hXL d_L_law_130 ?_
        refine z_i2l hX d_L_law_131 ?_
        refine z_ldc2 (v := 4294967295) hX w_constL_L_13_4294967295 d_L_law_132 ?_
        refine z_land hX d_L_law_135 ?_
        refine z_lor hX d_L_law_136 ?_
        refine z_aload_n (i := 0) hX d_L_law_137 rfl rfl ?_
        refine z_iload_n (i := 3) hX d_L_law_138 rfl rfl ?_
        refine z_iconst (v := 3) hX d_L_law_139 (by decide) ?_
        refine z_iadd hX d_L_law_140 ?_
        refine z_sld hXL d_L_law_141 ?_
        refine z_aload_n (i := 0) hX d_L_law_142 rfl rfl ?_
        refine z_iload_n (i := 3) hX d_L_law_143 rfl rfl ?_
        refine z_iconst (v := 4) hX d_L_law_144 (by decide) ?_
        refine z_iadd hX d_L_law_145 ?_
        refine z_sld hXL d_L_law_146 ?_
        refine z_callVi (wl := zwC ad ca) (C := R_P) (n := 3) (rest := []) hX [.long ((zlsh ((xs (x3 + (1 : Int32)).toNatClampNeg).toInt64) (32 : Int32)) ||| (((xs (x3 + (2 : Int32)).toNatClampNeg).toInt64) &&& (4294967295 : Int64))), .int (xs (x3 + (3 : Int32)).toNatClampNeg), .int (xs (x3 + (4 : Int32)).toNatClampNeg)] (ct_P_source l D ad ca ((zlsh ((xs (x3 + (1 : Int32)).toNatClampNeg).toInt64) (32 : Int32)) ||| (((xs (x3 + (2 : Int32)).toNatClampNeg).toInt64) &&& (4294967295 : Int64))) (xs (x3 + (3 : Int32)).toNatClampNeg) (xs (x3 + (4 : Int32)).toNatClampNeg) σ) gV_L_15 ⟨rfl, rfl⟩ ⟨by decide, by decide⟩ (by decide +kernel) rfl 0 rfl rfl rfl rfl (Nat.le_of_ble_eq_true rfl) d_L_law_147 (fun r147 s147 => ?_)
        refine z_aload_n (i := 2) hX d_L_law_150 rfl rfl ?_
        refine z_aload_n (i := 0) hX d_L_law_151 rfl rfl ?_
        refine z_iload_n (i := 3) hX d_L_law_152 rfl rfl ?_
        refine z_iconst (v := 1) hX d_L_law_153 (by decide) ?_
        refine z_iadd hX d_L_law_154 ?_
        refine z_sld hXL d_L_law_155 ?_
        refine z_i2l hX d_L_law_156 ?_
        refine z_bipush (v := 32) hX d_L_law_157 (by decide) ?_
        refine z_lshl hX d_L_law_159 ?_
        refine z_aload_n (i := 0) hX d_L_law_160 rfl rfl ?_
        refine z_iload_n (i := 3) hX d_L_law_161 rfl rfl ?_
        refine z_iconst (v := 2) hX d_L_law_162 (by decide) ?_
        refine z_iadd hX d_L_law_163 ?_
        refine z_sld hXL d_L_law_164 ?_
        refine z_i2l hX d_L_law_165 ?_
        refine z_ldc2 (v := 4294967295) hX w_constL_L_13_4294967295 d_L_law_166 ?_
        refine z_land hX d_L_law_169 ?_
        refine z_lor hX d_L_law_170 ?_
        refine z_aload_n (i := 0) hX d_L_law_171 rfl rfl ?_
        refine z_iload_n (i := 3) hX d_L_law_172 rfl rfl ?_
        refine z_iconst (v := 3) hX d_L_law_173 (by decide) ?_
        refine z_iadd hX d_L_law_174 ?_
        refine z_sld hXL d_L_law_175 ?_
        refine z_aload_n (i := 0) hX d_L_law_176 rfl rfl ?_
        refine z_iload_n (i := 3) hX d_L_law_177 rfl rfl ?_
        refine z_iconst (v := 4) hX d_L_law_178 (by decide) ?_
        refine z_iadd hX d_L_law_179 ?_
        refine z_sld hXL d_L_law_180 ?_
        refine z_swap hX ?_
        refine z_callVi (wl := zwM ad ca) (C := R_M) (n := 3) (rest := [.int r147]) hX [.long ((zlsh ((xs (x3 + (1 : Int32)).toNatClampNeg).toInt64) (32 : Int32)) ||| (((xs (x3 + (2 : Int32)).toNatClampNeg).toInt64) &&& (4294967295 : Int64))), .int (xs (x3 + (3 : Int32)).toNatClampNeg), .int (xs (x3 + (4 : Int32)).toNatClampNeg)] (ct_M_source l D ad ca ((zlsh ((xs (x3 + (1 : Int32)).toNatClampNeg).toInt64) (32 : Int32)) ||| (((xs (x3 + (2 : Int32)).toNatClampNeg).toInt64) &&& (4294967295 : Int64))) (xs (x3 + (3 : Int32)).toNatClampNeg) (xs (x3 + (4 : Int32)).toNatClampNeg) τ) gV_L_19 ⟨rfl, rfl⟩ ⟨by decide, by decide⟩ (by decide +kernel) rfl 0 rfl rfl rfl rfl (Nat.le_of_ble_eq_true rfl) d_L_law_181 (fun r181 s181 => ?_)
        refine z_swap hX ?_
        refine z_icmp_eq (tgt := 845) hX d_L_law_184 (by decide) (fun c184 => ?_) (fun c184 => ?_)
        · refine z_iinc (v := x3 + 7) (lv2 := [(3, .int (x3 + 7)), (0, .ref b), (1, .ref (ad 0)), (2, .ref (ad 30))]) hX d_L_law_845 3 rfl (by first | rfl | decide) (by decide) rfl ?_
          refine z_goto (tgt := 18) hX d_L_law_848 (by decide) ?_
          refine z_lv hX [1, 2, 3, 0] (lv2 := [(0, .ref b), (1, .ref (ad 0)), (2, .ref (ad 30)), (3, .int (x3 + 7))]) rfl ?_
          exact ih _ _ _
        · refine z_iconst (v := 0) hX d_L_law_187 (by decide) ?_
          exact z_none
      · refine z_by (fun c33_1 => ?_) (fun c33_1 => ?_)
        · refine z_tabIn (tgt := 189) (off := 156) hX d_L_law_33 (by rw [c33_1]; decide) (by rw [c33_1]; decide) (by rw [c33_1]; rfl) (by decide) ?_
          refine z_aload_n (i := 1) hX d_L_law_189 rfl rfl ?_
          refine z_aload_n (i := 0) hX d_L_law_190 rfl rfl ?_
          refine z_iload_n (i := 3) hX d_L_law_191 rfl rfl ?_
          refine z_iconst (v := 1) hX d_L_law_192 (by decide) ?_
          refine z_iadd hX d_L_law_193 ?_
          refine z_sld hXL d_L_law_194 ?_
          refine z_aload_n (i := 0) hX d_L_law_195 rfl rfl ?_
          refine z_iload_n (i := 3) hX d_L_law_196 rfl rfl ?_
          refine z_iconst (v := 2) hX d_L_law_197 (by decide) ?_
          refine z_iadd hX d_L_law_198 ?_
          refine z_sld hXL d_L_law_199 ?_
          refine z_if_eq (tgt := 207) hX d_L_law_200 (by decide) (fun c200 => ?_) (fun c200 => ?_)
          · refine z_iconst (v := 0) hX d_L_law_207 (by decide) ?_
            refine z_callVi (wl := zwC ad ca) (C := R_P) (n := 2) (rest := []) hX [.int (xs (x3 + (1 : Int32)).toNatClampNeg), .int (0 : Int32)] (ct_P_fetched l D ad ca (xs (x3 + (1 : Int32)).toNatClampNeg) (0 : Int32) σ) gV_L_20 ⟨rfl, rfl⟩ ⟨by decide, by decide⟩ (by decide +kernel) rfl 0 rfl rfl rfl rfl (Nat.le_of_ble_eq_true rfl) d_L_law_208 (fun r208 s208 => ?_)
            refine z_aload_n (i := 2) hX d_L_law_211 rfl rfl ?_
            refine z_aload_n (i := 0) hX d_L_law_212 rfl rfl ?_
            refine z_iload_n (i := 3) hX d_L_law_213 rfl rfl ?_
            refine z_iconst (v := 1) hX d_L_law_214 (by decide) ?_
            refine z_iadd hX d_L_law_215 ?_
            refine z_sld hXL d_L_law_216 ?_
            refine z_aload_n (i := 0) hX d_L_law_217 rfl rfl ?_
            refine z_iload_n (i := 3) hX d_L_law_218 rfl rfl ?_
            refine z_iconst (v := 2) hX d_L_law_219 (by decide) ?_
            refine z_iadd hX d_L_law_220 ?_
            refine z_sld hXL d_L_law_221 ?_
            refine z_if_eq (tgt := 229) hX d_L_law_222 (by decide) (fun c222 => ?_) (fun c222 => ?_)
            · refine z_iconst (v := 0) hX d_L_law_229 (by decide) ?_
              refine z_swap hX ?_
              refine z_callVi (wl := zwM ad ca) (C := R_M) (n := 2) (rest := [.int r208]) hX [.int (xs (x3 + (1 : Int32)).toNatClampNeg), .int (0 : Int32)] (ct_M_fetched l D ad ca (xs (x3 + (1 : Int32)).toNatClampNeg) (0 : Int32) τ) gV_L_24 ⟨rfl, rfl⟩ ⟨by decide, by decide⟩ (by decide +kernel) rfl 0 rfl rfl rfl rfl (Nat.le_of_ble_eq_true rfl) d_L_law_230 (fun r230 s230 => ?_)
              refine z_swap hX ?_
              refine z_icmp_eq (tgt := 845) hX d_L_law_233 (by decide) (fun c233 => ?_) (fun c233 => ?_)
              · refine z_iinc (v := x3 + 7) (lv2 := [(3, .int (x3 + 7)), (0, .ref b), (1, .ref (ad 0)), (2, .ref (ad 30))]) hX d_L_law_845 3 rfl (by first | rfl | decide) (by decide) rfl ?_
                refine z_goto (tgt := 18) hX d_L_law_848 (by decide) ?_
                refine z_lv hX [1, 2, 3, 0] (lv2 := [(0, .ref b), (1, .ref (ad 0)), (2, .ref (ad 30)), (3, .int (x3 + 7))]) rfl ?_
                exact ih _ _ _
              · refine z_iconst (v := 0) hX d_L_law_236 (by decide) ?_
                exact z_none
            · refine z_iconst (v := 1) hX d_L_law_225 (by decide) ?_
              refine z_goto (tgt := 230) hX d_L_law_226 (by decide) ?_
              refine z_swap hX ?_
              refine z_callVi (wl := zwM ad ca) (C := R_M) (n := 2) (rest := [.int r208]) hX [.int (xs (x3 + (1 : Int32)).toNatClampNeg), .int (1 : Int32)] (ct_M_fetched l D ad ca (xs (x3 + (1 : Int32)).toNatClampNeg) (1 : Int32) τ) gV_L_24 ⟨rfl, rfl⟩ ⟨by decide, by decide⟩ (by decide +kernel) rfl 0 rfl rfl rfl rfl (Nat.le_of_ble_eq_true rfl) d_L_law_230 (fun r230 s230 => ?_)
              refine z_swap hX ?_
              refine z_icmp_eq (tgt := 845) hX d_L_law_233 (by decide) (fun c233 => ?_) (fun c233 => ?_)
              · refine z_iinc (v := x3 + 7) (lv2 := [(3, .int (x3 + 7)), (0, .ref b), (1, .ref (ad 0)), (2, .ref (ad 30))]) hX d_L_law_845 3 rfl (by first | rfl | decide) (by decide) rfl ?_
                refine z_goto (tgt := 18) hX d_L_law_848 (by decide) ?_
                refine z_lv hX [1, 2, 3, 0] (lv2 := [(0, .ref b), (1, .ref (ad 0)), (2, .ref (ad 30)), (3, .int (x3 + 7))]) rfl ?_
                exact ih _ _ _
              · refine z_iconst (v := 0) hX d_L_law_236 (by decide) ?_
                exact z_none
          · refine z_iconst (v := 1) hX d_L_law_203 (by decide) ?_
            refine z_goto (tgt := 208) hX d_L_law_204 (by decide) ?_
            refine z_callVi (wl := zwC ad ca) (C := R_P) (n := 2) (rest := []) hX [.int (xs (x3 + (1 : Int32)).toNatClampNeg), .int (1 : Int32)] (ct_P_fetched l D ad ca (xs (x3 + (1 : Int32)).toNatClampNeg) (1 : Int32) σ) gV_L_20 ⟨rfl, rfl⟩ ⟨by decide, by decide⟩ (by decide +kernel) rfl 0 rfl rfl rfl rfl (Nat.le_of_ble_eq_true rfl) d_L_law_208 (fun r208 s208 => ?_)
            refine z_aload_n (i := 2) hX d_L_law_211 rfl rfl ?_
            refine z_aload_n (i := 0) hX d_L_law_212 rfl rfl ?_
            refine z_iload_n (i := 3) hX d_L_law_213 rfl rfl ?_
            refine z_iconst (v := 1) hX d_L_law_214 (by decide) ?_
            refine z_iadd hX d_L_law_215 ?_
            refine z_sld hXL d_L_law_216 ?_
            refine z_aload_n (i := 0) hX d_L_law_217 rfl rfl ?_
            refine z_iload_n (i := 3) hX d_L_law_218 rfl rfl ?_
            refine z_iconst (v := 2) hX d_L_law_219 (by decide) ?_
            refine z_iadd hX d_L_law_220 ?_
            refine z_sld hXL d_L_law_221 ?_
            refine z_if_eq (tgt := 229) hX d_L_law_222 (by decide) (fun c222 => ?_) (fun c222 => ?_)
            · refine z_iconst (v := 0) hX d_L_law_229 (by decide) ?_
              refine z_swap hX ?_
              refine z_callVi (wl := zwM ad ca) (C := R_M) (n := 2) (rest := [.int r208]) hX [.int (xs (x3 + (1 : Int32)).toNatClampNeg), .int (0 : Int32)] (ct_M_fetched l D ad ca (xs (x3 + (1 : Int32)).toNatClampNeg) (0 : Int32) τ) gV_L_24 ⟨rfl, rfl⟩ ⟨by decide, by decide⟩ (by decide +kernel) rfl 0 rfl rfl rfl rfl (Nat.le_of_ble_eq_true rfl) d_L_law_230 (fun r230 s230 => ?_)
              refine z_swap hX ?_
              refine z_icmp_eq (tgt := 845) hX d_L_law_233 (by decide) (fun c233 => ?_) (fun c233 => ?_)
              · refine z_iinc (v := x3 + 7) (lv2 := [(3, .int (x3 + 7)), (0, .ref b), (1, .ref (ad 0)), (2, .ref (ad 30))]) hX d_L_law_845 3 rfl (by first | rfl | decide) (by decide) rfl ?_
                refine z_goto (tgt := 18) hX d_L_law_848 (by decide) ?_
                refine z_lv hX [1, 2, 3, 0] (lv2 := [(0, .ref b), (1, .ref (ad 0)), (2, .ref (ad 30)), (3, .int (x3 + 7))]) rfl ?_
                exact ih _ _ _
              · refine z_iconst (v := 0) hX d_L_law_236 (by decide) ?_
                exact z_none
            · refine z_iconst (v := 1) hX d_L_law_225 (by decide) ?_
              refine z_goto (tgt := 230) hX d_L_law_226 (by decide) ?_
              refine z_swap hX ?_
              refine z_callVi (wl := zwM ad ca) (C := R_M) (n := 2) (rest := [.int r208]) hX [.int (xs (x3 + (1 : Int32)).toNatClampNeg), .int (1 : Int32)] (ct_M_fetched l D ad ca (xs (x3 + (1 : Int32)).toNatClampNeg) (1 : Int32) τ) gV_L_24 ⟨rfl, rfl⟩ ⟨by decide, by decide⟩ (by decide +kernel) rfl 0 rfl rfl rfl rfl (Nat.le_of_ble_eq_true rfl) d_L_law_230 (fun r230 s230 => ?_)
              refine z_swap hX ?_
              refine z_icmp_eq (tgt := 845) hX d_L_law_233 (by decide) (fun c233 => ?_) (fun c233 => ?_)
              · refine z_iinc (v := x3 + 7) (lv2 := [(3, .int (x3 + 7)), (0, .ref b), (1, .ref (ad 0)), (2, .ref (ad 30))]) hX d_L_law_845 3 rfl (by first | rfl | decide) (by decide) rfl ?_
                refine z_goto (tgt := 18) hX d_L_law_848 (by decide) ?_
                refine z_lv hX [1, 2, 3, 0] (lv2 := [(0, .ref b), (1, .ref (ad 0)), (2, .ref (ad 30)), (3, .int (x3 + 7))]) rfl ?_
                exact ih _ _ _
              · refine z_iconst (v := 0) hX d_L_law_236 (by decide) ?_
                exact z_none
        · refine z_by (fun c33_2 => ?_) (fun c33_2 => ?_)
          · refine z_tabIn (tgt := 238) (off := 205) hX d_L_law_33 (by rw [c33_2]; decide) (by rw [c33_2]; decide) (by rw [c33_2]; rfl) (by decide) ?_
            refine z_aload_n (i := 1) hX d_L_law_238 rfl rfl ?_
            refine z_aload_n (i := 0) hX d_L_law_239 rfl rfl ?_
            refine z_iload_n (i := 3) hX d_L_law_240 rfl rfl ?_
            refine z_iconst (v := 1) hX d_L_law_241 (by decide) ?_
            refine z_iadd hX d_L_law_242 ?_
            refine z_sld hXL d_L_law_243 ?_
            refine z_i2l hX d_L_law_244 ?_
            refine z_bipush (v := 32) hX d_L_law_245 (by decide) ?_
            refine z_lshl hX d_L_law_247 ?_
            refine z_aload_n (i := 0) hX d_L_law_248 rfl rfl ?_
            refine z_iload_n (i := 3) hX d_L_law_249 rfl rfl ?_
            refine z_iconst (v := 2) hX d_L_law_250 (by decide) ?_
            refine z_iadd hX d_L_law_251 ?_
            refine z_sld hXL d_L_law_252 ?_
            refine z_i2l hX d_L_law_253 ?_
            refine z_ldc2 (v := 4294967295) hX w_constL_L_13_4294967295 d_L_law_254 ?_
            refine z_land hX d_L_law_257 ?_
            refine z_lor hX d_L_law_258 ?_
            refine z_aload_n (i := 0) hX d_L_law_259 rfl rfl ?_
            refine z_iload_n (i := 3) hX d_L_law_260 rfl rfl ?_
            refine z_iconst (v := 3) hX d_L_law_261 (by decide) ?_
            refine z_iadd hX d_L_law_262 ?_
            refine z_sld hXL d_L_law_263 ?_
            refine z_aload_n (i := 0) hX d_L_law_264 rfl rfl ?_
            refine z_iload_n (i := 3) hX d_L_law_265 rfl rfl ?_
            refine z_iconst (v := 4) hX d_L_law_266 (by decide) ?_
            refine z_iadd hX d_L_law_267 ?_
            refine z_sld hXL d_L_law_268 ?_
            refine z_aload_n (i := 0) hX d_L_law_269 rfl rfl ?_
            refine z_iload_n (i := 3) hX d_L_law_270 rfl rfl ?_
            refine z_iconst (v := 5) hX d_L_law_271 (by decide) ?_
            refine z_iadd hX d_L_law_272 ?_
            refine z_sld hXL d_L_law_273 ?_
            refine z_aload_n (i := 0) hX d_L_law_274 rfl rfl ?_
            refine z_iload_n (i := 3) hX d_L_law_275 rfl rfl ?_
            refine z_bipush (v := 6) hX d_L_law_276 (by decide) ?_
            refine z_iadd hX d_L_law_278 ?_
            refine z_sld hXL d_L_law_279 ?_
            refine z_callVi (wl := zwC ad ca) (C := R_P) (n := 5) (rest := []) hX [.long ((zlsh ((xs (x3 + (1 : Int32)).toNatClampNeg).toInt64) (32 : Int32)) ||| (((xs (x3 + (2 : Int32)).toNatClampNeg).toInt64) &&& (4294967295 : Int64))), .int (xs (x3 + (3 : Int32)).toNatClampNeg), .int (xs (x3 + (4 : Int32)).toNatClampNeg), .int (xs (x3 + (5 : Int32)).toNatClampNeg), .int (xs (x3 + (6 : Int32)).toNatClampNeg)] (ct_P_artefact l D ad ca ((zlsh ((xs (x3 + (1 : Int32)).toNatClampNeg).toInt64) (32 : Int32)) ||| (((xs (x3 + (2 : Int32)).toNatClampNeg).toInt64) &&& (4294967295 : Int64))) (xs (x3 + (3 : Int32)).toNatClampNeg) (xs (x3 + (4 : Int32)).toNatClampNeg) (xs (x3 + (5 : Int32)).toNatClampNeg) (xs (x3 + (6 : Int32)).toNatClampNeg) σ) gV_L_25 ⟨rfl, rfl⟩ ⟨by decide, by decide⟩ (by decide +kernel) rfl 0 rfl rfl rfl rfl (Nat.le_of_ble_eq_true rfl) d_L_law_280 (fun r280 s280 => ?_)
            refine z_aload_n (i := 2) hX d_L_law_283 rfl rfl ?_
            refine z_aload_n (i := 0) hX d_L_law_284 rfl rfl ?_
            refine z_iload_n (i := 3) hX d_L_law_285 rfl rfl ?_
            refine z_iconst (v := 1) hX d_L_law_286 (by decide) ?_
            refine z_iadd hX d_L_law_287 ?_
            refine z_sld hXL d_L_law_288 ?_
            refine z_i2l hX d_L_law_289 ?_
            refine z_bipush (v := 32) hX d_L_law_290 (by decide) ?_
            refine z_lshl hX d_L_law_292 ?_
            refine z_aload_n (i := 0) hX d_L_law_293 rfl rfl ?_
            refine z_iload_n (i := 3) hX d_L_law_294 rfl rfl ?_
            refine z_iconst (v := 2) hX d_L_law_295 (by decide) ?_
            refine z_iadd hX d_L_law_296 ?_
            refine z_sld hXL d_L_law_297 ?_
            refine z_i2l hX d_L_law_298 ?_
            refine z_ldc2 (v := 4294967295) hX w_constL_L_13_4294967295 d_L_law_299 ?_
            refine z_land hX d_L_law_302 ?_
            refine z_lor hX d_L_law_303 ?_
            refine z_aload_n (i := 0) hX d_L_law_304 rfl rfl ?_
            refine z_iload_n (i := 3) hX d_L_law_305 rfl rfl ?_
            refine z_iconst (v := 3) hX d_L_law_306 (by decide) ?_
            refine z_iadd hX d_L_law_307 ?_
            refine z_sld hXL d_L_law_308 ?_
            refine z_aload_n (i := 0) hX d_L_law_309 rfl rfl ?_
            refine z_iload_n (i := 3) hX d_L_law_310 rfl rfl ?_
            refine z_iconst (v := 4) hX d_L_law_311 (by decide) ?_
            refine z_iadd hX d_L_law_312 ?_
            refine z_sld hXL d_L_law_313 ?_
            refine z_aload_n (i := 0) hX d_L_law_314 rfl rfl ?_
            refine z_iload_n (i := 3) hX d_L_law_315 rfl rfl ?_
            refine z_iconst (v := 5) hX d_L_law_316 (by decide) ?_
            refine z_iadd hX d_L_law_317 ?_
            refine z_sld hXL d_L_law_318 ?_
            refine z_aload_n (i := 0) hX d_L_law_319 rfl rfl ?_
            refine z_iload_n (i := 3) hX d_L_law_320 rfl rfl ?_
            refine z_bipush (v := 6) hX d_L_law_321 (by decide) ?_
            refine z_iadd hX d_L_law_323 ?_
            refine z_sld hXL d_L_law_324 ?_
            refine z_swap hX ?_
            refine z_callVi (wl := zwM ad ca) (C := R_M) (n := 5) (rest := [.int r280]) hX [.long ((zlsh ((xs (x3 + (1 : Int32)).toNatClampNeg).toInt64) (32 : Int32)) ||| (((xs (x3 + (2 : Int32)).toNatClampNeg).toInt64) &&& (4294967295 : Int64))), .int (xs (x3 + (3 : Int32)).toNatClampNeg), .int (xs (x3 + (4 : Int32)).toNatClampNeg), .int (xs (x3 + (5 : Int32)).toNatClampNeg), .int (xs (x3 + (6 : Int32)).toNatClampNeg)] (ct_M_artefact l D ad ca ((zlsh ((xs (x3 + (1 : Int32)).toNatClampNeg).toInt64) (32 : Int32)) ||| (((xs (x3 + (2 : Int32)).toNatClampNeg).toInt64) &&& (4294967295 : Int64))) (xs (x3 + (3 : Int32)).toNatClampNeg) (xs (x3 + (4 : Int32)).toNatClampNeg) (xs (x3 + (5 : Int32)).toNatClampNeg) (xs (x3 + (6 : Int32)).toNatClampNeg) τ) gV_L_29 ⟨rfl, rfl⟩ ⟨by decide, by decide⟩ (by decide +kernel) rfl 0 rfl rfl rfl rfl (Nat.le_of_ble_eq_true rfl) d_L_law_325 (fun r325 s325 => ?_)
            refine z_swap hX ?_
            refine z_icmp_eq (tgt := 845) hX d_L_law_328 (by decide) (fun c328 => ?_) (fun c328 => ?_)
            · refine z_iinc (v := x3 + 7) (lv2 := [(3, .int (x3 + 7)), (0, .ref b), (1, .ref (ad 0)), (2, .ref (ad 30))]) hX d_L_law_845 3 rfl (by first | rfl | decide) (by decide) rfl ?_
              refine z_goto (tgt := 18) hX d_L_law_848 (by decide) ?_
              refine z_lv hX [1, 2, 3, 0] (lv2 := [(0, .ref b), (1, .ref (ad 0)), (2, .ref (ad 30)), (3, .int (x3 + 7))]) rfl ?_
              exact ih _ _ _
            · refine z_iconst (v := 0) hX d_L_law_331 (by decide) ?_
              exact z_none
          · refine z_by (fun c33_3 => ?_) (fun c33_3 => ?_)
            · refine z_tabIn (tgt := 333) (off := 300) hX d_L_law_33 (by rw [c33_3]; decide) (by rw [c33_3]; decide) (by rw [c33_3]; rfl) (by decide) ?_
              refine z_aload_n (i := 1) hX d_L_law_333 rfl rfl ?_
              refine z_aload_n (i := 0) hX d_L_law_334 rfl rfl ?_
              refine z_iload_n (i := 3) hX d_L_law_335 rfl rfl ?_
              refine z_iconst (v := 1) hX d_L_law_336 (by decide) ?_
              refine z_iadd hX d_L_law_337 ?_
              refine z_sld hXL d_L_law_338 ?_
              refine z_aload_n (i := 0) hX d_L_law_339 rfl rfl ?_
              refine z_iload_n (i := 3) hX d_L_law_340 rfl rfl ?_
              refine z_iconst (v := 2) hX d_L_law_341 (by decide) ?_
              refine z_iadd hX d_L_law_342 ?_
              refine z_sld hXL d_L_law_343 ?_
              refine z_callVi (wl := zwC ad ca) (C := R_P) (n := 2) (rest := []) hX [.int (xs (x3 + (1 : Int32)).toNatClampNeg), .int (xs (x3 + (2 : Int32)).toNatClampNeg)] (ct_P_uses l D ad ca (xs (x3 + (1 : Int32)).toNatClampNeg) (xs (x3 + (2 : Int32)).toNatClampNeg) σ) gV_L_30 ⟨rfl, rfl⟩ ⟨by decide, by decide⟩ (by decide +kernel) rfl 0 rfl rfl rfl rfl (Nat.le_of_ble_eq_true rfl) d_L_law_344 (fun r344 s344 => ?_)
              refine z_aload_n (i := 2) hX d_L_law_347 rfl rfl ?_
              refine z_aload_n (i := 0) hX d_L_law_348 rfl rfl ?_
              refine z_iload_n (i := 3) hX d_L_law_349 rfl rfl ?_
              refine z_iconst (v := 1) hX d_L_law_350 (by decide) ?_
              refine z_iadd hX d_L_law_351 ?_
              refine z_sld hXL d_L_law_352 ?_
              refine z_aload_n (i := 0) hX d_L_law_353 rfl rfl ?_
              refine z_iload_n (i := 3) hX d_L_law_354 rfl rfl ?_
              refine z_iconst (v := 2) hX d_L_law_355 (by decide) ?_
              refine z_iadd hX d_L_law_356 ?_
              refine z_sld hXL d_L_law_357 ?_
              refine z_swap hX ?_
              refine z_callVi (wl := zwM ad ca) (C := R_M) (n := 2) (rest := [.int r344]) hX [.int (xs (x3 + (1 : Int32)).toNatClampNeg), .int (xs (x3 + (2 : Int32)).toNatClampNeg)] (ct_M_uses l D ad ca (xs (x3 + (1 : Int32)).toNatClampNeg) (xs (x3 + (2 : Int32)).toNatClampNeg) τ) gV_L_34 ⟨rfl, rfl⟩ ⟨by decide, by decide⟩ (by decide +kernel) rfl 0 rfl rfl rfl rfl (Nat.le_of_ble_eq_true rfl) d_L_law_358 (fun r358 s358 => ?_)
              refine z_swap hX ?_
              refine z_icmp_eq (tgt := 845) hX d_L_law_361 (by decide) (fun c361 => ?_) (fun c361 => ?_)
              · refine z_iinc (v := x3 + 7) (lv2 := [(3, .int (x3 + 7)), (0, .ref b), (1, .ref (ad 0)), (2, .ref (ad 30))]) hX d_L_law_845 3 rfl (by first | rfl | decide) (by decide) rfl ?_
                refine z_goto (tgt := 18) hX d_L_law_848 (by decide) ?_
                refine z_lv hX [1, 2, 3, 0] (lv2 := [(0, .ref b), (1, .ref (ad 0)), (2, .ref (ad 30)), (3, .int (x3 + 7))]) rfl ?_
                exact ih _ _ _
              · refine z_iconst (v := 0) hX d_L_law_364 (by decide) ?_
                exact z_none
            · refine z_by (fun c33_4 => ?_) (fun c33_4 => ?_)
              · refine z_tabIn (tgt := 366) (off := 333) hX d_L_law_33 (by rw [c33_4]; decide) (by rw [c33_4]; decide) (by rw [c33_4]; rfl) (by decide) ?_
                refine z_aload_n (i := 1) hX d_L_law_366 rfl rfl ?_
                refine z_aload_n (i := 0) hX d_L_law_367 rfl rfl ?_
                refine z_iload_n (i := 3) hX d_L_law_368 rfl rfl ?_
                refine z_iconst (v := 1) hX d_L_law_369 (by decide) ?_
                refine z_iadd hX d_L_law_370 ?_
                refine z_sld hXL d_L_law_371 ?_
                refine z_aload_n (i := 0) hX d_L_law_372 rfl rfl ?_
                refine z_iload_n (i := 3) hX d_L_law_373 rfl rfl ?_
                refine z_iconst (v := 2) hX d_L_law_374 (by decide) ?_
                refine z_iadd hX d_L_law_375 ?_
                refine z_sld hXL d_L_law_376 ?_
                refine z_i2l hX d_L_law_377 ?_
                refine z_bipush (v := 32) hX d_L_law_378 (by decide) ?_
                refine z_lshl hX d_L_law_380 ?_
                refine z_aload_n (i := 0) hX d_L_law_381 rfl rfl ?_
                refine z_iload_n (i := 3) hX d_L_law_382 rfl rfl ?_
                refine z_iconst (v := 3) hX d_L_law_383 (by decide) ?_
                refine z_iadd hX d_L_law_384 ?_
                refine z_sld hXL d_L_law_385 ?_
                refine z_i2l hX d_L_law_386 ?_
                refine z_ldc2 (v := 4294967295) hX w_constL_L_13_4294967295 d_L_law_387 ?_
                refine z_land hX d_L_law_390 ?_
                refine z_lor hX d_L_law_391 ?_
                refine z_callVi (wl := zwC ad ca) (C := R_P) (n := 2) (rest := []) hX [.int (xs (x3 + (1 : Int32)).toNatClampNeg), .long ((zlsh ((xs (x3 + (2 : Int32)).toNatClampNeg).toInt64) (32 : Int32)) ||| (((xs (x3 + (3 : Int32)).toNatClampNeg).toInt64) &&& (4294967295 : Int64)))] (ct_P_needs l D ad ca (xs (x3 + (1 : Int32)).toNatClampNeg) ((zlsh ((xs (x3 + (2 : Int32)).toNatClampNeg).toInt64) (32 : Int32)) ||| (((xs (x3 + (3 : Int32)).toNatClampNeg).toInt64) &&& (4294967295 : Int64))) σ) gV_L_35 ⟨rfl, rfl⟩ ⟨by decide, by decide⟩ (by decide +kernel) rfl 0 rfl rfl rfl rfl (Nat.le_of_ble_eq_true rfl) d_L_law_392 (fun r392 s392 => ?_)
                refine z_aload_n (i := 2) hX d_L_law_395 rfl rfl ?_
                refine z_aload_n (i := 0) hX d_L_law_396 rfl rfl ?_
                refine z_iload_n (i := 3) hX d_L_law_397 rfl rfl ?_
                refine z_iconst (v := 1) hX d_L_law_398 (by decide) ?_
                refine z_iadd hX d_L_law_399 ?_
                refine z_sld hXL d_L_law_400 ?_
                refine z_aload_n (i := 0) hX d_L_law_401 rfl rfl ?_
                refine z_iload_n (i := 3) hX d_L_law_402 rfl rfl ?_
                refine z_iconst (v := 2) hX d_L_law_403 (by decide) ?_
                refine z_iadd hX d_L_law_404 ?_
                refine z_sld hXL d_L_law_405 ?_
                refine z_i2l hX d_L_law_406 ?_
                refine z_bipush (v := 32) hX d_L_law_407 (by decide) ?_
                refine z_lshl hX d_L_law_409 ?_
                refine z_aload_n (i := 0) hX d_L_law_410 rfl rfl ?_
                refine z_iload_n (i := 3) hX d_L_law_411 rfl rfl ?_
                refine z_iconst (v := 3) hX d_L_law_412 (by decide) ?_
                refine z_iadd hX d_L_law_413 ?_
                refine z_sld hXL d_L_law_414 ?_
                refine z_i2l hX d_L_law_415 ?_
                refine z_ldc2 (v := 4294967295) hX w_constL_L_13_4294967295 d_L_law_416 ?_
                refine z_land hX d_L_law_419 ?_
                refine z_lor hX d_L_law_420 ?_
                refine z_swap hX ?_
                refine z_callVi (wl := zwM ad ca) (C := R_M) (n := 2) (rest := [.int r392]) hX [.int (xs (x3 + (1 : Int32)).toNatClampNeg), .long ((zlsh ((xs (x3 + (2 : Int32)).toNatClampNeg).toInt64) (32 : Int32)) ||| (((xs (x3 + (3 : Int32)).toNatClampNeg).toInt64) &&& (4294967295 : Int64)))] (ct_M_needs l D ad ca (xs (x3 + (1 : Int32)).toNatClampNeg) ((zlsh ((xs (x3 + (2 : Int32)).toNatClampNeg).toInt64) (32 : Int32)) ||| (((xs (x3 + (3 : Int32)).toNatClampNeg).toInt64) &&& (4294967295 : Int64))) τ) gV_L_39 ⟨rfl, rfl⟩ ⟨by decide, by decide⟩ (by decide +kernel) rfl 0 rfl rfl rfl rfl (Nat.le_of_ble_eq_true rfl) d_L_law_421 (fun r421 s421 => ?_)
                refine z_swap hX ?_
                refine z_icmp_eq (tgt := 845) hX d_L_law_424 (by decide) (fun c424 => ?_) (fun c424 => ?_)
                · refine z_iinc (v := x3 + 7) (lv2 := [(3, .int (x3 + 7)), (0, .ref b), (1, .ref (ad 0)), (2, .ref (ad 30))]) hX d_L_law_845 3 rfl (by first | rfl | decide) (by decide) rfl ?_
                  refine z_goto (tgt := 18) hX d_L_law_848 (by decide) ?_
                  refine z_lv hX [1, 2, 3, 0] (lv2 := [(0, .ref b), (1, .ref (ad 0)), (2, .ref (ad 30)), (3, .int (x3 + 7))]) rfl ?_
                  exact ih _ _ _
                · refine z_iconst (v := 0) hX d_L_law_427 (by decide) ?_
                  exact z_none
              · refine z_by (fun c33_5 => ?_) (fun c33_5 => ?_)
                · refine z_tabIn (tgt := 429) (off := 396) hX d_L_law_33 (by rw [c33_5]; decide) (by rw [c33_5]; decide) (by rw [c33_5]; rfl) (by decide) ?_
                  refine z_aload_n (i := 1) hX d_L_law_429 rfl rfl ?_
                  refine z_aload_n (i := 0) hX d_L_law_430 rfl rfl ?_
                  refine z_iload_n (i := 3) hX d_L_law_431 rfl rfl ?_
                  refine z_iconst (v := 1) hX d_L_law_432 (by decide) ?_
                  refine z_iadd hX d_L_law_433 ?_
                  refine z_sld hXL d_L_law_434 ?_
                  refine z_aload_n (i := 0) hX d_L_law_435 rfl rfl ?_
                  refine z_iload_n (i := 3) hX d_L_law_436 rfl rfl ?_
                  refine z_iconst (v := 2) hX d_L_law_437 (by decide) ?_
                  refine z_iadd hX d_L_law_438 ?_
                  refine z_sld hXL d_L_law_439 ?_
                  refine z_aload_n (i := 0) hX d_L_law_440 rfl rfl ?_
                  refine z_iload_n (i := 3) hX d_L_law_441 rfl rfl ?_
                  refine z_iconst (v := 3) hX d_L_law_442 (by decide) ?_
                  refine z_iadd hX d_L_law_443 ?_
                  refine z_sld hXL d_L_law_444 ?_
                  refine z_i2l hX d_L_law_445 ?_
                  refine z_bipush (v := 32) hX d_L_law_446 (by decide) ?_
                  refine z_lshl hX d_L_law_448 ?_
                  refine z_aload_n (i := 0) hX d_L_law_449 rfl rfl ?_
                  refine z_iload_n (i := 3) hX d_L_law_450 rfl rfl ?_
                  refine z_iconst (v := 4) hX d_L_law_451 (by decide) ?_
                  refine z_iadd hX d_L_law_452 ?_
                  refine z_sld hXL d_L_law_453 ?_
                  refine z_i2l hX d_L_law_454 ?_
                  refine z_ldc2 (v := 4294967295) hX w_constL_L_13_4294967295 d_L_law_455 ?_
                  refine z_land hX d_L_law_458 ?_
                  refine z_lor hX d_L_law_459 ?_
                  refine z_callVi (wl := zwC ad ca) (C := R_P) (n := 3) (rest := []) hX [.int (xs (x3 + (1 : Int32)).toNatClampNeg), .int (xs (x3 + (2 : Int32)).toNatClampNeg), .long ((zlsh ((xs (x3 + (3 : Int32)).toNatClampNeg).toInt64) (32 : Int32)) ||| (((xs (x3 + (4 : Int32)).toNatClampNeg).toInt64) &&& (4294967295 : Int64)))] (ct_P_path l D ad ca (xs (x3 + (1 : Int32)).toNatClampNeg) (xs (x3 + (2 : Int32)).toNatClampNeg) ((zlsh ((xs (x3 + (3 : Int32)).toNatClampNeg).toInt64) (32 : Int32)) ||| (((xs (x3 + (4 : Int32)).toNatClampNeg).toInt64) &&& (4294967295 : Int64))) σ) gV_L_40 ⟨rfl, rfl⟩ ⟨by decide, by decide⟩ (by decide +kernel) rfl 0 rfl rfl rfl rfl (Nat.le_of_ble_eq_true rfl) d_L_law_460 (fun r460 s460 => ?_)
                  refine z_aload_n (i := 2) hX d_L_law_463 rfl rfl ?_
                  refine z_aload_n (i := 0) hX d_L_law_464 rfl rfl ?_
                  refine z_iload_n (i := 3) hX d_L_law_465 rfl rfl ?_
                  refine z_iconst (v := 1) hX d_L_law_466 (by decide) ?_
                  refine z_iadd hX d_L_law_467 ?_
                  refine z_sld hXL d_L_law_468 ?_
                  refine z_aload_n (i := 0) hX d_L_law_469 rfl rfl ?_
                  refine z_iload_n (i := 3) hX d_L_law_470 rfl rfl ?_
                  refine z_iconst (v := 2) hX d_L_law_471 (by decide) ?_
                  refine z_iadd hX d_L_law_472 ?_
                  refine z_sld hXL d_L_law_473 ?_
                  refine z_aload_n (i := 0) hX d_L_law_474 rfl rfl ?_
                  refine z_iload_n (i := 3) hX d_L_law_475 rfl rfl ?_
                  refine z_iconst (v := 3) hX d_L_law_476 (by decide) ?_
                  refine z_iadd hX d_L_law_477 ?_
                  refine z_sld hXL d_L_law_478 ?_
                  refine z_i2l hX d_L_law_479 ?_
                  refine z_bipush (v := 32) hX d_L_law_480 (by decide) ?_
                  refine z_lshl hX d_L_law_482 ?_
                  refine z_aload_n (i := 0) hX d_L_law_483 rfl rfl ?_
                  refine z_iload_n (i := 3) hX d_L_law_484 rfl rfl ?_
                  refine z_iconst (v := 4) hX d_L_law_485 (by decide) ?_
                  refine z_iadd hX d_L_law_486 ?_
                  refine z_sld hXL d_L_law_487 ?_
                  refine z_i2l hX d_L_law_488 ?_
                  refine z_ldc2 (v := 4294967295) hX w_constL_L_13_4294967295 d_L_law_489 ?_
                  refine z_land hX d_L_law_492 ?_
                  refine z_lor hX d_L_law_493 ?_
                  refine z_swap hX ?_
                  refine z_callVi (wl := zwM ad ca) (C := R_M) (n := 3) (rest := [.int r460]) hX [.int (xs (x3 + (1 : Int32)).toNatClampNeg), .int (xs (x3 + (2 : Int32)).toNatClampNeg), .long ((zlsh ((xs (x3 + (3 : Int32)).toNatClampNeg).toInt64) (32 : Int32)) ||| (((xs (x3 + (4 : Int32)).toNatClampNeg).toInt64) &&& (4294967295 : Int64)))] (ct_M_path l D ad ca (xs (x3 + (1 : Int32)).toNatClampNeg) (xs (x3 + (2 : Int32)).toNatClampNeg) ((zlsh ((xs (x3 + (3 : Int32)).toNatClampNeg).toInt64) (32 : Int32)) ||| (((xs (x3 + (4 : Int32)).toNatClampNeg).toInt64) &&& (4294967295 : Int64))) τ) gV_L_44 ⟨rfl, rfl⟩ ⟨by decide, by decide⟩ (by decide +kernel) rfl 0 rfl rfl rfl rfl (Nat.le_of_ble_eq_true rfl) d_L_law_494 (fun r494 s494 => ?_)
                  refine z_swap hX ?_
                  refine z_icmp_eq (tgt := 845) hX d_L_law_497 (by decide) (fun c497 => ?_) (fun c497 => ?_)
                  · refine z_iinc (v := x3 + 7) (lv2 := [(3, .int (x3 + 7)), (0, .ref b), (1, .ref (ad 0)), (2, .ref (ad 30))]) hX d_L_law_845 3 rfl (by first | rfl | decide) (by decide) rfl ?_
                    refine z_goto (tgt := 18) hX d_L_law_848 (by decide) ?_
                    refine z_lv hX [1, 2, 3, 0] (lv2 := [(0, .ref b), (1, .ref (ad 0)), (2, .ref (ad 30)), (3, .int (x3 + 7))]) rfl ?_
                    exact ih _ _ _
                  · refine z_iconst (v := 0) hX d_L_law_500 (by decide) ?_
                    exact z_none
                · refine z_by (fun c33_6 => ?_) (fun c33_6 => ?_)
                  · refine z_tabIn (tgt := 502) (off := 469) hX d_L_law_33 (by rw [c33_6]; decide) (by rw [c33_6]; decide) (by rw [c33_6]; rfl) (by decide) ?_
                    refine z_aload_n (i := 1) hX d_L_law_502 rfl rfl ?_
                    refine z_aload_n (i := 0) hX d_L_law_503 rfl rfl ?_
                    refine z_iload_n (i := 3) hX d_L_law_504 rfl rfl ?_
                    refine z_iconst (v := 1) hX d_L_law_505 (by decide) ?_
                    refine z_iadd hX d_L_law_506 ?_
                    refine z_sld hXL d_L_law_507 ?_
                    refine z_aload_n (i := 0) hX d_L_law_508 rfl rfl ?_
                    refine z_iload_n (i := 3) hX d_L_law_509 rfl rfl ?_
                    refine z_iconst (v := 2) hX d_L_law_510 (by decide) ?_
                    refine z_iadd hX d_L_law_511 ?_
                    refine z_sld hXL d_L_law_512 ?_
                    refine z_callVi (wl := zwC ad ca) (C := R_P) (n := 2) (rest := []) hX [.int (xs (x3 + (1 : Int32)).toNatClampNeg), .int (xs (x3 + (2 : Int32)).toNatClampNeg)] (ct_P_policy l D ad ca (xs (x3 + (1 : Int32)).toNatClampNeg) (xs (x3 + (2 : Int32)).toNatClampNeg) σ) gV_L_45 ⟨rfl, rfl⟩ ⟨by decide, by decide⟩ (by decide +kernel) rfl 0 rfl rfl rfl rfl (Nat.le_of_ble_eq_true rfl) d_L_law_513 (fun r513 s513 => ?_)
                    refine z_aload_n (i := 2) hX d_L_law_516 rfl rfl ?_
                    refine z_aload_n (i := 0) hX d_L_law_517 rfl rfl ?_
                    refine z_iload_n (i := 3) hX d_L_law_518 rfl rfl ?_
                    refine z_iconst (v := 1) hX d_L_law_519 (by decide) ?_
                    refine z_iadd hX d_L_law_520 ?_
                    refine z_sld hXL d_L_law_521 ?_
                    refine z_aload_n (i := 0) hX d_L_law_522 rfl rfl ?_
                    refine z_iload_n (i := 3) hX d_L_law_523 rfl rfl ?_
                    refine z_iconst (v := 2) hX d_L_law_524 (by decide) ?_
                    refine z_iadd hX d_L_law_525 ?_
                    refine z_sld hXL d_L_law_526 ?_
                    refine z_swap hX ?_
                    refine z_callVi (wl := zwM ad ca) (C := R_M) (n := 2) (rest := [.int r513]) hX [.int (xs (x3 + (1 : Int32)).toNatClampNeg), .int (xs (x3 + (2 : Int32)).toNatClampNeg)] (ct_M_policy l D ad ca (xs (x3 + (1 : Int32)).toNatClampNeg) (xs (x3 + (2 : Int32)).toNatClampNeg) τ) gV_L_49 ⟨rfl, rfl⟩ ⟨by decide, by decide⟩ (by decide +kernel) rfl 0 rfl rfl rfl rfl (Nat.le_of_ble_eq_true rfl) d_L_law_527 (fun r527 s527 => ?_)
                    refine z_swap hX ?_
                    refine z_icmp_eq (tgt := 845) hX d_L_law_530 (by decide) (fun c530 => ?_) (fun c530 => ?_)
                    · refine z_iinc (v := x3 + 7) (lv2 := [(3, .int (x3 + 7)), (0, .ref b), (1, .ref (ad 0)), (2, .ref (ad 30))]) hX d_L_law_845 3 rfl (by first | rfl | decide) (by decide) rfl ?_
                      refine z_goto (tgt := 18) hX d_L_law_848 (by decide) ?_
                      refine z_lv hX [1, 2, 3, 0] (lv2 := [(0, .ref b), (1, .ref (ad 0)), (2, .ref (ad 30)), (3, .int (x3 + 7))]) rfl ?_
                      exact ih _ _ _
                    · refine z_iconst (v := 0) hX d_L_law_533 (by decide) ?_
                      exact z_none
                  · refine z_by (fun c33_7 => ?_) (fun c33_7 => ?_)
                    · refine z_tabIn (tgt := 535) (off := 502) hX d_L_law_33 (by rw [c33_7]; decide) (by rw [c33_7]; decide) (by rw [c33_7]; rfl) (by decide) ?_
                      refine z_aload_n (i := 1) hX d_L_law_535 rfl rfl ?_
                      refine z_aload_n (i := 0) hX d_L_law_536 rfl rfl ?_
                      refine z_iload_n (i := 3) hX d_L_law_537 rfl rfl ?_
                      refine z_iconst (v := 1) hX d_L_law_538 (by decide) ?_
                      refine z_iadd hX d_L_law_539 ?_
                      refine z_sld hXL d_L_law_540 ?_
                      refine z_callVi (wl := zwC ad ca) (C := R_P) (n := 1) (rest := []) hX [.int (xs (x3 + (1 : Int32)).toNatClampNeg)] (ct_P_verdict l D ad ca (xs (x3 + (1 : Int32)).toNatClampNeg) σ) gV_L_50 ⟨rfl, rfl⟩ ⟨by decide, by decide⟩ (by decide +kernel) rfl 0 rfl rfl rfl rfl (Nat.le_of_ble_eq_true rfl) d_L_law_541 (fun r541 s541 => ?_)
                      refine z_aload_n (i := 2) hX d_L_law_544 rfl rfl ?_
                      refine z_aload_n (i := 0) hX d_L_law_545 rfl rfl ?_
                      refine z_iload_n (i := 3) hX d_L_law_546 rfl rfl ?_
                      refine z_iconst (v := 1) hX d_L_law_547 (by decide) ?_
                      refine z_iadd hX d_L_law_548 ?_
                      refine z_sld hXL d_L_law_549 ?_
                      refine z_swap hX ?_
                      refine z_callVi (wl := zwM ad ca) (C := R_M) (n := 1) (rest := [.int r541]) hX [.int (xs (x3 + (1 : Int32)).toNatClampNeg)] (ct_M_verdict l D ad ca (xs (x3 + (1 : Int32)).toNatClampNeg) τ) gV_L_54 ⟨rfl, rfl⟩ ⟨by decide, by decide⟩ (by decide +kernel) rfl 0 rfl rfl rfl rfl (Nat.le_of_ble_eq_true rfl) d_L_law_550 (fun r550 s550 => ?_)
                      refine z_swap hX ?_
                      refine z_icmp_eq (tgt := 845) hX d_L_law_553 (by decide) (fun c553 => ?_) (fun c553 => ?_)
                      · refine z_iinc (v := x3 + 7) (lv2 := [(3, .int (x3 + 7)), (0, .ref b), (1, .ref (ad 0)), (2, .ref (ad 30))]) hX d_L_law_845 3 rfl (by first | rfl | decide) (by decide) rfl ?_
                        refine z_goto (tgt := 18) hX d_L_law_848 (by decide) ?_
                        refine z_lv hX [1, 2, 3, 0] (lv2 := [(0, .ref b), (1, .ref (ad 0)), (2, .ref (ad 30)), (3, .int (x3 + 7))]) rfl ?_
                        exact ih _ _ _
                      · refine z_iconst (v := 0) hX d_L_law_556 (by decide) ?_
                        exact z_none
                    · refine z_by (fun c33_8 => ?_) (fun c33_8 => ?_)
                      · refine z_tabIn (tgt := 558) (off := 525) hX d_L_law_33 (by rw [c33_8]; decide) (by rw [c33_8]; decide) (by rw [c33_8]; rfl) (by decide) ?_
                        refine z_aload_n (i := 1) hX d_L_law_558 rfl rfl ?_
                        refine z_callVi (wl := zwC ad ca) (C := R_P) (n := 0) (rest := []) hX [] (ct_P_culprit l D ad ca σ) gV_L_55 ⟨rfl, rfl⟩ ⟨by decide, by decide⟩ (by decide +kernel) rfl 0 rfl rfl rfl rfl (Nat.le_of_ble_eq_true rfl) d_L_law_559 (fun r559 s559 => ?_)
                        refine z_aload_n (i := 2) hX d_L_law_562 rfl rfl ?_
                        refine z_swap hX ?_
                        refine z_callVi (wl := zwM ad ca) (C := R_M) (n := 0) (rest := [.int r559]) hX [] (ct_M_culprit l D ad ca τ) gV_L_59 ⟨rfl, rfl⟩ ⟨by decide, by decide⟩ (by decide +kernel) rfl 0 rfl rfl rfl rfl (Nat.le_of_ble_eq_true rfl) d_L_law_563 (fun r563 s563 => ?_)
                        refine z_swap hX ?_
                        refine z_icmp_eq (tgt := 845) hX d_L_law_566 (by decide) (fun c566 => ?_) (fun c566 => ?_)
                        · refine z_iinc (v := x3 + 7) (lv2 := [(3, .int (x3 + 7)), (0, .ref b), (1, .ref (ad 0)), (2, .ref (ad 30))]) hX d_L_law_845 3 rfl (by first | rfl | decide) (by decide) rfl ?_
                          refine z_goto (tgt := 18) hX d_L_law_848 (by decide) ?_
                          refine z_lv hX [1, 2, 3, 0] (lv2 := [(0, .ref b), (1, .ref (ad 0)), (2, .ref (ad 30)), (3, .int (x3 + 7))]) rfl ?_
                          exact ih _ _ _
                        · refine z_iconst (v := 0) hX d_L_law_569 (by decide) ?_
                          exact z_none
                      · refine z_by (fun c33_9 => ?_) (fun c33_9 => ?_)
                        · refine z_tabIn (tgt := 571) (off := 538) hX d_L_law_33 (by rw [c33_9]; decide) (by rw [c33_9]; decide) (by rw [c33_9]; rfl) (by decide) ?_
                          refine z_aload_n (i := 1) hX d_L_law_571 rfl rfl ?_
                          refine z_aload_n (i := 0) hX d_L_law_572 rfl rfl ?_
                          refine z_iload_n (i := 3) hX d_L_law_573 rfl rfl ?_
                          refine z_iconst (v := 1) hX d_L_law_574 (by decide) ?_
                          refine z_iadd hX d_L_law_575 ?_
                          refine z_sld hXL d_L_law_576 ?_
                          refine z_aload_n (i := 0) hX d_L_law_577 rfl rfl ?_
                          refine z_iload_n (i := 3) hX d_L_law_578 rfl rfl ?_
                          refine z_iconst (v := 2) hX d_L_law_579 (by decide) ?_
                          refine z_iadd hX d_L_law_580 ?_
                          refine z_sld hXL d_L_law_581 ?_
                          refine z_callVi (wl := zwC ad ca) (C := R_P) (n := 2) (rest := []) hX [.int (xs (x3 + (1 : Int32)).toNatClampNeg), .int (xs (x3 + (2 : Int32)).toNatClampNeg)] (ct_P_breaks l D ad ca (xs (x3 + (1 : Int32)).toNatClampNeg) (xs (x3 + (2 : Int32)).toNatClampNeg) σ) gV_L_60 ⟨rfl, rfl⟩ ⟨by decide, by decide⟩ (by decide +kernel) rfl 0 rfl rfl rfl rfl (Nat.le_of_ble_eq_true rfl) d_L_law_582 (fun r582 s582 => ?_)
                          refine z_aload_n (i := 2) hX d_L_law_585 rfl rfl ?_
                          refine z_aload_n (i := 0) hX d_L_law_586 rfl rfl ?_
                          refine z_iload_n (i := 3) hX d_L_law_587 rfl rfl ?_
                          refine z_iconst (v := 1) hX d_L_law_588 (by decide) ?_
                          refine z_iadd hX d_L_law_589 ?_
                          refine z_sld hXL d_L_law_590 ?_
                          refine z_aload_n (i := 0) hX d_L_law_591 rfl rfl ?_
                          refine z_iload_n (i := 3) hX d_L_law_592 rfl rfl ?_
                          refine z_iconst (v := 2) hX d_L_law_593 (by decide) ?_
                          refine z_iadd hX d_L_law_594 ?_
                          refine z_sld hXL d_L_law_595 ?_
                          refine z_swap hX ?_
                          refine z_callVi (wl := zwM ad ca) (C := R_M) (n := 2) (rest := [.int r582]) hX [.int (xs (x3 + (1 : Int32)).toNatClampNeg), .int (xs (x3 + (2 : Int32)).toNatClampNeg)] (ct_M_breaks l D ad ca (xs (x3 + (1 : Int32)).toNatClampNeg) (xs (x3 + (2 : Int32)).toNatClampNeg) τ) gV_L_63 ⟨rfl, rfl⟩ ⟨by decide, by decide⟩ (by decide +kernel) rfl 0 rfl rfl rfl rfl (Nat.le_of_ble_eq_true rfl) d_L_law_596 (fun r596 s596 => ?_)
                          refine z_swap hX ?_
                          refine z_icmp_eq (tgt := 845) hX d_L_law_599 (by decide) (fun c599 => ?_) (fun c599 => ?_)
                          · refine z_iinc (v := x3 + 7) (lv2 := [(3, .int (x3 + 7)), (0, .ref b), (1, .ref (ad 0)), (2, .ref (ad 30))]) hX d_L_law_845 3 rfl (by first | rfl | decide) (by decide) rfl ?_
                            refine z_goto (tgt := 18) hX d_L_law_848 (by decide) ?_
                            refine z_lv hX [1, 2, 3, 0] (lv2 := [(0, .ref b), (1, .ref (ad 0)), (2, .ref (ad 30)), (3, .int (x3 + 7))]) rfl ?_
                            exact ih _ _ _
                          · refine z_iconst (v := 0) hX d_L_law_602 (by decide) ?_
                            exact z_none
                        · refine z_by (fun c33_10 => ?_) (fun c33_10 => ?_)
                          · refine z_tabIn (tgt := 604) (off := 571) hX d_L_law_33 (by rw [c33_10]; decide) (by rw [c33_10]; decide) (by rw [c33_10]; rfl) (by decide) ?_
                            refine z_aload_n (i := 1) hX d_L_law_604 rfl rfl ?_
                            refine z_aload_n (i := 0) hX d_L_law_605 rfl rfl ?_
                            refine z_iload_n (i := 3) hX d_L_law_606 rfl rfl ?_
                            refine z_iconst (v := 1) hX d_L_law_607 (by decide) ?_
                            refine z_iadd hX d_L_law_608 ?_
                            refine z_sld hXL d_L_law_609 ?_
                            refine z_callVi (wl := zwC ad ca) (C := R_P) (n := 1) (rest := []) hX [.int (xs (x3 + (1 : Int32)).toNatClampNeg)] (ct_P_closure l D ad ca (xs (x3 + (1 : Int32)).toNatClampNeg) σ) gV_L_64 ⟨rfl, rfl⟩ ⟨by decide, by decide⟩ (by decide +kernel) rfl 0 rfl rfl rfl rfl (Nat.le_of_ble_eq_true rfl) d_L_law_610 (fun r610 s610 => ?_)
                            refine z_aload_n (i := 2) hX d_L_law_613 rfl rfl ?_
                            refine z_aload_n (i := 0) hX d_L_law_614 rfl rfl ?_
                            refine z_iload_n (i := 3) hX d_L_law_615 rfl rfl ?_
                            refine z_iconst (v := 1) hX d_L_law_616 (by decide) ?_
                            refine z_iadd hX d_L_law_617 ?_
                            refine z_sld hXL d_L_law_618 ?_
                            refine z_swap hX ?_
                            refine z_callVi (wl := zwM ad ca) (C := R_M) (n := 1) (rest := [.int r610]) hX [.int (xs (x3 + (1 : Int32)).toNatClampNeg)] (ct_M_closure l D ad ca (xs (x3 + (1 : Int32)).toNatClampNeg) τ) gV_L_67 ⟨rfl, rfl⟩ ⟨by decide, by decide⟩ (by decide +kernel) rfl 0 rfl rfl rfl rfl (Nat.le_of_ble_eq_true rfl) d_L_law_619 (fun r619 s619 => ?_)
                            refine z_swap hX ?_
                            refine z_icmp_eq (tgt := 845) hX d_L_law_622 (by decide) (fun c622 => ?_) (fun c622 => ?_)
                            · refine z_iinc (v := x3 + 7) (lv2 := [(3, .int (x3 + 7)), (0, .ref b), (1, .ref (ad 0)), (2, .ref (ad 30))]) hX d_L_law_845 3 rfl (by first | rfl | decide) (by decide) rfl ?_
                              refine z_goto (tgt := 18) hX d_L_law_848 (by decide) ?_
                              refine z_lv hX [1, 2, 3, 0] (lv2 := [(0, .ref b), (1, .ref (ad 0)), (2, .ref (ad 30)), (3, .int (x3 + 7))]) rfl ?_
                              exact ih _ _ _
                            · refine z_iconst (v := 0) hX d_L_law_625 (by decide) ?_
                              exact z_none
                          · refine z_by (fun c33_11 => ?_) (fun c33_11 => ?_)
                            · refine z_tabIn (tgt := 627) (off := 594) hX d_L_law_33 (by rw [c33_11]; decide) (by rw [c33_11]; decide) (by rw [c33_11]; rfl) (by decide) ?_
                              refine z_aload_n (i := 1) hX d_L_law_627 rfl rfl ?_
                              refine z_aload_n (i := 0) hX d_L_law_628 rfl rfl ?_
                              refine z_iload_n (i := 3) hX d_L_law_629 rfl rfl ?_
                              refine z_iconst (v := 1) hX d_L_law_630 (by decide) ?_
                              refine z_iadd hX d_L_law_631 ?_
                              refine z_sld hXL d_L_law_632 ?_
                              refine z_callVi (wl := zwC ad ca) (C := R_P) (n := 1) (rest := []) hX [.int (xs (x3 + (1 : Int32)).toNatClampNeg)] (ct_P_at l D ad ca (xs (x3 + (1 : Int32)).toNatClampNeg) σ) gV_L_68 ⟨rfl, rfl⟩ ⟨by decide, by decide⟩ (by decide +kernel) rfl 0 rfl rfl rfl rfl (Nat.le_of_ble_eq_true rfl) d_L_law_633 (fun r633 s633 => ?_)
                              refine z_aload_n (i := 2) hX d_L_law_636 rfl rfl ?_
                              refine z_aload_n (i := 0) hX d_L_law_637 rfl rfl ?_
                              refine z_iload_n (i := 3) hX d_L_law_638 rfl rfl ?_
                              refine z_iconst (v := 1) hX d_L_law_639 (by decide) ?_
                              refine z_iadd hX d_L_law_640 ?_
                              refine z_sld hXL d_L_law_641 ?_
                              refine z_swap hX ?_
                              refine z_callVi (wl := zwM ad ca) (C := R_M) (n := 1) (rest := [.int r633]) hX [.int (xs (x3 + (1 : Int32)).toNatClampNeg)] (ct_M_at l D ad ca (xs (x3 + (1 : Int32)).toNatClampNeg) τ) gV_L_71 ⟨rfl, rfl⟩ ⟨by decide, by decide⟩ (by decide +kernel) rfl 0 rfl rfl rfl rfl (Nat.le_of_ble_eq_true rfl) d_L_law_642 (fun r642 s642 => ?_)
                              refine z_swap hX ?_
                              refine z_icmp_eq (tgt := 845) hX d_L_law_645 (by decide) (fun c645 => ?_) (fun c645 => ?_)
                              · refine z_iinc (v := x3 + 7) (lv2 := [(3, .int (x3 + 7)), (0, .ref b), (1, .ref (ad 0)), (2, .ref (ad 30))]) hX d_L_law_845 3 rfl (by first | rfl | decide) (by decide) rfl ?_
                                refine z_goto (tgt := 18) hX d_L_law_848 (by decide) ?_
                                refine z_lv hX [1, 2, 3, 0] (lv2 := [(0, .ref b), (1, .ref (ad 0)), (2, .ref (ad 30)), (3, .int (x3 + 7))]) rfl ?_
                                exact ih _ _ _
                              · refine z_iconst (v := 0) hX d_L_law_648 (by decide) ?_
                                exact z_none
                            · refine z_by (fun c33_12 => ?_) (fun c33_12 => ?_)
                              · refine z_tabIn (tgt := 650) (off := 617) hX d_L_law_33 (by rw [c33_12]; decide) (by rw [c33_12]; decide) (by rw [c33_12]; rfl) (by decide) ?_
                                refine z_aload_n (i := 1) hX d_L_law_650 rfl rfl ?_
                                refine z_aload_n (i := 0) hX d_L_law_651 rfl rfl ?_
                                refine z_iload_n (i := 3) hX d_L_law_652 rfl rfl ?_
                                refine z_iconst (v := 1) hX d_L_law_653 (by decide) ?_
                                refine z_iadd hX d_L_law_654 ?_
                                refine z_sld hXL d_L_law_655 ?_
                                refine z_i2l hX d_L_law_656 ?_
                                refine z_bipush (v := 32) hX d_L_law_657 (by decide) ?_
                                refine z_lshl hX d_L_law_659 ?_
                                refine z_aload_n (i := 0) hX d_L_law_660 rfl rfl ?_
                                refine z_iload_n (i := 3) hX d_L_law_661 rfl rfl ?_
                                refine z_iconst (v := 2) hX d_L_law_662 (by decide) ?_
                                refine z_iadd hX d_L_law_663 ?_
                                refine z_sld hXL d_L_law_664 ?_
                                refine z_i2l hX d_L_law_665 ?_
                                refine z_ldc2 (v := 4294967295) hX w_constL_L_13_4294967295 d_L_law_666 ?_
                                refine z_land hX d_L_law_669 ?_
                                refine z_lor hX d_L_law_670 ?_
                                refine z_aload_n (i := 0) hX d_L_law_671 rfl rfl ?_
                                refine z_iload_n (i := 3) hX d_L_law_672 rfl rfl ?_
                                refine z_iconst (v := 3) hX d_L_law_673 (by decide) ?_
                                refine z_iadd hX d_L_law_674 ?_
                                refine z_sld hXL d_L_law_675 ?_
                                refine z_callVi (wl := zwC ad ca) (C := R_P) (n := 2) (rest := []) hX [.long ((zlsh ((xs (x3 + (1 : Int32)).toNatClampNeg).toInt64) (32 : Int32)) ||| (((xs (x3 + (2 : Int32)).toNatClampNeg).toInt64) &&& (4294967295 : Int64))), .int (xs (x3 + (3 : Int32)).toNatClampNeg)] (ct_P_holds l D ad ca ((zlsh ((xs (x3 + (1 : Int32)).toNatClampNeg).toInt64) (32 : Int32)) ||| (((xs (x3 + (2 : Int32)).toNatClampNeg).toInt64) &&& (4294967295 : Int64))) (xs (x3 + (3 : Int32)).toNatClampNeg) σ) gV_L_72 ⟨rfl, rfl⟩ ⟨by decide, by decide⟩ (by decide +kernel) rfl 0 rfl rfl rfl rfl (Nat.le_of_ble_eq_true rfl) d_L_law_676 (fun r676 s676 => ?_)
                                refine z_aload_n (i := 2) hX d_L_law_679 rfl rfl ?_
                                refine z_aload_n (i := 0) hX d_L_law_680 rfl rfl ?_
                                refine z_iload_n (i := 3) hX d_L_law_681 rfl rfl ?_
                                refine z_iconst (v := 1) hX d_L_law_682 (by decide) ?_
                                refine z_iadd hX d_L_law_683 ?_
                                refine z_sld hXL d_L_law_684 ?_
                                refine z_i2l hX d_L_law_685 ?_
                                refine z_bipush (v := 32) hX d_L_law_686 (by decide) ?_
                                refine z_lshl hX d_L_law_688 ?_
                                refine z_aload_n (i := 0) hX d_L_law_689 rfl rfl ?_
                                refine z_iload_n (i := 3) hX d_L_law_690 rfl rfl ?_
                                refine z_iconst (v := 2) hX d_L_law_691 (by decide) ?_
                                refine z_iadd hX d_L_law_692 ?_
                                refine z_sld hXL d_L_law_693 ?_
                                refine z_i2l hX d_L_law_694 ?_
                                refine z_ldc2 (v := 4294967295) hX w_constL_L_13_4294967295 d_L_law_695 ?_
                                refine z_land hX d_L_law_698 ?_
                                refine z_lor hX d_L_law_699 ?_
                                refine z_aload_n (i := 0) hX d_L_law_700 rfl rfl ?_
                                refine z_iload_n (i := 3) hX d_L_law_701 rfl rfl ?_
                                refine z_iconst (v := 3) hX d_L_law_702 (by decide) ?_
                                refine z_iadd hX d_L_law_703 ?_
                                refine z_sld hXL d_L_law_704 ?_
                                refine z_swap hX ?_
                                refine z_callVi (wl := zwM ad ca) (C := R_M) (n := 2) (rest := [.int r676]) hX [.long ((zlsh ((xs (x3 + (1 : Int32)).toNatClampNeg).toInt64) (32 : Int32)) ||| (((xs (x3 + (2 : Int32)).toNatClampNeg).toInt64) &&& (4294967295 : Int64))), .int (xs (x3 + (3 : Int32)).toNatClampNeg)] (ct_M_holds l D ad ca ((zlsh ((xs (x3 + (1 : Int32)).toNatClampNeg).toInt64) (32 : Int32)) ||| (((xs (x3 + (2 : Int32)).toNatClampNeg).toInt64) &&& (4294967295 : Int64))) (xs (x3 + (3 : Int32)).toNatClampNeg) τ) gV_L_76 ⟨rfl, rfl⟩ ⟨by decide, by decide⟩ (by decide +kernel) rfl 0 rfl rfl rfl rfl (Nat.le_of_ble_eq_true rfl) d_L_law_705 (fun r705 s705 => ?_)
                                refine z_swap hX ?_
                                refine z_icmp_eq (tgt := 845) hX d_L_law_708 (by decide) (fun c708 => ?_) (fun c708 => ?_)
                                · refine z_iinc (v := x3 + 7) (lv2 := [(3, .int (x3 + 7)), (0, .ref b), (1, .ref (ad 0)), (2, .ref (ad 30))]) hX d_L_law_845 3 rfl (by first | rfl | decide) (by decide) rfl ?_
                                  refine z_goto (tgt := 18) hX d_L_law_848 (by decide) ?_
                                  refine z_lv hX [1, 2, 3, 0] (lv2 := [(0, .ref b), (1, .ref (ad 0)), (2, .ref (ad 30)), (3, .int (x3 + 7))]) rfl ?_
                                  exact ih _ _ _
                                · refine z_iconst (v := 0) hX d_L_law_711 (by decide) ?_
                                  exact z_none
                              · refine z_by (fun c33_13 => ?_) (fun c33_13 => ?_)
                                · refine z_tabIn (tgt := 713) (off := 680) hX d_L_law_33 (by rw [c33_13]; decide) (by rw [c33_13]; decide) (by rw [c33_13]; rfl) (by decide) ?_
                                  refine z_aload_n (i := 1) hX d_L_law_713 rfl rfl ?_
                                  refine z_aload_n (i := 0) hX d_L_law_714 rfl rfl ?_
                                  refine z_iload_n (i := 3) hX d_L_law_715 rfl rfl ?_
                                  refine z_iconst (v := 1) hX d_L_law_716 (by decide) ?_
                                  refine z_iadd hX d_L_law_717 ?_
                                  refine z_sld hXL d_L_law_718 ?_
                                  refine z_aload_n (i := 0) hX d_L_law_719 rfl rfl ?_
                                  refine z_iload_n (i := 3) hX d_L_law_720 rfl rfl ?_
                                  refine z_iconst (v := 2) hX d_L_law_721 (by decide) ?_
                                  refine z_iadd hX d_L_law_722 ?_
                                  refine z_sld hXL d_L_law_723 ?_
                                  refine z_callVi (wl := zwC ad ca) (C := R_P) (n := 2) (rest := []) hX [.int (xs (x3 + (1 : Int32)).toNatClampNeg), .int (xs (x3 + (2 : Int32)).toNatClampNeg)] (ct_P_missing l D ad ca (xs (x3 + (1 : Int32)).toNatClampNeg) (xs (x3 + (2 : Int32)).toNatClampNeg) σ) gV_L_77 ⟨rfl, rfl⟩ ⟨by decide, by decide⟩ (by decide +kernel) rfl 0 rfl rfl rfl rfl (Nat.le_of_ble_eq_true rfl) d_L_law_724 (fun r724 s724 => ?_)
                                  refine z_aload_n (i := 2) hX d_L_law_727 rfl rfl ?_
                                  refine z_aload_n (i := 0) hX d_L_law_728 rfl rfl ?_
                                  refine z_iload_n (i := 3) hX d_L_law_729 rfl rfl ?_
                                  refine z_iconst (v := 1) hX d_L_law_730 (by decide) ?_
                                  refine z_iadd hX d_L_law_731 ?_
                                  refine z_sld hXL d_L_law_732 ?_
                                  refine z_aload_n (i := 0) hX d_L_law_733 rfl rfl ?_
                                  refine z_iload_n (i := 3) hX d_L_law_734 rfl rfl ?_
                                  refine z_iconst (v := 2) hX d_L_law_735 (by decide) ?_
                                  refine z_iadd hX d_L_law_736 ?_
                                  refine z_sld hXL d_L_law_737 ?_
                                  refine z_swap hX ?_
                                  refine z_callVi (wl := zwM ad ca) (C := R_M) (n := 2) (rest := [.int r724]) hX [.int (xs (x3 + (1 : Int32)).toNatClampNeg), .int (xs (x3 + (2 : Int32)).toNatClampNeg)] (ct_M_missing l D ad ca (xs (x3 + (1 : Int32)).toNatClampNeg) (xs (x3 + (2 : Int32)).toNatClampNeg) τ) gV_L_80 ⟨rfl, rfl⟩ ⟨by decide, by decide⟩ (by decide +kernel) rfl 0 rfl rfl rfl rfl (Nat.le_of_ble_eq_true rfl) d_L_law_738 (fun r738 s738 => ?_)
                                  refine z_swap hX ?_
                                  refine z_icmp_eq (tgt := 845) hX d_L_law_741 (by decide) (fun c741 => ?_) (fun c741 => ?_)
                                  · refine z_iinc (v := x3 + 7) (lv2 := [(3, .int (x3 + 7)), (0, .ref b), (1, .ref (ad 0)), (2, .ref (ad 30))]) hX d_L_law_845 3 rfl (by first | rfl | decide) (by decide) rfl ?_
                                    refine z_goto (tgt := 18) hX d_L_law_848 (by decide) ?_
                                    refine z_lv hX [1, 2, 3, 0] (lv2 := [(0, .ref b), (1, .ref (ad 0)), (2, .ref (ad 30)), (3, .int (x3 + 7))]) rfl ?_
                                    exact ih _ _ _
                                  · refine z_iconst (v := 0) hX d_L_law_744 (by decide) ?_
                                    exact z_none
                                · refine z_by (fun c33_14 => ?_) (fun c33_14 => ?_)
                                  · refine z_tabIn (tgt := 746) (off := 713) hX d_L_law_33 (by rw [c33_14]; decide) (by rw [c33_14]; decide) (by rw [c33_14]; rfl) (by decide) ?_
                                    refine z_aload_n (i := 1) hX d_L_law_746 rfl rfl ?_
                                    refine z_aload_n (i := 0) hX d_L_law_747 rfl rfl ?_
                                    refine z_iload_n (i := 3) hX d_L_law_748 rfl rfl ?_
                                    refine z_iconst (v := 1) hX d_L_law_749 (by decide) ?_
                                    refine z_iadd hX d_L_law_750 ?_
                                    refine z_sld hXL d_L_law_751 ?_
                                    refine z_aload_n (i := 0) hX d_L_law_752 rfl rfl ?_
                                    refine z_iload_n (i := 3) hX d_L_law_753 rfl rfl ?_
                                    refine z_iconst (v := 2) hX d_L_law_754 (by decide) ?_
                                    refine z_iadd hX d_L_law_755 ?_
                                    refine z_sld hXL d_L_law_756 ?_
                                    refine z_callVi (wl := zwC ad ca) (C := R_P) (n := 2) (rest := []) hX [.int (xs (x3 + (1 : Int32)).toNatClampNeg), .int (xs (x3 + (2 : Int32)).toNatClampNeg)] (ct_P_rebuilt l D ad ca (xs (x3 + (1 : Int32)).toNatClampNeg) (xs (x3 + (2 : Int32)).toNatClampNeg) σ) gV_L_81 ⟨rfl, rfl⟩ ⟨by decide, by decide⟩ (by decide +kernel) rfl 0 rfl rfl rfl rfl (Nat.le_of_ble_eq_true rfl) d_L_law_757 (fun r757 s757 => ?_)
                                    refine z_aload_n (i := 2) hX d_L_law_760 rfl rfl ?_
                                    refine z_aload_n (i := 0) hX d_L_law_761 rfl rfl ?_
                                    refine z_iload_n (i := 3) hX d_L_law_762 rfl rfl ?_
                                    refine z_iconst (v := 1) hX d_L_law_763 (by decide) ?_
                                    refine z_iadd hX d_L_law_764 ?_
                                    refine z_sld hXL d_L_law_765 ?_
                                    refine z_aload_n (i := 0) hX d_L_law_766 rfl rfl ?_
                                    refine z_iload_n (i := 3) hX d_L_law_767 rfl rfl ?_
                                    refine z_iconst (v := 2) hX d_L_law_768 (by decide) ?_
                                    refine z_iadd hX d_L_law_769 ?_
                                    refine z_sld hXL d_L_law_770 ?_
                                    refine z_swap hX ?_
                                    refine z_callVi (wl := zwM ad ca) (C := R_M) (n := 2) (rest := [.int r757]) hX [.int (xs (x3 + (1 : Int32)).toNatClampNeg), .int (xs (x3 + (2 : Int32)).toNatClampNeg)] (ct_M_rebuilt l D ad ca (xs (x3 + (1 : Int32)).toNatClampNeg) (xs (x3 + (2 : Int32)).toNatClampNeg) τ) gV_L_84 ⟨rfl, rfl⟩ ⟨by decide, by decide⟩ (by decide +kernel) rfl 0 rfl rfl rfl rfl (Nat.le_of_ble_eq_true rfl) d_L_law_771 (fun r771 s771 => ?_)
                                    refine z_swap hX ?_
                                    refine z_icmp_eq (tgt := 845) hX d_L_law_774 (by decide) (fun c774 => ?_) (fun c774 => ?_)
                                    · refine z_iinc (v := x3 + 7) (lv2 := [(3, .int (x3 + 7)), (0, .ref b), (1, .ref (ad 0)), (2, .ref (ad 30))]) hX d_L_law_845 3 rfl (by first | rfl | decide) (by decide) rfl ?_
                                      refine z_goto (tgt := 18) hX d_L_law_848 (by decide) ?_
                                      refine z_lv hX [1, 2, 3, 0] (lv2 := [(0, .ref b), (1, .ref (ad 0)), (2, .ref (ad 30)), (3, .int (x3 + 7))]) rfl ?_
                                      exact ih _ _ _
                                    · refine z_iconst (v := 0) hX d_L_law_777 (by decide) ?_
                                      exact z_none
                                  · refine z_by (fun c33_15 => ?_) (fun c33_15 => ?_)
                                    · refine z_tabIn (tgt := 779) (off := 746) hX d_L_law_33 (by rw [c33_15]; decide) (by rw [c33_15]; decide) (by rw [c33_15]; rfl) (by decide) ?_
                                      refine z_aload_n (i := 1) hX d_L_law_779 rfl rfl ?_
                                      refine z_aload_n (i := 0) hX d_L_law_780 rfl rfl ?_
                                      refine z_iload_n (i := 3) hX d_L_law_781 rfl rfl ?_
                                      refine z_iconst (v := 1) hX d_L_law_782 (by decide) ?_
                                      refine z_iadd hX d_L_law_783 ?_
                                      refine z_sld hXL d_L_law_784 ?_
                                      refine z_aload_n (i := 0) hX d_L_law_785 rfl rfl ?_
                                      refine z_iload_n (i := 3) hX d_L_law_786 rfl rfl ?_
                                      refine z_iconst (v := 2) hX d_L_law_787 (by decide) ?_
                                      refine z_iadd hX d_L_law_788 ?_
                                      refine z_sld hXL d_L_law_789 ?_
                                      refine z_callVi (wl := zwC ad ca) (C := R_P) (n := 2) (rest := []) hX [.int (xs (x3 + (1 : Int32)).toNatClampNeg), .int (xs (x3 + (2 : Int32)).toNatClampNeg)] (ct_P_differ l D ad ca (xs (x3 + (1 : Int32)).toNatClampNeg) (xs (x3 + (2 : Int32)).toNatClampNeg) σ) gV_L_85 ⟨rfl, rfl⟩ ⟨by decide, by decide⟩ (by decide +kernel) rfl 0 rfl rfl rfl rfl (Nat.le_of_ble_eq_true rfl) d_L_law_790 (fun r790 s790 => ?_)
                                      refine z_aload_n (i := 2) hX d_L_law_793 rfl rfl ?_
                                      refine z_aload_n (i := 0) hX d_L_law_794 rfl rfl ?_
                                      refine z_iload_n (i := 3) hX d_L_law_795 rfl rfl ?_
                                      refine z_iconst (v := 1) hX d_L_law_796 (by decide) ?_
                                      refine z_iadd hX d_L_law_797 ?_
                                      refine z_sld hXL d_L_law_798 ?_
                                      refine z_aload_n (i := 0) hX d_L_law_799 rfl rfl ?_
                                      refine z_iload_n (i := 3) hX d_L_law_800 rfl rfl ?_
                                      refine z_iconst (v := 2) hX d_L_law_801 (by decide) ?_
                                      refine z_iadd hX d_L_law_802 ?_
                                      refine z_sld hXL d_L_law_803 ?_
                                      refine z_swap hX ?_
                                      refine z_callVi (wl := zwM ad ca) (C := R_M) (n := 2) (rest := [.int r790]) hX [.int (xs (x3 + (1 : Int32)).toNatClampNeg), .int (xs (x3 + (2 : Int32)).toNatClampNeg)] (ct_M_differ l D ad ca (xs (x3 + (1 : Int32)).toNatClampNeg) (xs (x3 + (2 : Int32)).toNatClampNeg) τ) gV_L_88 ⟨rfl, rfl⟩ ⟨by decide, by decide⟩ (by decide +kernel) rfl 0 rfl rfl rfl rfl (Nat.le_of_ble_eq_true rfl) d_L_law_804 (fun r804 s804 => ?_)
                                      refine z_swap hX ?_
                                      refine z_icmp_eq (tgt := 845) hX d_L_law_807 (by decide) (fun c807 => ?_) (fun c807 => ?_)
                                      · refine z_iinc (v := x3 + 7) (lv2 := [(3, .int (x3 + 7)), (0, .ref b), (1, .ref (ad 0)), (2, .ref (ad 30))]) hX d_L_law_845 3 rfl (by first | rfl | decide) (by decide) rfl ?_
                                        refine z_goto (tgt := 18) hX d_L_law_848 (by decide) ?_
                                        refine z_lv hX [1, 2, 3, 0] (lv2 := [(0, .ref b), (1, .ref (ad 0)), (2, .ref (ad 30)), (3, .int (x3 + 7))]) rfl ?_
                                        exact ih _ _ _
                                      · refine z_iconst (v := 0) hX d_L_law_810 (by decide) ?_
                                        exact z_none
                                    · refine z_by (fun c33_16 => ?_) (fun c33_16 => ?_)
                                      · refine z_tabIn (tgt := 812) (off := 779) hX d_L_law_33 (by rw [c33_16]; decide) (by rw [c33_16]; decide) (by rw [c33_16]; rfl) (by decide) ?_
                                        refine z_aload_n (i := 1) hX d_L_law_812 rfl rfl ?_
                                        refine z_aload_n (i := 0) hX d_L_law_813 rfl rfl ?_
                                        refine z_iload_n (i := 3) hX d_L_law_814 rfl rfl ?_
                                        refine z_iconst (v := 1) hX d_L_law_815 (by decide) ?_
                                        refine z_iadd hX d_L_law_816 ?_
                                        refine z_sld hXL d_L_law_817 ?_
                                        refine z_aload_n (i := 0) hX d_L_law_818 rfl rfl ?_
                                        refine z_iload_n (i := 3) hX d_L_law_819 rfl rfl ?_
                                        refine z_iconst (v := 2) hX d_L_law_820 (by decide) ?_
                                        refine z_iadd hX d_L_law_821 ?_
                                        refine z_sld hXL d_L_law_822 ?_
                                        refine z_callVi (wl := zwC ad ca) (C := R_P) (n := 2) (rest := []) hX [.int (xs (x3 + (1 : Int32)).toNatClampNeg), .int (xs (x3 + (2 : Int32)).toNatClampNeg)] (ct_P_clash l D ad ca (xs (x3 + (1 : Int32)).toNatClampNeg) (xs (x3 + (2 : Int32)).toNatClampNeg) σ) gV_L_89 ⟨rfl, rfl⟩ ⟨by decide, by decide⟩ (by decide +kernel) rfl 0 rfl rfl rfl rfl (Nat.le_of_ble_eq_true rfl) d_L_law_823 (fun r823 s823 => ?_)
                                        refine z_aload_n (i := 2) hX d_L_law_826 rfl rfl ?_
                                        refine z_aload_n (i := 0) hX d_L_law_827 rfl rfl ?_
                                        refine z_iload_n (i := 3) hX d_L_law_828 rfl rfl ?_
                                        refine z_iconst (v := 1) hX d_L_law_829 (by decide) ?_
                                        refine z_iadd hX d_L_law_830 ?_
                                        refine z_sld hXL d_L_law_831 ?_
                                        refine z_aload_n (i := 0) hX d_L_law_832 rfl rfl ?_
                                        refine z_iload_n (i := 3) hX d_L_law_833 rfl rfl ?_
                                        refine z_iconst (v := 2) hX d_L_law_834 (by decide) ?_
                                        refine z_iadd hX d_L_law_835 ?_
                                        refine z_sld hXL d_L_law_836 ?_
                                        refine z_swap hX ?_
                                        refine z_callVi (wl := zwM ad ca) (C := R_M) (n := 2) (rest := [.int r823]) hX [.int (xs (x3 + (1 : Int32)).toNatClampNeg), .int (xs (x3 + (2 : Int32)).toNatClampNeg)] (ct_M_clash l D ad ca (xs (x3 + (1 : Int32)).toNatClampNeg) (xs (x3 + (2 : Int32)).toNatClampNeg) τ) gV_L_92 ⟨rfl, rfl⟩ ⟨by decide, by decide⟩ (by decide +kernel) rfl 0 rfl rfl rfl rfl (Nat.le_of_ble_eq_true rfl) d_L_law_837 (fun r837 s837 => ?_)
                                        refine z_swap hX ?_
                                        refine z_icmp_eq (tgt := 845) hX d_L_law_840 (by decide) (fun c840 => ?_) (fun c840 => ?_)
                                        · refine z_iinc (v := x3 + 7) (lv2 := [(3, .int (x3 + 7)), (0, .ref b), (1, .ref (ad 0)), (2, .ref (ad 30))]) hX d_L_law_845 3 rfl (by first | rfl | decide) (by decide) rfl ?_
                                          refine z_goto (tgt := 18) hX d_L_law_848 (by decide) ?_
                                          refine z_lv hX [1, 2, 3, 0] (lv2 := [(0, .ref b), (1, .ref (ad 0)), (2, .ref (ad 30)), (3, .int (x3 + 7))]) rfl ?_
                                          exact ih _ _ _
                                        · refine z_iconst (v := 0) hX d_L_law_843 (by decide) ?_
                                          exact z_none
                                      · refine z_tabOut (tgt := 845) hX d_L_law_33 (by have e0 : ((xs x3.toNatClampNeg) &&& (31 : Int32)).toInt ≠ 0 := fun h => c33_0 (Int32.toInt_inj.mp (h.trans (by decide))); have e1 : ((xs x3.toNatClampNeg) &&& (31 : Int32)).toInt ≠ 1 := fun h => c33_1 (Int32.toInt_inj.mp (h.trans (by decide))); have e2 : ((xs x3.toNatClampNeg) &&& (31 : Int32)).toInt ≠ 2 := fun h => c33_2 (Int32.toInt_inj.mp (h.trans (by decide))); have e3 : ((xs x3.toNatClampNeg) &&& (31 : Int32)).toInt ≠ 3 := fun h => c33_3 (Int32.toInt_inj.mp (h.trans (by decide))); have e4 : ((xs x3.toNatClampNeg) &&& (31 : Int32)).toInt ≠ 4 := fun h => c33_4 (Int32.toInt_inj.mp (h.trans (by decide))); have e5 : ((xs x3.toNatClampNeg) &&& (31 : Int32)).toInt ≠ 5 := fun h => c33_5 (Int32.toInt_inj.mp (h.trans (by decide))); have e6 : ((xs x3.toNatClampNeg) &&& (31 : Int32)).toInt ≠ 6 := fun h => c33_6 (Int32.toInt_inj.mp (h.trans (by decide))); have e7 : ((xs x3.toNatClampNeg) &&& (31 : Int32)).toInt ≠ 7 := fun h => c33_7 (Int32.toInt_inj.mp (h.trans (by decide))); have e8 : ((xs x3.toNatClampNeg) &&& (31 : Int32)).toInt ≠ 8 := fun h => c33_8 (Int32.toInt_inj.mp (h.trans (by decide))); have e9 : ((xs x3.toNatClampNeg) &&& (31 : Int32)).toInt ≠ 9 := fun h => c33_9 (Int32.toInt_inj.mp (h.trans (by decide))); have e10 : ((xs x3.toNatClampNeg) &&& (31 : Int32)).toInt ≠ 10 := fun h => c33_10 (Int32.toInt_inj.mp (h.trans (by decide))); have e11 : ((xs x3.toNatClampNeg) &&& (31 : Int32)).toInt ≠ 11 := fun h => c33_11 (Int32.toInt_inj.mp (h.trans (by decide))); have e12 : ((xs x3.toNatClampNeg) &&& (31 : Int32)).toInt ≠ 12 := fun h => c33_12 (Int32.toInt_inj.mp (h.trans (by decide))); have e13 : ((xs x3.toNatClampNeg) &&& (31 : Int32)).toInt ≠ 13 := fun h => c33_13 (Int32.toInt_inj.mp (h.trans (by decide))); have e14 : ((xs x3.toNatClampNeg) &&& (31 : Int32)).toInt ≠ 14 := fun h => c33_14 (Int32.toInt_inj.mp (h.trans (by decide))); have e15 : ((xs x3.toNatClampNeg) &&& (31 : Int32)).toInt ≠ 15 := fun h => c33_15 (Int32.toInt_inj.mp (h.trans (by decide))); have e16 : ((xs x3.toNatClampNeg) &&& (31 : Int32)).toInt ≠ 16 := fun h => c33_16 (Int32.toInt_inj.mp (h.trans (by decide))); omega) (by decide) ?_
                                        refine z_iinc (v := x3 + 7) (lv2 := [(3, .int (x3 + 7)), (0, .ref b), (1, .ref (ad 0)), (2, .ref (ad 30))]) hX d_L_law_845 3 rfl (by first | rfl | decide) (by decide) rfl ?_
                                        refine z_goto (tgt := 18) hX d_L_law_848 (by decide) ?_
                                        refine z_lv hX [1, 2, 3, 0] (lv2 := [(0, .ref b), (1, .ref (ad 0)), (2, .ref (ad 30)), (3, .int (x3 + 7))]) rfl ?_
                                        exact ih _ _ _
def zad (q0 : Nat) (u0 : (Nat → Nat) × (Nat → ClassId)) (q8 : Nat) (u8 : (Nat → Nat) × (Nat → ClassId)) : Nat → Nat := fun k => bif Nat.beq k 0 then q0 else bif Nat.ble k 29 then u0.1 k else bif Nat.beq k 30 then q8 else u8.1 (k - 30)
def zca (u0 u8 : (Nat → Nat) × (Nat → ClassId)) : Nat → ClassId := fun k => bif Nat.ble k 29 then u0.2 k else u8.2 (k - 30)
def zs0 : zS := (fun k _ => bif Nat.beq k 106 then -1 else 0, fun _ _ => 0)
def zm0 : zS := (fun k _ => bif Nat.beq k 720 then -1 else 0, fun _ _ => 0)
theorem zw0 (q0 : Nat) (u0 : (Nat → Nat) × (Nat → ClassId)) (q8 : Nat) (u8 : (Nat → Nat) × (Nat → ClassId)) : zn_P q0 u0 ++ zn_M q8 u8 = zwC (zad q0 u0 q8 u8) (zca u0 u8) zs0 ++ zwM (zad q0 u0 q8 u8) (zca u0 u8) zm0 := rfl
theorem zt0 (u0 u8 : (Nat → Nat) × (Nat → ClassId)) : zt_P u0 ++ zt_M u8 = zty (zca u0 u8) := rfl
