/-! the law's start: both constructors as one closed run; then its loop -/
noncomputable def xKeysAt (L : XL) : Bool := (List.range 21).all (fun j => decide (L 138 j = xKeys.getD j 0))
noncomputable def xh0 : XHp := ([(16, 11, List.replicate 11 none)], xrow (fun _ _ => 0) 0 (fun _ => 0), xrow (fun _ _ => 0) 0 (fun _ => 0))
noncomputable def xh1 (h : XHp) : XHp := (h.1 ++ [(17, 65, List.replicate 65 none)], xrow h.2.1 h.1.length (fun _ => 0), xrow h.2.2 h.1.length (fun _ => 0))
noncomputable def xpre : Option XHp := match xexecK 20000 63 17 0 (xent [.ref 0] 1) [] xh0 with
  | some (none, h) => match xexecK 20000 63 23 0 (xent [.ref 131] 1) [] (xh1 h) with
    | some (none, h2) => bif decide (h.1 = xSHc) && (decide (h2.1 = xSH) && (xIat h2.2.1 xN_C && (xIat h2.2.1 xN_R && xKeysAt h2.2.2))) then some h2 else none
    | _ => none
  | _ => none
theorem xpre_ok : xpre.isSome = true := by decide +kernel
