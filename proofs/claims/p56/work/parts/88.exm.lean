/-! THE REFERENCE EXECUTES A TEXT -/
def mg_x1 (w : mz_V) (s : Nat → Int) : mz_V := mz_u (mz_u (mz_w (mz_w w 1 s) 4 (mg_hp (w 4) (w 0 6) (w 1))) 0 6 (mg_kp (w 0 6))) 0 15 0
def mg_x2 (w : mz_V) (i : Nat) (r : Int) (s : Nat → Int) : mz_V := mz_u (mz_u (mz_u (mz_u (mz_w w 1 (mr_cpy s (w 1) 158)) 0 15 0) 0 19 6) 0 20 i) 0 21 (if r ≤ 5 then r else 7)
def mg_x3 (w : mz_V) (p : Nat) : mz_V := mz_u (mz_u w 0 15 0) 0 17 p
abbrev mg_xt (w : mz_V) : Bool × Nat × Nat := rd_r (w 6) (w 0 15).toNat 9 0
abbrev mg_xl (w : mz_V) : Bool × Nat × Int × (Nat → Int) := ex_l (w 6) (w 0 15).toNat (mg_xt w).2.2 0 (w 1)
def mg_xe (w : mz_V) : mz_V := if (mg_xt w).1 = true then (if (mg_xl w).1 = true then mg_x1 w (mg_xl w).2.2.2 else mg_x2 w (mg_xl w).2.1 (mg_xl w).2.2.1 (mg_xl w).2.2.2) else mg_x3 w (mg_xt w).2.1
def mg_xc (w : mz_V) : Int := if (mg_xt w).1 = true then (if (mg_xl w).1 = true then 0 else 2) else 1
section EXM
variable {X : mv_X} {P : mz_P} {V : mz_V} {z : Nat × Nat} {d m x0 : Nat} {w : mz_V} {b : Int}
end EXM
