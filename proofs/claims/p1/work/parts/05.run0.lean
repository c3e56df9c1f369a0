def xh_one (o : xR) : Bool := match o with
  | none => false
  | some l => l.all fun o => match o.1 with
    | some v => and (Nat.beq v.1 0) (Nat.beq v.2 1)
    | none => false
def xH0 : xH := (0, List.replicate 12 (List.replicate 12 (.inl (999, []))))
/-- the run of the law: the script has less than six ints; it has six -/
def xGA : xG := ([], xDF, xBY, (1, 0))
def xGB : xG := ([], xDF, xBY, (0, 6))
noncomputable def xMA : List xP := xd_meths xGA xNA xMT
noncomputable def xMB : List xP := xd_meths xGB xNA xMT
noncomputable def xLA : List xD := xd_rows xGA xNA 600000 7302250 (some .boolean) xt_177
noncomputable def xLB : List xD := xd_rows xGB xNA 600000 7302250 (some .boolean) xt_177
theorem xr_A : xh_one (xh_run xMA 30000 12 600000 7302250 xLA xLA [(6, 0), (9, 0), (9, 0), (9, 0)] [] xH0 [(0, 5)] 0 0) = true := by decide +kernel
