/-! THE TREES of two CUBES, some of them -/
def zrep5 : List Nat := [58, 54, 57, 60, 51, 63]
set_option maxRecDepth 100000 in
theorem zrun5 : zrep5.all (fun x => zq_f zq_D 12 x (9 - zpop x)) = true := by decide +kernel
