/-! THE TREES of two CUBES, some of them -/
def zrep7 : List Nat := [55, 59, 95, 119, 125, 126, 7, 123, 15]
set_option maxRecDepth 100000 in
theorem zrun7 : zrep7.all (fun x => zq_f zq_D 12 x (9 - zpop x)) = true := by decide +kernel
