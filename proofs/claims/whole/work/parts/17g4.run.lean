/-! THE TREES of two CUBES, some of them -/
def zrep4 : List Nat := [28, 85, 90, 87, 1]
set_option maxRecDepth 100000 in
theorem zrun4 : zrep4.all (fun x => zq_f zq_D 12 x (9 - zpop x)) = true := by decide +kernel
