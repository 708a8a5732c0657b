/-! THE TREES of two CUBES, some of them -/
def zrep3 : List Nat := [19, 22, 25, 31, 0]
set_option maxRecDepth 100000 in
theorem zrun3 : zrep3.all (fun x => zq_f zq_D 12 x (9 - zpop x)) = true := by decide +kernel
