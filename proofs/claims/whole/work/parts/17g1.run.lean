/-! THE TREES of two CUBES, some of them -/
def zrep1 : List Nat := [20, 24, 5]
set_option maxRecDepth 100000 in
theorem zrun1 : zrep1.all (fun x => zq_f zq_D 12 x (9 - zpop x)) = true := by decide +kernel
