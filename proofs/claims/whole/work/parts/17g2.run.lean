/-! THE TREES of two CUBES, some of them -/
def zrep2 : List Nat := [21, 26, 53, 127, 255]
set_option maxRecDepth 100000 in
theorem zrun2 : zrep2.all (fun x => zq_f zq_D 12 x (9 - zpop x)) = true := by decide +kernel
