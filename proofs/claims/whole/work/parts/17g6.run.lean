/-! THE TREES of two CUBES, some of them -/
def zrep6 : List Nat := [23, 27, 29, 30, 91, 61, 62]
set_option maxRecDepth 100000 in
theorem zrun6 : zrep6.all (fun x => zq_f zq_D 12 x (9 - zpop x)) = true := by decide +kernel
