/-! THE TREES of one CUBE, of two CUBES, some of them -/
theorem zrunC : zq_f zq_C 12 0 5 = true := by decide +kernel
def zrep0 : List Nat := [17, 18, 3]
set_option maxRecDepth 100000 in
theorem zrun0 : zrep0.all (fun x => zq_f zq_D 12 x (9 - zpop x)) = true := by decide +kernel
