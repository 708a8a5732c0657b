/-! THE TREES of two CUBES, some of them -/
set_option maxRecDepth 100000 in
theorem zrx18_0 : zq_f zq_D 10 72 7 = true := by decide +kernel
set_option maxRecDepth 100000 in
theorem zrx18_1 : zq_f zq_D 10 73 6 = true := by decide +kernel
set_option maxRecDepth 100000 in
theorem zrx18_2 : zq_f zq_D 10 74 6 = true := by decide +kernel
set_option maxRecDepth 100000 in
theorem zrx18_3 : zq_f zq_D 10 75 5 = true := by decide +kernel
theorem zrx18 : zq_f zq_D 12 18 7 = true := zq_four (c := 5) zrx18_0 zrx18_1 zrx18_2 zrx18_3
set_option maxRecDepth 100000 in
theorem zrx26_0 : zq_f zq_D 10 104 6 = true := by decide +kernel
set_option maxRecDepth 100000 in
theorem zrx26_1 : zq_f zq_D 10 105 5 = true := by decide +kernel
set_option maxRecDepth 100000 in
theorem zrx26_2 : zq_f zq_D 10 106 5 = true := by decide +kernel
set_option maxRecDepth 100000 in
theorem zrx26_3 : zq_f zq_D 10 107 4 = true := by decide +kernel
theorem zrx26 : zq_f zq_D 12 26 6 = true := zq_four (c := 4) zrx26_0 zrx26_1 zrx26_2 zrx26_3
set_option maxRecDepth 100000 in
theorem zrx90_0 : zq_f zq_D 10 360 5 = true := by decide +kernel
set_option maxRecDepth 100000 in
theorem zrx90_1 : zq_f zq_D 10 361 4 = true := by decide +kernel
set_option maxRecDepth 100000 in
theorem zrx90_2 : zq_f zq_D 10 362 4 = true := by decide +kernel
set_option maxRecDepth 100000 in
theorem zrx90_3 : zq_f zq_D 10 363 3 = true := by decide +kernel
theorem zrx90 : zq_f zq_D 12 90 5 = true := zq_four (c := 3) zrx90_0 zrx90_1 zrx90_2 zrx90_3
set_option maxRecDepth 100000 in
theorem zrx54_0 : zq_f zq_D 10 216 5 = true := by decide +kernel
set_option maxRecDepth 100000 in
theorem zrx54_1 : zq_f zq_D 10 217 4 = true := by decide +kernel
set_option maxRecDepth 100000 in
theorem zrx54_2 : zq_f zq_D 10 218 4 = true := by decide +kernel
set_option maxRecDepth 100000 in
theorem zrx54_3 : zq_f zq_D 10 219 3 = true := by decide +kernel
theorem zrx54 : zq_f zq_D 12 54 5 = true := zq_four (c := 3) zrx54_0 zrx54_1 zrx54_2 zrx54_3
set_option maxRecDepth 100000 in
theorem zrx60_0 : zq_f zq_D 10 240 5 = true := by decide +kernel
set_option maxRecDepth 100000 in
theorem zrx60_1 : zq_f zq_D 10 241 4 = true := by decide +kernel
set_option maxRecDepth 100000 in
theorem zrx60_2 : zq_f zq_D 10 242 4 = true := by decide +kernel
set_option maxRecDepth 100000 in
theorem zrx60_3 : zq_f zq_D 10 243 3 = true := by decide +kernel
theorem zrx60 : zq_f zq_D 12 60 5 = true := zq_four (c := 3) zrx60_0 zrx60_1 zrx60_2 zrx60_3
set_option maxRecDepth 100000 in
theorem zrx87_0 : zq_f zq_D 10 348 4 = true := by decide +kernel
set_option maxRecDepth 100000 in
theorem zrx87_1 : zq_f zq_D 10 349 3 = true := by decide +kernel
set_option maxRecDepth 100000 in
theorem zrx87_2 : zq_f zq_D 10 350 3 = true := by decide +kernel
set_option maxRecDepth 100000 in
theorem zrx87_3 : zq_f zq_D 10 351 2 = true := by decide +kernel
theorem zrx87 : zq_f zq_D 12 87 4 = true := zq_four (c := 2) zrx87_0 zrx87_1 zrx87_2 zrx87_3
set_option maxRecDepth 100000 in
theorem zrx61_0 : zq_f zq_D 10 244 4 = true := by decide +kernel
set_option maxRecDepth 100000 in
theorem zrx61_1 : zq_f zq_D 10 245 3 = true := by decide +kernel
set_option maxRecDepth 100000 in
theorem zrx61_2 : zq_f zq_D 10 246 3 = true := by decide +kernel
set_option maxRecDepth 100000 in
theorem zrx61_3 : zq_f zq_D 10 247 2 = true := by decide +kernel
theorem zrx61 : zq_f zq_D 12 61 4 = true := zq_four (c := 2) zrx61_0 zrx61_1 zrx61_2 zrx61_3
set_option maxRecDepth 100000 in
theorem zrx31 : zq_f zq_D 12 31 4 = true := by decide +kernel
set_option maxRecDepth 100000 in
theorem zrx7 : zq_f zq_D 12 7 6 = true := by decide +kernel
set_option maxRecDepth 100000 in
theorem zrx5 : zq_f zq_D 12 5 7 = true := by decide +kernel
