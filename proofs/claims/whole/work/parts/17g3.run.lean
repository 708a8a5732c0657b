/-! THE TREES of two CUBES, some of them -/
set_option maxRecDepth 100000 in
theorem zrx24_0 : zq_f zq_D 10 96 7 = true := by decide +kernel
set_option maxRecDepth 100000 in
theorem zrx24_1 : zq_f zq_D 10 97 6 = true := by decide +kernel
set_option maxRecDepth 100000 in
theorem zrx24_2 : zq_f zq_D 10 98 6 = true := by decide +kernel
set_option maxRecDepth 100000 in
theorem zrx24_3 : zq_f zq_D 10 99 5 = true := by decide +kernel
theorem zrx24 : zq_f zq_D 12 24 7 = true := zq_four (c := 5) zrx24_0 zrx24_1 zrx24_2 zrx24_3
set_option maxRecDepth 100000 in
theorem zrx22_0 : zq_f zq_D 10 88 6 = true := by decide +kernel
set_option maxRecDepth 100000 in
theorem zrx22_1 : zq_f zq_D 10 89 5 = true := by decide +kernel
set_option maxRecDepth 100000 in
theorem zrx22_2 : zq_f zq_D 10 90 5 = true := by decide +kernel
set_option maxRecDepth 100000 in
theorem zrx22_3 : zq_f zq_D 10 91 4 = true := by decide +kernel
theorem zrx22 : zq_f zq_D 12 22 6 = true := zq_four (c := 4) zrx22_0 zrx22_1 zrx22_2 zrx22_3
set_option maxRecDepth 100000 in
theorem zrx28_0 : zq_f zq_D 10 112 6 = true := by decide +kernel
set_option maxRecDepth 100000 in
theorem zrx28_1 : zq_f zq_D 10 113 5 = true := by decide +kernel
set_option maxRecDepth 100000 in
theorem zrx28_2 : zq_f zq_D 10 114 5 = true := by decide +kernel
set_option maxRecDepth 100000 in
theorem zrx28_3 : zq_f zq_D 10 115 4 = true := by decide +kernel
theorem zrx28 : zq_f zq_D 12 28 6 = true := zq_four (c := 4) zrx28_0 zrx28_1 zrx28_2 zrx28_3
set_option maxRecDepth 100000 in
theorem zrx58_0 : zq_f zq_D 10 232 5 = true := by decide +kernel
set_option maxRecDepth 100000 in
theorem zrx58_1 : zq_f zq_D 10 233 4 = true := by decide +kernel
set_option maxRecDepth 100000 in
theorem zrx58_2 : zq_f zq_D 10 234 4 = true := by decide +kernel
set_option maxRecDepth 100000 in
theorem zrx58_3 : zq_f zq_D 10 235 3 = true := by decide +kernel
theorem zrx58 : zq_f zq_D 12 58 5 = true := zq_four (c := 3) zrx58_0 zrx58_1 zrx58_2 zrx58_3
set_option maxRecDepth 100000 in
theorem zrx23_0 : zq_f zq_D 10 92 5 = true := by decide +kernel
set_option maxRecDepth 100000 in
theorem zrx23_1 : zq_f zq_D 10 93 4 = true := by decide +kernel
set_option maxRecDepth 100000 in
theorem zrx23_2 : zq_f zq_D 10 94 4 = true := by decide +kernel
set_option maxRecDepth 100000 in
theorem zrx23_3 : zq_f zq_D 10 95 3 = true := by decide +kernel
theorem zrx23 : zq_f zq_D 12 23 5 = true := zq_four (c := 3) zrx23_0 zrx23_1 zrx23_2 zrx23_3
set_option maxRecDepth 100000 in
theorem zrx29_0 : zq_f zq_D 10 116 5 = true := by decide +kernel
set_option maxRecDepth 100000 in
theorem zrx29_1 : zq_f zq_D 10 117 4 = true := by decide +kernel
set_option maxRecDepth 100000 in
theorem zrx29_2 : zq_f zq_D 10 118 4 = true := by decide +kernel
set_option maxRecDepth 100000 in
theorem zrx29_3 : zq_f zq_D 10 119 3 = true := by decide +kernel
theorem zrx29 : zq_f zq_D 12 29 5 = true := zq_four (c := 3) zrx29_0 zrx29_1 zrx29_2 zrx29_3
set_option maxRecDepth 100000 in
theorem zrx55 : zq_f zq_D 12 55 4 = true := by decide +kernel
set_option maxRecDepth 100000 in
theorem zrx119 : zq_f zq_D 12 119 3 = true := by decide +kernel
set_option maxRecDepth 100000 in
theorem zrx123 : zq_f zq_D 12 123 3 = true := by decide +kernel
set_option maxRecDepth 100000 in
theorem zrx15 : zq_f zq_D 12 15 5 = true := by decide +kernel
