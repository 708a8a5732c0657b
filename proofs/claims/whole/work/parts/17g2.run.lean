/-! THE TREES of two CUBES, some of them -/
set_option maxRecDepth 100000 in
theorem zrx20_0 : zq_f zq_D 10 80 7 = true := by decide +kernel
set_option maxRecDepth 100000 in
theorem zrx20_1 : zq_f zq_D 10 81 6 = true := by decide +kernel
set_option maxRecDepth 100000 in
theorem zrx20_2 : zq_f zq_D 10 82 6 = true := by decide +kernel
set_option maxRecDepth 100000 in
theorem zrx20_3 : zq_f zq_D 10 83 5 = true := by decide +kernel
theorem zrx20 : zq_f zq_D 12 20 7 = true := zq_four (c := 5) zrx20_0 zrx20_1 zrx20_2 zrx20_3
set_option maxRecDepth 100000 in
theorem zrx19_0 : zq_f zq_D 10 76 6 = true := by decide +kernel
set_option maxRecDepth 100000 in
theorem zrx19_1 : zq_f zq_D 10 77 5 = true := by decide +kernel
set_option maxRecDepth 100000 in
theorem zrx19_2 : zq_f zq_D 10 78 5 = true := by decide +kernel
set_option maxRecDepth 100000 in
theorem zrx19_3 : zq_f zq_D 10 79 4 = true := by decide +kernel
theorem zrx19 : zq_f zq_D 12 19 6 = true := zq_four (c := 4) zrx19_0 zrx19_1 zrx19_2 zrx19_3
set_option maxRecDepth 100000 in
theorem zrx25_0 : zq_f zq_D 10 100 6 = true := by decide +kernel
set_option maxRecDepth 100000 in
theorem zrx25_1 : zq_f zq_D 10 101 5 = true := by decide +kernel
set_option maxRecDepth 100000 in
theorem zrx25_2 : zq_f zq_D 10 102 5 = true := by decide +kernel
set_option maxRecDepth 100000 in
theorem zrx25_3 : zq_f zq_D 10 103 4 = true := by decide +kernel
theorem zrx25 : zq_f zq_D 12 25 6 = true := zq_four (c := 4) zrx25_0 zrx25_1 zrx25_2 zrx25_3
set_option maxRecDepth 100000 in
theorem zrx53_0 : zq_f zq_D 10 212 5 = true := by decide +kernel
set_option maxRecDepth 100000 in
theorem zrx53_1 : zq_f zq_D 10 213 4 = true := by decide +kernel
set_option maxRecDepth 100000 in
theorem zrx53_2 : zq_f zq_D 10 214 4 = true := by decide +kernel
set_option maxRecDepth 100000 in
theorem zrx53_3 : zq_f zq_D 10 215 3 = true := by decide +kernel
theorem zrx53 : zq_f zq_D 12 53 5 = true := zq_four (c := 3) zrx53_0 zrx53_1 zrx53_2 zrx53_3
set_option maxRecDepth 100000 in
theorem zrx51_0 : zq_f zq_D 10 204 5 = true := by decide +kernel
set_option maxRecDepth 100000 in
theorem zrx51_1 : zq_f zq_D 10 205 4 = true := by decide +kernel
set_option maxRecDepth 100000 in
theorem zrx51_2 : zq_f zq_D 10 206 4 = true := by decide +kernel
set_option maxRecDepth 100000 in
theorem zrx51_3 : zq_f zq_D 10 207 3 = true := by decide +kernel
theorem zrx51 : zq_f zq_D 12 51 5 = true := zq_four (c := 3) zrx51_0 zrx51_1 zrx51_2 zrx51_3
set_option maxRecDepth 100000 in
theorem zrx30_0 : zq_f zq_D 10 120 5 = true := by decide +kernel
set_option maxRecDepth 100000 in
theorem zrx30_1 : zq_f zq_D 10 121 4 = true := by decide +kernel
set_option maxRecDepth 100000 in
theorem zrx30_2 : zq_f zq_D 10 122 4 = true := by decide +kernel
set_option maxRecDepth 100000 in
theorem zrx30_3 : zq_f zq_D 10 123 3 = true := by decide +kernel
theorem zrx30 : zq_f zq_D 12 30 5 = true := zq_four (c := 3) zrx30_0 zrx30_1 zrx30_2 zrx30_3
set_option maxRecDepth 100000 in
theorem zrx59 : zq_f zq_D 12 59 4 = true := by decide +kernel
set_option maxRecDepth 100000 in
theorem zrx125 : zq_f zq_D 12 125 3 = true := by decide +kernel
set_option maxRecDepth 100000 in
theorem zrx63 : zq_f zq_D 12 63 3 = true := by decide +kernel
set_option maxRecDepth 100000 in
theorem zrx1 : zq_f zq_D 12 1 8 = true := by decide +kernel
set_option maxRecDepth 100000 in
theorem zrx255 : zq_f zq_D 12 255 1 = true := by decide +kernel
