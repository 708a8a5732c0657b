theorem z64_all {p : zP} (hv : zV p) : z64 p := sorry
