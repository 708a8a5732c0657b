def zreps : List Nat := zrep0 ++ zrep1 ++ zrep2 ++ zrep3 ++ zrep4 ++ zrep5 ++ zrep6 ++ zrep7
theorem zruns : ∀ x, x ∈ zreps → zq_f zq_D 12 x (9 - zpop x) = true := by
  intro x hx
  unfold zreps at hx
  simp only [List.mem_append] at hx
  rcases hx with ((((((hx | hx) | hx) | hx) | hx) | hx) | hx) | hx
  · exact List.all_eq_true.mp zrun0 x hx
  · exact List.all_eq_true.mp zrun1 x hx
  · exact List.all_eq_true.mp zrun2 x hx
  · exact List.all_eq_true.mp zrun3 x hx
  · exact List.all_eq_true.mp zrun4 x hx
  · exact List.all_eq_true.mp zrun5 x hx
  · exact List.all_eq_true.mp zrun6 x hx
  · exact List.all_eq_true.mp zrun7 x hx
