/-- OPEN: what is left to prove: there is a relation between the two worlds that holds at the start and that every call keeps, with one answer -/
theorem zp_exists : ∃ I : zx_S → zx_S → Prop, I zX_0 zM_0 ∧ zp_All I := sorry
