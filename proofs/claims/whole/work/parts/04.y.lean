section
variable {L O R C s w D t f q g r : Nat → Int32} {post : SY → Prop} {c d j i l a b m : Nat} {x y z : Int32}
theorem ys_end (hc : c < 4) (h : post (L, O, R, C, upd s c x, upd w c z, t, upd D c 0, f, q, g, r)) : wpY_end post (L, O, R, C, s, w, t, D, f, q, g, r) (nI c) x z := by
  unfold wpY_end
  simp +decide (disch := omega) only [forall_eq, eq_self, nI_leI, nI_ltI, nI_eq, vp_in_nI, nI_clamp, nI_1, nI_add, cf_x4, cf_x8, cf_x16, cf_fs, pk_us, pk_un, cl_n0, cl_p0, true_implies, forall_const, not_true_eq_false, not_false_eq_true, false_implies, and_true, true_and, implies_true, and_self, ite_true, ite_false, reduceIte]
  exact h
theorem ys_push (hc : c < 4) (hd : d < 4) (hD : D c = nI d) (h : post (L, O, R, C, s, w, t, upd D c (nI (d + 1)), upd f (c * 4 + d) x, upd q (c * 4 + d) 0, g, cf_r4 r (c * 4 + d) z)) : wpY_push post (L, O, R, C, s, w, t, D, f, q, g, r) (nI c) x z := by
  unfold wpY_push
  simp +decide (disch := omega) only [hD, forall_eq, eq_self, nI_leI, nI_ltI, nI_eq, vp_in_nI, nI_clamp, nI_1, nI_add, cf_x4, cf_x8, cf_x16, cf_fs, pk_us, pk_un, cl_n0, cl_p0, true_implies, forall_const, not_true_eq_false, not_false_eq_true, false_implies, and_true, true_and, implies_true, and_self, ite_true, ite_false, reduceIte]
  exact h
theorem ys_back0 (hc : c < 4) (hD : D c = nI (0 + 1)) (h : post (L, O, R, C, upd s c 3, upd w c z, t, upd D c 0, f, q, g, r)) : wpY_back post (L, O, R, C, s, w, t, D, f, q, g, r) (nI c) z := by
  unfold wpY_back
  sorry
theorem ys_back1 (hc : c < 4) (hd : d + 1 < 4) (hD : D c = nI (d + 1 + 1)) (ha : a < 4) (hg : g (c * 4 + d) = nI a) (h : post (L, O, R, C, s, w, t, upd D c (nI (d + 1)), f, q, g, upd r ((c * 4 + d) * 4 + a) z)) : wpY_back post (L, O, R, C, s, w, t, D, f, q, g, r) (nI c) z := by
  unfold wpY_back
  sorry
end
