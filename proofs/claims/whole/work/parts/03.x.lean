/-- a new frame's four registers -/
def cf_r4 (r : Nat → Int32) (k : Nat) (z : Int32) : Nat → Int32 := upd (upd (upd (upd r (k * 4) z) (k * 4 + 1) 0) (k * 4 + 2) 0) (k * 4 + 3) 0
section
variable {L O A B C s w D t f p r : Nat → Int32} {post : SX → Prop} {c d j i l a b m : Nat} {x y z : Int32}
theorem xs_settle (hc : c < 4) (h : post (L, O, A, B, C, upd s c x, upd w c z, upd D c 0, t, f, p, r)) : wpX_settle post (L, O, A, B, C, s, w, D, t, f, p, r) (nI c) x z := by
  unfold wpX_settle
  simp (disch := omega) only [forall_eq, nI_leI, nI_ltI, nI_eq, vp_in_nI, nI_clamp, nI_1, cf_fr, cf_f4, cf_x4, cf_f8, pk_us, pk_un, true_implies, forall_const, not_true_eq_false, not_false_eq_true, false_implies, and_true, true_and, implies_true, and_self, ite_true, ite_false, reduceIte]
  exact h
theorem xs_add (hc : c < 4) (hd : d < 4) (hD : D c = nI d) (h : post (L, O, A, B, C, s, w, upd D c (nI (d + 1)), t, upd f (c * 4 + d) x, upd p (c * 4 + d) 0, cf_r4 r (c * 4 + d) z)) : wpX_addFrame post (L, O, A, B, C, s, w, D, t, f, p, r) (nI c) x z := by
  unfold wpX_addFrame
  simp (disch := omega) only [hD, forall_eq, nI_leI, nI_ltI, nI_eq, vp_in_nI, nI_clamp, nI_1, cf_fr, cf_f4, cf_x4, cf_f8, pk_us, pk_un, true_implies, forall_const, not_true_eq_false, not_false_eq_true, false_implies, and_true, true_and, implies_true, and_self, ite_true, ite_false, reduceIte]
  sorry
theorem xs_take2 (hc : c < 4) (hd : d < 4) (hs : s c = 2) (hD : D c = nI (d + 1)) (hj : j < 3) (hi : i < 8) (hb : b < 4) (hf : f (c * 4 + d) = nI j) (hp : p (c * 4 + d) = nI i) (hB : B (j * 8 + i) = nI b) (h : post (L, O, A, B, C, s, w, D, t, f, upd p (c * 4 + d) (nI (i + 1)), upd r ((c * 4 + d) * 4 + b) z)) : wpX_takeIn post (L, O, A, B, C, s, w, D, t, f, p, r) (nI c) z := by
  unfold wpX_takeIn
  simp (disch := omega) only [wpX_lastFrame, wpX_instructionOf, hs, hD, hf, hp, hB, forall_eq, nI_leI, nI_ltI, nI_eq, vp_in_nI, nI_clamp, nI_1, cf_fr, cf_f4, cf_x4, cf_f8, pk_us, pk_un, true_implies, forall_const, not_true_eq_false, not_false_eq_true, false_implies, and_true, true_and, implies_true, and_self, ite_true, ite_false, reduceIte]
  exact h
theorem xs_take1 (hc : c < 4) (hs : ¬ s c = 2) (h : post (L, O, A, B, C, s, w, D, t, f, p, r)) : wpX_takeIn post (L, O, A, B, C, s, w, D, t, f, p, r) (nI c) z := by
  unfold wpX_takeIn
  simp (disch := omega) only [hs, forall_eq, nI_leI, nI_ltI, nI_eq, vp_in_nI, nI_clamp, nI_1, cf_fr, cf_f4, cf_x4, cf_f8, pk_us, pk_un, true_implies, forall_const, not_true_eq_false, not_false_eq_true, false_implies, and_true, true_and, implies_true, and_self, ite_true, ite_false, reduceIte]
  exact h
theorem xs_ret0 (hc : c < 4) (hD : D c = nI (0 + 1)) (h : post (L, O, A, B, C, upd s c 3, upd w c z, upd D c 0, t, f, p, r)) : wpX_returnFrom post (L, O, A, B, C, s, w, D, t, f, p, r) (nI c) z := by
  unfold wpX_returnFrom
  sorry
theorem xs_ret1 (hc : c < 4) (hd : d + 1 < 4) (hD : D c = nI (d + 1 + 1)) (hj : j < 3) (hi : i < 8) (ha : a < 4) (hf : f (c * 4 + d) = nI j) (hp : p (c * 4 + d) = nI i) (hA : A (j * 8 + i) = nI a) (h : post (L, O, A, B, C, s, w, upd D c (nI (d + 1)), t, f, upd p (c * 4 + d) (nI (i + 1)), upd r ((c * 4 + d) * 4 + a) z)) : wpX_returnFrom post (L, O, A, B, C, s, w, D, t, f, p, r) (nI c) z := by
  unfold wpX_returnFrom
  sorry
theorem xs_call3 (hc : c < 4) (hD : D c = nI 4) (h : post (L, O, A, B, C, upd s c 4, upd w c 0, upd D c 0, t, f, p, r)) : wpX_call post (L, O, A, B, C, s, w, D, t, f, p, r) (nI c) y z := by
  unfold wpX_call
  sorry
theorem xs_call (hc : c < 4) (hd : d + 1 < 4) (hD : D c = nI (d + 1)) (h1 : y - y / 3 * 3 < 0 → y - y / 3 * 3 + 3 = nI m) (h2 : ¬ y - y / 3 * 3 < 0 → y - y / 3 * 3 = nI m) (h : post (L, O, A, B, C, s, w, upd D c (nI (d + 1 + 1)), t, upd f (c * 4 + (d + 1)) (nI m), upd p (c * 4 + (d + 1)) 0, cf_r4 r (c * 4 + (d + 1)) z)) : wpX_call post (L, O, A, B, C, s, w, D, t, f, p, r) (nI c) y z := by
  unfold wpX_call
  sorry
end
