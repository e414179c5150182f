section
variable {L O R C s w D t f q g r : Nat → Int32} {post : SY → Prop} {c d j i l a b m : Nat} {x y z : Int32}
theorem ys_end (hc : c < 4) (h : post (L, O, R, C, upd s c x, upd w c z, t, upd D c 0, f, q, g, r)) : wpY_end post (L, O, R, C, s, w, t, D, f, q, g, r) (nI c) x z := by
  unfold wpY_end
  simp +decide (disch := omega) only [forall_eq, eq_self, nI_leI, nI_ltI, nI_eq, vp_in_nI, nI_clamp, nI_1, nI_add, cf_x4, cf_x8, cf_x16, cf_fs, pk_us, pk_un, cl_n0, cl_p0, true_implies, forall_const, not_true_eq_false, not_false_eq_true, false_implies, and_true, true_and, implies_true, and_self, ite_true, ite_false, reduceIte]
  exact h
theorem ys_push (hc : c < 4) (hd : d < 4) (hD : D c = nI d) (h : post (L, O, R, C, s, w, t, upd D c (nI (d + 1)), upd f (c * 4 + d) x, upd q (c * 4 + d) 0, g, cf_r4 r (c * 4 + d) z)) : wpY_push post (L, O, R, C, s, w, t, D, f, q, g, r) (nI c) x z := by
  unfold wpY_push
  simp +decide (disch := omega) only [hD, cf_p2, cf_p3, forall_eq, eq_self, nI_leI, nI_ltI, nI_eq, vp_in_nI, nI_clamp, nI_1, nI_add, cf_x4, cf_x8, cf_x16, cf_fs, pk_us, pk_un, cl_n0, cl_p0, true_implies, forall_const, not_true_eq_false, not_false_eq_true, false_implies, and_true, true_and, implies_true, and_self, ite_true, ite_false, reduceIte]
  exact h
theorem ys_back0 (hc : c < 4) (hD : D c = nI (0 + 1)) (h : post (L, O, R, C, upd s c 3, upd w c z, t, upd D c 0, f, q, g, r)) : wpY_back post (L, O, R, C, s, w, t, D, f, q, g, r) (nI c) z := by
  have e : (nI c).toNatClampNeg = c := nI_clamp (by omega)
  unfold wpY_back
  dsimp only
  rw [e, hD]
  refine ⟨vp_in_nI hc (by decide), vp_in_nI hc (by decide), nm_r (congrArg (upd D c) (show nI (0 + 1) - 1 = 0 by decide)) ⟨vp_in_nI hc (by decide), br_t pk_us ?_⟩⟩
  refine ys_end hc ?_
  show post (L, O, R, C, upd s c 3, upd w c z, t, upd (upd D c 0) c 0, f, q, g, r)
  rw [cf_uu]
  exact h
theorem ys_back1 (hc : c < 4) (hd : d + 1 < 4) (hD : D c = nI (d + 1 + 1)) (ha : a < 4) (hg : g (c * 4 + d) = nI a) (h : post (L, O, R, C, s, w, t, upd D c (nI (d + 1)), f, q, g, upd r ((c * 4 + d) * 4 + a) z)) : wpY_back post (L, O, R, C, s, w, t, D, f, q, g, r) (nI c) z := by
  have h1 : ¬ nI (d + 1) = 0 := nI_ne0 (by omega) (by omega)
  unfold wpY_back
  simp +decide (disch := omega) only [hD, nI_pred, h1, hg, forall_eq, eq_self, nI_leI, nI_ltI, nI_eq, vp_in_nI, nI_clamp, nI_1, nI_add, cf_x4, cf_x8, cf_x16, cf_fs, pk_us, pk_un, cl_n0, cl_p0, true_implies, forall_const, not_true_eq_false, not_false_eq_true, false_implies, and_true, true_and, implies_true, and_self, ite_true, ite_false, reduceIte]
  exact h
end
section
variable {L O R C s w D t f q g r : Nat → Int32} {post : SY → Prop} {c d j i l a b m : Nat} {x y z : Int32}
theorem yo_0 (hc : c < 4) (hd : d < 4) (hD : D c = nI (d + 1)) (hj : j < 3) (hi : i < 8) (hf : f (c * 4 + d) = nI j) (hq : q (c * 4 + d) = nI i) (ha : a < 4) (hA : cf_A R (j * 8 + i) = nI a) (hb : b < 4) (hB : cf_B R (j * 8 + i) = nI b) (hO : O (j * 8 + i) = 0) (h : post (L, O, R, C, s, w, t, D, f, upd q (c * 4 + d) (nI (i + 1)), g, upd r ((c * 4 + d) * 4 + a) (C (j * 8 + i)))) : wpY_carryOut post (L, O, R, C, s, w, t, D, f, q, g, r) (nI c) := by
  have hA' : R (j * 8 + i) &&& 3 = nI a := hA
  have hB' : (R (j * 8 + i) >>> ((2 : Int32) &&& 31)) &&& 3 = nI b := hB
  unfold wpY_carryOut
  simp +decide (disch := omega) only [hD, hf, hq, hA', hB', hO, forall_eq, eq_self, nI_leI, nI_ltI, nI_eq, vp_in_nI, nI_clamp, nI_1, nI_add, cf_x4, cf_x8, cf_x16, cf_fs, pk_us, pk_un, cl_n0, cl_p0, true_implies, forall_const, not_true_eq_false, not_false_eq_true, false_implies, and_true, true_and, implies_true, and_self, ite_true, ite_false, reduceIte]
  exact h
theorem yo_1 (hc : c < 4) (hd : d < 4) (hD : D c = nI (d + 1)) (hj : j < 3) (hi : i < 8) (hf : f (c * 4 + d) = nI j) (hq : q (c * 4 + d) = nI i) (ha : a < 4) (hA : cf_A R (j * 8 + i) = nI a) (hb : b < 4) (hB : cf_B R (j * 8 + i) = nI b) (hO : O (j * 8 + i) = 1) (h : post (L, O, R, C, s, w, t, D, f, upd q (c * 4 + d) (nI (i + 1)), g, upd r ((c * 4 + d) * 4 + a) (r ((c * 4 + d) * 4 + a) + r ((c * 4 + d) * 4 + b)))) : wpY_carryOut post (L, O, R, C, s, w, t, D, f, q, g, r) (nI c) := by
  have hA' : R (j * 8 + i) &&& 3 = nI a := hA
  have hB' : (R (j * 8 + i) >>> ((2 : Int32) &&& 31)) &&& 3 = nI b := hB
  unfold wpY_carryOut
  simp +decide (disch := omega) only [hD, hf, hq, hA', hB', hO, forall_eq, eq_self, nI_leI, nI_ltI, nI_eq, vp_in_nI, nI_clamp, nI_1, nI_add, cf_x4, cf_x8, cf_x16, cf_fs, pk_us, pk_un, cl_n0, cl_p0, true_implies, forall_const, not_true_eq_false, not_false_eq_true, false_implies, and_true, true_and, implies_true, and_self, ite_true, ite_false, reduceIte]
  exact h
theorem yo_2 (hc : c < 4) (hd : d < 4) (hD : D c = nI (d + 1)) (hj : j < 3) (hi : i < 8) (hf : f (c * 4 + d) = nI j) (hq : q (c * 4 + d) = nI i) (ha : a < 4) (hA : cf_A R (j * 8 + i) = nI a) (hb : b < 4) (hB : cf_B R (j * 8 + i) = nI b) (hO : O (j * 8 + i) = 2) (h : post (L, O, R, C, s, w, t, D, f, upd q (c * 4 + d) (nI (i + 1)), g, upd r ((c * 4 + d) * 4 + a) (r ((c * 4 + d) * 4 + a) - r ((c * 4 + d) * 4 + b)))) : wpY_carryOut post (L, O, R, C, s, w, t, D, f, q, g, r) (nI c) := by
  have hA' : R (j * 8 + i) &&& 3 = nI a := hA
  have hB' : (R (j * 8 + i) >>> ((2 : Int32) &&& 31)) &&& 3 = nI b := hB
  unfold wpY_carryOut
  simp +decide (disch := omega) only [hD, hf, hq, hA', hB', hO, forall_eq, eq_self, nI_leI, nI_ltI, nI_eq, vp_in_nI, nI_clamp, nI_1, nI_add, cf_x4, cf_x8, cf_x16, cf_fs, pk_us, pk_un, cl_n0, cl_p0, true_implies, forall_const, not_true_eq_false, not_false_eq_true, false_implies, and_true, true_and, implies_true, and_self, ite_true, ite_false, reduceIte]
  exact h
theorem yo_3 (hc : c < 4) (hd : d < 4) (hD : D c = nI (d + 1)) (hj : j < 3) (hi : i < 8) (hf : f (c * 4 + d) = nI j) (hq : q (c * 4 + d) = nI i) (ha : a < 4) (hA : cf_A R (j * 8 + i) = nI a) (hb : b < 4) (hB : cf_B R (j * 8 + i) = nI b) (hO : O (j * 8 + i) = 3) (h : post (L, O, R, C, s, w, t, D, f, upd q (c * 4 + d) (C (j * 8 + i)), g, r)) : wpY_carryOut post (L, O, R, C, s, w, t, D, f, q, g, r) (nI c) := by
  have hA' : R (j * 8 + i) &&& 3 = nI a := hA
  have hB' : (R (j * 8 + i) >>> ((2 : Int32) &&& 31)) &&& 3 = nI b := hB
  unfold wpY_carryOut
  simp +decide (disch := omega) only [hD, hf, hq, hA', hB', hO, cf_uu, forall_eq, eq_self, nI_leI, nI_ltI, nI_eq, vp_in_nI, nI_clamp, nI_1, nI_add, cf_x4, cf_x8, cf_x16, cf_fs, pk_us, pk_un, cl_n0, cl_p0, true_implies, forall_const, not_true_eq_false, not_false_eq_true, false_implies, and_true, true_and, implies_true, and_self, ite_true, ite_false, reduceIte]
  exact h
theorem yo_4t (hc : c < 4) (hd : d < 4) (hD : D c = nI (d + 1)) (hj : j < 3) (hi : i < 8) (hf : f (c * 4 + d) = nI j) (hq : q (c * 4 + d) = nI i) (ha : a < 4) (hA : cf_A R (j * 8 + i) = nI a) (hb : b < 4) (hB : cf_B R (j * 8 + i) = nI b) (hO : O (j * 8 + i) = 4) (hr : ¬ r ((c * 4 + d) * 4 + a) ≤ 0) (h : post (L, O, R, C, s, w, t, D, f, upd q (c * 4 + d) (C (j * 8 + i)), g, r)) : wpY_carryOut post (L, O, R, C, s, w, t, D, f, q, g, r) (nI c) := by
  have hA' : R (j * 8 + i) &&& 3 = nI a := hA
  have hB' : (R (j * 8 + i) >>> ((2 : Int32) &&& 31)) &&& 3 = nI b := hB
  unfold wpY_carryOut
  simp +decide (disch := omega) only [hD, hf, hq, hA', hB', hO, hr, cf_uu, forall_eq, eq_self, nI_leI, nI_ltI, nI_eq, vp_in_nI, nI_clamp, nI_1, nI_add, cf_x4, cf_x8, cf_x16, cf_fs, pk_us, pk_un, cl_n0, cl_p0, true_implies, forall_const, not_true_eq_false, not_false_eq_true, false_implies, and_true, true_and, implies_true, and_self, ite_true, ite_false, reduceIte]
  exact h
theorem yo_4f (hc : c < 4) (hd : d < 4) (hD : D c = nI (d + 1)) (hj : j < 3) (hi : i < 8) (hf : f (c * 4 + d) = nI j) (hq : q (c * 4 + d) = nI i) (ha : a < 4) (hA : cf_A R (j * 8 + i) = nI a) (hb : b < 4) (hB : cf_B R (j * 8 + i) = nI b) (hO : O (j * 8 + i) = 4) (hr : r ((c * 4 + d) * 4 + a) ≤ 0) (h : post (L, O, R, C, s, w, t, D, f, upd q (c * 4 + d) (nI (i + 1)), g, r)) : wpY_carryOut post (L, O, R, C, s, w, t, D, f, q, g, r) (nI c) := by
  have hA' : R (j * 8 + i) &&& 3 = nI a := hA
  have hB' : (R (j * 8 + i) >>> ((2 : Int32) &&& 31)) &&& 3 = nI b := hB
  unfold wpY_carryOut
  simp +decide (disch := omega) only [wY_carryOut_202, wY_carryOut_274, hD, hf, hq, hA', hB', hO, hr, forall_eq, eq_self, nI_leI, nI_ltI, nI_eq, vp_in_nI, nI_clamp, nI_1, nI_add, cf_x4, cf_x8, cf_x16, cf_fs, pk_us, pk_un, cl_n0, cl_p0, true_implies, forall_const, not_true_eq_false, not_false_eq_true, false_implies, and_true, true_and, implies_true, and_self, ite_true, ite_false, reduceIte]
  exact h
theorem yo_5 (hc : c < 4) (hd : d < 4) (hD : D c = nI (d + 1)) (hj : j < 3) (hi : i < 8) (hf : f (c * 4 + d) = nI j) (hq : q (c * 4 + d) = nI i) (ha : a < 4) (hA : cf_A R (j * 8 + i) = nI a) (hb : b < 4) (hB : cf_B R (j * 8 + i) = nI b) (hO : O (j * 8 + i) = 5) (h : post (L, O, R, C, upd s c 2, upd w c (r ((c * 4 + d) * 4 + a)), t, D, f, upd q (c * 4 + d) (nI (i + 1)), upd g (c * 4 + d) (cf_B R (j * 8 + i)), r)) : wpY_carryOut post (L, O, R, C, s, w, t, D, f, q, g, r) (nI c) := by
  have hA' : R (j * 8 + i) &&& 3 = nI a := hA
  have hB' : (R (j * 8 + i) >>> ((2 : Int32) &&& 31)) &&& 3 = nI b := hB
  rw [hB] at h
  unfold wpY_carryOut
  simp +decide (disch := omega) only [wY_carryOut_202, wY_carryOut_274, hD, hf, hq, hA', hB', hO, forall_eq, eq_self, nI_leI, nI_ltI, nI_eq, vp_in_nI, nI_clamp, nI_1, nI_add, cf_x4, cf_x8, cf_x16, cf_fs, pk_us, pk_un, cl_n0, cl_p0, true_implies, forall_const, not_true_eq_false, not_false_eq_true, false_implies, and_true, true_and, implies_true, and_self, ite_true, ite_false, reduceIte]
  exact h
theorem yo_63 (hd3 : d = 3) (hc : c < 4) (hd : d < 4) (hD : D c = nI (d + 1)) (hj : j < 3) (hi : i < 8) (hf : f (c * 4 + d) = nI j) (hq : q (c * 4 + d) = nI i) (ha : a < 4) (hA : cf_A R (j * 8 + i) = nI a) (hb : b < 4) (hB : cf_B R (j * 8 + i) = nI b) (hO : O (j * 8 + i) = 6) (h : post (L, O, R, C, upd s c 4, upd w c 0, t, upd D c 0, f, upd q (c * 4 + d) (nI (i + 1)), g, r)) : wpY_carryOut post (L, O, R, C, s, w, t, D, f, q, g, r) (nI c) := by
  have hA' : R (j * 8 + i) &&& 3 = nI a := hA
  have hB' : (R (j * 8 + i) >>> ((2 : Int32) &&& 31)) &&& 3 = nI b := hB
  have h4 : (nI (d + 1) = (4 : Int32)) = True := eq_true (by rw [hd3]; decide)
  unfold wpY_carryOut
  simp +decide (disch := omega) only [wY_carryOut_202, hD, hf, hq, hA', hB', hO, h4, forall_eq, eq_self, nI_leI, nI_ltI, nI_eq, vp_in_nI, nI_clamp, nI_1, nI_add, cf_x4, cf_x8, cf_x16, cf_fs, pk_us, pk_un, cl_n0, cl_p0, true_implies, forall_const, not_true_eq_false, not_false_eq_true, false_implies, and_true, true_and, implies_true, and_self, ite_true, ite_false, reduceIte]
  exact ys_end hc h
theorem yo_6 (hd3 : d + 1 < 4) (hc : c < 4) (hd : d < 4) (hD : D c = nI (d + 1)) (hj : j < 3) (hi : i < 8) (hf : f (c * 4 + d) = nI j) (hq : q (c * 4 + d) = nI i) (ha : a < 4) (hA : cf_A R (j * 8 + i) = nI a) (hb : b < 4) (hB : cf_B R (j * 8 + i) = nI b) (hO : O (j * 8 + i) = 6) (hm : (C (j * 8 + i) - C (j * 8 + i) / 3 * 3 + 3) - (C (j * 8 + i) - C (j * 8 + i) / 3 * 3 + 3) / 3 * 3 = nI m) (h : post (L, O, R, C, s, w, t, upd D c (nI (d + 1 + 1)), upd f (c * 4 + (d + 1)) (nI m), upd (upd q (c * 4 + d) (nI (i + 1))) (c * 4 + (d + 1)) 0, upd g (c * 4 + d) (cf_A R (j * 8 + i)), cf_r4 r (c * 4 + (d + 1)) (r ((c * 4 + d) * 4 + a)))) : wpY_carryOut post (L, O, R, C, s, w, t, D, f, q, g, r) (nI c) := by
  have hA' : R (j * 8 + i) &&& 3 = nI a := hA
  have hB' : (R (j * 8 + i) >>> ((2 : Int32) &&& 31)) &&& 3 = nI b := hB
  have h4 : ¬ nI (d + 1) = 4 := fun z => by have := (nI_eq (a := d + 1) (b := 4) (by omega) (by decide)).mp z; omega
  rw [hA] at h
  unfold wpY_carryOut
  simp +decide (disch := omega) only [wY_carryOut_202, wY_carryOut_274, hD, hf, hq, hA', hB', hO, h4, hm, forall_eq, eq_self, nI_leI, nI_ltI, nI_eq, vp_in_nI, nI_clamp, nI_1, nI_add, cf_x4, cf_x8, cf_x16, cf_fs, pk_us, pk_un, cl_n0, cl_p0, true_implies, forall_const, not_true_eq_false, not_false_eq_true, false_implies, and_true, true_and, implies_true, and_self, ite_true, ite_false, reduceIte]
  exact ys_push hc hd3 hD h
theorem yo_7 (hc : c < 4) (hd : d < 4) (hD : D c = nI (d + 1)) (hj : j < 3) (hi : i < 8) (hf : f (c * 4 + d) = nI j) (hq : q (c * 4 + d) = nI i) (ha : a < 4) (hA : cf_A R (j * 8 + i) = nI a) (hb : b < 4) (hB : cf_B R (j * 8 + i) = nI b) (hO : O (j * 8 + i) = 7) (h : wpY_back post (L, O, R, C, s, w, t, D, f, upd q (c * 4 + d) (nI (i + 1)), g, r) (nI c) (r ((c * 4 + d) * 4 + a))) : wpY_carryOut post (L, O, R, C, s, w, t, D, f, q, g, r) (nI c) := by
  have hA' : R (j * 8 + i) &&& 3 = nI a := hA
  have hB' : (R (j * 8 + i) >>> ((2 : Int32) &&& 31)) &&& 3 = nI b := hB
  unfold wpY_carryOut
  simp +decide (disch := omega) only [wY_carryOut_202, wY_carryOut_274, hD, hf, hq, hA', hB', hO, forall_eq, eq_self, nI_leI, nI_ltI, nI_eq, vp_in_nI, nI_clamp, nI_1, nI_add, cf_x4, cf_x8, cf_x16, cf_fs, pk_us, pk_un, cl_n0, cl_p0, true_implies, forall_const, not_true_eq_false, not_false_eq_true, false_implies, and_true, true_and, implies_true, and_self, ite_true, ite_false, reduceIte]
  exact h
end
