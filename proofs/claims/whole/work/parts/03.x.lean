/-- a new frame's four registers -/
def cf_r4 (r : Nat → Int32) (k : Nat) (z : Int32) : Nat → Int32 := upd (upd (upd (upd r (k * 4) z) (k * 4 + 1) 0) (k * 4 + 2) 0) (k * 4 + 3) 0
section
variable {L O A B C s w D t f p r : Nat → Int32} {post : SX → Prop} {c d j i l a b m : Nat} {x y z : Int32}
theorem xs_settle (hc : c < 4) (h : post (L, O, A, B, C, upd s c x, upd w c z, upd D c 0, t, f, p, r)) : wpX_settle post (L, O, A, B, C, s, w, D, t, f, p, r) (nI c) x z := by
  unfold wpX_settle
  simp +decide (disch := omega) only [forall_eq, eq_self, nI_leI, nI_ltI, nI_eq, vp_in_nI, nI_clamp, nI_1, nI_add, cf_x4, cf_x8, cf_x16, cf_fs, pk_us, pk_un, cl_n0, cl_p0, true_implies, forall_const, not_true_eq_false, not_false_eq_true, false_implies, and_true, true_and, implies_true, and_self, ite_true, ite_false, reduceIte]
  exact h
theorem xs_addL {k n : Nat} (hc : c < 4) (hk : k < 16) (hi : 1 ≤ i) (hi4 : i ≤ 3) (h : wX_addFrame_45 post (nI c) (nI (k * 4)) n (nI (i + 1)) L O A B C s w D t f p (upd r (k * 4 + i) 0)) : wX_addFrame_45 post (nI c) (nI (k * 4)) (n + 1) (nI i) L O A B C s w D t f p r :=
  br_f (nI_ge (b := 4) (by omega) (by decide)) (by
    rw [nI_add, nI_clamp (by omega)]
    exact ⟨vp_in_nI (by omega) (by decide), nm_e (nm_r (nI_1 i) h)⟩)
theorem xs_addE {k n : Nat} (hc : c < 4) (hd : d < 4) (hD : D c = nI d) (h : post (L, O, A, B, C, s, w, upd D c (nI (d + 1)), t, f, p, r)) : wX_addFrame_45 post (nI c) (nI (k * 4)) (n + 1) (nI 4) L O A B C s w D t f p r :=
  br_t (nI_le (a := 4) (by omega) (by decide)) (by
    rw [nI_clamp (by omega), hD, nI_1]
    exact ⟨vp_in_nI hc (by decide), vp_in_nI hc (by decide), nm_e h⟩)
theorem xs_add (hc : c < 4) (hd : d < 4) (hD : D c = nI d) (h : post (L, O, A, B, C, s, w, upd D c (nI (d + 1)), t, upd f (c * 4 + d) x, upd p (c * 4 + d) 0, cf_r4 r (c * 4 + d) z)) : wpX_addFrame post (L, O, A, B, C, s, w, D, t, f, p, r) (nI c) x z := by
  unfold wpX_addFrame
  simp +decide (disch := omega) only [hD, forall_eq, eq_self, nI_leI, nI_ltI, nI_eq, vp_in_nI, nI_clamp, nI_1, nI_add, cf_x4, cf_x8, cf_x16, cf_fs, pk_us, pk_un, cl_n0, cl_p0, true_implies, forall_const, not_true_eq_false, not_false_eq_true, false_implies, and_true, true_and, implies_true, and_self, ite_true, ite_false, reduceIte]
  exact ⟨4, xs_addL (i := 1) hc (by omega) (by omega) (by omega) (xs_addL (i := 2) hc (by omega) (by omega) (by omega) (xs_addL (i := 3) hc (by omega) (by omega) (by omega) (xs_addE hc hd hD h)))⟩
theorem xs_take2 (hc : c < 4) (hd : d < 4) (hs : s c = 2) (hD : D c = nI (d + 1)) (hj : j < 3) (hi : i < 8) (hb : b < 4) (hf : f (c * 4 + d) = nI j) (hp : p (c * 4 + d) = nI i) (hB : B (j * 8 + i) = nI b) (h : post (L, O, A, B, C, s, w, D, t, f, upd p (c * 4 + d) (nI (i + 1)), upd r ((c * 4 + d) * 4 + b) z)) : wpX_takeIn post (L, O, A, B, C, s, w, D, t, f, p, r) (nI c) z := by
  unfold wpX_takeIn
  simp +decide (disch := omega) only [wpX_lastFrame, wpX_instructionOf, hs, hD, hf, hp, hB, forall_eq, eq_self, nI_leI, nI_ltI, nI_eq, vp_in_nI, nI_clamp, nI_1, nI_add, cf_x4, cf_x8, cf_x16, cf_fs, pk_us, pk_un, cl_n0, cl_p0, true_implies, forall_const, not_true_eq_false, not_false_eq_true, false_implies, and_true, true_and, implies_true, and_self, ite_true, ite_false, reduceIte]
  exact h
theorem xs_take1 (hc : c < 4) (hs : ¬ s c = 2) (h : post (L, O, A, B, C, s, w, D, t, f, p, r)) : wpX_takeIn post (L, O, A, B, C, s, w, D, t, f, p, r) (nI c) z := by
  unfold wpX_takeIn
  simp +decide (disch := omega) only [hs, forall_eq, eq_self, nI_leI, nI_ltI, nI_eq, vp_in_nI, nI_clamp, nI_1, nI_add, cf_x4, cf_x8, cf_x16, cf_fs, pk_us, pk_un, cl_n0, cl_p0, true_implies, forall_const, not_true_eq_false, not_false_eq_true, false_implies, and_true, true_and, implies_true, and_self, ite_true, ite_false, reduceIte]
  exact h
theorem xs_ret0 (hc : c < 4) (hD : D c = nI (0 + 1)) (h : post (L, O, A, B, C, upd s c 3, upd w c z, upd D c 0, t, f, p, r)) : wpX_returnFrom post (L, O, A, B, C, s, w, D, t, f, p, r) (nI c) z := by
  have h1 : ¬ (1 : Int32) < D c := by rw [hD]; decide
  unfold wpX_returnFrom
  dsimp only
  refine ⟨vp_in_nI hc (by decide), br_f (by rw [nI_clamp (by omega)]; exact h1) ?_⟩
  exact xs_settle hc h
theorem xs_ret1 (hc : c < 4) (hd : d + 1 < 4) (hD : D c = nI (d + 1 + 1)) (hj : j < 3) (hi : i < 8) (ha : a < 4) (hf : f (c * 4 + d) = nI j) (hp : p (c * 4 + d) = nI i) (hA : A (j * 8 + i) = nI a) (h : post (L, O, A, B, C, s, w, upd D c (nI (d + 1)), t, f, upd p (c * 4 + d) (nI (i + 1)), upd r ((c * 4 + d) * 4 + a) z)) : wpX_returnFrom post (L, O, A, B, C, s, w, D, t, f, p, r) (nI c) z := by
  have h1 : (1 : Int32) < nI (d + 1 + 1) := nI_lt (a := 1) (by omega) (by omega)
  unfold wpX_returnFrom
  simp +decide (disch := omega) only [wpX_lastFrame, wpX_instructionOf, hD, h1, nI_pred, hf, hp, hA, forall_eq, eq_self, nI_leI, nI_ltI, nI_eq, vp_in_nI, nI_clamp, nI_1, nI_add, cf_x4, cf_x8, cf_x16, cf_fs, pk_us, pk_un, cl_n0, cl_p0, true_implies, forall_const, not_true_eq_false, not_false_eq_true, false_implies, and_true, true_and, implies_true, and_self, ite_true, ite_false, reduceIte]
  exact h
theorem xs_call3 (hc : c < 4) (hD : D c = nI (3 + 1)) (h : post (L, O, A, B, C, upd s c 4, upd w c 0, upd D c 0, t, f, p, r)) : wpX_call post (L, O, A, B, C, s, w, D, t, f, p, r) (nI c) y z := by
  have h1 : ¬ D c < (4 : Int32) := by rw [hD]; decide
  unfold wpX_call
  dsimp only
  refine ⟨vp_in_nI hc (by decide), br_f (by rw [nI_clamp (by omega)]; exact h1) ?_⟩
  exact xs_settle hc h
theorem xs_call (hc : c < 4) (hd : d + 1 < 4) (hD : D c = nI (d + 1)) (h1 : y - y / 3 * 3 < 0 → y - y / 3 * 3 + 3 = nI m) (h2 : ¬ y - y / 3 * 3 < 0 → y - y / 3 * 3 = nI m) (h : post (L, O, A, B, C, s, w, upd D c (nI (d + 1 + 1)), t, upd f (c * 4 + (d + 1)) (nI m), upd p (c * 4 + (d + 1)) 0, cf_r4 r (c * 4 + (d + 1)) z)) : wpX_call post (L, O, A, B, C, s, w, D, t, f, p, r) (nI c) y z := by
  have h3 : D c < (4 : Int32) := by rw [hD]; exact nI_lt (b := 4) hd (by decide)
  unfold wpX_call
  dsimp only
  refine ⟨vp_in_nI hc (by decide), br_t (by rw [nI_clamp (by omega)]; exact h3) ⟨by decide, nm_e (br_c (fun z => ?_) (fun z => ?_))⟩⟩
  · rw [h2 (Int32.not_lt.mpr z)]
    unfold wX_call_37
    exact xs_add hc hd hD h
  · rw [h1 (Int32.not_le.mp z)]
    unfold wX_call_37
    exact xs_add hc hd hD h
end
section
variable {L O A B C s w D t f p r : Nat → Int32} {post : SX → Prop} {c d j i l a b m : Nat} {x y z : Int32}
theorem xo_0 (hc : c < 4) (hd : d < 4) (hD : D c = nI (d + 1)) (hj : j < 3) (hi : i < 8) (hf : f (c * 4 + d) = nI j) (hp : p (c * 4 + d) = nI i) (ha : a < 4) (hA : A (j * 8 + i) = nI a) (hb : b < 4) (hB : B (j * 8 + i) = nI b) (hO : O (j * 8 + i) = 0) (h : post (L, O, A, B, C, s, w, D, t, f, upd p (c * 4 + d) (nI (i + 1)), upd r ((c * 4 + d) * 4 + a) (C (j * 8 + i)))) : wpX_carryOut post (L, O, A, B, C, s, w, D, t, f, p, r) (nI c) := by
  unfold wpX_carryOut
  simp +decide (disch := omega) only [wpX_lastFrame, wpX_instructionOf, hD, hf, hp, hA, hB, hO, forall_eq, eq_self, nI_leI, nI_ltI, nI_eq, vp_in_nI, nI_clamp, nI_1, nI_add, cf_x4, cf_x8, cf_x16, cf_fs, pk_us, pk_un, cl_n0, cl_p0, true_implies, forall_const, not_true_eq_false, not_false_eq_true, false_implies, and_true, true_and, implies_true, and_self, ite_true, ite_false, reduceIte]
  exact h
theorem xo_1 (hc : c < 4) (hd : d < 4) (hD : D c = nI (d + 1)) (hj : j < 3) (hi : i < 8) (hf : f (c * 4 + d) = nI j) (hp : p (c * 4 + d) = nI i) (ha : a < 4) (hA : A (j * 8 + i) = nI a) (hb : b < 4) (hB : B (j * 8 + i) = nI b) (hO : O (j * 8 + i) = 1) (h : post (L, O, A, B, C, s, w, D, t, f, upd p (c * 4 + d) (nI (i + 1)), upd r ((c * 4 + d) * 4 + a) (r ((c * 4 + d) * 4 + a) + r ((c * 4 + d) * 4 + b)))) : wpX_carryOut post (L, O, A, B, C, s, w, D, t, f, p, r) (nI c) := by
  unfold wpX_carryOut
  simp +decide (disch := omega) only [wpX_lastFrame, wpX_instructionOf, hD, hf, hp, hA, hB, hO, forall_eq, eq_self, nI_leI, nI_ltI, nI_eq, vp_in_nI, nI_clamp, nI_1, nI_add, cf_x4, cf_x8, cf_x16, cf_fs, pk_us, pk_un, cl_n0, cl_p0, true_implies, forall_const, not_true_eq_false, not_false_eq_true, false_implies, and_true, true_and, implies_true, and_self, ite_true, ite_false, reduceIte]
  exact h
theorem xo_2 (hc : c < 4) (hd : d < 4) (hD : D c = nI (d + 1)) (hj : j < 3) (hi : i < 8) (hf : f (c * 4 + d) = nI j) (hp : p (c * 4 + d) = nI i) (ha : a < 4) (hA : A (j * 8 + i) = nI a) (hb : b < 4) (hB : B (j * 8 + i) = nI b) (hO : O (j * 8 + i) = 2) (h : post (L, O, A, B, C, s, w, D, t, f, upd p (c * 4 + d) (nI (i + 1)), upd r ((c * 4 + d) * 4 + a) (r ((c * 4 + d) * 4 + a) - r ((c * 4 + d) * 4 + b)))) : wpX_carryOut post (L, O, A, B, C, s, w, D, t, f, p, r) (nI c) := by
  unfold wpX_carryOut
  simp +decide (disch := omega) only [wpX_lastFrame, wpX_instructionOf, hD, hf, hp, hA, hB, hO, forall_eq, eq_self, nI_leI, nI_ltI, nI_eq, vp_in_nI, nI_clamp, nI_1, nI_add, cf_x4, cf_x8, cf_x16, cf_fs, pk_us, pk_un, cl_n0, cl_p0, true_implies, forall_const, not_true_eq_false, not_false_eq_true, false_implies, and_true, true_and, implies_true, and_self, ite_true, ite_false, reduceIte]
  exact h
theorem xo_3 (hc : c < 4) (hd : d < 4) (hD : D c = nI (d + 1)) (hj : j < 3) (hi : i < 8) (hf : f (c * 4 + d) = nI j) (hp : p (c * 4 + d) = nI i) (ha : a < 4) (hA : A (j * 8 + i) = nI a) (hb : b < 4) (hB : B (j * 8 + i) = nI b) (hO : O (j * 8 + i) = 3) (h : post (L, O, A, B, C, s, w, D, t, f, upd p (c * 4 + d) (C (j * 8 + i)), r)) : wpX_carryOut post (L, O, A, B, C, s, w, D, t, f, p, r) (nI c) := by
  unfold wpX_carryOut
  simp +decide (disch := omega) only [wpX_lastFrame, wpX_instructionOf, hD, hf, hp, hA, hB, hO, forall_eq, eq_self, nI_leI, nI_ltI, nI_eq, vp_in_nI, nI_clamp, nI_1, nI_add, cf_x4, cf_x8, cf_x16, cf_fs, pk_us, pk_un, cl_n0, cl_p0, true_implies, forall_const, not_true_eq_false, not_false_eq_true, false_implies, and_true, true_and, implies_true, and_self, ite_true, ite_false, reduceIte]
  exact h
theorem xo_4t (hc : c < 4) (hd : d < 4) (hD : D c = nI (d + 1)) (hj : j < 3) (hi : i < 8) (hf : f (c * 4 + d) = nI j) (hp : p (c * 4 + d) = nI i) (ha : a < 4) (hA : A (j * 8 + i) = nI a) (hb : b < 4) (hB : B (j * 8 + i) = nI b) (hO : O (j * 8 + i) = 4) (hr : ¬ r ((c * 4 + d) * 4 + a) ≤ 0) (h : post (L, O, A, B, C, s, w, D, t, f, upd p (c * 4 + d) (C (j * 8 + i)), r)) : wpX_carryOut post (L, O, A, B, C, s, w, D, t, f, p, r) (nI c) := by
  unfold wpX_carryOut
  simp +decide (disch := omega) only [wpX_lastFrame, wpX_instructionOf, hD, hf, hp, hA, hB, hO, hr, forall_eq, eq_self, nI_leI, nI_ltI, nI_eq, vp_in_nI, nI_clamp, nI_1, nI_add, cf_x4, cf_x8, cf_x16, cf_fs, pk_us, pk_un, cl_n0, cl_p0, true_implies, forall_const, not_true_eq_false, not_false_eq_true, false_implies, and_true, true_and, implies_true, and_self, ite_true, ite_false, reduceIte]
  exact h
theorem xo_4f (hc : c < 4) (hd : d < 4) (hD : D c = nI (d + 1)) (hj : j < 3) (hi : i < 8) (hf : f (c * 4 + d) = nI j) (hp : p (c * 4 + d) = nI i) (ha : a < 4) (hA : A (j * 8 + i) = nI a) (hb : b < 4) (hB : B (j * 8 + i) = nI b) (hO : O (j * 8 + i) = 4) (hr : r ((c * 4 + d) * 4 + a) ≤ 0) (h : post (L, O, A, B, C, s, w, D, t, f, upd p (c * 4 + d) (nI (i + 1)), r)) : wpX_carryOut post (L, O, A, B, C, s, w, D, t, f, p, r) (nI c) := by
  unfold wpX_carryOut
  simp +decide (disch := omega) only [wpX_lastFrame, wpX_instructionOf, hD, hf, hp, hA, hB, hO, hr, forall_eq, eq_self, nI_leI, nI_ltI, nI_eq, vp_in_nI, nI_clamp, nI_1, nI_add, cf_x4, cf_x8, cf_x16, cf_fs, pk_us, pk_un, cl_n0, cl_p0, true_implies, forall_const, not_true_eq_false, not_false_eq_true, false_implies, and_true, true_and, implies_true, and_self, ite_true, ite_false, reduceIte]
  exact h
theorem xo_5 (hc : c < 4) (hd : d < 4) (hD : D c = nI (d + 1)) (hj : j < 3) (hi : i < 8) (hf : f (c * 4 + d) = nI j) (hp : p (c * 4 + d) = nI i) (ha : a < 4) (hA : A (j * 8 + i) = nI a) (hb : b < 4) (hB : B (j * 8 + i) = nI b) (hO : O (j * 8 + i) = 5) (h : post (L, O, A, B, C, upd s c 2, upd w c (r ((c * 4 + d) * 4 + a)), D, t, f, p, r)) : wpX_carryOut post (L, O, A, B, C, s, w, D, t, f, p, r) (nI c) := by
  unfold wpX_carryOut
  simp +decide (disch := omega) only [wpX_lastFrame, wpX_instructionOf, hD, hf, hp, hA, hB, hO, forall_eq, eq_self, nI_leI, nI_ltI, nI_eq, vp_in_nI, nI_clamp, nI_1, nI_add, cf_x4, cf_x8, cf_x16, cf_fs, pk_us, pk_un, cl_n0, cl_p0, true_implies, forall_const, not_true_eq_false, not_false_eq_true, false_implies, and_true, true_and, implies_true, and_self, ite_true, ite_false, reduceIte]
  exact h
theorem xo_6 (hc : c < 4) (hd : d < 4) (hD : D c = nI (d + 1)) (hj : j < 3) (hi : i < 8) (hf : f (c * 4 + d) = nI j) (hp : p (c * 4 + d) = nI i) (ha : a < 4) (hA : A (j * 8 + i) = nI a) (hb : b < 4) (hB : B (j * 8 + i) = nI b) (hO : O (j * 8 + i) = 6) (h : wpX_call post (L, O, A, B, C, s, w, D, t, f, p, r) (nI c) (C (j * 8 + i)) (r ((c * 4 + d) * 4 + a))) : wpX_carryOut post (L, O, A, B, C, s, w, D, t, f, p, r) (nI c) := by
  unfold wpX_carryOut
  simp +decide (disch := omega) only [wpX_lastFrame, wpX_instructionOf, hD, hf, hp, hA, hB, hO, forall_eq, eq_self, nI_leI, nI_ltI, nI_eq, vp_in_nI, nI_clamp, nI_1, nI_add, cf_x4, cf_x8, cf_x16, cf_fs, pk_us, pk_un, cl_n0, cl_p0, true_implies, forall_const, not_true_eq_false, not_false_eq_true, false_implies, and_true, true_and, implies_true, and_self, ite_true, ite_false, reduceIte]
  exact h
theorem xo_7 (hc : c < 4) (hd : d < 4) (hD : D c = nI (d + 1)) (hj : j < 3) (hi : i < 8) (hf : f (c * 4 + d) = nI j) (hp : p (c * 4 + d) = nI i) (ha : a < 4) (hA : A (j * 8 + i) = nI a) (hb : b < 4) (hB : B (j * 8 + i) = nI b) (hO : O (j * 8 + i) = 7) (h : wpX_returnFrom post (L, O, A, B, C, s, w, D, t, f, p, r) (nI c) (r ((c * 4 + d) * 4 + a))) : wpX_carryOut post (L, O, A, B, C, s, w, D, t, f, p, r) (nI c) := by
  unfold wpX_carryOut
  simp +decide (disch := omega) only [wpX_lastFrame, wpX_instructionOf, hD, hf, hp, hA, hB, hO, forall_eq, eq_self, nI_leI, nI_ltI, nI_eq, vp_in_nI, nI_clamp, nI_1, nI_add, cf_x4, cf_x8, cf_x16, cf_fs, pk_us, pk_un, cl_n0, cl_p0, true_implies, forall_const, not_true_eq_false, not_false_eq_true, false_implies, and_true, true_and, implies_true, and_self, ite_true, ite_false, reduceIte]
  exact h
end
