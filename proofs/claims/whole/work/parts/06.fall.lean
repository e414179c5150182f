section
variable {L O A B C s w D t f p r : Nat → Int32} {post : SX → Prop} {c d j i l n k : Nat}
/-- the component's walk to the end of the instructions: not at work any more; its place is an instruction's; it isn't -/
theorem xf_fin (hc : c < 4) (hs : ¬ s c = 5) (h : post (L, O, A, B, C, s, w, D, t, f, p, r)) : wX_returnAtEnd_2 post (nI c) (n + 1) (nI i) L O A B C s w D t f p r :=
  br_c (fun _ => h) (fun _ => ⟨vp_in_nI hc (by decide), br_f (by rw [nI_clamp (by omega)]; exact hs) h⟩)
theorem xf_in (hc : c < 4) (hd : d < 4) (hs : s c = 5) (hD : D c = nI (d + 1)) (hj : j < 3) (hk : k < l) (hl : l ≤ 8) (hf : f (c * 4 + d) = nI j) (hL : L j = nI l) (hp : p (c * 4 + d) = nI k) (hi : i < 4) (h : post (L, O, A, B, C, s, w, D, t, f, p, r)) : wX_returnAtEnd_2 post (nI c) (n + 1) (nI i) L O A B C s w D t f p r := by
  have h4 : ¬ (4 : Int32) ≤ nI i := nI_ge (b := 4) hi (by decide)
  have h5 : ¬ l ≤ k := by omega
  rw [wX_returnAtEnd_2]
  simp +decide (disch := omega) only [wpX_lastFrame, hs, hD, hf, hL, hp, h4, h5, forall_eq, eq_self, nI_leI, nI_ltI, nI_eq, vp_in_nI, nI_clamp, nI_1, nI_add, cf_x4, cf_x8, cf_x16, cf_fs, pk_us, pk_un, cl_n0, cl_p0, true_implies, forall_const, not_true_eq_false, not_false_eq_true, false_implies, and_true, true_and, implies_true, and_self, ite_true, ite_false, reduceIte]
  exact h
theorem xf_out (hc : c < 4) (hd : d < 4) (hs : s c = 5) (hD : D c = nI (d + 1)) (hj : j < 3) (hf : f (c * 4 + d) = nI j) (hL : L j = nI l) (hp : p (c * 4 + d) < 0 ∨ nI l ≤ p (c * 4 + d)) (hi : i < 4) (h : wX_returnAtEnd_53 post (wX_returnAtEnd_2 post (nI c) n) (nI c) (nI i) L O A B C s w D t f p r) : wX_returnAtEnd_2 post (nI c) (n + 1) (nI i) L O A B C s w D t f p r := by
  have h4 : ¬ (4 : Int32) ≤ nI i := nI_ge (b := 4) hi (by decide)
  rw [wX_returnAtEnd_2]
  simp +decide (disch := omega) only [wpX_lastFrame, hs, hD, hf, hL, h4, forall_eq, eq_self, nI_leI, nI_ltI, nI_eq, vp_in_nI, nI_clamp, nI_1, nI_add, cf_x4, cf_x8, cf_x16, cf_fs, pk_us, pk_un, cl_n0, cl_p0, true_implies, forall_const, not_true_eq_false, not_false_eq_true, false_implies, and_true, true_and, implies_true, and_self, ite_true, ite_false, reduceIte]
  refine br_c (fun _ => h) (fun z => ?_)
  rcases hp with hp | hp
  · exact absurd hp z
  · exact br_t hp h
end
section
variable {L O R C s w D t f q g r : Nat → Int32} {post : SY → Prop} {c d j i l n k : Nat}
theorem yf_fin (hc : c < 4) (hs : ¬ s c = 1) (h : post (L, O, R, C, s, w, t, D, f, q, g, r)) : ∀ m i n : Nat, i + m = 4 → m < n → wY_fallOff_2 post (nI c) n (nI i) L O R C s w t D f q g r := by
  intro m
  induction m with
  | zero =>
    intro i n hi hn
    obtain ⟨n, rfl⟩ : ∃ k, n = k + 1 := ⟨n - 1, by omega⟩
    exact br_t (nI_le (a := 4) (by omega) (by omega)) h
  | succ m ih =>
    intro i n hi hn
    obtain ⟨n, rfl⟩ : ∃ k, n = k + 1 := ⟨n - 1, by omega⟩
    exact br_f (nI_ge (b := 4) (by omega) (by decide)) ⟨vp_in_nI hc (by decide), br_f (by rw [nI_clamp (by omega)]; exact hs) (nm_r (nI_1 i) (ih (i + 1) n (by omega) (by omega)))⟩
theorem yf_in1 (hc : c < 4) (hd : d < 4) (hs : s c = 1) (hD : D c = nI (d + 1)) (hj : j < 3) (hk : k < l) (hl : l ≤ 8) (hf : f (c * 4 + d) = nI j) (hL : L j = nI l) (hq : q (c * 4 + d) = nI k) (hi : i < 4) (h : wY_fallOff_2 post (nI c) n (nI (i + 1)) L O R C s w t D f q g r) : wY_fallOff_2 post (nI c) (n + 1) (nI i) L O R C s w t D f q g r := by
  have h4 : ¬ (4 : Int32) ≤ nI i := nI_ge (b := 4) hi (by decide)
  have h0 : ¬ nI (d + 1) ≤ 0 := nI_nle (by omega) (by omega)
  rw [wY_fallOff_2]
  simp +decide (disch := omega) only [hs, hD, hf, hL, hq, h4, hk, h0, forall_eq, eq_self, nI_leI, nI_ltI, nI_eq, vp_in_nI, nI_clamp, nI_1, nI_add, cf_x4, cf_x8, cf_x16, cf_fs, pk_us, pk_un, cl_n0, cl_p0, true_implies, forall_const, not_true_eq_false, not_false_eq_true, false_implies, and_true, true_and, implies_true, and_self, ite_true, ite_false, reduceIte]
  exact h
theorem yf_in (hc : c < 4) (hd : d < 4) (hs : s c = 1) (hD : D c = nI (d + 1)) (hj : j < 3) (hk : k < l) (hl : l ≤ 8) (hf : f (c * 4 + d) = nI j) (hL : L j = nI l) (hq : q (c * 4 + d) = nI k) (h : post (L, O, R, C, s, w, t, D, f, q, g, r)) : ∀ m i n : Nat, i + m = 4 → m < n → wY_fallOff_2 post (nI c) n (nI i) L O R C s w t D f q g r := by
  intro m
  induction m with
  | zero =>
    intro i n hi hn
    obtain ⟨n, rfl⟩ : ∃ k, n = k + 1 := ⟨n - 1, by omega⟩
    exact br_t (nI_le (a := 4) (by omega) (by omega)) h
  | succ m ih =>
    intro i n hi hn
    obtain ⟨n, rfl⟩ : ∃ k, n = k + 1 := ⟨n - 1, by omega⟩
    exact yf_in1 hc hd hs hD hj hk hl hf hL hq (by omega) (ih (i + 1) n (by omega) (by omega))
theorem yf_out (hc : c < 4) (hd : d < 4) (hs : s c = 1) (hD : D c = nI (d + 1)) (hj : j < 3) (hf : f (c * 4 + d) = nI j) (hL : L j = nI l) (hq : q (c * 4 + d) < 0 ∨ nI l ≤ q (c * 4 + d)) (hi : i < 4) (h : wY_fallOff_68 post (wY_fallOff_2 post (nI c) n) (nI c) (nI i) L O R C s w t D f q g r) : wY_fallOff_2 post (nI c) (n + 1) (nI i) L O R C s w t D f q g r := by
  have h4 : ¬ (4 : Int32) ≤ nI i := nI_ge (b := 4) hi (by decide)
  have h0 : ¬ nI (d + 1) ≤ 0 := nI_nle (by omega) (by omega)
  rw [wY_fallOff_2]
  simp +decide (disch := omega) only [hs, hD, hf, hL, h4, h0, forall_eq, eq_self, nI_leI, nI_ltI, nI_eq, vp_in_nI, nI_clamp, nI_1, nI_add, cf_x4, cf_x8, cf_x16, cf_fs, pk_us, pk_un, cl_n0, cl_p0, true_implies, forall_const, not_true_eq_false, not_false_eq_true, false_implies, and_true, true_and, implies_true, and_self, ite_true, ite_false, reduceIte]
  refine br_c (fun _ => h) (fun z => ?_)
  rcases hq with hq | hq
  · exact absurd hq z
  · exact br_f (Int32.not_lt.mpr hq) h
end
