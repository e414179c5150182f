theorem i_vc0 : wpX_init (fun u => wpY_init (fun v => i_Rel 0 u v)) := by
  have hA : cf_A (fun _ => 0) = fun _ => 0 := funext fun _ => (by decide : (0 : Int32) &&& 3 = 0)
  have hB : cf_B (fun _ => 0) = fun _ => 0 := funext fun _ => (by decide : ((0 : Int32) >>> ((2 : Int32) &&& 31)) &&& 3 = 0)
  have h1 : ¬ (0 : Int32) = 1 := by decide
  have h2 : ¬ (0 : Int32) = 2 := by decide
  unfold wpX_init wpY_init
  exact ⟨fun _ => 0, fun _ => 0, fun _ => 0, fun _ => 0, fun _ => 0, fun _ => 0, fun _ => 0, fun _ => 0, fun _ => 0, fun _ => 0, fun _ => 0, fun _ => 0, fun _ => 0, by rw [hA, hB], rfl, fun _ => ⟨0, by decide, rfl⟩, fun _ => ⟨0, by decide, rfl⟩, fun _ => ⟨0, by decide, rfl⟩, fun _ _ => cf_Co0 h1 h2⟩
theorem i_vc_emit {k : Nat} {u : SX} {v : SY} (I : i_Rel k u v) (hk : k + 5 ≤ 2560) (v1 : Int32) (v2 : Int32) (v3 : Int32) (v4 : Int32) : wpX_emit (fun r u' => wpY_emit (fun r' v' => r' = r ∧ i_Rel (k + 5) u' v') v v1 v2 v3 v4) u v1 v2 v3 v4 := by
  have J : i_Rel (k + 5) u v := I
  obtain ⟨L, O, R, C, s, w, D, t, f, p, q, g, r, rfl, rfl, hP, hQ, hF, hA⟩ := I
  rcases cf_fn v1 with h | ⟨j, hj, rfl⟩
  · unfold wpX_emit wpY_emit
    dsimp only
    exact xn_0 h (br_t rfl (br_c (fun _ => ⟨rfl, J⟩) (fun z => br_t (Int32.lt_of_lt_of_le (by decide) (h.resolve_left z)) ⟨rfl, J⟩)))
  · have hj2 : ¬ (2 : Int32) < nI j := nI_nlt (b := j) (a := 2) (by omega) (by decide)
    rcases cf_op v2 with h | ⟨m, hm, rfl⟩
    · unfold wpX_emit wpY_emit
      dsimp only
      refine xn_1 hj (br_f (by decide) ?_)
      by_cases h0 : v2 < 0
      · exact br_t h0 (br_f (nI_pos (by omega)) (br_f hj2 (br_t h0 ⟨rfl, J⟩)))
      · have h7 : ¬ v2 ≤ 7 := fun z => absurd (Int32.le_trans (h.resolve_left h0) z) (by decide)
        exact br_f h0 (br_f h7 (br_f (nI_pos (by omega)) (br_f hj2 (br_f h0 (br_f h7 ⟨rfl, J⟩)))))
    · have hm7 : nI m ≤ (7 : Int32) := nI_le (b := 7) (by omega) (by decide)
      by_cases hs : ∀ c, c < 4 → s c = 0
      · obtain ⟨l, hl, hL⟩ := hP j
        by_cases h8 : l = 8
        · subst h8
          have e1 : (nI j).toNatClampNeg = j := nI_clamp (by omega)
          have i1 : vp_in (nI j) 3 := vp_in_nI hj (by decide)
          unfold wpX_emit wpY_emit wpX_isLocked
          dsimp only
          rw [e1, hL]
          refine xn_1 hj (br_f (by decide) (br_f (nI_pos (by omega)) (br_t hm7 ⟨5, xl_0 hs (br_t rfl ⟨i1, nm_e (br_f (by decide) ?_)⟩) 4 0 5 (by omega) (by omega)⟩)))
          refine br_f (nI_pos (by omega)) (br_f hj2 (br_f (nI_pos (by omega)) (br_t hm7 ⟨5, yl_0 hs (br_t (nI_le (a := 4) (by omega) (by decide)) ⟨i1, ?_⟩) 4 0 5 (by omega) (by omega)⟩)))
          rw [e1, hL]
          exact nm_e (br_t (by decide) ⟨rfl, J⟩)
        · exact xm_emit hj hm hs (by omega) hL (ym_emit hj hm hs (by omega) hL ⟨rfl, upd L j (nI (l + 1)), upd O (j * 8 + l) (nI m), upd R (j * 8 + l) v3, upd C (j * 8 + l) v4, s, w, D, t, f, p, q, g, r, rfl, rfl, cf_Pu (by omega) hP, cf_Qu hm hQ, hF, fun c hc => cf_Co0 (by rw [hs c hc]; decide) (by rw [hs c hc]; decide)⟩)
      · have hk : ∃ k, 0 ≤ k ∧ k < 4 ∧ ¬ s k = 0 := Classical.byContradiction (fun z => hs (fun c hc => Classical.byContradiction (fun y => z ⟨c, Nat.zero_le c, hc, y⟩)))
        unfold wpX_emit wpY_emit wpX_isLocked
        dsimp only
        refine xn_1 hj (br_f (by decide) (br_f (nI_pos (by omega)) (br_t hm7 ⟨5, xl_1 (br_f (by decide) ?_) 4 0 5 (by omega) (by omega) hk⟩)))
        exact br_f (nI_pos (by omega)) (br_f hj2 (br_f (nI_pos (by omega)) (br_t hm7 ⟨5, yl_1 ⟨rfl, J⟩ 4 0 5 (by omega) (by omega) hk⟩)))
theorem i_vc_start {k : Nat} {u : SX} {v : SY} (I : i_Rel k u v) (hk : k + 5 ≤ 2560) (v1 : Int32) (v2 : Int32) (v3 : Int32) : wpX_start (fun r u' => wpY_start (fun r' v' => r' = r ∧ i_Rel (k + 5) u' v') v v1 v2 v3) u v1 v2 v3 := by
  have J : i_Rel (k + 5) u v := I
  obtain ⟨L, O, R, C, s, w, D, t, f, p, q, g, r, rfl, rfl, hP, hQ, hF, hA⟩ := I
  rcases cf_co v1 with h | ⟨c, hc, rfl⟩
  · unfold wpX_start wpY_start
    dsimp only
    exact xi_0 h (br_t rfl (yi_1 h (br_f (by decide) ⟨rfl, J⟩)))
  · rcases cf_fn v2 with h | ⟨j, hj, rfl⟩
    · unfold wpX_start wpY_start
      dsimp only
      refine xi_1 hc (br_f (by decide) (xn_0 h (br_t rfl (yi_0 hc (br_t rfl ?_)))))
      exact br_c (fun _ => ⟨rfl, J⟩) (fun z => br_f (fun z2 => absurd (Int32.le_trans (h.resolve_left z) z2) (by decide)) ⟨rfl, J⟩)
    · refine xm_start hc hj (ym_start hc hj ⟨rfl, L, O, R, C, upd s c 1, upd w c 0, upd D c (nI 1), upd t c 0, upd f (c * 4 + 0) (nI j), upd p (c * 4 + 0) 0, upd q (c * 4 + 0) 0, g, cf_r4 r (c * 4 + 0) v3, rfl, rfl, hP, hQ, cf_Fu hj hF, cf_all ?_ ⟨fun _ => ⟨0, cf_M0⟩, fun z => absurd z (by decide)⟩⟩)
      exact cf_OD (cf_Of (by omega) (cf_Op (by omega) (cf_Oq (by omega) (fun c' h4 _ => hA c' h4))))
theorem i_vc_resume {k : Nat} {u : SX} {v : SY} (I : i_Rel k u v) (hk : k + 5 ≤ 2560) (v1 : Int32) (v2 : Int32) : wpX_resume (fun r u' => wpY_resume (fun r' v' => r' = r ∧ i_Rel (k + 5) u' v') v v1 v2) u v1 v2 := by
  have J : i_Rel (k + 5) u v := I
  obtain ⟨L, O, R, C, s, w, D, t, f, p, q, g, r, rfl, rfl, hP, hQ, hF, hA⟩ := I
  rcases cf_co v1 with h | ⟨c, hc, rfl⟩
  · unfold wpX_resume wpY_resume
    dsimp only
    exact xi_0 h (br_t rfl (yi_1 h (br_f (by decide) ⟨rfl, J⟩)))
  · by_cases hs : s c = 1 ∨ s c = 2
    · obtain ⟨x, u, v, hR, hX, hY⟩ := cf_resume (C := C) (w := w) (t := t) (r := r) hc hP hQ hF hA hs v2
      exact hX _ (hY _ ⟨rfl, hR⟩)
    · have e : (nI c).toNatClampNeg = c := nI_clamp (by omega)
      have h1 : ¬ s c = 1 := fun z => hs (Or.inl z)
      have h2 : ¬ s c = 2 := fun z => hs (Or.inr z)
      have i1 : vp_in (nI c) 4 := vp_in_nI hc (by decide)
      unfold wpX_resume wpY_resume
      dsimp only
      rw [e]
      exact xi_1 hc (br_f (by decide) ⟨i1, br_f h1 ⟨i1, br_f h2 (yi_0 hc (br_t rfl ⟨i1, br_f h1 ⟨i1, br_f h2 ⟨rfl, J⟩⟩⟩))⟩⟩)
theorem i_vc_echo {k : Nat} {u : SX} {v : SY} (I : i_Rel k u v) (hk : k + 5 ≤ 2560) (v1 : Int32) (v2 : Int32) : wpX_echo (fun r u' => wpY_echo (fun r' v' => r' = r ∧ i_Rel (k + 5) u' v') v v1 v2) u v1 v2 := by
  have J : i_Rel (k + 5) u v := I
  obtain ⟨L, O, R, C, s, w, D, t, f, p, q, g, r, rfl, rfl, hP, hQ, hF, hA⟩ := I
  rcases cf_co v1 with h | ⟨c, hc, rfl⟩
  · unfold wpX_echo wpY_echo
    dsimp only
    exact xi_0 h (br_t rfl (yi_1 h (br_f (by decide) ⟨rfl, J⟩)))
  · have e : (nI c).toNatClampNeg = c := nI_clamp (by omega)
    have i1 : vp_in (nI c) 4 := vp_in_nI hc (by decide)
    obtain ⟨x, u, v, hR, hX, hY⟩ := cf_echo hc v2 20 0 (by omega) 0 L O R C s w D t f p q g r hP hQ hF hA
    unfold wpX_echo wpY_echo
    dsimp only
    rw [e]
    by_cases hs : s c = 2
    · exact xi_1 hc (br_f (by decide) ⟨i1, br_t hs ⟨21, hX _ (yi_0 hc (br_t rfl ⟨i1, br_t hs ⟨21, hY _ ⟨rfl, hR⟩ 21 (by omega)⟩⟩)) 21 (by omega)⟩⟩)
    · exact xi_1 hc (br_f (by decide) ⟨i1, br_f hs (yi_0 hc (br_t rfl ⟨i1, br_f hs ⟨rfl, J⟩⟩))⟩)
theorem i_vc_copy {k : Nat} {u : SX} {v : SY} (I : i_Rel k u v) (hk : k + 5 ≤ 2560) (v1 : Int32) (v2 : Int32) : wpX_copy (fun r u' => wpY_copy (fun r' v' => r' = r ∧ i_Rel (k + 5) u' v') v v1 v2) u v1 v2 := by
  have J : i_Rel (k + 5) u v := I
  obtain ⟨L, O, R, C, s, w, D, t, f, p, q, g, r, rfl, rfl, hP, hQ, hF, hA⟩ := I
  rcases cf_co v1 with h | ⟨F, hc, rfl⟩
  · unfold wpX_copy wpY_copy
    dsimp only
    exact xi_0 h (br_t rfl (yi_1 h (br_f (by decide) ⟨rfl, J⟩)))
  · rcases cf_co v2 with h | ⟨T, hT, rfl⟩
    · unfold wpX_copy wpY_copy
      dsimp only
      exact xi_1 hc (br_f (by decide) (xi_0 h (br_t rfl (yi_0 hc (br_t rfl (yi_1 h (br_f (by decide) ⟨rfl, J⟩)))))))
    · exact xm_copy hc hT (ym_copy hc hT ⟨rfl, L, O, R, C, upd s T (s F), upd w T (w F), upd D T (D F), upd t T (t F), cf_cp f (F * 4) (T * 4) 4, cf_cp p (F * 4) (T * 4) 4, cf_cp q (F * 4) (T * 4) 4, cf_cp g (F * 4) (T * 4) 4, cf_cp r (F * 16) (T * 16) 16, rfl, rfl, hP, hQ, cf_cpF hF, cf_copy hc hT hA⟩)
theorem i_vc_drop {k : Nat} {u : SX} {v : SY} (I : i_Rel k u v) (hk : k + 5 ≤ 2560) (v1 : Int32) : wpX_drop (fun r u' => wpY_drop (fun r' v' => r' = r ∧ i_Rel (k + 5) u' v') v v1) u v1 := by
  have J : i_Rel (k + 5) u v := I
  obtain ⟨L, O, R, C, s, w, D, t, f, p, q, g, r, rfl, rfl, hP, hQ, hF, hA⟩ := I
  rcases cf_co v1 with h | ⟨c, hc, rfl⟩
  · unfold wpX_drop wpY_drop
    dsimp only
    exact xi_0 h (br_t rfl (yi_1 h (br_f (by decide) ⟨rfl, J⟩)))
  · exact xm_drop hc (ym_drop hc ⟨rfl, L, O, R, C, upd s c 0, upd w c 0, upd D c 0, upd t c 0, f, p, q, g, r, rfl, rfl, hP, hQ, hF, cf_all (cf_OD (fun c' h4 _ => hA c' h4)) (cf_Co0 (by decide) (by decide))⟩)
theorem i_vc_state {k : Nat} {u : SX} {v : SY} (I : i_Rel k u v) (hk : k + 5 ≤ 2560) (v1 : Int32) : wpX_state (fun r => wpY_state (fun r' => r' = r ∧ i_Rel (k + 5) u v) v v1) u v1 := by
  have J : i_Rel (k + 5) u v := I
  obtain ⟨L, O, R, C, s, w, D, t, f, p, q, g, r, rfl, rfl, hP, hQ, hF, hA⟩ := I
  unfold wpX_state wpY_state
  dsimp only
  rcases cf_co v1 with h | ⟨c, hc, rfl⟩
  · exact xi_0 h (br_t rfl (yi_1 h (br_f (by decide) ⟨rfl, J⟩)))
  · exact xi_1 hc (br_f (by decide) ⟨vp_in_nI hc (by decide), yi_0 hc (br_t rfl ⟨vp_in_nI hc (by decide), rfl, J⟩)⟩)
theorem i_vc_value {k : Nat} {u : SX} {v : SY} (I : i_Rel k u v) (hk : k + 5 ≤ 2560) (v1 : Int32) : wpX_value (fun r => wpY_value (fun r' => r' = r ∧ i_Rel (k + 5) u v) v v1) u v1 := by
  have J : i_Rel (k + 5) u v := I
  obtain ⟨L, O, R, C, s, w, D, t, f, p, q, g, r, rfl, rfl, hP, hQ, hF, hA⟩ := I
  unfold wpX_value wpY_value
  dsimp only
  rcases cf_co v1 with h | ⟨c, hc, rfl⟩
  · exact xi_0 h (br_t rfl (yi_1 h (br_f (by decide) ⟨rfl, J⟩)))
  · exact xi_1 hc (br_f (by decide) ⟨vp_in_nI hc (by decide), yi_0 hc (br_t rfl ⟨vp_in_nI hc (by decide), rfl, J⟩)⟩)
theorem i_vc_depth {k : Nat} {u : SX} {v : SY} (I : i_Rel k u v) (hk : k + 5 ≤ 2560) (v1 : Int32) : wpX_depth (fun r => wpY_depth (fun r' => r' = r ∧ i_Rel (k + 5) u v) v v1) u v1 := by
  have J : i_Rel (k + 5) u v := I
  obtain ⟨L, O, R, C, s, w, D, t, f, p, q, g, r, rfl, rfl, hP, hQ, hF, hA⟩ := I
  unfold wpX_depth wpY_depth
  dsimp only
  rcases cf_co v1 with h | ⟨c, hc, rfl⟩
  · exact xi_0 h (br_t rfl (yi_1 h (br_f (by decide) ⟨rfl, J⟩)))
  · exact xi_1 hc (br_f (by decide) ⟨vp_in_nI hc (by decide), yi_0 hc (br_t rfl ⟨vp_in_nI hc (by decide), rfl, J⟩)⟩)
theorem i_vc_alike {k : Nat} {u : SX} {v : SY} (I : i_Rel k u v) (hk : k + 5 ≤ 2560) (v1 : Int32) (v2 : Int32) : wpX_alike (fun r => wpY_alike (fun r' => r' = r ∧ i_Rel (k + 5) u v) v v1 v2) u v1 v2 := by
  have J : i_Rel (k + 5) u v := I
  obtain ⟨L, O, R, C, s, w, D, t, f, p, q, g, r, rfl, rfl, hP, hQ, hF, hA⟩ := I
  unfold wpX_alike wpY_alike
  dsimp only
  rcases cf_co v1 with h | ⟨a, ha, rfl⟩
  · exact xi_0 h (br_t rfl (yi_1 h (br_f (by decide) ⟨rfl, J⟩)))
  · rcases cf_co v2 with h | ⟨b, hb, rfl⟩
    · exact xi_1 ha (br_f (by decide) (xi_0 h (br_t rfl (yi_0 ha (br_t rfl (yi_1 h (br_f (by decide) ⟨rfl, J⟩)))))))
    · have i1 : vp_in (nI a) 4 := vp_in_nI ha (by decide)
      have i2 : vp_in (nI b) 4 := vp_in_nI hb (by decide)
      refine xi_1 ha (br_f (by decide) (xi_1 hb (br_f (by decide) ⟨i1, i2, ?_⟩)))
      refine br_c (fun h1 => ⟨i1, i2, br_c (fun h2 => ?_) (fun h2 => ?_)⟩) (fun h1 => ?_)
      · exact yi_0 ha (br_t rfl (yi_0 hb (br_t rfl ⟨i1, i2, br_t h1 ⟨i1, i2, br_t h2 ⟨rfl, J⟩⟩⟩)))
      · exact yi_0 ha (br_t rfl (yi_0 hb (br_t rfl ⟨i1, i2, br_t h1 ⟨i1, i2, br_f h2 ⟨rfl, J⟩⟩⟩)))
      · exact yi_0 ha (br_t rfl (yi_0 hb (br_t rfl ⟨i1, i2, br_f h1 ⟨rfl, J⟩⟩)))
theorem i_vc_steps {k : Nat} {u : SX} {v : SY} (I : i_Rel k u v) (hk : k + 5 ≤ 2560) (v1 : Int32) : wpX_steps (fun r => wpY_steps (fun r' => r' = r ∧ i_Rel (k + 5) u v) v v1) u v1 := by
  have J : i_Rel (k + 5) u v := I
  obtain ⟨L, O, R, C, s, w, D, t, f, p, q, g, r, rfl, rfl, hP, hQ, hF, hA⟩ := I
  unfold wpX_steps wpY_steps
  dsimp only
  rcases cf_co v1 with h | ⟨c, hc, rfl⟩
  · exact xi_0 h (br_t rfl (yi_1 h (br_f (by decide) ⟨rfl, J⟩)))
  · exact xi_1 hc (br_f (by decide) ⟨vp_in_nI hc (by decide), yi_0 hc (br_t rfl ⟨vp_in_nI hc (by decide), rfl, J⟩)⟩)
