section
variable {L O R C s w tx ty : Nat → Int32} {c : Nat}
/-- to the end of the instructions, both sides, from turn i of the loop on -/
theorem cf_fallL (hc : c < 4) (hP : cf_P L) : ∀ (d i : Nat) (D f p q g r : Nat → Int32), i + d < 4 → cf_F f → cf_O c L R f p q g D s → cf_M c d L R f p q g D → ∃ (u : SX) (v : SY), cf_Res true c L O R C s w tx ty u v ∧ (∀ post : SX → Prop, post u → ∀ n, 4 < n + i → wX_returnAtEnd_2 post (nI c) n (nI i) L O (cf_A R) (cf_B R) C (upd s c 5) w D tx f p r) ∧ (∀ post : SY → Prop, post v → ∀ n, 4 < n + i → wY_fallOff_2 post (nI c) n (nI i) L O R C (upd s c 1) (upd w c 0) ty D f q g r) := by
  intro d
  induction d with
  | zero =>
    intro i D f p q g r hid hF hO hM
    have hM' := hM
    obtain ⟨hd, hD, hqp, hS⟩ := hM'
    obtain ⟨j, l, hj, hl, hf, hL, hx⟩ := cf_Ni (p := p) hP hF (c * 4 + 0)
    rcases or_assoc.mpr hx with ho | ⟨k, hk, hp⟩
    · refine ⟨_, _, ⟨upd D c 0, f, p, q, g, r, hF, cf_OD hO, Or.inr ⟨3, 0, by decide, by decide, cf_Co0 (by decide) (by decide), rfl, rfl⟩⟩, fun post h n hn => ?_, fun post h n hn => ?_⟩
      · obtain ⟨n, rfl⟩ : ∃ k, n = k + 2 := ⟨n - 2, by omega⟩
        refine xf_out hc hd pk_us hD hj hf hL ho (by omega) ?_
        unfold wX_returnAtEnd_53
        refine xs_ret0 hc hD (nm_r (nI_1 i) (xf_fin hc (by rw [pk_us]; decide) ?_))
        rw [cf_uu]; exact h
      · obtain ⟨n, rfl⟩ : ∃ k, n = k + 1 := ⟨n - 1, by omega⟩
        refine yf_out hc hd pk_us hD hj hf hL (by rw [hqp]; exact ho) (by omega) ?_
        unfold wY_fallOff_68
        refine ys_back0 hc hD (nm_r (nI_1 i) (yf_fin hc (by rw [pk_us]; decide) ?_ (4 - (i + 1)) (i + 1) n (by omega) (by omega)))
        rw [cf_uu, cf_uu]; exact h
    · refine ⟨_, _, ⟨D, f, p, q, g, r, hF, hO, Or.inl ⟨0, hM, fun _ => ⟨j, k, l, hj, hk, hl, hf, hL, hp⟩, rfl, rfl⟩⟩, fun post h n hn => ?_, fun post h n hn => ?_⟩
      · obtain ⟨n, rfl⟩ : ∃ k, n = k + 1 := ⟨n - 1, by omega⟩
        exact xf_in hc hd pk_us hD hj hk hl hf hL hp (by omega) h
      · exact yf_in hc hd pk_us hD hj hk hl hf hL (hqp.trans hp) h (4 - i) i n (by omega) (by omega)
  | succ d ih =>
    intro i D f p q g r hid hF hO hM
    have hM' := hM
    obtain ⟨hd, hD, hqp, hS⟩ := hM'
    obtain ⟨j, l, hj, hl, hf, hL, hx⟩ := cf_Ni (p := p) hP hF (c * 4 + (d + 1))
    rcases or_assoc.mpr hx with ho | ⟨k, hk, hp⟩
    · obtain ⟨j', i', l', hj', hi', hl', hf', hL', hp', hq', hg'⟩ := hS d (by omega)
      obtain ⟨a, ha, hA⟩ := cf_An R (j' * 8 + i')
      obtain ⟨u, v, hR, hX, hY⟩ := ih (i + 1) (upd D c (nI (d + 1))) f (upd p (c * 4 + d) (nI (i' + 1))) q g (upd r ((c * 4 + d) * 4 + a) 0) (by omega) hF (cf_OD (cf_Op (by omega) hO)) (cf_M2 hd hq' (fun e he => hS e (by omega)))
      refine ⟨u, v, hR, fun post h n hn => ?_, fun post h n hn => ?_⟩
      · obtain ⟨n, rfl⟩ : ∃ k, n = k + 1 := ⟨n - 1, by omega⟩
        refine xf_out hc hd pk_us hD hj hf hL ho (by omega) ?_
        unfold wX_returnAtEnd_53
        exact xs_ret1 hc hd hD hj' (by omega) ha hf' hp' hA (nm_r (nI_1 i) (hX post h n (by omega)))
      · obtain ⟨n, rfl⟩ : ∃ k, n = k + 1 := ⟨n - 1, by omega⟩
        refine yf_out hc hd pk_us hD hj hf hL (by rw [hqp]; exact ho) (by omega) ?_
        unfold wY_fallOff_68
        exact ys_back1 hc hd hD ha (hg'.trans hA) (nm_r (nI_1 i) (hY post h n (by omega)))
    · refine ⟨_, _, ⟨D, f, p, q, g, r, hF, hO, Or.inl ⟨d + 1, hM, fun _ => ⟨j, k, l, hj, hk, hl, hf, hL, hp⟩, rfl, rfl⟩⟩, fun post h n hn => ?_, fun post h n hn => ?_⟩
      · obtain ⟨n, rfl⟩ : ∃ k, n = k + 1 := ⟨n - 1, by omega⟩
        exact xf_in hc hd pk_us hD hj hk hl hf hL hp (by omega) h
      · exact yf_in hc hd pk_us hD hj hk hl hf hL (hqp.trans hp) h (4 - i) i n (by omega) (by omega)
theorem cf_fallM {D f p q g r : Nat → Int32} {d : Nat} (hc : c < 4) (hP : cf_P L) (hF : cf_F f) (hO : cf_O c L R f p q g D s) (hM : cf_M c d L R f p q g D) : ∃ (u : SX) (v : SY), cf_Res true c L O R C s w tx ty u v ∧ (∀ post : SX → Prop, post u → wpX_returnAtEnd post (L, O, cf_A R, cf_B R, C, upd s c 5, w, D, tx, f, p, r) (nI c)) ∧ (∀ post : SY → Prop, post v → wpY_fallOff post (L, O, R, C, upd s c 1, upd w c 0, ty, D, f, q, g, r) (nI c)) := by
  obtain ⟨u, v, hR, hX, hY⟩ := cf_fallL (O := O) (C := C) (w := w) (tx := tx) (ty := ty) hc hP d 0 D f p q g r (by have := hM.1; omega) hF hO hM
  refine ⟨u, v, hR, fun post h => ?_, fun post h => ?_⟩
  · unfold wpX_returnAtEnd
    exact ⟨5, hX post h 5 (by omega)⟩
  · unfold wpY_fallOff
    exact ⟨5, hY post h 5 (by omega)⟩
theorem cf_fallR {u : SX} {v : SY} (hc : c < 4) (hP : cf_P L) (H : cf_Res false c L O R C s w tx ty u v) : ∃ (u' : SX) (v' : SY), cf_Res true c L O R C s w tx ty u' v' ∧ (∀ post : SX → Prop, post u' → wpX_returnAtEnd post u (nI c)) ∧ (∀ post : SY → Prop, post v' → wpY_fallOff post v (nI c)) := by
  obtain ⟨D, f, p, q, g, r, hF, hO, ⟨d, hM, hN, rfl, rfl⟩ | ⟨x, z, h1, h5, hC, rfl, rfl⟩⟩ := H
  · exact cf_fallM hc hP hF hO hM
  · refine ⟨_, _, ⟨D, f, p, q, g, r, hF, hO, Or.inr ⟨x, z, h1, h5, hC, rfl, rfl⟩⟩, fun post h => ?_, fun post h => ?_⟩
    · unfold wpX_returnAtEnd
      exact ⟨1, xf_fin (i := 0) hc (by rw [pk_us]; exact h5) h⟩
    · unfold wpY_fallOff
      exact ⟨5, yf_fin hc (by rw [pk_us]; exact h1) h 4 0 5 (by omega) (by omega)⟩
/-- an instruction and what ends behind it -/
theorem cf_step {D f p q g r : Nat → Int32} {d : Nat} (hc : c < 4) (hP : cf_P L) (hQ : cf_Q O) (hF : cf_F f) (hO : cf_O c L R f p q g D s) (hM : cf_M c d L R f p q g D) (hN : cf_N L f p (c * 4 + d)) : ∃ (u1 : SX) (v1 : SY) (u : SX) (v : SY), cf_Res true c L O R C s w tx ty u v ∧ (∀ post : SX → Prop, post u1 → wpX_carryOut post (L, O, cf_A R, cf_B R, C, upd s c 5, w, D, tx, f, p, r) (nI c)) ∧ (∀ post : SX → Prop, post u → wpX_returnAtEnd post u1 (nI c)) ∧ (∀ post : SY → Prop, post v1 → wpY_carryOut post (L, O, R, C, upd s c 1, upd w c 0, ty, D, f, q, g, r) (nI c)) ∧ (∀ post : SY → Prop, post v → wpY_fallOff post v1 (nI c)) := by
  obtain ⟨u1, v1, hR1, hX1, hY1⟩ := cf_carry (C := C) (w := w) (tx := tx) (ty := ty) (r := r) hc hQ hF hO hM hN
  obtain ⟨u, v, hR, hX, hY⟩ := cf_fallR hc hP hR1
  exact ⟨u1, v1, u, v, hR, hX1, hX, hY1, hY⟩
end
section
variable {L O R C s w t : Nat → Int32} {c : Nat}
/-- a run of coroutine c that ended, in state x -/
def cf_Fin (c : Nat) (L O R C s w t : Nat → Int32) (x : Int32) (u : SX) (v : SY) : Prop :=
  ∃ (z y : Int32) (D f p q g r : Nat → Int32), cf_F f ∧ cf_O c L R f p q g D s ∧ cf_Co L R f p q g D x c ∧ u = (L, O, cf_A R, cf_B R, C, upd s c x, upd w c z, D, upd t c y, f, p, r) ∧ v = (L, O, R, C, upd s c x, upd w c z, upd t c y, D, f, q, g, r)
theorem xr_fin {A B D f p r : Nat → Int32} {post : SX → Prop} {n i : Nat} (hc : c < 4) (hs : ¬ s c = 5) (h : post (L, O, A, B, C, s, w, D, t, f, p, r)) : wX_run_21 post (nI c) (n + 1) (nI i) L O A B C s w D t f p r :=
  br_c (fun _ => ⟨vp_in_nI hc (by decide), br_f (by rw [nI_clamp (by omega)]; exact hs) h⟩) (fun _ => ⟨vp_in_nI hc (by decide), br_f (by rw [nI_clamp (by omega)]; exact hs) ⟨vp_in_nI hc (by decide), br_f (by rw [nI_clamp (by omega)]; exact hs) h⟩⟩)
theorem yr_fin {D f q g r : Nat → Int32} {post : Int32 → SY → Prop} {x : Int32} (hc : c < 4) (hx : s c = x) (h1 : ¬ x = 1) (h : post x (L, O, R, C, s, w, t, D, f, q, g, r)) : ∀ m i n : Nat, i + m = 80 → m < n → wY_resume_100 post (nI c) n (nI i) L O R C s w t D f q g r := by
  have e : (nI c).toNatClampNeg = c := nI_clamp (by omega)
  intro m
  induction m with
  | zero =>
    intro i n hi hn
    obtain ⟨n, rfl⟩ : ∃ k, n = k + 1 := ⟨n - 1, by omega⟩
    refine br_t (nI_le (a := 80) (by omega) (by omega)) ⟨vp_in_nI hc (by decide), br_f (by rw [e, hx]; exact h1) ⟨vp_in_nI hc (by decide), ?_⟩⟩
    rw [e, hx]; exact h
  | succ m ih =>
    intro i n hi hn
    obtain ⟨n, rfl⟩ : ∃ k, n = k + 1 := ⟨n - 1, by omega⟩
    exact br_f (nI_ge (b := 80) (by omega) (by decide)) ⟨vp_in_nI hc (by decide), br_f (by rw [e, hx]; exact h1) (nm_r (nI_1 i) (ih (i + 1) n (by omega) (by omega)))⟩
/-- the loop over the instructions, both sides -/
theorem cf_loop (hc : c < 4) (hP : cf_P L) (hQ : cf_Q O) : ∀ (m i : Nat), i + m = 80 → ∀ (d : Nat) (D f p q g r : Nat → Int32), cf_F f → cf_O c L R f p q g D s → cf_M c d L R f p q g D → cf_N L f p (c * 4 + d) → ∃ (x : Int32) (u : SX) (v : SY), cf_Fin c L O R C s w t x u v ∧ (∀ post : SX → Prop, post u → ∀ n, m < n → wX_run_21 post (nI c) n (nI i) L O (cf_A R) (cf_B R) C (upd s c 5) w D (upd t c (nI i)) f p r) ∧ (∀ post : Int32 → SY → Prop, post x v → ∀ n, m < n → wY_resume_100 post (nI c) n (nI i) L O R C (upd s c 1) (upd w c 0) (upd t c (nI i)) D f q g r) := by
  have e : (nI c).toNatClampNeg = c := nI_clamp (by omega)
  intro m
  induction m with
  | zero =>
    intro i hi d D f p q g r hF hO hM hN
    refine ⟨4, _, _, ⟨0, nI i, upd D c 0, f, p, q, g, r, hF, cf_OD hO, cf_Co0 (by decide) (by decide), rfl, rfl⟩, fun post h n hn => ?_, fun post h n hn => ?_⟩
    · obtain ⟨n, rfl⟩ : ∃ k, n = k + 1 := ⟨n - 1, by omega⟩
      refine br_t (nI_le (a := 80) (by omega) (by omega)) ⟨vp_in_nI hc (by decide), br_t (by rw [e]; exact pk_us) (xs_settle hc ?_)⟩
      rw [cf_uu]; exact h
    · obtain ⟨n, rfl⟩ : ∃ k, n = k + 1 := ⟨n - 1, by omega⟩
      refine br_t (nI_le (a := 80) (by omega) (by omega)) ⟨vp_in_nI hc (by decide), br_t (by rw [e]; exact pk_us) (ys_end hc ⟨vp_in_nI hc (by decide), ?_⟩)⟩
      rw [e, pk_us, cf_uu, cf_uu]; exact h
  | succ m ih =>
    intro i hi d D f p q g r hF hO hM hN
    obtain ⟨⟨x1, x2, x3, x4, x5, x6, x7, x8, x9, x10, x11, x12⟩, ⟨y1, y2, y3, y4, y5, y6, y7, y8, y9, y10, y11, y12⟩, u2, v2, hR, hX1, hX2, hY1, hY2⟩ := cf_step (C := C) (w := w) (tx := upd t c (nI (i + 1))) (ty := upd t c (nI i)) (r := r) hc hP hQ hF hO hM hN
    obtain ⟨D', f', p', q', g', r', hF', hO', ⟨d', hM', hN', rfl, rfl⟩ | ⟨x, z, h1, h5, hC, rfl, rfl⟩⟩ := hR
    · obtain ⟨x, u, v, hFin, hX, hY⟩ := ih (i + 1) (by omega) d' D' f' p' q' g' r' hF' hO' hM' (hN' rfl)
      refine ⟨x, u, v, hFin, fun post h n hn => ?_, fun post h n hn => ?_⟩
      · obtain ⟨n, rfl⟩ : ∃ k, n = k + 1 := ⟨n - 1, by omega⟩
        refine br_f (nI_ge (b := 80) (by omega) (by decide)) ⟨vp_in_nI hc (by decide), br_t (by rw [e]; exact pk_us) ⟨vp_in_nI hc (by decide), vp_in_nI hc (by decide), nm_r (e' := upd t c (nI (i + 1))) (by rw [e, pk_us, nI_1, cf_uu]) ?_⟩⟩
        exact hX1 _ (hX2 _ (nm_r (nI_1 i) (hX post h n (by omega))))
      · obtain ⟨n, rfl⟩ : ∃ k, n = k + 1 := ⟨n - 1, by omega⟩
        refine br_f (nI_ge (b := 80) (by omega) (by decide)) ⟨vp_in_nI hc (by decide), br_t (by rw [e]; exact pk_us) ?_⟩
        exact hY1 _ (hY2 _ ⟨vp_in_nI hc (by decide), vp_in_nI hc (by decide), nm_r (e' := upd t c (nI (i + 1))) (by rw [e, pk_us, nI_1, cf_uu]) (nm_r (nI_1 i) (hY post h n (by omega)))⟩)
    · refine ⟨x, _, _, ⟨z, nI (i + 1), D', f', p', q', g', r', hF', hO', hC, rfl, rfl⟩, fun post h n hn => ?_, fun post h n hn => ?_⟩
      · obtain ⟨n, rfl⟩ : ∃ k, n = k + 2 := ⟨n - 2, by omega⟩
        refine br_f (nI_ge (b := 80) (by omega) (by decide)) ⟨vp_in_nI hc (by decide), br_t (by rw [e]; exact pk_us) ⟨vp_in_nI hc (by decide), vp_in_nI hc (by decide), nm_r (e' := upd t c (nI (i + 1))) (by rw [e, pk_us, nI_1, cf_uu]) ?_⟩⟩
        exact hX1 _ (hX2 _ (nm_r (nI_1 i) (xr_fin hc (by rw [pk_us]; exact h5) h)))
      · obtain ⟨n, rfl⟩ : ∃ k, n = k + 1 := ⟨n - 1, by omega⟩
        refine br_f (nI_ge (b := 80) (by omega) (by decide)) ⟨vp_in_nI hc (by decide), br_t (by rw [e]; exact pk_us) ?_⟩
        exact hY1 _ (hY2 _ ⟨vp_in_nI hc (by decide), vp_in_nI hc (by decide), nm_r (e' := upd t c (nI (i + 1))) (by rw [e, pk_us, nI_1, cf_uu]) (nm_r (nI_1 i) (yr_fin hc pk_us h1 h m (i + 1) n (by omega) (by omega)))⟩)
/-- a run, both sides -/
theorem cf_run {D f p q g r : Nat → Int32} {d : Nat} (hc : c < 4) (hP : cf_P L) (hQ : cf_Q O) (hF : cf_F f) (hO : cf_O c L R f p q g D s) (hM : cf_M c d L R f p q g D) : ∃ (x : Int32) (u : SX) (v : SY), cf_Fin c L O R C s w t x u v ∧ (∀ post : SX → Prop, post u → wpX_run post (L, O, cf_A R, cf_B R, C, s, w, D, t, f, p, r) (nI c)) ∧ (∀ post : Int32 → SY → Prop, post x v → wY_resume_72 post (nI c) L O R C s w t D f q g r) := by
  have e : (nI c).toNatClampNeg = c := nI_clamp (by omega)
  obtain ⟨u1, v1, hR, hX1, hY1⟩ := cf_fallM (O := O) (C := C) (w := w) (tx := upd t c 0) (ty := upd t c 0) (r := r) hc hP hF hO hM
  obtain ⟨D', f', p', q', g', r', hF', hO', ⟨d', hM', hN', rfl, rfl⟩ | ⟨x, z, h1, h5, hC, rfl, rfl⟩⟩ := hR
  · obtain ⟨x, u, v, hFin, hX, hY⟩ := cf_loop (C := C) (w := w) (t := t) hc hP hQ 80 0 (by omega) d' D' f' p' q' g' r' hF' hO' hM' (hN' rfl)
    refine ⟨x, u, v, hFin, fun post h => ?_, fun post h => ?_⟩
    · unfold wpX_run
      dsimp only
      rw [e]
      exact ⟨vp_in_nI hc (by decide), nm_e ⟨vp_in_nI hc (by decide), nm_e (hX1 _ ⟨81, hX post h 81 (by omega)⟩)⟩⟩
    · unfold wY_resume_72
      rw [e]
      exact ⟨vp_in_nI hc (by decide), nm_e ⟨vp_in_nI hc (by decide), nm_e ⟨vp_in_nI hc (by decide), nm_e (hY1 _ ⟨81, hY post h 81 (by omega)⟩)⟩⟩⟩
  · refine ⟨x, _, _, ⟨z, 0, D', f', p', q', g', r', hF', hO', hC, rfl, rfl⟩, fun post h => ?_, fun post h => ?_⟩
    · unfold wpX_run
      dsimp only
      rw [e]
      have hx5 : ¬ upd s c x c = 5 := by rw [pk_us]; exact h5
      exact ⟨vp_in_nI hc (by decide), nm_e ⟨vp_in_nI hc (by decide), nm_e (hX1 _ ⟨1, xr_fin (i := 0) hc hx5 h⟩)⟩⟩
    · unfold wY_resume_72
      rw [e]
      exact ⟨vp_in_nI hc (by decide), nm_e ⟨vp_in_nI hc (by decide), nm_e ⟨vp_in_nI hc (by decide), nm_e (hY1 _ ⟨81, yr_fin hc pk_us h1 h 80 0 81 (by omega) (by omega)⟩)⟩⟩⟩
/-- the value taken in, and the run -/
theorem cf_go {D f p q g r : Nat → Int32} (hc : c < 4) (hP : cf_P L) (hQ : cf_Q O) (hF : cf_F f) (hA : ∀ c, c < 4 → cf_Co L R f p q g D (s c) c) (hs : s c = 1 ∨ s c = 2) (z : Int32) : ∃ (x : Int32) (u1 u : SX) (v : SY), cf_Fin c L O R C s w t x u v ∧ (∀ post : SX → Prop, post u1 → wpX_takeIn post (L, O, cf_A R, cf_B R, C, s, w, D, t, f, p, r) (nI c) z) ∧ (∀ post : SX → Prop, post u → wpX_run post u1 (nI c)) ∧ (∀ post : Int32 → SY → Prop, post x v → wY_resume_33 post (nI c) z L O R C s w t D f q g r) := by
  have e : (nI c).toNatClampNeg = c := nI_clamp (by omega)
  have hO : cf_O c L R f p q g D s := fun c' h4 _ => hA c' h4
  rcases hs with hs | hs
  · obtain ⟨d, hM⟩ := (hA c hc).1 hs
    have h2 : ¬ s c = 2 := by rw [hs]; decide
    obtain ⟨x, u, v, hFin, hX, hY⟩ := cf_run (C := C) (w := w) (t := t) (r := r) hc hP hQ hF hO hM
    refine ⟨x, (L, O, cf_A R, cf_B R, C, s, w, D, t, f, p, r), u, v, hFin, fun post h => xs_take1 hc h2 h, hX, fun post h => ?_⟩
    exact ⟨vp_in_nI hc (by decide), br_f (by rw [e]; exact h2) (hY post h)⟩
  · obtain ⟨d, hV⟩ := (hA c hc).2 hs
    have hV' := hV
    obtain ⟨hd, hD, ⟨j, i, l, hj, hi, hl, hf, hL, hp, hq, hg⟩, hS⟩ := hV'
    obtain ⟨b, hb, hB⟩ := cf_Bn R (j * 8 + i)
    obtain ⟨x, u, v, hFin, hX, hY⟩ := cf_run (C := C) (w := w) (t := t) (r := upd r ((c * 4 + d) * 4 + b) z) hc hP hQ hF (cf_Op hd hO) (cf_V2 hq hV)
    refine ⟨x, (L, O, cf_A R, cf_B R, C, s, w, D, t, f, upd p (c * 4 + d) (nI (i + 1)), upd r ((c * 4 + d) * 4 + b) z), u, v, hFin, fun post h => xs_take2 hc hd hs hD hj (by omega) hb hf hp hB h, hX, fun post h => ?_⟩
    have hg' : g (c * 4 + d) = nI b := hg.trans hB
    have H := hY post h
    unfold wY_resume_33
    simp +decide (disch := omega) only [hs, hD, hg', forall_eq, eq_self, nI_leI, nI_ltI, nI_eq, vp_in_nI, nI_clamp, nI_1, nI_add, cf_x4, cf_x8, cf_x16, cf_fs, pk_us, pk_un, cl_n0, cl_p0, true_implies, forall_const, not_true_eq_false, not_false_eq_true, false_implies, and_true, true_and, implies_true, and_self, ite_true, ite_false, reduceIte]
    exact H
theorem cf_FR {x : Int32} {u : SX} {v : SY} (hP : cf_P L) (hQ : cf_Q O) (H : cf_Fin c L O R C s w t x u v) : cf_Rel u v := by
  obtain ⟨z, y, D, f, p, q, g, r, hF, hO, hC, rfl, rfl⟩ := H
  exact ⟨L, O, R, C, upd s c x, upd w c z, D, upd t c y, f, p, q, g, r, rfl, rfl, hP, hQ, hF, cf_all hO hC⟩
end
