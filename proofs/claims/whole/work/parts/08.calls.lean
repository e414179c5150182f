theorem cf_co (x : Int32) : (x < 0 ∨ (4 : Int32) ≤ x) ∨ ∃ c : Nat, c < 4 ∧ x = nI c := or_assoc.mpr (pk_ix x (n := 4) (by decide))
theorem cf_fn (x : Int32) : (x < 0 ∨ (3 : Int32) ≤ x) ∨ ∃ c : Nat, c < 3 ∧ x = nI c := or_assoc.mpr (pk_ix x (n := 3) (by decide))
theorem cf_op (x : Int32) : (x < 0 ∨ (8 : Int32) ≤ x) ∨ ∃ c : Nat, c < 8 ∧ x = nI c := or_assoc.mpr (pk_ix x (n := 8) (by decide))
section
variable {post : Int32 → Prop} {c : Nat} {x : Int32}
theorem xi_1 (hc : c < 4) (h : post 1) : wpX_isCoroutine post (nI c) := br_f (nI_pos (by omega)) (br_f (nI_ge (b := 4) hc (by decide)) h)
theorem xi_0 (hx : x < 0 ∨ (4 : Int32) ≤ x) (h : post 0) : wpX_isCoroutine post x := br_c (fun _ => h) (fun z => br_t (hx.resolve_left z) h)
theorem xn_1 (hc : c < 3) (h : post 1) : wpX_isFunction post (nI c) := br_f (nI_pos (by omega)) (br_f (nI_ge (b := 3) hc (by decide)) h)
theorem xn_0 (hx : x < 0 ∨ (3 : Int32) ≤ x) (h : post 0) : wpX_isFunction post x := br_c (fun _ => h) (fun z => br_t (hx.resolve_left z) h)
theorem yi_0 {v : SY} (hc : c < 4) (h : post 0) : wpY_badCo post v (nI c) := by
  unfold wpY_badCo
  exact br_f (nI_pos (by omega)) (br_t (nI_le (b := 3) (by omega) (by decide)) h)
theorem yi_1 {v : SY} (hx : x < 0 ∨ (4 : Int32) ≤ x) (h : post 1) : wpY_badCo post v x := by
  unfold wpY_badCo
  exact br_c (fun _ => h) (fun z => br_f (fun z3 => absurd (Int32.le_trans (hx.resolve_left z) z3) (by decide)) h)
end
section
variable {L O A B R C s w D t f p q g r : Nat → Int32} {c j : Nat} {z : Int32}
theorem xm_drop {post : Int32 → SX → Prop} (hc : c < 4) (h : post (s c) (L, O, A, B, C, upd s c 0, upd w c 0, upd D c 0, upd t c 0, f, p, r)) : wpX_drop post (L, O, A, B, C, s, w, D, t, f, p, r) (nI c) := by
  have e : (nI c).toNatClampNeg = c := nI_clamp (by omega)
  unfold wpX_drop
  dsimp only
  rw [e]
  exact xi_1 hc (br_f (by decide) ⟨vp_in_nI hc (by decide), nm_e (xs_settle hc ⟨vp_in_nI hc (by decide), nm_e h⟩)⟩)
theorem ym_drop {post : Int32 → SY → Prop} (hc : c < 4) (h : post (s c) (L, O, R, C, upd s c 0, upd w c 0, upd t c 0, upd D c 0, f, q, g, r)) : wpY_drop post (L, O, R, C, s, w, t, D, f, q, g, r) (nI c) := by
  have e : (nI c).toNatClampNeg = c := nI_clamp (by omega)
  unfold wpY_drop
  dsimp only
  rw [e]
  exact yi_0 hc (br_t rfl ⟨vp_in_nI hc (by decide), nm_e (ys_end hc ⟨vp_in_nI hc (by decide), nm_e h⟩)⟩)
theorem xm_start {post : Int32 → SX → Prop} (hc : c < 4) (hj : j < 3) (h : post 0 (L, O, A, B, C, upd s c 1, upd w c 0, upd D c (nI 1), upd t c 0, upd f (c * 4 + 0) (nI j), upd p (c * 4 + 0) 0, cf_r4 r (c * 4 + 0) z)) : wpX_start post (L, O, A, B, C, s, w, D, t, f, p, r) (nI c) (nI j) z := by
  have e : (nI c).toNatClampNeg = c := nI_clamp (by omega)
  unfold wpX_start
  dsimp only
  rw [e]
  refine xi_1 hc (br_f (by decide) (xn_1 hj (br_f (by decide) (xs_settle hc ⟨vp_in_nI hc (by decide), nm_e (xs_add (d := 0) hc (by omega) pk_us ?_)⟩))))
  rw [cf_uu]
  exact h
theorem ym_start {post : Int32 → SY → Prop} (hc : c < 4) (hj : j < 3) (h : post 0 (L, O, R, C, upd s c 1, upd w c 0, upd t c 0, upd D c (nI 1), upd f (c * 4 + 0) (nI j), upd q (c * 4 + 0) 0, g, cf_r4 r (c * 4 + 0) z)) : wpY_start post (L, O, R, C, s, w, t, D, f, q, g, r) (nI c) (nI j) z := by
  have e : (nI c).toNatClampNeg = c := nI_clamp (by omega)
  unfold wpY_start
  dsimp only
  rw [e]
  refine yi_0 hc (br_t rfl (br_f (nI_pos (by omega)) (br_t (nI_le (b := 2) (by omega) (by decide)) ⟨vp_in_nI hc (by decide), nm_e (ys_push (d := 0) hc (by omega) pk_us ⟨vp_in_nI hc (by decide), nm_e ⟨vp_in_nI hc (by decide), nm_e ⟨vp_in_nI hc (by decide), nm_e ?_⟩⟩⟩)⟩)))
  rw [cf_uu]
  exact h
theorem xm_res {post : Int32 → SX → Prop} (hc : c < 4) (hs : s c = 1 ∨ s c = 2) (h : wX_resume_32 post (nI c) z L O A B C s w D t f p r) : wpX_resume post (L, O, A, B, C, s, w, D, t, f, p, r) (nI c) z := by
  have e : (nI c).toNatClampNeg = c := nI_clamp (by omega)
  unfold wpX_resume
  dsimp only
  rw [e]
  exact xi_1 hc (br_f (by decide) ⟨vp_in_nI hc (by decide), br_c (fun _ => h) (fun n => ⟨vp_in_nI hc (by decide), br_t (hs.resolve_left n) h⟩)⟩)
theorem ym_res {post : Int32 → SY → Prop} (hc : c < 4) (hs : s c = 1 ∨ s c = 2) (h : wY_resume_33 post (nI c) z L O R C s w t D f q g r) : wpY_resume post (L, O, R, C, s, w, t, D, f, q, g, r) (nI c) z := by
  have e : (nI c).toNatClampNeg = c := nI_clamp (by omega)
  unfold wpY_resume
  dsimp only
  rw [e]
  exact yi_0 hc (br_t rfl ⟨vp_in_nI hc (by decide), br_c (fun _ => h) (fun n => ⟨vp_in_nI hc (by decide), br_t (hs.resolve_left n) h⟩)⟩)
theorem cf_resume (hc : c < 4) (hP : cf_P L) (hQ : cf_Q O) (hF : cf_F f) (hA : ∀ c, c < 4 → cf_Co L R f p q g D (s c) c) (hs : s c = 1 ∨ s c = 2) (z : Int32) : ∃ (x : Int32) (u : SX) (v : SY), cf_Rel u v ∧ (∀ post : Int32 → SX → Prop, post x u → wpX_resume post (L, O, cf_A R, cf_B R, C, s, w, D, t, f, p, r) (nI c) z) ∧ (∀ post : Int32 → SY → Prop, post x v → wpY_resume post (L, O, R, C, s, w, t, D, f, q, g, r) (nI c) z) := by
  have e : (nI c).toNatClampNeg = c := nI_clamp (by omega)
  obtain ⟨x, ⟨x1, x2, x3, x4, x5, x6, x7, x8, x9, x10, x11, x12⟩, u, v, hFin, hT, hX, hY⟩ := cf_go (C := C) (w := w) (t := t) (r := r) hc hP hQ hF hA hs z
  have hR := cf_FR hP hQ hFin
  obtain ⟨z', y', D', f', p', q', g', r', hF', hO', hC', rfl, rfl⟩ := hFin
  refine ⟨x, _, _, hR, fun post h => xm_res hc hs ?_, fun post h => ym_res hc hs (hY post h)⟩
  unfold wX_resume_32
  refine hT _ (hX _ ⟨vp_in_nI hc (by decide), ?_⟩)
  rw [e, pk_us]
  exact h
end
section
variable {L O A B R C s w D t f p q g r : Nat → Int32} {c : Nat}
theorem ye_idle {post : Int32 → SY → Prop} {acc y : Int32} (hc : c < 4) (h : post acc (L, O, R, C, s, w, t, D, f, q, g, r)) : ∀ m i n : Nat, i + m = 20 → m < n → (y ≤ nI i ∨ ¬ s c = 2) → wY_echo_28 post (nI c) y n acc (nI i) L O R C s w t D f q g r := by
  have e : (nI c).toNatClampNeg = c := nI_clamp (by omega)
  intro m
  induction m with
  | zero =>
    intro i n hi hn _
    obtain ⟨n, rfl⟩ : ∃ k, n = k + 1 := ⟨n - 1, by omega⟩
    exact br_t (nI_le (a := 20) (by omega) (by omega)) h
  | succ m ih =>
    intro i n hi hn ho
    obtain ⟨n, rfl⟩ : ∃ k, n = k + 1 := ⟨n - 1, by omega⟩
    exact br_f (nI_ge (b := 20) (by omega) (by decide)) (br_c (fun hy => nm_r (nI_1 i) (ih (i + 1) n (by omega) (by omega) (Or.inl (Int32.le_trans hy (nI_le (by omega) (by omega)))))) (fun hy => ⟨vp_in_nI hc (by decide), br_f (by rw [e]; exact ho.resolve_left hy) (nm_r (nI_1 i) (ih (i + 1) n (by omega) (by omega) (Or.inr (ho.resolve_left hy))))⟩))
theorem cf_echo (hc : c < 4) (y : Int32) : ∀ m i : Nat, i + m = 20 → ∀ (acc : Int32) (L O R C s w D t f p q g r : Nat → Int32), cf_P L → cf_Q O → cf_F f → (∀ c, c < 4 → cf_Co L R f p q g D (s c) c) → ∃ (x : Int32) (u : SX) (v : SY), cf_Rel u v ∧ (∀ post : Int32 → SX → Prop, post x u → ∀ n, m < n → wX_echo_27 post (nI c) y n acc (nI i) L O (cf_A R) (cf_B R) C s w D t f p r) ∧ (∀ post : Int32 → SY → Prop, post x v → ∀ n, m < n → wY_echo_28 post (nI c) y n acc (nI i) L O R C s w t D f q g r) := by
  have e : (nI c).toNatClampNeg = c := nI_clamp (by omega)
  intro m
  induction m with
  | zero =>
    intro i hi acc L O R C s w D t f p q g r hP hQ hF hA
    refine ⟨acc, _, _, ⟨L, O, R, C, s, w, D, t, f, p, q, g, r, rfl, rfl, hP, hQ, hF, hA⟩, fun post h n hn => ?_, fun post h n hn => ?_⟩
    · obtain ⟨n, rfl⟩ : ∃ k, n = k + 1 := ⟨n - 1, by omega⟩
      exact br_c (fun _ => h) (fun _ => br_t (nI_le (a := 20) (by omega) (by omega)) h)
    · obtain ⟨n, rfl⟩ : ∃ k, n = k + 1 := ⟨n - 1, by omega⟩
      exact br_t (nI_le (a := 20) (by omega) (by omega)) h
  | succ m ih =>
    intro i hi acc L O R C s w D t f p q g r hP hQ hF hA
    by_cases hy : y ≤ nI i
    · refine ⟨acc, _, _, ⟨L, O, R, C, s, w, D, t, f, p, q, g, r, rfl, rfl, hP, hQ, hF, hA⟩, fun post h n hn => ?_, fun post h n hn => ye_idle hc h (m + 1) i n hi hn (Or.inl hy)⟩
      obtain ⟨n, rfl⟩ : ∃ k, n = k + 1 := ⟨n - 1, by omega⟩
      exact br_t hy h
    · by_cases hs : s c = 2
      · obtain ⟨x, ⟨x1, x2, x3, x4, x5, x6, x7, x8, x9, x10, x11, x12⟩, u, v, hFin, hT, hX, hY⟩ := cf_go (C := C) (w := w) (t := t) (r := r) hc hP hQ hF hA (Or.inr hs) (w (nI c).toNatClampNeg)
        obtain ⟨z', y', D', f', p', q', g', r', hF', hO', hC', rfl, rfl⟩ := hFin
        obtain ⟨a, u, v, hR, hX', hY'⟩ := ih (i + 1) (by omega) (acc + z') L O R C (upd s c x) (upd w c z') D' (upd t c y') f' p' q' g' r' hP hQ hF' (cf_all hO' hC')
        refine ⟨a, u, v, hR, fun post h n hn => ?_, fun post h n hn => ?_⟩
        · obtain ⟨n, rfl⟩ : ∃ k, n = k + 1 := ⟨n - 1, by omega⟩
          exact br_f hy (br_f (nI_ge (b := 20) (by omega) (by decide)) ⟨vp_in_nI hc (by decide), br_t (by rw [e]; exact hs) ⟨vp_in_nI hc (by decide), hT _ (hX _ ⟨vp_in_nI hc (by decide), nm_r (e' := acc + z') (by rw [e, pk_us]) (nm_r (nI_1 i) (hX' post h n (by omega)))⟩)⟩⟩)
        · obtain ⟨n, rfl⟩ : ∃ k, n = k + 1 := ⟨n - 1, by omega⟩
          exact br_f (nI_ge (b := 20) (by omega) (by decide)) (br_f hy ⟨vp_in_nI hc (by decide), br_t (by rw [e]; exact hs) ⟨vp_in_nI hc (by decide), ym_res hc (Or.inr hs) (hY _ ⟨vp_in_nI hc (by decide), nm_r (e' := acc + z') (by rw [e, pk_us]) (nm_r (nI_1 i) (hY' post h n (by omega)))⟩)⟩⟩)
      · refine ⟨acc, _, _, ⟨L, O, R, C, s, w, D, t, f, p, q, g, r, rfl, rfl, hP, hQ, hF, hA⟩, fun post h n hn => ?_, fun post h n hn => ye_idle hc h (m + 1) i n hi hn (Or.inr hs)⟩
        obtain ⟨n, rfl⟩ : ∃ k, n = k + 1 := ⟨n - 1, by omega⟩
        exact br_f hy (br_f (nI_ge (b := 20) (by omega) (by decide)) ⟨vp_in_nI hc (by decide), br_f (by rw [e]; exact hs) h⟩)
end
