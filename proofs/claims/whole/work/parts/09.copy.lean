section
variable {L O A B R C s w D t f p q g r : Nat → Int32}
theorem xc_r {post : SX → Prop} {F T : Nat} (hF : F ≤ 48) (hT : T ≤ 48) (hd : F = T ∨ F + 16 ≤ T ∨ T + 16 ≤ F) (h : post (L, O, A, B, C, s, w, D, t, f, p, cf_cp r F T 16)) : ∀ m i n : Nat, i + m = 16 → m < n → wX_copyFrames_76 post (nI F) (nI T) n (nI i) L O A B C s w D t f p (cf_cp r F T i) := by
  intro m
  induction m with
  | zero =>
    intro i n hi hn
    obtain ⟨n, rfl⟩ : ∃ k, n = k + 1 := ⟨n - 1, by omega⟩
    have e : i = 16 := by omega
    subst e
    exact br_t (nI_le (a := 16) (by omega) (by decide)) h
  | succ m ih =>
    intro i n hi hn
    obtain ⟨n, rfl⟩ : ∃ k, n = k + 1 := ⟨n - 1, by omega⟩
    have H := ih (i + 1) n (by omega) (by omega)
    refine br_f (nI_ge (b := 16) (by omega) (by decide)) ?_
    rw [nI_add, nI_add, nI_clamp (n := F + i) (by omega), nI_clamp (n := T + i) (by omega)]
    exact ⟨vp_in_nI (by omega) (by decide), vp_in_nI (by omega) (by decide), nm_r (cf_cps (n := 16) (by omega) hd) (nm_r (nI_1 i) H)⟩
theorem xc_f {post : SX → Prop} {F T : Nat} (hF : F < 4) (hT : T < 4) (h : post (L, O, A, B, C, s, w, D, t, cf_cp f (F * 4) (T * 4) 4, cf_cp p (F * 4) (T * 4) 4, cf_cp r (F * 16) (T * 16) 16)) : ∀ m i n : Nat, i + m = 4 → m < n → wX_copyFrames_12 post (nI (F * 4)) (nI (T * 4)) n (nI i) L O A B C s w D t (cf_cp f (F * 4) (T * 4) i) (cf_cp p (F * 4) (T * 4) i) r := by
  intro m
  induction m with
  | zero =>
    intro i n hi hn
    obtain ⟨n, rfl⟩ : ∃ k, n = k + 1 := ⟨n - 1, by omega⟩
    have e : i = 4 := by omega
    subst e
    have H := xc_r (F := F * 16) (T := T * 16) (by omega) (by omega) (by omega) h 16 0 17 (by omega) (by omega)
    rw [cf_cp0] at H
    exact br_t (nI_le (a := 4) (by omega) (by decide)) (nm_r (e' := nI (F * 16)) (by rw [cf_x4]; exact congrArg nI (by omega)) (nm_r (e' := nI (T * 16)) (by rw [cf_x4]; exact congrArg nI (by omega)) ⟨17, H⟩))
  | succ m ih =>
    intro i n hi hn
    obtain ⟨n, rfl⟩ : ∃ k, n = k + 1 := ⟨n - 1, by omega⟩
    have H := ih (i + 1) n (by omega) (by omega)
    refine br_f (nI_ge (b := 4) (by omega) (by decide)) ?_
    rw [nI_add, nI_add, nI_clamp (n := F * 4 + i) (by omega), nI_clamp (n := T * 4 + i) (by omega)]
    exact ⟨vp_in_nI (by omega) (by decide), vp_in_nI (by omega) (by decide), nm_r (cf_cps (n := 4) (by omega) (by omega)) ⟨vp_in_nI (by omega) (by decide), vp_in_nI (by omega) (by decide), nm_r (cf_cps (n := 4) (by omega) (by omega)) (nm_r (nI_1 i) H)⟩⟩
theorem xm_copy {post : Int32 → SX → Prop} {F T : Nat} (hF : F < 4) (hT : T < 4) (h : post (s F) (L, O, A, B, C, upd s T (s F), upd w T (w F), upd D T (D F), upd t T (t F), cf_cp f (F * 4) (T * 4) 4, cf_cp p (F * 4) (T * 4) 4, cf_cp r (F * 16) (T * 16) 16)) : wpX_copy post (L, O, A, B, C, s, w, D, t, f, p, r) (nI F) (nI T) := by
  have e1 : (nI F).toNatClampNeg = F := nI_clamp (by omega)
  have e2 : (nI T).toNatClampNeg = T := nI_clamp (by omega)
  have i1 : vp_in (nI F) 4 := vp_in_nI hF (by decide)
  have i2 : vp_in (nI T) 4 := vp_in_nI hT (by decide)
  unfold wpX_copy
  dsimp only
  rw [e1, e2]
  refine xi_1 hF (br_f (by decide) (xi_1 hT (br_f (by decide) ⟨i1, i2, nm_e ⟨i1, i2, nm_e ⟨i1, i2, nm_e ⟨i1, i2, nm_e ?_⟩⟩⟩⟩)))
  unfold wpX_copyFrames
  dsimp only
  refine nm_r (cf_x4 F) (nm_r (cf_x4 T) ⟨5, ?_⟩)
  have H := xc_f (L := L) (O := O) (A := A) (B := B) (C := C) (s := upd s T (s F)) (w := upd w T (w F)) (D := upd D T (D F)) (t := upd t T (t F)) (f := f) (p := p) (r := r) (post := fun u => vp_in (nI T) 4 ∧ post (u.2.2.2.2.2.1 T) u) hF hT ⟨i2, by
    show post (upd s T (s F) T) _
    rw [pk_us]
    exact h⟩ 4 0 5 (by omega) (by omega)
  rw [cf_cp0, cf_cp0] at H
  exact H
end
section
variable {L O A B R C s w D t f p q g r : Nat → Int32}
theorem yc_r {post : Int32 → SY → Prop} {F T : Nat} (hF : F < 4) (hT : T < 4) (h : post (s T) (L, O, R, C, s, w, t, D, f, q, g, cf_cp r (F * 16) (T * 16) 16)) : ∀ m i n : Nat, i + m = 16 → m < n → wY_copy_141 post (nI F) (nI T) n (nI i) L O R C s w t D f q g (cf_cp r (F * 16) (T * 16) i) := by
  intro m
  induction m with
  | zero =>
    intro i n hi hn
    obtain ⟨n, rfl⟩ : ∃ k, n = k + 1 := ⟨n - 1, by omega⟩
    have e : i = 16 := by omega
    subst e
    refine br_t (nI_le (a := 16) (by omega) (by decide)) ⟨vp_in_nI hT (by decide), ?_⟩
    rw [nI_clamp (by omega)]
    exact h
  | succ m ih =>
    intro i n hi hn
    obtain ⟨n, rfl⟩ : ∃ k, n = k + 1 := ⟨n - 1, by omega⟩
    have H := ih (i + 1) n (by omega) (by omega)
    refine br_f (nI_ge (b := 16) (by omega) (by decide)) ?_
    rw [cf_x16, cf_x16, nI_add, nI_add, nI_clamp (n := F * 16 + i) (by omega), nI_clamp (n := T * 16 + i) (by omega)]
    exact ⟨vp_in_nI (by omega) (by decide), vp_in_nI (by omega) (by decide), nm_r (cf_cps (n := 16) (by omega) (by omega)) (nm_r (nI_1 i) H)⟩
theorem yc_f {post : Int32 → SY → Prop} {F T : Nat} (hF : F < 4) (hT : T < 4) (h : post (s T) (L, O, R, C, s, w, t, D, cf_cp f (F * 4) (T * 4) 4, cf_cp q (F * 4) (T * 4) 4, cf_cp g (F * 4) (T * 4) 4, cf_cp r (F * 16) (T * 16) 16)) : ∀ m i n : Nat, i + m = 4 → m < n → wY_copy_68 post (nI F) (nI T) n (nI i) L O R C s w t D (cf_cp f (F * 4) (T * 4) i) (cf_cp q (F * 4) (T * 4) i) (cf_cp g (F * 4) (T * 4) i) r := by
  intro m
  induction m with
  | zero =>
    intro i n hi hn
    obtain ⟨n, rfl⟩ : ∃ k, n = k + 1 := ⟨n - 1, by omega⟩
    have e : i = 4 := by omega
    subst e
    have H := yc_r (F := F) (T := T) hF hT h 16 0 17 (by omega) (by omega)
    rw [cf_cp0] at H
    exact br_t (nI_le (a := 4) (by omega) (by decide)) ⟨17, H⟩
  | succ m ih =>
    intro i n hi hn
    obtain ⟨n, rfl⟩ : ∃ k, n = k + 1 := ⟨n - 1, by omega⟩
    have H := ih (i + 1) n (by omega) (by omega)
    have a1 : vp_in (nI (F * 4 + i)) 16 := vp_in_nI (by omega) (by decide)
    have a2 : vp_in (nI (T * 4 + i)) 16 := vp_in_nI (by omega) (by decide)
    refine br_f (nI_ge (b := 4) (by omega) (by decide)) ?_
    rw [cf_x4, cf_x4, nI_add, nI_add, nI_clamp (n := F * 4 + i) (by omega), nI_clamp (n := T * 4 + i) (by omega)]
    exact ⟨a1, a2, nm_r (cf_cps (n := 4) (by omega) (by omega)) ⟨a1, a2, nm_r (cf_cps (n := 4) (by omega) (by omega)) ⟨a1, a2, nm_r (cf_cps (n := 4) (by omega) (by omega)) (nm_r (nI_1 i) H)⟩⟩⟩
theorem ym_copy {post : Int32 → SY → Prop} {F T : Nat} (hF : F < 4) (hT : T < 4) (h : post (s F) (L, O, R, C, upd s T (s F), upd w T (w F), upd t T (t F), upd D T (D F), cf_cp f (F * 4) (T * 4) 4, cf_cp q (F * 4) (T * 4) 4, cf_cp g (F * 4) (T * 4) 4, cf_cp r (F * 16) (T * 16) 16)) : wpY_copy post (L, O, R, C, s, w, t, D, f, q, g, r) (nI F) (nI T) := by
  have e1 : (nI F).toNatClampNeg = F := nI_clamp (by omega)
  have e2 : (nI T).toNatClampNeg = T := nI_clamp (by omega)
  have i1 : vp_in (nI F) 4 := vp_in_nI hF (by decide)
  have i2 : vp_in (nI T) 4 := vp_in_nI hT (by decide)
  unfold wpY_copy
  dsimp only
  rw [e1, e2]
  refine yi_0 hF (br_t rfl (yi_0 hT (br_t rfl ⟨i1, i2, nm_e ⟨i1, i2, nm_e ⟨i1, i2, nm_e ⟨i1, i2, nm_e ⟨5, ?_⟩⟩⟩⟩⟩)))
  have H := yc_f (post := post) (L := L) (O := O) (R := R) (C := C) (s := upd s T (s F)) (w := upd w T (w F)) (D := upd D T (D F)) (t := upd t T (t F)) (f := f) (q := q) (g := g) (r := r) hF hT (by rw [pk_us]; exact h) 4 0 5 (by omega) (by omega)
  rw [cf_cp0, cf_cp0, cf_cp0] at H
  exact H
/-- the copy of a coroutine is as good as the coroutine -/
theorem cf_copy {F T : Nat} (hF : F < 4) (hT : T < 4) (hA : ∀ c, c < 4 → cf_Co L R f p q g D (s c) c) : ∀ c, c < 4 → cf_Co L R (cf_cp f (F * 4) (T * 4) 4) (cf_cp p (F * 4) (T * 4) 4) (cf_cp q (F * 4) (T * 4) 4) (cf_cp g (F * 4) (T * 4) 4) (upd D T (D F)) (upd s T (s F) c) c := by
  intro c hc
  by_cases e : c = T
  · subst e
    rw [pk_us]
    exact cf_Coc (fun d hd => ⟨cf_cpi hd, cf_cpi hd, cf_cpi hd, cf_cpi hd⟩) pk_us (hA F hF)
  · rw [pk_un e]
    exact cf_Coc (fun d hd => ⟨cf_cpo (fun _ _ => by omega), cf_cpo (fun _ _ => by omega), cf_cpo (fun _ _ => by omega), cf_cpo (fun _ _ => by omega)⟩) (pk_un e) (hA c hc)
end
section
variable {L O A B R C s w D t f p q g r : Nat → Int32}
theorem xl_0 {post : Int32 → Prop} (hs : ∀ c, c < 4 → s c = 0) (h : post 0) : ∀ m i n : Nat, i + m = 4 → m < n → wX_isLocked_2 post L O A B C s w D t f p r n (nI i) := by
  intro m
  induction m with
  | zero =>
    intro i n hi hn
    obtain ⟨n, rfl⟩ : ∃ k, n = k + 1 := ⟨n - 1, by omega⟩
    exact br_t (nI_le (a := 4) (by omega) (by omega)) h
  | succ m ih =>
    intro i n hi hn
    obtain ⟨n, rfl⟩ : ∃ k, n = k + 1 := ⟨n - 1, by omega⟩
    exact br_f (nI_ge (b := 4) (by omega) (by decide)) ⟨vp_in_nI (by omega) (by decide), br_t (by rw [nI_clamp (by omega)]; exact hs i (by omega)) (nm_r (nI_1 i) (ih (i + 1) n (by omega) (by omega)))⟩
theorem xl_1 {post : Int32 → Prop} (h : post 1) : ∀ m i n : Nat, i + m = 4 → m < n → (∃ k, i ≤ k ∧ k < 4 ∧ ¬ s k = 0) → wX_isLocked_2 post L O A B C s w D t f p r n (nI i) := by
  intro m
  induction m with
  | zero =>
    intro i n hi hn hk
    obtain ⟨k, h1, h2, _⟩ := hk
    omega
  | succ m ih =>
    intro i n hi hn hk
    obtain ⟨n, rfl⟩ : ∃ k, n = k + 1 := ⟨n - 1, by omega⟩
    obtain ⟨k, h1, h2, h3⟩ := hk
    refine br_f (nI_ge (b := 4) (by omega) (by decide)) ⟨vp_in_nI (by omega) (by decide), ?_⟩
    rw [nI_clamp (by omega)]
    refine br_c (fun z => nm_r (nI_1 i) (ih (i + 1) n (by omega) (by omega) ⟨k, ?_, h2, h3⟩)) (fun _ => h)
    have : i ≠ k := fun q => h3 (q ▸ z)
    omega
theorem yl_1 {post : Int32 → SY → Prop} {x1 x2 x3 x4 : Int32} (h : post (-3) (L, O, R, C, s, w, t, D, f, q, g, r)) : ∀ m i n : Nat, i + m = 4 → m < n → (∃ k, i ≤ k ∧ k < 4 ∧ ¬ s k = 0) → wY_emit_24 post x1 x2 x3 x4 L O R C s w t D f q g r n (nI i) := by
  intro m
  induction m with
  | zero =>
    intro i n hi hn hk
    obtain ⟨k, h1, h2, _⟩ := hk
    omega
  | succ m ih =>
    intro i n hi hn hk
    obtain ⟨n, rfl⟩ : ∃ k, n = k + 1 := ⟨n - 1, by omega⟩
    obtain ⟨k, h1, h2, h3⟩ := hk
    refine br_f (nI_ge (b := 4) (by omega) (by decide)) ⟨vp_in_nI (by omega) (by decide), ?_⟩
    rw [nI_clamp (by omega)]
    refine br_c (fun z => nm_r (nI_1 i) (ih (i + 1) n (by omega) (by omega) ⟨k, ?_, h2, h3⟩)) (fun _ => h)
    have : i ≠ k := fun q => h3 (q ▸ z)
    omega
theorem yl_0 {post : Int32 → SY → Prop} {x1 x2 x3 x4 : Int32} (hs : ∀ c, c < 4 → s c = 0) (h : wY_emit_24 post x1 x2 x3 x4 L O R C s w t D f q g r 1 (nI 4)) : ∀ m i n : Nat, i + m = 4 → m < n → wY_emit_24 post x1 x2 x3 x4 L O R C s w t D f q g r n (nI i) := by
  intro m
  induction m with
  | zero =>
    intro i n hi hn
    obtain ⟨n, rfl⟩ : ∃ k, n = k + 1 := ⟨n - 1, by omega⟩
    have e : i = 4 := by omega
    subst e
    have h' := h.1 (nI_le (a := 4) (by omega) (by decide))
    exact br_t (nI_le (a := 4) (by omega) (by decide)) h'
  | succ m ih =>
    intro i n hi hn
    obtain ⟨n, rfl⟩ : ∃ k, n = k + 1 := ⟨n - 1, by omega⟩
    exact br_f (nI_ge (b := 4) (by omega) (by decide)) ⟨vp_in_nI (by omega) (by decide), br_t (by rw [nI_clamp (by omega)]; exact hs i (by omega)) (nm_r (nI_1 i) (ih (i + 1) n (by omega) (by omega)))⟩
/-- an emit that is taken: function j, instruction m -/
theorem xm_emit {post : Int32 → SX → Prop} {j m l : Nat} {x3 x4 : Int32} (hj : j < 3) (hm : m < 8) (hs : ∀ c, c < 4 → s c = 0) (hl : l < 8) (hL : L j = nI l) (h : post (nI l) (upd L j (nI (l + 1)), upd O (j * 8 + l) (nI m), cf_A (upd R (j * 8 + l) x3), cf_B (upd R (j * 8 + l) x3), upd C (j * 8 + l) x4, s, w, D, t, f, p, r)) : wpX_emit post (L, O, cf_A R, cf_B R, C, s, w, D, t, f, p, r) (nI j) (nI m) x3 x4 := by
  have e1 : (nI j).toNatClampNeg = j := nI_clamp (by omega)
  have e2 : (nI (j * 8 + l)).toNatClampNeg = j * 8 + l := nI_clamp (by omega)
  have i1 : vp_in (nI j) 3 := vp_in_nI hj (by decide)
  have i2 : vp_in (nI (j * 8 + l)) 24 := vp_in_nI (by omega) (by decide)
  rw [cf_Au, cf_Bu] at h
  unfold wpX_emit
  dsimp only
  refine xn_1 hj (br_f (by decide) (br_f (nI_pos (by omega)) (br_t (nI_le (b := 7) (by omega) (by decide)) ?_)))
  unfold wpX_isLocked
  dsimp only
  refine ⟨5, xl_0 hs (br_t rfl ⟨i1, ?_⟩) 4 0 5 (by omega) (by omega)⟩
  rw [e1, hL]
  refine nm_e (br_t (nI_lt (b := 8) hl (by decide)) (nm_r (e' := nI (j * 8 + l)) (by rw [cf_x8, nI_add]) ?_))
  rw [e2, nI_1]
  exact ⟨i2, nm_e ⟨i2, nm_e ⟨i2, nm_e ⟨i2, nm_e ⟨i1, nm_e h⟩⟩⟩⟩⟩
theorem ym_emit {post : Int32 → SY → Prop} {j m l : Nat} {x3 x4 : Int32} (hj : j < 3) (hm : m < 8) (hs : ∀ c, c < 4 → s c = 0) (hl : l < 8) (hL : L j = nI l) (h : post (nI l) (upd L j (nI (l + 1)), upd O (j * 8 + l) (nI m), upd R (j * 8 + l) x3, upd C (j * 8 + l) x4, s, w, t, D, f, q, g, r)) : wpY_emit post (L, O, R, C, s, w, t, D, f, q, g, r) (nI j) (nI m) x3 x4 := by
  have e1 : (nI j).toNatClampNeg = j := nI_clamp (by omega)
  have e2 : (nI (j * 8 + l)).toNatClampNeg = j * 8 + l := nI_clamp (by omega)
  have i1 : vp_in (nI j) 3 := vp_in_nI hj (by decide)
  have i2 : vp_in (nI (j * 8 + l)) 24 := vp_in_nI (by omega) (by decide)
  have h8 : ¬ nI l = 8 := fun z => by have := (nI_eq (a := l) (b := 8) (by omega) (by decide)).mp z; omega
  unfold wpY_emit
  dsimp only
  refine br_f (nI_pos (by omega)) (br_f (nI_nlt (b := j) (a := 2) (by omega) (by decide)) (br_f (nI_pos (by omega)) (br_t (nI_le (b := 7) (by omega) (by decide)) ⟨5, yl_0 hs (br_t (nI_le (a := 4) (by omega) (by decide)) ⟨i1, ?_⟩) 4 0 5 (by omega) (by omega)⟩)))
  rw [e1, hL]
  refine nm_e (br_f h8 ?_)
  rw [cf_x8, nI_add, e2, nI_1]
  exact ⟨i2, nm_e ⟨i2, nm_e ⟨i2, nm_e ⟨i1, nm_e h⟩⟩⟩⟩
end
