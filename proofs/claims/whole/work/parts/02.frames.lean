section
variable {L R f p q g D s : Nat → Int32} {c d : Nat} {x y : Int32}
theorem cf_Of (hd : d < 4) (H : cf_O c L R f p q g D s) : cf_O c L R (upd f (c * 4 + d) y) p q g D s :=
  cf_Oc (fun k hk => ⟨pk_un (hk d hd), rfl, rfl, rfl⟩) (fun _ _ => rfl) H
theorem cf_Op (hd : d < 4) (H : cf_O c L R f p q g D s) : cf_O c L R f (upd p (c * 4 + d) y) q g D s :=
  cf_Oc (fun k hk => ⟨rfl, pk_un (hk d hd), rfl, rfl⟩) (fun _ _ => rfl) H
theorem cf_Oq (hd : d < 4) (H : cf_O c L R f p q g D s) : cf_O c L R f p (upd q (c * 4 + d) y) g D s :=
  cf_Oc (fun k hk => ⟨rfl, rfl, pk_un (hk d hd), rfl⟩) (fun _ _ => rfl) H
theorem cf_Og (hd : d < 4) (H : cf_O c L R f p q g D s) : cf_O c L R f p q (upd g (c * 4 + d) y) D s :=
  cf_Oc (fun k hk => ⟨rfl, rfl, rfl, pk_un (hk d hd)⟩) (fun _ _ => rfl) H
theorem cf_OD (H : cf_O c L R f p q g D s) : cf_O c L R f p q g (upd D c y) s :=
  cf_Oc (fun k hk => ⟨rfl, rfl, rfl, rfl⟩) (fun _ h => pk_un h) H
theorem cf_all (hO : cf_O c L R f p q g D s) (h : cf_Co L R f p q g D x c) : ∀ c', c' < 4 → cf_Co L R f p q g D (upd s c x c') c' := by
  intro c' h4
  by_cases e : c' = c
  · subst e; rw [pk_us]; exact h
  · rw [pk_un e]; exact hO c' h4 e
/-- the frames below the one at work keep, whatever is done to it -/
theorem cf_low (hS : ∀ j, j < d → cf_S L f p q g (cf_A R) (c * 4 + j)) {f' p' q' g' : Nat → Int32} (h : ∀ k, k < c * 4 + d → cf_Eq f p q g f' p' q' g' k k) : ∀ j, j < d → cf_S L f' p' q' g' (cf_A R) (c * 4 + j) :=
  fun j hj => cf_Sc (h _ (by omega)).1 (h _ (by omega)).2.1 (h _ (by omega)).2.2.1 (h _ (by omega)).2.2.2 (hS j hj)
/-- an instruction that stays in the frame -/
theorem cf_M1 (h : cf_M c d L R f p q g D) : cf_M c d L R f (upd p (c * 4 + d) y) (upd q (c * 4 + d) y) g D :=
  ⟨h.1, h.2.1, by rw [pk_us, pk_us], cf_low h.2.2.2 (fun k hk => ⟨rfl, pk_un (by omega), pk_un (by omega), rfl⟩)⟩
/-- a return to the frame below: the place of the one that ends doesn't matter any more -/
theorem cf_M2 {i : Nat} (hd : d + 1 < 4) (hq : q (c * 4 + d) = nI (i + 1)) (hS : ∀ j, j < d → cf_S L f p q g (cf_A R) (c * 4 + j)) : cf_M c d L R f (upd p (c * 4 + d) (nI (i + 1))) q g (upd D c (nI (d + 1))) :=
  ⟨by omega, pk_us, by rw [pk_us]; exact hq, cf_low hS (fun k hk => ⟨rfl, pk_un (by omega), rfl, rfl⟩)⟩
theorem cf_M2q {i : Nat} (hd : d + 1 < 4) (hq : q (c * 4 + d) = nI (i + 1)) (hS : ∀ j, j < d → cf_S L f p q g (cf_A R) (c * 4 + j)) : cf_M c d L R f (upd p (c * 4 + d) (nI (i + 1))) (upd q (c * 4 + (d + 1)) y) g (upd D c (nI (d + 1))) :=
  ⟨by omega, pk_us, by rw [pk_us, pk_un (by omega)]; exact hq, cf_low hS (fun k hk => ⟨rfl, pk_un (by omega), pk_un (by omega), rfl⟩)⟩
/-- a call -/
theorem cf_M3 {j i l m : Nat} (hd : d + 1 < 4) (hj : j < 3) (hi : i < l) (hl : l ≤ 8) (hf : f (c * 4 + d) = nI j) (hL : L j = nI l) (hp : p (c * 4 + d) = nI i) (hS : ∀ j, j < d → cf_S L f p q g (cf_A R) (c * 4 + j)) : cf_M c (d + 1) L R (upd f (c * 4 + (d + 1)) (nI m)) (upd p (c * 4 + (d + 1)) 0) (upd (upd q (c * 4 + d) (nI (i + 1))) (c * 4 + (d + 1)) 0) (upd g (c * 4 + d) (cf_A R (j * 8 + i))) (upd D c (nI (d + 1 + 1))) := by
  refine ⟨hd, pk_us, by rw [pk_us, pk_us], fun e he => ?_⟩
  by_cases z : e = d
  · subst z
    exact ⟨j, i, l, hj, hi, hl, by rw [pk_un (by omega)]; exact hf, hL, by rw [pk_un (by omega)]; exact hp, by rw [pk_un (by omega), pk_us], by rw [pk_us]⟩
  · exact cf_Sc (pk_un (by omega)) (pk_un (by omega)) (by rw [pk_un (by omega), pk_un (by omega)]) (pk_un (by omega)) (hS e (by omega))
/-- a wait -/
theorem cf_V1 {j i l : Nat} (hj : j < 3) (hi : i < l) (hl : l ≤ 8) (hf : f (c * 4 + d) = nI j) (hL : L j = nI l) (hp : p (c * 4 + d) = nI i) (h : cf_M c d L R f p q g D) : cf_V c d L R f p (upd q (c * 4 + d) (nI (i + 1))) (upd g (c * 4 + d) (cf_B R (j * 8 + i))) D :=
  ⟨h.1, h.2.1, ⟨j, i, l, hj, hi, hl, hf, hL, hp, by rw [pk_us], by rw [pk_us]⟩, cf_low h.2.2.2 (fun k hk => ⟨rfl, rfl, pk_un (by omega), pk_un (by omega)⟩)⟩
/-- the value taken in -/
theorem cf_V2 {i : Nat} (hq : q (c * 4 + d) = nI (i + 1)) (h : cf_V c d L R f p q g D) : cf_M c d L R f (upd p (c * 4 + d) (nI (i + 1))) q g D :=
  ⟨h.1, h.2.1, by rw [pk_us]; exact hq, cf_low h.2.2.2 (fun k hk => ⟨rfl, pk_un (by omega), rfl, rfl⟩)⟩
/-- a start -/
theorem cf_M0 : cf_M c 0 L R f (upd p (c * 4 + 0) 0) (upd q (c * 4 + 0) 0) g (upd D c (nI 1)) :=
  ⟨by omega, pk_us, by rw [pk_us, pk_us], fun j hj => absurd hj (by omega)⟩
end
section
variable {L O R C s w D t f p q g r : Nat → Int32}
/-- the two objects between two calls -/
def cf_Rel (u : SX) (v : SY) : Prop :=
  ∃ L O R C s w D t f p q g r : Nat → Int32, u = (L, O, cf_A R, cf_B R, C, s, w, D, t, f, p, r) ∧ v = (L, O, R, C, s, w, t, D, f, q, g, r) ∧ cf_P L ∧ cf_Q O ∧ cf_F f ∧ ∀ c, c < 4 → cf_Co L R f p q g D (s c) c
/-- inside a run of coroutine c: still at work (b: and its place is an instruction's), or ended -/
def cf_Res (b : Bool) (c : Nat) (L O R C s w tx ty : Nat → Int32) (u : SX) (v : SY) : Prop :=
  ∃ D f p q g r : Nat → Int32, cf_F f ∧ cf_O c L R f p q g D s ∧
    ((∃ d, cf_M c d L R f p q g D ∧ (b = true → cf_N L f p (c * 4 + d)) ∧ u = (L, O, cf_A R, cf_B R, C, upd s c 5, w, D, tx, f, p, r) ∧ v = (L, O, R, C, upd s c 1, upd w c 0, ty, D, f, q, g, r)) ∨
     (∃ x z : Int32, ¬ x = 1 ∧ ¬ x = 5 ∧ cf_Co L R f p q g D x c ∧ u = (L, O, cf_A R, cf_B R, C, upd s c x, upd w c z, D, tx, f, p, r) ∧ v = (L, O, R, C, upd s c x, upd w c z, ty, D, f, q, g, r)))
end
def i_Rel (_ : Nat) (u : SX) (v : SY) : Prop := cf_Rel u v
theorem i_up {k : Nat} {u : SX} {v : SY} (h : i_Rel k u v) : i_Rel (k + 5) u v := h
