theorem pk_us {f : Nat → Int32} {k : Nat} {x : Int32} : upd f k x k = x := if_pos rfl
theorem pk_un {f : Nat → Int32} {k j : Nat} {x : Int32} (h : j ≠ k) : upd f k x j = f j := if_neg h
theorem pk_sub {a b : Nat} (h : b ≤ a) : nI a - nI b = nI (a - b) := by
  obtain ⟨c, rfl⟩ : ∃ c, a = c + b := ⟨a - b, by omega⟩
  rw [← nI_add, Int32.add_sub_cancel, Nat.add_sub_cancel]
theorem pk_m1 (n : Nat) : nI (n + 1) + (-1) = nI n := by
  rw [← nI_1, Int32.add_assoc, show (1 : Int32) + (-1) = 0 from rfl, Int32.add_zero]
theorem pk_mul (a b : Nat) : nI a * nI b = nI (a * b) := (Int32.ofNat_mul a b).symm
theorem pk_le {x y : Int32} {A B : Prop} (a b : Nat) (f : a ≤ b → A) (g : b < a → B) (hx : x = nI a := by rfl) (hy : y = nI b := by rfl) (ha : a < 2 ^ 31 := by omega) (hb : b < 2 ^ 31 := by omega) : (x ≤ y → A) ∧ (¬ x ≤ y → B) := by
  subst hx hy
  rw [nI_leI ha hb]
  exact ⟨f, fun z => g (by omega)⟩
theorem pk_lt {x y : Int32} {A B : Prop} (a b : Nat) (f : a < b → A) (g : b ≤ a → B) (hx : x = nI a := by rfl) (hy : y = nI b := by rfl) (ha : a < 2 ^ 31 := by omega) (hb : b < 2 ^ 31 := by omega) : (x < y → A) ∧ (¬ x < y → B) := by
  subst hx hy
  rw [nI_ltI ha hb]
  exact ⟨f, fun z => g (by omega)⟩
theorem pk_eq {x y : Int32} {A B : Prop} (a b : Nat) (f : a = b → A) (g : a ≠ b → B) (hx : x = nI a := by rfl) (hy : y = nI b := by rfl) (ha : a < 2 ^ 31 := by omega) (hb : b < 2 ^ 31 := by omega) : (x = y → A) ∧ (¬ x = y → B) := by
  subst hx hy
  rw [nI_eq ha hb]
  exact ⟨f, g⟩
theorem pk_in {x : Int32} (n N : Nat) (h : n < N) (hx : x = nI n := by rfl) (hN : N < 2 ^ 31 := by omega) : vp_in x N := by
  subst hx
  exact vp_in_nI h hN
theorem pk_cl {x : Int32} (n : Nat) (hx : x = nI n := by rfl) (h : n < 2 ^ 31 := by omega) : x.toNatClampNeg = n := by
  subst hx
  exact nI_clamp h
theorem pk_tn {n : Nat} (h : n < 2 ^ 32) : (nI n).toBitVec.toNat = n := Nat.mod_eq_of_lt h
theorem pk_and (x : Int32) {m : Int32} (k : Nat) (hm : m.toBitVec.toNat = 2 ^ k - 1) : x &&& m = nI (x.toBitVec.toNat % 2 ^ k) := by
  apply Int32.toBitVec_inj.mp
  apply BitVec.eq_of_toNat_eq
  rw [Int32.toBitVec_and, BitVec.toNat_and, hm, Nat.and_two_pow_sub_one_eq_mod]
  show _ = (BitVec.ofNat 32 _).toNat
  rw [BitVec.toNat_ofNat]
  exact (Nat.mod_eq_of_lt (Nat.lt_of_le_of_lt (Nat.mod_le _ _) x.toBitVec.isLt)).symm
theorem pk_andE (x : Int32) {m : Int32} (k : Nat) (hm : m.toBitVec.toNat = 2 ^ k - 1) : ∃ j : Nat, j < 2 ^ k ∧ x &&& m = nI j := ⟨_, Nat.mod_lt _ (Nat.two_pow_pos k), pk_and x k hm⟩
theorem pk_ix (x : Int32) {n : Nat} (hn : n < 2 ^ 31) : x < 0 ∨ nI n ≤ x ∨ ∃ j : Nat, j < n ∧ x = nI j := by
  by_cases h : x < 0
  · exact Or.inl h
  · obtain ⟨j, hj, rfl⟩ := nI_of h
    by_cases h2 : j < n
    · exact Or.inr (Or.inr ⟨j, h2, rfl⟩)
    · exact Or.inr (Or.inl (nI_le (by omega) hj))
theorem cf_uu {f : Nat → Int32} {k : Nat} {x y : Int32} : upd (upd f k x) k y = upd f k y := by
  funext j
  by_cases h : j = k
  · subst h; rw [pk_us, pk_us]
  · rw [pk_un h, pk_un h, pk_un h]
theorem cf_ui {f : Nat → Int32} {k : Nat} : upd f k (f k) = f := by
  funext j
  by_cases h : j = k
  · subst h; rw [pk_us]
  · rw [pk_un h]
/-- what the component keeps of an instruction's registers -/
def cf_A (R : Nat → Int32) : Nat → Int32 := fun i => R i &&& 3
def cf_B (R : Nat → Int32) : Nat → Int32 := fun i => (R i >>> ((2 : Int32) &&& 31)) &&& 3
theorem cf_Au (R : Nat → Int32) (k : Nat) (x : Int32) : cf_A (upd R k x) = upd (cf_A R) k (x &&& 3) := by
  funext j
  by_cases h : j = k
  · subst h; rw [pk_us]; show upd R j x j &&& 3 = _; rw [pk_us]
  · rw [pk_un h]; show upd R k x j &&& 3 = R j &&& 3; rw [pk_un h]
theorem cf_Bu (R : Nat → Int32) (k : Nat) (x : Int32) : cf_B (upd R k x) = upd (cf_B R) k ((x >>> ((2 : Int32) &&& 31)) &&& 3) := by
  funext j
  by_cases h : j = k
  · subst h; rw [pk_us]; show (upd R j x j >>> ((2 : Int32) &&& 31)) &&& 3 = _; rw [pk_us]
  · rw [pk_un h]; show (upd R k x j >>> ((2 : Int32) &&& 31)) &&& 3 = (R j >>> ((2 : Int32) &&& 31)) &&& 3; rw [pk_un h]
theorem cf_m3 (x : Int32) : ∃ a : Nat, a < 4 ∧ x &&& 3 = nI a := pk_andE x 2 (by decide)
theorem cf_An (R : Nat → Int32) (k : Nat) : ∃ a : Nat, a < 4 ∧ cf_A R k = nI a := cf_m3 _
theorem cf_Bn (R : Nat → Int32) (k : Nat) : ∃ a : Nat, a < 4 ∧ cf_B R k = nI a := cf_m3 _
theorem cf_fr (c d : Nat) : nI c * 4 + nI (d + 1) - 1 = nI (c * 4 + d) := by
  show nI c * nI 4 + nI (d + 1) - 1 = _
  rw [pk_mul, nI_add, ← Nat.add_assoc, nI_pred]
theorem cf_f4 (c d : Nat) : nI c * 4 + nI d = nI (c * 4 + d) := by
  show nI c * nI 4 + nI d = _
  rw [pk_mul, nI_add]
theorem cf_x4 (c : Nat) : nI c * 4 = nI (c * 4) := pk_mul c 4
theorem cf_x16 (c : Nat) : nI c * 16 = nI (c * 16) := pk_mul c 16
theorem cf_f8 (c d : Nat) : nI c * 8 + nI d = nI (c * 8 + d) := by
  show nI c * nI 8 + nI d = _
  rw [pk_mul, nI_add]
/-- the rest by three, as each side reckons it -/
theorem cf_mod (x : Int32) : ∃ j : Nat, j < 3 ∧ (x - x / 3 * 3 < 0 → x - x / 3 * 3 + 3 = nI j) ∧ (¬ x - x / 3 * 3 < 0 → x - x / 3 * 3 = nI j) ∧ (x - x / 3 * 3 + 3) - (x - x / 3 * 3 + 3) / 3 * 3 = nI j := by
  have e := rem_toInt x 3
  have t := tmod_bounds (a := x.toInt) (M := (3 : Int32).toInt) (by decide)
  rw [← e] at t
  have e3 : (3 : Int32).toInt = 3 := by decide
  rw [e3] at t
  generalize x - x / 3 * 3 = m at t ⊢
  have hm : m.toInt = -2 ∨ m.toInt = -1 ∨ m.toInt = 0 ∨ m.toInt = 1 ∨ m.toInt = 2 := by omega
  rcases hm with h | h | h | h | h
  · have e : m = -2 := Int32.toInt_inj.mp (h.trans (by decide)); subst e; exact ⟨1, by decide, fun _ => by decide, fun z => absurd (by decide) z, by decide⟩
  · have e : m = -1 := Int32.toInt_inj.mp (h.trans (by decide)); subst e; exact ⟨2, by decide, fun _ => by decide, fun z => absurd (by decide) z, by decide⟩
  · have e : m = 0 := Int32.toInt_inj.mp (h.trans (by decide)); subst e; exact ⟨0, by decide, fun z => absurd z (by decide), fun _ => by decide, by decide⟩
  · have e : m = 1 := Int32.toInt_inj.mp (h.trans (by decide)); subst e; exact ⟨1, by decide, fun z => absurd z (by decide), fun _ => by decide, by decide⟩
  · have e : m = 2 := Int32.toInt_inj.mp (h.trans (by decide)); subst e; exact ⟨2, by decide, fun z => absurd z (by decide), fun _ => by decide, by decide⟩
/-- at most eight instructions a function; a frame's function is one of three; an instruction is one of eight -/
def cf_P (L : Nat → Int32) : Prop := ∀ j, ∃ l : Nat, l ≤ 8 ∧ L j = nI l
def cf_F (f : Nat → Int32) : Prop := ∀ k, ∃ j : Nat, j < 3 ∧ f k = nI j
def cf_Q (O : Nat → Int32) : Prop := ∀ k, ∃ m : Nat, m < 8 ∧ O k = nI m
theorem cf_Pu {L : Nat → Int32} {k l : Nat} (hl : l ≤ 8) (h : cf_P L) : cf_P (upd L k (nI l)) := by
  intro j
  by_cases e : j = k
  · subst e; exact ⟨l, hl, pk_us⟩
  · rw [pk_un e]; exact h j
theorem cf_Fu {f : Nat → Int32} {k j : Nat} (hj : j < 3) (h : cf_F f) : cf_F (upd f k (nI j)) := by
  intro i
  by_cases e : i = k
  · subst e; exact ⟨j, hj, pk_us⟩
  · rw [pk_un e]; exact h i
theorem cf_Qu {O : Nat → Int32} {k m : Nat} (hm : m < 8) (h : cf_Q O) : cf_Q (upd O k (nI m)) := by
  intro i
  by_cases e : i = k
  · subst e; exact ⟨m, hm, pk_us⟩
  · rw [pk_un e]; exact h i
/-- frame k stays at instruction i of its function; the reference is one further and keeps the register -/
def cf_S (L f p q g W : Nat → Int32) (k : Nat) : Prop :=
  ∃ j i l : Nat, j < 3 ∧ i < l ∧ l ≤ 8 ∧ f k = nI j ∧ L j = nI l ∧ p k = nI i ∧ q k = nI (i + 1) ∧ g k = W (j * 8 + i)
theorem cf_Sc {L f p q g f' p' q' g' W : Nat → Int32} {k k' : Nat} (hf : f' k' = f k) (hp : p' k' = p k) (hq : q' k' = q k) (hg : g' k' = g k) (h : cf_S L f p q g W k) : cf_S L f' p' q' g' W k' := by
  obtain ⟨j, i, l, h1, h2, h3, h4, h5, h6, h7, h8⟩ := h
  exact ⟨j, i, l, h1, h2, h3, hf.trans h4, h5, hp.trans h6, hq.trans h7, hg.trans h8⟩
/-- coroutine c at work: d frames that have called, and one above them whose place both sides know alike -/
def cf_M (c d : Nat) (L R f p q g D : Nat → Int32) : Prop :=
  d < 4 ∧ D c = nI (d + 1) ∧ q (c * 4 + d) = p (c * 4 + d) ∧ ∀ j, j < d → cf_S L f p q g (cf_A R) (c * 4 + j)
/-- coroutine c that waits -/
def cf_V (c d : Nat) (L R f p q g D : Nat → Int32) : Prop :=
  d < 4 ∧ D c = nI (d + 1) ∧ cf_S L f p q g (cf_B R) (c * 4 + d) ∧ ∀ j, j < d → cf_S L f p q g (cf_A R) (c * 4 + j)
def cf_Co (L R f p q g D : Nat → Int32) (st : Int32) (c : Nat) : Prop :=
  (st = 1 → ∃ d, cf_M c d L R f p q g D) ∧ (st = 2 → ∃ d, cf_V c d L R f p q g D)
def cf_Eq (f p q g f' p' q' g' : Nat → Int32) (k k' : Nat) : Prop := f' k' = f k ∧ p' k' = p k ∧ q' k' = q k ∧ g' k' = g k
theorem cf_Coc {L R f p q g D f' p' q' g' D' : Nat → Int32} {c c' : Nat} {st : Int32} (h : ∀ d, d < 4 → cf_Eq f p q g f' p' q' g' (c * 4 + d) (c' * 4 + d)) (hD : D' c' = D c) (H : cf_Co L R f p q g D st c) : cf_Co L R f' p' q' g' D' st c' := by
  refine ⟨fun e => ?_, fun e => ?_⟩
  · obtain ⟨d, hd, h1, h2, h3⟩ := H.1 e
    refine ⟨d, hd, hD.trans h1, ?_, fun j hj => ?_⟩
    · rw [(h d hd).2.2.1, (h d hd).2.1]; exact h2
    · have z := h j (by omega)
      exact cf_Sc z.1 z.2.1 z.2.2.1 z.2.2.2 (h3 j hj)
  · obtain ⟨d, hd, h1, h2, h3⟩ := H.2 e
    refine ⟨d, hd, hD.trans h1, ?_, fun j hj => ?_⟩
    · have z := h d hd
      exact cf_Sc z.1 z.2.1 z.2.2.1 z.2.2.2 h2
    · have z := h j (by omega)
      exact cf_Sc z.1 z.2.1 z.2.2.1 z.2.2.2 (h3 j hj)
/-- neither ready nor waiting: nothing is asked -/
theorem cf_Co0 {L R f p q g D : Nat → Int32} {st : Int32} {c : Nat} (h1 : ¬ st = 1) (h2 : ¬ st = 2) : cf_Co L R f p q g D st c := ⟨fun e => absurd e h1, fun e => absurd e h2⟩
/-- all the coroutines but c -/
def cf_O (c : Nat) (L R f p q g D s : Nat → Int32) : Prop := ∀ c', c' < 4 → c' ≠ c → cf_Co L R f p q g D (s c') c'
theorem cf_Oc {c : Nat} {L R f p q g D s f' p' q' g' D' : Nat → Int32} (h : ∀ k, (∀ d, d < 4 → k ≠ c * 4 + d) → cf_Eq f p q g f' p' q' g' k k) (hD : ∀ c', c' ≠ c → D' c' = D c') (H : cf_O c L R f p q g D s) : cf_O c L R f' p' q' g' D' s :=
  fun c' h4 hc => cf_Coc (fun d hd => h _ (fun e he => by omega)) (hD c' hc) (H c' h4 hc)
/-- the place of frame k is one of its function's instructions -/
def cf_N (L f p : Nat → Int32) (k : Nat) : Prop := ∃ j i l : Nat, j < 3 ∧ i < l ∧ l ≤ 8 ∧ f k = nI j ∧ L j = nI l ∧ p k = nI i
theorem cf_Ni {L f p : Nat → Int32} (hP : cf_P L) (hF : cf_F f) (k : Nat) : ∃ j l : Nat, j < 3 ∧ l ≤ 8 ∧ f k = nI j ∧ L j = nI l ∧ (p k < 0 ∨ nI l ≤ p k ∨ ∃ i, i < l ∧ p k = nI i) := by
  obtain ⟨j, hj, e⟩ := hF k
  obtain ⟨l, hl, el⟩ := hP j
  exact ⟨j, l, hj, hl, e, el, pk_ix (p k) (by omega)⟩
/-- the first n cells from F on, copied to T -/
def cf_cp (a : Nat → Int32) (F T n : Nat) : Nat → Int32 := fun k => if T ≤ k ∧ k < T + n then a (k - T + F) else a k
theorem cf_cp0 (a : Nat → Int32) (F T : Nat) : cf_cp a F T 0 = a := by
  funext k
  exact if_neg (by omega)
theorem cf_cpv {a : Nat → Int32} {F T n i : Nat} (hi : i < n) (h : F = T ∨ F + n ≤ T ∨ T + n ≤ F) : cf_cp a F T i (F + i) = a (F + i) := if_neg (by omega)
theorem cf_cps {a : Nat → Int32} {F T n i : Nat} (hi : i < n) (h : F = T ∨ F + n ≤ T ∨ T + n ≤ F) : upd (cf_cp a F T i) (T + i) (cf_cp a F T i (F + i)) = cf_cp a F T (i + 1) := by
  rw [cf_cpv hi h]
  funext k
  by_cases e : k = T + i
  · subst e
    rw [pk_us]
    show _ = if T ≤ T + i ∧ T + i < T + (i + 1) then a (T + i - T + F) else _
    rw [if_pos (by omega), show T + i - T + F = F + i by omega]
  · rw [pk_un e]
    show (if T ≤ k ∧ k < T + i then a (k - T + F) else a k) = if T ≤ k ∧ k < T + (i + 1) then a (k - T + F) else a k
    by_cases z : T ≤ k ∧ k < T + i
    · rw [if_pos z, if_pos (by omega)]
    · rw [if_neg z, if_neg (by omega)]
theorem cf_cpi {a : Nat → Int32} {F T n d : Nat} (h : d < n) : cf_cp a F T n (T + d) = a (F + d) := by
  show (if T ≤ T + d ∧ T + d < T + n then a (T + d - T + F) else _) = _
  rw [if_pos (by omega), show T + d - T + F = F + d by omega]
theorem cf_cpo {a : Nat → Int32} {F T n k : Nat} (h : ∀ d, d < n → k ≠ T + d) : cf_cp a F T n k = a k := by
  refine if_neg (fun z => ?_)
  exact h (k - T) (by omega) (by omega)
theorem cf_cpF {f : Nat → Int32} {F T n : Nat} (h : cf_F f) : cf_F (cf_cp f F T n) := by
  intro k
  by_cases z : T ≤ k ∧ k < T + n
  · rw [show cf_cp f F T n k = f (k - T + F) from if_pos z]; exact h _
  · rw [show cf_cp f F T n k = f k from if_neg z]; exact h _
theorem cl_le1 {i : Nat} (h : i < 2 ^ 31) : ((1 : Int32) ≤ nI i) ↔ 1 ≤ i := nI_leI (a := 1) (by decide) h
theorem cl_ge1 {i : Nat} (h : i < 2 ^ 31) : (nI i ≤ (1 : Int32)) ↔ i ≤ 1 := nI_leI (b := 1) h (by decide)
theorem cl_lt1 {i : Nat} (h : i < 2 ^ 31) : ((1 : Int32) < nI i) ↔ 1 < i := nI_ltI (a := 1) (by decide) h
theorem cl_gt1 {i : Nat} (h : i < 2 ^ 31) : (nI i < (1 : Int32)) ↔ i < 1 := nI_ltI (b := 1) h (by decide)
theorem cl_le2 {i : Nat} (h : i < 2 ^ 31) : ((2 : Int32) ≤ nI i) ↔ 2 ≤ i := nI_leI (a := 2) (by decide) h
theorem cl_ge2 {i : Nat} (h : i < 2 ^ 31) : (nI i ≤ (2 : Int32)) ↔ i ≤ 2 := nI_leI (b := 2) h (by decide)
theorem cl_lt2 {i : Nat} (h : i < 2 ^ 31) : ((2 : Int32) < nI i) ↔ 2 < i := nI_ltI (a := 2) (by decide) h
theorem cl_gt2 {i : Nat} (h : i < 2 ^ 31) : (nI i < (2 : Int32)) ↔ i < 2 := nI_ltI (b := 2) h (by decide)
theorem cl_le3 {i : Nat} (h : i < 2 ^ 31) : ((3 : Int32) ≤ nI i) ↔ 3 ≤ i := nI_leI (a := 3) (by decide) h
theorem cl_ge3 {i : Nat} (h : i < 2 ^ 31) : (nI i ≤ (3 : Int32)) ↔ i ≤ 3 := nI_leI (b := 3) h (by decide)
theorem cl_lt3 {i : Nat} (h : i < 2 ^ 31) : ((3 : Int32) < nI i) ↔ 3 < i := nI_ltI (a := 3) (by decide) h
theorem cl_gt3 {i : Nat} (h : i < 2 ^ 31) : (nI i < (3 : Int32)) ↔ i < 3 := nI_ltI (b := 3) h (by decide)
theorem cl_le4 {i : Nat} (h : i < 2 ^ 31) : ((4 : Int32) ≤ nI i) ↔ 4 ≤ i := nI_leI (a := 4) (by decide) h
theorem cl_ge4 {i : Nat} (h : i < 2 ^ 31) : (nI i ≤ (4 : Int32)) ↔ i ≤ 4 := nI_leI (b := 4) h (by decide)
theorem cl_lt4 {i : Nat} (h : i < 2 ^ 31) : ((4 : Int32) < nI i) ↔ 4 < i := nI_ltI (a := 4) (by decide) h
theorem cl_gt4 {i : Nat} (h : i < 2 ^ 31) : (nI i < (4 : Int32)) ↔ i < 4 := nI_ltI (b := 4) h (by decide)
theorem cl_le6 {i : Nat} (h : i < 2 ^ 31) : ((6 : Int32) ≤ nI i) ↔ 6 ≤ i := nI_leI (a := 6) (by decide) h
theorem cl_ge6 {i : Nat} (h : i < 2 ^ 31) : (nI i ≤ (6 : Int32)) ↔ i ≤ 6 := nI_leI (b := 6) h (by decide)
theorem cl_lt6 {i : Nat} (h : i < 2 ^ 31) : ((6 : Int32) < nI i) ↔ 6 < i := nI_ltI (a := 6) (by decide) h
theorem cl_gt6 {i : Nat} (h : i < 2 ^ 31) : (nI i < (6 : Int32)) ↔ i < 6 := nI_ltI (b := 6) h (by decide)
theorem cl_le7 {i : Nat} (h : i < 2 ^ 31) : ((7 : Int32) ≤ nI i) ↔ 7 ≤ i := nI_leI (a := 7) (by decide) h
theorem cl_ge7 {i : Nat} (h : i < 2 ^ 31) : (nI i ≤ (7 : Int32)) ↔ i ≤ 7 := nI_leI (b := 7) h (by decide)
theorem cl_lt7 {i : Nat} (h : i < 2 ^ 31) : ((7 : Int32) < nI i) ↔ 7 < i := nI_ltI (a := 7) (by decide) h
theorem cl_gt7 {i : Nat} (h : i < 2 ^ 31) : (nI i < (7 : Int32)) ↔ i < 7 := nI_ltI (b := 7) h (by decide)
theorem cl_le8 {i : Nat} (h : i < 2 ^ 31) : ((8 : Int32) ≤ nI i) ↔ 8 ≤ i := nI_leI (a := 8) (by decide) h
theorem cl_ge8 {i : Nat} (h : i < 2 ^ 31) : (nI i ≤ (8 : Int32)) ↔ i ≤ 8 := nI_leI (b := 8) h (by decide)
theorem cl_lt8 {i : Nat} (h : i < 2 ^ 31) : ((8 : Int32) < nI i) ↔ 8 < i := nI_ltI (a := 8) (by decide) h
theorem cl_gt8 {i : Nat} (h : i < 2 ^ 31) : (nI i < (8 : Int32)) ↔ i < 8 := nI_ltI (b := 8) h (by decide)
theorem cl_le16 {i : Nat} (h : i < 2 ^ 31) : ((16 : Int32) ≤ nI i) ↔ 16 ≤ i := nI_leI (a := 16) (by decide) h
theorem cl_ge16 {i : Nat} (h : i < 2 ^ 31) : (nI i ≤ (16 : Int32)) ↔ i ≤ 16 := nI_leI (b := 16) h (by decide)
theorem cl_lt16 {i : Nat} (h : i < 2 ^ 31) : ((16 : Int32) < nI i) ↔ 16 < i := nI_ltI (a := 16) (by decide) h
theorem cl_gt16 {i : Nat} (h : i < 2 ^ 31) : (nI i < (16 : Int32)) ↔ i < 16 := nI_ltI (b := 16) h (by decide)
theorem cl_le20 {i : Nat} (h : i < 2 ^ 31) : ((20 : Int32) ≤ nI i) ↔ 20 ≤ i := nI_leI (a := 20) (by decide) h
theorem cl_ge20 {i : Nat} (h : i < 2 ^ 31) : (nI i ≤ (20 : Int32)) ↔ i ≤ 20 := nI_leI (b := 20) h (by decide)
theorem cl_lt20 {i : Nat} (h : i < 2 ^ 31) : ((20 : Int32) < nI i) ↔ 20 < i := nI_ltI (a := 20) (by decide) h
theorem cl_gt20 {i : Nat} (h : i < 2 ^ 31) : (nI i < (20 : Int32)) ↔ i < 20 := nI_ltI (b := 20) h (by decide)
theorem cl_le80 {i : Nat} (h : i < 2 ^ 31) : ((80 : Int32) ≤ nI i) ↔ 80 ≤ i := nI_leI (a := 80) (by decide) h
theorem cl_ge80 {i : Nat} (h : i < 2 ^ 31) : (nI i ≤ (80 : Int32)) ↔ i ≤ 80 := nI_leI (b := 80) h (by decide)
theorem cl_lt80 {i : Nat} (h : i < 2 ^ 31) : ((80 : Int32) < nI i) ↔ 80 < i := nI_ltI (a := 80) (by decide) h
theorem cl_gt80 {i : Nat} (h : i < 2 ^ 31) : (nI i < (80 : Int32)) ↔ i < 80 := nI_ltI (b := 80) h (by decide)
theorem cl_n0 {i : Nat} (h : i < 2 ^ 31) : (nI i < (0 : Int32)) ↔ False := ⟨fun z => nI_pos h z, fun z => z.elim⟩
theorem cl_p0 {i : Nat} (h : i < 2 ^ 31) : ((0 : Int32) ≤ nI i) ↔ True := ⟨fun _ => trivial, fun _ => nI_pos' h⟩
theorem cf_x8 (c : Nat) : nI c * 8 = nI (c * 8) := pk_mul c 8
theorem cf_fs (a d : Nat) : nI (a + (d + 1)) - 1 = nI (a + d) := nI_pred (a + d)
theorem cf_p2 (a : Nat) : nI a + 2 = nI (a + 2) := nI_add a 2
theorem cf_p3 (a : Nat) : nI a + 3 = nI (a + 3) := nI_add a 3
