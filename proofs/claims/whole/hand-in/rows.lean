section
theorem pk_us {f : Nat → Int32} {k : Nat} {x : Int32} : upd f k x k = x := if_pos rfl
theorem pk_un {f : Nat → Int32} {k j : Nat} {x : Int32} (h : j ≠ k) : upd f k x j = f j := if_neg h
theorem pk_sub {a b : Nat} (h : b ≤ a) : nI a - nI b = nI (a - b) := by
  obtain ⟨c, rfl⟩ : ∃ c, a = c + b := ⟨a - b, by omega⟩
  rw [← nI_add, Int32.add_sub_cancel, Nat.add_sub_cancel]
theorem pk_m1 (n : Nat) : nI (n + 1) + (-1) = nI n := by
  rw [← nI_1, Int32.add_assoc, show (1 : Int32) + (-1) = 0 from rfl, Int32.add_zero]
theorem pk_mul (a b : Nat) : nI a * nI b = nI (a * b) := (Int32.ofNat_mul a b).symm
theorem pk_le {x y : Int32} {A B : Prop} (a b : Nat) (f : a ≤ b → A) (g : b < a → B) (hx : x = nI a := by rfl) (hy : y = nI b := by rfl) (ha : a < 2 ^ 31 := by omega) (hb : b < 2 ^ 31 := by omega) : (x ≤ y → A) ∧ (¬ x ≤ y → B) := by
  subst hx hy
  rw [nI_leI ha hb]
  exact ⟨f, fun z => g (by omega)⟩
theorem pk_lt {x y : Int32} {A B : Prop} (a b : Nat) (f : a < b → A) (g : b ≤ a → B) (hx : x = nI a := by rfl) (hy : y = nI b := by rfl) (ha : a < 2 ^ 31 := by omega) (hb : b < 2 ^ 31 := by omega) : (x < y → A) ∧ (¬ x < y → B) := by
  subst hx hy
  rw [nI_ltI ha hb]
  exact ⟨f, fun z => g (by omega)⟩
theorem pk_eq {x y : Int32} {A B : Prop} (a b : Nat) (f : a = b → A) (g : a ≠ b → B) (hx : x = nI a := by rfl) (hy : y = nI b := by rfl) (ha : a < 2 ^ 31 := by omega) (hb : b < 2 ^ 31 := by omega) : (x = y → A) ∧ (¬ x = y → B) := by
  subst hx hy
  rw [nI_eq ha hb]
  exact ⟨f, g⟩
theorem pk_in {x : Int32} (n N : Nat) (h : n < N) (hx : x = nI n := by rfl) (hN : N < 2 ^ 31 := by omega) : vp_in x N := by
  subst hx
  exact vp_in_nI h hN
theorem pk_cl {x : Int32} (n : Nat) (hx : x = nI n := by rfl) (h : n < 2 ^ 31 := by omega) : x.toNatClampNeg = n := by
  subst hx
  exact nI_clamp h
theorem pk_tn {n : Nat} (h : n < 2 ^ 32) : (nI n).toBitVec.toNat = n := Nat.mod_eq_of_lt h
theorem pk_and (x : Int32) {m : Int32} (k : Nat) (hm : m.toBitVec.toNat = 2 ^ k - 1) : x &&& m = nI (x.toBitVec.toNat % 2 ^ k) := by
  apply Int32.toBitVec_inj.mp
  apply BitVec.eq_of_toNat_eq
  rw [Int32.toBitVec_and, BitVec.toNat_and, hm, Nat.and_two_pow_sub_one_eq_mod]
  show _ = (BitVec.ofNat 32 _).toNat
  rw [BitVec.toNat_ofNat]
  exact (Nat.mod_eq_of_lt (Nat.lt_of_le_of_lt (Nat.mod_le _ _) x.toBitVec.isLt)).symm
theorem pk_andE (x : Int32) {m : Int32} (k : Nat) (hm : m.toBitVec.toNat = 2 ^ k - 1) : ∃ j : Nat, j < 2 ^ k ∧ x &&& m = nI j := ⟨_, Nat.mod_lt _ (Nat.two_pow_pos k), pk_and x k hm⟩
theorem pk_ix (x : Int32) {n : Nat} (hn : n < 2 ^ 31) : x < 0 ∨ nI n ≤ x ∨ ∃ j : Nat, j < n ∧ x = nI j := by
  by_cases h : x < 0
  · exact Or.inl h
  · obtain ⟨j, hj, rfl⟩ := nI_of h
    by_cases h2 : j < n
    · exact Or.inr (Or.inr ⟨j, h2, rfl⟩)
    · exact Or.inr (Or.inl (nI_le (by omega) hj))
theorem cf_uu {f : Nat → Int32} {k : Nat} {x y : Int32} : upd (upd f k x) k y = upd f k y := by
  funext j
  by_cases h : j = k
  · subst h; rw [pk_us, pk_us]
  · rw [pk_un h, pk_un h, pk_un h]
theorem cf_ui {f : Nat → Int32} {k : Nat} : upd f k (f k) = f := by
  funext j
  by_cases h : j = k
  · subst h; rw [pk_us]
  · rw [pk_un h]
/-- what the component keeps of an instruction's registers -/
def cf_A (R : Nat → Int32) : Nat → Int32 := fun i => R i &&& 3
def cf_B (R : Nat → Int32) : Nat → Int32 := fun i => (R i >>> ((2 : Int32) &&& 31)) &&& 3
theorem cf_Au (R : Nat → Int32) (k : Nat) (x : Int32) : cf_A (upd R k x) = upd (cf_A R) k (x &&& 3) := by
  funext j
  by_cases h : j = k
  · subst h; rw [pk_us]; show upd R j x j &&& 3 = _; rw [pk_us]
  · rw [pk_un h]; show upd R k x j &&& 3 = R j &&& 3; rw [pk_un h]
theorem cf_Bu (R : Nat → Int32) (k : Nat) (x : Int32) : cf_B (upd R k x) = upd (cf_B R) k ((x >>> ((2 : Int32) &&& 31)) &&& 3) := by
  funext j
  by_cases h : j = k
  · subst h; rw [pk_us]; show (upd R j x j >>> ((2 : Int32) &&& 31)) &&& 3 = _; rw [pk_us]
  · rw [pk_un h]; show (upd R k x j >>> ((2 : Int32) &&& 31)) &&& 3 = (R j >>> ((2 : Int32) &&& 31)) &&& 3; rw [pk_un h]
theorem cf_m3 (x : Int32) : ∃ a : Nat, a < 4 ∧ x &&& 3 = nI a := pk_andE x 2 (by decide)
theorem cf_An (R : Nat → Int32) (k : Nat) : ∃ a : Nat, a < 4 ∧ cf_A R k = nI a := cf_m3 _
theorem cf_Bn (R : Nat → Int32) (k : Nat) : ∃ a : Nat, a < 4 ∧ cf_B R k = nI a := cf_m3 _
theorem cf_fr (c d : Nat) : nI c * 4 + nI (d + 1) - 1 = nI (c * 4 + d) := by
  show nI c * nI 4 + nI (d + 1) - 1 = _
  rw [pk_mul, nI_add, ← Nat.add_assoc, nI_pred]
theorem cf_f4 (c d : Nat) : nI c * 4 + nI d = nI (c * 4 + d) := by
  show nI c * nI 4 + nI d = _
  rw [pk_mul, nI_add]
theorem cf_x4 (c : Nat) : nI c * 4 = nI (c * 4) := pk_mul c 4
theorem cf_x16 (c : Nat) : nI c * 16 = nI (c * 16) := pk_mul c 16
theorem cf_f8 (c d : Nat) : nI c * 8 + nI d = nI (c * 8 + d) := by
  show nI c * nI 8 + nI d = _
  rw [pk_mul, nI_add]
/-- the rest by three, as each side reckons it -/
theorem cf_mod (x : Int32) : ∃ j : Nat, j < 3 ∧ (x - x / 3 * 3 < 0 → x - x / 3 * 3 + 3 = nI j) ∧ (¬ x - x / 3 * 3 < 0 → x - x / 3 * 3 = nI j) ∧ (x - x / 3 * 3 + 3) - (x - x / 3 * 3 + 3) / 3 * 3 = nI j := by
  have e := rem_toInt x 3
  have t := tmod_bounds (a := x.toInt) (M := (3 : Int32).toInt) (by decide)
  rw [← e] at t
  have e3 : (3 : Int32).toInt = 3 := by decide
  rw [e3] at t
  generalize x - x / 3 * 3 = m at t ⊢
  have hm : m.toInt = -2 ∨ m.toInt = -1 ∨ m.toInt = 0 ∨ m.toInt = 1 ∨ m.toInt = 2 := by omega
  rcases hm with h | h | h | h | h
  · have e : m = -2 := Int32.toInt_inj.mp (h.trans (by decide)); subst e; exact ⟨1, by decide, fun _ => by decide, fun z => absurd (by decide) z, by decide⟩
  · have e : m = -1 := Int32.toInt_inj.mp (h.trans (by decide)); subst e; exact ⟨2, by decide, fun _ => by decide, fun z => absurd (by decide) z, by decide⟩
  · have e : m = 0 := Int32.toInt_inj.mp (h.trans (by decide)); subst e; exact ⟨0, by decide, fun z => absurd z (by decide), fun _ => by decide, by decide⟩
  · have e : m = 1 := Int32.toInt_inj.mp (h.trans (by decide)); subst e; exact ⟨1, by decide, fun z => absurd z (by decide), fun _ => by decide, by decide⟩
  · have e : m = 2 := Int32.toInt_inj.mp (h.trans (by decide)); subst e; exact ⟨2, by decide, fun z => absurd z (by decide), fun _ => by decide, by decide⟩
/-- at most eight instructions a function; a frame's function is one of three; an instruction is one of eight -/
def cf_P (L : Nat → Int32) : Prop := ∀ j, ∃ l : Nat, l ≤ 8 ∧ L j = nI l
def cf_F (f : Nat → Int32) : Prop := ∀ k, ∃ j : Nat, j < 3 ∧ f k = nI j
def cf_Q (O : Nat → Int32) : Prop := ∀ k, ∃ m : Nat, m < 8 ∧ O k = nI m
theorem cf_Pu {L : Nat → Int32} {k l : Nat} (hl : l ≤ 8) (h : cf_P L) : cf_P (upd L k (nI l)) := by
  intro j
  by_cases e : j = k
  · subst e; exact ⟨l, hl, pk_us⟩
  · rw [pk_un e]; exact h j
theorem cf_Fu {f : Nat → Int32} {k j : Nat} (hj : j < 3) (h : cf_F f) : cf_F (upd f k (nI j)) := by
  intro i
  by_cases e : i = k
  · subst e; exact ⟨j, hj, pk_us⟩
  · rw [pk_un e]; exact h i
theorem cf_Qu {O : Nat → Int32} {k m : Nat} (hm : m < 8) (h : cf_Q O) : cf_Q (upd O k (nI m)) := by
  intro i
  by_cases e : i = k
  · subst e; exact ⟨m, hm, pk_us⟩
  · rw [pk_un e]; exact h i
/-- frame k stays at instruction i of its function; the reference is one further and keeps the register -/
def cf_S (L f p q g W : Nat → Int32) (k : Nat) : Prop :=
  ∃ j i l : Nat, j < 3 ∧ i < l ∧ l ≤ 8 ∧ f k = nI j ∧ L j = nI l ∧ p k = nI i ∧ q k = nI (i + 1) ∧ g k = W (j * 8 + i)
theorem cf_Sc {L f p q g f' p' q' g' W : Nat → Int32} {k k' : Nat} (hf : f' k' = f k) (hp : p' k' = p k) (hq : q' k' = q k) (hg : g' k' = g k) (h : cf_S L f p q g W k) : cf_S L f' p' q' g' W k' := by
  obtain ⟨j, i, l, h1, h2, h3, h4, h5, h6, h7, h8⟩ := h
  exact ⟨j, i, l, h1, h2, h3, hf.trans h4, h5, hp.trans h6, hq.trans h7, hg.trans h8⟩
/-- coroutine c at work: d frames that have called, and one above them whose place both sides know alike -/
def cf_M (c d : Nat) (L R f p q g D : Nat → Int32) : Prop :=
  d < 4 ∧ D c = nI (d + 1) ∧ q (c * 4 + d) = p (c * 4 + d) ∧ ∀ j, j < d → cf_S L f p q g (cf_A R) (c * 4 + j)
/-- coroutine c that waits -/
def cf_V (c d : Nat) (L R f p q g D : Nat → Int32) : Prop :=
  d < 4 ∧ D c = nI (d + 1) ∧ cf_S L f p q g (cf_B R) (c * 4 + d) ∧ ∀ j, j < d → cf_S L f p q g (cf_A R) (c * 4 + j)
def cf_Co (L R f p q g D : Nat → Int32) (st : Int32) (c : Nat) : Prop :=
  (st = 1 → ∃ d, cf_M c d L R f p q g D) ∧ (st = 2 → ∃ d, cf_V c d L R f p q g D)
def cf_Eq (f p q g f' p' q' g' : Nat → Int32) (k k' : Nat) : Prop := f' k' = f k ∧ p' k' = p k ∧ q' k' = q k ∧ g' k' = g k
theorem cf_Coc {L R f p q g D f' p' q' g' D' : Nat → Int32} {c c' : Nat} {st : Int32} (h : ∀ d, d < 4 → cf_Eq f p q g f' p' q' g' (c * 4 + d) (c' * 4 + d)) (hD : D' c' = D c) (H : cf_Co L R f p q g D st c) : cf_Co L R f' p' q' g' D' st c' := by
  refine ⟨fun e => ?_, fun e => ?_⟩
  · obtain ⟨d, hd, h1, h2, h3⟩ := H.1 e
    refine ⟨d, hd, hD.trans h1, ?_, fun j hj => ?_⟩
    · rw [(h d hd).2.2.1, (h d hd).2.1]; exact h2
    · have z := h j (by omega)
      exact cf_Sc z.1 z.2.1 z.2.2.1 z.2.2.2 (h3 j hj)
  · obtain ⟨d, hd, h1, h2, h3⟩ := H.2 e
    refine ⟨d, hd, hD.trans h1, ?_, fun j hj => ?_⟩
    · have z := h d hd
      exact cf_Sc z.1 z.2.1 z.2.2.1 z.2.2.2 h2
    · have z := h j (by omega)
      exact cf_Sc z.1 z.2.1 z.2.2.1 z.2.2.2 (h3 j hj)
/-- neither ready nor waiting: nothing is asked -/
theorem cf_Co0 {L R f p q g D : Nat → Int32} {st : Int32} {c : Nat} (h1 : ¬ st = 1) (h2 : ¬ st = 2) : cf_Co L R f p q g D st c := ⟨fun e => absurd e h1, fun e => absurd e h2⟩
/-- all the coroutines but c -/
def cf_O (c : Nat) (L R f p q g D s : Nat → Int32) : Prop := ∀ c', c' < 4 → c' ≠ c → cf_Co L R f p q g D (s c') c'
theorem cf_Oc {c : Nat} {L R f p q g D s f' p' q' g' D' : Nat → Int32} (h : ∀ k, (∀ d, d < 4 → k ≠ c * 4 + d) → cf_Eq f p q g f' p' q' g' k k) (hD : ∀ c', c' ≠ c → D' c' = D c') (H : cf_O c L R f p q g D s) : cf_O c L R f' p' q' g' D' s :=
  fun c' h4 hc => cf_Coc (fun d hd => h _ (fun e he => by omega)) (hD c' hc) (H c' h4 hc)
/-- the place of frame k is one of its function's instructions -/
def cf_N (L f p : Nat → Int32) (k : Nat) : Prop := ∃ j i l : Nat, j < 3 ∧ i < l ∧ l ≤ 8 ∧ f k = nI j ∧ L j = nI l ∧ p k = nI i
theorem cf_Ni {L f p : Nat → Int32} (hP : cf_P L) (hF : cf_F f) (k : Nat) : ∃ j l : Nat, j < 3 ∧ l ≤ 8 ∧ f k = nI j ∧ L j = nI l ∧ (p k < 0 ∨ nI l ≤ p k ∨ ∃ i, i < l ∧ p k = nI i) := by
  obtain ⟨j, hj, e⟩ := hF k
  obtain ⟨l, hl, el⟩ := hP j
  exact ⟨j, l, hj, hl, e, el, pk_ix (p k) (by omega)⟩
/-- the first n cells from F on, copied to T -/
def cf_cp (a : Nat → Int32) (F T n : Nat) : Nat → Int32 := fun k => if T ≤ k ∧ k < T + n then a (k - T + F) else a k
theorem cf_cp0 (a : Nat → Int32) (F T : Nat) : cf_cp a F T 0 = a := by
  funext k
  exact if_neg (by omega)
theorem cf_cpv {a : Nat → Int32} {F T n i : Nat} (hi : i < n) (h : F = T ∨ F + n ≤ T ∨ T + n ≤ F) : cf_cp a F T i (F + i) = a (F + i) := if_neg (by omega)
theorem cf_cps {a : Nat → Int32} {F T n i : Nat} (hi : i < n) (h : F = T ∨ F + n ≤ T ∨ T + n ≤ F) : upd (cf_cp a F T i) (T + i) (cf_cp a F T i (F + i)) = cf_cp a F T (i + 1) := by
  rw [cf_cpv hi h]
  funext k
  by_cases e : k = T + i
  · subst e
    rw [pk_us]
    show _ = if T ≤ T + i ∧ T + i < T + (i + 1) then a (T + i - T + F) else _
    rw [if_pos (by omega), show T + i - T + F = F + i by omega]
  · rw [pk_un e]
    show (if T ≤ k ∧ k < T + i then a (k - T + F) else a k) = if T ≤ k ∧ k < T + (i + 1) then a (k - T + F) else a k
    by_cases z : T ≤ k ∧ k < T + i
    · rw [if_pos z, if_pos (by omega)]
    · rw [if_neg z, if_neg (by omega)]
theorem cf_cpi {a : Nat → Int32} {F T n d : Nat} (h : d < n) : cf_cp a F T n (T + d) = a (F + d) := by
  show (if T ≤ T + d ∧ T + d < T + n then a (T + d - T + F) else _) = _
  rw [if_pos (by omega), show T + d - T + F = F + d by omega]
theorem cf_cpo {a : Nat → Int32} {F T n k : Nat} (h : ∀ d, d < n → k ≠ T + d) : cf_cp a F T n k = a k := by
  refine if_neg (fun z => ?_)
  exact h (k - T) (by omega) (by omega)
theorem cf_cpF {f : Nat → Int32} {F T n : Nat} (h : cf_F f) : cf_F (cf_cp f F T n) := by
  intro k
  by_cases z : T ≤ k ∧ k < T + n
  · rw [show cf_cp f F T n k = f (k - T + F) from if_pos z]; exact h _
  · rw [show cf_cp f F T n k = f k from if_neg z]; exact h _
theorem cl_le1 {i : Nat} (h : i < 2 ^ 31) : ((1 : Int32) ≤ nI i) ↔ 1 ≤ i := nI_leI (a := 1) (by decide) h
theorem cl_ge1 {i : Nat} (h : i < 2 ^ 31) : (nI i ≤ (1 : Int32)) ↔ i ≤ 1 := nI_leI (b := 1) h (by decide)
theorem cl_lt1 {i : Nat} (h : i < 2 ^ 31) : ((1 : Int32) < nI i) ↔ 1 < i := nI_ltI (a := 1) (by decide) h
theorem cl_gt1 {i : Nat} (h : i < 2 ^ 31) : (nI i < (1 : Int32)) ↔ i < 1 := nI_ltI (b := 1) h (by decide)
theorem cl_le2 {i : Nat} (h : i < 2 ^ 31) : ((2 : Int32) ≤ nI i) ↔ 2 ≤ i := nI_leI (a := 2) (by decide) h
theorem cl_ge2 {i : Nat} (h : i < 2 ^ 31) : (nI i ≤ (2 : Int32)) ↔ i ≤ 2 := nI_leI (b := 2) h (by decide)
theorem cl_lt2 {i : Nat} (h : i < 2 ^ 31) : ((2 : Int32) < nI i) ↔ 2 < i := nI_ltI (a := 2) (by decide) h
theorem cl_gt2 {i : Nat} (h : i < 2 ^ 31) : (nI i < (2 : Int32)) ↔ i < 2 := nI_ltI (b := 2) h (by decide)
theorem cl_le3 {i : Nat} (h : i < 2 ^ 31) : ((3 : Int32) ≤ nI i) ↔ 3 ≤ i := nI_leI (a := 3) (by decide) h
theorem cl_ge3 {i : Nat} (h : i < 2 ^ 31) : (nI i ≤ (3 : Int32)) ↔ i ≤ 3 := nI_leI (b := 3) h (by decide)
theorem cl_lt3 {i : Nat} (h : i < 2 ^ 31) : ((3 : Int32) < nI i) ↔ 3 < i := nI_ltI (a := 3) (by decide) h
theorem cl_gt3 {i : Nat} (h : i < 2 ^ 31) : (nI i < (3 : Int32)) ↔ i < 3 := nI_ltI (b := 3) h (by decide)
theorem cl_le4 {i : Nat} (h : i < 2 ^ 31) : ((4 : Int32) ≤ nI i) ↔ 4 ≤ i := nI_leI (a := 4) (by decide) h
theorem cl_ge4 {i : Nat} (h : i < 2 ^ 31) : (nI i ≤ (4 : Int32)) ↔ i ≤ 4 := nI_leI (b := 4) h (by decide)
theorem cl_lt4 {i : Nat} (h : i < 2 ^ 31) : ((4 : Int32) < nI i) ↔ 4 < i := nI_ltI (a := 4) (by decide) h
theorem cl_gt4 {i : Nat} (h : i < 2 ^ 31) : (nI i < (4 : Int32)) ↔ i < 4 := nI_ltI (b := 4) h (by decide)
theorem cl_le6 {i : Nat} (h : i < 2 ^ 31) : ((6 : Int32) ≤ nI i) ↔ 6 ≤ i := nI_leI (a := 6) (by decide) h
theorem cl_ge6 {i : Nat} (h : i < 2 ^ 31) : (nI i ≤ (6 : Int32)) ↔ i ≤ 6 := nI_leI (b := 6) h (by decide)
theorem cl_lt6 {i : Nat} (h : i < 2 ^ 31) : ((6 : Int32) < nI i) ↔ 6 < i := nI_ltI (a := 6) (by decide) h
theorem cl_gt6 {i : Nat} (h : i < 2 ^ 31) : (nI i < (6 : Int32)) ↔ i < 6 := nI_ltI (b := 6) h (by decide)
theorem cl_le7 {i : Nat} (h : i < 2 ^ 31) : ((7 : Int32) ≤ nI i) ↔ 7 ≤ i := nI_leI (a := 7) (by decide) h
theorem cl_ge7 {i : Nat} (h : i < 2 ^ 31) : (nI i ≤ (7 : Int32)) ↔ i ≤ 7 := nI_leI (b := 7) h (by decide)
theorem cl_lt7 {i : Nat} (h : i < 2 ^ 31) : ((7 : Int32) < nI i) ↔ 7 < i := nI_ltI (a := 7) (by decide) h
theorem cl_gt7 {i : Nat} (h : i < 2 ^ 31) : (nI i < (7 : Int32)) ↔ i < 7 := nI_ltI (b := 7) h (by decide)
theorem cl_le8 {i : Nat} (h : i < 2 ^ 31) : ((8 : Int32) ≤ nI i) ↔ 8 ≤ i := nI_leI (a := 8) (by decide) h
theorem cl_ge8 {i : Nat} (h : i < 2 ^ 31) : (nI i ≤ (8 : Int32)) ↔ i ≤ 8 := nI_leI (b := 8) h (by decide)
theorem cl_lt8 {i : Nat} (h : i < 2 ^ 31) : ((8 : Int32) < nI i) ↔ 8 < i := nI_ltI (a := 8) (by decide) h
theorem cl_gt8 {i : Nat} (h : i < 2 ^ 31) : (nI i < (8 : Int32)) ↔ i < 8 := nI_ltI (b := 8) h (by decide)
theorem cl_le16 {i : Nat} (h : i < 2 ^ 31) : ((16 : Int32) ≤ nI i) ↔ 16 ≤ i := nI_leI (a := 16) (by decide) h
theorem cl_ge16 {i : Nat} (h : i < 2 ^ 31) : (nI i ≤ (16 : Int32)) ↔ i ≤ 16 := nI_leI (b := 16) h (by decide)
theorem cl_lt16 {i : Nat} (h : i < 2 ^ 31) : ((16 : Int32) < nI i) ↔ 16 < i := nI_ltI (a := 16) (by decide) h
theorem cl_gt16 {i : Nat} (h : i < 2 ^ 31) : (nI i < (16 : Int32)) ↔ i < 16 := nI_ltI (b := 16) h (by decide)
theorem cl_le20 {i : Nat} (h : i < 2 ^ 31) : ((20 : Int32) ≤ nI i) ↔ 20 ≤ i := nI_leI (a := 20) (by decide) h
theorem cl_ge20 {i : Nat} (h : i < 2 ^ 31) : (nI i ≤ (20 : Int32)) ↔ i ≤ 20 := nI_leI (b := 20) h (by decide)
theorem cl_lt20 {i : Nat} (h : i < 2 ^ 31) : ((20 : Int32) < nI i) ↔ 20 < i := nI_ltI (a := 20) (by decide) h
theorem cl_gt20 {i : Nat} (h : i < 2 ^ 31) : (nI i < (20 : Int32)) ↔ i < 20 := nI_ltI (b := 20) h (by decide)
theorem cl_le80 {i : Nat} (h : i < 2 ^ 31) : ((80 : Int32) ≤ nI i) ↔ 80 ≤ i := nI_leI (a := 80) (by decide) h
theorem cl_ge80 {i : Nat} (h : i < 2 ^ 31) : (nI i ≤ (80 : Int32)) ↔ i ≤ 80 := nI_leI (b := 80) h (by decide)
theorem cl_lt80 {i : Nat} (h : i < 2 ^ 31) : ((80 : Int32) < nI i) ↔ 80 < i := nI_ltI (a := 80) (by decide) h
theorem cl_gt80 {i : Nat} (h : i < 2 ^ 31) : (nI i < (80 : Int32)) ↔ i < 80 := nI_ltI (b := 80) h (by decide)
theorem cl_n0 {i : Nat} (h : i < 2 ^ 31) : (nI i < (0 : Int32)) ↔ False := ⟨fun z => nI_pos h z, fun z => z.elim⟩
theorem cl_p0 {i : Nat} (h : i < 2 ^ 31) : ((0 : Int32) ≤ nI i) ↔ True := ⟨fun _ => trivial, fun _ => nI_pos' h⟩
theorem cf_x8 (c : Nat) : nI c * 8 = nI (c * 8) := pk_mul c 8
theorem cf_fs (a d : Nat) : nI (a + (d + 1)) - 1 = nI (a + d) := nI_pred (a + d)
theorem cf_p2 (a : Nat) : nI a + 2 = nI (a + 2) := nI_add a 2
theorem cf_p3 (a : Nat) : nI a + 3 = nI (a + 3) := nI_add a 3
end
section
section
variable {L R f p q g D s : Nat → Int32} {c d : Nat} {x y : Int32}
theorem cf_Of (hd : d < 4) (H : cf_O c L R f p q g D s) : cf_O c L R (upd f (c * 4 + d) y) p q g D s :=
  cf_Oc (fun k hk => ⟨pk_un (hk d hd), rfl, rfl, rfl⟩) (fun _ _ => rfl) H
theorem cf_Op (hd : d < 4) (H : cf_O c L R f p q g D s) : cf_O c L R f (upd p (c * 4 + d) y) q g D s :=
  cf_Oc (fun k hk => ⟨rfl, pk_un (hk d hd), rfl, rfl⟩) (fun _ _ => rfl) H
theorem cf_Oq (hd : d < 4) (H : cf_O c L R f p q g D s) : cf_O c L R f p (upd q (c * 4 + d) y) g D s :=
  cf_Oc (fun k hk => ⟨rfl, rfl, pk_un (hk d hd), rfl⟩) (fun _ _ => rfl) H
theorem cf_Og (hd : d < 4) (H : cf_O c L R f p q g D s) : cf_O c L R f p q (upd g (c * 4 + d) y) D s :=
  cf_Oc (fun k hk => ⟨rfl, rfl, rfl, pk_un (hk d hd)⟩) (fun _ _ => rfl) H
theorem cf_OD (H : cf_O c L R f p q g D s) : cf_O c L R f p q g (upd D c y) s :=
  cf_Oc (fun k hk => ⟨rfl, rfl, rfl, rfl⟩) (fun _ h => pk_un h) H
theorem cf_all (hO : cf_O c L R f p q g D s) (h : cf_Co L R f p q g D x c) : ∀ c', c' < 4 → cf_Co L R f p q g D (upd s c x c') c' := by
  intro c' h4
  by_cases e : c' = c
  · subst e; rw [pk_us]; exact h
  · rw [pk_un e]; exact hO c' h4 e
/-- the frames below the one at work keep, whatever is done to it -/
theorem cf_low (hS : ∀ j, j < d → cf_S L f p q g (cf_A R) (c * 4 + j)) {f' p' q' g' : Nat → Int32} (h : ∀ k, k < c * 4 + d → cf_Eq f p q g f' p' q' g' k k) : ∀ j, j < d → cf_S L f' p' q' g' (cf_A R) (c * 4 + j) :=
  fun j hj => cf_Sc (h _ (by omega)).1 (h _ (by omega)).2.1 (h _ (by omega)).2.2.1 (h _ (by omega)).2.2.2 (hS j hj)
/-- an instruction that stays in the frame -/
theorem cf_M1 (h : cf_M c d L R f p q g D) : cf_M c d L R f (upd p (c * 4 + d) y) (upd q (c * 4 + d) y) g D :=
  ⟨h.1, h.2.1, by rw [pk_us, pk_us], cf_low h.2.2.2 (fun k hk => ⟨rfl, pk_un (by omega), pk_un (by omega), rfl⟩)⟩
/-- a return to the frame below: the place of the one that ends doesn't matter any more -/
theorem cf_M2 {i : Nat} (hd : d + 1 < 4) (hq : q (c * 4 + d) = nI (i + 1)) (hS : ∀ j, j < d → cf_S L f p q g (cf_A R) (c * 4 + j)) : cf_M c d L R f (upd p (c * 4 + d) (nI (i + 1))) q g (upd D c (nI (d + 1))) :=
  ⟨by omega, pk_us, by rw [pk_us]; exact hq, cf_low hS (fun k hk => ⟨rfl, pk_un (by omega), rfl, rfl⟩)⟩
theorem cf_M2q {i : Nat} (hd : d + 1 < 4) (hq : q (c * 4 + d) = nI (i + 1)) (hS : ∀ j, j < d → cf_S L f p q g (cf_A R) (c * 4 + j)) : cf_M c d L R f (upd p (c * 4 + d) (nI (i + 1))) (upd q (c * 4 + (d + 1)) y) g (upd D c (nI (d + 1))) :=
  ⟨by omega, pk_us, by rw [pk_us, pk_un (by omega)]; exact hq, cf_low hS (fun k hk => ⟨rfl, pk_un (by omega), pk_un (by omega), rfl⟩)⟩
/-- a call -/
theorem cf_M3 {j i l m : Nat} (hd : d + 1 < 4) (hj : j < 3) (hi : i < l) (hl : l ≤ 8) (hf : f (c * 4 + d) = nI j) (hL : L j = nI l) (hp : p (c * 4 + d) = nI i) (hS : ∀ j, j < d → cf_S L f p q g (cf_A R) (c * 4 + j)) : cf_M c (d + 1) L R (upd f (c * 4 + (d + 1)) (nI m)) (upd p (c * 4 + (d + 1)) 0) (upd (upd q (c * 4 + d) (nI (i + 1))) (c * 4 + (d + 1)) 0) (upd g (c * 4 + d) (cf_A R (j * 8 + i))) (upd D c (nI (d + 1 + 1))) := by
  refine ⟨hd, pk_us, by rw [pk_us, pk_us], fun e he => ?_⟩
  by_cases z : e = d
  · subst z
    exact ⟨j, i, l, hj, hi, hl, by rw [pk_un (by omega)]; exact hf, hL, by rw [pk_un (by omega)]; exact hp, by rw [pk_un (by omega), pk_us], by rw [pk_us]⟩
  · exact cf_Sc (pk_un (by omega)) (pk_un (by omega)) (by rw [pk_un (by omega), pk_un (by omega)]) (pk_un (by omega)) (hS e (by omega))
/-- a wait -/
theorem cf_V1 {j i l : Nat} (hj : j < 3) (hi : i < l) (hl : l ≤ 8) (hf : f (c * 4 + d) = nI j) (hL : L j = nI l) (hp : p (c * 4 + d) = nI i) (h : cf_M c d L R f p q g D) : cf_V c d L R f p (upd q (c * 4 + d) (nI (i + 1))) (upd g (c * 4 + d) (cf_B R (j * 8 + i))) D :=
  ⟨h.1, h.2.1, ⟨j, i, l, hj, hi, hl, hf, hL, hp, by rw [pk_us], by rw [pk_us]⟩, cf_low h.2.2.2 (fun k hk => ⟨rfl, rfl, pk_un (by omega), pk_un (by omega)⟩)⟩
/-- the value taken in -/
theorem cf_V2 {i : Nat} (hq : q (c * 4 + d) = nI (i + 1)) (h : cf_V c d L R f p q g D) : cf_M c d L R f (upd p (c * 4 + d) (nI (i + 1))) q g D :=
  ⟨h.1, h.2.1, by rw [pk_us]; exact hq, cf_low h.2.2.2 (fun k hk => ⟨rfl, pk_un (by omega), rfl, rfl⟩)⟩
/-- a start -/
theorem cf_M0 : cf_M c 0 L R f (upd p (c * 4 + 0) 0) (upd q (c * 4 + 0) 0) g (upd D c (nI 1)) :=
  ⟨by omega, pk_us, by rw [pk_us, pk_us], fun j hj => absurd hj (by omega)⟩
end
section
variable {L O R C s w D t f p q g r : Nat → Int32}
/-- the two objects between two calls -/
def cf_Rel (u : SX) (v : SY) : Prop :=
  ∃ L O R C s w D t f p q g r : Nat → Int32, u = (L, O, cf_A R, cf_B R, C, s, w, D, t, f, p, r) ∧ v = (L, O, R, C, s, w, t, D, f, q, g, r) ∧ cf_P L ∧ cf_Q O ∧ cf_F f ∧ ∀ c, c < 4 → cf_Co L R f p q g D (s c) c
/-- inside a run of coroutine c: still at work (b: and its place is an instruction's), or ended -/
def cf_Res (b : Bool) (c : Nat) (L O R C s w tx ty : Nat → Int32) (u : SX) (v : SY) : Prop :=
  ∃ D f p q g r : Nat → Int32, cf_F f ∧ cf_O c L R f p q g D s ∧
    ((∃ d, cf_M c d L R f p q g D ∧ (b = true → cf_N L f p (c * 4 + d)) ∧ u = (L, O, cf_A R, cf_B R, C, upd s c 5, w, D, tx, f, p, r) ∧ v = (L, O, R, C, upd s c 1, upd w c 0, ty, D, f, q, g, r)) ∨
     (∃ x z : Int32, ¬ x = 1 ∧ ¬ x = 5 ∧ cf_Co L R f p q g D x c ∧ u = (L, O, cf_A R, cf_B R, C, upd s c x, upd w c z, D, tx, f, p, r) ∧ v = (L, O, R, C, upd s c x, upd w c z, ty, D, f, q, g, r)))
end
def i_Rel (_ : Nat) (u : SX) (v : SY) : Prop := cf_Rel u v
theorem i_up {k : Nat} {u : SX} {v : SY} (h : i_Rel k u v) : i_Rel (k + 5) u v := h
end
section
/-- a new frame's four registers -/
def cf_r4 (r : Nat → Int32) (k : Nat) (z : Int32) : Nat → Int32 := upd (upd (upd (upd r (k * 4) z) (k * 4 + 1) 0) (k * 4 + 2) 0) (k * 4 + 3) 0
section
variable {L O A B C s w D t f p r : Nat → Int32} {post : SX → Prop} {c d j i l a b m : Nat} {x y z : Int32}
theorem xs_settle (hc : c < 4) (h : post (L, O, A, B, C, upd s c x, upd w c z, upd D c 0, t, f, p, r)) : wpX_settle post (L, O, A, B, C, s, w, D, t, f, p, r) (nI c) x z := by
  unfold wpX_settle
  simp +decide (disch := omega) only [forall_eq, eq_self, nI_leI, nI_ltI, nI_eq, vp_in_nI, nI_clamp, nI_1, nI_add, cf_x4, cf_x8, cf_x16, cf_fs, pk_us, pk_un, cl_n0, cl_p0, true_implies, forall_const, not_true_eq_false, not_false_eq_true, false_implies, and_true, true_and, implies_true, and_self, ite_true, ite_false, reduceIte]
  exact h
theorem xs_addL {k n : Nat} (hc : c < 4) (hk : k < 16) (hi : 1 ≤ i) (hi4 : i ≤ 3) (h : wX_addFrame_45 post (nI c) (nI (k * 4)) n (nI (i + 1)) L O A B C s w D t f p (upd r (k * 4 + i) 0)) : wX_addFrame_45 post (nI c) (nI (k * 4)) (n + 1) (nI i) L O A B C s w D t f p r :=
  br_f (nI_ge (b := 4) (by omega) (by decide)) (by
    rw [nI_add, nI_clamp (by omega)]
    exact ⟨vp_in_nI (by omega) (by decide), nm_e (nm_r (nI_1 i) h)⟩)
theorem xs_addE {k n : Nat} (hc : c < 4) (hd : d < 4) (hD : D c = nI d) (h : post (L, O, A, B, C, s, w, upd D c (nI (d + 1)), t, f, p, r)) : wX_addFrame_45 post (nI c) (nI (k * 4)) (n + 1) (nI 4) L O A B C s w D t f p r :=
  br_t (nI_le (a := 4) (by omega) (by decide)) (by
    rw [nI_clamp (by omega), hD, nI_1]
    exact ⟨vp_in_nI hc (by decide), vp_in_nI hc (by decide), nm_e h⟩)
theorem xs_add (hc : c < 4) (hd : d < 4) (hD : D c = nI d) (h : post (L, O, A, B, C, s, w, upd D c (nI (d + 1)), t, upd f (c * 4 + d) x, upd p (c * 4 + d) 0, cf_r4 r (c * 4 + d) z)) : wpX_addFrame post (L, O, A, B, C, s, w, D, t, f, p, r) (nI c) x z := by
  unfold wpX_addFrame
  simp +decide (disch := omega) only [hD, forall_eq, eq_self, nI_leI, nI_ltI, nI_eq, vp_in_nI, nI_clamp, nI_1, nI_add, cf_x4, cf_x8, cf_x16, cf_fs, pk_us, pk_un, cl_n0, cl_p0, true_implies, forall_const, not_true_eq_false, not_false_eq_true, false_implies, and_true, true_and, implies_true, and_self, ite_true, ite_false, reduceIte]
  exact ⟨4, xs_addL (i := 1) hc (by omega) (by omega) (by omega) (xs_addL (i := 2) hc (by omega) (by omega) (by omega) (xs_addL (i := 3) hc (by omega) (by omega) (by omega) (xs_addE hc hd hD h)))⟩
theorem xs_take2 (hc : c < 4) (hd : d < 4) (hs : s c = 2) (hD : D c = nI (d + 1)) (hj : j < 3) (hi : i < 8) (hb : b < 4) (hf : f (c * 4 + d) = nI j) (hp : p (c * 4 + d) = nI i) (hB : B (j * 8 + i) = nI b) (h : post (L, O, A, B, C, s, w, D, t, f, upd p (c * 4 + d) (nI (i + 1)), upd r ((c * 4 + d) * 4 + b) z)) : wpX_takeIn post (L, O, A, B, C, s, w, D, t, f, p, r) (nI c) z := by
  unfold wpX_takeIn
  simp +decide (disch := omega) only [wpX_lastFrame, wpX_instructionOf, hs, hD, hf, hp, hB, forall_eq, eq_self, nI_leI, nI_ltI, nI_eq, vp_in_nI, nI_clamp, nI_1, nI_add, cf_x4, cf_x8, cf_x16, cf_fs, pk_us, pk_un, cl_n0, cl_p0, true_implies, forall_const, not_true_eq_false, not_false_eq_true, false_implies, and_true, true_and, implies_true, and_self, ite_true, ite_false, reduceIte]
  exact h
theorem xs_take1 (hc : c < 4) (hs : ¬ s c = 2) (h : post (L, O, A, B, C, s, w, D, t, f, p, r)) : wpX_takeIn post (L, O, A, B, C, s, w, D, t, f, p, r) (nI c) z := by
  unfold wpX_takeIn
  simp +decide (disch := omega) only [hs, forall_eq, eq_self, nI_leI, nI_ltI, nI_eq, vp_in_nI, nI_clamp, nI_1, nI_add, cf_x4, cf_x8, cf_x16, cf_fs, pk_us, pk_un, cl_n0, cl_p0, true_implies, forall_const, not_true_eq_false, not_false_eq_true, false_implies, and_true, true_and, implies_true, and_self, ite_true, ite_false, reduceIte]
  exact h
theorem xs_ret0 (hc : c < 4) (hD : D c = nI (0 + 1)) (h : post (L, O, A, B, C, upd s c 3, upd w c z, upd D c 0, t, f, p, r)) : wpX_returnFrom post (L, O, A, B, C, s, w, D, t, f, p, r) (nI c) z := by
  have h1 : ¬ (1 : Int32) < D c := by rw [hD]; decide
  unfold wpX_returnFrom
  dsimp only
  refine ⟨vp_in_nI hc (by decide), br_f (by rw [nI_clamp (by omega)]; exact h1) ?_⟩
  exact xs_settle hc h
theorem xs_ret1 (hc : c < 4) (hd : d + 1 < 4) (hD : D c = nI (d + 1 + 1)) (hj : j < 3) (hi : i < 8) (ha : a < 4) (hf : f (c * 4 + d) = nI j) (hp : p (c * 4 + d) = nI i) (hA : A (j * 8 + i) = nI a) (h : post (L, O, A, B, C, s, w, upd D c (nI (d + 1)), t, f, upd p (c * 4 + d) (nI (i + 1)), upd r ((c * 4 + d) * 4 + a) z)) : wpX_returnFrom post (L, O, A, B, C, s, w, D, t, f, p, r) (nI c) z := by
  have h1 : (1 : Int32) < nI (d + 1 + 1) := nI_lt (a := 1) (by omega) (by omega)
  unfold wpX_returnFrom
  simp +decide (disch := omega) only [wpX_lastFrame, wpX_instructionOf, hD, h1, nI_pred, hf, hp, hA, forall_eq, eq_self, nI_leI, nI_ltI, nI_eq, vp_in_nI, nI_clamp, nI_1, nI_add, cf_x4, cf_x8, cf_x16, cf_fs, pk_us, pk_un, cl_n0, cl_p0, true_implies, forall_const, not_true_eq_false, not_false_eq_true, false_implies, and_true, true_and, implies_true, and_self, ite_true, ite_false, reduceIte]
  exact h
theorem xs_call3 (hc : c < 4) (hD : D c = nI (3 + 1)) (h : post (L, O, A, B, C, upd s c 4, upd w c 0, upd D c 0, t, f, p, r)) : wpX_call post (L, O, A, B, C, s, w, D, t, f, p, r) (nI c) y z := by
  have h1 : ¬ D c < (4 : Int32) := by rw [hD]; decide
  unfold wpX_call
  dsimp only
  refine ⟨vp_in_nI hc (by decide), br_f (by rw [nI_clamp (by omega)]; exact h1) ?_⟩
  exact xs_settle hc h
theorem xs_call (hc : c < 4) (hd : d + 1 < 4) (hD : D c = nI (d + 1)) (h1 : y - y / 3 * 3 < 0 → y - y / 3 * 3 + 3 = nI m) (h2 : ¬ y - y / 3 * 3 < 0 → y - y / 3 * 3 = nI m) (h : post (L, O, A, B, C, s, w, upd D c (nI (d + 1 + 1)), t, upd f (c * 4 + (d + 1)) (nI m), upd p (c * 4 + (d + 1)) 0, cf_r4 r (c * 4 + (d + 1)) z)) : wpX_call post (L, O, A, B, C, s, w, D, t, f, p, r) (nI c) y z := by
  have h3 : D c < (4 : Int32) := by rw [hD]; exact nI_lt (b := 4) hd (by decide)
  unfold wpX_call
  dsimp only
  refine ⟨vp_in_nI hc (by decide), br_t (by rw [nI_clamp (by omega)]; exact h3) ⟨by decide, nm_e (br_c (fun z => ?_) (fun z => ?_))⟩⟩
  · rw [h2 (Int32.not_lt.mpr z)]
    unfold wX_call_37
    exact xs_add hc hd hD h
  · rw [h1 (Int32.not_le.mp z)]
    unfold wX_call_37
    exact xs_add hc hd hD h
end
section
variable {L O A B C s w D t f p r : Nat → Int32} {post : SX → Prop} {c d j i l a b m : Nat} {x y z : Int32}
theorem xo_0 (hc : c < 4) (hd : d < 4) (hD : D c = nI (d + 1)) (hj : j < 3) (hi : i < 8) (hf : f (c * 4 + d) = nI j) (hp : p (c * 4 + d) = nI i) (ha : a < 4) (hA : A (j * 8 + i) = nI a) (hb : b < 4) (hB : B (j * 8 + i) = nI b) (hO : O (j * 8 + i) = 0) (h : post (L, O, A, B, C, s, w, D, t, f, upd p (c * 4 + d) (nI (i + 1)), upd r ((c * 4 + d) * 4 + a) (C (j * 8 + i)))) : wpX_carryOut post (L, O, A, B, C, s, w, D, t, f, p, r) (nI c) := by
  unfold wpX_carryOut
  simp +decide (disch := omega) only [wpX_lastFrame, wpX_instructionOf, hD, hf, hp, hA, hB, hO, forall_eq, eq_self, nI_leI, nI_ltI, nI_eq, vp_in_nI, nI_clamp, nI_1, nI_add, cf_x4, cf_x8, cf_x16, cf_fs, pk_us, pk_un, cl_n0, cl_p0, true_implies, forall_const, not_true_eq_false, not_false_eq_true, false_implies, and_true, true_and, implies_true, and_self, ite_true, ite_false, reduceIte]
  exact h
theorem xo_1 (hc : c < 4) (hd : d < 4) (hD : D c = nI (d + 1)) (hj : j < 3) (hi : i < 8) (hf : f (c * 4 + d) = nI j) (hp : p (c * 4 + d) = nI i) (ha : a < 4) (hA : A (j * 8 + i) = nI a) (hb : b < 4) (hB : B (j * 8 + i) = nI b) (hO : O (j * 8 + i) = 1) (h : post (L, O, A, B, C, s, w, D, t, f, upd p (c * 4 + d) (nI (i + 1)), upd r ((c * 4 + d) * 4 + a) (r ((c * 4 + d) * 4 + a) + r ((c * 4 + d) * 4 + b)))) : wpX_carryOut post (L, O, A, B, C, s, w, D, t, f, p, r) (nI c) := by
  unfold wpX_carryOut
  simp +decide (disch := omega) only [wpX_lastFrame, wpX_instructionOf, hD, hf, hp, hA, hB, hO, forall_eq, eq_self, nI_leI, nI_ltI, nI_eq, vp_in_nI, nI_clamp, nI_1, nI_add, cf_x4, cf_x8, cf_x16, cf_fs, pk_us, pk_un, cl_n0, cl_p0, true_implies, forall_const, not_true_eq_false, not_false_eq_true, false_implies, and_true, true_and, implies_true, and_self, ite_true, ite_false, reduceIte]
  exact h
theorem xo_2 (hc : c < 4) (hd : d < 4) (hD : D c = nI (d + 1)) (hj : j < 3) (hi : i < 8) (hf : f (c * 4 + d) = nI j) (hp : p (c * 4 + d) = nI i) (ha : a < 4) (hA : A (j * 8 + i) = nI a) (hb : b < 4) (hB : B (j * 8 + i) = nI b) (hO : O (j * 8 + i) = 2) (h : post (L, O, A, B, C, s, w, D, t, f, upd p (c * 4 + d) (nI (i + 1)), upd r ((c * 4 + d) * 4 + a) (r ((c * 4 + d) * 4 + a) - r ((c * 4 + d) * 4 + b)))) : wpX_carryOut post (L, O, A, B, C, s, w, D, t, f, p, r) (nI c) := by
  unfold wpX_carryOut
  simp +decide (disch := omega) only [wpX_lastFrame, wpX_instructionOf, hD, hf, hp, hA, hB, hO, forall_eq, eq_self, nI_leI, nI_ltI, nI_eq, vp_in_nI, nI_clamp, nI_1, nI_add, cf_x4, cf_x8, cf_x16, cf_fs, pk_us, pk_un, cl_n0, cl_p0, true_implies, forall_const, not_true_eq_false, not_false_eq_true, false_implies, and_true, true_and, implies_true, and_self, ite_true, ite_false, reduceIte]
  exact h
theorem xo_3 (hc : c < 4) (hd : d < 4) (hD : D c = nI (d + 1)) (hj : j < 3) (hi : i < 8) (hf : f (c * 4 + d) = nI j) (hp : p (c * 4 + d) = nI i) (ha : a < 4) (hA : A (j * 8 + i) = nI a) (hb : b < 4) (hB : B (j * 8 + i) = nI b) (hO : O (j * 8 + i) = 3) (h : post (L, O, A, B, C, s, w, D, t, f, upd p (c * 4 + d) (C (j * 8 + i)), r)) : wpX_carryOut post (L, O, A, B, C, s, w, D, t, f, p, r) (nI c) := by
  unfold wpX_carryOut
  simp +decide (disch := omega) only [wpX_lastFrame, wpX_instructionOf, hD, hf, hp, hA, hB, hO, forall_eq, eq_self, nI_leI, nI_ltI, nI_eq, vp_in_nI, nI_clamp, nI_1, nI_add, cf_x4, cf_x8, cf_x16, cf_fs, pk_us, pk_un, cl_n0, cl_p0, true_implies, forall_const, not_true_eq_false, not_false_eq_true, false_implies, and_true, true_and, implies_true, and_self, ite_true, ite_false, reduceIte]
  exact h
theorem xo_4t (hc : c < 4) (hd : d < 4) (hD : D c = nI (d + 1)) (hj : j < 3) (hi : i < 8) (hf : f (c * 4 + d) = nI j) (hp : p (c * 4 + d) = nI i) (ha : a < 4) (hA : A (j * 8 + i) = nI a) (hb : b < 4) (hB : B (j * 8 + i) = nI b) (hO : O (j * 8 + i) = 4) (hr : ¬ r ((c * 4 + d) * 4 + a) ≤ 0) (h : post (L, O, A, B, C, s, w, D, t, f, upd p (c * 4 + d) (C (j * 8 + i)), r)) : wpX_carryOut post (L, O, A, B, C, s, w, D, t, f, p, r) (nI c) := by
  unfold wpX_carryOut
  simp +decide (disch := omega) only [wpX_lastFrame, wpX_instructionOf, hD, hf, hp, hA, hB, hO, hr, forall_eq, eq_self, nI_leI, nI_ltI, nI_eq, vp_in_nI, nI_clamp, nI_1, nI_add, cf_x4, cf_x8, cf_x16, cf_fs, pk_us, pk_un, cl_n0, cl_p0, true_implies, forall_const, not_true_eq_false, not_false_eq_true, false_implies, and_true, true_and, implies_true, and_self, ite_true, ite_false, reduceIte]
  exact h
theorem xo_4f (hc : c < 4) (hd : d < 4) (hD : D c = nI (d + 1)) (hj : j < 3) (hi : i < 8) (hf : f (c * 4 + d) = nI j) (hp : p (c * 4 + d) = nI i) (ha : a < 4) (hA : A (j * 8 + i) = nI a) (hb : b < 4) (hB : B (j * 8 + i) = nI b) (hO : O (j * 8 + i) = 4) (hr : r ((c * 4 + d) * 4 + a) ≤ 0) (h : post (L, O, A, B, C, s, w, D, t, f, upd p (c * 4 + d) (nI (i + 1)), r)) : wpX_carryOut post (L, O, A, B, C, s, w, D, t, f, p, r) (nI c) := by
  unfold wpX_carryOut
  simp +decide (disch := omega) only [wpX_lastFrame, wpX_instructionOf, hD, hf, hp, hA, hB, hO, hr, forall_eq, eq_self, nI_leI, nI_ltI, nI_eq, vp_in_nI, nI_clamp, nI_1, nI_add, cf_x4, cf_x8, cf_x16, cf_fs, pk_us, pk_un, cl_n0, cl_p0, true_implies, forall_const, not_true_eq_false, not_false_eq_true, false_implies, and_true, true_and, implies_true, and_self, ite_true, ite_false, reduceIte]
  exact h
theorem xo_5 (hc : c < 4) (hd : d < 4) (hD : D c = nI (d + 1)) (hj : j < 3) (hi : i < 8) (hf : f (c * 4 + d) = nI j) (hp : p (c * 4 + d) = nI i) (ha : a < 4) (hA : A (j * 8 + i) = nI a) (hb : b < 4) (hB : B (j * 8 + i) = nI b) (hO : O (j * 8 + i) = 5) (h : post (L, O, A, B, C, upd s c 2, upd w c (r ((c * 4 + d) * 4 + a)), D, t, f, p, r)) : wpX_carryOut post (L, O, A, B, C, s, w, D, t, f, p, r) (nI c) := by
  unfold wpX_carryOut
  simp +decide (disch := omega) only [wpX_lastFrame, wpX_instructionOf, hD, hf, hp, hA, hB, hO, forall_eq, eq_self, nI_leI, nI_ltI, nI_eq, vp_in_nI, nI_clamp, nI_1, nI_add, cf_x4, cf_x8, cf_x16, cf_fs, pk_us, pk_un, cl_n0, cl_p0, true_implies, forall_const, not_true_eq_false, not_false_eq_true, false_implies, and_true, true_and, implies_true, and_self, ite_true, ite_false, reduceIte]
  exact h
theorem xo_6 (hc : c < 4) (hd : d < 4) (hD : D c = nI (d + 1)) (hj : j < 3) (hi : i < 8) (hf : f (c * 4 + d) = nI j) (hp : p (c * 4 + d) = nI i) (ha : a < 4) (hA : A (j * 8 + i) = nI a) (hb : b < 4) (hB : B (j * 8 + i) = nI b) (hO : O (j * 8 + i) = 6) (h : wpX_call post (L, O, A, B, C, s, w, D, t, f, p, r) (nI c) (C (j * 8 + i)) (r ((c * 4 + d) * 4 + a))) : wpX_carryOut post (L, O, A, B, C, s, w, D, t, f, p, r) (nI c) := by
  unfold wpX_carryOut
  simp +decide (disch := omega) only [wpX_lastFrame, wpX_instructionOf, hD, hf, hp, hA, hB, hO, forall_eq, eq_self, nI_leI, nI_ltI, nI_eq, vp_in_nI, nI_clamp, nI_1, nI_add, cf_x4, cf_x8, cf_x16, cf_fs, pk_us, pk_un, cl_n0, cl_p0, true_implies, forall_const, not_true_eq_false, not_false_eq_true, false_implies, and_true, true_and, implies_true, and_self, ite_true, ite_false, reduceIte]
  exact h
theorem xo_7 (hc : c < 4) (hd : d < 4) (hD : D c = nI (d + 1)) (hj : j < 3) (hi : i < 8) (hf : f (c * 4 + d) = nI j) (hp : p (c * 4 + d) = nI i) (ha : a < 4) (hA : A (j * 8 + i) = nI a) (hb : b < 4) (hB : B (j * 8 + i) = nI b) (hO : O (j * 8 + i) = 7) (h : wpX_returnFrom post (L, O, A, B, C, s, w, D, t, f, p, r) (nI c) (r ((c * 4 + d) * 4 + a))) : wpX_carryOut post (L, O, A, B, C, s, w, D, t, f, p, r) (nI c) := by
  unfold wpX_carryOut
  simp +decide (disch := omega) only [wpX_lastFrame, wpX_instructionOf, hD, hf, hp, hA, hB, hO, forall_eq, eq_self, nI_leI, nI_ltI, nI_eq, vp_in_nI, nI_clamp, nI_1, nI_add, cf_x4, cf_x8, cf_x16, cf_fs, pk_us, pk_un, cl_n0, cl_p0, true_implies, forall_const, not_true_eq_false, not_false_eq_true, false_implies, and_true, true_and, implies_true, and_self, ite_true, ite_false, reduceIte]
  exact h
end
end
section
section
variable {L O R C s w D t f q g r : Nat → Int32} {post : SY → Prop} {c d j i l a b m : Nat} {x y z : Int32}
theorem ys_end (hc : c < 4) (h : post (L, O, R, C, upd s c x, upd w c z, t, upd D c 0, f, q, g, r)) : wpY_end post (L, O, R, C, s, w, t, D, f, q, g, r) (nI c) x z := by
  unfold wpY_end
  simp +decide (disch := omega) only [forall_eq, eq_self, nI_leI, nI_ltI, nI_eq, vp_in_nI, nI_clamp, nI_1, nI_add, cf_x4, cf_x8, cf_x16, cf_fs, pk_us, pk_un, cl_n0, cl_p0, true_implies, forall_const, not_true_eq_false, not_false_eq_true, false_implies, and_true, true_and, implies_true, and_self, ite_true, ite_false, reduceIte]
  exact h
theorem ys_push (hc : c < 4) (hd : d < 4) (hD : D c = nI d) (h : post (L, O, R, C, s, w, t, upd D c (nI (d + 1)), upd f (c * 4 + d) x, upd q (c * 4 + d) 0, g, cf_r4 r (c * 4 + d) z)) : wpY_push post (L, O, R, C, s, w, t, D, f, q, g, r) (nI c) x z := by
  unfold wpY_push
  simp +decide (disch := omega) only [hD, cf_p2, cf_p3, forall_eq, eq_self, nI_leI, nI_ltI, nI_eq, vp_in_nI, nI_clamp, nI_1, nI_add, cf_x4, cf_x8, cf_x16, cf_fs, pk_us, pk_un, cl_n0, cl_p0, true_implies, forall_const, not_true_eq_false, not_false_eq_true, false_implies, and_true, true_and, implies_true, and_self, ite_true, ite_false, reduceIte]
  exact h
theorem ys_back0 (hc : c < 4) (hD : D c = nI (0 + 1)) (h : post (L, O, R, C, upd s c 3, upd w c z, t, upd D c 0, f, q, g, r)) : wpY_back post (L, O, R, C, s, w, t, D, f, q, g, r) (nI c) z := by
  have e : (nI c).toNatClampNeg = c := nI_clamp (by omega)
  unfold wpY_back
  dsimp only
  rw [e, hD]
  refine ⟨vp_in_nI hc (by decide), vp_in_nI hc (by decide), nm_r (congrArg (upd D c) (show nI (0 + 1) - 1 = 0 by decide)) ⟨vp_in_nI hc (by decide), br_t pk_us ?_⟩⟩
  refine ys_end hc ?_
  show post (L, O, R, C, upd s c 3, upd w c z, t, upd (upd D c 0) c 0, f, q, g, r)
  rw [cf_uu]
  exact h
theorem ys_back1 (hc : c < 4) (hd : d + 1 < 4) (hD : D c = nI (d + 1 + 1)) (ha : a < 4) (hg : g (c * 4 + d) = nI a) (h : post (L, O, R, C, s, w, t, upd D c (nI (d + 1)), f, q, g, upd r ((c * 4 + d) * 4 + a) z)) : wpY_back post (L, O, R, C, s, w, t, D, f, q, g, r) (nI c) z := by
  have h1 : ¬ nI (d + 1) = 0 := nI_ne0 (by omega) (by omega)
  unfold wpY_back
  simp +decide (disch := omega) only [hD, nI_pred, h1, hg, forall_eq, eq_self, nI_leI, nI_ltI, nI_eq, vp_in_nI, nI_clamp, nI_1, nI_add, cf_x4, cf_x8, cf_x16, cf_fs, pk_us, pk_un, cl_n0, cl_p0, true_implies, forall_const, not_true_eq_false, not_false_eq_true, false_implies, and_true, true_and, implies_true, and_self, ite_true, ite_false, reduceIte]
  exact h
end
section
variable {L O R C s w D t f q g r : Nat → Int32} {post : SY → Prop} {c d j i l a b m : Nat} {x y z : Int32}
theorem yo_0 (hc : c < 4) (hd : d < 4) (hD : D c = nI (d + 1)) (hj : j < 3) (hi : i < 8) (hf : f (c * 4 + d) = nI j) (hq : q (c * 4 + d) = nI i) (ha : a < 4) (hA : cf_A R (j * 8 + i) = nI a) (hb : b < 4) (hB : cf_B R (j * 8 + i) = nI b) (hO : O (j * 8 + i) = 0) (h : post (L, O, R, C, s, w, t, D, f, upd q (c * 4 + d) (nI (i + 1)), g, upd r ((c * 4 + d) * 4 + a) (C (j * 8 + i)))) : wpY_carryOut post (L, O, R, C, s, w, t, D, f, q, g, r) (nI c) := by
  have hA' : R (j * 8 + i) &&& 3 = nI a := hA
  have hB' : (R (j * 8 + i) >>> ((2 : Int32) &&& 31)) &&& 3 = nI b := hB
  unfold wpY_carryOut
  simp +decide (disch := omega) only [hD, hf, hq, hA', hB', hO, forall_eq, eq_self, nI_leI, nI_ltI, nI_eq, vp_in_nI, nI_clamp, nI_1, nI_add, cf_x4, cf_x8, cf_x16, cf_fs, pk_us, pk_un, cl_n0, cl_p0, true_implies, forall_const, not_true_eq_false, not_false_eq_true, false_implies, and_true, true_and, implies_true, and_self, ite_true, ite_false, reduceIte]
  exact h
theorem yo_1 (hc : c < 4) (hd : d < 4) (hD : D c = nI (d + 1)) (hj : j < 3) (hi : i < 8) (hf : f (c * 4 + d) = nI j) (hq : q (c * 4 + d) = nI i) (ha : a < 4) (hA : cf_A R (j * 8 + i) = nI a) (hb : b < 4) (hB : cf_B R (j * 8 + i) = nI b) (hO : O (j * 8 + i) = 1) (h : post (L, O, R, C, s, w, t, D, f, upd q (c * 4 + d) (nI (i + 1)), g, upd r ((c * 4 + d) * 4 + a) (r ((c * 4 + d) * 4 + a) + r ((c * 4 + d) * 4 + b)))) : wpY_carryOut post (L, O, R, C, s, w, t, D, f, q, g, r) (nI c) := by
  have hA' : R (j * 8 + i) &&& 3 = nI a := hA
  have hB' : (R (j * 8 + i) >>> ((2 : Int32) &&& 31)) &&& 3 = nI b := hB
  unfold wpY_carryOut
  simp +decide (disch := omega) only [hD, hf, hq, hA', hB', hO, forall_eq, eq_self, nI_leI, nI_ltI, nI_eq, vp_in_nI, nI_clamp, nI_1, nI_add, cf_x4, cf_x8, cf_x16, cf_fs, pk_us, pk_un, cl_n0, cl_p0, true_implies, forall_const, not_true_eq_false, not_false_eq_true, false_implies, and_true, true_and, implies_true, and_self, ite_true, ite_false, reduceIte]
  exact h
theorem yo_2 (hc : c < 4) (hd : d < 4) (hD : D c = nI (d + 1)) (hj : j < 3) (hi : i < 8) (hf : f (c * 4 + d) = nI j) (hq : q (c * 4 + d) = nI i) (ha : a < 4) (hA : cf_A R (j * 8 + i) = nI a) (hb : b < 4) (hB : cf_B R (j * 8 + i) = nI b) (hO : O (j * 8 + i) = 2) (h : post (L, O, R, C, s, w, t, D, f, upd q (c * 4 + d) (nI (i + 1)), g, upd r ((c * 4 + d) * 4 + a) (r ((c * 4 + d) * 4 + a) - r ((c * 4 + d) * 4 + b)))) : wpY_carryOut post (L, O, R, C, s, w, t, D, f, q, g, r) (nI c) := by
  have hA' : R (j * 8 + i) &&& 3 = nI a := hA
  have hB' : (R (j * 8 + i) >>> ((2 : Int32) &&& 31)) &&& 3 = nI b := hB
  unfold wpY_carryOut
  simp +decide (disch := omega) only [hD, hf, hq, hA', hB', hO, forall_eq, eq_self, nI_leI, nI_ltI, nI_eq, vp_in_nI, nI_clamp, nI_1, nI_add, cf_x4, cf_x8, cf_x16, cf_fs, pk_us, pk_un, cl_n0, cl_p0, true_implies, forall_const, not_true_eq_false, not_false_eq_true, false_implies, and_true, true_and, implies_true, and_self, ite_true, ite_false, reduceIte]
  exact h
theorem yo_3 (hc : c < 4) (hd : d < 4) (hD : D c = nI (d + 1)) (hj : j < 3) (hi : i < 8) (hf : f (c * 4 + d) = nI j) (hq : q (c * 4 + d) = nI i) (ha : a < 4) (hA : cf_A R (j * 8 + i) = nI a) (hb : b < 4) (hB : cf_B R (j * 8 + i) = nI b) (hO : O (j * 8 + i) = 3) (h : post (L, O, R, C, s, w, t, D, f, upd q (c * 4 + d) (C (j * 8 + i)), g, r)) : wpY_carryOut post (L, O, R, C, s, w, t, D, f, q, g, r) (nI c) := by
  have hA' : R (j * 8 + i) &&& 3 = nI a := hA
  have hB' : (R (j * 8 + i) >>> ((2 : Int32) &&& 31)) &&& 3 = nI b := hB
  unfold wpY_carryOut
  simp +decide (disch := omega) only [hD, hf, hq, hA', hB', hO, cf_uu, forall_eq, eq_self, nI_leI, nI_ltI, nI_eq, vp_in_nI, nI_clamp, nI_1, nI_add, cf_x4, cf_x8, cf_x16, cf_fs, pk_us, pk_un, cl_n0, cl_p0, true_implies, forall_const, not_true_eq_false, not_false_eq_true, false_implies, and_true, true_and, implies_true, and_self, ite_true, ite_false, reduceIte]
  exact h
theorem yo_4t (hc : c < 4) (hd : d < 4) (hD : D c = nI (d + 1)) (hj : j < 3) (hi : i < 8) (hf : f (c * 4 + d) = nI j) (hq : q (c * 4 + d) = nI i) (ha : a < 4) (hA : cf_A R (j * 8 + i) = nI a) (hb : b < 4) (hB : cf_B R (j * 8 + i) = nI b) (hO : O (j * 8 + i) = 4) (hr : ¬ r ((c * 4 + d) * 4 + a) ≤ 0) (h : post (L, O, R, C, s, w, t, D, f, upd q (c * 4 + d) (C (j * 8 + i)), g, r)) : wpY_carryOut post (L, O, R, C, s, w, t, D, f, q, g, r) (nI c) := by
  have hA' : R (j * 8 + i) &&& 3 = nI a := hA
  have hB' : (R (j * 8 + i) >>> ((2 : Int32) &&& 31)) &&& 3 = nI b := hB
  unfold wpY_carryOut
  simp +decide (disch := omega) only [hD, hf, hq, hA', hB', hO, hr, cf_uu, forall_eq, eq_self, nI_leI, nI_ltI, nI_eq, vp_in_nI, nI_clamp, nI_1, nI_add, cf_x4, cf_x8, cf_x16, cf_fs, pk_us, pk_un, cl_n0, cl_p0, true_implies, forall_const, not_true_eq_false, not_false_eq_true, false_implies, and_true, true_and, implies_true, and_self, ite_true, ite_false, reduceIte]
  exact h
theorem yo_4f (hc : c < 4) (hd : d < 4) (hD : D c = nI (d + 1)) (hj : j < 3) (hi : i < 8) (hf : f (c * 4 + d) = nI j) (hq : q (c * 4 + d) = nI i) (ha : a < 4) (hA : cf_A R (j * 8 + i) = nI a) (hb : b < 4) (hB : cf_B R (j * 8 + i) = nI b) (hO : O (j * 8 + i) = 4) (hr : r ((c * 4 + d) * 4 + a) ≤ 0) (h : post (L, O, R, C, s, w, t, D, f, upd q (c * 4 + d) (nI (i + 1)), g, r)) : wpY_carryOut post (L, O, R, C, s, w, t, D, f, q, g, r) (nI c) := by
  have hA' : R (j * 8 + i) &&& 3 = nI a := hA
  have hB' : (R (j * 8 + i) >>> ((2 : Int32) &&& 31)) &&& 3 = nI b := hB
  unfold wpY_carryOut
  simp +decide (disch := omega) only [wY_carryOut_202, wY_carryOut_274, hD, hf, hq, hA', hB', hO, hr, forall_eq, eq_self, nI_leI, nI_ltI, nI_eq, vp_in_nI, nI_clamp, nI_1, nI_add, cf_x4, cf_x8, cf_x16, cf_fs, pk_us, pk_un, cl_n0, cl_p0, true_implies, forall_const, not_true_eq_false, not_false_eq_true, false_implies, and_true, true_and, implies_true, and_self, ite_true, ite_false, reduceIte]
  exact h
theorem yo_5 (hc : c < 4) (hd : d < 4) (hD : D c = nI (d + 1)) (hj : j < 3) (hi : i < 8) (hf : f (c * 4 + d) = nI j) (hq : q (c * 4 + d) = nI i) (ha : a < 4) (hA : cf_A R (j * 8 + i) = nI a) (hb : b < 4) (hB : cf_B R (j * 8 + i) = nI b) (hO : O (j * 8 + i) = 5) (h : post (L, O, R, C, upd s c 2, upd w c (r ((c * 4 + d) * 4 + a)), t, D, f, upd q (c * 4 + d) (nI (i + 1)), upd g (c * 4 + d) (cf_B R (j * 8 + i)), r)) : wpY_carryOut post (L, O, R, C, s, w, t, D, f, q, g, r) (nI c) := by
  have hA' : R (j * 8 + i) &&& 3 = nI a := hA
  have hB' : (R (j * 8 + i) >>> ((2 : Int32) &&& 31)) &&& 3 = nI b := hB
  rw [hB] at h
  unfold wpY_carryOut
  simp +decide (disch := omega) only [wY_carryOut_202, wY_carryOut_274, hD, hf, hq, hA', hB', hO, forall_eq, eq_self, nI_leI, nI_ltI, nI_eq, vp_in_nI, nI_clamp, nI_1, nI_add, cf_x4, cf_x8, cf_x16, cf_fs, pk_us, pk_un, cl_n0, cl_p0, true_implies, forall_const, not_true_eq_false, not_false_eq_true, false_implies, and_true, true_and, implies_true, and_self, ite_true, ite_false, reduceIte]
  exact h
theorem yo_63 (hd3 : d = 3) (hc : c < 4) (hd : d < 4) (hD : D c = nI (d + 1)) (hj : j < 3) (hi : i < 8) (hf : f (c * 4 + d) = nI j) (hq : q (c * 4 + d) = nI i) (ha : a < 4) (hA : cf_A R (j * 8 + i) = nI a) (hb : b < 4) (hB : cf_B R (j * 8 + i) = nI b) (hO : O (j * 8 + i) = 6) (h : post (L, O, R, C, upd s c 4, upd w c 0, t, upd D c 0, f, upd q (c * 4 + d) (nI (i + 1)), g, r)) : wpY_carryOut post (L, O, R, C, s, w, t, D, f, q, g, r) (nI c) := by
  have hA' : R (j * 8 + i) &&& 3 = nI a := hA
  have hB' : (R (j * 8 + i) >>> ((2 : Int32) &&& 31)) &&& 3 = nI b := hB
  have h4 : (nI (d + 1) = (4 : Int32)) = True := eq_true (by rw [hd3]; decide)
  unfold wpY_carryOut
  simp +decide (disch := omega) only [wY_carryOut_202, hD, hf, hq, hA', hB', hO, h4, forall_eq, eq_self, nI_leI, nI_ltI, nI_eq, vp_in_nI, nI_clamp, nI_1, nI_add, cf_x4, cf_x8, cf_x16, cf_fs, pk_us, pk_un, cl_n0, cl_p0, true_implies, forall_const, not_true_eq_false, not_false_eq_true, false_implies, and_true, true_and, implies_true, and_self, ite_true, ite_false, reduceIte]
  exact ys_end hc h
theorem yo_6 (hd3 : d + 1 < 4) (hc : c < 4) (hd : d < 4) (hD : D c = nI (d + 1)) (hj : j < 3) (hi : i < 8) (hf : f (c * 4 + d) = nI j) (hq : q (c * 4 + d) = nI i) (ha : a < 4) (hA : cf_A R (j * 8 + i) = nI a) (hb : b < 4) (hB : cf_B R (j * 8 + i) = nI b) (hO : O (j * 8 + i) = 6) (hm : (C (j * 8 + i) - C (j * 8 + i) / 3 * 3 + 3) - (C (j * 8 + i) - C (j * 8 + i) / 3 * 3 + 3) / 3 * 3 = nI m) (h : post (L, O, R, C, s, w, t, upd D c (nI (d + 1 + 1)), upd f (c * 4 + (d + 1)) (nI m), upd (upd q (c * 4 + d) (nI (i + 1))) (c * 4 + (d + 1)) 0, upd g (c * 4 + d) (cf_A R (j * 8 + i)), cf_r4 r (c * 4 + (d + 1)) (r ((c * 4 + d) * 4 + a)))) : wpY_carryOut post (L, O, R, C, s, w, t, D, f, q, g, r) (nI c) := by
  have hA' : R (j * 8 + i) &&& 3 = nI a := hA
  have hB' : (R (j * 8 + i) >>> ((2 : Int32) &&& 31)) &&& 3 = nI b := hB
  have h4 : ¬ nI (d + 1) = 4 := fun z => by have := (nI_eq (a := d + 1) (b := 4) (by omega) (by decide)).mp z; omega
  rw [hA] at h
  unfold wpY_carryOut
  simp +decide (disch := omega) only [wY_carryOut_202, wY_carryOut_274, hD, hf, hq, hA', hB', hO, h4, hm, forall_eq, eq_self, nI_leI, nI_ltI, nI_eq, vp_in_nI, nI_clamp, nI_1, nI_add, cf_x4, cf_x8, cf_x16, cf_fs, pk_us, pk_un, cl_n0, cl_p0, true_implies, forall_const, not_true_eq_false, not_false_eq_true, false_implies, and_true, true_and, implies_true, and_self, ite_true, ite_false, reduceIte]
  exact ys_push hc hd3 hD h
theorem yo_7 (hc : c < 4) (hd : d < 4) (hD : D c = nI (d + 1)) (hj : j < 3) (hi : i < 8) (hf : f (c * 4 + d) = nI j) (hq : q (c * 4 + d) = nI i) (ha : a < 4) (hA : cf_A R (j * 8 + i) = nI a) (hb : b < 4) (hB : cf_B R (j * 8 + i) = nI b) (hO : O (j * 8 + i) = 7) (h : wpY_back post (L, O, R, C, s, w, t, D, f, upd q (c * 4 + d) (nI (i + 1)), g, r) (nI c) (r ((c * 4 + d) * 4 + a))) : wpY_carryOut post (L, O, R, C, s, w, t, D, f, q, g, r) (nI c) := by
  have hA' : R (j * 8 + i) &&& 3 = nI a := hA
  have hB' : (R (j * 8 + i) >>> ((2 : Int32) &&& 31)) &&& 3 = nI b := hB
  unfold wpY_carryOut
  simp +decide (disch := omega) only [wY_carryOut_202, wY_carryOut_274, hD, hf, hq, hA', hB', hO, forall_eq, eq_self, nI_leI, nI_ltI, nI_eq, vp_in_nI, nI_clamp, nI_1, nI_add, cf_x4, cf_x8, cf_x16, cf_fs, pk_us, pk_un, cl_n0, cl_p0, true_implies, forall_const, not_true_eq_false, not_false_eq_true, false_implies, and_true, true_and, implies_true, and_self, ite_true, ite_false, reduceIte]
  exact h
end
end
section
section
variable {L O R C s w D tx ty f p q g r : Nat → Int32} {c d : Nat}
/-- a return from the frame at work, both sides; y: whatever the reference's place there has become -/
theorem cf_ret (hc : c < 4) (hF : cf_F f) (hO : cf_O c L R f p q g D s) (hM : cf_M c d L R f p q g D) (z y : Int32) : ∃ (u : SX) (v : SY), cf_Res false c L O R C s w tx ty u v ∧ (∀ post : SX → Prop, post u → wpX_returnFrom post (L, O, cf_A R, cf_B R, C, upd s c 5, w, D, tx, f, p, r) (nI c) z) ∧ (∀ post : SY → Prop, post v → wpY_back post (L, O, R, C, upd s c 1, upd w c 0, ty, D, f, upd q (c * 4 + d) y, g, r) (nI c) z) := by
  obtain ⟨hd, hD, hqp, hS⟩ := hM
  cases d with
  | zero =>
    refine ⟨_, _, ⟨upd D c 0, f, p, upd q (c * 4 + 0) y, g, r, hF, cf_OD (cf_Oq hd hO), Or.inr ⟨3, z, by decide, by decide, cf_Co0 (by decide) (by decide), rfl, rfl⟩⟩, fun post h => xs_ret0 hc hD ?_, fun post h => ys_back0 hc hD ?_⟩
    · rw [cf_uu]; exact h
    · rw [cf_uu, cf_uu]; exact h
  | succ d =>
    obtain ⟨j, i, l, hj, hi, hl, hf, hL, hp, hq, hg⟩ := hS d (by omega)
    obtain ⟨a, ha, hA⟩ := cf_An R (j * 8 + i)
    exact ⟨_, _, ⟨upd D c (nI (d + 1)), f, upd p (c * 4 + d) (nI (i + 1)), upd q (c * 4 + (d + 1)) y, g, upd r ((c * 4 + d) * 4 + a) z, hF, cf_OD (cf_Op (by omega) (cf_Oq hd hO)), Or.inl ⟨d, cf_M2q hd hq (fun e he => hS e (by omega)), fun z => absurd z (by decide), rfl, rfl⟩⟩, fun post h => xs_ret1 hc hd hD hj (by omega) ha hf hp hA h, fun post h => ys_back1 hc hd hD ha (hg.trans hA) h⟩
theorem cf_m8 {m : Nat} (h : m < 8) : m = 0 ∨ m = 1 ∨ m = 2 ∨ m = 3 ∨ m = 4 ∨ m = 5 ∨ m = 6 ∨ m = 7 := by omega
/-- one instruction, both sides -/
theorem cf_carry (hc : c < 4) (hQ : cf_Q O) (hF : cf_F f) (hO : cf_O c L R f p q g D s) (hM : cf_M c d L R f p q g D) (hN : cf_N L f p (c * 4 + d)) : ∃ (u : SX) (v : SY), cf_Res false c L O R C s w tx ty u v ∧ (∀ post : SX → Prop, post u → wpX_carryOut post (L, O, cf_A R, cf_B R, C, upd s c 5, w, D, tx, f, p, r) (nI c)) ∧ (∀ post : SY → Prop, post v → wpY_carryOut post (L, O, R, C, upd s c 1, upd w c 0, ty, D, f, q, g, r) (nI c)) := by
  have hM' := hM
  obtain ⟨hd, hD, hqp, hS⟩ := hM'
  obtain ⟨j, i, l, hj, hi, hl, hf, hL, hp⟩ := hN
  have hi8 : i < 8 := by omega
  have hq : q (c * 4 + d) = nI i := hqp.trans hp
  obtain ⟨a, ha, hA⟩ := cf_An R (j * 8 + i)
  obtain ⟨b, hb, hB⟩ := cf_Bn R (j * 8 + i)
  obtain ⟨m, hm, hOm⟩ := hQ (j * 8 + i)
  rcases cf_m8 hm with rfl | rfl | rfl | rfl | rfl | rfl | rfl | rfl
  · exact ⟨_, _, ⟨D, f, upd p (c * 4 + d) (nI (i + 1)), upd q (c * 4 + d) (nI (i + 1)), g, upd r ((c * 4 + d) * 4 + a) (C (j * 8 + i)), hF, cf_Op hd (cf_Oq hd hO), Or.inl ⟨d, cf_M1 hM, fun z => absurd z (by decide), rfl, rfl⟩⟩, fun post h => xo_0 hc hd hD hj hi8 hf hp ha hA hb hB hOm h, fun post h => yo_0 hc hd hD hj hi8 hf hq ha hA hb hB hOm h⟩
  · exact ⟨_, _, ⟨D, f, upd p (c * 4 + d) (nI (i + 1)), upd q (c * 4 + d) (nI (i + 1)), g, upd r ((c * 4 + d) * 4 + a) (r ((c * 4 + d) * 4 + a) + r ((c * 4 + d) * 4 + b)), hF, cf_Op hd (cf_Oq hd hO), Or.inl ⟨d, cf_M1 hM, fun z => absurd z (by decide), rfl, rfl⟩⟩, fun post h => xo_1 hc hd hD hj hi8 hf hp ha hA hb hB hOm h, fun post h => yo_1 hc hd hD hj hi8 hf hq ha hA hb hB hOm h⟩
  · exact ⟨_, _, ⟨D, f, upd p (c * 4 + d) (nI (i + 1)), upd q (c * 4 + d) (nI (i + 1)), g, upd r ((c * 4 + d) * 4 + a) (r ((c * 4 + d) * 4 + a) - r ((c * 4 + d) * 4 + b)), hF, cf_Op hd (cf_Oq hd hO), Or.inl ⟨d, cf_M1 hM, fun z => absurd z (by decide), rfl, rfl⟩⟩, fun post h => xo_2 hc hd hD hj hi8 hf hp ha hA hb hB hOm h, fun post h => yo_2 hc hd hD hj hi8 hf hq ha hA hb hB hOm h⟩
  · exact ⟨_, _, ⟨D, f, upd p (c * 4 + d) (C (j * 8 + i)), upd q (c * 4 + d) (C (j * 8 + i)), g, r, hF, cf_Op hd (cf_Oq hd hO), Or.inl ⟨d, cf_M1 hM, fun z => absurd z (by decide), rfl, rfl⟩⟩, fun post h => xo_3 hc hd hD hj hi8 hf hp ha hA hb hB hOm h, fun post h => yo_3 hc hd hD hj hi8 hf hq ha hA hb hB hOm h⟩
  · by_cases hr : r ((c * 4 + d) * 4 + a) ≤ 0
    · exact ⟨_, _, ⟨D, f, upd p (c * 4 + d) (nI (i + 1)), upd q (c * 4 + d) (nI (i + 1)), g, r, hF, cf_Op hd (cf_Oq hd hO), Or.inl ⟨d, cf_M1 hM, fun z => absurd z (by decide), rfl, rfl⟩⟩, fun post h => xo_4f hc hd hD hj hi8 hf hp ha hA hb hB hOm hr h, fun post h => yo_4f hc hd hD hj hi8 hf hq ha hA hb hB hOm hr h⟩
    · exact ⟨_, _, ⟨D, f, upd p (c * 4 + d) (C (j * 8 + i)), upd q (c * 4 + d) (C (j * 8 + i)), g, r, hF, cf_Op hd (cf_Oq hd hO), Or.inl ⟨d, cf_M1 hM, fun z => absurd z (by decide), rfl, rfl⟩⟩, fun post h => xo_4t hc hd hD hj hi8 hf hp ha hA hb hB hOm hr h, fun post h => yo_4t hc hd hD hj hi8 hf hq ha hA hb hB hOm hr h⟩
  · refine ⟨_, _, ⟨D, f, p, upd q (c * 4 + d) (nI (i + 1)), upd g (c * 4 + d) (cf_B R (j * 8 + i)), r, hF, cf_Oq hd (cf_Og hd hO), Or.inr ⟨2, r ((c * 4 + d) * 4 + a), by decide, by decide, ⟨fun z => absurd z (by decide), fun _ => ⟨d, cf_V1 hj hi hl hf hL hp hM⟩⟩, rfl, rfl⟩⟩, fun post h => xo_5 hc hd hD hj hi8 hf hp ha hA hb hB hOm ?_, fun post h => yo_5 hc hd hD hj hi8 hf hq ha hA hb hB hOm ?_⟩
    · rw [cf_uu]; exact h
    · rw [cf_uu, cf_uu]; exact h
  · by_cases h3 : d = 3
    · refine ⟨_, _, ⟨upd D c 0, f, p, upd q (c * 4 + d) (nI (i + 1)), g, r, hF, cf_OD (cf_Oq hd hO), Or.inr ⟨4, 0, by decide, by decide, cf_Co0 (by decide) (by decide), rfl, rfl⟩⟩, fun post h => xo_6 hc hd hD hj hi8 hf hp ha hA hb hB hOm (xs_call3 hc (by rw [hD, h3]) ?_), fun post h => yo_63 h3 hc hd hD hj hi8 hf hq ha hA hb hB hOm ?_⟩
      · rw [cf_uu]; exact h
      · rw [cf_uu, cf_uu]; exact h
    · have hd1 : d + 1 < 4 := by omega
      obtain ⟨n, hn, e1, e2, e3⟩ := cf_mod (C (j * 8 + i))
      exact ⟨_, _, ⟨upd D c (nI (d + 1 + 1)), upd f (c * 4 + (d + 1)) (nI n), upd p (c * 4 + (d + 1)) 0, upd (upd q (c * 4 + d) (nI (i + 1))) (c * 4 + (d + 1)) 0, upd g (c * 4 + d) (cf_A R (j * 8 + i)), cf_r4 r (c * 4 + (d + 1)) (r ((c * 4 + d) * 4 + a)), cf_Fu hn hF, cf_OD (cf_Of hd1 (cf_Op hd1 (cf_Oq hd1 (cf_Oq hd (cf_Og hd hO))))), Or.inl ⟨d + 1, cf_M3 hd1 hj hi hl hf hL hp hS, fun z => absurd z (by decide), rfl, rfl⟩⟩, fun post h => xo_6 hc hd hD hj hi8 hf hp ha hA hb hB hOm (xs_call hc hd1 hD e1 e2 h), fun post h => yo_6 hd1 hc hd hD hj hi8 hf hq ha hA hb hB hOm e3 h⟩
  · obtain ⟨u, v, hR, hX, hY⟩ := cf_ret (O := O) (C := C) (w := w) (tx := tx) (ty := ty) (r := r) hc hF hO hM (r ((c * 4 + d) * 4 + a)) (nI (i + 1))
    exact ⟨u, v, hR, fun post h => xo_7 hc hd hD hj hi8 hf hp ha hA hb hB hOm (hX post h), fun post h => yo_7 hc hd hD hj hi8 hf hq ha hA hb hB hOm (hY post h)⟩
end
end
section
section
variable {L O A B C s w D t f p r : Nat → Int32} {post : SX → Prop} {c d j i l n k : Nat}
/-- the component's walk to the end of the instructions: not at work any more; its place is an instruction's; it isn't -/
theorem xf_fin (hc : c < 4) (hs : ¬ s c = 5) (h : post (L, O, A, B, C, s, w, D, t, f, p, r)) : wX_returnAtEnd_2 post (nI c) (n + 1) (nI i) L O A B C s w D t f p r :=
  br_c (fun _ => h) (fun _ => ⟨vp_in_nI hc (by decide), br_f (by rw [nI_clamp (by omega)]; exact hs) h⟩)
theorem xf_in (hc : c < 4) (hd : d < 4) (hs : s c = 5) (hD : D c = nI (d + 1)) (hj : j < 3) (hk : k < l) (hl : l ≤ 8) (hf : f (c * 4 + d) = nI j) (hL : L j = nI l) (hp : p (c * 4 + d) = nI k) (hi : i < 4) (h : post (L, O, A, B, C, s, w, D, t, f, p, r)) : wX_returnAtEnd_2 post (nI c) (n + 1) (nI i) L O A B C s w D t f p r := by
  have h4 : ¬ (4 : Int32) ≤ nI i := nI_ge (b := 4) hi (by decide)
  have h5 : ¬ l ≤ k := by omega
  rw [wX_returnAtEnd_2]
  simp +decide (disch := omega) only [wpX_lastFrame, hs, hD, hf, hL, hp, h4, h5, forall_eq, eq_self, nI_leI, nI_ltI, nI_eq, vp_in_nI, nI_clamp, nI_1, nI_add, cf_x4, cf_x8, cf_x16, cf_fs, pk_us, pk_un, cl_n0, cl_p0, true_implies, forall_const, not_true_eq_false, not_false_eq_true, false_implies, and_true, true_and, implies_true, and_self, ite_true, ite_false, reduceIte]
  exact h
theorem xf_out (hc : c < 4) (hd : d < 4) (hs : s c = 5) (hD : D c = nI (d + 1)) (hj : j < 3) (hf : f (c * 4 + d) = nI j) (hL : L j = nI l) (hp : p (c * 4 + d) < 0 ∨ nI l ≤ p (c * 4 + d)) (hi : i < 4) (h : wX_returnAtEnd_53 post (wX_returnAtEnd_2 post (nI c) n) (nI c) (nI i) L O A B C s w D t f p r) : wX_returnAtEnd_2 post (nI c) (n + 1) (nI i) L O A B C s w D t f p r := by
  have h4 : ¬ (4 : Int32) ≤ nI i := nI_ge (b := 4) hi (by decide)
  rw [wX_returnAtEnd_2]
  simp +decide (disch := omega) only [wpX_lastFrame, hs, hD, hf, hL, h4, forall_eq, eq_self, nI_leI, nI_ltI, nI_eq, vp_in_nI, nI_clamp, nI_1, nI_add, cf_x4, cf_x8, cf_x16, cf_fs, pk_us, pk_un, cl_n0, cl_p0, true_implies, forall_const, not_true_eq_false, not_false_eq_true, false_implies, and_true, true_and, implies_true, and_self, ite_true, ite_false, reduceIte]
  refine br_c (fun _ => h) (fun z => ?_)
  rcases hp with hp | hp
  · exact absurd hp z
  · exact br_t hp h
end
section
variable {L O R C s w D t f q g r : Nat → Int32} {post : SY → Prop} {c d j i l n k : Nat}
theorem yf_fin (hc : c < 4) (hs : ¬ s c = 1) (h : post (L, O, R, C, s, w, t, D, f, q, g, r)) : ∀ m i n : Nat, i + m = 4 → m < n → wY_fallOff_2 post (nI c) n (nI i) L O R C s w t D f q g r := by
  intro m
  induction m with
  | zero =>
    intro i n hi hn
    obtain ⟨n, rfl⟩ : ∃ k, n = k + 1 := ⟨n - 1, by omega⟩
    exact br_t (nI_le (a := 4) (by omega) (by omega)) h
  | succ m ih =>
    intro i n hi hn
    obtain ⟨n, rfl⟩ : ∃ k, n = k + 1 := ⟨n - 1, by omega⟩
    exact br_f (nI_ge (b := 4) (by omega) (by decide)) ⟨vp_in_nI hc (by decide), br_f (by rw [nI_clamp (by omega)]; exact hs) (nm_r (nI_1 i) (ih (i + 1) n (by omega) (by omega)))⟩
theorem yf_in1 (hc : c < 4) (hd : d < 4) (hs : s c = 1) (hD : D c = nI (d + 1)) (hj : j < 3) (hk : k < l) (hl : l ≤ 8) (hf : f (c * 4 + d) = nI j) (hL : L j = nI l) (hq : q (c * 4 + d) = nI k) (hi : i < 4) (h : wY_fallOff_2 post (nI c) n (nI (i + 1)) L O R C s w t D f q g r) : wY_fallOff_2 post (nI c) (n + 1) (nI i) L O R C s w t D f q g r := by
  have h4 : ¬ (4 : Int32) ≤ nI i := nI_ge (b := 4) hi (by decide)
  have h0 : ¬ nI (d + 1) ≤ 0 := nI_nle (by omega) (by omega)
  rw [wY_fallOff_2]
  simp +decide (disch := omega) only [hs, hD, hf, hL, hq, h4, hk, h0, forall_eq, eq_self, nI_leI, nI_ltI, nI_eq, vp_in_nI, nI_clamp, nI_1, nI_add, cf_x4, cf_x8, cf_x16, cf_fs, pk_us, pk_un, cl_n0, cl_p0, true_implies, forall_const, not_true_eq_false, not_false_eq_true, false_implies, and_true, true_and, implies_true, and_self, ite_true, ite_false, reduceIte]
  exact h
theorem yf_in (hc : c < 4) (hd : d < 4) (hs : s c = 1) (hD : D c = nI (d + 1)) (hj : j < 3) (hk : k < l) (hl : l ≤ 8) (hf : f (c * 4 + d) = nI j) (hL : L j = nI l) (hq : q (c * 4 + d) = nI k) (h : post (L, O, R, C, s, w, t, D, f, q, g, r)) : ∀ m i n : Nat, i + m = 4 → m < n → wY_fallOff_2 post (nI c) n (nI i) L O R C s w t D f q g r := by
  intro m
  induction m with
  | zero =>
    intro i n hi hn
    obtain ⟨n, rfl⟩ : ∃ k, n = k + 1 := ⟨n - 1, by omega⟩
    exact br_t (nI_le (a := 4) (by omega) (by omega)) h
  | succ m ih =>
    intro i n hi hn
    obtain ⟨n, rfl⟩ : ∃ k, n = k + 1 := ⟨n - 1, by omega⟩
    exact yf_in1 hc hd hs hD hj hk hl hf hL hq (by omega) (ih (i + 1) n (by omega) (by omega))
theorem yf_out (hc : c < 4) (hd : d < 4) (hs : s c = 1) (hD : D c = nI (d + 1)) (hj : j < 3) (hf : f (c * 4 + d) = nI j) (hL : L j = nI l) (hq : q (c * 4 + d) < 0 ∨ nI l ≤ q (c * 4 + d)) (hi : i < 4) (h : wY_fallOff_68 post (wY_fallOff_2 post (nI c) n) (nI c) (nI i) L O R C s w t D f q g r) : wY_fallOff_2 post (nI c) (n + 1) (nI i) L O R C s w t D f q g r := by
  have h4 : ¬ (4 : Int32) ≤ nI i := nI_ge (b := 4) hi (by decide)
  have h0 : ¬ nI (d + 1) ≤ 0 := nI_nle (by omega) (by omega)
  rw [wY_fallOff_2]
  simp +decide (disch := omega) only [hs, hD, hf, hL, h4, h0, forall_eq, eq_self, nI_leI, nI_ltI, nI_eq, vp_in_nI, nI_clamp, nI_1, nI_add, cf_x4, cf_x8, cf_x16, cf_fs, pk_us, pk_un, cl_n0, cl_p0, true_implies, forall_const, not_true_eq_false, not_false_eq_true, false_implies, and_true, true_and, implies_true, and_self, ite_true, ite_false, reduceIte]
  refine br_c (fun _ => h) (fun z => ?_)
  rcases hq with hq | hq
  · exact absurd hq z
  · exact br_f (Int32.not_lt.mpr hq) h
end
end
section
section
variable {L O R C s w tx ty : Nat → Int32} {c : Nat}
/-- to the end of the instructions, both sides, from turn i of the loop on -/
theorem cf_fallL (hc : c < 4) (hP : cf_P L) : ∀ (d i : Nat) (D f p q g r : Nat → Int32), i + d < 4 → cf_F f → cf_O c L R f p q g D s → cf_M c d L R f p q g D → ∃ (u : SX) (v : SY), cf_Res true c L O R C s w tx ty u v ∧ (∀ post : SX → Prop, post u → ∀ n, 4 < n + i → wX_returnAtEnd_2 post (nI c) n (nI i) L O (cf_A R) (cf_B R) C (upd s c 5) w D tx f p r) ∧ (∀ post : SY → Prop, post v → ∀ n, 4 < n + i → wY_fallOff_2 post (nI c) n (nI i) L O R C (upd s c 1) (upd w c 0) ty D f q g r) := by
  intro d
  induction d with
  | zero =>
    intro i D f p q g r hid hF hO hM
    have hM' := hM
    obtain ⟨hd, hD, hqp, hS⟩ := hM'
    obtain ⟨j, l, hj, hl, hf, hL, hx⟩ := cf_Ni (p := p) hP hF (c * 4 + 0)
    rcases or_assoc.mpr hx with ho | ⟨k, hk, hp⟩
    · refine ⟨_, _, ⟨upd D c 0, f, p, q, g, r, hF, cf_OD hO, Or.inr ⟨3, 0, by decide, by decide, cf_Co0 (by decide) (by decide), rfl, rfl⟩⟩, fun post h n hn => ?_, fun post h n hn => ?_⟩
      · obtain ⟨n, rfl⟩ : ∃ k, n = k + 2 := ⟨n - 2, by omega⟩
        refine xf_out hc hd pk_us hD hj hf hL ho (by omega) ?_
        unfold wX_returnAtEnd_53
        refine xs_ret0 hc hD (nm_r (nI_1 i) (xf_fin hc (by rw [pk_us]; decide) ?_))
        rw [cf_uu]; exact h
      · obtain ⟨n, rfl⟩ : ∃ k, n = k + 1 := ⟨n - 1, by omega⟩
        refine yf_out hc hd pk_us hD hj hf hL (by rw [hqp]; exact ho) (by omega) ?_
        unfold wY_fallOff_68
        refine ys_back0 hc hD (nm_r (nI_1 i) (yf_fin hc (by rw [pk_us]; decide) ?_ (4 - (i + 1)) (i + 1) n (by omega) (by omega)))
        rw [cf_uu, cf_uu]; exact h
    · refine ⟨_, _, ⟨D, f, p, q, g, r, hF, hO, Or.inl ⟨0, hM, fun _ => ⟨j, k, l, hj, hk, hl, hf, hL, hp⟩, rfl, rfl⟩⟩, fun post h n hn => ?_, fun post h n hn => ?_⟩
      · obtain ⟨n, rfl⟩ : ∃ k, n = k + 1 := ⟨n - 1, by omega⟩
        exact xf_in hc hd pk_us hD hj hk hl hf hL hp (by omega) h
      · exact yf_in hc hd pk_us hD hj hk hl hf hL (hqp.trans hp) h (4 - i) i n (by omega) (by omega)
  | succ d ih =>
    intro i D f p q g r hid hF hO hM
    have hM' := hM
    obtain ⟨hd, hD, hqp, hS⟩ := hM'
    obtain ⟨j, l, hj, hl, hf, hL, hx⟩ := cf_Ni (p := p) hP hF (c * 4 + (d + 1))
    rcases or_assoc.mpr hx with ho | ⟨k, hk, hp⟩
    · obtain ⟨j', i', l', hj', hi', hl', hf', hL', hp', hq', hg'⟩ := hS d (by omega)
      obtain ⟨a, ha, hA⟩ := cf_An R (j' * 8 + i')
      obtain ⟨u, v, hR, hX, hY⟩ := ih (i + 1) (upd D c (nI (d + 1))) f (upd p (c * 4 + d) (nI (i' + 1))) q g (upd r ((c * 4 + d) * 4 + a) 0) (by omega) hF (cf_OD (cf_Op (by omega) hO)) (cf_M2 hd hq' (fun e he => hS e (by omega)))
      refine ⟨u, v, hR, fun post h n hn => ?_, fun post h n hn => ?_⟩
      · obtain ⟨n, rfl⟩ : ∃ k, n = k + 1 := ⟨n - 1, by omega⟩
        refine xf_out hc hd pk_us hD hj hf hL ho (by omega) ?_
        unfold wX_returnAtEnd_53
        exact xs_ret1 hc hd hD hj' (by omega) ha hf' hp' hA (nm_r (nI_1 i) (hX post h n (by omega)))
      · obtain ⟨n, rfl⟩ : ∃ k, n = k + 1 := ⟨n - 1, by omega⟩
        refine yf_out hc hd pk_us hD hj hf hL (by rw [hqp]; exact ho) (by omega) ?_
        unfold wY_fallOff_68
        exact ys_back1 hc hd hD ha (hg'.trans hA) (nm_r (nI_1 i) (hY post h n (by omega)))
    · refine ⟨_, _, ⟨D, f, p, q, g, r, hF, hO, Or.inl ⟨d + 1, hM, fun _ => ⟨j, k, l, hj, hk, hl, hf, hL, hp⟩, rfl, rfl⟩⟩, fun post h n hn => ?_, fun post h n hn => ?_⟩
      · obtain ⟨n, rfl⟩ : ∃ k, n = k + 1 := ⟨n - 1, by omega⟩
        exact xf_in hc hd pk_us hD hj hk hl hf hL hp (by omega) h
      · exact yf_in hc hd pk_us hD hj hk hl hf hL (hqp.trans hp) h (4 - i) i n (by omega) (by omega)
theorem cf_fallM {D f p q g r : Nat → Int32} {d : Nat} (hc : c < 4) (hP : cf_P L) (hF : cf_F f) (hO : cf_O c L R f p q g D s) (hM : cf_M c d L R f p q g D) : ∃ (u : SX) (v : SY), cf_Res true c L O R C s w tx ty u v ∧ (∀ post : SX → Prop, post u → wpX_returnAtEnd post (L, O, cf_A R, cf_B R, C, upd s c 5, w, D, tx, f, p, r) (nI c)) ∧ (∀ post : SY → Prop, post v → wpY_fallOff post (L, O, R, C, upd s c 1, upd w c 0, ty, D, f, q, g, r) (nI c)) := by
  obtain ⟨u, v, hR, hX, hY⟩ := cf_fallL (O := O) (C := C) (w := w) (tx := tx) (ty := ty) hc hP d 0 D f p q g r (by have := hM.1; omega) hF hO hM
  refine ⟨u, v, hR, fun post h => ?_, fun post h => ?_⟩
  · unfold wpX_returnAtEnd
    exact ⟨5, hX post h 5 (by omega)⟩
  · unfold wpY_fallOff
    exact ⟨5, hY post h 5 (by omega)⟩
theorem cf_fallR {u : SX} {v : SY} (hc : c < 4) (hP : cf_P L) (H : cf_Res false c L O R C s w tx ty u v) : ∃ (u' : SX) (v' : SY), cf_Res true c L O R C s w tx ty u' v' ∧ (∀ post : SX → Prop, post u' → wpX_returnAtEnd post u (nI c)) ∧ (∀ post : SY → Prop, post v' → wpY_fallOff post v (nI c)) := by
  obtain ⟨D, f, p, q, g, r, hF, hO, ⟨d, hM, hN, rfl, rfl⟩ | ⟨x, z, h1, h5, hC, rfl, rfl⟩⟩ := H
  · exact cf_fallM hc hP hF hO hM
  · refine ⟨_, _, ⟨D, f, p, q, g, r, hF, hO, Or.inr ⟨x, z, h1, h5, hC, rfl, rfl⟩⟩, fun post h => ?_, fun post h => ?_⟩
    · unfold wpX_returnAtEnd
      exact ⟨1, xf_fin (i := 0) hc (by rw [pk_us]; exact h5) h⟩
    · unfold wpY_fallOff
      exact ⟨5, yf_fin hc (by rw [pk_us]; exact h1) h 4 0 5 (by omega) (by omega)⟩
/-- an instruction and what ends behind it -/
theorem cf_step {D f p q g r : Nat → Int32} {d : Nat} (hc : c < 4) (hP : cf_P L) (hQ : cf_Q O) (hF : cf_F f) (hO : cf_O c L R f p q g D s) (hM : cf_M c d L R f p q g D) (hN : cf_N L f p (c * 4 + d)) : ∃ (u1 : SX) (v1 : SY) (u : SX) (v : SY), cf_Res true c L O R C s w tx ty u v ∧ (∀ post : SX → Prop, post u1 → wpX_carryOut post (L, O, cf_A R, cf_B R, C, upd s c 5, w, D, tx, f, p, r) (nI c)) ∧ (∀ post : SX → Prop, post u → wpX_returnAtEnd post u1 (nI c)) ∧ (∀ post : SY → Prop, post v1 → wpY_carryOut post (L, O, R, C, upd s c 1, upd w c 0, ty, D, f, q, g, r) (nI c)) ∧ (∀ post : SY → Prop, post v → wpY_fallOff post v1 (nI c)) := by
  obtain ⟨u1, v1, hR1, hX1, hY1⟩ := cf_carry (C := C) (w := w) (tx := tx) (ty := ty) (r := r) hc hQ hF hO hM hN
  obtain ⟨u, v, hR, hX, hY⟩ := cf_fallR hc hP hR1
  exact ⟨u1, v1, u, v, hR, hX1, hX, hY1, hY⟩
end
section
variable {L O R C s w t : Nat → Int32} {c : Nat}
/-- a run of coroutine c that ended, in state x -/
def cf_Fin (c : Nat) (L O R C s w t : Nat → Int32) (x : Int32) (u : SX) (v : SY) : Prop :=
  ∃ (z y : Int32) (D f p q g r : Nat → Int32), cf_F f ∧ cf_O c L R f p q g D s ∧ cf_Co L R f p q g D x c ∧ u = (L, O, cf_A R, cf_B R, C, upd s c x, upd w c z, D, upd t c y, f, p, r) ∧ v = (L, O, R, C, upd s c x, upd w c z, upd t c y, D, f, q, g, r)
theorem xr_fin {A B D f p r : Nat → Int32} {post : SX → Prop} {n i : Nat} (hc : c < 4) (hs : ¬ s c = 5) (h : post (L, O, A, B, C, s, w, D, t, f, p, r)) : wX_run_21 post (nI c) (n + 1) (nI i) L O A B C s w D t f p r :=
  br_c (fun _ => ⟨vp_in_nI hc (by decide), br_f (by rw [nI_clamp (by omega)]; exact hs) h⟩) (fun _ => ⟨vp_in_nI hc (by decide), br_f (by rw [nI_clamp (by omega)]; exact hs) ⟨vp_in_nI hc (by decide), br_f (by rw [nI_clamp (by omega)]; exact hs) h⟩⟩)
theorem yr_fin {D f q g r : Nat → Int32} {post : Int32 → SY → Prop} {x : Int32} (hc : c < 4) (hx : s c = x) (h1 : ¬ x = 1) (h : post x (L, O, R, C, s, w, t, D, f, q, g, r)) : ∀ m i n : Nat, i + m = 80 → m < n → wY_resume_100 post (nI c) n (nI i) L O R C s w t D f q g r := by
  have e : (nI c).toNatClampNeg = c := nI_clamp (by omega)
  intro m
  induction m with
  | zero =>
    intro i n hi hn
    obtain ⟨n, rfl⟩ : ∃ k, n = k + 1 := ⟨n - 1, by omega⟩
    refine br_t (nI_le (a := 80) (by omega) (by omega)) ⟨vp_in_nI hc (by decide), br_f (by rw [e, hx]; exact h1) ⟨vp_in_nI hc (by decide), ?_⟩⟩
    rw [e, hx]; exact h
  | succ m ih =>
    intro i n hi hn
    obtain ⟨n, rfl⟩ : ∃ k, n = k + 1 := ⟨n - 1, by omega⟩
    exact br_f (nI_ge (b := 80) (by omega) (by decide)) ⟨vp_in_nI hc (by decide), br_f (by rw [e, hx]; exact h1) (nm_r (nI_1 i) (ih (i + 1) n (by omega) (by omega)))⟩
/-- the loop over the instructions, both sides -/
theorem cf_loop (hc : c < 4) (hP : cf_P L) (hQ : cf_Q O) : ∀ (m i : Nat), i + m = 80 → ∀ (d : Nat) (D f p q g r : Nat → Int32), cf_F f → cf_O c L R f p q g D s → cf_M c d L R f p q g D → cf_N L f p (c * 4 + d) → ∃ (x : Int32) (u : SX) (v : SY), cf_Fin c L O R C s w t x u v ∧ (∀ post : SX → Prop, post u → ∀ n, m < n → wX_run_21 post (nI c) n (nI i) L O (cf_A R) (cf_B R) C (upd s c 5) w D (upd t c (nI i)) f p r) ∧ (∀ post : Int32 → SY → Prop, post x v → ∀ n, m < n → wY_resume_100 post (nI c) n (nI i) L O R C (upd s c 1) (upd w c 0) (upd t c (nI i)) D f q g r) := by
  have e : (nI c).toNatClampNeg = c := nI_clamp (by omega)
  intro m
  induction m with
  | zero =>
    intro i hi d D f p q g r hF hO hM hN
    refine ⟨4, _, _, ⟨0, nI i, upd D c 0, f, p, q, g, r, hF, cf_OD hO, cf_Co0 (by decide) (by decide), rfl, rfl⟩, fun post h n hn => ?_, fun post h n hn => ?_⟩
    · obtain ⟨n, rfl⟩ : ∃ k, n = k + 1 := ⟨n - 1, by omega⟩
      refine br_t (nI_le (a := 80) (by omega) (by omega)) ⟨vp_in_nI hc (by decide), br_t (by rw [e]; exact pk_us) (xs_settle hc ?_)⟩
      rw [cf_uu]; exact h
    · obtain ⟨n, rfl⟩ : ∃ k, n = k + 1 := ⟨n - 1, by omega⟩
      refine br_t (nI_le (a := 80) (by omega) (by omega)) ⟨vp_in_nI hc (by decide), br_t (by rw [e]; exact pk_us) (ys_end hc ⟨vp_in_nI hc (by decide), ?_⟩)⟩
      rw [e, pk_us, cf_uu, cf_uu]; exact h
  | succ m ih =>
    intro i hi d D f p q g r hF hO hM hN
    obtain ⟨⟨x1, x2, x3, x4, x5, x6, x7, x8, x9, x10, x11, x12⟩, ⟨y1, y2, y3, y4, y5, y6, y7, y8, y9, y10, y11, y12⟩, u2, v2, hR, hX1, hX2, hY1, hY2⟩ := cf_step (C := C) (w := w) (tx := upd t c (nI (i + 1))) (ty := upd t c (nI i)) (r := r) hc hP hQ hF hO hM hN
    obtain ⟨D', f', p', q', g', r', hF', hO', ⟨d', hM', hN', rfl, rfl⟩ | ⟨x, z, h1, h5, hC, rfl, rfl⟩⟩ := hR
    · obtain ⟨x, u, v, hFin, hX, hY⟩ := ih (i + 1) (by omega) d' D' f' p' q' g' r' hF' hO' hM' (hN' rfl)
      refine ⟨x, u, v, hFin, fun post h n hn => ?_, fun post h n hn => ?_⟩
      · obtain ⟨n, rfl⟩ : ∃ k, n = k + 1 := ⟨n - 1, by omega⟩
        refine br_f (nI_ge (b := 80) (by omega) (by decide)) ⟨vp_in_nI hc (by decide), br_t (by rw [e]; exact pk_us) ⟨vp_in_nI hc (by decide), vp_in_nI hc (by decide), nm_r (e' := upd t c (nI (i + 1))) (by rw [e, pk_us, nI_1, cf_uu]) ?_⟩⟩
        exact hX1 _ (hX2 _ (nm_r (nI_1 i) (hX post h n (by omega))))
      · obtain ⟨n, rfl⟩ : ∃ k, n = k + 1 := ⟨n - 1, by omega⟩
        refine br_f (nI_ge (b := 80) (by omega) (by decide)) ⟨vp_in_nI hc (by decide), br_t (by rw [e]; exact pk_us) ?_⟩
        exact hY1 _ (hY2 _ ⟨vp_in_nI hc (by decide), vp_in_nI hc (by decide), nm_r (e' := upd t c (nI (i + 1))) (by rw [e, pk_us, nI_1, cf_uu]) (nm_r (nI_1 i) (hY post h n (by omega)))⟩)
    · refine ⟨x, _, _, ⟨z, nI (i + 1), D', f', p', q', g', r', hF', hO', hC, rfl, rfl⟩, fun post h n hn => ?_, fun post h n hn => ?_⟩
      · obtain ⟨n, rfl⟩ : ∃ k, n = k + 2 := ⟨n - 2, by omega⟩
        refine br_f (nI_ge (b := 80) (by omega) (by decide)) ⟨vp_in_nI hc (by decide), br_t (by rw [e]; exact pk_us) ⟨vp_in_nI hc (by decide), vp_in_nI hc (by decide), nm_r (e' := upd t c (nI (i + 1))) (by rw [e, pk_us, nI_1, cf_uu]) ?_⟩⟩
        exact hX1 _ (hX2 _ (nm_r (nI_1 i) (xr_fin hc (by rw [pk_us]; exact h5) h)))
      · obtain ⟨n, rfl⟩ : ∃ k, n = k + 1 := ⟨n - 1, by omega⟩
        refine br_f (nI_ge (b := 80) (by omega) (by decide)) ⟨vp_in_nI hc (by decide), br_t (by rw [e]; exact pk_us) ?_⟩
        exact hY1 _ (hY2 _ ⟨vp_in_nI hc (by decide), vp_in_nI hc (by decide), nm_r (e' := upd t c (nI (i + 1))) (by rw [e, pk_us, nI_1, cf_uu]) (nm_r (nI_1 i) (yr_fin hc pk_us h1 h m (i + 1) n (by omega) (by omega)))⟩)
/-- a run, both sides -/
theorem cf_run {D f p q g r : Nat → Int32} {d : Nat} (hc : c < 4) (hP : cf_P L) (hQ : cf_Q O) (hF : cf_F f) (hO : cf_O c L R f p q g D s) (hM : cf_M c d L R f p q g D) : ∃ (x : Int32) (u : SX) (v : SY), cf_Fin c L O R C s w t x u v ∧ (∀ post : SX → Prop, post u → wpX_run post (L, O, cf_A R, cf_B R, C, s, w, D, t, f, p, r) (nI c)) ∧ (∀ post : Int32 → SY → Prop, post x v → wY_resume_72 post (nI c) L O R C s w t D f q g r) := by
  have e : (nI c).toNatClampNeg = c := nI_clamp (by omega)
  obtain ⟨u1, v1, hR, hX1, hY1⟩ := cf_fallM (O := O) (C := C) (w := w) (tx := upd t c 0) (ty := upd t c 0) (r := r) hc hP hF hO hM
  obtain ⟨D', f', p', q', g', r', hF', hO', ⟨d', hM', hN', rfl, rfl⟩ | ⟨x, z, h1, h5, hC, rfl, rfl⟩⟩ := hR
  · obtain ⟨x, u, v, hFin, hX, hY⟩ := cf_loop (C := C) (w := w) (t := t) hc hP hQ 80 0 (by omega) d' D' f' p' q' g' r' hF' hO' hM' (hN' rfl)
    refine ⟨x, u, v, hFin, fun post h => ?_, fun post h => ?_⟩
    · unfold wpX_run
      dsimp only
      rw [e]
      exact ⟨vp_in_nI hc (by decide), nm_e ⟨vp_in_nI hc (by decide), nm_e (hX1 _ ⟨81, hX post h 81 (by omega)⟩)⟩⟩
    · unfold wY_resume_72
      rw [e]
      exact ⟨vp_in_nI hc (by decide), nm_e ⟨vp_in_nI hc (by decide), nm_e ⟨vp_in_nI hc (by decide), nm_e (hY1 _ ⟨81, hY post h 81 (by omega)⟩)⟩⟩⟩
  · refine ⟨x, _, _, ⟨z, 0, D', f', p', q', g', r', hF', hO', hC, rfl, rfl⟩, fun post h => ?_, fun post h => ?_⟩
    · unfold wpX_run
      dsimp only
      rw [e]
      have hx5 : ¬ upd s c x c = 5 := by rw [pk_us]; exact h5
      exact ⟨vp_in_nI hc (by decide), nm_e ⟨vp_in_nI hc (by decide), nm_e (hX1 _ ⟨1, xr_fin (i := 0) hc hx5 h⟩)⟩⟩
    · unfold wY_resume_72
      rw [e]
      exact ⟨vp_in_nI hc (by decide), nm_e ⟨vp_in_nI hc (by decide), nm_e ⟨vp_in_nI hc (by decide), nm_e (hY1 _ ⟨81, yr_fin hc pk_us h1 h 80 0 81 (by omega) (by omega)⟩)⟩⟩⟩
/-- the value taken in, and the run -/
theorem cf_go {D f p q g r : Nat → Int32} (hc : c < 4) (hP : cf_P L) (hQ : cf_Q O) (hF : cf_F f) (hA : ∀ c, c < 4 → cf_Co L R f p q g D (s c) c) (hs : s c = 1 ∨ s c = 2) (z : Int32) : ∃ (x : Int32) (u1 u : SX) (v : SY), cf_Fin c L O R C s w t x u v ∧ (∀ post : SX → Prop, post u1 → wpX_takeIn post (L, O, cf_A R, cf_B R, C, s, w, D, t, f, p, r) (nI c) z) ∧ (∀ post : SX → Prop, post u → wpX_run post u1 (nI c)) ∧ (∀ post : Int32 → SY → Prop, post x v → wY_resume_33 post (nI c) z L O R C s w t D f q g r) := by
  have e : (nI c).toNatClampNeg = c := nI_clamp (by omega)
  have hO : cf_O c L R f p q g D s := fun c' h4 _ => hA c' h4
  rcases hs with hs | hs
  · obtain ⟨d, hM⟩ := (hA c hc).1 hs
    have h2 : ¬ s c = 2 := by rw [hs]; decide
    obtain ⟨x, u, v, hFin, hX, hY⟩ := cf_run (C := C) (w := w) (t := t) (r := r) hc hP hQ hF hO hM
    refine ⟨x, (L, O, cf_A R, cf_B R, C, s, w, D, t, f, p, r), u, v, hFin, fun post h => xs_take1 hc h2 h, hX, fun post h => ?_⟩
    exact ⟨vp_in_nI hc (by decide), br_f (by rw [e]; exact h2) (hY post h)⟩
  · obtain ⟨d, hV⟩ := (hA c hc).2 hs
    have hV' := hV
    obtain ⟨hd, hD, ⟨j, i, l, hj, hi, hl, hf, hL, hp, hq, hg⟩, hS⟩ := hV'
    obtain ⟨b, hb, hB⟩ := cf_Bn R (j * 8 + i)
    obtain ⟨x, u, v, hFin, hX, hY⟩ := cf_run (C := C) (w := w) (t := t) (r := upd r ((c * 4 + d) * 4 + b) z) hc hP hQ hF (cf_Op hd hO) (cf_V2 hq hV)
    refine ⟨x, (L, O, cf_A R, cf_B R, C, s, w, D, t, f, upd p (c * 4 + d) (nI (i + 1)), upd r ((c * 4 + d) * 4 + b) z), u, v, hFin, fun post h => xs_take2 hc hd hs hD hj (by omega) hb hf hp hB h, hX, fun post h => ?_⟩
    have hg' : g (c * 4 + d) = nI b := hg.trans hB
    have H := hY post h
    unfold wY_resume_33
    simp +decide (disch := omega) only [hs, hD, hg', forall_eq, eq_self, nI_leI, nI_ltI, nI_eq, vp_in_nI, nI_clamp, nI_1, nI_add, cf_x4, cf_x8, cf_x16, cf_fs, pk_us, pk_un, cl_n0, cl_p0, true_implies, forall_const, not_true_eq_false, not_false_eq_true, false_implies, and_true, true_and, implies_true, and_self, ite_true, ite_false, reduceIte]
    exact H
theorem cf_FR {x : Int32} {u : SX} {v : SY} (hP : cf_P L) (hQ : cf_Q O) (H : cf_Fin c L O R C s w t x u v) : cf_Rel u v := by
  obtain ⟨z, y, D, f, p, q, g, r, hF, hO, hC, rfl, rfl⟩ := H
  exact ⟨L, O, R, C, upd s c x, upd w c z, D, upd t c y, f, p, q, g, r, rfl, rfl, hP, hQ, hF, cf_all hO hC⟩
end
end
section
theorem cf_co (x : Int32) : (x < 0 ∨ (4 : Int32) ≤ x) ∨ ∃ c : Nat, c < 4 ∧ x = nI c := or_assoc.mpr (pk_ix x (n := 4) (by decide))
theorem cf_fn (x : Int32) : (x < 0 ∨ (3 : Int32) ≤ x) ∨ ∃ c : Nat, c < 3 ∧ x = nI c := or_assoc.mpr (pk_ix x (n := 3) (by decide))
theorem cf_op (x : Int32) : (x < 0 ∨ (8 : Int32) ≤ x) ∨ ∃ c : Nat, c < 8 ∧ x = nI c := or_assoc.mpr (pk_ix x (n := 8) (by decide))
section
variable {post : Int32 → Prop} {c : Nat} {x : Int32}
theorem xi_1 (hc : c < 4) (h : post 1) : wpX_isCoroutine post (nI c) := br_f (nI_pos (by omega)) (br_f (nI_ge (b := 4) hc (by decide)) h)
theorem xi_0 (hx : x < 0 ∨ (4 : Int32) ≤ x) (h : post 0) : wpX_isCoroutine post x := br_c (fun _ => h) (fun z => br_t (hx.resolve_left z) h)
theorem xn_1 (hc : c < 3) (h : post 1) : wpX_isFunction post (nI c) := br_f (nI_pos (by omega)) (br_f (nI_ge (b := 3) hc (by decide)) h)
theorem xn_0 (hx : x < 0 ∨ (3 : Int32) ≤ x) (h : post 0) : wpX_isFunction post x := br_c (fun _ => h) (fun z => br_t (hx.resolve_left z) h)
theorem yi_0 {v : SY} (hc : c < 4) (h : post 0) : wpY_badCo post v (nI c) := by
  unfold wpY_badCo
  exact br_f (nI_pos (by omega)) (br_t (nI_le (b := 3) (by omega) (by decide)) h)
theorem yi_1 {v : SY} (hx : x < 0 ∨ (4 : Int32) ≤ x) (h : post 1) : wpY_badCo post v x := by
  unfold wpY_badCo
  exact br_c (fun _ => h) (fun z => br_f (fun z3 => absurd (Int32.le_trans (hx.resolve_left z) z3) (by decide)) h)
end
section
variable {L O A B R C s w D t f p q g r : Nat → Int32} {c j : Nat} {z : Int32}
theorem xm_drop {post : Int32 → SX → Prop} (hc : c < 4) (h : post (s c) (L, O, A, B, C, upd s c 0, upd w c 0, upd D c 0, upd t c 0, f, p, r)) : wpX_drop post (L, O, A, B, C, s, w, D, t, f, p, r) (nI c) := by
  have e : (nI c).toNatClampNeg = c := nI_clamp (by omega)
  unfold wpX_drop
  dsimp only
  rw [e]
  exact xi_1 hc (br_f (by decide) ⟨vp_in_nI hc (by decide), nm_e (xs_settle hc ⟨vp_in_nI hc (by decide), nm_e h⟩)⟩)
theorem ym_drop {post : Int32 → SY → Prop} (hc : c < 4) (h : post (s c) (L, O, R, C, upd s c 0, upd w c 0, upd t c 0, upd D c 0, f, q, g, r)) : wpY_drop post (L, O, R, C, s, w, t, D, f, q, g, r) (nI c) := by
  have e : (nI c).toNatClampNeg = c := nI_clamp (by omega)
  unfold wpY_drop
  dsimp only
  rw [e]
  exact yi_0 hc (br_t rfl ⟨vp_in_nI hc (by decide), nm_e (ys_end hc ⟨vp_in_nI hc (by decide), nm_e h⟩)⟩)
theorem xm_start {post : Int32 → SX → Prop} (hc : c < 4) (hj : j < 3) (h : post 0 (L, O, A, B, C, upd s c 1, upd w c 0, upd D c (nI 1), upd t c 0, upd f (c * 4 + 0) (nI j), upd p (c * 4 + 0) 0, cf_r4 r (c * 4 + 0) z)) : wpX_start post (L, O, A, B, C, s, w, D, t, f, p, r) (nI c) (nI j) z := by
  have e : (nI c).toNatClampNeg = c := nI_clamp (by omega)
  unfold wpX_start
  dsimp only
  rw [e]
  refine xi_1 hc (br_f (by decide) (xn_1 hj (br_f (by decide) (xs_settle hc ⟨vp_in_nI hc (by decide), nm_e (xs_add (d := 0) hc (by omega) pk_us ?_)⟩))))
  rw [cf_uu]
  exact h
theorem ym_start {post : Int32 → SY → Prop} (hc : c < 4) (hj : j < 3) (h : post 0 (L, O, R, C, upd s c 1, upd w c 0, upd t c 0, upd D c (nI 1), upd f (c * 4 + 0) (nI j), upd q (c * 4 + 0) 0, g, cf_r4 r (c * 4 + 0) z)) : wpY_start post (L, O, R, C, s, w, t, D, f, q, g, r) (nI c) (nI j) z := by
  have e : (nI c).toNatClampNeg = c := nI_clamp (by omega)
  unfold wpY_start
  dsimp only
  rw [e]
  refine yi_0 hc (br_t rfl (br_f (nI_pos (by omega)) (br_t (nI_le (b := 2) (by omega) (by decide)) ⟨vp_in_nI hc (by decide), nm_e (ys_push (d := 0) hc (by omega) pk_us ⟨vp_in_nI hc (by decide), nm_e ⟨vp_in_nI hc (by decide), nm_e ⟨vp_in_nI hc (by decide), nm_e ?_⟩⟩⟩)⟩)))
  rw [cf_uu]
  exact h
theorem xm_res {post : Int32 → SX → Prop} (hc : c < 4) (hs : s c = 1 ∨ s c = 2) (h : wX_resume_32 post (nI c) z L O A B C s w D t f p r) : wpX_resume post (L, O, A, B, C, s, w, D, t, f, p, r) (nI c) z := by
  have e : (nI c).toNatClampNeg = c := nI_clamp (by omega)
  unfold wpX_resume
  dsimp only
  rw [e]
  exact xi_1 hc (br_f (by decide) ⟨vp_in_nI hc (by decide), br_c (fun _ => h) (fun n => ⟨vp_in_nI hc (by decide), br_t (hs.resolve_left n) h⟩)⟩)
theorem ym_res {post : Int32 → SY → Prop} (hc : c < 4) (hs : s c = 1 ∨ s c = 2) (h : wY_resume_33 post (nI c) z L O R C s w t D f q g r) : wpY_resume post (L, O, R, C, s, w, t, D, f, q, g, r) (nI c) z := by
  have e : (nI c).toNatClampNeg = c := nI_clamp (by omega)
  unfold wpY_resume
  dsimp only
  rw [e]
  exact yi_0 hc (br_t rfl ⟨vp_in_nI hc (by decide), br_c (fun _ => h) (fun n => ⟨vp_in_nI hc (by decide), br_t (hs.resolve_left n) h⟩)⟩)
theorem cf_resume (hc : c < 4) (hP : cf_P L) (hQ : cf_Q O) (hF : cf_F f) (hA : ∀ c, c < 4 → cf_Co L R f p q g D (s c) c) (hs : s c = 1 ∨ s c = 2) (z : Int32) : ∃ (x : Int32) (u : SX) (v : SY), cf_Rel u v ∧ (∀ post : Int32 → SX → Prop, post x u → wpX_resume post (L, O, cf_A R, cf_B R, C, s, w, D, t, f, p, r) (nI c) z) ∧ (∀ post : Int32 → SY → Prop, post x v → wpY_resume post (L, O, R, C, s, w, t, D, f, q, g, r) (nI c) z) := by
  have e : (nI c).toNatClampNeg = c := nI_clamp (by omega)
  obtain ⟨x, ⟨x1, x2, x3, x4, x5, x6, x7, x8, x9, x10, x11, x12⟩, u, v, hFin, hT, hX, hY⟩ := cf_go (C := C) (w := w) (t := t) (r := r) hc hP hQ hF hA hs z
  have hR := cf_FR hP hQ hFin
  obtain ⟨z', y', D', f', p', q', g', r', hF', hO', hC', rfl, rfl⟩ := hFin
  refine ⟨x, _, _, hR, fun post h => xm_res hc hs ?_, fun post h => ym_res hc hs (hY post h)⟩
  unfold wX_resume_32
  refine hT _ (hX _ ⟨vp_in_nI hc (by decide), ?_⟩)
  rw [e, pk_us]
  exact h
end
section
variable {L O A B R C s w D t f p q g r : Nat → Int32} {c : Nat}
theorem ye_idle {post : Int32 → SY → Prop} {acc y : Int32} (hc : c < 4) (h : post acc (L, O, R, C, s, w, t, D, f, q, g, r)) : ∀ m i n : Nat, i + m = 20 → m < n → (y ≤ nI i ∨ ¬ s c = 2) → wY_echo_28 post (nI c) y n acc (nI i) L O R C s w t D f q g r := by
  have e : (nI c).toNatClampNeg = c := nI_clamp (by omega)
  intro m
  induction m with
  | zero =>
    intro i n hi hn _
    obtain ⟨n, rfl⟩ : ∃ k, n = k + 1 := ⟨n - 1, by omega⟩
    exact br_t (nI_le (a := 20) (by omega) (by omega)) h
  | succ m ih =>
    intro i n hi hn ho
    obtain ⟨n, rfl⟩ : ∃ k, n = k + 1 := ⟨n - 1, by omega⟩
    exact br_f (nI_ge (b := 20) (by omega) (by decide)) (br_c (fun hy => nm_r (nI_1 i) (ih (i + 1) n (by omega) (by omega) (Or.inl (Int32.le_trans hy (nI_le (by omega) (by omega)))))) (fun hy => ⟨vp_in_nI hc (by decide), br_f (by rw [e]; exact ho.resolve_left hy) (nm_r (nI_1 i) (ih (i + 1) n (by omega) (by omega) (Or.inr (ho.resolve_left hy))))⟩))
theorem cf_echo (hc : c < 4) (y : Int32) : ∀ m i : Nat, i + m = 20 → ∀ (acc : Int32) (L O R C s w D t f p q g r : Nat → Int32), cf_P L → cf_Q O → cf_F f → (∀ c, c < 4 → cf_Co L R f p q g D (s c) c) → ∃ (x : Int32) (u : SX) (v : SY), cf_Rel u v ∧ (∀ post : Int32 → SX → Prop, post x u → ∀ n, m < n → wX_echo_27 post (nI c) y n acc (nI i) L O (cf_A R) (cf_B R) C s w D t f p r) ∧ (∀ post : Int32 → SY → Prop, post x v → ∀ n, m < n → wY_echo_28 post (nI c) y n acc (nI i) L O R C s w t D f q g r) := by
  have e : (nI c).toNatClampNeg = c := nI_clamp (by omega)
  intro m
  induction m with
  | zero =>
    intro i hi acc L O R C s w D t f p q g r hP hQ hF hA
    refine ⟨acc, _, _, ⟨L, O, R, C, s, w, D, t, f, p, q, g, r, rfl, rfl, hP, hQ, hF, hA⟩, fun post h n hn => ?_, fun post h n hn => ?_⟩
    · obtain ⟨n, rfl⟩ : ∃ k, n = k + 1 := ⟨n - 1, by omega⟩
      exact br_c (fun _ => h) (fun _ => br_t (nI_le (a := 20) (by omega) (by omega)) h)
    · obtain ⟨n, rfl⟩ : ∃ k, n = k + 1 := ⟨n - 1, by omega⟩
      exact br_t (nI_le (a := 20) (by omega) (by omega)) h
  | succ m ih =>
    intro i hi acc L O R C s w D t f p q g r hP hQ hF hA
    by_cases hy : y ≤ nI i
    · refine ⟨acc, _, _, ⟨L, O, R, C, s, w, D, t, f, p, q, g, r, rfl, rfl, hP, hQ, hF, hA⟩, fun post h n hn => ?_, fun post h n hn => ye_idle hc h (m + 1) i n hi hn (Or.inl hy)⟩
      obtain ⟨n, rfl⟩ : ∃ k, n = k + 1 := ⟨n - 1, by omega⟩
      exact br_t hy h
    · by_cases hs : s c = 2
      · obtain ⟨x, ⟨x1, x2, x3, x4, x5, x6, x7, x8, x9, x10, x11, x12⟩, u, v, hFin, hT, hX, hY⟩ := cf_go (C := C) (w := w) (t := t) (r := r) hc hP hQ hF hA (Or.inr hs) (w (nI c).toNatClampNeg)
        obtain ⟨z', y', D', f', p', q', g', r', hF', hO', hC', rfl, rfl⟩ := hFin
        obtain ⟨a, u, v, hR, hX', hY'⟩ := ih (i + 1) (by omega) (acc + z') L O R C (upd s c x) (upd w c z') D' (upd t c y') f' p' q' g' r' hP hQ hF' (cf_all hO' hC')
        refine ⟨a, u, v, hR, fun post h n hn => ?_, fun post h n hn => ?_⟩
        · obtain ⟨n, rfl⟩ : ∃ k, n = k + 1 := ⟨n - 1, by omega⟩
          exact br_f hy (br_f (nI_ge (b := 20) (by omega) (by decide)) ⟨vp_in_nI hc (by decide), br_t (by rw [e]; exact hs) ⟨vp_in_nI hc (by decide), hT _ (hX _ ⟨vp_in_nI hc (by decide), nm_r (e' := acc + z') (by rw [e, pk_us]) (nm_r (nI_1 i) (hX' post h n (by omega)))⟩)⟩⟩)
        · obtain ⟨n, rfl⟩ : ∃ k, n = k + 1 := ⟨n - 1, by omega⟩
          exact br_f (nI_ge (b := 20) (by omega) (by decide)) (br_f hy ⟨vp_in_nI hc (by decide), br_t (by rw [e]; exact hs) ⟨vp_in_nI hc (by decide), ym_res hc (Or.inr hs) (hY _ ⟨vp_in_nI hc (by decide), nm_r (e' := acc + z') (by rw [e, pk_us]) (nm_r (nI_1 i) (hY' post h n (by omega)))⟩)⟩⟩)
      · refine ⟨acc, _, _, ⟨L, O, R, C, s, w, D, t, f, p, q, g, r, rfl, rfl, hP, hQ, hF, hA⟩, fun post h n hn => ?_, fun post h n hn => ye_idle hc h (m + 1) i n hi hn (Or.inr hs)⟩
        obtain ⟨n, rfl⟩ : ∃ k, n = k + 1 := ⟨n - 1, by omega⟩
        exact br_f hy (br_f (nI_ge (b := 20) (by omega) (by decide)) ⟨vp_in_nI hc (by decide), br_f (by rw [e]; exact hs) h⟩)
end
end
section
section
variable {L O A B R C s w D t f p q g r : Nat → Int32}
theorem xc_r {post : SX → Prop} {F T : Nat} (hF : F ≤ 48) (hT : T ≤ 48) (hd : F = T ∨ F + 16 ≤ T ∨ T + 16 ≤ F) (h : post (L, O, A, B, C, s, w, D, t, f, p, cf_cp r F T 16)) : ∀ m i n : Nat, i + m = 16 → m < n → wX_copyFrames_76 post (nI F) (nI T) n (nI i) L O A B C s w D t f p (cf_cp r F T i) := by
  intro m
  induction m with
  | zero =>
    intro i n hi hn
    obtain ⟨n, rfl⟩ : ∃ k, n = k + 1 := ⟨n - 1, by omega⟩
    have e : i = 16 := by omega
    subst e
    exact br_t (nI_le (a := 16) (by omega) (by decide)) h
  | succ m ih =>
    intro i n hi hn
    obtain ⟨n, rfl⟩ : ∃ k, n = k + 1 := ⟨n - 1, by omega⟩
    have H := ih (i + 1) n (by omega) (by omega)
    refine br_f (nI_ge (b := 16) (by omega) (by decide)) ?_
    rw [nI_add, nI_add, nI_clamp (n := F + i) (by omega), nI_clamp (n := T + i) (by omega)]
    exact ⟨vp_in_nI (by omega) (by decide), vp_in_nI (by omega) (by decide), nm_r (cf_cps (n := 16) (by omega) hd) (nm_r (nI_1 i) H)⟩
theorem xc_f {post : SX → Prop} {F T : Nat} (hF : F < 4) (hT : T < 4) (h : post (L, O, A, B, C, s, w, D, t, cf_cp f (F * 4) (T * 4) 4, cf_cp p (F * 4) (T * 4) 4, cf_cp r (F * 16) (T * 16) 16)) : ∀ m i n : Nat, i + m = 4 → m < n → wX_copyFrames_12 post (nI (F * 4)) (nI (T * 4)) n (nI i) L O A B C s w D t (cf_cp f (F * 4) (T * 4) i) (cf_cp p (F * 4) (T * 4) i) r := by
  intro m
  induction m with
  | zero =>
    intro i n hi hn
    obtain ⟨n, rfl⟩ : ∃ k, n = k + 1 := ⟨n - 1, by omega⟩
    have e : i = 4 := by omega
    subst e
    have H := xc_r (F := F * 16) (T := T * 16) (by omega) (by omega) (by omega) h 16 0 17 (by omega) (by omega)
    rw [cf_cp0] at H
    exact br_t (nI_le (a := 4) (by omega) (by decide)) (nm_r (e' := nI (F * 16)) (by rw [cf_x4]; exact congrArg nI (by omega)) (nm_r (e' := nI (T * 16)) (by rw [cf_x4]; exact congrArg nI (by omega)) ⟨17, H⟩))
  | succ m ih =>
    intro i n hi hn
    obtain ⟨n, rfl⟩ : ∃ k, n = k + 1 := ⟨n - 1, by omega⟩
    have H := ih (i + 1) n (by omega) (by omega)
    refine br_f (nI_ge (b := 4) (by omega) (by decide)) ?_
    rw [nI_add, nI_add, nI_clamp (n := F * 4 + i) (by omega), nI_clamp (n := T * 4 + i) (by omega)]
    exact ⟨vp_in_nI (by omega) (by decide), vp_in_nI (by omega) (by decide), nm_r (cf_cps (n := 4) (by omega) (by omega)) ⟨vp_in_nI (by omega) (by decide), vp_in_nI (by omega) (by decide), nm_r (cf_cps (n := 4) (by omega) (by omega)) (nm_r (nI_1 i) H)⟩⟩
theorem xm_copy {post : Int32 → SX → Prop} {F T : Nat} (hF : F < 4) (hT : T < 4) (h : post (s F) (L, O, A, B, C, upd s T (s F), upd w T (w F), upd D T (D F), upd t T (t F), cf_cp f (F * 4) (T * 4) 4, cf_cp p (F * 4) (T * 4) 4, cf_cp r (F * 16) (T * 16) 16)) : wpX_copy post (L, O, A, B, C, s, w, D, t, f, p, r) (nI F) (nI T) := by
  have e1 : (nI F).toNatClampNeg = F := nI_clamp (by omega)
  have e2 : (nI T).toNatClampNeg = T := nI_clamp (by omega)
  have i1 : vp_in (nI F) 4 := vp_in_nI hF (by decide)
  have i2 : vp_in (nI T) 4 := vp_in_nI hT (by decide)
  unfold wpX_copy
  dsimp only
  rw [e1, e2]
  refine xi_1 hF (br_f (by decide) (xi_1 hT (br_f (by decide) ⟨i1, i2, nm_e ⟨i1, i2, nm_e ⟨i1, i2, nm_e ⟨i1, i2, nm_e ?_⟩⟩⟩⟩)))
  unfold wpX_copyFrames
  dsimp only
  refine nm_r (cf_x4 F) (nm_r (cf_x4 T) ⟨5, ?_⟩)
  have H := xc_f (L := L) (O := O) (A := A) (B := B) (C := C) (s := upd s T (s F)) (w := upd w T (w F)) (D := upd D T (D F)) (t := upd t T (t F)) (f := f) (p := p) (r := r) (post := fun u => vp_in (nI T) 4 ∧ post (u.2.2.2.2.2.1 T) u) hF hT ⟨i2, by
    show post (upd s T (s F) T) _
    rw [pk_us]
    exact h⟩ 4 0 5 (by omega) (by omega)
  rw [cf_cp0, cf_cp0] at H
  exact H
end
section
variable {L O A B R C s w D t f p q g r : Nat → Int32}
theorem yc_r {post : Int32 → SY → Prop} {F T : Nat} (hF : F < 4) (hT : T < 4) (h : post (s T) (L, O, R, C, s, w, t, D, f, q, g, cf_cp r (F * 16) (T * 16) 16)) : ∀ m i n : Nat, i + m = 16 → m < n → wY_copy_141 post (nI F) (nI T) n (nI i) L O R C s w t D f q g (cf_cp r (F * 16) (T * 16) i) := by
  intro m
  induction m with
  | zero =>
    intro i n hi hn
    obtain ⟨n, rfl⟩ : ∃ k, n = k + 1 := ⟨n - 1, by omega⟩
    have e : i = 16 := by omega
    subst e
    refine br_t (nI_le (a := 16) (by omega) (by decide)) ⟨vp_in_nI hT (by decide), ?_⟩
    rw [nI_clamp (by omega)]
    exact h
  | succ m ih =>
    intro i n hi hn
    obtain ⟨n, rfl⟩ : ∃ k, n = k + 1 := ⟨n - 1, by omega⟩
    have H := ih (i + 1) n (by omega) (by omega)
    refine br_f (nI_ge (b := 16) (by omega) (by decide)) ?_
    rw [cf_x16, cf_x16, nI_add, nI_add, nI_clamp (n := F * 16 + i) (by omega), nI_clamp (n := T * 16 + i) (by omega)]
    exact ⟨vp_in_nI (by omega) (by decide), vp_in_nI (by omega) (by decide), nm_r (cf_cps (n := 16) (by omega) (by omega)) (nm_r (nI_1 i) H)⟩
theorem yc_f {post : Int32 → SY → Prop} {F T : Nat} (hF : F < 4) (hT : T < 4) (h : post (s T) (L, O, R, C, s, w, t, D, cf_cp f (F * 4) (T * 4) 4, cf_cp q (F * 4) (T * 4) 4, cf_cp g (F * 4) (T * 4) 4, cf_cp r (F * 16) (T * 16) 16)) : ∀ m i n : Nat, i + m = 4 → m < n → wY_copy_68 post (nI F) (nI T) n (nI i) L O R C s w t D (cf_cp f (F * 4) (T * 4) i) (cf_cp q (F * 4) (T * 4) i) (cf_cp g (F * 4) (T * 4) i) r := by
  intro m
  induction m with
  | zero =>
    intro i n hi hn
    obtain ⟨n, rfl⟩ : ∃ k, n = k + 1 := ⟨n - 1, by omega⟩
    have e : i = 4 := by omega
    subst e
    have H := yc_r (F := F) (T := T) hF hT h 16 0 17 (by omega) (by omega)
    rw [cf_cp0] at H
    exact br_t (nI_le (a := 4) (by omega) (by decide)) ⟨17, H⟩
  | succ m ih =>
    intro i n hi hn
    obtain ⟨n, rfl⟩ : ∃ k, n = k + 1 := ⟨n - 1, by omega⟩
    have H := ih (i + 1) n (by omega) (by omega)
    have a1 : vp_in (nI (F * 4 + i)) 16 := vp_in_nI (by omega) (by decide)
    have a2 : vp_in (nI (T * 4 + i)) 16 := vp_in_nI (by omega) (by decide)
    refine br_f (nI_ge (b := 4) (by omega) (by decide)) ?_
    rw [cf_x4, cf_x4, nI_add, nI_add, nI_clamp (n := F * 4 + i) (by omega), nI_clamp (n := T * 4 + i) (by omega)]
    exact ⟨a1, a2, nm_r (cf_cps (n := 4) (by omega) (by omega)) ⟨a1, a2, nm_r (cf_cps (n := 4) (by omega) (by omega)) ⟨a1, a2, nm_r (cf_cps (n := 4) (by omega) (by omega)) (nm_r (nI_1 i) H)⟩⟩⟩
theorem ym_copy {post : Int32 → SY → Prop} {F T : Nat} (hF : F < 4) (hT : T < 4) (h : post (s F) (L, O, R, C, upd s T (s F), upd w T (w F), upd t T (t F), upd D T (D F), cf_cp f (F * 4) (T * 4) 4, cf_cp q (F * 4) (T * 4) 4, cf_cp g (F * 4) (T * 4) 4, cf_cp r (F * 16) (T * 16) 16)) : wpY_copy post (L, O, R, C, s, w, t, D, f, q, g, r) (nI F) (nI T) := by
  have e1 : (nI F).toNatClampNeg = F := nI_clamp (by omega)
  have e2 : (nI T).toNatClampNeg = T := nI_clamp (by omega)
  have i1 : vp_in (nI F) 4 := vp_in_nI hF (by decide)
  have i2 : vp_in (nI T) 4 := vp_in_nI hT (by decide)
  unfold wpY_copy
  dsimp only
  rw [e1, e2]
  refine yi_0 hF (br_t rfl (yi_0 hT (br_t rfl ⟨i1, i2, nm_e ⟨i1, i2, nm_e ⟨i1, i2, nm_e ⟨i1, i2, nm_e ⟨5, ?_⟩⟩⟩⟩⟩)))
  have H := yc_f (post := post) (L := L) (O := O) (R := R) (C := C) (s := upd s T (s F)) (w := upd w T (w F)) (D := upd D T (D F)) (t := upd t T (t F)) (f := f) (q := q) (g := g) (r := r) hF hT (by rw [pk_us]; exact h) 4 0 5 (by omega) (by omega)
  rw [cf_cp0, cf_cp0, cf_cp0] at H
  exact H
/-- the copy of a coroutine is as good as the coroutine -/
theorem cf_copy {F T : Nat} (hF : F < 4) (hT : T < 4) (hA : ∀ c, c < 4 → cf_Co L R f p q g D (s c) c) : ∀ c, c < 4 → cf_Co L R (cf_cp f (F * 4) (T * 4) 4) (cf_cp p (F * 4) (T * 4) 4) (cf_cp q (F * 4) (T * 4) 4) (cf_cp g (F * 4) (T * 4) 4) (upd D T (D F)) (upd s T (s F) c) c := by
  intro c hc
  by_cases e : c = T
  · subst e
    rw [pk_us]
    exact cf_Coc (fun d hd => ⟨cf_cpi hd, cf_cpi hd, cf_cpi hd, cf_cpi hd⟩) pk_us (hA F hF)
  · rw [pk_un e]
    exact cf_Coc (fun d hd => ⟨cf_cpo (fun _ _ => by omega), cf_cpo (fun _ _ => by omega), cf_cpo (fun _ _ => by omega), cf_cpo (fun _ _ => by omega)⟩) (pk_un e) (hA c hc)
end
section
variable {L O A B R C s w D t f p q g r : Nat → Int32}
theorem xl_0 {post : Int32 → Prop} (hs : ∀ c, c < 4 → s c = 0) (h : post 0) : ∀ m i n : Nat, i + m = 4 → m < n → wX_isLocked_2 post L O A B C s w D t f p r n (nI i) := by
  intro m
  induction m with
  | zero =>
    intro i n hi hn
    obtain ⟨n, rfl⟩ : ∃ k, n = k + 1 := ⟨n - 1, by omega⟩
    exact br_t (nI_le (a := 4) (by omega) (by omega)) h
  | succ m ih =>
    intro i n hi hn
    obtain ⟨n, rfl⟩ : ∃ k, n = k + 1 := ⟨n - 1, by omega⟩
    exact br_f (nI_ge (b := 4) (by omega) (by decide)) ⟨vp_in_nI (by omega) (by decide), br_t (by rw [nI_clamp (by omega)]; exact hs i (by omega)) (nm_r (nI_1 i) (ih (i + 1) n (by omega) (by omega)))⟩
theorem xl_1 {post : Int32 → Prop} (h : post 1) : ∀ m i n : Nat, i + m = 4 → m < n → (∃ k, i ≤ k ∧ k < 4 ∧ ¬ s k = 0) → wX_isLocked_2 post L O A B C s w D t f p r n (nI i) := by
  intro m
  induction m with
  | zero =>
    intro i n hi hn hk
    obtain ⟨k, h1, h2, _⟩ := hk
    omega
  | succ m ih =>
    intro i n hi hn hk
    obtain ⟨n, rfl⟩ : ∃ k, n = k + 1 := ⟨n - 1, by omega⟩
    obtain ⟨k, h1, h2, h3⟩ := hk
    refine br_f (nI_ge (b := 4) (by omega) (by decide)) ⟨vp_in_nI (by omega) (by decide), ?_⟩
    rw [nI_clamp (by omega)]
    refine br_c (fun z => nm_r (nI_1 i) (ih (i + 1) n (by omega) (by omega) ⟨k, ?_, h2, h3⟩)) (fun _ => h)
    have : i ≠ k := fun q => h3 (q ▸ z)
    omega
theorem yl_1 {post : Int32 → SY → Prop} {x1 x2 x3 x4 : Int32} (h : post (-3) (L, O, R, C, s, w, t, D, f, q, g, r)) : ∀ m i n : Nat, i + m = 4 → m < n → (∃ k, i ≤ k ∧ k < 4 ∧ ¬ s k = 0) → wY_emit_24 post x1 x2 x3 x4 L O R C s w t D f q g r n (nI i) := by
  intro m
  induction m with
  | zero =>
    intro i n hi hn hk
    obtain ⟨k, h1, h2, _⟩ := hk
    omega
  | succ m ih =>
    intro i n hi hn hk
    obtain ⟨n, rfl⟩ : ∃ k, n = k + 1 := ⟨n - 1, by omega⟩
    obtain ⟨k, h1, h2, h3⟩ := hk
    refine br_f (nI_ge (b := 4) (by omega) (by decide)) ⟨vp_in_nI (by omega) (by decide), ?_⟩
    rw [nI_clamp (by omega)]
    refine br_c (fun z => nm_r (nI_1 i) (ih (i + 1) n (by omega) (by omega) ⟨k, ?_, h2, h3⟩)) (fun _ => h)
    have : i ≠ k := fun q => h3 (q ▸ z)
    omega
theorem yl_0 {post : Int32 → SY → Prop} {x1 x2 x3 x4 : Int32} (hs : ∀ c, c < 4 → s c = 0) (h : wY_emit_24 post x1 x2 x3 x4 L O R C s w t D f q g r 1 (nI 4)) : ∀ m i n : Nat, i + m = 4 → m < n → wY_emit_24 post x1 x2 x3 x4 L O R C s w t D f q g r n (nI i) := by
  intro m
  induction m with
  | zero =>
    intro i n hi hn
    obtain ⟨n, rfl⟩ : ∃ k, n = k + 1 := ⟨n - 1, by omega⟩
    have e : i = 4 := by omega
    subst e
    have h' := h.1 (nI_le (a := 4) (by omega) (by decide))
    exact br_t (nI_le (a := 4) (by omega) (by decide)) h'
  | succ m ih =>
    intro i n hi hn
    obtain ⟨n, rfl⟩ : ∃ k, n = k + 1 := ⟨n - 1, by omega⟩
    exact br_f (nI_ge (b := 4) (by omega) (by decide)) ⟨vp_in_nI (by omega) (by decide), br_t (by rw [nI_clamp (by omega)]; exact hs i (by omega)) (nm_r (nI_1 i) (ih (i + 1) n (by omega) (by omega)))⟩
/-- an emit that is taken: function j, instruction m -/
theorem xm_emit {post : Int32 → SX → Prop} {j m l : Nat} {x3 x4 : Int32} (hj : j < 3) (hm : m < 8) (hs : ∀ c, c < 4 → s c = 0) (hl : l < 8) (hL : L j = nI l) (h : post (nI l) (upd L j (nI (l + 1)), upd O (j * 8 + l) (nI m), cf_A (upd R (j * 8 + l) x3), cf_B (upd R (j * 8 + l) x3), upd C (j * 8 + l) x4, s, w, D, t, f, p, r)) : wpX_emit post (L, O, cf_A R, cf_B R, C, s, w, D, t, f, p, r) (nI j) (nI m) x3 x4 := by
  have e1 : (nI j).toNatClampNeg = j := nI_clamp (by omega)
  have e2 : (nI (j * 8 + l)).toNatClampNeg = j * 8 + l := nI_clamp (by omega)
  have i1 : vp_in (nI j) 3 := vp_in_nI hj (by decide)
  have i2 : vp_in (nI (j * 8 + l)) 24 := vp_in_nI (by omega) (by decide)
  rw [cf_Au, cf_Bu] at h
  unfold wpX_emit
  dsimp only
  refine xn_1 hj (br_f (by decide) (br_f (nI_pos (by omega)) (br_t (nI_le (b := 7) (by omega) (by decide)) ?_)))
  unfold wpX_isLocked
  dsimp only
  refine ⟨5, xl_0 hs (br_t rfl ⟨i1, ?_⟩) 4 0 5 (by omega) (by omega)⟩
  rw [e1, hL]
  refine nm_e (br_t (nI_lt (b := 8) hl (by decide)) (nm_r (e' := nI (j * 8 + l)) (by rw [cf_x8, nI_add]) ?_))
  rw [e2, nI_1]
  exact ⟨i2, nm_e ⟨i2, nm_e ⟨i2, nm_e ⟨i2, nm_e ⟨i1, nm_e h⟩⟩⟩⟩⟩
theorem ym_emit {post : Int32 → SY → Prop} {j m l : Nat} {x3 x4 : Int32} (hj : j < 3) (hm : m < 8) (hs : ∀ c, c < 4 → s c = 0) (hl : l < 8) (hL : L j = nI l) (h : post (nI l) (upd L j (nI (l + 1)), upd O (j * 8 + l) (nI m), upd R (j * 8 + l) x3, upd C (j * 8 + l) x4, s, w, t, D, f, q, g, r)) : wpY_emit post (L, O, R, C, s, w, t, D, f, q, g, r) (nI j) (nI m) x3 x4 := by
  have e1 : (nI j).toNatClampNeg = j := nI_clamp (by omega)
  have e2 : (nI (j * 8 + l)).toNatClampNeg = j * 8 + l := nI_clamp (by omega)
  have i1 : vp_in (nI j) 3 := vp_in_nI hj (by decide)
  have i2 : vp_in (nI (j * 8 + l)) 24 := vp_in_nI (by omega) (by decide)
  have h8 : ¬ nI l = 8 := fun z => by have := (nI_eq (a := l) (b := 8) (by omega) (by decide)).mp z; omega
  unfold wpY_emit
  dsimp only
  refine br_f (nI_pos (by omega)) (br_f (nI_nlt (b := j) (a := 2) (by omega) (by decide)) (br_f (nI_pos (by omega)) (br_t (nI_le (b := 7) (by omega) (by decide)) ⟨5, yl_0 hs (br_t (nI_le (a := 4) (by omega) (by decide)) ⟨i1, ?_⟩) 4 0 5 (by omega) (by omega)⟩)))
  rw [e1, hL]
  refine nm_e (br_f h8 ?_)
  rw [cf_x8, nI_add, e2, nI_1]
  exact ⟨i2, nm_e ⟨i2, nm_e ⟨i2, nm_e ⟨i1, nm_e h⟩⟩⟩⟩
end
end
section
theorem i_vc0 : wpX_init (fun u => wpY_init (fun v => i_Rel 0 u v)) := by
  have hA : cf_A (fun _ => 0) = fun _ => 0 := funext fun _ => (by decide : (0 : Int32) &&& 3 = 0)
  have hB : cf_B (fun _ => 0) = fun _ => 0 := funext fun _ => (by decide : ((0 : Int32) >>> ((2 : Int32) &&& 31)) &&& 3 = 0)
  have h1 : ¬ (0 : Int32) = 1 := by decide
  have h2 : ¬ (0 : Int32) = 2 := by decide
  unfold wpX_init wpY_init
  exact ⟨fun _ => 0, fun _ => 0, fun _ => 0, fun _ => 0, fun _ => 0, fun _ => 0, fun _ => 0, fun _ => 0, fun _ => 0, fun _ => 0, fun _ => 0, fun _ => 0, fun _ => 0, by rw [hA, hB], rfl, fun _ => ⟨0, by decide, rfl⟩, fun _ => ⟨0, by decide, rfl⟩, fun _ => ⟨0, by decide, rfl⟩, fun _ _ => cf_Co0 h1 h2⟩
theorem i_vc_emit {k : Nat} {u : SX} {v : SY} (I : i_Rel k u v) (hk : k + 5 ≤ 2560) (v1 : Int32) (v2 : Int32) (v3 : Int32) (v4 : Int32) : wpX_emit (fun r u' => wpY_emit (fun r' v' => r' = r ∧ i_Rel (k + 5) u' v') v v1 v2 v3 v4) u v1 v2 v3 v4 := by
  have J : i_Rel (k + 5) u v := I
  obtain ⟨L, O, R, C, s, w, D, t, f, p, q, g, r, rfl, rfl, hP, hQ, hF, hA⟩ := I
  rcases cf_fn v1 with h | ⟨j, hj, rfl⟩
  · unfold wpX_emit wpY_emit
    dsimp only
    exact xn_0 h (br_t rfl (br_c (fun _ => ⟨rfl, J⟩) (fun z => br_t (Int32.lt_of_lt_of_le (by decide) (h.resolve_left z)) ⟨rfl, J⟩)))
  · have hj2 : ¬ (2 : Int32) < nI j := nI_nlt (b := j) (a := 2) (by omega) (by decide)
    rcases cf_op v2 with h | ⟨m, hm, rfl⟩
    · unfold wpX_emit wpY_emit
      dsimp only
      refine xn_1 hj (br_f (by decide) ?_)
      by_cases h0 : v2 < 0
      · exact br_t h0 (br_f (nI_pos (by omega)) (br_f hj2 (br_t h0 ⟨rfl, J⟩)))
      · have h7 : ¬ v2 ≤ 7 := fun z => absurd (Int32.le_trans (h.resolve_left h0) z) (by decide)
        exact br_f h0 (br_f h7 (br_f (nI_pos (by omega)) (br_f hj2 (br_f h0 (br_f h7 ⟨rfl, J⟩)))))
    · have hm7 : nI m ≤ (7 : Int32) := nI_le (b := 7) (by omega) (by decide)
      by_cases hs : ∀ c, c < 4 → s c = 0
      · obtain ⟨l, hl, hL⟩ := hP j
        by_cases h8 : l = 8
        · subst h8
          have e1 : (nI j).toNatClampNeg = j := nI_clamp (by omega)
          have i1 : vp_in (nI j) 3 := vp_in_nI hj (by decide)
          unfold wpX_emit wpY_emit wpX_isLocked
          dsimp only
          rw [e1, hL]
          refine xn_1 hj (br_f (by decide) (br_f (nI_pos (by omega)) (br_t hm7 ⟨5, xl_0 hs (br_t rfl ⟨i1, nm_e (br_f (by decide) ?_)⟩) 4 0 5 (by omega) (by omega)⟩)))
          refine br_f (nI_pos (by omega)) (br_f hj2 (br_f (nI_pos (by omega)) (br_t hm7 ⟨5, yl_0 hs (br_t (nI_le (a := 4) (by omega) (by decide)) ⟨i1, ?_⟩) 4 0 5 (by omega) (by omega)⟩)))
          rw [e1, hL]
          exact nm_e (br_t (by decide) ⟨rfl, J⟩)
        · exact xm_emit hj hm hs (by omega) hL (ym_emit hj hm hs (by omega) hL ⟨rfl, upd L j (nI (l + 1)), upd O (j * 8 + l) (nI m), upd R (j * 8 + l) v3, upd C (j * 8 + l) v4, s, w, D, t, f, p, q, g, r, rfl, rfl, cf_Pu (by omega) hP, cf_Qu hm hQ, hF, fun c hc => cf_Co0 (by rw [hs c hc]; decide) (by rw [hs c hc]; decide)⟩)
      · have hk : ∃ k, 0 ≤ k ∧ k < 4 ∧ ¬ s k = 0 := Classical.byContradiction (fun z => hs (fun c hc => Classical.byContradiction (fun y => z ⟨c, Nat.zero_le c, hc, y⟩)))
        unfold wpX_emit wpY_emit wpX_isLocked
        dsimp only
        refine xn_1 hj (br_f (by decide) (br_f (nI_pos (by omega)) (br_t hm7 ⟨5, xl_1 (br_f (by decide) ?_) 4 0 5 (by omega) (by omega) hk⟩)))
        exact br_f (nI_pos (by omega)) (br_f hj2 (br_f (nI_pos (by omega)) (br_t hm7 ⟨5, yl_1 ⟨rfl, J⟩ 4 0 5 (by omega) (by omega) hk⟩)))
theorem i_vc_start {k : Nat} {u : SX} {v : SY} (I : i_Rel k u v) (hk : k + 5 ≤ 2560) (v1 : Int32) (v2 : Int32) (v3 : Int32) : wpX_start (fun r u' => wpY_start (fun r' v' => r' = r ∧ i_Rel (k + 5) u' v') v v1 v2 v3) u v1 v2 v3 := by
  have J : i_Rel (k + 5) u v := I
  obtain ⟨L, O, R, C, s, w, D, t, f, p, q, g, r, rfl, rfl, hP, hQ, hF, hA⟩ := I
  rcases cf_co v1 with h | ⟨c, hc, rfl⟩
  · unfold wpX_start wpY_start
    dsimp only
    exact xi_0 h (br_t rfl (yi_1 h (br_f (by decide) ⟨rfl, J⟩)))
  · rcases cf_fn v2 with h | ⟨j, hj, rfl⟩
    · unfold wpX_start wpY_start
      dsimp only
      refine xi_1 hc (br_f (by decide) (xn_0 h (br_t rfl (yi_0 hc (br_t rfl ?_)))))
      exact br_c (fun _ => ⟨rfl, J⟩) (fun z => br_f (fun z2 => absurd (Int32.le_trans (h.resolve_left z) z2) (by decide)) ⟨rfl, J⟩)
    · refine xm_start hc hj (ym_start hc hj ⟨rfl, L, O, R, C, upd s c 1, upd w c 0, upd D c (nI 1), upd t c 0, upd f (c * 4 + 0) (nI j), upd p (c * 4 + 0) 0, upd q (c * 4 + 0) 0, g, cf_r4 r (c * 4 + 0) v3, rfl, rfl, hP, hQ, cf_Fu hj hF, cf_all ?_ ⟨fun _ => ⟨0, cf_M0⟩, fun z => absurd z (by decide)⟩⟩)
      exact cf_OD (cf_Of (by omega) (cf_Op (by omega) (cf_Oq (by omega) (fun c' h4 _ => hA c' h4))))
theorem i_vc_resume {k : Nat} {u : SX} {v : SY} (I : i_Rel k u v) (hk : k + 5 ≤ 2560) (v1 : Int32) (v2 : Int32) : wpX_resume (fun r u' => wpY_resume (fun r' v' => r' = r ∧ i_Rel (k + 5) u' v') v v1 v2) u v1 v2 := by
  have J : i_Rel (k + 5) u v := I
  obtain ⟨L, O, R, C, s, w, D, t, f, p, q, g, r, rfl, rfl, hP, hQ, hF, hA⟩ := I
  rcases cf_co v1 with h | ⟨c, hc, rfl⟩
  · unfold wpX_resume wpY_resume
    dsimp only
    exact xi_0 h (br_t rfl (yi_1 h (br_f (by decide) ⟨rfl, J⟩)))
  · by_cases hs : s c = 1 ∨ s c = 2
    · obtain ⟨x, u, v, hR, hX, hY⟩ := cf_resume (C := C) (w := w) (t := t) (r := r) hc hP hQ hF hA hs v2
      exact hX _ (hY _ ⟨rfl, hR⟩)
    · have e : (nI c).toNatClampNeg = c := nI_clamp (by omega)
      have h1 : ¬ s c = 1 := fun z => hs (Or.inl z)
      have h2 : ¬ s c = 2 := fun z => hs (Or.inr z)
      have i1 : vp_in (nI c) 4 := vp_in_nI hc (by decide)
      unfold wpX_resume wpY_resume
      dsimp only
      rw [e]
      exact xi_1 hc (br_f (by decide) ⟨i1, br_f h1 ⟨i1, br_f h2 (yi_0 hc (br_t rfl ⟨i1, br_f h1 ⟨i1, br_f h2 ⟨rfl, J⟩⟩⟩))⟩⟩)
theorem i_vc_echo {k : Nat} {u : SX} {v : SY} (I : i_Rel k u v) (hk : k + 5 ≤ 2560) (v1 : Int32) (v2 : Int32) : wpX_echo (fun r u' => wpY_echo (fun r' v' => r' = r ∧ i_Rel (k + 5) u' v') v v1 v2) u v1 v2 := by
  have J : i_Rel (k + 5) u v := I
  obtain ⟨L, O, R, C, s, w, D, t, f, p, q, g, r, rfl, rfl, hP, hQ, hF, hA⟩ := I
  rcases cf_co v1 with h | ⟨c, hc, rfl⟩
  · unfold wpX_echo wpY_echo
    dsimp only
    exact xi_0 h (br_t rfl (yi_1 h (br_f (by decide) ⟨rfl, J⟩)))
  · have e : (nI c).toNatClampNeg = c := nI_clamp (by omega)
    have i1 : vp_in (nI c) 4 := vp_in_nI hc (by decide)
    obtain ⟨x, u, v, hR, hX, hY⟩ := cf_echo hc v2 20 0 (by omega) 0 L O R C s w D t f p q g r hP hQ hF hA
    unfold wpX_echo wpY_echo
    dsimp only
    rw [e]
    by_cases hs : s c = 2
    · exact xi_1 hc (br_f (by decide) ⟨i1, br_t hs ⟨21, hX _ (yi_0 hc (br_t rfl ⟨i1, br_t hs ⟨21, hY _ ⟨rfl, hR⟩ 21 (by omega)⟩⟩)) 21 (by omega)⟩⟩)
    · exact xi_1 hc (br_f (by decide) ⟨i1, br_f hs (yi_0 hc (br_t rfl ⟨i1, br_f hs ⟨rfl, J⟩⟩))⟩)
theorem i_vc_copy {k : Nat} {u : SX} {v : SY} (I : i_Rel k u v) (hk : k + 5 ≤ 2560) (v1 : Int32) (v2 : Int32) : wpX_copy (fun r u' => wpY_copy (fun r' v' => r' = r ∧ i_Rel (k + 5) u' v') v v1 v2) u v1 v2 := by
  have J : i_Rel (k + 5) u v := I
  obtain ⟨L, O, R, C, s, w, D, t, f, p, q, g, r, rfl, rfl, hP, hQ, hF, hA⟩ := I
  rcases cf_co v1 with h | ⟨F, hc, rfl⟩
  · unfold wpX_copy wpY_copy
    dsimp only
    exact xi_0 h (br_t rfl (yi_1 h (br_f (by decide) ⟨rfl, J⟩)))
  · rcases cf_co v2 with h | ⟨T, hT, rfl⟩
    · unfold wpX_copy wpY_copy
      dsimp only
      exact xi_1 hc (br_f (by decide) (xi_0 h (br_t rfl (yi_0 hc (br_t rfl (yi_1 h (br_f (by decide) ⟨rfl, J⟩)))))))
    · exact xm_copy hc hT (ym_copy hc hT ⟨rfl, L, O, R, C, upd s T (s F), upd w T (w F), upd D T (D F), upd t T (t F), cf_cp f (F * 4) (T * 4) 4, cf_cp p (F * 4) (T * 4) 4, cf_cp q (F * 4) (T * 4) 4, cf_cp g (F * 4) (T * 4) 4, cf_cp r (F * 16) (T * 16) 16, rfl, rfl, hP, hQ, cf_cpF hF, cf_copy hc hT hA⟩)
theorem i_vc_drop {k : Nat} {u : SX} {v : SY} (I : i_Rel k u v) (hk : k + 5 ≤ 2560) (v1 : Int32) : wpX_drop (fun r u' => wpY_drop (fun r' v' => r' = r ∧ i_Rel (k + 5) u' v') v v1) u v1 := by
  have J : i_Rel (k + 5) u v := I
  obtain ⟨L, O, R, C, s, w, D, t, f, p, q, g, r, rfl, rfl, hP, hQ, hF, hA⟩ := I
  rcases cf_co v1 with h | ⟨c, hc, rfl⟩
  · unfold wpX_drop wpY_drop
    dsimp only
    exact xi_0 h (br_t rfl (yi_1 h (br_f (by decide) ⟨rfl, J⟩)))
  · exact xm_drop hc (ym_drop hc ⟨rfl, L, O, R, C, upd s c 0, upd w c 0, upd D c 0, upd t c 0, f, p, q, g, r, rfl, rfl, hP, hQ, hF, cf_all (cf_OD (fun c' h4 _ => hA c' h4)) (cf_Co0 (by decide) (by decide))⟩)
theorem i_vc_state {k : Nat} {u : SX} {v : SY} (I : i_Rel k u v) (hk : k + 5 ≤ 2560) (v1 : Int32) : wpX_state (fun r => wpY_state (fun r' => r' = r ∧ i_Rel (k + 5) u v) v v1) u v1 := by
  have J : i_Rel (k + 5) u v := I
  obtain ⟨L, O, R, C, s, w, D, t, f, p, q, g, r, rfl, rfl, hP, hQ, hF, hA⟩ := I
  unfold wpX_state wpY_state
  dsimp only
  rcases cf_co v1 with h | ⟨c, hc, rfl⟩
  · exact xi_0 h (br_t rfl (yi_1 h (br_f (by decide) ⟨rfl, J⟩)))
  · exact xi_1 hc (br_f (by decide) ⟨vp_in_nI hc (by decide), yi_0 hc (br_t rfl ⟨vp_in_nI hc (by decide), rfl, J⟩)⟩)
theorem i_vc_value {k : Nat} {u : SX} {v : SY} (I : i_Rel k u v) (hk : k + 5 ≤ 2560) (v1 : Int32) : wpX_value (fun r => wpY_value (fun r' => r' = r ∧ i_Rel (k + 5) u v) v v1) u v1 := by
  have J : i_Rel (k + 5) u v := I
  obtain ⟨L, O, R, C, s, w, D, t, f, p, q, g, r, rfl, rfl, hP, hQ, hF, hA⟩ := I
  unfold wpX_value wpY_value
  dsimp only
  rcases cf_co v1 with h | ⟨c, hc, rfl⟩
  · exact xi_0 h (br_t rfl (yi_1 h (br_f (by decide) ⟨rfl, J⟩)))
  · exact xi_1 hc (br_f (by decide) ⟨vp_in_nI hc (by decide), yi_0 hc (br_t rfl ⟨vp_in_nI hc (by decide), rfl, J⟩)⟩)
theorem i_vc_depth {k : Nat} {u : SX} {v : SY} (I : i_Rel k u v) (hk : k + 5 ≤ 2560) (v1 : Int32) : wpX_depth (fun r => wpY_depth (fun r' => r' = r ∧ i_Rel (k + 5) u v) v v1) u v1 := by
  have J : i_Rel (k + 5) u v := I
  obtain ⟨L, O, R, C, s, w, D, t, f, p, q, g, r, rfl, rfl, hP, hQ, hF, hA⟩ := I
  unfold wpX_depth wpY_depth
  dsimp only
  rcases cf_co v1 with h | ⟨c, hc, rfl⟩
  · exact xi_0 h (br_t rfl (yi_1 h (br_f (by decide) ⟨rfl, J⟩)))
  · exact xi_1 hc (br_f (by decide) ⟨vp_in_nI hc (by decide), yi_0 hc (br_t rfl ⟨vp_in_nI hc (by decide), rfl, J⟩)⟩)
theorem i_vc_alike {k : Nat} {u : SX} {v : SY} (I : i_Rel k u v) (hk : k + 5 ≤ 2560) (v1 : Int32) (v2 : Int32) : wpX_alike (fun r => wpY_alike (fun r' => r' = r ∧ i_Rel (k + 5) u v) v v1 v2) u v1 v2 := by
  have J : i_Rel (k + 5) u v := I
  obtain ⟨L, O, R, C, s, w, D, t, f, p, q, g, r, rfl, rfl, hP, hQ, hF, hA⟩ := I
  unfold wpX_alike wpY_alike
  dsimp only
  rcases cf_co v1 with h | ⟨a, ha, rfl⟩
  · exact xi_0 h (br_t rfl (yi_1 h (br_f (by decide) ⟨rfl, J⟩)))
  · rcases cf_co v2 with h | ⟨b, hb, rfl⟩
    · exact xi_1 ha (br_f (by decide) (xi_0 h (br_t rfl (yi_0 ha (br_t rfl (yi_1 h (br_f (by decide) ⟨rfl, J⟩)))))))
    · have i1 : vp_in (nI a) 4 := vp_in_nI ha (by decide)
      have i2 : vp_in (nI b) 4 := vp_in_nI hb (by decide)
      refine xi_1 ha (br_f (by decide) (xi_1 hb (br_f (by decide) ⟨i1, i2, ?_⟩)))
      refine br_c (fun h1 => ⟨i1, i2, br_c (fun h2 => ?_) (fun h2 => ?_)⟩) (fun h1 => ?_)
      · exact yi_0 ha (br_t rfl (yi_0 hb (br_t rfl ⟨i1, i2, br_t h1 ⟨i1, i2, br_t h2 ⟨rfl, J⟩⟩⟩)))
      · exact yi_0 ha (br_t rfl (yi_0 hb (br_t rfl ⟨i1, i2, br_t h1 ⟨i1, i2, br_f h2 ⟨rfl, J⟩⟩⟩)))
      · exact yi_0 ha (br_t rfl (yi_0 hb (br_t rfl ⟨i1, i2, br_f h1 ⟨rfl, J⟩⟩)))
theorem i_vc_steps {k : Nat} {u : SX} {v : SY} (I : i_Rel k u v) (hk : k + 5 ≤ 2560) (v1 : Int32) : wpX_steps (fun r => wpY_steps (fun r' => r' = r ∧ i_Rel (k + 5) u v) v v1) u v1 := by
  have J : i_Rel (k + 5) u v := I
  obtain ⟨L, O, R, C, s, w, D, t, f, p, q, g, r, rfl, rfl, hP, hQ, hF, hA⟩ := I
  unfold wpX_steps wpY_steps
  dsimp only
  rcases cf_co v1 with h | ⟨c, hc, rfl⟩
  · exact xi_0 h (br_t rfl (yi_1 h (br_f (by decide) ⟨rfl, J⟩)))
  · exact xi_1 hc (br_f (by decide) ⟨vp_in_nI hc (by decide), yi_0 hc (br_t rfl ⟨vp_in_nI hc (by decide), rfl, J⟩)⟩)
end
