section
variable {L O R C s w D tx ty f p q g r : Nat → Int32} {c d : Nat}
/-- a return from the frame at work, both sides; y: whatever the reference's place there has become -/
theorem cf_ret (hc : c < 4) (hF : cf_F f) (hO : cf_O c L R f p q g D s) (hM : cf_M c d L R f p q g D) (z y : Int32) : ∃ (u : SX) (v : SY), cf_Res false c L O R C s w tx ty u v ∧ (∀ post : SX → Prop, post u → wpX_returnFrom post (L, O, cf_A R, cf_B R, C, upd s c 5, w, D, tx, f, p, r) (nI c) z) ∧ (∀ post : SY → Prop, post v → wpY_back post (L, O, R, C, upd s c 1, upd w c 0, ty, D, f, upd q (c * 4 + d) y, g, r) (nI c) z) := by
  obtain ⟨hd, hD, hqp, hS⟩ := hM
  cases d with
  | zero =>
    refine ⟨_, _, ⟨upd D c 0, f, p, upd q (c * 4 + 0) y, g, r, hF, cf_OD (cf_Oq hd hO), Or.inr ⟨3, z, by decide, by decide, cf_Co0 (by decide) (by decide), rfl, rfl⟩⟩, fun post h => xs_ret0 hc hD ?_, fun post h => ys_back0 hc hD ?_⟩
    · rw [cf_uu]; exact h
    · rw [cf_uu, cf_uu]; exact h
  | succ d =>
    obtain ⟨j, i, l, hj, hi, hl, hf, hL, hp, hq, hg⟩ := hS d (by omega)
    obtain ⟨a, ha, hA⟩ := cf_An R (j * 8 + i)
    exact ⟨_, _, ⟨upd D c (nI (d + 1)), f, upd p (c * 4 + d) (nI (i + 1)), upd q (c * 4 + (d + 1)) y, g, upd r ((c * 4 + d) * 4 + a) z, hF, cf_OD (cf_Op (by omega) (cf_Oq hd hO)), Or.inl ⟨d, cf_M2q hd hq (fun e he => hS e (by omega)), fun z => absurd z (by decide), rfl, rfl⟩⟩, fun post h => xs_ret1 hc hd hD hj (by omega) ha hf hp hA h, fun post h => ys_back1 hc hd hD ha (hg.trans hA) h⟩
theorem cf_m8 {m : Nat} (h : m < 8) : m = 0 ∨ m = 1 ∨ m = 2 ∨ m = 3 ∨ m = 4 ∨ m = 5 ∨ m = 6 ∨ m = 7 := by omega
/-- one instruction, both sides -/
theorem cf_carry (hc : c < 4) (hQ : cf_Q O) (hF : cf_F f) (hO : cf_O c L R f p q g D s) (hM : cf_M c d L R f p q g D) (hN : cf_N L f p (c * 4 + d)) : ∃ (u : SX) (v : SY), cf_Res false c L O R C s w tx ty u v ∧ (∀ post : SX → Prop, post u → wpX_carryOut post (L, O, cf_A R, cf_B R, C, upd s c 5, w, D, tx, f, p, r) (nI c)) ∧ (∀ post : SY → Prop, post v → wpY_carryOut post (L, O, R, C, upd s c 1, upd w c 0, ty, D, f, q, g, r) (nI c)) := by
  have hM' := hM
  obtain ⟨hd, hD, hqp, hS⟩ := hM'
  obtain ⟨j, i, l, hj, hi, hl, hf, hL, hp⟩ := hN
  have hi8 : i < 8 := by omega
  have hq : q (c * 4 + d) = nI i := hqp.trans hp
  obtain ⟨a, ha, hA⟩ := cf_An R (j * 8 + i)
  obtain ⟨b, hb, hB⟩ := cf_Bn R (j * 8 + i)
  obtain ⟨m, hm, hOm⟩ := hQ (j * 8 + i)
  rcases cf_m8 hm with rfl | rfl | rfl | rfl | rfl | rfl | rfl | rfl
  · exact ⟨_, _, ⟨D, f, upd p (c * 4 + d) (nI (i + 1)), upd q (c * 4 + d) (nI (i + 1)), g, upd r ((c * 4 + d) * 4 + a) (C (j * 8 + i)), hF, cf_Op hd (cf_Oq hd hO), Or.inl ⟨d, cf_M1 hM, fun z => absurd z (by decide), rfl, rfl⟩⟩, fun post h => xo_0 hc hd hD hj hi8 hf hp ha hA hb hB hOm h, fun post h => yo_0 hc hd hD hj hi8 hf hq ha hA hb hB hOm h⟩
  · exact ⟨_, _, ⟨D, f, upd p (c * 4 + d) (nI (i + 1)), upd q (c * 4 + d) (nI (i + 1)), g, upd r ((c * 4 + d) * 4 + a) (r ((c * 4 + d) * 4 + a) + r ((c * 4 + d) * 4 + b)), hF, cf_Op hd (cf_Oq hd hO), Or.inl ⟨d, cf_M1 hM, fun z => absurd z (by decide), rfl, rfl⟩⟩, fun post h => xo_1 hc hd hD hj hi8 hf hp ha hA hb hB hOm h, fun post h => yo_1 hc hd hD hj hi8 hf hq ha hA hb hB hOm h⟩
  · exact ⟨_, _, ⟨D, f, upd p (c * 4 + d) (nI (i + 1)), upd q (c * 4 + d) (nI (i + 1)), g, upd r ((c * 4 + d) * 4 + a) (r ((c * 4 + d) * 4 + a) - r ((c * 4 + d) * 4 + b)), hF, cf_Op hd (cf_Oq hd hO), Or.inl ⟨d, cf_M1 hM, fun z => absurd z (by decide), rfl, rfl⟩⟩, fun post h => xo_2 hc hd hD hj hi8 hf hp ha hA hb hB hOm h, fun post h => yo_2 hc hd hD hj hi8 hf hq ha hA hb hB hOm h⟩
  · exact ⟨_, _, ⟨D, f, upd p (c * 4 + d) (C (j * 8 + i)), upd q (c * 4 + d) (C (j * 8 + i)), g, r, hF, cf_Op hd (cf_Oq hd hO), Or.inl ⟨d, cf_M1 hM, fun z => absurd z (by decide), rfl, rfl⟩⟩, fun post h => xo_3 hc hd hD hj hi8 hf hp ha hA hb hB hOm h, fun post h => yo_3 hc hd hD hj hi8 hf hq ha hA hb hB hOm h⟩
  · by_cases hr : r ((c * 4 + d) * 4 + a) ≤ 0
    · exact ⟨_, _, ⟨D, f, upd p (c * 4 + d) (nI (i + 1)), upd q (c * 4 + d) (nI (i + 1)), g, r, hF, cf_Op hd (cf_Oq hd hO), Or.inl ⟨d, cf_M1 hM, fun z => absurd z (by decide), rfl, rfl⟩⟩, fun post h => xo_4f hc hd hD hj hi8 hf hp ha hA hb hB hOm hr h, fun post h => yo_4f hc hd hD hj hi8 hf hq ha hA hb hB hOm hr h⟩
    · exact ⟨_, _, ⟨D, f, upd p (c * 4 + d) (C (j * 8 + i)), upd q (c * 4 + d) (C (j * 8 + i)), g, r, hF, cf_Op hd (cf_Oq hd hO), Or.inl ⟨d, cf_M1 hM, fun z => absurd z (by decide), rfl, rfl⟩⟩, fun post h => xo_4t hc hd hD hj hi8 hf hp ha hA hb hB hOm hr h, fun post h => yo_4t hc hd hD hj hi8 hf hq ha hA hb hB hOm hr h⟩
  · refine ⟨_, _, ⟨D, f, p, upd q (c * 4 + d) (nI (i + 1)), upd g (c * 4 + d) (cf_B R (j * 8 + i)), r, hF, cf_Oq hd (cf_Og hd hO), Or.inr ⟨2, r ((c * 4 + d) * 4 + a), by decide, by decide, ⟨fun z => absurd z (by decide), fun _ => ⟨d, cf_V1 hj hi hl hf hL hp hM⟩⟩, rfl, rfl⟩⟩, fun post h => xo_5 hc hd hD hj hi8 hf hp ha hA hb hB hOm ?_, fun post h => yo_5 hc hd hD hj hi8 hf hq ha hA hb hB hOm ?_⟩
    · rw [cf_uu]; exact h
    · rw [cf_uu, cf_uu]; exact h
  · by_cases h3 : d = 3
    · refine ⟨_, _, ⟨upd D c 0, f, p, upd q (c * 4 + d) (nI (i + 1)), g, r, hF, cf_OD (cf_Oq hd hO), Or.inr ⟨4, 0, by decide, by decide, cf_Co0 (by decide) (by decide), rfl, rfl⟩⟩, fun post h => xo_6 hc hd hD hj hi8 hf hp ha hA hb hB hOm (xs_call3 hc (by rw [hD, h3]) ?_), fun post h => yo_63 h3 hc hd hD hj hi8 hf hq ha hA hb hB hOm ?_⟩
      · rw [cf_uu]; exact h
      · rw [cf_uu, cf_uu]; exact h
    · have hd1 : d + 1 < 4 := by omega
      obtain ⟨n, hn, e1, e2, e3⟩ := cf_mod (C (j * 8 + i))
      exact ⟨_, _, ⟨upd D c (nI (d + 1 + 1)), upd f (c * 4 + (d + 1)) (nI n), upd p (c * 4 + (d + 1)) 0, upd (upd q (c * 4 + d) (nI (i + 1))) (c * 4 + (d + 1)) 0, upd g (c * 4 + d) (cf_A R (j * 8 + i)), cf_r4 r (c * 4 + (d + 1)) (r ((c * 4 + d) * 4 + a)), cf_Fu hn hF, cf_OD (cf_Of hd1 (cf_Op hd1 (cf_Oq hd1 (cf_Oq hd (cf_Og hd hO))))), Or.inl ⟨d + 1, cf_M3 hd1 hj hi hl hf hL hp hS, fun z => absurd z (by decide), rfl, rfl⟩⟩, fun post h => xo_6 hc hd hD hj hi8 hf hp ha hA hb hB hOm (xs_call hc hd1 hD e1 e2 h), fun post h => yo_6 hd1 hc hd hD hj hi8 hf hq ha hA hb hB hOm e3 h⟩
  · obtain ⟨u, v, hR, hX, hY⟩ := cf_ret (O := O) (C := C) (w := w) (tx := tx) (ty := ty) (r := r) hc hF hO hM (r ((c * 4 + d) * 4 + a)) (nI (i + 1))
    exact ⟨u, v, hR, fun post h => xo_7 hc hd hD hj hi8 hf hp ha hA hb hB hOm (hX post h), fun post h => yo_7 hc hd hD hj hi8 hf hq ha hA hb hB hOm (hY post h)⟩
end
