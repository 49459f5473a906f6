/-! place and rank -/
theorem ix3 {t w : Nat} : ((3 : Int32) * nI t) + nI w = nI (3 * t + w) := by
  rw [show (3 : Int32) = nI 3 from rfl, pk_mul, nI_add]
theorem layM_s {fu lg t w : Nat} {f : Nat → Nat} {S : St} (hfu : 20000 ≤ fu) (ht7 : t < 7) (hw : w < 3) (hs : SumOK f lg) (ht : TabM S t lg f) (hl : ¬ S 49 (3 * t + w) = 0 → LM S f lg w t) : ∃ S', f_X9_lay fu (nI t) (nI w) S = some (0, S') ∧ LM S' f lg w t ∧ Fr [43, 49, 50, 51, 52, 54, 55] S S' ∧ (∀ j, j ≠ 13 → S' 43 j = S 43 j) ∧ FrB (4096 * (3 * t + w)) S S' ∧ ∀ j, j ≠ 3 * t + w → S' 49 j = S 49 j := by
  have hM := pow12 hs.2.1
  have hB : 4096 * (3 * t + w) + 4096 ≤ 86016 := by omega
  unfold f_X9_lay
  rw [ix3, if_neg (nI_in (by omega) (by omega)), nI_clamp (by omega)]
  by_cases h0 : S 49 (3 * t + w) = 0
  · rw [if_pos h0, if_neg (nI_in2 (by omega) (by omega)), pin_eq, show (4096 : Int32) * nI (3 * t + w) = nI (4096 * (3 * t + w)) from pk_mul 4096 _, pin_eq, if_neg (nI_in (by omega) (by omega)), nI_clamp (by omega), puS_n (show 46 ≠ 49 by decide), ht.1, show (1 : Int32) <<< (nI lg &&& 31) = nI (2 ^ lg) from shl1 hs.2.1, pin_eq]
    obtain ⟨S1, eS1⟩ : ∃ z, z = puS S 49 (3 * t + w) (vp_nar .boolean (1 : Int32)) := ⟨_, rfl⟩
    rw [← eS1]
    have f1 : Fr [49] S S1 := by rw [eS1]; exact Fr.rf.pu (by simp)
    have f49 : ∀ j, j ≠ 3 * t + w → S1 49 j = S 49 j := fun j hj => by rw [eS1, puS_s, upd_n hj]
    have a47 : ShM S1 t f := fun s hs' => by rw [f1 47 (by decide)]; exact ht.2.1 s hs'
    have fin : ∀ S2, (∀ p, p < 2 ^ lg → S2 50 (4096 * (3 * t + w) + p) = nI (sy f lg w p)) → Fr [43, 50, 54, 55] S1 S2 → (∀ j, j ≠ 13 → S2 43 j = S1 43 j) → FrB (4096 * (3 * t + w)) S1 S2 → ∃ S', f_X9_lay_L166 fu (nI t) (nI w) (nI t) (nI (4096 * (3 * t + w))) (nI (2 ^ lg)) S2 = some (0, S') ∧ LM S' f lg w t ∧ Fr [43, 49, 50, 51, 52, 54, 55] S S' ∧ (∀ j, j ≠ 13 → S' 43 j = S 43 j) ∧ FrB (4096 * (3 * t + w)) S S' ∧ ∀ j, j ≠ 3 * t + w → S' 49 j = S 49 j := by
      intro S2 b1 b2 b3 b4
      obtain ⟨S3, c1, c2, c3, c4, c5⟩ := layM_ranks (fu := fu) (p0 := nI t) (p1 := nI w) hfu ht7 hB hs (layOK hs hw) (fun s hs' => by rw [b2 47 (by decide)]; exact a47 s hs') (fun s hs' => by rw [b2 48 (by decide), f1 48 (by decide)]; exact ht.2.2 s hs') b1
      refine ⟨S3, c1, ⟨fun p hp => by rw [c4 50 (by decide)]; exact b1 p hp, c2, c3⟩, (f1.mono (by simp)).tr ((b2.mono (by simp)).tr (c4.mono (by simp))), fun j hj => by rw [c4 43 (by decide), b3 j hj, f1 43 (by decide)], (FrB.of f1 (by decide)).tr (b4.tr c5), fun j hj => by rw [c4 49 (by decide), b2 49 (by decide)]; exact f49 j hj⟩
    have w2 : (nI w = (2 : Int32)) ↔ w = 2 := nI_eq (b := 2) (by omega) (by omega)
    have w1 : (nI w = (1 : Int32)) ↔ w = 1 := nI_eq (b := 1) (by omega) (by omega)
    have w0 : (nI w = 0) ↔ w = 0 := nI_eq (b := 0) (by omega) (by omega)
    by_cases q : w = 2
    · rw [if_pos (w2.mpr q)]
      obtain ⟨S2, b1, b2, b3, b4, b5⟩ := evenM_s (fu := fu) hfu ht7 hB hs a47
      have esy : sy f lg 2 = sy f lg w := by rw [q]
      rw [esy] at b2
      obtain ⟨S', c1, c2⟩ := fin S2 b2 b3 b4 b5
      exact ⟨S', e_bd b1 c1, c2⟩
    · rw [if_neg (fun z => q (w2.mp z))]
      obtain ⟨S2, b1, b2, b3, b4⟩ := stepM_loop (fu := fu) (t := t) (B := 4096 * (3 * t + w)) (w := w) (p0 := nI t) (p1 := nI w) hfu ht7 hB hs (by omega) 256 0 fu S1 (by omega) (by omega) a47 (fun k hk => absurd hk (by simp [fb_sm]))
      obtain ⟨S', c1, c2⟩ := fin S2 b2 (b3.mono (by simp)) (fun j _ => by rw [b3 43 (by decide)]) b4
      have e0 : posN lg w (fb_sm f 0) = 0 := by simp [posN, fb_sm]
      rw [e0] at b1
      have tail : f_X9_lay_L98 fu (nI t) (nI w) (nI t) (nI (4096 * (3 * t + w))) (nI (2 ^ lg)) (nI (stepN lg w)) S1 = some (0, S') := b1.trans c1
      refine ⟨S', ?_, c2⟩
      by_cases q0 : w = 0
      · rw [if_pos (w0.mpr q0)]
        unfold f_X9_lay_L81
        rw [if_neg (fun z => by have := w1.mp z; omega)]
        have e1 : stepN lg w = 1 := by rw [q0]; rfl
        rw [e1] at tail
        exact tail
      · have q1 : w = 1 := by omega
        rw [if_neg (fun z => q0 (w0.mp z)), show nI (2 ^ lg) / (2 : Int32) = nI (2 ^ lg / 2) from pk_div (d := 2) (by omega) (by omega) (by omega), show nI (2 ^ lg) / (8 : Int32) = nI (2 ^ lg / 8) from pk_div (d := 8) (by omega) (by omega) (by omega), nI_add, show nI (2 ^ lg / 2 + 2 ^ lg / 8) + (3 : Int32) = nI (2 ^ lg / 2 + 2 ^ lg / 8 + 3) from nI_add _ 3]
        have hst := (step_inv lg (by have := hs.2.1; omega) hs.1.1).2.2
        rw [q1, hst] at tail
        rw [q1]
        unfold f_X9_lay_L81
        rw [if_pos (show nI 1 = (1 : Int32) from rfl), show nI (2 ^ lg / 2 + 2 ^ lg / 8 + 3) - nI (2 ^ lg / 2 + 2 ^ lg / 8 + 3) / (2 : Int32) * (2 : Int32) = nI ((2 ^ lg / 2 + 2 ^ lg / 8 + 3) % 2) from pk_rem (d := 2) (by omega) (by omega) (by omega)]
        by_cases qq : (2 ^ lg / 2 + 2 ^ lg / 8 + 3) % 2 = 0
        · rw [if_pos qq] at tail
          rw [if_pos (by rw [qq]; rfl), pin_eq, show nI (2 ^ lg / 2 + 2 ^ lg / 8 + 3) + (1 : Int32) = _ from nI_1 _]
          exact tail
        · rw [if_neg qq] at tail
          rw [if_neg (nI_ne0 (by omega) (by omega))]
          exact tail
  · rw [if_neg h0]
    exact ⟨S, rfl, hl h0, Fr.rf, fun _ _ => rfl, FrB.rf, fun _ _ => rfl⟩
/-- the invariant's parts behind the reference's lay of a TABLE 0 .. 5 -/
theorem layM_keeps {S S' : St} {tc lg : Nat → Nat} {f : Nat → Nat → Nat} {L O : List Nat} {t w : Nat} (h1 : I_rows S L O) (h2 : I_perm S tc) (h3 : I_tab S tc lg f) (h4 : I_cache S tc) (h5 : I_laid S lg f) (h6 : I_misc S) (ht : t < 6) (hw : w < 3) (hlg : lg t ≤ 12) (hall : ∀ j, j < 6 → lg j ≤ 12 ∧ (0 < lg j → SumOK (f j) (lg j))) (hl : LM S' (f t) (lg t) w t) (hf : Fr [43, 49, 50, 51, 52, 54, 55] S S') (h43 : ∀ j, j ≠ 13 → S' 43 j = S 43 j) (hB : FrB (4096 * (3 * t + w)) S S') (h49 : ∀ j, j ≠ 3 * t + w → S' 49 j = S 49 j) : I_rows S' L O ∧ I_perm S' tc ∧ I_tab S' tc lg f ∧ I_cache S' tc ∧ I_laid S' lg f ∧ I_misc S' := by
  refine ⟨h1.of (fun k hk => hf k (by simp; omega)) (h43 1 (by decide)) (h43 3 (by decide)), h2.of (hf 5 (by decide)) (by rw [hf 7 (by decide)]), h3.of h2 (fun k hk => hf k (by simp; omega)), h4.of h2 (fun k hk => hf k (by simp; omega)), ?_, h6.of (hf 7 (by decide)) (hf 0 (by decide)) (hf 40 (by decide)) (hf 56 (by decide)) (fun j _ _ => h43 j (by omega))⟩
  intro t' w' ht' hw' hlg' hn
  by_cases e : 3 * t' + w' = 3 * t + w
  · have e1 : t' = t := by omega
    have e2 : w' = w := by omega
    subst e1; subst e2
    exact hl
  · rw [h49 _ e] at hn
    obtain ⟨a, b, c⟩ := h5 t' w' ht' hw' hlg' hn
    have hp := pow12 (hall t' ht').1
    have hs' := (hall t' ht').2 hlg'
    refine ⟨fun p hp' => ?_, fun p hp' => ?_, fun p hp' => ?_⟩
    · rw [hB 50 (Or.inl rfl) _ (by omega)]; exact a p hp'
    · rw [hB 51 (Or.inr (Or.inl rfl)) _ (by omega)]; exact b p hp'
    · have hix := (layOK hs' hw').ix hs'.2.2 hp'
      rw [hB 52 (Or.inr (Or.inr rfl)) _ (by omega)]; exact c p hp'
theorem I_tab.all {S : St} {tc lg : Nat → Nat} {f : Nat → Nat → Nat} (h : I_tab S tc lg f) : ∀ j, j < 6 → lg j ≤ 12 ∧ (0 < lg j → SumOK (f j) (lg j)) := by
  intro j hj
  rcases h j hj with ⟨a, -⟩ | ⟨a, -⟩
  · exact ⟨by omega, fun q => absurd q (by omega)⟩
  · exact ⟨a.2.1, fun _ => a⟩
theorem isSpread_s (x : Int32) (S : St) : (f_X8_isSpread x S = some (0, S) ∧ (x < 0 ∨ (3 : Int32) ≤ x)) ∨ ∃ w, w < 3 ∧ x = nI w ∧ f_X8_isSpread x S = some (1, S) := by
  unfold f_X8_isSpread
  rcases pk_ix x (n := 3) (by omega) with q | q | ⟨t, ht, rfl⟩
  · exact Or.inl ⟨by rw [if_pos q], Or.inl q⟩
  · by_cases h : x < 0
    · exact Or.inl ⟨by rw [if_pos h], Or.inl h⟩
    · refine Or.inl ⟨?_, Or.inr q⟩
      rw [if_neg h, if_pos]
      rw [fa_lt]
      rw [fa_le] at q
      have : (2 : Int32).toInt = 2 := by decide
      have : (nI 3).toInt = 3 := by decide
      omega
  · refine Or.inr ⟨t, ht, rfl, ?_⟩
    simp (disch := omega) only [nI_lit, nI_ltI, nI_leI, Nat.not_lt_zero]
    rw [if_neg (by decide), if_neg (by omega)]
/-- both lay the PLACE that is asked for, or both refuse -/
theorem place_both {fu : Nat} (hfu : 20000 ≤ fu) (x y z : Int32) {S : St} (h : zx_I S) : (f_X8_layForPlace fu x y z S = some (0, S) ∧ f_X9_isPlace x y z S = some (0, S)) ∨ ∃ (t w p lg : Nat) (f : Nat → Nat) (S1 S2 : St), t < 6 ∧ w < 3 ∧ SumOK f lg ∧ p < 2 ^ lg ∧ x = nI t ∧ y = nI w ∧ z = nI p ∧ f_X8_layForPlace fu x y z S = some (1, S1) ∧ f_X9_isPlace x y z S1 = some (1, S1) ∧ f_X9_lay fu x y S1 = some (0, S2) ∧ LC S1 f lg w ∧ LM S2 f lg w t ∧ zx_I S2 := by
  obtain ⟨L, O, tc, lg, f, h1, h2, h3, h4, h5, h6⟩ := id h
  have hall := h3.all
  rcases tab_case h2 h3 rfl x with ⟨a, b⟩ | ⟨t, ht, rfl, hz, a, b, c, d, e⟩
  · left
    exact ⟨e_bd a (by rw [if_pos rfl]), e_bd b (by rw [if_pos rfl])⟩
  · have hq := tab_62 hz
    have hM := pow12 a.2.1
    rcases isSpread_s y S with ⟨g, hy⟩ | ⟨w, hw, rfl, g⟩
    · left
      refine ⟨e_bd d ?_, e_bd e ?_⟩
      · rw [if_neg hq.2, pin_eq, hq.1, if_pos hz]
        exact e_bd g (by rw [if_pos rfl])
      · rw [if_neg (by decide)]
        by_cases h0 : y < 0
        · rw [if_pos h0]
        · rw [if_neg h0, if_pos (hy.resolve_left h0)]
    · have hw0 : ¬ nI w < 0 := nI_pos (by omega)
      have hw3 : ¬ (3 : Int32) ≤ nI w := by rw [show (3 : Int32) = nI 3 from rfl, nI_leI (by omega) (by omega)]; omega
      have hpl := places_s b.1 a.2.1
      have hM2 : (1 : Int32) <<< (nI (lg t) &&& 31) = nI (2 ^ lg t) := shl1 a.2.1
      rcases pk_ix z (n := 2 ^ lg t) (by omega) with q | q | ⟨p, hp, rfl⟩
      · left
        refine ⟨e_bd d ?_, e_bd e ?_⟩
        · rw [if_neg hq.2, pin_eq, hq.1, if_pos hz]
          refine e_bd g ?_
          rw [if_neg (by decide), if_pos q]
        · rw [if_neg (by decide), if_neg hw0, if_neg hw3, if_pos q]
      · left
        by_cases h0 : z < 0
        · refine ⟨e_bd d ?_, e_bd e ?_⟩
          · rw [if_neg hq.2, pin_eq, hq.1, if_pos hz]
            refine e_bd g ?_
            rw [if_neg (by decide), if_pos h0]
          · rw [if_neg (by decide), if_neg hw0, if_neg hw3, if_pos h0]
        · refine ⟨e_bd d ?_, e_bd e ?_⟩
          · rw [if_neg hq.2, pin_eq, hq.1, if_pos hz]
            refine e_bd g ?_
            rw [if_neg (by decide), if_neg h0]
            refine e_bd hpl ?_
            rw [if_neg (fun z2 => by rw [fa_lt] at z2; rw [fa_le] at q; omega)]
          · rw [if_neg (by decide), if_neg hw0, if_neg hw3, if_neg h0, if_neg (nI_in (by omega) (by omega)), nI_clamp (by omega), c.1, hM2, if_pos q]
      · right
        obtain ⟨S1, a1, a2, a3, a4, a5⟩ := layC_s hfu h2 h4 hz a b hw
        obtain ⟨k1, k2, k3, k4, k5, k6⟩ := lay_keeps (j := t) h1 h2 h3 h5 h6 (by omega) rfl hz a b hw a2 a3 a4 a5
        have c1 : TabM S1 t (lg t) (f t) := c.of (a5 46 (by decide)) (a5 47 (by decide)) (a5 48 (by decide))
        obtain ⟨S2, b1, b2, b3, b4, b5, b6⟩ := layM_s (fu := fu) hfu (show t < 7 by omega) hw a c1 (fun hn => k5 t w ht hw (by have := a.1.1; omega) hn)
        obtain ⟨m1, m2, m3, m4, m5, m6⟩ := layM_keeps k1 k2 k3 k4 k5 k6 ht hw a.2.1 hall b2 b3 b4 b5 b6
        refine ⟨t, w, p, lg t, f t, S1, S2, ht, hw, a, hp, rfl, rfl, rfl, e_bd d ?_, ?_, b1, a2, b2, L, O, tc, lg, f, m1, m2, m3, m4, m5, m6⟩
        · rw [if_neg hq.2, pin_eq, hq.1, if_pos hz]
          refine e_bd g ?_
          rw [if_neg (by decide), if_neg (nI_pos (by omega))]
          refine e_bd hpl ?_
          rw [if_pos (nI_lt hp (by omega))]
          exact e_bd a1 rfl
        · have e' : f_X9_isTable (nI t) S1 = some (1, S1) := by
            rcases tab_case (S' := S1) h2 h3 (a5 46 (by decide)) (nI t) with ⟨z1, -⟩ | ⟨t', -, -, -, -, -, -, -, z2⟩
            · rw [d] at z1
              have := Option.some.inj z1
              exact absurd (congrArg Prod.fst this) hq.2
            · exact z2
          refine e_bd e' ?_
          rw [if_neg (by decide), if_neg hw0, if_neg hw3, if_neg (nI_pos (by omega)), if_neg (nI_in (by omega) (by omega)), nI_clamp (by omega), c1.1, hM2, if_neg (by rw [nI_leI (by omega) (by omega)]; omega)]
theorem ix4096 {t w p : Nat} : ((4096 : Int32) * (((3 : Int32) * nI t) + nI w)) + nI p = nI (4096 * (3 * t + w) + p) := by
  rw [ix3, show (4096 : Int32) = nI 4096 from rfl, pk_mul, nI_add]
theorem cell_lo {a s : Nat} (hs : s < 256) (ha : a < 65536) : nI (a * 256 + s) &&& (255 : Int32) = nI s := by
  rw [pk_andN (by omega) 8 (by decide)]
  congr 1
  omega
theorem cell_hi {a s : Nat} (hs : s < 256) (ha : a < 65536) : nI (a * 256 + s) >>> ((8 : Int32) &&& 31) = nI a := by
  rw [show ((8 : Int32) &&& 31) = (nI 8 &&& 31) from rfl, pk_shrN (by omega) (nI 8 &&& 31) 8 (s_l 8 (by omega))]
  congr 1
  omega
theorem rk_bd {f g : Nat → Nat} {lg p : Nat} (hs : SumOK f lg) (hL : LayOK g f (2 ^ lg)) (hp : p < 2 ^ lg) : rkN f g p < 65536 ∧ g p < 256 := by
  have h1 := hL.1 p hp
  have h2 := hs.le _ h1
  have h3 := hL.ct hp
  exact ⟨by unfold rkN; omega, h1⟩
theorem symbolAt_s {S : St} {f : Nat → Nat} {lg w p : Nat} (hs : SumOK f lg) (hw : w < 3) (h : LC S f lg w) (hp : p < 2 ^ lg) : f_X5_symbolAt (nI p) S = some (nI (sy f lg w p), S) := by
  have hM := pow12 hs.2.1
  obtain ⟨r1, r2⟩ := rk_bd hs (layOK hs hw) hp
  unfold f_X5_symbolAt
  rw [if_neg (nI_pos (by omega)), h.1, if_neg (by rw [nI_leI (by omega) (by omega)]; omega), if_neg (nI_in (by omega) (by omega)), nI_clamp (by omega), h.2.2.2.1 p hp, cell_lo r2 r1]
theorem rankAt_s {S : St} {f : Nat → Nat} {lg w p : Nat} (hs : SumOK f lg) (hw : w < 3) (h : LC S f lg w) (hp : p < 2 ^ lg) : f_X5_rankAt (nI p) S = some (nI (rkN f (sy f lg w) p), S) := by
  have hM := pow12 hs.2.1
  obtain ⟨r1, r2⟩ := rk_bd hs (layOK hs hw) hp
  unfold f_X5_rankAt
  rw [if_neg (nI_pos (by omega)), h.1, if_neg (by rw [nI_leI (by omega) (by omega)]; omega), if_neg (nI_in (by omega) (by omega)), nI_clamp (by omega), h.2.2.2.1 p hp, cell_hi r2 r1]
theorem lx_place {fu : Nat} (hfu : 20000 ≤ fu) : lx_h6 fu zx_I := by
  intro x y z S h
  rcases place_both hfu x y z h with ⟨a, b⟩ | ⟨t, w, p, lg, f, S1, S2, ht, hw, hs, hp, rfl, rfl, rfl, a, b, c, d, e, i⟩
  · exact ⟨-1, S, S, e_bd a (by rw [if_pos rfl]), e_bd b (by rw [if_pos rfl]), h⟩
  · have hM := pow12 hs.2.1
    refine ⟨nI (sy f lg w p), S1, S2, e_bd a ?_, e_bd b ?_, i⟩
    · rw [if_neg (by decide)]
      exact e_bd (symbolAt_s hs hw d hp) rfl
    · rw [if_neg (by decide)]
      refine e_bd c ?_
      rw [ix4096, if_neg (nI_in (by omega) (by omega)), nI_clamp (by omega), e.1 p hp]
theorem lx_rank {fu : Nat} (hfu : 20000 ≤ fu) : lx_h7 fu zx_I := by
  intro x y z S h
  rcases place_both hfu x y z h with ⟨a, b⟩ | ⟨t, w, p, lg, f, S1, S2, ht, hw, hs, hp, rfl, rfl, rfl, a, b, c, d, e, i⟩
  · exact ⟨-1, S, S, e_bd a (by rw [if_pos rfl]), e_bd b (by rw [if_pos rfl]), h⟩
  · have hM := pow12 hs.2.1
    refine ⟨nI (rkN f (sy f lg w) p), S1, S2, e_bd a ?_, e_bd b ?_, i⟩
    · rw [if_neg (by decide)]
      exact e_bd (rankAt_s hs hw d hp) rfl
    · rw [if_neg (by decide)]
      refine e_bd c ?_
      rw [ix4096, if_neg (nI_in (by omega) (by omega)), nI_clamp (by omega), e.2.1 p hp]
