/-! the class's lay, and what it keeps -/
theorem nI_small {a b : Nat} (ha : a < 2 ^ 31) (hb : b < 2 ^ 31) (h : nI a = nI b) : a = b := (nI_eq ha hb).mp h
theorem TabC.uniq {S : St} {k lg lg' : Nat} {f f' : Nat → Nat} (h : TabC S k lg f) (h' : TabC S k lg' f') (hs : SumOK f lg) (hs' : SumOK f' lg') : lg = lg' ∧ f = f' := by
  have a1 := hs.2.1
  have a2 := hs'.2.1
  refine ⟨nI_small (by omega) (by omega) (h.1.symm.trans h'.1), ?_⟩
  funext s
  by_cases q : s < 256
  · have := hs.le s q
    have := hs'.le s q
    exact nI_small (by omega) (by omega) ((h.2 s q).symm.trans (h'.2 s q))
  · rw [hs.1.2 s (by omega), hs'.1.2 s (by omega)]
theorem min4096 {m : Nat} (h : m ≤ 12) : (if (4096 : Int32) < nI (2 ^ m) then (4096 : Int32) else nI (2 ^ m)) = nI (2 ^ m) := by
  have := pow12 h
  rw [if_neg (by rw [show (4096 : Int32) = nI 4096 from rfl, nI_ltI (by omega) (by omega)]; omega)]
theorem step_or {lg : Nat} (h : lg ≤ 12) : (((nI (2 ^ lg) / (2 : Int32)) + (nI (2 ^ lg) / (8 : Int32))) + (3 : Int32)) ||| (1 : Int32) = nI (stepN lg 1) := by
  have hp := pow12 h
  rw [show nI (2 ^ lg) / (2 : Int32) = nI (2 ^ lg / 2) from pk_div (d := 2) (by omega) (by omega) (by omega), show nI (2 ^ lg) / (8 : Int32) = nI (2 ^ lg / 8) from pk_div (d := 8) (by omega) (by omega) (by omega), nI_add, show nI (2 ^ lg / 2 + 2 ^ lg / 8) + (3 : Int32) = nI (2 ^ lg / 2 + 2 ^ lg / 8 + 3) from nI_add _ 3]
  exact fa_or _ 1
theorem layC_new {fu k lg w : Nat} {f : Nat → Nat} {S : St} {p : Int32} (hfu : 20000 ≤ fu) (hk : zx_tab k = true) (hs : SumOK f lg) (h : TabC S k lg f) (hw : w < 3) : ∃ S', f_X5_lay_L17 fu k p (nI w) S = some (0, S') ∧ LC S' f lg w ∧ S' 9 9 = nI k ∧ S' 9 8 = nI w ∧ Fr [9, 10, 11, 12, 13, 14, 15] S S' := by
  have hr := tab_rng hk
  have hM := pow12 hs.2.1
  obtain ⟨S1, eS1⟩ : ∃ z, z = puS (puS (puS S 9 9 (nI k)) 9 8 (nI w)) 9 7 (nI (2 ^ lg)) := ⟨_, rfl⟩
  have f1 : Fr [9] S S1 := by rw [eS1]; exact ((Fr.rf.pu (by simp)).pu (by simp)).pu (by simp)
  have e97 : S1 9 7 = nI (2 ^ lg) := by rw [eS1, puS_s, upd_s]
  have e98 : S1 9 8 = nI w := by rw [eS1, puS_s, upd_n (by decide), puS_s, upd_s]
  have e99 : S1 9 9 = nI k := by rw [eS1, puS_s, upd_n (by decide), puS_s, upd_n (by decide), puS_s, upd_s]
  have t1 : TabC S1 k lg f := h.of (f1 k (by simp; omega)) (f1 (k + 1) (by simp; omega))
  obtain ⟨S2, a1, a2, a3⟩ := takeShares_s hfu hk t1
  have hpl : f_X6_places k (puS (puS S 9 9 (nI k)) 9 8 (nI w)) = some (nI (2 ^ lg), puS (puS S 9 9 (nI k)) 9 8 (nI w)) := places_s (by rw [puS_n (by omega), puS_n (by omega)]; exact h.1) hs.2.1
  -- the SYMBOLS, then the RANKS
  have fin : ∀ (S3 : St), (∀ p, p < 2 ^ lg → S3 10 p = nI (sy f lg w p)) → Fr [9, 10, 14, 15] S2 S3 → (∀ j, j ≠ 6 → S3 9 j = S2 9 j) → ∃ S', f_X5_giveRanks fu S3 = some (0, S') ∧ LC S' f lg w ∧ S' 9 9 = nI k ∧ S' 9 8 = nI w ∧ Fr [9, 10, 11, 12, 13, 14, 15] S S' := by
    intro S3 b1 b2 b3
    have g9 : ∀ j, j ≠ 6 → S3 9 j = S1 9 j := fun j hj => by rw [b3 j hj, a3 9 (by decide)]
    have g12 : ∀ s, s < 256 → S3 12 s = nI (f s) ∧ S3 13 s = nI (fb_sm f s) := fun s hs' => by rw [b2 12 (by decide), b2 13 (by decide)]; exact a2 s hs'
    obtain ⟨S4, c1, c2, c3, c4⟩ := ranksC_s hfu hs (layOK hs hw) (by rw [g9 7 (by decide)]; exact e97) g12 b1
    refine ⟨S4, c1, ⟨by rw [c4 9 (by decide), g9 7 (by decide)]; exact e97, fun s hs' => by rw [c4 12 (by decide)]; exact (g12 s hs').1, fun s hs' => by rw [c4 13 (by decide)]; exact (g12 s hs').2, c2, c3⟩, by rw [c4 9 (by decide), g9 9 (by decide)]; exact e99, by rw [c4 9 (by decide), g9 8 (by decide)]; exact e98, ?_⟩
    exact (f1.mono (by simp)).tr ((a3.mono (by simp)).tr ((b2.mono (by simp)).tr (c4.mono (by simp))))
  have g98 : S2 9 8 = nI w := by rw [a3 9 (by decide)]; exact e98
  have g97 : S2 9 7 = nI (2 ^ lg) := by rw [a3 9 (by decide)]; exact e97
  have g12 : ArC S2 12 f := fun s hs' => (a2 s hs').1
  have head : ∀ R, (if (S2 9 8) = (2 : Int32) then bnd (f_X5_layEven fu S2) fun r20 S21 => bnd (f_X5_giveRanks fu S21) fun r23 S24 => some ((0 : Int32), S24) else if (S2 9 8) = (1 : Int32) then f_X5_lay_L92 fu k p (((((S2 9 7) / (2 : Int32)) + ((S2 9 7) / (8 : Int32))) + (3 : Int32)) ||| (1 : Int32)) S2 else f_X5_lay_L92 fu k p (1 : Int32) S2) = R → f_X5_lay_L17 fu k p (nI w) S = R := by
    intro R hR
    unfold f_X5_lay_L17
    rw [pin_eq, pin_eq]
    refine e_bd hpl ?_
    rw [min4096 hs.2.1, pin_eq, ← eS1]
    exact e_bd a1 hR
  have w2 : (nI w = (2 : Int32)) ↔ w = 2 := nI_eq (b := 2) (by omega) (by omega)
  have w1 : (nI w = (1 : Int32)) ↔ w = 1 := nI_eq (b := 1) (by omega) (by omega)
  by_cases q : w = 2
  · subst q
    obtain ⟨S3, b1, b2, b3, b4⟩ := evenC_s hfu hs g97 g12
    obtain ⟨S', c1, c2⟩ := fin S3 b2 b3 b4
    refine ⟨S', head _ ?_, c2⟩
    rw [g98, if_pos (w2.mpr rfl)]
    exact e_bd b1 (e_bd c1 rfl)
  · have hst : ∃ S3, f_X5_layByStep fu (nI (stepN lg w)) S2 = some (0, S3) ∧ (∀ p, p < 2 ^ lg → S3 10 p = nI (sy f lg w p)) ∧ Fr [10] S2 S3 := stepC_s hfu hs (by omega) g97 g12
    obtain ⟨S3, b1, b2, b3⟩ := hst
    obtain ⟨S', c1, c2⟩ := fin S3 b2 (b3.mono (by simp)) (fun j _ => by rw [b3 9 (by decide)])
    have tail : f_X5_lay_L92 fu k p (nI (stepN lg w)) S2 = some (0, S') := by
      unfold f_X5_lay_L92
      exact e_bd b1 (e_bd c1 rfl)
    refine ⟨S', head _ ?_, c2⟩
    rw [g98, if_neg (fun z => q (w2.mp z))]
    by_cases q1 : w = 1
    · rw [if_pos (w1.mpr q1), g97, step_or hs.2.1]
      rw [q1] at tail
      exact tail
    · rw [if_neg (fun z => q1 (w1.mp z))]
      rw [show w = 0 by omega] at tail
      exact tail
theorem layC_s {fu k lg w : Nat} {f tc : Nat → Nat} {S : St} (hfu : 20000 ≤ fu) (hp : I_perm S tc) (hc : I_cache S tc) (hk : zx_tab k = true) (hs : SumOK f lg) (h : TabC S k lg f) (hw : w < 3) : ∃ S', f_X5_lay fu k (nI w) S = some (0, S') ∧ LC S' f lg w ∧ S' 9 9 = nI k ∧ S' 9 8 = nI w ∧ Fr [9, 10, 11, 12, 13, 14, 15] S S' := by
  have hr := tab_rng hk
  unfold f_X5_lay
  rcases hc with a | ⟨j, f', lg', w', a1, a2, a3, a4, a5, a6, a7⟩
  · rw [a, if_pos (by decide), if_neg (by rw [show (nI 0).toNatClampNeg = 0 from rfl]; omega)]
    exact layC_new hfu hk hs h hw
  · have hz := hp.1 j a1
    have hrj := tab_rng hz
    rw [a3, (tab_62 hz).1, if_pos (by omega)]
    by_cases e : tc j = k
    · rw [if_pos e, a4]
      by_cases e2 : w = w'
      · subst e2
        rw [if_pos rfl]
        rw [e] at a3 a6
        obtain ⟨rfl, rfl⟩ := h.uniq a6 hs a5
        exact ⟨S, rfl, a7, a3, a4, Fr.rf⟩
      · rw [if_neg (fun q => e2 (nI_small (by omega) (by omega) q))]
        exact layC_new hfu hk hs h hw
    · rw [if_neg e]
      exact layC_new hfu hk hs h hw
/-- the invariant's parts behind lay: only the cells of the spread have changed -/
theorem lay_keeps {S S' : St} {tc lg : Nat → Nat} {f : Nat → Nat → Nat} {L O : List Nat} {k lgk w : Nat} {fk : Nat → Nat} {j : Nat} (h1 : I_rows S L O) (h2 : I_perm S tc) (h3 : I_tab S tc lg f) (h5 : I_laid S lg f) (h6 : I_misc S) (hj : j < 7) (hkj : tc j = k) (hk : zx_tab k = true) (hs : SumOK fk lgk) (ht : TabC S k lgk fk) (hw : w < 3) (hl : LC S' fk lgk w) (h99 : S' 9 9 = nI k) (h98 : S' 9 8 = nI w) (hf : Fr [9, 10, 11, 12, 13, 14, 15] S S') : I_rows S' L O ∧ I_perm S' tc ∧ I_tab S' tc lg f ∧ I_cache S' tc ∧ I_laid S' lg f ∧ I_misc S' := by
  have hr := tab_rng hk
  refine ⟨h1.of (fun k hk => hf k (by simp; omega)) (by rw [hf 43 (by decide)]) (by rw [hf 43 (by decide)]), h2.of (hf 5 (by decide)) (by rw [hf 7 (by decide)]), h3.of h2 (fun k hk => hf k (by simp; omega)), Or.inr ⟨j, fk, lgk, w, hj, hw, by rw [hkj]; exact h99, h98, hs, ?_, hl⟩, h5.of (fun k _ _ => hf k (by simp; omega)), h6.of (hf 7 (by decide)) (hf 0 (by decide)) (hf 40 (by decide)) (hf 56 (by decide)) (fun j _ _ => by rw [hf 43 (by decide)])⟩
  rw [hkj]
  exact ht.of (hf k (by simp; omega)) (hf (k + 1) (by simp; omega))
