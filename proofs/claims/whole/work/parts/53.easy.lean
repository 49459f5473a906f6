/-! the calls that only read, and those that move rows -/
theorem isTN_s (x : Int32) (S : St) : (f_X8_isTableNumber x S = some (0, S) ∧ (x < 0 ∨ (6 : Int32) ≤ x)) ∨ ∃ t, t < 6 ∧ x = nI t ∧ f_X8_isTableNumber x S = some (1, S) := by
  unfold f_X8_isTableNumber
  rcases pk_ix x (n := 6) (by omega) with q | q | ⟨t, ht, rfl⟩
  · exact Or.inl ⟨by rw [if_pos q], Or.inl q⟩
  · by_cases h : x < 0
    · exact Or.inl ⟨by rw [if_pos h], Or.inl h⟩
    · exact Or.inl ⟨by rw [if_neg h, if_pos (show (6 : Int32) ≤ x from q)], Or.inr q⟩
  · refine Or.inr ⟨t, ht, rfl, ?_⟩
    simp (disch := omega) only [nI_lit, nI_ltI, nI_leI, Nat.not_lt_zero]
    rw [if_neg (by decide), if_neg (by omega)]
theorem isSym_s (x : Int32) (S : St) : (f_X8_isSymbol x S = some (0, S) ∧ (x < 0 ∨ (256 : Int32) ≤ x)) ∨ ∃ t, t < 256 ∧ x = nI t ∧ f_X8_isSymbol x S = some (1, S) := by
  unfold f_X8_isSymbol
  rcases pk_ix x (n := 256) (by omega) with q | q | ⟨t, ht, rfl⟩
  · exact Or.inl ⟨by rw [if_pos q], Or.inl q⟩
  · by_cases h : x < 0
    · exact Or.inl ⟨by rw [if_pos h], Or.inl h⟩
    · exact Or.inl ⟨by rw [if_neg h, if_pos (show (256 : Int32) ≤ x from q)], Or.inr q⟩
  · refine Or.inr ⟨t, ht, rfl, ?_⟩
    simp (disch := omega) only [nI_lit, nI_ltI, nI_leI, Nat.not_lt_zero]
    rw [if_neg (by decide), if_neg (by omega)]
theorem lg_bd {f : Nat → Nat} {lg : Nat} (h : SumOK f lg) : 1 ≤ lg ∧ lg ≤ 12 := ⟨h.1.1, h.2.1⟩
theorem tab_62 {k : Nat} (h : zx_tab k = true) : (nI k).toNatClampNeg = k ∧ ¬ nI k = 0 := by
  have := tab_rng h
  exact ⟨nI_clamp (by omega), nI_ne0 (by omega) (by omega)⟩
/-- a TABLE that is there, or none: for both -/
theorem tab_case {S S' : St} {tc lg : Nat → Nat} {f : Nat → Nat → Nat} (hp : I_perm S tc) (ht : I_tab S tc lg f) (h46 : S' 46 = S 46) (x : Int32) :
    (f_X8_tableOrNull x S = some (0, S) ∧ f_X9_isTable x S' = some (0, S')) ∨ ∃ t, t < 6 ∧ x = nI t ∧ zx_tab (tc t) = true ∧ SumOK (f t) (lg t) ∧ TabC S (tc t) (lg t) (f t) ∧ TabM S t (lg t) (f t) ∧ f_X8_tableOrNull x S = some (nI (tc t), S) ∧ f_X9_isTable x S' = some (1, S') := by
  rcases isTN_s x S with ⟨h, hx⟩ | ⟨t, h6, rfl, h⟩
  · left
    refine ⟨?_, ?_⟩
    · unfold f_X8_tableOrNull
      exact e_bd h (by rw [if_pos rfl])
    · unfold f_X9_isTable
      by_cases h0 : x < 0
      · rw [if_pos h0]
      · rw [if_neg h0, if_pos (hx.resolve_left h0)]
  · have hz := hp.1 t (by omega)
    have hq := tab_62 hz
    have e5 : (S 5 (nI t).toNatClampNeg).toNatClampNeg = tc t := by rw [nI_clamp (by omega), hp.2.2.1 t h6]; exact hq.1
    have gC : ∀ r, f_X6_isThere (tc t) S = some (r, S) → f_X8_tableOrNull (nI t) S = (if r = 0 then some (0, S) else some (nI (tc t), S)) := by
      intro r hr
      unfold f_X8_tableOrNull
      refine e_bd h ?_
      rw [if_neg (by decide)]
      refine e_no ?_ ?_
      · rw [nI_clamp (by omega)]
        simp (disch := omega) only [nI_lit, nI_ltI, Nat.not_lt_zero, false_or]
        omega
      · rw [pin_eq, e5, if_pos hz]
        exact e_bd hr rfl
    have gM : f_X9_isTable (nI t) S' = (if S 46 t ≤ 0 then some (0, S') else some (1, S')) := by
      unfold f_X9_isTable
      rw [h46]
      simp (disch := omega) only [nI_lit, nI_ltI, nI_leI, nI_clamp, Nat.not_lt_zero, false_or]
      rw [if_neg (by decide), if_neg (by omega), if_neg (by omega)]
      rfl
    rcases ht t h6 with ⟨-, b, c⟩ | ⟨a, b, c⟩
    · left
      refine ⟨?_, ?_⟩
      · rw [gC 0 (by unfold f_X6_isThere; rw [b, if_pos (by decide)]), if_pos rfl]
      · rw [gM, c, if_pos (by decide)]
    · right
      have hl := lg_bd a
      have hn : ¬ nI (lg t) ≤ 0 := nI_nle (by omega) (by omega)
      refine ⟨t, h6, rfl, hz, a, b, c, ?_, ?_⟩
      · rw [gC 1 (by unfold f_X6_isThere; rw [b.1, if_neg hn]), if_neg (by decide)]
      · rw [gM, c.1, if_neg hn]
theorem lx_log {fu : Nat} : lx_h3 fu zx_I := by
  intro x S h
  obtain ⟨L, O, tc, lg, f, h1, h2, h3, h4⟩ := id h
  rcases tab_case h2 h3 rfl x with ⟨a, b⟩ | ⟨t, ht, rfl, hz, a, b, c, d, e⟩
  · exact ⟨-1, S, S, e_bd a (by rw [if_pos rfl]), e_bd b (by rw [if_pos rfl]), h⟩
  · have hq := tab_62 hz
    refine ⟨nI (lg t), S, S, e_bd d ?_, e_bd e ?_, h⟩
    · rw [if_neg hq.2, pin_eq, hq.1, if_pos hz, b.1]
    · rw [if_neg (by decide), if_neg (nI_in (by omega) (by omega)), nI_clamp (by omega), c.1]
theorem shareOf_s {S : St} {k lg : Nat} {f : Nat → Nat} (h : TabC S k lg f) {s : Nat} (hs : s < 256) : f_X6_shareOf k (nI s) S = some (nI (f s), S) := by
  unfold f_X6_shareOf
  rcases isSym_s (nI s) S with ⟨a, q⟩ | ⟨t, ht, e, a⟩
  · exfalso
    rcases q with q | q
    · exact nI_pos (by omega) q
    · have q : nI 256 ≤ nI s := q
      rw [nI_leI (by omega) (by omega)] at q; omega
  · refine e_bd a ?_
    rw [if_neg (by decide), if_neg (nI_in hs (by omega)), nI_clamp (by omega), h.2 s hs]
theorem lx_share {fu : Nat} : lx_h4 fu zx_I := by
  intro x y S h
  obtain ⟨L, O, tc, lg, f, h1, h2, h3, h4⟩ := id h
  rcases tab_case h2 h3 rfl x with ⟨a, b⟩ | ⟨t, ht, rfl, hz, a, b, c, d, e⟩
  · exact ⟨-1, S, S, e_bd a (by rw [if_pos rfl]), e_bd b (by rw [if_pos rfl]), h⟩
  · have hq := tab_62 hz
    rcases isSym_s y S with ⟨g, hy⟩ | ⟨s, hs, rfl, g⟩
    · refine ⟨-1, S, S, e_bd d ?_, e_bd e ?_, h⟩
      · rw [if_neg hq.2, pin_eq, hq.1, if_pos hz]
        exact e_bd g (by rw [if_pos rfl])
      · rw [if_neg (by decide)]
        by_cases h0 : y < 0
        · rw [if_pos h0]
        · rw [if_neg h0, if_pos (hy.resolve_left h0)]
    · refine ⟨nI (f t s), S, S, e_bd d ?_, e_bd e ?_, h⟩
      · rw [if_neg hq.2, pin_eq, hq.1, if_pos hz]
        refine e_bd g ?_
        rw [if_neg (by decide)]
        exact e_bd (shareOf_s b hs) rfl
      · rw [if_neg (by decide)]
        simp (disch := omega) only [nI_lit, nI_ltI, nI_leI, nI_clamp, nI_add, pk_mul, Nat.not_lt_zero, false_or]
        rw [if_neg (by decide), if_neg (by omega), if_neg (by omega), c.2.1 s hs]
theorem startOf_loop {fu k lg : Nat} {f : Nat → Nat} {p : Int32} {S : St} (h : TabC S k lg f) {s : Nat} (hs : s < 256) (hb : fb_sm f 256 < 2 ^ 31) : ∀ (d i n : Nat), i + d = s → d < n → f_X6_startOf_L4 fu k p n (nI s) (nI (fb_sm f i)) (nI i) S = some (nI (fb_sm f s), S) := by
  intro d
  induction d with
  | zero =>
    intro i n h1 h2
    obtain ⟨n, rfl⟩ : ∃ m, n = m + 1 := ⟨n - 1, by omega⟩
    obtain rfl : i = s := by omega
    rw [f_X6_startOf_L4_s, if_pos (nI_le (by omega) (by omega))]
  | succ d ih =>
    intro i n h1 h2
    obtain ⟨n, rfl⟩ : ∃ m, n = m + 1 := ⟨n - 1, by omega⟩
    rw [f_X6_startOf_L4_s]
    simp (disch := omega) only [pin_eq, nI_lit, nI_ltI, nI_leI, nI_clamp, Nat.not_lt_zero, false_or]
    rw [if_neg (by omega), if_neg (by omega), if_neg (by omega), h.2 i (by omega), nI_add, nI_add]
    exact ih (i + 1) n (by omega) (by omega)
theorem startOf_s {fu k lg : Nat} {f : Nat → Nat} {S : St} (hf : 20000 ≤ fu) (h : TabC S k lg f) (hb : fb_sm f 256 < 2 ^ 31) {s : Nat} (hs : s < 256) : f_X6_startOf fu k (nI s) S = some (nI (fb_sm f s), S) := startOf_loop h hs hb s 0 fu (by omega) (by omega)
theorem sum_bd {f : Nat → Nat} {lg : Nat} (h : SumOK f lg) : fb_sm f 256 ≤ 4096 := by
  rw [h.2.2]
  exact Nat.le_trans (Nat.pow_le_pow_right (n := 2) (by decide) h.2.1) (by decide)
theorem lx_start {fu : Nat} (hf : 20000 ≤ fu) : lx_h5 fu zx_I := by
  intro x y S h
  obtain ⟨L, O, tc, lg, f, h1, h2, h3, h4⟩ := id h
  rcases tab_case h2 h3 rfl x with ⟨a, b⟩ | ⟨t, ht, rfl, hz, a, b, c, d, e⟩
  · exact ⟨-1, S, S, e_bd a (by rw [if_pos rfl]), e_bd b (by rw [if_pos rfl]), h⟩
  · have hq := tab_62 hz
    have hb := sum_bd a
    rcases isSym_s y S with ⟨g, hy⟩ | ⟨s, hs, rfl, g⟩
    · refine ⟨-1, S, S, e_bd d ?_, e_bd e ?_, h⟩
      · rw [if_neg hq.2, pin_eq, hq.1, if_pos hz]
        exact e_bd g (by rw [if_pos rfl])
      · rw [if_neg (by decide)]
        by_cases h0 : y < 0
        · rw [if_pos h0]
        · rw [if_neg h0, if_pos (hy.resolve_left h0)]
    · refine ⟨nI (fb_sm (f t) s), S, S, e_bd d ?_, e_bd e ?_, h⟩
      · rw [if_neg hq.2, pin_eq, hq.1, if_pos hz]
        refine e_bd g ?_
        rw [if_neg (by decide)]
        exact e_bd (startOf_s hf b (by omega) hs) rfl
      · rw [if_neg (by decide)]
        simp (disch := omega) only [nI_lit, nI_ltI, nI_leI, nI_clamp, nI_add, pk_mul, Nat.not_lt_zero, false_or]
        rw [if_neg (by decide), if_neg (by omega), if_neg (by omega), c.2.2 s hs]
theorem lx_fault {fu : Nat} : lx_h10 fu zx_I := by
  intro x S h
  obtain ⟨L, O, tc, lg, f, h1, h2, h3, h4, h5, h6⟩ := id h
  obtain ⟨-, m1, m2, -⟩ := h6
  unfold f_X8_fault f_X9_fault
  by_cases q : x = 0
  · exact ⟨_, S, S, by rw [if_pos q], by rw [if_pos q, m1], h⟩
  · by_cases q2 : x = (1 : Int32)
    · exact ⟨_, S, S, by rw [if_neg q, if_pos q2], by rw [if_neg q, if_pos q2, m2], h⟩
    · exact ⟨_, S, S, by rw [if_neg q, if_neg q2], by rw [if_neg q, if_neg q2], h⟩
theorem lx_gone {fu : Nat} : lx_h15 fu zx_I := by
  intro x S h
  obtain ⟨L, O, tc, lg, f, h1, h2, h3, h4, h5, h6⟩ := id h
  obtain ⟨-, -, -, m1, m2, -⟩ := h6
  unfold f_X8_gone f_X9_gone
  by_cases q : x = 0
  · exact ⟨_, S, S, by rw [if_pos q], by rw [if_pos q, m1], h⟩
  · by_cases q2 : x = (1 : Int32)
    · exact ⟨_, S, S, by rw [if_neg q, if_pos q2], by rw [if_neg q, if_pos q2, m2], h⟩
    · exact ⟨_, S, S, by rw [if_neg q, if_neg q2], by rw [if_neg q, if_neg q2], h⟩
theorem lx_written {fu : Nat} : lx_h11 fu zx_I := by
  intro x S h
  obtain ⟨L, O, tc, lg, f, h1, h2⟩ := id h
  exact ⟨_, S, S, e_bd (byteAt_s h1.2.2.1 x) rfl, writtenM_s h1.2.2.2 h1.2.2.1.2.1 x, h⟩
theorem lx_look {fu : Nat} : lx_h18 fu zx_I := by
  intro x S h
  obtain ⟨L, O, tc, lg, f, h1, h2, h3, h4, h5, h6⟩ := id h
  have hm := h6.2.2.2.2.2
  unfold f_X8_look f_X9_look f_X7_figure
  rcases pk_ix x (n := 6) (by omega) with q | q | ⟨j, hj, rfl⟩
  · exact ⟨-1, S, S, e_bd (by rw [if_pos q]) rfl, by rw [if_pos q], h⟩
  · by_cases h0 : x < 0
    · exact ⟨-1, S, S, e_bd (by rw [if_pos h0]) rfl, by rw [if_pos h0], h⟩
    · refine ⟨-1, S, S, e_bd (by rw [if_neg h0, if_pos (show (6 : Int32) ≤ x from q)]) rfl, ?_, h⟩
      rw [if_neg h0, if_neg]
      intro q2
      rw [fa_le] at q q2
      have : (5 : Int32).toInt = 5 := by decide
      have : (nI 6).toInt = 6 := by decide
      omega
  · refine ⟨S 40 j, S, S, e_bd ?_ rfl, ?_, h⟩
    · simp (disch := omega) only [nI_lit, nI_ltI, nI_leI, nI_clamp, Nat.not_lt_zero, false_or]
      rw [if_neg (by decide), if_neg (by omega), if_neg (by omega)]
    · simp (disch := omega) only [nI_lit, nI_ltI, nI_leI, nI_clamp, Nat.not_lt_zero, false_or]
      rw [if_neg (by decide), if_pos (by omega), if_neg (by omega), hm j hj]

theorem lx_feed {fu : Nat} (hf : 20000 ≤ fu) : lx_h0 fu zx_I := by
  intro a b c d e S h
  obtain ⟨L, O, tc, lg, f, ⟨r1, r2, r3, r4⟩, h2, h3, h4, h5, h6⟩ := id h
  have hl := r1.2.1
  by_cases q : L.length + 20 ≤ 4000
  · obtain ⟨S1, a1, a2, a3⟩ := feedC_s hf r1 q a b c d e
    have m1 : RowM S1 44 1 L := r2.of (by rw [a3 43 (by decide)]) (a3 44 (by decide))
    obtain ⟨S2, b1, b2, b3, b4⟩ := feedM_s hf m1 q a b c d e
    have k2 : ∀ k, k ∉ [1, 2, 43, 44] → S2 k = S k := fun k hk => (b3 k (by simp at hk ⊢; omega)).trans (a3 k (by simp at hk ⊢; omega))
    have k43 : ∀ j, j ≠ 1 → S2 43 j = S 43 j := fun j hj => (b4 j hj).trans (by rw [a3 43 (by decide)])
    refine ⟨_, S1, S2, a1, b1, L ++ fbs a b c d e, O, tc, lg, f, ⟨a2.of (b3 1 (by decide)) (b3 2 (by decide)), b2, r3.of (k2 3 (by decide)) (k2 4 (by decide)), r4.of (k43 3 (by decide)) (k2 45 (by decide))⟩, h2.of (k2 5 (by decide)) (by rw [k2 7 (by decide)]), h3.of h2 (fun k hk => k2 k (by simp; omega)), h4.of h2 (fun k hk => k2 k (by simp; omega)), h5.of (fun k h1 h2 => k2 k (by simp; omega)), h6.of (k2 7 (by decide)) (k2 0 (by decide)) (k2 40 (by decide)) (k2 56 (by decide)) (fun j h1 _ => k43 j (by omega))⟩
  · refine ⟨-1, S, S, ?_, ?_, h⟩
    · unfold f_X8_feed
      rw [r1.1]
      simp (disch := omega) only [nI_lit, nI_leI, nI_add]
      rw [if_neg q]
    · unfold f_X9_feed
      rw [r2.1]
      simp (disch := omega) only [nI_lit, nI_leI, nI_add]
      rw [if_neg q]
theorem getD_take {L : List Nat} {j n : Nat} (h : j < n) : (L.take n).getD j 0 = L.getD j 0 := by
  simp [List.getD, List.getElem?_take, h]
theorem lx_end {fu : Nat} : lx_h1 fu zx_I := by
  intro x S h
  obtain ⟨L, O, tc, lg, f, ⟨r1, r2, r3, r4⟩, h2, h3, h4, h5, h6⟩ := id h
  have hl := r1.2.1
  unfold f_X8_end f_X9_end
  rcases pk_ix x (n := L.length + 1) (by omega) with q | q | ⟨n, hn, rfl⟩
  · exact ⟨-1, S, S, by rw [if_pos q], by rw [if_pos q], h⟩
  · by_cases h0 : x < 0
    · exact ⟨-1, S, S, by rw [if_pos h0], by rw [if_pos h0], h⟩
    · have q2 : ¬ x ≤ nI L.length := by
        rw [fa_le] at q ⊢
        rw [nI_toInt (by omega)] at q ⊢
        omega
      exact ⟨-1, S, S, by rw [if_neg h0, r1.1, if_neg q2], by rw [if_neg h0, r2.1, if_neg q2], h⟩
  · have e1 : ¬ nI n < 0 := nI_pos (by omega)
    have e2 : nI n ≤ nI L.length := nI_le (by omega) (by omega)
    refine ⟨nI n, puS S 1 1 (nI n), puS (puS S 1 1 (nI n)) 43 1 (nI n), by rw [if_neg e1, r1.1, if_pos e2, pin_eq], by rw [if_neg e1, puS_n (by decide), r2.1, if_pos e2, pin_eq], ?_⟩
    have k2 : ∀ k, k ∉ [1, 43] → puS (puS S 1 1 (nI n)) 43 1 (nI n) k = S k := fun k hk => by
      rw [puS_n (by simp at hk; omega), puS_n (by simp at hk; omega)]
    have k43 : ∀ j, j ≠ 1 → puS (puS S 1 1 (nI n)) 43 1 (nI n) 43 j = S 43 j := fun j hj => by
      rw [puS_s, upd_n hj, puS_n (by decide)]
    have hlen : (L.take n).length = n := by simp; omega
    refine ⟨L.take n, O, tc, lg, f, ⟨⟨?_, by omega, fun b hb => r1.2.2.1 b (List.mem_of_mem_take hb), ?_, ?_⟩, ⟨?_, ?_⟩, r3.of (k2 3 (by decide)) (k2 4 (by decide)), r4.of (k43 3 (by decide)) (k2 45 (by decide))⟩, h2.of (k2 5 (by decide)) (by rw [k2 7 (by decide)]), h3.of h2 (fun k hk => k2 k (by simp; omega)), h4.of h2 (fun k hk => k2 k (by simp; omega)), h5.of (fun k h1 h2 => k2 k (by simp; omega)), h6.of (k2 7 (by decide)) (k2 0 (by decide)) (k2 40 (by decide)) (k2 56 (by decide)) (fun j h1 _ => k43 j (by omega))⟩
    · rw [puS_n (by decide), puS_s, upd_s, hlen]
    · intro j hj
      rw [hlen] at hj
      rw [getD_take hj, k2 2 (by decide)]
      exact r1.2.2.2.1 j (by omega)
    · intro j hj
      rw [k2 2 (by decide)]
      exact r1.2.2.2.2 j hj
    · rw [puS_s, upd_s, hlen]
    · intro j hj
      rw [hlen] at hj
      rw [getD_take hj, k2 44 (by decide)]
      exact r2.2 j (by omega)
theorem takeM_loop {fu : Nat} {O : List Nat} (ho : O.length ≤ 4000) : ∀ (d i n : Nat) (S : St), i + d = O.length → d < n → RowM S 45 3 O → (∀ j, j < i → S 44 j = nI (O.getD j 0)) → ∃ S', f_X9_take_L2 fu n (nI i) S = some (nI O.length, S') ∧ RowM S' 44 1 O ∧ Fr [43, 44] S S' ∧ ∀ j, j ≠ 1 → S' 43 j = S 43 j := by
  intro d
  induction d with
  | zero =>
    intro i n S h1 h2 h3 h4
    obtain ⟨n, rfl⟩ : ∃ m, n = m + 1 := ⟨n - 1, by omega⟩
    rw [f_X9_take_L2_s, h3.1, if_pos (nI_le (by omega) (by omega)), pin_eq]
    refine ⟨_, by rw [puS_s, upd_s], ⟨by rw [puS_s, upd_s], fun j hj => by rw [puS_n (by decide)]; exact h4 j (by omega)⟩, Fr.rf.pu (by simp), fun j hj => by rw [puS_s, upd_n hj]⟩
  | succ d ih =>
    intro i n S h1 h2 h3 h4
    obtain ⟨n, rfl⟩ : ∃ m, n = m + 1 := ⟨n - 1, by omega⟩
    rw [f_X9_take_L2_s, h3.1]
    simp (disch := omega) only [pin_eq, nI_lit, nI_ltI, nI_leI, nI_clamp, nI_add, Nat.not_lt_zero, false_or]
    rw [if_neg (by omega), if_neg (by omega), if_neg (by omega), h3.2 i (by omega)]
    obtain ⟨S', g1, g2, g3, g4⟩ := ih (i + 1) n (puS S 44 i (nI (O.getD i 0))) (by omega) (by omega) (h3.of (by rw [puS_n (by decide)]) (puS_n (by decide))) (fun j hj => by
      rw [puS_s]
      by_cases e : j = i
      · subst e; rw [upd_s]
      · rw [upd_n e]; exact h4 j (by omega))
    exact ⟨S', g1, g2, (Fr.rf.pu (by simp)).tr g3, fun j hj => by rw [g4 j hj, puS_n (by decide)]⟩
theorem lx_take {fu : Nat} (hf : 20000 ≤ fu) : lx_h12 fu zx_I := by
  intro S h
  obtain ⟨L, O, tc, lg, f, ⟨r1, r2, r3, r4⟩, h2, h3, h4, h5, h6⟩ := id h
  have hl := r3.2.1
  obtain ⟨S1, eS1⟩ : ∃ z, z = puS (upS S 2 (va_cpy (S 4) (S 2) 0 0 4000)) 1 1 (nI O.length) := ⟨_, rfl⟩
  have c1 : f_X8_take S = some (nI O.length, S1) := by
    unfold f_X8_take f_X4_copy
    refine e_bd (r := (0 : Int32)) (S := S1) ?_ ?_
    · rw [if_pos r3.2.2.2.2, pin_eq, pin_eq, upS_n (by decide), r3.1, eS1]
    · rw [eS1, puS_s, upd_s]
  have k1 : ∀ k, k ∉ [1, 2] → S1 k = S k := fun k hk => by
    rw [eS1, puS_n (by simp at hk; omega), upS_n (by simp at hk; omega)]
  obtain ⟨S2, b1, b2, b3, b4⟩ := takeM_loop hl O.length 0 fu S1 (by omega) (by omega) (r4.of (by rw [k1 43 (by decide)]) (k1 45 (by decide))) (fun j hj => absurd hj (by omega))
  have k2 : ∀ k, k ∉ [1, 2, 43, 44] → S2 k = S k := fun k hk => (b3 k (by simp at hk ⊢; omega)).trans (k1 k (by simp at hk ⊢; omega))
  have k43 : ∀ j, j ≠ 1 → S2 43 j = S 43 j := fun j hj => (b4 j hj).trans (by rw [k1 43 (by decide)])
  have e2 : ∀ j, j < 4000 → S2 2 j = S 4 j := fun j hj => by
    rw [b3 2 (by decide), eS1, puS_n (by decide), upS_s, pk_cpy_in (by omega) (by omega)]
    simp
  refine ⟨_, S1, S2, c1, b1, O, O, tc, lg, f, ⟨⟨?_, hl, r3.2.2.1, ?_, ?_⟩, b2, r3.of (k2 3 (by decide)) (k2 4 (by decide)), r4.of (k43 3 (by decide)) (k2 45 (by decide))⟩, h2.of (k2 5 (by decide)) (by rw [k2 7 (by decide)]), h3.of h2 (fun k hk => k2 k (by simp; omega)), h4.of h2 (fun k hk => k2 k (by simp; omega)), h5.of (fun k h1 h2 => k2 k (by simp; omega)), h6.of (k2 7 (by decide)) (k2 0 (by decide)) (k2 40 (by decide)) (k2 56 (by decide)) (fun j h1 _ => k43 j (by omega))⟩
  · rw [b3 1 (by decide), eS1, puS_s, upd_s]
  · intro j hj
    rw [e2 j (by omega)]
    exact r3.2.2.2.1 j hj
  · intro j hj
    rw [e2 j hj]
    exact r3.2.2.2.2 j hj
