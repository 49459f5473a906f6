/-! EVEN in the class -/
def ArC (S : St) (k : Nat) (g : Nat → Nat) : Prop := ∀ s, s < 256 → S k s = nI (g s)
theorem b2i_eq0 {b : Bool} : ((if b = true then (1 : Int32) else 0) = 0) ↔ b = false := by
  cases b <;> decide
theorem ahead_bd {a b : Nat} (ha : a ≤ 4096) (hb : b ≤ 4096) : (2 * a + 1) * b < 2 ^ 31 := by
  have : (2 * a + 1) * b ≤ 8193 * 4096 := Nat.mul_le_mul (by omega) hb
  omega
theorem aheadC_s {S : St} {f tk : Nat → Nat} (h12 : ArC S 12 f) (h14 : ArC S 14 tk) (hf : ∀ s, s < 256 → f s ≤ 4096) (ht : ∀ s, s < 256 → tk s ≤ 4096) {x y : Nat} (hx : x < 256) (hy : y < 256) : f_X5_isAhead (nI x) (nI y) S = some (if hpAhead f tk x y = true then 1 else 0, S) := by
  have b1 := ahead_bd (ht x hx) (hf y hy)
  have b2 := ahead_bd (ht y hy) (hf x hx)
  unfold f_X5_isAhead
  rw [if_neg (nI_in hx (by omega)), if_neg (nI_in hy (by omega)), nI_clamp (by omega), nI_clamp (by omega), h12 x hx, h12 y hy, h14 x hx, h14 y hy, pin_eq, if_neg (nI_in2 hy (by omega)), if_neg (nI_in2 hx (by omega)), pin_eq]
  simp (disch := omega) only [nI_lit, pk_mul, nI_add, nI_ltI, nI_leI, nI_eq]
  unfold hpAhead
  by_cases c1 : (2 * tk x + 1) * f y < (2 * tk y + 1) * f x
  · rw [if_pos c1]; simp [c1]
  · rw [if_neg c1]
    by_cases c2 : (2 * tk x + 1) * f y = (2 * tk y + 1) * f x
    · rw [if_pos c2]
      by_cases c3 : y ≤ x
      · rw [if_pos c3]; simp [c1, c2]; omega
      · rw [if_neg c3]; simp [c2]; omega
    · rw [if_neg c2]; simp [c1, c2]
theorem swap_arr {S : St} {k n a b : Nat} {h : Nat → Nat} (hh : ∀ i, i < n → S k i = nI (h i)) (ha : a < n) (hb : b < n) : ∀ i, i < n → upd (upd (S k) a (nI (h b))) b (nI (h a)) i = nI (swN h a b i) := by
  intro i hi
  unfold swN
  by_cases e2 : i = b
  · rw [e2, upd_s]
    by_cases e1 : b = a
    · rw [if_pos e1, e1]
    · rw [if_neg e1, if_pos rfl]
  · rw [upd_n e2]
    by_cases e1 : i = a
    · rw [e1, upd_s, if_pos rfl]
    · rw [upd_n e1, if_neg e1, if_neg e2]; exact hh i hi
theorem two1c (k : Nat) : ((2 : Int32) * nI k) + (1 : Int32) = nI (2 * k + 1) := by
  rw [show (2 : Int32) = nI 2 from rfl, pk_mul]; exact nI_1 _
theorem hpChild_ge (f tk h : Nat → Nat) (n c : Nat) : c ≤ hpChild f tk h n c := by
  unfold hpChild; split <;> omega
theorem sinkC_loop {fu n : Nat} {p : Int32} {f tk : Nat → Nat} (hn : n ≤ 256) (hf : ∀ s, s < 256 → f s ≤ 4096) (ht : ∀ s, s < 256 → tk s ≤ 4096) : ∀ (fl k l m : Nat) (S : St) (h : Nat → Nat), 2 ^ l ≤ k + 1 → n - k ≤ fl → fl < m → k < 256 → S 9 6 = nI n → ArC S 12 f → ArC S 14 tk → (∀ i, i < n → h i < 256) → (∀ i, i < n → S 15 i = nI (h i)) → ∃ S', f_X5_sink_L4 fu p m (nI k) (nI l) S = some (0, S') ∧ (∀ i, i < n → S' 15 i = nI (hpSink f tk n fl k h i)) ∧ Fr [15] S S' := by
  intro fl
  induction fl with
  | zero =>
    intro k l m S h hl h1 h2 hk h3 h4 h5 h6 h7
    obtain ⟨m, rfl⟩ : ∃ z, m = z + 1 := ⟨m - 1, by omega⟩
    exact ⟨S, by
      rw [f_X5_sink_L4_s, h3]
      by_cases q : (8 : Int32) ≤ nI l
      · rw [if_pos q]
      · rw [if_neg q, two1c, if_pos (nI_le (by omega) (by omega))], h7, Fr.rf⟩
  | succ fl ih =>
    intro k l m S h hl h1 h2 hk h3 h4 h5 h6 h7
    obtain ⟨m, rfl⟩ : ∃ z, m = z + 1 := ⟨m - 1, by omega⟩
    unfold hpSink
    by_cases hc : n ≤ 2 * k + 1
    · exact ⟨S, by
        rw [f_X5_sink_L4_s, h3]
        by_cases q : (8 : Int32) ≤ nI l
        · rw [if_pos q]
        · rw [if_neg q, two1c, if_pos (nI_le (by omega) (by omega))], by rw [if_pos hc]; exact h7, Fr.rf⟩
    · rw [if_neg hc]
      obtain ⟨c1, c2⟩ := hpChild_p f tk h hc
      have c3 := hpChild_ge f tk h n (2 * k + 1)
      have hl8 : l < 8 := by
        by_cases q : l < 8
        · exact q
        · exfalso
          have q1 : 2 ^ 8 ≤ 2 ^ l := Nat.pow_le_pow_right (by omega) (by omega)
          have q2 : 2 ^ 8 ≤ k + 1 := Nat.le_trans q1 hl
          omega
      have hl1 : 2 ^ (l + 1) ≤ 2 * k + 2 := by
        rw [Nat.pow_succ]; omega
      have main : ∀ ch, ch = hpChild f tk h n (2 * k + 1) → ∃ S', f_X5_sink_L66 fu p (f_X5_sink_L4 fu p m) (nI k) (nI l) (nI ch) S = some (0, S') ∧ (∀ i, i < n → S' 15 i = nI ((if hpAhead f tk (h (hpChild f tk h n (2 * k + 1))) (h k) = true then hpSink f tk n fl (hpChild f tk h n (2 * k + 1)) (swN h k (hpChild f tk h n (2 * k + 1))) else h) i)) ∧ Fr [15] S S' := by
        intro ch hch
        rw [← hch] at c1 c2 c3 ⊢
        unfold f_X5_sink_L66
        rw [if_neg (nI_in (by omega) (by omega)), if_neg (nI_in (by omega) (by omega)), nI_clamp (by omega), nI_clamp (by omega), h7 ch c1, h7 k (by omega)]
        have hahead := aheadC_s h4 h5 hf ht (h6 ch c1) (h6 k (by omega))
        by_cases q : hpAhead f tk (h ch) (h k) = true
        · rw [if_pos q]
          rw [if_pos q] at hahead
          obtain ⟨S1, eS1⟩ : ∃ z, z = puS (puS S 15 k (nI (h ch))) 15 ch (nI (h k)) := ⟨_, rfl⟩
          have f1 : Fr [15] S S1 := by rw [eS1]; exact (Fr.rf.pu (by simp)).pu (by simp)
          have e15 : S1 15 = upd (upd (S 15) k (nI (h ch))) ch (nI (h k)) := by rw [eS1, puS_s, puS_s]
          obtain ⟨S', g1, g2, g3⟩ := ih ch (l + 1) m S1 (swN h k ch) (Nat.le_trans hl1 (by omega)) (by omega) (by omega) (by omega) (by rw [f1 9 (by decide)]; exact h3) (fun s hs => by rw [f1 12 (by decide)]; exact h4 s hs) (fun s hs => by rw [f1 14 (by decide)]; exact h5 s hs) (fun i hi => by
            rw [swN_at]
            refine h6 _ ?_
            split
            · exact c1
            · split
              · omega
              · exact hi) (fun i hi => by rw [e15]; exact swap_arr h7 (by omega) c1 i hi)
          refine ⟨S', ?_, g2, f1.tr g3⟩
          refine e_bd hahead ?_
          rw [if_neg (by decide), if_neg (nI_in2 (by omega) (by omega)), h7 k (by omega), pin_eq, if_neg (nI_in2 (by omega) (by omega)), if_neg (nI_in2 (by omega) (by omega)), h7 ch c1, pin_eq, if_neg (nI_in2 (by omega) (by omega)), pin_eq, pin_eq, ← eS1, show nI l + (1 : Int32) = nI (l + 1) from nI_1 _]
          exact g1
        · rw [if_neg q]
          rw [if_neg q] at hahead
          exact ⟨S, e_bd hahead (by rw [if_pos rfl]), h7, Fr.rf⟩
      rw [f_X5_sink_L4_s, h3, if_neg (by rw [show (8 : Int32) = nI 8 from rfl, nI_leI (by omega) (by omega)]; omega), two1c, if_neg (by rw [nI_leI (by omega) (by omega)]; omega), pin_eq, show nI (2 * k + 1) + (1 : Int32) = nI (2 * k + 2) from nI_1 _]
      by_cases hc2 : n ≤ 2 * k + 2
      · rw [if_pos (nI_le (by omega) (by omega))]
        exact main (2 * k + 1) (by unfold hpChild; rw [if_neg (by omega)])
      · rw [if_neg (by rw [nI_leI (by omega) (by omega)]; omega), if_neg (nI_in (by omega) (by omega)), if_neg (nI_in (by omega) (by omega)), nI_clamp (by omega), nI_clamp (by omega), h7 _ (by omega), h7 _ (by omega)]
        have hahead := aheadC_s h4 h5 hf ht (h6 (2 * k + 2) (by omega)) (h6 (2 * k + 1) (by omega))
        by_cases q : hpAhead f tk (h (2 * k + 2)) (h (2 * k + 1)) = true
        · rw [if_pos q] at hahead
          obtain ⟨S', g1, g2⟩ := main (2 * k + 2) (by unfold hpChild; rw [if_pos ⟨by omega, q⟩])
          refine ⟨S', e_bd hahead ?_, g2⟩
          rw [if_neg (by decide), pin_eq]
          exact g1
        · rw [if_neg q] at hahead
          obtain ⟨S', g1, g2⟩ := main (2 * k + 1) (by unfold hpChild; rw [if_neg (fun z => q z.2)])
          refine ⟨S', e_bd hahead ?_, g2⟩
          rw [if_pos rfl]
          exact g1
theorem sinkC_s {fu n k : Nat} {f tk h : Nat → Nat} {S : St} (hfu : 20000 ≤ fu) (hn : n ≤ 256) (hf : ∀ s, s < 256 → f s ≤ 4096) (ht : ∀ s, s < 256 → tk s ≤ 4096) (hk : k < 256) (h3 : S 9 6 = nI n) (h4 : ArC S 12 f) (h5 : ArC S 14 tk) (h6 : ∀ i, i < n → h i < 256) (h7 : ∀ i, i < n → S 15 i = nI (h i)) : ∃ S', f_X5_sink fu (nI k) S = some (0, S') ∧ (∀ i, i < n → S' 15 i = nI (hpS f tk n k h i)) ∧ Fr [15] S S' := by
  obtain ⟨S', g1, g2, g3⟩ := sinkC_loop (fu := fu) (p := nI k) hn hf ht 300 k 0 fu S h (by rw [Nat.pow_zero]; omega) (by omega) (by omega) hk h3 h4 h5 h6 h7
  refine ⟨S', ?_, g2, g3⟩
  unfold f_X5_sink
  exact g1
