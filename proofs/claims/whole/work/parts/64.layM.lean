/-! the reference lays a SPREAD -/
theorem aheadM_s {S : St} {t : Nat} {f tk : Nat → Nat} (ht7 : t < 7) (h47 : ShM S t f) (h55 : ArC S 55 tk) (hf : ∀ s, s < 256 → f s ≤ 4096) (ht : ∀ s, s < 256 → tk s ≤ 4096) {x y : Nat} (hx : x < 256) (hy : y < 256) : f_X9_isAhead (nI t) (nI x) (nI y) S = some (if hpAhead f tk x y = true then 1 else 0, S) := by
  have b1 := ahead_bd (ht x hx) (hf y hy)
  have b2 := ahead_bd (ht y hy) (hf x hx)
  unfold f_X9_isAhead
  rw [if_neg (nI_in hx (by omega)), if_neg (gdT (by omega) (by omega)), ixT, ixT, nI_clamp (show 256 * t + y < 2 ^ 31 by omega), nI_clamp (show 256 * t + x < 2 ^ 31 by omega), nI_clamp (show x < 2 ^ 31 by omega), nI_clamp (show y < 2 ^ 31 by omega), h47 x hx, h47 y hy, h55 x hx, h55 y hy, pin_eq, if_neg (nI_in2 hy (by omega)), if_neg (nI_in2 (by omega) (by omega)), pin_eq]
  simp (disch := omega) only [nI_lit, pk_mul, nI_add, nI_ltI, nI_leI, nI_eq]
  unfold hpAhead
  by_cases c1 : (2 * tk x + 1) * f y < (2 * tk y + 1) * f x
  · rw [if_pos c1]; simp [c1]
  · rw [if_neg c1]
    by_cases c2 : (2 * tk x + 1) * f y = (2 * tk y + 1) * f x
    · rw [if_pos c2]
      by_cases c3 : y ≤ x
      · rw [if_pos c3]; simp [c1, c2]; omega
      · rw [if_neg c3]; simp [c2]; omega
    · rw [if_neg c2]; simp [c1, c2]
theorem two1 (k : Nat) : ((2 : Int32) * nI k) + 1 = nI (2 * k + 1) := by rw [show (2 : Int32) = nI 2 from rfl, pk_mul]; exact nI_1 _
theorem swap_arrM {S : St} {k n a b : Nat} {h : Nat → Nat} (hh : ∀ i, i < n → S k i = nI (h i)) (ha : a < n) (hb : b < n) : ∀ i, i < n → upd (upd (S k) b (nI (h a))) a (nI (h b)) i = nI (swN h a b i) := by
  intro i hi
  unfold swN
  by_cases e2 : i = a
  · rw [e2, upd_s, if_pos rfl]
  · rw [upd_n e2, if_neg e2]
    by_cases e1 : i = b
    · rw [e1, upd_s, if_pos rfl]
    · rw [upd_n e1, if_neg e1]; exact hh i hi
theorem sinkM_loop {fu n t : Nat} {p0 p1 : Int32} {f tk : Nat → Nat} (ht7 : t < 7) (hn : n ≤ 256) (hf : ∀ s, s < 256 → f s ≤ 4096) (ht : ∀ s, s < 256 → tk s ≤ 4096) : ∀ (fl k m : Nat) (S : St) (h : Nat → Nat), n - k ≤ fl → fl < m → k < 256 → S 43 13 = nI n → ShM S t f → ArC S 55 tk → (∀ i, i < n → h i < 256) → (∀ i, i < n → S 54 i = nI (h i)) → ∃ S', f_X9_sink_L2 fu p0 p1 m (nI t) (nI k) S = some (0, S') ∧ (∀ i, i < n → S' 54 i = nI (hpSink f tk n fl k h i)) ∧ Fr [54] S S' := by
  intro fl
  induction fl with
  | zero =>
    intro k m S h h1 h2 hk h3 h4 h5 h6 h7
    obtain ⟨m, rfl⟩ : ∃ z, m = z + 1 := ⟨m - 1, by omega⟩
    exact ⟨S, by rw [f_X9_sink_L2_s, h3, two1, if_pos (nI_le (by omega) (by omega))], h7, Fr.rf⟩
  | succ fl ih =>
    intro k m S h h1 h2 hk h3 h4 h5 h6 h7
    obtain ⟨m, rfl⟩ : ∃ z, m = z + 1 := ⟨m - 1, by omega⟩
    unfold hpSink
    by_cases hc : n ≤ 2 * k + 1
    · exact ⟨S, by rw [f_X9_sink_L2_s, h3, two1, if_pos (nI_le (by omega) (by omega))], by rw [if_pos hc]; exact h7, Fr.rf⟩
    · rw [if_neg hc]
      obtain ⟨c1, c2⟩ := hpChild_p f tk h hc
      have main : ∀ ch, ch = hpChild f tk h n (2 * k + 1) → ∃ S', f_X9_sink_L59 fu p0 p1 (f_X9_sink_L2 fu p0 p1 m) (nI t) (nI k) (nI ch) S = some (0, S') ∧ (∀ i, i < n → S' 54 i = nI ((if hpAhead f tk (h (hpChild f tk h n (2 * k + 1))) (h k) = true then hpSink f tk n fl (hpChild f tk h n (2 * k + 1)) (swN h k (hpChild f tk h n (2 * k + 1))) else h) i)) ∧ Fr [54] S S' := by
        intro ch hch
        rw [← hch] at c1 c2 ⊢
        unfold f_X9_sink_L59
        rw [if_neg (nI_in (by omega) (by omega)), if_neg (nI_in (by omega) (by omega)), nI_clamp (by omega), nI_clamp (by omega), h7 ch c1, h7 k (by omega)]
        have hahead := aheadM_s ht7 h4 h5 hf ht (h6 ch c1) (h6 k (by omega))
        by_cases q : hpAhead f tk (h ch) (h k) = true
        · rw [if_pos q]
          rw [if_pos q] at hahead
          obtain ⟨S1, eS1⟩ : ∃ z, z = puS (puS S 54 ch (nI (h k))) 54 k (nI (h ch)) := ⟨_, rfl⟩
          have f1 : Fr [54] S S1 := by rw [eS1]; exact (Fr.rf.pu (by simp)).pu (by simp)
          have e15 : S1 54 = upd (upd (S 54) ch (nI (h k))) k (nI (h ch)) := by rw [eS1, puS_s, puS_s]
          obtain ⟨S', g1, g2, g3⟩ := ih ch m S1 (swN h k ch) (by omega) (by omega) (by omega) (by rw [f1 43 (by decide)]; exact h3) (fun s hs => by rw [f1 47 (by decide)]; exact h4 s hs) (fun s hs => by rw [f1 55 (by decide)]; exact h5 s hs) (fun i hi => by
            rw [swN_at]
            refine h6 _ ?_
            split
            · exact c1
            · split
              · omega
              · exact hi) (fun i hi => by rw [e15]; exact swap_arrM h7 (by omega) c1 i hi)
          refine ⟨S', ?_, g2, f1.tr g3⟩
          refine e_bd hahead ?_
          rw [if_neg (by decide), if_neg (nI_in2 (by omega) (by omega)), h7 ch c1, pin_eq, if_neg (nI_in2 (by omega) (by omega)), if_neg (nI_in2 (by omega) (by omega)), h7 k (by omega), pin_eq, if_neg (nI_in2 (by omega) (by omega)), pin_eq, ← eS1]
          exact g1
        · rw [if_neg q]
          rw [if_neg q] at hahead
          exact ⟨S, e_bd hahead (by rw [if_pos rfl]), h7, Fr.rf⟩
      rw [f_X9_sink_L2_s, h3, two1, if_neg (by rw [nI_leI (by omega) (by omega)]; omega), pin_eq, show nI (2 * k + 1) + (1 : Int32) = nI (2 * k + 2) from nI_1 _]
      by_cases hc2 : n ≤ 2 * k + 2
      · rw [if_pos (nI_le (by omega) (by omega))]
        exact main (2 * k + 1) (by unfold hpChild; rw [if_neg (by omega)])
      · rw [if_neg (by rw [nI_leI (by omega) (by omega)]; omega), if_neg (nI_in (by omega) (by omega)), if_neg (nI_in (by omega) (by omega)), nI_clamp (by omega), nI_clamp (by omega), h7 _ (by omega), h7 _ (by omega)]
        have hahead := aheadM_s ht7 h4 h5 hf ht (h6 (2 * k + 2) (by omega)) (h6 (2 * k + 1) (by omega))
        by_cases q : hpAhead f tk (h (2 * k + 2)) (h (2 * k + 1)) = true
        · rw [if_pos q] at hahead
          obtain ⟨S', g1, g2⟩ := main (2 * k + 2) (by unfold hpChild; rw [if_pos ⟨by omega, q⟩])
          refine ⟨S', e_bd hahead ?_, g2⟩
          rw [if_neg (by decide), pin_eq]
          exact g1
        · rw [if_neg q] at hahead
          obtain ⟨S', g1, g2⟩ := main (2 * k + 1) (by unfold hpChild; rw [if_neg (fun z => q z.2)])
          refine ⟨S', e_bd hahead ?_, g2⟩
          rw [if_pos rfl]
          exact g1
theorem sinkM_s {fu n k t : Nat} {f tk h : Nat → Nat} {S : St} (hfu : 20000 ≤ fu) (ht7 : t < 7) (hn : n ≤ 256) (hf : ∀ s, s < 256 → f s ≤ 4096) (ht : ∀ s, s < 256 → tk s ≤ 4096) (hk : k < 256) (h3 : S 43 13 = nI n) (h4 : ShM S t f) (h5 : ArC S 55 tk) (h6 : ∀ i, i < n → h i < 256) (h7 : ∀ i, i < n → S 54 i = nI (h i)) : ∃ S', f_X9_sink fu (nI t) (nI k) S = some (0, S') ∧ (∀ i, i < n → S' 54 i = nI (hpS f tk n k h i)) ∧ Fr [54] S S' :=
  sinkM_loop (fu := fu) (p0 := nI t) (p1 := nI k) ht7 hn hf ht 300 k fu S h (by omega) (by omega) hk h3 h4 h5 h6 h7
theorem initHM_loop {fu t : Nat} {p0 p1 p2 v2 v3 : Int32} {f : Nat → Nat} (ht7 : t < 7) (hf : ∀ s, s < 256 → f s ≤ 4096) : ∀ (d s n : Nat) (S : St), s + d = 256 → d < n → ShM S t f → S 43 13 = nI (hpInit f s).1 → (∀ i, i < (hpInit f s).1 → S 54 i = nI ((hpInit f s).2 i)) → (∀ x, x < s → S 55 x = 0) → ∃ S', f_X9_even_L8 fu p0 p1 p2 n (nI t) v2 v3 (nI s) S = f_X9_even_L75 fu p0 p1 p2 fu (nI t) v2 v3 (nI (hpInit f 256).1 / 2) S' ∧ S' 43 13 = nI (hpInit f 256).1 ∧ (∀ i, i < (hpInit f 256).1 → S' 54 i = nI ((hpInit f 256).2 i)) ∧ (∀ x, x < 256 → S' 55 x = 0) ∧ Fr [43, 54, 55] S S' ∧ ∀ j, j ≠ 13 → S' 43 j = S 43 j := by
  intro d
  induction d with
  | zero =>
    intro s n S h1 h2 h3 h4 h5 h6
    obtain ⟨n, rfl⟩ : ∃ m, n = m + 1 := ⟨n - 1, by omega⟩
    obtain rfl : s = 256 := by omega
    exact ⟨S, by rw [f_X9_even_L8_s, if_pos (show (256 : Int32) ≤ nI 256 by decide), h4, pin_eq], h4, h5, h6, Fr.rf, fun _ _ => rfl⟩
  | succ d ih =>
    intro s n S h1 h2 h3 h4 h5 h6
    obtain ⟨n, rfl⟩ : ∃ m, n = m + 1 := ⟨n - 1, by omega⟩
    obtain ⟨a1, -⟩ := hpInit_p f s (by omega)
    have hfs := hf s (by omega)
    have keep : ∀ S, f_X9_even_L61 fu p0 p1 p2 (f_X9_even_L8 fu p0 p1 p2 n) (nI t) v2 v3 (nI s) S = f_X9_even_L8 fu p0 p1 p2 n (nI t) v2 v3 (nI (s + 1)) S := by
      intro S
      unfold f_X9_even_L61
      rw [pin_eq, show nI s + (1 : Int32) = _ from nI_1 s]
    obtain ⟨S1, eS1⟩ : ∃ z, z = puS S 55 s 0 := ⟨_, rfl⟩
    have f1 : Fr [55] S S1 := by rw [eS1]; exact Fr.rf.pu (by simp)
    have e55 : ∀ x, x < s + 1 → S1 55 x = 0 := fun x hx => by
      rw [eS1, puS_s]
      by_cases e : x = s
      · rw [e, upd_s]
      · rw [upd_n e]; exact h6 x (by omega)
    rw [f_X9_even_L8_s, if_neg (lt256 (by omega)), if_neg (nI_in (by omega) (by omega)), nI_clamp (by omega), pin_eq, ← eS1, if_neg (gdT (by omega) (by omega)), ixT, nI_clamp (by omega), f1 47 (by decide), h3 s (by omega), f1 43 (by decide)]
    by_cases h0 : f s = 0
    · rw [if_pos ((nI_eq0 (by omega)).mpr h0), keep]
      have e : hpInit f (s + 1) = hpInit f s := by rw [hpInit, if_neg (by omega)]
      obtain ⟨S', g1, g2, g3, g4, g5, g6⟩ := ih (s + 1) n S1 (by omega) (by omega) (fun x hx => by rw [f1 47 (by decide)]; exact h3 x hx) (by rw [e, f1 43 (by decide)]; exact h4) (by rw [e, f1 54 (by decide)]; exact h5) e55
      exact ⟨S', g1, g2, g3, g4, (f1.mono (by simp)).tr g5, fun j hj => by rw [g6 j hj, f1 43 (by decide)]⟩
    · rw [if_neg (fun q => h0 ((nI_eq0 (by omega)).mp q)), h4, if_neg (nI_in (by omega) (by omega)), nI_clamp (by omega), pin_eq, puS_n (show 43 ≠ 54 by decide), f1 43 (by decide), h4, show nI (hpInit f s).1 + (1 : Int32) = _ from nI_1 _, pin_eq, keep]
      have e : hpInit f (s + 1) = ((hpInit f s).1 + 1, fun i => if i = (hpInit f s).1 then s else (hpInit f s).2 i) := by rw [hpInit, if_pos (by omega)]
      obtain ⟨S', g1, g2, g3, g4, g5, g6⟩ := ih (s + 1) n (puS (puS S1 54 (hpInit f s).1 (nI s)) 43 13 (nI ((hpInit f s).1 + 1))) (by omega) (by omega) (fun x hx => by rw [puS_n (by decide), puS_n (by decide), f1 47 (by decide)]; exact h3 x hx) (by rw [e, puS_s, upd_s]) (fun i hi => by
        rw [e] at hi ⊢
        dsimp only at hi ⊢
        rw [puS_n (by decide), puS_s, f1 54 (by decide)]
        by_cases q : i = (hpInit f s).1
        · rw [q, upd_s, if_pos rfl]
        · rw [upd_n q, if_neg q]; exact h5 i (by omega)) (fun x hx => by rw [puS_n (by decide), puS_n (by decide)]; exact e55 x hx)
      exact ⟨S', g1, g2, g3, g4, (((f1.mono (by simp)).pu (by simp)).pu (by simp)).tr g5, fun j hj => by rw [g6 j hj, puS_s, upd_n hj, puS_n (by decide), f1 43 (by decide)]⟩
theorem buildM_loop {fu n t : Nat} {p0 p1 p2 v2 v3 : Int32} {f : Nat → Nat} (hfu : 20000 ≤ fu) (ht7 : t < 7) (hn : n ≤ 256) (hf : ∀ s, s < 256 → f s ≤ 4096) : ∀ (k m : Nat) (S : St) (h : Nat → Nat), k < 256 → k + 1 < m → S 43 13 = nI n → ShM S t f → ArC S 55 (fun _ => 0) → HI f n h (fun _ => 0) → (∀ i, i < n → S 54 i = nI (h i)) → ∃ S', f_X9_even_L75 fu p0 p1 p2 m (nI t) v2 v3 (nI k) S = f_X9_even_L96 fu p0 p1 p2 fu (nI t) v2 v3 0 S' ∧ (∀ i, i < n → S' 54 i = nI (hpBuild f n k h i)) ∧ Fr [54] S S' := by
  intro k
  induction k with
  | zero =>
    intro m S h hk h2 h3 h4 h5 h6 h7
    obtain ⟨m, rfl⟩ : ∃ z, m = z + 2 := ⟨m - 2, by omega⟩
    obtain ⟨S1, a1, a2, a3⟩ := sinkM_s hfu ht7 hn hf (fun s _ => by show 0 ≤ 4096; omega) (show 0 < 256 by omega) h3 h4 h5 (fun i hi => (h6.2.1 i hi).1) h7
    refine ⟨S1, ?_, a2, a3⟩
    rw [f_X9_even_L75_s, if_neg (by decide)]
    refine e_bd a1 ?_
    rw [pin_eq, f_X9_even_L75_s, if_pos (by decide)]
  | succ k ih =>
    intro m S h hk h2 h3 h4 h5 h6 h7
    obtain ⟨m, rfl⟩ : ∃ z, m = z + 1 := ⟨m - 1, by omega⟩
    obtain ⟨S1, a1, a2, a3⟩ := sinkM_s hfu ht7 hn hf (fun s _ => by show 0 ≤ 4096; omega) hk h3 h4 h5 (fun i hi => (h6.2.1 i hi).1) h7
    obtain ⟨S', g1, g2, g3⟩ := ih m S1 _ (by omega) (by omega) (by rw [a3 43 (by decide)]; exact h3) (fun s hs => by rw [a3 47 (by decide)]; exact h4 s hs) (fun s hs => by rw [a3 55 (by decide)]; exact h5 s hs) (h6.sink 300 (k + 1) h) a2
    refine ⟨S', ?_, g2, a3.tr g3⟩
    rw [f_X9_even_L75_s, if_neg (nI_pos (by omega))]
    refine e_bd a1 ?_
    rw [pin_eq, show nI (k + 1) + (-1 : Int32) = nI k from pk_m1 k]
    exact g1
