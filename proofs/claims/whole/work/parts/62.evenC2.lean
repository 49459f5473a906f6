/-! EVEN in the class: the heap filled, built, run -/
theorem initHC_loop {fu : Nat} {f : Nat → Nat} (hf : ∀ s, s < 256 → f s ≤ 4096) : ∀ (d s n : Nat) (S : St), s + d = 256 → d < n → ArC S 12 f → S 9 6 = nI (hpInit f s).1 → (∀ i, i < (hpInit f s).1 → S 15 i = nI ((hpInit f s).2 i)) → ∃ S', f_X5_layEven_L15 fu n (nI s) S = f_X5_layEven_L64 fu fu (nI (hpInit f 256).1 / 2) S' ∧ S' 9 6 = nI (hpInit f 256).1 ∧ (∀ i, i < (hpInit f 256).1 → S' 15 i = nI ((hpInit f 256).2 i)) ∧ Fr [9, 15] S S' ∧ ∀ j, j ≠ 6 → S' 9 j = S 9 j := by
  intro d
  induction d with
  | zero =>
    intro s n S h1 h2 h3 h4 h5
    obtain ⟨n, rfl⟩ : ∃ m, n = m + 1 := ⟨n - 1, by omega⟩
    obtain rfl : s = 256 := by omega
    exact ⟨S, by rw [f_X5_layEven_L15_s, if_pos (show (256 : Int32) ≤ nI 256 by decide), h4, pin_eq], h4, h5, Fr.rf, fun _ _ => rfl⟩
  | succ d ih =>
    intro s n S h1 h2 h3 h4 h5
    obtain ⟨n, rfl⟩ : ∃ m, n = m + 1 := ⟨n - 1, by omega⟩
    obtain ⟨a1, -⟩ := hpInit_p f s (by omega)
    have hfs := hf s (by omega)
    have keep : ∀ S, f_X5_layEven_L51 fu (f_X5_layEven_L15 fu n) (nI s) S = f_X5_layEven_L15 fu n (nI (s + 1)) S := by
      intro S
      unfold f_X5_layEven_L51
      rw [pin_eq, show nI s + (1 : Int32) = _ from nI_1 s]
    rw [f_X5_layEven_L15_s, if_neg (lt256 (by omega)), if_neg (nI_in (by omega) (by omega)), nI_clamp (by omega), h3 s (by omega)]
    by_cases h0 : f s = 0
    · rw [if_pos ((nI_eq0 (by omega)).mpr h0), keep]
      have e : hpInit f (s + 1) = hpInit f s := by rw [hpInit, if_neg (by omega)]
      exact ih (s + 1) n S (by omega) (by omega) h3 (by rw [e]; exact h4) (by rw [e]; exact h5)
    · rw [if_neg (fun q => h0 ((nI_eq0 (by omega)).mp q)), h4, if_neg (nI_in (by omega) (by omega)), nI_clamp (by omega), pin_eq, puS_n (show 9 ≠ 15 by decide), h4, show nI (hpInit f s).1 + (1 : Int32) = _ from nI_1 _, pin_eq, keep]
      have e : hpInit f (s + 1) = ((hpInit f s).1 + 1, fun i => if i = (hpInit f s).1 then s else (hpInit f s).2 i) := by rw [hpInit, if_pos (by omega)]
      obtain ⟨S', g1, g2, g3, g4, g5⟩ := ih (s + 1) n (puS (puS S 15 (hpInit f s).1 (nI s)) 9 6 (nI ((hpInit f s).1 + 1))) (by omega) (by omega) (fun x hx => by rw [puS_n (by decide), puS_n (by decide)]; exact h3 x hx) (by rw [e, puS_s, upd_s]) (fun i hi => by
        rw [e] at hi ⊢
        dsimp only at hi ⊢
        rw [puS_n (by decide), puS_s]
        by_cases q : i = (hpInit f s).1
        · rw [q, upd_s, if_pos rfl]
        · rw [upd_n q, if_neg q]; exact h5 i (by omega))
      exact ⟨S', g1, g2, g3, ((Fr.rf.pu (by simp)).pu (by simp)).tr g4, fun j hj => by rw [g5 j hj, puS_s, upd_n hj, puS_n (by decide)]⟩
theorem buildC_loop {fu n : Nat} {f : Nat → Nat} (hfu : 20000 ≤ fu) (hn : n ≤ 256) (hf : ∀ s, s < 256 → f s ≤ 4096) : ∀ (k m : Nat) (S : St) (h : Nat → Nat), k < 256 → k + 1 < m → S 9 6 = nI n → ArC S 12 f → ArC S 14 (fun _ => 0) → HI f n h (fun _ => 0) → (∀ i, i < n → S 15 i = nI (h i)) → ∃ S', f_X5_layEven_L64 fu m (nI k) S = f_X5_layEven_L81 fu fu 0 S' ∧ (∀ i, i < n → S' 15 i = nI (hpBuild f n k h i)) ∧ Fr [15] S S' := by
  intro k
  induction k with
  | zero =>
    intro m S h hk h2 h3 h4 h5 h6 h7
    obtain ⟨m, rfl⟩ : ∃ z, m = z + 2 := ⟨m - 2, by omega⟩
    obtain ⟨S1, a1, a2, a3⟩ := sinkC_s hfu hn hf (fun s _ => by show 0 ≤ 4096; omega) (show 0 < 256 by omega) h3 h4 h5 (fun i hi => (h6.2.1 i hi).1) h7
    refine ⟨S1, ?_, a2, a3⟩
    rw [f_X5_layEven_L64_s, if_neg (by decide)]
    refine e_bd a1 ?_
    rw [pin_eq, f_X5_layEven_L64_s, if_pos (by decide)]
  | succ k ih =>
    intro m S h hk h2 h3 h4 h5 h6 h7
    obtain ⟨m, rfl⟩ : ∃ z, m = z + 1 := ⟨m - 1, by omega⟩
    obtain ⟨S1, a1, a2, a3⟩ := sinkC_s hfu hn hf (fun s _ => by show 0 ≤ 4096; omega) hk h3 h4 h5 (fun i hi => (h6.2.1 i hi).1) h7
    obtain ⟨S', g1, g2, g3⟩ := ih m S1 _ (by omega) (by omega) (by rw [a3 9 (by decide)]; exact h3) (fun s hs => by rw [a3 12 (by decide)]; exact h4 s hs) (fun s hs => by rw [a3 14 (by decide)]; exact h5 s hs) (h6.sink 300 (k + 1) h) a2
    refine ⟨S', ?_, g2, a3.tr g3⟩
    rw [f_X5_layEven_L64_s, if_neg (nI_pos (by omega))]
    refine e_bd a1 ?_
    rw [pin_eq, show nI (k + 1) + (-1 : Int32) = nI k from pk_m1 k]
    exact g1
theorem SumOK.le {f : Nat → Nat} {lg : Nat} (h : SumOK f lg) : ∀ s, s < 256 → f s ≤ 4096 := fun s hs => by
  have := fb_sm_part f hs
  have := sum_bd h
  omega
theorem evenC_loop {fu lg : Nat} {f : Nat → Nat} (hfu : 20000 ≤ fu) (hs : SumOK f lg) : ∀ (d p n : Nat) (S : St), p + d = 2 ^ lg → d < n → S 9 7 = nI (2 ^ lg) → ArC S 12 f → ArC S 14 (hpRun f p).2.2 → S 9 6 = nI (hpRun f p).1 → (∀ i, i < (hpRun f p).1 → S 15 i = nI ((hpRun f p).2.1 i)) → (∀ q, q < p → S 10 q = nI (sy f lg 2 q)) → ∃ S', f_X5_layEven_L81 fu n (nI p) S = some (0, S') ∧ (∀ q, q < 2 ^ lg → S' 10 q = nI (sy f lg 2 q)) ∧ Fr [9, 10, 14, 15] S S' ∧ ∀ j, j ≠ 6 → S' 9 j = S 9 j := by
  have hM := pow12 hs.2.1
  have hle := hs.le
  intro d
  induction d with
  | zero =>
    intro p n S h1 h2 h3 h4 h5 h6 h7 h8
    obtain ⟨n, rfl⟩ : ∃ m, n = m + 1 := ⟨n - 1, by omega⟩
    obtain rfl : p = 2 ^ lg := by omega
    exact ⟨S, by rw [f_X5_layEven_L81_s, h3, if_pos (nI_le (by omega) (by omega))], h8, Fr.rf, fun _ _ => rfl⟩
  | succ d ih =>
    intro p n S h1 h2 h3 h4 h5 h6 h7 h8
    obtain ⟨n, rfl⟩ : ∃ m, n = m + 1 := ⟨n - 1, by omega⟩
    have hp : p < fb_sm f 256 := by rw [hs.2.2]; omega
    obtain ⟨HH, hsum⟩ := run_HI p hp
    have hn0 := HH.ne (by omega)
    have hsy : sy f lg 2 p = (hpRun f p).2.1 0 := by unfold sy; rw [if_pos rfl]
    have hst : hpRun f (p + 1) = hpStep f (hpRun f p) := rfl
    obtain ⟨b1, b2, b3, b4, b5⟩ := id HH
    have b0 := b2 0 hn0
    generalize hq : hpRun f p = q at *
    obtain ⟨m, h, tk⟩ := q
    dsimp only at h5 h6 h7 HH hsum hn0 hsy hst b1 b2 b3 b4 b5 b0
    have htk0 : hpTk h tk (h 0) = tk (h 0) + 1 := by unfold hpTk; rw [if_pos rfl]
    have htl : ∀ s, s < 256 → hpTk h tk s ≤ 4096 := by
      intro s hs'
      have := hle s hs'
      by_cases e : s = h 0
      · rw [e, htk0]; have := hle _ b0.1; omega
      · unfold hpTk; rw [if_neg e]; have := b4 s hs'; omega
    have hf0 := hle _ b0.1
    obtain ⟨S1, eS1⟩ : ∃ z, z = puS (puS S 10 p (nI (h 0))) 14 (h 0) (nI (tk (h 0) + 1)) := ⟨_, rfl⟩
    have f1 : Fr [10, 14] S S1 := by rw [eS1]; exact (Fr.rf.pu (by simp)).pu (by simp)
    have e10 : S1 10 = upd (S 10) p (nI (h 0)) := by rw [eS1, puS_n (by decide), puS_s]
    have e14 : S1 14 = upd (S 14) (h 0) (nI (tk (h 0) + 1)) := by rw [eS1, puS_s, puS_n (by decide)]
    have a14 : ArC S1 14 (hpTk h tk) := fun s hs' => by
      rw [e14]
      by_cases e : s = h 0
      · rw [e, upd_s, htk0]
      · rw [upd_n e, h5 s hs']; unfold hpTk; rw [if_neg e]
    have a12 : ArC S1 12 f := fun s hs' => by rw [f1 12 (by decide)]; exact h4 s hs'
    have a10 : ∀ q, q < p + 1 → S1 10 q = nI (sy f lg 2 q) := fun q hq => by
      rw [e10]
      by_cases e : q = p
      · rw [e, upd_s, hsy]
      · rw [upd_n e]; exact h8 q (by omega)
    -- the rest of the round, from a state with a heap of m' places
    have rest : ∀ (S2 : St) (m' : Nat) (h' : Nat → Nat), Fr [9, 15] S1 S2 → (∀ j, j ≠ 6 → S2 9 j = S1 9 j) → m' ≤ 256 → S2 9 6 = nI m' → (∀ i, i < m' → h' i < 256) → (∀ i, i < m' → S2 15 i = nI (h' i)) → hpRun f (p + 1) = (m', hpS f (hpTk h tk) m' 0 h', hpTk h tk) → ∃ S', f_X5_layEven_L161 fu (f_X5_layEven_L81 fu n) (nI p) S2 = some (0, S') ∧ (∀ q, q < 2 ^ lg → S' 10 q = nI (sy f lg 2 q)) ∧ Fr [9, 10, 14, 15] S S' ∧ ∀ j, j ≠ 6 → S' 9 j = S 9 j := by
      intro S2 m' h' F2 F9 hm' g6 gh g15 hrun
      obtain ⟨S3, c1, c2, c3⟩ := sinkC_s (k := 0) (n := m') (tk := hpTk h tk) hfu hm' hle htl (by omega) g6 (fun s hs' => by rw [F2 12 (by decide)]; exact a12 s hs') (fun s hs' => by rw [F2 14 (by decide)]; exact a14 s hs') gh g15
      obtain ⟨S', g1, g2, g3, g4⟩ := ih (p + 1) n S3 (by omega) (by omega) (by rw [c3 9 (by decide), F9 7 (by decide), f1 9 (by decide)]; exact h3) (fun s hs' => by rw [c3 12 (by decide), F2 12 (by decide)]; exact a12 s hs') (fun s hs' => by rw [c3 14 (by decide), F2 14 (by decide), hrun]; exact a14 s hs') (by rw [c3 9 (by decide), hrun]; exact g6) (fun i hi => by rw [hrun] at hi ⊢; exact c2 i hi) (fun q hq => by rw [c3 10 (by decide), F2 10 (by decide)]; exact a10 q hq)
      refine ⟨S', ?_, g2, (f1.mono (by simp)).tr ((F2.mono (by simp)).tr ((c3.mono (by simp)).tr g3)), fun j hj => by rw [g4 j hj, c3 9 (by decide), F9 j hj, f1 9 (by decide)]⟩
      unfold f_X5_layEven_L161
      refine e_bd c1 ?_
      rw [pin_eq, show nI p + (1 : Int32) = _ from nI_1 p]
      exact g1
    have e9 : S1 9 6 = nI m := by rw [f1 9 (by decide)]; exact h6
    have e15 : ∀ i, i < m → S1 15 i = nI (h i) := fun i hi => by rw [f1 15 (by decide)]; exact h7 i hi
    have hpop : hpStep f (m, h, tk) = if hpTk h tk (h 0) = f (h 0) ∧ 1 < m then (m - 1, hpS f (hpTk h tk) (m - 1) 0 (fun i => if i = 0 then h (m - 1) else h i), hpTk h tk) else (m, hpS f (hpTk h tk) m 0 h, hpTk h tk) := rfl
    rw [f_X5_layEven_L81_s, h3, if_neg (by rw [nI_leI (by omega) (by omega)]; omega), h7 0 hn0, pin_eq, if_neg (nI_in (by omega) (by omega)), nI_clamp (show p < 2 ^ 31 by omega), pin_eq, if_neg (nI_in b0.1 (by omega)), if_neg (nI_in b0.1 (by omega)), nI_clamp (show h 0 < 2 ^ 31 by omega), puS_n (show 14 ≠ 10 by decide), h5 _ b0.1, show nI (tk (h 0)) + (1 : Int32) = _ from nI_1 _, pin_eq, ← eS1, if_neg (nI_in2 b0.1 (by omega)), if_neg (nI_in2 b0.1 (by omega)), a14 _ b0.1, a12 _ b0.1, e9]
    by_cases q1 : hpTk h tk (h 0) = f (h 0)
    · rw [if_pos (by rw [q1])]
      by_cases q2 : m ≤ 1
      · rw [if_pos (by rw [show (1 : Int32) = nI 1 from rfl, nI_leI (by omega) (by omega)]; exact q2)]
        exact rest S1 m h Fr.rf (fun _ _ => rfl) b1 e9 (fun i hi => (b2 i hi).1) e15 (by rw [hst, hpop, if_neg (fun z => by omega)])
      · rw [if_neg (by rw [show (1 : Int32) = nI 1 from rfl, nI_leI (by omega) (by omega)]; exact q2), show nI m - (1 : Int32) = nI (m - 1) from pk_sub (b := 1) (by omega), pin_eq, puS_s, upd_s, if_neg (nI_in (by omega) (by omega)), nI_clamp (by omega), puS_n (show 15 ≠ 9 by decide), e15 _ (by omega), pin_eq]
        refine rest _ (m - 1) (fun i => if i = 0 then h (m - 1) else h i) ((Fr.rf.pu (by simp)).pu (by simp)) (fun j hj => by rw [puS_n (by decide), puS_s, upd_n hj]) (by omega) (by rw [puS_n (by decide), puS_s, upd_s]) (fun i hi => ?_) (fun i hi => ?_) (by rw [hst, hpop, if_pos ⟨q1, by omega⟩])
        · split
          · exact (b2 _ (by omega)).1
          · exact (b2 _ (by omega)).1
        · rw [puS_s, puS_n (by decide)]
          by_cases e : i = 0
          · rw [e, upd_s, if_pos rfl]
          · rw [upd_n e, if_neg e]; exact e15 i (by omega)
    · have htkb := htl _ b0.1
      rw [if_neg (by rw [nI_eq (by omega) (by omega)]; exact q1)]
      exact rest S1 m h Fr.rf (fun _ _ => rfl) b1 e9 (fun i hi => (b2 i hi).1) e15 (by rw [hst, hpop, if_neg (fun z => q1 z.1)])
theorem evenC_s {fu lg : Nat} {f : Nat → Nat} {S : St} (hfu : 20000 ≤ fu) (hs : SumOK f lg) (h3 : S 9 7 = nI (2 ^ lg)) (h4 : ArC S 12 f) : ∃ S', f_X5_layEven fu S = some (0, S') ∧ (∀ q, q < 2 ^ lg → S' 10 q = nI (sy f lg 2 q)) ∧ Fr [9, 10, 14, 15] S S' ∧ ∀ j, j ≠ 6 → S' 9 j = S 9 j := by
  have hM := pow12 hs.2.1
  have hle := hs.le
  obtain ⟨S1, eS1⟩ : ∃ z, z = puS (upS S 14 (fiA (S 14) (zx_len 14) 0)) 9 6 0 := ⟨_, rfl⟩
  have f1 : Fr [9, 14] S S1 := by rw [eS1]; exact (Fr.rf.up (by simp)).pu (by simp)
  have f19 : ∀ j, j ≠ 6 → S1 9 j = S 9 j := fun j hj => by rw [eS1, puS_s, upd_n hj, upS_n (by decide)]
  have a14 : ArC S1 14 (fun _ => 0) := fun s hs' => by
    rw [eS1, puS_n (by decide), upS_s, fiA, if_pos (show s < zx_len 14 from hs')]; rfl
  obtain ⟨S2, b1, b2, b3, b4, b5⟩ := initHC_loop (fu := fu) hle 256 0 fu S1 (by omega) (by omega) (fun s hs' => by rw [f1 12 (by decide)]; exact h4 s hs') (by rw [eS1, puS_s, upd_s]; rfl) (fun i hi => absurd hi (by simp [hpInit]))
  have HI0 := HI.init f
  have hn : (hpInit f 256).1 ≤ 256 := HI0.1
  have hdiv : nI (hpInit f 256).1 / 2 = nI ((hpInit f 256).1 / 2) := pk_div (d := 2) (by omega) (by omega) (by omega)
  have hn0 : 0 < (hpInit f 256).1 := HI0.ne (by rw [fb_zero, hs.2.2]; exact Nat.two_pow_pos lg)
  obtain ⟨S3, c1, c2, c3⟩ := buildC_loop (fu := fu) hfu hn hle ((hpInit f 256).1 / 2) fu S2 _ (by omega) (by omega) b2 (fun s hs' => by rw [b4 12 (by decide), f1 12 (by decide)]; exact h4 s hs') (fun s hs' => by rw [b4 14 (by decide)]; exact a14 s hs') HI0 b3
  obtain ⟨S', g1, g2, g3, g4⟩ := evenC_loop (fu := fu) hfu hs (2 ^ lg) 0 fu S3 (by omega) (by omega) (by rw [c3 9 (by decide), b5 7 (by decide), f19 7 (by decide)]; exact h3) (fun s hs' => by rw [c3 12 (by decide), b4 12 (by decide), f1 12 (by decide)]; exact h4 s hs') (fun s hs' => by rw [c3 14 (by decide), b4 14 (by decide)]; exact a14 s hs') (by rw [c3 9 (by decide)]; exact b2) c2 (fun q hq => absurd hq (by omega))
  refine ⟨S', ?_, g2, (f1.mono (by simp)).tr ((b4.mono (by simp)).tr ((c3.mono (by simp)).tr g3)), fun j hj => by rw [g4 j hj, c3 9 (by decide), b5 j hj, f19 j hj]⟩
  unfold f_X5_layEven
  refine e_bd (fill_s hfu) ?_
  rw [pin_eq, ← eS1]
  rw [hdiv] at b1
  exact b1.trans (c1.trans g1)
