/-! the reference lays a SPREAD: EVEN, STEP, RANKS -/
/-- of the reference's layouts only the block of B has changed -/
def FrB (B : Nat) (S S' : St) : Prop := ∀ c, c = 50 ∨ c = 51 ∨ c = 52 → ∀ j, (j < B ∨ B + 4096 ≤ j) → S' c j = S c j
theorem FrB.rf {B : Nat} {S : St} : FrB B S S := fun _ _ _ _ => rfl
theorem FrB.tr {B : Nat} {S S1 S2 : St} (h1 : FrB B S S1) (h2 : FrB B S1 S2) : FrB B S S2 := fun c hc j hj => (h2 c hc j hj).trans (h1 c hc j hj)
theorem FrB.of {B : Nat} {S S' : St} {ks : List Nat} (h : Fr ks S S') (hk : 50 ∉ ks ∧ 51 ∉ ks ∧ 52 ∉ ks) : FrB B S S' := fun c hc j _ => by
  rcases hc with rfl | rfl | rfl
  · rw [h 50 hk.1]
  · rw [h 51 hk.2.1]
  · rw [h 52 hk.2.2]
theorem FrB.pu {B c i : Nat} {S : St} {v : Int32} (hi : B ≤ i ∧ i < B + 4096) : FrB B S (puS S c i v) := fun c' _ j hj => by
  by_cases e : c' = c
  · rw [e, puS_s, upd_n (by omega)]
  · rw [puS_n e]
theorem evenM_loop {fu lg t B : Nat} {p0 p1 p2 : Int32} {f : Nat → Nat} (hfu : 20000 ≤ fu) (ht7 : t < 7) (hB : B + 4096 ≤ 86016) (hs : SumOK f lg) : ∀ (d p n : Nat) (S : St), p + d = 2 ^ lg → d < n → ShM S t f → (d ≠ 0 → ArC S 55 (hpRun f p).2.2 ∧ S 43 13 = nI (hpRun f p).1 ∧ (∀ i, i < (hpRun f p).1 → S 54 i = nI ((hpRun f p).2.1 i))) → (∀ q, q < p → S 50 (B + q) = nI (sy f lg 2 q)) → ∃ S', f_X9_even_L96 fu p0 p1 p2 n (nI t) (nI B) (nI (2 ^ lg)) (nI p) S = some (0, S') ∧ (∀ q, q < 2 ^ lg → S' 50 (B + q) = nI (sy f lg 2 q)) ∧ Fr [43, 50, 54, 55] S S' ∧ (∀ j, j ≠ 13 → S' 43 j = S 43 j) ∧ FrB B S S' := by
  have hM := pow12 hs.2.1
  have hle := hs.le
  intro d
  induction d with
  | zero =>
    intro p n S h1 h2 h3 h4 h5
    obtain ⟨n, rfl⟩ : ∃ m, n = m + 1 := ⟨n - 1, by omega⟩
    obtain rfl : p = 2 ^ lg := by omega
    exact ⟨S, by rw [f_X9_even_L96_s, if_pos (nI_le (by omega) (by omega))], h5, Fr.rf, fun _ _ => rfl, FrB.rf⟩
  | succ d ih =>
    intro p n S h1 h2 h3 h4 h8
    obtain ⟨n, rfl⟩ : ∃ m, n = m + 1 := ⟨n - 1, by omega⟩
    obtain ⟨h5, h6, h7⟩ := h4 (by omega)
    have hp : p < fb_sm f 256 := by rw [hs.2.2]; omega
    obtain ⟨HH, hsum⟩ := run_HI p hp
    have hn0 := HH.ne (by omega)
    have hsy : sy f lg 2 p = (hpRun f p).2.1 0 := by unfold sy; rw [if_pos rfl]
    have hst : hpRun f (p + 1) = hpStep f (hpRun f p) := rfl
    have hnext : d ≠ 0 → HI f (hpRun f (p + 1)).1 (hpRun f (p + 1)).2.1 (hpRun f (p + 1)).2.2 := fun hd => (run_HI (p + 1) (by rw [hs.2.2]; omega)).1
    obtain ⟨b1, b2, b3, b4, b5⟩ := id HH
    have b0 := b2 0 hn0
    generalize hq : hpRun f p = q at *
    obtain ⟨m, h, tk⟩ := q
    dsimp only at h5 h6 h7 HH hsum hn0 hsy hst b1 b2 b3 b4 b5 b0
    have htk0 : hpTk h tk (h 0) = tk (h 0) + 1 := by unfold hpTk; rw [if_pos rfl]
    have htl : ∀ s, s < 256 → hpTk h tk s ≤ 4096 := by
      intro s hs'
      have := hle s hs'
      by_cases e : s = h 0
      · rw [e, htk0]; have := hle _ b0.1; omega
      · unfold hpTk; rw [if_neg e]; have := b4 s hs'; omega
    have hf0 := hle _ b0.1
    obtain ⟨S1, eS1⟩ : ∃ z, z = puS (puS S 50 (B + p) (nI (h 0))) 55 (h 0) (nI (tk (h 0) + 1)) := ⟨_, rfl⟩
    have f1 : Fr [50, 55] S S1 := by rw [eS1]; exact (Fr.rf.pu (by simp)).pu (by simp)
    have f1B : FrB B S S1 := by rw [eS1]; exact (FrB.pu (by omega)).tr (FrB.of (Fr.rf.pu (by simp) : Fr [55] _ _) (by decide))
    have e10 : S1 50 = upd (S 50) (B + p) (nI (h 0)) := by rw [eS1, puS_n (by decide), puS_s]
    have e14 : S1 55 = upd (S 55) (h 0) (nI (tk (h 0) + 1)) := by rw [eS1, puS_s, puS_n (by decide)]
    have a14 : ArC S1 55 (hpTk h tk) := fun s hs' => by
      rw [e14]
      by_cases e : s = h 0
      · rw [e, upd_s, htk0]
      · rw [upd_n e, h5 s hs']; unfold hpTk; rw [if_neg e]
    have a12 : ShM S1 t f := fun s hs' => by rw [f1 47 (by decide)]; exact h3 s hs'
    have a10 : ∀ q, q < p + 1 → S1 50 (B + q) = nI (sy f lg 2 q) := fun q hq => by
      rw [e10]
      by_cases e : q = p
      · rw [e, upd_s, hsy]
      · rw [upd_n (by omega)]; exact h8 q (by omega)
    have rest : ∀ (S2 : St) (m' : Nat) (h' : Nat → Nat), Fr [43, 54] S1 S2 → (∀ j, j ≠ 13 → S2 43 j = S1 43 j) → m' ≤ 256 → S2 43 13 = nI m' → (∀ i, i < m' → h' i < 256) → (∀ i, i < m' → S2 54 i = nI (h' i)) → (d ≠ 0 → hpRun f (p + 1) = (m', hpS f (hpTk h tk) m' 0 h', hpTk h tk)) → ∃ S', f_X9_even_L180 fu p0 p1 p2 (f_X9_even_L96 fu p0 p1 p2 n) (nI t) (nI B) (nI (2 ^ lg)) (nI p) S2 = some (0, S') ∧ (∀ q, q < 2 ^ lg → S' 50 (B + q) = nI (sy f lg 2 q)) ∧ Fr [43, 50, 54, 55] S S' ∧ (∀ j, j ≠ 13 → S' 43 j = S 43 j) ∧ FrB B S S' := by
      intro S2 m' h' F2 F9 hm' g6 gh g15 hrun
      obtain ⟨S3, c1, c2, c3⟩ := sinkM_s (fu := fu) (k := 0) (n := m') (t := t) (tk := hpTk h tk) hfu ht7 hm' hle htl (by omega) g6 (fun s hs' => by rw [F2 47 (by decide)]; exact a12 s hs') (fun s hs' => by rw [F2 55 (by decide)]; exact a14 s hs') gh g15
      obtain ⟨S', g1, g2, g3, g4, g5⟩ := ih (p + 1) n S3 (by omega) (by omega) (fun s hs' => by rw [c3 47 (by decide), F2 47 (by decide)]; exact a12 s hs') (fun hd => by
        rw [hrun hd]
        exact ⟨fun s hs' => by rw [c3 55 (by decide), F2 55 (by decide)]; exact a14 s hs', by rw [c3 43 (by decide)]; exact g6, c2⟩) (fun q hq => by rw [c3 50 (by decide), F2 50 (by decide)]; exact a10 q hq)
      refine ⟨S', ?_, g2, (f1.mono (by simp)).tr ((F2.mono (by simp)).tr ((c3.mono (by simp)).tr g3)), fun j hj => by rw [g4 j hj, c3 43 (by decide), F9 j hj, f1 43 (by decide)], f1B.tr ((FrB.of F2 (by decide)).tr ((FrB.of c3 (by decide)).tr g5))⟩
      unfold f_X9_even_L180
      refine e_bd c1 ?_
      rw [pin_eq, show nI p + (1 : Int32) = _ from nI_1 p]
      exact g1
    have e9 : S1 43 13 = nI m := by rw [f1 43 (by decide)]; exact h6
    have e15 : ∀ i, i < m → S1 54 i = nI (h i) := fun i hi => by rw [f1 54 (by decide)]; exact h7 i hi
    have hpop : hpStep f (m, h, tk) = if hpTk h tk (h 0) = f (h 0) ∧ 1 < m then (m - 1, hpS f (hpTk h tk) (m - 1) 0 (fun i => if i = 0 then h (m - 1) else h i), hpTk h tk) else (m, hpS f (hpTk h tk) m 0 h, hpTk h tk) := rfl
    rw [f_X9_even_L96_s, if_neg (by rw [nI_leI (by omega) (by omega)]; omega), h7 0 hn0, pin_eq, nI_add, if_neg (nI_in (by omega) (by omega)), nI_clamp (show B + p < 2 ^ 31 by omega), pin_eq, if_neg (nI_in b0.1 (by omega)), if_neg (nI_in b0.1 (by omega)), nI_clamp (show h 0 < 2 ^ 31 by omega), puS_n (show 55 ≠ 50 by decide), h5 _ b0.1, show nI (tk (h 0)) + (1 : Int32) = _ from nI_1 _, pin_eq, ← eS1, if_neg (nI_in2 b0.1 (by omega)), if_neg (gdT (by omega) (by omega)), ixT, nI_clamp (by omega), a14 _ b0.1, a12 _ b0.1, e9]
    by_cases q1 : hpTk h tk (h 0) = f (h 0)
    · rw [if_pos (by rw [q1]), show nI m - (1 : Int32) = nI (m - 1) from pk_sub (b := 1) (by omega), pin_eq, puS_s, upd_s, if_neg (nI_in (by omega) (by omega)), nI_clamp (by omega), puS_n (show 54 ≠ 43 by decide), e15 _ (by omega), pin_eq]
      refine rest _ (m - 1) (fun i => if i = 0 then h (m - 1) else h i) ((Fr.rf.pu (by simp)).pu (by simp)) (fun j hj => by rw [puS_n (by decide), puS_s, upd_n hj]) (by omega) (by rw [puS_n (by decide), puS_s, upd_s]) (fun i hi => ?_) (fun i hi => ?_) (fun hd => ?_)
      · split
        · exact (b2 _ (by omega)).1
        · exact (b2 _ (by omega)).1
      · rw [puS_s, puS_n (by decide)]
        by_cases e : i = 0
        · rw [e, upd_s, if_pos rfl]
        · rw [upd_n e, if_neg e]; exact e15 i (by omega)
      · rw [hst, hpop]
        by_cases q2 : 1 < m
        · rw [if_pos ⟨q1, q2⟩]
        · exfalso
          have H2 := hnext hd
          rw [hst, hpop, if_neg (fun z => q2 z.2)] at H2
          have h10 := (H2.2.1 0 hn0).2
          have e1 : hpS f (hpTk h tk) m 0 h = h := by
            show hpSink f (hpTk h tk) m (299 + 1) 0 h = h
            rw [hpSink, if_pos (by omega)]
          dsimp only at h10
          rw [e1] at h10
          omega
    · have htkb := htl _ b0.1
      rw [if_neg (by rw [nI_eq (by omega) (by omega)]; exact q1)]
      exact rest S1 m h Fr.rf (fun _ _ => rfl) b1 e9 (fun i hi => (b2 i hi).1) e15 (fun _ => by rw [hst, hpop, if_neg (fun z => q1 z.1)])
theorem evenM_s {fu lg t B : Nat} {f : Nat → Nat} {S : St} (hfu : 20000 ≤ fu) (ht7 : t < 7) (hB : B + 4096 ≤ 86016) (hs : SumOK f lg) (h3 : ShM S t f) : ∃ S', f_X9_even fu (nI t) (nI B) (nI (2 ^ lg)) S = some (0, S') ∧ (∀ q, q < 2 ^ lg → S' 50 (B + q) = nI (sy f lg 2 q)) ∧ Fr [43, 50, 54, 55] S S' ∧ (∀ j, j ≠ 13 → S' 43 j = S 43 j) ∧ FrB B S S' := by
  have hM := pow12 hs.2.1
  have hle := hs.le
  obtain ⟨S1, eS1⟩ : ∃ z, z = puS S 43 13 0 := ⟨_, rfl⟩
  have f1 : Fr [43] S S1 := by rw [eS1]; exact Fr.rf.pu (by simp)
  have f19 : ∀ j, j ≠ 13 → S1 43 j = S 43 j := fun j hj => by rw [eS1, puS_s, upd_n hj]
  obtain ⟨S2, b1, b2, b3, b6, b4, b5⟩ := initHM_loop (fu := fu) (t := t) (p0 := nI t) (p1 := nI B) (p2 := nI (2 ^ lg)) (v2 := nI B) (v3 := nI (2 ^ lg)) ht7 hle 256 0 fu S1 (by omega) (by omega) (fun s hs' => by rw [f1 47 (by decide)]; exact h3 s hs') (by rw [eS1, puS_s, upd_s]; rfl) (fun i hi => absurd hi (by simp [hpInit])) (fun x hx => absurd hx (by omega))
  have HI0 := HI.init f
  have hn : (hpInit f 256).1 ≤ 256 := HI0.1
  have hdiv : nI (hpInit f 256).1 / 2 = nI ((hpInit f 256).1 / 2) := pk_div (d := 2) (by omega) (by omega) (by omega)
  have hn0 : 0 < (hpInit f 256).1 := HI0.ne (by rw [fb_zero, hs.2.2]; exact Nat.two_pow_pos lg)
  obtain ⟨S3, c1, c2, c3⟩ := buildM_loop (fu := fu) (t := t) (p0 := nI t) (p1 := nI B) (p2 := nI (2 ^ lg)) (v2 := nI B) (v3 := nI (2 ^ lg)) hfu ht7 hn hle ((hpInit f 256).1 / 2) fu S2 _ (by omega) (by omega) b2 (fun s hs' => by rw [b4 47 (by decide), f1 47 (by decide)]; exact h3 s hs') (fun s hs' => b6 s hs') HI0 b3
  obtain ⟨S', g1, g2, g3, g4, g5⟩ := evenM_loop (fu := fu) (t := t) (B := B) (p0 := nI t) (p1 := nI B) (p2 := nI (2 ^ lg)) hfu ht7 hB hs (2 ^ lg) 0 fu S3 (by omega) (by omega) (fun s hs' => by rw [c3 47 (by decide), b4 47 (by decide), f1 47 (by decide)]; exact h3 s hs') (fun _ => ⟨fun s hs' => by rw [c3 55 (by decide)]; exact b6 s hs', by rw [c3 43 (by decide)]; exact b2, c2⟩) (fun q hq => absurd hq (by omega))
  refine ⟨S', ?_, g2, (f1.mono (by simp)).tr ((b4.mono (by simp)).tr ((c3.mono (by simp)).tr g3)), fun j hj => by rw [g4 j hj, c3 43 (by decide), b5 j hj, f19 j hj], (FrB.of f1 (by decide)).tr ((FrB.of b4 (by decide)).tr ((FrB.of c3 (by decide)).tr g5))⟩
  unfold f_X9_even
  rw [pin_eq, ← eS1]
  rw [hdiv] at b1
  exact b1.trans (c1.trans g1)
theorem stepMi_loop {fu lg w t B : Nat} {f : Nat → Nat} {p0 p1 : Int32} {K : Int32 → Int32 → Int32 → Int32 → Int32 → Int32 → St → Option (Int32 × St)} (ht7 : t < 7) (hB : B + 4096 ≤ 86016) (hs : SumOK f lg) (hw : w < 2) {s : Nat} (hs2 : s < 256) : ∀ (d i n : Nat) (S : St), i + d = f s → d < n → ShM S t f → (∀ k, k < fb_sm f s + i → S 50 (B + posN lg w k) = nI (syA f k)) → ∃ S', f_X9_lay_L115 fu p0 p1 K n (nI t) (nI B) (nI (2 ^ lg)) (nI (stepN lg w)) (nI (posN lg w (fb_sm f s + i))) (nI s) (nI i) S = K (nI t) (nI B) (nI (2 ^ lg)) (nI (stepN lg w)) (nI (posN lg w (fb_sm f (s + 1)))) (nI (s + 1)) S' ∧ (∀ k, k < fb_sm f (s + 1) → S' 50 (B + posN lg w k) = nI (syA f k)) ∧ Fr [50] S S' ∧ FrB B S S' := by
  obtain ⟨⟨h1', -⟩, h2', h3'⟩ := id hs
  have hM := pow12 h2'
  have hMp := Nat.two_pow_pos lg
  have hst := (stepinv h1' h2' hw).2
  have hpt := sm_mono f (show s + 1 ≤ 256 by omega)
  rw [fb_sm_succ, h3'] at hpt
  intro d
  induction d with
  | zero =>
    intro i n S h1 h2 h4 h5
    obtain ⟨n, rfl⟩ : ∃ m, n = m + 1 := ⟨n - 1, by omega⟩
    obtain rfl : i = f s := by omega
    refine ⟨S, ?_, by rw [fb_sm_succ]; exact h5, Fr.rf, FrB.rf⟩
    rw [f_X9_lay_L115_s, if_neg (gdT (by omega) (by omega)), ixT, nI_clamp (by omega), h4 s hs2, if_pos (nI_le (by omega) (by omega)), pin_eq, fb_sm_succ, show nI s + (1 : Int32) = _ from nI_1 s]
  | succ d ih =>
    intro i n S h1 h2 h4 h5
    obtain ⟨n, rfl⟩ : ∃ m, n = m + 1 := ⟨n - 1, by omega⟩
    have hk : fb_sm f s + i < 2 ^ lg := by omega
    have hpl := posN_lt lg w (fb_sm f s + i)
    have hsy : syA f (fb_sm f s + i) = s := syA_u (by omega) (by omega) (by rw [fb_sm_succ]; omega)
    obtain ⟨S', g1, g2, g3, g4⟩ := ih (i + 1) n (puS S 50 (B + posN lg w (fb_sm f s + i)) (nI s)) (by omega) (by omega) (fun s hs => by rw [puS_n (by decide)]; exact h4 s hs) (fun k hk2 => by
      rw [puS_s]
      by_cases e : k = fb_sm f s + i
      · rw [e, upd_s, hsy]
      · rw [upd_n (fun q => e (posN_inj h1' h2' hw (by omega) hk (by omega)))]; exact h5 k (by omega))
    refine ⟨S', ?_, g2, (Fr.rf.pu (by simp)).tr g3, (FrB.pu (by omega)).tr g4⟩
    rw [f_X9_lay_L115_s, if_neg (gdT (by omega) (by omega)), ixT, nI_clamp (by omega), h4 s hs2, if_neg (by rw [nI_leI (by omega) (by omega)]; omega), nI_add, if_neg (nI_in (by omega) (by omega)), nI_clamp (by omega), pin_eq, if_neg (nI_ne0 (by omega) (by omega)), pin_eq, pin_eq, nI_add, pk_rem (by omega) (by omega) (by omega), posN_s, show nI i + (1 : Int32) = _ from nI_1 i]
    exact g1
theorem stepM_loop {fu lg w t B : Nat} {f : Nat → Nat} {p0 p1 : Int32} (hf : 20000 ≤ fu) (ht7 : t < 7) (hB : B + 4096 ≤ 86016) (hs : SumOK f lg) (hw : w < 2) : ∀ (d i n : Nat) (S : St), i + d = 256 → d < n → ShM S t f → (∀ k, k < fb_sm f i → S 50 (B + posN lg w k) = nI (syA f k)) → ∃ S', f_X9_lay_L104 fu p0 p1 n (nI t) (nI B) (nI (2 ^ lg)) (nI (stepN lg w)) (nI (posN lg w (fb_sm f i))) (nI i) S = f_X9_lay_L166 fu p0 p1 (nI t) (nI B) (nI (2 ^ lg)) S' ∧ (∀ p, p < 2 ^ lg → S' 50 (B + p) = nI (sy f lg w p)) ∧ Fr [50] S S' ∧ FrB B S S' := by
  obtain ⟨⟨h1', -⟩, h2', h3'⟩ := id hs
  have hM := pow12 h2'
  intro d
  induction d with
  | zero =>
    intro i n S h1 h2 h4 h5
    obtain ⟨n, rfl⟩ : ∃ m, n = m + 1 := ⟨n - 1, by omega⟩
    obtain rfl : i = 256 := by omega
    refine ⟨S, ?_, fun p hp => ?_, Fr.rf, FrB.rf⟩
    · rw [f_X9_lay_L104_s, if_pos (show (256 : Int32) ≤ nI 256 by decide)]
    · have h := h5 (p * stepI lg w % 2 ^ lg) (by rw [h3']; exact Nat.mod_lt _ (Nat.two_pow_pos lg))
      rw [posN_inv2 h1' h2' hw hp] at h
      rw [h]
      unfold sy
      rw [if_neg (by omega)]
  | succ d ih =>
    intro i n S h1 h2 h4 h5
    obtain ⟨n, rfl⟩ : ∃ m, n = m + 1 := ⟨n - 1, by omega⟩
    have hfi := fb_sm_part f (show i < 256 by omega)
    obtain ⟨S1, a1, a2, a3, a4⟩ := stepMi_loop (fu := fu) (t := t) (B := B) (p0 := p0) (p1 := p1) (K := f_X9_lay_L104 fu p0 p1 n) ht7 hB hs hw (show i < 256 by omega) (f i) 0 fu S (by omega) (by omega) h4 (by rw [Nat.add_zero]; exact h5)
    obtain ⟨S', g1, g2, g3, g4⟩ := ih (i + 1) n S1 (by omega) (by omega) (fun s hs => by rw [a3 47 (by decide)]; exact h4 s hs) a2
    refine ⟨S', ?_, g2, a3.tr g3, a4.tr g4⟩
    rw [f_X9_lay_L104_s, if_neg (lt256 (by omega))]
    rw [Nat.add_zero] at a1
    rw [show f_X9_lay_L115 fu p0 p1 (f_X9_lay_L104 fu p0 p1 n) fu (nI t) (nI B) (nI (2 ^ lg)) (nI (stepN lg w)) (nI (posN lg w (fb_sm f i))) (nI i) 0 S = _ from a1]
    exact g1
theorem ranksM_loop {fu lg t B : Nat} {f g : Nat → Nat} {p0 p1 : Int32} (ht7 : t < 7) (hB : B + 4096 ≤ 86016) (hs : SumOK f lg) (hL : LayOK g f (2 ^ lg)) : ∀ (d p n : Nat) (S : St), p + d = 2 ^ lg → d < n → ShM S t f → (∀ s, s < 256 → S 48 (256 * t + s) = nI (fb_sm f s)) → (∀ q, q < 2 ^ lg → S 50 (B + q) = nI (g q)) → (∀ q, q < p → S 51 (B + q) = nI (rkN f g q)) → (∀ q, q < p → S 52 (B + ixN f g q) = nI q) → (∀ s, s < 256 → S 55 s = nI (ctS g s p)) → ∃ S', f_X9_lay_L194 fu p0 p1 n (nI t) (nI B) (nI (2 ^ lg)) (nI p) S = some (0, S') ∧ (∀ q, q < 2 ^ lg → S' 51 (B + q) = nI (rkN f g q)) ∧ (∀ q, q < 2 ^ lg → S' 52 (B + ixN f g q) = nI q) ∧ Fr [51, 52, 55] S S' ∧ FrB B S S' := by
  have hM := pow12 hs.2.1
  intro d
  induction d with
  | zero =>
    intro p n S h1 h2 h3 h4 h6 h5 h7 h8
    obtain ⟨n, rfl⟩ : ∃ m, n = m + 1 := ⟨n - 1, by omega⟩
    obtain rfl : p = 2 ^ lg := by omega
    exact ⟨S, by rw [f_X9_lay_L194_s, if_pos (nI_le (by omega) (by omega))], h5, h7, Fr.rf, FrB.rf⟩
  | succ d ih =>
    intro p n S h1 h2 h3 h4 h6 h5 h7 h8
    obtain ⟨n, rfl⟩ : ∃ m, n = m + 1 := ⟨n - 1, by omega⟩
    have hp : p < 2 ^ lg := by omega
    have hg := hL.1 p hp
    have hct := hL.ct hp
    have hix := hL.ix hs.2.2 hp
    have hfg := fb_sm_part f hg
    rw [hs.2.2] at hfg
    obtain ⟨S1, eS1⟩ : ∃ z, z = puS (puS (puS S 51 (B + p) (nI (rkN f g p))) 52 (B + ixN f g p) (nI p)) 55 (g p) (nI (ctS g (g p) p + 1)) := ⟨_, rfl⟩
    have f1 : Fr [51, 52, 55] S S1 := by rw [eS1]; exact ((Fr.rf.pu (by simp)).pu (by simp)).pu (by simp)
    have f1B : FrB B S S1 := by rw [eS1]; exact (FrB.pu (by omega)).tr ((FrB.pu (by omega)).tr (FrB.of (Fr.rf.pu (by simp) : Fr [55] _ _) (by decide)))
    have e10 : S1 51 = upd (S 51) (B + p) (nI (rkN f g p)) := by rw [eS1, puS_n (by decide), puS_n (by decide), puS_s]
    have e11 : S1 52 = upd (S 52) (B + ixN f g p) (nI p) := by rw [eS1, puS_n (by decide), puS_s, puS_n (by decide)]
    have e14 : S1 55 = upd (S 55) (g p) (nI (ctS g (g p) p + 1)) := by rw [eS1, puS_s, puS_n (by decide), puS_n (by decide)]
    obtain ⟨S', g1, g2, g3, g4, g5⟩ := ih (p + 1) n S1 (by omega) (by omega) (fun s hs => by rw [f1 47 (by decide)]; exact h3 s hs) (fun s hs => by rw [f1 48 (by decide)]; exact h4 s hs) (fun q hq => by rw [f1 50 (by decide)]; exact h6 q hq) (fun q hq => by
      rw [e10]
      by_cases e : q = p
      · rw [e, upd_s]
      · rw [upd_n (by omega)]; exact h5 q (by omega)) (fun q hq => by
      rw [e11]
      by_cases e : q = p
      · rw [e, upd_s]
      · rw [upd_n (fun z => e (hL.inj (by omega) hp (by omega)))]; exact h7 q (by omega)) (fun s hs => by
      rw [e14, ctS_s]
      by_cases e : s = g p
      · rw [e, upd_s, if_pos rfl]
      · rw [upd_n e, if_neg (fun z => e z.symm), Nat.add_zero]; exact h8 s hs)
    refine ⟨S', ?_, g2, g3, f1.tr g4, f1B.tr g5⟩
    have hi : nI B + nI (fb_sm f (g p)) + nI (ctS g (g p) p) = nI (B + ixN f g p) := by rw [nI_add, nI_add]; unfold ixN; congr 1; omega
    have hr : nI (f (g p)) + nI (ctS g (g p) p) = nI (rkN f g p) := nI_add _ _
    rw [f_X9_lay_L194_s, if_neg (by rw [nI_leI (by omega) (by omega)]; omega), nI_add, if_neg (nI_in (by omega) (by omega)), nI_clamp (show B + p < 2 ^ 31 by omega), h6 p hp, pin_eq, if_neg (gdT (by omega) (by omega)), if_neg (nI_in hg (by omega)), if_neg (nI_in2 (by omega) (by omega)), ixT, nI_clamp (show 256 * t + g p < 2 ^ 31 by omega), nI_clamp (show g p < 2 ^ 31 by omega), h3 _ hg, h8 _ hg, hr, pin_eq, if_neg (nI_in2 (by omega) (by omega)), if_neg (nI_in2 hg (by omega)), puS_n (show 48 ≠ 51 by decide), puS_n (show 55 ≠ 51 by decide), h4 _ hg, h8 _ hg, hi, if_neg (nI_in (by omega) (by omega)), nI_clamp (by omega), pin_eq, if_neg (nI_in2 hg (by omega)), if_neg (nI_in2 hg (by omega)), puS_n (show 55 ≠ 52 by decide), puS_n (show 55 ≠ 51 by decide), h8 _ hg, show nI (ctS g (g p) p) + (1 : Int32) = _ from nI_1 _, pin_eq, pin_eq, ← eS1, show nI p + (1 : Int32) = _ from nI_1 p]
    exact g1
theorem zero55_loop {fu t : Nat} {p0 p1 v3 v4 : Int32} : ∀ (d i n : Nat) (S : St), i + d = 256 → d < n → (∀ s, s < i → S 55 s = 0) → ∃ S', f_X9_lay_L169 fu p0 p1 n (nI t) v3 v4 (nI i) S = f_X9_lay_L194 fu p0 p1 fu (nI t) v3 v4 0 S' ∧ (∀ s, s < 256 → S' 55 s = 0) ∧ Fr [55] S S' := by
  intro d
  induction d with
  | zero =>
    intro i n S h1 h2 h3
    obtain ⟨n, rfl⟩ : ∃ m, n = m + 1 := ⟨n - 1, by omega⟩
    obtain rfl : i = 256 := by omega
    exact ⟨S, by rw [f_X9_lay_L169_s, if_pos (show (256 : Int32) ≤ nI 256 by decide)], h3, Fr.rf⟩
  | succ d ih =>
    intro i n S h1 h2 h3
    obtain ⟨n, rfl⟩ : ∃ m, n = m + 1 := ⟨n - 1, by omega⟩
    obtain ⟨S', g1, g2, g3⟩ := ih (i + 1) n (puS S 55 i 0) (by omega) (by omega) (fun s hs => by
      rw [puS_s]
      by_cases e : s = i
      · rw [e, upd_s]
      · rw [upd_n e]; exact h3 s (by omega))
    refine ⟨S', ?_, g2, (Fr.rf.pu (by simp)).tr g3⟩
    rw [f_X9_lay_L169_s, if_neg (lt256 (by omega)), if_neg (nI_in (by omega) (by omega)), nI_clamp (by omega), pin_eq, pin_eq, show nI i + (1 : Int32) = _ from nI_1 i]
    exact g1
theorem layM_ranks {fu lg t B : Nat} {f g : Nat → Nat} {p0 p1 : Int32} {S : St} (hfu : 20000 ≤ fu) (ht7 : t < 7) (hB : B + 4096 ≤ 86016) (hs : SumOK f lg) (hL : LayOK g f (2 ^ lg)) (h3 : ShM S t f) (h4 : ∀ s, s < 256 → S 48 (256 * t + s) = nI (fb_sm f s)) (h6 : ∀ q, q < 2 ^ lg → S 50 (B + q) = nI (g q)) : ∃ S', f_X9_lay_L166 fu p0 p1 (nI t) (nI B) (nI (2 ^ lg)) S = some (0, S') ∧ (∀ q, q < 2 ^ lg → S' 51 (B + q) = nI (rkN f g q)) ∧ (∀ q, q < 2 ^ lg → S' 52 (B + ixN f g q) = nI q) ∧ Fr [51, 52, 55] S S' ∧ FrB B S S' := by
  have hM := pow12 hs.2.1
  obtain ⟨S1, a1, a2, a3⟩ := zero55_loop (fu := fu) (t := t) (p0 := p0) (p1 := p1) (v3 := nI B) (v4 := nI (2 ^ lg)) 256 0 fu S (by omega) (by omega) (fun s hs => absurd hs (by omega))
  obtain ⟨S', g1, g2, g3, g4, g5⟩ := ranksM_loop (fu := fu) (t := t) (B := B) (p0 := p0) (p1 := p1) ht7 hB hs hL (2 ^ lg) 0 fu S1 (by omega) (by omega) (fun s hs => by rw [a3 47 (by decide)]; exact h3 s hs) (fun s hs => by rw [a3 48 (by decide)]; exact h4 s hs) (fun q hq => by rw [a3 50 (by decide)]; exact h6 q hq) (fun q hq => absurd hq (by omega)) (fun q hq => absurd hq (by omega)) (fun s hs => by rw [a2 s hs]; rfl)
  exact ⟨S', a1.trans g1, g2, g3, (a3.mono (by simp)).tr g4, (FrB.of a3 (by decide)).tr g5⟩
