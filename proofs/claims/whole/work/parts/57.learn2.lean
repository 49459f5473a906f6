/-! learn in the reference: counting, beginning; the call itself -/
theorem beg3_loop {fu t : Nat} {p : Int32} (ht : t < 7) : ∀ (d i n : Nat) (S : St), i + d = 3 → d < n → (∀ w, w < i → S 49 (3 * t + w) = 0) → ∃ S', f_X9_begin_L47 fu p n (nI t) (nI i) S = some (0, S') ∧ (∀ w, w < 3 → S' 49 (3 * t + w) = 0) ∧ (∀ j, (j < 3 * t ∨ 3 * t + 3 ≤ j) → S' 49 j = S 49 j) ∧ Fr [49] S S' := by
  intro d
  induction d with
  | zero =>
    intro i n S h1 h2 h3
    obtain ⟨n, rfl⟩ : ∃ m, n = m + 1 := ⟨n - 1, by omega⟩
    obtain rfl : i = 3 := by omega
    refine ⟨S, ?_, h3, fun _ _ => rfl, Fr.rf⟩
    rw [f_X9_begin_L47_s, if_pos (by decide)]
  | succ d ih =>
    intro i n S h1 h2 h3
    obtain ⟨n, rfl⟩ : ∃ m, n = m + 1 := ⟨n - 1, by omega⟩
    obtain ⟨S', g1, g2, g3, g4⟩ := ih (i + 1) n (puS S 49 (3 * t + i) 0) (by omega) (by omega) (fun w hw => by
      rw [puS_s]
      by_cases e : w = i
      · rw [e, upd_s]
      · rw [upd_n (by omega)]; exact h3 w (by omega))
    refine ⟨S', ?_, g2, fun j hj => by rw [g3 j hj, puS_s, upd_n (by omega)], (Fr.rf.pu (by simp)).tr g4⟩
    rw [f_X9_begin_L47_s]
    simp (disch := omega) only [pin_eq, nI_lit, nI_ltI, nI_leI, nI_clamp, nI_add, pk_mul, Nat.not_lt_zero, false_or]
    rw [if_neg (by omega), if_neg (by omega), show vp_nar .boolean (nI 0) = 0 from rfl]
    exact g1
theorem beg_loop {fu t : Nat} {p : Int32} {f : Nat → Nat} (hf : 20000 ≤ fu) (ht : t < 7) : ∀ (d i n : Nat) (S : St), i + d = 256 → d < n → ShM S t f → (∀ s, s < i → S 48 (256 * t + s) = nI (fb_sm f s)) → ∃ S', f_X9_begin_L4 fu p n (nI t) (nI (fb_sm f i)) (nI i) S = some (0, S') ∧ (∀ s, s < 256 → S' 48 (256 * t + s) = nI (fb_sm f s)) ∧ (∀ j, (j < 256 * t ∨ 256 * t + 256 ≤ j) → S' 48 j = S 48 j) ∧ (∀ w, w < 3 → S' 49 (3 * t + w) = 0) ∧ (∀ j, (j < 3 * t ∨ 3 * t + 3 ≤ j) → S' 49 j = S 49 j) ∧ Fr [48, 49] S S' := by
  intro d
  induction d with
  | zero =>
    intro i n S h1 h2 h3 h4
    obtain ⟨n, rfl⟩ : ∃ m, n = m + 1 := ⟨n - 1, by omega⟩
    obtain rfl : i = 256 := by omega
    obtain ⟨S', g1, g2, g3, g4⟩ := beg3_loop (fu := fu) (p := p) ht 3 0 fu S (by omega) (by omega) (fun w hw => absurd hw (by omega))
    refine ⟨S', ?_, fun s hs => by rw [g4 48 (by decide)]; exact h4 s hs, fun j _ => by rw [g4 48 (by decide)], g2, g3, g4.mono (by simp)⟩
    rw [f_X9_begin_L4_s, if_pos (show (256 : Int32) ≤ nI 256 by decide)]
    exact g1
  | succ d ih =>
    intro i n S h1 h2 h3 h4
    obtain ⟨n, rfl⟩ : ∃ m, n = m + 1 := ⟨n - 1, by omega⟩
    obtain ⟨S', g1, g2, g3, g4, g5, g6⟩ := ih (i + 1) n (puS S 48 (256 * t + i) (nI (fb_sm f i))) (by omega) (by omega) (fun s hs => by rw [puS_n (by decide)]; exact h3 s hs) (fun s hs => by
      rw [puS_s]
      by_cases e : s = i
      · rw [e, upd_s]
      · rw [upd_n (by omega)]; exact h4 s (by omega))
    refine ⟨S', ?_, g2, fun j hj => by rw [g3 j hj, puS_s, upd_n (by omega)], g4, fun j hj => by rw [g5 j hj, puS_n (by decide)], (Fr.rf.pu (by simp)).tr g6⟩
    rw [f_X9_begin_L4_s, if_neg (show ¬ (256 : Int32) ≤ nI i by rw [show (256 : Int32) = nI 256 from rfl, nI_leI (by omega) (by omega)]; omega), if_neg (gdT (by omega) (by omega)), pin_eq, if_neg (gdT (by omega) (by omega)), ixT, nI_clamp (by omega), pin_eq, pin_eq, puS_n (by decide), h3 i (by omega), nI_add, ← fb_sm_succ, show nI i + (1 : Int32) = _ from nI_1 i]
    exact g1
theorem begin_s {fu t : Nat} {f : Nat → Nat} {S : St} (hf : 20000 ≤ fu) (ht : t < 7) (h : ShM S t f) : ∃ S', f_X9_begin fu (nI t) S = some (0, S') ∧ (∀ s, s < 256 → S' 48 (256 * t + s) = nI (fb_sm f s)) ∧ (∀ j, (j < 256 * t ∨ 256 * t + 256 ≤ j) → S' 48 j = S 48 j) ∧ (∀ w, w < 3 → S' 49 (3 * t + w) = 0) ∧ (∀ j, (j < 3 * t ∨ 3 * t + 3 ≤ j) → S' 49 j = S 49 j) ∧ Fr [48, 49] S S' := beg_loop hf ht 256 0 fu S (by omega) (by omega) h (fun s hs => absurd hs (by omega))
theorem f0_valM {c : Nat → Nat} {C m s : Nat} (hm : m ≤ 12) (hb : c s ≤ C) (hC : 0 < C) (hC2 : C ≤ 4000) : nI (c s) * nI (2 ^ m) / nI C = nI (c s * 2 ^ m / C) ∧ c s * 2 ^ m / C < 2 ^ 31 := by
  have hp := pow12 hm
  have h1 : c s * 2 ^ m ≤ 4000 * 4096 := Nat.mul_le_mul (by omega) hp
  have h2 : c s * 2 ^ m / C ≤ c s * 2 ^ m := Nat.div_le_self _ _
  exact ⟨by rw [pk_mul, pk_div (by omega) hC (by omega)], by omega⟩
theorem initM_loop {fu t m C : Nat} {p0 p1 v3 : Int32} {c : Nat → Nat} (ht : t < 6) (hm : m ≤ 12) (hb : ∀ s, c s ≤ C) (hC : 0 < C) (hC2 : C ≤ 4000) : ∀ (d i n : Nat) (S : St), i + d = 256 → d < n → (∀ s, s < i → S 47 (256 * t + s) = nI (f0N c C (2 ^ m) s)) → CtM S c → S 43 1 = nI C → ∃ S', f_X9_learn_L149 fu p0 p1 n (nI t) v3 (nI (2 ^ m)) (nI (fb_sm (f0N c C (2 ^ m)) i)) (nI i) S = f_X9_learn_L220 fu p0 p1 fu (nI t) v3 (nI (2 ^ m)) (nI (fb_sm (f0N c C (2 ^ m)) 256)) S' ∧ ShM S' t (f0N c C (2 ^ m)) ∧ Fr [47] S S' ∧ FrT t S S' := by
  intro d
  induction d with
  | zero =>
    intro i n S h1 h2 h3 h4 h5
    obtain ⟨n, rfl⟩ : ∃ m, n = m + 1 := ⟨n - 1, by omega⟩
    obtain rfl : i = 256 := by omega
    refine ⟨S, ?_, h3, Fr.rf, fun _ _ => rfl⟩
    rw [f_X9_learn_L149_s, if_pos (show (256 : Int32) ≤ nI 256 by decide)]
  | succ d ih =>
    intro i n S h1 h2 h3 h4 h5
    obtain ⟨n, rfl⟩ : ∃ m, n = m + 1 := ⟨n - 1, by omega⟩
    have hbi := hb i
    obtain ⟨S', g1, g2, g3, g4⟩ := ih (i + 1) n (puS S 47 (256 * t + i) (nI (f0N c C (2 ^ m) i))) (by omega) (by omega) (fun s hs => by
      rw [puS_s]
      by_cases e : s = i
      · rw [e, upd_s]
      · rw [upd_n (by omega)]; exact h3 s (by omega)) (fun s hs => by rw [puS_n (by decide)]; exact h4 s hs) (by rw [puS_n (by decide)]; exact h5)
    refine ⟨S', ?_, g2, (Fr.rf.pu (by simp)).tr g3, fun j hj => (g4 j hj).trans (FrT.put (by omega) j hj)⟩
    obtain ⟨e1, e2⟩ := f0_valM (c := c) (s := i) hm (hb i) hC hC2
    have tail : ∀ v : Int32, v = nI (f0N c C (2 ^ m) i) → f_X9_learn_L192 fu p0 p1 (f_X9_learn_L149 fu p0 p1 n) (nI t) v3 (nI (2 ^ m)) (nI (fb_sm (f0N c C (2 ^ m)) i)) (nI i) v S = f_X9_learn_L220 fu p0 p1 fu (nI t) v3 (nI (2 ^ m)) (nI (fb_sm (f0N c C (2 ^ m)) 256)) S' := by
      intro v hv
      unfold f_X9_learn_L192
      rw [if_neg (gdT (by omega) (by omega)), ixT, nI_clamp (by omega), pin_eq, pin_eq, pin_eq, hv, nI_add, ← fb_sm_succ, show nI i + (1 : Int32) = _ from nI_1 i]
      exact g1
    rw [f_X9_learn_L149_s, if_neg (show ¬ (256 : Int32) ≤ nI i by rw [show (256 : Int32) = nI 256 from rfl, nI_leI (by omega) (by omega)]; omega), if_neg (nI_in (by omega) (by omega)), nI_clamp (by omega), h5, if_neg (nI_ne0 hC (by omega)), h4 i (by omega), e1, pin_eq, if_neg (nI_in2 (by omega) (by omega))]
    by_cases h0 : c i = 0
    · rw [if_pos ((nI_eq0 (by omega)).mpr h0)]
      refine tail _ ?_
      unfold f0N
      rw [if_pos h0, h0, Nat.zero_mul, Nat.zero_div]
    · rw [if_neg (fun z => h0 ((nI_eq0 (by omega)).mp z))]
      by_cases h6 : c i * 2 ^ m / C = 0
      · rw [if_pos (by rw [h6]; rfl)]
        refine tail _ ?_
        unfold f0N
        rw [if_neg h0, if_pos h6]
        rfl
      · rw [if_neg (nI_ne0 (Nat.pos_of_ne_zero h6) e2)]
        refine tail _ ?_
        unfold f0N
        rw [if_neg h0, if_neg h6]
theorem kindM_loop {fu t m : Nat} {p0 p1 : Int32} {c : Nat → Nat} {S : St} (ht : t < 6) (hm : m ≤ 12) (hb : ∀ s, c s ≤ 4000) (hc : CtM S c) : ∀ (d i n : Nat), i + d = 256 → d < n → f_X9_learn_L90 fu p0 p1 n (nI t) (nI m) (nI (fb_ct (fun s => decide (0 < c s)) i)) (nI i) S = (if fb_ct (fun s => decide (0 < c s)) 256 ≤ 2 ^ m then f_X9_learn_L149 fu p0 p1 fu (nI t) (nI (fb_ct (fun s => decide (0 < c s)) 256)) (nI (2 ^ m)) 0 0 (puS S 46 t (nI m)) else some (-3, S)) := by
  have hp := pow12 hm
  intro d
  induction d with
  | zero =>
    intro i n h1 h2
    obtain ⟨n, rfl⟩ : ∃ m, n = m + 1 := ⟨n - 1, by omega⟩
    obtain rfl : i = 256 := by omega
    have hk := fb_ct_le (fun s => decide (0 < c s)) 256
    rw [f_X9_learn_L90_s, if_pos (show (256 : Int32) ≤ nI 256 by decide), show (1 : Int32) <<< (nI m &&& 31) = nI (2 ^ m) from shl1 hm, pin_eq]
    by_cases h : fb_ct (fun s => decide (0 < c s)) 256 ≤ 2 ^ m
    · rw [if_pos h, if_pos (nI_le h (by omega)), if_neg (nI_in (by omega) (by omega)), nI_clamp (by omega), pin_eq]
    · rw [if_neg h, if_neg (by rw [nI_leI (by omega) (by omega)]; exact h)]
  | succ d ih =>
    intro i n h1 h2
    obtain ⟨n, rfl⟩ : ∃ m, n = m + 1 := ⟨n - 1, by omega⟩
    have hbi := hb i
    rw [f_X9_learn_L90_s, if_neg (show ¬ (256 : Int32) ≤ nI i by rw [show (256 : Int32) = nI 256 from rfl, nI_leI (by omega) (by omega)]; omega), if_neg (nI_in (by omega) (by omega)), nI_clamp (by omega), hc i (by omega)]
    have h := ih (i + 1) n (by omega) (by omega)
    rw [fb_ct_succ] at h
    unfold f_X9_learn_L114
    by_cases h0 : c i = 0
    · rw [if_pos ((nI_eq0 (by omega)).mpr h0), pin_eq, pin_eq, show nI i + (1 : Int32) = _ from nI_1 i]
      rw [if_neg (by simp [h0]), Nat.add_zero] at h
      rw [← h, show (0 : Int32) = nI 0 from rfl, nI_add, Nat.add_zero]
    · rw [if_neg (fun z => h0 ((nI_eq0 (by omega)).mp z)), pin_eq, pin_eq, show nI i + (1 : Int32) = _ from nI_1 i]
      rw [if_pos (by simp; omega)] at h
      rw [← h, show (1 : Int32) = nI 1 from rfl, nI_add]
theorem cntM_loop {fu t m : Nat} {p0 p1 : Int32} {L : List Nat} (hl : L.length ≤ 4000) (hL : ∀ b ∈ L, b < 256) : ∀ (d i n : Nat) (S : St), i + d = L.length → d < n → RowM S 44 1 L → CtM S (cn L i) → ∃ S', f_X9_learn_L56 fu p0 p1 n (nI t) (nI m) (nI i) S = f_X9_learn_L90 fu p0 p1 fu (nI t) (nI m) 0 0 S' ∧ CtM S' (cn L L.length) ∧ Fr [53] S S' := by
  intro d
  induction d with
  | zero =>
    intro i n S h1 h2 h3 h4
    obtain ⟨n, rfl⟩ : ∃ m, n = m + 1 := ⟨n - 1, by omega⟩
    obtain rfl : i = L.length := by omega
    refine ⟨S, ?_, h4, Fr.rf⟩
    rw [f_X9_learn_L56_s, h3.1, if_pos (nI_le (by omega) (by omega))]
  | succ d ih =>
    intro i n S h1 h2 h3 h4
    obtain ⟨n, rfl⟩ : ∃ m, n = m + 1 := ⟨n - 1, by omega⟩
    have hb : L.getD i 0 < 256 := getD_lt hL (by omega)
    obtain ⟨S', g1, g2, g3⟩ := ih (i + 1) n (puS S 53 (L.getD i 0) (nI (cn L i (L.getD i 0) + 1))) (by omega) (by omega) (h3.of (by rw [puS_n (by decide)]) (puS_n (by decide))) (fun s hs => by
      rw [puS_s, cn_s]
      by_cases e : s = L.getD i 0
      · rw [e, upd_s, if_pos rfl]
      · rw [upd_n e, if_neg e]; exact h4 s hs)
    refine ⟨S', ?_, g2, (Fr.rf.pu (by simp)).tr g3⟩
    rw [f_X9_learn_L56_s, h3.1, if_neg (by rw [nI_leI (by omega) (by omega)]; omega), if_neg (nI_in (by omega) (by omega)), nI_clamp (by omega), h3.2 i (by omega), if_neg (nI_in hb (by omega)), if_neg (nI_in hb (by omega)), nI_clamp (by omega), h4 _ hb, pin_eq, pin_eq, show nI (cn L i (L.getD i 0)) + (1 : Int32) = _ from nI_1 _, show nI i + (1 : Int32) = _ from nI_1 i]
    exact g1
theorem zeroM_loop {fu t m : Nat} {p0 p1 : Int32} : ∀ (d i n : Nat) (S : St), i + d = 256 → d < n → (∀ s, s < i → S 53 s = 0) → ∃ S', f_X9_learn_L34 fu p0 p1 n (nI t) (nI m) (nI i) S = f_X9_learn_L56 fu p0 p1 fu (nI t) (nI m) 0 S' ∧ (∀ s, s < 256 → S' 53 s = 0) ∧ Fr [53] S S' := by
  intro d
  induction d with
  | zero =>
    intro i n S h1 h2 h3
    obtain ⟨n, rfl⟩ : ∃ m, n = m + 1 := ⟨n - 1, by omega⟩
    obtain rfl : i = 256 := by omega
    refine ⟨S, ?_, h3, Fr.rf⟩
    rw [f_X9_learn_L34_s, if_pos (show (256 : Int32) ≤ nI 256 by decide)]
  | succ d ih =>
    intro i n S h1 h2 h3
    obtain ⟨n, rfl⟩ : ∃ m, n = m + 1 := ⟨n - 1, by omega⟩
    obtain ⟨S', g1, g2, g3⟩ := ih (i + 1) n (puS S 53 i 0) (by omega) (by omega) (fun s hs => by
      rw [puS_s]
      by_cases e : s = i
      · rw [e, upd_s]
      · rw [upd_n e]; exact h3 s (by omega))
    refine ⟨S', ?_, g2, (Fr.rf.pu (by simp)).tr g3⟩
    rw [f_X9_learn_L34_s, if_neg (show ¬ (256 : Int32) ≤ nI i by rw [show (256 : Int32) = nI 256 from rfl, nI_leI (by omega) (by omega)]; omega), if_neg (nI_in (by omega) (by omega)), nI_clamp (by omega), pin_eq, pin_eq, show nI i + (1 : Int32) = _ from nI_1 i]
    exact g1
/-- learn in the reference, for a TABLE and LOG that there are and a TAPE that isn't empty -/
theorem learnM_s {fu t m : Nat} {L : List Nat} {S : St} (hf : 2000000 ≤ fu) (ht : t < 6) (hm1 : 1 ≤ m) (hm : m ≤ 12) (h : RowM S 44 1 L) (hl0 : 0 < L.length) (hl : L.length ≤ 4000) (hL : ∀ b ∈ L, b < 256) : (¬ kn L L.length ≤ 2 ^ m ∧ ∃ S', f_X9_learn fu (nI t) (nI m) S = some (-3, S') ∧ Fr [53] S S') ∨ (kn L L.length ≤ 2 ^ m ∧ ∃ S', f_X9_learn fu (nI t) (nI m) S = some (nI (kn L L.length), S') ∧ TabM S' t m (fitN (cn L L.length) L.length (2 ^ m)) ∧ (∀ w, w < 3 → S' 49 (3 * t + w) = 0) ∧ Fr [46, 47, 48, 49, 53] S S' ∧ (∀ j, j ≠ t → S' 46 j = S 46 j) ∧ FrT t S S' ∧ (∀ j, (j < 256 * t ∨ 256 * t + 256 ≤ j) → S' 48 j = S 48 j) ∧ ∀ j, (j < 3 * t ∨ 3 * t + 3 ≤ j) → S' 49 j = S 49 j) := by
  have hp := pow12 hm
  have hb : ∀ s, cn L L.length s ≤ L.length := fun s => cn_le L L.length s
  have hb4 : ∀ s, cn L L.length s ≤ 4000 := fun s => by have := hb s; omega
  obtain ⟨S1, a1, a2, a3⟩ := zeroM_loop (fu := fu) (t := t) (m := m) (p0 := nI t) (p1 := nI m) 256 0 fu S (by omega) (by omega) (fun s hs => absurd hs (by omega))
  obtain ⟨S2, b1, b2, b3⟩ := cntM_loop (fu := fu) (t := t) (m := m) (p0 := nI t) (p1 := nI m) hl hL L.length 0 fu S1 (by omega) (by omega) (h.of (by rw [a3 43 (by decide)]) (a3 44 (by decide))) (fun s hs => by rw [a2 s hs]; rfl)
  have hk := kindM_loop (fu := fu) (t := t) (m := m) (p0 := nI t) (p1 := nI m) ht hm hb4 b2 256 0 fu (by omega) (by omega)
  have f2 : Fr [53] S S2 := a3.tr b3
  have e0 : f_X9_learn fu (nI t) (nI m) S = f_X9_learn_L90 fu (nI t) (nI m) fu (nI t) (nI m) 0 0 S2 := by
    unfold f_X9_learn
    rw [h.1]
    simp (disch := omega) only [nI_lit, nI_ltI, nI_leI, nI_eq, Nat.not_lt_zero]
    rw [if_neg (by decide), if_neg (by omega), if_neg (by omega), if_pos hm, if_neg (by omega)]
    exact a1.trans b1
  rw [show f_X9_learn_L90 fu (nI t) (nI m) fu (nI t) (nI m) 0 0 S2 = _ from hk] at e0
  have e1 : fb_ct (fun s => decide (0 < cn L L.length s)) 256 = kn L L.length := rfl
  rw [e1] at e0
  by_cases hkn : kn L L.length ≤ 2 ^ m
  · right
    rw [if_pos hkn] at e0
    have hex : ∃ s, s < 256 ∧ 0 < cn L L.length s := by
      refine ⟨L.getD 0 0, getD_lt hL hl0, ?_⟩
      have : 0 < fb_ct (fun j => L.getD j 0 == L.getD 0 0) L.length := fb_ct_pos.mpr ⟨0, hl0, by simp⟩
      exact this
    obtain ⟨S3, c1, c2, c3, c4⟩ := initM_loop (fu := fu) (t := t) (m := m) (p0 := nI t) (p1 := nI m) (v3 := nI (kn L L.length)) ht hm hb hl0 hl 256 0 fu (puS S2 46 t (nI m)) (by omega) (by omega) (fun s hs => absurd hs (by omega)) (fun s hs => by rw [puS_n (by decide)]; exact b2 s hs) (by rw [puS_n (by decide), f2 43 (by decide)]; exact h.1)
    have f3 : Fr [46, 47, 53] S S3 := (f2.mono (by simp)).tr (((Fr.rf.pu (by simp) : Fr [46, 47, 53] S2 _)).tr (c3.mono (by simp)))
    have g46 : S3 46 t = nI m := by rw [c3 46 (by decide), puS_s, upd_s]
    have g43 : S3 43 1 = nI L.length := by rw [f3 43 (by decide)]; exact h.1
    have g53 : CtM S3 (cn L L.length) := fun s hs => by rw [c3 53 (by decide), puS_n (by decide)]; exact b2 s hs
    have hsm := f0_sm hm hb hl0 (n := 256) (by omega)
    have main : ∃ S5, f_X9_learn_L220 fu (nI t) (nI m) fu (nI t) (nI (kn L L.length)) (nI (2 ^ m)) (nI (fb_sm (f0N (cn L L.length) L.length (2 ^ m)) 256)) S3 = bnd (f_X9_begin fu (nI t) S5) (fun _ S17 => some (nI (kn L L.length), S17)) ∧ ShM S5 t (fitN (cn L L.length) L.length (2 ^ m)) ∧ Fr [47] S3 S5 ∧ FrT t S3 S5 := by
      unfold fitN
      generalize hs0 : fb_sm (f0N (cn L L.length) L.length (2 ^ m)) 256 = s0 at *
      by_cases hle : s0 ≤ 2 ^ m
      · have hg := SupN.grow (C := L.length) (M := 2 ^ m) hex (2 ^ m - s0) (f0N (cn L L.length) L.length (2 ^ m)) f0_sup
        rw [hs0] at hg
        obtain ⟨S4, d1, d2, d3, d4⟩ := growM_loop (fu := fu) (p0 := nI t) (p1 := nI m) (v3 := nI (kn L L.length)) (C := L.length) (by omega) ht hb4 hm hex (2 ^ m - s0) fu S3 _ (by omega) g46 c2 g53 g43 (by omega)
        rw [hs0] at d1
        rw [show s0 - 2 ^ m = 0 by omega]
        refine ⟨S4, ?_, d2, d3, d4⟩
        rw [d1]
        obtain ⟨n, rfl⟩ : ∃ n, fu = n + 1 := ⟨fu - 1, by omega⟩
        rw [f_X9_learn_L314_s, if_pos (nI_le (by omega) (by omega))]
      · obtain ⟨S4, d1, d2, d3, d4⟩ := shrinkM_loop (fu := fu) (p0 := nI t) (p1 := nI m) (v3 := nI (kn L L.length)) (C := L.length) (by omega) ht hb4 hm hkn (s0 - 2 ^ m) fu S3 _ (by omega) (by omega) g46 c2 g53 g43 f0_sup (by omega)
        rw [show 2 ^ m - s0 = 0 by omega]
        refine ⟨S4, ?_, d2, d3, d4⟩
        rw [show 2 ^ m + (s0 - 2 ^ m) = s0 by omega] at d1
        rw [← d1]
        obtain ⟨n, hn⟩ : ∃ n, fu = n + 1 := ⟨fu - 1, by omega⟩
        conv => lhs; rw [hn]
        rw [f_X9_learn_L220_s, if_pos (nI_le (by omega) (by omega)), ← hn]
    obtain ⟨S5, m1, m2, m3, m4⟩ := main
    obtain ⟨S6, n1, n2, n3, n4, n5, n6⟩ := begin_s (fu := fu) (t := t) (by omega) (by omega) m2
    refine ⟨hkn, S6, ?_, ⟨?_, ?_, n2⟩, n4, ?_, ?_, ?_, ?_, ?_⟩
    · rw [e0, show f_X9_learn_L149 fu (nI t) (nI m) fu (nI t) (nI (kn L L.length)) (nI (2 ^ m)) 0 0 (puS S2 46 t (nI m)) = _ from c1, m1]
      exact e_bd n1 rfl
    · rw [n6 46 (by decide), m3 46 (by decide)]; exact g46
    · intro s hs
      rw [n6 47 (by decide)]; exact m2 s hs
    · exact (f3.mono (by simp)).tr ((m3.mono (by simp)).tr (n6.mono (by simp)))
    · intro j hj
      rw [n6 46 (by decide), m3 46 (by decide), c3 46 (by decide), puS_s, upd_n hj, f2 46 (by decide)]
    · intro j hj
      rw [n6 47 (by decide), m4 j hj, c4 j hj, puS_n (by decide), f2 47 (by decide)]
    · intro j hj
      rw [n3 j hj, m3 48 (by decide), f3 48 (by decide)]
    · intro j hj
      rw [n5 j hj, m3 49 (by decide), f3 49 (by decide)]
  · left
    rw [if_neg hkn] at e0
    exact ⟨hkn, S2, e0, f2⟩

theorem isLog_s (x : Int32) (S : St) : (f_X8_isLog x S = some (0, S) ∧ (x < (1 : Int32) ∨ (12 : Int32) < x)) ∨ ∃ m, 1 ≤ m ∧ m ≤ 12 ∧ x = nI m ∧ f_X8_isLog x S = some (1, S) := by
  unfold f_X8_isLog
  by_cases h1 : x < (1 : Int32)
  · exact Or.inl ⟨by rw [if_pos h1], Or.inl h1⟩
  · by_cases h2 : (12 : Int32) < x
    · exact Or.inl ⟨by rw [if_neg h1, if_pos h2], Or.inr h2⟩
    · right
      have h3 : ¬ x < 0 := by
        rw [fa_lt] at h1 ⊢
        have : (1 : Int32).toInt = 1 := by decide
        have : (0 : Int32).toInt = 0 := by decide
        omega
      obtain ⟨m, hm, rfl⟩ := nI_of h3
      refine ⟨m, ?_, ?_, rfl, by rw [if_neg h1, if_neg h2]⟩
      · rw [show (1 : Int32) = nI 1 from rfl, nI_ltI hm (by omega)] at h1; omega
      · rw [show (12 : Int32) = nI 12 from rfl, nI_ltI (by omega) hm] at h2; omega
theorem lx_learn {fu : Nat} (hf : 2000000 ≤ fu) : lx_h2 fu zx_I := by
  intro x y S h
  obtain ⟨L, O, tc, lg, f, ⟨r1, r2, r3, r4⟩, h2, h3, h4, h5, h6⟩ := id h
  have hl := r1.2.1
  rcases isTN_s x S with ⟨a, hx⟩ | ⟨t, ht, rfl, a⟩
  · refine ⟨-1, S, S, e_bd a (by rw [if_pos rfl]), ?_, h⟩
    unfold f_X9_learn
    by_cases h0 : x < 0
    · rw [if_pos h0]
    · rw [if_neg h0, if_pos]
      have hx := hx.resolve_left h0
      rw [fa_le] at hx
      rw [fa_lt]
      have : (6 : Int32).toInt = 6 := by decide
      have : (5 : Int32).toInt = 5 := by decide
      omega
  · have ht5 : ¬ (5 : Int32) < nI t := by rw [show (5 : Int32) = nI 5 from rfl, nI_ltI (by omega) (by omega)]; omega
    rcases isLog_s y S with ⟨b, hy⟩ | ⟨m, hm1, hm, rfl, b⟩
    · refine ⟨-1, S, S, e_bd a ?_, ?_, h⟩
      · rw [if_neg (by decide)]
        exact e_bd b (by rw [if_pos rfl])
      · unfold f_X9_learn
        rw [if_neg (nI_pos (by omega)), if_neg ht5]
        by_cases h1 : y < (1 : Int32)
        · rw [if_pos h1]
        · rw [if_neg h1, if_neg]
          have hy := hy.resolve_left h1
          rw [fa_lt] at hy
          rw [fa_le]
          omega
    · by_cases hl0 : L.length = 0
      · refine ⟨-2, S, S, e_bd a ?_, ?_, h⟩
        · rw [if_neg (by decide)]
          refine e_bd b ?_
          rw [if_neg (by decide), r1.1, hl0, if_pos nI_0]
        · unfold f_X9_learn
          rw [if_neg (nI_pos (by omega)), if_neg ht5, if_neg (by rw [show (1 : Int32) = nI 1 from rfl, nI_ltI (by omega) (by omega)]; omega), if_pos (by rw [show (12 : Int32) = nI 12 from rfl, nI_leI (by omega) (by omega)]; omega), r2.1, hl0, if_pos nI_0]
      · have hp := pow12 hm
        have hk := kn_le L L.length
        obtain ⟨S1, c1, c2, c3⟩ := countTape_s (fu := fu) (by omega) r1
        have r2' : RowM S1 44 1 L := r2.of (by rw [c3 43 (by decide)]) (c3 44 (by decide))
        have hsh : (1 : Int32) <<< (nI m &&& 31) = nI (2 ^ m) := shl1 hm
        by_cases hkn : kn L L.length ≤ 2 ^ m
        · have hz := h2.1 t (by omega)
          have hr := tab_rng hz
          have hex : ∃ s, s < 256 ∧ 0 < cn L L.length s := by
            refine ⟨L.getD 0 0, getD_lt r1.2.2.1 (by omega), ?_⟩
            have : 0 < fb_ct (fun j => L.getD j 0 == L.getD 0 0) L.length := fb_ct_pos.mpr ⟨0, by omega, by simp⟩
            exact this
          obtain ⟨S2, d1, d2, d3, d4⟩ := fitC_s (fu := fu) (k := tc t) (m := m) (C := L.length) (c := cn L L.length) hf hz hm (cn_le L L.length) (by omega) hl hex hkn c2
          obtain ⟨S3, eS3⟩ : ∃ z, z = puS S2 9 9 0 := ⟨_, rfl⟩
          have f3 : Fr [6, 9, tc t, tc t + 1] S S3 := by
            rw [eS3]; exact ((c3.mono (by simp)).tr (d3.mono (by simp))).pu (by simp)
          have k3 : ∀ k, k ≠ 6 → k ≠ 9 → k ≠ tc t → k ≠ tc t + 1 → S3 k = S k := fun k q1 q2 q3 q4 => f3 k (by simp; omega)
          have cC : f_X8_learn fu (nI t) (nI m) S = some (nI (kn L L.length), S3) := by
            unfold f_X8_learn
            refine e_bd a ?_
            rw [if_neg (by decide)]
            refine e_bd b ?_
            rw [if_neg (by decide), r1.1, if_neg (nI_ne0 (by omega) (by omega))]
            refine e_bd c1 ?_
            rw [hsh, if_pos (nI_le hkn (by omega)), if_neg (nI_in (by omega) (by omega)), nI_clamp (by omega), c3 5 (by decide), h2.2.2.1 t ht, pin_eq, (tab_62 hz).1, if_pos hz, c3 1 (by decide), r1.1]
            refine e_bd d1 ?_
            refine e_bd (r := (0 : Int32)) (S := S3) (by unfold f_X5_forget; rw [pin_eq, eS3]) rfl
          have r2'' : RowM S3 44 1 L := r2.of (by rw [k3 43 (by omega) (by omega) (by omega) (by omega)]) (k3 44 (by omega) (by omega) (by omega) (by omega))
          rcases learnM_s (fu := fu) (t := t) (m := m) hf ht hm1 hm r2'' (by omega) hl r1.2.2.1 with ⟨q, -⟩ | ⟨-, S4, g1, g2, g3, g4, g5, g6, g7, g8⟩
          · exact absurd hkn q
          · have k4 : ∀ k, k ≠ 6 → k ≠ 9 → k ≠ tc t → k ≠ tc t + 1 → (k < 46 ∨ 49 < k) → k ≠ 53 → S4 k = S k := fun k q1 q2 q3 q4 q5 q6 => (g4 k (by simp; omega)).trans (k3 k q1 q2 q3 q4)
            refine ⟨_, S3, S4, cC, g1, L, O, tc, fun j => if j = t then m else lg j, fun j => if j = t then cutF (fitN (cn L L.length) L.length (2 ^ m)) else f j, ⟨r1.of (k4 1 (by omega) (by omega) (by omega) (by omega) (by omega) (by omega)) (k4 2 (by omega) (by omega) (by omega) (by omega) (by omega) (by omega)), r2.of (by rw [k4 43 (by omega) (by omega) (by omega) (by omega) (by omega) (by omega)]) (k4 44 (by omega) (by omega) (by omega) (by omega) (by omega) (by omega)), r3.of (k4 3 (by omega) (by omega) (by omega) (by omega) (by omega) (by omega)) (k4 4 (by omega) (by omega) (by omega) (by omega) (by omega) (by omega)), r4.of (by rw [k4 43 (by omega) (by omega) (by omega) (by omega) (by omega) (by omega)]) (k4 45 (by omega) (by omega) (by omega) (by omega) (by omega) (by omega))⟩, h2.of (k4 5 (by omega) (by omega) (by omega) (by omega) (by omega) (by omega)) (by rw [k4 7 (by omega) (by omega) (by omega) (by omega) (by omega) (by omega)]), ?_, ?_, ?_, h6.of (k4 7 (by omega) (by omega) (by omega) (by omega) (by omega) (by omega)) (k4 0 (by omega) (by omega) (by omega) (by omega) (by omega) (by omega)) (k4 40 (by omega) (by omega) (by omega) (by omega) (by omega) (by omega)) (k4 56 (by omega) (by omega) (by omega) (by omega) (by omega) (by omega)) (fun j _ _ => by rw [k4 43 (by omega) (by omega) (by omega) (by omega) (by omega) (by omega)])⟩
            · intro j hj
              dsimp only
              by_cases e : j = t
              · subst e
                rw [if_pos rfl, if_pos rfl]
                refine Or.inr ⟨⟨⟨hm1, fun s hs => cutF_out hs⟩, hm, by rw [cutF_sm (by omega)]; exact d4⟩, ?_, g2.cut⟩
                refine d2.cut.of ?_ ?_
                · rw [g4 _ (by simp; omega), eS3, puS_n (by omega)]
                · rw [g4 _ (by simp; omega), eS3, puS_n (by omega)]
              · rw [if_neg e, if_neg e]
                have hrj := tab_rng (h2.1 j (by omega))
                have hne : tc j ≠ tc t := fun q => e (h2.2.1 j t (by omega) (by omega) q)
                have hpar : ∀ a b, zx_tab a = true → zx_tab b = true → a ≠ b → a ≠ b + 1 ∧ a + 1 ≠ b ∧ a + 1 ≠ b + 1 := by
                  intro a b ha hb hab
                  rcases zx_tab_c ha with rfl | rfl | rfl | rfl | rfl | rfl | rfl <;> rcases zx_tab_c hb with rfl | rfl | rfl | rfl | rfl | rfl | rfl <;> omega
                obtain ⟨q1, q2, q3⟩ := hpar _ _ (h2.1 j (by omega)) hz hne
                have e1 : S4 (tc j) = S (tc j) := k4 _ (by omega) (by omega) hne q1 (by omega) (by omega)
                have e2 : S4 (tc j + 1) = S (tc j + 1) := k4 _ (by omega) (by omega) q2 q3 (by omega) (by omega)
                have e46 : S3 46 = S 46 := k3 46 (by omega) (by omega) (by omega) (by omega)
                have e47 : S3 47 = S 47 := k3 47 (by omega) (by omega) (by omega) (by omega)
                have e48 : S3 48 = S 48 := k3 48 (by omega) (by omega) (by omega) (by omega)
                rcases h3 j hj with ⟨z1, z2, z3⟩ | ⟨z1, z2, z3⟩
                · exact Or.inl ⟨z1, by rw [e1]; exact z2, by rw [g5 j e, e46]; exact z3⟩
                · refine Or.inr ⟨z1, z2.of e1 e2, ⟨by rw [g5 j e, e46]; exact z3.1, fun s hs => ?_, fun s hs => ?_⟩⟩
                  · rw [g6 _ (by omega), e47]; exact z3.2.1 s hs
                  · rw [g7 _ (by omega), e48]; exact z3.2.2 s hs
            · left
              rw [g4 9 (by simp), eS3, puS_s, upd_s]
              rfl
            · intro j w hj hw hlg hn
              dsimp only at hlg ⊢
              by_cases e : j = t
              · subst e
                exact absurd (g3 w hw) hn
              · rw [if_neg e] at hlg ⊢
                rw [if_neg e]
                rw [g8 _ (by omega), k3 49 (by omega) (by omega) (by omega) (by omega)] at hn
                exact (h5 j w hj hw hlg hn).of (k4 50 (by omega) (by omega) (by omega) (by omega) (by omega) (by omega)) (k4 51 (by omega) (by omega) (by omega) (by omega) (by omega) (by omega)) (k4 52 (by omega) (by omega) (by omega) (by omega) (by omega) (by omega))
        · rcases learnM_s (fu := fu) (t := t) (m := m) hf ht hm1 hm r2' (by omega) hl r1.2.2.1 with ⟨-, S4, g1, g2⟩ | ⟨q, -⟩
          · have k4 : ∀ k, k ∉ [6, 53] → S4 k = S k := fun k hk => (g2 k (by simp at hk ⊢; omega)).trans (c3 k (by simp at hk ⊢; omega))
            refine ⟨-3, S1, S4, ?_, g1, L, O, tc, lg, f, I_rows.of (S := S) ⟨r1, r2, r3, r4⟩ (fun k hk => k4 k (by simp; omega)) (by rw [k4 43 (by decide)]) (by rw [k4 43 (by decide)]), h2.of (k4 5 (by decide)) (by rw [k4 7 (by decide)]), h3.of h2 (fun k hk => k4 k (by simp; omega)), h4.of h2 (fun k hk => k4 k (by simp; omega)), h5.of (fun k _ _ => k4 k (by simp; omega)), h6.of (k4 7 (by decide)) (k4 0 (by decide)) (k4 40 (by decide)) (k4 56 (by decide)) (fun j _ _ => by rw [k4 43 (by decide)])⟩
            unfold f_X8_learn
            refine e_bd a ?_
            rw [if_neg (by decide)]
            refine e_bd b ?_
            rw [if_neg (by decide), r1.1, if_neg (nI_ne0 (by omega) (by omega))]
            refine e_bd c1 ?_
            rw [hsh, if_neg (by rw [nI_leI (by omega) (by omega)]; exact hkn)]
          · exact absurd q hkn
