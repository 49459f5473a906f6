/-! learn in the reference -/
def CtM (S : St) (c : Nat → Nat) : Prop := ∀ s, s < 256 → S 53 s = nI (c s)
def ShM (S : St) (t : Nat) (f : Nat → Nat) : Prop := ∀ s, s < 256 → S 47 (256 * t + s) = nI (f s)
theorem ixT {t s : Nat} : (256 : Int32) * nI t + nI s = nI (256 * t + s) := by
  rw [show (256 : Int32) = nI 256 from rfl, pk_mul, nI_add]
theorem gdT {t s N : Nat} (h : 256 * t + s < N) (hN : N < 2 ^ 31) : ¬ ((256 : Int32) * nI t + nI s < 0 ∨ N ≤ ((256 : Int32) * nI t + nI s).toNatClampNeg) := by
  rw [ixT]; exact nI_in h hN
theorem lackM_s {S : St} {t m C : Nat} {c f : Nat → Nat} (ht : t < 7) (hl : S 46 t = nI m) (hs : ShM S t f) (hc : CtM S c) (hb : ∀ s, c s ≤ 4000) (hm : m ≤ 12) {s : Nat} (h : s < 256) : f_X9_lack (nI t) (nI s) (nI C) S = some (lkI c C (2 ^ m) f s, S) := by
  have hcs := hb s
  unfold f_X9_lack
  rw [if_neg (nI_in h (by omega)), if_neg (nI_in ht (by omega)), if_neg (gdT (by omega) (by omega)), ixT, nI_clamp (by omega), nI_clamp (by omega), nI_clamp (by omega), hc s h, hs s h, hl, pk_mul]
  unfold lkI
  rw [← shlN hm (by omega)]
  rfl
theorem enc_neg {r : Nat} (h : r ≤ 256) : encN r < 0 ↔ r = 256 := by
  unfold encN
  by_cases e : r = 256
  · rw [if_pos e]; exact ⟨fun _ => e, fun _ => by decide⟩
  · rw [if_neg e]; exact ⟨fun q => absurd q (nI_pos (by omega)), fun q => absurd q e⟩
theorem growMi_keep {fu : Nat} {p0 p1 v1 v3 v4 v5 v6 : Int32} {K : Int32 → Int32 → Int32 → Int32 → Int32 → Int32 → St → Option (Int32 × St)} {i : Nat} {S : St} : f_X9_learn_L285 fu p0 p1 K v1 v3 v4 v5 v6 (nI i) S = K v1 v3 v4 v5 v6 (nI (i + 1)) S := by
  unfold f_X9_learn_L285
  rw [pin_eq, show nI i + (1 : Int32) = nI (i + 1) from nI_1 i]
theorem growMi_loop {fu t m C : Nat} {p0 p1 v3 v4 v5 : Int32} {K : Int32 → Int32 → Int32 → Int32 → St → Option (Int32 × St)} {c f : Nat → Nat} {S : St} (ht : t < 6) (hl : S 46 t = nI m) (hs : ShM S t f) (hc : CtM S c) (hC : S 43 1 = nI C) (hb : ∀ s, c s ≤ 4000) (hm : m ≤ 12) (hlt : mbN c C (2 ^ m) f 256 < 256) : ∀ (d i n : Nat), i + d = 256 → d < n → f_X9_learn_L233 fu p0 p1 K n (nI t) v3 v4 v5 (encN (mbN c C (2 ^ m) f i)) (nI i) S = K (nI t) v3 v4 (v5 + 1) (puS S 47 (256 * t + mbN c C (2 ^ m) f 256) (nI (f (mbN c C (2 ^ m) f 256) + 1))) := by
  intro d
  induction d with
  | zero =>
    intro i n h1 h2
    obtain ⟨n, rfl⟩ : ∃ m, n = m + 1 := ⟨n - 1, by omega⟩
    obtain rfl : i = 256 := by omega
    rw [f_X9_learn_L233_s, if_pos (show (256 : Int32) ≤ nI 256 by decide), encN_in (by omega), if_neg (gdT (by omega) (by omega)), if_neg (gdT (by omega) (by omega)), ixT, nI_clamp (by omega), hs _ hlt, pin_eq, pin_eq, show nI (f (mbN c C (2 ^ m) f 256)) + (1 : Int32) = _ from nI_1 _]
  | succ d ih =>
    intro i n h1 h2
    obtain ⟨n, rfl⟩ : ∃ m, n = m + 1 := ⟨n - 1, by omega⟩
    have hr : mbN c C (2 ^ m) f i ≤ 256 := by
      rcases mbN_lt c C (2 ^ m) f i (by omega) with q | q <;> omega
    have hci := hb i
    rw [f_X9_learn_L233_s, if_neg (show ¬ (256 : Int32) ≤ nI i by rw [show (256 : Int32) = nI 256 from rfl, nI_leI (by omega) (by omega)]; omega), if_neg (nI_in (by omega) (by omega)), nI_clamp (by omega), hc i (by omega)]
    have take : f_X9_learn_L281 fu p0 p1 (f_X9_learn_L233 fu p0 p1 K n) (nI t) v3 v4 v5 (nI i) S = f_X9_learn_L233 fu p0 p1 K n (nI t) v3 v4 v5 (nI i) (nI (i + 1)) S := growMi_keep
    by_cases h0 : c i = 0
    · rw [if_pos ((nI_eq0 (by omega)).mpr h0), growMi_keep]
      have e : mbN c C (2 ^ m) f (i + 1) = mbN c C (2 ^ m) f i := by rw [mbN, if_pos h0]
      have := ih (i + 1) n (by omega) (by omega)
      rw [e] at this
      exact this
    · rw [if_neg (fun q => h0 ((nI_eq0 (by omega)).mp q))]
      by_cases h4 : mbN c C (2 ^ m) f i = 256
      · rw [if_pos ((enc_neg hr).mpr h4), take]
        have e : mbN c C (2 ^ m) f (i + 1) = i := by rw [mbN, if_neg h0, if_pos h4]
        have := ih (i + 1) n (by omega) (by omega)
        rw [e, encN_in (by omega)] at this
        exact this
      · rw [if_neg (fun q => h4 ((enc_neg hr).mp q)), hC]
        refine e_bd (lackM_s (by omega) hl hs hc hb hm (by omega)) ?_
        rw [hC, encN_in h4]
        refine e_bd (lackM_s (by omega) hl hs hc hb hm (by omega)) ?_
        by_cases h5 : lkI c C (2 ^ m) f i ≤ lkI c C (2 ^ m) f (mbN c C (2 ^ m) f i)
        · rw [if_pos h5, growMi_keep]
          have e : mbN c C (2 ^ m) f (i + 1) = mbN c C (2 ^ m) f i := by rw [mbN, if_neg h0, if_neg h4, if_pos h5]
          have := ih (i + 1) n (by omega) (by omega)
          rw [e, encN_in h4] at this
          exact this
        · rw [if_neg h5, take]
          have e : mbN c C (2 ^ m) f (i + 1) = i := by rw [mbN, if_neg h0, if_neg h4, if_neg h5]
          have := ih (i + 1) n (by omega) (by omega)
          rw [e, encN_in (by omega)] at this
          exact this
theorem ShM.put {S : St} {t b v : Nat} {f g : Nat → Nat} (hs : ShM S t f) (hb : b < 256) (hg : ∀ s, s < 256 → s ≠ b → g s = f s) (hv : g b = v) : ShM (puS S 47 (256 * t + b) (nI v)) t g := by
  intro s h
  rw [puS_s]
  by_cases e : s = b
  · rw [e, upd_s, hv]
  · rw [upd_n (by omega), hg s h e]; exact hs s h
/-- of the SHARES only those of TABLE t have changed -/
def FrT (t : Nat) (S S' : St) : Prop := ∀ j, (j < 256 * t ∨ 256 * t + 256 ≤ j) → S' 47 j = S 47 j
theorem FrT.put {S : St} {t b : Nat} {v : Int32} (hb : b < 256) : FrT t S (puS S 47 (256 * t + b) v) := fun j hj => by rw [puS_s, upd_n (by omega)]
theorem growM_loop {fu t m C : Nat} {p0 p1 v3 : Int32} {c : Nat → Nat} (hf : 20000 ≤ fu) (ht : t < 6) (hb : ∀ s, c s ≤ 4000) (hm : m ≤ 12) (hex : ∃ s, s < 256 ∧ 0 < c s) : ∀ (d n : Nat) (S : St) (f : Nat → Nat), d < n → S 46 t = nI m → ShM S t f → CtM S c → S 43 1 = nI C → fb_sm f 256 + d = 2 ^ m → ∃ S', f_X9_learn_L220 fu p0 p1 n (nI t) v3 (nI (2 ^ m)) (nI (fb_sm f 256)) S = f_X9_learn_L314 fu p0 p1 fu (nI t) v3 (nI (2 ^ m)) (nI (2 ^ m)) S' ∧ ShM S' t (growN c C (2 ^ m) d f) ∧ Fr [47] S S' ∧ FrT t S S' := by
  have hp := pow12 hm
  intro d
  induction d with
  | zero =>
    intro n S f h1 h2 h3 h4 h5 h6
    obtain ⟨n, rfl⟩ : ∃ m, n = m + 1 := ⟨n - 1, by omega⟩
    refine ⟨S, ?_, h3, Fr.rf, fun _ _ => rfl⟩
    rw [f_X9_learn_L220_s, if_pos (nI_le (by omega) (by omega)), show fb_sm f 256 = 2 ^ m by omega]
  | succ d ih =>
    intro n S f h1 h2 h3 h4 h5 h6
    obtain ⟨n, rfl⟩ : ∃ m, n = m + 1 := ⟨n - 1, by omega⟩
    have hlt : mbN c C (2 ^ m) f 256 < 256 := by
      rcases mbN_lt c C (2 ^ m) f 256 (by omega) with a | ⟨-, a⟩
      · exact a.1
      · obtain ⟨s, a1, a2⟩ := hex
        have := a s a1; omega
    have hin := growMi_loop (fu := fu) (p0 := p0) (p1 := p1) (v3 := v3) (v4 := nI (2 ^ m)) (v5 := nI (fb_sm f 256)) (K := f_X9_learn_L220 fu p0 p1 n) ht h2 h3 h4 h5 hb hm hlt 256 0 fu (by omega) (by omega)
    rw [f_X9_learn_L220_s, if_neg (by rw [nI_leI (by omega) (by omega)]; omega)]
    rw [show encN (mbN c C (2 ^ m) f 0) = (-1 : Int32) from rfl] at hin
    rw [show f_X9_learn_L233 fu p0 p1 (f_X9_learn_L220 fu p0 p1 n) fu (nI t) v3 (nI (2 ^ m)) (nI (fb_sm f 256)) (-1) 0 S = _ from hin]
    have hsm := incN_sm (f := f) hlt
    obtain ⟨S', g1, g2, g3, g4⟩ := ih n (puS S 47 (256 * t + mbN c C (2 ^ m) f 256) (nI (f (mbN c C (2 ^ m) f 256) + 1))) (incN f (mbN c C (2 ^ m) f 256)) (by omega) (by rw [puS_n (by decide)]; exact h2) (h3.put hlt (fun s _ e => by unfold incN; rw [if_neg e]) (by unfold incN; rw [if_pos rfl])) (fun s h => by rw [puS_n (by decide)]; exact h4 s h) (by rw [puS_n (by decide)]; exact h5) (by omega)
    refine ⟨S', ?_, by rw [growN]; exact g2, (Fr.rf.pu (by simp)).tr g3, fun j hj => (g4 j hj).trans (FrT.put hlt j hj)⟩
    rw [show nI (fb_sm f 256) + (1 : Int32) = _ from nI_1 _, ← hsm]
    exact g1
theorem shrinkMi_keep {fu : Nat} {p0 p1 v1 v3 v4 v5 v6 v7 : Int32} {K : Int32 → Int32 → Int32 → Int32 → Int32 → Int32 → St → Option (Int32 × St)} {S : St} : f_X9_learn_L385 fu p0 p1 K v1 v3 v4 v5 v6 v7 S = K v1 v3 v4 v5 v6 (v7 + -1) S := by
  unfold f_X9_learn_L385
  rw [pin_eq]
theorem shrinkMi_loop {fu t m C : Nat} {p0 p1 v3 v4 v5 : Int32} {K : Int32 → Int32 → Int32 → Int32 → St → Option (Int32 × St)} {c f : Nat → Nat} {S : St} (ht : t < 6) (hl : S 46 t = nI m) (hs : ShM S t f) (hc : CtM S c) (hC : S 43 1 = nI C) (hb : ∀ s, c s ≤ 4000) (hm : m ≤ 12) (hfb : ∀ s, s < 256 → f s ≤ 2000000) (hlt : lbN c C (2 ^ m) f 256 < 256) (hgt : 1 < f (lbN c C (2 ^ m) f 256)) : ∀ (d i n : Nat), i + d = 256 → d < n → f_X9_learn_L329 fu p0 p1 K n (nI t) v3 v4 v5 (encN (lbN c C (2 ^ m) f i)) (nI d + -1) S = K (nI t) v3 v4 (v5 + -1) (puS S 47 (256 * t + lbN c C (2 ^ m) f 256) (nI (f (lbN c C (2 ^ m) f 256) - 1))) := by
  intro d
  induction d with
  | zero =>
    intro i n h1 h2
    obtain ⟨n, rfl⟩ : ∃ m, n = m + 1 := ⟨n - 1, by omega⟩
    obtain rfl : i = 256 := by omega
    have hfl := hfb _ hlt
    rw [f_X9_learn_L329_s, if_pos (show nI 0 + -1 < (0 : Int32) by decide), encN_in (by omega), if_neg (gdT (by omega) (by omega)), if_neg (gdT (by omega) (by omega)), ixT, nI_clamp (by omega), hs _ hlt, pin_eq, pin_eq, show nI (f (lbN c C (2 ^ m) f 256)) - (1 : Int32) = _ from pk_sub (b := 1) (by omega)]
  | succ d ih =>
    intro i n h1 h2
    obtain ⟨n, rfl⟩ : ∃ m, n = m + 1 := ⟨n - 1, by omega⟩
    have hr : lbN c C (2 ^ m) f i ≤ 256 := by
      rcases lbN_p c C (2 ^ m) f i (by omega) with q | q
      · have := q.1; omega
      · omega
    have hci := hfb d (by omega)
    have ed : 255 - i = d := by omega
    rw [show nI (d + 1) + (-1 : Int32) = nI d from pk_m1 d]
    rw [f_X9_learn_L329_s, if_neg (nI_pos (by omega)), if_neg (gdT (by omega) (by omega)), ixT, nI_clamp (by omega), hs d (by omega)]
    have h1le : (nI (f d) ≤ (1 : Int32)) ↔ f d ≤ 1 := by rw [show (1 : Int32) = nI 1 from rfl, nI_leI (by omega) (by omega)]
    have take : f_X9_learn_L381 fu p0 p1 (f_X9_learn_L329 fu p0 p1 K n) (nI t) v3 v4 v5 (nI d) S = f_X9_learn_L329 fu p0 p1 K n (nI t) v3 v4 v5 (nI d) (nI d + -1) S := shrinkMi_keep
    by_cases h0 : f d ≤ 1
    · rw [if_pos (h1le.mpr h0), shrinkMi_keep]
      have e : lbN c C (2 ^ m) f (i + 1) = lbN c C (2 ^ m) f i := by rw [lbN, ed, if_pos h0]
      have := ih (i + 1) n (by omega) (by omega)
      rw [e] at this
      exact this
    · rw [if_neg (fun q => h0 (h1le.mp q))]
      by_cases h4 : lbN c C (2 ^ m) f i = 256
      · rw [if_pos ((enc_neg hr).mpr h4), take]
        have e : lbN c C (2 ^ m) f (i + 1) = d := by rw [lbN, ed, if_neg h0, if_pos h4]
        have := ih (i + 1) n (by omega) (by omega)
        rw [e, encN_in (by omega)] at this
        exact this
      · rw [if_neg (fun q => h4 ((enc_neg hr).mp q)), hC]
        refine e_bd (lackM_s (by omega) hl hs hc hb hm (by omega)) ?_
        rw [hC, encN_in h4]
        refine e_bd (lackM_s (by omega) hl hs hc hb hm (by omega)) ?_
        by_cases h5 : lkI c C (2 ^ m) f (lbN c C (2 ^ m) f i) ≤ lkI c C (2 ^ m) f d
        · rw [if_pos h5, shrinkMi_keep]
          have e : lbN c C (2 ^ m) f (i + 1) = lbN c C (2 ^ m) f i := by rw [lbN, ed, if_neg h0, if_neg h4, if_pos h5]
          have := ih (i + 1) n (by omega) (by omega)
          rw [e, encN_in h4] at this
          exact this
        · rw [if_neg h5, take]
          have e : lbN c C (2 ^ m) f (i + 1) = d := by rw [lbN, ed, if_neg h0, if_neg h4, if_neg h5]
          have := ih (i + 1) n (by omega) (by omega)
          rw [e, encN_in (by omega)] at this
          exact this
theorem shrinkM_loop {fu t m C : Nat} {p0 p1 v3 : Int32} {c : Nat → Nat} (hf : 20000 ≤ fu) (ht : t < 6) (hb : ∀ s, c s ≤ 4000) (hm : m ≤ 12) (hkn : fb_ct (fun s => decide (0 < c s)) 256 ≤ 2 ^ m) : ∀ (d n : Nat) (S : St) (f : Nat → Nat), d ≤ 1100000 → d < n → S 46 t = nI m → ShM S t f → CtM S c → S 43 1 = nI C → SupN c f → fb_sm f 256 = 2 ^ m + d → ∃ S', f_X9_learn_L314 fu p0 p1 n (nI t) v3 (nI (2 ^ m)) (nI (2 ^ m + d)) S = bnd (f_X9_begin fu (nI t) S') (fun _ S17 => some (v3, S17)) ∧ ShM S' t (shrinkN c C (2 ^ m) d f) ∧ Fr [47] S S' ∧ FrT t S S' := by
  have hp := pow12 hm
  intro d
  induction d with
  | zero =>
    intro n S f h0 h1 h2 h3 h4 h5 h6 h7
    obtain ⟨n, rfl⟩ : ∃ m, n = m + 1 := ⟨n - 1, by omega⟩
    refine ⟨S, ?_, h3, Fr.rf, fun _ _ => rfl⟩
    rw [f_X9_learn_L314_s, if_pos (nI_le (by omega) (by omega))]
  | succ d ih =>
    intro n S f h0 h1 h2 h3 h4 h5 h6 h7
    obtain ⟨n, rfl⟩ : ∃ m, n = m + 1 := ⟨n - 1, by omega⟩
    have hbd : ∀ s, s < 256 → f s ≤ 2000000 := fun s hs => by have := fb_sm_part f hs; omega
    obtain ⟨hlt, hgt⟩ := lb_ex (C := C) h6 hkn (by omega)
    have hin := shrinkMi_loop (fu := fu) (p0 := p0) (p1 := p1) (v3 := v3) (v4 := nI (2 ^ m)) (v5 := nI (2 ^ m + (d + 1))) (K := f_X9_learn_L314 fu p0 p1 n) ht h2 h3 h4 h5 hb hm hbd hlt hgt 256 0 fu (by omega) (by omega)
    rw [f_X9_learn_L314_s, if_neg (by rw [nI_leI (by omega) (by omega)]; omega)]
    rw [show encN (lbN c C (2 ^ m) f 0) = (-1 : Int32) from rfl] at hin
    rw [show f_X9_learn_L329 fu p0 p1 (f_X9_learn_L314 fu p0 p1 n) fu (nI t) v3 (nI (2 ^ m)) (nI (2 ^ m + (d + 1))) (-1) 255 S = _ from hin]
    have hsm := decN_sm hlt hgt
    obtain ⟨S', g1, g2, g3, g4⟩ := ih n (puS S 47 (256 * t + lbN c C (2 ^ m) f 256) (nI (f (lbN c C (2 ^ m) f 256) - 1))) (decN f (lbN c C (2 ^ m) f 256)) (by omega) (by omega) (by rw [puS_n (by decide)]; exact h2) (h3.put hlt (fun s _ e => by unfold decN; rw [if_neg e]) (by unfold decN; rw [if_pos rfl])) (fun s h => by rw [puS_n (by decide)]; exact h4 s h) (by rw [puS_n (by decide)]; exact h5) (h6.dec _) (by omega)
    refine ⟨S', ?_, by rw [shrinkN]; exact g2, (Fr.rf.pu (by simp)).tr g3, fun j hj => (g4 j hj).trans (FrT.put hlt j hj)⟩
    rw [show nI (2 ^ m + (d + 1)) + (-1 : Int32) = nI (2 ^ m + d) from pk_m1 (2 ^ m + d)]
    exact g1
