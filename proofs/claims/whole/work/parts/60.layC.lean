/-! the class lays a SPREAD -/
theorem lt256 {i : Nat} (h : i < 256) : ¬ (256 : Int32) ≤ nI i := by rw [show (256 : Int32) = nI 256 from rfl, nI_leI (by omega) (by omega)]; omega
theorem takeShares_loop {fu k lg : Nat} {f : Nat → Nat} (hk : zx_tab k = true) : ∀ (d i n : Nat) (S : St), i + d = 256 → d < n → TabC S k lg f → (∀ s, s < i → S 12 s = nI (f s) ∧ S 13 s = nI (fb_sm f s)) → ∃ S', f_X5_takeShares_L4 fu k n (nI (fb_sm f i)) (nI i) S = some (0, S') ∧ (∀ s, s < 256 → S' 12 s = nI (f s) ∧ S' 13 s = nI (fb_sm f s)) ∧ Fr [12, 13] S S' := by
  have hr := tab_rng hk
  intro d
  induction d with
  | zero =>
    intro i n S h1 h2 h3 h4
    obtain ⟨n, rfl⟩ : ∃ m, n = m + 1 := ⟨n - 1, by omega⟩
    obtain rfl : i = 256 := by omega
    exact ⟨S, by rw [f_X5_takeShares_L4_s, if_pos (show (256 : Int32) ≤ nI 256 by decide)], h4, Fr.rf⟩
  | succ d ih =>
    intro i n S h1 h2 h3 h4
    obtain ⟨n, rfl⟩ : ∃ m, n = m + 1 := ⟨n - 1, by omega⟩
    obtain ⟨S1, eS1⟩ : ∃ z, z = puS (puS S 12 i (nI (f i))) 13 i (nI (fb_sm f i)) := ⟨_, rfl⟩
    have f1 : Fr [12, 13] S S1 := by rw [eS1]; exact (Fr.rf.pu (by simp)).pu (by simp)
    have e12 : S1 12 = upd (S 12) i (nI (f i)) := by rw [eS1, puS_n (by decide), puS_s]
    have e13 : S1 13 = upd (S 13) i (nI (fb_sm f i)) := by rw [eS1, puS_s, puS_n (by decide)]
    obtain ⟨S', g1, g2, g3⟩ := ih (i + 1) n S1 (by omega) (by omega) (h3.of (f1 _ (by simp; omega)) (f1 _ (by simp; omega))) (fun s hs => by
      rw [e12, e13]
      by_cases e : s = i
      · rw [e, upd_s, upd_s]; exact ⟨rfl, rfl⟩
      · rw [upd_n e, upd_n e]; exact h4 s (by omega))
    refine ⟨S', ?_, g2, f1.tr g3⟩
    rw [f_X5_takeShares_L4_s, if_neg (lt256 (by omega))]
    refine e_bd (shareOf_s h3 (by omega)) ?_
    rw [if_neg (nI_in (by omega) (by omega)), nI_clamp (by omega), pin_eq, if_neg (nI_in2 (by omega) (by omega)), pin_eq, if_neg (nI_in2 (by omega) (by omega)), pin_eq, pin_eq, ← eS1, e12, upd_s, nI_add, ← fb_sm_succ, show nI i + (1 : Int32) = _ from nI_1 i]
    exact g1
theorem takeShares_s {fu k lg : Nat} {f : Nat → Nat} {S : St} (hf : 20000 ≤ fu) (hk : zx_tab k = true) (h : TabC S k lg f) : ∃ S', f_X5_takeShares fu k S = some (0, S') ∧ (∀ s, s < 256 → S' 12 s = nI (f s) ∧ S' 13 s = nI (fb_sm f s)) ∧ Fr [12, 13] S S' := takeShares_loop hk 256 0 fu S (by omega) (by omega) h (fun s hs => absurd hs (by omega))
/-- SYMBOLS by STEP: the inner loop, one SYMBOL's PLACES -/
theorem stepCi_loop {fu lg w : Nat} {f : Nat → Nat} {p0 : Int32} {K : Int32 → Int32 → Int32 → St → Option (Int32 × St)} (hs : SumOK f lg) (hw : w < 2) {s : Nat} (hs2 : s < 256) : ∀ (d i n : Nat) (S : St), i + d = f s → d < n → S 9 7 = nI (2 ^ lg) → (∀ s, s < 256 → S 12 s = nI (f s)) → (∀ k, k < fb_sm f s + i → S 10 (posN lg w k) = nI (syA f k)) → ∃ S', f_X5_layByStep_L14 fu p0 K n (nI (stepN lg w)) (nI (posN lg w (fb_sm f s + i))) (nI s) (nI i) S = K (nI (stepN lg w)) (nI (posN lg w (fb_sm f (s + 1)))) (nI (s + 1)) S' ∧ (∀ k, k < fb_sm f (s + 1) → S' 10 (posN lg w k) = nI (syA f k)) ∧ Fr [10] S S' := by
  obtain ⟨⟨h1', -⟩, h2', h3'⟩ := id hs
  have hM := pow12 h2'
  have hst := (stepinv h1' h2' hw).2
  have hpt := sm_mono f (show s + 1 ≤ 256 by omega)
  rw [fb_sm_succ, h3'] at hpt
  intro d
  induction d with
  | zero =>
    intro i n S h1 h2 h3 h4 h5
    obtain ⟨n, rfl⟩ : ∃ m, n = m + 1 := ⟨n - 1, by omega⟩
    obtain rfl : i = f s := by omega
    refine ⟨S, ?_, by rw [fb_sm_succ]; exact h5, Fr.rf⟩
    rw [f_X5_layByStep_L14_s, if_neg (nI_in hs2 (by omega)), nI_clamp (by omega), h4 s hs2, if_pos (nI_le (by omega) (by omega)), pin_eq, fb_sm_succ, show nI s + (1 : Int32) = _ from nI_1 s]
  | succ d ih =>
    intro i n S h1 h2 h3 h4 h5
    obtain ⟨n, rfl⟩ : ∃ m, n = m + 1 := ⟨n - 1, by omega⟩
    have hk : fb_sm f s + i < 2 ^ lg := by omega
    have hpl := posN_lt lg w (fb_sm f s + i)
    have hsy : syA f (fb_sm f s + i) = s := syA_u (by omega) (by omega) (by rw [fb_sm_succ]; omega)
    obtain ⟨S', g1, g2, g3⟩ := ih (i + 1) n (puS S 10 (posN lg w (fb_sm f s + i)) (nI s)) (by omega) (by omega) (by rw [puS_n (by decide)]; exact h3) (fun s hs => by rw [puS_n (by decide)]; exact h4 s hs) (fun k hk2 => by
      rw [puS_s]
      by_cases e : k = fb_sm f s + i
      · rw [e, upd_s, hsy]
      · rw [upd_n (fun q => e (posN_inj h1' h2' hw (by omega) hk q))]; exact h5 k (by omega))
    refine ⟨S', ?_, g2, (Fr.rf.pu (by simp)).tr g3⟩
    rw [f_X5_layByStep_L14_s, if_neg (nI_in hs2 (by omega)), nI_clamp (by omega), h4 s hs2, if_neg (by rw [nI_leI (by omega) (by omega)]; omega), if_neg (nI_in (by omega) (by omega)), nI_clamp (by omega), pin_eq, pin_eq, pin_eq, puS_n (by decide), h3, nI_add, show nI (2 ^ lg) - (1 : Int32) = nI (2 ^ lg - 1) from pk_sub (b := 1) (Nat.two_pow_pos lg), fa_mask, posN_s, show nI i + (1 : Int32) = _ from nI_1 i]
    exact g1
theorem stepC_loop {fu lg w : Nat} {f : Nat → Nat} {p0 : Int32} (hf : 20000 ≤ fu) (hs : SumOK f lg) (hw : w < 2) : ∀ (d i n : Nat) (S : St), i + d = 256 → d < n → S 9 7 = nI (2 ^ lg) → (∀ s, s < 256 → S 12 s = nI (f s)) → (∀ k, k < fb_sm f i → S 10 (posN lg w k) = nI (syA f k)) → ∃ S', f_X5_layByStep_L4 fu p0 n (nI (stepN lg w)) (nI (posN lg w (fb_sm f i))) (nI i) S = some (0, S') ∧ (∀ k, k < 2 ^ lg → S' 10 (posN lg w k) = nI (syA f k)) ∧ Fr [10] S S' := by
  obtain ⟨⟨h1', -⟩, h2', h3'⟩ := id hs
  have hM := pow12 h2'
  intro d
  induction d with
  | zero =>
    intro i n S h1 h2 h3 h4 h5
    obtain ⟨n, rfl⟩ : ∃ m, n = m + 1 := ⟨n - 1, by omega⟩
    obtain rfl : i = 256 := by omega
    refine ⟨S, ?_, by rw [← h3']; exact h5, Fr.rf⟩
    rw [f_X5_layByStep_L4_s, if_pos (show (256 : Int32) ≤ nI 256 by decide)]
  | succ d ih =>
    intro i n S h1 h2 h3 h4 h5
    obtain ⟨n, rfl⟩ : ∃ m, n = m + 1 := ⟨n - 1, by omega⟩
    have hfi := fb_sm_part f (show i < 256 by omega)
    obtain ⟨S1, a1, a2, a3⟩ := stepCi_loop (fu := fu) (p0 := p0) (K := f_X5_layByStep_L4 fu p0 n) hs hw (show i < 256 by omega) (f i) 0 fu S (by omega) (by omega) h3 h4 (by rw [Nat.add_zero]; exact h5)
    obtain ⟨S', g1, g2, g3⟩ := ih (i + 1) n S1 (by omega) (by omega) (by rw [a3 9 (by decide)]; exact h3) (fun s hs => by rw [a3 12 (by decide)]; exact h4 s hs) a2
    refine ⟨S', ?_, g2, a3.tr g3⟩
    rw [f_X5_layByStep_L4_s, if_neg (lt256 (by omega))]
    rw [Nat.add_zero] at a1
    rw [show f_X5_layByStep_L14 fu p0 (f_X5_layByStep_L4 fu p0 n) fu (nI (stepN lg w)) (nI (posN lg w (fb_sm f i))) (nI i) 0 S = _ from a1]
    exact g1
theorem stepC_s {fu lg w : Nat} {f : Nat → Nat} {S : St} (hf : 20000 ≤ fu) (hs : SumOK f lg) (hw : w < 2) (h3 : S 9 7 = nI (2 ^ lg)) (h4 : ∀ s, s < 256 → S 12 s = nI (f s)) : ∃ S', f_X5_layByStep fu (nI (stepN lg w)) S = some (0, S') ∧ (∀ p, p < 2 ^ lg → S' 10 p = nI (sy f lg w p)) ∧ Fr [10] S S' := by
  obtain ⟨S', g1, g2, g3⟩ := stepC_loop (fu := fu) (p0 := nI (stepN lg w)) hf hs hw 256 0 fu S (by omega) (by omega) h3 h4 (fun k hk => absurd hk (by simp [fb_sm]))
  have e0 : posN lg w (fb_sm f 0) = 0 := by simp [posN, fb_sm]
  rw [e0] at g1
  refine ⟨S', g1, fun p hp => ?_, g3⟩
  have h := g2 (p * stepI lg w % 2 ^ lg) (Nat.mod_lt _ (Nat.two_pow_pos lg))
  rw [posN_inv2 hs.1.1 hs.2.1 hw hp] at h
  rw [h]
  unfold sy
  rw [if_neg (by omega)]
/-- RANKS -/
theorem or_cell {a s : Nat} (hs : s < 256) (ha : a < 65536) : (nI a <<< ((8 : Int32) &&& 31)) ||| nI s = nI (a * 256 + s) := by
  rw [show ((8 : Int32) &&& 31) = (nI 8 &&& 31) from rfl, pk_shlN (nI 8 &&& 31) 8 (s_l 8 (by omega)) (by omega), Nat.mul_comm a, fa_or_sum a (k := 8) hs]
theorem ranksC_loop {fu lg : Nat} {f g : Nat → Nat} (hs : SumOK f lg) (hL : LayOK g f (2 ^ lg)) : ∀ (d p n : Nat) (S : St), p + d = 2 ^ lg → d < n → S 9 7 = nI (2 ^ lg) → (∀ s, s < 256 → S 12 s = nI (f s) ∧ S 13 s = nI (fb_sm f s)) → (∀ q, q < p → S 10 q = nI (rkN f g q * 256 + g q)) → (∀ q, p ≤ q → q < 2 ^ lg → S 10 q = nI (g q)) → (∀ q, q < p → S 11 (ixN f g q) = nI q) → (∀ s, s < 256 → S 14 s = nI (ctS g s p)) → ∃ S', f_X5_giveRanks_L10 fu n (nI p) S = some (0, S') ∧ (∀ q, q < 2 ^ lg → S' 10 q = nI (rkN f g q * 256 + g q)) ∧ (∀ q, q < 2 ^ lg → S' 11 (ixN f g q) = nI q) ∧ Fr [10, 11, 14] S S' := by
  have hM := pow12 hs.2.1
  intro d
  induction d with
  | zero =>
    intro p n S h1 h2 h3 h4 h5 h6 h7 h8
    obtain ⟨n, rfl⟩ : ∃ m, n = m + 1 := ⟨n - 1, by omega⟩
    obtain rfl : p = 2 ^ lg := by omega
    exact ⟨S, by rw [f_X5_giveRanks_L10_s, h3, if_pos (nI_le (by omega) (by omega))], h5, h7, Fr.rf⟩
  | succ d ih =>
    intro p n S h1 h2 h3 h4 h5 h6 h7 h8
    obtain ⟨n, rfl⟩ : ∃ m, n = m + 1 := ⟨n - 1, by omega⟩
    have hp : p < 2 ^ lg := by omega
    have hg := hL.1 p hp
    have hct := hL.ct hp
    have hix := hL.ix hs.2.2 hp
    have hfg := fb_sm_part f hg
    rw [hs.2.2] at hfg
    have hand : nI (g p) &&& (255 : Int32) = nI (g p) := by
      rw [pk_andN (by omega) 8 (by decide), Nat.mod_eq_of_lt (by omega)]
    obtain ⟨S1, eS1⟩ : ∃ z, z = puS (puS (puS S 11 (ixN f g p) (nI p)) 10 p (nI (rkN f g p * 256 + g p))) 14 (g p) (nI (ctS g (g p) p + 1)) := ⟨_, rfl⟩
    have f1 : Fr [10, 11, 14] S S1 := by rw [eS1]; exact ((Fr.rf.pu (by simp)).pu (by simp)).pu (by simp)
    have e10 : S1 10 = upd (S 10) p (nI (rkN f g p * 256 + g p)) := by rw [eS1, puS_n (by decide), puS_s, puS_n (by decide)]
    have e11 : S1 11 = upd (S 11) (ixN f g p) (nI p) := by rw [eS1, puS_n (by decide), puS_n (by decide), puS_s]
    have e14 : S1 14 = upd (S 14) (g p) (nI (ctS g (g p) p + 1)) := by rw [eS1, puS_s, puS_n (by decide), puS_n (by decide)]
    obtain ⟨S', g1, g2, g3, g4⟩ := ih (p + 1) n S1 (by omega) (by omega) (by rw [f1 9 (by decide)]; exact h3) (fun s hs => by rw [f1 12 (by decide), f1 13 (by decide)]; exact h4 s hs) (fun q hq => by
      rw [e10]
      by_cases e : q = p
      · rw [e, upd_s]
      · rw [upd_n e]; exact h5 q (by omega)) (fun q h1 h2 => by
      rw [e10, upd_n (by omega)]; exact h6 q (by omega) h2) (fun q hq => by
      rw [e11]
      by_cases e : q = p
      · rw [e, upd_s]
      · rw [upd_n (fun z => e (hL.inj (by omega) hp z))]; exact h7 q (by omega)) (fun s hs => by
      rw [e14, ctS_s]
      by_cases e : s = g p
      · rw [e, upd_s, if_pos rfl]
      · rw [upd_n e, if_neg (fun z => e z.symm), Nat.add_zero]; exact h8 s hs)
    refine ⟨S', ?_, g2, g3, f1.tr g4⟩
    have hi : nI (fb_sm f (g p)) + nI (ctS g (g p) p) = nI (ixN f g p) := nI_add _ _
    have hr : nI (f (g p)) + nI (ctS g (g p) p) = nI (rkN f g p) := nI_add _ _
    have hrb : rkN f g p < 65536 := by unfold rkN; omega
    rw [f_X5_giveRanks_L10_s, h3, if_neg (by rw [nI_leI (by omega) (by omega)]; omega), if_neg (nI_in (by omega) (by omega)), nI_clamp (by omega), h6 p (by omega) hp, hand, pin_eq, if_neg (nI_in hg (by omega)), if_neg (nI_in hg (by omega)), nI_clamp (by omega), (h4 _ hg).2, h8 _ hg, hi, pin_eq, if_neg (by rw [show (4096 : Int32) = nI 4096 from rfl, nI_leI (by omega) (by omega)]; omega), if_neg (nI_in (by omega) (by omega)), nI_clamp (by omega), pin_eq]
    unfold f_X5_giveRanks_L57
    rw [if_neg (nI_in hg (by omega)), if_neg (nI_in hg (by omega)), if_neg (nI_in (by omega) (by omega)), nI_clamp (show g p < 2 ^ 31 by omega), nI_clamp (show p < 2 ^ 31 by omega), puS_n (show 12 ≠ 11 by decide), puS_n (show 14 ≠ 11 by decide), (h4 _ hg).1, h8 _ hg, hr, or_cell hg hrb, pin_eq, if_neg (nI_in2 hg (by omega)), if_neg (nI_in2 hg (by omega)), pin_eq, pin_eq, puS_n (show 14 ≠ 10 by decide), puS_n (show 14 ≠ 11 by decide), h8 _ hg, show nI (ctS g (g p) p) + (1 : Int32) = _ from nI_1 _, ← eS1, show nI p + (1 : Int32) = _ from nI_1 p]
    exact g1
theorem ranksC_s {fu lg : Nat} {f g : Nat → Nat} {S : St} (hf : 20000 ≤ fu) (hs : SumOK f lg) (hL : LayOK g f (2 ^ lg)) (h3 : S 9 7 = nI (2 ^ lg)) (h4 : ∀ s, s < 256 → S 12 s = nI (f s) ∧ S 13 s = nI (fb_sm f s)) (h6 : ∀ q, q < 2 ^ lg → S 10 q = nI (g q)) : ∃ S', f_X5_giveRanks fu S = some (0, S') ∧ (∀ q, q < 2 ^ lg → S' 10 q = nI (rkN f g q * 256 + g q)) ∧ (∀ q, q < 2 ^ lg → S' 11 (ixN f g q) = nI q) ∧ Fr [10, 11, 14] S S' := by
  have hM := pow12 hs.2.1
  have fr : Fr [10, 11, 14] S (upS S 14 (fiA (S 14) (zx_len 14) 0)) := Fr.rf.up (by simp)
  obtain ⟨S', g1, g2, g3, g4⟩ := ranksC_loop (fu := fu) hs hL (2 ^ lg) 0 fu (upS S 14 (fiA (S 14) (zx_len 14) 0)) (by omega) (by omega) (by rw [fr 9 (by decide)]; exact h3) (fun s hs => by rw [fr 12 (by decide), fr 13 (by decide)]; exact h4 s hs) (fun q hq => absurd hq (by omega)) (fun q _ h2 => by rw [upS_n (by decide)]; exact h6 q h2) (fun q hq => absurd hq (by omega)) (fun s hs => by rw [upS_s, fiA, if_pos (show s < zx_len 14 from hs)]; rfl)
  exact ⟨S', e_bd (fill_s hf) g1, g2, g3, fr.tr g4⟩
