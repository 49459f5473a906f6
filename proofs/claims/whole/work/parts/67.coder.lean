/-! the coder: its kind, its least STATE, the STATES that there are -/
def lsN (k lg : Nat) : Nat := if k = 0 then 2 ^ lg else 8388608
def wdN (k : Nat) : Nat := if k = 0 then 1 else 8
def CdC (S : St) (k lg : Nat) : Prop := S 8 1 = nI k ∧ S 8 2 = nI lg ∧ S 8 3 = nI (lsN k lg) ∧ S 8 4 = nI (wdN k)
def StOK (k lg x : Nat) : Prop := lsN k lg ≤ x ∧ x < (if k = 0 then 2 * 2 ^ lg else 2 ^ 31)
theorem lsN_bd {k lg : Nat} (h : lg ≤ 12) : lsN k lg ≤ 8388608 ∧ 0 < lsN k lg := by
  have := pow12 h
  have := pow1 lg
  unfold lsN
  split <;> omega
theorem StOK.lt {k lg x : Nat} (h : StOK k lg x) (hl : lg ≤ 12) : x < 2 ^ 31 := by
  have := pow12 hl
  have := h.2
  split at this <;> omega
theorem CdC.of {S S' : St} {k lg : Nat} (h : CdC S k lg) (h1 : ∀ j, 1 ≤ j → j ≤ 4 → S' 8 j = S 8 j) : CdC S' k lg :=
  ⟨(h1 1 (by omega) (by omega)).trans h.1, (h1 2 (by omega) (by omega)).trans h.2.1, (h1 3 (by omega) (by omega)).trans h.2.2.1, (h1 4 (by omega) (by omega)).trans h.2.2.2⟩
theorem CdC.ofc {S S' : St} {k lg : Nat} (h : CdC S k lg) (h1 : S' 8 = S 8) : CdC S' k lg := h.of fun j _ _ => by rw [h1]
theorem isBT_s {S : St} {k lg : Nat} (hk : k < 3) (h : CdC S k lg) : f_X0_isByTable S = some (if k = 0 then 1 else 0, S) := by
  unfold f_X0_isByTable
  rw [h.1]
  by_cases q : k = 0
  · rw [if_pos (by rw [q]; rfl), if_pos q]
  · rw [if_neg (nI_ne0 (by omega) (by omega)), if_neg q]
/-- a KIND and a SPREAD that go together, or not: both -/
theorem coding_s (x y : Int32) : (∀ S, f_X8_isCoding x y S = some (0, S) ∧ f_X9_isWay x y S = some (0, S)) ∨ ∃ k w, k < 3 ∧ w < 3 ∧ (k ≠ 0 → w = 0) ∧ x = nI k ∧ y = nI w ∧ ∀ S, f_X8_isCoding x y S = some (1, S) ∧ f_X9_isWay x y S = some (1, S) := by
  by_cases h0 : x = 0
  · rcases isSpread_s y (fun _ _ => 0) with ⟨-, hy⟩ | ⟨w, hw, rfl, -⟩
    · left
      intro S
      have g : f_X8_isSpread y S = some (0, S) := by
        rcases isSpread_s y S with ⟨g, -⟩ | ⟨w, hw, rfl, -⟩
        · exact g
        · exfalso
          rcases hy with q | q
          · exact nI_pos (by omega) q
          · rw [show (3 : Int32) = nI 3 from rfl, nI_leI (by omega) (by omega)] at q; omega
      refine ⟨?_, ?_⟩
      · unfold f_X8_isCoding
        rw [if_pos h0]
        exact e_bd g (by rw [if_pos (Or.inl rfl)])
      · unfold f_X9_isWay
        rw [if_pos h0]
        by_cases q : y < 0
        · rw [if_pos q]
        · rw [if_neg q, if_pos (hy.resolve_left q)]
    · right
      refine ⟨0, w, by omega, hw, fun q => absurd rfl q, h0, rfl, fun S => ?_⟩
      have g : f_X8_isSpread (nI w) S = some (1, S) := by
        rcases isSpread_s (nI w) S with ⟨-, q⟩ | ⟨w', -, -, g⟩
        · exfalso
          rcases q with q | q
          · exact nI_pos (by omega) q
          · rw [show (3 : Int32) = nI 3 from rfl, nI_leI (by omega) (by omega)] at q; omega
        · exact g
      refine ⟨?_, ?_⟩
      · unfold f_X8_isCoding
        rw [if_pos h0]
        exact e_bd g (by rw [if_pos (Or.inr rfl)])
      · unfold f_X9_isWay
        rw [if_pos h0, if_neg (nI_pos (by omega)), if_neg (by rw [show (3 : Int32) = nI 3 from rfl, nI_leI (by omega) (by omega)]; omega)]
  · by_cases h12 : x = 1 ∨ x = 2
    · by_cases hy : y = 0
      · right
        obtain ⟨k, hk, hk0, ek⟩ : ∃ k, k < 3 ∧ k ≠ 0 ∧ x = nI k := by
          rcases h12 with q | q
          · exact ⟨1, by omega, by omega, q⟩
          · exact ⟨2, by omega, by omega, q⟩
        refine ⟨k, 0, hk, by omega, fun _ => rfl, ek, hy, fun S => ?_⟩
        unfold f_X8_isCoding f_X9_isWay f_X8_isCoding_L19 f_X9_isWay_L31
        rw [if_neg h0, if_neg h0]
        rcases h12 with q | q
        · rw [if_pos q, if_pos hy]
          exact ⟨rfl, rfl⟩
        · rw [if_neg (by rw [q]; decide), if_pos q, if_pos hy]
          exact ⟨rfl, rfl⟩
      · left
        intro S
        unfold f_X8_isCoding f_X9_isWay f_X8_isCoding_L19 f_X9_isWay_L31
        rw [if_neg h0, if_neg h0]
        rcases h12 with q | q
        · rw [if_pos q, if_neg hy]
          exact ⟨rfl, rfl⟩
        · rw [if_neg (by rw [q]; decide), if_pos q, if_neg hy]
          exact ⟨rfl, rfl⟩
    · left
      intro S
      unfold f_X8_isCoding f_X9_isWay
      rw [if_neg h0, if_neg h0, if_neg (fun q => h12 (Or.inl q)), if_neg (fun q => h12 (Or.inr q)), if_neg (fun q => h12 (Or.inl q)), if_neg (fun q => h12 (Or.inr q))]
      exact ⟨rfl, rfl⟩
/-- a STATE of a KIND, or not -/
theorem stateC_s {S : St} {k lg : Nat} (hk : k < 3) (hl : lg ≤ 12) (h : CdC S k lg) (z : Int32) : (f_X0_isState z S = some (0, S) ∧ ∀ x, StOK k lg x → z ≠ nI x) ∨ ∃ x, StOK k lg x ∧ z = nI x ∧ f_X0_isState z S = some (1, S) := by
  have hb := lsN_bd (k := k) hl
  have hM := pow12 hl
  unfold f_X0_isState
  rw [h.2.2.1]
  by_cases q : z < nI (lsN k lg)
  · left
    refine ⟨by rw [if_pos q], fun x hx e => ?_⟩
    have := hx.lt hl
    rw [e, nI_ltI (by omega) (by omega)] at q
    have := hx.1
    omega
  · have hz : ¬ z < 0 := by
      intro c
      apply q
      rw [fa_lt] at c ⊢
      rw [nI_toInt (by omega)]
      have : (0 : Int32).toInt = 0 := by decide
      omega
    obtain ⟨x, hx, rfl⟩ := nI_of hz
    rw [nI_ltI (by omega) (by omega)] at q
    rw [if_neg (by rw [nI_ltI (by omega) (by omega)]; exact q)]
    by_cases k0 : k = 0
    · have e1 : lsN k lg = 2 ^ lg := by unfold lsN; rw [if_pos k0]
      by_cases c : 2 * 2 ^ lg ≤ x
      · left
        refine ⟨e_bd (isBT_s hk h) ?_, fun y hy e => ?_⟩
        · rw [if_pos k0, if_neg (by decide), h.2.2.1, e1, show (2 : Int32) = nI 2 from rfl, pk_mul, if_pos (nI_le c (by omega))]
        · have := hy.lt hl
          have e2 := nI_small hx this e
          have := hy.2
          rw [if_pos k0] at this
          omega
      · right
        refine ⟨x, ⟨by omega, by rw [if_pos k0]; omega⟩, rfl, e_bd (isBT_s hk h) ?_⟩
        rw [if_pos k0, if_neg (by decide), h.2.2.1, e1, show (2 : Int32) = nI 2 from rfl, pk_mul, if_neg (by rw [nI_leI (by omega) (by omega)]; exact c)]
    · right
      refine ⟨x, ⟨by omega, by rw [if_neg k0]; exact hx⟩, rfl, e_bd (isBT_s hk h) ?_⟩
      rw [if_neg k0, if_pos rfl]
theorem stateM_s {S : St} {k lg t : Nat} (ht : t < 7) (hk : k < 3) (hl : lg ≤ 12) (h : S 46 t = nI lg) (z : Int32) : (f_X9_isState (nI t) (nI k) z S = some (0, S) ∧ ∀ x, StOK k lg x → z ≠ nI x) ∨ ∃ x, StOK k lg x ∧ z = nI x ∧ f_X9_isState (nI t) (nI k) z S = some (1, S) := by
  have hM := pow12 hl
  have e1 : (1 : Int32) <<< (nI lg &&& 31) = nI (2 ^ lg) := shl1 hl
  have e2 : (2 : Int32) <<< (nI lg &&& 31) = nI (2 * 2 ^ lg) := shlN (a := 2) hl (by omega)
  unfold f_X9_isState
  by_cases k0 : k = 0
  · rw [if_pos (by rw [k0]; rfl), if_neg (nI_in (by omega) (by omega)), nI_clamp (by omega), h, e1]
    by_cases q : z < nI (2 ^ lg)
    · left
      refine ⟨by rw [if_pos q], fun x hx e => ?_⟩
      have := hx.lt hl
      have hb := hx.1
      unfold lsN at hb
      rw [if_pos k0] at hb
      rw [e, nI_ltI (by omega) (by omega)] at q
      omega
    · have hz : ¬ z < 0 := by
        intro c
        apply q
        rw [fa_lt] at c ⊢
        rw [nI_toInt (by omega)]
        have : (0 : Int32).toInt = 0 := by decide
        have : (0 : Int) ≤ ((2 ^ lg : Nat) : Int) := Int.natCast_nonneg _
        omega
      obtain ⟨x, hx, rfl⟩ := nI_of hz
      rw [nI_ltI (by omega) (by omega)] at q
      rw [if_neg (by rw [nI_ltI (by omega) (by omega)]; exact q), if_neg (nI_in2 (by omega) (by omega)), e2]
      by_cases c : 2 * 2 ^ lg ≤ x
      · left
        refine ⟨by rw [if_pos (nI_le c (by omega))], fun y hy e => ?_⟩
        have := hy.lt hl
        have e2 := nI_small hx this e
        have := hy.2
        rw [if_pos k0] at this
        omega
      · right
        refine ⟨x, ⟨by unfold lsN; rw [if_pos k0]; omega, by rw [if_pos k0]; omega⟩, rfl, ?_⟩
        rw [if_neg (by rw [nI_leI (by omega) (by omega)]; exact c)]
  · rw [if_neg (nI_ne0 (by omega) (by omega))]
    by_cases q : z < (8388608 : Int32)
    · left
      refine ⟨by rw [if_pos q], fun x hx e => ?_⟩
      have := hx.lt hl
      have hb := hx.1
      unfold lsN at hb
      rw [if_neg k0] at hb
      rw [e, show (8388608 : Int32) = nI 8388608 from rfl, nI_ltI (by omega) (by omega)] at q
      omega
    · have hz : ¬ z < 0 := by
        intro c
        apply q
        rw [fa_lt] at c ⊢
        have : (0 : Int32).toInt = 0 := by decide
        have : (8388608 : Int32).toInt = 8388608 := by decide
        omega
      obtain ⟨x, hx, rfl⟩ := nI_of hz
      right
      refine ⟨x, ⟨?_, by rw [if_neg k0]; exact hx⟩, rfl, by rw [if_neg q]⟩
      rw [show (8388608 : Int32) = nI 8388608 from rfl, nI_ltI (by omega) (by omega)] at q
      unfold lsN
      rw [if_neg k0]
      omega
theorem prepare_s {fu kt lg w k : Nat} {f tc : Nat → Nat} {S : St} (hfu : 20000 ≤ fu) (hp : I_perm S tc) (hc : I_cache S tc) (hkt : zx_tab kt = true) (hs : SumOK f lg) (h : TabC S kt lg f) (hw : w < 3) (hk : k < 3) : ∃ S' S'', f_X0_prepare fu kt (nI k) (nI w) S = some (0, S'') ∧ LC S' f lg w ∧ S' 9 9 = nI kt ∧ S' 9 8 = nI w ∧ Fr [9, 10, 11, 12, 13, 14, 15] S S' ∧ Fr [8] S' S'' ∧ CdC S'' k lg := by
  obtain ⟨S1, a1, a2, a3, a4, a5⟩ := layC_s hfu hp hc hkt hs h hw
  have hr := tab_rng hkt
  refine ⟨S1, puS (puS (puS (puS S1 8 1 (nI k)) 8 2 (nI lg)) 8 3 (nI (lsN k lg))) 8 4 (nI (wdN k)), ?_, a2, a3, a4, a5, (((Fr.rf.pu (by simp)).pu (by simp)).pu (by simp)).pu (by simp), ⟨?_, ?_, ?_, ?_⟩⟩
  · unfold f_X0_prepare
    refine e_bd a1 ?_
    rw [pin_eq, pin_eq, puS_n (show kt ≠ 8 by omega), show S1 kt 1 = nI lg by rw [a5 kt (by simp; omega)]; exact h.1]
    obtain ⟨S2, e2⟩ : ∃ z, z = puS (puS S1 8 1 (nI k)) 8 2 (nI lg) := ⟨_, rfl⟩
    rw [← e2]
    have b1 : S2 8 1 = nI k := by rw [e2]; simp [puS, upS, upd]
    have b2 : S2 8 2 = nI lg := by rw [e2]; simp [puS, upS, upd]
    have g : ∀ v, f_X0_isByTable (puS S2 8 3 v) = some (if k = 0 then 1 else 0, puS S2 8 3 v) := by
      intro v
      unfold f_X0_isByTable
      rw [show puS S2 8 3 v 8 1 = nI k by simp [puS, upS, upd, b1]]
      by_cases q : k = 0
      · rw [if_pos (by rw [q]; rfl), if_pos q]
      · rw [if_neg (nI_ne0 (by omega) (by omega)), if_neg q]
    have g0 : f_X0_isByTable S2 = some (if k = 0 then 1 else 0, S2) := by
      unfold f_X0_isByTable
      rw [b1]
      by_cases q : k = 0
      · rw [if_pos (by rw [q]; rfl), if_pos q]
      · rw [if_neg (nI_ne0 (by omega) (by omega)), if_neg q]
    refine e_bd g0 ?_
    by_cases q : k = 0
    · rw [if_pos q, if_neg (by decide), b2, show (1 : Int32) <<< (nI lg &&& 31) = nI (2 ^ lg) from shl1 hs.2.1, show lsN k lg = 2 ^ lg by unfold lsN; rw [if_pos q], show wdN k = 1 by unfold wdN; rw [if_pos q]]
      unfold f_X0_prepare_L41
      rw [pin_eq]
      refine e_bd (g _) ?_
      rw [if_pos q, if_neg (by decide)]
      rfl
    · rw [if_neg q, if_pos rfl, show lsN k lg = 8388608 by unfold lsN; rw [if_neg q], show wdN k = 8 by unfold wdN; rw [if_neg q]]
      unfold f_X0_prepare_L41
      rw [pin_eq]
      refine e_bd (g _) ?_
      rw [if_neg q, if_pos rfl]
      rfl
  · simp [puS, upS, upd]
  · simp [puS, upS, upd]
  · simp [puS, upS, upd]
  · simp [puS, upS, upd]
/-- the invariant with its parts named -/
def I_J (S : St) (L O : List Nat) (tc lg : Nat → Nat) (f : Nat → Nat → Nat) : Prop := I_rows S L O ∧ I_perm S tc ∧ I_tab S tc lg f ∧ I_cache S tc ∧ I_laid S lg f
def frL : List Nat := [0, 6, 7, 8, 14, 15, 16, 17, 18, 19, 34, 35, 36, 37, 38, 39, 40, 41, 42, 43, 53, 54, 55, 56, 57, 58, 59, 60, 61]
theorem I_J.of {S S' : St} {L O : List Nat} {tc lg : Nat → Nat} {f : Nat → Nat → Nat} (h : I_J S L O tc lg f) (hf : Fr frL S S') (h43 : S' 43 1 = S 43 1 ∧ S' 43 3 = S 43 3) (h7 : S' 7 4 = S 7 4) : I_J S' L O tc lg f := by
  obtain ⟨h1, h2, h3, h4, h5⟩ := h
  exact ⟨h1.of (fun k hk => hf k (by simp [frL]; omega)) h43.1 h43.2, h2.of (hf 5 (by decide)) h7, h3.of h2 (fun k hk => hf k (by simp [frL]; omega)), h4.of h2 (fun k hk => hf k (by simp [frL]; omega)), h5.of (fun k _ _ => hf k (by simp [frL]; omega))⟩
theorem I_J.I {S : St} {L O : List Nat} {tc lg : Nat → Nat} {f : Nat → Nat → Nat} (h : I_J S L O tc lg f) (h6 : I_misc S) : zx_I S := ⟨L, O, tc, lg, f, h.1, h.2.1, h.2.2.1, h.2.2.2.1, h.2.2.2.2, h6⟩
theorem fr_rev {ks : List Nat} {S S' : St} (h : Fr ks S S') {k : Nat} (hk : k ∉ ks) : S' k = S k := h k hk
