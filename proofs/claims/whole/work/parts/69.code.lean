/-! code, symbol, left -/
def pcN (k lg x : Nat) : Nat := if k = 0 then x - 2 ^ lg else x % 2 ^ lg
def smN (k : Nat) (f : Nat → Nat) (lg w x : Nat) : Nat := sy f lg w (pcN k lg x)
def lfN (k : Nat) (f : Nat → Nat) (lg w x : Nat) : Nat := if k = 0 then rkN f (sy f lg w) (x - 2 ^ lg) else f (smN k f lg w x) * (x / 2 ^ lg) + x % 2 ^ lg - fb_sm f (smN k f lg w x)
theorem pcN_lt {k lg x : Nat} (h : StOK k lg x) : pcN k lg x < 2 ^ lg := by
  unfold pcN
  by_cases k0 : k = 0
  · have := h.2
    rw [if_pos k0] at this ⊢
    have := Nat.two_pow_pos lg
    omega
  · rw [if_neg k0]
    exact Nat.mod_lt _ (Nat.two_pow_pos lg)
theorem sy0 {f : Nat → Nat} {lg p : Nat} (hp : p < 2 ^ lg) : sy f lg 0 p = syA f p := by
  unfold sy stepI
  rw [if_neg (by decide), if_pos rfl, Nat.mul_one, Nat.mod_eq_of_lt hp]
theorem sm_p {k lg x : Nat} {f : Nat → Nat} (hs : SumOK f lg) (h : StOK k lg x) : smN k f lg 0 x < 256 ∧ fb_sm f (smN k f lg 0 x) ≤ pcN k lg x ∧ pcN k lg x < fb_sm f (smN k f lg 0 x + 1) := by
  have hp := pcN_lt h
  unfold smN
  rw [sy0 hp]
  exact syA_p (by rw [hs.2.2]; exact hp)
theorem mask2_s {x lg : Nat} (hx : x < 2 ^ 31) (hl : lg ≤ 12) : nI x &&& (nI (2 ^ lg) - 1) = nI (x % 2 ^ lg) := by
  have := pow1 lg
  rw [show (1 : Int32) = nI 1 from rfl, pk_sub (by omega), fa_mask]
theorem plos_s {S : St} {k lg x : Nat} (hk : k < 3) (hl : lg ≤ 12) (hc : CdC S k lg) (hx : StOK k lg x) : f_X0_placeOfState (nI x) S = some (nI (pcN k lg x), S) := by
  have hxl := hx.lt hl
  unfold f_X0_placeOfState pcN
  refine e_bd (isBT_s hk hc) ?_
  by_cases k0 : k = 0
  · have h1 := hx.1
    unfold lsN at h1
    rw [if_pos k0] at h1
    rw [if_pos k0, if_neg (by decide), if_pos k0, hc.2.2.1]
    unfold lsN
    rw [if_pos k0, pk_sub (by omega)]
  · rw [if_neg k0, if_pos rfl, if_neg k0, hc.2.1, show (1 : Int32) <<< (nI lg &&& 31) = nI (2 ^ lg) from shl1 hl, mask2_s hxl hl]
theorem symbolOf_s {S : St} {f : Nat → Nat} {k lg w x : Nat} (hk : k < 3) (hs : SumOK f lg) (hw : w < 3) (h : LC S f lg w) (hc : CdC S k lg) (hx : StOK k lg x) : f_X0_symbolOf (nI x) S = some (nI (smN k f lg w x), S) := by
  unfold f_X0_symbolOf
  exact e_bd (plos_s hk hs.2.1 hc hx) (e_bd (symbolAt_s hs hw h (pcN_lt hx)) rfl)
theorem lf_bd {k lg w x : Nat} {f : Nat → Nat} (hs : SumOK f lg) (hw : w < 3) (hkw : k ≠ 0 → w = 0) (hx : StOK k lg x) : lfN k f lg w x < 2 ^ 31 ∧ (k ≠ 0 → fb_sm f (smN k f lg w x) ≤ f (smN k f lg w x) * (x / 2 ^ lg) + x % 2 ^ lg) ∧ smN k f lg w x < 256 ∧ 1 ≤ f (smN k f lg w x) := by
  have hM := pow12 hs.2.1
  have hp := pcN_lt hx
  have h1 : smN k f lg w x < 256 := (layOK hs hw).1 _ hp
  have h2 : 1 ≤ f (smN k f lg w x) := (layOK hs hw).pos hp
  refine ⟨?_, ?_, h1, h2⟩
  · unfold lfN
    by_cases k0 : k = 0
    · rw [if_pos k0]
      unfold pcN at hp
      rw [if_pos k0] at hp
      have := (rk_bd hs (layOK hs hw) hp).1
      omega
    · rw [if_neg k0]
      have e := hkw k0
      subst e
      obtain ⟨a, b, c⟩ := sm_p hs hx
      have hfs : fb_sm f (smN k f lg 0 x) + f (smN k f lg 0 x) ≤ 2 ^ lg := by rw [← hs.2.2]; exact fb_sm_part f a
      rw [fb_sm_succ] at c
      unfold pcN at b c
      rw [if_neg k0] at b c
      have hxl := hx.lt hs.2.1
      have e1 : f (smN k f lg 0 x) * (x / 2 ^ lg) ≤ 2 ^ lg * (x / 2 ^ lg) := Nat.mul_le_mul_right _ (by omega)
      have e2 : 2 ^ lg * (x / 2 ^ lg) + x % 2 ^ lg = x := Nat.div_add_mod _ _
      omega
  · intro k0
    have e := hkw k0
    subst e
    obtain ⟨a, b, c⟩ := sm_p hs hx
    unfold pcN at b
    rw [if_neg k0] at b
    omega
theorem behindC_s {S : St} {f : Nat → Nat} {k lg w x : Nat} (hk : k < 3) (hs : SumOK f lg) (hw : w < 3) (hkw : k ≠ 0 → w = 0) (h : LC S f lg w) (hc : CdC S k lg) (hx : StOK k lg x) : f_X0_behindSymbol (nI x) S = some (nI (lfN k f lg w x), S) := by
  have hxl := hx.lt hs.2.1
  obtain ⟨b1, b2, b3, b4⟩ := lf_bd hs hw hkw hx
  have hp := pcN_lt hx
  have hl := hs.2.1
  unfold f_X0_behindSymbol
  refine e_bd (isBT_s hk hc) ?_
  by_cases k0 : k = 0
  · have h1 := hx.1
    unfold lsN at h1
    unfold pcN at hp
    rw [if_pos k0] at h1 hp
    rw [if_pos k0, if_neg (by decide), hc.2.2.1]
    unfold lsN lfN
    rw [if_pos k0, if_pos k0, pk_sub (by omega)]
    exact e_bd (rankAt_s hs hw h hp) rfl
  · rw [if_neg k0, if_pos rfl]
    refine e_bd (symbolOf_s hk hs hw h hc hx) (e_bd (shareOf5_s h b3) (e_bd (plos_s hk hs.2.1 hc hx) (e_bd (startOf5_s h b3) ?_)))
    rw [hc.2.1, shr_s hxl (by omega), pk_mul, nI_add]
    unfold pcN lfN
    rw [if_neg k0, if_neg k0, pk_sub (b2 k0)]
theorem told_loop {fu t lg p : Nat} {f : Nat → Nat} {p0 p1 p2 p3 : Int32} {S : St} (hfu : 20000 ≤ fu) (ht : t < 7) (hs : SumOK f lg) (h : TabM S t lg f) (hp : p < 2 ^ lg) : ∀ (d lo hi n : Nat), hi - lo ≤ d → d < n → lo ≤ hi → hi < 256 → fb_sm f lo ≤ p → p < fb_sm f (hi + 1) → f_X9_told_L52 fu p0 p1 p2 p3 n (nI t) (nI p) (nI lo) (nI hi) S = some (nI (syA f p), S) := by
  have hM := pow12 hs.2.1
  have fin : ∀ lo n, lo < 256 → fb_sm f lo ≤ p → p < fb_sm f (lo + 1) → f_X9_told_L52 fu p0 p1 p2 p3 (n + 1) (nI t) (nI p) (nI lo) (nI lo) S = some (nI (syA f p), S) := by
    intro lo n hl h1 h2
    obtain ⟨g, rfl⟩ : ∃ m, fu = m + 1 := ⟨fu - 1, by omega⟩
    have e : syA f p = lo := syA_u (by rw [hs.2.2]; exact hp) h1 h2
    have hb := hs.le lo hl
    rw [fb_sm_succ] at h2
    rw [f_X9_told_L52_s, if_pos (nI_le (Nat.le_refl _) (by omega)), f_X9_told_L104_s, ix256, if_neg (nI_in (by omega) (by omega)), nI_clamp (by omega), h.2.1 lo hl, if_neg (nI_ne0 (by omega) (by omega)), e]
  intro d
  induction d with
  | zero =>
    intro lo hi n a1 a2 a3 a4 a5 a6
    obtain ⟨n, rfl⟩ : ∃ m, n = m + 1 := ⟨n - 1, by omega⟩
    have e : hi = lo := by omega
    subst e
    exact fin hi n a4 a5 a6
  | succ d ih =>
    intro lo hi n a1 a2 a3 a4 a5 a6
    obtain ⟨n, rfl⟩ : ∃ m, n = m + 1 := ⟨n - 1, by omega⟩
    by_cases q : hi = lo
    · subst q
      exact fin hi n a4 a5 a6
    · have hmm : fb_sm f ((lo + hi + 1) / 2) ≤ 2 ^ lg := by rw [← hs.2.2]; exact sm_mono f (by omega)
      rw [f_X9_told_L52_s, if_neg (by rw [nI_leI (by omega) (by omega)]; omega), nI_add, nI_1, show nI (lo + hi + 1) / (2 : Int32) = nI ((lo + hi + 1) / 2) from pk_div (d := 2) (by omega) (by omega) (by omega), pin_eq, ix256, if_neg (nI_in (by omega) (by omega)), nI_clamp (by omega), h.2.2 _ (by omega)]
      by_cases c : p < fb_sm f ((lo + hi + 1) / 2)
      · rw [if_pos (nI_lt c (by omega)), show nI ((lo + hi + 1) / 2) - (1 : Int32) = nI ((lo + hi + 1) / 2 - 1) from pk_sub (b := 1) (by omega), pin_eq]
        unfold f_X9_told_L101
        exact ih lo _ n (by omega) (by omega) (by omega) (by omega) a5 (by rw [show (lo + hi + 1) / 2 - 1 + 1 = (lo + hi + 1) / 2 by omega]; exact c)
      · rw [if_neg (by rw [nI_ltI (by omega) (by omega)]; exact c)]
        unfold f_X9_told_L101
        exact ih _ hi n (by omega) (by omega) (by omega) a4 (by omega) a6
theorem told_s {fu k lg w t x : Nat} {f : Nat → Nat} {S : St} (hfu : 20000 ≤ fu) (hk : k < 3) (hs : SumOK f lg) (hw : w < 3) (hkw : k ≠ 0 → w = 0) (ht : t < 7) (h : TabM S t lg f) (hl : LM S f lg w t) (hx : StOK k lg x) : f_X9_told fu (nI t) (nI k) (nI w) (nI x) S = some (nI (smN k f lg w x), S) := by
  have hM := pow12 hs.2.1
  have hxl := hx.lt hs.2.1
  have hp := pcN_lt hx
  unfold f_X9_told
  rw [if_neg (nI_in (by omega) (by omega)), nI_clamp (by omega), h.1, show (1 : Int32) <<< (nI lg &&& 31) = nI (2 ^ lg) from shl1 hs.2.1, pin_eq]
  by_cases k0 : k = 0
  · have h1 := hx.1
    unfold lsN at h1
    unfold pcN at hp
    have h2 := hx.2
    rw [if_pos k0] at h1 hp h2
    rw [if_pos (by rw [k0]; rfl), ix4096, pk_sub (by omega), if_neg (nI_in (by omega) (by omega)), nI_clamp (by omega), show 4096 * (3 * t + w) + x - 2 ^ lg = 4096 * (3 * t + w) + (x - 2 ^ lg) by omega, hl.1 _ hp]
    unfold smN pcN
    rw [if_pos k0]
  · rw [if_neg (nI_ne0 (by omega) (by omega)), mask2_s hxl hs.2.1, pin_eq]
    have e := hkw k0
    subst e
    unfold smN
    rw [sy0 hp]
    unfold pcN at hp ⊢
    rw [if_neg k0] at hp ⊢
    exact told_loop hfu ht hs h hp 255 0 255 fu (by omega) (by omega) (by omega) (by omega) (Nat.zero_le _) (by rw [hs.2.2]; exact hp)
theorem behindM_s {k lg w t x : Nat} {f : Nat → Nat} {S : St} (hk : k < 3) (hs : SumOK f lg) (hw : w < 3) (hkw : k ≠ 0 → w = 0) (ht : t < 7) (h : TabM S t lg f) (hl : LM S f lg w t) (hx : StOK k lg x) : f_X9_behind (nI t) (nI k) (nI w) (nI x) (nI (smN k f lg w x)) S = some (nI (lfN k f lg w x), S) := by
  have hM := pow12 hs.2.1
  have hxl := hx.lt hs.2.1
  have hp := pcN_lt hx
  have hll := hs.2.1
  obtain ⟨b1, b2, b3, b4⟩ := lf_bd hs hw hkw hx
  unfold f_X9_behind
  rw [if_neg (nI_in (by omega) (by omega)), nI_clamp (by omega), h.1, show (1 : Int32) <<< (nI lg &&& 31) = nI (2 ^ lg) from shl1 hs.2.1, pin_eq]
  by_cases k0 : k = 0
  · have h1 := hx.1
    unfold lsN at h1
    unfold pcN at hp
    have h2 := hx.2
    rw [if_pos k0] at h1 hp h2
    rw [if_pos (by rw [k0]; rfl), ix4096, pk_sub (by omega), if_neg (nI_in (by omega) (by omega)), nI_clamp (by omega), show 4096 * (3 * t + w) + x - 2 ^ lg = 4096 * (3 * t + w) + (x - 2 ^ lg) by omega, hl.2.1 _ hp]
    unfold lfN
    rw [if_pos k0]
  · rw [if_neg (nI_ne0 (by omega) (by omega)), ix256, if_neg (nI_in (by omega) (by omega)), nI_clamp (by omega), if_neg (nI_in2 (by omega) (by omega)), if_neg (nI_in2 (by omega) (by omega)), h.2.1 _ b3, h.2.2 _ b3, shr_s hxl (by omega), pk_mul, mask2_s hxl hs.2.1, nI_add]
    unfold lfN
    rw [if_neg k0, pk_sub (b2 k0)]
/-- what is asked of a STATE: the class has prepared it -/
theorem asked_C {fu : Nat} (hfu : 20000 ≤ fu) (x y z v : Int32) {S : St} (h : zx_I S) : (∃ S1, f_X8_prepareForState fu x y z v S = some (0, S1) ∧ f_X9_isAsked fu x y z v S1 = some (0, S1) ∧ zx_I S1) ∨ ∃ (t k w e : Nat) (L O : List Nat) (tc lg : Nat → Nat) (f : Nat → Nat → Nat) (S1 : St), t < 6 ∧ k < 3 ∧ w < 3 ∧ (k ≠ 0 → w = 0) ∧ SumOK (f t) (lg t) ∧ StOK k (lg t) e ∧ x = nI t ∧ y = nI k ∧ z = nI w ∧ v = nI e ∧ f_X8_prepareForState fu x y z v S = some (1, S1) ∧ LC S1 (f t) (lg t) w ∧ CdC S1 k (lg t) ∧ I_J S1 L O tc lg f ∧ I_misc S1 ∧ (∀ S2, Fr [0, 8] S1 S2 → ∃ S3, f_X9_isAsked fu x y z v S2 = some (1, S3) ∧ LM S3 (f t) (lg t) w t ∧ TabM S3 t (lg t) (f t) ∧ I_J S3 L O tc lg f ∧ Fr [43, 49, 50, 51, 52, 54, 55] S2 S3 ∧ ∀ j, j ≠ 13 → S3 43 j = S2 43 j) := by
  obtain ⟨L, O, tc, lg, f, h1, h2, h3, h4, h5, h6⟩ := id h
  have hall := h3.all
  rcases tab_case h2 h3 rfl x with ⟨a, b⟩ | ⟨t, ht, rfl, hz, a, b, c, d, e⟩
  · left
    exact ⟨S, e_bd a (by rw [if_pos rfl]), e_bd b (by rw [if_pos rfl]), h⟩
  · have hq := tab_62 hz
    rcases coding_s y z with g | ⟨k, w, hk, hw, hkw, rfl, rfl, g⟩
    · left
      refine ⟨S, e_bd d ?_, e_bd e ?_, h⟩
      · rw [if_neg hq.2, pin_eq, hq.1, if_pos hz]
        exact e_bd (g S).1 (by rw [if_pos rfl])
      · rw [if_neg (by decide)]
        exact e_bd (g S).2 (by rw [if_pos rfl])
    · obtain ⟨S0, S1, a1, a2, a3, a4, a5, a6, a7⟩ := prepare_s (k := k) hfu h2 h4 hz a b hw hk
      obtain ⟨k1, k2, k3, k4, k5, k6⟩ := lay_keeps (j := t) h1 h2 h3 h5 h6 (by omega) rfl hz a b hw a2 a3 a4 a5
      have J1 : I_J S1 L O tc lg f := I_J.of ⟨k1, k2, k3, k4, k5⟩ (a6.mono (by simp [frL])) ⟨by rw [a6 43 (by decide)], by rw [a6 43 (by decide)]⟩ (by rw [a6 7 (by decide)])
      have M1 : I_misc S1 := k6.of (a6 7 (by decide)) (a6 0 (by decide)) (a6 40 (by decide)) (a6 56 (by decide)) (fun j _ _ => by rw [a6 43 (by decide)])
      have lc1 : LC S1 (f t) (lg t) w := a2.of (by rw [a6 9 (by decide)]) (fun c _ _ => a6 c (by simp; omega))
      have c1 : TabM S1 t (lg t) (f t) := c.of (by rw [a6 46 (by decide), a5 46 (by decide)]) (by rw [a6 47 (by decide), a5 47 (by decide)]) (by rw [a6 48 (by decide), a5 48 (by decide)])
      have isT : ∀ S2, S2 46 = S1 46 → f_X9_isTable (nI t) S2 = some (1, S2) := by
        intro S2 q2
        rcases tab_case (S' := S2) h2 h3 (by rw [q2, a6 46 (by decide), a5 46 (by decide)]) (nI t) with ⟨z1, -⟩ | ⟨t', -, -, -, -, -, -, -, z2⟩
        · rw [d] at z1
          exact absurd (congrArg Prod.fst (Option.some.inj z1)) hq.2
        · exact z2
      have pr : ∀ r, f_X0_isState v S1 = some (r, S1) → (r = 0 ∨ r = 1) → f_X8_prepareForState fu (nI t) (nI k) (nI w) v S = some (r, S1) := by
        intro r h0 h01
        refine e_bd d ?_
        rw [if_neg hq.2, pin_eq, hq.1, if_pos hz]
        refine e_bd (g S).1 ?_
        rw [if_neg (by decide)]
        exact e_bd a1 (e_bd h0 (by rw [if_pos h01]))
      rcases stateC_s hk a.2.1 a7 v with ⟨s1, s2⟩ | ⟨u, u1, rfl, u2⟩
      · left
        refine ⟨S1, pr 0 s1 (Or.inl rfl), e_bd (isT S1 rfl) ?_, J1.I M1⟩
        rw [if_neg (by decide)]
        refine e_bd (g S1).2 ?_
        rw [if_neg (by decide)]
        rcases stateM_s (t := t) (by omega) hk a.2.1 c1.1 v with ⟨m1, -⟩ | ⟨u, u1, u2, -⟩
        · exact e_bd m1 (by rw [if_pos rfl])
        · exact absurd u2 (s2 u u1)
      · right
        refine ⟨t, k, w, u, L, O, tc, lg, f, S1, ht, hk, hw, hkw, a, u1, rfl, rfl, rfl, rfl, pr 1 u2 (Or.inr rfl), lc1, a7, J1, M1, ?_⟩
        intro S2 hf2
        have c2 : TabM S2 t (lg t) (f t) := c1.of (hf2 46 (by decide)) (hf2 47 (by decide)) (hf2 48 (by decide))
        have J2 : I_J S2 L O tc lg f := J1.of (hf2.mono (by simp [frL])) ⟨by rw [hf2 43 (by decide)], by rw [hf2 43 (by decide)]⟩ (by rw [hf2 7 (by decide)])
        obtain ⟨j1, j2, j3, j4, j5⟩ := J2
        obtain ⟨S3, b1, b2, b3, b4, b5, b6⟩ := layM_s (fu := fu) hfu (show t < 7 by omega) hw a c2 (fun hn => j5 t w ht hw (by have := a.1.1; omega) hn)
        have key : I_J S3 L O tc lg f := by
          refine ⟨j1.of (fun k hk => b3 k (by simp; omega)) (b4 1 (by decide)) (b4 3 (by decide)), j2.of (b3 5 (by decide)) (by rw [b3 7 (by decide)]), j3.of j2 (fun k hk => b3 k (by simp; omega)), j4.of j2 (fun k hk => b3 k (by simp; omega)), ?_⟩
          intro t' w' ht' hw' hlg' hn
          by_cases e : 3 * t' + w' = 3 * t + w
          · have e1 : t' = t := by omega
            have e2 : w' = w := by omega
            subst e1; subst e2
            exact b2
          · rw [b6 _ e] at hn
            obtain ⟨q1, q2, q3⟩ := j5 t' w' ht' hw' hlg' hn
            have hp := pow12 (hall t' ht').1
            have hs' := (hall t' ht').2 hlg'
            refine ⟨fun p hp' => ?_, fun p hp' => ?_, fun p hp' => ?_⟩
            · rw [b5 50 (Or.inl rfl) _ (by omega)]; exact q1 p hp'
            · rw [b5 51 (Or.inr (Or.inl rfl)) _ (by omega)]; exact q2 p hp'
            · have hix := (layOK hs' hw').ix hs'.2.2 hp'
              rw [b5 52 (Or.inr (Or.inr rfl)) _ (by omega)]; exact q3 p hp'
        refine ⟨S3, e_bd (isT S2 (hf2 46 (by decide))) ?_, b2, c2.of (b3 46 (by decide)) (b3 47 (by decide)) (b3 48 (by decide)), key, b3, b4⟩
        rw [if_neg (by decide)]
        refine e_bd (g S2).2 ?_
        rw [if_neg (by decide)]
        rcases stateM_s (t := t) (by omega) hk a.2.1 c2.1 (nI u) with ⟨m1, m2⟩ | ⟨u', -, -, u2⟩
        · exact absurd rfl (m2 u u1)
        · refine e_bd u2 ?_
          rw [if_neg (by decide)]
          exact e_bd b1 rfl
theorem misc_M {S1 S3 : St} (h : I_misc S1) (h3 : Fr [43, 49, 50, 51, 52, 54, 55] S1 S3) (h43 : ∀ j, j ≠ 13 → S3 43 j = S1 43 j) : I_misc S3 := h.of (h3 7 (by decide)) (h3 0 (by decide)) (h3 40 (by decide)) (h3 56 (by decide)) (fun j _ _ => h43 j (by omega))
theorem lx_symbol {fu : Nat} (hfu : 20000 ≤ fu) : lx_h16 fu zx_I := by
  intro x y z v S h
  rcases asked_C hfu x y z v h with ⟨S1, a, b, c⟩ | ⟨t, k, w, e, L, O, tc, lg, f, S1, ht, hk, hw, hkw, hs, hx, rfl, rfl, rfl, rfl, a, b, c, J, M, m⟩
  · exact ⟨-1, S1, S1, e_bd a (by rw [if_pos rfl]), e_bd b (by rw [if_pos rfl]), c⟩
  · obtain ⟨S3, b1, b2, b3, b4, b5, b6⟩ := m S1 Fr.rf
    refine ⟨nI (smN k (f t) (lg t) w e), S1, S3, e_bd a ?_, e_bd b1 ?_, b4.I (misc_M M b5 b6)⟩
    · rw [if_neg (by decide)]
      exact e_bd (symbolOf_s hk hs hw b c hx) rfl
    · rw [if_neg (by decide)]
      exact e_bd (told_s hfu hk hs hw hkw (by omega) b3 b2 hx) rfl
theorem lx_left {fu : Nat} (hfu : 20000 ≤ fu) : lx_h17 fu zx_I := by
  intro x y z v S h
  rcases asked_C hfu x y z v h with ⟨S1, a, b, c⟩ | ⟨t, k, w, e, L, O, tc, lg, f, S1, ht, hk, hw, hkw, hs, hx, rfl, rfl, rfl, rfl, a, b, c, J, M, m⟩
  · exact ⟨-1, S1, S1, e_bd a (by rw [if_pos rfl]), e_bd b (by rw [if_pos rfl]), c⟩
  · obtain ⟨S3, b1, b2, b3, b4, b5, b6⟩ := m S1 Fr.rf
    refine ⟨nI (lfN k (f t) (lg t) w e), S1, S3, e_bd a ?_, e_bd b1 ?_, b4.I (misc_M M b5 b6)⟩
    · rw [if_neg (by decide)]
      exact e_bd (behindC_s hk hs hw hkw b c hx) rfl
    · rw [if_neg (by decide)]
      exact e_bd (told_s hfu hk hs hw hkw (by omega) b3 b2 hx) (e_bd (behindM_s hk hs hw hkw (by omega) b3 b2 hx) rfl)
theorem shareOf5_no {x : Int32} {S : St} (h : f_X8_isSymbol x S = some (0, S)) : f_X5_shareOf x S = some (0, S) := by
  unfold f_X5_shareOf
  exact e_bd h (by rw [if_pos rfl])
theorem lx_code {fu : Nat} (hfu : 20000 ≤ fu) : lx_h14 fu zx_I := by
  intro x y z v u S h
  rcases asked_C hfu x y z v h with ⟨S1, a, b, c⟩ | ⟨t, k, w, e, L, O, tc, lg, f, S1, ht, hk, hw, hkw, hs, hx, rfl, rfl, rfl, rfl, a, b, c, J, M, m⟩
  · exact ⟨-1, S1, S1, e_bd a (by rw [if_pos rfl]), e_bd b (by rw [if_pos rfl]), c⟩
  · rcases isSym_s u S1 with ⟨g1, g2⟩ | ⟨s, hs2, rfl, -⟩
    · obtain ⟨S3, b1, b2, b3, b4, b5, b6⟩ := m S1 Fr.rf
      refine ⟨-1, S1, S3, e_bd a ?_, e_bd b1 ?_, b4.I (misc_M M b5 b6)⟩
      · rw [if_neg (by decide)]
        exact e_bd (shareOf5_no g1) (by rw [if_pos rfl])
      · rw [if_neg (by decide)]
        by_cases q : u < 0
        · rw [if_pos q]
        · rw [if_neg q, if_pos]
          have := g2.resolve_left q
          rw [fa_le] at this
          rw [fa_lt]
          have e1 : (256 : Int32).toInt = 256 := by decide
          have e2 : (255 : Int32).toInt = 255 := by decide
          omega
    · have hM := hs.le s hs2
      by_cases f0 : f t s = 0
      · obtain ⟨S3, b1, b2, b3, b4, b5, b6⟩ := m S1 Fr.rf
        refine ⟨-1, S1, S3, e_bd a ?_, e_bd b1 ?_, b4.I (misc_M M b5 b6)⟩
        · rw [if_neg (by decide)]
          exact e_bd (shareOf5_s b hs2) (by rw [if_pos (by rw [f0]; rfl)])
        · rw [if_neg (by decide), if_neg (nI_pos (by omega)), if_neg (by rw [show (255 : Int32) = nI 255 from rfl, nI_ltI (by omega) (by omega)]; omega), ix256, if_neg (nI_in (by omega) (by omega)), nI_clamp (by omega), b3.2.1 s hs2, if_pos (by rw [f0]; rfl)]
      · obtain ⟨S2, c1, c2, c3, c4, c5, c6⟩ := advance_s (fu := fu) hfu hk hs hw b c hs2 (by omega) hx
        obtain ⟨S4, eS4⟩ : ∃ q, q = puS (puS S2 0 9 (S2 8 6)) 0 10 (S2 8 7) := ⟨_, rfl⟩
        have f4 : Fr [0, 8] S1 S4 := by rw [eS4]; exact ((c5.mono (by simp)).pu (by simp)).pu (by simp)
        obtain ⟨S3, b1, b2, b3, b4, b5, b6⟩ := m S4 f4
        obtain ⟨S5, d1, d2, d3, d4, d5, d6⟩ := stepM_s (fu := fu) (k := k) hfu hk hs hw (by omega) b3 b2 hs2 (by omega) hx
        obtain ⟨S6, eS6⟩ : ∃ q, q = puS (puS S5 43 18 (nI (stU k (lg t) (f t s) e))) 43 19 (nI (stV k (lg t) (f t s) e)) := ⟨_, rfl⟩
        have f6 : Fr [43] S3 S6 := by rw [eS6]; exact (d5.pu (by simp)).pu (by simp)
        have g6 : ∀ j, j < 18 → S6 43 j = S3 43 j := fun j hj => by rw [eS6, puS_s, upd_n (by omega), puS_s, upd_n (by omega)]; exact d6 j (by omega) (by omega) (by omega)
        refine ⟨nI (stX k (f t) (lg t) w s e), S4, S6, e_bd a ?_, e_bd b1 ?_, (b4.of (f6.mono (by simp [frL])) ⟨g6 1 (by omega), g6 3 (by omega)⟩ (by rw [f6 7 (by decide)])).I ?_⟩
        · rw [if_neg (by decide)]
          refine e_bd (shareOf5_s b hs2) ?_
          rw [if_neg (nI_ne0 (by omega) (by omega))]
          refine e_bd c1 ?_
          rw [pin_eq, pin_eq, show puS S2 0 9 (S2 8 6) 8 7 = S2 8 7 by rw [puS_n (by decide)], ← eS4, show S4 8 5 = nI (stX k (f t) (lg t) w s e) by rw [eS4, puS_n (by decide), puS_n (by decide)]; exact c2]
        · rw [if_neg (by decide), if_neg (nI_pos (by omega)), if_neg (by rw [show (255 : Int32) = nI 255 from rfl, nI_ltI (by omega) (by omega)]; omega), ix256, if_neg (nI_in (by omega) (by omega)), nI_clamp (by omega), b3.2.1 s hs2, if_neg (nI_ne0 (by omega) (by omega))]
          refine e_bd d1 ?_
          rw [pin_eq, pin_eq, d3, show puS S5 43 18 (nI (stU k (lg t) (f t s) e)) 43 21 = nI (stV k (lg t) (f t s) e) by rw [puS_s, upd_n (by decide)]; exact d4, ← eS6, show S6 43 22 = nI (stX k (f t) (lg t) w s e) by rw [eS6, puS_s, upd_n (by decide), puS_s, upd_n (by decide)]; exact d2]
        · have z0 : S6 0 = S4 0 := by rw [f6 0 (by decide), b5 0 (by decide)]
          have z7 : S6 7 = S1 7 := by rw [f6 7 (by decide), b5 7 (by decide), f4 7 (by decide)]
          have z40 : S6 40 = S1 40 := by rw [f6 40 (by decide), b5 40 (by decide), f4 40 (by decide)]
          have z56 : S6 56 = S1 56 := by rw [f6 56 (by decide), b5 56 (by decide), f4 56 (by decide)]
          have z43 : ∀ j, j < 18 → j ≠ 13 → S6 43 j = S1 43 j := fun j h1 h2 => by rw [g6 j h1, b6 j h2, f4 43 (by decide)]
          refine ⟨by rw [z7]; exact M.1, by rw [z7, z43 16 (by omega) (by omega)]; exact M.2.1, by rw [z7, z43 17 (by omega) (by omega)]; exact M.2.2.1, ?_, ?_, fun j hj => by rw [z40, z56]; exact M.2.2.2.2.2 j hj⟩
          · rw [z0, eS4, eS6]
            simp [puS, upS, upd, c3]
          · rw [z0, eS4, eS6]
            simp [puS, upS, upd, c4]
