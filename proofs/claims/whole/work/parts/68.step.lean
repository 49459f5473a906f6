/-! one step of the coder: the UNITS that leave, the next STATE -/
def unN (W lim x : Nat) : Nat → Nat → Nat
  | 0, u => u
  | d + 1, u => if x / 2 ^ (W * u) < lim then u else unN W lim x d (u + 1)
theorem unN_p {W lim x : Nat} : ∀ d u, x / 2 ^ (W * (u + d)) < lim → u ≤ unN W lim x d u ∧ unN W lim x d u ≤ u + d ∧ x / 2 ^ (W * unN W lim x d u) < lim ∧ ∀ v, u ≤ v → v < unN W lim x d u → ¬ x / 2 ^ (W * v) < lim := by
  intro d
  induction d with
  | zero => intro u h; exact ⟨Nat.le_refl _, Nat.le_refl _, h, fun v h1 h2 => absurd h2 (by unfold unN; omega)⟩
  | succ d ih =>
    intro u h
    unfold unN
    by_cases q : x / 2 ^ (W * u) < lim
    · rw [if_pos q]
      exact ⟨Nat.le_refl _, by omega, q, fun v h1 h2 => by omega⟩
    · rw [if_neg q]
      obtain ⟨a, b, c, e⟩ := ih (u + 1) (by rw [show u + 1 + d = u + (d + 1) by omega]; exact h)
      refine ⟨by omega, by omega, c, fun v h1 h2 => ?_⟩
      by_cases hv : v = u
      · rw [hv]; exact q
      · exact e v (by omega) h2
def bnN (k lg : Nat) : Nat := if k = 0 then lg else 2
def lmN (k lg fs : Nat) : Nat := if k = 0 then 2 * fs else fs * 2 ^ (31 - lg)
/-- how many UNITS, their NUMBER, what is left, the PLACE of an index, the next STATE -/
def stU (k lg fs x : Nat) : Nat := unN (wdN k) (lmN k lg fs) x (bnN k lg) 0
def stV (k lg fs x : Nat) : Nat := x % 2 ^ (wdN k * stU k lg fs x)
def stY (k lg fs x : Nat) : Nat := x / 2 ^ (wdN k * stU k lg fs x)
def plN (f : Nat → Nat) (lg w j : Nat) : Nat := fa_first (fun p => decide (ixN f (sy f lg w) p = j)) (2 ^ lg)
def stX (k : Nat) (f : Nat → Nat) (lg w s x : Nat) : Nat := if k = 0 then 2 ^ lg + plN f lg w (fb_sm f s + stY k lg (f s) x - f s) else stY k lg (f s) x / f s * 2 ^ lg + stY k lg (f s) x % f s + fb_sm f s
theorem plN_p {f : Nat → Nat} {lg w s i : Nat} (hs : SumOK f lg) (hw : w < 3) (hs2 : s < 256) (hi : i < f s) : plN f lg w (fb_sm f s + i) < 2 ^ lg ∧ ixN f (sy f lg w) (plN f lg w (fb_sm f s + i)) = fb_sm f s + i := by
  obtain ⟨p, p1, p2, p3⟩ := (layOK hs hw).find hs.2.2 hs2 hi
  have e : ixN f (sy f lg w) p = fb_sm f s + i := by unfold ixN; rw [p2, p3]
  have lt : plN f lg w (fb_sm f s + i) < 2 ^ lg := by
    apply Nat.lt_of_not_le
    intro c
    have h1 := fa_first_no (fun q => decide (ixN f (sy f lg w) q = fb_sm f s + i)) (2 ^ lg) p (by unfold plN at c; omega)
    simp only [decide_eq_false_iff_not] at h1
    exact h1 e
  refine ⟨lt, ?_⟩
  have h2 := fa_first_yes (fun q => decide (ixN f (sy f lg w) q = fb_sm f s + i)) (2 ^ lg) lt
  exact of_decide_eq_true h2
theorem pow_div {x a b : Nat} : x / 2 ^ (a + b) = x / 2 ^ a / 2 ^ b := by rw [Nat.pow_add, Nat.div_div_eq_div_mul]
/-- the limit is reached -/
theorem st_end {k lg fs x : Nat} (hl : 1 ≤ lg ∧ lg ≤ 12) (h1 : 1 ≤ fs) (hx : StOK k lg x) : x / 2 ^ (wdN k * (0 + bnN k lg)) < lmN k lg fs := by
  have hp := Nat.two_pow_pos lg
  have h2 := hx.2
  unfold wdN bnN lmN
  by_cases q : k = 0
  · rw [if_pos q] at h2
    rw [if_pos q, if_pos q, if_pos q, Nat.zero_add, Nat.one_mul]
    have : x / 2 ^ lg < 2 := by rw [Nat.div_lt_iff_lt_mul hp]; omega
    omega
  · rw [if_neg q] at h2
    rw [if_neg q, if_neg q, if_neg q]
    have h3 : 2 ^ 19 ≤ 2 ^ (31 - lg) := Nat.pow_le_pow_right (by decide) (by omega)
    have h4 : 2 ^ (31 - lg) ≤ fs * 2 ^ (31 - lg) := Nat.le_mul_of_pos_left _ h1
    have h5 : x / 2 ^ (8 * (0 + 2)) < 2 ^ 15 := by rw [Nat.div_lt_iff_lt_mul (by decide)]; omega
    omega
theorem stU_p {k lg fs x : Nat} (hl : 1 ≤ lg ∧ lg ≤ 12) (h1 : 1 ≤ fs) (hx : StOK k lg x) : stU k lg fs x ≤ bnN k lg ∧ stY k lg fs x < lmN k lg fs ∧ (0 < stU k lg fs x → lmN k lg fs ≤ x / 2 ^ (wdN k * (stU k lg fs x - 1))) := by
  obtain ⟨a, b, c, d⟩ := unN_p (bnN k lg) 0 (st_end hl h1 hx)
  refine ⟨by unfold stU; omega, c, fun h => ?_⟩
  have := d (stU k lg fs x - 1) (by omega) (by unfold stU at h ⊢; omega)
  omega
theorem bnN_le {k lg : Nat} (h : lg ≤ 12) : bnN k lg ≤ 12 ∧ wdN k * bnN k lg ≤ 16 := by unfold bnN wdN; split <;> omega
/-- what is left, in bounds -/
theorem stY_p {k lg fs x : Nat} (hl : 1 ≤ lg ∧ lg ≤ 12) (h1 : 1 ≤ fs) (h2 : fs ≤ 2 ^ lg) (hx : StOK k lg x) : stY k lg fs x < 2 ^ 31 ∧ stY k lg fs x < lmN k lg fs ∧ (k = 0 → fs ≤ stY k lg fs x) ∧ (k ≠ 0 → fs * 2 ^ (23 - lg) ≤ stY k lg fs x) := by
  obtain ⟨a, b, c⟩ := stU_p hl h1 hx
  have hxl := hx.lt hl.2
  have hy : stY k lg fs x ≤ x := Nat.div_le_self _ _
  have hx1 := hx.1
  refine ⟨by omega, b, fun k0 => ?_, fun k0 => ?_⟩
  · unfold lsN at hx1
    rw [if_pos k0] at hx1
    by_cases u0 : stU k lg fs x = 0
    · have : stY k lg fs x = x := by unfold stY; rw [u0]; simp
      omega
    · have c1 := c (by omega)
      have e : stY k lg fs x = x / 2 ^ (wdN k * (stU k lg fs x - 1)) / 2 ^ 1 := by
        unfold stY
        rw [← pow_div]
        congr 2
        unfold wdN
        rw [if_pos k0]
        omega
      unfold lmN at c1
      rw [if_pos k0] at c1
      rw [e]
      omega
  · unfold lsN at hx1
    rw [if_neg k0] at hx1
    by_cases u0 : stU k lg fs x = 0
    · have e : stY k lg fs x = x := by unfold stY; rw [u0]; simp
      have h3 : fs * 2 ^ (23 - lg) ≤ 2 ^ lg * 2 ^ (23 - lg) := Nat.mul_le_mul_right _ h2
      rw [← Nat.pow_add, show lg + (23 - lg) = 23 by omega] at h3
      omega
    · have c1 := c (by omega)
      have e : stY k lg fs x = x / 2 ^ (wdN k * (stU k lg fs x - 1)) / 2 ^ 8 := by
        unfold stY
        rw [← pow_div]
        congr 2
        unfold wdN
        rw [if_neg k0]
        omega
      unfold lmN at c1
      rw [if_neg k0, show 31 - lg = (23 - lg) + 8 by omega, Nat.pow_add, ← Nat.mul_assoc] at c1
      rw [e]
      rw [Nat.le_div_iff_mul_le (by decide)]
      exact c1
theorem stX_ok {k lg w s x : Nat} {f : Nat → Nat} (hs : SumOK f lg) (hw : w < 3) (hs2 : s < 256) (h1 : 1 ≤ f s) (hx : StOK k lg x) : StOK k lg (stX k f lg w s x) := by
  have hl := lg_bd hs
  have hfs : fb_sm f s + f s ≤ 2 ^ lg := by rw [← hs.2.2]; exact fb_sm_part f hs2
  obtain ⟨a, b, c, d⟩ := stY_p hl h1 (by omega) hx
  unfold StOK lsN stX
  by_cases k0 : k = 0
  · have c0 := c k0
    unfold lmN at b
    rw [if_pos k0] at b
    rw [if_pos k0, if_pos k0, if_pos k0]
    obtain ⟨p1, p2⟩ := plN_p hs hw hs2 (i := stY k lg (f s) x - f s) (by omega)
    rw [show fb_sm f s + stY k lg (f s) x - f s = fb_sm f s + (stY k lg (f s) x - f s) by omega]
    omega
  · have d0 := d k0
    unfold lmN at b
    rw [if_neg k0] at b
    rw [if_neg k0, if_neg k0, if_neg k0]
    generalize stY k lg (f s) x = y at *
    have e1 : 2 ^ (23 - lg) ≤ y / f s := by rw [Nat.le_div_iff_mul_le h1, Nat.mul_comm]; exact d0
    have e2 : y / f s < 2 ^ (31 - lg) := by rw [Nat.div_lt_iff_lt_mul h1, Nat.mul_comm]; exact b
    have e3 : 2 ^ (23 - lg) * 2 ^ lg ≤ y / f s * 2 ^ lg := Nat.mul_le_mul_right _ e1
    have e4 : (y / f s + 1) * 2 ^ lg ≤ 2 ^ (31 - lg) * 2 ^ lg := Nat.mul_le_mul_right _ e2
    rw [← Nat.pow_add, show 23 - lg + lg = 23 by omega] at e3
    rw [← Nat.pow_add, show 31 - lg + lg = 31 by omega, Nat.add_mul, Nat.one_mul] at e4
    have e5 : y % f s < f s := Nat.mod_lt _ h1
    omega
theorem shr_s {x n : Nat} (hx : x < 2 ^ 31) (hn : n < 32) : nI x >>> (nI n &&& 31) = nI (x / 2 ^ n) := pk_shrN hx _ n (s_l n hn)
theorem mask_s {x n : Nat} (hx : x < 2 ^ 31) (hn : n ≤ 16) : nI x &&& ((1 : Int32) <<< (nI n &&& 31) - 1) = nI (x % 2 ^ n) := by
  have h1 : (2 : Nat) ^ n ≤ 2 ^ 16 := Nat.pow_le_pow_right (by decide) hn
  have h0 := Nat.two_pow_pos n
  rw [show (1 : Int32) <<< (nI n &&& 31) = nI (1 * 2 ^ n) from pk_shlN (n := 1) _ n (s_l n (by omega)) (by omega), Nat.one_mul, show (1 : Int32) = nI 1 from rfl, pk_sub (by omega), fa_mask]
theorem l_lt {a b : Nat} (ha : a < 2 ^ 62) (hb : b < 2 ^ 62) : lg_cmp (lN a) (lN b) < 0 ↔ a < b := by
  rw [lg_cmp_lt, fa_lt64, pf_lI (by omega), pf_lI (by omega)]
  omega
theorem lmN_bd {k lg fs : Nat} (hl : lg ≤ 12) (h : fs ≤ 2 ^ lg) : lmN k lg fs < 2 ^ 62 := by
  have := pow12 hl
  unfold lmN
  split
  · omega
  · have h1 : (2 : Nat) ^ (31 - lg) ≤ 2 ^ 31 := Nat.pow_le_pow_right (by decide) (by omega)
    have h2 : fs * 2 ^ (31 - lg) ≤ 4096 * 2 ^ 31 := Nat.mul_le_mul (by omega) h1
    omega
/-- the class's loop -/
theorem advC_loop {fu k lg fs x : Nat} {p0 p1 v2 : Int32} {S : St} (hl : lg ≤ 12) (hc : S 8 4 = nI (wdN k)) (hfs : fs ≤ 2 ^ lg) (hx : x < 2 ^ 31) (hend : x / 2 ^ (wdN k * (0 + bnN k lg)) < lmN k lg fs) : ∀ (d u n : Nat), u + d = bnN k lg → d < n → f_X0_advance_L42 fu p0 p1 n (nI x) v2 (lN (lmN k lg fs)) (nI u) (nI u) S = f_X0_advance_L74 fu p0 p1 (nI x) v2 (nI (unN (wdN k) (lmN k lg fs) x d u)) S := by
  have hb := bnN_le (k := k) hl
  have hlm := lmN_bd (k := k) hl hfs
  have key : ∀ u, u ≤ bnN k lg → (lg_cmp (nI x >>> ((nI u * S 8 4) &&& 31)).toInt64 (lN (lmN k lg fs)) < 0 ↔ x / 2 ^ (wdN k * u) < lmN k lg fs) := by
    intro u hu
    have h16 : wdN k * u ≤ 16 := Nat.le_trans (Nat.mul_le_mul_left _ hu) hb.2
    rw [hc, pk_mul, Nat.mul_comm u, shr_s hx (by omega)]
    have hd : x / 2 ^ (wdN k * u) ≤ x := Nat.div_le_self _ _
    rw [nI_l (by omega), l_lt (by omega) hlm]
  intro d
  induction d with
  | zero =>
    intro u n hu hn
    obtain ⟨n, rfl⟩ : ∃ m, n = m + 1 := ⟨n - 1, by omega⟩
    rw [f_X0_advance_L42_s]
    unfold unN
    by_cases q : (12 : Int32) ≤ nI u
    · rw [if_pos q]
    · rw [if_neg q, if_pos ((key u (by omega)).mpr (by rw [show u = 0 + bnN k lg by omega]; exact hend))]
  | succ d ih =>
    intro u n hu hn
    obtain ⟨n, rfl⟩ : ∃ m, n = m + 1 := ⟨n - 1, by omega⟩
    rw [f_X0_advance_L42_s, if_neg (by rw [show (12 : Int32) = nI 12 from rfl, nI_leI (by omega) (by omega)]; omega)]
    rw [unN]
    by_cases q : x / 2 ^ (wdN k * u) < lmN k lg fs
    · rw [if_pos ((key u (by omega)).mpr q), if_pos q]
    · rw [if_neg (fun c => q ((key u (by omega)).mp c)), if_neg q, pin_eq, pin_eq, show nI u + (1 : Int32) = nI (u + 1) from nI_1 u]
      exact ih (u + 1) n (by omega) (by omega)
theorem shareOf5_s {S : St} {f : Nat → Nat} {lg w : Nat} (h : LC S f lg w) {s : Nat} (hs : s < 256) : f_X5_shareOf (nI s) S = some (nI (f s), S) := by
  unfold f_X5_shareOf
  refine e_bd (isSym_in hs S) ?_
  rw [if_neg (by decide), if_neg (nI_in (by omega) (by omega)), nI_clamp (by omega), h.2.1 s hs]
theorem startOf5_s {S : St} {f : Nat → Nat} {lg w : Nat} (h : LC S f lg w) {s : Nat} (hs : s < 256) : f_X5_startOf (nI s) S = some (nI (fb_sm f s), S) := by
  unfold f_X5_startOf
  refine e_bd (isSym_in hs S) ?_
  rw [if_neg (by decide), if_neg (nI_in (by omega) (by omega)), nI_clamp (by omega), h.2.2.1 s hs]
theorem placeOf_s {S : St} {f : Nat → Nat} {lg w s y : Nat} (hs : SumOK f lg) (hw : w < 3) (h : LC S f lg w) (hs2 : s < 256) (h1 : f s ≤ y) (h2 : y < 2 * f s) : f_X5_placeOf (nI s) (nI y) S = some (nI (plN f lg w (fb_sm f s + y - f s)), S) := by
  have hM := pow12 hs.2.1
  have hfs : fb_sm f s + f s ≤ 2 ^ lg := by rw [← hs.2.2]; exact fb_sm_part f hs2
  obtain ⟨p1, p2⟩ := plN_p hs hw hs2 (i := y - f s) (by omega)
  rw [show fb_sm f s + (y - f s) = fb_sm f s + y - f s by omega] at p1 p2
  have e := h.2.2.2.2 _ p1
  rw [p2] at e
  unfold f_X5_placeOf
  refine e_bd (startOf5_s h hs2) (e_bd (shareOf5_s h hs2) ?_)
  rw [nI_add, pk_sub (by omega), pin_eq, if_neg (nI_pos (by omega)), h.1, if_neg (by rw [nI_leI (by omega) (by omega)]; omega), if_neg (nI_in (by omega) (by omega)), nI_clamp (by omega), e]
/-- one step of the class -/
theorem advance_s {fu k lg w s x : Nat} {f : Nat → Nat} {S : St} (hfu : 20000 ≤ fu) (hk : k < 3) (hs : SumOK f lg) (hw : w < 3) (h : LC S f lg w) (hc : CdC S k lg) (hs2 : s < 256) (h1 : 1 ≤ f s) (hx : StOK k lg x) : ∃ S', f_X0_advance fu (nI x) (nI s) S = some (0, S') ∧ S' 8 5 = nI (stX k f lg w s x) ∧ S' 8 6 = nI (stU k lg (f s) x) ∧ S' 8 7 = nI (stV k lg (f s) x) ∧ Fr [8] S S' ∧ ∀ j, j < 5 → S' 8 j = S 8 j := by
  have hl := lg_bd hs
  have hM := pow12 hs.2.1
  have hfs : fb_sm f s + f s ≤ 2 ^ lg := by rw [← hs.2.2]; exact fb_sm_part f hs2
  have hxl := hx.lt hl.2
  obtain ⟨y1, y2, y3, y4⟩ := stY_p hl h1 (by omega) hx
  obtain ⟨u1, u2, u3⟩ := stU_p hl h1 hx
  have hb := bnN_le (k := k) hl.2
  have h16 : wdN k * stU k lg (f s) x ≤ 16 := Nat.le_trans (Nat.mul_le_mul_left _ u1) hb.2
  have loop : ∀ (p0 p1 : Int32), f_X0_advance_L42 fu p0 p1 fu (nI x) (nI s) (lN (lmN k lg (f s))) (0 : Int32) (0 : Int32) S = f_X0_advance_L74 fu p0 p1 (nI x) (nI s) (nI (stU k lg (f s) x)) S := fun p0 p1 => advC_loop hl.2 hc.2.2.2 (by omega) hxl (st_end hl h1 hx) (bnN k lg) 0 fu (by omega) (by omega)
  obtain ⟨S1, eS1⟩ : ∃ z, z = puS (puS S 8 6 (nI (stU k lg (f s) x))) 8 7 (nI (stV k lg (f s) x)) := ⟨_, rfl⟩
  have f1 : Fr [8] S S1 := by rw [eS1]; exact (Fr.rf.pu (by simp)).pu (by simp)
  have g1 : ∀ j, j ≠ 6 → j ≠ 7 → S1 8 j = S 8 j := fun j a b => by rw [eS1]; simp [puS, upS, upd, a, b]
  have hc1 : CdC S1 k lg := hc.of fun j a b => g1 j (by omega) (by omega)
  have hl1 : LC S1 f lg w := h.of (by rw [f1 9 (by decide)]) (fun c _ _ => f1 c (by simp; omega))
  refine ⟨puS S1 8 5 (nI (stX k f lg w s x)), ?_, by simp [puS, upS, upd], by rw [eS1]; simp [puS, upS, upd], by rw [eS1]; simp [puS, upS, upd], f1.pu (by simp), fun j hj => by rw [puS_s, upd_n (by omega)]; exact g1 j (by omega) (by omega)⟩
  have tail : ∀ (p0 p1 : Int32), f_X0_advance_L74 fu p0 p1 (nI x) (nI s) (nI (stU k lg (f s) x)) S = some (0, puS S1 8 5 (nI (stX k f lg w s x))) := by
    intro p0 p1
    unfold f_X0_advance_L74
    rw [pin_eq, pin_eq, show puS S 8 6 (nI (stU k lg (f s) x)) 8 4 = nI (wdN k) by rw [puS_s, upd_n (by decide)]; exact hc.2.2.2, pk_mul, Nat.mul_comm, mask_s hxl h16, show x % 2 ^ (wdN k * stU k lg (f s) x) = stV k lg (f s) x from rfl, ← eS1, hc1.2.2.2, pk_mul, Nat.mul_comm _ (wdN k), shr_s hxl (by omega), show x / 2 ^ (wdN k * stU k lg (f s) x) = stY k lg (f s) x from rfl, pin_eq]
    refine e_bd (isBT_s hk hc1) ?_
    by_cases k0 : k = 0
    · rw [if_pos k0, if_neg (by decide)]
      unfold lmN at y2
      rw [if_pos k0] at y2
      refine e_bd (placeOf_s hs hw hl1 hs2 (y3 k0) y2) ?_
      rw [hc1.2.2.1, nI_add, pin_eq]
      unfold stX lsN
      rw [if_pos k0, if_pos k0]
    · rw [if_neg k0, if_pos rfl]
      have e0 := stX_ok hs hw hs2 h1 hx
      have e1 := e0.lt hl.2
      unfold lmN at y2
      rw [if_neg k0] at y2
      have e2 : stX k f lg w s x = stY k lg (f s) x / f s * 2 ^ lg + stY k lg (f s) x % f s + fb_sm f s := by unfold stX; rw [if_neg k0]
      have dv : f_X0_divided (nI (stY k lg (f s) x)) (nI s) S1 = some (nI (stX k f lg w s x), S1) := by
        unfold f_X0_divided
        refine e_bd (shareOf5_s hl1 hs2) ?_
        rw [if_pos (show (1 : Int32) ≤ nI (f s) from nI_le h1 (by omega)), if_neg (nI_ne0 (by omega) (by omega)), if_neg (nI_ne0 (by omega) (by omega))]
        refine e_bd (startOf5_s hl1 hs2) ?_
        rw [pk_div y1 (by omega) (by omega), ← pk_div y1 (by omega) (by omega), pk_rem y1 (by omega) (by omega), pk_div y1 (by omega) (by omega), hc1.2.1, pk_shlN _ lg (s_l lg (by omega)) (by omega), nI_add, nI_add, ← e2]
      exact e_bd dv (by rw [pin_eq])
  unfold f_X0_advance
  refine e_bd (shareOf5_s h hs2) ?_
  rw [pin_eq, nI_l (by omega)]
  refine e_bd (isBT_s hk hc) ?_
  by_cases k0 : k = 0
  · rw [if_pos k0, if_neg (by decide), show (2 : Int64) * lN (f s) = lN (2 * f s) from lN_mul 2 _]
    unfold f_X0_advance_L34
    have := loop (nI x) (nI s)
    rw [show lmN k lg (f s) = 2 * f s by unfold lmN; rw [if_pos k0]] at this
    rw [this]
    exact tail _ _
  · rw [if_neg k0, if_pos rfl, hc.2.1, show (31 : Int32) - nI lg = nI (31 - lg) from pk_sub (a := 31) (by omega), wb_shl _ (by omega)]
    unfold f_X0_advance_L34
    have := loop (nI x) (nI s)
    rw [show lmN k lg (f s) = f s * 2 ^ (31 - lg) by unfold lmN; rw [if_neg k0]] at this
    rw [this]
    exact tail _ _
/-- one step of the reference: what changes -/
def StM (S S' : St) (k : Nat) (f : Nat → Nat) (lg w s x : Nat) : Prop := S' 43 22 = nI (stX k f lg w s x) ∧ S' 43 20 = nI (stU k lg (f s) x) ∧ S' 43 21 = nI (stV k lg (f s) x) ∧ Fr [43] S S' ∧ ∀ j, j ≠ 20 → j ≠ 21 → j ≠ 22 → S' 43 j = S 43 j
theorem ix256 {t s : Nat} : ((256 : Int32) * nI t) + nI s = nI (256 * t + s) := by
  rw [show (256 : Int32) = nI 256 from rfl, pk_mul, nI_add]
theorem stepM0_loop {fu lg w t s x : Nat} {f : Nat → Nat} {p0 p1 p2 p3 p4 : Int32} (hs : SumOK f lg) (hw : w < 3) (ht : t < 7) (hs2 : s < 256) (h1 : 1 ≤ f s) (hx : StOK 0 lg x) : ∀ (d u n : Nat) (S : St), u + d = lg → d < n → unN 1 (2 * f s) x d u = stU 0 lg (f s) x → S 43 20 = nI u → TabM S t lg f → LM S f lg w t → ∃ S', f_X9_step_L32 fu p0 p1 p2 p3 p4 n (nI t) (nI w) (nI x) (nI s) (nI (f s)) (nI lg) S = some (0, S') ∧ StM S S' 0 f lg w s x := by
  have hl := lg_bd hs
  have hM := pow12 hs.2.1
  have hfs : fb_sm f s + f s ≤ 2 ^ lg := by rw [← hs.2.2]; exact fb_sm_part f hs2
  have hxl := hx.lt hl.2
  obtain ⟨y1, y2, y3, y4⟩ := stY_p hl h1 (by omega) hx
  obtain ⟨u1, u2, u3⟩ := stU_p hl h1 hx
  have y3 := y3 rfl
  have hb : bnN 0 lg = lg := rfl
  have hlm : lmN 0 lg (f s) = 2 * f s := rfl
  have hwd : wdN 0 = 1 := rfl
  rw [hlm] at u2 y2
  have fin : ∀ S, S 43 20 = nI (stU 0 lg (f s) x) → TabM S t lg f → LM S f lg w t → ∀ n, ∃ S', f_X9_step_L32 fu p0 p1 p2 p3 p4 (n + 1) (nI t) (nI w) (nI x) (nI s) (nI (f s)) (nI lg) S = some (0, S') ∧ StM S S' 0 f lg w s x := by
    intro S a1 a2 a3 n
    obtain ⟨q1, q2⟩ := plN_p hs hw hs2 (i := stY 0 lg (f s) x - f s) (by omega)
    rw [show fb_sm f s + (stY 0 lg (f s) x - f s) = fb_sm f s + stY 0 lg (f s) x - f s by omega] at q1 q2
    have e52 := a3.2.2 _ q1
    rw [q2] at e52
    have eX : stX 0 f lg w s x = 2 ^ lg + plN f lg w (fb_sm f s + stY 0 lg (f s) x - f s) := rfl
    have eU : x / 2 ^ stU 0 lg (f s) x = stY 0 lg (f s) x := by unfold stY; rw [hwd, Nat.one_mul]
    have eV : x % 2 ^ stU 0 lg (f s) x = stV 0 lg (f s) x := by unfold stV; rw [hwd, Nat.one_mul]
    obtain ⟨S1, eS1⟩ : ∃ z, z = puS S 43 21 (nI (stV 0 lg (f s) x)) := ⟨_, rfl⟩
    have f1 : Fr [43] S S1 := by rw [eS1]; exact Fr.rf.pu (by simp)
    have g1 : ∀ j, j ≠ 21 → S1 43 j = S 43 j := fun j hj => by rw [eS1, puS_s, upd_n hj]
    refine ⟨puS S1 43 22 (nI (stX 0 f lg w s x)), ?_, by simp [puS, upS, upd], by rw [puS_s, upd_n (by decide), g1 20 (by decide)]; exact a1, by rw [eS1]; simp [puS, upS, upd], f1.pu (by simp), fun j b1 b2 b3 => by rw [puS_s, upd_n b3]; exact g1 j b2⟩
    rw [f_X9_step_L32_s, a1, shr_s hxl (by omega), eU, show (2 : Int32) * nI (f s) = nI (2 * f s) from pk_mul 2 _, if_pos (nI_lt y2 (by omega)), mask_s hxl (by omega), eV, pin_eq, ← eS1, g1 20 (by decide), a1, shr_s hxl (by omega), eU, pin_eq, ix256, if_neg (nI_in (by omega) (by omega)), nI_clamp (by omega), f1 48 (by decide), a2.2.2 s hs2, ix3, show (4096 : Int32) * nI (3 * t + w) = nI (4096 * (3 * t + w)) from pk_mul 4096 _, nI_add, nI_add, pk_sub (by omega), if_neg (nI_in (by omega) (by omega)), nI_clamp (by omega), f1 52 (by decide), show 4096 * (3 * t + w) + fb_sm f s + stY 0 lg (f s) x - f s = 4096 * (3 * t + w) + (fb_sm f s + stY 0 lg (f s) x - f s) by omega, e52, show (1 : Int32) <<< (nI lg &&& 31) = nI (2 ^ lg) from shl1 hs.2.1, nI_add, pin_eq, ← eX]
  intro d
  induction d with
  | zero =>
    intro u n S hu hn hr a1 a2 a3
    obtain ⟨n, rfl⟩ : ∃ m, n = m + 1 := ⟨n - 1, by omega⟩
    exact fin S (by rw [a1, ← hr]; rfl) a2 a3 n
  | succ d ih =>
    intro u n S hu hn hr a1 a2 a3
    obtain ⟨n, rfl⟩ : ∃ m, n = m + 1 := ⟨n - 1, by omega⟩
    rw [unN] at hr
    by_cases q : x / 2 ^ (1 * u) < 2 * f s
    · rw [if_pos q] at hr
      exact fin S (by rw [a1, hr]) a2 a3 n
    · rw [if_neg q] at hr
      obtain ⟨S1, eS1⟩ : ∃ z, z = puS S 43 20 (nI (u + 1)) := ⟨_, rfl⟩
      have f1 : Fr [43] S S1 := by rw [eS1]; exact Fr.rf.pu (by simp)
      obtain ⟨S', b1, b2, b3, b4, b5, b6⟩ := ih (u + 1) n S1 (by omega) (by omega) hr (by rw [eS1]; simp [puS, upS, upd]) (a2.of (f1 46 (by decide)) (f1 47 (by decide)) (f1 48 (by decide))) (a3.of (f1 50 (by decide)) (f1 51 (by decide)) (f1 52 (by decide)))
      refine ⟨S', ?_, b2, b3, b4, f1.tr b5, fun j c1 c2 c3 => by rw [b6 j c1 c2 c3, eS1, puS_s, upd_n c1]⟩
      have hd : x / 2 ^ u ≤ x := Nat.div_le_self _ _
      rw [Nat.one_mul] at q
      rw [f_X9_step_L32_s, a1, shr_s hxl (by omega), show (2 : Int32) * nI (f s) = nI (2 * f s) from pk_mul 2 _, if_neg (by rw [nI_ltI (by omega) (by omega)]; exact q), show nI u + (1 : Int32) = nI (u + 1) from nI_1 u, pin_eq, ← eS1]
      exact b1
theorem stepM1_loop {fu lg w t s x k : Nat} {f : Nat → Nat} {p0 p1 p2 p3 p4 : Int32} (hk0 : k ≠ 0) (hs : SumOK f lg) (hw : w < 3) (ht : t < 7) (hs2 : s < 256) (h1 : 1 ≤ f s) (hx : StOK k lg x) : ∀ (d u n : Nat) (S : St), u + d = 2 → d < n → unN 8 (lmN k lg (f s)) x d u = stU k lg (f s) x → S 43 20 = nI u → TabM S t lg f → ∃ S', f_X9_step_L142 fu p0 p1 p2 p3 p4 n (nI t) (nI x) (nI s) (nI (f s)) (nI lg) (lN (lmN k lg (f s))) (nI (x / 2 ^ (8 * u))) S = some (0, S') ∧ StM S S' k f lg w s x := by
  have hl := lg_bd hs
  have hM := pow12 hs.2.1
  have hfs : fb_sm f s + f s ≤ 2 ^ lg := by rw [← hs.2.2]; exact fb_sm_part f hs2
  have hxl := hx.lt hl.2
  obtain ⟨y1, y2, y3, y4⟩ := stY_p hl h1 (by omega) hx
  obtain ⟨u1, u2, u3⟩ := stU_p hl h1 hx
  have hb : bnN k lg = 2 := if_neg hk0
  have hwd : wdN k = 8 := if_neg hk0
  have hlm := lmN_bd (k := k) hl.2 (show f s ≤ 2 ^ lg by omega)
  have e0 := (stX_ok hs hw hs2 h1 hx).lt hl.2
  have eU : x / 2 ^ (8 * stU k lg (f s) x) = stY k lg (f s) x := by unfold stY; rw [hwd]
  have eV : x % 2 ^ (8 * stU k lg (f s) x) = stV k lg (f s) x := by unfold stV; rw [hwd]
  have e2 : stX k f lg w s x = stY k lg (f s) x / f s * 2 ^ lg + stY k lg (f s) x % f s + fb_sm f s := by unfold stX; rw [if_neg hk0]
  have fin : ∀ S, S 43 20 = nI (stU k lg (f s) x) → TabM S t lg f → ∀ n, ∃ S', f_X9_step_L142 fu p0 p1 p2 p3 p4 (n + 1) (nI t) (nI x) (nI s) (nI (f s)) (nI lg) (lN (lmN k lg (f s))) (nI (x / 2 ^ (8 * stU k lg (f s) x))) S = some (0, S') ∧ StM S S' k f lg w s x := by
    intro S a1 a2 n
    obtain ⟨S1, eS1⟩ : ∃ z, z = puS S 43 21 (nI (stV k lg (f s) x)) := ⟨_, rfl⟩
    have f1 : Fr [43] S S1 := by rw [eS1]; exact Fr.rf.pu (by simp)
    have g1 : ∀ j, j ≠ 21 → S1 43 j = S 43 j := fun j hj => by rw [eS1, puS_s, upd_n hj]
    refine ⟨puS S1 43 22 (nI (stX k f lg w s x)), ?_, by simp [puS, upS, upd], by rw [puS_s, upd_n (by decide), g1 20 (by decide)]; exact a1, by rw [eS1]; simp [puS, upS, upd], f1.pu (by simp), fun j b1 b2 b3 => by rw [puS_s, upd_n b3]; exact g1 j b2⟩
    rw [f_X9_step_L142_s, eU, nI_l (by omega), if_pos ((l_lt (by omega) hlm).mpr y2), a1, show (8 : Int32) * nI (stU k lg (f s) x) = nI (8 * stU k lg (f s) x) from pk_mul 8 _, mask_s hxl (by omega), eV, pin_eq, ← eS1, if_neg (nI_ne0 (by omega) (by omega)), if_neg (nI_ne0 (by omega) (by omega)), ix256, if_neg (nI_in (by omega) (by omega)), nI_clamp (by omega), f1 48 (by decide), a2.2.2 s hs2, pk_rem y1 (by omega) (by omega), pk_div y1 (by omega) (by omega), pk_shlN _ lg (s_l lg (by omega)) (by omega), nI_add, nI_add, ← e2, pin_eq]
  intro d
  induction d with
  | zero =>
    intro u n S hu hn hr a1 a2
    obtain ⟨n, rfl⟩ : ∃ m, n = m + 1 := ⟨n - 1, by omega⟩
    have e : u = stU k lg (f s) x := by rw [← hr]; rfl
    rw [e]
    exact fin S (by rw [a1, e]) a2 n
  | succ d ih =>
    intro u n S hu hn hr a1 a2
    obtain ⟨n, rfl⟩ : ∃ m, n = m + 1 := ⟨n - 1, by omega⟩
    rw [unN] at hr
    by_cases q : x / 2 ^ (8 * u) < lmN k lg (f s)
    · rw [if_pos q] at hr
      rw [hr]
      exact fin S (by rw [a1, hr]) a2 n
    · rw [if_neg q] at hr
      obtain ⟨S1, eS1⟩ : ∃ z, z = puS S 43 20 (nI (u + 1)) := ⟨_, rfl⟩
      have f1 : Fr [43] S S1 := by rw [eS1]; exact Fr.rf.pu (by simp)
      obtain ⟨S', b1, b2, b3, b4, b5, b6⟩ := ih (u + 1) n S1 (by omega) (by omega) hr (by rw [eS1]; simp [puS, upS, upd]) (a2.of (f1 46 (by decide)) (f1 47 (by decide)) (f1 48 (by decide)))
      refine ⟨S', ?_, b2, b3, b4, f1.tr b5, fun j c1 c2 c3 => by rw [b6 j c1 c2 c3, eS1, puS_s, upd_n c1]⟩
      have hd : x / 2 ^ (8 * u) ≤ x := Nat.div_le_self _ _
      have e8 : nI (x / 2 ^ (8 * u)) >>> ((8 : Int32) &&& 31) = nI (x / 2 ^ (8 * (u + 1))) := by
        rw [show ((8 : Int32) &&& 31) = (nI 8 &&& 31) from rfl, shr_s (by omega) (by omega), ← pow_div]
        congr 2
      rw [f_X9_step_L142_s, nI_l (by omega), if_neg (fun c => q ((l_lt (by omega) hlm).mp c)), e8, pin_eq, a1, show nI u + (1 : Int32) = nI (u + 1) from nI_1 u, pin_eq, ← eS1]
      exact b1
theorem stepM_s {fu k lg w t s x : Nat} {f : Nat → Nat} {S : St} (hfu : 20000 ≤ fu) (hk : k < 3) (hs : SumOK f lg) (hw : w < 3) (ht : t < 7) (h : TabM S t lg f) (hl : LM S f lg w t) (hs2 : s < 256) (h1 : 1 ≤ f s) (hx : StOK k lg x) : ∃ S', f_X9_step fu (nI t) (nI k) (nI w) (nI x) (nI s) S = some (0, S') ∧ StM S S' k f lg w s x := by
  have hl1 := lg_bd hs
  have hM := pow12 hs.2.1
  have hfs : fb_sm f s + f s ≤ 2 ^ lg := by rw [← hs.2.2]; exact fb_sm_part f hs2
  obtain ⟨S1, eS1⟩ : ∃ z, z = puS S 43 20 (0 : Int32) := ⟨_, rfl⟩
  have f1 : Fr [43] S S1 := by rw [eS1]; exact Fr.rf.pu (by simp)
  have a1 : S1 43 20 = nI 0 := by rw [eS1]; simp [puS, upS, upd]; rfl
  have a2 : TabM S1 t lg f := h.of (f1 46 (by decide)) (f1 47 (by decide)) (f1 48 (by decide))
  have a3 : LM S1 f lg w t := hl.of (f1 50 (by decide)) (f1 51 (by decide)) (f1 52 (by decide))
  have up : ∀ S', StM S1 S' k f lg w s x → StM S S' k f lg w s x := fun S' q => ⟨q.1, q.2.1, q.2.2.1, f1.tr q.2.2.2.1, fun j c1 c2 c3 => by rw [q.2.2.2.2 j c1 c2 c3, eS1, puS_s, upd_n c1]⟩
  unfold f_X9_step
  rw [ix256, if_neg (nI_in (by omega) (by omega)), nI_clamp (by omega), h.2.1 s hs2, pin_eq, if_neg (nI_in (by omega) (by omega)), nI_clamp (by omega), h.1, pin_eq, pin_eq, ← eS1]
  by_cases k0 : k = 0
  · subst k0
    rw [if_pos (show nI 0 = (0 : Int32) from rfl)]
    obtain ⟨S', b1, b2⟩ := stepM0_loop (fu := fu) (p0 := nI t) (p1 := nI 0) (p2 := nI w) (p3 := nI x) (p4 := nI s) hs hw ht hs2 h1 hx lg 0 fu S1 (by omega) (by omega) rfl a1 a2 a3
    exact ⟨S', b1, up S' b2⟩
  · rw [if_neg (nI_ne0 (by omega) (by omega)), nI_l (by omega), show (31 : Int32) - nI lg = nI (31 - lg) from pk_sub (a := 31) (by omega), wb_shl _ (by omega), pin_eq]
    obtain ⟨S', b1, b2⟩ := stepM1_loop (fu := fu) (p0 := nI t) (p1 := nI k) (p2 := nI w) (p3 := nI x) (p4 := nI s) k0 hs hw ht hs2 h1 hx 2 0 fu S1 (by omega) (by omega) (by unfold stU wdN bnN; rw [if_neg k0, if_neg k0]) a1 a2
    rw [show lmN k lg (f s) = f s * 2 ^ (31 - lg) by unfold lmN; rw [if_neg k0], Nat.mul_zero, Nat.pow_zero, Nat.div_one] at b1
    exact ⟨S', b1, up S' b2⟩
