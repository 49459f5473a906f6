/-! ideal: both -/
def pdN (f : Nat → Nat) (L : List Nat) : Nat → Nat
  | 0 => 1
  | i + 1 => pdN f L i * f (L.getD i 0)
theorem pd_le {f : Nat → Nat} {L : List Nat} {lg : Nat} (h : ∀ s, f s ≤ 2 ^ lg) : ∀ i, pdN f L i ≤ 2 ^ (lg * i) := by
  intro i
  induction i with
  | zero => exact Nat.le_refl _
  | succ i ih =>
    show pdN f L i * f (L.getD i 0) ≤ _
    rw [Nat.mul_succ, Nat.pow_add]
    exact Nat.mul_le_mul ih (h _)
theorem pd_cap {f : Nat → Nat} {L : List Nat} {lg i : Nat} (h : ∀ s, f s ≤ 2 ^ lg) (hg : lg ≤ 12) (hi : i ≤ 1400) : pdN f L i ≤ 2 ^ 16800 := by
  refine Nat.le_trans (pd_le h i) (Nat.pow_le_pow_right (by decide) ?_)
  exact Nat.le_trans (Nat.mul_le_mul hg hi) (by decide)
theorem hb_ex : ∀ k x, 1 ≤ x → x < 2 ^ k → ∃ e, e < k ∧ hbP x e := by
  intro k
  induction k with
  | zero => intro x h1 h2; exact absurd h2 (by omega)
  | succ k ih =>
    intro x h1 h2
    by_cases q : x < 2 ^ k
    · obtain ⟨e, a, b⟩ := ih x h1 q
      exact ⟨e, by omega, b⟩
    · exact ⟨k, by omega, by omega, h2⟩
theorem SumOK.le2 {f : Nat → Nat} {lg : Nat} (h : SumOK f lg) : ∀ s, f s ≤ 2 ^ lg ∧ f s ≤ 4096 := by
  intro s
  have h3 : 2 ^ lg ≤ 2 ^ 12 := Nat.pow_le_pow_right (by decide) h.2.1
  by_cases q : s < 256
  · have h2 := fb_sm_part f q
    rw [h.2.2] at h2
    exact ⟨by omega, by omega⟩
  · rw [h.1.2 s (by omega)]
    exact ⟨Nat.zero_le _, by omega⟩
theorem idC_loop {fu k lg : Nat} {f : Nat → Nat} {L : List Nat} {p : Int32} (hfu : 20000 ≤ fu) (hk : zx_tab k = true) (hs : SumOK f lg) (hl : L.length ≤ 1400) (hL : ∀ j, j < L.length → L.getD j 0 < 256 ∧ 1 ≤ f (L.getD j 0)) : ∀ (d i m n g X : Nat) (a : Nat → Nat) (S : St), i + d = L.length → d < m → PrC S a n g X → X * g = pdN f L i → RowC S 1 L → TabC S k lg f → ∃ S' e, f_X8_ideal_L34 fu p k m (nI i) S = some (nI lg * nI L.length - nI e, S') ∧ hbP (pdN f L L.length) e ∧ Fr [41, 42] S S' := by
  have hr := tab_rng hk
  intro d
  induction d with
  | zero =>
    intro i m n g X a S hi hm h hX hR hT
    obtain ⟨m, rfl⟩ : ∃ q, m = q + 1 := ⟨m - 1, by omega⟩
    have hii : i = L.length := by omega
    obtain ⟨S', e, b1, b2, b3⟩ := highC_s hfu h (by rw [hX]; exact pd_cap (fun s => (hs.le2 s).1) hs.2.1 (by omega))
    refine ⟨S', e, ?_, by rw [← hii, ← hX]; exact b2, b3⟩
    rw [f_X8_ideal_L34_s, hR.1, if_pos (nI_le (by omega) (by omega))]
    exact e_bd b1 (by rw [hT.1])
  | succ d ih =>
    intro i m n g X a S hi hm h hX hR hT
    obtain ⟨m, rfl⟩ : ∃ q, m = q + 1 := ⟨m - 1, by omega⟩
    obtain ⟨hb, h1⟩ := hL i (by omega)
    obtain ⟨S1, a', n', g', X', b1, b2, b3, b4⟩ := timesC_s (v := f (L.getD i 0)) hfu h h1 (hs.le2 _).2 (by rw [hX]; exact pd_cap (fun s => (hs.le2 s).1) hs.2.1 (by omega))
    obtain ⟨S', e, c1, c2, c3⟩ := ih (i + 1) m n' g' X' a' S1 (by omega) (by omega) b2 (by rw [b3, hX]; rfl) (hR.of (b4 1 (by decide)) (b4 2 (by decide))) (hT.of (b4 _ (by simp; omega)) (b4 _ (by simp; omega)))
    refine ⟨S', e, ?_, c2, b4.tr c3⟩
    rw [f_X8_ideal_L34_s, hR.1, if_neg (by rw [nI_leI (by omega) (by omega)]; omega)]
    refine e_bd (byteAt_s hR (nI i)) ?_
    rw [bat_in (by omega) (by omega)]
    refine e_bd (shareOf_s hT hb) ?_
    refine e_bd b1 ?_
    rw [pin_eq, nI_1]
    exact c1
theorem cr16 {g : Nat} {a : Nat → Nat} {n : Nat} (hg : g ≤ 4096) (hg1 : 1 ≤ g) (ha : ∀ i, i < n → a i < 2 ^ 16) : ∀ i, i ≤ n → crN 16 g a i < g ∧ (i < n → a i * g + crN 16 g a i < 2 ^ 16 * g) := by
  intro i
  induction i with
  | zero =>
    intro hi
    refine ⟨by show 0 < g; omega, fun h => ?_⟩
    have : (a 0 + 1) * g ≤ 2 ^ 16 * g := Nat.mul_le_mul (by have := ha 0 h; omega) (Nat.le_refl _)
    rw [Nat.add_mul] at this
    show a 0 * g + 0 < _
    omega
  | succ i ih =>
    intro hi
    have h1 := (ih (by omega)).2 (by omega)
    have h2 : crN 16 g a (i + 1) < g := by
      show (a i * g + crN 16 g a i) / 2 ^ 16 < g
      rw [Nat.div_lt_iff_lt_mul (by decide)]
      omega
    refine ⟨h2, fun h => ?_⟩
    have : (a (i + 1) + 1) * g ≤ 2 ^ 16 * g := Nat.mul_le_mul (by have := ha (i + 1) h; omega) (Nat.le_refl _)
    rw [Nat.add_mul] at this
    omega
theorem mulM_loop {fu n g : Nat} {a : Nat → Nat} {p v1 v4 : Int32} {K : Int32 → Int32 → Int32 → St → Option (Int32 × St)} (hg : g ≤ 4096) (hg1 : 1 ≤ g) (hn : n ≤ 1055) (ha : ∀ i, i < n → a i < 2 ^ 16) : ∀ (d i m : Nat) (S : St), i + d = n → d < m → (∀ j, j < i → S 60 j = nI (mlN 16 g a j)) → (∀ j, i ≤ j → j < n → S 60 j = nI (a j)) → ∃ S', f_X9_ideal_L69 fu p K m v1 (nI n) v4 (nI g) (nI (crN 16 g a i)) (nI i) S = f_X9_ideal_L69 fu p K 1 v1 (nI n) v4 (nI g) (nI (crN 16 g a n)) (nI n) S' ∧ (∀ j, j < n → S' 60 j = nI (mlN 16 g a j)) ∧ Fr [60] S S' := by
  intro d
  induction d with
  | zero =>
    intro i m S hi hm h3 h4
    obtain ⟨m, rfl⟩ : ∃ q, m = q + 1 := ⟨m - 1, by omega⟩
    have : i = n := by omega
    subst this
    refine ⟨S, ?_, h3, Fr.rf⟩
    rw [f_X9_ideal_L69_s, f_X9_ideal_L69_s, if_pos (nI_le (Nat.le_refl _) (by omega)), if_pos (nI_le (Nat.le_refl _) (by omega))]
  | succ d ih =>
    intro i m S hi hm h3 h4
    obtain ⟨m, rfl⟩ : ∃ q, m = q + 1 := ⟨m - 1, by omega⟩
    obtain ⟨c1, c2⟩ := cr16 hg hg1 ha i (by omega)
    have c2 := c2 (by omega)
    have hai := ha i (by omega)
    have hml : mlN 16 g a i < 2 ^ 16 := Nat.mod_lt _ (by decide)
    obtain ⟨S1, e1⟩ : ∃ z, z = puS S 60 i (nI (mlN 16 g a i)) := ⟨_, rfl⟩
    have f1 : Fr [60] S S1 := by rw [e1]; exact Fr.rf.pu (by simp)
    obtain ⟨S', b1, b2, b3⟩ := ih (i + 1) m S1 (by omega) (by omega) (by
      intro j hj
      rw [e1, puS_s]
      by_cases q : j = i
      · rw [q, upd_s]
      · rw [upd_n q]; exact h3 j (by omega)) (by
      intro j j1 j2
      rw [e1, puS_s, upd_n (by omega)]
      exact h4 j (by omega) j2)
    refine ⟨S', ?_, b2, f1.tr b3⟩
    have x9 : nI (a i) * nI g + nI (crN 16 g a i) = nI (a i * g + crN 16 g a i) := by rw [pk_mul, nI_add]
    have xa : nI (a i * g + crN 16 g a i) &&& (65535 : Int32) = nI (mlN 16 g a i) := by
      rw [show (65535 : Int32) = nI (2 ^ 16 - 1) from rfl, fa_mask]
      rfl
    have xs : nI (a i * g + crN 16 g a i) >>> ((16 : Int32) &&& 31) = nI (crN 16 g a (i + 1)) := shr_s (n := 16) (by omega) (by decide)
    rw [f_X9_ideal_L69_s, if_neg (by rw [nI_leI (by omega) (by omega)]; omega), if_neg (nI_in (by omega) (by omega)), nI_clamp (by omega), h4 i (Nat.le_refl _) (by omega), x9, pin_eq, if_neg (nI_in2 (by omega) (by omega)), xa, pin_eq, xs, pin_eq, nI_1, pin_eq, ← e1]
    exact b1
theorem hbM_loop {fu : Nat} {p v1 : Int32} {S : St} : ∀ (e c x m : Nat), hbP x e → e < 31 → e + 1 < m → f_X9_ideal_L155 fu p m v1 (nI c) (nI x) S = f_X9_ideal_L155 fu p 1 v1 (nI (c + e + 1)) (nI 0) S := by
  intro e
  induction e with
  | zero =>
    intro c x m h he hm
    obtain ⟨m, rfl⟩ : ∃ q, m = q + 2 := ⟨m - 2, by omega⟩
    have : x = 1 := by have := h.1; have := h.2; omega
    subst this
    rw [f_X9_ideal_L155_s, if_neg (by decide), pin_eq, show nI 1 >>> ((1 : Int32) &&& 31) = nI (1 / 2 ^ 1) from shr_s (n := 1) (by omega) (by decide), pin_eq, nI_1, show 1 / 2 ^ 1 = 0 from rfl, show c + 0 + 1 = c + 1 from rfl, f_X9_ideal_L155_s, f_X9_ideal_L155_s, if_pos (show nI 0 ≤ (0 : Int32) by decide), if_pos (show nI 0 ≤ (0 : Int32) by decide)]
  | succ e ih =>
    intro c x m h he hm
    obtain ⟨m, rfl⟩ : ∃ q, m = q + 1 := ⟨m - 1, by omega⟩
    obtain ⟨h1, h2⟩ := h
    have p1 : (2 : Nat) ^ (e + 1) = 2 ^ e * 2 := Nat.pow_succ ..
    have p2 : (2 : Nat) ^ (e + 1 + 1) = 2 ^ (e + 1) * 2 := Nat.pow_succ ..
    have p3 : (2 : Nat) ^ (e + 1 + 1) ≤ 2 ^ 31 := Nat.pow_le_pow_right (by decide) (by omega)
    have hx0 := Nat.two_pow_pos e
    rw [f_X9_ideal_L155_s, if_neg (by rw [show (0 : Int32) = nI 0 from rfl, nI_leI (by omega) (by omega)]; omega), pin_eq, show nI x >>> ((1 : Int32) &&& 31) = nI (x / 2 ^ 1) from shr_s (n := 1) (by omega) (by decide), pin_eq, nI_1, ih (c + 1) (x / 2 ^ 1) m ⟨by omega, by omega⟩ (by omega) (by omega), show c + 1 + e + 1 = c + (e + 1) + 1 by omega]
theorem idM_loop {fu t lg : Nat} {f : Nat → Nat} {L : List Nat} {p : Int32} (hfu : 20000 ≤ fu) (ht : t < 7) (hs : SumOK f lg) (hl : L.length ≤ 1400) (hL : ∀ j, j < L.length → L.getD j 0 < 256 ∧ 1 ≤ f (L.getD j 0)) {E : Nat} (hE : hbP (pdN f L L.length) E) : ∀ (d i m n : Nat) (a : Nat → Nat) (S : St), i + d = L.length → d < m → NumOK 16 a n (pdN f L i) → (∀ j, j < n → S 60 j = nI (a j)) → RowM S 44 1 L → TabM S t lg f → ∃ S', f_X9_ideal_L34 fu p m (nI t) (nI n) (nI i) S = some (nI (lg * L.length - E), S') ∧ Fr [60] S S' := by
  intro d
  have hw : lg * L.length ≤ 16800 := Nat.le_trans (Nat.mul_le_mul hs.2.1 hl) (by decide)
  have hEl : E ≤ lg * L.length := by
    have := Nat.le_trans hE.1 (pd_le (fun s => (hs.le2 s).1) L.length)
    exact (Nat.pow_le_pow_iff_right (by decide)).mp this
  have hn : ∀ n i a, i ≤ L.length → NumOK 16 a n (pdN f L i) → n ≤ 1051 := by
    intro n i a hi h
    have := Nat.le_trans h.lo (pd_cap (fun s => (hs.le2 s).1) hs.2.1 (by omega))
    have := (Nat.pow_le_pow_iff_right (a := 2) (by decide)).mp this
    omega
  induction d with
  | zero =>
    intro i m n a S hi hm h h6 hR hT
    obtain ⟨m, rfl⟩ : ∃ q, m = q + 1 := ⟨m - 1, by omega⟩
    have hii : i = L.length := by omega
    subst hii
    have hn1 := hn n _ a (Nat.le_refl _) h
    obtain ⟨ha, hn0, ht1, -⟩ := id h
    obtain ⟨e, e1, e2⟩ := hb_ex 16 (a (n - 1)) ht1 (ha _ (by omega))
    have hEe := hE.eq (h.hb e2)
    refine ⟨S, ?_, Fr.rf⟩
    rw [f_X9_ideal_L34_s, hR.1, if_pos (nI_le (Nat.le_refl _) (by omega)), show nI n - (1 : Int32) = nI (n - 1) from pk_sub (b := 1) hn0, pin_eq, if_neg (nI_in (by omega) (by omega)), nI_clamp (by omega), pin_eq, h6 _ (by omega), show (16 : Int32) * nI (n - 1) = nI (16 * (n - 1)) from pk_mul 16 _, hbM_loop e _ _ fu e2 (by omega) (by omega), f_X9_ideal_L155_s, if_pos (by decide), if_neg (nI_in (by omega) (by omega)), nI_clamp (by omega), hT.1, hR.1, pk_mul, ← hEe]
    have ez : nI (lg * L.length) - nI (E + 1) + (1 : Int32) = nI (lg * L.length - E) := by
      rw [show nI (E + 1) = nI E + 1 from (nI_1 E).symm, show nI (lg * L.length - E) = nI (lg * L.length) - nI E from (pk_sub hEl).symm]
      generalize nI (lg * L.length) = u
      generalize nI E = v
      rw [Int32.sub_eq_add_neg, Int32.sub_eq_add_neg, Int32.neg_add, Int32.sub_eq_add_neg, Int32.add_assoc, Int32.add_assoc, Int32.add_left_neg, Int32.add_zero]
    rw [ez, pin_eq, if_pos (by rw [show (0 : Int32) = nI 0 from rfl, nI_leI (by omega) (by omega)]; omega)]
  | succ d ih =>
    intro i m n a S hi hm h h6 hR hT
    obtain ⟨m, rfl⟩ : ∃ q, m = q + 1 := ⟨m - 1, by omega⟩
    obtain ⟨hb, h1⟩ := hL i (by omega)
    have hn1 := hn n _ a (by omega) h
    have hg := (hs.le2 (L.getD i 0)).2
    obtain ⟨S1, b1, b2, b3⟩ := mulM_loop (fu := fu) (p := p) (v1 := nI t) (v4 := nI i) (K := f_X9_ideal_L34 fu p m) hg h1 (by omega) h.1 n 0 fu S (by omega) (by omega) (fun j hj => by omega) (fun j _ hj => h6 j hj)
    obtain ⟨c1, -⟩ := cr16 hg h1 h.1 n (Nat.le_refl _)
    obtain ⟨k1, k2⟩ := h.times h1 (show crN 16 (f (L.getD i 0)) a n < 2 ^ 16 by omega)
    have hgo : ∀ R, f_X9_ideal_L69 fu p (f_X9_ideal_L34 fu p m) 1 (nI t) (nI n) (nI i) (nI (f (L.getD i 0))) (nI (crN 16 (f (L.getD i 0)) a n)) (nI n) S1 = R → f_X9_ideal_L34 fu p (m + 1) (nI t) (nI n) (nI i) S = R := by
      intro R hR'
      rw [f_X9_ideal_L34_s, hR.1, if_neg (by rw [nI_leI (by omega) (by omega)]; omega), if_neg (nI_in (by omega) (by omega)), nI_clamp (by omega), hR.2 i (by omega), ix256, if_neg (nI_in (by omega) (by omega)), nI_clamp (by omega), hT.2.1 _ hb, pin_eq]
      exact b1.trans hR'
    by_cases q : crN 16 (f (L.getD i 0)) a n = 0
    · obtain ⟨S', d1, d2⟩ := ih (i + 1) m n _ S1 (by omega) (by omega) (k1 q) b2 (hR.of (by rw [b3 43 (by decide)]) (b3 44 (by decide))) (hT.of (b3 46 (by decide)) (b3 47 (by decide)) (b3 48 (by decide)))
      refine ⟨S', hgo _ ?_, b3.tr d2⟩
      rw [f_X9_ideal_L69_s, if_pos (nI_le (Nat.le_refl _) (by omega)), q, if_pos (by decide)]
      unfold f_X9_ideal_L131
      rw [pin_eq, nI_1]
      exact d1
    · obtain ⟨S2, e2⟩ : ∃ z, z = puS S1 60 n (nI (crN 16 (f (L.getD i 0)) a n)) := ⟨_, rfl⟩
      have f2 : Fr [60] S S2 := by rw [e2]; exact b3.pu (by simp)
      obtain ⟨S', d1, d2⟩ := ih (i + 1) m (n + 1) _ S2 (by omega) (by omega) (k2 q).1 (by
        intro j hj
        rw [e2, puS_s]
        by_cases r : j = n
        · rw [if_pos r, r, upd_s]
        · rw [if_neg r, upd_n r]; exact b2 j (by omega)) (hR.of (by rw [f2 43 (by decide)]) (f2 44 (by decide))) (hT.of (f2 46 (by decide)) (f2 47 (by decide)) (f2 48 (by decide)))
      refine ⟨S', hgo _ ?_, f2.tr d2⟩
      rw [f_X9_ideal_L69_s, if_pos (nI_le (Nat.le_refl _) (by omega)), if_neg (by rw [show (0 : Int32) = nI 0 from rfl, nI_leI (by omega) (by omega)]; omega), if_neg (nI_in (by omega) (by omega)), nI_clamp (by omega), pin_eq, nI_1, pin_eq, ← e2]
      unfold f_X9_ideal_L131
      rw [pin_eq, nI_1]
      exact d1
theorem lx_ideal {fu : Nat} (hfu : 20000 ≤ fu) : lx_h13 fu zx_I := by
  intro x S h
  obtain ⟨L, O, tc, lg, f, h1, h2, h3, h4, h5, h6⟩ := id h
  rcases tab_case h2 h3 rfl x with ⟨a, b⟩ | ⟨t, ht, rfl, hz, a, b, c, d, e⟩
  · exact ⟨-1, S, S, e_bd a (by rw [if_pos rfl]), e_bd b (by rw [if_pos rfl]), h⟩
  · have hq := tab_62 hz
    have hr := tab_rng hz
    rcases refuse_both (fu := fu) (t := t) hfu (by omega) b a h1.1 with ⟨r, r1, r2, r3⟩ | ⟨hl, hL, r2, r3⟩
    · have rn : ¬ r = 0 := fun q => by rw [q] at r1; exact absurd r1 (by decide)
      refine ⟨r, S, S, e_bd d ?_, e_bd e ?_, h⟩
      · rw [if_neg hq.2, pin_eq, hq.1, if_pos hz]
        exact e_bd r2 (by rw [if_neg rn])
      · rw [if_neg (by decide)]
        exact e_bd (r3 S c h1.2.1) (by rw [if_neg (fa_of_lt r1).2.1])
    · obtain ⟨S1, e1⟩ : ∃ z, z = puS (puS (puS S 42 0 1) 41 1 1) 41 2 1 := ⟨_, rfl⟩
      have f1 : Fr [41, 42] S S1 := by rw [e1]; exact ((Fr.rf.pu (by simp)).pu (by simp)).pu (by simp)
      have P1 : PrC S1 (fun _ => 1) 1 1 1 := by
        refine ⟨⟨fun i _ => (by decide : 1 < 2 ^ 30), by omega, Nat.le_refl 1, ?_⟩, by rw [e1]; rfl, by rw [e1]; rfl, by omega, by omega, fun i hi => ?_⟩
        · rfl
        · have : i = 0 := by omega
          subst this
          rw [e1]; rfl
      obtain ⟨S2, E, b1, b2, b3⟩ := idC_loop (fu := fu) (p := nI t) hfu hz a hl hL L.length 0 fu 1 1 1 _ S1 (by omega) (by omega) P1 rfl (h1.1.of (f1 1 (by decide)) (f1 2 (by decide))) (b.of (f1 _ (by simp; omega)) (f1 _ (by simp; omega)))
      have f2 : Fr [41, 42] S S2 := f1.tr b3
      obtain ⟨S3, e3⟩ : ∃ z, z = puS S2 60 0 1 := ⟨_, rfl⟩
      have f3 : Fr [60] S2 S3 := by rw [e3]; exact Fr.rf.pu (by simp)
      have c2 : TabM S2 t (lg t) (f t) := c.of (f2 46 (by decide)) (f2 47 (by decide)) (f2 48 (by decide))
      have r2' : RowM S2 44 1 L := h1.2.1.of (by rw [f2 43 (by decide)]) (f2 44 (by decide))
      obtain ⟨S4, d1, d2⟩ := idM_loop (fu := fu) (t := t) (p := nI t) hfu (by omega) a hl hL b2 L.length 0 fu 1 (fun _ => 1) S3 (by omega) (by omega) ⟨fun i _ => (by decide : 1 < 2 ^ 16), by omega, Nat.le_refl 1, rfl⟩ (fun j hj => by
        have : j = 0 := by omega
        subst this
        rw [e3]; rfl) (r2'.of (by rw [f3 43 (by decide)]) (f3 44 (by decide))) (c2.of (f3 46 (by decide)) (f3 47 (by decide)) (f3 48 (by decide)))
      have hw : lg t * L.length ≤ 16800 := Nat.le_trans (Nat.mul_le_mul a.2.1 hl) (by decide)
      have hEl : E ≤ lg t * L.length := by
        have := Nat.le_trans b2.1 (pd_le (fun s => (a.le2 s).1) L.length)
        exact (Nat.pow_le_pow_iff_right (by decide)).mp this
      have F : Fr [41, 42, 60] S S4 := (f2.mono (by simp)).tr ((f3.mono (by simp)).tr (d2.mono (by simp)))
      refine ⟨nI (lg t * L.length - E), S2, S4, e_bd d ?_, ?_, (I_J.of ⟨h1, h2, h3, h4, h5⟩ (F.mono (by simp [frL])) ⟨by rw [F 43 (by decide)], by rw [F 43 (by decide)]⟩ (by rw [F 7 (by decide)])).I (h6.of (F 7 (by decide)) (F 0 (by decide)) (F 40 (by decide)) (F 56 (by decide)) (fun j _ _ => by rw [F 43 (by decide)]))⟩
      · rw [if_neg hq.2, pin_eq, hq.1, if_pos hz]
        refine e_bd r2 ?_
        rw [if_pos rfl]
        refine e_bd (r := 0) (S := S1) (by unfold f_X3_clear; rw [e1]; rfl) ?_
        exact b1.trans (by rw [pk_mul, pk_sub hEl])
      · obtain ⟨e', _⟩ : f_X9_isTable (nI t) S2 = some (1, S2) ∧ True := by
          rcases tab_case (S := S) (S' := S2) h2 h3 (f2 46 (by decide)) (nI t) with ⟨q, -⟩ | ⟨_, _, _, _, _, _, _, _, q⟩
          · rw [d] at q
            exact absurd (Option.some.inj q) (fun w => hq.2 (Prod.mk.inj w).1)
          · exact ⟨q, trivial⟩
        refine e_bd e' ?_
        rw [if_neg (by decide)]
        refine e_bd (r3 S2 c2 r2') ?_
        rw [if_pos (by decide), pin_eq, ← e3]
        exact d1
