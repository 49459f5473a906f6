/-! unpack: the message, in the class -/
def tuN (k P : Nat) : Nat := if k = 0 then 8 * P else P
def unt (k : Nat) (L : List Nat) (p b : Nat) : Nat := if k = 0 then L.getD (p + b / 8) 0 / 2 ^ (7 - b % 8) % 2 else L.getD (p + b) 0
def flP (k lg : Nat) (L : List Nat) (p P : Nat) : Nat → Nat → Nat → Option (Nat × Nat)
  | 0, v, b => some (v, b)
  | d + 1, v, b => if lsN k lg ≤ v then some (v, b) else if tuN k P ≤ b then none else flP k lg L p P d (v * 2 ^ wdN k + unt k L p b) (b + 1)
theorem flP_s {k lg p P d v b : Nat} {L : List Nat} : flP k lg L p P (d + 1) v b = if lsN k lg ≤ v then some (v, b) else if tuN k P ≤ b then none else flP k lg L p P d (v * 2 ^ wdN k + unt k L p b) (b + 1) := rfl
theorem unt_lt {k p P b : Nat} {L : List Nat} (hb : ∀ b ∈ L, b < 256) (hlen : L.length = p + P) (h : b < tuN k P) : unt k L p b < 2 ^ wdN k := by
  unfold unt wdN
  unfold tuN at h
  by_cases q : k = 0
  · rw [if_pos q, if_pos q]
    exact Nat.mod_lt _ (by decide)
  · rw [if_neg q, if_neg q]
    rw [if_neg q] at h
    exact getD_lt hb (by omega)
def ubN (k lg : Nat) : Nat := if k = 0 then 2 * 2 ^ lg else 2 ^ 31
theorem StOK.mk' {k lg x : Nat} (h1 : lsN k lg ≤ x) (h2 : x < ubN k lg) : StOK k lg x := ⟨h1, h2⟩
theorem ub_bd {k lg : Nat} (h : lg ≤ 12) : ubN k lg ≤ 2 ^ 31 := by
  have h2 : 2 ^ lg ≤ 2 ^ 12 := Nat.pow_le_pow_right (by decide) h
  unfold ubN
  split <;> omega
theorem up_ub {k lg v u : Nat} (h : v < lsN k lg) (hu : u < 2 ^ wdN k) : v * 2 ^ wdN k + u < ubN k lg := by
  unfold lsN at h
  unfold ubN
  unfold wdN at hu ⊢
  by_cases q : k = 0
  · rw [if_pos q] at h hu ⊢
    rw [if_pos q]
    omega
  · rw [if_neg q] at h hu ⊢
    rw [if_neg q]
    omega
theorem fl_ok {k lg p P : Nat} {L : List Nat} (hb : ∀ b ∈ L, b < 256) (hlen : L.length = p + P) : ∀ (d v b v' b' : Nat), lsN k lg ≤ v * 2 ^ (wdN k * d) → v < ubN k lg → b ≤ tuN k P → flP k lg L p P d v b = some (v', b') → StOK k lg v' ∧ b ≤ b' ∧ b' ≤ tuN k P ∧ b' ≤ b + d := by
  intro d
  induction d with
  | zero =>
    intro v b v' b' h1 h2 h3 h
    rw [show flP k lg L p P 0 v b = some (v, b) from rfl] at h
    simp only [Option.some.injEq, Prod.mk.injEq] at h
    obtain ⟨rfl, rfl⟩ := h
    rw [Nat.mul_zero, Nat.pow_zero, Nat.mul_one] at h1
    exact ⟨StOK.mk' h1 h2, Nat.le_refl _, h3, by omega⟩
  | succ d ih =>
    intro v b v' b' h1 h2 h3 h
    rw [flP_s] at h
    by_cases q1 : lsN k lg ≤ v
    · rw [if_pos q1] at h
      simp only [Option.some.injEq, Prod.mk.injEq] at h
      obtain ⟨rfl, rfl⟩ := h
      exact ⟨StOK.mk' q1 h2, Nat.le_refl _, h3, by omega⟩
    · rw [if_neg q1] at h
      by_cases q2 : tuN k P ≤ b
      · rw [if_pos q2] at h
        cases h
      · rw [if_neg q2] at h
        have hu := unt_lt (k := k) hb hlen (show b < tuN k P by omega)
        obtain ⟨c1, c2, c3, c4⟩ := ih _ _ v' b' (by
          refine Nat.le_trans h1 ?_
          rw [Nat.mul_succ, Nat.add_comm, Nat.pow_add, ← Nat.mul_assoc]
          exact Nat.mul_le_mul (Nat.le_add_right _ _) (Nat.le_refl _)) (up_ub (by omega) hu) (by omega) h
        exact ⟨c1, by omega, c3, by omega⟩
theorem tn_lt (k i : Nat) : tnN k i < nSN k := by
  unfold tnN nSN
  split <;> omega
theorem lf_pos {k lg w x : Nat} {f : Nat → Nat} (hs : SumOK f lg) (hw : w < 3) (hkw : k ≠ 0 → w = 0) (hx : StOK k lg x) : 1 ≤ lfN k f lg w x ∧ lfN k f lg w x < ubN k lg := by
  obtain ⟨b1, b2, b3, b4⟩ := lf_bd hs hw hkw hx
  by_cases q : k = 0
  · have hp := pcN_lt hx
    have b4' := b4
    unfold smN pcN at b4'
    unfold pcN at hp
    rw [if_pos q] at hp b4'
    have e : lfN k f lg w x = f (sy f lg w (x - 2 ^ lg)) + ctS (sy f lg w) (sy f lg w (x - 2 ^ lg)) (x - 2 ^ lg) := by
      unfold lfN
      rw [if_pos q]
      rfl
    have h1 : ctS (sy f lg w) (sy f lg w (x - 2 ^ lg)) (x - 2 ^ lg) ≤ x - 2 ^ lg := fb_ct_le _ _
    have h2 := (hs.le2 (sy f lg w (x - 2 ^ lg))).1
    unfold ubN
    rw [e, if_pos q]
    omega
  · have e : lfN k f lg w x = f (smN k f lg w x) * (x / 2 ^ lg) + x % 2 ^ lg - fb_sm f (smN k f lg w x) := by
      unfold lfN
      rw [if_neg q]
    have hw0 := hkw q
    have sp := sm_p hs hx
    rw [← hw0] at sp
    have s2 := sp.2.1
    unfold pcN at s2
    rw [if_neg q] at s2
    have hx1 := hx.1
    unfold lsN at hx1
    rw [if_neg q] at hx1
    have h3 : 2 ^ lg ≤ 2 ^ 12 := Nat.pow_le_pow_right (by decide) hs.2.1
    have h4 : 1 ≤ x / 2 ^ lg := (Nat.le_div_iff_mul_le (Nat.two_pow_pos lg)).mpr (by omega)
    have h5 : 1 * 1 ≤ f (smN k f lg w x) * (x / 2 ^ lg) := Nat.mul_le_mul b4 h4
    unfold ubN
    rw [if_neg q]
    refine ⟨?_, b1⟩
    rw [e]
    omega
theorem ls12 {k lg v : Nat} (h : lg ≤ 12) (hv : 1 ≤ v) : lsN k lg ≤ v * 2 ^ (wdN k * 12) := by
  have h2 : 2 ^ lg ≤ 2 ^ 12 := Nat.pow_le_pow_right (by decide) h
  unfold lsN wdN
  by_cases q : k = 0
  · rw [if_pos q, if_pos q]
    omega
  · rw [if_neg q, if_neg q]
    omega
theorem un_s {k lg a p P b : Nat} {L : List Nat} {S : St} (hk : k < 3) (hc : CdC S k lg) (h : Lv S L a) (hp : p ≤ 10000) (hlen : L.length = p + P) (h13 : S 7 13 = nI p) (h14 : S 7 14 = nI P) (h15 : S 7 15 = nI (wdN k * b)) (hb : b ≤ tuN k P) : (tuN k P ≤ b ∧ ∃ S', f_X1_readUnit S = some (0, S') ∧ Dd S' L 5 (p + P) ∧ F7 [6, 7] [] S S') ∨ (b < tuN k P ∧ ∃ S', f_X1_readUnit S = some (nI (unt k L p b), S') ∧ Lv S' L a ∧ S' 7 15 = nI (wdN k * (b + 1)) ∧ F7 [15] [] S S') := by
  have hl4 := h.1.2.1
  have hgo : ∀ t : Int32, (tuN k P ≤ b ∧ t = 0) ∨ (b < tuN k P ∧ t = 1) → ∀ R, f_X1_readUnit_L30 (nI (wdN k)) t S = R → f_X1_readUnit S = R := by
    intro t ht R hR
    unfold f_X1_readUnit
    rw [hc.2.2.2, pin_eq, h14, h15, nI_add, show (8 : Int32) * nI P = nI (8 * P) from pk_mul 8 P]
    unfold tuN at ht
    unfold tuN at hb
    unfold wdN at hR ⊢
    by_cases q : k = 0
    · rw [if_pos q] at ht hb hR ⊢
      rcases ht with ⟨t1, rfl⟩ | ⟨t1, rfl⟩
      · rw [if_pos (by rw [nI_ltI (by omega) (by omega)]; omega)]
        exact hR
      · rw [if_neg (by rw [nI_ltI (by omega) (by omega)]; omega)]
        exact hR
    · rw [if_neg q] at ht hb hR ⊢
      rcases ht with ⟨t1, rfl⟩ | ⟨t1, rfl⟩
      · rw [if_pos (by rw [nI_ltI (by omega) (by omega)]; omega)]
        exact hR
      · rw [if_neg (by rw [nI_ltI (by omega) (by omega)]; omega)]
        exact hR
  by_cases q : tuN k P ≤ b
  · left
    obtain ⟨S2, b1, b2, b3⟩ := dem0 h (r := 5) (q := p + P) (by omega) (by omega)
    refine ⟨q, S2, hgo 0 (Or.inl ⟨q, rfl⟩) _ ?_, b2, b3⟩
    unfold f_X1_readUnit_L30
    rw [h13, h14, nI_add]
    refine e_bd b1 ?_
    exact e_bd (whole0 b2.ne) (by rw [if_pos rfl])
  · right
    have f : F7 [15] [] S (puS S 7 15 (nI (wdN k * (b + 1)))) := F7.rf.p7 (by simp)
    refine ⟨by omega, _, hgo 1 (Or.inr ⟨by omega, rfl⟩) _ ?_, h.of f (by simp) (by simp) (by simp) (by rw [f.2 8 (by simp)]; exact h.2.2.2.2), by rw [puS_s, upd_s], f⟩
    have e15 : nI (wdN k * b) + nI (wdN k) = nI (wdN k * (b + 1)) := by rw [nI_add, Nat.mul_succ]
    unfold f_X1_readUnit_L30
    refine e_bd (dem1 (by decide)) ?_
    refine e_bd (whole1 h.2.2.1) ?_
    rw [if_neg (by decide), h13, h15]
    unfold tuN at q hb
    by_cases q0 : k = 0
    · have w1 : wdN k = 1 := by unfold wdN; rw [if_pos q0]
      rw [if_pos q0] at q hb
      rw [w1, Nat.one_mul] at e15 ⊢
      have hby : L.getD (p + b / 8) 0 < 256 := getD_lt h.1.2.2.1 (by omega)
      rw [nI_mod8 (by omega), nI_div8 (by omega), nI_add, show (8 : Int32) - nI 1 = nI 7 from rfl, pk_sub (by omega), pin_eq]
      refine e_bd (ba_s h.1 h.2.1 _) ?_
      rw [bat_in (by omega) hl4, shr_s (by omega) (by omega), mask_s (by have := Nat.div_le_self (L.getD (p + b / 8) 0) (2 ^ (7 - b % 8)); omega) (by omega), pin_eq, show S 7 15 + nI 1 = nI (1 * (b + 1)) by rw [h15, w1, Nat.one_mul]; exact e15, pin_eq, Nat.pow_one]
      unfold unt
      rw [if_pos q0]
    · have w1 : wdN k = 8 := by unfold wdN; rw [if_neg q0]
      rw [if_neg q0] at q hb
      rw [w1] at e15 ⊢
      have hby : L.getD (p + b) 0 < 256 := getD_lt h.1.2.2.1 (by omega)
      rw [nI_mod8 (by omega), nI_div8 (by omega), nI_add, show (8 : Int32) - nI 8 = nI 0 from rfl, show 8 * b % 8 = 0 by omega, show 8 * b / 8 = b by omega, pk_sub (by omega), pin_eq]
      refine e_bd (ba_s h.1 h.2.1 _) ?_
      rw [bat_in (by omega) hl4, shr_s (by omega) (by omega), Nat.sub_self, Nat.pow_zero, Nat.div_one, mask_s (by omega) (by omega), pin_eq, show S 7 15 + nI 8 = nI (8 * (b + 1)) by rw [h15, w1]; exact e15, pin_eq]
      unfold unt
      rw [if_neg q0, Nat.mod_eq_of_lt (show L.getD (p + b) 0 < 2 ^ 8 from hby)]
theorem un_d {r q : Nat} {L : List Nat} {S : St} (h : Dd S L r q) : f_X1_readUnit S = some (0, S) := by
  have e : ∀ v t, f_X1_readUnit_L30 v t S = some (0, S) := fun v t => by
    unfold f_X1_readUnit_L30
    refine e_bd (demD h _ _ _) ?_
    exact e_bd (whole0 h.ne) (by rw [if_pos rfl])
  unfold f_X1_readUnit
  rw [pin_eq, e, e, ite_self]
theorem add_any (a b : Int32) (S : St) : ∃ S', f_X7_addSymbol 16 a b S = some (0, S') ∧ Fr [17] S S' := by
  refine ⟨_, rfl, ?_⟩
  exact ((((Fr.rf.pu (by simp)).pu (by simp)).pu (by simp)).pu (by simp)).pu (by simp)
theorem s88_d {fu c r q : Nat} {L : List Nat} {S : St} (hc : c < 2) (h : Dd S L r q) (p v3 v4 : Int32) : ∃ S', f_X1_readSymbol_L88 fu p (nI c) v3 v4 S = some (0, S') ∧ Dd S' L r q ∧ F7 [] [17, 18] S S' := by
  obtain ⟨S', a1, a2⟩ := add_any v3 v4 (puS S 18 c v3)
  have f : F7 [] [17, 18] S S' := F7.fr ((Fr.rf.pu (by simp)).tr (a2.mono (by simp))) (by simp)
  refine ⟨S', ?_, h.of f (by simp) (by simp) (by simp), f⟩
  unfold f_X1_readSymbol_L88
  rw [if_neg (nI_in (by omega) (by omega)), nI_clamp (by omega), pin_eq]
  exact e_bd a1 rfl
theorem s46_d {fu c r q : Nat} {p : Int32} {L : List Nat} (hc : c < 2) : ∀ (d j n : Nat) (v3 v4 : Int32) (S : St), j + d = 12 → d < n → Dd S L r q → ∃ S', f_X1_readSymbol_L46 fu p n (nI c) v3 v4 (nI j) S = some (0, S') ∧ Dd S' L r q ∧ F7 [] [17, 18] S S' := by
  intro d
  induction d with
  | zero =>
    intro j n v3 v4 S hj hn h
    obtain ⟨n, rfl⟩ : ∃ e, n = e + 1 := ⟨n - 1, by omega⟩
    obtain ⟨S', a1, a2, a3⟩ := s88_d (fu := fu) hc h p v3 v4
    refine ⟨S', ?_, a2, a3⟩
    rw [f_X1_readSymbol_L46_s, if_pos (show (12 : Int32) ≤ nI j by rw [show (12 : Int32) = nI 12 from rfl, nI_leI (by omega) (by omega)]; omega)]
    exact a1
  | succ d ih =>
    intro j n v3 v4 S hj hn h
    obtain ⟨n, rfl⟩ : ∃ e, n = e + 1 := ⟨n - 1, by omega⟩
    by_cases e : S 8 3 ≤ v3
    · obtain ⟨S', a1, a2, a3⟩ := s88_d (fu := fu) hc h p v3 v4
      refine ⟨S', ?_, a2, a3⟩
      rw [f_X1_readSymbol_L46_s, if_neg (show ¬ (12 : Int32) ≤ nI j by rw [show (12 : Int32) = nI 12 from rfl, nI_leI (by omega) (by omega)]; omega), if_pos e]
      exact a1
    · obtain ⟨S', a1, a2, a3⟩ := ih (j + 1) n ((v3 <<< ((S 8 4) &&& 31)) ||| 0) (v4 + 1) S (by omega) (by omega) h
      refine ⟨S', ?_, a2, a3⟩
      rw [f_X1_readSymbol_L46_s, if_neg (show ¬ (12 : Int32) ≤ nI j by rw [show (12 : Int32) = nI 12 from rfl, nI_leI (by omega) (by omega)]; omega), if_neg e]
      refine e_bd (un_d h) ?_
      rw [pin_eq, pin_eq, nI_1, pin_eq]
      exact a1
theorem sh_or {k lg v u : Nat} (h : v < lsN k lg) (hl : lg ≤ 12) (hu : u < 2 ^ wdN k) : (nI v <<< (nI (wdN k) &&& 31)) ||| nI u = nI (v * 2 ^ wdN k + u) := by
  have hls := lsN_bd (k := k) hl
  have hw : wdN k ≤ 8 := by unfold wdN; split <;> omega
  have h2 : 2 ^ wdN k ≤ 2 ^ 8 := Nat.pow_le_pow_right (by decide) hw
  have h3 : v * 2 ^ wdN k ≤ v * 2 ^ 8 := Nat.mul_le_mul (Nat.le_refl _) h2
  rw [pk_shlN _ (wdN k) (s_l (wdN k) (by omega)) (by omega), Nat.mul_comm, fa_or_sum (k := wdN k) v hu]
theorem s46_s {fu k lg c a p P : Nat} {i : Int32} {L : List Nat} (hk : k < 3) (hl : lg ≤ 12) (hc2 : c < 2) (hp : p ≤ 10000) (hlen : L.length = p + P) : ∀ (d j n v u b : Nat) (S : St), j + d = 12 → d < n → v < ubN k lg → b ≤ tuN k P → CdC S k lg → Lv S L a → S 7 13 = nI p → S 7 14 = nI P → S 7 15 = nI (wdN k * b) → (flP k lg L p P d v b = none → ∃ S', f_X1_readSymbol_L46 fu i n (nI c) (nI v) (nI u) (nI j) S = some (0, S') ∧ Dd S' L 5 (p + P) ∧ F7 [6, 7, 15] [17, 18] S S') ∧ (∀ v' b', flP k lg L p P d v b = some (v', b') → ∃ S', f_X1_readSymbol_L46 fu i n (nI c) (nI v) (nI u) (nI j) S = f_X1_readSymbol_L88 fu i (nI c) (nI v') (nI (u + (b' - b))) S' ∧ Lv S' L a ∧ S' 7 15 = nI (wdN k * b') ∧ F7 [15] [] S S' ∧ b ≤ b') := by
  have hls := lsN_bd (k := k) hl
  have hub := ub_bd (k := k) hl
  intro d
  induction d with
  | zero =>
    intro j n v u b S hj hn hv hb hc h h13 h14 h15
    obtain ⟨n, rfl⟩ : ∃ e, n = e + 1 := ⟨n - 1, by omega⟩
    refine ⟨fun q => (by cases q), fun v' b' q => ?_⟩
    rw [show flP k lg L p P 0 v b = some (v, b) from rfl] at q
    simp only [Option.some.injEq, Prod.mk.injEq] at q
    obtain ⟨rfl, rfl⟩ := q
    refine ⟨S, ?_, h, h15, F7.rf, Nat.le_refl _⟩
    rw [f_X1_readSymbol_L46_s, if_pos (show (12 : Int32) ≤ nI j by rw [show (12 : Int32) = nI 12 from rfl, nI_leI (by omega) (by omega)]; omega), Nat.sub_self, Nat.add_zero]
  | succ d ih =>
    intro j n v u b S hj hn hv hb hc h h13 h14 h15
    obtain ⟨n, rfl⟩ : ∃ e, n = e + 1 := ⟨n - 1, by omega⟩
    have hj12 : ¬ (12 : Int32) ≤ nI j := by rw [show (12 : Int32) = nI 12 from rfl, nI_leI (by omega) (by omega)]; omega
    rw [flP_s]
    by_cases q1 : lsN k lg ≤ v
    · rw [if_pos q1]
      refine ⟨fun q => (by cases q), fun v' b' q => ?_⟩
      simp only [Option.some.injEq, Prod.mk.injEq] at q
      obtain ⟨rfl, rfl⟩ := q
      refine ⟨S, ?_, h, h15, F7.rf, Nat.le_refl _⟩
      rw [f_X1_readSymbol_L46_s, if_neg hj12, hc.2.2.1, if_pos (nI_le q1 (by omega)), Nat.sub_self, Nat.add_zero]
    · rw [if_neg q1]
      have hgo : ∀ R, (bnd (f_X1_readUnit S) fun r21 S22 => pin ((nI v <<< (nI (wdN k) &&& 31)) ||| r21) fun x24 => f_X1_readSymbol_L46 fu i n (nI c) x24 (nI (u + 1)) (nI (j + 1)) S22) = R → f_X1_readSymbol_L46 fu i (n + 1) (nI c) (nI v) (nI u) (nI j) S = R := by
        intro R hR
        rw [f_X1_readSymbol_L46_s, if_neg hj12, hc.2.2.1, if_neg (by rw [nI_leI (by omega) (by omega)]; omega), hc.2.2.2]
        simp only [nI_1, pin_eq]
        exact hR
      rcases un_s hk hc h hp hlen h13 h14 h15 hb with ⟨u0, S1, u1, u2, u3⟩ | ⟨u0, S1, u1, u2, u3, u4⟩
      · rw [if_pos u0]
        refine ⟨fun _ => ?_, fun v' b' q => (by cases q)⟩
        obtain ⟨S', a1, a2, a3⟩ := s46_d (fu := fu) (p := i) hc2 d (j + 1) n ((nI v <<< (nI (wdN k) &&& 31)) ||| 0) (nI (u + 1)) S1 (by omega) (by omega) u2
        refine ⟨S', hgo _ ?_, a2, (u3.mono (by simp) (by simp)).tr (a3.mono (by simp) (by simp))⟩
        refine e_bd u1 ?_
        rw [pin_eq]
        exact a1
      · rw [if_neg (by omega)]
        have hu := unt_lt (k := k) h.1.2.2.1 hlen u0
        obtain ⟨i1, i2⟩ := ih (j + 1) n (v * 2 ^ wdN k + unt k L p b) (u + 1) (b + 1) S1 (by omega) (by omega) (up_ub (by omega) hu) (by omega) (hc.ofc (u4.c (by simp))) u2 (by rw [u4.2 13 (by simp)]; exact h13) (by rw [u4.2 14 (by simp)]; exact h14) u3
        have hgo2 : ∀ R, f_X1_readSymbol_L46 fu i n (nI c) (nI (v * 2 ^ wdN k + unt k L p b)) (nI (u + 1)) (nI (j + 1)) S1 = R → f_X1_readSymbol_L46 fu i (n + 1) (nI c) (nI v) (nI u) (nI j) S = R := fun R hR => hgo R (by
          refine e_bd u1 ?_
          rw [sh_or (by omega) hl hu, pin_eq]
          exact hR)
        refine ⟨fun q => ?_, fun v' b' q => ?_⟩
        · obtain ⟨S', a1, a2, a3⟩ := i1 q
          exact ⟨S', hgo2 _ a1, a2, (u4.mono (by simp) (by simp)).tr a3⟩
        · obtain ⟨S', a1, a2, a3, a4, a5⟩ := i2 v' b' q
          refine ⟨S', hgo2 _ ?_, a2, a3, u4.tr a4, by omega⟩
          rw [a1, show u + 1 + (b' - (b + 1)) = u + (b' - b) by omega]
