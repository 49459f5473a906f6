/-! unpack: sizes, states and the payload's place, in the reference -/
theorem N43.mono {js js' : List Nat} {M M' : St} (h : N43 js M M') (h1 : ∀ j ∈ js, j ∈ js') : N43 js' M M' := ⟨h.1, fun j hj => h.2 j (fun q => hj (h1 j q))⟩
def rdK2 (fu : Nat) (S29 : St) : Option (Int32 × St) :=
                  pin (S29 43 27) fun x32 =>
                  bnd (f_X9_number fu (2 : Int32) S29) fun r33 S34 =>
                  if 0 ≤ (lg_cmp r33 (0 : Int64)) then
                    if (lg_cmp r33 (1400 : Int64)) ≤ 0 then
                      pin (puS S34 43 30 ((r33).toInt32)) fun S38 =>
                      bnd (f_X9_number fu (2 : Int32) S38) fun r39 S40 =>
                      if 0 ≤ (lg_cmp r39 (0 : Int64)) then
                        pin (puS S40 43 32 ((r39).toInt32)) fun S43 =>
                        pin (puS S43 43 33 (S43 43 27)) fun S44 =>
                        f_X9_reads_L209 fu    fu (0 : Int32) S44
                      else
                        some ((0 : Int32), S40)
                    else
                      bnd (f_X9_fails (2 : Int32) x32 S34) fun r86 S87 =>
                      if (r86 = 0 ∨ r86 = 1) then some (r86, S87) else none
                  else
                    some ((0 : Int32), S34)
theorem rdK1_eq {fu : Nat} {S : St} : rdK1 fu S = bnd (f_X9_readsShares fu S) fun r28 S29 => if r28 = 0 then some ((0 : Int32), S29) else rdK2 fu S29 := rfl
theorem sizesM_s {fu a : Nat} {L : List Nat} {M : St} (hfu : 20000 ≤ fu) (ha : a ≤ 10000) (hl4 : L.length ≤ 4000) (hby : ∀ b ∈ L, b < 256) (h27 : M 43 27 = nI a) (hR : RowM M 44 1 L) :
    (∀ r q, SzF L a r q → ∃ M', rdK2 fu M = some (0, fauM M' r q) ∧ N43 [27, 30, 32, 33] M M') ∧ (a + 4 ≤ L.length → numN L a 2 ≤ 1400 → ∃ M', rdK2 fu M = f_X9_reads_L209 fu fu (nI 0) M' ∧ M' 43 27 = nI (a + 4) ∧ M' 43 30 = nI (numN L a 2) ∧ M' 43 32 = nI (numN L (a + 2) 2) ∧ M' 43 33 = nI (a + 4) ∧ N43 [27, 30, 32, 33] M M') := by
  obtain ⟨s1, s2⟩ := numM_s (k := 2) hfu (by omega) (by omega) hl4 hby h27 hR
  obtain ⟨M1, e1⟩ : ∃ z, z = puS M 43 27 (nI (a + 2)) := ⟨_, rfl⟩
  have n1 : N43 [27, 30, 32, 33] M M1 := by rw [e1]; exact N43.rf.pu (by simp)
  obtain ⟨M2, e2⟩ : ∃ z, z = puS M1 43 30 (nI (numN L a 2)) := ⟨_, rfl⟩
  have n2 : N43 [27, 30, 32, 33] M M2 := by rw [e2]; exact n1.pu (by simp)
  have h272 : M2 43 27 = nI (a + 2) := by rw [e2, puS_s, upd_n (by decide), e1, puS_s, upd_s]
  obtain ⟨s3, s4⟩ := numM_s (k := 2) hfu (by omega) (by omega) hl4 hby h272 (n2.row (by simp) hR)
  rw [← e1] at s2
  obtain ⟨M3, e3⟩ : ∃ z, z = puS M2 43 27 (nI (a + 2 + 2)) := ⟨_, rfl⟩
  have n3 : N43 [27, 30, 32, 33] M M3 := by rw [e3]; exact n2.pu (by simp)
  rw [← e3] at s4
  have g0 : ∀ R, a + 2 ≤ L.length → numN L a 2 ≤ 1400 → (bnd (f_X9_number fu (2 : Int32) M2) fun r39 S40 => if 0 ≤ (lg_cmp r39 (0 : Int64)) then pin (puS S40 43 32 ((r39).toInt32)) fun S43 => pin (puS S43 43 33 (S43 43 27)) fun S44 => f_X9_reads_L209 fu fu (0 : Int32) S44 else some ((0 : Int32), S40)) = R → rdK2 fu M = R := by
    intro R h hN hR'
    unfold rdK2
    rw [pin_eq]
    refine e_bd (s2 h) ?_
    rw [if_pos (l_nn (by omega)), if_pos (show lg_cmp (lN (numN L a 2)) (1400 : Int64) ≤ 0 from (l_le (b := 1400) (by omega) (by omega)).mpr hN), lN_i, pin_eq, ← e2]
    exact hR'
  refine ⟨fun r q hF => ?_, fun h4 hN => ?_⟩
  · rcases hF with ⟨c1, rfl, rfl⟩ | ⟨c1, c2, rfl, hq⟩ | ⟨c1, c2, c3, rfl, rfl⟩
    · refine ⟨M, ?_, N43.rf⟩
      unfold rdK2
      rw [pin_eq]
      refine e_bd (s1 c1) ?_
      rw [if_neg ng1]
    · have hg := num2_lt hby c1
      rw [hq]
      refine ⟨M1, ?_, n1⟩
      unfold rdK2
      rw [pin_eq]
      refine e_bd (s2 c1) ?_
      rw [if_pos (l_nn (by omega)), if_neg (show ¬ lg_cmp (lN (numN L a 2)) (1400 : Int64) ≤ 0 from fun c => by have := (l_le (b := 1400) (by omega) (by omega)).mp c; omega), h27]
      exact fail_r
    · refine ⟨M2, g0 _ c1 c2 ?_, n2⟩
      refine e_bd (s3 (by omega)) ?_
      rw [if_neg ng1]
  · have hg := num2_lt hby (a := a + 2) (by omega)
    obtain ⟨M4, e4⟩ : ∃ z, z = puS M3 43 32 (nI (numN L (a + 2) 2)) := ⟨_, rfl⟩
    have n4 : N43 [27, 30, 32, 33] M M4 := by rw [e4]; exact n3.pu (by simp)
    have h274 : M4 43 27 = nI (a + 4) := by rw [e4, puS_s, upd_n (by decide), e3, puS_s, upd_s]
    refine ⟨puS M4 43 33 (nI (a + 4)), g0 _ (by omega) hN ?_, by rw [puS_s, upd_n (by decide)]; exact h274, ?_, ?_, by rw [puS_s, upd_s], n4.pu (by simp)⟩
    · refine e_bd (s4 (by omega)) ?_
      rw [if_pos (l_nn (by omega)), lN_i, pin_eq, ← e4, h274, pin_eq]
      rfl
    · rw [puS_s, upd_n (by decide), e4, puS_s, upd_n (by decide), e3, puS_s, upd_n (by decide), e2, puS_s, upd_s]
    · rw [puS_s, upd_n (by decide), e4, puS_s, upd_s]
/-! the states -/
def rdPay (fu : Nat) (S : St) : Option (Int32 × St) :=
    pin (puS S 43 31 (S 43 27)) fun S47 =>
    if ((S47 43 27) + (S47 43 32)) ≤ (S47 43 1) then
      if (S47 43 1) ≤ ((S47 43 27) + (S47 43 32)) then
        bnd (f_X9_begin fu (6 : Int32) S47) fun r50 S51 =>
        bnd (f_X9_lay fu (6 : Int32) (S51 43 29) S51) fun r53 S54 =>
        bnd (f_X9_readsMessage fu  S54) fun r56 S57 =>
        if (r56 = 0 ∨ r56 = 1) then some (r56, S57) else none
      else
        bnd (f_X9_fails (8 : Int32) ((S47 43 27) + (S47 43 32)) S47) fun r60 S61 =>
        if (r60 = 0 ∨ r60 = 1) then some (r60, S61) else none
    else
      bnd (f_X9_fails (1 : Int32) (S47 43 1) S47) fun r64 S65 =>
      if (r64 = 0 ∨ r64 = 1) then some (r64, S65) else none
def rdSt (fu : Nat) (K209 : Int32 → St → Option (Int32 × St)) (v4 : Int32) (S : St) : Option (Int32 × St) :=
    pin (S 43 27) fun x68 =>
    if (S 43 28) = 0 then
      f_X9_reads_L245 fu  K209  x68 v4 (2 : Int32) S
    else
      f_X9_reads_L245 fu  K209  x68 v4 (4 : Int32) S
theorem l209_eq {fu k n i : Nat} {M : St} (hk : k < 3) (hi : i ≤ 2) (h28 : M 43 28 = nI k) : f_X9_reads_L209 fu (n + 1) (nI i) M = if nSN k ≤ i then rdPay fu M else rdSt fu (f_X9_reads_L209 fu n) (nI i) M := by
  rw [f_X9_reads_L209_s, h28]
  have e : ∀ c, c ≤ 2 → f_X9_reads_L224 fu (f_X9_reads_L209 fu n) (nI i) (nI c) (nI i) M = if c ≤ i then rdPay fu M else rdSt fu (f_X9_reads_L209 fu n) (nI i) M := fun c hc => by
    show (if nI c ≤ nI i then rdPay fu M else rdSt fu (f_X9_reads_L209 fu n) (nI i) M) = _
    by_cases q : c ≤ i
    · rw [if_pos q, if_pos (nI_le q (by omega))]
    · rw [if_neg q, if_neg (by rw [nI_leI (by omega) (by omega)]; exact q)]
  unfold nSN
  by_cases q : k = 2
  · rw [if_pos (by rw [q]; rfl), if_pos q]
    exact e 2 (by omega)
  · rw [if_neg (show ¬ nI k = (2 : Int32) from fun c => q (nI_small (b := 2) (by omega) (by omega) c)), if_neg q]
    exact e 1 (by omega)
def H58 (M M' : St) : Prop := Fr [43, 58] M M' ∧ ∀ j, j ≠ 27 → M' 43 j = M 43 j
theorem H58.rf {M : St} : H58 M M := ⟨Fr.rf, fun _ _ => rfl⟩
theorem H58.tr {M M1 M2 : St} (h1 : H58 M M1) (h2 : H58 M1 M2) : H58 M M2 := ⟨h1.1.tr h2.1, fun j hj => (h2.2 j hj).trans (h1.2 j hj)⟩
theorem l245_eq {fu k lg i a : Nat} {K : Int32 → St → Option (Int32 × St)} {M : St} (hk : k < 3) (h27 : M 43 27 = nI a) (h28 : M 43 28 = nI k) : rdSt fu K (nI i) M = f_X9_reads_L245 fu K (nI a) (nI i) (nI (sbN k)) M := by
  unfold rdSt sbN
  rw [pin_eq, h27, h28]
  by_cases q : k = 0
  · rw [if_pos (by rw [q]; rfl), if_pos q]; rfl
  · rw [if_neg (nI_ne0 (by omega) (by omega)), if_neg q]; rfl
theorem l1shl {lg : Nat} (h : lg ≤ 12) : ((1 : Int64) <<< ((nI lg).toInt64 &&& 63)) = lN (2 ^ lg) := by
  rw [show (1 : Int64) = lN 1 from rfl, wb_shl 1 (by omega), Nat.one_mul]
theorem L8388608 : (8388608 : Int64) = lN 8388608 := by decide +kernel
theorem L2147483647 : (2147483647 : Int64) = lN 2147483647 := by decide +kernel
theorem stM_step {fu k lg a i : Nat} {K : Int32 → St → Option (Int32 × St)} {L : List Nat} {M : St} (hfu : 20000 ≤ fu) (hk : k < 3) (hl : lg ≤ 12) (ha : a + i * sbN k ≤ 20000) (hi : i < 2) (hl4 : L.length ≤ 4000) (hby : ∀ b ∈ L, b < 256) (h27 : M 43 27 = nI (a + i * sbN k)) (h28 : M 43 28 = nI k) (h46 : M 46 6 = nI lg) (hR : RowM M 44 1 L) :
    (L.length < a + i * sbN k + sbN k → rdSt fu K (nI i) M = some (0, fauM M 1 L.length)) ∧ (a + i * sbN k + sbN k ≤ L.length → ¬ StOK k lg (vN k lg L a i) → rdSt fu K (nI i) M = some (0, fauM (puS M 43 27 (nI (a + i * sbN k + sbN k))) 4 (a + i * sbN k))) ∧ (a + i * sbN k + sbN k ≤ L.length → StOK k lg (vN k lg L a i) → rdSt fu K (nI i) M = K (nI (i + 1)) (puS (puS M 43 27 (nI (a + i * sbN k + sbN k))) 58 i (nI (vN k lg L a i)))) := by
  have hsb := sbN_bd k
  have hp12 : 2 ^ lg ≤ 2 ^ 12 := Nat.pow_le_pow_right (by decide) hl
  obtain ⟨s1, s2⟩ := numM_s (k := sbN k) hfu (by omega) (by omega) hl4 hby h27 hR
  obtain ⟨M1, e1⟩ : ∃ z, z = puS M 43 27 (nI (a + i * sbN k + sbN k)) := ⟨_, rfl⟩
  rw [← e1] at s2
  rw [l245_eq (lg := lg) hk h27 h28, ← e1]
  have k28 : M1 43 28 = nI k := by rw [e1, puS_s, upd_n (by decide)]; exact h28
  have k46 : M1 46 6 = nI lg := by rw [e1, puS_n (by decide)]; exact h46
  have h297 : f_X9_reads_L297 fu (nI (a + i * sbN k)) M1 = some (0, fauM M1 4 (a + i * sbN k)) := by
    unfold f_X9_reads_L297
    exact fail_r
  have hnum : a + i * sbN k + sbN k ≤ L.length → numN L (a + i * sbN k) (sbN k) < 2 ^ 32 := fun h => by
    have h1 := num_lt hby (sbN k) h
    have h2 : 256 ^ sbN k ≤ 256 ^ 4 := Nat.pow_le_pow_right (by decide) hsb.2
    omega
  have hput : ∀ v, f_X9_reads_L334 fu K (nI i) (nI v) (nI i) M1 = K (nI (i + 1)) (puS M1 58 i (nI v)) := fun v => by
    unfold f_X9_reads_L334
    rw [if_neg (nI_in (by omega) (by omega)), nI_clamp (by omega), pin_eq, nI_1, pin_eq]
  have hgo : ∀ R, a + i * sbN k + sbN k ≤ L.length → (if nI k = 0 then if lg_cmp (lN (numN L (a + i * sbN k) (sbN k))) (lN (2 ^ lg)) < 0 then f_X9_reads_L304 fu K (lN (numN L (a + i * sbN k) (sbN k))) (nI i) M1 else some (0, fauM M1 4 (a + i * sbN k)) else if lg_cmp (lN (numN L (a + i * sbN k) (sbN k))) (lN 8388608) < 0 then some (0, fauM M1 4 (a + i * sbN k)) else if lg_cmp (lN (numN L (a + i * sbN k) (sbN k))) (lN 2147483647) ≤ 0 then f_X9_reads_L304 fu K (lN (numN L (a + i * sbN k) (sbN k))) (nI i) M1 else some (0, fauM M1 4 (a + i * sbN k))) = R → f_X9_reads_L245 fu K (nI (a + i * sbN k)) (nI i) (nI (sbN k)) M = R := by
    intro R h hR'
    have h0 := hnum h
    unfold f_X9_reads_L245
    refine e_bd (s2 h) ?_
    rw [if_pos (l_nn (by omega)), k28, k46, l1shl hl, h297, L8388608, L2147483647]
    exact hR'
  refine ⟨fun h => ?_, fun h hO => hgo _ h ?_, fun h hO => hgo _ h ?_⟩
  · unfold f_X9_reads_L245
    refine e_bd (s1 h) ?_
    rw [if_neg ng1]
  · have h0 := hnum h
    unfold StOK lsN vN baN at hO
    by_cases q : k = 0
    · rw [if_pos q, if_pos q, if_pos q] at hO
      rw [if_pos (by rw [q]; rfl), if_neg (fun c => by have := (l_lt (by omega) (by omega)).mp c; omega)]
    · rw [if_neg q, if_neg q, if_neg q, Nat.zero_add] at hO
      rw [if_neg (nI_ne0 (by omega) (by omega))]
      by_cases r : numN L (a + i * sbN k) (sbN k) < 8388608
      · rw [if_pos (show lg_cmp (lN (numN L (a + i * sbN k) (sbN k))) (lN 8388608) < 0 from (l_lt (b := 8388608) (by omega) (by omega)).mpr r)]
      · rw [if_neg (show ¬ lg_cmp (lN (numN L (a + i * sbN k) (sbN k))) (lN 8388608) < 0 from fun c => r ((l_lt (b := 8388608) (by omega) (by omega)).mp c)), if_neg (show ¬ lg_cmp (lN (numN L (a + i * sbN k) (sbN k))) (lN 2147483647) ≤ 0 from fun c => by have := (l_le (b := 2147483647) (by omega) (by omega)).mp c; omega)]
  · have h0 := hnum h
    unfold StOK lsN at hO
    by_cases q : k = 0
    · have ev : vN k lg L a i = 2 ^ lg + numN L (a + i * sbN k) (sbN k) := by unfold vN baN; rw [if_pos q]
      rw [if_pos q, if_pos q, ev] at hO
      rw [if_pos (by rw [q]; rfl), if_pos ((l_lt (by omega) (by omega)).mpr (by omega))]
      unfold f_X9_reads_L304
      rw [k28, if_pos (by rw [q]; rfl), k46, show (1 : Int32) <<< (nI lg &&& 31) = nI (2 ^ lg) from shl1 hl, lN_i, nI_add, Nat.add_comm, ← ev]
      exact hput _
    · have ev : vN k lg L a i = numN L (a + i * sbN k) (sbN k) := by unfold vN baN; rw [if_neg q, Nat.zero_add]
      rw [if_neg q, if_neg q, ev] at hO
      rw [if_neg (nI_ne0 (by omega) (by omega)), if_neg (show ¬ lg_cmp (lN (numN L (a + i * sbN k) (sbN k))) (lN 8388608) < 0 from fun c => by have := (l_lt (b := 8388608) (by omega) (by omega)).mp c; omega), if_pos (show lg_cmp (lN (numN L (a + i * sbN k) (sbN k))) (lN 2147483647) ≤ 0 from (l_le (b := 2147483647) (by omega) (by omega)).mpr (by omega))]
      unfold f_X9_reads_L304
      rw [k28, if_neg (nI_ne0 (by omega) (by omega)), lN_i, ← ev]
      exact hput _
theorem stM_loop {fu k lg a : Nat} {L : List Nat} (hfu : 20000 ≤ fu) (hk : k < 3) (hl : lg ≤ 12) (ha : a ≤ 10000) (hl4 : L.length ≤ 4000) (hby : ∀ b ∈ L, b < 256) : ∀ (d i n : Nat) (M : St), i + d = nSN k → d < n → M 43 27 = nI (a + i * sbN k) → M 43 28 = nI k → M 46 6 = nI lg → RowM M 44 1 L → (∀ j, j < i → M 58 j = nI (vN k lg L a j)) → (∀ r q, StF L k lg a i r q → ∃ M', f_X9_reads_L209 fu n (nI i) M = some (0, fauM M' r q) ∧ H58 M M') ∧ (StK L k lg a i → ∃ M', f_X9_reads_L209 fu n (nI i) M = rdPay fu M' ∧ M' 43 27 = nI (a + nSN k * sbN k) ∧ (∀ j, j < nSN k → M' 58 j = nI (vN k lg L a j)) ∧ H58 M M') := by
  have hn := nSN_bd k
  have hsb := sbN_bd k
  intro d
  induction d with
  | zero =>
    intro i n M hi hm h27 h28 h46 hR h58
    obtain ⟨n, rfl⟩ : ∃ e, n = e + 1 := ⟨n - 1, by omega⟩
    have : i = nSN k := by omega
    subst this
    refine ⟨fun r q ⟨j, j1, j2, _⟩ => by omega, fun _ => ⟨M, ?_, h27, h58, H58.rf⟩⟩
    rw [l209_eq hk (by omega) h28, if_pos (Nat.le_refl _)]
  | succ d ih =>
    intro i n M hi hm h27 h28 h46 hR h58
    obtain ⟨n, rfl⟩ : ∃ e, n = e + 1 := ⟨n - 1, by omega⟩
    have hi4 : i * sbN k ≤ 8 := Nat.le_trans (Nat.mul_le_mul (show i ≤ 2 by omega) hsb.2) (by decide)
    obtain ⟨t1, t2, t3⟩ := stM_step (K := f_X9_reads_L209 fu n) (i := i) hfu hk hl (by omega) (by omega) hl4 hby h27 h28 h46 hR
    have hgo : ∀ R, rdSt fu (f_X9_reads_L209 fu n) (nI i) M = R → f_X9_reads_L209 fu (n + 1) (nI i) M = R := fun R hR' => by
      rw [l209_eq hk (by omega) h28, if_neg (by omega)]
      exact hR'
    obtain ⟨M1, e1⟩ : ∃ z, z = puS M 43 27 (nI (a + i * sbN k + sbN k)) := ⟨_, rfl⟩
    have n1 : H58 M M1 := by rw [e1]; exact ⟨Fr.rf.pu (by simp), fun j hj => by rw [puS_s, upd_n hj]⟩
    obtain ⟨M2, e2⟩ : ∃ z, z = puS M1 58 i (nI (vN k lg L a i)) := ⟨_, rfl⟩
    have n2 : H58 M M2 := by rw [e2]; exact ⟨n1.1.pu (by simp), fun j hj => by rw [puS_n (by decide)]; exact n1.2 j hj⟩
    rw [← e1] at t2 t3
    rw [← e2] at t3
    obtain ⟨u1, u2⟩ := ih (i + 1) n M2 (by omega) (by omega) (by rw [e2, puS_n (by decide), e1, puS_s, upd_s, Nat.succ_mul, Nat.add_assoc]) (by rw [n2.2 28 (by decide)]; exact h28) (by rw [n2.1 46 (by decide)]; exact h46) (hR.of (n2.2 1 (by decide)) (n2.1 44 (by decide))) (fun j hj => by
      rw [e2, puS_s]
      by_cases q : j = i
      · rw [q, upd_s]
      · rw [upd_n q, e1, puS_n (by decide)]
        exact h58 j (by omega))
    refine ⟨fun r q hF => ?_, fun hK => ?_⟩
    · obtain ⟨j, j1, j2, j3, j4⟩ := hF
      by_cases qj : j = i
      · subst qj
        rcases j4 with ⟨c1, rfl, rfl⟩ | ⟨c1, c2, rfl, rfl⟩
        · exact ⟨M, hgo _ (t1 c1), H58.rf⟩
        · exact ⟨M1, hgo _ (t2 c1 c2), n1⟩
      · obtain ⟨c1, c2⟩ := j3 i (Nat.le_refl _) (by omega)
        obtain ⟨M', v1, v2⟩ := u1 r q ⟨j, by omega, j2, fun e e1 e2 => j3 e (by omega) e2, j4⟩
        exact ⟨M', hgo _ ((t3 c1 c2).trans v1), n2.tr v2⟩
    · obtain ⟨c1, c2⟩ := hK i (Nat.le_refl _) (by omega)
      obtain ⟨M', v1, v2, v3, v4⟩ := u2 (fun j j1 j2 => hK j (by omega) j2)
      exact ⟨M', hgo _ ((t3 c1 c2).trans v1), v2, v3, n2.tr v4⟩
theorem payM_s {fu p P : Nat} {L : List Nat} {M : St} (hp : p ≤ 20000) (hP : P < 65536) (hl4 : L.length ≤ 4000) (h27 : M 43 27 = nI p) (h32 : M 43 32 = nI P) (hR : RowM M 44 1 L) : (∀ r q, PlF L p P r q → rdPay fu M = some (0, fauM (puS M 43 31 (nI p)) r q)) ∧ (L.length = p + P → rdPay fu M = bnd (f_X9_begin fu (6 : Int32) (puS M 43 31 (nI p))) fun r50 S51 => bnd (f_X9_lay fu (6 : Int32) (S51 43 29) S51) fun r53 S54 => bnd (f_X9_readsMessage fu S54) fun r56 S57 => if (r56 = 0 ∨ r56 = 1) then some (r56, S57) else none) := by
  obtain ⟨M1, e1⟩ : ∃ z, z = puS M 43 31 (nI p) := ⟨_, rfl⟩
  have k27 : M1 43 27 = nI p := by rw [e1, puS_s, upd_n (by decide)]; exact h27
  have k32 : M1 43 32 = nI P := by rw [e1, puS_s, upd_n (by decide)]; exact h32
  have k1 : M1 43 1 = nI L.length := by rw [e1, puS_s, upd_n (by decide)]; exact hR.1
  rw [← e1]
  refine ⟨fun r q hF => ?_, fun h => ?_⟩
  · unfold rdPay
    rw [h27, pin_eq, ← e1, k27, k32, k1, nI_add]
    rcases hF with ⟨c1, rfl, rfl⟩ | ⟨c1, rfl, rfl⟩
    · rw [if_neg (by rw [nI_leI (by omega) (by omega)]; omega)]
      exact fail_r
    · rw [if_pos (nI_le (by omega) (by omega)), if_neg (by rw [nI_leI (by omega) (by omega)]; omega)]
      exact fail_r
  · unfold rdPay
    rw [h27, pin_eq, ← e1, k27, k32, k1, nI_add, if_pos (nI_le (by omega) (by omega)), if_pos (nI_le (by omega) (by omega))]
