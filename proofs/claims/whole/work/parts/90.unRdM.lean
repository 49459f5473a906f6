/-! unpack: how the reference reads -/
theorem l_ge {a b : Nat} (ha : a < 2 ^ 62) (hb : b < 2 ^ 62) : 0 ≤ lg_cmp (lN a) (lN b) ↔ b ≤ a := by
  rw [lg_cmp_ge, fa_le64, pf_lI (by omega), pf_lI (by omega)]
  omega
theorem l_le {a b : Nat} (ha : a < 2 ^ 62) (hb : b < 2 ^ 62) : lg_cmp (lN a) (lN b) ≤ 0 ↔ a ≤ b := by
  rw [lg_cmp_le, fa_le64, pf_lI (by omega), pf_lI (by omega)]
  omega
theorem l_gt {a b : Nat} (ha : a < 2 ^ 62) (hb : b < 2 ^ 62) : 0 < lg_cmp (lN a) (lN b) ↔ b < a := by
  rw [lg_cmp_gt, fa_lt64, pf_lI (by omega), pf_lI (by omega)]
  omega
theorem l_eq {a b : Nat} (ha : a < 2 ^ 62) (hb : b < 2 ^ 62) : lg_cmp (lN a) (lN b) = 0 ↔ a = b := by
  rw [lg_cmp_eq]
  constructor
  · intro h
    have h2 := congrArg Int64.toInt h
    rw [pf_lI (by omega), pf_lI (by omega)] at h2
    omega
  · intro h; rw [h]
theorem l_nn {a : Nat} (ha : a < 2 ^ 62) : 0 ≤ lg_cmp (lN a) (0 : Int64) := (l_ge (b := 0) ha (by decide)).mpr (Nat.zero_le _)
theorem or8L {v b : Nat} (hv : v < 2 ^ 40) (hb : b < 256) : (lN v <<< (((8 : Int32)).toInt64 &&& 63)) ||| (nI b).toInt64 = lN (v * 256 + b) := by
  rw [show ((8 : Int32)) = nI 8 from rfl, wb_shl v (by decide), nI_l (by omega), wb_or (by omega) (by omega)]
  congr 1
  rw [Nat.mul_comm]
  exact (Nat.two_pow_add_eq_or_of_lt (i := 8) hb v).symm
theorem numM_loop {fu k a : Nat} {p : Int32} {L : List Nat} {M : St} (hk : k ≤ 4) (hl : a + k ≤ L.length) (hl4 : L.length ≤ 4000) (hby : ∀ b ∈ L, b < 256) (h27 : M 43 27 = nI a) (hR : RowM M 44 1 L) : ∀ (d i n : Nat), i + d = k → d < n → f_X9_number_L32 fu p n (nI k) (lN (numN L a i)) (nI i) M = some (lN (numN L a k), puS M 43 27 (nI (a + k))) := by
  intro d
  induction d with
  | zero =>
    intro i n hi hn
    obtain ⟨n, rfl⟩ : ∃ m, n = m + 1 := ⟨n - 1, by omega⟩
    have : i = k := by omega
    subst this
    rw [f_X9_number_L32_s, if_pos (nI_le (Nat.le_refl _) (by omega)), h27, nI_add, pin_eq]
  | succ d ih =>
    intro i n hi hn
    obtain ⟨n, rfl⟩ : ∃ m, n = m + 1 := ⟨n - 1, by omega⟩
    have hb : L.getD (a + i) 0 < 256 := getD_lt hby (by omega)
    have h1 := num_lt hby (a := a) i (by omega)
    have h2 : 256 ^ i ≤ 256 ^ 4 := Nat.pow_le_pow_right (by decide) (by omega)
    rw [f_X9_number_L32_s, if_neg (by rw [nI_leI (by omega) (by omega)]; omega), h27, nI_add, if_neg (nI_in (by omega) (by omega)), nI_clamp (by omega), hR.2 _ (by omega), or8L (by omega) hb, pin_eq, nI_1, pin_eq]
    exact ih (i + 1) n (by omega) (by omega)
theorem numM_s {fu k a : Nat} {L : List Nat} {M : St} (hfu : 20000 ≤ fu) (hk : k ≤ 4) (ha : a ≤ 100000) (hl4 : L.length ≤ 4000) (hby : ∀ b ∈ L, b < 256) (h27 : M 43 27 = nI a) (hR : RowM M 44 1 L) : (L.length < a + k → f_X9_number fu (nI k) M = some (-1, fauM M 1 L.length)) ∧ (a + k ≤ L.length → f_X9_number fu (nI k) M = some (lN (numN L a k), puS M 43 27 (nI (a + k)))) := by
  refine ⟨fun h => ?_, fun h => ?_⟩
  · unfold f_X9_number
    rw [h27, nI_add, hR.1, if_neg (by rw [nI_leI (by omega) (by omega)]; omega)]
    exact e_bd fails_s rfl
  · unfold f_X9_number
    rw [h27, nI_add, hR.1, if_pos (nI_le h (by omega))]
    exact numM_loop hk h hl4 hby h27 hR k 0 fu (by omega) (by omega)
theorem ng1 : ¬ 0 ≤ lg_cmp (-1 : Int64) (0 : Int64) := by decide
/-- the reference's own ints outside js stay -/
def N43 (js : List Nat) (M M' : St) : Prop := Fr [43] M M' ∧ ∀ j, j ∉ js → M' 43 j = M 43 j
theorem N43.rf {js : List Nat} {M : St} : N43 js M M := ⟨Fr.rf, fun _ _ => rfl⟩
theorem N43.pu {js : List Nat} {M M' : St} (h : N43 js M M') {j : Nat} {v : Int32} (hj : j ∈ js) : N43 js M (puS M' 43 j v) := ⟨h.1.pu (by simp), fun i hi => by
  rw [puS_s, upd_n (fun q => hi (by rw [q]; exact hj))]
  exact h.2 i hi⟩
theorem N43.row {js : List Nat} {M M' : St} {L : List Nat} (h : N43 js M M') (h1 : 1 ∉ js) (hR : RowM M 44 1 L) : RowM M' 44 1 L := hR.of (h.2 1 h1) (h.1 44 (by decide))
def rdK1 (fu : Nat) (S27 : St) : Option (Int32 × St) :=
                bnd (f_X9_readsShares fu  S27) fun r28 S29 =>
                if r28 = 0 then
                  some ((0 : Int32), S29)
                else
                  pin (S29 43 27) fun x32 =>
                  bnd (f_X9_number fu (2 : Int32) S29) fun r33 S34 =>
                  if 0 ≤ (lg_cmp r33 (0 : Int64)) then
                    if (lg_cmp r33 (1400 : Int64)) ≤ 0 then
                      pin (puS S34 43 30 ((r33).toInt32)) fun S38 =>
                      bnd (f_X9_number fu (2 : Int32) S38) fun r39 S40 =>
                      if 0 ≤ (lg_cmp r39 (0 : Int64)) then
                        pin (puS S40 43 32 ((r39).toInt32)) fun S43 =>
                        pin (puS S43 43 33 (S43 43 27)) fun S44 =>
                        f_X9_reads_L209 fu    fu (0 : Int32) S44
                      else
                        some ((0 : Int32), S40)
                    else
                      bnd (f_X9_fails (2 : Int32) x32 S34) fun r86 S87 =>
                      if (r86 = 0 ∨ r86 = 1) then some (r86, S87) else none
                  else
                    some ((0 : Int32), S34)
def rdK0 (fu : Nat) (S1 : St) : Option (Int32 × St) :=
  bnd (f_X9_number fu (1 : Int32) S1) fun r2 S3 =>
  if 0 ≤ (lg_cmp r2 (0 : Int64)) then
    if (lg_cmp r2 (83 : Int64)) = 0 then
      bnd (f_X9_number fu (1 : Int32) S3) fun r7 S8 =>
      if 0 ≤ (lg_cmp r7 (0 : Int64)) then
        pin (puS S8 43 28 (((r7).toInt32) / (4 : Int32))) fun S11 =>
        pin (puS S11 43 29 (((r7).toInt32) - ((r7).toInt32) / (4 : Int32) * (4 : Int32))) fun S12 =>
        bnd (f_X9_isWay (S12 43 28) (S12 43 29) S12) fun r13 S14 =>
        if r13 = 0 then
          bnd (f_X9_fails (2 : Int32) (1 : Int32) S14) fun r90 S91 =>
          if (r90 = 0 ∨ r90 = 1) then some (r90, S91) else none
        else
          bnd (f_X9_number fu (1 : Int32) S14) fun r17 S18 =>
          if 0 ≤ (lg_cmp r17 (0 : Int64)) then
            if (lg_cmp r17 (1 : Int64)) < 0 then
              f_X9_reads_L113 fu     S18
            else
              if (lg_cmp r17 (12 : Int64)) ≤ 0 then
                pin (puS S18 46 6 ((r17).toInt32)) fun S27 => rdK1 fu S27
              else
                f_X9_reads_L113 fu     S18
          else
            some ((0 : Int32), S18)
      else
        some ((0 : Int32), S8)
    else
      bnd (f_X9_fails (2 : Int32) (0 : Int32) S3) fun r94 S95 =>
      if (r94 = 0 ∨ r94 = 1) then some (r94, S95) else none
  else
    some ((0 : Int32), S3)
theorem reads_eq {fu : Nat} {M : St} : f_X9_reads fu M = rdK0 fu (puS M 43 27 0) := rfl
theorem nI_div4 {B : Nat} (h : B < 2 ^ 31) : nI B / (4 : Int32) = nI (B / 4) := pk_div h (d := 4) (by decide) (by decide)
theorem nI_mod4 {B : Nat} (h : B < 2 ^ 31) : nI B - nI B / (4 : Int32) * (4 : Int32) = nI (B % 4) := by
  rw [nI_div4 h, show nI (B / 4) * (4 : Int32) = nI (B / 4 * 4) from pk_mul _ _, pk_sub (by omega)]
  congr 1
  omega
theorem headM_s {fu : Nat} {L : List Nat} {M : St} (hfu : 20000 ≤ fu) (hl4 : L.length ≤ 4000) (hby : ∀ b ∈ L, b < 256) (hR : RowM M 44 1 L) :
    (∀ r q, HdF L r q → ∃ M', f_X9_reads fu M = some (0, fauM M' r q) ∧ N43 [27, 28, 29] M M') ∧ (∀ k w lg, HdK L k w lg → ∃ M', f_X9_reads fu M = rdK1 fu (puS M' 46 6 (nI lg)) ∧ M' 43 27 = nI 3 ∧ M' 43 28 = nI k ∧ M' 43 29 = nI w ∧ N43 [27, 28, 29] M M') := by
  obtain ⟨M0, e0⟩ : ∃ z, z = puS M 43 27 0 := ⟨_, rfl⟩
  have n0 : N43 [27, 28, 29] M M0 := by rw [e0]; exact N43.rf.pu (by simp)
  have h270 : M0 43 27 = nI 0 := by rw [e0, puS_s, upd_s]; rfl
  have r0 := n0.row (by simp) hR
  obtain ⟨s1, s2⟩ := numM_s (k := 1) hfu (by omega) (by omega) hl4 hby h270 r0
  rw [num1] at s2
  obtain ⟨M1, e1⟩ : ∃ z, z = puS M0 43 27 (nI (0 + 1)) := ⟨_, rfl⟩
  have n1 : N43 [27, 28, 29] M M1 := by rw [e1]; exact n0.pu (by simp)
  have h271 : M1 43 27 = nI 1 := by rw [e1, puS_s, upd_s]
  obtain ⟨s3, s4⟩ := numM_s (k := 1) hfu (by omega) (by omega) hl4 hby h271 (n1.row (by simp) hR)
  rw [num1] at s4
  obtain ⟨M2, e2⟩ : ∃ z, z = puS M1 43 27 (nI (1 + 1)) := ⟨_, rfl⟩
  have n2 : N43 [27, 28, 29] M M2 := by rw [e2]; exact n1.pu (by simp)
  obtain ⟨M3, e3⟩ : ∃ z, z = puS (puS M2 43 28 (nI (L.getD 1 0 / 4))) 43 29 (nI (L.getD 1 0 % 4)) := ⟨_, rfl⟩
  have n3 : N43 [27, 28, 29] M M3 := by rw [e3]; exact (n2.pu (by simp)).pu (by simp)
  have h273 : M3 43 27 = nI 2 := by rw [e3, puS_s, upd_n (by decide), puS_s, upd_n (by decide), e2, puS_s, upd_s]
  have h283 : M3 43 28 = nI (L.getD 1 0 / 4) := by rw [e3, puS_s, upd_n (by decide), puS_s, upd_s]
  have h293 : M3 43 29 = nI (L.getD 1 0 % 4) := by rw [e3, puS_s, upd_s]
  obtain ⟨s5, s6⟩ := numM_s (k := 1) hfu (by omega) (by omega) hl4 hby h273 (n3.row (by simp) hR)
  rw [num1] at s6
  obtain ⟨M4, e4⟩ : ∃ z, z = puS M3 43 27 (nI (2 + 1)) := ⟨_, rfl⟩
  have n4 : N43 [27, 28, 29] M M4 := by rw [e4]; exact n3.pu (by simp)
  rw [← e1] at s2
  rw [← e2] at s4
  rw [← e4] at s6
  have f0 : L.length < 1 → f_X9_reads fu M = some (0, fauM M0 1 L.length) := fun h => by
    rw [reads_eq, ← e0]
    unfold rdK0
    refine e_bd (s1 (by omega)) ?_
    rw [if_neg ng1]
  have g0 : ∀ R, 1 ≤ L.length → (if (lg_cmp (lN (L.getD 0 0)) (83 : Int64)) = 0 then
      bnd (f_X9_number fu (1 : Int32) M1) fun r7 S8 =>
      if 0 ≤ (lg_cmp r7 (0 : Int64)) then
        pin (puS S8 43 28 (((r7).toInt32) / (4 : Int32))) fun S11 =>
        pin (puS S11 43 29 (((r7).toInt32) - ((r7).toInt32) / (4 : Int32) * (4 : Int32))) fun S12 =>
        bnd (f_X9_isWay (S12 43 28) (S12 43 29) S12) fun r13 S14 =>
        if r13 = 0 then
          bnd (f_X9_fails (2 : Int32) (1 : Int32) S14) fun r90 S91 =>
          if (r90 = 0 ∨ r90 = 1) then some (r90, S91) else none
        else
          bnd (f_X9_number fu (1 : Int32) S14) fun r17 S18 =>
          if 0 ≤ (lg_cmp r17 (0 : Int64)) then
            if (lg_cmp r17 (1 : Int64)) < 0 then
              f_X9_reads_L113 fu     S18
            else
              if (lg_cmp r17 (12 : Int64)) ≤ 0 then
                pin (puS S18 46 6 ((r17).toInt32)) fun S27 => rdK1 fu S27
              else
                f_X9_reads_L113 fu     S18
          else
            some ((0 : Int32), S18)
      else
        some ((0 : Int32), S8)
    else
      bnd (f_X9_fails (2 : Int32) (0 : Int32) M1) fun r94 S95 =>
      if (r94 = 0 ∨ r94 = 1) then some (r94, S95) else none) = R → f_X9_reads fu M = R := fun R h hR' => by
    have hb : L.getD 0 0 < 256 := getD_lt hby (by omega)
    rw [reads_eq, ← e0]
    unfold rdK0
    refine e_bd (s2 (by omega)) ?_
    rw [if_pos (l_nn (by omega))]
    exact hR'
  have g1 : ∀ R, 1 ≤ L.length → L.getD 0 0 = 83 → (bnd (f_X9_number fu (1 : Int32) M1) fun r7 S8 =>
      if 0 ≤ (lg_cmp r7 (0 : Int64)) then
        pin (puS S8 43 28 (((r7).toInt32) / (4 : Int32))) fun S11 =>
        pin (puS S11 43 29 (((r7).toInt32) - ((r7).toInt32) / (4 : Int32) * (4 : Int32))) fun S12 =>
        bnd (f_X9_isWay (S12 43 28) (S12 43 29) S12) fun r13 S14 =>
        if r13 = 0 then
          bnd (f_X9_fails (2 : Int32) (1 : Int32) S14) fun r90 S91 =>
          if (r90 = 0 ∨ r90 = 1) then some (r90, S91) else none
        else
          bnd (f_X9_number fu (1 : Int32) S14) fun r17 S18 =>
          if 0 ≤ (lg_cmp r17 (0 : Int64)) then
            if (lg_cmp r17 (1 : Int64)) < 0 then
              f_X9_reads_L113 fu     S18
            else
              if (lg_cmp r17 (12 : Int64)) ≤ 0 then
                pin (puS S18 46 6 ((r17).toInt32)) fun S27 => rdK1 fu S27
              else
                f_X9_reads_L113 fu     S18
          else
            some ((0 : Int32), S18)
      else
        some ((0 : Int32), S8)) = R → f_X9_reads fu M = R := fun R h h83 hR' => g0 R h (by
    rw [if_pos (show lg_cmp (lN (L.getD 0 0)) (83 : Int64) = 0 by rw [h83]; decide)]
    exact hR')
  have g2 : ∀ R, 2 ≤ L.length → L.getD 0 0 = 83 → (bnd (f_X9_isWay (nI (L.getD 1 0 / 4)) (nI (L.getD 1 0 % 4)) M3) fun r13 S14 =>
        if r13 = 0 then
          bnd (f_X9_fails (2 : Int32) (1 : Int32) S14) fun r90 S91 =>
          if (r90 = 0 ∨ r90 = 1) then some (r90, S91) else none
        else
          bnd (f_X9_number fu (1 : Int32) S14) fun r17 S18 =>
          if 0 ≤ (lg_cmp r17 (0 : Int64)) then
            if (lg_cmp r17 (1 : Int64)) < 0 then
              f_X9_reads_L113 fu     S18
            else
              if (lg_cmp r17 (12 : Int64)) ≤ 0 then
                pin (puS S18 46 6 ((r17).toInt32)) fun S27 => rdK1 fu S27
              else
                f_X9_reads_L113 fu     S18
          else
            some ((0 : Int32), S18)) = R → f_X9_reads fu M = R := fun R h h83 hR' => g1 R (by omega) h83 (by
    have hb : L.getD 1 0 < 256 := getD_lt hby (by omega)
    refine e_bd (s4 (by omega)) ?_
    rw [if_pos (l_nn (by omega)), lN_i, nI_mod4 (by omega), nI_div4 (by omega), pin_eq, pin_eq, ← e3, h283, h293]
    exact hR')
  have g3 : ∀ R, 2 ≤ L.length → L.getD 0 0 = 83 → (∃ k w, Wy1 (L.getD 1 0) k w) → (bnd (f_X9_number fu (1 : Int32) M3) fun r17 S18 =>
          if 0 ≤ (lg_cmp r17 (0 : Int64)) then
            if (lg_cmp r17 (1 : Int64)) < 0 then
              f_X9_reads_L113 fu     S18
            else
              if (lg_cmp r17 (12 : Int64)) ≤ 0 then
                pin (puS S18 46 6 ((r17).toInt32)) fun S27 => rdK1 fu S27
              else
                f_X9_reads_L113 fu     S18
          else
            some ((0 : Int32), S18)) = R → f_X9_reads fu M = R := fun R h h83 hW hR' => g2 R h h83 (by
    obtain ⟨k, w, hW⟩ := hW
    refine e_bd (hW.2.2.2.2.2 M3).2 ?_
    rw [if_neg (by decide)]
    exact hR')
  refine ⟨fun r q hF => ?_, fun k w lg hK => ?_⟩
  · rcases hF with ⟨c1, rfl, rfl⟩ | ⟨c1, c2, rfl, rfl⟩ | ⟨c1, c2, rfl, rfl⟩ | ⟨c1, c2, c3, rfl, rfl⟩ | ⟨c1, c2, c3, rfl, rfl⟩ | ⟨c1, c2, c3, c4, rfl, rfl⟩
    · exact ⟨M0, f0 c1, n0⟩
    · have hb : L.getD 0 0 < 256 := getD_lt hby (by omega)
      refine ⟨M1, g0 _ c1 ?_, n1⟩
      rw [if_neg (show ¬ lg_cmp (lN (L.getD 0 0)) (83 : Int64) = 0 from fun c => c2 ((l_eq (b := 83) (by omega) (by omega)).mp c))]
      exact fail_r
    · refine ⟨M1, g1 _ (by omega) c2 ?_, n1⟩
      refine e_bd (s3 (by omega)) ?_
      rw [if_neg ng1]
    · refine ⟨M3, g2 _ c1 c2 ?_, n3⟩
      refine e_bd (c3 M3).2 ?_
      rw [if_pos rfl]
      exact fail_r
    · refine ⟨M3, g3 _ (by omega) c2 c3 ?_, n3⟩
      refine e_bd (s5 (by omega)) ?_
      rw [if_neg ng1]
    · have hb : L.getD 2 0 < 256 := getD_lt hby (by omega)
      refine ⟨M4, g3 _ (by omega) c2 c3 ?_, n4⟩
      refine e_bd (s6 (by omega)) ?_
      have h113 : f_X9_reads_L113 fu M4 = some (0, fauM M4 2 2) := by
        unfold f_X9_reads_L113
        exact fail_r
      rw [if_pos (l_nn (by omega)), h113]
      by_cases q1 : L.getD 2 0 < 1
      · rw [if_pos (show lg_cmp (lN (L.getD 2 0)) (1 : Int64) < 0 from (l_lt (b := 1) (by omega) (by omega)).mpr q1)]
      · rw [if_neg (show ¬ lg_cmp (lN (L.getD 2 0)) (1 : Int64) < 0 from fun c => q1 ((l_lt (b := 1) (by omega) (by omega)).mp c)), if_neg (show ¬ lg_cmp (lN (L.getD 2 0)) (12 : Int64) ≤ 0 from fun c => by have := (l_le (b := 12) (by omega) (by omega)).mp c; omega)]
  · obtain ⟨c1, c2, c3, c4, c5, c6⟩ := hK
    have hb : L.getD 2 0 < 256 := getD_lt hby (by omega)
    refine ⟨M4, g3 _ (by omega) c2 ⟨k, w, c3⟩ ?_, by rw [e4, puS_s, upd_s], by rw [e4, puS_s, upd_n (by decide), h283, c3.2.2.2.1], by rw [e4, puS_s, upd_n (by decide), h293, c3.2.2.2.2.1], n4⟩
    refine e_bd (s6 (by omega)) ?_
    rw [if_pos (l_nn (by omega)), if_neg (show ¬ lg_cmp (lN (L.getD 2 0)) (1 : Int64) < 0 from fun c => by have := (l_lt (b := 1) (by omega) (by omega)).mp c; omega), if_pos (show lg_cmp (lN (L.getD 2 0)) (12 : Int64) ≤ 0 from (l_le (b := 12) (by omega) (by omega)).mpr (by omega)), lN_i, c4, pin_eq]
