/-! unpack: SHARES, in the reference -/
def G47 (M M' : St) : Prop := Fr [43, 47] M M' ∧ (∀ j, j ≠ 27 → M' 43 j = M 43 j) ∧ ∀ j, j < 1536 → M' 47 j = M 47 j
theorem G47.rf {M : St} : G47 M M := ⟨Fr.rf, fun _ _ => rfl, fun _ _ => rfl⟩
theorem G47.tr {M M1 M2 : St} (h1 : G47 M M1) (h2 : G47 M1 M2) : G47 M M2 := ⟨h1.1.tr h2.1, fun j hj => (h2.2.1 j hj).trans (h1.2.1 j hj), fun j hj => (h2.2.2 j hj).trans (h1.2.2 j hj)⟩
theorem G47.p27 {M : St} {v : Int32} : G47 M (puS M 43 27 v) := ⟨Fr.rf.pu (by simp), fun j hj => by rw [puS_s, upd_n hj], fun j _ => by rw [puS_n (by decide)]⟩
theorem G47.p47 {M : St} {i : Nat} {v : Int32} (h : 1536 ≤ i) : G47 M (puS M 47 i v) := ⟨Fr.rf.pu (by simp), fun j _ => by rw [puS_n (by decide)], fun j hj => by rw [puS_s, upd_n (by omega)]⟩
theorem G47.row {M M' : St} {L : List Nat} (h : G47 M M') (hR : RowM M 44 1 L) : RowM M' 44 1 L := hR.of (h.2.1 1 (by decide)) (h.1 44 (by decide))
theorem shM_loop {fu lg m : Nat} {L : List Nat} (hfu : 20000 ≤ fu) (hlg : lg ≤ 12) (hm : m ≤ 256) (hl4 : L.length ≤ 4000) (hby : ∀ b ∈ L, b < 256) : ∀ (d i n v sm ps a : Nat) (f : Nat → Nat) (x : Int32) (M : St), i + d = m → d < n → a + 3 * d ≤ 10000 → M 43 27 = nI a → RowM M 44 1 L → ShM M 6 f → (∀ b, b < 256 → (0 < lg_cmp (lN b) x.toInt64 ↔ v ≤ b)) → sm ≤ 4096 * i → ∀ r q g, shP L lg d v sm ps a f = (r, q, g) → ∃ M', G47 M M' ∧ (r ≠ 0 → f_X9_readsShares_L71 fu n (nI (2 ^ lg)) (nI m) x (nI sm) (nI ps) (nI i) M = some (0, fauM M' r q)) ∧ (r = 0 → f_X9_readsShares_L71 fu n (nI (2 ^ lg)) (nI m) x (nI sm) (nI ps) (nI i) M = some (1, M') ∧ M' 43 27 = nI q ∧ ShM M' 6 g) := by
  have hp12 : 2 ^ lg ≤ 2 ^ 12 := Nat.pow_le_pow_right (by decide) hlg
  intro d
  induction d with
  | zero =>
    intro i n v sm ps a f x M hi hn ha h27 hR hT hx hsm r q g hP
    obtain ⟨n, rfl⟩ : ∃ e, n = e + 1 := ⟨n - 1, by omega⟩
    rw [show shP L lg 0 v sm ps a f = if sm = 2 ^ lg then (0, a, f) else (3, ps, f) from rfl] at hP
    by_cases e : sm = 2 ^ lg
    · rw [if_pos e] at hP
      simp only [Prod.mk.injEq] at hP
      obtain ⟨rfl, rfl, rfl⟩ := hP
      refine ⟨M, G47.rf, fun c => absurd rfl c, fun _ => ⟨?_, h27, hT⟩⟩
      rw [f_X9_readsShares_L71_s, if_pos (nI_le (by omega) (by omega)), if_pos (by rw [e])]
    · rw [if_neg e] at hP
      simp only [Prod.mk.injEq] at hP
      obtain ⟨rfl, rfl, rfl⟩ := hP
      refine ⟨M, G47.rf, fun _ => ?_, fun c => absurd c (by decide)⟩
      rw [f_X9_readsShares_L71_s, if_pos (nI_le (by omega) (by omega)), if_neg (fun c => e (nI_small (by omega) (by omega) c))]
      refine e_bd (fails_s (r := 3)) ?_
      rw [if_pos rfl]
  | succ d ih =>
    intro i n v sm ps a f x M hi hn ha h27 hR hT hx hsm r q g hP
    obtain ⟨n, rfl⟩ : ∃ e, n = e + 1 := ⟨n - 1, by omega⟩
    rw [shP_s] at hP
    obtain ⟨s1, s2⟩ := numM_s (k := 1) hfu (by omega) (by omega) hl4 hby h27 hR
    rw [num1] at s2
    have hi1 : ¬ nI m ≤ nI i := by rw [nI_leI (by omega) (by omega)]; omega
    by_cases e1 : L.length < a + 1
    · rw [if_pos e1] at hP
      simp only [Prod.mk.injEq] at hP
      obtain ⟨rfl, rfl, rfl⟩ := hP
      refine ⟨M, G47.rf, fun _ => ?_, fun c => absurd c (by decide)⟩
      rw [f_X9_readsShares_L71_s, if_neg hi1, pin_eq]
      refine e_bd (s1 e1) ?_
      rw [if_neg ng1]
    · rw [if_neg e1] at hP
      have hb0 : L.getD a 0 < 256 := getD_lt hby (by omega)
      obtain ⟨M1, e1'⟩ : ∃ z, z = puS M 43 27 (nI (a + 1)) := ⟨_, rfl⟩
      have n1 : G47 M M1 := by rw [e1']; exact G47.p27
      have h271 : M1 43 27 = nI (a + 1) := by rw [e1', puS_s, upd_s]
      have s2 := s2 (by omega)
      rw [← e1'] at s2
      by_cases e2 : L.getD a 0 < v
      · rw [if_pos e2] at hP
        simp only [Prod.mk.injEq] at hP
        obtain ⟨rfl, rfl, rfl⟩ := hP
        refine ⟨M1, n1, fun _ => ?_, fun c => absurd c (by decide)⟩
        rw [f_X9_readsShares_L71_s, if_neg hi1, pin_eq]
        refine e_bd s2 ?_
        rw [if_pos (l_nn (by omega)), if_neg (fun c => by have := (hx _ hb0).mp c; omega), h27]
        exact fail_r
      · rw [if_neg e2] at hP
        obtain ⟨s3, s4⟩ := numM_s (k := 2) hfu (by omega) (by omega) hl4 hby h271 (n1.row hR)
        have hgo : ∀ R, (bnd (f_X9_number fu (2 : Int32) M1) fun r22 S23 => if 0 ≤ (lg_cmp r22 (0 : Int64)) then if (lg_cmp r22 (1 : Int64)) < 0 then f_X9_readsShares_L151 fu (nI (a + 1)) S23 else if (lg_cmp r22 ((nI (2 ^ lg)).toInt64)) ≤ 0 then if (((1536 : Int32) + nI (L.getD a 0)) < 0 ∨ 1792 ≤ ((1536 : Int32) + nI (L.getD a 0)).toNatClampNeg) then none else pin (puS S23 47 ((1536 : Int32) + nI (L.getD a 0)).toNatClampNeg ((r22).toInt32)) fun S32 => pin (nI sm + ((r22).toInt32)) fun x34 => pin (nI i + (1 : Int32)) fun x35 => f_X9_readsShares_L71 fu n (nI (2 ^ lg)) (nI m) (nI (L.getD a 0)) x34 (nI (a + 1)) x35 S32 else f_X9_readsShares_L151 fu (nI (a + 1)) S23 else some ((0 : Int32), S23)) = R → f_X9_readsShares_L71 fu (n + 1) (nI (2 ^ lg)) (nI m) x (nI sm) (nI ps) (nI i) M = R := by
          intro R hR'
          rw [f_X9_readsShares_L71_s, if_neg hi1, pin_eq]
          refine e_bd s2 ?_
          rw [if_pos (l_nn (by omega)), if_pos ((hx _ hb0).mpr (by omega)), lN_i, pin_eq, h271, pin_eq]
          exact hR'
        by_cases e3 : L.length < a + 3
        · rw [if_pos e3] at hP
          simp only [Prod.mk.injEq] at hP
          obtain ⟨rfl, rfl, rfl⟩ := hP
          refine ⟨M1, n1, fun _ => hgo _ ?_, fun c => absurd c (by decide)⟩
          refine e_bd (s3 (by omega)) ?_
          rw [if_neg ng1]
        · rw [if_neg e3] at hP
          have hg := num2_lt hby (a := a + 1) (by omega)
          obtain ⟨M2, e2'⟩ : ∃ z, z = puS M1 43 27 (nI (a + 1 + 2)) := ⟨_, rfl⟩
          have n2 : G47 M1 M2 := by rw [e2']; exact G47.p27
          have s4 := s4 (by omega)
          rw [← e2'] at s4
          by_cases e4 : numN L (a + 1) 2 < 1 ∨ 2 ^ lg < numN L (a + 1) 2
          · rw [if_pos e4] at hP
            simp only [Prod.mk.injEq] at hP
            obtain ⟨rfl, rfl, rfl⟩ := hP
            have h151 : f_X9_readsShares_L151 fu (nI (a + 1)) M2 = some (0, fauM M2 2 (a + 1)) := by
              unfold f_X9_readsShares_L151
              exact fail_r
            refine ⟨M2, n1.tr n2, fun _ => hgo _ ?_, fun c => absurd c (by decide)⟩
            refine e_bd s4 ?_
            rw [if_pos (l_nn (by omega)), h151]
            by_cases q1 : numN L (a + 1) 2 < 1
            · rw [if_pos (show lg_cmp (lN (numN L (a + 1) 2)) (1 : Int64) < 0 from (l_lt (b := 1) (by omega) (by omega)).mpr q1)]
            · rw [if_neg (show ¬ lg_cmp (lN (numN L (a + 1) 2)) (1 : Int64) < 0 from fun c => q1 ((l_lt (b := 1) (by omega) (by omega)).mp c)), nI_l (by omega), if_neg (fun c => by have := (l_le (by omega) (by omega)).mp c; omega)]
          · rw [if_neg e4] at hP
            obtain ⟨M3, e3'⟩ : ∃ z, z = puS M2 47 (1536 + L.getD a 0) (nI (numN L (a + 1) 2)) := ⟨_, rfl⟩
            have n3 : G47 M2 M3 := by rw [e3']; exact G47.p47 (by omega)
            have N : G47 M M3 := n1.tr (n2.tr n3)
            have hT3 : ShM M3 6 (fun s => if s = L.getD a 0 then numN L (a + 1) 2 else f s) := by
              intro s hs
              show M3 47 (256 * 6 + s) = nI (if s = L.getD a 0 then numN L (a + 1) 2 else f s)
              rw [e3', puS_s]
              by_cases qq : s = L.getD a 0
              · rw [if_pos qq, qq, show 256 * 6 + L.getD a 0 = 1536 + L.getD a 0 by omega, upd_s]
              · rw [if_neg qq, upd_n (by omega), e2', puS_n (by decide), e1', puS_n (by decide)]
                exact hT s hs
            obtain ⟨M', c1, c2, c3⟩ := ih (i + 1) n (L.getD a 0 + 1) (sm + numN L (a + 1) 2) (a + 1) (a + 3) _ (nI (L.getD a 0)) M3 (by omega) (by omega) (by omega) (by rw [e3', puS_n (by decide), e2', puS_s, upd_s]) (N.row hR) hT3 (fun b hb' => by rw [nI_l (by omega), l_gt (by omega) (by omega)]; omega) (by omega) r q g hP
            have hgo2 : ∀ R, f_X9_readsShares_L71 fu n (nI (2 ^ lg)) (nI m) (nI (L.getD a 0)) (nI (sm + numN L (a + 1) 2)) (nI (a + 1)) (nI (i + 1)) M3 = R → f_X9_readsShares_L71 fu (n + 1) (nI (2 ^ lg)) (nI m) x (nI sm) (nI ps) (nI i) M = R := fun R hR' => hgo R (by
              refine e_bd s4 ?_
              rw [if_pos (l_nn (by omega)), if_neg (show ¬ lg_cmp (lN (numN L (a + 1) 2)) (1 : Int64) < 0 from fun c => by have := (l_lt (b := 1) (by omega) (by omega)).mp c; omega), nI_l (by omega), if_pos ((l_le (by omega) (by omega)).mpr (by omega)), show (1536 : Int32) + nI (L.getD a 0) = nI (1536 + L.getD a 0) from nI_add 1536 _, if_neg (nI_in (by omega) (by omega)), nI_clamp (by omega), lN_i, pin_eq, ← e3', nI_add, pin_eq, nI_1, pin_eq]
              exact hR')
            exact ⟨M', N.tr c1, fun c => hgo2 _ (c2 c), fun c => ⟨hgo2 _ (c3 c).1, (c3 c).2⟩⟩
theorem clrM_loop {fu : Nat} {v1 v4 : Int32} : ∀ (d i n : Nat) (M : St), i + d = 256 → d < n → (∀ s, s < i → M 47 (256 * 6 + s) = nI 0) → ∃ M', f_X9_readsShares_L33 fu n v1 v4 (nI i) M = f_X9_readsShares_L71 fu fu v1 v4 (-1) (nI 0) (nI 0) (nI 0) M' ∧ ShM M' 6 (fun _ => 0) ∧ Fr [47] M M' ∧ G47 M M' := by
  intro d
  induction d with
  | zero =>
    intro i n M hi hn h
    obtain ⟨n, rfl⟩ : ∃ e, n = e + 1 := ⟨n - 1, by omega⟩
    refine ⟨M, ?_, fun s hs => h s (by omega), Fr.rf, G47.rf⟩
    rw [f_X9_readsShares_L33_s, if_pos (show (256 : Int32) ≤ nI i by rw [show (256 : Int32) = nI 256 from rfl, nI_leI (by omega) (by omega)]; omega)]
    rfl
  | succ d ih =>
    intro i n M hi hn h
    obtain ⟨n, rfl⟩ : ∃ e, n = e + 1 := ⟨n - 1, by omega⟩
    obtain ⟨M1, e1⟩ : ∃ z, z = puS M 47 (1536 + i) 0 := ⟨_, rfl⟩
    have n1 : G47 M M1 := by rw [e1]; exact G47.p47 (by omega)
    have f1 : Fr [47] M M1 := by rw [e1]; exact Fr.rf.pu (by simp)
    obtain ⟨M', a1, a2, a3, a4⟩ := ih (i + 1) n M1 (by omega) (by omega) (fun s hs => by
      rw [e1, puS_s]
      by_cases q : s = i
      · rw [q, show 256 * 6 + i = 1536 + i by omega, upd_s]; rfl
      · rw [upd_n (by omega)]; exact h s (by omega))
    refine ⟨M', ?_, a2, f1.tr a3, n1.tr a4⟩
    rw [f_X9_readsShares_L33_s, if_neg (show ¬ (256 : Int32) ≤ nI i by rw [show (256 : Int32) = nI 256 from rfl, nI_leI (by omega) (by omega)]; omega), show (1536 : Int32) + nI i = nI (1536 + i) from nI_add 1536 i, if_neg (nI_in (by omega) (by omega)), nI_clamp (by omega), pin_eq, ← e1, nI_1, pin_eq]
    exact a1
theorem ng2 : ∀ b, b < 256 → (0 < lg_cmp (lN b) ((-1 : Int32).toInt64) ↔ 0 ≤ b) := by decide +kernel
theorem sharesM_s {fu lg r q : Nat} {g : Nat → Nat} {L : List Nat} {M : St} (hfu : 20000 ≤ fu) (hlg : lg ≤ 12) (hl4 : L.length ≤ 4000) (hby : ∀ b ∈ L, b < 256) (h27 : M 43 27 = nI 3) (hR : RowM M 44 1 L) (h46 : M 46 6 = nI lg) (hP : shR L lg = (r, q, g)) : ∃ M', G47 M M' ∧ (r ≠ 0 → f_X9_readsShares fu M = some (0, fauM M' r q)) ∧ (r = 0 → f_X9_readsShares fu M = some (1, M') ∧ M' 43 27 = nI q ∧ ShM M' 6 g) := by
  unfold shR at hP
  obtain ⟨s1, s2⟩ := numM_s (k := 1) hfu (by omega) (by omega) hl4 hby h27 hR
  rw [num1] at s2
  by_cases e1 : L.length < 4
  · rw [if_pos e1] at hP
    simp only [Prod.mk.injEq] at hP
    obtain ⟨rfl, rfl, rfl⟩ := hP
    refine ⟨M, G47.rf, fun _ => ?_, fun c => absurd c (by decide)⟩
    unfold f_X9_readsShares
    rw [pin_eq]
    refine e_bd (s1 (by omega)) ?_
    rw [if_neg ng1]
  · rw [if_neg e1] at hP
    have hb0 : L.getD 3 0 < 256 := getD_lt hby (by omega)
    obtain ⟨M1, e1'⟩ : ∃ z, z = puS M 43 27 (nI (3 + 1)) := ⟨_, rfl⟩
    have n1 : G47 M M1 := by rw [e1']; exact G47.p27
    have s2 := s2 (by omega)
    rw [← e1'] at s2
    obtain ⟨M2, a1, a2, a3, a4⟩ := clrM_loop (fu := fu) (v1 := nI (2 ^ lg)) (v4 := nI (L.getD 3 0 + 1)) 256 0 fu M1 (by omega) (by omega) (fun s hs => absurd hs (by omega))
    obtain ⟨M', c1, c2, c3⟩ := shM_loop (fu := fu) (m := L.getD 3 0 + 1) hfu hlg (by omega) hl4 hby (L.getD 3 0 + 1) 0 fu 0 0 0 4 (fun _ => 0) (-1) M2 (by omega) (by omega) (by omega) (by rw [a3 43 (by decide), e1', puS_s, upd_s]) ((n1.tr a4).row hR) a2 (fun b hb => ng2 b hb) (by omega) r q g hP
    have hgo : ∀ R, f_X9_readsShares_L71 fu fu (nI (2 ^ lg)) (nI (L.getD 3 0 + 1)) (-1) (nI 0) (nI 0) (nI 0) M2 = R → f_X9_readsShares fu M = R := by
      intro R hR'
      unfold f_X9_readsShares
      rw [h46, show (1 : Int32) <<< (nI lg &&& 31) = nI (2 ^ lg) from shl1 hlg, pin_eq]
      refine e_bd s2 ?_
      rw [if_pos (l_nn (by omega)), lN_i, nI_1, pin_eq]
      exact a1.trans hR'
    exact ⟨M', n1.tr (a4.tr c1), fun c => hgo _ (c2 c), fun c => ⟨hgo _ (c3 c).1, (c3 c).2⟩⟩
