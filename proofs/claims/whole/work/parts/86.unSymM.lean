/-! unpack: one SYMBOL more, in the reference -/
def fauM (M : St) (r q : Nat) : St := puS (puS M 43 16 (nI r)) 43 17 (nI q)
theorem fails_s {M : St} {r q : Nat} : f_X9_fails (nI r) (nI q) M = some (0, fauM M r q) := rfl
theorem fail_r {M : St} {r q : Nat} : (bnd (f_X9_fails (nI r) (nI q) M) fun r71 S72 => if (r71 = 0 ∨ r71 = 1) then some (r71, S72) else none) = some (0, fauM M r q) := by
  refine e_bd fails_s ?_
  rw [if_pos (Or.inl rfl)]
def MdI (M : St) (k lg w N p P : Nat) (f : Nat → Nat) (L : List Nat) (i : Nat) (x : Nat → Nat) (m0 m1 a5 : Nat) (ms : List Nat) : Prop :=
  (M 43 28 = nI k ∧ M 43 29 = nI w ∧ M 43 30 = nI N ∧ M 43 31 = nI p ∧ M 43 32 = nI P) ∧ TabM M 6 lg f ∧ LM M f lg w 6 ∧ RowM M 44 1 L ∧ (∀ e, e < nSN k → M 58 e = nI (x e)) ∧ (M 59 0 = nI m0 ∧ M 59 1 = nI m1 ∧ M 59 5 = nI a5) ∧ ms.length = i ∧ ∀ j, j < i → M 61 j = nI (ms.getD j 0)
theorem flM_loop {fu k lg p P : Nat} {v5 v6 : Int32} {K : Int32 → Int32 → Int32 → Int32 → St → Option (Int32 × St)} {L : List Nat} {M : St} (hk : k < 3) (hl : lg ≤ 12) (hlen : L.length = p + P) (hl4 : L.length ≤ 4000) (hby : ∀ b ∈ L, b < 256) (h28 : M 43 28 = nI k) (h31 : M 43 31 = nI p) (h32 : M 43 32 = nI P) (hR : RowM M 44 1 L) : ∀ (d n v u b : Nat), d < n → lsN k lg ≤ v * 2 ^ (wdN k * d) → v < ubN k lg → b ≤ tuN k P → (flP k lg L p P d v b = none → f_X9_readsMessage_L148 fu K n (nI b) (nI (tuN k P)) (nI (lsN k lg)) v5 v6 (nI v) (nI u) M = some (0, fauM M 5 (p + P))) ∧ (∀ v' b', flP k lg L p P d v b = some (v', b') → f_X9_readsMessage_L148 fu K n (nI b) (nI (tuN k P)) (nI (lsN k lg)) v5 v6 (nI v) (nI u) M = f_X9_readsMessage_L148 fu K 1 (nI b') (nI (tuN k P)) (nI (lsN k lg)) v5 v6 (nI v') (nI (u + (b' - b))) M) := by
  have hls := lsN_bd (k := k) hl
  have hub := ub_bd (k := k) hl
  have htu : tuN k P ≤ 32000 := by unfold tuN; split <;> omega
  have hdone : ∀ (n v u b : Nat), 0 < n → lsN k lg ≤ v → v < ubN k lg → f_X9_readsMessage_L148 fu K n (nI b) (nI (tuN k P)) (nI (lsN k lg)) v5 v6 (nI v) (nI u) M = f_X9_readsMessage_L148 fu K 1 (nI b) (nI (tuN k P)) (nI (lsN k lg)) v5 v6 (nI v) (nI (u + (b - b))) M := by
    intro n v u b hn h1 h2
    obtain ⟨n, rfl⟩ : ∃ e, n = e + 1 := ⟨n - 1, by omega⟩
    rw [Nat.sub_self, Nat.add_zero u, f_X9_readsMessage_L148_s, f_X9_readsMessage_L148_s, if_pos (nI_le h1 (by omega)), if_pos (nI_le h1 (by omega))]
  intro d
  induction d with
  | zero =>
    intro n v u b hn h1 h2 h3
    refine ⟨fun q => (by cases q), fun v' b' q => ?_⟩
    rw [show flP k lg L p P 0 v b = some (v, b) from rfl] at q
    simp only [Option.some.injEq, Prod.mk.injEq] at q
    obtain ⟨rfl, rfl⟩ := q
    rw [Nat.mul_zero, Nat.pow_zero, Nat.mul_one] at h1
    exact hdone n v u b (by omega) h1 h2
  | succ d ih =>
    intro n v u b hn h1 h2 h3
    rw [flP_s]
    by_cases q1 : lsN k lg ≤ v
    · rw [if_pos q1]
      refine ⟨fun q => (by cases q), fun v' b' q => ?_⟩
      simp only [Option.some.injEq, Prod.mk.injEq] at q
      obtain ⟨rfl, rfl⟩ := q
      exact hdone n v u b (by omega) q1 h2
    · rw [if_neg q1]
      obtain ⟨n, rfl⟩ : ∃ e, n = e + 1 := ⟨n - 1, by omega⟩
      have hn1 : ¬ nI (lsN k lg) ≤ nI v := by rw [nI_leI (by omega) (by omega)]; omega
      by_cases q2 : tuN k P ≤ b
      · rw [if_pos q2]
        refine ⟨fun _ => ?_, fun v' b' q => (by cases q)⟩
        rw [f_X9_readsMessage_L148_s, if_neg hn1, if_pos (by rw [show b = tuN k P by omega]), h31, h32, nI_add]
        exact fail_r
      · rw [if_neg q2]
        have hu := unt_lt (k := k) hby hlen (show b < tuN k P by omega)
        obtain ⟨i1, i2⟩ := ih n (v * 2 ^ wdN k + unt k L p b) (u + 1) (b + 1) (by omega) (by
          refine Nat.le_trans h1 ?_
          rw [Nat.mul_succ, Nat.add_comm, Nat.pow_add, ← Nat.mul_assoc]
          exact Nat.mul_le_mul (Nat.le_add_right _ _) (Nat.le_refl _)) (up_ub (by omega) hu) (by omega)
        have hgo : ∀ R, f_X9_readsMessage_L148 fu K n (nI (b + 1)) (nI (tuN k P)) (nI (lsN k lg)) v5 v6 (nI (v * 2 ^ wdN k + unt k L p b)) (nI (u + 1)) M = R → f_X9_readsMessage_L148 fu K (n + 1) (nI b) (nI (tuN k P)) (nI (lsN k lg)) v5 v6 (nI v) (nI u) M = R := by
          intro R hR'
          rw [f_X9_readsMessage_L148_s, if_neg hn1, if_neg (fun c => q2 (by have := nI_small (by omega) (by omega) c; omega)), h28, h31]
          unfold tuN at q2
          unfold unt wdN at hR'
          by_cases q0 : k = 0
          · rw [if_pos q0] at q2
            rw [if_pos q0, if_pos q0] at hR'
            have hb8 : L.getD (p + b / 8) 0 < 256 := getD_lt hby (by omega)
            have hd8 : L.getD (p + b / 8) 0 / 2 ^ (7 - b % 8) < 2 ^ 31 := by
              have := Nat.div_le_self (L.getD (p + b / 8) 0) (2 ^ (7 - b % 8))
              omega
            rw [if_pos (by rw [q0]; rfl), nI_mod8 (by omega), nI_div8 (by omega), nI_add, if_neg (nI_in (by omega) (by omega)), nI_clamp (by omega), hR.2 _ (by omega), show (7 : Int32) - nI (b % 8) = nI (7 - b % 8) from pk_sub (a := 7) (by omega), shr_s (by omega) (by omega), show nI (L.getD (p + b / 8) 0 / 2 ^ (7 - b % 8)) &&& (1 : Int32) = nI (L.getD (p + b / 8) 0 / 2 ^ (7 - b % 8) % 2 ^ 1) from fa_mask _ 1, show (2 : Int32) * nI v = nI (2 * v) from pk_mul 2 v, nI_add, Nat.pow_one]
            unfold f_X9_readsMessage_L232
            rw [nI_1, pin_eq, nI_1, pin_eq]
            rw [Nat.pow_one, Nat.mul_comm] at hR'
            exact hR'
          · rw [if_neg q0] at q2
            rw [if_neg q0, if_neg q0] at hR'
            rw [if_neg (nI_ne0 (by omega) (by omega)), nI_add, if_neg (nI_in (by omega) (by omega)), nI_clamp (by omega), hR.2 _ (by omega), show (256 : Int32) * nI v = nI (256 * v) from pk_mul 256 v, nI_add]
            unfold f_X9_readsMessage_L232
            rw [nI_1, pin_eq, nI_1, pin_eq]
            rw [Nat.mul_comm v] at hR'
            exact hR'
        refine ⟨fun q => hgo _ (i1 q), fun v' b' q => hgo _ ?_⟩
        obtain ⟨-, c2, -, -⟩ := fl_ok hby hlen d _ _ v' b' (by
          refine Nat.le_trans h1 ?_
          rw [Nat.mul_succ, Nat.add_comm, Nat.pow_add, ← Nat.mul_assoc]
          exact Nat.mul_le_mul (Nat.le_add_right _ _) (Nat.le_refl _)) (up_ub (by omega) hu) (by omega) q
        rw [i2 v' b' q, show u + 1 + (b' - (b + 1)) = u + (b' - b) by omega]
theorem tnM_s {fu k i : Nat} {v2 v3 v4 : Int32} {K : Int32 → Int32 → Int32 → Int32 → St → Option (Int32 × St)} {M : St} (hk : k < 3) (hi : i < 2 ^ 31) : (if nI k = (2 : Int32) then f_X9_readsMessage_L81 fu K v2 v3 v4 (nI i) (nI i - nI i / (2 : Int32) * (2 : Int32)) M else f_X9_readsMessage_L81 fu K v2 v3 v4 (nI i) (0 : Int32) M) = f_X9_readsMessage_L81 fu K v2 v3 v4 (nI i) (nI (tnN k i)) M := by
  unfold tnN
  by_cases q : k = 2
  · rw [if_pos (by rw [q]; rfl), if_pos q, show nI i / (2 : Int32) = nI (i / 2) from pk_div hi (d := 2) (by decide) (by decide), show nI (i / 2) * (2 : Int32) = nI (i / 2 * 2) from pk_mul _ 2, pk_sub (by omega), show i - i / 2 * 2 = i % 2 by omega]
  · rw [if_neg (show ¬ nI k = (2 : Int32) from fun c => q (nI_small (b := 2) (by omega) (by omega) c)), if_neg q]
    rfl
def lo2 (m x v : Nat) : Nat := if v < (if x < m then x else m) then v else (if x < m then x else m)
def hi2 (m x v : Nat) : Nat := if (if m < x then x else m) < v then v else (if m < x then x else m)
theorem symM_s {fu k lg w N p P i b m0 m1 a5 m : Nat} {f x : Nat → Nat} {L ms : List Nat} {M : St} (hfu : 20000 ≤ fu) (hk : k < 3) (hs : SumOK f lg) (hw : w < 3) (hkw : k ≠ 0 → w = 0) (hlen : L.length = p + P) (hl4 : L.length ≤ 4000) (hby : ∀ b ∈ L, b < 256) (hi : i < N) (hN : N ≤ 1400) (hb : b ≤ tuN k P) (hx : ∀ e, e < nSN k → StOK k lg (x e)) (h0 : m0 < 2 ^ 31) (h1 : m1 < 2 ^ 31) (h5 : a5 < 2 ^ 31) (h : MdI M k lg w N p P f L i x m0 m1 a5 ms) :
    (flP k lg L p P 12 (lfN k f lg w (x (tnN k i))) b = none → ∃ M', f_X9_readsMessage_L56 fu (m + 1) (nI b) (nI (tuN k P)) (nI (lsN k lg)) (nI i) M = some (0, fauM M' 5 (p + P)) ∧ Fr [59, 61] M M') ∧
    (∀ v' b', flP k lg L p P 12 (lfN k f lg w (x (tnN k i))) b = some (v', b') → ∃ M', f_X9_readsMessage_L56 fu (m + 1) (nI b) (nI (tuN k P)) (nI (lsN k lg)) (nI i) M = f_X9_readsMessage_L56 fu m (nI b') (nI (tuN k P)) (nI (lsN k lg)) (nI (i + 1)) M' ∧ MdI M' k lg w N p P f L (i + 1) (upX x (tnN k i) v') (lo2 m0 (x (tnN k i)) v') (hi2 m1 (x (tnN k i)) v') (if a5 < b' - b then b' - b else a5) (ms ++ [smN k f lg w (x (tnN k i))]) ∧ Fr [58, 59, 61] M M') := by
  obtain ⟨⟨g28, g29, g30, g31, g32⟩, hT, hLM, hR, h58, ⟨t0, t1, t5⟩, hm, h61⟩ := h
  have hn := nSN_bd k
  have hcn := tn_lt k i
  obtain ⟨c, ec⟩ : ∃ z, z = tnN k i := ⟨_, rfl⟩
  rw [← ec] at hcn ⊢
  have hxc := hx c hcn
  obtain ⟨q1, q2⟩ := lf_pos hs hw hkw hxc
  have hx31 := hxc.lt hs.2.1
  have hls := lsN_bd (k := k) hs.2.1
  obtain ⟨M1, j1, j2, j3, j4, j5⟩ := meets_s hx31 h0 h1 t0 t1
  obtain ⟨M2, e2⟩ : ∃ z, z = puS M1 61 i (nI (smN k f lg w (x c))) := ⟨_, rfl⟩
  have f2 : Fr [61] M1 M2 := by rw [e2]; exact Fr.rf.pu (by simp)
  have F2 : Fr [59, 61] M M2 := (j2.mono (by simp)).tr (f2.mono (by simp))
  have hT1 : TabM M1 6 lg f := hT.of (j2 46 (by decide)) (j2 47 (by decide)) (j2 48 (by decide))
  have hLM1 : LM M1 f lg w 6 := hLM.of (j2 50 (by decide)) (j2 51 (by decide)) (j2 52 (by decide))
  have hgo : ∀ R, f_X9_readsMessage_L148 fu (f_X9_readsMessage_L56 fu m) fu (nI b) (nI (tuN k P)) (nI (lsN k lg)) (nI i) (nI c) (nI (lfN k f lg w (x c))) (nI 0) M2 = R → f_X9_readsMessage_L56 fu (m + 1) (nI b) (nI (tuN k P)) (nI (lsN k lg)) (nI i) M = R := by
    intro R hR'
    rw [f_X9_readsMessage_L56_s, g30, if_neg (by rw [nI_leI (by omega) (by omega)]; omega), g28, tnM_s hk (by omega), ← ec]
    unfold f_X9_readsMessage_L81
    rw [if_neg (nI_in (by omega) (by omega)), nI_clamp (by omega), pin_eq, h58 c hcn]
    refine e_bd j1 ?_
    rw [show M1 43 28 = nI k by rw [j2 43 (by decide)]; exact g28, show M1 43 29 = nI w by rw [j2 43 (by decide)]; exact g29]
    refine e_bd (told_s (t := 6) hfu hk hs hw hkw (by omega) hT1 hLM1 hxc) ?_
    rw [if_neg (nI_in (by omega) (by omega)), nI_clamp (by omega), pin_eq, ← e2, show M2 43 28 = nI k by rw [F2 43 (by decide)]; exact g28, show M2 43 29 = nI w by rw [F2 43 (by decide)]; exact g29]
    refine e_bd (behindM_s (t := 6) hk hs hw hkw (by omega) (hT1.of (f2 46 (by decide)) (f2 47 (by decide)) (f2 48 (by decide))) (hLM1.of (f2 50 (by decide)) (f2 51 (by decide)) (f2 52 (by decide))) hxc) ?_
    exact hR'
  obtain ⟨i1, i2⟩ := flM_loop (fu := fu) (v5 := nI i) (v6 := nI c) (K := f_X9_readsMessage_L56 fu m) (M := M2) hk hs.2.1 hlen hl4 hby (by rw [F2 43 (by decide)]; exact g28) (by rw [F2 43 (by decide)]; exact g31) (by rw [F2 43 (by decide)]; exact g32) (hR.of (by rw [F2 43 (by decide)]) (F2 44 (by decide))) 12 fu (lfN k f lg w (x c)) 0 b (by omega) (ls12 hs.2.1 q1) q2 hb
  refine ⟨fun q => ⟨M2, hgo _ (i1 q), F2⟩, fun v' b' q => ?_⟩
  obtain ⟨o1, o2, o3, o4⟩ := fl_ok hby hlen 12 _ b v' b' (ls12 hs.2.1 q1) q2 hb q
  have o5 := o1.lt hs.2.1
  obtain ⟨M3, l1, l2, l3, l4, l5⟩ := meets_s (x := v') (S := M2) (a0 := if x c < m0 then x c else m0) (a1 := if m1 < x c then x c else m1) o5 (by split <;> omega) (by split <;> omega) (by rw [f2 59 (by decide)]; exact j3) (by rw [f2 59 (by decide)]; exact j4)
  obtain ⟨M4, e4⟩ : ∃ z, z = puS M3 58 c (nI v') := ⟨_, rfl⟩
  have f4 : Fr [58] M3 M4 := by rw [e4]; exact Fr.rf.pu (by simp)
  have t5' : M4 59 5 = nI a5 := by rw [f4 59 (by decide), l5 5 (by decide) (by decide), f2 59 (by decide), j5 5 (by decide) (by decide)]; exact t5
  obtain ⟨M5, e5⟩ : ∃ z, z = puS M4 59 5 (nI (if a5 < b' - b then b' - b else a5)) := ⟨_, rfl⟩
  have f5 : Fr [59] M4 M5 := by rw [e5]; exact Fr.rf.pu (by simp)
  have F : Fr [58, 59, 61] M M5 := (F2.mono (by simp)).tr ((l2.mono (by simp)).tr ((f4.mono (by simp)).tr (f5.mono (by simp))))
  refine ⟨M5, hgo _ ?_, ⟨⟨by rw [F 43 (by decide)]; exact g28, by rw [F 43 (by decide)]; exact g29, by rw [F 43 (by decide)]; exact g30, by rw [F 43 (by decide)]; exact g31, by rw [F 43 (by decide)]; exact g32⟩, hT.of (F 46 (by decide)) (F 47 (by decide)) (F 48 (by decide)), hLM.of (F 50 (by decide)) (F 51 (by decide)) (F 52 (by decide)), hR.of (by rw [F 43 (by decide)]) (F 44 (by decide)), ?_, ⟨?_, ?_, ?_⟩, by rw [List.length_append, hm]; rfl, ?_⟩, F⟩
  · rw [i2 v' b' q, f_X9_readsMessage_L148_s, if_pos (nI_le o1.1 (by omega))]
    refine e_bd l1 ?_
    rw [if_neg (nI_in (by omega) (by omega)), nI_clamp (by omega), pin_eq, ← e4, t5', Nat.zero_add]
    have hz : ∀ t, t = nI (if a5 < b' - b then b' - b else a5) → f_X9_readsMessage_L285 fu (f_X9_readsMessage_L56 fu m) (nI b') (nI (tuN k P)) (nI (lsN k lg)) (nI i) t (5 : Int32) M4 = f_X9_readsMessage_L56 fu m (nI b') (nI (tuN k P)) (nI (lsN k lg)) (nI (i + 1)) M5 := fun t ht => by
      unfold f_X9_readsMessage_L285
      rw [show (5 : Int32) = nI 5 from rfl, if_neg (nI_in (by omega) (by omega)), nI_clamp (by omega), pin_eq, nI_1, pin_eq, ht, ← e5]
    by_cases qq : b' - b ≤ a5
    · rw [if_pos (nI_le qq (by omega)), hz _ (by rw [if_neg (by omega)])]
    · rw [if_neg (by rw [nI_leI (by omega) (by omega)]; exact qq), hz _ (by rw [if_pos (by omega)])]
  · intro e he
    rw [f5 58 (by decide), e4, puS_s]
    show upd (M3 58) c (nI v') e = nI (if e = c then v' else x e)
    by_cases qe : e = c
    · rw [if_pos qe, qe, upd_s]
    · rw [if_neg qe, upd_n qe, l2 58 (by decide), F2 58 (by decide)]
      exact h58 e he
  · rw [e5, puS_s, upd_n (by decide), f4 59 (by decide)]
    exact l3
  · rw [e5, puS_s, upd_n (by decide), f4 59 (by decide)]
    exact l4
  · rw [e5, puS_s, upd_s]
  · intro j hj
    rw [f5 61 (by decide), f4 61 (by decide), l2 61 (by decide), e2, puS_s]
    by_cases qj : j = i
    · rw [qj, upd_s, ← hm, getD_hi]
    · rw [upd_n qj, j2 61 (by decide), h61 j (by omega), getD_lo (by omega)]
