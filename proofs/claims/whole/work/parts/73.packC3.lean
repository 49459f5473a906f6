/-! pack: the PACKET -/
def kdN (f : Nat → Nat) (n : Nat) : Nat := fb_ct (fun s => decide (0 < f s)) n
theorem kdN_s (f : Nat → Nat) (n : Nat) : kdN f (n + 1) = kdN f n + (if f n = 0 then 0 else 1) := by
  unfold kdN
  rw [fb_ct_succ]
  by_cases q : f n = 0
  · rw [if_pos q, if_neg (by simp [q])]
  · rw [if_neg q, if_pos (by simp; omega)]
theorem kdN_le (f : Nat → Nat) (n : Nat) : kdN f n ≤ n := fb_ct_le _ n
def pkH (k lg w kd : Nat) : List Nat := ((([] ++ bys (83 : Int32) 1) ++ bys ((4 : Int32) * nI k + nI w) 1) ++ bys (nI lg) 1) ++ bys (nI kd - 1) 1
def shA (f : Nat → Nat) (A : List Nat) : Nat → List Nat
  | 0 => A
  | s + 1 => if f s = 0 then shA f A s else (shA f A s ++ bys (nI s) 1) ++ bys (nI (f s)) 2
theorem shA_len (f : Nat → Nat) (A : List Nat) : ∀ s, (shA f A s).length = A.length + 3 * kdN f s := by
  intro s
  induction s with
  | zero => rfl
  | succ s ih =>
    rw [kdN_s]
    unfold shA
    by_cases q : f s = 0
    · rw [if_pos q, if_pos q, ih]; rfl
    · rw [if_neg q, if_neg q, List.length_append, List.length_append, bys_len, bys_len, ih]; omega
def stA (k lg : Nat) (st : Nat → Nat) (A : List Nat) : List Nat := if k = 0 then A ++ bys (nI (st 0) - nI (2 ^ lg)) 2 else if k = 1 then A ++ bys (nI (st 0)) 4 else (A ++ bys (nI (st 0)) 4) ++ bys (nI (st 1)) 4
theorem stA_len (k lg : Nat) (st : Nat → Nat) (A : List Nat) : (stA k lg st A).length ≤ A.length + 8 := by
  unfold stA
  split
  · rw [List.length_append, bys_len]; omega
  · split
    · rw [List.length_append, bys_len]; omega
    · rw [List.length_append, List.length_append, bys_len, bys_len]; omega
def pkP (k : Nat) (f : Nat → Nat) (lg w : Nat) (L : List Nat) : Nat := (pkT k f lg w L L.length * wdN k + 7) / 8
def pkA (k : Nat) (f : Nat → Nat) (lg w : Nat) (L : List Nat) : List Nat := stA k lg (pkS k f lg w L L.length) ((shA f (pkH k lg w (kdN f 256)) 256 ++ bys (nI L.length) 2) ++ bys (nI (pkP k f lg w L)) 2)
def pkO (k : Nat) (f : Nat → Nat) (lg w : Nat) (L : List Nat) : List Nat := pkA k f lg w L ++ pbL k (pkL k f lg w L L.length) (pkP k f lg w L)
theorem pkH_len (k lg w kd : Nat) : (pkH k lg w kd).length = 4 := by unfold pkH; simp [bys_len]
theorem pkA_len (k : Nat) (f : Nat → Nat) (lg w : Nat) (L : List Nat) : (pkA k f lg w L).length ≤ 784 := by
  unfold pkA
  have h1 := stA_len k lg (pkS k f lg w L L.length) ((shA f (pkH k lg w (kdN f 256)) 256 ++ bys (nI L.length) 2) ++ bys (nI (pkP k f lg w L)) 2)
  rw [List.length_append, List.length_append, bys_len, bys_len, shA_len, pkH_len] at h1
  have := kdN_le f 256
  omega
theorem pk_cap {k lg w : Nat} {f : Nat → Nat} {L : List Nat} (hs : SumOK f lg) (hw : w < 3) (hl : L.length ≤ 1400) (hL : ∀ j, j < L.length → L.getD j 0 < 256 ∧ 1 ≤ f (L.getD j 0)) : pkT k f lg w L L.length ≤ 16800 ∧ pkP k f lg w L ≤ 2800 ∧ (∀ q, gpN k * q < pkT k f lg w L L.length → q < 2800) ∧ pkP k f lg w L * gpN k < pkT k f lg w L L.length + 8 ∧ (k = 0 → pkP k f lg w L = (pkT k f lg w L L.length + 7) / 8) ∧ (k ≠ 0 → pkP k f lg w L = pkT k f lg w L L.length) := by
  have hT := (pk_bounds (k := k) hs hw hL L.length (Nat.le_refl _)).2.2.2
  have hlg := hs.2.1
  unfold pkP
  by_cases k0 : k = 0
  · have e1 : bnN k lg = lg := if_pos k0
    have e2 : wdN k = 1 := if_pos k0
    have e3 : gpN k = 8 := if_pos k0
    rw [e1] at hT
    have : L.length * lg ≤ 1400 * 12 := Nat.mul_le_mul hl hlg
    rw [e2, e3]
    refine ⟨by omega, by omega, fun q hq => by omega, by omega, fun _ => by rw [Nat.mul_one], fun c => absurd k0 c⟩
  · have e1 : bnN k lg = 2 := if_neg k0
    have e2 : wdN k = 8 := if_neg k0
    have e3 : gpN k = 1 := if_neg k0
    rw [e1] at hT
    rw [e2, e3]
    refine ⟨by omega, by omega, fun q hq => by omega, by omega, fun c => absurd c k0, fun _ => by omega⟩
theorem RowC.nil {S : St} {k : Nat} {O : List Nat} (h : RowC S k O) : RowC (puS S k 1 (0 : Int32)) k [] := by
  refine ⟨by rw [puS_s, upd_s]; rfl, Nat.zero_le _, fun b hb => absurd hb (by simp), fun j hj => absurd hj (by simp), fun j hj => ?_⟩
  rw [puS_n (by omega)]
  exact h.2.2.2.2 j hj
theorem diff_loop {fu kt lg : Nat} {f : Nat → Nat} {S : St} (h : TabC S kt lg f) (hs : SumOK f lg) : ∀ (d i n : Nat), i + d = 256 → d < n → f_X6_different_L4 fu kt n (nI (kdN f i)) (nI i) S = some (nI (kdN f 256), S) := by
  intro d
  induction d with
  | zero =>
    intro i n hi hn
    obtain ⟨n, rfl⟩ : ∃ m, n = m + 1 := ⟨n - 1, by omega⟩
    have : i = 256 := by omega
    subst this
    rw [f_X6_different_L4_s, if_pos (by decide)]
  | succ d ih =>
    intro i n hi hn
    obtain ⟨n, rfl⟩ : ∃ m, n = m + 1 := ⟨n - 1, by omega⟩
    have hb := hs.le i (by omega)
    have hi' := ih (i + 1) n (by omega) (by omega)
    rw [kdN_s] at hi'
    rw [f_X6_different_L4_s, if_neg (lt256 (by omega)), if_neg (nI_in (by omega) (by omega)), nI_clamp (by omega), h.2 i (by omega)]
    unfold f_X6_different_L23
    by_cases q : f i = 0
    · rw [if_pos q] at hi'
      rw [if_pos (by rw [q]; decide), nI_1, pin_eq]
      exact hi'
    · rw [if_neg q] at hi'
      rw [if_neg (nI_nle (by omega) (by omega)), nI_1, pin_eq, nI_1, pin_eq]
      exact hi'
theorem pktC_shares {fu k kt lg w : Nat} {f : Nat → Nat} {A : List Nat} {n0 p0 : Nat} (hfu : 20000 ≤ fu) (hk : zx_tab kt = true) (hs : SumOK f lg) (hA : A.length = 4) : ∀ (d i n : Nat) (S : St), i + d = 256 → d < n → TabC S kt lg f → S 36 2 = nI n0 → S 36 4 = nI p0 → RowC S 3 (shA f A i) → ∃ S', f_X2_writePacket_L50 fu kt 3 n (nI i) S = f_X2_writePacket_L121 fu kt 3 fu (0 : Int32) S' ∧ RowC S' 3 ((shA f A 256 ++ bys (nI n0) 2) ++ bys (nI p0) 2) ∧ Fr [3, 4] S S' := by
  have hr := tab_rng hk
  have hkd := kdN_le f 256
  intro d
  induction d with
  | zero =>
    intro i n S hi hn h1 h2 h4 h3
    obtain ⟨n, rfl⟩ : ∃ m, n = m + 1 := ⟨n - 1, by omega⟩
    have : i = 256 := by omega
    subst this
    obtain ⟨S1, a1, a2, a3, -⟩ := addN_s (x := nI n0) (d := 2) hfu (by omega) h3 (by rw [shA_len, hA]; omega)
    obtain ⟨S2, b1, b2, b3, -⟩ := addN_s (x := nI p0) (d := 2) hfu (by omega) a2 (by rw [List.length_append, bys_len, shA_len, hA]; omega)
    refine ⟨S2, ?_, b2, a3.tr b3⟩
    rw [f_X2_writePacket_L50_s, if_pos (by decide), h2]
    refine e_bd a1 ?_
    rw [a3 36 (by decide), h4]
    exact e_bd b1 rfl
  | succ d ih =>
    intro i n S hi hn h1 h2 h4 h3
    obtain ⟨n, rfl⟩ : ∃ m, n = m + 1 := ⟨n - 1, by omega⟩
    have hb := hs.le i (by omega)
    have hkm : kdN f i ≤ 256 := Nat.le_trans (kdN_le f i) (by omega)
    rw [f_X2_writePacket_L50_s, if_neg (lt256 (by omega))]
    by_cases q : f i = 0
    · obtain ⟨S', b1, b2, b3⟩ := ih (i + 1) n S (by omega) (by omega) h1 h2 h4 (by rw [shA, if_pos q]; exact h3)
      refine ⟨S', ?_, b2, b3⟩
      refine e_bd (shareOf_s h1 (by omega)) ?_
      rw [if_pos (by rw [q]; decide)]
      unfold f_X2_writePacket_L84
      rw [nI_1, pin_eq]
      exact b1
    · obtain ⟨S1, a1, a2, a3, -⟩ := add_s (x := nI i) h3 (by rw [shA_len, hA]; omega)
      have t1 : TabC S1 kt lg f := h1.of (a3 kt (by simp; omega)) (a3 (kt + 1) (by simp; omega))
      obtain ⟨S2, c1, c2, c3, -⟩ := addN_s (x := nI (f i)) (d := 2) hfu (by omega) a2 (by rw [List.length_append, shA_len, hA]; simp; omega)
      have f2 := a3.tr c3
      obtain ⟨S', b1, b2, b3⟩ := ih (i + 1) n S2 (by omega) (by omega) (h1.of (f2 kt (by simp; omega)) (f2 (kt + 1) (by simp; omega))) (by rw [f2 36 (by decide)]; exact h2) (by rw [f2 36 (by decide)]; exact h4) (by rw [shA, if_neg q]; exact c2)
      refine ⟨S', ?_, b2, f2.tr b3⟩
      refine e_bd (shareOf_s h1 (by omega)) ?_
      rw [if_neg (nI_nle (by omega) (by omega))]
      refine e_bd a1 (e_bd (shareOf_s t1 (by omega)) (e_bd c1 ?_))
      unfold f_X2_writePacket_L84
      rw [nI_1, pin_eq]
      exact b1
theorem PkC.of {S S' : St} {k lg w d : Nat} {f : Nat → Nat} {L : List Nat} (h : PkC S k f lg w L d) (h1 : S' 36 = S 36) (h2 : S' 37 = S 37) (h3 : S' 38 = S 38) : PkC S' k f lg w L d := by
  unfold PkC at *
  rw [h1, h2, h3]
  exact h
theorem stC_s {fu k kt lg w : Nat} {f : Nat → Nat} {L A : List Nat} {S : St} (hfu : 20000 ≤ fu) (hk : k < 3) (hs : SumOK f lg) (hw : w < 3) (hl : L.length ≤ 1400) (hL : ∀ j, j < L.length → L.getD j 0 < 256 ∧ 1 ≤ f (L.getD j 0)) (hA : A.length ≤ 776) (hc : CdC S k lg) (hP : PkC S k f lg w L L.length) (hrow : RowC S 3 A) : ∃ S', f_X2_writePacket_L121 fu kt 3 fu (0 : Int32) S = some (0, S') ∧ RowC S' 3 (stA k lg (pkS k f lg w L L.length) A ++ pbL k (pkL k f lg w L L.length) (pkP k f lg w L)) ∧ Fr [3, 4] S S' := by
  obtain ⟨fu, rfl⟩ : ∃ m, fu = m + 3 := ⟨fu - 3, by omega⟩
  have cap := pk_cap (k := k) hs hw hl hL
  have base : ∀ S, CdC S k lg → f_X0_stateBase S = some (if k = 0 then nI (2 ^ lg) else 0, S) := by
    intro S h
    unfold f_X0_stateBase
    refine e_bd (isBT_s hk h) ?_
    by_cases k0 : k = 0
    · rw [if_pos k0, if_neg (by decide), if_pos k0, h.2.2.1, show lsN k lg = 2 ^ lg from if_pos k0]
    · rw [if_neg k0, if_pos rfl, if_neg k0]
  have nby : ∀ S, CdC S k lg → f_X0_stateBytes S = some (nI (if k = 0 then 2 else 4), S) := by
    intro S h
    unfold f_X0_stateBytes
    refine e_bd (isBT_s hk h) ?_
    by_cases k0 : k = 0
    · rw [if_pos k0, if_neg (by decide), if_pos k0]; rfl
    · rw [if_neg k0, if_pos rfl, if_neg k0]; rfl
  have cnt : ∀ S, CdC S k lg → f_X0_stateCount S = some (nI (if k = 2 then 2 else 1), S) := by
    intro S h
    unfold f_X0_stateCount
    rw [h.1]
    by_cases k0 : k = 2
    · rw [if_pos (by rw [k0]; rfl), if_pos k0]; rfl
    · rw [if_neg (show ¬ nI k = (2 : Int32) from fun c => k0 (nI_small (b := 2) (by omega) (by omega) c)), if_neg k0]; rfl
  have fin : ∀ n v S A, nI (if k = 2 then 2 else 1) ≤ v → CdC S k lg → PkC S k f lg w L L.length → RowC S 3 A → A.length ≤ 784 → ∃ S', f_X2_writePacket_L121 (fu + 3) kt 3 (n + 1) v S = some (0, S') ∧ RowC S' 3 (A ++ pbL k (pkL k f lg w L L.length) (pkP k f lg w L)) ∧ Fr [3, 4] S S' := by
    intro n v S A hv h1 h2 h3 h4
    obtain ⟨S', a, b, c⟩ := pay_s (fu := fu + 3) (k := k) (by omega) hs hw hl hL (fun q hq => by have := cap.2.2.1 q hq; omega) h2 h3
    refine ⟨S', ?_, b, c⟩
    rw [f_X2_writePacket_L121_s]
    refine e_bd (cnt S h1) ?_
    rw [if_pos hv, h1.2.2.2]
    exact e_bd a rfl
  have one : ∀ n i S (A : List Nat), i < (if k = 2 then 2 else 1) → CdC S k lg → PkC S k f lg w L L.length → RowC S 3 A → A.length ≤ 780 → ∃ S', f_X2_writePacket_L121 (fu + 3) kt 3 (n + 1) (nI i) S = f_X2_writePacket_L121 (fu + 3) kt 3 n (nI (i + 1)) S' ∧ RowC S' 3 (A ++ bys (nI (pkS k f lg w L L.length i) - (if k = 0 then nI (2 ^ lg) else 0)) (if k = 0 then 2 else 4)) ∧ Fr [3, 4] S S' := by
    intro n i S A hi h1 h2 h3 h4
    have hi2 : i < 2 := by split at hi <;> omega
    obtain ⟨S', a, b, c, -⟩ := addN_s (fu := fu + 3) (x := nI (pkS k f lg w L L.length i) - (if k = 0 then nI (2 ^ lg) else 0)) (d := if k = 0 then 2 else 4) (by omega) (by split <;> omega) h3 (by split <;> omega)
    refine ⟨S', ?_, b, c⟩
    rw [f_X2_writePacket_L121_s]
    refine e_bd (cnt S h1) ?_
    rw [if_neg (by rw [nI_leI (by split <;> omega) (by omega)]; omega), if_neg (nI_in hi2 (by omega)), nI_clamp (by omega), h2.1 i hi2]
    refine e_bd (base S h1) (e_bd (nby S h1) (e_bd a ?_))
    rw [nI_1, pin_eq]
  obtain ⟨S1, a1, a2, a3⟩ := one (fu + 2) 0 S A (by split <;> omega) hc hP hrow (by omega)
  have c1 : CdC S1 k lg := hc.ofc (a3 8 (by decide))
  have P1 : PkC S1 k f lg w L L.length := hP.of (a3 36 (by decide)) (a3 37 (by decide)) (a3 38 (by decide))
  by_cases k2 : k = 2
  · obtain ⟨S2, b1, b2, b3⟩ := one (fu + 1) 1 S1 _ (by rw [if_pos k2]; omega) c1 P1 a2 (by rw [List.length_append, bys_len]; split <;> omega)
    have f2 := a3.tr b3
    obtain ⟨S3, d1, d2, d3⟩ := fin fu (nI 2) S2 _ (by rw [if_pos k2]; decide) (hc.ofc (f2 8 (by decide))) (hP.of (f2 36 (by decide)) (f2 37 (by decide)) (f2 38 (by decide))) b2 (by rw [List.length_append, List.length_append, bys_len, bys_len]; split <;> omega)
    refine ⟨S3, a1.trans (b1.trans d1), ?_, f2.tr d3⟩
    unfold stA
    rw [if_neg (by omega), if_neg (by omega)]
    rw [if_neg (by omega), if_neg (by omega), Int32.sub_zero, Int32.sub_zero] at d2
    exact d2
  · obtain ⟨S3, d1, d2, d3⟩ := fin (fu + 1) (nI 1) S1 _ (by rw [if_neg k2]; decide) c1 P1 a2 (by rw [List.length_append, bys_len]; split <;> omega)
    refine ⟨S3, a1.trans d1, ?_, a3.tr d3⟩
    unfold stA
    by_cases k0 : k = 0
    · rw [if_pos k0]
      rw [if_pos k0, if_pos k0] at d2
      exact d2
    · rw [if_neg k0, if_pos (by omega)]
      rw [if_neg k0, if_neg k0, Int32.sub_zero] at d2
      exact d2
theorem packetC_s {fu k kt lg w : Nat} {f : Nat → Nat} {L O : List Nat} {S : St} (hfu : 20000 ≤ fu) (hk : k < 3) (hkt : zx_tab kt = true) (hs : SumOK f lg) (hw : w < 3) (hl : L.length ≤ 1400) (hL : ∀ j, j < L.length → L.getD j 0 < 256 ∧ 1 ≤ f (L.getD j 0)) (ht : TabC S kt lg f) (hc : CdC S k lg) (h98 : S 9 8 = nI w) (hP : PkC S k f lg w L L.length) (h4 : S 36 4 = nI (pkP k f lg w L)) (hrow : RowC S 3 O) : ∃ S', f_X2_writePacket fu kt 3 S = some (0, S') ∧ RowC S' 3 (pkO k f lg w L) ∧ Fr [3, 4] S S' := by
  have hr := tab_rng hkt
  have hkd := kdN_le f 256
  obtain ⟨S1, e1⟩ : ∃ z, z = puS S 3 1 (0 : Int32) := ⟨_, rfl⟩
  have r1 : RowC S1 3 [] := by rw [e1]; exact hrow.nil
  have f1 : Fr [3, 4] S S1 := by rw [e1]; exact Fr.rf.pu (by simp)
  obtain ⟨S2, a1, a2, a3, -⟩ := add_s (x := (83 : Int32)) r1 (by decide)
  have f2 := f1.tr a3
  obtain ⟨S3, b1, b2, b3, -⟩ := add_s (x := (4 : Int32) * nI k + nI w) a2 (by simp)
  have f3 := f2.tr b3
  obtain ⟨S4, c1, c2, c3, -⟩ := add_s (x := nI lg) b2 (by simp)
  have f4 := f3.tr c3
  obtain ⟨S5, d1, d2, d3, -⟩ := add_s (x := nI (kdN f 256) - 1) c2 (by simp)
  have f5 := f4.tr d3
  have tc : ∀ S', Fr [3, 4] S S' → TabC S' kt lg f := fun S' q => ht.of (q kt (by simp; omega)) (q (kt + 1) (by simp; omega))
  obtain ⟨S6, g1, g2, g3⟩ := pktC_shares (fu := fu) (k := k) (w := w) (A := pkH k lg w (kdN f 256)) (n0 := L.length) (p0 := pkP k f lg w L) hfu hkt hs (pkH_len _ _ _ _) 256 0 fu S5 (by omega) (by omega) (tc S5 f5) (by rw [f5 36 (by decide)]; exact hP.2.2.2.1) (by rw [f5 36 (by decide)]; exact h4) d2
  have f6 := f5.tr g3
  obtain ⟨S7, i1, i2, i3⟩ := stC_s (fu := fu) (kt := kt) hfu hk hs hw hl hL (by rw [List.length_append, List.length_append, bys_len, bys_len, shA_len, pkH_len]; omega) (hc.ofc (f6 8 (by decide))) (hP.of (f6 36 (by decide)) (f6 37 (by decide)) (f6 38 (by decide))) g2
  refine ⟨S7, ?_, i2, f6.tr i3⟩
  unfold f_X2_writePacket
  rw [pin_eq, ← e1]
  refine e_bd a1 ?_
  rw [f2 8 (by decide), f2 9 (by decide), hc.1, h98]
  refine e_bd b1 ?_
  rw [f3 kt (by simp; omega), ht.1]
  refine e_bd c1 ?_
  refine e_bd (diff_loop (fu := fu) (tc S4 f4) hs 256 0 fu (by omega) (by omega)) ?_
  refine e_bd d1 ?_
  exact g1.trans i1
