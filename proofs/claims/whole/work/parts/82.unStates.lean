/-! unpack: sizes, states, payload and the ends, in the class -/
def SzF (L : List Nat) (a r q : Nat) : Prop := (L.length < a + 2 ∧ r = 1 ∧ q = L.length) ∨ (a + 2 ≤ L.length ∧ 1400 < numN L a 2 ∧ r = 2 ∧ q = a) ∨ (a + 2 ≤ L.length ∧ numN L a 2 ≤ 1400 ∧ L.length < a + 4 ∧ r = 1 ∧ q = L.length)
def szT (fu : Nat) (S8 : St) : Option (Int32 × St) :=
  bnd (f_X1_readNumber fu (2 : Int32) S8) fun r10 S11 =>
  pin (puS S11 7 14 r10) fun S13 =>
  some ((0 : Int32), S13)
theorem sz_eq {fu : Nat} {v t : Int32} {S : St} : f_X1_readSizes_L30 fu v t S = bnd (f_X1_demand t (2 : Int32) v S) fun _ S8 => szT fu S8 := rfl
theorem szT_d {fu r q : Nat} {L : List Nat} {S : St} (h : Dd S L r q) : ∃ S', szT fu S = some (0, S') ∧ Dd S' L r q ∧ F7 [14] [] S S' := by
  have f : F7 [14] [] S (puS S 7 14 0) := F7.rf.p7 (by simp)
  refine ⟨_, ?_, h.of f (by simp) (by simp) (by simp), f⟩
  unfold szT
  refine e_bd (rdN_d h) ?_
  rw [pin_eq]
theorem sizes_d {fu r q : Nat} {L : List Nat} {S : St} (h : Dd S L r q) : ∃ S', f_X1_readSizes fu S = some (0, S') ∧ Dd S' L r q ∧ F7 [11, 14] [] S S' := by
  have f : F7 [11] [] S (puS S 7 11 0) := F7.rf.p7 (by simp)
  have d := h.of f (by simp) (by simp) (by simp)
  obtain ⟨S', a1, a2, a3⟩ := szT_d (fu := fu) d
  refine ⟨S', ?_, a2, (f.mono (by simp) (by simp)).tr (a3.mono (by simp) (by simp))⟩
  unfold f_X1_readSizes
  rw [pin_eq]
  refine e_bd (rdN_d h) ?_
  rw [pin_eq, sz_eq, sz_eq, demD d, demD d, ite_self, bnd_some]
  exact a1
theorem sizes_s {fu a : Nat} {L : List Nat} {S : St} (hfu : 20000 ≤ fu) (h : Lv S L a) (ha : a ≤ 10000) : (∃ r q S', SzF L a r q ∧ f_X1_readSizes fu S = some (0, S') ∧ Dd S' L r q ∧ F7 [6, 7, 8, 11, 14] [] S S') ∨ (a + 4 ≤ L.length ∧ numN L a 2 ≤ 1400 ∧ ∃ S', f_X1_readSizes fu S = some (0, S') ∧ Lv S' L (a + 4) ∧ S' 7 11 = nI (numN L a 2) ∧ S' 7 14 = nI (numN L (a + 2) 2) ∧ F7 [6, 7, 8, 11, 14] [] S S') := by
  have hb := h.1.2.2.1
  rcases rdN_s (k := 2) hfu (by omega) h (by omega) with ⟨l1, S1, a1, a2, a3⟩ | ⟨l1, S1, a1, a2, a3⟩
  · left
    have f : F7 [11] [] S1 (puS S1 7 11 0) := F7.rf.p7 (by simp)
    have d := a2.of f (by simp) (by simp) (by simp)
    obtain ⟨S', b1, b2, b3⟩ := szT_d (fu := fu) d
    refine ⟨1, L.length, S', Or.inl ⟨l1, rfl, rfl⟩, ?_, b2, (a3.mono (by simp) (by simp)).tr ((f.mono (by simp) (by simp)).tr (b3.mono (by simp) (by simp)))⟩
    unfold f_X1_readSizes
    rw [pin_eq]
    refine e_bd a1 ?_
    rw [pin_eq, sz_eq, sz_eq, demD d, demD d, ite_self, bnd_some]
    exact b1
  · have hg := num2_lt hb l1
    have f : F7 [11] [] S1 (puS S1 7 11 (nI (numN L a 2))) := F7.rf.p7 (by simp)
    have d := a2.of f (by simp) (by simp) (by simp) (by rw [f.2 8 (by simp)]; exact a2.2.2.2.2)
    have hgo : ∀ R, (if (1400 : Int32) < nI (numN L a 2) then f_X1_readSizes_L30 fu (nI a) (0 : Int32) (puS S1 7 11 (nI (numN L a 2))) else f_X1_readSizes_L30 fu (nI a) (1 : Int32) (puS S1 7 11 (nI (numN L a 2)))) = R → f_X1_readSizes fu S = R := by
      intro R hR
      unfold f_X1_readSizes
      rw [pin_eq]
      refine e_bd a1 ?_
      rw [pin_eq, h.2.2.2.2, show puS S1 7 11 (nI (numN L a 2)) 7 11 = nI (numN L a 2) by rw [puS_s, upd_s]]
      exact hR
    by_cases e : 1400 < numN L a 2
    · left
      obtain ⟨S2, b1, b2, b3⟩ := dem0 d (r := 2) (q := a) (by omega) (by omega)
      obtain ⟨S', c1, c2, c3⟩ := szT_d (fu := fu) b2
      refine ⟨2, a, S', Or.inr (Or.inl ⟨l1, e, rfl, rfl⟩), hgo _ ?_, c2, (a3.mono (by simp) (by simp)).tr ((f.mono (by simp) (by simp)).tr ((b3.mono (by simp) (by simp)).tr (c3.mono (by simp) (by simp))))⟩
      rw [if_pos (show (1400 : Int32) < nI (numN L a 2) by rw [show (1400 : Int32) = nI 1400 from rfl, nI_ltI (by omega) (by omega)]; exact e), sz_eq]
      exact e_bd b1 c1
    · have hgo2 : ∀ R, szT fu (puS S1 7 11 (nI (numN L a 2))) = R → f_X1_readSizes fu S = R := fun R hR => hgo R (by
        rw [if_neg (show ¬ (1400 : Int32) < nI (numN L a 2) by rw [show (1400 : Int32) = nI 1400 from rfl, nI_ltI (by omega) (by omega)]; exact e), sz_eq]
        exact e_bd (dem1 (by decide)) hR)
      rcases rdN_s (k := 2) hfu (by omega) d (by omega) with ⟨l2, S2, b1, b2, b3⟩ | ⟨l2, S2, b1, b2, b3⟩
      · left
        have f2 : F7 [14] [] S2 (puS S2 7 14 0) := F7.rf.p7 (by simp)
        refine ⟨1, L.length, _, Or.inr (Or.inr ⟨l1, by omega, by omega, rfl, rfl⟩), hgo2 _ ?_, b2.of f2 (by simp) (by simp) (by simp), (a3.mono (by simp) (by simp)).tr ((f.mono (by simp) (by simp)).tr ((b3.mono (by simp) (by simp)).tr (f2.mono (by simp) (by simp))))⟩
        unfold szT
        refine e_bd b1 ?_
        rw [pin_eq]
      · right
        have f2 : F7 [14] [] S2 (puS S2 7 14 (nI (numN L (a + 2) 2))) := F7.rf.p7 (by simp)
        refine ⟨by omega, by omega, _, hgo2 _ ?_, b2.of f2 (by simp) (by simp) (by simp) (by rw [f2.2 8 (by simp)]; exact b2.2.2.2.2), ?_, by rw [puS_s, upd_s], (a3.mono (by simp) (by simp)).tr ((f.mono (by simp) (by simp)).tr ((b3.mono (by simp) (by simp)).tr (f2.mono (by simp) (by simp))))⟩
        · unfold szT
          refine e_bd b1 ?_
          rw [pin_eq]
        · rw [f2.2 11 (by simp), b3.2 11 (by simp), puS_s, upd_s]
/-! the states -/
def nSN (k : Nat) : Nat := if k = 2 then 2 else 1
def sbN (k : Nat) : Nat := if k = 0 then 2 else 4
def baN (k lg : Nat) : Nat := if k = 0 then 2 ^ lg else 0
def vN (k lg : Nat) (L : List Nat) (a i : Nat) : Nat := baN k lg + numN L (a + i * sbN k) (sbN k)
theorem nSN_bd (k : Nat) : 1 ≤ nSN k ∧ nSN k ≤ 2 := by unfold nSN; split <;> omega
theorem sbN_bd (k : Nat) : 2 ≤ sbN k ∧ sbN k ≤ 4 := by unfold sbN; split <;> omega
theorem nI_inj32 {a b : Nat} (ha : a < 2 ^ 32) (hb : b < 2 ^ 32) (h : nI a = nI b) : a = b := by
  have h1 : BitVec.ofNat 32 a = BitVec.ofNat 32 b := congrArg Int32.toBitVec h
  have h2 := congrArg BitVec.toNat h1
  rw [BitVec.toNat_ofNat, BitVec.toNat_ofNat, Nat.mod_eq_of_lt ha, Nat.mod_eq_of_lt hb] at h2
  exact h2
theorem vN_lt {k lg a i : Nat} {L : List Nat} (hl : lg ≤ 12) (hb : ∀ b ∈ L, b < 256) (h : a + i * sbN k + sbN k ≤ L.length) : vN k lg L a i < 2 ^ 32 := by
  have h1 := num_lt hb (sbN k) h
  have h2 : 2 ^ lg ≤ 2 ^ 12 := Nat.pow_le_pow_right (by decide) hl
  unfold vN baN
  by_cases q : k = 0
  · have : sbN k = 2 := by unfold sbN; rw [if_pos q]
    rw [if_pos q]
    rw [this] at h1 ⊢
    omega
  · have : sbN k = 4 := by unfold sbN; rw [if_neg q]
    rw [if_neg q]
    rw [this] at h1 ⊢
    omega
theorem stCn_s {S : St} {k lg : Nat} (hk : k < 3) (h : CdC S k lg) : f_X0_stateCount S = some (nI (nSN k), S) := by
  unfold f_X0_stateCount nSN
  rw [h.1]
  by_cases q : k = 2
  · rw [if_pos (by rw [q]; rfl), if_pos q]
    rfl
  · rw [if_neg (show ¬ nI k = (2 : Int32) from fun c => q (nI_small (b := 2) (by omega) (by omega) c)), if_neg q]
    rfl
theorem stBs_s {S : St} {k lg : Nat} (hk : k < 3) (h : CdC S k lg) : f_X0_stateBase S = some (nI (baN k lg), S) := by
  unfold f_X0_stateBase baN
  refine e_bd (isBT_s hk h) ?_
  by_cases q : k = 0
  · rw [if_pos q, if_pos q, if_neg (by decide), h.2.2.1]
    unfold lsN
    rw [if_pos q]
  · rw [if_neg q, if_neg q, if_pos rfl]
    rfl
theorem stBy_s {S : St} {k lg : Nat} (hk : k < 3) (h : CdC S k lg) : f_X0_stateBytes S = some (nI (sbN k), S) := by
  unfold f_X0_stateBytes sbN
  refine e_bd (isBT_s hk h) ?_
  by_cases q : k = 0
  · rw [if_pos q, if_pos q, if_neg (by decide)]
    rfl
  · rw [if_neg q, if_neg q, if_pos rfl]
    rfl
theorem st_d {fu k lg r q : Nat} {L : List Nat} (hk : k < 3) (hl : lg ≤ 12) : ∀ (d i n : Nat) (S : St), i + d = nSN k → d < n → Dd S L r q → CdC S k lg → ∃ S', f_X1_readStates_L10 fu n (nI i) S = some (0, S') ∧ Dd S' L r q ∧ F7 [] [18] S S' := by
  have hn := nSN_bd k
  intro d
  induction d with
  | zero =>
    intro i n S hi hm h hc
    obtain ⟨n, rfl⟩ : ∃ e, n = e + 1 := ⟨n - 1, by omega⟩
    refine ⟨S, ?_, h, F7.rf⟩
    rw [f_X1_readStates_L10_s]
    refine e_bd (stCn_s hk hc) ?_
    rw [if_pos (nI_le (by omega) (by omega))]
  | succ d ih =>
    intro i n S hi hm h hc
    obtain ⟨n, rfl⟩ : ∃ e, n = e + 1 := ⟨n - 1, by omega⟩
    obtain ⟨S1, e1⟩ : ∃ y, y = puS S 18 i (nI (baN k lg) + 0) := ⟨_, rfl⟩
    have f1 : F7 [] [18] S S1 := by rw [e1]; exact F7.rf.pu (by simp) (by omega)
    have d1 : Dd S1 L r q := h.of f1 (by simp) (by simp) (by simp)
    have c1 : CdC S1 k lg := hc.ofc (f1.c (by simp))
    obtain ⟨S', b1, b2, b3⟩ := ih (i + 1) n S1 (by omega) (by omega) d1 c1
    refine ⟨S', ?_, b2, f1.tr b3⟩
    rw [f_X1_readStates_L10_s]
    refine e_bd (stCn_s hk hc) ?_
    rw [if_neg (by rw [nI_leI (by omega) (by omega)]; omega), pin_eq]
    refine e_bd (stBs_s hk hc) ?_
    refine e_bd (stBy_s hk hc) ?_
    refine e_bd (rdN_d h) ?_
    rw [if_neg (nI_in (by omega) (by omega)), nI_clamp (by omega), pin_eq, if_neg (nI_in2 (by omega) (by omega)), ← e1]
    rcases stateC_s hk hl c1 (S1 18 i) with ⟨g, -⟩ | ⟨_, _, _, g⟩
    · refine e_bd g ?_
      refine e_bd (demD d1 _ _ _) ?_
      rw [nI_1, pin_eq]
      exact b1
    · refine e_bd g ?_
      refine e_bd (demD d1 _ _ _) ?_
      rw [nI_1, pin_eq]
      exact b1
def StF (L : List Nat) (k lg a i r q : Nat) : Prop := ∃ j, i ≤ j ∧ j < nSN k ∧ (∀ e, i ≤ e → e < j → a + e * sbN k + sbN k ≤ L.length ∧ StOK k lg (vN k lg L a e)) ∧ ((L.length < a + j * sbN k + sbN k ∧ r = 1 ∧ q = L.length) ∨ (a + j * sbN k + sbN k ≤ L.length ∧ ¬ StOK k lg (vN k lg L a j) ∧ r = 4 ∧ q = a + j * sbN k))
def StK (L : List Nat) (k lg a i : Nat) : Prop := ∀ j, i ≤ j → j < nSN k → a + j * sbN k + sbN k ≤ L.length ∧ StOK k lg (vN k lg L a j)
theorem st_loop {fu k lg a : Nat} {L : List Nat} (hfu : 20000 ≤ fu) (hk : k < 3) (hl : lg ≤ 12) (ha : a ≤ 10000) : ∀ (d i n : Nat) (S : St), i + d = nSN k → d < n → Lv S L (a + i * sbN k) → CdC S k lg → (∀ j, j < i → S 18 j = nI (vN k lg L a j)) → (∃ r q S', StF L k lg a i r q ∧ f_X1_readStates_L10 fu n (nI i) S = some (0, S') ∧ Dd S' L r q ∧ F7 [6, 7, 8] [18] S S') ∨ (StK L k lg a i ∧ ∃ S', f_X1_readStates_L10 fu n (nI i) S = some (0, S') ∧ Lv S' L (a + nSN k * sbN k) ∧ (∀ j, j < nSN k → S' 18 j = nI (vN k lg L a j)) ∧ F7 [6, 7, 8] [18] S S') := by
  have hn := nSN_bd k
  have hs := sbN_bd k
  intro d
  induction d with
  | zero =>
    intro i n S hi hm h hc h18
    obtain ⟨n, rfl⟩ : ∃ e, n = e + 1 := ⟨n - 1, by omega⟩
    have : i = nSN k := by omega
    subst this
    right
    refine ⟨fun j j1 j2 => by omega, S, ?_, h, h18, F7.rf⟩
    rw [f_X1_readStates_L10_s]
    refine e_bd (stCn_s hk hc) ?_
    rw [if_pos (nI_le (by omega) (by omega))]
  | succ d ih =>
    intro i n S hi hm h hc h18
    obtain ⟨n, rfl⟩ : ∃ e, n = e + 1 := ⟨n - 1, by omega⟩
    have hb := h.1.2.2.1
    have hi4 : i * sbN k ≤ 8 := Nat.le_trans (Nat.mul_le_mul (show i ≤ 2 by omega) hs.2) (by decide)
    have hgo : ∀ R, (bnd (f_X1_readNumber fu (nI (sbN k)) S) fun r13 S14 => if (nI i < 0 ∨ 2 ≤ (nI i).toNatClampNeg) then none else pin (puS S14 18 (nI i).toNatClampNeg (nI (baN k lg) + r13)) fun S16 => if (nI i < 0 ∨ 2 ≤ (nI i).toNatClampNeg) then none else bnd (f_X0_isState (S16 18 (nI i).toNatClampNeg) S16) fun r19 S20 => bnd (f_X1_demand r19 (4 : Int32) (nI (a + i * sbN k)) S20) fun r22 S23 => pin (nI i + (1 : Int32)) fun x25 => f_X1_readStates_L10 fu n x25 S23) = R → f_X1_readStates_L10 fu (n + 1) (nI i) S = R := by
      intro R hR
      rw [f_X1_readStates_L10_s]
      refine e_bd (stCn_s hk hc) ?_
      rw [if_neg (by rw [nI_leI (by omega) (by omega)]; omega), pin_eq, h.2.2.2.2]
      refine e_bd (stBs_s hk hc) ?_
      exact e_bd (stBy_s hk hc) hR
    rcases rdN_s (k := sbN k) hfu (by omega) h (by omega) with ⟨l1, S1, a1, a2, a3⟩ | ⟨l1, S1, a1, a2, a3⟩
    · left
      obtain ⟨S2, e2⟩ : ∃ y, y = puS S1 18 i (nI (baN k lg) + 0) := ⟨_, rfl⟩
      have f2 : F7 [] [18] S1 S2 := by rw [e2]; exact F7.rf.pu (by simp) (by omega)
      have d2 : Dd S2 L 1 L.length := a2.of f2 (by simp) (by simp) (by simp)
      have c2 : CdC S2 k lg := hc.ofc (by rw [f2.c (by simp), a3.c (by simp)])
      obtain ⟨S', b1, b2, b3⟩ := st_d (fu := fu) hk hl d (i + 1) n S2 (by omega) (by omega) d2 c2
      refine ⟨1, L.length, S', ⟨i, Nat.le_refl _, by omega, fun e _ _ => by omega, Or.inl ⟨l1, rfl, rfl⟩⟩, hgo _ ?_, b2, (a3.mono (by simp) (by simp)).tr ((f2.mono (by simp) (by simp)).tr (b3.mono (by simp) (by simp)))⟩
      refine e_bd a1 ?_
      rw [if_neg (nI_in (by omega) (by omega)), nI_clamp (by omega), pin_eq, if_neg (nI_in2 (by omega) (by omega)), ← e2]
      rcases stateC_s hk hl c2 (S2 18 i) with ⟨g, -⟩ | ⟨_, _, _, g⟩
      · refine e_bd g ?_
        refine e_bd (demD d2 _ _ _) ?_
        rw [nI_1, pin_eq]
        exact b1
      · refine e_bd g ?_
        refine e_bd (demD d2 _ _ _) ?_
        rw [nI_1, pin_eq]
        exact b1
    · have hv := vN_lt (k := k) (i := i) hl hb l1
      obtain ⟨S2, e2⟩ : ∃ y, y = puS S1 18 i (nI (vN k lg L a i)) := ⟨_, rfl⟩
      have f2 : F7 [] [18] S1 S2 := by rw [e2]; exact F7.rf.pu (by simp) (by omega)
      have d2 : Lv S2 L (a + i * sbN k + sbN k) := a2.of f2 (by simp) (by simp) (by simp) (by rw [f2.2 8 (by simp)]; exact a2.2.2.2.2)
      have c2 : CdC S2 k lg := hc.ofc (by rw [f2.c (by simp), a3.c (by simp)])
      have h18' : ∀ j, j < i + 1 → S2 18 j = nI (vN k lg L a j) := fun j hj => by
        rw [e2, puS_s]
        by_cases q : j = i
        · rw [q, upd_s]
        · rw [upd_n q, a3.c (by simp)]
          exact h18 j (by omega)
      have hgo2 : ∀ R, (bnd (f_X0_isState (nI (vN k lg L a i)) S2) fun r19 S20 => bnd (f_X1_demand r19 (4 : Int32) (nI (a + i * sbN k)) S20) fun r22 S23 => f_X1_readStates_L10 fu n (nI (i + 1)) S23) = R → f_X1_readStates_L10 fu (n + 1) (nI i) S = R := fun R hR => hgo R (by
        refine e_bd a1 ?_
        rw [if_neg (nI_in (by omega) (by omega)), nI_clamp (by omega), pin_eq, if_neg (nI_in2 (by omega) (by omega)), nI_add, show baN k lg + numN L (a + i * sbN k) (sbN k) = vN k lg L a i from rfl, ← e2, h18' i (by omega)]
        simp only [nI_1, pin_eq]
        exact hR)
      rcases stateC_s hk hl c2 (nI (vN k lg L a i)) with ⟨g, g2⟩ | ⟨x, x1, x2, g⟩
      · left
        obtain ⟨S3, j1, j2, j3⟩ := dem0 d2 (r := 4) (q := a + i * sbN k) (by omega) (by omega)
        obtain ⟨S', b1, b2, b3⟩ := st_d (fu := fu) hk hl d (i + 1) n S3 (by omega) (by omega) j2 (c2.ofc (j3.c (by simp)))
        refine ⟨4, a + i * sbN k, S', ⟨i, Nat.le_refl _, by omega, fun e _ _ => by omega, Or.inr ⟨l1, fun c => g2 _ c rfl, rfl, rfl⟩⟩, hgo2 _ ?_, b2, (a3.mono (by simp) (by simp)).tr ((f2.mono (by simp) (by simp)).tr ((j3.mono (by simp) (by simp)).tr (b3.mono (by simp) (by simp))))⟩
        refine e_bd g ?_
        exact e_bd j1 b1
      · have xv : vN k lg L a i = x := nI_inj32 hv (by have := x1.lt hl; omega) x2
        rw [← xv] at x1
        have hok : StOK k lg (vN k lg L a i) := x1
        have F2 : F7 [6, 7, 8] [18] S S2 := (a3.mono (by simp) (by simp)).tr (f2.mono (by simp) (by simp))
        have hgo3 : ∀ R, f_X1_readStates_L10 fu n (nI (i + 1)) S2 = R → f_X1_readStates_L10 fu (n + 1) (nI i) S = R := fun R hR => hgo2 R (by
          refine e_bd g ?_
          exact e_bd (dem1 (by decide)) hR)
        rcases ih (i + 1) n S2 (by omega) (by omega) (by rw [Nat.succ_mul, ← Nat.add_assoc]; exact d2) c2 h18' with ⟨r, q, S', ⟨j, j1, j2, j3, j4⟩, b1, b2, b3⟩ | ⟨b0, S', b1, b2, b3, b4⟩
        · left
          refine ⟨r, q, S', ⟨j, by omega, j2, fun e e1 e2 => ?_, j4⟩, hgo3 _ b1, b2, F2.tr b3⟩
          by_cases ee : e = i
          · rw [ee]; exact ⟨l1, hok⟩
          · exact j3 e (by omega) e2
        · right
          refine ⟨fun j j1 j2 => ?_, S', hgo3 _ b1, b2, b3, F2.tr b4⟩
          by_cases ee : j = i
          · rw [ee]; exact ⟨l1, hok⟩
          · exact b0 j (by omega) j2
theorem states_s {fu k lg a : Nat} {L : List Nat} {S : St} (hfu : 20000 ≤ fu) (hk : k < 3) (hl : lg ≤ 12) (ha : a ≤ 10000) (h : Lv S L a) (hc : CdC S k lg) : (∃ r q S', StF L k lg a 0 r q ∧ f_X1_readStates fu S = some (0, S') ∧ Dd S' L r q ∧ F7 [6, 7, 8, 12] [18] S S') ∨ (StK L k lg a 0 ∧ ∃ S', f_X1_readStates fu S = some (0, S') ∧ Lv S' L (a + nSN k * sbN k) ∧ (∀ j, j < nSN k → S' 18 j = nI (vN k lg L a j)) ∧ S' 7 12 = nI a ∧ F7 [6, 7, 8, 12] [18] S S') := by
  have hn := nSN_bd k
  have f : F7 [12] [] S (puS S 7 12 (nI a)) := F7.rf.p7 (by simp)
  have d := h.of f (by simp) (by simp) (by simp) (a' := a + 0 * sbN k) (by rw [f.2 8 (by simp), Nat.zero_mul, Nat.add_zero]; exact h.2.2.2.2)
  have hgo : ∀ R, f_X1_readStates_L10 fu fu (nI 0) (puS S 7 12 (nI a)) = R → f_X1_readStates fu S = R := fun R hR => by
    unfold f_X1_readStates
    rw [pin_eq, h.2.2.2.2]
    exact hR
  rcases st_loop (fu := fu) hfu hk hl ha (nSN k) 0 fu _ (by omega) (by omega) d (hc.ofc (f.c (by simp))) (fun j hj => absurd hj (by omega)) with ⟨r, q, S', b0, b1, b2, b3⟩ | ⟨b0, S', b1, b2, b3, b4⟩
  · exact Or.inl ⟨r, q, S', b0, hgo _ b1, b2, (f.mono (by simp) (by simp)).tr (b3.mono (by simp) (by simp))⟩
  · exact Or.inr ⟨b0, S', hgo _ b1, b2, b3, by rw [b4.2 12 (by simp), puS_s, upd_s], (f.mono (by simp) (by simp)).tr (b4.mono (by simp) (by simp))⟩
