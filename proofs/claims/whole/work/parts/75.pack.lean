/-! pack: the reference's PACKET, and both -/
theorem kdM_loop {fu t lg k w : Nat} {f : Nat → Nat} {p0 p1 p2 v5 : Int32} {S : St} (hk : k < 3) (ht : t < 7) (h : TabM S t lg f) (hs : SumOK f lg) : ∀ (d i n : Nat), i + d = 256 → d < n → f_X9_pack_L308 fu p0 p1 p2 n (nI t) (nI k) (nI w) v5 (nI (kdN f i)) (nI i) S = f_X9_pack_L374 fu p0 p1 p2 (nI t) (nI k) (nI w) v5 (nI (kdN f 256)) (nI (if k = 0 then 2 else if k = 1 then 4 else 8)) (nI (8 + 3 * kdN f 256)) S := by
  intro d
  induction d with
  | zero =>
    intro i n hi hn
    obtain ⟨n, rfl⟩ : ∃ m, n = m + 1 := ⟨n - 1, by omega⟩
    have : i = 256 := by omega
    subst this
    rw [f_X9_pack_L308_s, if_pos (by decide), show (8 : Int32) + (3 : Int32) * nI (kdN f 256) = nI (8 + 3 * kdN f 256) by rw [show (3 : Int32) = nI 3 from rfl, show (8 : Int32) = nI 8 from rfl, pk_mul, nI_add]]
    by_cases k0 : k = 0
    · rw [if_pos (by rw [k0]; rfl), if_pos k0]; rfl
    · rw [if_neg (nI_ne0 (by omega) (by omega)), if_neg k0]
      by_cases k1 : k = 1
      · rw [if_pos (by rw [k1]; rfl), if_pos k1]; rfl
      · rw [if_neg (show ¬ nI k = (1 : Int32) from fun c => k1 (nI_small (b := 1) (by omega) (by omega) c)), if_neg k1]; rfl
  | succ d ih =>
    intro i n hi hn
    obtain ⟨n, rfl⟩ : ∃ m, n = m + 1 := ⟨n - 1, by omega⟩
    have hb := hs.le i (by omega)
    have hi' := ih (i + 1) n (by omega) (by omega)
    rw [kdN_s] at hi'
    rw [f_X9_pack_L308_s, if_neg (lt256 (by omega)), ix256, if_neg (nI_in (by omega) (by omega)), nI_clamp (by omega), h.2.1 i (by omega)]
    unfold f_X9_pack_L339
    by_cases q : f i = 0
    · rw [if_pos q] at hi'
      rw [if_pos (by rw [q]; decide), show nI (kdN f i) + (0 : Int32) = nI (kdN f i + 0) from nI_add _ 0, pin_eq, nI_1, pin_eq]
      exact hi'
    · rw [if_neg q] at hi'
      rw [if_neg (nI_nle (by omega) (by omega)), nI_1, pin_eq, nI_1, pin_eq]
      exact hi'
/-- frames of the reference's writing -/
def FrO (S S' : St) : Prop := Fr [43, 45] S S' ∧ ∀ j, j ≠ 3 → S' 43 j = S 43 j
theorem FrO.tr {S S1 S2 : St} (h1 : FrO S S1) (h2 : FrO S1 S2) : FrO S S2 := ⟨h1.1.tr h2.1, fun j hj => (h2.2 j hj).trans (h1.2 j hj)⟩
theorem pktM_shares {fu t lg n0 p0' : Nat} {f : Nat → Nat} {A : List Nat} {p0 p1 p2 v2 v5 : Int32} (hfu : 20000 ≤ fu) (ht : t < 7) (hs : SumOK f lg) (hA : A.length = 4) : ∀ (d i n : Nat) (S : St), i + d = 256 → d < n → TabM S t lg f → S 43 1 = nI n0 → S 59 4 = nI p0' → RowM S 45 3 (shA f A i) → ∃ S', f_X9_pack_L440 fu p0 p1 p2 n (nI t) v2 v5 (nI i) S = (if v2 = 0 then if (nI t < 0 ∨ 7 ≤ (nI t).toNatClampNeg) then none else bnd (f_X9_put fu ((S' 58 0) - ((1 : Int32) <<< ((S' 46 (nI t).toNatClampNeg) &&& 31))) (2 : Int32) S') fun r86 S87 => f_X9_pack_L556 fu p0 p1 p2 v2 v5 S87 else bnd (f_X9_put fu (S' 58 0) (4 : Int32) S') fun r61 S62 => f_X9_pack_L556 fu p0 p1 p2 v2 v5 S62) ∧ RowM S' 45 3 ((shA f A 256 ++ bys (nI n0) 2) ++ bys (nI p0') 2) ∧ FrO S S' := by
  have hkd := kdN_le f 256
  intro d
  induction d with
  | zero =>
    intro i n S hi hn h1 h2 h4 h3
    obtain ⟨n, rfl⟩ : ∃ m, n = m + 1 := ⟨n - 1, by omega⟩
    have : i = 256 := by omega
    subst this
    obtain ⟨S1, a1, a2, a3, a4⟩ := put_s (x := nI n0) (d := 2) hfu (by omega) h3 (by rw [shA_len, hA]; omega)
    obtain ⟨S2, b1, b2, b3, b4⟩ := put_s (x := nI p0') (d := 2) hfu (by omega) a2 (by rw [List.length_append, bys_len, shA_len, hA]; omega)
    refine ⟨S2, ?_, b2, FrO.tr ⟨a3, a4⟩ ⟨b3, b4⟩⟩
    rw [f_X9_pack_L440_s, if_pos (by decide), h2]
    refine e_bd a1 ?_
    rw [a3 59 (by decide), h4]
    exact e_bd b1 rfl
  | succ d ih =>
    intro i n S hi hn h1 h2 h4 h3
    obtain ⟨n, rfl⟩ : ∃ m, n = m + 1 := ⟨n - 1, by omega⟩
    have hb := hs.le i (by omega)
    have hkm : kdN f i ≤ 256 := Nat.le_trans (kdN_le f i) (by omega)
    rw [f_X9_pack_L440_s, if_neg (lt256 (by omega)), ix256, if_neg (nI_in (by omega) (by omega)), nI_clamp (by omega), h1.2.1 i (by omega)]
    by_cases q : f i = 0
    · obtain ⟨S', b1, b2, b3⟩ := ih (i + 1) n S (by omega) (by omega) h1 h2 h4 (by rw [shA, if_pos q]; exact h3)
      refine ⟨S', ?_, b2, b3⟩
      rw [if_pos (by rw [q]; rfl)]
      unfold f_X9_pack_L492
      rw [nI_1, pin_eq]
      exact b1
    · obtain ⟨S1, a1, a2, a3, a4⟩ := put_s (x := nI i) (d := 1) hfu (by omega) h3 (by rw [shA_len, hA]; omega)
      obtain ⟨S2, c1, c2, c3, c4⟩ := put_s (x := nI (f i)) (d := 2) hfu (by omega) a2 (by rw [List.length_append, shA_len, hA, bys_len]; omega)
      have F2 : FrO S S2 := FrO.tr ⟨a3, a4⟩ ⟨c3, c4⟩
      have f2 := F2.1
      obtain ⟨S', b1, b2, b3⟩ := ih (i + 1) n S2 (by omega) (by omega) (h1.of (f2 46 (by decide)) (f2 47 (by decide)) (f2 48 (by decide))) (by rw [F2.2 1 (by decide)]; exact h2) (by rw [f2 59 (by decide)]; exact h4) (by rw [shA, if_neg q]; exact c2)
      refine ⟨S', ?_, b2, F2.tr b3⟩
      rw [if_neg (nI_ne0 (by omega) (by omega))]
      refine e_bd a1 ?_
      rw [if_neg (nI_in2 (by omega) (by omega)), a3 47 (by decide), h1.2.1 i (by omega)]
      refine e_bd c1 ?_
      unfold f_X9_pack_L492
      rw [nI_1, pin_eq]
      exact b1
theorem tells_loop {fu : Nat} : ∀ (d i n : Nat) (S : St), i + d = 6 → d < n → (∀ j, j < i → S 56 j = S 59 j) → ∃ S', f_X9_tells_L2 fu n (nI i) S = some (0, S') ∧ (∀ j, j < 6 → S' 56 j = S 59 j) ∧ Fr [56] S S' := by
  intro d
  induction d with
  | zero =>
    intro i n S hi hn h
    obtain ⟨n, rfl⟩ : ∃ m, n = m + 1 := ⟨n - 1, by omega⟩
    have : i = 6 := by omega
    subst this
    refine ⟨S, ?_, h, Fr.rf⟩
    rw [f_X9_tells_L2_s, if_pos (by decide)]
  | succ d ih =>
    intro i n S hi hn h
    obtain ⟨n, rfl⟩ : ∃ m, n = m + 1 := ⟨n - 1, by omega⟩
    obtain ⟨S1, e1⟩ : ∃ z, z = puS S 56 i (S 59 i) := ⟨_, rfl⟩
    have f1 : Fr [56] S S1 := by rw [e1]; exact Fr.rf.pu (by simp)
    obtain ⟨S', a, b, c⟩ := ih (i + 1) n S1 (by omega) (by omega) (by
      intro j hj
      rw [f1 59 (by decide), e1, puS_s]
      by_cases q : j = i
      · rw [q, upd_s]
      · rw [upd_n q]; exact h j (by omega))
    refine ⟨S', ?_, fun j hj => by rw [b j hj, f1 59 (by decide)], f1.tr c⟩
    rw [f_X9_tells_L2_s, if_neg (by rw [show (6 : Int32) = nI 6 from rfl, nI_leI (by omega) (by omega)]; omega), if_neg (nI_in (by omega) (by omega)), if_neg (nI_in (by omega) (by omega)), nI_clamp (by omega), pin_eq, ← e1, nI_1, pin_eq]
    exact a
theorem tells_s {fu : Nat} {S : St} (hfu : 20000 ≤ fu) : ∃ S', f_X9_tells fu S = some (0, S') ∧ (∀ j, j < 6 → S' 56 j = S 59 j) ∧ Fr [56] S S' := tells_loop 6 0 fu S (by omega) (by omega) (fun j hj => by omega)
/-- one byte of the PAYLOAD, bit by bit -/
theorem bitM_loop {fu q T : Nat} {U : List Nat} {p0 p1 p2 : Int32} {K : Int32 → Int32 → Int32 → St → Option (Int32 × St)} {S : St} (hU : ∀ b ∈ U, b < 2 ^ wdN 0) (hT : U.length = T) (hT2 : T ≤ 16800) (hq : q ≤ 2800) (h57 : ∀ j, j < T → S 57 (17000 - T + j) = nI (U.getD j 0)) : ∀ (d i n : Nat), i + d = 8 → d < n → f_X9_pack_L592 fu p0 p1 p2 K n (nI 0) (nI (17000 - T)) (nI q) (nI (pa 0 U q i)) (nI i) S = f_X9_pack_L670 fu p0 p1 p2 K (nI 0) (nI (17000 - T)) (nI q) (nI (pa 0 U q 8)) S := by
  have hg : gpN 0 = 8 := rfl
  have hw : wdN 0 = 1 := rfl
  intro d
  induction d with
  | zero =>
    intro i n hi hn
    obtain ⟨n, rfl⟩ : ∃ m, n = m + 1 := ⟨n - 1, by omega⟩
    have : i = 8 := by omega
    subst this
    rw [f_X9_pack_L592_s, if_pos (by decide)]
    unfold f_X9_pack_L650
    rw [if_pos (by decide)]
  | succ d ih =>
    intro i n hi hn
    obtain ⟨n, rfl⟩ : ∃ m, n = m + 1 := ⟨n - 1, by omega⟩
    have hi' := ih (i + 1) n (by omega) (by omega)
    have ep : pa 0 U q (i + 1) = pa 0 U q i * 2 + U.getD (8 * q + i) 0 := rfl
    have e2 : (2 : Int32) * nI (pa 0 U q i) = nI (pa 0 U q i * 2) := by rw [show (2 : Int32) = nI 2 from rfl, pk_mul, Nat.mul_comm]
    have e77 : (nI (17000 - T) + ((8 : Int32) * nI q)) + nI i = nI (17000 - T + 8 * q + i) := by rw [show (8 : Int32) = nI 8 from rfl, pk_mul, nI_add, nI_add]
    rw [f_X9_pack_L592_s, if_neg (by rw [show (8 : Int32) = nI 8 from rfl, nI_leI (by omega) (by omega)]; omega), if_pos (by decide), e77, pin_eq, e2]
    unfold f_X9_pack_L641
    by_cases c : T ≤ 8 * q + i
    · rw [if_pos (show (17000 : Int32) ≤ nI (17000 - T + 8 * q + i) from nI_le (a := 17000) (by omega) (by omega)), show nI (pa 0 U q i * 2) + (0 : Int32) = nI (pa 0 U q i * 2 + 0) from nI_add _ 0, pin_eq, nI_1, pin_eq]
      rw [ep, getD_out (by omega)] at hi'
      exact hi'
    · rw [if_neg (by rw [show (17000 : Int32) = nI 17000 from rfl, nI_leI (by omega) (by omega)]; omega), if_neg (nI_in (by omega) (by omega)), nI_clamp (by omega), show 17000 - T + 8 * q + i = 17000 - T + (8 * q + i) by omega, h57 _ (by omega), nI_add, pin_eq, nI_1, pin_eq]
      rw [ep] at hi'
      exact hi'
theorem payM_loop {fu k T P : Nat} {U A : List Nat} {p0 p1 p2 : Int32} (hfu : 20000 ≤ fu) (hk : k < 3) (hU : ∀ b ∈ U, b < 2 ^ wdN k) (hT : U.length = T) (hT2 : T ≤ 16800) (hP2 : P ≤ 2800) (hP : k ≠ 0 → P = T) (hA : A.length ≤ 784) : ∀ (d q n : Nat) (S : St), q + d = P → d < n → S 59 4 = nI P → (∀ j, j < T → S 57 (17000 - T + j) = nI (U.getD j 0)) → RowM S 45 3 (A ++ pbL k U q) → ∃ S', f_X9_pack_L575 fu p0 p1 p2 n (nI k) (nI (17000 - T)) (nI q) S = some (nI (A ++ pbL k U P).length, S') ∧ RowM S' 45 3 (A ++ pbL k U P) ∧ (∀ j, j < 6 → S' 56 j = S 59 j) ∧ Fr [43, 45, 56] S S' ∧ ∀ j, j ≠ 3 → S' 43 j = S 43 j := by
  intro d
  induction d with
  | zero =>
    intro q n S hq hn h4 h57 hrow
    obtain ⟨n, rfl⟩ : ∃ m, n = m + 1 := ⟨n - 1, by omega⟩
    have : q = P := by omega
    subst this
    obtain ⟨S1, a1, a2, a3⟩ := tells_s (fu := fu) (S := S) hfu
    refine ⟨S1, ?_, hrow.of (by rw [a3 43 (by decide)]) (a3 45 (by decide)), a2, a3.mono (by simp), fun j _ => by rw [a3 43 (by decide)]⟩
    rw [f_X9_pack_L575_s, h4, if_pos (nI_le (Nat.le_refl _) (by omega))]
    refine e_bd a1 ?_
    rw [a3 43 (by decide), hrow.1]
  | succ d ih =>
    intro q n S hq hn h4 h57 hrow
    obtain ⟨n, rfl⟩ : ∃ m, n = m + 1 := ⟨n - 1, by omega⟩
    have hb := pa_byte hU q
    obtain ⟨S1, a1, a2, a3, a4⟩ := put_s (fu := fu) (x := nI (pa k U q (gpN k))) (d := 1) hfu (by omega) hrow (by rw [List.length_append, pbL_len]; omega)
    have r1 : RowM S1 45 3 (A ++ pbL k U (q + 1)) := by
      rw [show bys (nI (pa k U q (gpN k))) 1 = [by8 (nI (pa k U q (gpN k))) 0] from rfl, by8_s hb, List.append_assoc] at a2
      exact a2
    obtain ⟨S', b1, b2, b3, b4, b5⟩ := ih (q + 1) n S1 (by omega) (by omega) (by rw [a3 59 (by decide)]; exact h4) (fun j hj => by rw [a3 57 (by decide)]; exact h57 j hj) r1
    refine ⟨S', ?_, b2, fun j hj => by rw [b3 j hj, a3 59 (by decide)], (a3.mono (by simp)).tr b4, fun j hj => by rw [b5 j hj, a4 j hj]⟩
    have fin : f_X9_pack_L670 fu p0 p1 p2 (f_X9_pack_L575 fu p0 p1 p2 n) (nI k) (nI (17000 - T)) (nI q) (nI (pa k U q (gpN k))) S = some (nI (A ++ pbL k U P).length, S') := by
      unfold f_X9_pack_L670
      refine e_bd a1 ?_
      rw [nI_1, pin_eq]
      exact b1
    rw [f_X9_pack_L575_s, h4, if_neg (by rw [nI_leI (by omega) (by omega)]; omega)]
    by_cases k0 : k = 0
    · subst k0
      exact (bitM_loop (fu := fu) hU hT hT2 (by omega) h57 8 0 fu (by omega) (by omega)).trans fin
    · have eg : gpN k = 1 := if_neg k0
      have ep : pa k U q (gpN k) = U.getD q 0 := by
        rw [eg]
        show 0 * 2 ^ wdN k + U.getD (gpN k * q + 0) 0 = _
        rw [eg, Nat.zero_mul, Nat.zero_add, Nat.one_mul, Nat.add_zero]
      obtain ⟨g, rfl⟩ : ∃ m, fu = m + 1 := ⟨fu - 1, by omega⟩
      rw [f_X9_pack_L592_s, if_neg (by decide), if_neg (nI_ne0 (by omega) (by omega))]
      unfold f_X9_pack_L650
      have := hP k0
      rw [if_neg (nI_ne0 (by omega) (by omega)), nI_add, if_neg (nI_in (by omega) (by omega)), nI_clamp (by omega), h57 q (by omega), ← ep]
      exact fin
theorem packM_end {fu k lg w t : Nat} {f : Nat → Nat} {L O : List Nat} {p0 p1 p2 : Int32} {S : St} (hfu : 20000 ≤ fu) (hk : k < 3) (hs : SumOK f lg) (hw : w < 3) (ht : t < 7) (hl : L.length ≤ 1400) (hL : ∀ j, j < L.length → L.getD j 0 < 256 ∧ 1 ≤ f (L.getD j 0)) (h1 : RowM S 44 1 L) (h2 : TabM S t lg f) (h3 : RowM S 45 3 O) (hP : PkM S k f lg w L L.length) : ∃ S', f_X9_pack_L92 fu p0 p1 p2 1 (nI t) (nI k) (nI w) (nI (17000 - pkT k f lg w L L.length)) (nI 0 - 1) S = some (nI (pkO k f lg w L).length, S') ∧ RowM S' 45 3 (pkO k f lg w L) ∧ S' 56 0 = nI (pkmn k f lg w L L.length) ∧ S' 56 1 = nI (pkmx k f lg w L L.length) ∧ S' 56 2 = nI L.length ∧ S' 56 3 = nI (pkT k f lg w L L.length) ∧ S' 56 4 = nI (pkP k f lg w L) ∧ S' 56 5 = nI (pkmu k f lg w L L.length) ∧ Fr [43, 45, 56, 59] S S' ∧ ∀ j, j ≠ 3 → S' 43 j = S 43 j := by
  obtain ⟨T1, T2, T3, T4, T5, T6⟩ := pk_cap (k := k) hs hw hl hL
  have hkd := kdN_le f 256
  obtain ⟨S1, e1⟩ : ∃ z, z = puS (puS (puS S 59 2 (nI L.length)) 59 3 (nI (pkT k f lg w L L.length))) 59 4 (nI (pkP k f lg w L)) := ⟨_, rfl⟩
  have f1 : Fr [59] S S1 := by rw [e1]; exact ((Fr.rf.pu (by simp)).pu (by simp)).pu (by simp)
  have g1 : ∀ j, j ≠ 2 → j ≠ 3 → j ≠ 4 → S1 59 j = S 59 j := fun j a b c => by rw [e1]; simp [puS, upS, upd, a, b, c]
  have g2 : S1 59 2 = nI L.length := by rw [e1]; simp [puS, upS, upd]
  have g3 : S1 59 3 = nI (pkT k f lg w L L.length) := by rw [e1]; simp [puS, upS, upd]
  have g4 : S1 59 4 = nI (pkP k f lg w L) := by rw [e1]; simp [puS, upS, upd]
  obtain ⟨S2, e2⟩ : ∃ z, z = puS S1 43 3 (0 : Int32) := ⟨_, rfl⟩
  have f2 : Fr [43] S1 S2 := by rw [e2]; exact Fr.rf.pu (by simp)
  have x2 : ∀ j, j ≠ 3 → S2 43 j = S 43 j := fun j hj => by rw [e2, puS_s, upd_n hj, f1 43 (by decide)]
  have r2 : RowM S2 45 3 [] := ⟨by rw [e2, puS_s, upd_s]; rfl, fun j hj => absurd hj (by simp)⟩
  obtain ⟨S3, a1, a2, a3, a4⟩ := put_s (fu := fu) (x := (83 : Int32)) (d := 1) hfu (by omega) r2 (by simp)
  obtain ⟨S4, b1, b2, b3, b4⟩ := put_s (fu := fu) (x := (4 : Int32) * nI k + nI w) (d := 1) hfu (by omega) a2 (by simp [bys_len])
  obtain ⟨S5, c1, c2, c3, c4⟩ := put_s (fu := fu) (x := nI lg) (d := 1) hfu (by omega) b2 (by simp [bys_len])
  obtain ⟨S6, d1, d2, d3, d4⟩ := put_s (fu := fu) (x := nI (kdN f 256) - 1) (d := 1) hfu (by omega) c2 (by simp [bys_len])
  have F4 : FrO S2 S4 := FrO.tr ⟨a3, a4⟩ ⟨b3, b4⟩
  have F6 : FrO S2 S6 := F4.tr (FrO.tr ⟨c3, c4⟩ ⟨d3, d4⟩)
  have tm : ∀ S', FrO S2 S' → TabM S' t lg f := fun S' q => h2.of (by rw [q.1 46 (by decide), f2 46 (by decide), f1 46 (by decide)]) (by rw [q.1 47 (by decide), f2 47 (by decide), f1 47 (by decide)]) (by rw [q.1 48 (by decide), f2 48 (by decide), f1 48 (by decide)])
  obtain ⟨S7, i1, i2, i3⟩ := pktM_shares (fu := fu) (p0 := p0) (p1 := p1) (p2 := p2) (v2 := nI k) (v5 := nI (17000 - pkT k f lg w L L.length)) (n0 := L.length) (p0' := pkP k f lg w L) (A := pkH k lg w (kdN f 256)) hfu ht hs (pkH_len _ _ _ _) 256 0 fu S6 (by omega) (by omega) (tm S6 F6) (by rw [F6.2 1 (by decide), x2 1 (by decide)]; exact h1.1) (by rw [F6.1 59 (by decide), f2 59 (by decide)]; exact g4) d2
  have F7 := F6.tr i3
  have s58 : ∀ S', FrO S2 S' → ∀ j, j < 2 → S' 58 j = nI (pkS k f lg w L L.length j) := fun S' q j hj => by rw [q.1 58 (by decide), f2 58 (by decide), f1 58 (by decide)]; exact hP.1 j hj
  have alen : ((shA f (pkH k lg w (kdN f 256)) 256 ++ bys (nI L.length) 2) ++ bys (nI (pkP k f lg w L)) 2).length ≤ 776 := by rw [List.length_append, List.length_append, bys_len, bys_len, shA_len, pkH_len]; omega
  have pay : ∀ S8, FrO S2 S8 → RowM S8 45 3 (pkA k f lg w L) → ∃ S', f_X9_pack_L572 fu p0 p1 p2 (nI k) (nI (17000 - pkT k f lg w L L.length)) S8 = some (nI (pkO k f lg w L).length, S') ∧ RowM S' 45 3 (pkO k f lg w L) ∧ (∀ j, j < 6 → S' 56 j = S1 59 j) ∧ Fr [43, 45, 56] S8 S' ∧ ∀ j, j ≠ 3 → S' 43 j = S8 43 j := by
    intro S8 F8 r8
    obtain ⟨S', j1, j2, j3, j4, j5⟩ := payM_loop (fu := fu) (p0 := p0) (p1 := p1) (p2 := p2) hfu hk (pkL_lt k f lg w L L.length) (pkL_len k f lg w L L.length) T1 T2 T6 (pkA_len k f lg w L) (pkP k f lg w L) 0 fu S8 (by omega) (by omega) (by rw [F8.1 59 (by decide), f2 59 (by decide)]; exact g4) (fun j hj => by rw [F8.1 57 (by decide), f2 57 (by decide), f1 57 (by decide)]; exact hP.2.2.2.2 j hj) (by simpa [pbL] using r8)
    exact ⟨S', j1, j2, fun j hj => by rw [j3 j hj, F8.1 59 (by decide), f2 59 (by decide)], j4, j5⟩
  have all : ∃ S', f_X9_pack_L440 fu p0 p1 p2 fu (nI t) (nI k) (nI (17000 - pkT k f lg w L L.length)) (nI 0) S6 = some (nI (pkO k f lg w L).length, S') ∧ RowM S' 45 3 (pkO k f lg w L) ∧ (∀ j, j < 6 → S' 56 j = S1 59 j) ∧ Fr [43, 45, 56] S2 S' ∧ ∀ j, j ≠ 3 → S' 43 j = S2 43 j := by
    rw [i1]
    by_cases k0 : k = 0
    · obtain ⟨S8, j1, j2, j3, j4⟩ := put_s (fu := fu) (x := nI (pkS k f lg w L L.length 0) - nI (2 ^ lg)) (d := 2) hfu (by omega) i2 (by omega)
      have F8 : FrO S2 S8 := F7.tr ⟨j3, j4⟩
      obtain ⟨S', m1, m2, m3, m4, m5⟩ := pay S8 F8 (by unfold pkA stA; rw [if_pos k0]; exact j2)
      refine ⟨S', ?_, m2, m3, (F8.1.mono (by simp)).tr m4, fun j hj => by rw [m5 j hj, F8.2 j hj]⟩
      rw [if_pos (by rw [k0]; rfl), if_neg (nI_in (by omega) (by omega)), nI_clamp (by omega), s58 S7 F7 0 (by omega), (tm S7 F7).1, show (1 : Int32) <<< (nI lg &&& 31) = nI (2 ^ lg) from shl1 hs.2.1]
      refine e_bd j1 ?_
      unfold f_X9_pack_L556
      rw [if_neg (by rw [k0]; decide)]
      exact m1
    · obtain ⟨S8, j1, j2, j3, j4⟩ := put_s (fu := fu) (x := nI (pkS k f lg w L L.length 0)) (d := 4) hfu (by omega) i2 (by omega)
      have F8 : FrO S2 S8 := F7.tr ⟨j3, j4⟩
      by_cases k2 : k = 2
      · obtain ⟨S9, q1, q2, q3, q4⟩ := put_s (fu := fu) (x := nI (pkS k f lg w L L.length 1)) (d := 4) hfu (by omega) j2 (by rw [List.length_append, bys_len]; omega)
        have F9 : FrO S2 S9 := F8.tr ⟨q3, q4⟩
        obtain ⟨S', m1, m2, m3, m4, m5⟩ := pay S9 F9 (by unfold pkA stA; rw [if_neg k0, if_neg (by omega)]; exact q2)
        refine ⟨S', ?_, m2, m3, (F9.1.mono (by simp)).tr m4, fun j hj => by rw [m5 j hj, F9.2 j hj]⟩
        rw [if_neg (nI_ne0 (by omega) (by omega)), s58 S7 F7 0 (by omega)]
        refine e_bd j1 ?_
        unfold f_X9_pack_L556
        rw [if_pos (by rw [k2]; rfl), s58 S8 F8 1 (by omega)]
        refine e_bd q1 ?_
        exact m1
      · obtain ⟨S', m1, m2, m3, m4, m5⟩ := pay S8 F8 (by unfold pkA stA; rw [if_neg k0, if_pos (by omega)]; exact j2)
        refine ⟨S', ?_, m2, m3, (F8.1.mono (by simp)).tr m4, fun j hj => by rw [m5 j hj, F8.2 j hj]⟩
        rw [if_neg (nI_ne0 (by omega) (by omega)), s58 S7 F7 0 (by omega)]
        refine e_bd j1 ?_
        unfold f_X9_pack_L556
        rw [if_neg (show ¬ nI k = (2 : Int32) from fun c => k2 (nI_small (b := 2) (by omega) (by omega) c))]
        exact m1
  obtain ⟨S', m1, m2, m3, m4, m5⟩ := all
  refine ⟨S', ?_, m2, by rw [m3 0 (by omega), g1 0 (by omega) (by omega) (by omega)]; exact hP.2.1, by rw [m3 1 (by omega), g1 1 (by omega) (by omega) (by omega)]; exact hP.2.2.1, by rw [m3 2 (by omega)]; exact g2, by rw [m3 3 (by omega)]; exact g3, by rw [m3 4 (by omega)]; exact g4, by rw [m3 5 (by omega), g1 5 (by omega) (by omega) (by omega)]; exact hP.2.2.2.1, (f1.mono (by simp)).tr ((f2.mono (by simp)).tr (m4.mono (by simp))), fun j hj => by rw [m5 j hj, x2 j hj]⟩
  have last : f_X9_pack_L308 fu p0 p1 p2 fu (nI t) (nI k) (nI w) (nI (17000 - pkT k f lg w L L.length)) (0 : Int32) (0 : Int32) S1 = some (nI (pkO k f lg w L).length, S') := by
    have t1 : TabM S1 t lg f := h2.of (f1 46 (by decide)) (f1 47 (by decide)) (f1 48 (by decide))
    refine (kdM_loop (fu := fu) (w := w) hk ht t1 hs 256 0 fu (by omega) (by omega)).trans ?_
    unfold f_X9_pack_L374
    rw [g4, nI_add, nI_add, pin_eq, if_pos (show nI _ ≤ (4000 : Int32) from nI_le (b := 4000) (by split <;> (try split) <;> omega) (by decide)), pin_eq, ← e2]
    refine e_bd a1 (e_bd b1 ?_)
    rw [if_neg (nI_in (by omega) (by omega)), nI_clamp (by omega), (tm S4 F4).1]
    refine e_bd c1 (e_bd d1 ?_)
    exact m1
  rw [f_X9_pack_L92_s, if_pos (by decide), h1.1, show (17000 : Int32) - nI (17000 - pkT k f lg w L L.length) = nI (pkT k f lg w L L.length) from by rw [show (17000 : Int32) = nI 17000 from rfl, pk_sub (by omega)]; congr 1; omega, pin_eq, pin_eq]
  have e593 : puS (puS S 59 2 (nI L.length)) 59 3 (nI (pkT k f lg w L L.length)) 59 3 = nI (pkT k f lg w L L.length) := by rw [puS_s, upd_s]
  unfold f_X9_pack_L301
  by_cases k0 : k = 0
  · rw [if_pos (by rw [k0]; rfl), if_neg (by decide), e593, show nI (pkT k f lg w L L.length) + (7 : Int32) = nI (pkT k f lg w L L.length + 7) from nI_add _ 7, show nI (pkT k f lg w L L.length + 7) / (8 : Int32) = nI ((pkT k f lg w L L.length + 7) / 8) from pk_div (d := 8) (by omega) (by omega) (by omega), ← T5 k0, pin_eq, show (4 : Int32).toNatClampNeg = 4 from rfl, ← e1]
    exact last
  · rw [if_neg (nI_ne0 (by omega) (by omega)), if_neg (by decide), e593]
    rw [T6 k0] at e1
    rw [pin_eq, show (4 : Int32).toNatClampNeg = 4 from rfl, ← e1]
    exact last
