/-! pack in the reference -/
theorem getD_appL {A B : List Nat} {j : Nat} (h : j < A.length) : (A ++ B).getD j 0 = A.getD j 0 := by
  rw [List.getD_eq_getElem?_getD, List.getD_eq_getElem?_getD, List.getElem?_append_left h]
theorem getD_appR {A B : List Nat} {j : Nat} : (A ++ B).getD (A.length + j) 0 = B.getD j 0 := by
  rw [List.getD_eq_getElem?_getD, List.getD_eq_getElem?_getD, List.getElem?_append_right (by omega), Nat.add_sub_cancel_left]
theorem put_loop {fu : Nat} {p q x : Int32} : ∀ (d n : Nat) (S : St) (A : List Nat), d ≤ 4 → d < n → RowM S 45 3 A → A.length + d ≤ 4000 → ∃ S', f_X9_put_L4 fu p q n x (nI d - 1) S = some (0, S') ∧ RowM S' 45 3 (A ++ bys x d) ∧ Fr [43, 45] S S' ∧ ∀ j, j ≠ 3 → S' 43 j = S 43 j := by
  intro d
  induction d with
  | zero =>
    intro n S A hd hn h hl
    obtain ⟨n, rfl⟩ : ∃ m, n = m + 1 := ⟨n - 1, by omega⟩
    refine ⟨S, ?_, by simpa [bys] using h, Fr.rf, fun _ _ => rfl⟩
    rw [f_X9_put_L4_s, if_pos (by decide)]
  | succ d ih =>
    intro n S A hd hn h hl
    obtain ⟨n, rfl⟩ : ∃ m, n = m + 1 := ⟨n - 1, by omega⟩
    obtain ⟨S1, e1⟩ : ∃ z, z = puS (puS S 45 A.length (nI (by8 x d))) 43 3 (nI (A.length + 1)) := ⟨_, rfl⟩
    have f1 : Fr [43, 45] S S1 := by rw [e1]; exact (Fr.rf.pu (by simp)).pu (by simp)
    have g1 : ∀ j, j ≠ 3 → S1 43 j = S 43 j := fun j hj => by rw [e1, puS_s, upd_n hj, puS_n (by decide)]
    have r1 : RowM S1 45 3 (A ++ [by8 x d]) := by
      refine ⟨by rw [e1, puS_s, upd_s]; simp, fun j hj => ?_⟩
      rw [e1, puS_n (by decide), puS_s]
      simp only [List.length_append, List.length_cons, List.length_nil] at hj
      by_cases q : j = A.length
      · rw [q, upd_s, getD_hi]
      · rw [upd_n q, getD_lo (by omega)]
        exact h.2 j (by omega)
    obtain ⟨S', a1, a2, a3, a4⟩ := ih n S1 (A ++ [by8 x d]) (by omega) (by omega) r1 (by simp; omega)
    refine ⟨S', ?_, by rw [List.append_assoc] at a2; exact a2, f1.tr a3, fun j hj => by rw [a4 j hj, g1 j hj]⟩
    rw [nI_pred, f_X9_put_L4_s, if_neg (nI_pos (by omega)), h.1, if_neg (nI_in (by omega) (by omega)), nI_clamp (by omega), show (x >>> (((8 : Int32) * nI d) &&& 31)) &&& (255 : Int32) = nI (by8 x d) from asr_by x (by omega), pin_eq, puS_n (show 43 ≠ 45 by decide), h.1, nI_1, pin_eq, ← e1, show nI d + (-1 : Int32) = nI d - 1 from by rw [Int32.sub_eq_add_neg], pin_eq]
    exact a1
theorem put_s {fu d : Nat} {x : Int32} {S : St} {A : List Nat} (hfu : 20000 ≤ fu) (hd : d ≤ 4) (h : RowM S 45 3 A) (hl : A.length + d ≤ 4000) : ∃ S', f_X9_put fu x (nI d) S = some (0, S') ∧ RowM S' 45 3 (A ++ bys x d) ∧ Fr [43, 45] S S' ∧ ∀ j, j ≠ 3 → S' 43 j = S 43 j := by
  obtain ⟨S', a, b⟩ := put_loop (fu := fu) (p := x) (q := nI d) (x := x) d fu S A hd (by omega) h hl
  exact ⟨S', a, b⟩
def PkM (S : St) (k : Nat) (f : Nat → Nat) (lg w : Nat) (L : List Nat) (d : Nat) : Prop := (∀ t, t < 2 → S 58 t = nI (pkS k f lg w L d t)) ∧ S 59 0 = nI (pkmn k f lg w L d) ∧ S 59 1 = nI (pkmx k f lg w L d) ∧ S 59 5 = nI (pkmu k f lg w L d) ∧ ∀ q, q < pkT k f lg w L d → S 57 (17000 - pkT k f lg w L d + q) = nI ((pkL k f lg w L d).getD q 0)
theorem meets_s {x a0 a1 : Nat} {S : St} (hx : x < 2 ^ 31) (h0 : a0 < 2 ^ 31) (h1 : a1 < 2 ^ 31) (e0 : S 59 0 = nI a0) (e1 : S 59 1 = nI a1) : ∃ S', f_X9_meets (nI x) S = some (0, S') ∧ Fr [59] S S' ∧ S' 59 0 = nI (if x < a0 then x else a0) ∧ S' 59 1 = nI (if a1 < x then x else a1) ∧ ∀ j, j ≠ 0 → j ≠ 1 → S' 59 j = S 59 j := by
  refine ⟨puS (puS S 59 0 (nI (if x < a0 then x else a0))) 59 1 (nI (if a1 < x then x else a1)), ?_, (Fr.rf.pu (by simp)).pu (by simp), by simp [puS, upS, upd], by simp [puS, upS, upd], fun j j0 j1 => by simp [puS, upS, upd, j0, j1]⟩
  have tail : f_X9_meets_L25 (nI x) (nI x) (nI (if x < a0 then x else a0)) (0 : Int32) S = some (0, puS (puS S 59 0 (nI (if x < a0 then x else a0))) 59 1 (nI (if a1 < x then x else a1))) := by
    unfold f_X9_meets_L25
    rw [if_neg (by decide), pin_eq, show (0 : Int32).toNatClampNeg = 0 from rfl, show puS S 59 0 (nI (if x < a0 then x else a0)) 59 1 = nI a1 by rw [puS_s, upd_n (by decide)]; exact e1]
    by_cases q : a1 < x
    · rw [if_neg (by rw [nI_leI hx h1]; omega), if_pos q, pin_eq]
    · rw [if_pos (nI_le (by omega) h1), if_neg q, pin_eq]
  unfold f_X9_meets
  rw [e0]
  by_cases q : x < a0
  · rw [if_neg (by rw [nI_leI h0 hx]; omega)]
    rw [if_pos q] at tail ⊢
    exact tail
  · rw [if_pos (nI_le (by omega) hx)]
    rw [if_neg q] at tail ⊢
    exact tail
theorem dg_get {W u v q : Nat} {R : List Nat} : (dg W (u + 1) v ++ R).getD (q + 1) 0 = (dg W u v ++ R).getD q 0 := by
  show (_ :: (dg W u v ++ R)).getD (q + 1) 0 = _
  rfl
/-- the UNITS of one SYMBOL go into the row, from its end on -/
theorem unitsM_loop {fu k u v T x : Nat} {R : List Nat} {p0 p1 p2 v1 v2 v3 v6 v7 : Int32} {K : Int32 → Int32 → Int32 → Int32 → Int32 → St → Option (Int32 × St)} (hu : wdN k * u ≤ 16) (hu2 : u ≤ 12) (hv : v < 65536) (hR : R.length = T) (hT : T + u ≤ 17000) : ∀ (e j n : Nat) (S : St), j + e = u → e < n → S 43 20 = nI u → S 43 21 = nI v → S 43 22 = nI x → (∀ q, q < T + j → S 57 (17000 - (T + j) + q) = nI ((dg (wdN k) j v ++ R).getD q 0)) → ∃ S', f_X9_pack_L148 fu p0 p1 p2 K n v1 v2 v3 (nI (17000 - (T + j))) v6 v7 (nI (wdN k)) (nI j) S = f_X9_pack_L148 fu p0 p1 p2 K 1 v1 v2 v3 (nI (17000 - (T + u))) v6 v7 (nI (wdN k)) (nI u) S' ∧ (∀ q, q < T + u → S' 57 (17000 - (T + u) + q) = nI ((dg (wdN k) u v ++ R).getD q 0)) ∧ Fr [57] S S' := by
  obtain ⟨w1, w2, w3, w4, w5⟩ := wg_8 k
  intro e
  induction e with
  | zero =>
    intro j n S hj hn h20 h21 h22 h57
    obtain ⟨n, rfl⟩ : ∃ m, n = m + 1 := ⟨n - 1, by omega⟩
    have : j = u := by omega
    subst this
    refine ⟨S, ?_, h57, Fr.rf⟩
    rw [f_X9_pack_L148_s, f_X9_pack_L148_s, h20, if_pos (nI_le (Nat.le_refl _) (by omega)), if_pos (nI_le (Nat.le_refl _) (by omega))]
  | succ e ih =>
    intro j n S hj hn h20 h21 h22 h57
    obtain ⟨n, rfl⟩ : ∃ m, n = m + 1 := ⟨n - 1, by omega⟩
    have hW : wdN k * j + wdN k ≤ 16 := by
      have : wdN k * (j + 1) ≤ wdN k * u := Nat.mul_le_mul_left _ (by omega)
      rw [Nat.mul_add, Nat.mul_one] at this
      omega
    obtain ⟨S1, e1⟩ : ∃ z, z = puS S 57 (17000 - (T + (j + 1))) (nI (v / 2 ^ (wdN k * j) % 2 ^ wdN k)) := ⟨_, rfl⟩
    have f1 : Fr [57] S S1 := by rw [e1]; exact Fr.rf.pu (by simp)
    obtain ⟨S', a1, a2, a3⟩ := ih (j + 1) n S1 (by omega) (by omega) (by rw [f1 43 (by decide)]; exact h20) (by rw [f1 43 (by decide)]; exact h21) (by rw [f1 43 (by decide)]; exact h22) (by
      intro q hq
      rw [e1, puS_s]
      by_cases q0 : q = 0
      · rw [q0, show 17000 - (T + (j + 1)) + 0 = 17000 - (T + (j + 1)) from rfl, upd_s]
        rfl
      · rw [upd_n (by omega)]
        obtain ⟨q, rfl⟩ : ∃ m, q = m + 1 := ⟨q - 1, by omega⟩
        rw [dg_get, show 17000 - (T + (j + 1)) + (q + 1) = 17000 - (T + j) + q by omega]
        exact h57 q (by omega))
    refine ⟨S', ?_, a2, f1.tr a3⟩
    have hd : v / 2 ^ (wdN k * j) ≤ v := Nat.div_le_self _ _
    rw [f_X9_pack_L148_s, h20, if_neg (by rw [nI_leI (by omega) (by omega)]; omega), show nI (17000 - (T + j)) + (-1 : Int32) = nI (17000 - (T + (j + 1))) from by rw [show (-1 : Int32) = -nI 1 from rfl, nI_dec (by omega)]; rfl, pin_eq, if_neg (nI_in (by omega) (by omega)), nI_clamp (by omega), h21, pk_mul, shr_s (by omega) (by omega), mask_s (by omega) (by omega), pin_eq, ← e1, nI_1, pin_eq]
    exact a1
/-- the reference codes the TAPE from its end on -/
theorem codeM_loop {fu k lg w t : Nat} {f : Nat → Nat} {L : List Nat} {p0 p1 p2 : Int32} (hfu : 20000 ≤ fu) (hk : k < 3) (hs : SumOK f lg) (hw : w < 3) (ht : t < 7) (hl : L.length ≤ 1400) (hL : ∀ j, j < L.length → L.getD j 0 < 256 ∧ 1 ≤ f (L.getD j 0)) : ∀ (r n : Nat) (S : St), r ≤ L.length → r < n → RowM S 44 1 L → TabM S t lg f → LM S f lg w t → PkM S k f lg w L (L.length - r) → ∃ S', f_X9_pack_L92 fu p0 p1 p2 n (nI t) (nI k) (nI w) (nI (17000 - pkT k f lg w L (L.length - r))) (nI r - 1) S = f_X9_pack_L92 fu p0 p1 p2 1 (nI t) (nI k) (nI w) (nI (17000 - pkT k f lg w L L.length)) (nI 0 - 1) S' ∧ PkM S' k f lg w L L.length ∧ Fr [43, 57, 58, 59] S S' ∧ ∀ j, j < 20 → S' 43 j = S 43 j := by
  have hT : ∀ d, d ≤ L.length → pkT k f lg w L d ≤ 16800 := by
    intro d hd
    have h1 := (pk_bounds (k := k) hs hw hL d hd).2.2.2
    have h2 := (bnN_le (k := k) hs.2.1).1
    have : d * bnN k lg ≤ 1400 * 12 := Nat.mul_le_mul (by omega) h2
    omega
  intro r
  induction r with
  | zero =>
    intro n S hr hn h1 h2 h3 h4
    obtain ⟨n, rfl⟩ : ∃ m, n = m + 1 := ⟨n - 1, by omega⟩
    rw [Nat.sub_zero] at h4 ⊢
    refine ⟨S, ?_, h4, Fr.rf, fun _ _ => rfl⟩
    rw [f_X9_pack_L92_s, f_X9_pack_L92_s, if_pos (by decide), if_pos (by decide)]
  | succ r ih =>
    intro n S hr hn h1 h2 h3 h4
    obtain ⟨n, rfl⟩ : ∃ m, n = m + 1 := ⟨n - 1, by omega⟩
    obtain ⟨d, ed⟩ : ∃ d, d = L.length - (r + 1) := ⟨_, rfl⟩
    rw [← ed] at h4 ⊢
    have er : L.length - 1 - d = r := by omega
    obtain ⟨p1', p2', p3, p4, p5⟩ := pk_facts (k := k) hs hw hL (show d < L.length by omega)
    obtain ⟨q1, q2, q3, q4⟩ := pk_bounds (k := k) hs hw hL d (by omega)
    have hb := bnN_le (k := k) hs.2.1
    have hsym := hL r (by omega)
    have tl := tnN_lt k r
    have hTd := hT d (by omega)
    have hTd1 := hT (d + 1) (by omega)
    have eT1 : pkT k f lg w L (d + 1) = pkT k f lg w L d + pkU k f lg w L d := rfl
    have hV : pkV k f lg w L d < 65536 := Nat.lt_of_lt_of_le p4 (Nat.pow_le_pow_right (n := 2) (j := 16) (by decide) p5)
    have pc : pkc k f lg w L d = pkS k f lg w L d (tnN k r) := by unfold pkc; rw [er]
    obtain ⟨S1, a1, a2, a3, a4, a5, a6⟩ := stepM_s (fu := fu) (k := k) hfu hk hs hw ht h2 h3 hsym.1 hsym.2 p1'
    have a2' : S1 43 22 = nI (pkX k f lg w L d) := by rw [a2]; unfold pkX; rw [er]
    have a3' : S1 43 20 = nI (pkU k f lg w L d) := by rw [a3]; unfold pkU; rw [er]
    have a4' : S1 43 21 = nI (pkV k f lg w L d) := by rw [a4]; unfold pkV; rw [er]
    obtain ⟨S2, b1, b2, b3⟩ := unitsM_loop (fu := fu) (x := pkX k f lg w L d) (p0 := p0) (p1 := p1) (p2 := p2) (v1 := nI t) (v2 := nI k) (v3 := nI w) (v6 := nI r) (v7 := nI (tnN k r)) (K := f_X9_pack_L92 fu p0 p1 p2 n) p5 (by omega) hV (pkL_len k f lg w L d) (by omega) (pkU k f lg w L d) 0 fu S1 (by omega) (by omega) a3' a4' a2' (by
      intro q hq
      rw [a5 57 (by decide)]
      exact h4.2.2.2.2 q hq)
    have x43 : ∀ j, S2 43 j = S1 43 j := fun j => by rw [b3 43 (by decide)]
    obtain ⟨S3, c1, c2, c3, c4, c5⟩ := meets_s (S := S2) (p2'.lt hs.2.1) (q1.lt hs.2.1) (q2.lt hs.2.1) (by rw [b3 59 (by decide), a5 59 (by decide)]; exact h4.2.1) (by rw [b3 59 (by decide), a5 59 (by decide)]; exact h4.2.2.1)
    have y43 : ∀ j, S3 43 j = S1 43 j := fun j => by rw [c2 43 (by decide), x43]
    have y595 : S3 59 5 = nI (pkmu k f lg w L d) := by rw [c5 5 (by decide) (by decide), b3 59 (by decide), a5 59 (by decide)]; exact h4.2.2.2.1
    obtain ⟨S4, e4⟩ : ∃ z, z = puS (puS S3 58 (tnN k r) (nI (pkX k f lg w L d))) 59 5 (nI (pkmu k f lg w L (d + 1))) := ⟨_, rfl⟩
    have f3 : Fr [43, 57, 58, 59] S S3 := ((a5.mono (by simp)).tr (b3.mono (by simp))).tr (c2.mono (by simp))
    have f4 : Fr [43, 57, 58, 59] S S4 := by rw [e4]; exact (f3.pu (by simp)).pu (by simp)
    have g4 : ∀ j, j < 20 → S4 43 j = S 43 j := fun j hj => by rw [e4, puS_n (by decide), puS_n (by decide), y43]; exact a6 j (by omega) (by omega) (by omega)
    have P4 : PkM S4 k f lg w L (L.length - r) := by
      have ed' : L.length - r = d + 1 := by omega
      rw [ed']
      refine ⟨fun t ht => ?_, ?_, ?_, ?_, fun q hq => ?_⟩
      · rw [e4, puS_n (by decide), puS_s]
        unfold pkS
        rw [er]
        by_cases q : t = tnN k r
        · rw [if_pos q, q, upd_s]
          unfold pkX
          rw [er, pc]
        · rw [if_neg q, upd_n q, c2 58 (by decide), b3 58 (by decide), a5 58 (by decide)]
          exact h4.1 t ht
      · rw [e4, puS_s, upd_n (by decide), puS_n (by decide)]; exact c3
      · rw [e4, puS_s, upd_n (by decide), puS_n (by decide)]; exact c4
      · rw [e4, puS_s, upd_s]
      · rw [e4, puS_n (by decide), puS_n (by decide), c2 57 (by decide)]
        exact b2 q hq
    obtain ⟨S', z1, z2, z3, z4⟩ := ih n S4 (by omega) (by omega) (h1.of (g4 1 (by omega)) (f4 44 (by decide))) (h2.of (f4 46 (by decide)) (f4 47 (by decide)) (f4 48 (by decide))) (h3.of (f4 50 (by decide)) (f4 51 (by decide)) (f4 52 (by decide))) P4
    refine ⟨S', ?_, z2, f4.tr z3, fun j hj => by rw [z4 j hj, g4 j hj]⟩
    have em : nI r + (-1 : Int32) = nI r - 1 := by rw [Int32.sub_eq_add_neg]
    have fin : f_X9_pack_L148 fu p0 p1 p2 (f_X9_pack_L92 fu p0 p1 p2 n) 1 (nI t) (nI k) (nI w) (nI (17000 - (pkT k f lg w L d + pkU k f lg w L d))) (nI r) (nI (tnN k r)) (nI (wdN k)) (nI (pkU k f lg w L d)) S2 = f_X9_pack_L92 fu p0 p1 p2 n (nI t) (nI k) (nI w) (nI (17000 - pkT k f lg w L (L.length - r))) (nI r - 1) S4 := by
      rw [f_X9_pack_L148_s, x43, a3', if_pos (nI_le (Nat.le_refl _) (by omega)), x43, a2']
      refine e_bd c1 ?_
      rw [if_neg (nI_in tl (by omega)), nI_clamp (by omega), y43, a2', pin_eq, show puS S3 58 (tnN k r) (nI (pkX k f lg w L d)) 43 20 = nI (pkU k f lg w L d) by rw [puS_n (by decide), y43]; exact a3', show puS S3 58 (tnN k r) (nI (pkX k f lg w L d)) 59 5 = nI (pkmu k f lg w L d) by rw [puS_n (by decide)]; exact y595]
      have em2 : pkmu k f lg w L (d + 1) = if pkmu k f lg w L d < pkU k f lg w L d then pkU k f lg w L d else pkmu k f lg w L d := rfl
      rw [show L.length - r = d + 1 by omega, eT1, ← em]
      unfold f_X9_pack_L240
      by_cases q : pkmu k f lg w L d < pkU k f lg w L d
      · rw [if_pos q] at em2
        rw [if_neg (by rw [nI_leI (by omega) (by omega)]; omega), if_neg (by decide), pin_eq, pin_eq, ← em2, show (5 : Int32).toNatClampNeg = 5 from rfl, ← e4]
      · rw [if_neg q] at em2
        rw [if_pos (nI_le (by omega) (by omega)), if_neg (by decide), pin_eq, pin_eq, ← em2, show (5 : Int32).toNatClampNeg = 5 from rfl, ← e4]
    have mid : f_X9_pack_L110 fu p0 p1 p2 (f_X9_pack_L92 fu p0 p1 p2 n) (nI t) (nI k) (nI w) (nI (17000 - pkT k f lg w L d)) (nI r) (nI (tnN k r)) S = f_X9_pack_L92 fu p0 p1 p2 n (nI t) (nI k) (nI w) (nI (17000 - pkT k f lg w L (L.length - r))) (nI r - 1) S4 := by
      unfold f_X9_pack_L110
      rw [if_neg (nI_in tl (by omega)), if_neg (nI_in (by omega) (by omega)), nI_clamp (by omega), nI_clamp (by omega), h4.1 _ tl, ← pc, h1.2 r (by omega)]
      refine e_bd a1 ?_
      unfold f_X9_pack_L143
      by_cases k0 : k = 0
      · rw [if_pos (by rw [k0]; rfl)]
        rw [show wdN k = 1 from if_pos k0] at b1 fin
        exact b1.trans fin
      · rw [if_neg (nI_ne0 (by omega) (by omega))]
        rw [show wdN k = 8 from if_neg k0] at b1 fin
        exact b1.trans fin
    rw [nI_pred, f_X9_pack_L92_s, if_neg (nI_pos (by omega))]
    by_cases k2 : k = 2
    · rw [if_pos (by rw [k2]; rfl), show nI r - nI r / (2 : Int32) * (2 : Int32) = nI (r % 2) from pk_rem (d := 2) (by omega) (by omega) (by omega)]
      rw [show tnN k r = r % 2 from if_pos k2] at mid
      exact mid.trans z1
    · rw [if_neg (show ¬ nI k = (2 : Int32) from fun c => k2 (nI_small (b := 2) (by omega) (by omega) c))]
      rw [show tnN k r = 0 from if_neg k2] at mid
      exact mid.trans z1
