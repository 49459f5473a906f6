/-! unpack: the head, in the class -/
def hdR3 (fu : Nat) (z : Int32) (S26 : St) : Option (Int32 × St) :=
  bnd (f_X5_forget  S26) fun r28 S29 =>
  pin (S29 7 4).toNatClampNeg fun kt32 =>
  if zx_tab kt32 = true then
    bnd (f_X8_isLog z S29) fun r33 S34 =>
    if r33 = 0 then
      bnd (f_X6_clear fu kt32 (1 : Int32) S34) fun r37 S38 =>
      some ((0 : Int32), S38)
    else
      bnd (f_X6_clear fu kt32 z S34) fun r40 S41 =>
      some ((0 : Int32), S41)
  else none
def hdR2 (fu : Nat) (S17 : St) : Option (Int32 × St) :=
  bnd (f_X1_readNumber fu (1 : Int32) S17) fun r19 S20 =>
  bnd (f_X8_isLog r19 S20) fun r22 S23 =>
  bnd (f_X1_demand r22 (2 : Int32) (2 : Int32) S23) fun r25 S26 => hdR3 fu r19 S26
def hdR1 (fu : Nat) (S6 : St) : Option (Int32 × St) :=
  bnd (f_X1_readNumber fu (1 : Int32) S6) fun r8 S9 =>
  pin (puS S9 7 9 (r8 >>> ((2 : Int32) &&& 31))) fun S11 =>
  pin (puS S11 7 10 (r8 &&& (3 : Int32))) fun S12 =>
  bnd (f_X8_isCoding (S12 7 9) (S12 7 10) S12) fun r13 S14 =>
  bnd (f_X1_demand r13 (2 : Int32) (1 : Int32) S14) fun r16 S17 => hdR2 fu S17
theorem head_eq {fu : Nat} {t : Int32} {S : St} : f_X1_readHead_L16 fu t S = bnd (f_X1_demand t (2 : Int32) (0 : Int32) S) fun r5 S6 => hdR1 fu S6 := rfl
theorem hdR3_s {fu kt : Nat} {z : Int32} {S : St} (hfu : 20000 ≤ fu) (hz : zx_tab kt = true) (h4 : S 7 4 = nI kt) : ∃ S', hdR3 fu z S = some (0, S') ∧ F7 [] [9, kt, kt + 1] S S' ∧ S' 9 9 = 0 ∧ ∀ m, 1 ≤ m → m ≤ 12 → z = nI m → TabC S' kt m (fun _ => 0) := by
  have hr := tab_rng hz
  obtain ⟨S1, e1⟩ : ∃ y, y = puS S 9 9 0 := ⟨_, rfl⟩
  have f1 : Fr [9] S S1 := by rw [e1]; exact Fr.rf.pu (by simp)
  have h41 : S1 7 4 = nI kt := by rw [f1 7 (by decide)]; exact h4
  have h99 : S1 9 9 = 0 := by rw [e1, puS_s, upd_s]
  have hgo : ∀ R, (bnd (f_X8_isLog z S1) fun r33 S34 => if r33 = 0 then bnd (f_X6_clear fu kt (1 : Int32) S34) fun r37 S38 => some ((0 : Int32), S38) else bnd (f_X6_clear fu kt z S34) fun r40 S41 => some ((0 : Int32), S41)) = R → hdR3 fu z S = R := by
    intro R hR
    unfold hdR3
    refine e_bd (r := 0) (S := S1) (by unfold f_X5_forget; rw [pin_eq, ← e1]) ?_
    rw [pin_eq, h41, (tab_62 hz).1, if_pos hz]
    exact hR
  rcases isLog_s z S1 with ⟨g1, g2⟩ | ⟨m, m1, m2, rfl, g⟩
  · obtain ⟨S2, c1, c2, c3⟩ := clr_s (fu := fu) (m := 1) (S := S1) hfu hz
    refine ⟨S2, hgo _ ?_, F7.fr ((f1.mono (by simp)).tr (c3.mono (by simp))) (by simp; omega), by rw [c3 9 (by simp; omega)]; exact h99, ?_⟩
    · refine e_bd g1 ?_
      rw [if_pos rfl]
      exact e_bd c1 rfl
    · intro m m1 m2 hm
      rw [hm, show (1 : Int32) = nI 1 from rfl, nI_ltI (by omega) (by omega), show (12 : Int32) = nI 12 from rfl, nI_ltI (by omega) (by omega)] at g2
      omega
  · obtain ⟨S2, c1, c2, c3⟩ := clr_s (fu := fu) (m := m) (S := S1) hfu hz
    refine ⟨S2, hgo _ ?_, F7.fr ((f1.mono (by simp)).tr (c3.mono (by simp))) (by simp; omega), by rw [c3 9 (by simp; omega)]; exact h99, ?_⟩
    · refine e_bd g ?_
      rw [if_neg (by decide)]
      exact e_bd c1 rfl
    · intro m' m1' m2' hm
      rw [nI_small (by omega) (by omega) hm] at c2
      exact c2
/-- what the head leaves: no SPREAD is kept -/
def HdO (S S' : St) (kt : Nat) : Prop := F7 [6, 7, 8, 9, 10] [9, kt, kt + 1] S S' ∧ S' 9 9 = 0
theorem hdR2_d {fu kt r q : Nat} {L : List Nat} {S : St} (hfu : 20000 ≤ fu) (hz : zx_tab kt = true) (h4 : S 7 4 = nI kt) (h : Dd S L r q) : ∃ S', hdR2 fu S = some (0, S') ∧ Dd S' L r q ∧ HdO S S' kt := by
  have hr := tab_rng hz
  obtain ⟨S', a1, a2, a3, -⟩ := hdR3_s (fu := fu) (z := 0) hfu hz h4
  refine ⟨S', ?_, h.of a2 (by simp; omega) (by simp; omega) (by simp), a2.mono (by simp) (by simp), a3⟩
  unfold hdR2
  refine e_bd (rdN_d h) ?_
  rcases isLog_s 0 S with ⟨g1, -⟩ | ⟨m, _, _, _, g1⟩
  · refine e_bd g1 ?_
    exact e_bd (demD h _ _ _) a1
  · refine e_bd g1 ?_
    exact e_bd (demD h _ _ _) a1
theorem hdR1_d {fu kt r q : Nat} {L : List Nat} {S : St} (hfu : 20000 ≤ fu) (hz : zx_tab kt = true) (h4 : S 7 4 = nI kt) (h : Dd S L r q) : ∃ S', hdR1 fu S = some (0, S') ∧ Dd S' L r q ∧ HdO S S' kt := by
  have hr := tab_rng hz
  obtain ⟨S1, e1⟩ : ∃ y, y = puS (puS S 7 9 ((0 : Int32) >>> ((2 : Int32) &&& 31))) 7 10 ((0 : Int32) &&& (3 : Int32)) := ⟨_, rfl⟩
  have f1 : F7 [9, 10] [] S S1 := by rw [e1]; exact (F7.rf.p7 (by simp)).p7 (by simp)
  have d1 : Dd S1 L r q := h.of f1 (by simp) (by simp) (by simp)
  obtain ⟨S', a1, a2, a3, a4⟩ := hdR2_d (fu := fu) hfu hz (by rw [f1.2 4 (by simp)]; exact h4) d1
  refine ⟨S', ?_, a2, (f1.mono (by simp) (by simp)).tr a3, a4⟩
  unfold hdR1
  refine e_bd (rdN_d h) ?_
  rw [pin_eq, pin_eq, ← e1]
  rcases coding_s (S1 7 9) (S1 7 10) with g | ⟨_, _, _, _, _, _, _, g⟩
  · refine e_bd (g S1).1 ?_
    exact e_bd (demD d1 _ _ _) a1
  · refine e_bd (g S1).1 ?_
    exact e_bd (demD d1 _ _ _) a1
/-- the KIND and SPREAD that a BYTE names, as both sides ask -/
def Wy0 (b : Nat) : Prop := ∀ S, f_X8_isCoding (nI (b / 4)) (nI (b % 4)) S = some (0, S) ∧ f_X9_isWay (nI (b / 4)) (nI (b % 4)) S = some (0, S)
def Wy1 (b k w : Nat) : Prop := k < 3 ∧ w < 3 ∧ (k ≠ 0 → w = 0) ∧ b / 4 = k ∧ b % 4 = w ∧ ∀ S, f_X8_isCoding (nI (b / 4)) (nI (b % 4)) S = some (1, S) ∧ f_X9_isWay (nI (b / 4)) (nI (b % 4)) S = some (1, S)
theorem way_or {b : Nat} (hb : b < 256) : Wy0 b ∨ ∃ k w, Wy1 b k w := by
  rcases coding_s (nI (b / 4)) (nI (b % 4)) with g | ⟨k, w, h1, h2, h3, h4, h5, g⟩
  · exact Or.inl g
  · exact Or.inr ⟨k, w, h1, h2, h3, nI_small (by omega) (by omega) h4, nI_small (by omega) (by omega) h5, g⟩
def HdF (L : List Nat) (r q : Nat) : Prop := (L.length < 1 ∧ r = 1 ∧ q = L.length) ∨ (1 ≤ L.length ∧ L.getD 0 0 ≠ 83 ∧ r = 2 ∧ q = 0) ∨ (L.length = 1 ∧ L.getD 0 0 = 83 ∧ r = 1 ∧ q = L.length) ∨ (2 ≤ L.length ∧ L.getD 0 0 = 83 ∧ Wy0 (L.getD 1 0) ∧ r = 2 ∧ q = 1) ∨ (L.length = 2 ∧ L.getD 0 0 = 83 ∧ (∃ k w, Wy1 (L.getD 1 0) k w) ∧ r = 1 ∧ q = L.length) ∨ (3 ≤ L.length ∧ L.getD 0 0 = 83 ∧ (∃ k w, Wy1 (L.getD 1 0) k w) ∧ (L.getD 2 0 < 1 ∨ 12 < L.getD 2 0) ∧ r = 2 ∧ q = 2)
def HdK (L : List Nat) (k w lg : Nat) : Prop := 3 ≤ L.length ∧ L.getD 0 0 = 83 ∧ Wy1 (L.getD 1 0) k w ∧ L.getD 2 0 = lg ∧ 1 ≤ lg ∧ lg ≤ 12
theorem num1 {L : List Nat} {a : Nat} : numN L a 1 = L.getD a 0 := by
  show 0 * 256 + L.getD (a + 0) 0 = _
  rw [Nat.zero_mul, Nat.zero_add, Nat.add_zero]
theorem head_s {fu kt : Nat} {L : List Nat} {S : St} (hfu : 20000 ≤ fu) (hz : zx_tab kt = true) (h4 : S 7 4 = nI kt) (h : Lv S L 0) : (∃ r q S', HdF L r q ∧ f_X1_readHead fu S = some (0, S') ∧ Dd S' L r q ∧ HdO S S' kt) ∨ (∃ k w lg S', HdK L k w lg ∧ f_X1_readHead fu S = some (0, S') ∧ Lv S' L 3 ∧ S' 7 9 = nI k ∧ S' 7 10 = nI w ∧ TabC S' kt lg (fun _ => 0) ∧ HdO S S' kt) := by
  have hr := tab_rng hz
  have hb := h.1.2.2.1
  have ho : ∀ {S1 S2 : St} {js ks : List Nat}, F7 js ks S S1 → (∀ j ∈ js, j ∈ [6, 7, 8, 9, 10]) → (∀ k ∈ ks, k ∈ [9, kt, kt + 1]) → HdO S1 S2 kt → HdO S S2 kt := fun f j1 k1 o => ⟨(f.mono j1 k1).tr o.1, o.2⟩
  rcases rdN_s (k := 1) hfu (by omega) h (by omega) with ⟨l1, S1, a1, a2, a3⟩ | ⟨l1, S1, a1, a2, a3⟩
  · left
    obtain ⟨S', b1, b2, b3⟩ := hdR1_d (fu := fu) hfu hz (by rw [a3.2 4 (by simp)]; exact h4) a2
    refine ⟨1, L.length, S', Or.inl ⟨l1, rfl, rfl⟩, ?_, b2, ho a3 (by simp) (by simp) b3⟩
    unfold f_X1_readHead
    refine e_bd a1 ?_
    rw [if_neg (by decide), head_eq]
    exact e_bd (demD a2 _ _ _) b1
  · rw [num1] at a1
    have hb0 : L.getD 0 0 < 256 := getD_lt hb (by omega)
    have h41 : S1 7 4 = nI kt := by rw [a3.2 4 (by simp)]; exact h4
    by_cases q0 : L.getD 0 0 = 83
    · have hgo : ∀ R, hdR1 fu S1 = R → f_X1_readHead fu S = R := fun R hR => by
        unfold f_X1_readHead
        refine e_bd a1 ?_
        rw [if_pos (by rw [q0]; rfl), head_eq]
        exact e_bd (dem1 (by decide)) hR
      rcases rdN_s (k := 1) hfu (by omega) a2 (by omega) with ⟨l2, S2, b1, b2, b3⟩ | ⟨l2, S2, b1, b2, b3⟩
      · left
        obtain ⟨S3, e3⟩ : ∃ y, y = puS (puS S2 7 9 ((0 : Int32) >>> ((2 : Int32) &&& 31))) 7 10 ((0 : Int32) &&& (3 : Int32)) := ⟨_, rfl⟩
        have f3 : F7 [9, 10] [] S2 S3 := by rw [e3]; exact (F7.rf.p7 (by simp)).p7 (by simp)
        have d3 : Dd S3 L 1 L.length := b2.of f3 (by simp) (by simp) (by simp)
        obtain ⟨S', c1, c2, c3⟩ := hdR2_d (fu := fu) hfu hz (by rw [f3.2 4 (by simp), b3.2 4 (by simp)]; exact h41) d3
        refine ⟨1, L.length, S', Or.inr (Or.inr (Or.inl ⟨by omega, q0, rfl, rfl⟩)), hgo _ ?_, c2, ho a3 (by simp) (by simp) ⟨(b3.mono (by simp) (by simp)).tr ((f3.mono (by simp) (by simp)).tr c3.1), c3.2⟩⟩
        unfold hdR1
        refine e_bd b1 ?_
        rw [pin_eq, pin_eq, ← e3]
        rcases coding_s (S3 7 9) (S3 7 10) with g | ⟨_, _, _, _, _, _, _, g⟩
        · refine e_bd (g S3).1 ?_
          exact e_bd (demD d3 _ _ _) c1
        · refine e_bd (g S3).1 ?_
          exact e_bd (demD d3 _ _ _) c1
      · rw [num1] at b1
        have hb1 : L.getD (0 + 1) 0 < 256 := getD_lt hb (by omega)
        obtain ⟨S3, e3⟩ : ∃ y, y = puS (puS S2 7 9 (nI (L.getD (0 + 1) 0 / 4))) 7 10 (nI (L.getD (0 + 1) 0 % 4)) := ⟨_, rfl⟩
        have f3 : F7 [9, 10] [] S2 S3 := by rw [e3]; exact (F7.rf.p7 (by simp)).p7 (by simp)
        have d3 : Lv S3 L 2 := b2.of f3 (by simp) (by simp) (by simp) (by rw [f3.2 8 (by simp)]; exact b2.2.2.2.2)
        have k9 : S3 7 9 = nI (L.getD (0 + 1) 0 / 4) := by rw [e3, puS_s, upd_n (by decide), puS_s, upd_s]
        have k10 : S3 7 10 = nI (L.getD (0 + 1) 0 % 4) := by rw [e3, puS_s, upd_s]
        have h43 : S3 7 4 = nI kt := by rw [f3.2 4 (by simp), b3.2 4 (by simp)]; exact h41
        have F3 : F7 [6, 7, 8, 9, 10] [9, kt, kt + 1] S S3 := (a3.mono (by simp) (by simp)).tr ((b3.mono (by simp) (by simp)).tr (f3.mono (by simp) (by simp)))
        have hgo2 : ∀ R, (bnd (f_X8_isCoding (nI (L.getD (0 + 1) 0 / 4)) (nI (L.getD (0 + 1) 0 % 4)) S3) fun r13 S14 => bnd (f_X1_demand r13 (2 : Int32) (1 : Int32) S14) fun r16 S17 => hdR2 fu S17) = R → f_X1_readHead fu S = R := fun R hR => hgo R (by
          unfold hdR1
          refine e_bd b1 ?_
          rw [show nI (L.getD (0 + 1) 0) >>> ((2 : Int32) &&& 31) = nI (L.getD (0 + 1) 0 / 2 ^ 2) from shr_s (n := 2) (by omega) (by decide), show nI (L.getD (0 + 1) 0) &&& (3 : Int32) = nI (L.getD (0 + 1) 0 % 2 ^ 2) from fa_mask _ 2, pin_eq, pin_eq, show (2 : Nat) ^ 2 = 4 from rfl, ← e3, k9, k10]
          exact hR)
        rcases way_or hb1 with g | ⟨k, w, g⟩
        · left
          obtain ⟨S4, c1, c2, c3⟩ := dem0 d3 (r := 2) (q := 1) (by omega) (by omega)
          obtain ⟨S', i1, i2, i3⟩ := hdR2_d (fu := fu) hfu hz (by rw [c3.2 4 (by simp)]; exact h43) c2
          refine ⟨2, 1, S', Or.inr (Or.inr (Or.inr (Or.inl ⟨by omega, q0, g, rfl, rfl⟩))), hgo2 _ ?_, i2, ho F3 (by simp) (by simp) ⟨(c3.mono (by simp) (by simp)).tr i3.1, i3.2⟩⟩
          refine e_bd (g S3).1 ?_
          exact e_bd c1 i1
        · have hgo3 : ∀ R, hdR2 fu S3 = R → f_X1_readHead fu S = R := fun R hR => hgo2 R (by
            refine e_bd (g.2.2.2.2.2 S3).1 ?_
            exact e_bd (dem1 (by decide)) hR)
          rcases rdN_s (k := 1) hfu (by omega) d3 (by omega) with ⟨l3, S4, c1, c2, c3⟩ | ⟨l3, S4, c1, c2, c3⟩
          · left
            obtain ⟨S', i1, i2, i3, -⟩ := hdR3_s (fu := fu) (z := 0) (S := S4) hfu hz (by rw [c3.2 4 (by simp)]; exact h43)
            refine ⟨1, L.length, S', Or.inr (Or.inr (Or.inr (Or.inr (Or.inl ⟨by omega, q0, ⟨k, w, g⟩, rfl, rfl⟩)))), hgo3 _ ?_, c2.of i2 (by simp; omega) (by simp; omega) (by simp), ho F3 (by simp) (by simp) ⟨(c3.mono (by simp) (by simp)).tr (i2.mono (by simp) (by simp)), i3⟩⟩
            unfold hdR2
            refine e_bd c1 ?_
            rcases isLog_s 0 S4 with ⟨g1, -⟩ | ⟨m, _, _, _, g1⟩
            · refine e_bd g1 ?_
              exact e_bd (demD c2 _ _ _) i1
            · refine e_bd g1 ?_
              exact e_bd (demD c2 _ _ _) i1
          · rw [num1] at c1
            have hb2 : L.getD 2 0 < 256 := getD_lt hb (by omega)
            have h44 : S4 7 4 = nI kt := by rw [c3.2 4 (by simp)]; exact h43
            have F4 : F7 [6, 7, 8, 9, 10] [9, kt, kt + 1] S S4 := F3.tr (c3.mono (by simp) (by simp))
            rcases isLog_s (nI (L.getD 2 0)) S4 with ⟨g1, g2⟩ | ⟨m, m1, m2, m3, g1⟩
            · left
              rw [show (1 : Int32) = nI 1 from rfl, nI_ltI (by omega) (by omega), show (12 : Int32) = nI 12 from rfl, nI_ltI (by omega) (by omega)] at g2
              obtain ⟨S5, j1, j2, j3⟩ := dem0 c2 (r := 2) (q := 2) (by omega) (by omega)
              obtain ⟨S', i1, i2, i3, -⟩ := hdR3_s (fu := fu) (z := nI (L.getD 2 0)) (S := S5) hfu hz (by rw [j3.2 4 (by simp)]; exact h44)
              refine ⟨2, 2, S', Or.inr (Or.inr (Or.inr (Or.inr (Or.inr ⟨by omega, q0, ⟨k, w, g⟩, g2, rfl, rfl⟩)))), hgo3 _ ?_, j2.of i2 (by simp; omega) (by simp; omega) (by simp), ho F4 (by simp) (by simp) ⟨(j3.mono (by simp) (by simp)).tr (i2.mono (by simp) (by simp)), i3⟩⟩
              unfold hdR2
              refine e_bd c1 ?_
              refine e_bd g1 ?_
              exact e_bd j1 i1
            · right
              have m4 : L.getD 2 0 = m := nI_small (by omega) (by omega) m3
              obtain ⟨S', i1, i2, i3, i4⟩ := hdR3_s (fu := fu) (z := nI (L.getD 2 0)) (S := S4) hfu hz h44
              have F5 : F7 [6, 7, 8] [9, kt, kt + 1] S3 S' := (c3.mono (by simp) (by simp)).tr (i2.mono (by simp) (by simp))
              refine ⟨k, w, m, S', ⟨by omega, q0, g, m4, m1, m2⟩, hgo3 _ ?_, c2.of i2 (by simp; omega) (by simp; omega) (by simp) (by rw [i2.2 8 (by simp)]; exact c2.2.2.2.2), by rw [F5.2 9 (by simp), k9, g.2.2.2.1], by rw [F5.2 10 (by simp), k10, g.2.2.2.2.1], i4 m m1 m2 m3, F4.tr (i2.mono (by simp) (by simp)), i3⟩
              unfold hdR2
              refine e_bd c1 ?_
              refine e_bd g1 ?_
              exact e_bd (dem1 (by decide)) i1
    · left
      obtain ⟨S2, b1, b2, b3⟩ := dem0 a2 (r := 2) (q := 0) (by omega) (by omega)
      obtain ⟨S', c1, c2, c3⟩ := hdR1_d (fu := fu) hfu hz (by rw [b3.2 4 (by simp)]; exact h41) b2
      refine ⟨2, 0, S', Or.inr (Or.inl ⟨by omega, q0, rfl, rfl⟩), ?_, c2, ho a3 (by simp) (by simp) ⟨(b3.mono (by simp) (by simp)).tr c3.1, c3.2⟩⟩
      unfold f_X1_readHead
      refine e_bd a1 ?_
      rw [if_neg (show ¬ nI (L.getD 0 0) = (83 : Int32) from fun c => q0 (nI_small (b := 83) (by omega) (by omega) c)), head_eq]
      exact e_bd b1 c1
