/-! unpack: the message and the ends, both -/
theorem l56_end {fu k lg w N p P b m0 m1 a5 : Nat} {f x : Nat → Nat} {L ms : List Nat} {M : St} (hl : lg ≤ 12) (hN : N ≤ 1400) (h0 : m0 < 2 ^ 31) (h1 : m1 < 2 ^ 31) (h : MdI M k lg w N p P f L N x m0 m1 a5 ms) :
    ∃ (M3 : St) (n0 n1 : Nat), f_X9_readsMessage_L56 fu 1 (nI b) (nI (tuN k P)) (nI (lsN k lg)) (nI N) M = f_X9_readsMessage_L305 fu (nI b) (nI (lsN k lg)) M3 ∧ MdI M3 k lg w N p P f L N x n0 n1 a5 ms ∧ Fr [59] M M3 ∧ ∀ a0 a1, TalR k x a0 a1 m0 m1 N → (∀ j, 0 ≤ j → j < nSN k → x j = lsN k lg) → a0 = n0 ∧ a1 = n1 := by
  have hls := lsN_bd (k := k) hl
  have hn := nSN_bd k
  obtain ⟨⟨g28, g29, g30, g31, g32⟩, hT, hLM, hR, h58, ⟨t0, t1, t5⟩, hm, h61⟩ := id h
  by_cases q : N = 0
  · obtain ⟨M1, j1, j2, j3, j4, j5⟩ := meets_s (x := lsN k lg) (by omega) h0 h1 t0 t1
    refine ⟨M1, _, _, ?_, ⟨⟨by rw [j2 43 (by decide)]; exact g28, by rw [j2 43 (by decide)]; exact g29, by rw [j2 43 (by decide)]; exact g30, by rw [j2 43 (by decide)]; exact g31, by rw [j2 43 (by decide)]; exact g32⟩, hT.of (j2 46 (by decide)) (j2 47 (by decide)) (j2 48 (by decide)), hLM.of (j2 50 (by decide)) (j2 51 (by decide)) (j2 52 (by decide)), hR.of (by rw [j2 43 (by decide)]) (j2 44 (by decide)), fun e he => by rw [j2 58 (by decide)]; exact h58 e he, ⟨j3, j4, by rw [j5 5 (by decide) (by decide)]; exact t5⟩, hm, fun j hj => by rw [j2 61 (by decide)]; exact h61 j hj⟩, j2, fun a0 a1 hT hx => ?_⟩
    · rw [f_X9_readsMessage_L56_s, g30, if_pos (nI_le (Nat.le_refl _) (by omega)), if_pos (by rw [q]; rfl)]
      exact e_bd j1 rfl
    · obtain ⟨c1, c2, c3, c4, c5, -⟩ := hT
      have d1 := c1 0 (by omega)
      rw [hx 0 (by omega) (by omega)] at d1
      have e4 : a0 = m0 ∨ a0 = lsN k lg := by
        rcases c4 with c | ⟨e, e1, e2⟩
        · exact Or.inl c
        · rw [hx e (Nat.zero_le _) e1] at e2; exact Or.inr e2
      have e5 : a1 = m1 ∨ a1 = lsN k lg := by
        rcases c5 with c | ⟨e, e1, e2⟩
        · exact Or.inl c
        · rw [hx e (Nat.zero_le _) e1] at e2; exact Or.inr e2
      clear c4 c5
      constructor
      · by_cases r : lsN k lg < m0
        · rw [if_pos r]; omega
        · rw [if_neg r]; omega
      · by_cases r : m1 < lsN k lg
        · rw [if_pos r]; omega
        · rw [if_neg r]; omega
  · refine ⟨M, m0, m1, ?_, h, Fr.rf, fun a0 a1 hT hx => ?_⟩
    · rw [f_X9_readsMessage_L56_s, g30, if_pos (nI_le (Nat.le_refl _) (by omega)), if_neg (nI_ne0 (by omega) (by omega))]
    · have hN0 : 0 < N := by omega
      obtain ⟨c1, c2, c3, c4, c5, c6⟩ := hT
      obtain ⟨e, e1, e2, e3⟩ := c6 hN0
      rw [hx e (Nat.zero_le _) e1] at e2 e3
      have e4 : a0 = m0 ∨ a0 = lsN k lg := by
        rcases c4 with c | ⟨e, e1, e2⟩
        · exact Or.inl c
        · rw [hx e (Nat.zero_le _) e1] at e2; exact Or.inr e2
      have e5 : a1 = m1 ∨ a1 = lsN k lg := by
        rcases c5 with c | ⟨e, e1, e2⟩
        · exact Or.inl c
        · rw [hx e (Nat.zero_le _) e1] at e2; exact Or.inr e2
      clear c4 c5 c6
      omega
/-- what the reference has read before the message -/
def MdH (M : St) (k lg w N p P sa : Nat) (f : Nat → Nat) (L : List Nat) (x : Nat → Nat) : Prop :=
  (M 43 28 = nI k ∧ M 43 29 = nI w ∧ M 43 30 = nI N ∧ M 43 31 = nI p ∧ M 43 32 = nI P ∧ M 43 33 = nI sa) ∧ TabM M 6 lg f ∧ LM M f lg w 6 ∧ RowM M 44 1 L ∧ ∀ e, e < nSN k → M 58 e = nI (x e)
theorem body_both {fu k lg w N p P a sa : Nat} {f x : Nat → Nat} {L : List Nat} {S : St} (hfu : 20000 ≤ fu) (hk : k < 3) (hs : SumOK f lg) (hw : w < 3) (hkw : k ≠ 0 → w = 0) (hp : p ≤ 10000) (hlen : L.length = p + P) (hN : N ≤ 1400) (hx : ∀ e, e < nSN k → StOK k lg (x e)) (h : Lv S L a) (hc : CdC S k lg) (hLC : LC S f lg w) (g11 : S 7 11 = nI N) (g12 : S 7 12 = nI sa) (g13 : S 7 13 = nI p) (g14 : S 7 14 = nI P) (g15 : S 7 15 = 0) (h18 : ∀ e, e < nSN k → S 18 e = nI (x e)) :
    (∃ (r q : Nat) (S' : St), (∀ (K : Int32 → St → Option (Int32 × St)) R, K 0 S' = R → (bnd (f_X1_readMessage fu S) fun _ S22 => bnd (f_X1_checkPayloadEnd S22) fun _ S25 => bnd (f_X1_checkStates fu S25) fun r27 S28 => K r27 S28) = R) ∧ Dd S' L r q ∧ F7 [6, 7, 15] [17, 18, 19] S S' ∧ ∀ M, MdH M k lg w N p P sa f L x → ∃ M', f_X9_readsMessage fu M = some (0, fauM M' r q) ∧ Fr [58, 59, 61] M M') ∨
    (∃ (S' : St) (ms : List Nat), (∀ (K : Int32 → St → Option (Int32 × St)) R, K 0 S' = R → (bnd (f_X1_readMessage fu S) fun _ S22 => bnd (f_X1_checkPayloadEnd S22) fun _ S25 => bnd (f_X1_checkStates fu S25) fun r27 S28 => K r27 S28) = R) ∧ Lv S' L a ∧ F7 [6, 7, 15] [17, 18, 19] S S' ∧ ms.length = N ∧ (∀ y ∈ ms, y < 256) ∧ (∀ j, j < N → by8 (S' 19 j) 0 = ms.getD j 0) ∧ ∀ M, MdH M k lg w N p P sa f L x → ∃ M', f_X9_readsMessage fu M = some (1, M') ∧ Fr [58, 59, 61] M M' ∧ (∀ j, j < N → M' 61 j = nI (ms.getD j 0)) ∧ ∀ j, j < 6 → S' 17 j = M' 59 j) := by
  have hl4 := h.1.2.1
  have hby := h.1.2.2.1
  have hl := hs.2.1
  have hn := nSN_bd k
  have hwd : wdN k ≤ 8 := by unfold wdN; split <;> omega
  obtain ⟨S1, a0, a1, c1, c2, c3, c4, c5, c6⟩ := msgC_0 (fu := fu) (w := w) (f := f) hfu hk (fun e he => (hx e he).lt hl) h hc hLC g11 g13 g14 g15 h18
  have hM0 : ∀ M, MdH M k lg w N p P sa f L x → _ := fun M hM => msgM_0 (fu := fu) (w := w) (N := N) (p := p) (P := P) (f := f) (x := x) (L := L) hk hl hM.1.1 hM.1.2.1 hM.1.2.2.1 hM.1.2.2.2.1 hM.1.2.2.2.2.1 hM.2.1 hM.2.2.1 hM.2.2.2.1 hM.2.2.2.2
  rcases msg_loop (fu := fu) hfu hk hs hw hkw hp hlen hl4 hby hN N 0 fu 0 a0 a1 0 x [] S1 (by omega) (by omega) (by omega) hx c3 c4 (by omega) c2 (fun y hy => by cases hy) with ⟨S2, d1, d2, d3, d4⟩ | ⟨S2, x', b', a0', a1', a5', ms, d1, d2, d3, d4, d5, d6, d7⟩
  · left
    refine ⟨5, p + P, S2, fun K R hR => ?_, d2, (c6.mono (by simp) (by simp)).tr d3, fun M hM => ?_⟩
    · refine e_bd (c1 _ d1) ?_
      refine e_bd (pend_d d2) ?_
      exact e_bd (csta_d hfu d2) hR
    · obtain ⟨M1, m1, m2, m3⟩ := hM0 M hM
      obtain ⟨M', m4, m5⟩ := d4 M1 fu _ _ (by omega) (by omega) (by omega) m2
      exact ⟨M', m1.trans m4, (m3.mono (by simp)).tr m5⟩
  · obtain ⟨S3, e3⟩ : ∃ z, z = puS S2 17 4 (nI ((b' * wdN k + 7) / 8)) := ⟨_, rfl⟩
    have f3 : F7 [] [17] S2 S3 := by rw [e3]; exact F7.rf.pu (by simp) (by omega)
    rw [← e3] at d1
    obtain ⟨k1, k2, k3, ⟨k11, k13, k14, k15⟩, k18, ⟨y0, y1, y2, y3, y5⟩, km, k19⟩ := d2
    have v3 : Lv S3 L a := k1.of f3 (by simp) (by simp) (by simp) (by rw [f3.2 8 (by simp)]; exact k1.2.2.2.2)
    have F3 : F7 [6, 7, 15] [17, 18, 19] S S3 := (c6.mono (by simp) (by simp)).tr ((d3.mono (by simp) (by simp)).tr (f3.mono (by simp) (by simp)))
    have h12 : S3 7 12 = nI sa := by rw [F3.2 12 (by simp)]; exact g12
    have hB : wdN k * b' ≤ 8 * P := by
      unfold tuN at d4
      unfold wdN
      by_cases q : k = 0
      · rw [if_pos q] at d4 ⊢; omega
      · rw [if_neg q] at d4 ⊢; omega
    have hx' : ∀ e, e < nSN k → x' e < 2 ^ 31 := fun e he => (d5 e he).lt hl
    have h183 : ∀ j, j < nSN k → S3 18 j = nI (x' j) := fun j hj => by rw [f3.c (by simp)]; exact k18 j hj
    have hM1 : ∀ M, MdH M k lg w N p P sa f L x → ∃ (M3 M4 : St) (n0 n1 : Nat), f_X9_readsMessage fu M = f_X9_readsMessage_L305 fu (nI b') (nI (lsN k lg)) M3 ∧ MdI M3 k lg w N p P f L N x' n0 n1 a5' ms ∧ ((∀ j, 0 ≤ j → j < nSN k → x' j = lsN k lg) → a0' = n0 ∧ a1' = n1) ∧ Fr [58, 59, 61] M M3 ∧ M3 43 33 = nI sa := by
      intro M hM
      obtain ⟨M1, m1, m2, m3⟩ := hM0 M hM
      obtain ⟨M2, m0', m1', m4, m5, m6, m7, m8, m9⟩ := d7 M1 fu _ _ (by omega) (by omega) (by omega) m2 c5
      obtain ⟨M3, n0, n1, m10, m11, m12, m13⟩ := l56_end (fu := fu) (b := b') hl hN m7 m8 m5
      have FF : Fr [58, 59, 61] M M3 := (m3.mono (by simp)).tr (m9.tr (m12.mono (by simp)))
      exact ⟨M3, M3, n0, n1, m1.trans (m4.trans m10), m11, m13 _ _ m6, FF, by rw [FF 43 (by decide)]; exact hM.1.2.2.2.2.2⟩
    rcases pend_s v3 hp (show P < 65536 by omega) hB hlen (by rw [f3.2 13 (by simp)]; exact k13) (by rw [f3.2 14 (by simp)]; exact k14) (by rw [f3.2 15 (by simp)]; exact k15) with ⟨r, q, S4, i0, i1, i2, i3⟩ | ⟨i0, i1, i2⟩
    · left
      refine ⟨r, q, S4, fun K R hR => ?_, i2, F3.tr (i3.mono (by simp) (by simp)), fun M hM => ?_⟩
      · refine e_bd (c1 _ d1) ?_
        refine e_bd i1 ?_
        exact e_bd (csta_d hfu i2) hR
      · obtain ⟨M3, -, n0, n1, m1, m2, m3, m4, m5⟩ := hM1 M hM
        obtain ⟨M', u1, -, u3, -⟩ := endM_s (fu := fu) hk hl hx' hlen hl4 hby d4 m2 m5
        exact ⟨M', m1.trans (u1 r q i0), m4.tr (u3.mono (by simp))⟩
    · rcases cs_loop (fu := fu) (a := sa) (y := x') hk hl v3 (k2.ofc (f3.c (by simp))) h183 hx' h12 (nSN k) 0 fu (by omega) (by omega) with ⟨r, q, S4, j0, j1, j2, j3⟩ | ⟨j0, j1⟩
      · left
        refine ⟨r, q, S4, fun K R hR => ?_, j2, F3.tr (j3.mono (by simp) (by simp)), fun M hM => ?_⟩
        · refine e_bd (c1 _ d1) ?_
          refine e_bd i2 ?_
          exact e_bd j1 hR
        · obtain ⟨M3, -, n0, n1, m1, m2, m3, m4, m5⟩ := hM1 M hM
          obtain ⟨M', -, u2, u3, -⟩ := endM_s (fu := fu) hk hl hx' hlen hl4 hby d4 m2 m5
          exact ⟨M', m1.trans ((u2 ⟨i0, i1⟩).1 r q j0), m4.tr (u3.mono (by simp))⟩
      · right
        refine ⟨S3, ms, fun K R hR => ?_, v3, F3, km, d6, fun j hj => by rw [f3.c (by simp)]; exact k19 j hj, fun M hM => ?_⟩
        · refine e_bd (c1 _ d1) ?_
          refine e_bd i2 ?_
          exact e_bd j1 hR
        · obtain ⟨M3, -, n0, n1, m1, m2, m3, m4, m5⟩ := hM1 M hM
          obtain ⟨M', -, u2, u3, u4, u5, u6, u7⟩ := endM_s (fu := fu) hk hl hx' hlen hl4 hby d4 m2 m5
          obtain ⟨z0, z1⟩ := m3 j0
          obtain ⟨-, -, -, -, -, ⟨t0, t1, t5⟩, -, t61⟩ := m2
          refine ⟨M', m1.trans ((u2 ⟨i0, i1⟩).2 j0), m4.tr (u3.mono (by simp)), fun j hj => by rw [u3 61 (by decide)]; exact t61 j hj, fun j hj => ?_⟩
          have hP : (b' * wdN k + 7) / 8 = P := by
            rw [Nat.mul_comm]
            omega
          have hj6 : j = 0 ∨ j = 1 ∨ j = 2 ∨ j = 3 ∨ j = 4 ∨ j = 5 := by omega
          rw [e3, puS_s]
          rcases hj6 with rfl | rfl | rfl | rfl | rfl | rfl
          · rw [upd_n (by decide), y0, u7 0 (by decide) (by decide) (by decide), t0, z0]
          · rw [upd_n (by decide), y1, u7 1 (by decide) (by decide) (by decide), t1, z1]
          · rw [upd_n (by decide), y2, u4]
          · rw [upd_n (by decide), y3, u5]
          · rw [upd_s, hP, u6]
          · rw [upd_n (by decide), y5, u7 5 (by decide) (by decide) (by decide), t5]
