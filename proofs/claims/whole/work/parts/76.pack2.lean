/-! pack: both -/
def I_K (S : St) (tc lg : Nat → Nat) (f : Nat → Nat → Nat) : Prop := I_perm S tc ∧ I_tab S tc lg f ∧ I_cache S tc ∧ I_laid S lg f
def frK : List Nat := [0, 1, 2, 3, 4, 6, 7, 8, 14, 15, 16, 17, 18, 19, 34, 35, 36, 37, 38, 39, 40, 41, 42, 43, 44, 45, 53, 54, 55, 56, 57, 58, 59, 60, 61]
theorem I_K.of {S S' : St} {tc lg : Nat → Nat} {f : Nat → Nat → Nat} (h : I_K S tc lg f) (hf : Fr frK S S') (h7 : S' 7 4 = S 7 4) : I_K S' tc lg f := by
  obtain ⟨h2, h3, h4, h5⟩ := h
  exact ⟨h2.of (hf 5 (by decide)) h7, h3.of h2 (fun k hk => hf k (by simp [frK]; omega)), h4.of h2 (fun k hk => hf k (by simp [frK]; omega)), h5.of (fun k _ _ => hf k (by simp [frK]; omega))⟩
/-- the reference lays a TABLE: the rest stands -/
theorem layM_K {fu t w : Nat} {tc lg : Nat → Nat} {f : Nat → Nat → Nat} {S : St} (hfu : 20000 ≤ fu) (ht : t < 6) (hw : w < 3) (h : I_K S tc lg f) (hs : SumOK (f t) (lg t)) (hc : TabM S t (lg t) (f t)) : ∃ S', f_X9_lay fu (nI t) (nI w) S = some (0, S') ∧ LM S' (f t) (lg t) w t ∧ TabM S' t (lg t) (f t) ∧ I_K S' tc lg f ∧ Fr [43, 49, 50, 51, 52, 54, 55] S S' ∧ ∀ j, j ≠ 13 → S' 43 j = S 43 j := by
  obtain ⟨j2, j3, j4, j5⟩ := h
  have hall := j3.all
  obtain ⟨S3, b1, b2, b3, b4, b5, b6⟩ := layM_s (fu := fu) hfu (show t < 7 by omega) hw hs hc (fun hn => j5 t w ht hw (by have := hs.1.1; omega) hn)
  refine ⟨S3, b1, b2, hc.of (b3 46 (by decide)) (b3 47 (by decide)) (b3 48 (by decide)), ⟨j2.of (b3 5 (by decide)) (by rw [b3 7 (by decide)]), j3.of j2 (fun k hk => b3 k (by simp; omega)), j4.of j2 (fun k hk => b3 k (by simp; omega)), ?_⟩, b3, b4⟩
  intro t' w' ht' hw' hlg' hn
  by_cases e : 3 * t' + w' = 3 * t + w
  · have e1 : t' = t := by omega
    have e2 : w' = w := by omega
    subst e1; subst e2
    exact b2
  · rw [b6 _ e] at hn
    obtain ⟨q1, q2, q3⟩ := j5 t' w' ht' hw' hlg' hn
    have hp := pow12 (hall t' ht').1
    have hs' := (hall t' ht').2 hlg'
    refine ⟨fun p hp' => ?_, fun p hp' => ?_, fun p hp' => ?_⟩
    · rw [b5 50 (Or.inl rfl) _ (by omega)]; exact q1 p hp'
    · rw [b5 51 (Or.inr (Or.inl rfl)) _ (by omega)]; exact q2 p hp'
    · have hix := (layOK hs' hw').ix hs'.2.2 hp'
      rw [b5 52 (Or.inr (Or.inr rfl)) _ (by omega)]; exact q3 p hp'
theorem codeC_s {fu k lg w : Nat} {f : Nat → Nat} {L : List Nat} {S : St} (hfu : 20000 ≤ fu) (hk : k < 3) (hs : SumOK f lg) (hw : w < 3) (hl : L.length ≤ 1400) (hL : ∀ j, j < L.length → L.getD j 0 < 256 ∧ 1 ≤ f (L.getD j 0)) (h1 : RowC S 1 L) (h2 : LC S f lg w) (h3 : CdC S k lg) : ∃ S', f_X2_codeMessage fu 1 S = some (0, S') ∧ PkC S' k f lg w L L.length ∧ S' 36 4 = nI (pkP k f lg w L) ∧ CdC S' k lg ∧ Fr [8, 36, 37, 38] S S' := by
  obtain ⟨S1, e1⟩ : ∃ z, z = upS S 37 (fiA (S 37) (zx_len 37) (nI (lsN k lg))) := ⟨_, rfl⟩
  have f1 : Fr [37] S S1 := by rw [e1]; exact Fr.rf.up (by simp)
  obtain ⟨S2, e2⟩ : ∃ z, z = puS (puS (upS S1 36 (fiA (S1 36) (zx_len 36) (0 : Int32))) 36 0 (nI (lsN k lg))) 36 1 (nI (lsN k lg)) := ⟨_, rfl⟩
  have f2 : Fr [36] S1 S2 := by rw [e2]; exact ((Fr.rf.up (by simp)).pu (by simp)).pu (by simp)
  have ff : Fr [8, 36, 37, 38] S S2 := (f1.mono (by simp)).tr (f2.mono (by simp))
  have z36 : ∀ j, 2 ≤ j → j < 6 → S2 36 j = 0 := by
    intro j j1 j2
    rw [e2, puS_s, upd_n (by omega), puS_s, upd_n (by omega), upS_s]
    unfold fiA
    rw [if_pos (by show j < 6; omega)]
  have P0 : PkC S2 k f lg w L (L.length - L.length) := by
    rw [Nat.sub_self]
    refine ⟨fun t ht => ?_, ?_, ?_, z36 2 (by omega) (by omega), z36 3 (by omega) (by omega), z36 5 (by omega) (by omega), fun e he => by omega⟩
    · rw [f2 37 (by decide), e1, upS_s]
      unfold fiA
      rw [if_pos (by show t < 2; omega)]
      rfl
    · rw [e2, puS_s, upd_n (by decide), puS_s, upd_s]; rfl
    · rw [e2, puS_s, upd_s]; rfl
  obtain ⟨S', a1, a2, a3, a4, a5⟩ := codeC_loop (fu := fu) hfu hk hs hw hl hL L.length fu S2 (Nat.le_refl _) (by omega) (h1.of (ff 1 (by decide)) (ff 2 (by decide))) (h2.of (by rw [ff 9 (by decide)]) (fun c _ _ => ff c (by simp; omega))) (h3.ofc (by rw [f2 8 (by decide), f1 8 (by decide)])) P0
  refine ⟨S', ?_, a2, a3, a4, ff.tr a5⟩
  unfold f_X2_codeMessage
  rw [h3.2.2.1]
  refine e_bd (r := nI 0) (S := S1) (by rw [fill_s hfu, ← e1]) ?_
  rw [f1 8 (by decide), h3.2.2.1]
  have hbg : f_X7_begin fu 35 (nI (lsN k lg)) S1 = some (0, S2) := by
    unfold f_X7_begin
    refine e_bd (fill_s hfu) ?_
    rw [pin_eq, pin_eq, e2]
  refine e_bd hbg ?_
  rw [ff 1 (by decide), h1.1, if_neg (by rw [show (1400 : Int32) = nI 1400 from rfl, nI_ltI (by omega) (by omega)]; omega), pin_eq]
  exact a1
theorem beginM_s {k lg w t : Nat} {f : Nat → Nat} {L : List Nat} {S : St} (hk : k < 3) (hl : lg ≤ 12) (ht : t < 7) (h : S 46 t = nI lg) : ∃ S', (∀ (R : Option (Int32 × St)) (K : Int32 → St → Option (Int32 × St)), K 0 S' = R → (bnd (f_X9_meetsNone S) fun r16 S17 => bnd (f_X9_firstOf (nI t) (nI k) S17) fun r19 S20 => pin (puS S20 58 0 r19) fun S22 => pin (puS S22 58 1 (S22 58 0)) fun S23 => bnd (f_X9_meets (S23 58 0) S23) fun r24 S25 => K r24 S25) = R) ∧ PkM S' k f lg w L 0 ∧ Fr [58, 59] S S' := by
  have hb := lsN_bd (k := k) hl
  obtain ⟨S1, e1⟩ : ∃ z, z = puS (puS (puS (puS (puS (puS S 59 0 (2147483647 : Int32)) 59 1 (0 : Int32)) 59 2 (0 : Int32)) 59 3 (0 : Int32)) 59 4 (0 : Int32)) 59 5 (0 : Int32) := ⟨_, rfl⟩
  have f1 : Fr [59] S S1 := by rw [e1]; exact (((((Fr.rf.pu (by simp)).pu (by simp)).pu (by simp)).pu (by simp)).pu (by simp)).pu (by simp)
  obtain ⟨S2, e2⟩ : ∃ z, z = puS (puS S1 58 0 (nI (lsN k lg))) 58 1 (nI (lsN k lg)) := ⟨_, rfl⟩
  have f2 : Fr [58] S1 S2 := by rw [e2]; exact (Fr.rf.pu (by simp)).pu (by simp)
  obtain ⟨S3, a1, a2, a3, a4, a5⟩ := meets_s (S := S2) (x := lsN k lg) (a0 := 2147483647) (a1 := 0) (by omega) (by omega) (by omega) (by rw [f2 59 (by decide), e1]; simp [puS, upS, upd]; rfl) (by rw [f2 59 (by decide), e1]; simp [puS, upS, upd]; rfl)
  refine ⟨S3, fun R K hK => ?_, ⟨fun t' ht' => ?_, ?_, ?_, ?_, fun q hq => absurd hq (Nat.not_lt_zero q)⟩, (f1.mono (by simp)).tr ((f2.mono (by simp)).tr (a2.mono (by simp)))⟩
  · refine e_bd (r := 0) (S := S1) (by unfold f_X9_meetsNone; simp only [pin_eq]; rw [e1]) ?_
    have hf : f_X9_firstOf (nI t) (nI k) S1 = some (nI (lsN k lg), S1) := by
      unfold f_X9_firstOf lsN
      by_cases k0 : k = 0
      · rw [if_pos (by rw [k0]; rfl), if_neg (nI_in (by omega) (by omega)), nI_clamp (by omega), f1 46 (by decide), h, show (1 : Int32) <<< (nI lg &&& 31) = nI (2 ^ lg) from shl1 hl, if_pos k0]
      · rw [if_neg (nI_ne0 (by omega) (by omega)), if_neg k0]
        rfl
    refine e_bd hf ?_
    rw [pin_eq, pin_eq, show puS S1 58 0 (nI (lsN k lg)) 58 0 = nI (lsN k lg) by rw [puS_s, upd_s], ← e2, show S2 58 0 = nI (lsN k lg) by rw [e2]; simp [puS, upS, upd]]
    exact e_bd a1 hK
  · rw [a2 58 (by decide), e2]
    show _ = nI (lsN k lg)
    by_cases q : t' = 1
    · simp [puS, upS, upd, q]
    · have q0 : t' = 0 := by omega
      simp [puS, upS, upd, q0]
  · rw [a3, if_pos (by omega)]; rfl
  · rw [a4, if_pos (by omega)]; rfl
  · rw [a5 5 (by decide) (by decide), f2 59 (by decide), e1, puS_s, upd_s]; rfl
theorem lx_pack {fu : Nat} (hfu : 20000 ≤ fu) : lx_h8 fu zx_I := by
  intro x y z S h
  obtain ⟨L, O, tc, lg, f, h1, h2, h3, h4, h5, h6⟩ := id h
  rcases tab_case h2 h3 rfl x with ⟨a, b⟩ | ⟨t, ht, rfl, hz, a, b, c, d, e⟩
  · exact ⟨-1, S, S, e_bd a (by rw [if_pos rfl]), e_bd b (by rw [if_pos rfl]), h⟩
  · have hq := tab_62 hz
    have hr := tab_rng hz
    rcases coding_s y z with g | ⟨k, w, hk, hw, hkw, rfl, rfl, g⟩
    · refine ⟨-1, S, S, e_bd d ?_, e_bd e ?_, h⟩
      · rw [if_neg hq.2, pin_eq, hq.1, if_pos hz]
        exact e_bd (g S).1 (by rw [if_pos rfl])
      · rw [if_neg (by decide)]
        exact e_bd (g S).2 (by rw [if_pos rfl])
    · rcases refuse_both (fu := fu) (t := t) hfu (by omega) b a h1.1 with ⟨r, r1, r2, r3⟩ | ⟨hl, hL, r2, r3⟩
      · have rn : ¬ r = 0 := fun q => by rw [q] at r1; exact absurd r1 (by decide)
        refine ⟨r, S, S, e_bd d ?_, e_bd e ?_, h⟩
        · rw [if_neg hq.2, pin_eq, hq.1, if_pos hz]
          refine e_bd (g S).1 ?_
          rw [if_neg (by decide)]
          exact e_bd r2 (by rw [if_neg rn])
        · rw [if_neg (by decide)]
          refine e_bd (g S).2 ?_
          rw [if_neg (by decide)]
          exact e_bd (r3 S c h1.2.1) (by rw [if_neg (fa_of_lt r1).2.1])
      · obtain ⟨S0, S1, a1, a2, a3, a4, a5, a6, a7⟩ := prepare_s (k := k) hfu h2 h4 hz a b hw hk
        obtain ⟨k1, k2, k3, k4, k5, k6⟩ := lay_keeps (j := t) h1 h2 h3 h5 h6 (by omega) rfl hz a b hw a2 a3 a4 a5
        have c1 : TabM S1 t (lg t) (f t) := c.of (by rw [a6 46 (by decide), a5 46 (by decide)]) (by rw [a6 47 (by decide), a5 47 (by decide)]) (by rw [a6 48 (by decide), a5 48 (by decide)])
        have lc1 : LC S1 (f t) (lg t) w := a2.of (by rw [a6 9 (by decide)]) (fun c _ _ => a6 c (by simp; omega))
        have t1 : TabC S1 (tc t) (lg t) (f t) := b.of (by rw [a6 _ (by simp; omega), a5 _ (by simp; omega)]) (by rw [a6 _ (by simp; omega), a5 _ (by simp; omega)])
        have K1 : I_K S1 tc lg f := I_K.of ⟨k2, k3, k4, k5⟩ (a6.mono (by simp [frK])) (by rw [a6 7 (by decide)])
        have row1 : RowC S1 1 L := k1.1.of (a6 1 (by decide)) (a6 2 (by decide))
        obtain ⟨S2, b1, b2, b3, b4, b5⟩ := codeC_s (fu := fu) hfu hk a hw hl hL row1 lc1 a7
        obtain ⟨S3, d1, d2, d3⟩ := packetC_s (fu := fu) (O := O) hfu hk hz a hw hl hL (t1.of (b5 _ (by simp; omega)) (b5 _ (by simp; omega))) b4 (by rw [b5 9 (by decide), a6 9 (by decide)]; exact a4) b2 b3 ((k1.2.2.1.of (a6 3 (by decide)) (a6 4 (by decide))).of (b5 3 (by decide)) (b5 4 (by decide)))
        obtain ⟨S4, e4⟩ : ∃ z, z = upS S3 40 (va_cpy (S3 36) (S3 40) 0 0 6) := ⟨_, rfl⟩
        have f4 : Fr [40] S3 S4 := by rw [e4]; exact Fr.rf.up (by simp)
        have F4 : Fr [3, 4, 8, 36, 37, 38, 40] S1 S4 := (b5.mono (by simp)).tr ((d3.mono (by simp)).tr (f4.mono (by simp)))
        have F04 : Fr [3, 4, 8, 36, 37, 38, 40] S0 S4 := (a6.mono (by simp)).tr F4
        have K4 : I_K S4 tc lg f := K1.of (F4.mono (by simp [frK])) (by rw [F4 7 (by decide)])
        have c4 : TabM S4 t (lg t) (f t) := c1.of (F4 46 (by decide)) (F4 47 (by decide)) (F4 48 (by decide))
        have rM4 : RowM S4 44 1 L := k1.2.1.of (by rw [F04 43 (by decide)]) (F04 44 (by decide))
        obtain ⟨S5, i1, i2, i3, i4, i5, i6⟩ := layM_K (fu := fu) hfu ht hw K4 a c4
        obtain ⟨S6, j1, j2, j3⟩ := beginM_s (w := w) (f := f t) (L := L) hk a.2.1 (show t < 7 by omega) i3.1
        have c6 : TabM S6 t (lg t) (f t) := i3.of (j3 46 (by decide)) (j3 47 (by decide)) (j3 48 (by decide))
        have rM5 : RowM S5 44 1 L := rM4.of (i6 1 (by decide)) (i5 44 (by decide))
        have rM6 : RowM S6 44 1 L := rM5.of (by rw [j3 43 (by decide)]) (j3 44 (by decide))
        obtain ⟨S7, l1, l2, l3, l4⟩ := codeM_loop (fu := fu) (p0 := nI t) (p1 := nI k) (p2 := nI w) hfu hk a hw (show t < 7 by omega) hl hL L.length fu S6 (Nat.le_refl _) (by omega) rM6 c6 (i2.of (j3 50 (by decide)) (j3 51 (by decide)) (j3 52 (by decide))) (by rw [Nat.sub_self]; exact j2)
        have o4 : RowM S4 45 3 O := k1.2.2.2.of (by rw [F04 43 (by decide)]) (F04 45 (by decide))
        have o7 : RowM S7 45 3 O := ((o4.of (i6 3 (by decide)) (i5 45 (by decide))).of (by rw [j3 43 (by decide)]) (j3 45 (by decide))).of (l4 3 (by decide)) (l3 45 (by decide))
        obtain ⟨S8, m1, m2, m3, m4, m5, m6, m7, m8, m9, m10⟩ := packM_end (fu := fu) (p0 := nI t) (p1 := nI k) (p2 := nI w) hfu hk a hw (show t < 7 by omega) hl hL (rM6.of (l4 1 (by decide)) (l3 44 (by decide))) (c6.of (l3 46 (by decide)) (l3 47 (by decide)) (l3 48 (by decide))) o7 l2
        have F58 : Fr [43, 45, 56, 57, 58, 59] S5 S8 := (j3.mono (by simp)).tr ((l3.mono (by simp)).tr (m9.mono (by simp)))
        have F48 : Fr [43, 45, 49, 50, 51, 52, 54, 55, 56, 57, 58, 59] S4 S8 := (i5.mono (by simp)).tr (F58.mono (by simp))
        have x43 : ∀ j, j < 20 → j ≠ 3 → j ≠ 13 → S8 43 j = S1 43 j := fun j q1 q2 q3 => by rw [m10 j q2, l4 j q1, j3 43 (by decide), i6 j q3, F4 43 (by decide)]
        have K8 : I_K S8 tc lg f := i4.of (F58.mono (by simp [frK])) (by rw [F58 7 (by decide)])
        have rC8 : RowC S8 1 L := (row1.of (F4 1 (by decide)) (F4 2 (by decide))).of (F48 1 (by decide)) (F48 2 (by decide))
        have oC8 : RowC S8 3 (pkO k (f t) (lg t) w L) := (d2.of (f4 3 (by decide)) (f4 4 (by decide))).of (F48 3 (by decide)) (F48 4 (by decide))
        have rM8 : RowM S8 44 1 L := rM4.of (by rw [x43 1 (by omega) (by omega) (by omega), F4 43 (by decide)]) (F48 44 (by decide))
        have M8 : I_misc S8 := by
          have z7 : S8 7 = S0 7 := by rw [F48 7 (by decide), F04 7 (by decide)]
          have z0 : S8 0 = S0 0 := by rw [F48 0 (by decide), F04 0 (by decide)]
          have x43' : ∀ j, j < 20 → j ≠ 3 → j ≠ 13 → S8 43 j = S0 43 j := fun j q1 q2 q3 => by rw [x43 j q1 q2 q3, a6 43 (by decide)]
          refine ⟨by rw [z7]; exact k6.1, by rw [z7, x43' 16 (by omega) (by omega) (by omega)]; exact k6.2.1, by rw [z7, x43' 17 (by omega) (by omega) (by omega)]; exact k6.2.2.1, by rw [z0, x43' 18 (by omega) (by omega) (by omega)]; exact k6.2.2.2.1, by rw [z0, x43' 19 (by omega) (by omega) (by omega)]; exact k6.2.2.2.2.1, fun j hj => ?_⟩
          have e40 : S8 40 j = S2 36 j := by
            rw [F48 40 (by decide), e4, upS_s, pk_cpy_in (by omega) (by omega), Nat.zero_add, Nat.sub_zero, d3 36 (by decide)]
          rw [e40]
          have hj6 : j = 0 ∨ j = 1 ∨ j = 2 ∨ j = 3 ∨ j = 4 ∨ j = 5 := by omega
          rcases hj6 with rfl | rfl | rfl | rfl | rfl | rfl
          · rw [m3]; exact b2.2.1
          · rw [m4]; exact b2.2.2.1
          · rw [m5]; exact b2.2.2.2.1
          · rw [m6]; exact b2.2.2.2.2.1
          · rw [m7]; exact b3
          · rw [m8]; exact b2.2.2.2.2.2.1
        refine ⟨nI (pkO k (f t) (lg t) w L).length, S4, S8, e_bd d ?_, ?_, ⟨L, pkO k (f t) (lg t) w L, tc, lg, f, ⟨rC8, rM8, oC8, m2⟩, K8.1, K8.2.1, K8.2.2.1, K8.2.2.2, M8⟩⟩
        · rw [if_neg hq.2, pin_eq, hq.1, if_pos hz]
          refine e_bd (g S).1 ?_
          rw [if_neg (by decide)]
          refine e_bd r2 ?_
          rw [if_pos rfl]
          refine e_bd a1 (e_bd b1 (e_bd d1 (e_bd (r := 0) (S := S4) ?_ ?_)))
          · unfold f_X7_copy
            rw [pin_eq, e4]
          · rw [f4 3 (by decide), d2.1]
        · have eT : f_X9_isTable (nI t) S4 = some (1, S4) := by
            rcases tab_case (S' := S4) h2 h3 (by rw [F04 46 (by decide), a5 46 (by decide)]) (nI t) with ⟨z1, -⟩ | ⟨t', -, -, -, -, -, -, -, z2⟩
            · rw [d] at z1
              exact absurd (congrArg Prod.fst (Option.some.inj z1)) hq.2
            · exact z2
          refine e_bd eT ?_
          rw [if_neg (by decide)]
          refine e_bd (g S4).2 ?_
          rw [if_neg (by decide)]
          refine e_bd (r3 S4 c4 rM4) ?_
          rw [if_pos (by decide)]
          refine e_bd i1 ?_
          refine j1 _ (fun _ S25 => pin ((S25 43 1) - (1 : Int32)) fun x27 => f_X9_pack_L92 fu (nI t) (nI k) (nI w) fu (nI t) (nI k) (nI w) (17000 : Int32) x27 S25) ?_
          show f_X9_pack_L92 fu (nI t) (nI k) (nI w) fu (nI t) (nI k) (nI w) (17000 : Int32) (S6 43 1 - 1) S6 = _
          rw [rM6.1]
          rw [Nat.sub_self] at l1
          exact l1.trans m1
