/-! unpack: the packet, both -/
def l62K (S28 : St) : Option (Int32 × St) :=
  pin (puS S28 7 5 (0 : Int32)) fun S30 =>
  bnd (f_X1_isWhole  S30) fun r31 S32 =>
  if (r31 = 0 ∨ r31 = 1) then some (r31, S32) else none
def l62R (fu : Nat) (S19 : St) : Option (Int32 × St) :=
  bnd (f_X1_readMessage fu  S19) fun _ S22 =>
  bnd (f_X1_checkPayloadEnd  S22) fun _ S25 =>
  bnd (f_X1_checkStates fu  S25) fun _ S28 => l62K S28
theorem l62_eq {fu : Nat} {S : St} : f_X1_readPacket_L62 fu S = bnd (f_X1_findPayload S) fun _ S19 => l62R fu S19 := rfl
def FiF (S : St) (r q : Nat) : Prop := S 7 5 = 0 ∧ S 7 6 = nI r ∧ S 7 7 = nI q
theorem fin_d {r q : Nat} {L : List Nat} {S : St} (h : Dd S L r q) : l62K S = some (0, puS S 7 5 0) ∧ FiF (puS S 7 5 0) r q ∧ F7 [5] [] S (puS S 7 5 0) := by
  have f : F7 [5] [] S (puS S 7 5 0) := F7.rf.p7 (by simp)
  have h6 : puS S 7 5 0 7 6 = nI r := by rw [f.2 6 (by simp)]; exact h.2.2.1
  refine ⟨?_, ⟨by rw [puS_s, upd_s], h6, by rw [f.2 7 (by simp)]; exact h.2.2.2.2.2⟩, f⟩
  unfold l62K
  rw [pin_eq]
  refine e_bd (whole0 (by rw [f.2 6 (by simp)]; exact h.ne)) ?_
  rw [if_pos (Or.inl rfl)]
theorem fin_l {a : Nat} {L : List Nat} {S : St} (h : Lv S L a) : l62K S = some (1, puS S 7 5 0) ∧ F7 [5] [] S (puS S 7 5 0) := by
  have f : F7 [5] [] S (puS S 7 5 0) := F7.rf.p7 (by simp)
  refine ⟨?_, f⟩
  unfold l62K
  rw [pin_eq]
  refine e_bd (whole1 (by rw [f.2 6 (by simp)]; exact h.2.2.1)) ?_
  rw [if_pos (Or.inr rfl)]
theorem l62R_d {fu r q : Nat} {L : List Nat} {S : St} (hfu : 20000 ≤ fu) (h : Dd S L r q) : l62R fu S = some (0, puS S 7 5 0) := by
  unfold l62R
  refine e_bd (r := 0) (S := S) ?_ ?_
  · unfold f_X1_readMessage
    exact e_bd (whole0 h.ne) (by rw [if_pos rfl])
  refine e_bd (pend_d h) ?_
  exact e_bd (csta_d hfu h) (fin_d h).1
theorem tail_d {fu r q : Nat} {L : List Nat} {S : St} (hfu : 20000 ≤ fu) (h : Dd S L r q) : ∃ S', f_X1_readPacket_L62 fu S = some (0, S') ∧ FiF S' r q ∧ F7 [5, 13, 15] [] S S' := by
  obtain ⟨S1, a1, a2, a3⟩ := payl_d h
  obtain ⟨-, b2, b3⟩ := fin_d a2
  refine ⟨_, ?_, b2, (a3.mono (by simp) (by simp)).tr (b3.mono (by simp) (by simp))⟩
  rw [l62_eq]
  exact e_bd a1 (l62R_d hfu a2)
def pkR2 (fu : Nat) (S9 : St) : Option (Int32 × St) :=
  bnd (f_X1_readSizes fu  S9) fun r11 S12 =>
  bnd (f_X1_isWhole  S12) fun r14 S15 =>
  if r14 = 0 then
    f_X1_readPacket_L62 fu     S15
  else
    pin (S15 7 4).toNatClampNeg fun kt36 =>
    if zx_tab kt36 = true then
      bnd (f_X0_prepare fu kt36 (S15 7 9) (S15 7 10) S15) fun r37 S38 =>
      bnd (f_X1_readStates fu  S38) fun r40 S41 =>
      f_X1_readPacket_L62 fu     S41
    else none
theorem pkt_eq {fu : Nat} {S : St} : f_X1_readPacket fu S = bnd (f_X1_readHead fu (puS (puS (puS (puS S 7 5 1) 7 6 0) 7 7 (-1)) 7 8 0)) fun _ S6 => bnd (f_X1_readShares fu S6) fun _ S9 => pkR2 fu S9 := rfl
theorem pkR2_d {fu r q : Nat} {L : List Nat} {S : St} (hfu : 20000 ≤ fu) (h : Dd S L r q) : ∃ S', pkR2 fu S = some (0, S') ∧ FiF S' r q ∧ F7 [5, 11, 13, 14, 15] [] S S' := by
  obtain ⟨S1, a1, a2, a3⟩ := sizes_d (fu := fu) h
  obtain ⟨S2, b1, b2, b3⟩ := tail_d (fu := fu) hfu a2
  refine ⟨S2, ?_, b2, (a3.mono (by simp) (by simp)).tr (b3.mono (by simp) (by simp))⟩
  unfold pkR2
  refine e_bd a1 ?_
  refine e_bd (whole0 a2.ne) ?_
  rw [if_pos rfl]
  exact b1
def PrI (S : St) (kt : Nat) (f : Nat → Nat) (lg w : Nat) : Prop := S 9 9 = nI kt ∧ S 9 8 = nI w ∧ TabC S kt lg f ∧ LC S f lg w
theorem PrI.of {S S' : St} {kt lg w : Nat} {f : Nat → Nat} (h : PrI S kt f lg w) (hc : ∀ c, (9 ≤ c ∧ c ≤ 13) ∨ c = kt ∨ c = kt + 1 → S' c = S c) : PrI S' kt f lg w := ⟨by rw [hc 9 (by omega)]; exact h.1, by rw [hc 9 (by omega)]; exact h.2.1, h.2.2.1.of (hc _ (by omega)) (hc _ (by omega)), h.2.2.2.of (by rw [hc 9 (by omega)]) (fun c _ _ => hc c (by omega))⟩
def jsP : List Nat := [5, 6, 7, 8, 9, 10, 11, 12, 13, 14, 15]
def ksP (kt : Nat) : List Nat := [8, 9, 10, 11, 12, 13, 14, 15, 17, 18, 19, kt, kt + 1]
theorem packet_both {fu : Nat} {L : List Nat} {tc : Nat → Nat} {S : St} (hfu : 20000 ≤ fu) (hR : RowC S 1 L) (hp : I_perm S tc) :
    (∃ (r q : Nat) (S' : St), f_X1_readPacket fu S = some (0, S') ∧ FiF S' r q ∧ F7 jsP (ksP (tc 6)) S S' ∧ I_cache S' tc ∧ ∀ M, RowM M 44 1 L → MF fu M r q) ∨
    (∃ (lg w : Nat) (f : Nat → Nat) (ms : List Nat) (S' : St), f_X1_readPacket fu S = some (1, S') ∧ (S' 7 5 = 0 ∧ S' 7 6 = 0 ∧ S' 7 7 = -1) ∧ F7 jsP (ksP (tc 6)) S S' ∧ SumOK f lg ∧ w < 3 ∧ PrI S' (tc 6) f lg w ∧ S' 7 11 = nI ms.length ∧ ms.length ≤ 1400 ∧ (∀ y ∈ ms, y < 256) ∧ (∀ j, j < ms.length → by8 (S' 19 j) 0 = ms.getD j 0) ∧ ∀ M, RowM M 44 1 L → ∃ M', f_X9_reads fu M = some (1, M') ∧ M' 43 16 = M 43 16 ∧ M' 43 17 = M 43 17 ∧ M' 43 30 = nI ms.length ∧ M' 46 6 = nI lg ∧ ShM M' 6 f ∧ (∀ j, j < ms.length → M' 61 j = nI (ms.getD j 0)) ∧ (∀ j, j < 6 → S' 17 j = M' 59 j) ∧ FrR M M') := by
  have hz := hp.1 6 (by omega)
  have hr := tab_rng hz
  have hl4 := hR.2.1
  have hby := hR.2.2.1
  obtain ⟨kt, ek⟩ : ∃ z, z = tc 6 := ⟨_, rfl⟩
  have h74 : S 7 4 = nI kt := by rw [ek]; exact hp.2.2.2
  rw [← ek] at hz hr ⊢
  obtain ⟨S0, e0⟩ : ∃ z, z = puS (puS (puS (puS S 7 5 1) 7 6 0) 7 7 (-1)) 7 8 0 := ⟨_, rfl⟩
  have f0 : F7 [5, 6, 7, 8] [] S S0 := by rw [e0]; exact (((F7.rf.p7 (by simp)).p7 (by simp)).p7 (by simp)).p7 (by simp)
  have v0 : Lv S0 L 0 := by
    refine ⟨hR.of (f0.c (by simp)) (f0.c (by simp)), ?_, ?_, ?_, ?_⟩
    · rw [e0, puS_s, upd_n (by decide), puS_s, upd_n (by decide), puS_s, upd_n (by decide), puS_s, upd_s]
    · rw [e0, puS_s, upd_n (by decide), puS_s, upd_n (by decide), puS_s, upd_s]
    · rw [e0, puS_s, upd_n (by decide), puS_s, upd_s]
    · rw [e0, puS_s, upd_s]; rfl
  have F0 : F7 jsP (ksP kt) S S0 := f0.mono (by simp [jsP]) (by simp)
  rcases head_s (fu := fu) hfu hz (by rw [f0.2 4 (by simp)]; exact h74) v0 with ⟨r, q, S1, a0, a1, a2, a3, a4⟩ | ⟨k, w, lg, S1, a0, a1, a2, a3, a4, a5, a6, a7⟩
  · left
    have h741 : S1 7 4 = nI kt := by rw [a3.2 4 (by simp), f0.2 4 (by simp)]; exact h74
    obtain ⟨S2, b1, b2, b3⟩ := pkR2_d (fu := fu) hfu a2
    refine ⟨r, q, S2, ?_, b2, F0.tr ((a3.mono (by simp [jsP]) (by simp [ksP])).tr (b3.mono (by simp [jsP]) (by simp))), Or.inl (by rw [b3.c (by simp)]; exact a4), fun M hM => mdl_1 hfu hl4 hby hM a0⟩
    rw [pkt_eq, ← e0]
    refine e_bd a1 ?_
    refine e_bd (shares_d hfu hz h741 a2) b1
  · have h741 : S1 7 4 = nI kt := by rw [a6.2 4 (by simp), f0.2 4 (by simp)]; exact h74
    have F1 : F7 jsP (ksP kt) S S1 := F0.tr (a6.mono (by simp [jsP]) (by simp [ksP]))
    have hlg := a0.2.2.2.2
    have hW := a0.2.2.1
    obtain ⟨⟨r, q, g⟩, hS⟩ : ∃ z : Nat × Nat × (Nat → Nat), shR L lg = z := ⟨_, rfl⟩
    obtain ⟨S2, b1, b2, b3, b4⟩ := shares_s (fu := fu) hfu hz hlg.2 h741 a2 a5 hS
    have F2 : F7 jsP (ksP kt) S S2 := F1.tr (b4.mono (by simp [jsP]) (by simp [ksP]))
    have h742 : S2 7 4 = nI kt := by rw [b4.2 4 (by simp)]; exact h741
    have h992 : S2 9 9 = 0 := by rw [b4.c (by simp; omega)]; exact a7
    have g2 : ∀ R, pkR2 fu S2 = R → f_X1_readPacket fu S = R := fun R hR' => by
      rw [pkt_eq, ← e0]
      refine e_bd a1 ?_
      exact e_bd b1 hR'
    by_cases r0 : r = 0
    · subst r0
      obtain ⟨c1, c2⟩ := b3 rfl
      obtain ⟨hs, hq1, hq2, -⟩ := shR_ok hlg hby hS
      rcases sizes_s (fu := fu) hfu c1 (by omega) with ⟨r, q', S3, d0, d1, d2, d3⟩ | ⟨d0, d1, S3, d2, d3, d4, d5, d6⟩
      · left
        obtain ⟨S4, i1, i2, i3⟩ := tail_d (fu := fu) hfu d2
        refine ⟨r, q', S4, g2 _ ?_, i2, F2.tr ((d3.mono (by simp [jsP]) (by simp)).tr (i3.mono (by simp [jsP]) (by simp))), Or.inl (by rw [i3.c (by simp), d3.c (by simp)]; exact h992), fun M hM => (mdl_3 hfu hl4 hby hM a0 hS hq1).1 r q' d0⟩
        unfold pkR2
        refine e_bd d1 ?_
        refine e_bd (whole0 d2.ne) ?_
        rw [if_pos rfl]
        exact i1
      · have F3 : F7 jsP (ksP kt) S S3 := F2.tr (d6.mono (by simp [jsP]) (by simp))
        have T3 : TabC S3 kt lg g := c2.of (d6.c (by simp; omega)) (d6.c (by simp; omega))
        have p3 : I_perm S3 tc := hp.of (F3.c (by simp [ksP]; omega)) (F3.2 4 (by simp [jsP]))
        have k9 : S3 7 9 = nI k := by rw [d6.2 9 (by simp), b4.2 9 (by simp)]; exact a3
        have k10 : S3 7 10 = nI w := by rw [d6.2 10 (by simp), b4.2 10 (by simp)]; exact a4
        obtain ⟨S4', S4, i1, i2, i3, i4, i5, i6, i7⟩ := prepare_s (fu := fu) (k := k) (w := w) hfu p3 (Or.inl (by rw [d6.c (by simp)]; exact h992)) hz hs T3 hW.2.1 hW.1
        have f4 : F7 [] [8, 9, 10, 11, 12, 13, 14, 15] S3 S4 := F7.fr ((i5.mono (by simp)).tr (i6.mono (by simp))) (by simp)
        have F4 : F7 jsP (ksP kt) S S4 := F3.tr (f4.mono (by simp) (by simp [ksP]))
        have P4 : PrI S4 kt g lg w := ⟨by rw [i6 9 (by decide)]; exact i3, by rw [i6 9 (by decide)]; exact i4, T3.of (f4.c (by simp; omega)) (f4.c (by simp; omega)), i2.of (by rw [i6 9 (by decide)]) (fun c _ _ => i6 c (by simp; omega))⟩
        have v4 : Lv S4 L (q + 4) := d3.of f4 (by simp) (by simp) (by simp) (by rw [f4.2 8 (by simp)]; exact d3.2.2.2.2)
        have hg := num2_lt hby (a := q + 2) (by omega)
        have hn := nSN_bd k
        have hsb := sbN_bd k
        have hns : nSN k * sbN k ≤ 8 := Nat.le_trans (Nat.mul_le_mul hn.2 hsb.2) (by decide)
        have g4 : ∀ R, (bnd (f_X1_readStates fu S4) fun _ S41 => f_X1_readPacket_L62 fu S41) = R → f_X1_readPacket fu S = R := fun R hR' => g2 R (by
          unfold pkR2
          refine e_bd d2 ?_
          refine e_bd (whole1 d3.2.2.1) ?_
          rw [if_neg (by decide), show S3 7 4 = nI kt by rw [d6.2 4 (by simp)]; exact h742, pin_eq, (tab_62 hz).1, if_pos hz, k9, k10]
          exact e_bd i1 hR')
        have hca : ∀ S' : St, PrI S' kt g lg w → I_cache S' tc := fun S' hP => Or.inr ⟨6, g, lg, w, by omega, hW.2.1, by rw [← ek]; exact hP.1, hP.2.1, hs, by rw [← ek]; exact hP.2.2.1, hP.2.2.2⟩
        rcases states_s (fu := fu) hfu hW.1 hlg.2 (by omega) v4 i7 with ⟨r, q', S5, j0, j1, j2, j3⟩ | ⟨j0, S5, j1, j2, j3, j4, j5⟩
        · left
          obtain ⟨S6, l1, l2, l3⟩ := tail_d (fu := fu) hfu j2
          have F6 : F7 [5, 6, 7, 8, 12, 13, 15] [18] S4 S6 := (j3.mono (by simp) (by simp)).tr (l3.mono (by simp) (by simp))
          refine ⟨r, q', S6, g4 _ ?_, l2, F4.tr (F6.mono (by simp [jsP]) (by simp [ksP])), hca _ (P4.of (fun c hc => F6.c (by simp; omega))), fun M hM => ((mdl_3 hfu hl4 hby hM a0 hS hq1).2 d0 d1).1 r q' j0⟩
          exact e_bd j1 l1
        · have k14 : S5 7 14 = nI (numN L (q + 2) 2) := by rw [j5.2 14 (by simp), f4.2 14 (by simp)]; exact d5
          have k11 : S5 7 11 = nI (numN L q 2) := by rw [j5.2 11 (by simp), f4.2 11 (by simp)]; exact d4
          rcases payl_s j2 (by omega) hg k14 with ⟨r, q', S6, l0, l1, l2, l3⟩ | ⟨l0, S6, l1, l2, l3, l4, l5⟩
          · left
            obtain ⟨-, m2, m3⟩ := fin_d l2
            have F6 : F7 [5, 6, 7, 8, 12, 13, 15] [18] S4 (puS S6 7 5 0) := (j5.mono (by simp) (by simp)).tr ((l3.mono (by simp) (by simp)).tr (m3.mono (by simp) (by simp)))
            refine ⟨r, q', _, g4 _ ?_, m2, F4.tr (F6.mono (by simp [jsP]) (by simp [ksP])), hca _ (P4.of (fun c hc => F6.c (by simp; omega))), fun M hM => ((mdl_3 hfu hl4 hby hM a0 hS hq1).2 d0 d1).2 j0 r q' l0⟩
            refine e_bd j1 ?_
            rw [l62_eq]
            exact e_bd l1 (l62R_d hfu l2)
          · have F6 : F7 [6, 7, 8, 12, 13, 15] [18] S4 S6 := (j5.mono (by simp) (by simp)).tr (l5.mono (by simp) (by simp))
            have P6 : PrI S6 kt g lg w := P4.of (fun c hc => F6.c (by simp; omega))
            have hgo : ∀ R, l62R fu S6 = R → f_X1_readPacket fu S = R := fun R hR' => g4 R (by
              refine e_bd j1 ?_
              rw [l62_eq]
              exact e_bd l1 hR')
            have hx : ∀ e, e < nSN k → StOK k lg (vN k lg L (q + 4) e) := fun e he => (j0 e (Nat.zero_le _) he).2
            rcases body_both (fu := fu) (sa := q + 4) (x := vN k lg L (q + 4)) (N := numN L q 2) hfu hW.1 hs hW.2.1 hW.2.2.1 (show q + 4 + nSN k * sbN k ≤ 10000 by omega) l0 d1 hx l2 (i7.ofc (F6.c (by simp))) P6.2.2.2 (by rw [l5.2 11 (by simp)]; exact k11) (by rw [l5.2 12 (by simp)]; exact j4) l3 (by rw [l5.2 14 (by simp)]; exact k14) l4 (fun e he => by rw [l5.c (by simp)]; exact j3 e he) with ⟨r, q', S7, m1, m2, m3, m4⟩ | ⟨S7, ms, m1, m2, m3, m4, m5, m6, m7⟩
            · left
              obtain ⟨n1, n2, n3⟩ := fin_d m2
              have F7' : F7 [5, 6, 7, 8, 12, 13, 15] [17, 18, 19] S4 (puS S7 7 5 0) := (F6.mono (by simp) (by simp)).tr ((m3.mono (by simp) (by simp)).tr (n3.mono (by simp) (by simp)))
              refine ⟨r, q', _, hgo _ (m1 (fun _ S28 => l62K S28) _ n1), n2, F4.tr (F7'.mono (by simp [jsP]) (by simp [ksP])), hca _ (P4.of (fun c hc => F7'.c (by simp; omega))), fun M hM => ?_⟩
              obtain ⟨M1, u1, u2, u3, u4, u5⟩ := mdl_4 hfu hl4 hby hM a0 hS hs hq1 d0 d1 j0 l0
              obtain ⟨M2, w1, w2⟩ := m4 M1 u2
              refine ⟨M2, u1.trans ?_, u5.tr (FrR.of43 (w2.mono (by simp)) (fun j _ => by rw [w2 43 (by decide)]))⟩
              exact e_bd w1 (by rw [if_pos (Or.inl rfl)])
            · right
              obtain ⟨n1, n3⟩ := fin_l m2
              have F7' : F7 [5, 6, 7, 8, 12, 13, 15] [17, 18, 19] S4 (puS S7 7 5 0) := (F6.mono (by simp) (by simp)).tr ((m3.mono (by simp) (by simp)).tr (n3.mono (by simp) (by simp)))
              refine ⟨lg, w, g, ms, puS S7 7 5 0, hgo _ (m1 (fun _ S28 => l62K S28) _ n1), ⟨by rw [puS_s, upd_s], by rw [n3.2 6 (by simp)]; exact m2.2.2.1, by rw [n3.2 7 (by simp)]; exact m2.2.2.2.1⟩, F4.tr (F7'.mono (by simp [jsP]) (by simp [ksP])), hs, hW.2.1, P4.of (fun c hc => F7'.c (by simp; omega)), ?_, by omega, m5, fun j hj => by rw [n3.c (by simp)]; exact m6 j (by omega), fun M hM => ?_⟩
              · rw [n3.2 11 (by simp), m3.2 11 (by simp), l5.2 11 (by simp), m4]
                exact k11
              · obtain ⟨M1, u1, u2, u3, u4, u5⟩ := mdl_4 hfu hl4 hby hM a0 hS hs hq1 d0 d1 j0 l0
                obtain ⟨M2, w1, w2, w3, w4⟩ := m7 M1 u2
                refine ⟨M2, u1.trans (e_bd w1 (by rw [if_pos (Or.inr rfl)])), by rw [w2 43 (by decide)]; exact u3, by rw [w2 43 (by decide)]; exact u4, by rw [w2 43 (by decide), m4]; exact u2.1.2.2.1, by rw [w2 46 (by decide)]; exact u2.2.1.1, fun s hs => by rw [w2 47 (by decide)]; exact u2.2.1.2.1 s hs, fun j hj => w3 j (by omega), fun j hj => by rw [n3.c (by simp)]; exact w4 j hj, u5.tr (FrR.of43 (w2.mono (by simp)) (fun j _ => by rw [w2 43 (by decide)]))⟩
    · left
      obtain ⟨S3, c1, c2, c3⟩ := pkR2_d (fu := fu) hfu (b2 r0)
      refine ⟨r, q, S3, g2 _ c1, c2, F2.tr (c3.mono (by simp [jsP]) (by simp)), Or.inl (by rw [c3.c (by simp)]; exact h992), fun M hM => (mdl_2 hfu hl4 hby hM a0 hS).1 r0⟩
