/-! unpack: one SYMBOL more, in the class -/
theorem by8_nar : ∀ s, s < 256 → by8 (vp_nar .byte ((nI s).toInt8.toInt32)) 0 = s := by decide +kernel
def upX (x : Nat → Nat) (c v : Nat) : Nat → Nat := fun e => if e = c then v else x e
def ClI (S : St) (k lg w N p P : Nat) (f : Nat → Nat) (L : List Nat) (a i : Nat) (x : Nat → Nat) (b a0 a1 a5 : Nat) (ms : List Nat) : Prop :=
  Lv S L a ∧ CdC S k lg ∧ LC S f lg w ∧ (S 7 11 = nI N ∧ S 7 13 = nI p ∧ S 7 14 = nI P ∧ S 7 15 = nI (wdN k * b)) ∧ (∀ e, e < nSN k → S 18 e = nI (x e)) ∧ (S 17 0 = nI a0 ∧ S 17 1 = nI a1 ∧ S 17 2 = nI i ∧ S 17 3 = nI b ∧ S 17 5 = nI a5) ∧ ms.length = i ∧ ∀ j, j < i → by8 (S 19 j) 0 = ms.getD j 0
theorem symC_s {fu k lg w N p P a i b a0 a1 a5 : Nat} {f x : Nat → Nat} {L ms : List Nat} {S : St} (hfu : 20000 ≤ fu) (hk : k < 3) (hs : SumOK f lg) (hw : w < 3) (hkw : k ≠ 0 → w = 0) (hp : p ≤ 10000) (hlen : L.length = p + P) (hi : i < 1400) (hb : b ≤ tuN k P) (hx : ∀ e, e < nSN k → StOK k lg (x e)) (h0 : a0 < 2 ^ 31) (h1 : a1 < 2 ^ 31) (h5 : a5 < 2 ^ 31) (h : ClI S k lg w N p P f L a i x b a0 a1 a5 ms) :
    (flP k lg L p P 12 (lfN k f lg w (x (tnN k i))) b = none → ∃ S', f_X1_readSymbol fu (nI i) S = some (0, S') ∧ Dd S' L 5 (p + P) ∧ F7 [6, 7, 15] [17, 18, 19] S S') ∧
    (∀ v' b', flP k lg L p P 12 (lfN k f lg w (x (tnN k i))) b = some (v', b') → ∃ S', f_X1_readSymbol fu (nI i) S = some (0, S') ∧ ClI S' k lg w N p P f L a (i + 1) (upX x (tnN k i) v') b' (if v' < a0 then v' else a0) (if a1 < v' then v' else a1) (if a5 < b' - b then b' - b else a5) (ms ++ [smN k f lg w (x (tnN k i))]) ∧ F7 [15] [17, 18, 19] S S') := by
  obtain ⟨hL, hc, hLC, ⟨g11, g13, g14, g15⟩, h18, ⟨t0, t1, t2, t3, t5⟩, hm, h19⟩ := h
  have hn := nSN_bd k
  have hcn := tn_lt k i
  obtain ⟨c, ec⟩ : ∃ z, z = tnN k i := ⟨_, rfl⟩
  rw [← ec] at hcn ⊢
  have hxc := hx c hcn
  obtain ⟨q1, q2⟩ := lf_pos hs hw hkw hxc
  obtain ⟨-, -, q3, -⟩ := lf_bd hs hw hkw hxc
  obtain ⟨S1, e1⟩ : ∃ z, z = puS S 19 i (vp_nar .byte ((nI (smN k f lg w (x c))).toInt8.toInt32)) := ⟨_, rfl⟩
  have f1 : F7 [] [19] S S1 := by rw [e1]; exact F7.rf.pu (by simp) (by omega)
  have hc1 : CdC S1 k lg := hc.ofc (f1.c (by simp))
  have hLC1 : LC S1 f lg w := hLC.of (by rw [f1.c (by simp)]) (fun e _ _ => f1.c (by simp; omega))
  have hgo : ∀ R, f_X1_readSymbol_L46 fu (nI i) fu (nI c) (nI (lfN k f lg w (x c))) (nI 0) (nI 0) S1 = R → f_X1_readSymbol fu (nI i) S = R := by
    intro R hR
    unfold f_X1_readSymbol
    refine e_bd (turnOf_s hk (by omega) hc) ?_
    rw [← ec, if_neg (nI_in (by omega) (by omega)), nI_clamp (by omega), pin_eq, h18 c hcn]
    refine e_bd (symbolOf_s hk hs hw hLC hc hxc) ?_
    rw [if_neg (nI_in (by omega) (by omega)), nI_clamp (by omega), pin_eq, ← e1]
    refine e_bd (behindC_s hk hs hw hkw hLC1 hc1 hxc) ?_
    exact hR
  obtain ⟨i1, i2⟩ := s46_s (fu := fu) (i := nI i) hk hs.2.1 (show c < 2 by omega) hp hlen 12 0 fu (lfN k f lg w (x c)) 0 b S1 (by omega) (by omega) q2 hb hc1 (hL.of f1 (by simp) (by simp) (by simp) (by rw [f1.2 8 (by simp)]; exact hL.2.2.2.2)) (by rw [f1.2 13 (by simp)]; exact g13) (by rw [f1.2 14 (by simp)]; exact g14) (by rw [f1.2 15 (by simp)]; exact g15)
  refine ⟨fun q => ?_, fun v' b' q => ?_⟩
  · obtain ⟨S', a1, a2, a3⟩ := i1 q
    exact ⟨S', hgo _ a1, a2, (f1.mono (by simp) (by simp)).tr (a3.mono (by simp) (by simp))⟩
  · obtain ⟨S2, b1, b2, b3, b4, b5⟩ := i2 v' b' q
    obtain ⟨o1, o2, o3, o4⟩ := fl_ok hL.1.2.2.1 hlen 12 _ b v' b' (ls12 hs.2.1 q1) q2 hb q
    have o5 := o1.lt hs.2.1
    rw [Nat.zero_add] at b1
    obtain ⟨S3, e3⟩ : ∃ z, z = puS S2 18 c (nI v') := ⟨_, rfl⟩
    have f3 : F7 [] [18] S2 S3 := by rw [e3]; exact F7.rf.pu (by simp) (by omega)
    have F13 : F7 [15] [18] S1 S3 := (b4.mono (by simp) (by simp)).tr (f3.mono (by simp) (by simp))
    have F03 : F7 [15] [18, 19] S S3 := (f1.mono (by simp) (by simp)).tr (F13.mono (by simp) (by simp))
    obtain ⟨S4, j1, j2, j3, j4, j5, j6, j7, j8⟩ := addSym_s (c := 16) (x := v') (u := b' - b) (S := S3) o5 (by omega) h0 h1 h5 (by rw [F03.c (by simp)]; exact t0) (by rw [F03.c (by simp)]; exact t1) (by rw [F03.c (by simp)]; exact t2) (by rw [F03.c (by simp)]; exact t3) (by rw [F03.c (by simp)]; exact t5)
    have f4 : F7 [] [17] S3 S4 := F7.fr j2 (by simp)
    have F : F7 [15] [17, 18, 19] S S4 := (F03.mono (by simp) (by simp)).tr (f4.mono (by simp) (by simp))
    refine ⟨S4, hgo _ ?_, ⟨?_, hc.ofc (F.c (by simp)), hLC.of (by rw [F.c (by simp)]) (fun e _ _ => F.c (by simp; omega)), ⟨by rw [F.2 11 (by simp)]; exact g11, by rw [F.2 13 (by simp)]; exact g13, by rw [F.2 14 (by simp)]; exact g14, ?_⟩, ?_, ⟨j3, j4, j5, ?_, j7⟩, by rw [List.length_append, hm]; rfl, ?_⟩, F⟩
    · rw [b1]
      unfold f_X1_readSymbol_L88
      rw [if_neg (nI_in (by omega) (by omega)), nI_clamp (by omega), pin_eq, ← e3]
      exact e_bd j1 rfl
    · exact (b2.of f3 (by simp) (by simp) (by simp) (by rw [f3.2 8 (by simp)]; exact b2.2.2.2.2)).of f4 (by simp) (by simp) (by simp) (by rw [f4.2 8 (by simp), f3.2 8 (by simp)]; exact b2.2.2.2.2)
    · rw [f4.2 15 (by simp), f3.2 15 (by simp)]
      exact b3
    · intro e he
      rw [f4.c (by simp), e3, puS_s]
      show upd (S2 18) c (nI v') e = nI (if e = c then v' else x e)
      by_cases qe : e = c
      · rw [if_pos qe, qe, upd_s]
      · rw [if_neg qe, upd_n qe, b4.c (by simp), f1.c (by simp)]
        exact h18 e he
    · rw [show (16 + 1 : Nat) = 17 from rfl] at j6
      rw [j6, show b + (b' - b) = b' by omega]
    · intro j hj
      rw [f4.c (by simp), F13.c (by simp), e1, puS_s]
      by_cases qj : j = i
      · rw [qj, upd_s, by8_nar _ q3, ← hm, getD_hi]
      · rw [upd_n qj, h19 j (by omega), getD_lo (by omega)]
theorem l77_s {fu b wd : Nat} {S : St} (h3 : S 17 3 = nI b) (h4 : S 8 4 = nI wd) (hb : b * wd + 7 < 2 ^ 31) : f_X1_readMessage_L77 fu S = some (0, puS S 17 4 (nI ((b * wd + 7) / 8))) := by
  unfold f_X1_readMessage_L77 f_X7_setBytes
  rw [h4, show S (16 + 1) 3 = nI b from h3, pk_mul, show nI (b * wd) + (7 : Int32) = nI (b * wd + 7) from nI_add _ 7, nI_div8 hb, pin_eq, bnd_some]
