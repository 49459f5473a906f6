/-! pack: what is coded -/
def tnN (k i : Nat) : Nat := if k = 2 then i % 2 else 0
theorem tnN_lt (k i : Nat) : tnN k i < 2 := by unfold tnN; split <;> omega
/-- the STATES behind the last d SYMBOLS -/
def pkS (k : Nat) (f : Nat → Nat) (lg w : Nat) (L : List Nat) : Nat → Nat → Nat
  | 0 => fun _ => lsN k lg
  | d + 1 => fun t => if t = tnN k (L.length - 1 - d) then stX k f lg w (L.getD (L.length - 1 - d) 0) (pkS k f lg w L d t) else pkS k f lg w L d t
def pkc (k : Nat) (f : Nat → Nat) (lg w : Nat) (L : List Nat) (d : Nat) : Nat := pkS k f lg w L d (tnN k (L.length - 1 - d))
def pkU (k : Nat) (f : Nat → Nat) (lg w : Nat) (L : List Nat) (d : Nat) : Nat := stU k lg (f (L.getD (L.length - 1 - d) 0)) (pkc k f lg w L d)
def pkV (k : Nat) (f : Nat → Nat) (lg w : Nat) (L : List Nat) (d : Nat) : Nat := stV k lg (f (L.getD (L.length - 1 - d) 0)) (pkc k f lg w L d)
def pkX (k : Nat) (f : Nat → Nat) (lg w : Nat) (L : List Nat) (d : Nat) : Nat := stX k f lg w (L.getD (L.length - 1 - d) 0) (pkc k f lg w L d)
def pkmn (k : Nat) (f : Nat → Nat) (lg w : Nat) (L : List Nat) : Nat → Nat
  | 0 => lsN k lg
  | d + 1 => if pkX k f lg w L d < pkmn k f lg w L d then pkX k f lg w L d else pkmn k f lg w L d
def pkmx (k : Nat) (f : Nat → Nat) (lg w : Nat) (L : List Nat) : Nat → Nat
  | 0 => lsN k lg
  | d + 1 => if pkmx k f lg w L d < pkX k f lg w L d then pkX k f lg w L d else pkmx k f lg w L d
def pkmu (k : Nat) (f : Nat → Nat) (lg w : Nat) (L : List Nat) : Nat → Nat
  | 0 => 0
  | d + 1 => if pkmu k f lg w L d < pkU k f lg w L d then pkU k f lg w L d else pkmu k f lg w L d
def pkT (k : Nat) (f : Nat → Nat) (lg w : Nat) (L : List Nat) : Nat → Nat
  | 0 => 0
  | d + 1 => pkT k f lg w L d + pkU k f lg w L d
theorem pkS_ok {k lg w : Nat} {f : Nat → Nat} {L : List Nat} (hs : SumOK f lg) (hw : w < 3) (hL : ∀ j, j < L.length → L.getD j 0 < 256 ∧ 1 ≤ f (L.getD j 0)) : ∀ d, d ≤ L.length → ∀ t, StOK k lg (pkS k f lg w L d t) := by
  intro d
  induction d with
  | zero =>
    intro _ t
    have := pow1 lg
    have := pow12 hs.2.1
    refine ⟨Nat.le_refl _, ?_⟩
    unfold pkS lsN
    split <;> omega
  | succ d ih =>
    intro hd t
    unfold pkS
    have h1 := ih (by omega) t
    split
    · have := hL (L.length - 1 - d) (by omega)
      exact stX_ok hs hw this.1 this.2 h1
    · exact h1
theorem pk_facts {k lg w : Nat} {f : Nat → Nat} {L : List Nat} (hs : SumOK f lg) (hw : w < 3) (hL : ∀ j, j < L.length → L.getD j 0 < 256 ∧ 1 ≤ f (L.getD j 0)) {d : Nat} (hd : d < L.length) : StOK k lg (pkc k f lg w L d) ∧ StOK k lg (pkX k f lg w L d) ∧ pkU k f lg w L d ≤ bnN k lg ∧ pkV k f lg w L d < 2 ^ (wdN k * pkU k f lg w L d) ∧ wdN k * pkU k f lg w L d ≤ 16 := by
  have h1 := pkS_ok (k := k) hs hw hL d (by omega) (tnN k (L.length - 1 - d))
  have h2 := hL (L.length - 1 - d) (by omega)
  have h3 := (stU_p (lg_bd hs) h2.2 h1).1
  exact ⟨h1, stX_ok hs hw h2.1 h2.2 h1, h3, Nat.mod_lt _ (Nat.two_pow_pos _), Nat.le_trans (Nat.mul_le_mul_left _ h3) (bnN_le hs.2.1).2⟩
theorem pk_bounds {k lg w : Nat} {f : Nat → Nat} {L : List Nat} (hs : SumOK f lg) (hw : w < 3) (hL : ∀ j, j < L.length → L.getD j 0 < 256 ∧ 1 ≤ f (L.getD j 0)) : ∀ d, d ≤ L.length → StOK k lg (pkmn k f lg w L d) ∧ StOK k lg (pkmx k f lg w L d) ∧ pkmu k f lg w L d ≤ 12 ∧ pkT k f lg w L d ≤ d * bnN k lg := by
  intro d
  induction d with
  | zero =>
    intro _
    have h0 := pkS_ok (k := k) hs hw hL 0 (by omega) 0
    exact ⟨h0, h0, Nat.zero_le _, Nat.zero_le _⟩
  | succ d ih =>
    intro hd
    obtain ⟨a, b, c, e⟩ := ih (by omega)
    obtain ⟨-, x, u, -, -⟩ := pk_facts (k := k) hs hw hL (show d < L.length by omega)
    have := (bnN_le (k := k) hs.2.1).1
    refine ⟨?_, ?_, ?_, ?_⟩
    · unfold pkmn; split <;> assumption
    · unfold pkmx; split <;> assumption
    · unfold pkmu; split <;> omega
    · unfold pkT; rw [Nat.add_mul]; omega
/-- what the class keeps of it -/
def PkC (S : St) (k : Nat) (f : Nat → Nat) (lg w : Nat) (L : List Nat) (d : Nat) : Prop := (∀ t, t < 2 → S 37 t = nI (pkS k f lg w L d t)) ∧ S 36 0 = nI (pkmn k f lg w L d) ∧ S 36 1 = nI (pkmx k f lg w L d) ∧ S 36 2 = nI d ∧ S 36 3 = nI (pkT k f lg w L d) ∧ S 36 5 = nI (pkmu k f lg w L d) ∧ ∀ e, e < d → S 38 (L.length - 1 - e) = nI (pkU k f lg w L e * 65536 + pkV k f lg w L e)
theorem turnOf_s {S : St} {k lg i : Nat} (hk : k < 3) (hi : i < 2 ^ 31) (h : CdC S k lg) : f_X0_turnOf (nI i) S = some (nI (tnN k i), S) := by
  unfold f_X0_turnOf tnN
  rw [h.1]
  by_cases q : k = 2
  · rw [if_pos (by rw [q]; rfl), if_pos q, pk_andN (by omega) 1 (by decide)]
  · rw [if_neg (show ¬ nI k = (2 : Int32) from fun c => q (nI_small (b := 2) (by omega) (by omega) c)), if_neg q]
    rfl
theorem or16 {u v : Nat} (hu : u ≤ 12) (hv : v < 65536) : (nI u <<< ((16 : Int32) &&& 31)) ||| nI v = nI (u * 65536 + v) := by
  rw [show ((16 : Int32) &&& 31) = (nI 16 &&& 31) from rfl, pk_shlN _ 16 (s_l 16 (by omega)) (by omega), Nat.mul_comm, fa_or_sum (k := 16) u hv]
/-- a tally: one SYMBOL more -/
theorem addSym_s {c x u a0 a1 a2 a3 a5 : Nat} {S : St} (hx : x < 2 ^ 31) (hu : u < 2 ^ 31) (h0 : a0 < 2 ^ 31) (h1 : a1 < 2 ^ 31) (h5 : a5 < 2 ^ 31) (e0 : S (c + 1) 0 = nI a0) (e1 : S (c + 1) 1 = nI a1) (e2 : S (c + 1) 2 = nI a2) (e3 : S (c + 1) 3 = nI a3) (e5 : S (c + 1) 5 = nI a5) : ∃ S', f_X7_addSymbol c (nI x) (nI u) S = some (0, S') ∧ Fr [c + 1] S S' ∧ S' (c + 1) 0 = nI (if x < a0 then x else a0) ∧ S' (c + 1) 1 = nI (if a1 < x then x else a1) ∧ S' (c + 1) 2 = nI (a2 + 1) ∧ S' (c + 1) 3 = nI (a3 + u) ∧ S' (c + 1) 5 = nI (if a5 < u then u else a5) ∧ S' (c + 1) 4 = S (c + 1) 4 := by
  have i0 : (if nI x < nI a0 then nI x else nI a0) = nI (if x < a0 then x else a0) := by
    by_cases q : x < a0
    · rw [if_pos (nI_lt q h0), if_pos q]
    · rw [if_neg (by rw [nI_ltI hx h0]; exact q), if_neg q]
  have i1 : (if nI a1 < nI x then nI x else nI a1) = nI (if a1 < x then x else a1) := by
    by_cases q : a1 < x
    · rw [if_pos (nI_lt q hx), if_pos q]
    · rw [if_neg (by rw [nI_ltI h1 hx]; exact q), if_neg q]
  have i5 : (if nI a5 < nI u then nI u else nI a5) = nI (if a5 < u then u else a5) := by
    by_cases q : a5 < u
    · rw [if_pos (nI_lt q hu), if_pos q]
    · rw [if_neg (by rw [nI_ltI h5 hu]; exact q), if_neg q]
  have hme : f_X7_meet c (nI x) S = some (0, puS (puS S (c + 1) 0 (nI (if x < a0 then x else a0))) (c + 1) 1 (nI (if a1 < x then x else a1))) := by
    unfold f_X7_meet
    rw [pin_eq, pin_eq, e0, i0, show puS S (c + 1) 0 (nI (if x < a0 then x else a0)) (c + 1) 1 = nI a1 by rw [puS_s, upd_n (by decide)]; exact e1, i1]
  refine ⟨puS (puS (puS (puS (puS S (c + 1) 0 (nI (if x < a0 then x else a0))) (c + 1) 1 (nI (if a1 < x then x else a1))) (c + 1) 2 (nI (a2 + 1))) (c + 1) 3 (nI (a3 + u))) (c + 1) 5 (nI (if a5 < u then u else a5)), ?_, ((((Fr.rf.pu (by simp)).pu (by simp)).pu (by simp)).pu (by simp)).pu (by simp), ?_, ?_, ?_, ?_, ?_, ?_⟩
  · unfold f_X7_addSymbol
    refine e_bd hme ?_
    rw [pin_eq, pin_eq, pin_eq]
    simp only [puS_s]
    rw [upd_n (show 2 ≠ 1 by decide), upd_n (show 2 ≠ 0 by decide), e2, upd_n (show 3 ≠ 2 by decide), upd_n (show 3 ≠ 1 by decide), upd_n (show 3 ≠ 0 by decide), e3, upd_n (show 5 ≠ 3 by decide), upd_n (show 5 ≠ 2 by decide), upd_n (show 5 ≠ 1 by decide), upd_n (show 5 ≠ 0 by decide), e5, i5, nI_1, nI_add]
  all_goals simp [puS, upS, upd]
/-- the class codes the TAPE from its end on -/
theorem codeC_loop {fu k lg w : Nat} {f : Nat → Nat} {L : List Nat} (hfu : 20000 ≤ fu) (hk : k < 3) (hs : SumOK f lg) (hw : w < 3) (hl : L.length ≤ 1400) (hL : ∀ j, j < L.length → L.getD j 0 < 256 ∧ 1 ≤ f (L.getD j 0)) : ∀ (r n : Nat) (S : St), r ≤ L.length → r < n → RowC S 1 L → LC S f lg w → CdC S k lg → PkC S k f lg w L (L.length - r) → ∃ S', f_X2_codeMessage_L35 fu 1 n (nI r - 1) S = some (0, S') ∧ PkC S' k f lg w L L.length ∧ S' 36 4 = nI ((pkT k f lg w L L.length * wdN k + 7) / 8) ∧ CdC S' k lg ∧ Fr [8, 36, 37, 38] S S' := by
  intro r
  induction r with
  | zero =>
    intro n S _ hn h1 h2 h3 h4
    obtain ⟨n, rfl⟩ : ∃ m, n = m + 1 := ⟨n - 1, by omega⟩
    rw [Nat.sub_zero] at h4
    have hT := (pk_bounds (k := k) hs hw hL L.length (Nat.le_refl _)).2.2.2
    have hb := bnN_le (k := k) hs.2.1
    have hT2 : pkT k f lg w L L.length ≤ 1400 * 12 := Nat.le_trans hT (Nat.mul_le_mul hl hb.1)
    have hW : wdN k ≤ 8 := by unfold wdN; split <;> omega
    have hTW : pkT k f lg w L L.length * wdN k ≤ 16800 * 8 := Nat.mul_le_mul hT2 hW
    obtain ⟨S1, eS1⟩ : ∃ z, z = puS S 36 4 (nI ((pkT k f lg w L L.length * wdN k + 7) / 8)) := ⟨_, rfl⟩
    have f1 : Fr [36] S S1 := by rw [eS1]; exact Fr.rf.pu (by simp)
    have g1 : ∀ j, j ≠ 4 → S1 36 j = S 36 j := fun j hj => by rw [eS1, puS_s, upd_n hj]
    refine ⟨S1, ?_, ⟨fun t ht => by rw [f1 37 (by decide)]; exact h4.1 t ht, by rw [g1 0 (by decide)]; exact h4.2.1, by rw [g1 1 (by decide)]; exact h4.2.2.1, by rw [g1 2 (by decide)]; exact h4.2.2.2.1, by rw [g1 3 (by decide)]; exact h4.2.2.2.2.1, by rw [g1 5 (by decide)]; exact h4.2.2.2.2.2.1, fun e he => by rw [f1 38 (by decide)]; exact h4.2.2.2.2.2.2 e he⟩, by rw [eS1, puS_s, upd_s], h3.ofc (f1 8 (by decide)), f1.mono (by simp)⟩
    rw [f_X2_codeMessage_L35_s, if_pos (by decide)]
    refine e_bd (r := 0) (S := S1) ?_ rfl
    unfold f_X7_setBytes
    rw [h4.2.2.2.2.1, h3.2.2.2, pk_mul, show nI (pkT k f lg w L L.length * wdN k) + (7 : Int32) = nI (pkT k f lg w L L.length * wdN k + 7) from nI_add _ 7, show nI (pkT k f lg w L L.length * wdN k + 7) / (8 : Int32) = nI ((pkT k f lg w L L.length * wdN k + 7) / 8) from pk_div (d := 8) (by omega) (by omega) (by omega), pin_eq, ← eS1]
  | succ r ih =>
    intro n S hr hn h1 h2 h3 h4
    obtain ⟨n, rfl⟩ : ∃ m, n = m + 1 := ⟨n - 1, by omega⟩
    obtain ⟨d, ed⟩ : ∃ d, d = L.length - (r + 1) := ⟨_, rfl⟩
    rw [← ed] at h4
    have er : L.length - 1 - d = r := by omega
    obtain ⟨p1, p2, p3, p4, p5⟩ := pk_facts (k := k) hs hw hL (show d < L.length by omega)
    obtain ⟨q1, q2, q3, q4⟩ := pk_bounds (k := k) hs hw hL d (by omega)
    have hb := bnN_le (k := k) hs.2.1
    have hsym := hL r (by omega)
    have tl := tnN_lt k r
    have hV : pkV k f lg w L d < 65536 := Nat.lt_of_lt_of_le p4 (Nat.pow_le_pow_right (n := 2) (j := 16) (by decide) p5)
    have pc : pkc k f lg w L d = pkS k f lg w L d (tnN k r) := by unfold pkc; rw [er]
    obtain ⟨S2, a1, a2, a3, a4, a5, a6⟩ := advance_s (fu := fu) hfu hk hs hw h2 h3 hsym.1 hsym.2 p1
    have a2' : S2 8 5 = nI (pkX k f lg w L d) := by rw [a2]; unfold pkX; rw [er]
    have a3' : S2 8 6 = nI (pkU k f lg w L d) := by rw [a3]; unfold pkU; rw [er]
    have a4' : S2 8 7 = nI (pkV k f lg w L d) := by rw [a4]; unfold pkV; rw [er]
    obtain ⟨S3, eS3⟩ : ∃ z, z = puS (puS S2 37 (tnN k r) (nI (pkX k f lg w L d))) 38 r (nI (pkU k f lg w L d * 65536 + pkV k f lg w L d)) := ⟨_, rfl⟩
    have f3 : Fr [8, 37, 38] S S3 := by rw [eS3]; exact ((a5.mono (by simp)).pu (by simp)).pu (by simp)
    have g8 : S3 8 = S2 8 := by rw [eS3, puS_n (by decide), puS_n (by decide)]
    have e36 : S3 36 = S 36 := f3 36 (by decide)
    obtain ⟨S4, b1, b2, b3, b4, b5, b6, b7, b8⟩ := addSym_s (c := 35) (S := S3) (p2.lt hs.2.1) (show pkU k f lg w L d < 2 ^ 31 by omega) (q1.lt hs.2.1) (q2.lt hs.2.1) (show pkmu k f lg w L d < 2 ^ 31 by omega) (by rw [e36]; exact h4.2.1) (by rw [e36]; exact h4.2.2.1) (by rw [e36]; exact h4.2.2.2.1) (by rw [e36]; exact h4.2.2.2.2.1) (by rw [e36]; exact h4.2.2.2.2.2.1)
    have f4 : Fr [8, 36, 37, 38] S S4 := (f3.mono (by simp)).tr (b2.mono (by simp))
    have c4 : CdC S4 k lg := h3.of fun j j1 j2 => by rw [b2 8 (by decide), g8]; exact a6 j (by omega)
    have P4 : PkC S4 k f lg w L (L.length - r) := by
      have ed' : L.length - r = d + 1 := by omega
      rw [ed']
      refine ⟨fun t ht => ?_, ?_, ?_, b5, b6, ?_, fun e he => ?_⟩
      · rw [b2 37 (by decide), eS3, puS_n (by decide), puS_s]
        unfold pkS
        rw [er]
        by_cases q : t = tnN k r
        · rw [if_pos q, q, upd_s]
          unfold pkX
          rw [er, pc]
        · rw [if_neg q, upd_n q, a5 37 (by decide)]
          exact h4.1 t ht
      · exact b3
      · exact b4
      · exact b7
      · rw [b2 38 (by decide), eS3, puS_s]
        by_cases q : e = d
        · rw [q, er, upd_s]
        · rw [upd_n (by omega), puS_n (by decide), a5 38 (by decide)]
          exact h4.2.2.2.2.2.2 e (by omega)
    obtain ⟨S', z1, z2, z3, z4, z5⟩ := ih n S4 (by omega) (by omega) (h1.of (f4 1 (by decide)) (f4 2 (by decide))) (h2.of (by rw [f4 9 (by decide)]) (fun c _ _ => f4 c (by simp; omega))) c4 P4
    refine ⟨S', ?_, z2, z3, z4, f4.tr z5⟩
    rw [nI_pred, f_X2_codeMessage_L35_s, if_neg (nI_pos (by omega))]
    refine e_bd (turnOf_s hk (by omega) h3) ?_
    rw [if_neg (nI_in tl (by omega)), nI_clamp (by omega), h4.1 _ tl, ← pc]
    refine e_bd (byteAt_s h1 (nI r)) ?_
    rw [bat_in (by omega) (by omega)]
    refine e_bd a1 ?_
    rw [if_neg (nI_in2 tl (by omega)), a2', pin_eq, if_neg (nI_in (by omega) (by omega)), nI_clamp (by omega), show puS S2 37 (tnN k r) (nI (pkX k f lg w L d)) 8 = S2 8 by rw [puS_n (by decide)], a3', a4', or16 (by omega) hV, pin_eq, ← eS3, g8, a2', a3']
    refine e_bd b1 ?_
    rw [pin_eq, show nI r + (-1 : Int32) = nI r - 1 from by rw [Int32.sub_eq_add_neg]]
    exact z1
