/-! pack: the UNITS in a row, the bytes of the PACKET, as the class writes them -/
def dg (W : Nat) : Nat → Nat → List Nat
  | 0, _ => []
  | u + 1, v => v / 2 ^ (W * u) % 2 ^ W :: dg W u v
theorem dg_len (W v : Nat) : ∀ u, (dg W u v).length = u := by
  intro u
  induction u with
  | zero => rfl
  | succ u ih => show (dg W u v).length + 1 = u + 1; rw [ih]
theorem dg_lt (W v : Nat) : ∀ u, ∀ b ∈ dg W u v, b < 2 ^ W := by
  intro u
  induction u with
  | zero => intro b h; cases h
  | succ u ih =>
    intro b h
    rcases List.mem_cons.mp h with q | q
    · rw [q]; exact Nat.mod_lt _ (Nat.two_pow_pos W)
    · exact ih b q
def pkL (k : Nat) (f : Nat → Nat) (lg w : Nat) (L : List Nat) : Nat → List Nat
  | 0 => []
  | d + 1 => dg (wdN k) (pkU k f lg w L d) (pkV k f lg w L d) ++ pkL k f lg w L d
theorem pkL_len (k : Nat) (f : Nat → Nat) (lg w : Nat) (L : List Nat) : ∀ d, (pkL k f lg w L d).length = pkT k f lg w L d := by
  intro d
  induction d with
  | zero => rfl
  | succ d ih => show (dg _ _ _ ++ pkL k f lg w L d).length = pkT k f lg w L d + pkU k f lg w L d; rw [List.length_append, dg_len, ih, Nat.add_comm]
theorem pkL_lt (k : Nat) (f : Nat → Nat) (lg w : Nat) (L : List Nat) : ∀ d, ∀ b ∈ pkL k f lg w L d, b < 2 ^ wdN k := by
  intro d
  induction d with
  | zero => intro b h; cases h
  | succ d ih =>
    intro b h
    rcases List.mem_append.mp h with q | q
    · exact dg_lt _ _ _ b q
    · exact ih b q
def gpN (k : Nat) : Nat := if k = 0 then 8 else 1
theorem wg_8 (k : Nat) : wdN k * gpN k = 8 ∧ 1 ≤ gpN k ∧ 1 ≤ wdN k ∧ wdN k ≤ 8 ∧ gpN k ≤ 8 := by unfold wdN gpN; split <;> omega
def pa (k : Nat) (U : List Nat) (q : Nat) : Nat → Nat
  | 0 => 0
  | r + 1 => pa k U q r * 2 ^ wdN k + U.getD (gpN k * q + r) 0
def pbL (k : Nat) (U : List Nat) : Nat → List Nat
  | 0 => []
  | n + 1 => pbL k U n ++ [pa k U n (gpN k)]
theorem pbL_len (k : Nat) (U : List Nat) : ∀ n, (pbL k U n).length = n := by
  intro n
  induction n with
  | zero => rfl
  | succ n ih => show (pbL k U n ++ [_]).length = n + 1; rw [List.length_append, ih]; rfl
theorem getD_out {U : List Nat} {j : Nat} (h : U.length ≤ j) : U.getD j 0 = 0 := by rw [List.getD_eq_getElem?_getD, List.getElem?_eq_none h]; rfl
theorem getD_all {U : List Nat} {m : Nat} (h : ∀ b ∈ U, b < m) (h0 : 0 < m) (j : Nat) : U.getD j 0 < m := by
  by_cases q : j < U.length
  · exact getD_lt h q
  · rw [getD_out (by omega)]; exact h0
theorem pa_lt {k : Nat} {U : List Nat} (h : ∀ b ∈ U, b < 2 ^ wdN k) (q : Nat) : ∀ r, pa k U q r < 2 ^ (wdN k * r) := by
  intro r
  induction r with
  | zero => show 0 < 2 ^ (wdN k * 0); rw [Nat.mul_zero]; decide
  | succ r ih =>
    have h1 := getD_all h (Nat.two_pow_pos _) (gpN k * q + r)
    show pa k U q r * 2 ^ wdN k + U.getD (gpN k * q + r) 0 < 2 ^ (wdN k * (r + 1))
    rw [Nat.mul_add, Nat.mul_one, Nat.pow_add]
    have h2 : (pa k U q r + 1) * 2 ^ wdN k ≤ 2 ^ (wdN k * r) * 2 ^ wdN k := Nat.mul_le_mul_right _ ih
    rw [Nat.add_mul, Nat.one_mul] at h2
    omega
theorem pa_byte {k : Nat} {U : List Nat} (h : ∀ b ∈ U, b < 2 ^ wdN k) (q : Nat) : pa k U q (gpN k) < 256 := by
  have := pa_lt h q (gpN k)
  rw [(wg_8 k).1] at this
  exact this
/-- past the end there are zeros -/
theorem pa_end {k : Nat} {U : List Nat} {q r : Nat} (h : U.length ≤ gpN k * q + r) : ∀ e, pa k U q (r + e) = pa k U q r * 2 ^ (wdN k * e) := by
  intro e
  induction e with
  | zero => rw [Nat.mul_zero, Nat.pow_zero, Nat.mul_one]; rfl
  | succ e ih =>
    show pa k U q (r + e) * 2 ^ wdN k + U.getD (gpN k * q + (r + e)) 0 = _
    rw [getD_out (by omega), ih, Nat.mul_assoc, ← Nat.pow_add, Nat.add_zero, Nat.mul_add, Nat.mul_one]
theorem drop_hd {U R : List Nat} {c a : Nat} (h : U.drop c = a :: R) : U.getD c 0 = a ∧ U.drop (c + 1) = R ∧ c < U.length := by
  have hl : c < U.length := by
    apply Nat.lt_of_not_le
    intro q
    rw [List.drop_eq_nil_of_le q] at h
    cases h
  rw [List.drop_eq_getElem_cons hl] at h
  injection h with h1 h2
  refine ⟨?_, h2, hl⟩
  rw [List.getD_eq_getElem?_getD, List.getElem?_eq_getElem hl]
  exact h1
theorem by8_s {b : Nat} (h : b < 256) : by8 (nI b) 0 = b := by
  unfold by8
  rw [show (nI b).toBitVec.toNat = b % 2 ^ 32 from by rw [show (nI b).toBitVec = BitVec.ofNat 32 b from rfl, BitVec.toNat_ofNat]]
  omega
theorem dig_s {W u v j : Nat} (hu : u ≤ 12) (hv : v < 65536) (hj : W * j + W ≤ 16) : (nI (u * 65536 + v) >>> ((nI j * nI W) &&& 31)) &&& nI (2 ^ W - 1) = nI (v / 2 ^ (W * j) % 2 ^ W) := by
  rw [pk_mul, Nat.mul_comm j, shr_s (by omega) (by omega), fa_mask]
  congr 1
  have e : u * 65536 = 2 ^ (W * j) * (2 ^ W * (u * 2 ^ (16 - W * j - W))) := by
    have : (65536 : Nat) = 2 ^ (W * j) * (2 ^ W * 2 ^ (16 - W * j - W)) := by
      rw [← Nat.pow_add, ← Nat.pow_add, show W * j + (W + (16 - W * j - W)) = 16 by omega]
    rw [this]
    generalize 2 ^ (W * j) = a
    generalize 2 ^ W = b
    generalize 2 ^ (16 - W * j - W) = c
    rw [Nat.mul_left_comm, Nat.mul_left_comm u b c]
  rw [e, Nat.mul_add_div (Nat.two_pow_pos _), Nat.mul_add_mod]
theorem payIn_loop {fu k : Nat} {p0 : Int32} {U A : List Nat} {K : Int32 → Int32 → Int32 → Int32 → Int32 → St → Option (Int32 × St)} (hU : ∀ b ∈ U, b < 2 ^ wdN k) (hcap : ∀ q, gpN k * q < U.length → A.length + q < 4000) {i u v : Nat} (hi : i < 1400) (hu : u ≤ 12) (hv : v < 65536) {R : List Nat} : ∀ (j n q r : Nat) (S : St), j < n → wdN k * j ≤ 16 → U.drop (gpN k * q + r) = dg (wdN k) j v ++ R → r < gpN k → S 38 i = nI (u * 65536 + v) → RowC S 3 (A ++ pbL k U q) → ∃ S' q' r', f_X2_writePayload_L51 fu p0 3 K n (nI (wdN k)) (nI (2 ^ wdN k - 1)) (nI (pa k U q r)) (nI (wdN k * r)) (nI i) (nI j - 1) S = K (nI (wdN k)) (nI (2 ^ wdN k - 1)) (nI (pa k U q' r')) (nI (wdN k * r')) (nI (i + 1)) S' ∧ r' < gpN k ∧ gpN k * q' + r' = gpN k * q + r + j ∧ U.drop (gpN k * q' + r') = R ∧ RowC S' 3 (A ++ pbL k U q') ∧ Fr [3, 4] S S' := by
  obtain ⟨w1, w2, w3, w4, w5⟩ := wg_8 k
  intro j
  induction j with
  | zero =>
    intro n q r S hn hj hd hr h38 hrow
    obtain ⟨n, rfl⟩ : ∃ m, n = m + 1 := ⟨n - 1, by omega⟩
    refine ⟨S, q, r, ?_, hr, by omega, hd, hrow, Fr.rf⟩
    rw [f_X2_writePayload_L51_s, if_pos (by decide), nI_1, pin_eq]
  | succ j ih =>
    intro n q r S hn hj hd hr h38 hrow
    obtain ⟨n, rfl⟩ : ∃ m, n = m + 1 := ⟨n - 1, by omega⟩
    obtain ⟨d1, d2, d3⟩ := drop_hd hd
    have hj' : wdN k * j + wdN k ≤ 16 := by rw [Nat.mul_add, Nat.mul_one] at hj; exact hj
    have hpa := pa_lt hU q r
    have hpr : wdN k * r + wdN k ≤ 8 := by
      have : wdN k * (r + 1) ≤ wdN k * gpN k := Nat.mul_le_mul_left _ hr
      rw [Nat.mul_add, Nat.mul_one, w1] at this
      exact this
    have hpa1 := pa_lt hU q (r + 1)
    rw [Nat.mul_add, Nat.mul_one] at hpa1
    have p8 : 2 ^ (wdN k * r + wdN k) ≤ 2 ^ 8 := Nat.pow_le_pow_right (by decide) hpr
    have e13 : (nI (pa k U q r) <<< (nI (wdN k) &&& 31)) ||| ((nI (u * 65536 + v) >>> ((nI j * nI (wdN k)) &&& 31)) &&& nI (2 ^ wdN k - 1)) = nI (pa k U q (r + 1)) := by
      have hm : pa k U q r * 2 ^ wdN k < 2 ^ 32 := by
        have : pa k U q (r + 1) = pa k U q r * 2 ^ wdN k + U.getD (gpN k * q + r) 0 := rfl
        omega
      rw [dig_s hu hv hj', pk_shlN _ (wdN k) (s_l _ (by omega)) hm, Nat.mul_comm, fa_or_sum (k := wdN k) _ (Nat.mod_lt _ (Nat.two_pow_pos _)), ← d1]
      show _ = nI (pa k U q r * 2 ^ wdN k + U.getD (gpN k * q + r) 0)
      rw [Nat.mul_comm]
    have hgo : ∀ R', (if nI (wdN k * r + wdN k) = (8 : Int32) then bnd (f_X4_add 3 (nI (pa k U q (r + 1))) S) fun r17 S18 => f_X2_writePayload_L102 fu p0 3 (f_X2_writePayload_L51 fu p0 3 K n) (nI (wdN k)) (nI (2 ^ wdN k - 1)) (0 : Int32) (0 : Int32) (nI i) (nI j) S18 else f_X2_writePayload_L102 fu p0 3 (f_X2_writePayload_L51 fu p0 3 K n) (nI (wdN k)) (nI (2 ^ wdN k - 1)) (nI (pa k U q (r + 1))) (nI (wdN k * r + wdN k)) (nI i) (nI j) S) = R' → f_X2_writePayload_L51 fu p0 3 K (n + 1) (nI (wdN k)) (nI (2 ^ wdN k - 1)) (nI (pa k U q r)) (nI (wdN k * r)) (nI i) (nI (j + 1) - 1) S = R' := by
      intro R' hR
      rw [nI_pred, f_X2_writePayload_L51_s, if_neg (nI_pos (by have : 1 ≤ wdN k := w3; have : j ≤ wdN k * j := Nat.le_mul_of_pos_left _ w3; omega)), if_neg (nI_in (by omega) (by omega)), nI_clamp (by omega), h38, e13, pin_eq, nI_add, pin_eq]
      exact hR
    have em : nI j + (-1 : Int32) = nI j - 1 := by rw [Int32.sub_eq_add_neg]
    by_cases q8 : r + 1 = gpN k
    · have e8 : wdN k * r + wdN k = 8 := by rw [← w1, ← q8, Nat.mul_add, Nat.mul_one]
      have hcq := hcap q (by omega)
      obtain ⟨S1, a1, a2, a3, -⟩ := add_s (x := nI (pa k U q (r + 1))) hrow (by rw [List.length_append, pbL_len]; exact hcq)
      have hrow1 : RowC S1 3 (A ++ pbL k U (q + 1)) := by
        rw [by8_s (by rw [q8]; exact pa_byte hU q), q8, List.append_assoc] at a2
        exact a2
      obtain ⟨S', q', r', b1, b2, b3, b4, b5, b6⟩ := ih n (q + 1) 0 S1 (by omega) (by omega) (by rw [show gpN k * (q + 1) + 0 = gpN k * q + r + 1 by rw [Nat.mul_add, Nat.mul_one]; omega]; exact d2) (by omega) (by rw [a3 38 (by decide)]; exact h38) hrow1
      refine ⟨S', q', r', hgo _ ?_, b2, by rw [b3, Nat.mul_add, Nat.mul_one]; omega, b4, b5, a3.tr b6⟩
      rw [e8, if_pos (show nI 8 = (8 : Int32) from rfl)]
      refine e_bd a1 ?_
      unfold f_X2_writePayload_L102
      rw [pin_eq, em]
      exact b1
    · obtain ⟨S', q', r', b1, b2, b3, b4, b5, b6⟩ := ih n q (r + 1) S (by omega) (by omega) (by rw [← Nat.add_assoc]; exact d2) (by omega) h38 hrow
      refine ⟨S', q', r', hgo _ ?_, b2, by omega, b4, b5, b6⟩
      have ne8 : ¬ wdN k * r + wdN k = 8 := by
        intro c
        apply q8
        have : wdN k * (r + 1) = wdN k * gpN k := by rw [w1, Nat.mul_add, Nat.mul_one]; exact c
        exact Nat.eq_of_mul_eq_mul_left w3 this
      rw [if_neg (show ¬ nI (wdN k * r + wdN k) = (8 : Int32) from fun c => ne8 (nI_small (b := 8) (by omega) (by omega) c))]
      unfold f_X2_writePayload_L102
      rw [pin_eq, em]
      exact b1
/-- all UNITS in a row, by the class -/
theorem pay_loop {fu k lg w : Nat} {f : Nat → Nat} {L A : List Nat} {p0 : Int32} (hfu : 20000 ≤ fu) (hs : SumOK f lg) (hw : w < 3) (hl : L.length ≤ 1400) (hL : ∀ j, j < L.length → L.getD j 0 < 256 ∧ 1 ≤ f (L.getD j 0)) (hcap : ∀ q, gpN k * q < pkT k f lg w L L.length → A.length + q < 4000) : ∀ (d n q r : Nat) (S : St), d ≤ L.length → d < n → (pkL k f lg w L L.length).drop (gpN k * q + r) = pkL k f lg w L d → r < gpN k → PkC S k f lg w L L.length → RowC S 3 (A ++ pbL k (pkL k f lg w L L.length) q) → gpN k * q + r + pkT k f lg w L d = pkT k f lg w L L.length → ∃ S', f_X2_writePayload_L15 fu p0 3 n (nI (wdN k)) (nI (2 ^ wdN k - 1)) (nI (pa k (pkL k f lg w L L.length) q r)) (nI (wdN k * r)) (nI (L.length - d)) S = some (0, S') ∧ RowC S' 3 (A ++ pbL k (pkL k f lg w L L.length) ((pkT k f lg w L L.length * wdN k + 7) / 8)) ∧ Fr [3, 4] S S' := by
  obtain ⟨w1, w2, w3, w4, w5⟩ := wg_8 k
  have hU := pkL_lt k f lg w L L.length
  have hlen := pkL_len k f lg w L L.length
  intro d
  induction d with
  | zero =>
    intro n q r S hd hn hdr hr hP hrow hsum
    obtain ⟨n, rfl⟩ : ∃ m, n = m + 1 := ⟨n - 1, by omega⟩
    have hsum' : gpN k * q + r = pkT k f lg w L L.length := hsum
    have hW : pkT k f lg w L L.length * wdN k = 8 * q + wdN k * r := by
      rw [← hsum', Nat.add_mul, Nat.mul_right_comm, Nat.mul_comm (gpN k), w1, Nat.mul_comm r]
    rw [f_X2_writePayload_L15_s, hP.2.2.2.1, Nat.sub_zero, if_pos (nI_le (Nat.le_refl _) (by omega))]
    unfold f_X2_writePayload_L114
    by_cases r0 : r = 0
    · refine ⟨S, ?_, ?_, Fr.rf⟩
      · rw [r0, Nat.mul_zero, if_pos (by decide)]
      · rw [hW, r0, Nat.mul_zero, show (8 * q + 0 + 7) / 8 = q by omega]
        exact hrow
    · have k0 : k = 0 := by
        apply Classical.byContradiction
        intro c
        have : gpN k = 1 := if_neg c
        omega
      have ew : wdN k = 1 := if_pos k0
      have eg : gpN k = 8 := if_pos k0
      rw [ew, Nat.one_mul] at hW
      rw [eg] at hsum' hr
      rw [ew]
      have hpa := pa_lt (k := k) (U := pkL k f lg w L L.length) hU q r
      rw [ew, Nat.one_mul] at hpa
      have hend := pa_end (k := k) (U := pkL k f lg w L L.length) (q := q) (r := r) (by rw [hlen, eg]; omega) (8 - r)
      rw [ew, Nat.one_mul, show r + (8 - r) = 8 by omega] at hend
      have hb := pa_byte (k := k) (U := pkL k f lg w L L.length) hU q
      rw [eg, hend] at hb
      obtain ⟨S1, a1, a2, a3, -⟩ := add_s (x := nI (pa k (pkL k f lg w L L.length) q r * 2 ^ (8 - r))) hrow (by rw [List.length_append, pbL_len]; exact hcap q (by rw [eg]; omega))
      refine ⟨S1, ?_, ?_, a3⟩
      · rw [Nat.one_mul, if_neg (nI_nle (by omega) (by omega)), show (8 : Int32) - nI r = nI (8 - r) from pk_sub (a := 8) (by omega), pk_shlN _ (8 - r) (s_l _ (by omega)) (by omega)]
        exact e_bd a1 rfl
      · rw [Nat.mul_one, show pkT k f lg w L L.length = 8 * q + r by omega, show (8 * q + r + 7) / 8 = q + 1 by omega]
        rw [by8_s hb, ← hend, ← eg, List.append_assoc] at a2
        exact a2
  | succ d ih =>
    intro n q r S hd hn hdr hr hP hrow hsum
    obtain ⟨n, rfl⟩ : ∃ m, n = m + 1 := ⟨n - 1, by omega⟩
    obtain ⟨p1, p2, p3, p4, p5⟩ := pk_facts (k := k) hs hw hL (show d < L.length by omega)
    have hb := bnN_le (k := k) hs.2.1
    have hV : pkV k f lg w L d < 65536 := Nat.lt_of_lt_of_le p4 (Nat.pow_le_pow_right (n := 2) (j := 16) (by decide) p5)
    have h38 : S 38 (L.length - (d + 1)) = nI (pkU k f lg w L d * 65536 + pkV k f lg w L d) := by
      rw [show L.length - (d + 1) = L.length - 1 - d by omega]
      exact hP.2.2.2.2.2.2 d (by omega)
    have hsum' : gpN k * q + r + (pkT k f lg w L d + pkU k f lg w L d) = pkT k f lg w L L.length := hsum
    obtain ⟨S1, q', r', a1, a2, a3, a4, a5, a6⟩ := payIn_loop (fu := fu) (p0 := p0) (K := f_X2_writePayload_L15 fu p0 3 n) (A := A) hU (fun q hq => hcap q (by omega)) (show L.length - (d + 1) < 1400 by omega) (show pkU k f lg w L d ≤ 12 by omega) hV (pkU k f lg w L d) fu q r S (by omega) p5 hdr hr h38 hrow
    obtain ⟨S', b1, b2, b3⟩ := ih n q' r' S1 (by omega) (by omega) a4 a2 ⟨fun t ht => by rw [a6 37 (by decide)]; exact hP.1 t ht, by rw [a6 36 (by decide)]; exact hP.2.1, by rw [a6 36 (by decide)]; exact hP.2.2.1, by rw [a6 36 (by decide)]; exact hP.2.2.2.1, by rw [a6 36 (by decide)]; exact hP.2.2.2.2.1, by rw [a6 36 (by decide)]; exact hP.2.2.2.2.2.1, fun e he => by rw [a6 38 (by decide)]; exact hP.2.2.2.2.2.2 e he⟩ a5 (by omega)
    refine ⟨S', ?_, b2, a6.tr b3⟩
    rw [f_X2_writePayload_L15_s, hP.2.2.2.1, if_neg (by rw [nI_leI (by omega) (by omega)]; omega), if_neg (by rw [show (1400 : Int32) = nI 1400 from rfl, nI_leI (by omega) (by omega)]; omega), if_neg (nI_in (by omega) (by omega)), nI_clamp (by omega), h38, show ((16 : Int32) &&& 31) = (nI 16 &&& 31) from rfl, shr_s (by omega) (by omega), show (pkU k f lg w L d * 65536 + pkV k f lg w L d) / 2 ^ 16 = pkU k f lg w L d by omega, pin_eq]
    refine a1.trans ?_
    rw [show L.length - (d + 1) + 1 = L.length - d by omega]
    exact b1
theorem pay_s {fu k lg w : Nat} {f : Nat → Nat} {L A : List Nat} {S : St} (hfu : 20000 ≤ fu) (hs : SumOK f lg) (hw : w < 3) (hl : L.length ≤ 1400) (hL : ∀ j, j < L.length → L.getD j 0 < 256 ∧ 1 ≤ f (L.getD j 0)) (hcap : ∀ q, gpN k * q < pkT k f lg w L L.length → A.length + q < 4000) (hP : PkC S k f lg w L L.length) (hrow : RowC S 3 A) : ∃ S', f_X2_writePayload fu (nI (wdN k)) 3 S = some (0, S') ∧ RowC S' 3 (A ++ pbL k (pkL k f lg w L L.length) ((pkT k f lg w L L.length * wdN k + 7) / 8)) ∧ Fr [3, 4] S S' := by
  obtain ⟨w1, w2, w3, w4, w5⟩ := wg_8 k
  obtain ⟨S', a, b, c⟩ := pay_loop (fu := fu) (p0 := nI (wdN k)) hfu hs hw hl hL hcap L.length fu 0 0 S (Nat.le_refl _) (by omega) rfl (by omega) hP (by simpa [pbL] using hrow) (by omega)
  refine ⟨S', ?_, b, c⟩
  unfold f_X2_writePayload
  have h1 : (2 : Nat) ^ wdN k ≤ 2 ^ 8 := Nat.pow_le_pow_right (by decide) w4
  rw [show (1 : Int32) <<< (nI (wdN k) &&& 31) = nI (1 * 2 ^ wdN k) from pk_shlN (n := 1) _ _ (s_l _ (by omega)) (by omega), Nat.one_mul, show (1 : Int32) = nI 1 from rfl, pk_sub (Nat.two_pow_pos _), pin_eq]
  rw [Nat.sub_self] at a
  exact a
