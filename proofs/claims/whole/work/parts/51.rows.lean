/-! rows of bytes: the class's Row (cell k, bytes in k + 1), the reference's arrays -/
def by8 (x : Int32) (i : Nat) : Nat := x.toBitVec.toNat / 2 ^ (8 * i) % 256
theorem by8_lt (x : Int32) (i : Nat) : by8 x i < 256 := Nat.mod_lt _ (by decide)
def RowC (S : St) (k : Nat) (L : List Nat) : Prop := S k 1 = nI L.length ∧ L.length ≤ 4000 ∧ (∀ b ∈ L, b < 256) ∧ (∀ j, j < L.length → S (k + 1) j &&& 255 = nI (L.getD j 0)) ∧ ∀ j, j < 4000 → fits .byte (.int (S (k + 1) j)) = true
def RowM (S : St) (c i : Nat) (L : List Nat) : Prop := S 43 i = nI L.length ∧ ∀ j, j < L.length → S c j = nI (L.getD j 0)
theorem RowC.of {S S' : St} {k : Nat} {L : List Nat} (h : RowC S k L) (h1 : S' k = S k) (h2 : S' (k + 1) = S (k + 1)) : RowC S' k L := by
  unfold RowC; rw [h1, h2]; exact h
theorem RowM.of {S S' : St} {c i : Nat} {L : List Nat} (h : RowM S c i L) (h1 : S' 43 i = S 43 i) (h2 : S' c = S c) : RowM S' c i L := by
  unfold RowM; rw [h1, h2]; exact h
theorem getD_lo {L : List Nat} {b j : Nat} (h : j < L.length) : (L ++ [b]).getD j 0 = L.getD j 0 := by
  simp [List.getD, List.getElem?_append_left h]
theorem getD_hi {L : List Nat} {b : Nat} : (L ++ [b]).getD L.length 0 = b := by
  simp [List.getD]
theorem getD_mem {L : List Nat} {j : Nat} (h : j < L.length) : L.getD j 0 ∈ L := by
  simp [List.getD, h]
theorem getD_lt {L : List Nat} {j n : Nat} (h : ∀ b ∈ L, b < n) (hj : j < L.length) : L.getD j 0 < n := h _ (getD_mem hj)
theorem bar_and (x : Int32) : vp_nar .byte (x.toInt8.toInt32) &&& 255 = nI (by8 x 0) := by
  rw [vp_nar_byte, fb_byte_twice, bp_b, pk_and x 8 (by decide)]
  simp [by8]
theorem bar_fit (x : Int32) : fits .byte (.int (vp_nar .byte (x.toInt8.toInt32))) = true := by
  rw [vp_nar_byte, fb_byte_twice]
  exact pk_fb x
theorem add_s {S : St} {k : Nat} {x : Int32} {L : List Nat} (h : RowC S k L) (hl : L.length < 4000) : ∃ S', f_X4_add k x S = some (nI 0, S') ∧ RowC S' k (L ++ [by8 x 0]) ∧ Fr [k, k + 1] S S' ∧ ∀ j, j ≠ 1 → S' k j = S k j := by
  obtain ⟨h1, h2, h3, h4, h5⟩ := h
  unfold f_X4_add
  rw [h1]
  simp (disch := omega) only [pin_eq, nI_lit, nI_ltI, nI_leI, nI_clamp, nI_add, Nat.not_lt_zero, false_or]
  rw [if_neg (by decide), if_neg (by omega), if_neg (by omega)]
  refine ⟨_, rfl, ⟨?_, ?_, ?_, ?_, ?_⟩, ?_, ?_⟩
  · rw [puS_s, upd_s, puS_n (by omega), h1, nI_add]
    simp
  · simp; omega
  · intro b hb
    rcases List.mem_append.mp hb with hb | hb
    · exact h3 b hb
    · rw [List.mem_singleton.mp hb]; exact by8_lt x 0
  · intro j hj
    rw [List.length_append] at hj
    rw [puS_n (by omega), puS_s]
    by_cases e : j = L.length
    · subst e
      rw [upd_s, getD_hi]
      exact bar_and x
    · have hj2 : j < L.length := by have : [by8 x 0].length = 1 := rfl; omega
      rw [upd_n e, getD_lo hj2]
      exact h4 j hj2
  · intro j hj
    rw [puS_n (by omega), puS_s]
    by_cases e : j = L.length
    · subst e
      rw [upd_s]
      exact bar_fit x
    · rw [upd_n e]
      exact h5 j hj
  · exact (Fr.rf.pu (by simp)).pu (by simp)
  · intro j hj
    rw [puS_s, upd_n hj, puS_n (by omega)]
/-- the bytes of a number, the highest first -/
def bys (x : Int32) : Nat → List Nat
  | 0 => []
  | n + 1 => by8 x n :: bys x n
theorem bys_len (x : Int32) : ∀ n, (bys x n).length = n
  | 0 => rfl
  | n + 1 => by simp [bys, bys_len x n]
theorem bys_lt (x : Int32) : ∀ n, ∀ b ∈ bys x n, b < 256
  | 0 => fun b h => by cases h
  | n + 1 => fun b h => by
    rcases List.mem_cons.mp h with rfl | h
    · exact by8_lt x n
    · exact bys_lt x n b h
theorem by8_ush (x : Int32) {i : Nat} (hi : i < 4) : by8 ((x.toUInt32 >>> ((nI 8 * nI i).toUInt32 &&& Int32.toUInt32 (nI 31))).toInt32) 0 = by8 x i := by
  unfold by8
  rw [pk_mul]
  have h := pk_ushr x (nI (8 * i)) (8 * i) (s_u (8 * i) (by omega))
  rw [show Int32.toUInt32 (nI 31) = Int32.toUInt32 31 from rfl, h]
  simp
theorem nI_dec {a : Nat} (h : 0 < a) : nI a + -nI 1 = nI (a - 1) := by
  obtain ⟨b, rfl⟩ : ∃ b, a = b + 1 := ⟨a - 1, by omega⟩
  exact pk_m1 b
theorem addN_loop {fu k : Nat} {p q x : Int32} : ∀ (d n : Nat) (S : St) (L : List Nat), d ≤ 4 → d < n → RowC S k L → L.length + d ≤ 4000 → ∃ S', f_X4_addNumber_L4 fu k p q n x (nI d - nI 1) S = some (nI 0, S') ∧ RowC S' k (L ++ bys x d) ∧ Fr [k, k + 1] S S' ∧ ∀ j, j ≠ 1 → S' k j = S k j := by
  intro d
  induction d with
  | zero =>
    intro n S L h1 h2 h3 h4
    obtain ⟨n, rfl⟩ : ∃ m, n = m + 1 := ⟨n - 1, by omega⟩
    rw [f_X4_addNumber_L4_s, if_pos (by decide), nI_lit]
    exact ⟨S, rfl, by simpa [bys] using h3, Fr.rf, fun _ _ => rfl⟩
  | succ d ih =>
    intro n S L h1 h2 h3 h4
    obtain ⟨n, rfl⟩ : ∃ m, n = m + 1 := ⟨n - 1, by omega⟩
    have e : nI (d + 1) - nI 1 = nI d := pk_sub (by omega)
    rw [f_X4_addNumber_L4_s, e]
    simp (disch := omega) only [pin_eq, nI_lit, nI_ltI, Nat.not_lt_zero]
    rw [if_neg (by decide)]
    obtain ⟨S1, g1, g2, g3, g4⟩ := add_s (x := ((x.toUInt32 >>> ((nI 8 * nI d).toUInt32 &&& Int32.toUInt32 (nI 31))).toInt32)) h3 (by omega)
    rw [by8_ush x (by omega)] at g2
    obtain ⟨S2, k1, k2, k3, k4⟩ := ih n S1 (L ++ [by8 x d]) (by omega) (by omega) g2 (by simp; omega)
    refine ⟨S2, ?_, ?_, g3.tr k3, fun j hj => (k4 j hj).trans (g4 j hj)⟩
    · refine e_bd g1 ?_
      rw [← Int32.sub_eq_add_neg]
      exact k1
    · rw [bys, show L ++ by8 x d :: bys x d = L ++ [by8 x d] ++ bys x d by simp]
      exact k2
theorem addN_s {fu k : Nat} {x : Int32} {d : Nat} {S : St} {L : List Nat} (hf : 20000 ≤ fu) (hd : d ≤ 4) (h : RowC S k L) (hl : L.length + d ≤ 4000) : ∃ S', f_X4_addNumber fu k x (nI d) S = some (nI 0, S') ∧ RowC S' k (L ++ bys x d) ∧ Fr [k, k + 1] S S' ∧ ∀ j, j ≠ 1 → S' k j = S k j := by
  obtain ⟨S', h1, h2⟩ := addN_loop (fu := fu) (p := x) (q := nI d) (x := x) d fu S L hd (by omega) h hl
  exact ⟨S', h1, h2⟩

theorem asr_and (x : Int32) {n : Nat} (hn : n + 8 ≤ 32) : (x >>> (nI n &&& nI 31)) &&& nI 255 = nI (x.toBitVec.toNat / 2 ^ n % 256) := by
  rw [show nI 255 = (255 : Int32) from rfl, pk_and _ 8 (by decide)]
  congr 1
  apply Nat.eq_of_testBit_eq
  intro j
  rw [Nat.testBit_mod_two_pow, show (256 : Nat) = 2 ^ 8 from rfl, Nat.testBit_mod_two_pow, Nat.testBit_div_two_pow]
  by_cases hj : j < 8
  · have h := b_sshr n (by omega) x (i := j) (by omega)
    unfold bt at h
    rw [if_pos (by omega), BitVec.getLsbD, BitVec.getLsbD] at h
    rw [show nI 31 = (31 : Int32) from rfl, h, Nat.add_comm n j]
  · simp [hj]
theorem asr_by (x : Int32) {i : Nat} (hi : i < 4) : (x >>> ((nI 8 * nI i) &&& nI 31)) &&& nI 255 = nI (by8 x i) := by
  rw [pk_mul, asr_and x (by omega)]; rfl
/-- byte x of a row, or none -/
def bat (L : List Nat) (x : Int32) : Int32 := if x < 0 ∨ nI L.length ≤ x then -1 else nI (L.getD x.toNatClampNeg 0)
theorem byteAt_s {S : St} {k : Nat} {L : List Nat} (h : RowC S k L) (x : Int32) : f_X4_byteAt k x S = some (bat L x, S) := by
  obtain ⟨h1, h2, h3, h4, h5⟩ := h
  unfold f_X4_byteAt bat
  rcases pk_ix x (n := L.length) (by omega) with q | q | ⟨j, hj, rfl⟩
  · rw [if_pos q, if_pos (Or.inl q)]
  · by_cases hx : x < 0
    · rw [if_pos hx, if_pos (Or.inl hx)]
    · rw [if_neg hx, h1, if_pos q, if_pos (Or.inr q)]
  · rw [h1]
    simp (disch := omega) only [nI_lit, nI_ltI, nI_leI, nI_clamp, Nat.not_lt_zero, false_or]
    rw [if_neg (by decide), if_neg (by omega), if_pos (by omega), if_neg (by omega), if_neg (by omega)]
    rw [show nI 255 = (255 : Int32) from rfl, h4 j hj]
theorem writtenM_s {S : St} {L : List Nat} (h : RowM S 45 3 L) (hl : L.length ≤ 4000) (x : Int32) : f_X9_written x S = some (bat L x, S) := by
  obtain ⟨h1, h2⟩ := h
  unfold f_X9_written bat
  rcases pk_ix x (n := L.length) (by omega) with q | q | ⟨j, hj, rfl⟩
  · rw [if_pos q, if_pos (Or.inl q)]
  · by_cases hx : x < 0
    · rw [if_pos hx, if_pos (Or.inl hx)]
    · rw [if_neg hx, h1, if_neg, if_pos (Or.inr q)]
      intro hq
      rw [fa_lt] at hq
      rw [fa_le] at q
      omega
  · rw [h1]
    simp (disch := omega) only [nI_lit, nI_ltI, nI_leI, nI_clamp, Nat.not_lt_zero, false_or]
    rw [if_neg (by decide), if_pos (by omega), if_neg (by omega), if_neg (by omega), h2 j hj]
/-- the twenty bytes of five numbers -/
def fbs (a b c d e : Int32) : List Nat := bys a 4 ++ (bys b 4 ++ (bys c 4 ++ (bys d 4 ++ bys e 4)))
theorem fbs_len (a b c d e : Int32) : (fbs a b c d e).length = 20 := by simp [fbs, bys_len]
theorem feedC_s {fu : Nat} (hf : 20000 ≤ fu) {S : St} {L : List Nat} (h : RowC S 1 L) (hl : L.length + 20 ≤ 4000) (a b c d e : Int32) : ∃ S', f_X8_feed fu a b c d e S = some (nI (L.length + 20), S') ∧ RowC S' 1 (L ++ fbs a b c d e) ∧ Fr [1, 2] S S' := by
  unfold f_X8_feed
  rw [h.1]
  simp (disch := omega) only [nI_lit, nI_leI, nI_add]
  rw [if_pos hl]
  obtain ⟨S1, a1, a2, a3, -⟩ := addN_s (x := a) (d := 4) hf (by omega) h (by omega)
  obtain ⟨S2, b1, b2, b3, -⟩ := addN_s (x := b) (d := 4) hf (by omega) a2 (by simp [bys_len]; omega)
  obtain ⟨S3, c1, c2, c3, -⟩ := addN_s (x := c) (d := 4) hf (by omega) b2 (by simp [bys_len]; omega)
  obtain ⟨S4, d1, d2, d3, -⟩ := addN_s (x := d) (d := 4) hf (by omega) c2 (by simp [bys_len]; omega)
  obtain ⟨S5, e1, e2, e3, -⟩ := addN_s (x := e) (d := 4) hf (by omega) d2 (by simp [bys_len]; omega)
  have hL : L ++ bys a 4 ++ bys b 4 ++ bys c 4 ++ bys d 4 ++ bys e 4 = L ++ fbs a b c d e := by simp [fbs]
  rw [hL] at e2
  refine ⟨S5, e_bd a1 (e_bd b1 (e_bd c1 (e_bd d1 (e_bd e1 ?_)))), e2, (((a3.tr b3).tr c3).tr d3).tr e3⟩
  rw [e2.1, List.length_append, fbs_len]
theorem fbs_get (a b c d e : Int32) : ∀ i, i < 20 → (fbs a b c d e).getD i 0 = by8 (if i < 4 then a else if i < 8 then b else if i < 12 then c else if i < 16 then d else e) (3 - i % 4) := by
  intro i hi
  match i, hi with
  | 0, _ => rfl
  | 1, _ => rfl
  | 2, _ => rfl
  | 3, _ => rfl
  | 4, _ => rfl
  | 5, _ => rfl
  | 6, _ => rfl
  | 7, _ => rfl
  | 8, _ => rfl
  | 9, _ => rfl
  | 10, _ => rfl
  | 11, _ => rfl
  | 12, _ => rfl
  | 13, _ => rfl
  | 14, _ => rfl
  | 15, _ => rfl
  | 16, _ => rfl
  | 17, _ => rfl
  | 18, _ => rfl
  | 19, _ => rfl
  | n + 20, h => exact absurd h (by omega)
theorem feedM_byte (w : Int32) {i : Nat} (hi : i < 20) : (w >>> ((nI 24 - nI 8 * (nI i - nI i / nI 4 * nI 4)) &&& nI 31)) &&& nI 255 = nI (by8 w (3 - i % 4)) := by
  rw [pk_rem (by omega) (by omega) (by omega), pk_mul, pk_sub (by omega), asr_and w (by omega), by8, show 24 - 8 * (i % 4) = 8 * (3 - i % 4) by omega]
theorem feedM_loop {fu : Nat} {p0 p1 p2 p3 p4 a b c d e : Int32} : ∀ (m i n : Nat) (S : St) (L : List Nat), i + m = 20 → m < n → L.length + 20 ≤ 4000 → S 43 1 = nI L.length → (∀ j, j < L.length → S 44 j = nI (L.getD j 0)) → (∀ j, j < i → S 44 (L.length + j) = nI ((fbs a b c d e).getD j 0)) →
    ∃ S', f_X9_feed_L18 fu p0 p1 p2 p3 p4 n a b c d e (nI i) S = some (nI (L.length + 20), S') ∧ RowM S' 44 1 (L ++ fbs a b c d e) ∧ Fr [43, 44] S S' ∧ ∀ j, j ≠ 1 → S' 43 j = S 43 j := by
  intro m
  induction m with
  | zero =>
    intro i n S L h1 h2 h3 h4 h5 h6
    obtain ⟨n, rfl⟩ : ∃ m, n = m + 1 := ⟨n - 1, by omega⟩
    rw [f_X9_feed_L18_s]
    simp (disch := omega) only [pin_eq, nI_lit, nI_leI]
    rw [if_pos (by omega)]
    refine ⟨_, by rw [puS_s, upd_s, h4, nI_add], ⟨?_, ?_⟩, Fr.rf.pu (by simp), fun j hj => by rw [puS_s, upd_n hj]⟩
    · rw [puS_s, upd_s, List.length_append, fbs_len]
    · intro j hj
      rw [puS_n (by decide)]
      rw [List.length_append, fbs_len] at hj
      by_cases hj2 : j < L.length
      · rw [h5 j hj2]; simp [List.getD, List.getElem?_append_left hj2]
      · obtain ⟨q, rfl⟩ : ∃ q, j = L.length + q := ⟨j - L.length, by omega⟩
        rw [h6 q (by omega)]
        simp [List.getD, List.getElem?_append_right]
  | succ m ih =>
    intro i n S L h1 h2 h3 h4 h5 h6
    obtain ⟨n, rfl⟩ : ∃ m, n = m + 1 := ⟨n - 1, by omega⟩
    have hstep : ∀ w : Int32, w = (if i < 4 then a else if i < 8 then b else if i < 12 then c else if i < 16 then d else e) → ∃ S', f_X9_feed_L71 fu p0 p1 p2 p3 p4 (f_X9_feed_L18 fu p0 p1 p2 p3 p4 n) a b c d e (nI i) w S = some (nI (L.length + 20), S') ∧ RowM S' 44 1 (L ++ fbs a b c d e) ∧ Fr [43, 44] S S' ∧ ∀ j, j ≠ 1 → S' 43 j = S 43 j := by
      intro w hw
      unfold f_X9_feed_L71
      rw [h4]
      simp (disch := omega) only [pin_eq, nI_lit, nI_ltI, nI_add, nI_clamp, Nat.not_lt_zero, false_or]
      rw [if_neg (by omega), feedM_byte w (by omega)]
      obtain ⟨S', g1, g2, g3, g4⟩ := ih (i + 1) n (puS S 44 (L.length + i) (nI (by8 w (3 - i % 4)))) L (by omega) (by omega) h3 (by rw [puS_n (by decide)]; exact h4) (fun j hj => by rw [puS_s, upd_n (by omega)]; exact h5 j hj) (fun j hj => by
        rw [puS_s]
        by_cases e : j = i
        · subst e; rw [upd_s, fbs_get a b c d _ j (by omega), hw]
        · rw [upd_n (by omega)]; exact h6 j (by omega))
      exact ⟨S', g1, g2, (Fr.rf.pu (by simp)).tr g3, fun j hj => by rw [g4 j hj, puS_n (by decide)]⟩
    rw [f_X9_feed_L18_s]
    simp (disch := omega) only [pin_eq, nI_lit, nI_leI]
    rw [if_neg (by omega)]
    by_cases q1 : 4 ≤ i
    · rw [if_pos q1]
      by_cases q2 : 8 ≤ i
      · rw [if_pos q2]
        by_cases q3 : 12 ≤ i
        · rw [if_pos q3]
          by_cases q4 : 16 ≤ i
          · rw [if_pos q4]; exact hstep e (by rw [if_neg (by omega), if_neg (by omega), if_neg (by omega), if_neg (by omega)])
          · rw [if_neg q4]; exact hstep d (by rw [if_neg (by omega), if_neg (by omega), if_neg (by omega), if_pos (by omega)])
        · rw [if_neg q3]; exact hstep c (by rw [if_neg (by omega), if_neg (by omega), if_pos (by omega)])
      · rw [if_neg q2]; exact hstep b (by rw [if_neg (by omega), if_pos (by omega)])
    · rw [if_neg q1]; exact hstep a (by rw [if_pos (by omega)])
theorem feedM_s {fu : Nat} (hf : 20000 ≤ fu) {S : St} {L : List Nat} (h : RowM S 44 1 L) (hl : L.length + 20 ≤ 4000) (a b c d e : Int32) : ∃ S', f_X9_feed fu a b c d e S = some (nI (L.length + 20), S') ∧ RowM S' 44 1 (L ++ fbs a b c d e) ∧ Fr [43, 44] S S' ∧ ∀ j, j ≠ 1 → S' 43 j = S 43 j := by
  unfold f_X9_feed
  rw [h.1]
  simp (disch := omega) only [nI_lit, nI_leI, nI_add]
  rw [if_pos hl]
  exact feedM_loop 20 0 fu S L (by omega) (by omega) hl h.1 h.2 (fun j hj => absurd hj (by omega))
