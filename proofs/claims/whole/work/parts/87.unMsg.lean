/-! unpack: the message, both -/
def TalR (k : Nat) (x : Nat → Nat) (a0 a1 m0 m1 i : Nat) : Prop := (∀ e, e < nSN k → a0 ≤ x e ∧ x e ≤ a1) ∧ a0 ≤ m0 ∧ m1 ≤ a1 ∧ (a0 = m0 ∨ ∃ e, e < nSN k ∧ a0 = x e) ∧ (a1 = m1 ∨ ∃ e, e < nSN k ∧ a1 = x e) ∧ (0 < i → ∃ e, e < nSN k ∧ m0 ≤ x e ∧ x e ≤ m1)
theorem lo2_e {m x v : Nat} : lo2 m x v ≤ m ∧ lo2 m x v ≤ x ∧ lo2 m x v ≤ v ∧ (lo2 m x v = m ∨ lo2 m x v = x ∨ lo2 m x v = v) := by
  unfold lo2
  by_cases q : x < m
  · rw [if_pos q]
    by_cases r : v < x
    · rw [if_pos r]; omega
    · rw [if_neg r]; omega
  · rw [if_neg q]
    by_cases r : v < m
    · rw [if_pos r]; omega
    · rw [if_neg r]; omega
theorem hi2_e {m x v : Nat} : m ≤ hi2 m x v ∧ x ≤ hi2 m x v ∧ v ≤ hi2 m x v ∧ (hi2 m x v = m ∨ hi2 m x v = x ∨ hi2 m x v = v) := by
  unfold hi2
  by_cases q : m < x
  · rw [if_pos q]
    by_cases r : x < v
    · rw [if_pos r]; omega
    · rw [if_neg r]; omega
  · rw [if_neg q]
    by_cases r : m < v
    · rw [if_pos r]; omega
    · rw [if_neg r]; omega
theorem upX_s {x : Nat → Nat} {c v : Nat} : upX x c v c = v := if_pos rfl
theorem upX_n {x : Nat → Nat} {c v e : Nat} (h : e ≠ c) : upX x c v e = x e := if_neg h
theorem Tal_step {k a0 a1 m0 m1 i c v : Nat} {x : Nat → Nat} (h : TalR k x a0 a1 m0 m1 i) (hc : c < nSN k) : TalR k (upX x c v) (if v < a0 then v else a0) (if a1 < v then v else a1) (lo2 m0 (x c) v) (hi2 m1 (x c) v) (i + 1) := by
  obtain ⟨h1, h2, h3, h4, h5, h6⟩ := h
  obtain ⟨l1, l2, l3, l4⟩ := lo2_e (m := m0) (x := x c) (v := v)
  obtain ⟨u1, u2, u3, u4⟩ := hi2_e (m := m1) (x := x c) (v := v)
  have hcc := h1 c hc
  have hA : (if v < a0 then v else a0) ≤ a0 ∧ (if v < a0 then v else a0) ≤ v ∧ ((v < a0 ∧ (if v < a0 then v else a0) = v) ∨ (a0 ≤ v ∧ (if v < a0 then v else a0) = a0)) := by
    by_cases q : v < a0
    · rw [if_pos q]; omega
    · rw [if_neg q]; omega
  have hB : a1 ≤ (if a1 < v then v else a1) ∧ v ≤ (if a1 < v then v else a1) ∧ ((a1 < v ∧ (if a1 < v then v else a1) = v) ∨ (v ≤ a1 ∧ (if a1 < v then v else a1) = a1)) := by
    by_cases q : a1 < v
    · rw [if_pos q]; omega
    · rw [if_neg q]; omega
  revert hA hB
  generalize (if v < a0 then v else a0) = A
  generalize (if a1 < v then v else a1) = B
  intro hA hB
  refine ⟨fun e he => ?_, by omega, by omega, ?_, ?_, fun _ => ⟨c, hc, by rw [upX_s]; omega, by rw [upX_s]; omega⟩⟩
  · by_cases q : e = c
    · rw [q, upX_s]; omega
    · rw [upX_n q]
      have := h1 e he
      omega
  · rcases hA.2.2 with ⟨q1, q2⟩ | ⟨q1, q2⟩
    · exact Or.inr ⟨c, hc, by rw [upX_s]; exact q2⟩
    · rcases h4 with e | ⟨e, e1, e2⟩
      · left; omega
      · by_cases q : e = c
        · rw [q] at e2
          left; omega
        · exact Or.inr ⟨e, e1, by rw [upX_n q]; omega⟩
  · rcases hB.2.2 with ⟨q1, q2⟩ | ⟨q1, q2⟩
    · exact Or.inr ⟨c, hc, by rw [upX_s]; exact q2⟩
    · rcases h5 with e | ⟨e, e1, e2⟩
      · left; omega
      · by_cases q : e = c
        · rw [q] at e2
          left; omega
        · exact Or.inr ⟨e, e1, by rw [upX_n q]; omega⟩
theorem l77_d {fu r q : Nat} {L : List Nat} {S : St} (h : Dd S L r q) : ∃ S', f_X1_readMessage_L77 fu S = some (0, S') ∧ Dd S' L r q ∧ F7 [] [17] S S' := by
  have f : F7 [] [17] S (puS S 17 4 ((S 17 3 * S 8 4 + (7 : Int32)) / (8 : Int32))) := F7.rf.pu (by simp) (by omega)
  exact ⟨_, rfl, h.of f (by simp) (by simp) (by simp), f⟩
theorem l44_d {fu r q n : Nat} {L : List Nat} {S : St} (h : Dd S L r q) (v : Int32) : ∃ S', f_X1_readMessage_L44 fu (n + 1) v S = some (0, S') ∧ Dd S' L r q ∧ F7 [] [17] S S' := by
  obtain ⟨S', a1, a2, a3⟩ := l77_d (fu := fu) h
  refine ⟨S', ?_, a2, a3⟩
  rw [f_X1_readMessage_L44_s, whole0 h.ne, bnd_some, if_pos rfl, ite_self, ite_self]
  exact a1
theorem msg_loop {fu k lg w N p P a : Nat} {f : Nat → Nat} {L : List Nat} (hfu : 20000 ≤ fu) (hk : k < 3) (hs : SumOK f lg) (hw : w < 3) (hkw : k ≠ 0 → w = 0) (hp : p ≤ 10000) (hlen : L.length = p + P) (hl4 : L.length ≤ 4000) (hby : ∀ b ∈ L, b < 256) (hN : N ≤ 1400) :
    ∀ (d i n b a0 a1 a5 : Nat) (x : Nat → Nat) (ms : List Nat) (S : St), i + d = N → d < n → b ≤ tuN k P → (∀ e, e < nSN k → StOK k lg (x e)) → a0 < 2 ^ 31 → a1 < 2 ^ 31 → a5 ≤ 12 → ClI S k lg w N p P f L a i x b a0 a1 a5 ms → (∀ y ∈ ms, y < 256) →
    (∃ S', f_X1_readMessage_L44 fu n (nI i) S = some (0, S') ∧ Dd S' L 5 (p + P) ∧ F7 [6, 7, 15] [17, 18, 19] S S' ∧ ∀ (M : St) (m m0 m1 : Nat), d < m → m0 < 2 ^ 31 → m1 < 2 ^ 31 → MdI M k lg w N p P f L i x m0 m1 a5 ms → ∃ M', f_X9_readsMessage_L56 fu m (nI b) (nI (tuN k P)) (nI (lsN k lg)) (nI i) M = some (0, fauM M' 5 (p + P)) ∧ Fr [58, 59, 61] M M') ∨
    (∃ (S' : St) (x' : Nat → Nat) (b' a0' a1' a5' : Nat) (ms' : List Nat), f_X1_readMessage_L44 fu n (nI i) S = some (0, puS S' 17 4 (nI ((b' * wdN k + 7) / 8))) ∧ ClI S' k lg w N p P f L a N x' b' a0' a1' a5' ms' ∧ F7 [15] [17, 18, 19] S S' ∧ b' ≤ tuN k P ∧ (∀ e, e < nSN k → StOK k lg (x' e)) ∧ (∀ y ∈ ms', y < 256) ∧ ∀ (M : St) (m m0 m1 : Nat), d < m → m0 < 2 ^ 31 → m1 < 2 ^ 31 → MdI M k lg w N p P f L i x m0 m1 a5 ms → TalR k x a0 a1 m0 m1 i → ∃ (M' : St) (m0' m1' : Nat), f_X9_readsMessage_L56 fu m (nI b) (nI (tuN k P)) (nI (lsN k lg)) (nI i) M = f_X9_readsMessage_L56 fu 1 (nI b') (nI (tuN k P)) (nI (lsN k lg)) (nI N) M' ∧ MdI M' k lg w N p P f L N x' m0' m1' a5' ms' ∧ TalR k x' a0' a1' m0' m1' N ∧ m0' < 2 ^ 31 ∧ m1' < 2 ^ 31 ∧ Fr [58, 59, 61] M M') := by
  have htu : tuN k P ≤ 32000 := by unfold tuN; split <;> omega
  have hwd : wdN k ≤ 8 := by unfold wdN; split <;> omega
  intro d
  induction d with
  | zero =>
    intro i n b a0 a1 a5 x ms S hi hn hb hx h0 h1 h5 h hms
    obtain ⟨n, rfl⟩ : ∃ e, n = e + 1 := ⟨n - 1, by omega⟩
    have : i = N := by omega
    subst this
    right
    refine ⟨S, x, b, a0, a1, a5, ms, ?_, h, F7.rf, hb, hx, hms, fun M m m0 m1 hm g0 g1 hM hT => ⟨M, m0, m1, ?_, hM, hT, g0, g1, Fr.rf⟩⟩
    · have hbw : b * wdN k ≤ 32000 * 8 := Nat.mul_le_mul (by omega) hwd
      rw [f_X1_readMessage_L44_s, h.2.2.2.1.1, if_pos (nI_le (Nat.le_refl _) (by omega))]
      exact l77_s h.2.2.2.2.2.1.2.2.2.1 h.2.1.2.2.2 (by omega)
    · obtain ⟨m, rfl⟩ : ∃ e, m = e + 1 := ⟨m - 1, by omega⟩
      rw [f_X9_readsMessage_L56_s, f_X9_readsMessage_L56_s, hM.1.2.2.1, if_pos (nI_le (Nat.le_refl _) (by omega)), if_pos (nI_le (Nat.le_refl _) (by omega))]
  | succ d ih =>
    intro i n b a0 a1 a5 x ms S hi hn hb hx h0 h1 h5 h hms
    obtain ⟨n, rfl⟩ : ∃ e, n = e + 2 := ⟨n - 2, by omega⟩
    obtain ⟨c1, c2⟩ := symC_s hfu hk hs hw hkw hp hlen (show i < 1400 by omega) hb hx h0 h1 (by omega) h
    have hgo : ∀ (S1 : St) R, f_X1_readSymbol fu (nI i) S = some (0, S1) → f_X1_readMessage_L44 fu (n + 1) (nI (i + 1)) S1 = R → f_X1_readMessage_L44 fu (n + 2) (nI i) S = R := by
      intro S1 R hS hR
      rw [f_X1_readMessage_L44_s, h.2.2.2.1.1, if_neg (by rw [nI_leI (by omega) (by omega)]; omega), if_neg (show ¬ (1400 : Int32) ≤ nI i by rw [show (1400 : Int32) = nI 1400 from rfl, nI_leI (by omega) (by omega)]; omega)]
      refine e_bd (whole1 h.1.2.2.1) ?_
      rw [if_neg (by decide)]
      refine e_bd hS ?_
      rw [nI_1, pin_eq]
      exact hR
    cases hfl : flP k lg L p P 12 (lfN k f lg w (x (tnN k i))) b with
    | none =>
      left
      obtain ⟨S1, b1, b2, b3⟩ := c1 hfl
      obtain ⟨S', i1, i2, i3⟩ := l44_d (fu := fu) (n := n) b2 (nI (i + 1))
      refine ⟨S', hgo _ _ b1 i1, i2, b3.tr (i3.mono (by simp) (by simp)), fun M m m0 m1 hm g0 g1 hM => ?_⟩
      obtain ⟨m, rfl⟩ : ∃ e, m = e + 1 := ⟨m - 1, by omega⟩
      obtain ⟨d1, -⟩ := symM_s (m := m) hfu hk hs hw hkw hlen hl4 hby (show i < N by omega) hN hb hx g0 g1 (by omega) hM
      obtain ⟨M', r1, r2⟩ := d1 hfl
      exact ⟨M', r1, r2.mono (by simp)⟩
    | some vb =>
      obtain ⟨v', b'⟩ := vb
      obtain ⟨S1, b1, b2, b3⟩ := c2 v' b' hfl
      have hcn := tn_lt k i
      obtain ⟨q1, q2⟩ := lf_pos hs hw hkw (hx _ hcn)
      obtain ⟨-, -, q3, -⟩ := lf_bd hs hw hkw (hx _ hcn)
      obtain ⟨o1, o2, o3, o4⟩ := fl_ok hby hlen 12 _ b v' b' (ls12 hs.2.1 q1) q2 hb hfl
      have o5 := o1.lt hs.2.1
      have hx' : ∀ e, e < nSN k → StOK k lg (upX x (tnN k i) v' e) := fun e he => by
        by_cases q : e = tnN k i
        · rw [q, upX_s]; exact o1
        · rw [upX_n q]; exact hx e he
      have hms' : ∀ y ∈ ms ++ [smN k f lg w (x (tnN k i))], y < 256 := fun y hy => by
        rcases List.mem_append.mp hy with q | q
        · exact hms y q
        · rw [List.mem_singleton.mp q]; exact q3
      rcases ih (i + 1) (n + 1) b' _ _ _ _ _ S1 (by omega) (by omega) o3 hx' (by split <;> omega) (by split <;> omega) (by split <;> omega) b2 hms' with ⟨S', i1, i2, i3, i4⟩ | ⟨S', x', b'', a0', a1', a5', ms', i1, i2, i3, i4, i5, i6, i7⟩
      · left
        refine ⟨S', hgo _ _ b1 i1, i2, (b3.mono (by simp) (by simp)).tr i3, fun M m m0 m1 hm g0 g1 hM => ?_⟩
        obtain ⟨m, rfl⟩ : ∃ e, m = e + 1 := ⟨m - 1, by omega⟩
        obtain ⟨-, d1⟩ := symM_s (m := m) hfu hk hs hw hkw hlen hl4 hby (show i < N by omega) hN hb hx g0 g1 (by omega) hM
        obtain ⟨M1, r1, r2, r3⟩ := d1 v' b' hfl
        have hlo := lo2_e (m := m0) (x := x (tnN k i)) (v := v')
        have hhi := hi2_e (m := m1) (x := x (tnN k i)) (v := v')
        have hxc := (hx _ hcn).lt hs.2.1
        obtain ⟨M', u1, u2⟩ := i4 M1 m _ _ (by omega) (by omega) (by omega) r2
        exact ⟨M', r1.trans u1, r3.tr u2⟩
      · right
        refine ⟨S', x', b'', a0', a1', a5', ms', hgo _ _ b1 i1, i2, b3.tr i3, i4, i5, i6, fun M m m0 m1 hm g0 g1 hM hT => ?_⟩
        obtain ⟨m, rfl⟩ : ∃ e, m = e + 1 := ⟨m - 1, by omega⟩
        obtain ⟨-, d1⟩ := symM_s (m := m) hfu hk hs hw hkw hlen hl4 hby (show i < N by omega) hN hb hx g0 g1 (by omega) hM
        obtain ⟨M1, r1, r2, r3⟩ := d1 v' b' hfl
        have hlo := lo2_e (m := m0) (x := x (tnN k i)) (v := v')
        have hhi := hi2_e (m := m1) (x := x (tnN k i)) (v := v')
        have hxc := (hx _ hcn).lt hs.2.1
        obtain ⟨M', m0', m1', u1, u2, u3, u4, u5, u6⟩ := i7 M1 m _ _ (by omega) (by omega) (by omega) r2 (Tal_step hT hcn)
        exact ⟨M', m0', m1', r1.trans u1, u2, u3, u4, u5, r3.tr u6⟩
