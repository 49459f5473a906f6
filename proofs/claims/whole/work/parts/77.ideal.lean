/-! ideal: the product of the SHARES, its highest bit -/
def vl (b : Nat) (a : Nat → Nat) : Nat → Nat
  | 0 => 0
  | n + 1 => vl b a n + a n * 2 ^ (b * n)
theorem vl_lt {b : Nat} {a : Nat → Nat} : ∀ n, (∀ i, i < n → a i < 2 ^ b) → vl b a n < 2 ^ (b * n) := by
  intro n
  induction n with
  | zero => intro _; show 0 < 2 ^ (b * 0); rw [Nat.mul_zero]; decide
  | succ n ih =>
    intro h
    have h1 := ih (fun i hi => h i (by omega))
    have h2 : (a n + 1) * 2 ^ (b * n) ≤ 2 ^ b * 2 ^ (b * n) := Nat.mul_le_mul_right _ (h n (by omega))
    rw [← Nat.pow_add, Nat.add_mul, Nat.one_mul, show b + b * n = b * (n + 1) by rw [Nat.mul_add]; omega] at h2
    show vl b a n + a n * 2 ^ (b * n) < _
    omega
theorem vl_cong {b : Nat} {a a' : Nat → Nat} : ∀ n, (∀ i, i < n → a i = a' i) → vl b a n = vl b a' n := by
  intro n
  induction n with
  | zero => intro _; rfl
  | succ n ih =>
    intro h
    show vl b a n + a n * _ = vl b a' n + a' n * _
    rw [ih (fun i hi => h i (by omega)), h n (by omega)]
/-- times g: the carries, the new limbs -/
def crN (b g : Nat) (a : Nat → Nat) : Nat → Nat
  | 0 => 0
  | i + 1 => (a i * g + crN b g a i) / 2 ^ b
def mlN (b g : Nat) (a : Nat → Nat) (i : Nat) : Nat := (a i * g + crN b g a i) % 2 ^ b
theorem ml_val {b g : Nat} {a : Nat → Nat} : ∀ n, vl b (mlN b g a) n + crN b g a n * 2 ^ (b * n) = vl b a n * g := by
  intro n
  induction n with
  | zero => show 0 + 0 * _ = 0 * g; simp
  | succ n ih =>
    show vl b (mlN b g a) n + mlN b g a n * 2 ^ (b * n) + (a n * g + crN b g a n) / 2 ^ b * 2 ^ (b * (n + 1)) = (vl b a n + a n * 2 ^ (b * n)) * g
    unfold mlN at ih ⊢
    rw [Nat.mul_add b, Nat.mul_one, Nat.pow_add, Nat.mul_comm (2 ^ (b * n)) (2 ^ b), ← Nat.mul_assoc, Nat.add_assoc, ← Nat.add_mul, Nat.add_comm (_ % _), Nat.mul_comm (_ / _) (2 ^ b), Nat.div_add_mod, Nat.add_mul, Nat.add_mul, ← ih]
    rw [Nat.mul_right_comm (a n) g]
    omega
/-- X in n limbs of b bits, none of them in vain -/
def NumOK (b : Nat) (a : Nat → Nat) (n X : Nat) : Prop := (∀ i, i < n → a i < 2 ^ b) ∧ 1 ≤ n ∧ 1 ≤ a (n - 1) ∧ vl b a n = X
theorem NumOK.lo {b : Nat} {a : Nat → Nat} {n X : Nat} (h : NumOK b a n X) : 2 ^ (b * (n - 1)) ≤ X := by
  obtain ⟨h1, h2, h3, h4⟩ := h
  obtain ⟨n, rfl⟩ : ∃ m, n = m + 1 := ⟨n - 1, by omega⟩
  rw [Nat.add_sub_cancel] at h3 ⊢
  rw [← h4]
  show _ ≤ vl b a n + a n * 2 ^ (b * n)
  have : 1 * 2 ^ (b * n) ≤ a n * 2 ^ (b * n) := Nat.mul_le_mul_right _ h3
  omega
theorem NumOK.times {b g : Nat} {a : Nat → Nat} {n X : Nat} (h : NumOK b a n X) (hg : 1 ≤ g) (hc : crN b g a n < 2 ^ b) : (crN b g a n = 0 → NumOK b (mlN b g a) n (X * g)) ∧ (crN b g a n ≠ 0 → NumOK b (fun i => if i = n then crN b g a n else mlN b g a i) (n + 1) (X * g) ∧ 2 ^ (b * n) ≤ X * g) := by
  have lo := h.lo
  obtain ⟨h1, h2, h3, h4⟩ := h
  have hv := ml_val (b := b) (g := g) (a := a) n
  rw [h4] at hv
  have hm : ∀ i, i < n → mlN b g a i < 2 ^ b := fun i _ => Nat.mod_lt _ (Nat.two_pow_pos b)
  refine ⟨fun q => ?_, fun q => ?_⟩
  · rw [q, Nat.zero_mul, Nat.add_zero] at hv
    refine ⟨hm, h2, ?_, hv⟩
    apply Nat.pos_of_ne_zero
    intro z
    obtain ⟨n, rfl⟩ : ∃ m, n = m + 1 := ⟨n - 1, by omega⟩
    rw [Nat.add_sub_cancel] at z lo
    have e : vl b (mlN b g a) (n + 1) = vl b (mlN b g a) n := by
      show vl b (mlN b g a) n + mlN b g a n * _ = _
      rw [z, Nat.zero_mul, Nat.add_zero]
    have l := vl_lt (b := b) (a := mlN b g a) n (fun i hi => hm i (by omega))
    have : X * 1 ≤ X * g := Nat.mul_le_mul_left _ hg
    omega
  · have e : vl b (fun i => if i = n then crN b g a n else mlN b g a i) (n + 1) = X * g := by
      show vl b (fun i => if i = n then crN b g a n else mlN b g a i) n + (if n = n then crN b g a n else mlN b g a n) * 2 ^ (b * n) = _
      rw [if_pos rfl, ← hv]
      congr 1
      exact vl_cong n (fun i hi => if_neg (by omega))
    have N : NumOK b (fun i => if i = n then crN b g a n else mlN b g a i) (n + 1) (X * g) := by
      refine ⟨fun i hi => ?_, by omega, ?_, e⟩
      · by_cases c : i = n
        · show (if i = n then crN b g a n else mlN b g a i) < _
          rw [if_pos c]; exact hc
        · show (if i = n then crN b g a n else mlN b g a i) < _
          rw [if_neg c]; exact hm i (by omega)
      · show 1 ≤ (if n + 1 - 1 = n then crN b g a n else mlN b g a (n + 1 - 1))
        rw [if_pos (by omega)]; omega
    exact ⟨N, by have := N.lo; rw [Nat.add_sub_cancel] at this; exact this⟩
/-- the highest bit -/
def hbP (X e : Nat) : Prop := 2 ^ e ≤ X ∧ X < 2 ^ (e + 1)
theorem hbP.eq {X e e' : Nat} (h : hbP X e) (h' : hbP X e') : e = e' := by
  rcases Nat.lt_trichotomy e e' with q | q | q
  · have : 2 ^ (e + 1) ≤ 2 ^ e' := Nat.pow_le_pow_right (by decide) q
    have := h.2; have := h'.1; omega
  · exact q
  · have : 2 ^ (e' + 1) ≤ 2 ^ e := Nat.pow_le_pow_right (by decide) q
    have := h'.2; have := h.1; omega
theorem NumOK.hb {b : Nat} {a : Nat → Nat} {n X e : Nat} (h : NumOK b a n X) (he : hbP (a (n - 1)) e) : hbP X (b * (n - 1) + e) := by
  obtain ⟨h1, h2, h3, h4⟩ := h
  obtain ⟨n, rfl⟩ : ∃ m, n = m + 1 := ⟨n - 1, by omega⟩
  rw [Nat.add_sub_cancel] at he ⊢
  have l := vl_lt (b := b) (a := a) n (fun i hi => h1 i (by omega))
  have e4 : vl b a n + a n * 2 ^ (b * n) = X := h4
  have p1 : 2 ^ e * 2 ^ (b * n) ≤ a n * 2 ^ (b * n) := Nat.mul_le_mul_right _ he.1
  have p2 : (a n + 1) * 2 ^ (b * n) ≤ 2 ^ (e + 1) * 2 ^ (b * n) := Nat.mul_le_mul_right _ he.2
  rw [← Nat.pow_add] at p1 p2
  rw [Nat.add_mul, Nat.one_mul] at p2
  refine ⟨?_, ?_⟩
  · rw [Nat.add_comm]; omega
  · rw [show b * n + e + 1 = e + 1 + b * n by omega]; omega
/-- leading zeros -/
theorem nlz_s {x : Nat} (h1 : 1 ≤ x) (h2 : x < 2 ^ 31) (S : St) : ∃ e, e ≤ 30 ∧ hbP x e ∧ f_J6_numberOfLeadingZeros_0f7a4 (nI x) S = some (nI (31 - e), S) := by
  have st73 : ∀ (y s : Nat) (p : Int32), 1 ≤ y → y < 4 → s ≤ 30 → ∃ d, d ≤ 1 ∧ hbP y d ∧ f_J6_numberOfLeadingZeros_0f7a4_L73 p (nI y) (nI (31 - s)) S = some (nI (31 - (s + d)), S) := by
    intro y s p a b c
    have e : ((nI y).toUInt32 >>> (((1 : Int32)).toUInt32 &&& Int32.toUInt32 31)).toInt32 = nI (y / 2 ^ 1) := pk_ushrN (by omega) _ 1 (by decide)
    unfold f_J6_numberOfLeadingZeros_0f7a4_L73
    rw [e]
    by_cases q : y = 1
    · exact ⟨0, by omega, ⟨by omega, by omega⟩, by rw [q, show 1 / 2 ^ 1 = 0 by decide, pk_sub (by omega)]; rfl⟩
    · refine ⟨1, by omega, ⟨by omega, by omega⟩, ?_⟩
      rw [show y / 2 ^ 1 = 1 by omega, pk_sub (by omega)]
      rfl
  have hb_sh : ∀ {y d m : Nat}, hbP (y / 2 ^ m) d → hbP y (m + d) := by
    intro y d m h
    have p := Nat.two_pow_pos m
    refine ⟨?_, ?_⟩
    · have := h.1
      rw [Nat.le_div_iff_mul_le p, ← Nat.pow_add] at this
      rw [Nat.add_comm]; exact this
    · have := h.2
      rw [Nat.div_lt_iff_lt_mul p, ← Nat.pow_add] at this
      rw [show m + d + 1 = d + 1 + m by omega]; exact this
  have sub : ∀ (s m : Nat) (M : Int32), M = -nI m → m ≤ 31 - s → nI (31 - s) + M = nI (31 - (s + m)) := by
    intro s m M hM hm
    rw [hM, ← Int32.sub_eq_add_neg, pk_sub hm, Nat.sub_sub]
  have st61 : ∀ (y s : Nat) (p : Int32), 1 ≤ y → y < 16 → s ≤ 28 → ∃ d, d ≤ 3 ∧ hbP y d ∧ f_J6_numberOfLeadingZeros_0f7a4_L61 p (nI y) (nI (31 - s)) S = some (nI (31 - (s + d)), S) := by
    intro y s p a b c
    unfold f_J6_numberOfLeadingZeros_0f7a4_L61
    by_cases q : y < 4
    · obtain ⟨d, d1, d2, d3⟩ := st73 y s p a q (by omega)
      exact ⟨d, by omega, d2, by rw [if_pos (show nI y < (4 : Int32) from nI_lt (b := 4) q (by decide))]; exact d3⟩
    · obtain ⟨d, d1, d2, d3⟩ := st73 (y / 2 ^ 2) (s + 2) p (by omega) (by omega) (by omega)
      refine ⟨2 + d, by omega, hb_sh d2, ?_⟩
      rw [if_neg (by rw [show (4 : Int32) = nI 4 from rfl, nI_ltI (by omega) (by omega)]; exact q), sub s 2 (-2 : Int32) rfl (by omega), pin_eq, pin_eq, show ((nI y).toUInt32 >>> (((2 : Int32)).toUInt32 &&& Int32.toUInt32 31)).toInt32 = nI (y / 2 ^ 2) from pk_ushrN (by omega) _ 2 (by decide), ← Nat.add_assoc]
      exact d3
  have st48 : ∀ (y s : Nat) (p : Int32), 1 ≤ y → y < 256 → s ≤ 24 → ∃ d, d ≤ 7 ∧ hbP y d ∧ f_J6_numberOfLeadingZeros_0f7a4_L48 p (nI y) (nI (31 - s)) S = some (nI (31 - (s + d)), S) := by
    intro y s p a b c
    unfold f_J6_numberOfLeadingZeros_0f7a4_L48
    by_cases q : y < 16
    · obtain ⟨d, d1, d2, d3⟩ := st61 y s p a q (by omega)
      exact ⟨d, by omega, d2, by rw [if_pos (show nI y < (16 : Int32) from nI_lt (b := 16) q (by decide))]; exact d3⟩
    · obtain ⟨d, d1, d2, d3⟩ := st61 (y / 2 ^ 4) (s + 4) p (by omega) (by omega) (by omega)
      refine ⟨4 + d, by omega, hb_sh d2, ?_⟩
      rw [if_neg (by rw [show (16 : Int32) = nI 16 from rfl, nI_ltI (by omega) (by omega)]; exact q), sub s 4 (-4 : Int32) rfl (by omega), pin_eq, pin_eq, show ((nI y).toUInt32 >>> (((4 : Int32)).toUInt32 &&& Int32.toUInt32 31)).toInt32 = nI (y / 2 ^ 4) from pk_ushrN (by omega) _ 4 (by decide), ← Nat.add_assoc]
      exact d3
  have st33 : ∀ (y s : Nat) (p : Int32), 1 ≤ y → y < 65536 → s ≤ 16 → ∃ d, d ≤ 15 ∧ hbP y d ∧ f_J6_numberOfLeadingZeros_0f7a4_L33 p (nI y) (nI (31 - s)) S = some (nI (31 - (s + d)), S) := by
    intro y s p a b c
    unfold f_J6_numberOfLeadingZeros_0f7a4_L33
    by_cases q : y < 256
    · obtain ⟨d, d1, d2, d3⟩ := st48 y s p a q (by omega)
      exact ⟨d, by omega, d2, by rw [if_pos (show nI y < (256 : Int32) from nI_lt (b := 256) q (by decide))]; exact d3⟩
    · obtain ⟨d, d1, d2, d3⟩ := st48 (y / 2 ^ 8) (s + 8) p (by omega) (by omega) (by omega)
      refine ⟨8 + d, by omega, hb_sh d2, ?_⟩
      rw [if_neg (by rw [show (256 : Int32) = nI 256 from rfl, nI_ltI (by omega) (by omega)]; exact q), sub s 8 (-8 : Int32) rfl (by omega), pin_eq, pin_eq, show ((nI y).toUInt32 >>> (((8 : Int32)).toUInt32 &&& Int32.toUInt32 31)).toInt32 = nI (y / 2 ^ 8) from pk_ushrN (by omega) _ 8 (by decide), ← Nat.add_assoc]
      exact d3
  unfold f_J6_numberOfLeadingZeros_0f7a4
  rw [if_pos (show (0 : Int32) < nI x from nI_lt (a := 0) h1 h2)]
  by_cases q : x < 65536
  · obtain ⟨d, d1, d2, d3⟩ := st33 x 0 (nI x) h1 q (by omega)
    refine ⟨d, by omega, d2, ?_⟩
    rw [if_pos (show nI x < (65536 : Int32) from nI_lt (b := 65536) q (by decide))]
    rw [Nat.zero_add] at d3
    exact d3
  · obtain ⟨d, d1, d2, d3⟩ := st33 (x / 2 ^ 16) 16 (nI x) (by omega) (by omega) (by omega)
    have hh := hb_sh d2
    refine ⟨16 + d, ?_, hh, ?_⟩
    · apply Nat.le_of_not_lt
      intro c
      have : (2 : Nat) ^ 31 ≤ 2 ^ (16 + d) := Nat.pow_le_pow_right (by decide) c
      have := hh.1
      omega
    · rw [if_neg (by rw [show (65536 : Int32) = nI 65536 from rfl, nI_ltI (by omega) (by omega)]; exact q), pin_eq, pin_eq, show ((nI x).toUInt32 >>> (((16 : Int32)).toUInt32 &&& Int32.toUInt32 31)).toInt32 = nI (x / 2 ^ 16) from pk_ushrN (by omega) _ 16 (by decide), show (31 : Int32) + (-16 : Int32) = nI (31 - 16) from by decide]
      exact d3
/-- what the class has gathered -/
def PrC (S : St) (a : Nat → Nat) (n g X : Nat) : Prop := NumOK 30 a n X ∧ S 41 1 = nI n ∧ S 41 2 = nI g ∧ 1 ≤ g ∧ g < 2 ^ 30 ∧ ∀ i, i < n → S 42 i = nI (a i)
theorem cr30 {g : Nat} {a : Nat → Nat} {n : Nat} (hg : g < 2 ^ 30) (ha : ∀ i, i < n → a i < 2 ^ 30) : ∀ i, i ≤ n → crN 30 g a i < 2 ^ 30 ∧ (i < n → a i * g + crN 30 g a i < 2 ^ 60) := by
  intro i
  induction i with
  | zero =>
    intro hi
    refine ⟨by show 0 < 2 ^ 30; decide, fun h => ?_⟩
    have : a 0 * g ≤ (2 ^ 30 - 1) * (2 ^ 30 - 1) := Nat.mul_le_mul (by have := ha 0 h; omega) (by omega)
    show a 0 * g + 0 < _
    omega
  | succ i ih =>
    intro hi
    have h1 := (ih (by omega)).2 (by omega)
    have h2 : crN 30 g a (i + 1) < 2 ^ 30 := by
      show (a i * g + crN 30 g a i) / 2 ^ 30 < 2 ^ 30
      rw [Nat.div_lt_iff_lt_mul (by decide)]
      omega
    refine ⟨h2, fun h => ?_⟩
    have : a (i + 1) * g ≤ (2 ^ 30 - 1) * (2 ^ 30 - 1) := Nat.mul_le_mul (by have := ha (i + 1) h; omega) (by omega)
    omega
theorem mulC_loop {fu n g : Nat} {a : Nat → Nat} (hg : g < 2 ^ 30) (hn : n ≤ 562) (ha : ∀ i, i < n → a i < 2 ^ 30) : ∀ (d i m : Nat) (S : St), i + d = n → d < m → S 41 1 = nI n → S 41 2 = nI g → (∀ j, j < i → S 42 j = nI (mlN 30 g a j)) → (∀ j, i ≤ j → j < n → S 42 j = nI (a j)) → ∃ S', f_X3_multiply_L4 fu m (lN (crN 30 g a i)) (nI i) S = f_X3_multiply_L4 fu 1 (lN (crN 30 g a n)) (nI n) S' ∧ (∀ j, j < n → S' 42 j = nI (mlN 30 g a j)) ∧ Fr [42] S S' := by
  intro d
  induction d with
  | zero =>
    intro i m S hi hm h1 h2 h3 h4
    obtain ⟨m, rfl⟩ : ∃ q, m = q + 1 := ⟨m - 1, by omega⟩
    have : i = n := by omega
    subst this
    refine ⟨S, ?_, h3, Fr.rf⟩
    rw [f_X3_multiply_L4_s, f_X3_multiply_L4_s, h1, if_pos (nI_le (Nat.le_refl _) (by omega)), if_pos (nI_le (Nat.le_refl _) (by omega))]
  | succ d ih =>
    intro i m S hi hm h1 h2 h3 h4
    obtain ⟨m, rfl⟩ : ∃ q, m = q + 1 := ⟨m - 1, by omega⟩
    obtain ⟨c1, c2⟩ := cr30 hg ha i (by omega)
    have c2 := c2 (by omega)
    have hai := ha i (by omega)
    have hml : mlN 30 g a i < 2 ^ 30 := Nat.mod_lt _ (by decide)
    obtain ⟨S1, e1⟩ : ∃ z, z = puS S 42 i (nI (mlN 30 g a i)) := ⟨_, rfl⟩
    have f1 : Fr [42] S S1 := by rw [e1]; exact Fr.rf.pu (by simp)
    obtain ⟨S', b1, b2, b3⟩ := ih (i + 1) m S1 (by omega) (by omega) (by rw [f1 41 (by decide)]; exact h1) (by rw [f1 41 (by decide)]; exact h2) (by
      intro j hj
      rw [e1, puS_s]
      by_cases q : j = i
      · rw [q, upd_s]
      · rw [upd_n q]; exact h3 j (by omega)) (by
      intro j j1 j2
      rw [e1, puS_s, upd_n (by omega)]
      exact h4 j (by omega) j2)
    refine ⟨S', ?_, b2, f1.tr b3⟩
    have x9 : (nI (a i)).toInt64 * (nI g).toInt64 + lN (crN 30 g a i) = lN (a i * g + crN 30 g a i) := by rw [nI_l (by omega), nI_l (by omega), lN_mul, lN_add]
    have xa : (lN (a i * g + crN 30 g a i) &&& (1073741823 : Int64)).toInt32 = nI (mlN 30 g a i) := by
      rw [show (1073741823 : Int64) = lN (2 ^ 30 - 1) from rfl, wb_mask (by omega) (by omega), lN_i]
      rfl
    have xs : lN (a i * g + crN 30 g a i) >>> (((30 : Int32)).toInt64 &&& 63) = lN (crN 30 g a (i + 1)) := pf_shr (d := 30) (by decide) (by omega)
    rw [f_X3_multiply_L4_s, h1, if_neg (by rw [nI_leI (by omega) (by omega)]; omega), if_neg (nI_in (by omega) (by omega)), nI_clamp (by omega), h4 i (Nat.le_refl _) (by omega), h2, x9, pin_eq, if_neg (nI_in2 (by omega) (by omega)), xa, pin_eq, xs, pin_eq, nI_1, pin_eq, ← e1]
    exact b1
theorem mulC_s {fu n g X : Nat} {a : Nat → Nat} {S : St} (hfu : 20000 ≤ fu) (h : PrC S a n g X) (hX : X * g ≤ 2 ^ 16800) : ∃ S' a' n', f_X3_multiply fu S = some (0, S') ∧ PrC S' a' n' 1 (X * g) ∧ Fr [41, 42] S S' := by
  obtain ⟨N, h1, h2, h3, h4, h5⟩ := h
  have lo := N.lo
  have hn : n ≤ 561 := by
    apply Nat.le_of_not_lt
    intro c
    have p1 : 2 ^ (30 * 561) ≤ 2 ^ (30 * (n - 1)) := Nat.pow_le_pow_right (by decide) (Nat.mul_le_mul_left _ (by omega))
    have p2 : (2 : Nat) ^ 16800 < 2 ^ (30 * 561) := Nat.pow_lt_pow_right (by decide) (by decide)
    have p3 : X * 1 ≤ X * g := Nat.mul_le_mul_left _ h3
    rw [Nat.mul_one] at p3
    exact absurd (Nat.le_trans p1 (Nat.le_trans lo (Nat.le_trans p3 hX))) (Nat.not_le_of_lt p2)
  obtain ⟨S1, b1, b2, b3⟩ := mulC_loop (fu := fu) h4 (show n ≤ 562 by omega) N.1 n 0 fu S (by omega) (by omega) h1 h2 (fun j hj => by omega) (fun j _ hj => h5 j hj)
  obtain ⟨c1, -⟩ := cr30 h4 N.1 n (Nat.le_refl _)
  have N2 := N.times h3 c1
  have h1' : S1 41 1 = nI n := by rw [b3 41 (by decide)]; exact h1
  have eq : ∀ R, f_X3_multiply_L4 fu 1 (lN (crN 30 g a n)) (nI n) S1 = R → f_X3_multiply fu S = R := fun R hR => by
    unfold f_X3_multiply
    exact b1.trans hR
  have cz : lg_cmp (lN (crN 30 g a n)) (0 : Int64) ≤ 0 ↔ crN 30 g a n = 0 := by
    rw [lg_cmp_le, show (0 : Int64) = lN 0 from rfl, fa_le64, pf_lI (by omega), pf_lI (by omega)]
    omega
  by_cases q : crN 30 g a n = 0
  · obtain ⟨S2, e2⟩ : ∃ z, z = puS S1 41 2 (1 : Int32) := ⟨_, rfl⟩
    refine ⟨S2, mlN 30 g a, n, eq _ ?_, ⟨N2.1 q, by rw [e2, puS_s, upd_n (by decide)]; exact h1', by rw [e2, puS_s, upd_s]; rfl, by omega, by decide, fun i hi => by rw [e2, puS_n (by decide)]; exact b2 i hi⟩, ?_⟩
    · rw [f_X3_multiply_L4_s, h1', if_pos (nI_le (Nat.le_refl _) (by omega)), if_pos (cz.mpr q)]
      unfold f_X3_multiply_L91
      rw [pin_eq, e2]
    · rw [e2]; exact (b3.mono (by simp)).pu (by simp)
  · obtain ⟨N3, N4⟩ := N2.2 q
    obtain ⟨S2, e2⟩ : ∃ z, z = puS (puS (puS S1 42 n (nI (crN 30 g a n))) 41 1 (nI (n + 1))) 41 2 (1 : Int32) := ⟨_, rfl⟩
    refine ⟨S2, _, n + 1, eq _ ?_, ⟨N3, by rw [e2, puS_s, upd_n (by decide), puS_s, upd_s], by rw [e2, puS_s, upd_s]; rfl, by omega, by decide, fun i hi => ?_⟩, ?_⟩
    · rw [f_X3_multiply_L4_s, h1', if_pos (nI_le (Nat.le_refl _) (by omega)), if_neg (fun c => q (cz.mp c)), if_neg (by rw [show (562 : Int32) = nI 562 from rfl, nI_leI (by omega) (by omega)]; omega), if_neg (nI_in (by omega) (by omega)), nI_clamp (by omega), lN_i, pin_eq, show puS S1 42 n (nI (crN 30 g a n)) 41 1 = nI n by rw [puS_n (by decide)]; exact h1', nI_1, pin_eq]
      unfold f_X3_multiply_L91
      rw [pin_eq, e2]
    · rw [e2, puS_n (by decide), puS_n (by decide), puS_s]
      by_cases c : i = n
      · rw [c, upd_s, if_pos rfl]
      · rw [upd_n c, if_neg c]; exact b2 i (by omega)
    · rw [e2]; exact (((b3.mono (by simp)).pu (by simp)).pu (by simp)).pu (by simp)
theorem timesC_s {fu n g X v : Nat} {a : Nat → Nat} {S : St} (hfu : 20000 ≤ fu) (h : PrC S a n g X) (hv : 1 ≤ v) (hv2 : v ≤ 4096) (hX : X * g ≤ 2 ^ 16800) : ∃ S' a' n' g' X', f_X3_times fu (nI v) S = some (0, S') ∧ PrC S' a' n' g' X' ∧ X' * g' = X * g * v ∧ Fr [41, 42] S S' := by
  have h3 := h.2.2.2.1
  have h4 := h.2.2.2.2.1
  have hgv : g * v ≤ 2 ^ 30 * 4096 := Nat.mul_le_mul (by omega) hv2
  have cz : lg_cmp ((S 41 2).toInt64 * (nI v).toInt64) (1073741823 : Int64) ≤ 0 ↔ g * v ≤ 1073741823 := by
    rw [h.2.2.1, nI_l (by omega), nI_l (by omega), lN_mul, lg_cmp_le, show (1073741823 : Int64) = lN 1073741823 from rfl, fa_le64, pf_lI (by omega), pf_lI (by omega)]
    omega
  unfold f_X3_times
  by_cases q : g * v ≤ 1073741823
  · refine ⟨puS S 41 2 (nI (g * v)), a, n, g * v, X, ?_, ⟨h.1, by rw [puS_s, upd_n (by decide)]; exact h.2.1, by rw [puS_s, upd_s], Nat.mul_pos h3 hv, by omega, fun i hi => by rw [puS_n (by decide)]; exact h.2.2.2.2.2 i hi⟩, by rw [Nat.mul_assoc], Fr.rf.pu (by simp)⟩
    rw [if_pos (cz.mpr q)]
    unfold f_X3_times_L19
    rw [h.2.2.1, pk_mul, pin_eq]
  · obtain ⟨S1, a', n', b1, b2, b3⟩ := mulC_s hfu h hX
    refine ⟨puS S1 41 2 (nI v), a', n', v, X * g, ?_, ⟨b2.1, by rw [puS_s, upd_n (by decide)]; exact b2.2.1, by rw [puS_s, upd_s], hv, by omega, fun i hi => by rw [puS_n (by decide)]; exact b2.2.2.2.2.2 i hi⟩, rfl, b3.pu (by simp)⟩
    rw [if_neg (fun c => q (cz.mp c))]
    refine e_bd b1 ?_
    unfold f_X3_times_L19
    rw [b2.2.2.1, pk_mul, Nat.one_mul, pin_eq]
theorem highC_s {fu n g X : Nat} {a : Nat → Nat} {S : St} (hfu : 20000 ≤ fu) (h : PrC S a n g X) (hX : X * g ≤ 2 ^ 16800) : ∃ S' e, f_X3_highestBit fu S = some (nI e, S') ∧ hbP (X * g) e ∧ Fr [41, 42] S S' := by
  obtain ⟨S1, a', n', b1, b2, b3⟩ := mulC_s hfu h hX
  obtain ⟨N, c1, c2, c3, c4, c5⟩ := b2
  have lo := N.lo
  have hn : n' ≤ 561 := by
    apply Nat.le_of_not_lt
    intro c
    have p1 : 2 ^ (30 * 561) ≤ 2 ^ (30 * (n' - 1)) := Nat.pow_le_pow_right (by decide) (Nat.mul_le_mul_left _ (by omega))
    have p2 : (2 : Nat) ^ 16800 < 2 ^ (30 * 561) := Nat.pow_lt_pow_right (by decide) (by decide)
    exact absurd (Nat.le_trans p1 (Nat.le_trans lo hX)) (Nat.not_le_of_lt p2)
  have hn1 := N.2.1
  have ht := N.1 (n' - 1) (by omega)
  obtain ⟨e, e1, e2, e3⟩ := nlz_s N.2.2.1 (show a' (n' - 1) < 2 ^ 31 by omega) S1
  refine ⟨S1, 30 * (n' - 1) + e, ?_, N.hb e2, b3⟩
  unfold f_X3_highestBit
  refine e_bd b1 ?_
  rw [c1, show nI n' - (1 : Int32) = nI (n' - 1) from pk_sub (b := 1) hn1, if_neg (nI_in (by omega) (by omega)), nI_clamp (by omega), c5 _ (by omega), pin_eq]
  refine e_bd e3 ?_
  rw [show (30 : Int32) * nI (n' - 1) = nI (30 * (n' - 1)) from pk_mul 30 _, show nI (30 * (n' - 1)) + (31 : Int32) = nI (30 * (n' - 1) + 31) from nI_add _ 31, pk_sub (by omega)]
  congr 3
  omega
