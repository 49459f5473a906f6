/-! learn: counting, SHARES, adjusting -/
theorem shl1 {m : Nat} (h : m ≤ 12) : (nI 1 <<< (nI m &&& nI 31)) = nI (2 ^ m) := by
  have h2 : 2 ^ m ≤ 2 ^ 12 := Nat.pow_le_pow_right (by decide) h
  rw [pk_shlN (nI m &&& nI 31) m (s_l m (by omega)) (by omega), Nat.one_mul]
theorem shlN {a m : Nat} (h : m ≤ 12) (ha : a ≤ 5000) : (nI a <<< (nI m &&& nI 31)) = nI (a * 2 ^ m) := by
  have h2 : 2 ^ m ≤ 2 ^ 12 := Nat.pow_le_pow_right (by decide) h
  have h3 : a * 2 ^ m ≤ 5000 * 2 ^ 12 := Nat.mul_le_mul ha h2
  rw [pk_shlN (nI m &&& nI 31) m (s_l m (by omega)) (by omega)]
theorem pow12 {m : Nat} (h : m ≤ 12) : 2 ^ m ≤ 4096 := Nat.pow_le_pow_right (n := 2) (by decide) h
theorem pow1 (m : Nat) : 1 ≤ 2 ^ m := Nat.one_le_two_pow
/-- how often s is among the first i bytes; how many SYMBOLS there are -/
def cn (L : List Nat) (i s : Nat) : Nat := fb_ct (fun j => L.getD j 0 == s) i
def kn (L : List Nat) (i : Nat) : Nat := fb_ct (fun s => decide (0 < cn L i s)) 256
theorem cn_le (L : List Nat) (i s : Nat) : cn L i s ≤ i := fb_ct_le _ i
theorem cn_s (L : List Nat) (i s : Nat) : cn L (i + 1) s = cn L i s + (if s = L.getD i 0 then 1 else 0) := by
  unfold cn
  rw [fb_ct_succ]
  by_cases h : s = L.getD i 0
  · rw [if_pos h, if_pos (by simp [h])]
  · rw [if_neg h, if_neg (by simp; exact fun q => h q.symm)]
theorem kn_le (L : List Nat) (i : Nat) : kn L i ≤ 256 := fb_ct_le _ 256
theorem kn_aux (p : Nat → Nat) {b : Nat} (hb : b < 256) : fb_ct (fun s => decide (0 < p s + (if s = b then 1 else 0))) 256 = fb_ct (fun s => decide (0 < p s)) 256 + (if p b = 0 then 1 else 0) := by
  have e : (fun s => decide (0 < p s + (if s = b then 1 else 0))) = fun k => if k = b then true else decide (0 < p k) := by
    funext s
    by_cases h : s = b
    · simp [h]
    · simp [h]
  have h := fb_ct_upd (fun s => decide (0 < p s)) true hb
  rw [e]
  by_cases h0 : p b = 0
  · rw [if_pos h0]
    simp [h0] at h ⊢
    exact h
  · rw [if_neg h0]
    simp [Nat.pos_of_ne_zero h0] at h ⊢
    exact h
theorem kn_s {L : List Nat} {i : Nat} (hb : L.getD i 0 < 256) : kn L (i + 1) = kn L i + (if cn L i (L.getD i 0) = 0 then 1 else 0) := by
  unfold kn
  rw [← kn_aux (cn L i) hb]
  congr 1
  funext s
  rw [cn_s]
theorem bat_in {L : List Nat} {i : Nat} (h : i < L.length) (hl : L.length ≤ 4000) : bat L (nI i) = nI (L.getD i 0) := by
  unfold bat
  rw [nI_clamp (by omega), if_neg]
  intro q
  rcases q with q | q
  · exact nI_pos (by omega) q
  · rw [nI_leI (by omega) (by omega)] at q; omega
theorem isSym_in {s : Nat} (hs : s < 256) (S : St) : f_X8_isSymbol (nI s) S = some (1, S) := by
  unfold f_X8_isSymbol
  simp (disch := omega) only [nI_lit, nI_ltI, nI_leI, Nat.not_lt_zero]
  rw [if_neg (by decide), if_neg (by omega)]
theorem cntC_loop {fu : Nat} {L : List Nat} : ∀ (d i n : Nat) (S : St), i + d = L.length → d < n → RowC S 1 L → (∀ s, s < 256 → S 6 s = nI (cn L i s)) → ∃ S', f_X8_countTape_L12 fu n (nI (kn L i)) (nI i) S = some (nI (kn L L.length), S') ∧ (∀ s, s < 256 → S' 6 s = nI (cn L L.length s)) ∧ Fr [6] S S' := by
  intro d
  induction d with
  | zero =>
    intro i n S h1 h2 h3 h4
    obtain ⟨n, rfl⟩ : ∃ m, n = m + 1 := ⟨n - 1, by omega⟩
    obtain rfl : i = L.length := by omega
    have hl := h3.2.1
    rw [f_X8_countTape_L12_s, h3.1, if_pos (nI_le (by omega) (by omega))]
    exact ⟨S, rfl, h4, Fr.rf⟩
  | succ d ih =>
    intro i n S h1 h2 h3 h4
    obtain ⟨n, rfl⟩ : ∃ m, n = m + 1 := ⟨n - 1, by omega⟩
    have hl := h3.2.1
    have hb : L.getD i 0 < 256 := getD_lt h3.2.2.1 (by omega)
    have hc := cn_le L i (L.getD i 0)
    have hk := kn_le L i
    obtain ⟨S1, eS1⟩ : ∃ z, z = puS S 6 (L.getD i 0) (nI (cn L i (L.getD i 0) + 1)) := ⟨_, rfl⟩
    have f1 : Fr [6] S S1 := by rw [eS1]; exact Fr.rf.pu (by simp)
    obtain ⟨S', g1, g2, g3⟩ := ih (i + 1) n S1 (by omega) (by omega) (h3.of (f1 1 (by decide)) (f1 2 (by decide))) (fun s hs => by
      rw [eS1, puS_s, cn_s]
      by_cases e : s = L.getD i 0
      · rw [e, upd_s, if_pos rfl]
      · rw [upd_n e, if_neg e]; exact h4 s hs)
    refine ⟨S', ?_, g2, f1.tr g3⟩
    rw [f_X8_countTape_L12_s, h3.1, if_neg (by rw [nI_leI (by omega) (by omega)]; omega)]
    refine e_bd (byteAt_s h3 (nI i)) ?_
    rw [bat_in (by omega) hl]
    refine e_bd (isSym_in hb S) ?_
    rw [if_neg (by decide), if_neg (nI_in hb (by omega)), nI_clamp (by omega), h4 _ hb]
    have tail : ∀ v : Int32, v = nI (kn L (i + 1)) → f_X8_countTape_L51 fu (f_X8_countTape_L12 fu n) v (nI i) (nI (L.getD i 0)) S = some (nI (kn L L.length), S') := by
      intro v hv
      unfold f_X8_countTape_L51 f_X8_countTape_L61
      rw [if_neg (nI_in hb (by omega)), if_neg (nI_in hb (by omega)), nI_clamp (by omega), h4 _ hb]
      simp only [pin_eq, nI_lit, nI_add]
      rw [← eS1, hv]
      exact g1
    by_cases h0 : cn L i (L.getD i 0) = 0
    · rw [if_pos (by rw [h0]; rfl), pin_eq]
      exact tail _ (by rw [kn_s hb, if_pos h0]; exact nI_1 _)
    · rw [if_neg (nI_ne0 (by omega) (by omega))]
      exact tail _ (by rw [kn_s hb, if_neg h0, Nat.add_zero])
theorem kn_0 (L : List Nat) : kn L 0 = 0 := by
  unfold kn
  rw [fb_ct_zero]
  intro k _
  simp [cn, fb_ct]
theorem countTape_s {fu : Nat} {L : List Nat} {S : St} (hf : 20000 ≤ fu) (h : RowC S 1 L) : ∃ S', f_X8_countTape fu S = some (nI (kn L L.length), S') ∧ (∀ s, s < 256 → S' 6 s = nI (cn L L.length s)) ∧ Fr [6] S S' := by
  have hl := h.2.1
  obtain ⟨S', g1, g2, g3⟩ := cntC_loop (fu := fu) (L := L) L.length 0 fu (upS S 6 (fiA (S 6) (zx_len 6) 0)) (by omega) (by omega) (h.of (upS_n (by decide)) (upS_n (by decide))) (fun s hs => by
    rw [upS_s, fiA, if_pos (show s < zx_len 6 from hs)]
    rfl)
  rw [kn_0] at g1
  refine ⟨S', e_bd (fill_s hf) g1, g2, (Fr.rf.up (by simp)).tr g3⟩
-- the SHARES: c counts, C their sum, M the places
def f0N (c : Nat → Nat) (C M : Nat) : Nat → Nat := fun s => if c s = 0 then 0 else if c s * M / C = 0 then 1 else c s * M / C
/-- LACK, as the machine has it -/
def lkI (c : Nat → Nat) (C M : Nat) (f : Nat → Nat) (s : Nat) : Int32 := nI (c s * M) - nI (f s * C)
/-- the SYMBOL with the greatest LACK among the first n (256: none) -/
def mbN (c : Nat → Nat) (C M : Nat) (f : Nat → Nat) : Nat → Nat
  | 0 => 256
  | s + 1 => if c s = 0 then mbN c C M f s else if mbN c C M f s = 256 then s else if lkI c C M f s ≤ lkI c C M f (mbN c C M f s) then mbN c C M f s else s
theorem mbN_lt (c : Nat → Nat) (C M : Nat) (f : Nat → Nat) : ∀ n, n ≤ 256 → mbN c C M f n < n ∧ 0 < c (mbN c C M f n) ∨ mbN c C M f n = 256 ∧ ∀ s, s < n → c s = 0 := by
  intro n
  induction n with
  | zero => intro _; exact Or.inr ⟨rfl, fun s h => absurd h (by omega)⟩
  | succ n ih =>
    intro hn
    have h := ih (by omega)
    unfold mbN
    by_cases h0 : c n = 0
    · rw [if_pos h0]
      rcases h with h | h
      · exact Or.inl ⟨by omega, h.2⟩
      · refine Or.inr ⟨h.1, fun s hs => ?_⟩
        by_cases e : s = n
        · rw [e]; exact h0
        · exact h.2 s (by omega)
    · rw [if_neg h0]
      by_cases h1 : mbN c C M f n = 256
      · rw [if_pos h1]; exact Or.inl ⟨by omega, by omega⟩
      · rw [if_neg h1]
        by_cases h2 : lkI c C M f n ≤ lkI c C M f (mbN c C M f n)
        · rw [if_pos h2]
          rcases h with h | h
          · exact Or.inl ⟨by omega, h.2⟩
          · exact absurd h.1 h1
        · rw [if_neg h2]; exact Or.inl ⟨by omega, by omega⟩
/-- the SYMBOL with the least LACK of those with SHARES above 1, of several the greatest: among the last n -/
def lbN (c : Nat → Nat) (C M : Nat) (f : Nat → Nat) : Nat → Nat
  | 0 => 256
  | n + 1 => if f (255 - n) ≤ 1 then lbN c C M f n else if lbN c C M f n = 256 then 255 - n else if lkI c C M f (lbN c C M f n) ≤ lkI c C M f (255 - n) then lbN c C M f n else 255 - n
/-- the class's way: among the first n -/
def laN (c : Nat → Nat) (C M : Nat) (f : Nat → Nat) : Nat → Nat
  | 0 => 256
  | s + 1 => if f s ≤ 1 then laN c C M f s else if laN c C M f s = 256 then s else if lkI c C M f (laN c C M f s) < lkI c C M f s then laN c C M f s else s
theorem lbN_p (c : Nat → Nat) (C M : Nat) (f : Nat → Nat) : ∀ n, n ≤ 256 → (lbN c C M f n < 256 ∧ 256 - n ≤ lbN c C M f n ∧ 1 < f (lbN c C M f n) ∧ (∀ s, 256 - n ≤ s → s < 256 → 1 < f s → (lkI c C M f (lbN c C M f n)).toInt ≤ (lkI c C M f s).toInt ∧ (lbN c C M f n < s → (lkI c C M f (lbN c C M f n)).toInt < (lkI c C M f s).toInt))) ∨ lbN c C M f n = 256 ∧ ∀ s, 256 - n ≤ s → s < 256 → f s ≤ 1 := by
  intro n
  induction n with
  | zero => intro _; exact Or.inr ⟨rfl, fun s h h2 => absurd h2 (by omega)⟩
  | succ n ih =>
    intro hn
    have h := ih (by omega)
    unfold lbN
    by_cases h0 : f (255 - n) ≤ 1
    · rw [if_pos h0]
      rcases h with ⟨a1, a2, a3, a4⟩ | ⟨a1, a2⟩
      · refine Or.inl ⟨a1, by omega, a3, fun s h1 h2 h3 => ?_⟩
        by_cases e : s = 255 - n
        · rw [e] at h3; omega
        · exact a4 s (by omega) h2 h3
      · refine Or.inr ⟨a1, fun s h1 h2 => ?_⟩
        by_cases e : s = 255 - n
        · rw [e]; exact h0
        · exact a2 s (by omega) h2
    · rw [if_neg h0]
      by_cases h1 : lbN c C M f n = 256
      · rw [if_pos h1]
        rcases h with ⟨a1, -⟩ | ⟨-, a2⟩
        · omega
        · refine Or.inl ⟨by omega, by omega, by omega, fun s q1 q2 q3 => ?_⟩
          by_cases e : s = 255 - n
          · rw [e]; exact ⟨Int.le_refl _, fun q => absurd q (by omega)⟩
          · have := a2 s (by omega) q2; omega
      · rw [if_neg h1]
        rcases h with ⟨a1, a2, a3, a4⟩ | ⟨a1, -⟩
        · by_cases h2 : lkI c C M f (lbN c C M f n) ≤ lkI c C M f (255 - n)
          · rw [if_pos h2]
            refine Or.inl ⟨a1, by omega, a3, fun s q1 q2 q3 => ?_⟩
            by_cases e : s = 255 - n
            · rw [e]; exact ⟨(fa_le _ _).mp h2, fun q => absurd q (by omega)⟩
            · exact a4 s (by omega) q2 q3
          · rw [if_neg h2]
            rw [fa_le] at h2
            refine Or.inl ⟨by omega, by omega, by omega, fun s q1 q2 q3 => ?_⟩
            by_cases e : s = 255 - n
            · rw [e]; exact ⟨Int.le_refl _, fun q => absurd q (by omega)⟩
            · have := a4 s (by omega) q2 q3
              exact ⟨by omega, fun _ => by omega⟩
        · exact absurd a1 h1
theorem laN_p (c : Nat → Nat) (C M : Nat) (f : Nat → Nat) : ∀ n, n ≤ 256 → (laN c C M f n < n ∧ 1 < f (laN c C M f n) ∧ (∀ s, s < n → 1 < f s → (lkI c C M f (laN c C M f n)).toInt ≤ (lkI c C M f s).toInt ∧ (laN c C M f n < s → (lkI c C M f (laN c C M f n)).toInt < (lkI c C M f s).toInt))) ∨ laN c C M f n = 256 ∧ ∀ s, s < n → f s ≤ 1 := by
  intro n
  induction n with
  | zero => intro _; exact Or.inr ⟨rfl, fun s h => absurd h (by omega)⟩
  | succ n ih =>
    intro hn
    have h := ih (by omega)
    unfold laN
    by_cases h0 : f n ≤ 1
    · rw [if_pos h0]
      rcases h with ⟨a1, a3, a4⟩ | ⟨a1, a2⟩
      · refine Or.inl ⟨by omega, a3, fun s h2 h3 => ?_⟩
        by_cases e : s = n
        · rw [e] at h3; omega
        · exact a4 s (by omega) h3
      · refine Or.inr ⟨a1, fun s h2 => ?_⟩
        by_cases e : s = n
        · rw [e]; exact h0
        · exact a2 s (by omega)
    · rw [if_neg h0]
      by_cases h1 : laN c C M f n = 256
      · rw [if_pos h1]
        rcases h with ⟨a1, -⟩ | ⟨-, a2⟩
        · omega
        · refine Or.inl ⟨by omega, by omega, fun s q2 q3 => ?_⟩
          by_cases e : s = n
          · rw [e]; exact ⟨Int.le_refl _, fun q => absurd q (by omega)⟩
          · have := a2 s (by omega); omega
      · rw [if_neg h1]
        rcases h with ⟨a1, a3, a4⟩ | ⟨a1, -⟩
        · by_cases h2 : lkI c C M f (laN c C M f n) < lkI c C M f n
          · rw [if_pos h2]
            rw [fa_lt] at h2
            refine Or.inl ⟨by omega, a3, fun s q2 q3 => ?_⟩
            by_cases e : s = n
            · rw [e]; exact ⟨by omega, fun _ => h2⟩
            · exact a4 s (by omega) q3
          · rw [if_neg h2]
            rw [fa_lt] at h2
            refine Or.inl ⟨by omega, by omega, fun s q2 q3 => ?_⟩
            by_cases e : s = n
            · rw [e]; exact ⟨Int.le_refl _, fun q => absurd q (by omega)⟩
            · have := a4 s (by omega) q3
              exact ⟨by omega, fun q => absurd q (by omega)⟩
        · exact absurd a1 h1
theorem la_lb (c : Nat → Nat) (C M : Nat) (f : Nat → Nat) : laN c C M f 256 = lbN c C M f 256 := by
  rcases laN_p c C M f 256 (by omega) with ⟨a1, a2, a3⟩ | ⟨a1, a2⟩
  · rcases lbN_p c C M f 256 (by omega) with ⟨b1, -, b2, b3⟩ | ⟨b1, b2⟩
    · have h1 := a3 _ b1 b2
      have h2 := b3 _ (by omega) a1 a2
      rcases Nat.lt_trichotomy (laN c C M f 256) (lbN c C M f 256) with q | q | q
      · have := h1.2 q; omega
      · exact q
      · have := h2.2 q; omega
    · have := b2 _ (by omega) a1; omega
  · rcases lbN_p c C M f 256 (by omega) with ⟨b1, -, b2, b3⟩ | ⟨b1, b2⟩
    · have := a2 _ b1; omega
    · omega
/-- one more, one less -/
def incN (f : Nat → Nat) (s : Nat) : Nat → Nat := fun x => if x = s then f s + 1 else f x
def decN (f : Nat → Nat) (s : Nat) : Nat → Nat := fun x => if x = s then f s - 1 else f x
def growN (c : Nat → Nat) (C M : Nat) : Nat → (Nat → Nat) → (Nat → Nat)
  | 0, f => f
  | d + 1, f => growN c C M d (incN f (mbN c C M f 256))
def shrinkN (c : Nat → Nat) (C M : Nat) : Nat → (Nat → Nat) → (Nat → Nat)
  | 0, f => f
  | d + 1, f => shrinkN c C M d (decN f (lbN c C M f 256))
def fitN (c : Nat → Nat) (C M : Nat) : Nat → Nat := shrinkN c C M (fb_sm (f0N c C M) 256 - M) (growN c C M (M - fb_sm (f0N c C M) 256) (f0N c C M))
theorem incN_sm {f : Nat → Nat} {s : Nat} (h : s < 256) : fb_sm (incN f s) 256 = fb_sm f 256 + 1 := by
  have := fb_sm_upd f (f s + 1) h
  unfold incN
  omega
theorem decN_sm {f : Nat → Nat} {s : Nat} (h : s < 256) (h1 : 1 < f s) : fb_sm (decN f s) 256 + 1 = fb_sm f 256 := by
  have := fb_sm_upd f (f s - 1) h
  unfold decN
  omega
