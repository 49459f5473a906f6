/-! the TAPE that is refused -/
def rfP (f : Nat → Nat) (L : List Nat) (i : Nat) (r : Int32) : Prop := (r = 0 ∧ ∀ j, i ≤ j → j < L.length → 1 ≤ f (L.getD j 0)) ∨ (r = -3 ∧ ∃ j, i ≤ j ∧ j < L.length ∧ f (L.getD j 0) = 0)
theorem rfP.eq {f : Nat → Nat} {L : List Nat} {r r' : Int32} (h : rfP f L 0 r) (h' : rfP f L 0 r') : r = r' := by
  rcases h with ⟨a, b⟩ | ⟨a, j, -, b, c⟩ <;> rcases h' with ⟨a', b'⟩ | ⟨a', j', -, b', c'⟩
  · rw [a, a']
  · have := b j' (by omega) b'; omega
  · have := b' j (by omega) b; omega
  · rw [a, a']
theorem refC_loop {fu k lg : Nat} {f : Nat → Nat} {L : List Nat} {S : St} (h : TabC S k lg f) (hs : SumOK f lg) (hL : RowC S 1 L) : ∀ (d i n : Nat), i + d = L.length → d < n → ∃ r, f_X8_refusalOfTape_L18 fu k n (nI i) S = some (r, S) ∧ rfP f L i r := by
  have hl := hL.2.1
  intro d
  induction d with
  | zero =>
    intro i n hi hn
    obtain ⟨n, rfl⟩ : ∃ m, n = m + 1 := ⟨n - 1, by omega⟩
    refine ⟨0, ?_, Or.inl ⟨rfl, fun j _ _ => by omega⟩⟩
    rw [f_X8_refusalOfTape_L18_s, hL.1, if_pos (nI_le (by omega) (by omega))]
  | succ d ih =>
    intro i n hi hn
    obtain ⟨n, rfl⟩ : ∃ m, n = m + 1 := ⟨n - 1, by omega⟩
    have hb : L.getD i 0 < 256 := getD_lt hL.2.2.1 (by omega)
    have hv := hs.le _ hb
    have hgo : ∀ R, (if nI (f (L.getD i 0)) = 0 then some ((-3 : Int32), S) else pin (nI i + (1 : Int32)) fun x10 => f_X8_refusalOfTape_L18 fu k n x10 S) = R → f_X8_refusalOfTape_L18 fu k (n + 1) (nI i) S = R := by
      intro R hR
      rw [f_X8_refusalOfTape_L18_s, hL.1, if_neg (by rw [nI_leI (by omega) (by omega)]; omega)]
      refine e_bd (byteAt_s hL (nI i)) ?_
      rw [bat_in (by omega) hl]
      exact e_bd (shareOf_s h hb) hR
    by_cases q : f (L.getD i 0) = 0
    · exact ⟨-3, hgo _ (by rw [if_pos (by rw [q]; rfl)]), Or.inr ⟨rfl, i, Nat.le_refl _, by omega, q⟩⟩
    · obtain ⟨r, a, b⟩ := ih (i + 1) n (by omega) (by omega)
      refine ⟨r, hgo _ (by rw [if_neg (nI_ne0 (by omega) (by omega)), pin_eq, nI_1]; exact a), ?_⟩
      rcases b with ⟨b1, b2⟩ | ⟨b1, j, b2, b3, b4⟩
      · refine Or.inl ⟨b1, fun j h1 h2 => ?_⟩
        by_cases e : j = i
        · rw [e]; omega
        · exact b2 j (by omega) h2
      · exact Or.inr ⟨b1, j, by omega, b3, b4⟩
theorem refM_loop {fu t lg : Nat} {f : Nat → Nat} {L : List Nat} {p : Int32} {S : St} (ht : t < 7) (h : TabM S t lg f) (hs : SumOK f lg) (hL : RowM S 44 1 L) (hl : L.length ≤ 4000) (hb : ∀ b ∈ L, b < 256) : ∀ (d i n : Nat), i + d = L.length → d < n → ∃ r, f_X9_refusal_L15 fu p n (nI t) (nI i) S = some (r, S) ∧ rfP f L i r := by
  intro d
  induction d with
  | zero =>
    intro i n hi hn
    obtain ⟨n, rfl⟩ : ∃ m, n = m + 1 := ⟨n - 1, by omega⟩
    refine ⟨0, ?_, Or.inl ⟨rfl, fun j _ _ => by omega⟩⟩
    rw [f_X9_refusal_L15_s, hL.1, if_pos (nI_le (by omega) (by omega))]
  | succ d ih =>
    intro i n hi hn
    obtain ⟨n, rfl⟩ : ∃ m, n = m + 1 := ⟨n - 1, by omega⟩
    have hb : L.getD i 0 < 256 := getD_lt hb (by omega)
    have hv := hs.le _ hb
    have hgo : ∀ R, (if nI (f (L.getD i 0)) = 0 then some ((-3 : Int32), S) else pin (nI i + (1 : Int32)) fun x10 => f_X9_refusal_L15 fu p n (nI t) x10 S) = R → f_X9_refusal_L15 fu p (n + 1) (nI t) (nI i) S = R := by
      intro R hR
      rw [f_X9_refusal_L15_s, hL.1, if_neg (by rw [nI_leI (by omega) (by omega)]; omega), if_neg (nI_in (by omega) (by omega)), nI_clamp (by omega), hL.2 i (by omega), ix256, if_neg (nI_in (by omega) (by omega)), nI_clamp (by omega), h.2.1 _ hb]
      exact hR
    by_cases q : f (L.getD i 0) = 0
    · exact ⟨-3, hgo _ (by rw [if_pos (by rw [q]; rfl)]), Or.inr ⟨rfl, i, Nat.le_refl _, by omega, q⟩⟩
    · obtain ⟨r, a, b⟩ := ih (i + 1) n (by omega) (by omega)
      refine ⟨r, hgo _ (by rw [if_neg (nI_ne0 (by omega) (by omega)), pin_eq, nI_1]; exact a), ?_⟩
      rcases b with ⟨b1, b2⟩ | ⟨b1, j, b2, b3, b4⟩
      · refine Or.inl ⟨b1, fun j h1 h2 => ?_⟩
        by_cases e : j = i
        · rw [e]; omega
        · exact b2 j (by omega) h2
      · exact Or.inr ⟨b1, j, by omega, b3, b4⟩
/-- both refuse the TAPE alike, or both take it -/
theorem refuse_both {fu k t lg : Nat} {f : Nat → Nat} {L : List Nat} {S : St} (hfu : 20000 ≤ fu) (ht : t < 7) (hc : TabC S k lg f) (hs : SumOK f lg) (hL : RowC S 1 L) : (∃ r, r < (0 : Int32) ∧ f_X8_refusalOfTape fu k S = some (r, S) ∧ ∀ S', TabM S' t lg f → RowM S' 44 1 L → f_X9_refusal fu (nI t) S' = some (r, S')) ∨ (L.length ≤ 1400 ∧ (∀ j, j < L.length → L.getD j 0 < 256 ∧ 1 ≤ f (L.getD j 0)) ∧ f_X8_refusalOfTape fu k S = some (0, S) ∧ ∀ S', TabM S' t lg f → RowM S' 44 1 L → f_X9_refusal fu (nI t) S' = some (0, S')) := by
  have hl := hL.2.1
  by_cases q : L.length ≤ 1400
  · obtain ⟨r, a, b⟩ := refC_loop (fu := fu) hc hs hL L.length 0 fu (by omega) (by omega)
    have c1 : f_X8_refusalOfTape fu k S = some (r, S) := by
      unfold f_X8_refusalOfTape
      rw [hL.1, if_pos (show nI L.length ≤ (1400 : Int32) from nI_le (b := 1400) q (by decide))]
      exact a
    have m1 : ∀ S', TabM S' t lg f → RowM S' 44 1 L → f_X9_refusal fu (nI t) S' = some (r, S') := by
      intro S' h1 h2
      obtain ⟨r', a', b'⟩ := refM_loop (fu := fu) (p := nI t) ht h1 hs h2 hl hL.2.2.1 L.length 0 fu (by omega) (by omega)
      unfold f_X9_refusal
      rw [h2.1, if_pos (show nI L.length ≤ (1400 : Int32) from nI_le (b := 1400) q (by decide)), b.eq b']
      exact a'
    rcases b with ⟨b1, b2⟩ | ⟨b1, -⟩
    · subst b1
      exact Or.inr ⟨q, fun j hj => ⟨getD_lt hL.2.2.1 hj, b2 j (by omega) hj⟩, c1, m1⟩
    · exact Or.inl ⟨r, by rw [b1]; decide, c1, m1⟩
  · left
    refine ⟨-2, by decide, ?_, fun S' h1 h2 => ?_⟩
    · unfold f_X8_refusalOfTape
      rw [hL.1, if_neg (by rw [show (1400 : Int32) = nI 1400 from rfl, nI_leI (by omega) (by omega)]; exact q)]
    · unfold f_X9_refusal
      rw [h2.1, if_neg (by rw [show (1400 : Int32) = nI 1400 from rfl, nI_leI (by omega) (by omega)]; exact q)]
