/-! unpack: both -/
theorem tab_par {k : Nat} (h : zx_tab k = true) : k % 2 = 0 := by rcases zx_tab_c h with rfl | rfl | rfl | rfl | rfl | rfl | rfl <;> rfl
theorem I_tab.rd {S S' : St} {tc lg : Nat → Nat} {f : Nat → Nat → Nat} (h : I_tab S tc lg f) (hc : ∀ t, t < 6 → S' (tc t) = S (tc t) ∧ S' (tc t + 1) = S (tc t + 1)) (h46 : ∀ t, t < 6 → S' 46 t = S 46 t) (h47 : ∀ j, j < 1536 → S' 47 j = S 47 j ∧ S' 48 j = S 48 j) : I_tab S' tc lg f := by
  intro t ht
  obtain ⟨c1, c2⟩ := hc t ht
  rcases h t ht with ⟨a, b, c⟩ | ⟨a, b, c⟩
  · exact Or.inl ⟨a, by rw [c1]; exact b, by rw [h46 t ht]; exact c⟩
  · refine Or.inr ⟨a, b.of c1 c2, ⟨by rw [h46 t ht]; exact c.1, fun s hs => ?_, fun s hs => ?_⟩⟩
    · rw [(h47 _ (by omega)).1]; exact c.2.1 s hs
    · rw [(h47 _ (by omega)).2]; exact c.2.2 s hs
theorem LM.rd {S S' : St} {f : Nat → Nat} {lg w t : Nat} (h : LM S f lg w t) (hs : SumOK f lg) (ht : t < 6) (hw : w < 3) (hB : ∀ c, c = 50 ∨ c = 51 ∨ c = 52 → ∀ j, j < 73728 → S' c j = S c j) : LM S' f lg w t := by
  have hp := pow12 hs.2.1
  obtain ⟨a, b, c⟩ := h
  refine ⟨fun p hp' => ?_, fun p hp' => ?_, fun p hp' => ?_⟩
  · rw [hB 50 (Or.inl rfl) _ (by omega)]; exact a p hp'
  · rw [hB 51 (Or.inr (Or.inl rfl)) _ (by omega)]; exact b p hp'
  · have hix := (layOK hs hw).ix hs.2.2 hp'
    rw [hB 52 (Or.inr (Or.inr rfl)) _ (by omega)]; exact c p hp'
theorem I_laid.rd {S S' : St} {lg : Nat → Nat} {f : Nat → Nat → Nat} (h : I_laid S lg f) (hall : ∀ j, j < 6 → lg j ≤ 12 ∧ (0 < lg j → SumOK (f j) (lg j))) (h49 : ∀ j, j < 18 → S' 49 j = S 49 j) (hB : ∀ c, c = 50 ∨ c = 51 ∨ c = 52 → ∀ j, j < 73728 → S' c j = S c j) : I_laid S' lg f := by
  intro t w ht hw hl hn
  rw [h49 _ (by omega)] at hn
  exact (h t w ht hw hl hn).rd ((hall t ht).2 hl) ht hw hB
theorem wrC_loop {fu N : Nat} {ms : List Nat} (hN : N ≤ 1400) (hm : ms.length = N) (hb : ∀ y ∈ ms, y < 256) : ∀ (d i n : Nat) (S : St) (A : List Nat), i + d = N → d < n → S 7 11 = nI N → (∀ j, j < N → by8 (S 19 j) 0 = ms.getD j 0) → RowC S 3 A → A.length = i → (∀ j, j < i → A.getD j 0 = ms.getD j 0) → ∃ S', f_X1_writeMessage_L7 fu 3 n (nI i) S = some (0, S') ∧ RowC S' 3 ms ∧ Fr [3, 4] S S' := by
  intro d
  induction d with
  | zero =>
    intro i n S A hi hn h11 h19 hR hA hAj
    obtain ⟨n, rfl⟩ : ∃ e, n = e + 1 := ⟨n - 1, by omega⟩
    have : A = ms := by
      apply List.ext_getElem (by omega)
      intro j j1 j2
      have := hAj j (by omega)
      rw [List.getD_eq_getElem?_getD, List.getD_eq_getElem?_getD, List.getElem?_eq_getElem j1, List.getElem?_eq_getElem j2] at this
      exact this
    rw [this] at hR
    refine ⟨S, ?_, hR, Fr.rf⟩
    rw [f_X1_writeMessage_L7_s, h11, if_pos (nI_le (by omega) (by omega))]
  | succ d ih =>
    intro i n S A hi hn h11 h19 hR hA hAj
    obtain ⟨n, rfl⟩ : ∃ e, n = e + 1 := ⟨n - 1, by omega⟩
    obtain ⟨S1, a1, a2, a3, -⟩ := add_s (x := S 19 i) hR (by omega)
    rw [h19 i (by omega)] at a2
    obtain ⟨S', b1, b2, b3⟩ := ih (i + 1) n S1 (A ++ [ms.getD i 0]) (by omega) (by omega) (by rw [a3 7 (by decide)]; exact h11) (fun j hj => by rw [a3 19 (by decide)]; exact h19 j hj) a2 (by rw [List.length_append, hA]; rfl) (fun j hj => by
      by_cases q : j = i
      · rw [q, ← hA, getD_hi]
      · rw [getD_lo (by omega)]; exact hAj j (by omega))
    refine ⟨S', ?_, b2, a3.tr b3⟩
    rw [f_X1_writeMessage_L7_s, h11, if_neg (by rw [nI_leI (by omega) (by omega)]; omega), if_neg (show ¬ (1400 : Int32) ≤ nI i by rw [show (1400 : Int32) = nI 1400 from rfl, nI_leI (by omega) (by omega)]; omega), if_neg (nI_in (by omega) (by omega)), nI_clamp (by omega)]
    refine e_bd a1 ?_
    rw [nI_1, pin_eq]
    exact b1
theorem cpM_loop {fu t : Nat} {f : Nat → Nat} {p : Int32} (ht : t < 6) : ∀ (d i n : Nat) (M : St), i + d = 256 → d < n → ShM M 6 f → (∀ s, s < i → M 47 (256 * t + s) = nI (f s)) → ∃ M', f_X9_unpack_L52 fu p n (nI t) (nI i) M = (bnd (f_X9_begin fu (nI t) M') fun _ S14 => f_X9_unpack_L94 fu p fu (nI 0) S14) ∧ ShM M' t f ∧ Fr [47] M M' ∧ ∀ j, (j < 256 * t ∨ 256 * t + 256 ≤ j) → M' 47 j = M 47 j := by
  intro d
  induction d with
  | zero =>
    intro i n M hi hn h6 h
    obtain ⟨n, rfl⟩ : ∃ e, n = e + 1 := ⟨n - 1, by omega⟩
    refine ⟨M, ?_, fun s hs => h s (by omega), Fr.rf, fun _ _ => rfl⟩
    rw [f_X9_unpack_L52_s, if_pos (show (256 : Int32) ≤ nI i by rw [show (256 : Int32) = nI 256 from rfl, nI_leI (by omega) (by omega)]; omega)]
    rfl
  | succ d ih =>
    intro i n M hi hn h6 h
    obtain ⟨n, rfl⟩ : ∃ e, n = e + 1 := ⟨n - 1, by omega⟩
    obtain ⟨M1, e1⟩ : ∃ z, z = puS M 47 (256 * t + i) (nI (f i)) := ⟨_, rfl⟩
    have f1 : Fr [47] M M1 := by rw [e1]; exact Fr.rf.pu (by simp)
    obtain ⟨M', a1, a2, a3, a4⟩ := ih (i + 1) n M1 (by omega) (by omega) (fun s hs => by rw [e1, puS_s, upd_n (by omega)]; exact h6 s hs) (fun s hs => by
      rw [e1, puS_s]
      by_cases q : s = i
      · rw [q, upd_s]
      · rw [upd_n (by omega)]; exact h s (by omega))
    refine ⟨M', ?_, a2, f1.tr a3, fun j hj => by rw [a4 j hj, e1, puS_s, upd_n (by omega)]⟩
    rw [f_X9_unpack_L52_s, if_neg (show ¬ (256 : Int32) ≤ nI i by rw [show (256 : Int32) = nI 256 from rfl, nI_leI (by omega) (by omega)]; omega), show (1536 : Int32) + nI i = nI (256 * 6 + i) from nI_add 1536 i, if_neg (nI_in (by omega) (by omega)), nI_clamp (by omega), ix256, if_neg (nI_in (by omega) (by omega)), nI_clamp (by omega), h6 i (by omega), pin_eq, ← e1, nI_1, pin_eq]
    exact a1
theorem wrM_loop {fu N : Nat} {ms : List Nat} {p : Int32} (hfu : 20000 ≤ fu) (hN : N ≤ 1400) (hm : ms.length = N) : ∀ (d i n : Nat) (M : St), i + d = N → d < n → M 43 30 = nI N → (∀ j, j < N → M 61 j = nI (ms.getD j 0)) → (∀ j, j < i → M 45 j = nI (ms.getD j 0)) → ∃ M', f_X9_unpack_L94 fu p n (nI i) M = some (nI N, M') ∧ RowM M' 45 3 ms ∧ (∀ j, j < 6 → M' 56 j = M 59 j) ∧ Fr [43, 45, 56] M M' ∧ ∀ j, j ≠ 3 → M' 43 j = M 43 j := by
  intro d
  induction d with
  | zero =>
    intro i n M hi hn h30 h61 h45
    obtain ⟨n, rfl⟩ : ∃ e, n = e + 1 := ⟨n - 1, by omega⟩
    obtain ⟨M1, e1⟩ : ∃ z, z = puS M 43 3 (nI N) := ⟨_, rfl⟩
    have f1 : Fr [43] M M1 := by rw [e1]; exact Fr.rf.pu (by simp)
    obtain ⟨M', a1, a2, a3⟩ := tells_s (fu := fu) (S := M1) hfu
    have q : ∀ j, j ≠ 3 → M' 43 j = M 43 j := fun j hj => by rw [a3 43 (by decide), e1, puS_s, upd_n hj]
    refine ⟨M', ?_, ⟨by rw [a3 43 (by decide), e1, puS_s, upd_s, hm], fun j hj => by rw [a3 45 (by decide), f1 45 (by decide)]; exact h45 j (by omega)⟩, fun j hj => by rw [a2 j hj, f1 59 (by decide)], (f1.mono (by simp)).tr (a3.mono (by simp)), q⟩
    rw [f_X9_unpack_L94_s, h30, if_pos (nI_le (by omega) (by omega)), pin_eq, ← e1]
    refine e_bd a1 ?_
    rw [q 30 (by decide), h30]
  | succ d ih =>
    intro i n M hi hn h30 h61 h45
    obtain ⟨n, rfl⟩ : ∃ e, n = e + 1 := ⟨n - 1, by omega⟩
    obtain ⟨M1, e1⟩ : ∃ z, z = puS M 45 i (nI (ms.getD i 0)) := ⟨_, rfl⟩
    have f1 : Fr [45] M M1 := by rw [e1]; exact Fr.rf.pu (by simp)
    obtain ⟨M', a1, a2, a3, a4, a5⟩ := ih (i + 1) n M1 (by omega) (by omega) (by rw [f1 43 (by decide)]; exact h30) (fun j hj => by rw [f1 61 (by decide)]; exact h61 j hj) (fun j hj => by
      rw [e1, puS_s]
      by_cases q : j = i
      · rw [q, upd_s]
      · rw [upd_n q]; exact h45 j (by omega))
    refine ⟨M', ?_, a2, fun j hj => by rw [a3 j hj, f1 59 (by decide)], (f1.mono (by simp)).tr a4, fun j hj => by rw [a5 j hj, f1 43 (by decide)]⟩
    rw [f_X9_unpack_L94_s, h30, if_neg (by rw [nI_leI (by omega) (by omega)]; omega), if_neg (nI_in (by omega) (by omega)), if_neg (nI_in (by omega) (by omega)), nI_clamp (by omega), h61 i (by omega), pin_eq, ← e1, nI_1, pin_eq]
    exact a1
