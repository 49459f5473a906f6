/-! unpack -/
def sw (t j : Nat) : Nat := if j = t then 6 else if j = 6 then t else j
theorem sw_t {t : Nat} : sw t t = 6 := if_pos rfl
theorem sw_6 {t : Nat} (h : t < 6) : sw t 6 = t := by unfold sw; rw [if_neg (by omega), if_pos rfl]
theorem sw_n {t j : Nat} (h1 : j ≠ t) (h2 : j ≠ 6) : sw t j = j := by unfold sw; rw [if_neg h1, if_neg h2]
theorem sw_lt {t j : Nat} (ht : t < 6) (hj : j < 7) : sw t j < 7 := by
  unfold sw
  split
  · omega
  · split <;> omega
theorem sw_inj {t i j : Nat} (ht : t < 6) (h : sw t i = sw t j) : i = j := by
  unfold sw at h
  by_cases a : i = t
  · rw [if_pos a] at h
    by_cases b : j = t
    · omega
    · rw [if_neg b] at h
      by_cases c : j = 6
      · rw [if_pos c] at h; omega
      · rw [if_neg c] at h; omega
  · rw [if_neg a] at h
    by_cases a2 : i = 6
    · rw [if_pos a2] at h
      by_cases b : j = t
      · rw [if_pos b] at h; omega
      · rw [if_neg b] at h
        by_cases c : j = 6
        · omega
        · rw [if_neg c] at h; omega
    · rw [if_neg a2] at h
      by_cases b : j = t
      · rw [if_pos b] at h; omega
      · rw [if_neg b] at h
        by_cases c : j = 6
        · rw [if_pos c] at h; omega
        · rw [if_neg c] at h; exact h
theorem unM_go {fu t : Nat} {S : St} (ht : t < 6) (R : Option (Int32 × St)) (h : (bnd (f_X9_reads fu (puS (puS S 43 16 0) 43 17 (-1))) fun r5 S6 => pin (puS S6 43 1 (0 : Int32)) fun S8 => if r5 = 0 then some ((-1 : Int32), S8) else if (nI t < 0 ∨ 7 ≤ (nI t).toNatClampNeg) then none else pin (puS S8 46 (nI t).toNatClampNeg (S8 46 6)) fun S10 => f_X9_unpack_L52 fu (nI t) fu (nI t) (0 : Int32) S10) = R) : f_X9_unpack fu (nI t) S = R := by
  unfold f_X9_unpack
  rw [if_neg (nI_pos (by omega)), if_pos (show nI t ≤ (5 : Int32) from nI_le (b := 5) (by omega) (by decide)), pin_eq, pin_eq]
  exact h
theorem lx_unpack {fu : Nat} (hfu : 20000 ≤ fu) : lx_h9 fu zx_I := by
  intro x S h
  obtain ⟨L, O, tc, lg, f, h1, h2, h3, h4, h5, h6⟩ := id h
  rcases isTN_s x S with ⟨a, b⟩ | ⟨t, ht, rfl, a⟩
  · refine ⟨-1, S, S, e_bd a (by rw [if_pos rfl]), ?_, h⟩
    unfold f_X9_unpack
    by_cases q : x < 0
    · rw [if_pos q]
    · rw [if_neg q, if_neg]
      have := b.resolve_left q
      rw [fa_le] at this ⊢
      have e1 : (6 : Int32).toInt = 6 := by decide
      have e2 : (5 : Int32).toInt = 5 := by decide
      omega
  · have hz := h2.1 6 (by omega)
    have hr := tab_rng hz
    have hz' := h2.1 t (by omega)
    have hr' := tab_rng hz'
    have hne : ∀ j, j < 6 → tc j ≠ tc 6 ∧ tc j ≠ tc 6 + 1 ∧ tc j + 1 ≠ tc 6 ∧ tc j + 1 ≠ tc 6 + 1 ∧ 20 ≤ tc j ∧ tc j ≤ 32 := fun j hj => by
      have p1 := tab_par (h2.1 j (by omega))
      have p2 := tab_par hz
      have p3 := tab_rng (h2.1 j (by omega))
      have p4 : tc j ≠ tc 6 := fun c => by have := h2.2.1 j 6 (by omega) (by omega) c; omega
      omega
    have hall := h3.all
    rcases packet_both (fu := fu) hfu h1.1 h2 with ⟨r, q, S1, b1, b2, b3, b4, b5⟩ | ⟨lgN, w, fN, ms, S1, b1, b2, b3, b4, b5, b6, b7, b8, b9, b10, b11⟩
    · obtain ⟨S2, e2⟩ : ∃ z, z = puS S1 1 1 0 := ⟨_, rfl⟩
      have f2 : Fr [1] S1 S2 := by rw [e2]; exact Fr.rf.pu (by simp)
      obtain ⟨M0, e0⟩ : ∃ z, z = puS (puS S2 43 16 0) 43 17 (-1) := ⟨_, rfl⟩
      have f0 : Fr [43] S2 M0 := by rw [e0]; exact (Fr.rf.pu (by simp)).pu (by simp)
      have x0 : ∀ j, j ≠ 16 → j ≠ 17 → M0 43 j = S 43 j := fun j j1 j2 => by rw [e0, puS_s, upd_n j2, puS_s, upd_n j1, f2 43 (by decide), b3.c (by simp [ksP]; omega)]
      obtain ⟨M', c1, c2⟩ := b5 M0 (h1.2.1.of (x0 1 (by decide) (by decide)) (by rw [f0 44 (by decide), f2 44 (by decide), b3.c (by simp [ksP]; omega)]))
      obtain ⟨S3, e3⟩ : ∃ z, z = puS (fauM M' r q) 43 1 0 := ⟨_, rfl⟩
      have f3 : Fr [43] M' S3 := by rw [e3]; exact ((Fr.rf.pu (by simp)).pu (by simp)).pu (by simp)
      have y3 : ∀ j, j ≠ 1 → j ≠ 16 → j ≠ 17 → S3 43 j = M' 43 j := fun j j1 j2 j3 => by rw [e3, puS_s, upd_n j1]; unfold fauM; rw [puS_s, upd_n j3, puS_s, upd_n j2]
      have hk : ∀ c, c ∉ [43, 46, 47, 48, 49, 50, 51, 52, 54, 55, 58, 59, 61] → S3 c = S2 c := fun c hc => by rw [f3 c (by simp at hc ⊢; omega), c2.1 c hc, f0 c (by simp at hc ⊢; omega)]
      have hk1 : ∀ c, c < 43 → c ≠ 1 → S3 c = S1 c := fun c hc h1 => by rw [hk c (by simp; omega), f2 c (by simp; omega)]
      have hS1 : ∀ c, c ∉ 7 :: ksP (tc 6) → S1 c = S c := fun c hc => b3.c hc
      have z7 : S3 7 = S1 7 := hk1 7 (by omega) (by omega)
      have hMS : ∀ c, 43 < c → M0 c = S c := fun c hc => by rw [f0 c (by simp; omega), f2 c (by simp; omega), hS1 c (by simp [ksP]; omega)]
      refine ⟨-1, S2, S3, e_bd a ?_, unM_go ht _ ?_, ⟨[], O, tc, lg, f, ⟨?_, ?_, ?_, ?_⟩, ?_, ?_, ?_, ?_, ?_⟩⟩
      · rw [if_neg (by decide)]
        refine e_bd b1 ?_
        rw [pin_eq, if_pos rfl, ← e2]
      · rw [← e0]
        refine e_bd c1 ?_
        rw [pin_eq, if_pos rfl, ← e3]
      · have : RowC S2 1 [] := by rw [e2]; exact (h1.1.of (hS1 1 (by simp [ksP]; omega)) (hS1 2 (by simp [ksP]; omega))).nil
        exact this.of (hk 1 (by simp)) (hk 2 (by simp))
      · exact ⟨by rw [e3, puS_s, upd_s]; rfl, fun j hj => by cases hj⟩
      · exact h1.2.2.1.of (by rw [hk1 3 (by omega) (by omega), hS1 3 (by simp [ksP]; omega)]) (by rw [hk1 4 (by omega) (by omega), hS1 4 (by simp [ksP]; omega)])
      · exact h1.2.2.2.of (by rw [y3 3 (by decide) (by decide) (by decide), c2.2.1 3 (by omega), x0 3 (by decide) (by decide)]) (by rw [hk 45 (by simp), f2 45 (by decide), hS1 45 (by simp [ksP]; omega)])
      · exact h2.of (by rw [hk1 5 (by omega) (by omega), hS1 5 (by simp [ksP]; omega)]) (by rw [z7, b3.2 4 (by simp [jsP])])
      · refine h3.rd (fun j hj => ?_) (fun j hj => ?_) (fun j hj => ⟨?_, ?_⟩)
        · have := hne j hj
          exact ⟨by rw [hk1 _ (by omega) (by omega), hS1 _ (by simp [ksP]; omega)], by rw [hk1 _ (by omega) (by omega), hS1 _ (by simp [ksP]; omega)]⟩
        · rw [f3 46 (by decide), c2.2.2.1 j hj, hMS 46 (by omega)]
        · rw [f3 47 (by decide), (c2.2.2.2.1 j hj).1, hMS 47 (by omega)]
        · rw [f3 48 (by decide), (c2.2.2.2.1 j hj).2, hMS 48 (by omega)]
      · exact b4.of (h2.of (hS1 5 (by simp [ksP]; omega)) (b3.2 4 (by simp [jsP]))) (fun c hc => hk1 c (by omega) (by omega))
      · refine h5.rd hall (fun j hj => ?_) (fun c hc j hj => ?_)
        · rw [f3 49 (by decide), c2.2.2.2.2.1 j hj, hMS 49 (by omega)]
        · rw [f3 c (by simp; omega), c2.2.2.2.2.2 c hc j hj, hMS c (by omega)]
      · refine ⟨by rw [z7]; exact b2.1, ?_, ?_, ?_, ?_, fun j hj => ?_⟩
        · rw [z7, b2.2.1, e3, puS_s, upd_n (by decide)]; unfold fauM; rw [puS_s, upd_n (by decide), puS_s, upd_s]
        · rw [z7, b2.2.2, e3, puS_s, upd_n (by decide)]; unfold fauM; rw [puS_s, upd_s]
        · rw [hk1 0 (by omega) (by omega), hS1 0 (by simp [ksP]; omega), y3 18 (by decide) (by decide) (by decide), c2.2.1 18 (by omega), x0 18 (by decide) (by decide)]; exact h6.2.2.2.1
        · rw [hk1 0 (by omega) (by omega), hS1 0 (by simp [ksP]; omega), y3 19 (by decide) (by decide) (by decide), c2.2.1 19 (by omega), x0 19 (by decide) (by decide)]; exact h6.2.2.2.2.1
        · rw [hk1 40 (by omega) (by omega), hS1 40 (by simp [ksP]; omega), hk 56 (by simp), f2 56 (by decide), hS1 56 (by simp [ksP]; omega)]; exact h6.2.2.2.2.2 j hj
    · have hS1 : ∀ c, c ∉ 7 :: ksP (tc 6) → S1 c = S c := fun c hc => b3.c hc
      obtain ⟨S4, e4⟩ : ∃ z, z = puS (puS (puS S1 1 1 0) 7 4 (nI (tc t))) 5 t (nI (tc 6)) := ⟨_, rfl⟩
      have f4 : Fr [1, 5, 7] S1 S4 := by rw [e4]; exact ((Fr.rf.pu (by simp)).pu (by simp)).pu (by simp)
      have k7 : ∀ j, j ≠ 4 → S4 7 j = S1 7 j := fun j hj => by rw [e4, puS_n (by decide), puS_s, upd_n hj, puS_n (by decide)]
      obtain ⟨S4', e4'⟩ : ∃ z, z = puS S4 3 1 0 := ⟨_, rfl⟩
      have f4' : Fr [3] S4 S4' := by rw [e4']; exact Fr.rf.pu (by simp)
      have r3 : RowC S4' 3 [] := by rw [e4']; exact ((h1.2.2.1.of (hS1 3 (by simp [ksP]; omega)) (hS1 4 (by simp [ksP]; omega))).of (f4 3 (by decide)) (f4 4 (by decide))).nil
      obtain ⟨S5, g1, g2, g3⟩ := wrC_loop (fu := fu) (N := ms.length) b8 rfl b9 ms.length 0 fu S4' [] (by omega) (by omega) (by rw [f4' 7 (by decide), k7 11 (by decide)]; exact b7) (fun j hj => by rw [f4' 19 (by decide), f4 19 (by decide)]; exact b10 j hj) r3 rfl (fun j hj => absurd hj (by omega))
      obtain ⟨S6, e6⟩ : ∃ z, z = upS S5 40 (va_cpy (S5 17) (S5 40) 0 0 6) := ⟨_, rfl⟩
      have f6 : Fr [40] S5 S6 := by rw [e6]; exact Fr.rf.up (by simp)
      have F46 : Fr [3, 4, 40] S4 S6 := (f4'.mono (by simp)).tr ((g3.mono (by simp)).tr (f6.mono (by simp)))
      have F16 : Fr [1, 3, 4, 5, 7, 40] S1 S6 := (f4.mono (by simp)).tr (F46.mono (by simp))
      have e40 : ∀ j, j < 6 → S6 40 j = S1 17 j := fun j hj => by rw [e6, upS_s, pk_cpy_in (by omega) (by omega), Nat.zero_add, Nat.sub_zero, g3 17 (by decide), f4' 17 (by decide), f4 17 (by decide)]
      obtain ⟨M0, e0⟩ : ∃ z, z = puS (puS S6 43 16 0) 43 17 (-1) := ⟨_, rfl⟩
      have f0 : Fr [43] S6 M0 := by rw [e0]; exact (Fr.rf.pu (by simp)).pu (by simp)
      have x0 : ∀ j, j ≠ 16 → j ≠ 17 → M0 43 j = S 43 j := fun j j1 j2 => by rw [e0, puS_s, upd_n j2, puS_s, upd_n j1, F16 43 (by decide), hS1 43 (by simp [ksP]; omega)]
      have hMS : ∀ c, 43 < c → M0 c = S c := fun c hc => by rw [f0 c (by simp; omega), F16 c (by simp; omega), hS1 c (by simp [ksP]; omega)]
      obtain ⟨M1, c1, c16, c17, c30, c46, cSh, c61, c59, c2⟩ := b11 M0 (h1.2.1.of (x0 1 (by decide) (by decide)) (hMS 44 (by omega)))
      obtain ⟨M3, e3⟩ : ∃ z, z = puS (puS M1 43 1 0) 46 t (nI lgN) := ⟨_, rfl⟩
      have f3 : Fr [43, 46] M1 M3 := by rw [e3]; exact (Fr.rf.pu (by simp)).pu (by simp)
      have y3 : ∀ j, j ≠ 1 → M3 43 j = M1 43 j := fun j j1 => by rw [e3, puS_n (by decide), puS_s, upd_n j1]
      obtain ⟨M4, d1, d2, d3, d4⟩ := cpM_loop (fu := fu) (t := t) (f := fN) (p := nI t) ht 256 0 fu M3 (by omega) (by omega) (fun s hs => by rw [f3 47 (by decide)]; exact cSh s hs) (fun s hs => absurd hs (by omega))
      obtain ⟨M5, j1, j2, j3, j4, j5, j6⟩ := begin_s (fu := fu) (t := t) hfu (by omega) d2
      have F35 : Fr [47, 48, 49] M3 M5 := (d3.mono (by simp)).tr (j6.mono (by simp))
      have F15 : Fr [43, 46, 47, 48, 49] M1 M5 := (f3.mono (by simp)).tr (F35.mono (by simp))
      obtain ⟨M6, l1, l2, l3, l4, l5⟩ := wrM_loop (fu := fu) (N := ms.length) (ms := ms) (p := nI t) hfu b8 rfl ms.length 0 fu M5 (by omega) (by omega) (by rw [F35 43 (by decide), y3 30 (by decide)]; exact c30) (fun j hj => by rw [F15 61 (by decide)]; exact c61 j hj) (fun j hj => absurd hj (by omega))
      have hk : ∀ c, c < 43 → M6 c = S6 c := fun c hc => by rw [l4 c (by simp; omega), F15 c (by simp; omega), c2.1 c (by simp; omega), f0 c (by simp; omega)]
      have hk1 : ∀ c, c < 43 → c ≠ 1 → c ≠ 3 → c ≠ 4 → c ≠ 5 → c ≠ 7 → c ≠ 40 → M6 c = S1 c := fun c hc a1 a3 a4 a5 a7 a40 => by rw [hk c hc, F16 c (by simp; omega)]
      have z7 : M6 7 = S4 7 := by rw [hk 7 (by omega), F46 7 (by decide)]
      have z43 : ∀ j, j ≠ 1 → j ≠ 3 → M6 43 j = M1 43 j := fun j h1 h3 => by rw [l5 j h3, F35 43 (by decide), y3 j h1]
      have q46 : M6 46 = M3 46 := by rw [l4 46 (by decide), F35 46 (by decide)]
      have q47 : M6 47 = M4 47 := by rw [l4 47 (by decide), j6 47 (by decide)]
      have q48 : M6 48 = M5 48 := l4 48 (by decide)
      have q49 : M6 49 = M5 49 := l4 49 (by decide)
      have P6 : PrI M6 (tc 6) fN lgN w := b6.of (fun c hc => hk1 c (by omega) (by omega) (by omega) (by omega) (by omega) (by omega) (by omega))
      have hTM : TabM M6 t lgN fN := ⟨by rw [q46, e3, puS_s, upd_s], fun s hs => by rw [q47]; exact d2 s hs, fun s hs => by rw [q48]; exact j2 s hs⟩
      have hB : ∀ c, c = 50 ∨ c = 51 ∨ c = 52 → ∀ j, j < 73728 → M6 c j = S c j := fun c hc j hj => by rw [l4 c (by simp; omega), F15 c (by simp; omega), c2.2.2.2.2.2 c hc j hj, hMS c (by omega)]
      refine ⟨nI ms.length, S6, M6, e_bd a ?_, unM_go ht _ ?_, ⟨[], ms, fun j => tc (sw t j), fun j => if j = t then lgN else lg j, fun j => if j = t then fN else f j, ⟨?_, ?_, ?_, l2⟩, ⟨fun j hj => h2.1 _ (sw_lt ht hj), fun i j hi hj hij => sw_inj ht (h2.2.1 _ _ (sw_lt ht hi) (sw_lt ht hj) hij), fun j hj => ?_, ?_⟩, fun j hj => ?_, ?_, ?_, ?_⟩⟩
      · rw [if_neg (by decide)]
        refine e_bd b1 ?_
        have p5 : puS S1 1 1 0 5 t = nI (tc t) := by rw [puS_n (by decide), hS1 5 (by simp [ksP]; omega)]; exact h2.2.2.1 t ht
        have p74 : puS S1 1 1 0 7 4 = nI (tc 6) := by rw [puS_n (by decide), b3.2 4 (by simp [jsP])]; exact h2.2.2.2
        rw [pin_eq, if_neg (by decide), if_neg (nI_in (by omega) (by omega)), nI_clamp (by omega), p5, pin_eq, (tab_62 hz').1, if_pos hz']
        refine e_bd (r := nI (tc 6)) (S := puS (puS S1 1 1 0) 7 4 (nI (tc t))) ?_ ?_
        · unfold f_X1_exchangeTable
          rw [p74, pin_eq, (tab_62 hz).1, if_pos hz, pin_eq]
        rw [if_neg (tab_62 hz).2, (tab_62 hz).1, pin_eq, if_pos hz, if_neg (nI_in2 (by omega) (by omega)), pin_eq, ← e4]
        refine e_bd (r := 0) (S := S5) ?_ ?_
        · unfold f_X1_writeMessage
          rw [pin_eq, ← e4']
          exact g1
        refine e_bd (r := 0) (S := S6) (by unfold f_X7_copy; rw [pin_eq, e6]) ?_
        rw [show S6 3 1 = nI ms.length by rw [f6 3 (by decide)]; exact g2.1]
      · rw [← e0]
        refine e_bd c1 ?_
        rw [pin_eq, if_neg (by decide), if_neg (nI_in (by omega) (by omega)), nI_clamp (by omega), show puS M1 43 1 0 46 6 = nI lgN by rw [puS_n (by decide)]; exact c46, pin_eq, ← e3]
        refine d1.trans ?_
        exact e_bd j1 l1
      · have : RowC (puS S1 1 1 0) 1 [] := (h1.1.of (hS1 1 (by simp [ksP]; omega)) (hS1 2 (by simp [ksP]; omega))).nil
        exact this.of (by rw [hk 1 (by omega), F46 1 (by decide), e4, puS_n (by decide), puS_n (by decide)]) (by rw [hk 2 (by omega), F16 2 (by decide), puS_n (by decide)])
      · exact ⟨by rw [l5 1 (by decide), F35 43 (by decide), e3, puS_n (by decide), puS_s, upd_s]; rfl, fun j hj => by cases hj⟩
      · exact g2.of (by rw [hk 3 (by omega), f6 3 (by decide)]) (by rw [hk 4 (by omega), f6 4 (by decide)])
      · rw [hk 5 (by omega), F46 5 (by decide), e4, puS_s]
        by_cases q : j = t
        · rw [q, upd_s]
          show nI (tc 6) = nI (tc (sw t t))
          rw [sw_t]
        · rw [upd_n q, puS_n (by decide), puS_n (by decide), hS1 5 (by simp [ksP]; omega)]
          show S 5 j = nI (tc (sw t j))
          rw [sw_n q (by omega)]
          exact h2.2.2.1 j hj
      · rw [z7, e4, puS_n (by decide), puS_s, upd_s]
        show nI (tc t) = nI (tc (sw t 6))
        rw [sw_6 ht]
      · by_cases q : j = t
        · right
          show SumOK (if j = t then fN else f j) (if j = t then lgN else lg j) ∧ TabC M6 (tc (sw t j)) (if j = t then lgN else lg j) (if j = t then fN else f j) ∧ TabM M6 j (if j = t then lgN else lg j) (if j = t then fN else f j)
          rw [if_pos q, if_pos q, q, sw_t]
          exact ⟨b4, P6.2.2.1, hTM⟩
        · have hn := hne j hj
          have u1 : M6 (tc j) = S (tc j) := by rw [hk1 _ (by omega) (by omega) (by omega) (by omega) (by omega) (by omega) (by omega), hS1 _ (by simp [ksP]; omega)]
          have u2 : M6 (tc j + 1) = S (tc j + 1) := by rw [hk1 _ (by omega) (by omega) (by omega) (by omega) (by omega) (by omega) (by omega), hS1 _ (by simp [ksP]; omega)]
          have u46 : M6 46 j = S 46 j := by rw [q46, e3, puS_s, upd_n q, puS_n (by decide), c2.2.2.1 j hj, hMS 46 (by omega)]
          show ((if j = t then lgN else lg j) = 0 ∧ M6 (tc (sw t j)) 1 = nI 0 ∧ M6 46 j = nI 0) ∨ (SumOK (if j = t then fN else f j) (if j = t then lgN else lg j) ∧ TabC M6 (tc (sw t j)) (if j = t then lgN else lg j) (if j = t then fN else f j) ∧ TabM M6 j (if j = t then lgN else lg j) (if j = t then fN else f j))
          rw [if_neg q, if_neg q, sw_n q (by omega)]
          rcases h3 j hj with ⟨w1, w2, w3⟩ | ⟨w1, w2, w3⟩
          · exact Or.inl ⟨w1, by rw [u1]; exact w2, by rw [u46]; exact w3⟩
          · refine Or.inr ⟨w1, w2.of u1 u2, ⟨by rw [u46]; exact w3.1, fun s hs => ?_, fun s hs => ?_⟩⟩
            · rw [q47, d4 _ (by omega), f3 47 (by decide), (c2.2.2.2.1 _ (by omega)).1, hMS 47 (by omega)]
              exact w3.2.1 s hs
            · rw [q48, j3 _ (by omega), d3 48 (by decide), f3 48 (by decide), (c2.2.2.2.1 _ (by omega)).2, hMS 48 (by omega)]
              exact w3.2.2 s hs
      · refine Or.inr ⟨t, fN, lgN, w, by omega, b5, ?_, P6.2.1, b4, ?_, P6.2.2.2⟩
        · show M6 9 9 = nI (tc (sw t t))
          rw [sw_t]
          exact P6.1
        · show TabC M6 (tc (sw t t)) lgN fN
          rw [sw_t]
          exact P6.2.2.1
      · intro t' w' ht' hw' hl' hn'
        by_cases q : t' = t
        · exfalso
          apply hn'
          rw [q49, q]
          exact j4 w' hw'
        · show LM M6 (if t' = t then fN else f t') (if t' = t then lgN else lg t') w' t'
          rw [if_neg q, if_neg q]
          have hl2 : 0 < lg t' := by
            have : 0 < (if t' = t then lgN else lg t') := hl'
            rw [if_neg q] at this
            exact this
          rw [q49, j5 _ (by omega), d3 49 (by decide), f3 49 (by decide), c2.2.2.2.2.1 _ (by omega), hMS 49 (by omega)] at hn'
          exact (h5 t' w' ht' hw' hl2 hn').rd ((hall t' ht').2 hl2) ht' hw' hB
      · refine ⟨by rw [z7, k7 5 (by decide)]; exact b2.1, ?_, ?_, ?_, ?_, fun j hj => ?_⟩
        · rw [z7, k7 6 (by decide), b2.2.1, z43 16 (by decide) (by decide), c16, e0, puS_s, upd_n (by decide), puS_s, upd_s]
        · rw [z7, k7 7 (by decide), b2.2.2, z43 17 (by decide) (by decide), c17, e0, puS_s, upd_s]
        · rw [hk1 0 (by omega) (by omega) (by omega) (by omega) (by omega) (by omega) (by omega), hS1 0 (by simp [ksP]; omega), z43 18 (by decide) (by decide), c2.2.1 18 (by omega), x0 18 (by decide) (by decide)]; exact h6.2.2.2.1
        · rw [hk1 0 (by omega) (by omega) (by omega) (by omega) (by omega) (by omega) (by omega), hS1 0 (by simp [ksP]; omega), z43 19 (by decide) (by decide), c2.2.1 19 (by omega), x0 19 (by decide) (by decide)]; exact h6.2.2.2.2.1
        · rw [hk 40 (by omega), e40 j hj, c59 j hj, l3 j hj, F15 59 (by decide)]
