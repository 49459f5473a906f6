/-! unpack: how the message begins and ends -/
theorem sel_lt {a b : Nat} (ha : a < 2 ^ 31) (hb : b < 2 ^ 31) : (if nI a < nI b then nI a else nI b) = nI (if a < b then a else b) := by
  by_cases q : a < b
  · rw [if_pos q, if_pos (by rw [nI_ltI ha hb]; exact q)]
  · rw [if_neg q, if_neg (by rw [nI_ltI ha hb]; exact q)]
theorem sel_gt {a b : Nat} (ha : a < 2 ^ 31) (hb : b < 2 ^ 31) : (if nI b < nI a then nI a else nI b) = nI (if b < a then a else b) := by
  by_cases q : b < a
  · rw [if_pos q, if_pos (by rw [nI_ltI hb ha]; exact q)]
  · rw [if_neg q, if_neg (by rw [nI_ltI hb ha]; exact q)]
theorem msgC_0 {fu k lg w N p P a : Nat} {f x : Nat → Nat} {L : List Nat} {S : St} (hfu : 20000 ≤ fu) (hk : k < 3) (hx : ∀ e, e < nSN k → x e < 2 ^ 31) (h : Lv S L a) (hc : CdC S k lg) (hLC : LC S f lg w) (g11 : S 7 11 = nI N) (g13 : S 7 13 = nI p) (g14 : S 7 14 = nI P) (g15 : S 7 15 = 0) (h18 : ∀ e, e < nSN k → S 18 e = nI (x e)) :
    ∃ (S1 : St) (a0 a1 : Nat), (∀ R, f_X1_readMessage_L44 fu fu (nI 0) S1 = R → f_X1_readMessage fu S = R) ∧ ClI S1 k lg w N p P f L a 0 x 0 a0 a1 0 [] ∧ a0 < 2 ^ 31 ∧ a1 < 2 ^ 31 ∧ TalR k x a0 a1 2147483647 0 0 ∧ F7 [] [17] S S1 := by
  have hn := nSN_bd k
  have hx0 := hx 0 (by omega)
  have hxl := hx (nSN k - 1) (by omega)
  obtain ⟨S1, e1⟩ : ∃ z, z = puS (puS (upS S 17 (fiA (S 17) (zx_len 17) (0 : Int32))) 17 0 (nI (x 0))) 17 1 (nI (x 0)) := ⟨_, rfl⟩
  have f1 : Fr [17] S S1 := by rw [e1]; exact ((Fr.rf.up (by simp)).pu (by simp)).pu (by simp)
  obtain ⟨S2, e2⟩ : ∃ z, z = puS (puS S1 17 0 (nI (if x (nSN k - 1) < x 0 then x (nSN k - 1) else x 0))) 17 1 (nI (if x 0 < x (nSN k - 1) then x (nSN k - 1) else x 0)) := ⟨_, rfl⟩
  have f2 : Fr [17] S1 S2 := by rw [e2]; exact (Fr.rf.pu (by simp)).pu (by simp)
  have F : F7 [] [17] S S2 := F7.fr (f1.tr f2) (by simp)
  have z0 : S1 17 0 = nI (x 0) := by rw [e1, puS_s, upd_n (by decide), puS_s, upd_s]
  have z1 : S1 17 1 = nI (x 0) := by rw [e1, puS_s, upd_s]
  have zz : ∀ j, 2 ≤ j → j < 6 → S2 17 j = nI 0 := fun j j1 j2 => by
    rw [e2, puS_s, upd_n (by omega), puS_s, upd_n (by omega), e1, puS_s, upd_n (by omega), puS_s, upd_n (by omega), upS_s, fiA, if_pos (show j < zx_len 17 from j2)]
    rfl
  refine ⟨S2, _, _, ?_, ⟨h.of F (by simp) (by simp) (by simp) (by rw [F.2 8 (by simp)]; exact h.2.2.2.2), hc.ofc (F.c (by simp)), hLC.of (by rw [F.c (by simp)]) (fun e _ _ => F.c (by simp; omega)), ⟨by rw [F.2 11 (by simp)]; exact g11, by rw [F.2 13 (by simp)]; exact g13, by rw [F.2 14 (by simp)]; exact g14, by rw [F.2 15 (by simp), g15, Nat.mul_zero]; rfl⟩, fun e he => by rw [F.c (by simp)]; exact h18 e he, ⟨by rw [e2, puS_s, upd_n (by decide), puS_s, upd_s], by rw [e2, puS_s, upd_s], zz 2 (by omega) (by omega), zz 3 (by omega) (by omega), zz 5 (by omega) (by omega)⟩, rfl, fun j hj => absurd hj (by omega)⟩, by split <;> omega, by split <;> omega, ?_, F⟩
  · intro R hR
    unfold f_X1_readMessage
    refine e_bd (whole1 h.2.2.1) ?_
    rw [if_neg (by decide), h18 0 (by omega)]
    refine e_bd (r := 0) (S := S1) ?_ ?_
    · unfold f_X7_begin
      refine e_bd (fill_s hfu) ?_
      rw [pin_eq, pin_eq, e1]
    refine e_bd (stCn_s hk (hc.ofc (f1 8 (by decide)))) ?_
    rw [show nI (nSN k) - (1 : Int32) = nI (nSN k - 1) from pk_sub (b := 1) (by omega), if_neg (nI_in (by omega) (by omega)), nI_clamp (by omega), f1 18 (by decide), h18 _ (by omega)]
    refine e_bd (r := 0) (S := S2) ?_ hR
    unfold f_X7_meet
    rw [show S1 (16 + 1) 0 = nI (x 0) from z0, sel_lt hxl hx0, pin_eq]
    show (pin (puS (puS S1 17 0 _) 17 1 (if (puS S1 17 0 _ 17 1) < nI (x (nSN k - 1)) then nI (x (nSN k - 1)) else puS S1 17 0 _ 17 1)) fun S2 => some ((0 : Int32), S2)) = _
    rw [show puS S1 17 0 (nI (if x (nSN k - 1) < x 0 then x (nSN k - 1) else x 0)) 17 1 = nI (x 0) by rw [puS_s, upd_n (by decide)]; exact z1, sel_gt hxl hx0, pin_eq, e2]
  · have hA : (if x (nSN k - 1) < x 0 then x (nSN k - 1) else x 0) ≤ x 0 ∧ (if x (nSN k - 1) < x 0 then x (nSN k - 1) else x 0) ≤ x (nSN k - 1) ∧ ((if x (nSN k - 1) < x 0 then x (nSN k - 1) else x 0) = x 0 ∨ (if x (nSN k - 1) < x 0 then x (nSN k - 1) else x 0) = x (nSN k - 1)) := by
      by_cases q : x (nSN k - 1) < x 0
      · rw [if_pos q]; omega
      · rw [if_neg q]; omega
    have hB : x 0 ≤ (if x 0 < x (nSN k - 1) then x (nSN k - 1) else x 0) ∧ x (nSN k - 1) ≤ (if x 0 < x (nSN k - 1) then x (nSN k - 1) else x 0) ∧ ((if x 0 < x (nSN k - 1) then x (nSN k - 1) else x 0) = x 0 ∨ (if x 0 < x (nSN k - 1) then x (nSN k - 1) else x 0) = x (nSN k - 1)) := by
      by_cases q : x 0 < x (nSN k - 1)
      · rw [if_pos q]; omega
      · rw [if_neg q]; omega
    revert hA hB
    generalize (if x (nSN k - 1) < x 0 then x (nSN k - 1) else x 0) = A
    generalize (if x 0 < x (nSN k - 1) then x (nSN k - 1) else x 0) = B
    intro hA hB
    refine ⟨fun e he => ?_, by omega, by omega, Or.inr ?_, Or.inr ?_, fun c => absurd c (by omega)⟩
    · have : e = 0 ∨ e = nSN k - 1 := by omega
      rcases this with rfl | rfl <;> omega
    · rcases hA.2.2 with q | q
      · exact ⟨0, by omega, q⟩
      · exact ⟨nSN k - 1, by omega, q⟩
    · rcases hB.2.2 with q | q
      · exact ⟨0, by omega, q⟩
      · exact ⟨nSN k - 1, by omega, q⟩
theorem msgM_0 {fu k lg w N p P : Nat} {f x : Nat → Nat} {L : List Nat} {M : St} (hk : k < 3) (hl : lg ≤ 12) (g28 : M 43 28 = nI k) (g29 : M 43 29 = nI w) (g30 : M 43 30 = nI N) (g31 : M 43 31 = nI p) (g32 : M 43 32 = nI P) (hT : TabM M 6 lg f) (hLM : LM M f lg w 6) (hR : RowM M 44 1 L) (h58 : ∀ e, e < nSN k → M 58 e = nI (x e)) :
    ∃ M1, f_X9_readsMessage fu M = f_X9_readsMessage_L56 fu fu (nI 0) (nI (tuN k P)) (nI (lsN k lg)) (nI 0) M1 ∧ MdI M1 k lg w N p P f L 0 x 2147483647 0 0 [] ∧ Fr [59] M M1 := by
  obtain ⟨M1, e1⟩ : ∃ z, z = puS (puS (puS (puS (puS (puS M 59 0 (2147483647 : Int32)) 59 1 0) 59 2 0) 59 3 0) 59 4 0) 59 5 0 := ⟨_, rfl⟩
  have F : Fr [59] M M1 := by rw [e1]; exact (((((Fr.rf.pu (by simp)).pu (by simp)).pu (by simp)).pu (by simp)).pu (by simp)).pu (by simp)
  refine ⟨M1, ?_, ⟨⟨by rw [F 43 (by decide)]; exact g28, by rw [F 43 (by decide)]; exact g29, by rw [F 43 (by decide)]; exact g30, by rw [F 43 (by decide)]; exact g31, by rw [F 43 (by decide)]; exact g32⟩, hT.of (F 46 (by decide)) (F 47 (by decide)) (F 48 (by decide)), hLM.of (F 50 (by decide)) (F 51 (by decide)) (F 52 (by decide)), hR.of (by rw [F 43 (by decide)]) (F 44 (by decide)), fun e he => by rw [F 58 (by decide)]; exact h58 e he, ⟨?_, ?_, ?_⟩, rfl, fun j hj => absurd hj (by omega)⟩, F⟩
  · have h47 : ∀ v2 t v4, f_X9_readsMessage_L47 fu v2 t v4 M = f_X9_readsMessage_L56 fu fu v2 t v4 0 M1 := fun v2 t v4 => by
      unfold f_X9_readsMessage_L47
      refine e_bd (r := 0) (S := M1) ?_ rfl
      unfold f_X9_meetsNone
      rw [pin_eq, pin_eq, pin_eq, pin_eq, pin_eq, pin_eq, e1]
    unfold f_X9_readsMessage
    rw [hT.1, pin_eq, g28, g32, show (1 : Int32) <<< (nI lg &&& 31) = nI (2 ^ lg) from shl1 hl, show (8 : Int32) * nI P = nI (8 * P) from pk_mul 8 P]
    unfold f_X9_readsMessage_L33
    rw [g28, h47, h47, h47, h47]
    unfold tuN lsN
    by_cases q : k = 0
    · rw [if_pos (by rw [q]; rfl), if_pos (by rw [q]; rfl), if_pos q, if_pos q]
      rfl
    · rw [if_neg (nI_ne0 (by omega) (by omega)), if_neg (nI_ne0 (by omega) (by omega)), if_neg q, if_neg q]
      rfl
  · rw [e1]; simp [puS, upS, upd]; rfl
  · rw [e1]; simp [puS, upS, upd]; rfl
  · rw [e1]; simp [puS, upS, upd]; rfl
theorem l407_s {fu k lg p P v sa : Nat} {x : Nat → Nat} {M : St} (hk : k < 3) (hl : lg ≤ 12) (hx : ∀ e, e < nSN k → x e < 2 ^ 31) (hP : P < 65536) (hv : v < 100000) (g28 : M 43 28 = nI k) (g31 : M 43 31 = nI p) (g32 : M 43 32 = nI P) (g33 : M 43 33 = nI sa) (h58 : ∀ e, e < nSN k → M 58 e = nI (x e)) :
    (v < P → f_X9_readsMessage_L407 fu (nI (lsN k lg)) (nI v) M = some (0, fauM M 6 (p + v))) ∧ (P ≤ v → ∀ r q, CsF k lg x sa 0 r q → f_X9_readsMessage_L407 fu (nI (lsN k lg)) (nI v) M = some (0, fauM M r q)) ∧ (P ≤ v → (∀ j, 0 ≤ j → j < nSN k → x j = lsN k lg) → f_X9_readsMessage_L407 fu (nI (lsN k lg)) (nI v) M = some (1, M)) := by
  have hn := nSN_bd k
  have hls := lsN_bd (k := k) hl
  refine ⟨fun h => ?_, fun h r q hC => ?_, fun h hC => ?_⟩
  · unfold f_X9_readsMessage_L407
    rw [g32, if_neg (by rw [nI_leI (by omega) (by omega)]; omega), g31, nI_add]
    exact fail_r
  · obtain ⟨j, -, j2, j3, j4, rfl, rfl⟩ := hC
    unfold f_X9_readsMessage_L407
    rw [g32, if_pos (nI_le h (by omega)), h58 0 (by omega)]
    have hj : j = 0 ∨ j = 1 := by omega
    rcases hj with rfl | rfl
    · rw [if_neg (fun c => j4 (nI_small (hx 0 (by omega)) (by omega) c)), g33, Nat.zero_mul, Nat.add_zero]
      exact fail_r
    · have hk2 : k = 2 := by
        unfold nSN at j2
        by_cases q : k = 2
        · exact q
        · rw [if_neg q] at j2
          omega
      rw [if_pos (by rw [j3 0 (by omega) (by omega)]), g28, if_pos (by rw [hk2]; rfl), h58 1 j2, if_neg (fun c => j4 (nI_small (hx 1 j2) (by omega) c)), g33, show sbN k = 4 by unfold sbN; rw [if_neg (by omega)], show nI sa + (4 : Int32) = nI (sa + 1 * 4) from nI_add sa 4]
      exact fail_r
  · unfold f_X9_readsMessage_L407
    rw [g32, if_pos (nI_le h (by omega)), h58 0 (by omega), if_pos (by rw [hC 0 (by omega) (by omega)]), g28]
    by_cases hk2 : k = 2
    · have h2 : 1 < nSN k := by unfold nSN; rw [if_pos hk2]; omega
      rw [if_pos (by rw [hk2]; rfl), h58 1 h2, if_pos (by rw [hC 1 (by omega) h2])]
    · rw [if_neg (show ¬ nI k = (2 : Int32) from fun c => hk2 (nI_small (b := 2) (by omega) (by omega) c))]
theorem endM_s {fu k lg w N p P b sa m0 m1 a5 : Nat} {f x : Nat → Nat} {L ms : List Nat} {M : St} (hk : k < 3) (hl : lg ≤ 12) (hx : ∀ e, e < nSN k → x e < 2 ^ 31) (hlen : L.length = p + P) (hl4 : L.length ≤ 4000) (hby : ∀ b ∈ L, b < 256) (hb : b ≤ tuN k P) (h : MdI M k lg w N p P f L N x m0 m1 a5 ms) (g33 : M 43 33 = nI sa) :
    ∃ M', (∀ r q, PeF L p P (wdN k * b) r q → f_X9_readsMessage_L305 fu (nI b) (nI (lsN k lg)) M = some (0, fauM M' r q)) ∧ (((0 < wdN k * b % 8 → L.getD (p + wdN k * b / 8) 0 % 2 ^ (8 - wdN k * b % 8) = 0) ∧ P ≤ (wdN k * b + 7) / 8) → (∀ r q, CsF k lg x sa 0 r q → f_X9_readsMessage_L305 fu (nI b) (nI (lsN k lg)) M = some (0, fauM M' r q)) ∧ ((∀ j, 0 ≤ j → j < nSN k → x j = lsN k lg) → f_X9_readsMessage_L305 fu (nI b) (nI (lsN k lg)) M = some (1, M'))) ∧ Fr [59] M M' ∧ M' 59 2 = nI N ∧ M' 59 3 = nI b ∧ M' 59 4 = nI P ∧ (∀ j, j ≠ 2 → j ≠ 3 → j ≠ 4 → M' 59 j = M 59 j) := by
  obtain ⟨⟨g28, g29, g30, g31, g32⟩, hT, hLM, hR, h58, ⟨t0, t1, t5⟩, hm, h61⟩ := h
  obtain ⟨M', e1⟩ : ∃ z, z = puS (puS (puS M 59 2 (nI N)) 59 3 (nI b)) 59 4 (nI P) := ⟨_, rfl⟩
  have F : Fr [59] M M' := by rw [e1]; exact ((Fr.rf.pu (by simp)).pu (by simp)).pu (by simp)
  have k28 : M' 43 28 = nI k := by rw [F 43 (by decide)]; exact g28
  have k31 : M' 43 31 = nI p := by rw [F 43 (by decide)]; exact g31
  have k32 : M' 43 32 = nI P := by rw [F 43 (by decide)]; exact g32
  have htu : tuN k P ≤ 32000 := by unfold tuN; split <;> omega
  have hl407 : ∀ v, v < 100000 → _ := fun v hv => l407_s (fu := fu) (lg := lg) (p := p) (P := P) (v := v) (sa := sa) (M := M') hk hl hx (by omega) hv k28 k31 k32 (by rw [F 43 (by decide)]; exact g33) (fun e he => by rw [F 58 (by decide)]; exact h58 e he)
  have hgo : ∀ R, (if nI k = 0 then f_X9_readsMessage_L347 fu (nI b) (nI (lsN k lg)) (nI (b / 8)) M' else f_X9_readsMessage_L347 fu (nI b) (nI (lsN k lg)) (nI b) M') = R → f_X9_readsMessage_L305 fu (nI b) (nI (lsN k lg)) M = R := by
    intro R hR'
    unfold f_X9_readsMessage_L305
    rw [g30, pin_eq, pin_eq, show puS (puS M 59 2 (nI N)) 59 3 (nI b) 43 32 = nI P by rw [puS_n (by decide), puS_n (by decide)]; exact g32, pin_eq, ← e1, k28, nI_div8 (by omega)]
    exact hR'
  refine ⟨M', ?_, ?_, F, ?_, ?_, ?_, fun j j1 j2 j3 => by rw [e1, puS_s, upd_n j3, puS_s, upd_n j2, puS_s, upd_n j1]⟩
  rotate_left 2
  · rw [e1, puS_s, upd_n (by decide), puS_s, upd_n (by decide), puS_s, upd_s]
  · rw [e1, puS_s, upd_n (by decide), puS_s, upd_s]
  · rw [e1, puS_s, upd_s]
  all_goals unfold tuN at hb
  all_goals by_cases q0 : k = 0
  · have w1 : wdN k = 1 := by unfold wdN; rw [if_pos q0]
    rw [if_pos q0] at hb
    rw [w1, Nat.one_mul]
    intro r q hP
    refine hgo _ ?_
    rw [if_pos (by rw [q0]; rfl)]
    unfold f_X9_readsMessage_L347
    rw [k28, if_pos (by rw [q0]; rfl), nI_mod8 (by omega)]
    by_cases q8 : b % 8 = 0
    · rw [if_pos (by rw [q8]; decide)]
      rcases hP with ⟨c, -⟩ | ⟨-, c2, rfl, rfl⟩
      · omega
      · rw [(hl407 (b / 8) (by omega)).1 (by omega), show (b + 7) / 8 = b / 8 by omega]
    · have hb8 : L.getD (p + b / 8) 0 < 256 := getD_lt hby (by omega)
      rw [if_neg (by rw [show (0 : Int32) = nI 0 from rfl, nI_leI (by omega) (by omega)]; omega), k31, nI_add, if_neg (nI_in (by omega) (by omega)), nI_clamp (by omega), F 44 (by decide), hR.2 _ (by omega), show (8 : Int32) - nI (b % 8) = nI (8 - b % 8) from pk_sub (a := 8) (by omega), mask_s (by omega) (by omega)]
      have hml : L.getD (p + b / 8) 0 % 2 ^ (8 - b % 8) ≤ L.getD (p + b / 8) 0 := Nat.mod_le _ _
      rcases hP with ⟨-, c2, rfl, rfl⟩ | ⟨c1, c2, rfl, rfl⟩
      · rw [if_neg (nI_ne0 (by omega) (by omega))]
        exact fail_r
      · rw [c1 (by omega), if_pos (show nI 0 = (0 : Int32) from rfl), nI_1, pin_eq, (hl407 (b / 8 + 1) (by omega)).1 (by omega), show (b + 7) / 8 = b / 8 + 1 by omega]
  · have w1 : wdN k = 8 := by unfold wdN; rw [if_neg q0]
    rw [if_neg q0] at hb
    rw [w1]
    intro r q hP
    refine hgo _ ?_
    rw [if_neg (nI_ne0 (by omega) (by omega))]
    unfold f_X9_readsMessage_L347
    rw [k28, if_neg (nI_ne0 (by omega) (by omega))]
    rcases hP with ⟨c, -⟩ | ⟨-, c2, rfl, rfl⟩
    · omega
    · rw [(hl407 b (by omega)).1 (by omega), show (8 * b + 7) / 8 = b by omega]
  · have w1 : wdN k = 1 := by unfold wdN; rw [if_pos q0]
    rw [if_pos q0] at hb
    rw [w1, Nat.one_mul]
    rintro ⟨c1, c2⟩
    have hgo2 : ∀ R, f_X9_readsMessage_L407 fu (nI (lsN k lg)) (nI ((b + 7) / 8)) M' = R → f_X9_readsMessage_L305 fu (nI b) (nI (lsN k lg)) M = R := by
      intro R hR'
      refine hgo _ ?_
      rw [if_pos (by rw [q0]; rfl)]
      unfold f_X9_readsMessage_L347
      rw [k28, if_pos (by rw [q0]; rfl), nI_mod8 (by omega)]
      by_cases q8 : b % 8 = 0
      · rw [if_pos (by rw [q8]; decide), show b / 8 = (b + 7) / 8 by omega]
        exact hR'
      · have hb8 : L.getD (p + b / 8) 0 < 256 := getD_lt hby (by omega)
        rw [if_neg (by rw [show (0 : Int32) = nI 0 from rfl, nI_leI (by omega) (by omega)]; omega), k31, nI_add, if_neg (nI_in (by omega) (by omega)), nI_clamp (by omega), F 44 (by decide), hR.2 _ (by omega), show (8 : Int32) - nI (b % 8) = nI (8 - b % 8) from pk_sub (a := 8) (by omega), mask_s (by omega) (by omega), c1 (by omega), if_pos (show nI 0 = (0 : Int32) from rfl), nI_1, pin_eq, show b / 8 + 1 = (b + 7) / 8 by omega]
        exact hR'
    exact ⟨fun r q hC => hgo2 _ ((hl407 _ (by omega)).2.1 c2 r q hC), fun hC => hgo2 _ ((hl407 _ (by omega)).2.2 c2 hC)⟩
  · have w1 : wdN k = 8 := by unfold wdN; rw [if_neg q0]
    rw [if_neg q0] at hb
    rw [w1]
    rintro ⟨c1, c2⟩
    have hgo2 : ∀ R, f_X9_readsMessage_L407 fu (nI (lsN k lg)) (nI b) M' = R → f_X9_readsMessage_L305 fu (nI b) (nI (lsN k lg)) M = R := by
      intro R hR'
      refine hgo _ ?_
      rw [if_neg (nI_ne0 (by omega) (by omega))]
      unfold f_X9_readsMessage_L347
      rw [k28, if_neg (nI_ne0 (by omega) (by omega))]
      exact hR'
    exact ⟨fun r q hC => hgo2 _ ((hl407 _ (by omega)).2.1 (by omega) r q hC), fun hC => hgo2 _ ((hl407 _ (by omega)).2.2 (by omega) hC)⟩
