/-! unpack: the reference's reading, whole -/
def FrR (M M' : St) : Prop := Fr [43, 46, 47, 48, 49, 50, 51, 52, 54, 55, 58, 59, 61] M M' ∧ (∀ j, j < 13 ∨ j = 18 ∨ j = 19 → M' 43 j = M 43 j) ∧ (∀ t, t < 6 → M' 46 t = M 46 t) ∧ (∀ j, j < 1536 → M' 47 j = M 47 j ∧ M' 48 j = M 48 j) ∧ (∀ j, j < 18 → M' 49 j = M 49 j) ∧ ∀ c, c = 50 ∨ c = 51 ∨ c = 52 → ∀ j, j < 73728 → M' c j = M c j
theorem FrR.tr {M M1 M2 : St} (h1 : FrR M M1) (h2 : FrR M1 M2) : FrR M M2 := ⟨h1.1.tr h2.1, fun j hj => (h2.2.1 j hj).trans (h1.2.1 j hj), fun j hj => (h2.2.2.1 j hj).trans (h1.2.2.1 j hj), fun j hj => ⟨(h2.2.2.2.1 j hj).1.trans (h1.2.2.2.1 j hj).1, (h2.2.2.2.1 j hj).2.trans (h1.2.2.2.1 j hj).2⟩, fun j hj => (h2.2.2.2.2.1 j hj).trans (h1.2.2.2.2.1 j hj), fun c hc j hj => (h2.2.2.2.2.2 c hc j hj).trans (h1.2.2.2.2.2 c hc j hj)⟩
theorem FrR.of43 {M M' : St} (h : Fr [43, 58, 59, 61] M M') (h43 : ∀ j, j < 13 ∨ j = 18 ∨ j = 19 → M' 43 j = M 43 j) : FrR M M' := ⟨h.mono (by simp), h43, fun t _ => by rw [h 46 (by decide)], fun j _ => ⟨by rw [h 47 (by decide)], by rw [h 48 (by decide)]⟩, fun j _ => by rw [h 49 (by decide)], fun c hc j _ => by
  rcases hc with rfl | rfl | rfl
  · rw [h 50 (by decide)]
  · rw [h 51 (by decide)]
  · rw [h 52 (by decide)]⟩
theorem FrR.fau {M M' : St} {r q : Nat} (h : FrR M M') : FrR M (fauM M' r q) := h.tr (FrR.of43 ((Fr.rf.pu (by simp)).pu (by simp)) (fun j hj => by
  unfold fauM
  rw [puS_s, upd_n (by omega), puS_s, upd_n (by omega)]))
theorem FrR.n43 {js : List Nat} {M M' : St} (h : N43 js M M') (hj : ∀ j ∈ js, 20 ≤ j) : FrR M M' := FrR.of43 (h.1.mono (by simp)) (fun j hj' => h.2 j (fun q => by have := hj j q; omega))
theorem FrR.p46 {M : St} {v : Int32} : FrR M (puS M 46 6 v) := ⟨Fr.rf.pu (by simp), fun j _ => by rw [puS_n (by decide)], fun t ht => by rw [puS_s, upd_n (by omega)], fun j _ => ⟨by rw [puS_n (by decide)], by rw [puS_n (by decide)]⟩, fun j _ => by rw [puS_n (by decide)], fun c hc j _ => by
  rcases hc with rfl | rfl | rfl <;> rw [puS_n (by decide)]⟩
theorem FrR.g47 {M M' : St} (h : G47 M M') : FrR M M' := ⟨h.1.mono (by simp), fun j hj => h.2.1 j (by omega), fun t _ => by rw [h.1 46 (by decide)], fun j hj => ⟨h.2.2 j hj, by rw [h.1 48 (by decide)]⟩, fun j _ => by rw [h.1 49 (by decide)], fun c hc j _ => by
  rcases hc with rfl | rfl | rfl
  · rw [h.1 50 (by decide)]
  · rw [h.1 51 (by decide)]
  · rw [h.1 52 (by decide)]⟩
theorem FrR.h58 {M M' : St} (h : H58 M M') : FrR M M' := FrR.of43 (h.1.mono (by simp)) (fun j hj => h.2 j (by omega))
theorem FrR.row {M M' : St} {L : List Nat} (h : FrR M M') (hR : RowM M 44 1 L) : RowM M' 44 1 L := hR.of (h.2.1 1 (by omega)) (h.1 44 (by decide))
/-- a fault in the reference -/
def MF (fu : Nat) (M : St) (r q : Nat) : Prop := ∃ M', f_X9_reads fu M = some (0, fauM M' r q) ∧ FrR M M'
theorem mdl_1 {fu r q : Nat} {L : List Nat} {M : St} (hfu : 20000 ≤ fu) (hl4 : L.length ≤ 4000) (hby : ∀ b ∈ L, b < 256) (hR : RowM M 44 1 L) (hF : HdF L r q) : MF fu M r q := by
  obtain ⟨M', a1, a2⟩ := (headM_s (fu := fu) hfu hl4 hby hR).1 r q hF
  exact ⟨M', a1, FrR.n43 a2 (by simp)⟩
theorem mdl_2 {fu k w lg r q : Nat} {g : Nat → Nat} {L : List Nat} {M : St} (hfu : 20000 ≤ fu) (hl4 : L.length ≤ 4000) (hby : ∀ b ∈ L, b < 256) (hR : RowM M 44 1 L) (hK : HdK L k w lg) (hS : shR L lg = (r, q, g)) : (r ≠ 0 → MF fu M r q) ∧ (r = 0 → ∃ M', f_X9_reads fu M = rdK2 fu M' ∧ M' 43 27 = nI q ∧ M' 43 28 = nI k ∧ M' 43 29 = nI w ∧ M' 46 6 = nI lg ∧ ShM M' 6 g ∧ (∀ j, j ≠ 27 → j ≠ 28 → j ≠ 29 → M' 43 j = M 43 j) ∧ FrR M M') := by
  obtain ⟨M1, a1, a2, a3, a4, a5⟩ := (headM_s (fu := fu) hfu hl4 hby hR).2 k w lg hK
  have F1 : FrR M (puS M1 46 6 (nI lg)) := (FrR.n43 a5 (by simp)).tr FrR.p46
  obtain ⟨M2, b1, b2, b3⟩ := sharesM_s (fu := fu) (M := puS M1 46 6 (nI lg)) hfu hK.2.2.2.2.2 hl4 hby (by rw [puS_n (by decide)]; exact a2) (F1.row hR) (by rw [puS_s, upd_s]) hS
  refine ⟨fun h => ⟨M2, ?_, F1.tr (FrR.g47 b1)⟩, fun h => ⟨M2, ?_, (b3 h).2.1, ?_, ?_, ?_, (b3 h).2.2, fun j h1 h2 h3 => ?_, F1.tr (FrR.g47 b1)⟩⟩
  · rw [a1, rdK1_eq]
    exact e_bd (b2 h) (by rw [if_pos rfl])
  · rw [a1, rdK1_eq]
    exact e_bd (b3 h).1 (by rw [if_neg (by decide)])
  · rw [b1.2.1 28 (by decide), puS_n (by decide)]; exact a3
  · rw [b1.2.1 29 (by decide), puS_n (by decide)]; exact a4
  · rw [b1.1 46 (by decide), puS_s, upd_s]
  · rw [b1.2.1 j h1, puS_n (by decide)]; exact a5.2 j (by simp; omega)
theorem mdl_3 {fu k w lg a : Nat} {g : Nat → Nat} {L : List Nat} {M : St} (hfu : 20000 ≤ fu) (hl4 : L.length ≤ 4000) (hby : ∀ b ∈ L, b < 256) (hR : RowM M 44 1 L) (hK : HdK L k w lg) (hS : shR L lg = (0, a, g)) (ha : a ≤ 772) : (∀ r q, SzF L a r q → MF fu M r q) ∧ (a + 4 ≤ L.length → numN L a 2 ≤ 1400 → (∀ r q, StF L k lg (a + 4) 0 r q → MF fu M r q) ∧ (StK L k lg (a + 4) 0 → (∀ r q, PlF L (a + 4 + nSN k * sbN k) (numN L (a + 2) 2) r q → MF fu M r q))) := by
  obtain ⟨M1, a1, a2, a3, a4, a5, a6, a7, a8⟩ := (mdl_2 (fu := fu) hfu hl4 hby hR hK hS).2 rfl
  obtain ⟨b1, b2⟩ := sizesM_s (fu := fu) hfu (show a ≤ 10000 by omega) hl4 hby a2 (a8.row hR)
  refine ⟨fun r q hF => ?_, fun h4 hN => ?_⟩
  · obtain ⟨M', c1, c2⟩ := b1 r q hF
    exact ⟨M', a1.trans c1, a8.tr (FrR.n43 c2 (by simp))⟩
  · obtain ⟨M2, c1, c2, c3, c4, c5, c6⟩ := b2 h4 hN
    have F2 : FrR M M2 := a8.tr (FrR.n43 c6 (by simp))
    have hk := hK.2.2.1.1
    have hg := num2_lt hby (a := a + 2) (by omega)
    have hn := nSN_bd k
    have hsb := sbN_bd k
    have hns : nSN k * sbN k ≤ 8 := Nat.le_trans (Nat.mul_le_mul hn.2 hsb.2) (by decide)
    obtain ⟨d1, d2⟩ := stM_loop (fu := fu) (lg := lg) (a := a + 4) hfu hk hK.2.2.2.2.2 (by omega) hl4 hby (nSN k) 0 fu M2 (by omega) (by omega) (by rw [Nat.zero_mul, Nat.add_zero]; exact c2) (by rw [c6.2 28 (by simp)]; exact a3) (by rw [c6.1 46 (by decide)]; exact a5) (F2.row hR) (fun j hj => absurd hj (by omega))
    refine ⟨fun r q hF => ?_, fun hSt r q hF => ?_⟩
    · obtain ⟨M', e1, e2⟩ := d1 r q hF
      exact ⟨M', a1.trans (c1.trans e1), F2.tr (FrR.h58 e2)⟩
    · obtain ⟨M3, e1, e2, e3, e4⟩ := d2 hSt
      have F3 : FrR M M3 := F2.tr (FrR.h58 e4)
      have e5 := (payM_s (fu := fu) (P := numN L (a + 2) 2) (by omega) hg hl4 e2 (by rw [e4.2 32 (by decide)]; exact c4) (F3.row hR)).1 r q hF
      refine ⟨_, a1.trans (c1.trans (e1.trans e5)), F3.tr (FrR.of43 (Fr.rf.pu (by simp)) (fun j hj => by rw [puS_s, upd_n (by omega)]))⟩
theorem mdl_4 {fu k w lg a : Nat} {g : Nat → Nat} {L : List Nat} {M : St} (hfu : 20000 ≤ fu) (hl4 : L.length ≤ 4000) (hby : ∀ b ∈ L, b < 256) (hR : RowM M 44 1 L) (hK : HdK L k w lg) (hS : shR L lg = (0, a, g)) (hs : SumOK g lg) (ha : a ≤ 772) (h4 : a + 4 ≤ L.length) (hN : numN L a 2 ≤ 1400) (hSt : StK L k lg (a + 4) 0) (hlen : L.length = a + 4 + nSN k * sbN k + numN L (a + 2) 2) : ∃ M', f_X9_reads fu M = (bnd (f_X9_readsMessage fu M') fun r56 S57 => if (r56 = 0 ∨ r56 = 1) then some (r56, S57) else none) ∧ MdH M' k lg w (numN L a 2) (a + 4 + nSN k * sbN k) (numN L (a + 2) 2) (a + 4) g L (vN k lg L (a + 4)) ∧ M' 43 16 = M 43 16 ∧ M' 43 17 = M 43 17 ∧ FrR M M' := by
  obtain ⟨M1, a1, a2, a3, a4, a5, a6, a7, a8⟩ := (mdl_2 (fu := fu) hfu hl4 hby hR hK hS).2 rfl
  obtain ⟨M2, c1, c2, c3, c4, c5, c6⟩ := (sizesM_s (fu := fu) hfu (show a ≤ 10000 by omega) hl4 hby a2 (a8.row hR)).2 h4 hN
  have F2 : FrR M M2 := a8.tr (FrR.n43 c6 (by simp))
  have hk := hK.2.2.1.1
  have hw := hK.2.2.1.2.1
  have hg := num2_lt hby (a := a + 2) (by omega)
  have hn := nSN_bd k
  have hsb := sbN_bd k
  have hns : nSN k * sbN k ≤ 8 := Nat.le_trans (Nat.mul_le_mul hn.2 hsb.2) (by decide)
  obtain ⟨M3, e1, e2, e3, e4⟩ := (stM_loop (fu := fu) (lg := lg) (a := a + 4) hfu hk hK.2.2.2.2.2 (by omega) hl4 hby (nSN k) 0 fu M2 (by omega) (by omega) (by rw [Nat.zero_mul, Nat.add_zero]; exact c2) (by rw [c6.2 28 (by simp)]; exact a3) (by rw [c6.1 46 (by decide)]; exact a5) (F2.row hR) (fun j hj => absurd hj (by omega))).2 hSt
  have F3 : FrR M M3 := F2.tr (FrR.h58 e4)
  have e5 := (payM_s (fu := fu) (P := numN L (a + 2) 2) (by omega) hg hl4 e2 (by rw [e4.2 32 (by decide)]; exact c4) (F3.row hR)).2 hlen
  obtain ⟨M4, e6⟩ : ∃ z, z = puS M3 43 31 (nI (a + 4 + nSN k * sbN k)) := ⟨_, rfl⟩
  rw [← e6] at e5
  have F4 : FrR M M4 := by rw [e6]; exact F3.tr (FrR.of43 (Fr.rf.pu (by simp)) (fun j hj => by rw [puS_s, upd_n (by omega)]))
  have j4 : ∀ c, c ≠ 43 → c ≠ 58 → M4 c = M1 c := fun c h1 h2 => by rw [e6, puS_n h1, e4.1 c (by simp; omega), c6.1 c (by simp; omega)]
  have hSh : ShM M4 6 g := fun s hs => by rw [j4 47 (by decide) (by decide)]; exact a6 s hs
  obtain ⟨M5, b1, b2, b3, b4, b5, b6⟩ := begin_s (fu := fu) (t := 6) hfu (by omega) hSh
  have F5 : FrR M M5 := F4.tr ⟨b6.mono (by simp), fun j _ => by rw [b6 43 (by decide)], fun t _ => by rw [b6 46 (by decide)], fun j hj => ⟨by rw [b6 47 (by decide)], b3 j (by omega)⟩, fun j hj => b5 j (by omega), fun c hc j _ => by
    rcases hc with rfl | rfl | rfl
    · rw [b6 50 (by decide)]
    · rw [b6 51 (by decide)]
    · rw [b6 52 (by decide)]⟩
  have hT5 : TabM M5 6 lg g := ⟨by rw [b6 46 (by decide), j4 46 (by decide) (by decide)]; exact a5, fun s hs => by rw [b6 47 (by decide)]; exact hSh s hs, b2⟩
  obtain ⟨M6, d1, d2, d3, d4, d5, d6⟩ := layM_s (fu := fu) (t := 6) (w := w) hfu (by omega) hw hs hT5 (fun hn => absurd (b4 w hw) hn)
  have F6 : FrR M M6 := F5.tr ⟨d3.mono (by simp), fun j hj => d4 j (by omega), fun t _ => by rw [d3 46 (by decide)], fun j hj => ⟨by rw [d3 47 (by decide)], by rw [d3 48 (by decide)]⟩, fun j hj => d6 j (by omega), fun c hc j hj => d5 c hc j (by omega)⟩
  have q43 : ∀ j, j ≠ 13 → M6 43 j = M4 43 j := fun j hj => by rw [d4 j hj, b6 43 (by decide)]
  have q2 : ∀ j, j ≠ 13 → j ≠ 27 → j ≠ 31 → M6 43 j = M2 43 j := fun j h1 h2 h3 => by rw [q43 j h1, e6, puS_s, upd_n h3, e4.2 j h2]
  refine ⟨M6, ?_, ⟨⟨?_, ?_, ?_, ?_, ?_, ?_⟩, hT5.of (d3 46 (by decide)) (d3 47 (by decide)) (d3 48 (by decide)), d2, F6.row hR, fun e he => ?_⟩, ?_, ?_, F6⟩
  · rw [a1, c1, e1, e5]
    refine e_bd b1 ?_
    rw [show M5 43 29 = nI w by rw [b6 43 (by decide), e6, puS_s, upd_n (by decide), e4.2 29 (by decide), c6.2 29 (by simp)]; exact a4]
    exact e_bd d1 rfl
  · rw [q2 28 (by decide) (by decide) (by decide), c6.2 28 (by simp)]; exact a3
  · rw [q2 29 (by decide) (by decide) (by decide), c6.2 29 (by simp)]; exact a4
  · rw [q2 30 (by decide) (by decide) (by decide)]; exact c3
  · rw [q43 31 (by decide), e6, puS_s, upd_s]
  · rw [q2 32 (by decide) (by decide) (by decide)]; exact c4
  · rw [q2 33 (by decide) (by decide) (by decide)]; exact c5
  · rw [d3 58 (by decide), b6 58 (by decide), e6, puS_n (by decide)]; exact e3 e he
  · rw [q2 16 (by decide) (by decide) (by decide), c6.2 16 (by simp)]; exact a7 16 (by decide) (by decide) (by decide)
  · rw [q2 17 (by decide) (by decide) (by decide), c6.2 17 (by simp)]; exact a7 17 (by decide) (by decide) (by decide)
