/-! unpack: the payload's place, and both ends, in the class -/
def PlF (L : List Nat) (a P r q : Nat) : Prop := (L.length < a + P ∧ r = 1 ∧ q = L.length) ∨ (a + P < L.length ∧ r = 8 ∧ q = a + P)
def plT (S11 : St) : Option (Int32 × St) :=
  bnd (f_X1_byteCount  S11) fun r13 S14 =>
  if ((S11 7 8) + (S11 7 14)) = r13 then
    f_X1_findPayload_L65    (1 : Int32) S14
  else
    f_X1_findPayload_L65    (0 : Int32) S14
theorem pl35_eq {t : Int32} {S : St} : f_X1_findPayload_L35 t S = bnd (f_X1_byteCount S) fun r7 S8 => bnd (f_X1_demand t (1 : Int32) r7 S8) fun _ S11 => plT S11 := rfl
theorem plT_d {r q : Nat} {L : List Nat} {S : St} (h : Dd S L r q) : plT S = some (0, S) := by
  have e : ∀ t, f_X1_findPayload_L65 t S = some (0, S) := fun t => by
    unfold f_X1_findPayload_L65
    exact e_bd (demD h _ _ _) rfl
  unfold plT
  refine e_bd (bc_s h.1 h.2.1) ?_
  rw [e, e, ite_self]
theorem payl_d {r q : Nat} {L : List Nat} {S : St} (h : Dd S L r q) : ∃ S', f_X1_findPayload S = some (0, S') ∧ Dd S' L r q ∧ F7 [13, 15] [] S S' := by
  have f : F7 [13, 15] [] S (puS (puS S 7 13 (S 7 8)) 7 15 0) := (F7.rf.p7 (by simp)).p7 (by simp)
  have d := h.of f (by simp) (by simp) (by simp)
  refine ⟨_, ?_, d, f⟩
  unfold f_X1_findPayload
  rw [pin_eq, pin_eq]
  refine e_bd (bc_s d.1 d.2.1) ?_
  have e : ∀ t, f_X1_findPayload_L35 t (puS (puS S 7 13 (S 7 8)) 7 15 0) = some (0, puS (puS S 7 13 (S 7 8)) 7 15 0) := fun t => by
    rw [pl35_eq]
    refine e_bd (bc_s d.1 d.2.1) ?_
    exact e_bd (demD d _ _ _) (plT_d d)
  rw [e, e, ite_self]
theorem payl_s {a P : Nat} {L : List Nat} {S : St} (h : Lv S L a) (ha : a ≤ 10000) (hP : P < 65536) (h14 : S 7 14 = nI P) : (∃ r q S', PlF L a P r q ∧ f_X1_findPayload S = some (0, S') ∧ Dd S' L r q ∧ F7 [6, 7, 13, 15] [] S S') ∨ (L.length = a + P ∧ ∃ S', f_X1_findPayload S = some (0, S') ∧ Lv S' L a ∧ S' 7 13 = nI a ∧ S' 7 15 = 0 ∧ F7 [6, 7, 13, 15] [] S S') := by
  have hl4 := h.1.2.1
  obtain ⟨S1, e1⟩ : ∃ y, y = puS (puS S 7 13 (nI a)) 7 15 0 := ⟨_, rfl⟩
  have f : F7 [13, 15] [] S S1 := by rw [e1]; exact (F7.rf.p7 (by simp)).p7 (by simp)
  have d := h.of f (by simp) (by simp) (by simp) (a' := a) (by rw [f.2 8 (by simp)]; exact h.2.2.2.2)
  have k14 : S1 7 14 = nI P := by rw [f.2 14 (by simp)]; exact h14
  have hgo : ∀ R, (if nI L.length < nI (a + P) then f_X1_findPayload_L35 (0 : Int32) S1 else f_X1_findPayload_L35 (1 : Int32) S1) = R → f_X1_findPayload S = R := by
    intro R hR
    unfold f_X1_findPayload
    rw [pin_eq, pin_eq, h.2.2.2.2, ← e1]
    refine e_bd (bc_s d.1 d.2.1) ?_
    rw [d.2.2.2.2, k14, nI_add]
    exact hR
  by_cases q1 : L.length < a + P
  · left
    obtain ⟨S2, b1, b2, b3⟩ := dem0 d (r := 1) (q := L.length) (by omega) (by omega)
    refine ⟨1, L.length, S2, Or.inl ⟨q1, rfl, rfl⟩, hgo _ ?_, b2, (f.mono (by simp) (by simp)).tr (b3.mono (by simp) (by simp))⟩
    rw [if_pos (by rw [nI_ltI (by omega) (by omega)]; exact q1), pl35_eq]
    refine e_bd (bc_s d.1 d.2.1) ?_
    exact e_bd b1 (plT_d b2)
  · have hgo2 : ∀ R, (if nI (a + P) = nI L.length then f_X1_findPayload_L65 (1 : Int32) S1 else f_X1_findPayload_L65 (0 : Int32) S1) = R → f_X1_findPayload S = R := fun R hR => hgo R (by
      rw [if_neg (by rw [nI_ltI (by omega) (by omega)]; exact q1), pl35_eq]
      refine e_bd (bc_s d.1 d.2.1) ?_
      refine e_bd (dem1 (by decide)) ?_
      unfold plT
      refine e_bd (bc_s d.1 d.2.1) ?_
      rw [d.2.2.2.2, k14, nI_add]
      exact hR)
    by_cases q2 : a + P = L.length
    · right
      refine ⟨q2.symm, S1, hgo2 _ ?_, d, by rw [e1, puS_s, upd_n (by decide), puS_s, upd_s], by rw [e1, puS_s, upd_s], f.mono (by simp) (by simp)⟩
      rw [if_pos (by rw [q2])]
      unfold f_X1_findPayload_L65
      exact e_bd (dem1 (by decide)) rfl
    · left
      obtain ⟨S2, b1, b2, b3⟩ := dem0 d (r := 8) (q := a + P) (by omega) (by omega)
      refine ⟨8, a + P, S2, Or.inr ⟨by omega, rfl, rfl⟩, hgo2 _ ?_, b2, (f.mono (by simp) (by simp)).tr (b3.mono (by simp) (by simp))⟩
      rw [if_neg (fun c => q2 (nI_small (by omega) (by omega) c))]
      unfold f_X1_findPayload_L65
      rw [d.2.2.2.2, k14, nI_add]
      exact e_bd b1 rfl
/-! the payload's end -/
theorem nI_div8 {B : Nat} (h : B < 2 ^ 31) : nI B / (8 : Int32) = nI (B / 8) := pk_div h (d := 8) (by decide) (by decide)
theorem nI_mod8 {B : Nat} (h : B < 2 ^ 31) : nI B - nI B / (8 : Int32) * (8 : Int32) = nI (B % 8) := by
  rw [nI_div8 h, show nI (B / 8) * (8 : Int32) = nI (B / 8 * 8) from pk_mul _ _, pk_sub (by omega)]
  congr 1
  omega
theorem low_bits : ∀ b, b < 256 → ∀ x, x < 8 → (((nI b <<< (nI x &&& 31)) &&& (255 : Int32) = 0 ↔ b % 2 ^ (8 - x) = 0)) := by decide +kernel
def PeF (L : List Nat) (p P B r q : Nat) : Prop := (0 < B % 8 ∧ L.getD (p + B / 8) 0 % 2 ^ (8 - B % 8) ≠ 0 ∧ r = 6 ∧ q = p + B / 8) ∨ ((0 < B % 8 → L.getD (p + B / 8) 0 % 2 ^ (8 - B % 8) = 0) ∧ (B + 7) / 8 < P ∧ r = 6 ∧ q = p + (B + 7) / 8)
theorem pe61_d {r q : Nat} {L : List Nat} {S : St} (h : Dd S L r q) (v : Int32) : f_X1_checkPayloadEnd_L61 v S = some (0, S) := by
  have e : ∀ t, f_X1_checkPayloadEnd_L75 v t S = some (0, S) := fun t => by
    unfold f_X1_checkPayloadEnd_L75
    exact e_bd (demD h _ _ _) rfl
  unfold f_X1_checkPayloadEnd_L61
  rw [e, e, ite_self]
theorem pend_d {r q : Nat} {L : List Nat} {S : St} (h : Dd S L r q) : f_X1_checkPayloadEnd S = some (0, S) := by
  have e : ∀ v t, f_X1_checkPayloadEnd_L47 v t S = some (0, S) := fun v t => by
    unfold f_X1_checkPayloadEnd_L47
    refine e_bd (demD h _ _ _) ?_
    rw [pin_eq]
    exact pe61_d h _
  unfold f_X1_checkPayloadEnd
  rw [pin_eq, pin_eq, pe61_d h]
  have e2 : (bnd (f_X1_byteAt (S 7 13 + S 7 15 / 8) S) fun r8 S9 => pin (r8 <<< (S 7 15 - S 7 15 / 8 * 8 &&& 31) &&& 255) fun x11 => if x11 = 0 then f_X1_checkPayloadEnd_L47 (S 7 15 / 8) 1 S9 else f_X1_checkPayloadEnd_L47 (S 7 15 / 8) 0 S9) = some (0, S) := by
    refine e_bd (ba_s h.1 h.2.1 _) ?_
    rw [pin_eq, e, e, ite_self]
  rw [e2, ite_self]
theorem pe61_s {a p P x : Nat} {L : List Nat} {S : St} (h : Lv S L a) (hx : x ≤ 100000) (hP : P < 65536) (hp : p ≤ 10000) (h13 : S 7 13 = nI p) (h14 : S 7 14 = nI P) : (x < P ∧ ∃ S', f_X1_checkPayloadEnd_L61 (nI x) S = some (0, S') ∧ Dd S' L 6 (p + x) ∧ F7 [6, 7] [] S S') ∨ (P ≤ x ∧ f_X1_checkPayloadEnd_L61 (nI x) S = some (0, S)) := by
  by_cases q : x < P
  · left
    obtain ⟨S2, b1, b2, b3⟩ := dem0 h (r := 6) (q := p + x) (by omega) (by omega)
    refine ⟨q, S2, ?_, b2, b3⟩
    unfold f_X1_checkPayloadEnd_L61
    rw [h14, if_pos (by rw [nI_ltI (by omega) (by omega)]; exact q)]
    unfold f_X1_checkPayloadEnd_L75
    rw [h13, nI_add]
    exact e_bd b1 rfl
  · right
    refine ⟨by omega, ?_⟩
    unfold f_X1_checkPayloadEnd_L61
    rw [h14, if_neg (by rw [nI_ltI (by omega) (by omega)]; exact q)]
    unfold f_X1_checkPayloadEnd_L75
    exact e_bd (dem1 (by decide)) rfl
theorem pend_s {a p P B : Nat} {L : List Nat} {S : St} (h : Lv S L a) (hp : p ≤ 10000) (hP : P < 65536) (hB : B ≤ 8 * P) (hlen : L.length = p + P) (h13 : S 7 13 = nI p) (h14 : S 7 14 = nI P) (h15 : S 7 15 = nI B) : (∃ r q S', PeF L p P B r q ∧ f_X1_checkPayloadEnd S = some (0, S') ∧ Dd S' L r q ∧ F7 [6, 7] [] S S') ∨ ((0 < B % 8 → L.getD (p + B / 8) 0 % 2 ^ (8 - B % 8) = 0) ∧ P ≤ (B + 7) / 8 ∧ f_X1_checkPayloadEnd S = some (0, S)) := by
  have hl4 := h.1.2.1
  have hgo : ∀ R, (if nI (B % 8) ≤ 0 then f_X1_checkPayloadEnd_L61 (nI (B / 8)) S else bnd (f_X1_byteAt (nI (p + B / 8)) S) fun r8 S9 => pin (r8 <<< (nI (B % 8) &&& 31) &&& 255) fun x11 => if x11 = 0 then f_X1_checkPayloadEnd_L47 (nI (B / 8)) 1 S9 else f_X1_checkPayloadEnd_L47 (nI (B / 8)) 0 S9) = R → f_X1_checkPayloadEnd S = R := by
    intro R hR
    unfold f_X1_checkPayloadEnd
    rw [h15, nI_mod8 (by omega), nI_div8 (by omega), h13, pin_eq, pin_eq, nI_add]
    exact hR
  by_cases q0 : B % 8 = 0
  · have hgo2 : ∀ R, f_X1_checkPayloadEnd_L61 (nI (B / 8)) S = R → f_X1_checkPayloadEnd S = R := fun R hR => hgo R (by
      rw [if_pos (by rw [q0]; decide)]
      exact hR)
    rcases pe61_s h (x := B / 8) (by omega) hP hp h13 h14 with ⟨b0, S', b1, b2, b3⟩ | ⟨b0, b1⟩
    · left
      refine ⟨6, p + B / 8, S', Or.inr ⟨fun c => absurd c (by omega), by omega, rfl, by omega⟩, hgo2 _ b1, b2, b3⟩
    · right
      exact ⟨fun c => absurd c (by omega), by omega, hgo2 _ b1⟩
  · have hb : L.getD (p + B / 8) 0 < 256 := getD_lt h.1.2.2.1 (by omega)
    have lb := low_bits _ hb (B % 8) (by omega)
    have hgo2 : ∀ R, (if (nI (L.getD (p + B / 8) 0) <<< (nI (B % 8) &&& 31)) &&& (255 : Int32) = 0 then f_X1_checkPayloadEnd_L47 (nI (B / 8)) 1 S else f_X1_checkPayloadEnd_L47 (nI (B / 8)) 0 S) = R → f_X1_checkPayloadEnd S = R := fun R hR => hgo R (by
      rw [if_neg (by rw [show (0 : Int32) = nI 0 from rfl, nI_leI (by omega) (by omega)]; omega)]
      refine e_bd (ba_s h.1 h.2.1 _) ?_
      rw [bat_in (by omega) hl4, pin_eq]
      exact hR)
    by_cases q1 : L.getD (p + B / 8) 0 % 2 ^ (8 - B % 8) = 0
    · have hgo3 : ∀ R, f_X1_checkPayloadEnd_L61 (nI (B / 8 + 1)) S = R → f_X1_checkPayloadEnd S = R := fun R hR => hgo2 R (by
        rw [if_pos (lb.mpr q1)]
        unfold f_X1_checkPayloadEnd_L47
        refine e_bd (dem1 (by decide)) ?_
        rw [nI_1, pin_eq]
        exact hR)
      rcases pe61_s h (x := B / 8 + 1) (by omega) hP hp h13 h14 with ⟨b0, S', b1, b2, b3⟩ | ⟨b0, b1⟩
      · left
        refine ⟨6, p + (B / 8 + 1), S', Or.inr ⟨fun _ => q1, by omega, rfl, by omega⟩, hgo3 _ b1, b2, b3⟩
      · right
        exact ⟨fun _ => q1, by omega, hgo3 _ b1⟩
    · left
      obtain ⟨S2, b1, b2, b3⟩ := dem0 h (r := 6) (q := p + B / 8) (by omega) (by omega)
      refine ⟨6, p + B / 8, S2, Or.inl ⟨by omega, q1, rfl, rfl⟩, hgo2 _ ?_, b2, b3⟩
      rw [if_neg (fun c => q1 (lb.mp c))]
      unfold f_X1_checkPayloadEnd_L47
      rw [h13, nI_add]
      refine e_bd b1 ?_
      rw [pin_eq]
      exact pe61_d b2 _
/-! the states' end -/
theorem stC_any (S : St) : ∃ c, 1 ≤ c ∧ c ≤ 2 ∧ f_X0_stateCount S = some (nI c, S) := by
  unfold f_X0_stateCount
  by_cases q : S 8 1 = 2
  · exact ⟨2, by omega, by omega, by rw [if_pos q]; rfl⟩
  · exact ⟨1, by omega, by omega, by rw [if_neg q]; rfl⟩
theorem stY_any (S : St) : ∃ c, f_X0_stateBytes S = some (c, S) := by
  unfold f_X0_stateBytes f_X0_isByTable
  by_cases q : S 8 1 = 0
  · exact ⟨2, by rw [if_pos q, bnd_some, if_neg (by decide)]⟩
  · exact ⟨4, by rw [if_neg q, bnd_some, if_pos rfl]⟩
theorem cs_d {fu r q : Nat} {L : List Nat} {S : St} (h : Dd S L r q) {c : Nat} (hc : f_X0_stateCount S = some (nI c, S)) (hc2 : c ≤ 2) : ∀ (d i n : Nat), i + d = c → d < n → f_X1_checkStates_L2 fu n (nI i) S = some (0, S) := by
  obtain ⟨y, hy⟩ := stY_any S
  intro d
  induction d with
  | zero =>
    intro i n hi hn
    obtain ⟨n, rfl⟩ : ∃ e, n = e + 1 := ⟨n - 1, by omega⟩
    rw [f_X1_checkStates_L2_s]
    refine e_bd hc ?_
    rw [if_pos (nI_le (by omega) (by omega))]
  | succ d ih =>
    intro i n hi hn
    obtain ⟨n, rfl⟩ : ∃ e, n = e + 1 := ⟨n - 1, by omega⟩
    have e : ∀ t, f_X1_checkStates_L35 fu (f_X1_checkStates_L2 fu n) (nI i) t S = some (0, S) := fun t => by
      unfold f_X1_checkStates_L35
      refine e_bd hy ?_
      refine e_bd (demD h _ _ _) ?_
      rw [nI_1, pin_eq]
      exact ih (i + 1) n (by omega) (by omega)
    rw [f_X1_checkStates_L2_s]
    refine e_bd hc ?_
    rw [if_neg (by rw [nI_leI (by omega) (by omega)]; omega), if_neg (nI_in (by omega) (by omega)), e, e, ite_self]
theorem csta_d {fu r q : Nat} {L : List Nat} {S : St} (hfu : 20000 ≤ fu) (h : Dd S L r q) : f_X1_checkStates fu S = some (0, S) := by
  obtain ⟨c, c1, c2, c3⟩ := stC_any S
  exact cs_d h c3 c2 c 0 fu (by omega) (by omega)
def CsF (k lg : Nat) (y : Nat → Nat) (a i r q : Nat) : Prop := ∃ j, i ≤ j ∧ j < nSN k ∧ (∀ e, i ≤ e → e < j → y e = lsN k lg) ∧ y j ≠ lsN k lg ∧ r = 7 ∧ q = a + j * sbN k
theorem cs_loop {fu k lg a : Nat} {b : Nat} {y : Nat → Nat} {L : List Nat} {S : St} (hk : k < 3) (hl : lg ≤ 12) (h : Lv S L b) (hc : CdC S k lg) (h18 : ∀ j, j < nSN k → S 18 j = nI (y j)) (hy : ∀ j, j < nSN k → y j < 2 ^ 31) (h12 : S 7 12 = nI a) : ∀ (d i n : Nat), i + d = nSN k → d < n → (∃ r q S', CsF k lg y a i r q ∧ f_X1_checkStates_L2 fu n (nI i) S = some (0, S') ∧ Dd S' L r q ∧ F7 [6, 7] [] S S') ∨ ((∀ j, i ≤ j → j < nSN k → y j = lsN k lg) ∧ f_X1_checkStates_L2 fu n (nI i) S = some (0, S)) := by
  have hn := nSN_bd k
  have hls := lsN_bd (k := k) hl
  intro d
  induction d with
  | zero =>
    intro i n hi hm
    obtain ⟨n, rfl⟩ : ∃ e, n = e + 1 := ⟨n - 1, by omega⟩
    right
    refine ⟨fun j _ _ => by omega, ?_⟩
    rw [f_X1_checkStates_L2_s]
    refine e_bd (stCn_s hk hc) ?_
    rw [if_pos (nI_le (by omega) (by omega))]
  | succ d ih =>
    intro i n hi hm
    obtain ⟨n, rfl⟩ : ∃ e, n = e + 1 := ⟨n - 1, by omega⟩
    have hgo : ∀ R, (if nI (y i) = nI (lsN k lg) then f_X1_checkStates_L35 fu (f_X1_checkStates_L2 fu n) (nI i) (1 : Int32) S else f_X1_checkStates_L35 fu (f_X1_checkStates_L2 fu n) (nI i) (0 : Int32) S) = R → f_X1_checkStates_L2 fu (n + 1) (nI i) S = R := by
      intro R hR
      rw [f_X1_checkStates_L2_s]
      refine e_bd (stCn_s hk hc) ?_
      rw [if_neg (by rw [nI_leI (by omega) (by omega)]; omega), if_neg (nI_in (by omega) (by omega)), nI_clamp (by omega), h18 i (by omega), hc.2.2.1]
      exact hR
    by_cases q : y i = lsN k lg
    · have hgo2 : ∀ R, f_X1_checkStates_L2 fu n (nI (i + 1)) S = R → f_X1_checkStates_L2 fu (n + 1) (nI i) S = R := fun R hR => hgo R (by
        rw [if_pos (by rw [q])]
        unfold f_X1_checkStates_L35
        refine e_bd (stBy_s hk hc) ?_
        refine e_bd (dem1 (by decide)) ?_
        rw [nI_1, pin_eq]
        exact hR)
      rcases ih (i + 1) n (by omega) (by omega) with ⟨r, q', S', ⟨j, j1, j2, j3, j4⟩, b1, b2, b3⟩ | ⟨b0, b1⟩
      · left
        refine ⟨r, q', S', ⟨j, by omega, j2, fun e e1 e2 => ?_, j4⟩, hgo2 _ b1, b2, b3⟩
        by_cases ee : e = i
        · rw [ee]; exact q
        · exact j3 e (by omega) e2
      · right
        refine ⟨fun j j1 j2 => ?_, hgo2 _ b1⟩
        by_cases ee : j = i
        · rw [ee]; exact q
        · exact b0 j (by omega) j2
    · left
      obtain ⟨S2, b1, b2, b3⟩ := dem0 h (r := 7) (q := a + i * sbN k) (by omega) (by omega)
      refine ⟨7, a + i * sbN k, S2, ⟨i, Nat.le_refl _, by omega, fun e _ _ => by omega, q, rfl, rfl⟩, hgo _ ?_, b2, b3⟩
      rw [if_neg (fun c => q (nI_small (hy i (by omega)) (by omega) c))]
      unfold f_X1_checkStates_L35
      refine e_bd (stBy_s hk hc) ?_
      rw [h12, pk_mul, nI_add]
      refine e_bd b1 ?_
      rw [nI_1, pin_eq]
      exact cs_d b2 (stCn_s hk (hc.ofc (b3.c (by simp)))) (by omega) d (i + 1) n (by omega) (by omega)
