/-! unpack: how the class reads -/
theorem shl8 (n : Nat) : nI n <<< ((8 : Int32) &&& 31) = nI (n * 256) := by
  apply Int32.toBitVec_inj.mp
  rw [Int32.toBitVec_shiftLeft]
  show (BitVec.ofNat 32 n) <<< (((8 : Int32) &&& 31).toBitVec.smod 32) = BitVec.ofNat 32 (n * 256)
  rw [show ((8 : Int32) &&& 31).toBitVec.smod 32 = BitVec.ofNat 32 8 from by decide]
  apply BitVec.eq_of_toNat_eq
  rw [BitVec.shiftLeft_eq', BitVec.toNat_shiftLeft, BitVec.toNat_ofNat, BitVec.toNat_ofNat, BitVec.toNat_ofNat, Nat.mod_eq_of_lt (show 8 < 2 ^ 32 by omega), Nat.shiftLeft_eq, Nat.mul_mod, Nat.mod_mod, ← Nat.mul_mod]
theorem or8 (v : Nat) {b : Nat} (hb : b < 256) : (nI v <<< ((8 : Int32) &&& 31)) ||| nI b = nI (v * 256 + b) := by
  rw [shl8, Nat.mul_comm, show (256 : Nat) = 2 ^ 8 from rfl, fa_or_sum (k := 8) v hb]
/-- a number of k BYTES from a on, the first the highest -/
def numN (L : List Nat) (a : Nat) : Nat → Nat
  | 0 => 0
  | k + 1 => numN L a k * 256 + L.getD (a + k) 0
theorem num_lt {L : List Nat} (hb : ∀ b ∈ L, b < 256) {a : Nat} : ∀ k, a + k ≤ L.length → numN L a k < 256 ^ k := by
  intro k
  induction k with
  | zero => intro _; exact Nat.one_pos
  | succ k ih =>
    intro h
    have h1 := ih (by omega)
    have h2 : L.getD (a + k) 0 < 256 := getD_lt hb (by omega)
    show numN L a k * 256 + L.getD (a + k) 0 < 256 ^ (k + 1)
    rw [Nat.pow_succ]
    omega
/-- the opener's ints outside js and the cells outside 7 and ks stay -/
def F7 (js ks : List Nat) (S S' : St) : Prop := Fr (7 :: ks) S S' ∧ ∀ j, j ∉ js → S' 7 j = S 7 j
theorem F7.rf {js ks : List Nat} {S : St} : F7 js ks S S := ⟨Fr.rf, fun _ _ => rfl⟩
theorem F7.tr {js ks : List Nat} {S S1 S2 : St} (h : F7 js ks S S1) (h2 : F7 js ks S1 S2) : F7 js ks S S2 := ⟨h.1.tr h2.1, fun j hj => (h2.2 j hj).trans (h.2 j hj)⟩
theorem F7.mono {js ks js' ks' : List Nat} {S S' : St} (h : F7 js ks S S') (h1 : ∀ j ∈ js, j ∈ js') (h2 : ∀ k ∈ ks, k ∈ ks') : F7 js' ks' S S' := ⟨h.1.mono (fun k hk => by
  rcases List.mem_cons.mp hk with q | q
  · rw [q]; exact List.mem_cons_self ..
  · exact List.mem_cons_of_mem _ (h2 k q)), fun j hj => h.2 j (fun q => hj (h1 j q))⟩
theorem F7.c {js ks : List Nat} {S S' : St} (h : F7 js ks S S') {k : Nat} (hk : k ∉ 7 :: ks) : S' k = S k := h.1 k hk
theorem F7.p7 {js ks : List Nat} {S S' : St} (h : F7 js ks S S') {j : Nat} {v : Int32} (hj : j ∈ js) : F7 js ks S (puS S' 7 j v) := ⟨h.1.pu (List.mem_cons_self ..), fun i hi => by
  rw [puS_s, upd_n (fun q => hi (by rw [q]; exact hj))]
  exact h.2 i hi⟩
theorem F7.pu {js ks : List Nat} {S S' : St} (h : F7 js ks S S') {k i : Nat} {v : Int32} (hk : k ∈ ks) (h7 : k ≠ 7) : F7 js ks S (puS S' k i v) := ⟨h.1.pu (List.mem_cons_of_mem _ hk), fun i hi => by
  rw [puS_n (fun q => h7 q.symm)]
  exact h.2 i hi⟩
theorem F7.fr {js ks : List Nat} {S S' : St} (h : Fr ks S S') (h7 : 7 ∉ ks) : F7 js ks S S' := ⟨h.mono (fun k hk => List.mem_cons_of_mem _ hk), fun j _ => by rw [h 7 h7]⟩
def Lv (S : St) (L : List Nat) (a : Nat) : Prop := RowC S 1 L ∧ S 7 5 = 1 ∧ S 7 6 = 0 ∧ S 7 7 = -1 ∧ S 7 8 = nI a
def Dd (S : St) (L : List Nat) (r q : Nat) : Prop := RowC S 1 L ∧ S 7 5 = 1 ∧ S 7 6 = nI r ∧ 1 ≤ r ∧ r ≤ 8 ∧ S 7 7 = nI q
theorem Lv.of {js ks : List Nat} {S S' : St} {L : List Nat} {a a' : Nat} (h : Lv S L a) (F : F7 js ks S S') (h1 : 1 ∉ 7 :: ks) (h2 : 2 ∉ 7 :: ks) (h5 : 5 ∉ js ∧ 6 ∉ js ∧ 7 ∉ js) (h8 : S' 7 8 = nI a') : Lv S' L a' := ⟨h.1.of (F.c h1) (F.c h2), (F.2 5 h5.1).trans h.2.1, (F.2 6 h5.2.1).trans h.2.2.1, (F.2 7 h5.2.2).trans h.2.2.2.1, h8⟩
theorem Dd.of {js ks : List Nat} {S S' : St} {L : List Nat} {r q : Nat} (h : Dd S L r q) (F : F7 js ks S S') (h1 : 1 ∉ 7 :: ks) (h2 : 2 ∉ 7 :: ks) (h5 : 5 ∉ js ∧ 6 ∉ js ∧ 7 ∉ js) : Dd S' L r q := ⟨h.1.of (F.c h1) (F.c h2), (F.2 5 h5.1).trans h.2.1, (F.2 6 h5.2.1).trans h.2.2.1, h.2.2.2.1, h.2.2.2.2.1, (F.2 7 h5.2.2).trans h.2.2.2.2.2⟩
theorem Dd.ne {S : St} {L : List Nat} {r q : Nat} (h : Dd S L r q) : ¬ S 7 6 = 0 := by
  rw [h.2.2.1]
  exact nI_ne0 (by have := h.2.2.2.1; omega) (by have := h.2.2.2.2.1; omega)
theorem whole1 {S : St} (h : S 7 6 = 0) : f_X1_isWhole S = some (1, S) := by unfold f_X1_isWhole; rw [if_pos h]
theorem whole0 {S : St} (h : ¬ S 7 6 = 0) : f_X1_isWhole S = some (0, S) := by unfold f_X1_isWhole; rw [if_neg h]
theorem dem1 {S : St} {t a b : Int32} (h : ¬ t = 0) : f_X1_demand t a b S = some (0, S) := by unfold f_X1_demand; rw [if_neg h]
theorem demD {S : St} {L : List Nat} {r q : Nat} (h : Dd S L r q) (t a b : Int32) : f_X1_demand t a b S = some (0, S) := by
  by_cases e : t = 0
  · unfold f_X1_demand
    rw [if_pos e]
    exact e_bd (whole0 h.ne) (by rw [if_pos rfl])
  · exact dem1 e
theorem dem0 {S : St} {L : List Nat} {a : Nat} (h : Lv S L a) {r q : Nat} (h1 : 1 ≤ r) (h8 : r ≤ 8) : ∃ S', f_X1_demand 0 (nI r) (nI q) S = some (0, S') ∧ Dd S' L r q ∧ F7 [6, 7] [] S S' := by
  have f : F7 [6, 7] [] S (puS (puS S 7 6 (nI r)) 7 7 (nI q)) := (F7.rf.p7 (by simp)).p7 (by simp)
  refine ⟨_, ?_, ⟨h.1.of (f.c (by simp)) (f.c (by simp)), (f.2 5 (by simp)).trans h.2.1, ?_, h1, h8, ?_⟩, f⟩
  · unfold f_X1_demand
    rw [if_pos rfl]
    refine e_bd (whole1 h.2.2.1) ?_
    rw [if_neg (by decide), pin_eq, pin_eq]
  · rw [puS_s, upd_n (by decide), puS_s, upd_s]
  · rw [puS_s, upd_s]
theorem bc_s {S : St} {L : List Nat} (h : RowC S 1 L) (h5 : S 7 5 = 1) : f_X1_byteCount S = some (nI L.length, S) := by
  unfold f_X1_byteCount
  rw [h5, if_neg (by decide), if_pos rfl, if_neg (by decide), if_pos rfl, h.1]
theorem ba_s {S : St} {L : List Nat} (h : RowC S 1 L) (h5 : S 7 5 = 1) (x : Int32) : f_X1_byteAt x S = some (bat L x, S) := by
  unfold f_X1_byteAt
  rw [h5, if_neg (by decide), if_pos rfl, if_neg (by decide), if_pos rfl]
  exact e_bd (byteAt_s h x) rfl
theorem rdN_loop {fu k a : Nat} {p : Int32} {L : List Nat} (hk : k ≤ 4) (hl : a + k ≤ L.length) : ∀ (d i n : Nat) (S : St), i + d = k → d < n → Lv S L (a + i) → ∃ S', f_X1_readNumber_L40 fu p n (nI k) (nI (numN L a i)) (nI i) S = some (nI (numN L a k), S') ∧ Lv S' L (a + k) ∧ F7 [8] [] S S' := by
  intro d
  induction d with
  | zero =>
    intro i n S hi hn h
    obtain ⟨n, rfl⟩ : ∃ m, n = m + 1 := ⟨n - 1, by omega⟩
    have : i = k := by omega
    subst this
    exact ⟨S, by rw [f_X1_readNumber_L40_s, if_pos (nI_le (Nat.le_refl _) (by omega))], h, F7.rf⟩
  | succ d ih =>
    intro i n S hi hn h
    obtain ⟨n, rfl⟩ : ∃ m, n = m + 1 := ⟨n - 1, by omega⟩
    have hl4 := h.1.2.1
    have hb : L.getD (a + i) 0 < 256 := getD_lt h.1.2.2.1 (by omega)
    have f : F7 [8] [] S (puS S 7 8 (nI (a + i) + 1)) := F7.rf.p7 (by simp)
    obtain ⟨S', b1, b2, b3⟩ := ih (i + 1) n (puS S 7 8 (nI (a + i) + 1)) (by omega) (by omega) (h.of f (by simp) (by simp) (by simp) (by rw [puS_s, upd_s, nI_1]; rfl))
    refine ⟨S', ?_, b2, f.tr b3⟩
    rw [f_X1_readNumber_L40_s, if_neg (by rw [nI_leI (by omega) (by omega)]; omega)]
    refine e_bd (ba_s h.1 h.2.1 _) ?_
    rw [h.2.2.2.2, bat_in (by omega) hl4, or8 _ hb, pin_eq, pin_eq, nI_1, pin_eq]
    exact b1
theorem rdN_s {fu k a : Nat} {L : List Nat} {S : St} (hfu : 20000 ≤ fu) (hk : k ≤ 4) (h : Lv S L a) (ha : a ≤ 100000) : (L.length < a + k ∧ ∃ S', f_X1_readNumber fu (nI k) S = some (0, S') ∧ Dd S' L 1 L.length ∧ F7 [6, 7] [] S S') ∨ (a + k ≤ L.length ∧ ∃ S', f_X1_readNumber fu (nI k) S = some (nI (numN L a k), S') ∧ Lv S' L (a + k) ∧ F7 [8] [] S S') := by
  have hl4 := h.1.2.1
  by_cases q : L.length < a + k
  · left
    obtain ⟨S', a1, a2, a3⟩ := dem0 h (r := 1) (q := L.length) (by omega) (by omega)
    refine ⟨q, S', ?_, a2, a3⟩
    unfold f_X1_readNumber
    refine e_bd (bc_s h.1 h.2.1) ?_
    rw [h.2.2.2.2, nI_add, if_pos (by rw [nI_ltI (by omega) (by omega)]; exact q)]
    unfold f_X1_readNumber_L19
    refine e_bd (bc_s h.1 h.2.1) ?_
    refine e_bd a1 ?_
    exact e_bd (whole0 a2.ne) (by rw [if_pos rfl])
  · right
    obtain ⟨S', b1, b2, b3⟩ := rdN_loop (fu := fu) (p := nI k) (a := a) hk (by omega) k 0 fu S (by omega) (by omega) h
    refine ⟨by omega, S', ?_, b2, b3⟩
    unfold f_X1_readNumber
    refine e_bd (bc_s h.1 h.2.1) ?_
    rw [h.2.2.2.2, nI_add, if_neg (by rw [nI_ltI (by omega) (by omega)]; exact q)]
    unfold f_X1_readNumber_L19
    refine e_bd (bc_s h.1 h.2.1) ?_
    refine e_bd (dem1 (by decide)) ?_
    refine e_bd (whole1 h.2.2.1) ?_
    rw [if_neg (by decide)]
    exact b1
theorem rdN_d {fu : Nat} {p : Int32} {L : List Nat} {S : St} {r q : Nat} (h : Dd S L r q) : f_X1_readNumber fu p S = some (0, S) := by
  have hz : ∀ t, f_X1_readNumber_L19 fu p p t S = some (0, S) := fun t => by
    unfold f_X1_readNumber_L19
    refine e_bd (bc_s h.1 h.2.1) ?_
    refine e_bd (demD h _ _ _) ?_
    exact e_bd (whole0 h.ne) (by rw [if_pos rfl])
  unfold f_X1_readNumber
  refine e_bd (bc_s h.1 h.2.1) ?_
  rw [hz, hz, ite_self]
theorem clr_s {fu kt m : Nat} {S : St} (hfu : 20000 ≤ fu) (hz : zx_tab kt = true) : ∃ S', f_X6_clear fu kt (nI m) S = some (0, S') ∧ TabC S' kt m (fun _ => 0) ∧ Fr [kt, kt + 1] S S' := by
  have h256 : zx_len (kt + 1) = 256 := by rcases zx_tab_c hz with rfl | rfl | rfl | rfl | rfl | rfl | rfl <;> rfl
  refine ⟨_, ?_, ?_, ((Fr.rf.pu (by simp)).up (by simp) : Fr [kt, kt + 1] S (upS (puS S kt 1 (nI m)) (kt + 1) (fiA (puS S kt 1 (nI m) (kt + 1)) (zx_len (kt + 1)) 0)))⟩
  · unfold f_X6_clear
    rw [pin_eq]
    exact e_bd (fill_s (by omega)) rfl
  · refine ⟨by rw [upS_n (by omega), puS_s, upd_s], fun s hs => ?_⟩
    rw [upS_s, fiA, h256, if_pos hs]
    rfl
