/-! unpack: SHARES and sizes, in the class -/
def shP (L : List Nat) (lg : Nat) : Nat → Nat → Nat → Nat → Nat → (Nat → Nat) → Nat × Nat × (Nat → Nat)
  | 0, _, sm, ps, a, f => if sm = 2 ^ lg then (0, a, f) else (3, ps, f)
  | d + 1, v, sm, _, a, f =>
    if L.length < a + 1 then (1, L.length, f)
    else if L.getD a 0 < v then (2, a, f)
    else if L.length < a + 3 then (1, L.length, f)
    else if numN L (a + 1) 2 < 1 ∨ 2 ^ lg < numN L (a + 1) 2 then (2, a + 1, f)
    else shP L lg d (L.getD a 0 + 1) (sm + numN L (a + 1) 2) (a + 1) (a + 3) (fun s => if s = L.getD a 0 then numN L (a + 1) 2 else f s)
def shR (L : List Nat) (lg : Nat) : Nat × Nat × (Nat → Nat) := if L.length < 4 then (1, L.length, fun _ => 0) else shP L lg (L.getD 3 0 + 1) 0 0 0 4 (fun _ => 0)
theorem shP_s {L : List Nat} {lg d v sm ps a : Nat} {f : Nat → Nat} : shP L lg (d + 1) v sm ps a f = if L.length < a + 1 then (1, L.length, f)
    else if L.getD a 0 < v then (2, a, f)
    else if L.length < a + 3 then (1, L.length, f)
    else if numN L (a + 1) 2 < 1 ∨ 2 ^ lg < numN L (a + 1) 2 then (2, a + 1, f)
    else shP L lg d (L.getD a 0 + 1) (sm + numN L (a + 1) 2) (a + 1) (a + 3) (fun s => if s = L.getD a 0 then numN L (a + 1) 2 else f s) := rfl
theorem shP_ok {L : List Nat} {lg : Nat} (hl : 1 ≤ lg ∧ lg ≤ 12) (hb : ∀ b ∈ L, b < 256) : ∀ (d v sm ps a : Nat) (f : Nat → Nat), (∀ s, v ≤ s → f s = 0) → v ≤ 256 → fb_sm f 256 = sm → ∀ q g, shP L lg d v sm ps a f = (0, q, g) → SumOK g lg ∧ q = a + 3 * d ∧ (0 < d → q ≤ L.length) := by
  intro d
  induction d with
  | zero =>
    intro v sm ps a f h0 hv hs q g h
    by_cases e : sm = 2 ^ lg
    · rw [show shP L lg 0 v sm ps a f = if sm = 2 ^ lg then (0, a, f) else (3, ps, f) from rfl, if_pos e] at h
      simp only [Prod.mk.injEq] at h
      obtain ⟨-, rfl, rfl⟩ := h
      exact ⟨⟨⟨hl.1, fun s hs => h0 s (by omega)⟩, hl.2, hs.trans e⟩, by omega, fun q => by omega⟩
    · rw [show shP L lg 0 v sm ps a f = if sm = 2 ^ lg then (0, a, f) else (3, ps, f) from rfl, if_neg e] at h
      simp only [Prod.mk.injEq] at h
      omega
  | succ d ih =>
    intro v sm ps a f h0 hv hs q g h
    rw [shP_s] at h
    by_cases e1 : L.length < a + 1
    · rw [if_pos e1] at h
      simp only [Prod.mk.injEq] at h
      omega
    · rw [if_neg e1] at h
      have hb0 : L.getD a 0 < 256 := getD_lt hb (by omega)
      by_cases e2 : L.getD a 0 < v
      · rw [if_pos e2] at h
        simp only [Prod.mk.injEq] at h
        omega
      · rw [if_neg e2] at h
        by_cases e3 : L.length < a + 3
        · rw [if_pos e3] at h
          simp only [Prod.mk.injEq] at h
          omega
        · rw [if_neg e3] at h
          by_cases e4 : numN L (a + 1) 2 < 1 ∨ 2 ^ lg < numN L (a + 1) 2
          · rw [if_pos e4] at h
            simp only [Prod.mk.injEq] at h
            omega
          · rw [if_neg e4] at h
            have hu := fb_sm_upd f (numN L (a + 1) 2) hb0
            rw [h0 _ (by omega), hs] at hu
            obtain ⟨i1, i2, i3⟩ := ih _ _ _ _ _ (fun s hs => by
              show (if s = L.getD a 0 then numN L (a + 1) 2 else f s) = 0
              rw [if_neg (by omega)]
              exact h0 s (by omega)) (by omega) (by omega) q g h
            refine ⟨i1, by omega, fun _ => ?_⟩
            by_cases hd : 0 < d
            · exact i3 hd
            · omega
theorem shR_ok {L : List Nat} {lg q : Nat} {g : Nat → Nat} (hl : 1 ≤ lg ∧ lg ≤ 12) (hb : ∀ b ∈ L, b < 256) (h : shR L lg = (0, q, g)) : SumOK g lg ∧ q ≤ 772 ∧ q ≤ L.length ∧ 4 ≤ L.length := by
  unfold shR at h
  by_cases e : L.length < 4
  · rw [if_pos e] at h
    simp only [Prod.mk.injEq] at h
    omega
  · rw [if_neg e] at h
    have hb0 : L.getD 3 0 < 256 := getD_lt hb (by omega)
    obtain ⟨a, b, c⟩ := shP_ok hl hb _ _ _ _ _ _ (fun s _ => rfl) (by omega) (by rw [fb_sm_const]) q g h
    exact ⟨a, by omega, c (by omega), by omega⟩
theorem sh133_d {fu kt r q : Nat} {L : List Nat} {S : St} (hz : zx_tab kt = true) (h4 : S 7 4 = nI kt) (h : Dd S L r q) (v3 v4 : Int32) : f_X1_readShares_L133 fu v3 v4 S = some (0, S) := by
  have e : ∀ t, f_X1_readShares_L150 fu v4 t S = some (0, S) := fun t => by
    unfold f_X1_readShares_L150
    exact e_bd (demD h _ _ _) rfl
  unfold f_X1_readShares_L133
  rw [h4, pin_eq, (tab_62 hz).1, if_pos hz]
  refine e_bd (r := (1 : Int32) <<< ((S kt 1) &&& 31)) (S := S) rfl ?_
  rw [e, e, ite_self]
theorem sh21_d {fu kt r q n : Nat} {L : List Nat} {S : St} (hz : zx_tab kt = true) (h4 : S 7 4 = nI kt) (h : Dd S L r q) (v1 v2 v3 v4 v5 : Int32) : f_X1_readShares_L21 fu (n + 1) v1 v2 v3 v4 v5 S = some (0, S) := by
  rw [f_X1_readShares_L21_s, whole0 h.ne, bnd_some, if_pos rfl, sh133_d hz h4 h, ite_self]
def sh102R (K21 : Int32 → Int32 → Int32 → Int32 → Int32 → St → Option (Int32 × St)) (v1 v3 v4 v5 v7 v8 : Int32) (S34 : St) : Option (Int32 × St) :=
  pin (S34 7 4).toNatClampNeg fun kt37 =>
  if zx_tab kt37 = true then
    bnd (f_X6_change kt37 v7 v8 S34) fun r38 S39 =>
    pin (v3 + v8) fun x41 =>
    pin (v5 + (1 : Int32)) fun x42 =>
    K21 v1 v7 x41 v4 x42 S39
  else none
theorem sh102_eq {fu : Nat} {K : Int32 → Int32 → Int32 → Int32 → Int32 → St → Option (Int32 × St)} {v1 v3 v4 v5 v7 v8 t : Int32} {S : St} : f_X1_readShares_L102 fu K v1 v3 v4 v5 v7 v8 t S = bnd (f_X1_demand t (2 : Int32) v4 S) fun _ S34 => sh102R K v1 v3 v4 v5 v7 v8 S34 := rfl
def sh59R (fu : Nat) (K21 : Int32 → Int32 → Int32 → Int32 → Int32 → St → Option (Int32 × St)) (v1 v3 v5 v7 : Int32) (S26 : St) : Option (Int32 × St) :=
  pin (S26 7 8) fun x28 =>
  bnd (f_X1_readNumber fu (2 : Int32) S26) fun r29 S30 =>
  if r29 < (1 : Int32) then
    f_X1_readShares_L101 fu  K21  v1 v3 x28 v5 v7 r29 S30
  else
    pin (S30 7 4).toNatClampNeg fun kt44 =>
    if zx_tab kt44 = true then
      bnd (f_X6_places kt44 S30) fun r45 S46 =>
      if r45 < r29 then
        f_X1_readShares_L101 fu  K21  v1 v3 x28 v5 v7 r29 S46
      else
        f_X1_readShares_L102 fu  K21  v1 v3 x28 v5 v7 r29 (1 : Int32) S46
    else none
theorem sh59_eq {fu : Nat} {K : Int32 → Int32 → Int32 → Int32 → Int32 → St → Option (Int32 × St)} {v1 v3 v5 v6 v7 t : Int32} {S : St} : f_X1_readShares_L59 fu K v1 v3 v5 v6 v7 t S = bnd (f_X1_demand t (2 : Int32) v6 S) fun _ S26 => sh59R fu K v1 v3 v5 v7 S26 := rfl
theorem sh102R_d {fu kt r q n b : Nat} {L : List Nat} {S : St} (hz : zx_tab kt = true) (h4 : S 7 4 = nI kt) (h : Dd S L r q) (hb : b < 256) (v1 v3 v4 v5 v8 : Int32) : ∃ S', sh102R (f_X1_readShares_L21 fu (n + 1)) v1 v3 v4 v5 (nI b) v8 S = some (0, S') ∧ Dd S' L r q ∧ F7 [] [kt + 1] S S' := by
  have hr := tab_rng hz
  obtain ⟨S1, e1⟩ : ∃ y, y = puS S (kt + 1) b (S (kt + 1) b + v8) := ⟨_, rfl⟩
  have f1 : F7 [] [kt + 1] S S1 := by rw [e1]; exact F7.rf.pu (by simp) (by omega)
  have d1 : Dd S1 L r q := h.of f1 (by simp; omega) (by simp; omega) (by simp)
  refine ⟨S1, ?_, d1, f1⟩
  unfold sh102R
  rw [h4, pin_eq, (tab_62 hz).1, if_pos hz]
  refine e_bd (change_s hb) ?_
  rw [← e1, pin_eq, pin_eq]
  exact sh21_d hz (by rw [f1.2 4 (by simp)]; exact h4) d1 _ _ _ _ _
theorem sh59R_d {fu kt r q n b : Nat} {L : List Nat} {S : St} (hz : zx_tab kt = true) (h4 : S 7 4 = nI kt) (h : Dd S L r q) (hb : b < 256) (v1 v3 v5 : Int32) : ∃ S', sh59R fu (f_X1_readShares_L21 fu (n + 1)) v1 v3 v5 (nI b) S = some (0, S') ∧ Dd S' L r q ∧ F7 [] [kt + 1] S S' := by
  obtain ⟨S', a1, a2, a3⟩ := sh102R_d (fu := fu) (n := n) hz h4 h hb v1 v3 (S 7 8) v5 0
  refine ⟨S', ?_, a2, a3⟩
  unfold sh59R
  rw [pin_eq]
  refine e_bd (rdN_d h) ?_
  rw [if_pos (by decide)]
  unfold f_X1_readShares_L101
  rw [sh102_eq]
  exact e_bd (demD h _ _ _) a1
theorem num2_lt {L : List Nat} (hb : ∀ b ∈ L, b < 256) {a : Nat} (h : a + 2 ≤ L.length) : numN L a 2 < 65536 := num_lt hb 2 h
theorem shC_loop {fu kt lg m : Nat} {L : List Nat} (hfu : 20000 ≤ fu) (hz : zx_tab kt = true) (hlg : lg ≤ 12) (hm : m ≤ 256) : ∀ (d i n v sm ps a : Nat) (f : Nat → Nat) (x : Int32) (S : St), i + d = m → d < n → Lv S L a → a + 3 * d ≤ 10000 → S 7 4 = nI kt → TabC S kt lg f → (∀ b, b < 256 → (nI b ≤ x ↔ b < v)) → (∀ s, v ≤ s → f s = 0) → sm ≤ 4096 * i → ps ≤ 10000 → ∀ r q g, shP L lg d v sm ps a f = (r, q, g) → ∃ S', f_X1_readShares_L21 fu n (nI m) x (nI sm) (nI ps) (nI i) S = some (0, S') ∧ (r ≠ 0 → Dd S' L r q) ∧ (r = 0 → Lv S' L q ∧ TabC S' kt lg g) ∧ F7 [6, 7, 8] [kt + 1] S S' := by
  have hr := tab_rng hz
  have hp12 : 2 ^ lg ≤ 2 ^ 12 := Nat.pow_le_pow_right (by decide) hlg
  intro d
  induction d with
  | zero =>
    intro i n v sm ps a f x S hi hn h ha h4 hT hx h0 hsm hps r q g hR
    obtain ⟨n, rfl⟩ : ∃ e, n = e + 1 := ⟨n - 1, by omega⟩
    have hgo : ∀ t R, f_X1_readShares_L150 fu (nI ps) t S = R → (if sm = 2 ^ lg then t = 1 else t = 0) → f_X1_readShares_L21 fu (n + 1) (nI m) x (nI sm) (nI ps) (nI i) S = R := by
      intro t R hR ht
      rw [f_X1_readShares_L21_s, if_pos (nI_le (by omega) (by omega))]
      unfold f_X1_readShares_L133
      rw [h4, pin_eq, (tab_62 hz).1, if_pos hz]
      refine e_bd (places_s hT.1 hlg) ?_
      by_cases e : sm = 2 ^ lg
      · rw [if_pos e] at ht
        rw [if_pos (by rw [e]), ← ht]
        exact hR
      · rw [if_neg e] at ht
        rw [if_neg (fun c => e (nI_small (by omega) (by omega) c)), ← ht]
        exact hR
    rw [show shP L lg 0 v sm ps a f = if sm = 2 ^ lg then (0, a, f) else (3, ps, f) from rfl] at hR
    by_cases e : sm = 2 ^ lg
    · rw [if_pos e] at hR
      simp only [Prod.mk.injEq] at hR
      obtain ⟨rfl, rfl, rfl⟩ := hR
      refine ⟨S, hgo 1 _ ?_ (by rw [if_pos e]), fun c => absurd rfl c, fun _ => ⟨h, hT⟩, F7.rf⟩
      unfold f_X1_readShares_L150
      exact e_bd (dem1 (by decide)) rfl
    · rw [if_neg e] at hR
      simp only [Prod.mk.injEq] at hR
      obtain ⟨rfl, rfl, rfl⟩ := hR
      obtain ⟨S1, a1, a2, a3⟩ := dem0 h (r := 3) (q := ps) (by omega) (by omega)
      refine ⟨S1, hgo 0 _ ?_ (by rw [if_neg e]), fun _ => a2, fun c => absurd c (by decide), a3.mono (by simp) (by simp)⟩
      unfold f_X1_readShares_L150
      exact e_bd a1 rfl
  | succ d ih =>
    intro i n v sm ps a f x S hi hn h ha h4 hT hx h0 hsm hps r q g hR
    obtain ⟨n, rfl⟩ : ∃ e, n = e + 2 := ⟨n - 2, by omega⟩
    have hb := h.1.2.2.1
    rw [shP_s] at hR
    have hgo : ∀ R, (bnd (f_X1_readNumber fu (1 : Int32) S) fun r21 S22 => if r21 ≤ x then f_X1_readShares_L59 fu (f_X1_readShares_L21 fu (n + 1)) (nI m) (nI sm) (nI i) (nI a) r21 (0 : Int32) S22 else f_X1_readShares_L59 fu (f_X1_readShares_L21 fu (n + 1)) (nI m) (nI sm) (nI i) (nI a) r21 (1 : Int32) S22) = R → f_X1_readShares_L21 fu (n + 2) (nI m) x (nI sm) (nI ps) (nI i) S = R := by
      intro R hR
      rw [f_X1_readShares_L21_s, if_neg (by rw [nI_leI (by omega) (by omega)]; omega)]
      refine e_bd (whole1 h.2.2.1) ?_
      rw [if_neg (by decide), h.2.2.2.2, pin_eq]
      exact hR
    rcases rdN_s (k := 1) hfu (by omega) h (by omega) with ⟨l1, S1, a1, a2, a3⟩ | ⟨l1, S1, a1, a2, a3⟩
    · rw [if_pos l1] at hR
      simp only [Prod.mk.injEq] at hR
      obtain ⟨rfl, rfl, rfl⟩ := hR
      obtain ⟨S', b1, b2, b3⟩ := sh59R_d (fu := fu) (n := n) (b := 0) hz (by rw [a3.2 4 (by simp)]; exact h4) a2 (by omega) (nI m) (nI sm) (nI i)
      refine ⟨S', hgo _ ?_, fun _ => b2, fun c => absurd c (by decide), (a3.mono (by simp) (by simp)).tr (b3.mono (by simp) (by simp))⟩
      refine e_bd a1 ?_
      rw [sh59_eq, sh59_eq, demD a2, demD a2, ite_self, bnd_some]
      exact b1
    · rw [if_neg (by omega)] at hR
      rw [num1] at a1
      have hb0 : L.getD a 0 < 256 := getD_lt hb (by omega)
      have h41 : S1 7 4 = nI kt := by rw [a3.2 4 (by simp)]; exact h4
      by_cases e2 : L.getD a 0 < v
      · rw [if_pos e2] at hR
        simp only [Prod.mk.injEq] at hR
        obtain ⟨rfl, rfl, rfl⟩ := hR
        obtain ⟨S2, b1, b2, b3⟩ := dem0 a2 (r := 2) (q := a) (by omega) (by omega)
        obtain ⟨S', c1, c2, c3⟩ := sh59R_d (fu := fu) (n := n) hz (by rw [b3.2 4 (by simp)]; exact h41) b2 hb0 (nI m) (nI sm) (nI i)
        refine ⟨S', hgo _ ?_, fun _ => c2, fun c => absurd c (by decide), (a3.mono (by simp) (by simp)).tr ((b3.mono (by simp) (by simp)).tr (c3.mono (by simp) (by simp)))⟩
        refine e_bd a1 ?_
        rw [if_pos ((hx _ hb0).mpr e2), sh59_eq]
        exact e_bd b1 c1
      · rw [if_neg e2] at hR
        have hgo2 : ∀ R, (bnd (f_X1_readNumber fu (2 : Int32) S1) fun r29 S30 => if r29 < (1 : Int32) then f_X1_readShares_L101 fu (f_X1_readShares_L21 fu (n + 1)) (nI m) (nI sm) (nI (a + 1)) (nI i) (nI (L.getD a 0)) r29 S30 else pin (S30 7 4).toNatClampNeg fun kt44 => if zx_tab kt44 = true then bnd (f_X6_places kt44 S30) fun r45 S46 => if r45 < r29 then f_X1_readShares_L101 fu (f_X1_readShares_L21 fu (n + 1)) (nI m) (nI sm) (nI (a + 1)) (nI i) (nI (L.getD a 0)) r29 S46 else f_X1_readShares_L102 fu (f_X1_readShares_L21 fu (n + 1)) (nI m) (nI sm) (nI (a + 1)) (nI i) (nI (L.getD a 0)) r29 (1 : Int32) S46 else none) = R → f_X1_readShares_L21 fu (n + 2) (nI m) x (nI sm) (nI ps) (nI i) S = R := fun R hR => hgo R (by
          refine e_bd a1 ?_
          rw [if_neg (fun c => e2 ((hx _ hb0).mp c)), sh59_eq]
          refine e_bd (dem1 (by decide)) ?_
          unfold sh59R
          rw [a2.2.2.2.2, pin_eq]
          exact hR)
        rcases rdN_s (k := 2) hfu (by omega) a2 (by omega) with ⟨l2, S2, b1, b2, b3⟩ | ⟨l2, S2, b1, b2, b3⟩
        · rw [if_pos (by omega)] at hR
          simp only [Prod.mk.injEq] at hR
          obtain ⟨rfl, rfl, rfl⟩ := hR
          obtain ⟨S', c1, c2, c3⟩ := sh102R_d (fu := fu) (n := n) hz (by rw [b3.2 4 (by simp)]; exact h41) b2 hb0 (nI m) (nI sm) (nI (a + 1)) (nI i) 0
          refine ⟨S', hgo2 _ ?_, fun _ => c2, fun c => absurd c (by decide), (a3.mono (by simp) (by simp)).tr ((b3.mono (by simp) (by simp)).tr (c3.mono (by simp) (by simp)))⟩
          refine e_bd b1 ?_
          rw [if_pos (by decide)]
          unfold f_X1_readShares_L101
          rw [sh102_eq]
          exact e_bd (demD b2 _ _ _) c1
        · rw [if_neg (by omega)] at hR
          have hg := num2_lt hb (a := a + 1) (by omega)
          have h42 : S2 7 4 = nI kt := by rw [b3.2 4 (by simp)]; exact h41
          have F2 : F7 [6, 7, 8] [kt + 1] S S2 := (a3.mono (by simp) (by simp)).tr (b3.mono (by simp) (by simp))
          have hT2 : TabC S2 kt lg f := hT.of (F2.c (by simp; omega)) (by rw [b3.c (by simp; omega), a3.c (by simp; omega)])
          by_cases e4 : numN L (a + 1) 2 < 1 ∨ 2 ^ lg < numN L (a + 1) 2
          · rw [if_pos e4] at hR
            simp only [Prod.mk.injEq] at hR
            obtain ⟨rfl, rfl, rfl⟩ := hR
            obtain ⟨S3, c1, c2, c3⟩ := dem0 b2 (r := 2) (q := a + 1) (by omega) (by omega)
            obtain ⟨S', i1, i2, i3⟩ := sh102R_d (fu := fu) (n := n) hz (by rw [c3.2 4 (by simp)]; exact h42) c2 hb0 (nI m) (nI sm) (nI (a + 1)) (nI i) (nI (numN L (a + 1) 2))
            have e101 : f_X1_readShares_L101 fu (f_X1_readShares_L21 fu (n + 1)) (nI m) (nI sm) (nI (a + 1)) (nI i) (nI (L.getD a 0)) (nI (numN L (a + 1) 2)) S2 = some (0, S') := by
              unfold f_X1_readShares_L101
              rw [sh102_eq]
              exact e_bd c1 i1
            refine ⟨S', hgo2 _ ?_, fun _ => i2, fun c => absurd c (by decide), F2.tr ((c3.mono (by simp) (by simp)).tr (i3.mono (by simp) (by simp)))⟩
            refine e_bd b1 ?_
            by_cases e5 : numN L (a + 1) 2 < 1
            · rw [if_pos (show nI (numN L (a + 1) 2) < (1 : Int32) by rw [show (1 : Int32) = nI 1 from rfl, nI_ltI (by omega) (by omega)]; exact e5)]
              exact e101
            · rw [if_neg (show ¬ nI (numN L (a + 1) 2) < (1 : Int32) by rw [show (1 : Int32) = nI 1 from rfl, nI_ltI (by omega) (by omega)]; exact e5), h42, pin_eq, (tab_62 hz).1, if_pos hz]
              refine e_bd (places_s hT2.1 hlg) ?_
              rw [if_pos (by rw [nI_ltI (by omega) (by omega)]; omega)]
              exact e101
          · rw [if_neg e4] at hR
            obtain ⟨S3, e3⟩ : ∃ y, y = puS S2 (kt + 1) (L.getD a 0) (S2 (kt + 1) (L.getD a 0) + nI (numN L (a + 1) 2)) := ⟨_, rfl⟩
            have f3 : F7 [] [kt + 1] S2 S3 := by rw [e3]; exact F7.rf.pu (by simp) (by omega)
            have hT3 : TabC S3 kt lg (fun s => if s = L.getD a 0 then numN L (a + 1) 2 else f s) := by
              refine ⟨by rw [f3.c (by simp; omega)]; exact hT2.1, fun s hs => ?_⟩
              rw [e3, puS_s]
              show _ = nI (if s = L.getD a 0 then numN L (a + 1) 2 else f s)
              by_cases qq : s = L.getD a 0
              · rw [if_pos qq, qq, upd_s, hT2.2 _ hb0, h0 _ (by omega), nI_add, Nat.zero_add]
              · rw [if_neg qq, upd_n qq]
                exact hT2.2 s hs
            obtain ⟨S', c1, c2, c3, c4⟩ := ih (i + 1) (n + 1) (L.getD a 0 + 1) (sm + numN L (a + 1) 2) (a + 1) (a + 3) _ (nI (L.getD a 0)) S3 (by omega) (by omega) (b2.of f3 (by simp; omega) (by simp; omega) (by simp) (by
              rw [e3, puS_n (by omega)]; exact b2.2.2.2.2)) (by omega) (by rw [f3.2 4 (by simp)]; exact h42) hT3 (fun b hb' => by rw [nI_leI (by omega) (by omega)]; omega) (fun s hs => by
                show (if s = L.getD a 0 then numN L (a + 1) 2 else f s) = 0
                rw [if_neg (by omega)]
                exact h0 s (by omega)) (by omega) (by omega) r q g hR
            refine ⟨S', hgo2 _ ?_, c2, c3, F2.tr ((f3.mono (by simp) (by simp)).tr c4)⟩
            refine e_bd b1 ?_
            rw [if_neg (show ¬ nI (numN L (a + 1) 2) < (1 : Int32) by rw [show (1 : Int32) = nI 1 from rfl, nI_ltI (by omega) (by omega)]; omega), h42, pin_eq, (tab_62 hz).1, if_pos hz]
            refine e_bd (places_s hT2.1 hlg) ?_
            rw [if_neg (by rw [nI_ltI (by omega) (by omega)]; omega), sh102_eq]
            refine e_bd (dem1 (by decide)) ?_
            unfold sh102R
            rw [h42, pin_eq, (tab_62 hz).1, if_pos hz]
            refine e_bd (change_s hb0) ?_
            rw [← e3, pin_eq, pin_eq, nI_add, nI_1]
            exact c1
theorem nI_nm : ∀ b, b < 256 → ¬ nI b ≤ (-1 : Int32) := by decide +kernel
theorem shares_s {fu kt lg r q : Nat} {g : Nat → Nat} {L : List Nat} {S : St} (hfu : 20000 ≤ fu) (hz : zx_tab kt = true) (hlg : lg ≤ 12) (h4 : S 7 4 = nI kt) (h : Lv S L 3) (hT : TabC S kt lg (fun _ => 0)) (hR : shR L lg = (r, q, g)) : ∃ S', f_X1_readShares fu S = some (0, S') ∧ (r ≠ 0 → Dd S' L r q) ∧ (r = 0 → Lv S' L q ∧ TabC S' kt lg g) ∧ F7 [6, 7, 8] [kt + 1] S S' := by
  have hr := tab_rng hz
  have hb := h.1.2.2.1
  unfold shR at hR
  rcases rdN_s (k := 1) hfu (by omega) h (by omega) with ⟨l1, S1, a1, a2, a3⟩ | ⟨l1, S1, a1, a2, a3⟩
  · rw [if_pos (by omega)] at hR
    simp only [Prod.mk.injEq] at hR
    obtain ⟨rfl, rfl, rfl⟩ := hR
    obtain ⟨fu, rfl⟩ : ∃ e, fu = e + 1 := ⟨fu - 1, by omega⟩
    refine ⟨S1, ?_, fun _ => a2, fun c => absurd c (by decide), a3.mono (by simp) (by simp)⟩
    unfold f_X1_readShares
    refine e_bd a1 ?_
    rw [pin_eq, pin_eq]
    exact sh21_d hz (by rw [a3.2 4 (by simp)]; exact h4) a2 _ _ _ _ _
  · rw [if_neg (by omega)] at hR
    rw [num1] at a1
    have hb0 : L.getD 3 0 < 256 := getD_lt hb (by omega)
    have hT1 : TabC S1 kt lg (fun _ => 0) := hT.of (a3.c (by simp; omega)) (a3.c (by simp; omega))
    obtain ⟨S', c1, c2, c3, c4⟩ := shC_loop (fu := fu) (m := L.getD 3 0 + 1) hfu hz hlg (by omega) (L.getD 3 0 + 1) 0 fu 0 0 4 4 (fun _ => 0) (-1) S1 (by omega) (by omega) a2 (by omega) (by rw [a3.2 4 (by simp)]; exact h4) hT1 (fun b hb' => by
      refine ⟨fun c => ?_, fun c => absurd c (by omega)⟩
      exfalso
      exact nI_nm b hb' c) (fun s _ => rfl) (by omega) (by omega) r q g (by rw [shP_s] at hR ⊢; exact hR)
    refine ⟨S', ?_, c2, c3, (a3.mono (by simp) (by simp)).tr c4⟩
    unfold f_X1_readShares
    refine e_bd a1 ?_
    rw [nI_1, pin_eq, a2.2.2.2.2, pin_eq]
    exact c1
theorem shares_d {fu kt r q : Nat} {L : List Nat} {S : St} (hfu : 20000 ≤ fu) (hz : zx_tab kt = true) (h4 : S 7 4 = nI kt) (h : Dd S L r q) : f_X1_readShares fu S = some (0, S) := by
  obtain ⟨fu, rfl⟩ : ∃ e, fu = e + 1 := ⟨fu - 1, by omega⟩
  unfold f_X1_readShares
  refine e_bd (rdN_d h) ?_
  rw [pin_eq, pin_eq]
  exact sh21_d hz h4 h _ _ _ _ _
