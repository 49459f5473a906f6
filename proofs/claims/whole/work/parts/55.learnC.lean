/-! learn in the class -/
def encN (r : Nat) : Int32 := if r = 256 then -1 else nI r
theorem encN_m1 {r : Nat} (h : r ≤ 256) : encN r = -1 ↔ r = 256 := by
  unfold encN
  by_cases e : r = 256
  · rw [if_pos e]; exact ⟨fun _ => e, fun _ => rfl⟩
  · rw [if_neg e]
    refine ⟨fun q => ?_, fun q => absurd q e⟩
    have h1 : (nI r).toInt = r := nI_toInt (by omega)
    rw [q] at h1
    have : (-1 : Int32).toInt = -1 := by decide
    omega
theorem encN_in {r : Nat} (h : r ≠ 256) : encN r = nI r := by unfold encN; rw [if_neg h]
/-- the counts as the class has them -/
def CtC (S : St) (c : Nat → Nat) : Prop := ∀ s, s < 256 → S 6 s = nI (c s)
theorem places_s {S : St} {k m : Nat} (h : S k 1 = nI m) (hm : m ≤ 12) : f_X6_places k S = some (nI (2 ^ m), S) := by
  unfold f_X6_places
  rw [h]
  exact congrArg (fun z => some (z, S)) (shl1 hm)
theorem lackC_s {S : St} {k m C : Nat} {c f : Nat → Nat} (h : TabC S k m f) (hc : CtC S c) (hm : m ≤ 12) {s : Nat} (hs : s < 256) : f_X6_lack k (nI s) (nI C) S = some (lkI c C (2 ^ m) f s, S) := by
  unfold f_X6_lack
  rw [if_neg (nI_in hs (by omega))]
  refine e_bd (places_s h.1 hm) ?_
  rw [if_neg (nI_in hs (by omega)), nI_clamp (by omega), h.2 s hs, hc s hs, pk_mul, pk_mul]
  rfl
theorem nI_eq0 {a : Nat} (h : a < 2 ^ 31) : (nI a ≤ 0 ↔ a = 0) := by
  rw [show (0 : Int32) = nI 0 from rfl, nI_leI h (by omega)]
  omega
theorem mostC_keep {fu k : Nat} {p v2 v3 v4 : Int32} {K : Int32 → Int32 → Int32 → Int32 → St → Option (Int32 × St)} {i : Nat} {S : St} : f_X6_mostLacking_L54 fu k p K v2 v3 v4 (nI i) S = K v2 v3 v4 (nI (i + 1)) S := by
  unfold f_X6_mostLacking_L54
  rw [pin_eq, show nI i + (1 : Int32) = nI (i + 1) from nI_1 i]
theorem mostC_loop {fu k m C : Nat} {p : Int32} {c f : Nat → Nat} {S : St} (h : TabC S k m f) (hc : CtC S c) (hm : m ≤ 12) (hb : ∀ s, c s ≤ 4000) : ∀ (d i n : Nat) (v4 : Int32), i + d = 256 → d < n → (mbN c C (2 ^ m) f i ≠ 256 → v4 = lkI c C (2 ^ m) f (mbN c C (2 ^ m) f i)) → f_X6_mostLacking_L8 fu k p n (nI C) (encN (mbN c C (2 ^ m) f i)) v4 (nI i) S = some (encN (mbN c C (2 ^ m) f 256), S) := by
  intro d
  induction d with
  | zero =>
    intro i n v4 h1 h2 h3
    obtain ⟨n, rfl⟩ : ∃ m, n = m + 1 := ⟨n - 1, by omega⟩
    obtain rfl : i = 256 := by omega
    rw [f_X6_mostLacking_L8_s, if_pos (show (256 : Int32) ≤ nI 256 by decide)]
  | succ d ih =>
    intro i n v4 h1 h2 h3
    obtain ⟨n, rfl⟩ : ∃ m, n = m + 1 := ⟨n - 1, by omega⟩
    have hr : mbN c C (2 ^ m) f i ≤ 256 := by
      rcases mbN_lt c C (2 ^ m) f i (by omega) with q | q <;> omega
    have hci := hb i
    rw [f_X6_mostLacking_L8_s, if_neg (show ¬ (256 : Int32) ≤ nI i by rw [show (256 : Int32) = nI 256 from rfl, nI_leI (by omega) (by omega)]; omega), if_neg (nI_in (by omega) (by omega)), nI_clamp (by omega), hc i (by omega)]
    have take : f_X6_mostLacking_L41 fu k p (f_X6_mostLacking_L8 fu k p n) (nI C) (nI i) S = f_X6_mostLacking_L8 fu k p n (nI C) (nI i) (lkI c C (2 ^ m) f i) (nI (i + 1)) S := by
      unfold f_X6_mostLacking_L41 f_X6_mostLacking_L54
      exact e_bd (lackC_s h hc hm (by omega)) (by rw [pin_eq, show nI i + (1 : Int32) = nI (i + 1) from nI_1 i])
    by_cases h0 : c i = 0
    · rw [if_pos ((nI_eq0 (by omega)).mpr h0), mostC_keep]
      have e : mbN c C (2 ^ m) f (i + 1) = mbN c C (2 ^ m) f i := by rw [mbN, if_pos h0]
      have := ih (i + 1) n v4 (by omega) (by omega) (by rw [e]; exact h3)
      rw [e] at this
      exact this
    · rw [if_neg (fun q => h0 ((nI_eq0 (by omega)).mp q))]
      by_cases h4 : mbN c C (2 ^ m) f i = 256
      · rw [if_pos ((encN_m1 hr).mpr h4), take]
        have e : mbN c C (2 ^ m) f (i + 1) = i := by rw [mbN, if_neg h0, if_pos h4]
        have := ih (i + 1) n (lkI c C (2 ^ m) f i) (by omega) (by omega) (fun _ => by rw [e])
        rw [e, encN_in (by omega)] at this
        exact this
      · rw [if_neg (fun q => h4 ((encN_m1 hr).mp q))]
        refine e_bd (lackC_s h hc hm (by omega)) ?_
        rw [h3 h4]
        by_cases h5 : lkI c C (2 ^ m) f i ≤ lkI c C (2 ^ m) f (mbN c C (2 ^ m) f i)
        · rw [if_pos h5, mostC_keep]
          have e : mbN c C (2 ^ m) f (i + 1) = mbN c C (2 ^ m) f i := by rw [mbN, if_neg h0, if_neg h4, if_pos h5]
          have := ih (i + 1) n (lkI c C (2 ^ m) f (mbN c C (2 ^ m) f i)) (by omega) (by omega) (fun _ => by rw [e])
          rw [e] at this
          exact this
        · rw [if_neg h5, take]
          have e : mbN c C (2 ^ m) f (i + 1) = i := by rw [mbN, if_neg h0, if_neg h4, if_neg h5]
          have := ih (i + 1) n (lkI c C (2 ^ m) f i) (by omega) (by omega) (fun _ => by rw [e])
          rw [e, encN_in (by omega)] at this
          exact this
theorem mostC_s {fu k m C : Nat} {c f : Nat → Nat} {S : St} (hf : 20000 ≤ fu) (h : TabC S k m f) (hc : CtC S c) (hm : m ≤ 12) (hb : ∀ s, c s ≤ 4000) : f_X6_mostLacking fu k (nI C) S = some (encN (mbN c C (2 ^ m) f 256), S) := by
  exact mostC_loop h hc hm hb 256 0 fu 0 (by omega) (by omega) (fun q => absurd rfl q)
theorem leastC_keep {fu k : Nat} {p v2 v3 v4 : Int32} {K : Int32 → Int32 → Int32 → Int32 → St → Option (Int32 × St)} {i : Nat} {S : St} : f_X6_leastLacking_L58 fu k p K v2 v3 v4 (nI i) S = K v2 v3 v4 (nI (i + 1)) S := by
  unfold f_X6_leastLacking_L58
  rw [pin_eq, show nI i + (1 : Int32) = nI (i + 1) from nI_1 i]
theorem leastC_loop {fu k m C : Nat} {p : Int32} {c f : Nat → Nat} {S : St} (h : TabC S k m f) (hc : CtC S c) (hm : m ≤ 12) (hb : ∀ s, s < 256 → f s ≤ 2000000) : ∀ (d i n : Nat) (v4 : Int32), i + d = 256 → d < n → (laN c C (2 ^ m) f i ≠ 256 → v4 = lkI c C (2 ^ m) f (laN c C (2 ^ m) f i)) → f_X6_leastLacking_L8 fu k p n (nI C) (encN (laN c C (2 ^ m) f i)) v4 (nI i) S = some (encN (laN c C (2 ^ m) f 256), S) := by
  intro d
  induction d with
  | zero =>
    intro i n v4 h1 h2 h3
    obtain ⟨n, rfl⟩ : ∃ m, n = m + 1 := ⟨n - 1, by omega⟩
    obtain rfl : i = 256 := by omega
    rw [f_X6_leastLacking_L8_s, if_pos (show (256 : Int32) ≤ nI 256 by decide)]
  | succ d ih =>
    intro i n v4 h1 h2 h3
    obtain ⟨n, rfl⟩ : ∃ m, n = m + 1 := ⟨n - 1, by omega⟩
    have hr : laN c C (2 ^ m) f i ≤ 256 := by
      rcases laN_p c C (2 ^ m) f i (by omega) with q | q
      · have := q.1; omega
      · omega
    have hci := hb i (by omega)
    rw [f_X6_leastLacking_L8_s, if_neg (show ¬ (256 : Int32) ≤ nI i by rw [show (256 : Int32) = nI 256 from rfl, nI_leI (by omega) (by omega)]; omega), if_neg (nI_in (by omega) (by omega)), nI_clamp (by omega), h.2 i (by omega)]
    have take : f_X6_leastLacking_L45 fu k p (f_X6_leastLacking_L8 fu k p n) (nI C) (nI i) S = f_X6_leastLacking_L8 fu k p n (nI C) (nI i) (lkI c C (2 ^ m) f i) (nI (i + 1)) S := by
      unfold f_X6_leastLacking_L45 f_X6_leastLacking_L58
      exact e_bd (lackC_s h hc hm (by omega)) (by rw [pin_eq, show nI i + (1 : Int32) = nI (i + 1) from nI_1 i])
    have h1le : (nI (f i) ≤ (1 : Int32)) ↔ f i ≤ 1 := by rw [show (1 : Int32) = nI 1 from rfl, nI_leI (by omega) (by omega)]
    by_cases h0 : f i ≤ 1
    · rw [if_pos (h1le.mpr h0), leastC_keep]
      have e : laN c C (2 ^ m) f (i + 1) = laN c C (2 ^ m) f i := by rw [laN, if_pos h0]
      have := ih (i + 1) n v4 (by omega) (by omega) (by rw [e]; exact h3)
      rw [e] at this
      exact this
    · rw [if_neg (fun q => h0 (h1le.mp q))]
      by_cases h4 : laN c C (2 ^ m) f i = 256
      · rw [if_pos ((encN_m1 hr).mpr h4), take]
        have e : laN c C (2 ^ m) f (i + 1) = i := by rw [laN, if_neg h0, if_pos h4]
        have := ih (i + 1) n (lkI c C (2 ^ m) f i) (by omega) (by omega) (fun _ => by rw [e])
        rw [e, encN_in (by omega)] at this
        exact this
      · rw [if_neg (fun q => h4 ((encN_m1 hr).mp q))]
        refine e_bd (lackC_s h hc hm (by omega)) ?_
        rw [h3 h4]
        by_cases h5 : lkI c C (2 ^ m) f (laN c C (2 ^ m) f i) < lkI c C (2 ^ m) f i
        · rw [if_pos h5, leastC_keep]
          have e : laN c C (2 ^ m) f (i + 1) = laN c C (2 ^ m) f i := by rw [laN, if_neg h0, if_neg h4, if_pos h5]
          have := ih (i + 1) n (lkI c C (2 ^ m) f (laN c C (2 ^ m) f i)) (by omega) (by omega) (fun _ => by rw [e])
          rw [e] at this
          exact this
        · rw [if_neg h5, take]
          have e : laN c C (2 ^ m) f (i + 1) = i := by rw [laN, if_neg h0, if_neg h4, if_neg h5]
          have := ih (i + 1) n (lkI c C (2 ^ m) f i) (by omega) (by omega) (fun _ => by rw [e])
          rw [e, encN_in (by omega)] at this
          exact this
theorem leastC_s {fu k m C : Nat} {c f : Nat → Nat} {S : St} (hf : 20000 ≤ fu) (h : TabC S k m f) (hc : CtC S c) (hm : m ≤ 12) (hb : ∀ s, s < 256 → f s ≤ 2000000) : f_X6_leastLacking fu k (nI C) S = some (encN (lbN c C (2 ^ m) f 256), S) := by
  rw [← la_lb]
  exact leastC_loop h hc hm hb 256 0 fu 0 (by omega) (by omega) (fun q => absurd rfl q)
theorem change_s {S : St} {k : Nat} {x : Int32} {s : Nat} (hs : s < 256) : f_X6_change k (nI s) x S = some (0, puS S (k + 1) s (S (k + 1) s + x)) := by
  unfold f_X6_change
  refine e_bd (isSym_in hs S) ?_
  rw [if_neg (by decide), if_neg (nI_in hs (by omega)), if_neg (nI_in hs (by omega)), nI_clamp (by omega), pin_eq]
theorem growC_loop {fu k m C : Nat} {p q v4 : Int32} {c : Nat → Nat} (hf : 20000 ≤ fu) (hm : m ≤ 12) (hb : ∀ s, c s ≤ 4000) (hex : ∃ s, s < 256 ∧ 0 < c s) (hk : k ≠ 6 ∧ k + 1 ≠ 6) : ∀ (d n : Nat) (S : St) (f : Nat → Nat), d ≤ 4096 → d < n → TabC S k m f → CtC S c → ∃ S', f_X6_fit_L79 fu k p q n (nI C) v4 (nI d) S = f_X6_fit_L110 fu k p q fu (nI C) (v4 - nI (2 ^ m)) S' ∧ TabC S' k m (growN c C (2 ^ m) d f) ∧ CtC S' c ∧ Fr [k + 1] S S' := by
  intro d
  induction d with
  | zero =>
    intro n S f h0 h1 h2 h3
    obtain ⟨n, rfl⟩ : ∃ m, n = m + 1 := ⟨n - 1, by omega⟩
    refine ⟨S, ?_, h2, h3, Fr.rf⟩
    rw [f_X6_fit_L79_s, if_pos (by decide)]
    exact e_bd (places_s h2.1 hm) rfl
  | succ d ih =>
    intro n S f h0 h1 h2 h3
    obtain ⟨n, rfl⟩ : ∃ m, n = m + 1 := ⟨n - 1, by omega⟩
    have hlt : mbN c C (2 ^ m) f 256 < 256 := by
      rcases mbN_lt c C (2 ^ m) f 256 (by omega) with a | ⟨-, a⟩
      · exact a.1
      · obtain ⟨s, a1, a2⟩ := hex
        have := a s a1; omega
    generalize hbe : mbN c C (2 ^ m) f 256 = b at hlt
    have h4 : TabC (puS S (k + 1) b (S (k + 1) b + 1)) k m (incN f b) := by
      refine ⟨by rw [puS_n (by omega)]; exact h2.1, fun s hs => ?_⟩
      rw [puS_s]
      unfold incN
      by_cases e : s = b
      · rw [e, upd_s, if_pos rfl, h2.2 b hlt]; exact nI_1 _
      · rw [upd_n e, if_neg e]; exact h2.2 s hs
    obtain ⟨S', g1, g2, g3, g4⟩ := ih n _ _ (by omega) (by omega) h4 (fun s hs => by rw [puS_n (by omega)]; exact h3 s hs)
    refine ⟨S', ?_, ?_, g3, (Fr.rf.pu (by simp)).tr g4⟩
    · rw [f_X6_fit_L79_s, if_neg (nI_nle (by omega) (by omega))]
      refine e_bd (mostC_s hf h2 h3 hm hb) ?_
      rw [hbe, encN_in (by omega)]
      refine e_bd (change_s hlt) ?_
      rw [pin_eq, show nI (d + 1) + (-1 : Int32) = nI d from pk_m1 d]
      exact g1
    · rw [growN, hbe]; exact g2
/-- a SYMBOL without counts has no SHARE -/
def SupN (c f : Nat → Nat) : Prop := ∀ s, s < 256 → c s = 0 → f s = 0
theorem lb_ex {c f : Nat → Nat} {C M : Nat} (hs : SupN c f) (hM : fb_ct (fun s => decide (0 < c s)) 256 ≤ M) (hS : M < fb_sm f 256) : lbN c C M f 256 < 256 ∧ 1 < f (lbN c C M f 256) := by
  rcases lbN_p c C M f 256 (by omega) with ⟨a, -, b, -⟩ | ⟨-, a⟩
  · exact ⟨a, b⟩
  · exfalso
    have h : fb_sm f 256 ≤ fb_ct (fun s => decide (0 < c s)) 256 := by
      have : ∀ n, n ≤ 256 → fb_sm f n ≤ fb_ct (fun s => decide (0 < c s)) n := by
        intro n
        induction n with
        | zero => intro _; exact Nat.le_refl _
        | succ n ih =>
          intro hn
          have h1 := ih (by omega)
          have h2 := a n (by omega) (by omega)
          rw [fb_sm_succ, fb_ct_succ]
          by_cases h0 : c n = 0
          · have := hs n (by omega) h0
            simp [h0]; omega
          · simp [Nat.pos_of_ne_zero h0]; omega
      exact this 256 (by omega)
    omega
theorem SupN.dec {c f : Nat → Nat} (h : SupN c f) (s : Nat) : SupN c (decN f s) := by
  intro x hx h0
  have := h x hx h0
  unfold decN
  split
  · rename_i e; rw [← e, this]
  · exact this
theorem shrinkC_loop {fu k m C : Nat} {p q : Int32} {c : Nat → Nat} (hf : 20000 ≤ fu) (hm : m ≤ 12) (hkn : fb_ct (fun s => decide (0 < c s)) 256 ≤ 2 ^ m) (hk : k ≠ 6 ∧ k + 1 ≠ 6) : ∀ (d n : Nat) (S : St) (f : Nat → Nat), d ≤ 1100000 → d < n → TabC S k m f → CtC S c → SupN c f → fb_sm f 256 = 2 ^ m + d → ∃ S', f_X6_fit_L110 fu k p q n (nI C) (nI d) S = some (0, S') ∧ TabC S' k m (shrinkN c C (2 ^ m) d f) ∧ Fr [k + 1] S S' ∧ fb_sm (shrinkN c C (2 ^ m) d f) 256 = 2 ^ m := by
  intro d
  induction d with
  | zero =>
    intro n S f h0 h1 h2 h3 h4 h5
    obtain ⟨n, rfl⟩ : ∃ m, n = m + 1 := ⟨n - 1, by omega⟩
    refine ⟨S, ?_, h2, Fr.rf, h5⟩
    rw [f_X6_fit_L110_s, if_pos (by decide)]
  | succ d ih =>
    intro n S f h0 h1 h2 h3 h4 h5
    obtain ⟨n, rfl⟩ : ∃ m, n = m + 1 := ⟨n - 1, by omega⟩
    have hp := pow12 hm
    have hbd : ∀ s, s < 256 → f s ≤ 2000000 := fun s hs => by have := fb_sm_part f hs; omega
    obtain ⟨hlt, hgt⟩ := lb_ex (C := C) h4 hkn (by omega)
    generalize hbe : lbN c C (2 ^ m) f 256 = b at hlt hgt
    have hbb := hbd b hlt
    have h6 : TabC (puS S (k + 1) b (S (k + 1) b + -1)) k m (decN f b) := by
      refine ⟨by rw [puS_n (by omega)]; exact h2.1, fun s hs => ?_⟩
      rw [puS_s]
      unfold decN
      by_cases e : s = b
      · rw [e, upd_s, if_pos rfl, h2.2 b hlt]; exact nI_dec (by omega)
      · rw [upd_n e, if_neg e]; exact h2.2 s hs
    have h7 := decN_sm hlt hgt
    obtain ⟨S', g1, g2, g3, g4⟩ := ih n _ _ (by omega) (by omega) h6 (fun s hs => by rw [puS_n (by omega)]; exact h3 s hs) (h4.dec b) (by omega)
    refine ⟨S', ?_, ?_, (Fr.rf.pu (by simp)).tr g3, ?_⟩
    · rw [f_X6_fit_L110_s, if_neg (nI_nle (by omega) (by omega))]
      refine e_bd (leastC_s hf h2 h3 hm hbd) ?_
      rw [hbe, encN_in (by omega)]
      refine e_bd (change_s hlt) ?_
      rw [pin_eq, show nI (d + 1) + (-1 : Int32) = nI d from pk_m1 d]
      exact g1
    · rw [shrinkN, hbe]; exact g2
    · rw [shrinkN, hbe]; exact g4

theorem f0_bd {c : Nat → Nat} {C m : Nat} (hm : m ≤ 12) (hb : ∀ s, c s ≤ C) (hC : 0 < C) (s : Nat) : f0N c C (2 ^ m) s ≤ 4096 := by
  have hp := pow12 hm
  have h1 : c s * 2 ^ m / C ≤ 2 ^ m := by
    apply Nat.div_le_of_le_mul
    exact Nat.mul_le_mul_right _ (hb s)
  unfold f0N
  split
  · omega
  · split <;> omega
theorem f0_sm {c : Nat → Nat} {C m : Nat} (hm : m ≤ 12) (hb : ∀ s, c s ≤ C) (hC : 0 < C) {n : Nat} (hn : n ≤ 256) : fb_sm (f0N c C (2 ^ m)) n ≤ 1048576 := by
  have h := fb_sm_bound (f := f0N c C (2 ^ m)) (c := 4096) (n := n) (fun k _ => f0_bd hm hb hC k)
  omega
theorem f0_sup {c : Nat → Nat} {C M : Nat} : SupN c (f0N c C M) := by
  intro s _ h; unfold f0N; rw [if_pos h]
theorem f0_val {c : Nat → Nat} {C m s : Nat} (hm : m ≤ 12) (hb : c s ≤ C) (hC : 0 < C) (hC2 : C ≤ 4000) (h0 : c s ≠ 0) : (if (1 : Int32) < nI (c s) * nI (2 ^ m) / nI C then nI (c s) * nI (2 ^ m) / nI C else 1) = nI (f0N c C (2 ^ m) s) := by
  have hp := pow12 hm
  have h1 : c s * 2 ^ m ≤ 4000 * 4096 := Nat.mul_le_mul (by omega) hp
  have h2 : c s * 2 ^ m / C ≤ c s * 2 ^ m := Nat.div_le_self _ _
  have h4 : ((1 : Int32) < nI (c s * 2 ^ m / C)) ↔ 1 < c s * 2 ^ m / C := by rw [show (1 : Int32) = nI 1 from rfl, nI_ltI (by omega) (by omega)]
  rw [pk_mul, pk_div (by omega) hC (by omega)]
  unfold f0N
  rw [if_neg h0]
  by_cases h : 1 < c s * 2 ^ m / C
  · rw [if_pos (h4.mpr h), if_neg (by omega)]
  · rw [if_neg (fun z => h (h4.mp z))]
    by_cases h3 : c s * 2 ^ m / C = 0
    · rw [if_pos h3]; rfl
    · have h5 : c s * 2 ^ m / C = 1 := by generalize c s * 2 ^ m / C = z at *; omega
      rw [if_neg h3, h5]; rfl
theorem nI_in2 {c N : Nat} (h : c < N) (hN : N < 2 ^ 31) : ¬ (nI c < 0 ∨ N ≤ c) := fun q => q.elim (nI_pos (by omega)) (by omega)
theorem initC_loop {fu k m C : Nat} {p q : Int32} {c : Nat → Nat} (hm : m ≤ 12) (hb : ∀ s, c s ≤ C) (hC : 0 < C) (hC2 : C ≤ 4000) (hk : k ≠ 6 ∧ k + 1 ≠ 6) : ∀ (d i n : Nat) (S : St), i + d = 256 → d < n → S k 1 = nI m → (∀ s, s < 256 → S (k + 1) s = nI (if s < i then f0N c C (2 ^ m) s else 0)) → CtC S c → ∃ S', f_X6_fit_L11 fu k p q n (nI C) (nI (fb_sm (f0N c C (2 ^ m)) i)) (nI i) S = f_X6_fit_L79 fu k p q fu (nI C) (nI (fb_sm (f0N c C (2 ^ m)) 256)) (nI (2 ^ m) - nI (fb_sm (f0N c C (2 ^ m)) 256)) S' ∧ TabC S' k m (f0N c C (2 ^ m)) ∧ CtC S' c ∧ Fr [k + 1] S S' := by
  intro d
  induction d with
  | zero =>
    intro i n S h1 h2 h3 h4 h5
    obtain ⟨n, rfl⟩ : ∃ m, n = m + 1 := ⟨n - 1, by omega⟩
    obtain rfl : i = 256 := by omega
    refine ⟨S, ?_, ⟨h3, fun s hs => by rw [h4 s hs, if_pos hs]⟩, h5, Fr.rf⟩
    rw [f_X6_fit_L11_s, if_pos (show (256 : Int32) ≤ nI 256 by decide)]
    exact e_bd (places_s h3 hm) rfl
  | succ d ih =>
    intro i n S h1 h2 h3 h4 h5
    obtain ⟨n, rfl⟩ : ∃ m, n = m + 1 := ⟨n - 1, by omega⟩
    have hbi := hb i
    have hfb := f0_bd hm hb hC i
    rw [f_X6_fit_L11_s, if_neg (show ¬ (256 : Int32) ≤ nI i by rw [show (256 : Int32) = nI 256 from rfl, nI_leI (by omega) (by omega)]; omega), if_neg (nI_in (by omega) (by omega)), nI_clamp (by omega), h5 i (by omega)]
    have keep : ∀ (v4 : Int32) (S : St), f_X6_fit_L64 fu k p q (f_X6_fit_L11 fu k p q n) (nI C) v4 (nI i) S = f_X6_fit_L11 fu k p q n (nI C) v4 (nI (i + 1)) S := by
      intro v4 S
      unfold f_X6_fit_L64
      rw [pin_eq, show nI i + (1 : Int32) = nI (i + 1) from nI_1 i]
    by_cases h0 : c i = 0
    · rw [if_pos ((nI_eq0 (by omega)).mpr h0), keep]
      have e0 : f0N c C (2 ^ m) i = 0 := by unfold f0N; rw [if_pos h0]
      have := ih (i + 1) n S (by omega) (by omega) h3 (fun s hs => by
        rw [h4 s hs]
        by_cases e : s = i
        · rw [e, if_neg (by omega), if_pos (by omega), e0]
        · by_cases e2 : s < i
          · rw [if_pos e2, if_pos (by omega)]
          · rw [if_neg e2, if_neg (by omega)]) h5
      rw [fb_sm_succ, e0, Nat.add_zero] at this
      exact this
    · rw [if_neg (fun z => h0 ((nI_eq0 (by omega)).mp z)), if_neg (nI_nle hC (by omega)), if_neg (nI_in2 (by omega) (by omega))]
      obtain ⟨S1, eS1⟩ : ∃ z, z = puS S (k + 1) i (nI (f0N c C (2 ^ m) i)) := ⟨_, rfl⟩
      obtain ⟨S', g1, g2, g3, g4⟩ := ih (i + 1) n S1 (by omega) (by omega) (by rw [eS1, puS_n (by omega)]; exact h3) (fun s hs => by
        rw [eS1, puS_s]
        by_cases e : s = i
        · rw [e, upd_s, if_pos (by omega)]
        · rw [upd_n e, h4 s hs]
          by_cases e2 : s < i
          · rw [if_pos e2, if_pos (by omega)]
          · rw [if_neg e2, if_neg (by omega)]) (fun s hs => by rw [eS1, puS_n (by omega)]; exact h5 s hs)
      refine ⟨S', ?_, g2, g3, (by rw [eS1]; exact Fr.rf.pu (by simp) : Fr [k + 1] S S1).tr g4⟩
      refine e_bd (places_s h3 hm) ?_
      rw [if_neg (nI_ne0 hC (by omega)), if_neg (nI_in2 (by omega) (by omega)), pin_eq, f0_val hm (hb i) hC hC2 h0, ← eS1, if_neg (nI_in2 (by omega) (by omega)), pin_eq, keep, eS1, puS_s, upd_s, nI_add, ← eS1, ← fb_sm_succ]
      exact g1
theorem SupN.grow {c : Nat → Nat} {C M : Nat} (hex : ∃ s, s < 256 ∧ 0 < c s) : ∀ (d : Nat) (f : Nat → Nat), SupN c f → SupN c (growN c C M d f) ∧ fb_sm (growN c C M d f) 256 = fb_sm f 256 + d := by
  intro d
  induction d with
  | zero => intro f h; exact ⟨h, (Nat.add_zero _).symm⟩
  | succ d ih =>
    intro f h
    have hlt : mbN c C M f 256 < 256 ∧ 0 < c (mbN c C M f 256) := by
      rcases mbN_lt c C M f 256 (by omega) with a | ⟨-, a⟩
      · exact ⟨a.1, a.2⟩
      · obtain ⟨s, a1, a2⟩ := hex
        have := a s a1; omega
    have := ih (incN f (mbN c C M f 256)) (fun s hs h0 => by
      unfold incN
      rw [if_neg (fun e => by rw [e] at h0; omega)]
      exact h s hs h0)
    rw [incN_sm hlt.1] at this
    exact ⟨this.1, by rw [growN, this.2]; omega⟩
theorem fitC_s {fu k m C : Nat} {c : Nat → Nat} {S : St} (hf : 2000000 ≤ fu) (hk : zx_tab k = true) (hm : m ≤ 12) (hb : ∀ s, c s ≤ C) (hC : 0 < C) (hC2 : C ≤ 4000) (hex : ∃ s, s < 256 ∧ 0 < c s) (hkn : fb_ct (fun s => decide (0 < c s)) 256 ≤ 2 ^ m) (hc : CtC S c) : ∃ S', f_X6_fit fu k (nI C) (nI m) S = some (0, S') ∧ TabC S' k m (fitN c C (2 ^ m)) ∧ Fr [k, k + 1] S S' ∧ fb_sm (fitN c C (2 ^ m)) 256 = 2 ^ m := by
  have hr := tab_rng hk
  have hk6 : k ≠ 6 ∧ k + 1 ≠ 6 := by omega
  have hp := pow12 hm
  have hsm := f0_sm hm hb hC (n := 256) (by omega)
  have hia := zx_tab_ia hk
  obtain ⟨S1, eS1⟩ : ∃ z, z = upS (puS S k 1 (nI m)) (k + 1) (fiA (puS S k 1 (nI m) (k + 1)) (zx_len (k + 1)) 0) := ⟨_, rfl⟩
  have c1 : f_X6_clear fu k (nI m) S = some (0, S1) := by
    unfold f_X6_clear
    rw [pin_eq]
    exact e_bd (fill_s (by omega)) (by rw [← eS1])
  have f1 : Fr [k, k + 1] S S1 := by rw [eS1]; exact (Fr.rf.pu (by simp)).up (by simp)
  have hc1 : CtC S1 c := fun s hs => by rw [f1 6 (by simp; omega)]; exact hc s hs
  obtain ⟨S2, a1, a2, a3, a4⟩ := initC_loop (fu := fu) (p := nI C) (q := nI m) hm hb hC hC2 hk6 256 0 fu S1 (by omega) (by omega) (by rw [eS1, upS_n (by omega), puS_s, upd_s]) (fun s hs => by rw [eS1, upS_s, fiA, hia.2, if_pos hs, if_neg (by omega)]; rfl) hc1
  have key : ∃ S3, f_X6_fit_L11 fu k (nI C) (nI m) fu (nI C) (nI 0) (nI 0) S1 = some (0, S3) ∧ TabC S3 k m (fitN c C (2 ^ m)) ∧ Fr [k, k + 1] S S3 ∧ fb_sm (fitN c C (2 ^ m)) 256 = 2 ^ m := by
    have f2 : Fr [k, k + 1] S S2 := f1.tr (a4.mono (by simp))
    rw [show f_X6_fit_L11 fu k (nI C) (nI m) fu (nI C) (nI 0) (nI 0) S1 = _ from a1]
    generalize hs0 : fb_sm (f0N c C (2 ^ m)) 256 = s0 at *
    unfold fitN
    rw [hs0]
    by_cases hle : s0 ≤ 2 ^ m
    · have hg := SupN.grow (C := C) (M := 2 ^ m) hex (2 ^ m - s0) (f0N c C (2 ^ m)) f0_sup
      rw [hs0] at hg
      obtain ⟨S3, b1, b2, b3, b4⟩ := growC_loop (fu := fu) (p := nI C) (q := nI m) (v4 := nI s0) (C := C) (by omega) hm (fun s => by have := hb s; omega) hex hk6 (2 ^ m - s0) fu S2 _ (by omega) (by omega) a2 a3
      refine ⟨S3, ?_, ?_, f2.tr (b4.mono (by simp)), ?_⟩
      · rw [pk_sub hle, b1]
        obtain ⟨n, rfl⟩ : ∃ n, fu = n + 1 := ⟨fu - 1, by omega⟩
        rw [f_X6_fit_L110_s, if_pos]
        rw [fa_le, pk_sub_toInt (by omega) (by omega)]
        have : (0 : Int32).toInt = 0 := by decide
        omega
      · rw [show s0 - 2 ^ m = 0 by omega]; exact b2
      · rw [show s0 - 2 ^ m = 0 by omega]
        exact hg.2.trans (by omega)
    · obtain ⟨S3, b1, b2, b3, b4⟩ := shrinkC_loop (fu := fu) (p := nI C) (q := nI m) (C := C) (by omega) hm hkn hk6 (s0 - 2 ^ m) fu S2 _ (by omega) (by omega) a2 a3 f0_sup (by omega)
      have e0 : 2 ^ m - s0 = 0 := by omega
      rw [e0]
      refine ⟨S3, ?_, b2, f2.tr (b3.mono (by simp)), b4⟩
      have neg : nI (2 ^ m) - nI s0 ≤ 0 := by
        rw [fa_le, pk_sub_toInt (by omega) (by omega)]
        have : (0 : Int32).toInt = 0 := by decide
        omega
      have : f_X6_fit_L79 fu k (nI C) (nI m) fu (nI C) (nI s0) (nI (2 ^ m) - nI s0) S2 = f_X6_fit_L110 fu k (nI C) (nI m) fu (nI C) (nI s0 - nI (2 ^ m)) S2 := by
        obtain ⟨n, rfl⟩ : ∃ n, fu = n + 1 := ⟨fu - 1, by omega⟩
        rw [f_X6_fit_L79_s, if_pos neg]
        exact e_bd (places_s a2.1 hm) rfl
      rw [this, pk_sub (by omega)]
      exact b1
  obtain ⟨S3, b1, b2, b3, b4⟩ := key
  exact ⟨S3, e_bd c1 b1, b2, b3, b4⟩
