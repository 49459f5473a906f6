/-! EVEN: the heap -/
def HI (f : Nat → Nat) (n : Nat) (h tk : Nat → Nat) : Prop := n ≤ 256 ∧ (∀ i, i < n → h i < 256 ∧ tk (h i) < f (h i)) ∧ (∀ i j, i < n → j < n → h i = h j → i = j) ∧ (∀ s, s < 256 → tk s ≤ f s) ∧ ∀ s, s < 256 → tk s < f s → ∃ i, i < n ∧ h i = s
theorem swN_at (h : Nat → Nat) (a b i : Nat) : swN h a b i = h (if i = a then b else if i = b then a else i) := by
  unfold swN
  by_cases e : i = a
  · rw [if_pos e, if_pos e]
  · rw [if_neg e, if_neg e]
    by_cases e2 : i = b
    · rw [if_pos e2, if_pos e2]
    · rw [if_neg e2, if_neg e2]
theorem HI.swap {f : Nat → Nat} {n : Nat} {h tk : Nat → Nat} (H : HI f n h tk) {a b : Nat} (ha : a < n) (hb : b < n) : HI f n (swN h a b) tk := by
  obtain ⟨h1, h2, h3, h4, h5⟩ := H
  have hlt : ∀ i, i < n → (if i = a then b else if i = b then a else i) < n := by
    intro i hi
    split
    · exact hb
    · split
      · exact ha
      · exact hi
  refine ⟨h1, fun i hi => by rw [swN_at]; exact h2 _ (hlt i hi), fun i j hi hj e => ?_, h4, fun s hs q => ?_⟩
  · rw [swN_at, swN_at] at e
    have e := h3 _ _ (hlt i hi) (hlt j hj) e
    (repeat' split at e) <;> omega
  · obtain ⟨i, hi, e⟩ := h5 s hs q
    refine ⟨if i = a then b else if i = b then a else i, hlt i hi, ?_⟩
    rw [swN_at, ← e]
    congr 1
    by_cases i1 : i = a
    · rw [if_pos i1]
      by_cases i3 : b = a
      · rw [if_pos i3]; omega
      · rw [if_neg i3, if_pos rfl]; omega
    · rw [if_neg i1]
      by_cases i2 : i = b
      · rw [if_pos i2, if_pos rfl]; omega
      · rw [if_neg i2, if_neg i1, if_neg i2]
theorem hpChild_p (f tk h : Nat → Nat) {n k : Nat} (hk : ¬ n ≤ 2 * k + 1) : hpChild f tk h n (2 * k + 1) < n ∧ k < hpChild f tk h n (2 * k + 1) := by
  unfold hpChild
  split <;> omega
theorem HI.sink {f tk : Nat → Nat} {n : Nat} : ∀ (fl k : Nat) (h : Nat → Nat), HI f n h tk → HI f n (hpSink f tk n fl k h) tk := by
  intro fl
  induction fl with
  | zero => intro k h H; exact H
  | succ fl ih =>
    intro k h H
    unfold hpSink
    by_cases hk : n ≤ 2 * k + 1
    · rw [if_pos hk]; exact H
    · rw [if_neg hk]
      obtain ⟨c1, c2⟩ := hpChild_p f tk h hk
      split
      · exact ih _ _ (H.swap (by omega) c1)
      · exact H
theorem HI.build {f : Nat → Nat} {n : Nat} : ∀ (k : Nat) (h : Nat → Nat), HI f n h (fun _ => 0) → HI f n (hpBuild f n k h) (fun _ => 0) := by
  intro k
  induction k with
  | zero => intro h H; exact HI.sink _ _ _ H
  | succ k ih => intro h H; exact ih _ (HI.sink _ _ _ H)
theorem hpInit_p (f : Nat → Nat) : ∀ s, s ≤ 256 → (hpInit f s).1 ≤ s ∧ (∀ i, i < (hpInit f s).1 → (hpInit f s).2 i < s ∧ 0 < f ((hpInit f s).2 i)) ∧ (∀ i j, i < (hpInit f s).1 → j < (hpInit f s).1 → (hpInit f s).2 i = (hpInit f s).2 j → i = j) ∧ ∀ x, x < s → 0 < f x → ∃ i, i < (hpInit f s).1 ∧ (hpInit f s).2 i = x := by
  intro s
  induction s with
  | zero => intro _; exact ⟨Nat.le_refl _, fun i h => absurd h (by simp [hpInit]), fun i j h => absurd h (by simp [hpInit]), fun x h => absurd h (by omega)⟩
  | succ s ih =>
    intro hs
    obtain ⟨a1, a2, a3, a4⟩ := ih (by omega)
    unfold hpInit
    by_cases h0 : 0 < f s
    · rw [if_pos h0]
      generalize hpInit f s = q at *
      refine ⟨by simp; omega, fun i hi => ?_, fun i j hi hj e => ?_, fun x hx h1 => ?_⟩
      · dsimp only at hi ⊢
        by_cases e : i = q.1
        · rw [if_pos e]; exact ⟨by omega, h0⟩
        · rw [if_neg e]
          have := a2 i (by omega)
          exact ⟨by omega, this.2⟩
      · dsimp only at hi hj e
        by_cases e1 : i = q.1 <;> by_cases e2 : j = q.1
        · omega
        · rw [if_pos e1, if_neg e2] at e
          have := (a2 j (by omega)).1; omega
        · rw [if_neg e1, if_pos e2] at e
          have := (a2 i (by omega)).1; omega
        · rw [if_neg e1, if_neg e2] at e
          exact a3 i j (by omega) (by omega) e
      · dsimp only
        by_cases e : x = s
        · exact ⟨q.1, by omega, by rw [if_pos rfl, e]⟩
        · obtain ⟨i, hi, ei⟩ := a4 x (by omega) h1
          exact ⟨i, by omega, by rw [if_neg (by omega)]; exact ei⟩
    · rw [if_neg h0]
      refine ⟨by omega, fun i hi => ?_, a3, fun x hx h1 => ?_⟩
      · have := a2 i hi
        exact ⟨by omega, this.2⟩
      · by_cases e : x = s
        · rw [e] at h1; omega
        · exact a4 x (by omega) h1
theorem HI.init (f : Nat → Nat) : HI f (hpInit f 256).1 (hpInit f 256).2 (fun _ => 0) := by
  obtain ⟨a1, a2, a3, a4⟩ := hpInit_p f 256 (by omega)
  exact ⟨a1, a2, a3, fun _ _ => Nat.zero_le _, a4⟩
/-- while not all is laid, the heap isn't empty -/
theorem HI.ne {f : Nat → Nat} {n : Nat} {h tk : Nat → Nat} (H : HI f n h tk) (hs : fb_sm tk 256 < fb_sm f 256) : 0 < n := by
  obtain ⟨h1, h2, h3, h4, h5⟩ := H
  rcases Nat.eq_zero_or_pos n with e | e
  · exfalso
    have : ∀ s, s < 256 → f s ≤ tk s := by
      intro s hs
      rcases Nat.lt_or_ge (tk s) (f s) with q | q
      · obtain ⟨i, hi, -⟩ := h5 s hs q; omega
      · exact q
    have := fb_sm_le (f := f) (g := tk) (n := 256) this
    omega
  · exact e
theorem tk_sum {h tk : Nat → Nat} (h0 : h 0 < 256) : fb_sm (hpTk h tk) 256 = fb_sm tk 256 + 1 := by
  have e : hpTk h tk = fun k => if k = h 0 then tk (h 0) + 1 else tk k := by
    funext x
    unfold hpTk
    by_cases q : x = h 0
    · rw [if_pos q, if_pos q, q]
    · rw [if_neg q, if_neg q]
  have := fb_sm_upd tk (tk (h 0) + 1) h0
  rw [e]
  omega
theorem HI.step {f : Nat → Nat} {q : Nat × (Nat → Nat) × (Nat → Nat)} (H : HI f q.1 q.2.1 q.2.2) (hs : fb_sm q.2.2 256 + 1 < fb_sm f 256) : HI f (hpStep f q).1 (hpStep f q).2.1 (hpStep f q).2.2 := by
  have hn := H.ne (by omega)
  obtain ⟨n, h, tk⟩ := q
  dsimp only at H hs hn ⊢
  obtain ⟨h1, h2, h3, h4, h5⟩ := id H
  have h00 := h2 0 hn
  have tk0 : hpTk h tk (h 0) = tk (h 0) + 1 := by unfold hpTk; rw [if_pos rfl]
  have tkn : ∀ x, x ≠ h 0 → hpTk h tk x = tk x := fun x hx => by unfold hpTk; rw [if_neg hx]
  have le4 : ∀ s, s < 256 → hpTk h tk s ≤ f s := by
    intro s hs'
    by_cases e : s = h 0
    · rw [e, tk0]; omega
    · rw [tkn s e]; exact h4 s hs'
  have hsum := tk_sum (tk := tk) h00.1
  unfold hpStep
  dsimp only
  by_cases c : hpTk h tk (h 0) = f (h 0) ∧ 1 < n
  · rw [if_pos c]
    refine HI.sink _ _ _ ⟨by omega, fun i hi => ?_, fun i j hi hj e => ?_, le4, fun s hs' q => ?_⟩
    · dsimp only at hi ⊢
      by_cases e : i = 0
      · rw [if_pos e]
        have := h2 (n - 1) (by omega)
        rw [tkn _ (fun z => by have := h3 _ _ (by omega) hn z; omega)]
        exact this
      · rw [if_neg e]
        have := h2 i (by omega)
        rw [tkn _ (fun z => by have := h3 _ _ (by omega) hn z; omega)]
        exact this
    · dsimp only at hi hj e
      by_cases e1 : i = 0 <;> by_cases e2 : j = 0
      · omega
      · rw [if_pos e1, if_neg e2] at e
        have := h3 _ _ (by omega) (by omega) e; omega
      · rw [if_neg e1, if_pos e2] at e
        have := h3 _ _ (by omega) (by omega) e; omega
      · rw [if_neg e1, if_neg e2] at e
        exact h3 _ _ (by omega) (by omega) e
    · dsimp only at q ⊢
      have hne : s ≠ h 0 := fun e => by rw [e] at q; omega
      rw [tkn s hne] at q
      obtain ⟨i, hi, ei⟩ := h5 s hs' q
      have hi0 : i ≠ 0 := fun e => hne (by rw [← ei, e])
      by_cases e : i = n - 1
      · exact ⟨0, by omega, by rw [if_pos rfl, ← e]; exact ei⟩
      · exact ⟨i, by omega, by rw [if_neg hi0]; exact ei⟩
  · rw [if_neg c]
    have hlt : hpTk h tk (h 0) < f (h 0) := by
      have h6 : ¬ (hpTk h tk (h 0) = f (h 0)) := by
        intro e
        have hn1 : n = 1 := by
          rcases Nat.lt_or_ge 1 n with z | z
          · exact absurd ⟨e, z⟩ c
          · omega
        have : ∀ s, s < 256 → f s ≤ hpTk h tk s := by
          intro s hs'
          rcases Nat.lt_or_ge (hpTk h tk s) (f s) with z | z
          · have hne : s ≠ h 0 := fun e2 => by rw [e2] at z; omega
            rw [tkn s hne] at z
            obtain ⟨i, hi, ei⟩ := h5 s hs' z
            exact absurd (by rw [← ei, show i = 0 by omega]) hne
          · exact z
        have := fb_sm_le (f := f) (g := hpTk h tk) (n := 256) this
        omega
      have := le4 _ h00.1
      omega
    refine HI.sink _ _ _ ⟨by omega, fun i hi => ⟨(h2 i hi).1, ?_⟩, h3, le4, fun s hs' q => ?_⟩
    · by_cases e : h i = h 0
      · rw [e]; exact hlt
      · rw [tkn _ e]; exact (h2 i hi).2
    · by_cases e : s = h 0
      · exact ⟨0, hn, e.symm⟩
      · rw [tkn s e] at q
        exact h5 s hs' q
theorem fb_zero (n : Nat) : fb_sm (fun _ => 0) n = 0 := by rw [fb_sm_const, Nat.mul_zero]
theorem hpStep_tk (f : Nat → Nat) (q : Nat × (Nat → Nat) × (Nat → Nat)) : (hpStep f q).2.2 = hpTk q.2.1 q.2.2 := by
  unfold hpStep
  split <;> rfl
theorem run_HI {f : Nat → Nat} : ∀ p, p < fb_sm f 256 → HI f (hpRun f p).1 (hpRun f p).2.1 (hpRun f p).2.2 ∧ fb_sm (hpRun f p).2.2 256 = p := by
  intro p
  induction p with
  | zero => intro _; exact ⟨HI.build _ _ (HI.init f), fb_zero 256⟩
  | succ p ih =>
    intro hp
    obtain ⟨a, b⟩ := ih (by omega)
    have hn := a.ne (by omega)
    refine ⟨a.step (by omega), ?_⟩
    show fb_sm (hpStep f (hpRun f p)).2.2 256 = p + 1
    rw [hpStep_tk, tk_sum (a.2.1 0 hn).1, b]
theorem run_tk {f : Nat → Nat} : ∀ p s, (hpRun f p).2.2 s = ctS (fun q => (hpRun f q).2.1 0) s p := by
  intro p
  induction p with
  | zero => intro s; rfl
  | succ p ih =>
    intro s
    rw [ctS_s, ← ih s]
    show (hpStep f (hpRun f p)).2.2 s = _
    rw [hpStep_tk]
    unfold hpTk
    by_cases e : s = (hpRun f p).2.1 0
    · rw [if_pos e, if_pos e.symm]
    · rw [if_neg e, if_neg (fun z => e z.symm), Nat.add_zero]
theorem layOK_even {f : Nat → Nat} {lg : Nat} (h : SumOK f lg) : LayOK (sy f lg 2) f (2 ^ lg) := by
  have hM := Nat.two_pow_pos lg
  have e : sy f lg 2 = fun q => (hpRun f q).2.1 0 := by
    funext p; unfold sy; rw [if_pos rfl]
  rw [e, ← h.2.2]
  have hm : 0 < fb_sm f 256 := by rw [h.2.2]; exact hM
  refine ⟨fun p hp => ?_, fun s hs => ?_⟩
  · obtain ⟨a, b⟩ := run_HI p hp
    exact (a.2.1 0 (a.ne (by omega))).1
  · rw [← run_tk]
    generalize hM2 : fb_sm f 256 = M at *
    obtain ⟨p, rfl⟩ : ∃ p, M = p + 1 := ⟨M - 1, by omega⟩
    obtain ⟨a, b⟩ := run_HI (f := f) p (by omega)
    show (hpStep f (hpRun f p)).2.2 s ≤ f s
    rw [hpStep_tk]
    have hn := a.ne (by omega)
    have h0 := a.2.1 0 hn
    unfold hpTk
    by_cases e2 : s = (hpRun f p).2.1 0
    · rw [if_pos e2, e2]; omega
    · rw [if_neg e2]; exact a.2.2.2.1 s hs
theorem layOK {f : Nat → Nat} {lg w : Nat} (h : SumOK f lg) (hw : w < 3) : LayOK (sy f lg w) f (2 ^ lg) := by
  rcases Nat.lt_or_ge w 2 with q | q
  · exact layOK_step h q
  · rw [show w = 2 by omega]; exact layOK_even h
