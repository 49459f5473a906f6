/-! SPREADS: what a layout is -/
theorem sm_mono (f : Nat → Nat) {a b : Nat} (h : a ≤ b) : fb_sm f a ≤ fb_sm f b := by
  have := fb_sm_mono f a (b - a)
  rwa [show a + (b - a) = b by omega] at this
theorem syA_p {f : Nat → Nat} {k : Nat} (h : k < fb_sm f 256) : syA f k < 256 ∧ fb_sm f (syA f k) ≤ k ∧ k < fb_sm f (syA f k + 1) := by
  have h1 : syA f k < 256 := by
    rcases Nat.lt_or_ge (syA f k) 256 with q | q
    · exact q
    · have := fa_first_no (fun s => decide (k < fb_sm f (s + 1))) 256 255 (by unfold syA at q; omega)
      simp at this
      omega
  refine ⟨h1, ?_, ?_⟩
  · rcases Nat.eq_zero_or_pos (syA f k) with e | e
    · rw [e]; exact Nat.zero_le _
    · have := fa_first_no (fun s => decide (k < fb_sm f (s + 1))) 256 (syA f k - 1) (by show syA f k - 1 < syA f k; omega)
      simp at this
      rwa [show syA f k - 1 + 1 = syA f k by omega] at this
  · have := fa_first_yes (fun s => decide (k < fb_sm f (s + 1))) 256 h1
    exact of_decide_eq_true this
theorem syA_u {f : Nat → Nat} {k s : Nat} (h : k < fb_sm f 256) (h1 : fb_sm f s ≤ k) (h2 : k < fb_sm f (s + 1)) : syA f k = s := by
  obtain ⟨a, b, c⟩ := syA_p h
  rcases Nat.lt_trichotomy (syA f k) s with q | q | q
  · have := sm_mono f (show syA f k + 1 ≤ s by omega); omega
  · exact q
  · have := sm_mono f (show s + 1 ≤ syA f k by omega); omega
theorem sm_eq {h f : Nat → Nat} : ∀ n, (∀ k, k < n → h k ≤ f k) → fb_sm f n ≤ fb_sm h n → ∀ k, k < n → h k = f k := by
  intro n
  induction n with
  | zero => intro _ _ k hk; exact absurd hk (by omega)
  | succ n ih =>
    intro h1 h2 k hk
    rw [fb_sm_succ, fb_sm_succ] at h2
    have h3 := fb_sm_le (f := h) (g := f) (n := n) (fun k hk => h1 k (by omega))
    have h4 := h1 n (by omega)
    by_cases e : k = n
    · rw [e]; omega
    · exact ih (fun k hk => h1 k (by omega)) (by omega) k (by omega)
theorem ct_sum (g : Nat → Nat) : ∀ M, (∀ p, p < M → g p < 256) → fb_sm (fun s => ctS g s M) 256 = M := by
  intro M
  induction M with
  | zero =>
    intro _
    have : (fun s => ctS g s 0) = fun _ => 0 := by funext s; rfl
    rw [this, fb_sm_const]
  | succ M ih =>
    intro h
    have h1 := ih (fun p hp => h p (by omega))
    have e : (fun s => ctS g s (M + 1)) = fun k => if k = g M then ctS g (g M) M + 1 else ctS g k M := by
      funext s
      unfold ctS
      rw [fb_ct_succ]
      by_cases q : s = g M
      · rw [if_pos q, q, if_pos (by simp)]
      · rw [if_neg q, if_neg (by simp; exact fun z => q z.symm), Nat.add_zero]
    rw [e]
    have h2 := fb_sm_upd (fun s => ctS g s M) (ctS g (g M) M + 1) (h M (by omega))
    omega
/-- each PLACE has a SYMBOL, and none more PLACES than its SHARE -/
def LayOK (g f : Nat → Nat) (M : Nat) : Prop := (∀ p, p < M → g p < 256) ∧ ∀ s, s < 256 → ctS g s M ≤ f s
theorem LayOK.eq {g f : Nat → Nat} {M : Nat} (h : LayOK g f M) (hs : fb_sm f 256 = M) : ∀ s, s < 256 → ctS g s M = f s :=
  sm_eq 256 h.2 (by rw [ct_sum g M h.1]; omega)
theorem ctS_mono (g : Nat → Nat) (s : Nat) {a b : Nat} (h : a ≤ b) : ctS g s a ≤ ctS g s b := fb_ct_mono _ h
theorem ctS_s (g : Nat → Nat) (s p : Nat) : ctS g s (p + 1) = ctS g s p + (if g p = s then 1 else 0) := by
  unfold ctS
  rw [fb_ct_succ]
  by_cases q : g p = s
  · rw [if_pos q, if_pos (by simp [q])]
  · rw [if_neg q, if_neg (by simp [q])]
theorem LayOK.ct {g f : Nat → Nat} {M p : Nat} (h : LayOK g f M) (hp : p < M) : ctS g (g p) p < f (g p) := by
  have h1 := ctS_s g (g p) p
  rw [if_pos rfl] at h1
  have h2 := ctS_mono g (g p) (show p + 1 ≤ M by omega)
  have h3 := h.2 (g p) (h.1 p hp)
  omega
theorem LayOK.ix {g f : Nat → Nat} {M p : Nat} (h : LayOK g f M) (hs : fb_sm f 256 = M) (hp : p < M) : ixN f g p < M := by
  have h1 := h.ct hp
  have h2 := sm_mono f (show g p + 1 ≤ 256 from h.1 p hp)
  rw [fb_sm_succ] at h2
  unfold ixN
  omega
theorem LayOK.inj {g f : Nat → Nat} {M p q : Nat} (h : LayOK g f M) (hp : p < M) (hq : q < M) (e : ixN f g p = ixN f g q) : p = q := by
  have a1 := h.ct hp
  have a2 := h.ct hq
  unfold ixN at e
  have hg : g p = g q := by
    rcases Nat.lt_trichotomy (g p) (g q) with z | z | z
    · have := sm_mono f (show g p + 1 ≤ g q by omega); rw [fb_sm_succ] at this; omega
    · exact z
    · have := sm_mono f (show g q + 1 ≤ g p by omega); rw [fb_sm_succ] at this; omega
  rw [hg] at e
  have e2 : ctS g (g q) p = ctS g (g q) q := by omega
  exact fb_ct_kth_one (p := fun z => g z == g q) (by simp [hg]) (by simp) e2
/-- every PLACE of a SYMBOL is found by its number -/
theorem LayOK.find {g f : Nat → Nat} {M : Nat} (h : LayOK g f M) (hs : fb_sm f 256 = M) {s i : Nat} (hs2 : s < 256) (hi : i < f s) : ∃ p, p < M ∧ g p = s ∧ ctS g s p = i := by
  have h1 := h.eq hs s hs2
  obtain ⟨p, h2, h3, h4⟩ := fb_ct_kth (p := fun z => g z == s) (k := i) (n := M) (by show i < ctS g s M; omega)
  exact ⟨p, h2, by simpa using h3, h4⟩
theorem LayOK.pos {g f : Nat → Nat} {M p : Nat} (h : LayOK g f M) (hp : p < M) : 0 < f (g p) := Nat.lt_of_le_of_lt (Nat.zero_le _) (h.ct hp)
-- ROW and STRIDE
theorem step_inv : ∀ lg, lg < 13 → 1 ≤ lg → (stepN lg 1 * stepI lg 1) % 2 ^ lg = 1 ∧ stepN lg 1 < 10000 ∧ (stepN lg 1 = if (2 ^ lg / 2 + 2 ^ lg / 8 + 3) % 2 = 0 then 2 ^ lg / 2 + 2 ^ lg / 8 + 3 + 1 else 2 ^ lg / 2 + 2 ^ lg / 8 + 3) := by decide +kernel
theorem stepinv {lg w : Nat} (h1 : 1 ≤ lg) (h2 : lg ≤ 12) (hw : w < 2) : (stepN lg w * stepI lg w) % 2 ^ lg = 1 ∧ stepN lg w < 10000 := by
  have hM : 2 ≤ 2 ^ lg := by
    have : 2 ^ 1 ≤ 2 ^ lg := Nat.pow_le_pow_right (by decide) h1
    omega
  match w, hw with
  | 0, _ => exact ⟨by show (1 * 1) % 2 ^ lg = 1; exact Nat.mod_eq_of_lt (by omega), by show 1 < 10000; decide⟩
  | 1, _ => exact ⟨(step_inv lg (by omega) h1).1, (step_inv lg (by omega) h1).2.1⟩
def posN (lg w k : Nat) : Nat := k * stepN lg w % 2 ^ lg
theorem posN_lt (lg w k : Nat) : posN lg w k < 2 ^ lg := Nat.mod_lt _ (Nat.two_pow_pos lg)
theorem posN_s (lg w k : Nat) : (posN lg w k + stepN lg w) % 2 ^ lg = posN lg w (k + 1) := by
  unfold posN
  rw [Nat.mod_add_mod, Nat.add_mul, Nat.one_mul]
theorem posN_inv {lg w k : Nat} (h1 : 1 ≤ lg) (h2 : lg ≤ 12) (hw : w < 2) (hk : k < 2 ^ lg) : posN lg w k * stepI lg w % 2 ^ lg = k := by
  have h := (stepinv h1 h2 hw).1
  unfold posN
  rw [Nat.mod_mul_mod, Nat.mul_assoc, Nat.mul_mod, h, Nat.mul_one, Nat.mod_mod, Nat.mod_eq_of_lt hk]
theorem posN_inv2 {lg w p : Nat} (h1 : 1 ≤ lg) (h2 : lg ≤ 12) (hw : w < 2) (hp : p < 2 ^ lg) : posN lg w (p * stepI lg w % 2 ^ lg) = p := by
  have h := (stepinv h1 h2 hw).1
  unfold posN
  rw [Nat.mod_mul_mod, Nat.mul_assoc, Nat.mul_comm (stepI lg w), Nat.mul_mod, h, Nat.mul_one, Nat.mod_mod, Nat.mod_eq_of_lt hp]
theorem posN_inj {lg w k k' : Nat} (h1 : 1 ≤ lg) (h2 : lg ≤ 12) (hw : w < 2) (hk : k < 2 ^ lg) (hk' : k' < 2 ^ lg) (e : posN lg w k = posN lg w k') : k = k' := by
  rw [← posN_inv h1 h2 hw hk, e, posN_inv h1 h2 hw hk']
theorem sy_pos {f : Nat → Nat} {lg w k : Nat} (h1 : 1 ≤ lg) (h2 : lg ≤ 12) (hw : w < 2) (hk : k < 2 ^ lg) : sy f lg w (posN lg w k) = syA f k := by
  unfold sy
  rw [if_neg (by omega), posN_inv h1 h2 hw hk]
theorem layOK_step {f : Nat → Nat} {lg w : Nat} (h : SumOK f lg) (hw : w < 2) : LayOK (sy f lg w) f (2 ^ lg) := by
  obtain ⟨⟨h1, -⟩, h2, h3⟩ := h
  have hM := Nat.two_pow_pos lg
  have hsy : ∀ p, sy f lg w p = syA f (p * stepI lg w % 2 ^ lg) := fun p => by unfold sy; rw [if_neg (by omega)]
  have hk : ∀ p, p * stepI lg w % 2 ^ lg < fb_sm f 256 := fun p => by rw [h3]; exact Nat.mod_lt _ hM
  refine ⟨fun p _ => by rw [hsy]; exact (syA_p (hk p)).1, fun s hs => ?_⟩
  -- the PLACES of s are as many as numbers among its SHARE
  have hch : ∀ i, ∃ p, i < ctS (sy f lg w) s (2 ^ lg) → p < 2 ^ lg ∧ sy f lg w p = s ∧ ctS (sy f lg w) s p = i := by
    intro i
    by_cases hi : i < ctS (sy f lg w) s (2 ^ lg)
    · obtain ⟨p, a, b, c⟩ := fb_ct_kth (p := fun z => sy f lg w z == s) (k := i) (n := 2 ^ lg) hi
      exact ⟨p, fun _ => ⟨a, by simpa using b, c⟩⟩
    · exact ⟨0, fun q => absurd q hi⟩
  refine fb_holes (f s) (ctS (sy f lg w) s (2 ^ lg)) (fun i => (Classical.choose (hch i)) * stepI lg w % 2 ^ lg - fb_sm f s) (fun i hi => ?_) (fun i j hij hj e => ?_)
  · obtain ⟨a, b, c⟩ := Classical.choose_spec (hch i) hi
    rw [hsy] at b
    obtain ⟨-, q1, q2⟩ := syA_p (hk (Classical.choose (hch i)))
    rw [b] at q1 q2
    rw [fb_sm_succ] at q2
    show Classical.choose (hch i) * stepI lg w % 2 ^ lg - fb_sm f s < f s
    omega
  · obtain ⟨a, b, c⟩ := Classical.choose_spec (hch i) (by omega)
    obtain ⟨a', b', c'⟩ := Classical.choose_spec (hch j) hj
    rw [hsy] at b b'
    obtain ⟨-, q1, -⟩ := syA_p (hk (Classical.choose (hch i)))
    obtain ⟨-, q2, -⟩ := syA_p (hk (Classical.choose (hch j)))
    rw [b] at q1
    rw [b'] at q2
    have e : Classical.choose (hch i) * stepI lg w % 2 ^ lg - fb_sm f s = Classical.choose (hch j) * stepI lg w % 2 ^ lg - fb_sm f s := e
    have e2 : Classical.choose (hch i) * stepI lg w % 2 ^ lg = Classical.choose (hch j) * stepI lg w % 2 ^ lg := by omega
    have e3 : Classical.choose (hch i) = Classical.choose (hch j) := by
      rw [← posN_inv2 h1 h2 hw a, ← posN_inv2 h1 h2 hw a', e2]
    rw [e3] at c
    omega
