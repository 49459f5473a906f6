/-! the invariant between class and reference -/
/-- SHARES f with LOG lg -/
def SumOK (f : Nat → Nat) (lg : Nat) : Prop := (1 ≤ lg ∧ ∀ s, 256 ≤ s → f s = 0) ∧ lg ≤ 12 ∧ fb_sm f 256 = 2 ^ lg
/-- the SYMBOL whose PLACES the k-th one is among, the SYMBOLS rising -/
def syA (f : Nat → Nat) (k : Nat) : Nat := fa_first (fun s => decide (k < fb_sm f (s + 1))) 256
/-- the STEP of ROW and STRIDE, and its inverse modulo 2^lg -/
def stepN (lg w : Nat) : Nat := if w = 0 then 1 else (2 ^ lg / 2 + 2 ^ lg / 8 + 3) ||| 1
def stepI (lg w : Nat) : Nat := if w = 0 then 1 else [0, 1, 1, 1, 5, 7, 3, 91, 11, 363, 43, 1451, 171].getD lg 0
/-- how many of the PLACES below p have s -/
def ctS (g : Nat → Nat) (s p : Nat) : Nat := fb_ct (fun q => g q == s) p
/-- the heap of EVEN: swaps from place k on -/
def hpAhead (f tk : Nat → Nat) (x y : Nat) : Bool := decide ((2 * tk x + 1) * f y < (2 * tk y + 1) * f x) || (decide ((2 * tk x + 1) * f y = (2 * tk y + 1) * f x) && decide (x < y))
def hpChild (f tk h : Nat → Nat) (n c : Nat) : Nat := if c + 1 < n ∧ hpAhead f tk (h (c + 1)) (h c) = true then c + 1 else c
def swN (h : Nat → Nat) (i j : Nat) : Nat → Nat := fun k => if k = i then h j else if k = j then h i else h k
def hpSink (f tk : Nat → Nat) (n : Nat) : Nat → Nat → (Nat → Nat) → (Nat → Nat)
  | 0, _, h => h
  | fl + 1, k, h => if n ≤ 2 * k + 1 then h else if hpAhead f tk (h (hpChild f tk h n (2 * k + 1))) (h k) = true then hpSink f tk n fl (hpChild f tk h n (2 * k + 1)) (swN h k (hpChild f tk h n (2 * k + 1))) else h
def hpS (f tk : Nat → Nat) (n k : Nat) (h : Nat → Nat) : Nat → Nat := hpSink f tk n 300 k h
/-- the heap's first content: the SYMBOLS with SHARES, rising -/
def hpInit (f : Nat → Nat) : Nat → Nat × (Nat → Nat)
  | 0 => (0, fun _ => 0)
  | s + 1 => if 0 < f s then ((hpInit f s).1 + 1, fun i => if i = (hpInit f s).1 then s else (hpInit f s).2 i) else hpInit f s
def hpBuild (f : Nat → Nat) (n : Nat) : Nat → (Nat → Nat) → (Nat → Nat)
  | 0, h => hpS f (fun _ => 0) n 0 h
  | k + 1, h => hpBuild f n k (hpS f (fun _ => 0) n (k + 1) h)
/-- one PLACE of EVEN -/
def hpTk (h tk : Nat → Nat) : Nat → Nat := fun x => if x = h 0 then tk x + 1 else tk x
def hpStep (f : Nat → Nat) (q : Nat × (Nat → Nat) × (Nat → Nat)) : Nat × (Nat → Nat) × (Nat → Nat) :=
  if hpTk q.2.1 q.2.2 (q.2.1 0) = f (q.2.1 0) ∧ 1 < q.1 then (q.1 - 1, hpS f (hpTk q.2.1 q.2.2) (q.1 - 1) 0 (fun i => if i = 0 then q.2.1 (q.1 - 1) else q.2.1 i), hpTk q.2.1 q.2.2)
  else (q.1, hpS f (hpTk q.2.1 q.2.2) q.1 0 q.2.1, hpTk q.2.1 q.2.2)
def hpRun (f : Nat → Nat) : Nat → Nat × (Nat → Nat) × (Nat → Nat)
  | 0 => ((hpInit f 256).1, hpBuild f (hpInit f 256).1 ((hpInit f 256).1 / 2) (hpInit f 256).2, fun _ => 0)
  | p + 1 => hpStep f (hpRun f p)
/-- the SYMBOL of a PLACE by a SPREAD -/
def sy (f : Nat → Nat) (lg w p : Nat) : Nat := if w = 2 then (hpRun f p).2.1 0 else syA f (p * stepI lg w % 2 ^ lg)
/-- the RANK, and where the PLACE stands among its SYMBOL's -/
def rkN (f g : Nat → Nat) (p : Nat) : Nat := f (g p) + ctS g (g p) p
def ixN (f g : Nat → Nat) (p : Nat) : Nat := fb_sm f (g p) + ctS g (g p) p
/-- what the class keeps laid -/
def LC (S : St) (f : Nat → Nat) (lg w : Nat) : Prop := S 9 7 = nI (2 ^ lg) ∧ (∀ s, s < 256 → S 12 s = nI (f s)) ∧ (∀ s, s < 256 → S 13 s = nI (fb_sm f s)) ∧ (∀ p, p < 2 ^ lg → S 10 p = nI (rkN f (sy f lg w) p * 256 + sy f lg w p)) ∧ ∀ p, p < 2 ^ lg → S 11 (ixN f (sy f lg w) p) = nI p
/-- what the reference has laid of TABLE t -/
def LM (S : St) (f : Nat → Nat) (lg w t : Nat) : Prop := (∀ p, p < 2 ^ lg → S 50 (4096 * (3 * t + w) + p) = nI (sy f lg w p)) ∧ (∀ p, p < 2 ^ lg → S 51 (4096 * (3 * t + w) + p) = nI (rkN f (sy f lg w) p)) ∧ ∀ p, p < 2 ^ lg → S 52 (4096 * (3 * t + w) + ixN f (sy f lg w) p) = nI p
def I_rows (S : St) (L O : List Nat) : Prop := RowC S 1 L ∧ RowM S 44 1 L ∧ RowC S 3 O ∧ RowM S 45 3 O
/-- a TABLE of the class: its LOG and SHARES -/
def TabC (S : St) (k lg : Nat) (f : Nat → Nat) : Prop := S k 1 = nI lg ∧ ∀ s, s < 256 → S (k + 1) s = nI (f s)
def TabM (S : St) (t lg : Nat) (f : Nat → Nat) : Prop := S 46 t = nI lg ∧ (∀ s, s < 256 → S 47 (256 * t + s) = nI (f s)) ∧ ∀ s, s < 256 → S 48 (256 * t + s) = nI (fb_sm f s)
/-- nothing behind the SYMBOLS -/
def cutF (f : Nat → Nat) : Nat → Nat := fun s => if s < 256 then f s else 0
theorem cutF_in {f : Nat → Nat} {s : Nat} (h : s < 256) : cutF f s = f s := if_pos h
theorem cutF_out {f : Nat → Nat} {s : Nat} (h : 256 ≤ s) : cutF f s = 0 := if_neg (by omega)
theorem cutF_sm {f : Nat → Nat} {n : Nat} (h : n ≤ 256) : fb_sm (cutF f) n = fb_sm f n := fb_sm_cong (fun k hk => cutF_in (by omega))
theorem TabC.cut {S : St} {k lg : Nat} {f : Nat → Nat} (h : TabC S k lg f) : TabC S k lg (cutF f) := ⟨h.1, fun s hs => by rw [cutF_in hs]; exact h.2 s hs⟩
theorem TabM.cut {S : St} {t lg : Nat} {f : Nat → Nat} (h : TabM S t lg f) : TabM S t lg (cutF f) := ⟨h.1, fun s hs => by rw [cutF_in hs]; exact h.2.1 s hs, fun s hs => by rw [cutF_sm (by omega)]; exact h.2.2 s hs⟩
def I_perm (S : St) (tc : Nat → Nat) : Prop := (∀ j, j < 7 → zx_tab (tc j) = true) ∧ (∀ i j, i < 7 → j < 7 → tc i = tc j → i = j) ∧ (∀ t, t < 6 → S 5 t = nI (tc t)) ∧ S 7 4 = nI (tc 6)
def I_tab (S : St) (tc : Nat → Nat) (lg : Nat → Nat) (f : Nat → Nat → Nat) : Prop := ∀ t, t < 6 → (lg t = 0 ∧ S (tc t) 1 = nI 0 ∧ S 46 t = nI 0) ∨ (SumOK (f t) (lg t) ∧ TabC S (tc t) (lg t) (f t) ∧ TabM S t (lg t) (f t))
def I_cache (S : St) (tc : Nat → Nat) : Prop := S 9 9 = nI 0 ∨ ∃ (j : Nat) (f : Nat → Nat) (lg w : Nat), j < 7 ∧ w < 3 ∧ S 9 9 = nI (tc j) ∧ S 9 8 = nI w ∧ SumOK f lg ∧ TabC S (tc j) lg f ∧ LC S f lg w
def I_laid (S : St) (lg : Nat → Nat) (f : Nat → Nat → Nat) : Prop := ∀ t w, t < 6 → w < 3 → 0 < lg t → ¬ S 49 (3 * t + w) = 0 → LM S (f t) (lg t) w t
def I_misc (S : St) : Prop := S 7 5 = 0 ∧ S 7 6 = S 43 16 ∧ S 7 7 = S 43 17 ∧ S 0 9 = S 43 18 ∧ S 0 10 = S 43 19 ∧ ∀ j, j < 6 → S 40 j = S 56 j
def zx_I (S : St) : Prop := ∃ (L O : List Nat) (tc lg : Nat → Nat) (f : Nat → Nat → Nat), I_rows S L O ∧ I_perm S tc ∧ I_tab S tc lg f ∧ I_cache S tc ∧ I_laid S lg f ∧ I_misc S
/-! what stays when other cells change -/
theorem I_rows.of {S S' : St} {L O : List Nat} (h : I_rows S L O) (hk : ∀ k, k = 1 ∨ k = 2 ∨ k = 3 ∨ k = 4 ∨ k = 44 ∨ k = 45 → S' k = S k) (h1 : S' 43 1 = S 43 1) (h3 : S' 43 3 = S 43 3) : I_rows S' L O := by
  obtain ⟨a, b, c, d⟩ := h
  exact ⟨a.of (hk 1 (by omega)) (hk 2 (by omega)), b.of h1 (hk 44 (by omega)), c.of (hk 3 (by omega)) (hk 4 (by omega)), d.of h3 (hk 45 (by omega))⟩
theorem tab_rng {k : Nat} (h : zx_tab k = true) : 20 ≤ k ∧ k + 1 ≤ 33 := by rcases zx_tab_c h with rfl | rfl | rfl | rfl | rfl | rfl | rfl <;> decide
theorem I_perm.of {S S' : St} {tc : Nat → Nat} (h : I_perm S tc) (h5 : S' 5 = S 5) (h7 : S' 7 4 = S 7 4) : I_perm S' tc := by
  obtain ⟨a, b, c, d⟩ := h
  exact ⟨a, b, fun t ht => by rw [h5]; exact c t ht, by rw [h7]; exact d⟩
theorem TabC.of {S S' : St} {k lg : Nat} {f : Nat → Nat} (h : TabC S k lg f) (h1 : S' k = S k) (h2 : S' (k + 1) = S (k + 1)) : TabC S' k lg f := by
  unfold TabC; rw [h1, h2]; exact h
theorem TabM.of {S S' : St} {t lg : Nat} {f : Nat → Nat} (h : TabM S t lg f) (h1 : S' 46 = S 46) (h2 : S' 47 = S 47) (h3 : S' 48 = S 48) : TabM S' t lg f := by
  unfold TabM; rw [h1, h2, h3]; exact h
theorem I_tab.of {S S' : St} {tc lg : Nat → Nat} {f : Nat → Nat → Nat} (h : I_tab S tc lg f) (hp : I_perm S tc) (hk : ∀ k, (20 ≤ k ∧ k ≤ 33) ∨ k = 46 ∨ k = 47 ∨ k = 48 → S' k = S k) : I_tab S' tc lg f := by
  intro t ht
  have hr := tab_rng (hp.1 t (by omega))
  rcases h t ht with ⟨a, b, c⟩ | ⟨a, b, c⟩
  · exact Or.inl ⟨a, by rw [hk _ (by omega)]; exact b, by rw [hk _ (by omega)]; exact c⟩
  · exact Or.inr ⟨a, b.of (hk _ (by omega)) (hk _ (by omega)), c.of (hk _ (by omega)) (hk _ (by omega)) (hk _ (by omega))⟩
theorem LC.of {S S' : St} {f : Nat → Nat} {lg w : Nat} (h : LC S f lg w) (h9 : S' 9 7 = S 9 7) (hk : ∀ k, 10 ≤ k → k ≤ 13 → S' k = S k) : LC S' f lg w := by
  unfold LC
  rw [h9, hk 10 (by omega) (by omega), hk 11 (by omega) (by omega), hk 12 (by omega) (by omega), hk 13 (by omega) (by omega)]
  exact h
theorem I_cache.of {S S' : St} {tc : Nat → Nat} (h : I_cache S tc) (hp : I_perm S tc) (hk : ∀ k, (9 ≤ k ∧ k ≤ 13) ∨ (20 ≤ k ∧ k ≤ 33) → S' k = S k) : I_cache S' tc := by
  rcases h with a | ⟨j, f, lg, w, a1, a2, a3, a4, a5, a6, a7⟩
  · exact Or.inl (by rw [hk _ (by omega)]; exact a)
  · have hr := tab_rng (hp.1 j a1)
    exact Or.inr ⟨j, f, lg, w, a1, a2, by rw [hk _ (by omega)]; exact a3, by rw [hk _ (by omega)]; exact a4, a5, a6.of (hk _ (by omega)) (hk _ (by omega)), a7.of (by rw [hk _ (by omega)]) (fun k h1 h2 => hk k (by omega))⟩
theorem LM.of {S S' : St} {f : Nat → Nat} {lg w t : Nat} (h : LM S f lg w t) (h1 : S' 50 = S 50) (h2 : S' 51 = S 51) (h3 : S' 52 = S 52) : LM S' f lg w t := by
  unfold LM; rw [h1, h2, h3]; exact h
theorem I_laid.of {S S' : St} {lg : Nat → Nat} {f : Nat → Nat → Nat} (h : I_laid S lg f) (hk : ∀ k, 49 ≤ k → k ≤ 52 → S' k = S k) : I_laid S' lg f := by
  intro t w ht hw hl hn
  rw [hk 49 (by omega) (by omega)] at hn
  exact (h t w ht hw hl hn).of (hk 50 (by omega) (by omega)) (hk 51 (by omega) (by omega)) (hk 52 (by omega) (by omega))
theorem I_misc.of {S S' : St} (h : I_misc S) (h7 : S' 7 = S 7) (h0 : S' 0 = S 0) (h40 : S' 40 = S 40) (h56 : S' 56 = S 56) (h43 : ∀ j, 16 ≤ j → j ≤ 19 → S' 43 j = S 43 j) : I_misc S' := by
  unfold I_misc
  rw [h7, h0, h40, h56, h43 16 (by omega) (by omega), h43 17 (by omega) (by omega), h43 18 (by omega) (by omega), h43 19 (by omega) (by omega)]
  exact h
theorem inv_0 : zx_I zx_S0 := by
  refine ⟨[], [], fun j => 20 + 2 * j, fun _ => 0, fun _ _ => 0, ⟨⟨rfl, by decide, fun b h => (by cases h), fun j h => (by cases h), ?_⟩, ⟨rfl, fun j h => (by cases h)⟩, ⟨rfl, by decide, fun b h => (by cases h), fun j h => (by cases h), ?_⟩, ⟨rfl, fun j h => (by cases h)⟩⟩, ⟨?_, ?_, ?_, rfl⟩, ?_, Or.inl rfl, ?_, ⟨rfl, rfl, rfl, rfl, rfl, fun j _ => rfl⟩⟩
  · intro j _; rfl
  · intro j _; rfl
  · decide
  · intro i j _ _ h
    have h : 20 + 2 * i = 20 + 2 * j := h
    omega
  · intro t ht
    match t, ht with
    | 0, _ => rfl
    | 1, _ => rfl
    | 2, _ => rfl
    | 3, _ => rfl
    | 4, _ => rfl
    | 5, _ => rfl
    | t + 6, h => exact absurd h (by omega)
  · intro t ht
    refine Or.inl ⟨rfl, ?_, rfl⟩
    match t, ht with
    | 0, _ => rfl
    | 1, _ => rfl
    | 2, _ => rfl
    | 3, _ => rfl
    | 4, _ => rfl
    | 5, _ => rfl
    | t + 6, h => exact absurd h (by omega)
  · intro t w _ _ h
    exact absurd (show 0 < 0 from h) (by decide)
