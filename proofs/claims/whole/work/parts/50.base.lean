/-! the pure side: numbers, frames, sums -/
theorem nI_lit (n : Nat) : (OfNat.ofNat n : Int32) = nI n := rfl
theorem nI_m1 : (-1 : Int32) = -nI 1 := rfl
/-- the guard of an array's index -/
theorem nI_gd {c N : Nat} (h : c < 2 ^ 31) : ((nI c < nI 0 ∨ N ≤ (nI c).toNatClampNeg) ↔ N ≤ c) := by
  rw [nI_clamp h]
  constructor
  · intro q
    rcases q with q | q
    · exact absurd q (nI_pos h)
    · exact q
  · exact Or.inr
theorem nI_lt0 {c : Nat} (h : c < 2 ^ 31) : (nI c < nI 0 ↔ False) := ⟨fun q => absurd q (nI_pos h), False.elim⟩
theorem nI_add1 (a : Nat) : nI a + nI 1 = nI (a + 1) := nI_add a 1
theorem upS_s {S : St} {k : Nat} {f : Nat → Int32} : upS S k f k = f := by simp [upS]
theorem upS_n {S : St} {k j : Nat} {f : Nat → Int32} (h : j ≠ k) : upS S k f j = S j := by simp [upS, h]
theorem puS_s {S : St} {k i : Nat} {v : Int32} : puS S k i v k = upd (S k) i v := by simp [puS, upS]
theorem puS_n {S : St} {k j i : Nat} {v : Int32} (h : j ≠ k) : puS S k i v j = S j := by simp [puS, upS, h]
theorem upd_s {f : Nat → Int32} {i : Nat} {v : Int32} : upd f i v i = v := by simp [upd]
theorem upd_n {f : Nat → Int32} {i j : Nat} {v : Int32} (h : j ≠ i) : upd f i v j = f j := by simp [upd, h]
theorem upS_upS {S : St} {k : Nat} {f g : Nat → Int32} : upS (upS S k f) k g = upS S k g := by
  funext j; by_cases h : j = k <;> simp [upS, h]
theorem upS_self {S : St} {k : Nat} : upS S k (S k) = S := by
  funext j; by_cases h : j = k <;> simp [upS, h]
/-- nothing but the cells ks has changed -/
def Fr (ks : List Nat) (S S' : St) : Prop := ∀ k, k ∉ ks → S' k = S k
theorem Fr.rf {ks : List Nat} {S : St} : Fr ks S S := fun _ _ => rfl
theorem Fr.tr {ks : List Nat} {S S1 S2 : St} (h1 : Fr ks S S1) (h2 : Fr ks S1 S2) : Fr ks S S2 := fun k hk => (h2 k hk).trans (h1 k hk)
theorem Fr.mono {ks ks' : List Nat} {S S' : St} (h : Fr ks S S') (hs : ∀ k ∈ ks, k ∈ ks') : Fr ks' S S' := fun k hk => h k fun q => hk (hs k q)
theorem Fr.up {ks : List Nat} {S S' : St} {k : Nat} {f : Nat → Int32} (h : Fr ks S S') (hk : k ∈ ks) : Fr ks S (upS S' k f) := fun j hj => by
  rw [upS_n (j := j) (k := k) (fun e => hj (by rw [e]; exact hk))]; exact h j hj
theorem Fr.pu {ks : List Nat} {S S' : St} {k i : Nat} {v : Int32} (h : Fr ks S S') (hk : k ∈ ks) : Fr ks S (puS S' k i v) := h.up hk
/-- steps toward an answer -/
theorem e_no {α : Type} {c : Prop} [Decidable c] {X : Option α} {R : Option α} (hc : ¬ c) (h : X = R) : (if c then none else X) = R := by rw [if_neg hc]; exact h
theorem e_bd {α β : Type} {x : Option (α × St)} {k : α → St → Option β} {R : Option β} {r : α} {S : St} (hx : x = some (r, S)) (h : k r S = R) : bnd x k = R := by rw [hx]; exact h
theorem pin_eq {α β : Type} (x : α) (k : α → β) : pin x k = k x := rfl
theorem bnd_some {α β : Type} (r : α) (S : St) (k : α → St → Option β) : bnd (some (r, S)) k = k r S := rfl
/-- an array with its first n places set to v -/
def fiA (f : Nat → Int32) (n : Nat) (v : Int32) : Nat → Int32 := fun j => if j < n then v else f j
theorem fill_loop {fu k : Nat} {p v : Int32} : ∀ (d i n : Nat) (S : St), i + d = zx_len k → zx_len k < 2 ^ 31 → d < n → f_J7_fill_53178_L5 fu k p n v (nI i) (nI (zx_len k)) S = some (nI 0, upS S k (fun j => if i ≤ j ∧ j < zx_len k then v else S k j)) := by
  intro d
  induction d with
  | zero =>
    intro i n S h1 h2 h3
    obtain ⟨n, rfl⟩ : ∃ m, n = m + 1 := ⟨n - 1, by omega⟩
    rw [f_J7_fill_53178_L5_s, if_pos (nI_le (by omega) (by omega)), nI_lit]
    congr 2
    have : (fun j => if i ≤ j ∧ j < zx_len k then v else S k j) = S k := by
      funext j; rw [if_neg (by omega)]
    rw [this, upS_self]
  | succ d ih =>
    intro i n S h1 h2 h3
    obtain ⟨n, rfl⟩ : ∃ m, n = m + 1 := ⟨n - 1, by omega⟩
    simp (disch := omega) only [f_J7_fill_53178_L5_s, pin_eq, nI_lit, nI_ltI, nI_leI, nI_clamp, nI_add, Nat.not_lt_zero, false_or]
    rw [if_neg (by omega), if_neg (by omega), ih (i + 1) n _ (by omega) h2 (by omega), puS, upS_upS]
    congr 3
    funext j
    rw [upS_s]
    by_cases hj : j = i
    · subst hj; rw [if_neg (by omega), if_pos (by omega), upd_s]
    · by_cases hj2 : i + 1 ≤ j ∧ j < zx_len k
      · rw [if_pos hj2, if_pos (by omega)]
      · rw [if_neg hj2, if_neg (by omega), upd_n hj]
theorem zx_len_lt (k : Nat) : zx_len k < 5000 := by unfold zx_len; repeat' split <;> try omega
theorem fill_s {fu k : Nat} {v : Int32} {S : St} (hf : 20000 ≤ fu) : f_J7_fill_53178 fu k v S = some (nI 0, upS S k (fiA (S k) (zx_len k) v)) := by
  have h := zx_len_lt k
  unfold f_J7_fill_53178
  rw [pin_eq, show (0 : Int32) = nI 0 from rfl, show Int32.ofNat (zx_len k) = nI (zx_len k) from rfl, fill_loop (zx_len k) 0 fu S (by omega) (by omega) (by omega)]
  congr 3
  funext j
  simp [fiA]
