/-! the world of all cells of the class (0 .. 42) and of the reference (43 .. 61), by number: St k j is the j-th int of cell k (an array's element; an object's field; of a reference that moves its cell's number, 0 for null) -/
abbrev St : Type := Nat → Nat → Int32
/-- the classes of int, byte, boolean arrays, and of the array of tables -/
abbrev zx_C : Type := ClassId × ClassId × ClassId × ClassId
def upS (S : St) (k : Nat) (f : Nat → Int32) : St := fun j => if j = k then f else S j
def puS (S : St) (k i : Nat) (v : Int32) : St := upS S k (upd (S k) i v)
def pin {α β : Type} (x : α) (k : α → β) : β := k x
def zx_rfo (a : Nat → Nat) (v : Int32) : Option Nat := if v = 0 then none else some (a v.toNatClampNeg)
def bnd {α β : Type} (x : Option (α × St)) (k : α → St → Option β) : Option β := match x with
  | none => none
  | some y => k y.1 y.2
def zx_cl (a : Nat → Nat) (cs : zx_C) : List ((Nat → Int32) → va_E) := [
  fun f => .inr (8, [.ref (a 1), .ref (a 3), .ref (a 5), .ref (a 6), .ref (a 7), .ref (a 8), .ref (a 34), .ref (a 39), .ref (a 41), .int (f 9), .int (f 10)]),
  fun f => .inr (4, [.ref (a 2), .int (f 1)]),
  fun f => .inl (cs.2.1, 4000, .inl f),
  fun f => .inr (4, [.ref (a 4), .int (f 1)]),
  fun f => .inl (cs.2.1, 4000, .inl f),
  fun f => .inl (cs.2.2.2, 6, .inr (.inr (.inr (.inr (fun j => zx_rfo a (f j)))))),
  fun f => .inl (cs.1, 256, .inl f),
  fun f => .inr (1, [.ref (a 8), .ref (a 16), .ref (a 18), .ref (a 19), va_rf (zx_rfo a (f 4)), va_rf (zx_rfo a (f 5)), .int (f 6), .int (f 7), .int (f 8), .int (f 9), .int (f 10), .int (f 11), .int (f 12), .int (f 13), .int (f 14), .int (f 15)]),
  fun f => .inr (0, [.ref (a 9), .int (f 1), .int (f 2), .int (f 3), .int (f 4), .int (f 5), .int (f 6), .int (f 7)]),
  fun f => .inr (5, [.ref (a 10), .ref (a 11), .ref (a 12), .ref (a 13), .ref (a 14), .ref (a 15), .int (f 6), .int (f 7), .int (f 8), va_rf (zx_rfo a (f 9))]),
  fun f => .inl (cs.1, 4096, .inl f),
  fun f => .inl (cs.1, 4096, .inl f),
  fun f => .inl (cs.1, 256, .inl f),
  fun f => .inl (cs.1, 256, .inl f),
  fun f => .inl (cs.1, 256, .inl f),
  fun f => .inl (cs.1, 256, .inl f),
  fun f => .inr (7, [.ref (a 17)]),
  fun f => .inl (cs.1, 6, .inl f),
  fun f => .inl (cs.1, 2, .inl f),
  fun f => .inl (cs.2.1, 1400, .inl f),
  fun f => .inr (6, [.ref (a 21), .int (f 1)]),
  fun f => .inl (cs.1, 256, .inl f),
  fun f => .inr (6, [.ref (a 23), .int (f 1)]),
  fun f => .inl (cs.1, 256, .inl f),
  fun f => .inr (6, [.ref (a 25), .int (f 1)]),
  fun f => .inl (cs.1, 256, .inl f),
  fun f => .inr (6, [.ref (a 27), .int (f 1)]),
  fun f => .inl (cs.1, 256, .inl f),
  fun f => .inr (6, [.ref (a 29), .int (f 1)]),
  fun f => .inl (cs.1, 256, .inl f),
  fun f => .inr (6, [.ref (a 31), .int (f 1)]),
  fun f => .inl (cs.1, 256, .inl f),
  fun f => .inr (6, [.ref (a 33), .int (f 1)]),
  fun f => .inl (cs.1, 256, .inl f),
  fun f => .inr (2, [.ref (a 35), .ref (a 37), .ref (a 38)]),
  fun f => .inr (7, [.ref (a 36)]),
  fun f => .inl (cs.1, 6, .inl f),
  fun f => .inl (cs.1, 2, .inl f),
  fun f => .inl (cs.1, 1400, .inl f),
  fun f => .inr (7, [.ref (a 40)]),
  fun f => .inl (cs.1, 6, .inl f),
  fun f => .inr (3, [.ref (a 42), .int (f 1), .int (f 2)]),
  fun f => .inl (cs.1, 562, .inl f),
  fun f => .inr (9, [.ref (a 44), .int (f 1), .ref (a 45), .int (f 3), .ref (a 46), .ref (a 47), .ref (a 48), .ref (a 49), .ref (a 50), .ref (a 51), .ref (a 52), .ref (a 53), .ref (a 54), .int (f 13), .ref (a 55), .ref (a 56), .int (f 16), .int (f 17), .int (f 18), .int (f 19), .int (f 20), .int (f 21), .int (f 22), .ref (a 57), .ref (a 58), .ref (a 59), .ref (a 60), .int (f 27), .int (f 28), .int (f 29), .int (f 30), .int (f 31), .int (f 32), .int (f 33), .ref (a 61)]),
  fun f => .inl (cs.1, 4000, .inl f),
  fun f => .inl (cs.1, 4000, .inl f),
  fun f => .inl (cs.1, 7, .inl f),
  fun f => .inl (cs.1, 1792, .inl f),
  fun f => .inl (cs.1, 1792, .inl f),
  fun f => .inl (cs.2.2.1, 21, .inl f),
  fun f => .inl (cs.1, 86016, .inl f),
  fun f => .inl (cs.1, 86016, .inl f),
  fun f => .inl (cs.1, 86016, .inl f),
  fun f => .inl (cs.1, 256, .inl f),
  fun f => .inl (cs.1, 256, .inl f),
  fun f => .inl (cs.1, 256, .inl f),
  fun f => .inl (cs.1, 6, .inl f),
  fun f => .inl (cs.1, 17000, .inl f),
  fun f => .inl (cs.1, 2, .inl f),
  fun f => .inl (cs.1, 6, .inl f),
  fun f => .inl (cs.1, 1060, .inl f),
  fun f => .inl (cs.1, 1400, .inl f)]
def zx_E (a : Nat → Nat) (cs : zx_C) (k : Nat) (f : Nat → Int32) : va_E := match (zx_cl a cs)[k]? with
  | some g => g f
  | none => .inl (cs.1, 0, .inl f)
theorem zx_E0 {a : Nat → Nat} {cs : zx_C} {f : Nat → Int32} : zx_E a cs 0 f = .inr (8, [.ref (a 1), .ref (a 3), .ref (a 5), .ref (a 6), .ref (a 7), .ref (a 8), .ref (a 34), .ref (a 39), .ref (a 41), .int (f 9), .int (f 10)]) := rfl
theorem zx_E1 {a : Nat → Nat} {cs : zx_C} {f : Nat → Int32} : zx_E a cs 1 f = .inr (4, [.ref (a 2), .int (f 1)]) := rfl
theorem zx_E2 {a : Nat → Nat} {cs : zx_C} {f : Nat → Int32} : zx_E a cs 2 f = .inl (cs.2.1, 4000, .inl f) := rfl
theorem zx_E3 {a : Nat → Nat} {cs : zx_C} {f : Nat → Int32} : zx_E a cs 3 f = .inr (4, [.ref (a 4), .int (f 1)]) := rfl
theorem zx_E4 {a : Nat → Nat} {cs : zx_C} {f : Nat → Int32} : zx_E a cs 4 f = .inl (cs.2.1, 4000, .inl f) := rfl
theorem zx_E5 {a : Nat → Nat} {cs : zx_C} {f : Nat → Int32} : zx_E a cs 5 f = .inl (cs.2.2.2, 6, .inr (.inr (.inr (.inr (fun j => zx_rfo a (f j)))))) := rfl
theorem zx_E6 {a : Nat → Nat} {cs : zx_C} {f : Nat → Int32} : zx_E a cs 6 f = .inl (cs.1, 256, .inl f) := rfl
theorem zx_E7 {a : Nat → Nat} {cs : zx_C} {f : Nat → Int32} : zx_E a cs 7 f = .inr (1, [.ref (a 8), .ref (a 16), .ref (a 18), .ref (a 19), va_rf (zx_rfo a (f 4)), va_rf (zx_rfo a (f 5)), .int (f 6), .int (f 7), .int (f 8), .int (f 9), .int (f 10), .int (f 11), .int (f 12), .int (f 13), .int (f 14), .int (f 15)]) := rfl
theorem zx_E8 {a : Nat → Nat} {cs : zx_C} {f : Nat → Int32} : zx_E a cs 8 f = .inr (0, [.ref (a 9), .int (f 1), .int (f 2), .int (f 3), .int (f 4), .int (f 5), .int (f 6), .int (f 7)]) := rfl
theorem zx_E9 {a : Nat → Nat} {cs : zx_C} {f : Nat → Int32} : zx_E a cs 9 f = .inr (5, [.ref (a 10), .ref (a 11), .ref (a 12), .ref (a 13), .ref (a 14), .ref (a 15), .int (f 6), .int (f 7), .int (f 8), va_rf (zx_rfo a (f 9))]) := rfl
theorem zx_E10 {a : Nat → Nat} {cs : zx_C} {f : Nat → Int32} : zx_E a cs 10 f = .inl (cs.1, 4096, .inl f) := rfl
theorem zx_E11 {a : Nat → Nat} {cs : zx_C} {f : Nat → Int32} : zx_E a cs 11 f = .inl (cs.1, 4096, .inl f) := rfl
theorem zx_E12 {a : Nat → Nat} {cs : zx_C} {f : Nat → Int32} : zx_E a cs 12 f = .inl (cs.1, 256, .inl f) := rfl
theorem zx_E13 {a : Nat → Nat} {cs : zx_C} {f : Nat → Int32} : zx_E a cs 13 f = .inl (cs.1, 256, .inl f) := rfl
theorem zx_E14 {a : Nat → Nat} {cs : zx_C} {f : Nat → Int32} : zx_E a cs 14 f = .inl (cs.1, 256, .inl f) := rfl
theorem zx_E15 {a : Nat → Nat} {cs : zx_C} {f : Nat → Int32} : zx_E a cs 15 f = .inl (cs.1, 256, .inl f) := rfl
theorem zx_E16 {a : Nat → Nat} {cs : zx_C} {f : Nat → Int32} : zx_E a cs 16 f = .inr (7, [.ref (a 17)]) := rfl
theorem zx_E17 {a : Nat → Nat} {cs : zx_C} {f : Nat → Int32} : zx_E a cs 17 f = .inl (cs.1, 6, .inl f) := rfl
theorem zx_E18 {a : Nat → Nat} {cs : zx_C} {f : Nat → Int32} : zx_E a cs 18 f = .inl (cs.1, 2, .inl f) := rfl
theorem zx_E19 {a : Nat → Nat} {cs : zx_C} {f : Nat → Int32} : zx_E a cs 19 f = .inl (cs.2.1, 1400, .inl f) := rfl
theorem zx_E20 {a : Nat → Nat} {cs : zx_C} {f : Nat → Int32} : zx_E a cs 20 f = .inr (6, [.ref (a 21), .int (f 1)]) := rfl
theorem zx_E21 {a : Nat → Nat} {cs : zx_C} {f : Nat → Int32} : zx_E a cs 21 f = .inl (cs.1, 256, .inl f) := rfl
theorem zx_E22 {a : Nat → Nat} {cs : zx_C} {f : Nat → Int32} : zx_E a cs 22 f = .inr (6, [.ref (a 23), .int (f 1)]) := rfl
theorem zx_E23 {a : Nat → Nat} {cs : zx_C} {f : Nat → Int32} : zx_E a cs 23 f = .inl (cs.1, 256, .inl f) := rfl
theorem zx_E24 {a : Nat → Nat} {cs : zx_C} {f : Nat → Int32} : zx_E a cs 24 f = .inr (6, [.ref (a 25), .int (f 1)]) := rfl
theorem zx_E25 {a : Nat → Nat} {cs : zx_C} {f : Nat → Int32} : zx_E a cs 25 f = .inl (cs.1, 256, .inl f) := rfl
theorem zx_E26 {a : Nat → Nat} {cs : zx_C} {f : Nat → Int32} : zx_E a cs 26 f = .inr (6, [.ref (a 27), .int (f 1)]) := rfl
theorem zx_E27 {a : Nat → Nat} {cs : zx_C} {f : Nat → Int32} : zx_E a cs 27 f = .inl (cs.1, 256, .inl f) := rfl
theorem zx_E28 {a : Nat → Nat} {cs : zx_C} {f : Nat → Int32} : zx_E a cs 28 f = .inr (6, [.ref (a 29), .int (f 1)]) := rfl
theorem zx_E29 {a : Nat → Nat} {cs : zx_C} {f : Nat → Int32} : zx_E a cs 29 f = .inl (cs.1, 256, .inl f) := rfl
theorem zx_E30 {a : Nat → Nat} {cs : zx_C} {f : Nat → Int32} : zx_E a cs 30 f = .inr (6, [.ref (a 31), .int (f 1)]) := rfl
theorem zx_E31 {a : Nat → Nat} {cs : zx_C} {f : Nat → Int32} : zx_E a cs 31 f = .inl (cs.1, 256, .inl f) := rfl
theorem zx_E32 {a : Nat → Nat} {cs : zx_C} {f : Nat → Int32} : zx_E a cs 32 f = .inr (6, [.ref (a 33), .int (f 1)]) := rfl
theorem zx_E33 {a : Nat → Nat} {cs : zx_C} {f : Nat → Int32} : zx_E a cs 33 f = .inl (cs.1, 256, .inl f) := rfl
theorem zx_E34 {a : Nat → Nat} {cs : zx_C} {f : Nat → Int32} : zx_E a cs 34 f = .inr (2, [.ref (a 35), .ref (a 37), .ref (a 38)]) := rfl
theorem zx_E35 {a : Nat → Nat} {cs : zx_C} {f : Nat → Int32} : zx_E a cs 35 f = .inr (7, [.ref (a 36)]) := rfl
theorem zx_E36 {a : Nat → Nat} {cs : zx_C} {f : Nat → Int32} : zx_E a cs 36 f = .inl (cs.1, 6, .inl f) := rfl
theorem zx_E37 {a : Nat → Nat} {cs : zx_C} {f : Nat → Int32} : zx_E a cs 37 f = .inl (cs.1, 2, .inl f) := rfl
theorem zx_E38 {a : Nat → Nat} {cs : zx_C} {f : Nat → Int32} : zx_E a cs 38 f = .inl (cs.1, 1400, .inl f) := rfl
theorem zx_E39 {a : Nat → Nat} {cs : zx_C} {f : Nat → Int32} : zx_E a cs 39 f = .inr (7, [.ref (a 40)]) := rfl
theorem zx_E40 {a : Nat → Nat} {cs : zx_C} {f : Nat → Int32} : zx_E a cs 40 f = .inl (cs.1, 6, .inl f) := rfl
theorem zx_E41 {a : Nat → Nat} {cs : zx_C} {f : Nat → Int32} : zx_E a cs 41 f = .inr (3, [.ref (a 42), .int (f 1), .int (f 2)]) := rfl
theorem zx_E42 {a : Nat → Nat} {cs : zx_C} {f : Nat → Int32} : zx_E a cs 42 f = .inl (cs.1, 562, .inl f) := rfl
theorem zx_E43 {a : Nat → Nat} {cs : zx_C} {f : Nat → Int32} : zx_E a cs 43 f = .inr (9, [.ref (a 44), .int (f 1), .ref (a 45), .int (f 3), .ref (a 46), .ref (a 47), .ref (a 48), .ref (a 49), .ref (a 50), .ref (a 51), .ref (a 52), .ref (a 53), .ref (a 54), .int (f 13), .ref (a 55), .ref (a 56), .int (f 16), .int (f 17), .int (f 18), .int (f 19), .int (f 20), .int (f 21), .int (f 22), .ref (a 57), .ref (a 58), .ref (a 59), .ref (a 60), .int (f 27), .int (f 28), .int (f 29), .int (f 30), .int (f 31), .int (f 32), .int (f 33), .ref (a 61)]) := rfl
theorem zx_E44 {a : Nat → Nat} {cs : zx_C} {f : Nat → Int32} : zx_E a cs 44 f = .inl (cs.1, 4000, .inl f) := rfl
theorem zx_E45 {a : Nat → Nat} {cs : zx_C} {f : Nat → Int32} : zx_E a cs 45 f = .inl (cs.1, 4000, .inl f) := rfl
theorem zx_E46 {a : Nat → Nat} {cs : zx_C} {f : Nat → Int32} : zx_E a cs 46 f = .inl (cs.1, 7, .inl f) := rfl
theorem zx_E47 {a : Nat → Nat} {cs : zx_C} {f : Nat → Int32} : zx_E a cs 47 f = .inl (cs.1, 1792, .inl f) := rfl
theorem zx_E48 {a : Nat → Nat} {cs : zx_C} {f : Nat → Int32} : zx_E a cs 48 f = .inl (cs.1, 1792, .inl f) := rfl
theorem zx_E49 {a : Nat → Nat} {cs : zx_C} {f : Nat → Int32} : zx_E a cs 49 f = .inl (cs.2.2.1, 21, .inl f) := rfl
theorem zx_E50 {a : Nat → Nat} {cs : zx_C} {f : Nat → Int32} : zx_E a cs 50 f = .inl (cs.1, 86016, .inl f) := rfl
theorem zx_E51 {a : Nat → Nat} {cs : zx_C} {f : Nat → Int32} : zx_E a cs 51 f = .inl (cs.1, 86016, .inl f) := rfl
theorem zx_E52 {a : Nat → Nat} {cs : zx_C} {f : Nat → Int32} : zx_E a cs 52 f = .inl (cs.1, 86016, .inl f) := rfl
theorem zx_E53 {a : Nat → Nat} {cs : zx_C} {f : Nat → Int32} : zx_E a cs 53 f = .inl (cs.1, 256, .inl f) := rfl
theorem zx_E54 {a : Nat → Nat} {cs : zx_C} {f : Nat → Int32} : zx_E a cs 54 f = .inl (cs.1, 256, .inl f) := rfl
theorem zx_E55 {a : Nat → Nat} {cs : zx_C} {f : Nat → Int32} : zx_E a cs 55 f = .inl (cs.1, 256, .inl f) := rfl
theorem zx_E56 {a : Nat → Nat} {cs : zx_C} {f : Nat → Int32} : zx_E a cs 56 f = .inl (cs.1, 6, .inl f) := rfl
theorem zx_E57 {a : Nat → Nat} {cs : zx_C} {f : Nat → Int32} : zx_E a cs 57 f = .inl (cs.1, 17000, .inl f) := rfl
theorem zx_E58 {a : Nat → Nat} {cs : zx_C} {f : Nat → Int32} : zx_E a cs 58 f = .inl (cs.1, 2, .inl f) := rfl
theorem zx_E59 {a : Nat → Nat} {cs : zx_C} {f : Nat → Int32} : zx_E a cs 59 f = .inl (cs.1, 6, .inl f) := rfl
theorem zx_E60 {a : Nat → Nat} {cs : zx_C} {f : Nat → Int32} : zx_E a cs 60 f = .inl (cs.1, 1060, .inl f) := rfl
theorem zx_E61 {a : Nat → Nat} {cs : zx_C} {f : Nat → Int32} : zx_E a cs 61 f = .inl (cs.1, 1400, .inl f) := rfl
def zx_wl (a : Nat → Nat) (cs : zx_C) (S : St) : va_W := (List.range 62).map (fun k => (a k, zx_E a cs k (S k)))
theorem zx_wl_get {a : Nat → Nat} {cs : zx_C} {S : St} {k : Nat} (hk : k < 62) : (zx_wl a cs S)[k]? = some (a k, zx_E a cs k (S k)) := by
  simp [zx_wl, List.getElem?_map, List.getElem?_range, hk]
theorem zx_wl_at {a : Nat → Nat} {cs : zx_C} {S : St} {k : Nat} {q : Nat × va_E} (h : (zx_wl a cs S)[k]? = some q) : k < 62 ∧ q = (a k, zx_E a cs k (S k)) := by
  by_cases hk : k < 62
  · rw [zx_wl_get hk] at h
    exact ⟨hk, (Option.some.inj h).symm⟩
  · rw [List.getElem?_eq_none (by simp [zx_wl]; omega)] at h
    cases h
theorem zx_wl_set {a : Nat → Nat} {cs : zx_C} {S : St} {k : Nat} {f : Nat → Int32} {e : va_E} (hk : k < 62) (he : zx_E a cs k f = e) : (zx_wl a cs S).set k (a k, e) = zx_wl a cs (upS S k f) := by
  subst he
  apply List.ext_getElem?
  intro i
  by_cases hi : i < 62
  · rw [zx_wl_get hi, List.getElem?_set]
    by_cases h : k = i
    · subst h
      simp [upS, zx_wl, hk]
    · have h' : ¬ i = k := fun e => h e.symm
      simp only [if_neg h, upS, if_neg h']
      exact zx_wl_get hi
  · rw [List.getElem?_eq_none (by simp [zx_wl]; omega), List.getElem?_eq_none (by simp [zx_wl]; omega)]
/-- the addresses are apart -/
def zx_J (a : Nat → Nat) : Prop := ∀ i j, i < 62 → j < 62 → a i = a j → i = j
def zx_A (a : Nat → Nat) : Nat → Prop := fun q => ∃ k, k < 62 ∧ a k = q
theorem zx_D {a : Nat → Nat} {cs : zx_C} {S : St} (h : zx_J a) : va_D (zx_A a) (zx_wl a cs S) := by
  refine ⟨fun i j p q hi hj e => ?_, fun k q hk => ?_⟩
  · obtain ⟨hi1, rfl⟩ := zx_wl_at hi
    obtain ⟨hj1, rfl⟩ := zx_wl_at hj
    exact h i j hi1 hj1 e
  · obtain ⟨hk1, rfl⟩ := zx_wl_at hk
    exact ⟨k, hk1, rfl⟩
abbrev zx_ty (cs : zx_C) : List (ClassId × FieldType) := [(cs.1, .int), (cs.2.1, .byte), (cs.2.2.1, .boolean), (cs.2.2.2, .object RX6)]
/-- the words of nest mates -/
def zx_N (U : State) : Prop := ∀ w ∈ zx_ne, va_Nw w U
def zx_W (D : va_G) (a : Nat → Nat) (cs : zx_C) (S : St) (H : Heap) : Prop := va_P D vwCl (zx_wl a cs S) H
/-- what stays the same in a walk -/
def zx_F (D : va_G) (a : Nat → Nat) (cs : zx_C) (p : Program) (m : MethodId) (c : Code) (cc : ByteArray) (nL : Nat) (s : State) (args : Array Value) (own : String) (meth : Method) : Prop :=
  (p.tables.exec = Jvm.exec ∧ c.code = cc ∧ c.maxLocals = nL ∧ s.vm.findClass own = some m.cls ∧ ∀ w ∈ zx_tb, w.before args s = true) ∧ meth.locks = false ∧ va_K D vwCl (zx_ty cs) s ∧ zx_J a ∧ zx_N s
theorem zx_ne_on : ∀ w ∈ zx_ne, w.onTables = true := by decide +kernel
theorem zx_N.same {u U : State} (h : u.vm = U.vm) (hN : zx_N u) : zx_N U := fun w hw => va_Nw.same (zx_ne_on w hw) h (hN w hw)
theorem zx_N.warm {u U : State} (h : u.WarmedH U.vm) (hN : zx_N u) : zx_N U := by
  intro w hw
  have h2 := hN w hw
  have h3 : ∃ (a : String) (i : Nat) (x : MethodName) (b : String), w = Cond.methodLinkNest a i x b := by
    revert w
    unfold zx_ne
    intro w hw _
    simp only [List.mem_cons, List.not_mem_nil, or_false] at hw
    rcases hw with rfl | rfl | rfl | rfl | rfl | rfl | rfl | rfl | rfl | rfl | rfl | rfl | rfl | rfl | rfl <;> exact ⟨_, _, _, _, rfl⟩
  obtain ⟨a, i, x, b, rfl⟩ := h3
  exact va_Nw.warmM h h2
/-- a contract's start and its ends -/
def zx_P (D : va_G) (a : Nat → Nat) (cs : zx_C) (av : List Value) (S : St) : Array Value → State → Prop := va_Pc av (fun U => zx_W D a cs S U.heap ∧ va_K D vwCl (zx_ty cs) U ∧ zx_J a ∧ zx_N U)
def zx_Qi (D : va_G) (a : Nat → Nat) (cs : zx_C) (r : Int32) (S : St) : Array Value → State → Outcome → State → Prop := va_Qi (fun (x : Int32) (_ : Unit) => x = r) (fun _ t => zx_W D a cs S t.heap) (zx_A a)
def zx_Ql (D : va_G) (a : Nat → Nat) (cs : zx_C) (r : Int64) (S : St) : Array Value → State → Outcome → State → Prop := va_Ql (fun (x : Int64) (_ : Unit) => x = r) (fun _ t => zx_W D a cs S t.heap) (zx_A a)
def zx_Qv (D : va_G) (a : Nat → Nat) (cs : zx_C) (S : St) : Array Value → State → Outcome → State → Prop := va_Qv (fun (_ : Unit) => True) (fun _ t => zx_W D a cs S t.heap) (zx_A a)
/-- an answer that is a cell by its number, or null (0) -/
def zx_Qa (D : va_G) (a : Nat → Nat) (cs : zx_C) (r : Int32) (S : St) : Array Value → State → Outcome → State → Prop := fun _ st oc t => oc = .returned (some (va_rf (zx_rfo a r))) ∧ zx_W D a cs S t.heap ∧ va_F (zx_A a) st t
theorem zx_blind {D : va_G} {a : Nat → Nat} {cs : zx_C} {av : List Value} {S : St} : FrameBlind (zx_P D a cs av S) := by
  intro b U g mk q
  obtain ⟨q0, qP, qK, qD, qN⟩ := q
  exact ⟨q0, qP, va_K.moved (u := U) (U := U.calling g mk b) (Vm.Alike.refl U.vm) qK, qD, zx_N.same (u := U) (U := U.calling g mk b) rfl qN⟩
-- steps of the pure text
theorem g_no {α : Type} {c : Prop} [Decidable c] {X : Option α} {R : α} (h : (if c then none else X) = some R) : ¬ c ∧ X = some R := by
  by_cases hc : c
  · rw [if_pos hc] at h; cases h
  · rw [if_neg hc] at h; exact ⟨hc, h⟩
theorem g_ok {α : Type} {c : Prop} [Decidable c] {X : Option α} {R : α} (h : (if c then X else none) = some R) : c ∧ X = some R := by
  by_cases hc : c
  · rw [if_pos hc] at h; exact ⟨hc, h⟩
  · rw [if_neg hc] at h; cases h
theorem g_t {α : Type} {c : Prop} [Decidable c] {X Y : Option α} {R : α} (hc : c) (h : (if c then X else Y) = some R) : X = some R := by
  rw [if_pos hc] at h; exact h
theorem g_f {α : Type} {c : Prop} [Decidable c] {X Y : Option α} {R : α} (hc : ¬ c) (h : (if c then X else Y) = some R) : Y = some R := by
  rw [if_neg hc] at h; exact h
theorem g_bd {α β : Type} {x : Option (α × St)} {k : α → St → Option β} {R : β} (h : bnd x k = some R) : ∃ r S, x = some (r, S) ∧ k r S = some R := by
  cases x with
  | none => cases h
  | some y => exact ⟨y.1, y.2, rfl, h⟩
theorem g_pin {α β : Type} {x : α} {k : α → Option β} {R : β} (h : pin x k = some R) : ∃ y, y = x ∧ k y = some R := ⟨x, rfl, h⟩
section ZX
variable {p : Program} {l : Launch} {e : Env} {R : Room} {s : State} {m : MethodId} {args : Array Value} {below : List Frame} {meth : Method} {c : Code} {H : Heap} {locs : List Loc} {cells slots : Nat} {Q : State → Prop}
variable {cc : ByteArray} {pc nL : Nat} {ls : Array Slot} {rest : List Value} {D : va_G} {a : Nat → Nat} {cs : zx_C} {S : St} {own : String}
theorem zx_get (F : zx_F D a cs p m c cc nL s args own meth) (hW : zx_W D a cs S H) {C : String} {T : u_T} {N ci index k : Nat} (hin : ∀ w ∈ u_ws C T N, w ∈ zx_tb) (hk : k < 62) {fs : List Value} (he : zx_E a cs k (S k) = .inr (ci, fs)) (hc : vwCl[ci]? = some (C, T, N)) (j : Nat) (hj : j < N) (hlink : Cond.fieldLink own index (T j).1 (T j).2.1 (T j).2.2.1 ∈ zx_tb) {v : Value} (hv : fs[j]? = some v) (hdg : decode cc pc = .ok (.getfield index, 3))
    (kk : W p l e R s m args below meth c H locs cells slots Q (F0 m (pc + 3) ls (v :: rest))) : W p l e R s m args below meth c H locs cells slots Q (F0 m pc ls (.ref (a k) :: rest)) := by
  obtain ⟨⟨hx, hb, hml, hown, hts⟩, -, hK, hJ, hN⟩ := F
  exact va_get hx hb hts hin hown hK hW k (by rw [zx_wl_get hk, he]) hc j hj (hts _ hlink) (fun _ h => h) hv hdg kk
theorem zx_putv (F : zx_F D a cs p m c cc nL s args own meth) (hW : zx_W D a cs S H) (hS : va_S (zx_A a) s.heap H locs) {C : String} {T : u_T} {N ci index k : Nat} (hin : ∀ w ∈ u_ws C T N, w ∈ zx_tb) {ty0 : Nat → FieldType} (hty : ∀ k, k < N → parseFieldDescriptor (T k).2.2.1 = some (ty0 k)) (hnm : ∀ a, a < N → ∀ b, b < N → a ≠ b → (T a).2.1 ≠ (T b).2.1) (hk : k < 62) {fs : List Value} (he : zx_E a cs k (S k) = .inr (ci, fs)) (hc : vwCl[ci]? = some (C, T, N)) (j : Nat) (hj : j < N) (hlink : Cond.fieldLink own index (T j).1 (T j).2.1 (T j).2.2.1 ∈ zx_tb) (hfin : (T j).2.2.2 = false) {v : Value} (x : Int32) (hn : narrow (ty0 j) v = v) (hfit : fits (ty0 j) v = true) (hl : j < fs.length) (he2 : zx_E a cs k (upd (S k) j x) = .inr (ci, fs.set j v)) (hdg : decode cc pc = .ok (.putfield index, 3))
    (kk : ∀ (H1 : Heap) (locs1 : List Loc), zx_W D a cs (puS S k j x) H1 → va_S (zx_A a) s.heap H1 locs1 → W p l e R s m args below meth c H1 locs1 cells slots Q (F0 m (pc + 3) ls rest)) : W p l e R s m args below meth c H locs cells slots Q (F0 m pc ls (v :: .ref (a k) :: rest)) := by
  obtain ⟨⟨hx, hb, hml, hown, hts⟩, -, hK, hJ, hN⟩ := F
  refine va_put hx hb hts hin ty0 hty hnm hown hK hW (zx_D hJ) hS k (by rw [zx_wl_get hk, he]) hc j hj (hts _ hlink) (fun _ h => h) hfin (hty j hj) hn hfit hl hdg (fun H1 locs1 hP _ hS1 => ?_)
  rw [zx_wl_set hk he2] at hP
  exact kk H1 locs1 hP hS1
theorem zx_iald (F : zx_F D a cs p m c cc nL s args own meth) (hW : zx_W D a cs S H) {k n : Nat} (hk : k < 62) (he : zx_E a cs k (S k) = .inl (cs.1, n, .inl (S k))) {i : Int32} (hin : vp_in i n) (hdg : decode cc pc = .ok (.iaload, 1))
    (kk : W p l e R s m args below meth c H locs cells slots Q (F0 m (pc + 1) ls (.int (S k i.toNatClampNeg) :: rest))) : W p l e R s m args below meth c H locs cells slots Q (F0 m pc ls (.int i :: .ref (a k) :: rest)) := by
  obtain ⟨⟨hx, hb, hml, hown, hts⟩, -, hK, hJ, hN⟩ := F
  exact va_iald hx hb hK hW k 0 (by rw [zx_wl_get hk, he]) rfl hin hdg kk
theorem zx_bald (F : zx_F D a cs p m c cc nL s args own meth) (hW : zx_W D a cs S H) {k n : Nat} (hk : k < 62) (he : zx_E a cs k (S k) = .inl (cs.2.1, n, .inl (S k))) {i : Int32} (hin : vp_in i n) (hdg : decode cc pc = .ok (.baload, 1))
    (kk : W p l e R s m args below meth c H locs cells slots Q (F0 m (pc + 1) ls (.int (S k i.toNatClampNeg) :: rest))) : W p l e R s m args below meth c H locs cells slots Q (F0 m pc ls (.int i :: .ref (a k) :: rest)) := by
  obtain ⟨⟨hx, hb, hml, hown, hts⟩, -, hK, hJ, hN⟩ := F
  exact va_bald hx hb hK hW k 1 (by rw [zx_wl_get hk, he]) rfl hin hdg kk
theorem zx_zald (F : zx_F D a cs p m c cc nL s args own meth) (hW : zx_W D a cs S H) {k n : Nat} (hk : k < 62) (he : zx_E a cs k (S k) = .inl (cs.2.2.1, n, .inl (S k))) {i : Int32} (hin : vp_in i n) (hdg : decode cc pc = .ok (.baload, 1))
    (kk : W p l e R s m args below meth c H locs cells slots Q (F0 m (pc + 1) ls (.int (S k i.toNatClampNeg) :: rest))) : W p l e R s m args below meth c H locs cells slots Q (F0 m pc ls (.int i :: .ref (a k) :: rest)) := by
  obtain ⟨⟨hx, hb, hml, hown, hts⟩, -, hK, hJ, hN⟩ := F
  exact va_zald hx hb hK hW k 2 (by rw [zx_wl_get hk, he]) rfl hin hdg kk
theorem zx_aald (F : zx_F D a cs p m c cc nL s args own meth) (hW : zx_W D a cs S H) {i : Int32} (hin : vp_in i 6) (hdg : decode cc pc = .ok (.aaload, 1))
    (kk : W p l e R s m args below meth c H locs cells slots Q (F0 m (pc + 1) ls (va_rf (zx_rfo a (S 5 i.toNatClampNeg)) :: rest))) : W p l e R s m args below meth c H locs cells slots Q (F0 m pc ls (.int i :: .ref (a 5) :: rest)) := by
  obtain ⟨⟨hx, hb, hml, hown, hts⟩, -, hK, hJ, hN⟩ := F
  exact va_aldq (f := fun j => zx_rfo a (S 5 j)) (C := RX6) hx hb hK hW 5 3 (by rw [zx_wl_get (by decide), zx_E5]) rfl hin hdg kk
theorem zx_iast (F : zx_F D a cs p m c cc nL s args own meth) (hW : zx_W D a cs S H) (hS : va_S (zx_A a) s.heap H locs) {k n : Nat} (hk : k < 62) (he : ∀ f, zx_E a cs k f = .inl (cs.1, n, .inl f)) {i x : Int32} (hin : vp_in i n) (hdg : decode cc pc = .ok (.iastore, 1))
    (kk : ∀ (H1 : Heap) (locs1 : List Loc), zx_W D a cs (puS S k i.toNatClampNeg x) H1 → va_S (zx_A a) s.heap H1 locs1 → W p l e R s m args below meth c H1 locs1 cells slots Q (F0 m (pc + 1) ls rest)) : W p l e R s m args below meth c H locs cells slots Q (F0 m pc ls (.int x :: .int i :: .ref (a k) :: rest)) := by
  obtain ⟨⟨hx, hb, hml, hown, hts⟩, -, hK, hJ, hN⟩ := F
  refine va_iast hx hb hK hW (zx_D hJ) hS k 0 (by rw [zx_wl_get hk, he]) rfl hin hdg (fun H1 locs1 hP _ hS1 => ?_)
  rw [zx_wl_set hk (he _)] at hP
  exact kk H1 locs1 hP hS1
theorem zx_bast (F : zx_F D a cs p m c cc nL s args own meth) (hW : zx_W D a cs S H) (hS : va_S (zx_A a) s.heap H locs) {k n : Nat} (hk : k < 62) (he : ∀ f, zx_E a cs k f = .inl (cs.2.1, n, .inl f)) {i x : Int32} (hin : vp_in i n) (hdg : decode cc pc = .ok (.bastore, 1))
    (kk : ∀ (H1 : Heap) (locs1 : List Loc), zx_W D a cs (puS S k i.toNatClampNeg (vp_nar .byte x)) H1 → va_S (zx_A a) s.heap H1 locs1 → W p l e R s m args below meth c H1 locs1 cells slots Q (F0 m (pc + 1) ls rest)) : W p l e R s m args below meth c H locs cells slots Q (F0 m pc ls (.int x :: .int i :: .ref (a k) :: rest)) := by
  obtain ⟨⟨hx, hb, hml, hown, hts⟩, -, hK, hJ, hN⟩ := F
  refine va_bast hx hb hK hW (zx_D hJ) hS k 1 (by rw [zx_wl_get hk, he]) rfl hin hdg (fun H1 locs1 hP _ hS1 => ?_)
  rw [zx_wl_set hk (he _)] at hP
  exact kk H1 locs1 hP hS1
theorem zx_zast (F : zx_F D a cs p m c cc nL s args own meth) (hW : zx_W D a cs S H) (hS : va_S (zx_A a) s.heap H locs) {k n : Nat} (hk : k < 62) (he : ∀ f, zx_E a cs k f = .inl (cs.2.2.1, n, .inl f)) {i x : Int32} (hin : vp_in i n) (hdg : decode cc pc = .ok (.bastore, 1))
    (kk : ∀ (H1 : Heap) (locs1 : List Loc), zx_W D a cs (puS S k i.toNatClampNeg (vp_nar .boolean x)) H1 → va_S (zx_A a) s.heap H1 locs1 → W p l e R s m args below meth c H1 locs1 cells slots Q (F0 m (pc + 1) ls rest)) : W p l e R s m args below meth c H locs cells slots Q (F0 m pc ls (.int x :: .int i :: .ref (a k) :: rest)) := by
  obtain ⟨⟨hx, hb, hml, hown, hts⟩, -, hK, hJ, hN⟩ := F
  refine va_zast hx hb hK hW (zx_D hJ) hS k 2 (by rw [zx_wl_get hk, he]) rfl hin hdg (fun H1 locs1 hP _ hS1 => ?_)
  rw [zx_wl_set hk (he _)] at hP
  exact kk H1 locs1 hP hS1
theorem zx_alen (F : zx_F D a cs p m c cc nL s args own meth) (hW : zx_W D a cs S H) {k n : Nat} (hk : k < 62) (he : zx_E a cs k (S k) = .inl (cs.1, n, .inl (S k))) {v : Int32} (hv : Int32.ofNat n = v) (hdg : decode cc pc = .ok (.arraylength, 1))
    (kk : W p l e R s m args below meth c H locs cells slots Q (F0 m (pc + 1) ls (.int v :: rest))) : W p l e R s m args below meth c H locs cells slots Q (F0 m pc ls (.ref (a k) :: rest)) := by
  obtain ⟨⟨hx, hb, hml, hown, hts⟩, -, hK, hJ, hN⟩ := F
  exact va_alen (x := (n, .inl (S k))) hx hb hK hW k 0 (by rw [zx_wl_get hk, he]) (ty := .int) rfl hv hdg kk
/-- entry of a method -/
theorem zx_met {y : MethodName} {rm : Room} {Qc : Array Value → State → Outcome → State → Prop} {maxL : Nat} {ret : Option FieldType} {av : List Value} (hy : plainName y.cls = true) (hlen : (lg_sl av).length ≤ maxL) (hown : y.cls = own)
    (body : ∀ (p : Program) (e : Env) (s : State) (m : MethodId) (below : List Frame) (meth : Method) (c : Code) (ls : Array Slot), zx_F D a cs p m c cc maxL s av.toArray own meth → meth.sig.returnType = ret → zx_W D a cs S s.heap → va_S (zx_A a) s.heap s.heap [] → lv_has ls maxL (lv_args 0 av) →
      W p l e rm s m av.toArray below meth c s.heap [] 0 0 (MQ below Qc av.toArray s 0 0 (zx_A a)) (F0 m 0 ls [])) : Met l y (Cond.code y cc maxL ret :: zx_tb) rm (zx_P D a cs av S) Qc 0 0 (zx_A a) := by
  refine Met.ofW (cc := cc) (maxL := maxL) (ret := ret) hy rfl ?_
  intro p e s m args below meth c s₁ B hml hv
  obtain ⟨rfl, hW, hK, hJ, hN⟩ := hv
  have hl := lv_entry av (n := maxL) hlen
  rw [lg_entry_eq]
  generalize (lg_sl av ++ List.replicate (maxL - (lg_sl av).length) Slot.unset).toArray = ls at hl ⊢
  have hts := atoms_spec (ws := Cond.code y cc maxL ret :: zx_tb) B.pre
  exact body p e s m below meth c ls ⟨⟨B.exec, B.bytes, hml, by rw [← hown]; exact findClass_of_methodNamed B.named, fun w h => hts w (List.mem_cons_of_mem _ h)⟩, B.notSynchronized, hK, hJ, hN⟩ B.returns hW va_S.rf hl
theorem zx_good : GoodIn zx_tb zx_tb := fun w h => ⟨h, good_of_word (List.mem_filter.mp h).2⟩
theorem zx_goodc {y : MethodName} {bytes : ByteArray} {maxL : Nat} {ret : Option FieldType} (h : Cond.code y bytes maxL ret ∈ zx_tb) : GoodIn zx_tb (Cond.code y bytes maxL ret :: zx_tb) := fun w hw => by
  rcases List.mem_cons.mp hw with rfl | h2
  · exact zx_good _ h
  · exact zx_good _ h2
/-- what a call asks of the callee: its code, its class, its name, the room -/
def zx_Y (y : MethodName) (bytes : ByteArray) (maxL : Nat) (ret : Option FieldType) (n : Nat) : Prop := Cond.code y bytes maxL ret ∈ zx_tb ∧ Cond.initialized y.cls ∈ zx_tb ∧ y.cls ≠ "java/lang/invoke/MethodHandle" ∧ y.cls ≠ "java/lang/invoke/VarHandle" ∧ (parseMethodDescriptor y.desc).map (fun d => d.parameters.length) = some n
def zx_R (rm R : Room) (maxL : Nat) : Prop := rm.cells = 0 ∧ rm.slots = 0 ∧ rm.frames + 1 ≤ R.frames ∧ 8 + (maxL + 11) + rm.locals ≤ R.locals ∧ 0 + 0 ≤ R.cells ∧ 0 + 0 ≤ R.slots
variable {y : MethodName} {bytes : ByteArray} {maxL n index : Nat} {ret : Option FieldType} {rm : Room} {Qc : Array Value → State → Outcome → State → Prop} {As st0 : List Value}
theorem zx_runV (F : zx_F D a cs p m c cc nL s args own meth) (hW : zx_W D a cs S H) {k ci : Nat} {q : vw_C} {fs : List Value} (hM : Met l y (Cond.code y bytes maxL ret :: zx_tb) rm (zx_P D a cs (.ref (a k) :: As) S) Qc 0 0 (zx_A a)) (hY : zx_Y y bytes maxL ret n) (hinst : Cond.instanceMethod y ∈ zx_tb) (hsel : Cond.selects q.1 y y ∈ zx_tb) (hlink : Cond.methodLink own index y ∈ zx_tb) (hR : zx_R rm R maxL) (hk : k < 62) (he : zx_E a cs k (S k) = .inr (ci, fs)) (hc : vwCl[ci]? = some q) (hn : As.length = n) (hsz : ls.size = nL) (hst : st0 = As.reverse ++ .ref (a k) :: rest) (hroom : (rest.map fun v => v.category).sum ≤ 8) (hdg : decode cc pc = .ok (.invokevirtual index, 3)) :
    va_Run p l e R s m args below meth c H locs 0 0 0 0 (F0 m pc ls st0) rest (Qc (Value.ref (a k) :: As).toArray) (zx_A a) := by
  obtain ⟨⟨hx, hb, hml, hown, hts⟩, -, hK, hJ, hN⟩ := F
  obtain ⟨hcode, hini, hd⟩ := hY
  obtain ⟨h1, h2, h3, h4, h5, h6⟩ := hR
  exact va_runV ⟨hx, hb, hml, hown, hts⟩ hM ⟨callB_of n hts (zx_goodc hcode) rfl h1 h2 (hts _ hini) (hts _ hlink) hd ⟨h3, h4⟩, hts _ hinst, hts _ hsel⟩ ⟨zx_blind, va_recv hK hW hc (by rw [zx_wl_get hk, he]), fun U hU hWm => ⟨rfl, by rw [hU]; exact hW, va_K.moved hWm.alike hK, hJ, hN.warm hWm⟩⟩ rfl hn hsz hst (lv_room hroom) hdg ⟨h5, h6⟩
theorem zx_runS (F : zx_F D a cs p m c cc nL s args own meth) (hW : zx_W D a cs S H) (hM : Met l y (Cond.code y bytes maxL ret :: zx_tb) rm (zx_P D a cs As S) Qc 0 0 (zx_A a)) (hY : zx_Y y bytes maxL ret n) (hstat : Cond.static y ∈ zx_tb) (hlink : Cond.methodLink own index y ∈ zx_tb) (hR : zx_R rm R maxL) (hn : As.length = n) (hsz : ls.size = nL) (hst : st0 = As.reverse ++ rest) (hroom : (rest.map fun v => v.category).sum ≤ 8) (hdg : decode cc pc = .ok (.invokestatic index, 3)) :
    va_Run p l e R s m args below meth c H locs 0 0 0 0 (F0 m pc ls st0) rest (Qc As.toArray) (zx_A a) := by
  obtain ⟨⟨hx, hb, hml, hown, hts⟩, -, hK, hJ, hN⟩ := F
  obtain ⟨hcode, hini, hd⟩ := hY
  obtain ⟨h1, h2, h3, h4, h5, h6⟩ := hR
  exact va_runS ⟨hx, hb, hml, hown, hts⟩ hM ⟨callB_of n hts (zx_goodc hcode) rfl h1 h2 (hts _ hini) (hts _ hlink) hd ⟨h3, h4⟩, hts _ hstat⟩ ⟨zx_blind, fun U hU hWm => ⟨rfl, by rw [hU]; exact hW, va_K.moved hWm.alike hK, hJ, hN.warm hWm⟩⟩ rfl hn hsz hst (lv_room hroom) hdg ⟨h5, h6⟩
theorem zx_runSN (F : zx_F D a cs p m c cc nL s args own meth) (hW : zx_W D a cs S H) {host : String} (hM : Met l y (Cond.code y bytes maxL ret :: zx_tb) rm (zx_P D a cs As S) Qc 0 0 (zx_A a)) (hY : zx_Y y bytes maxL ret n) (hstat : Cond.static y ∈ zx_tb) (hlink : Cond.methodLinkNest own index y host ∈ zx_ne) (hR : zx_R rm R maxL) (hn : As.length = n) (hsz : ls.size = nL) (hst : st0 = As.reverse ++ rest) (hroom : (rest.map fun v => v.category).sum ≤ 8) (hdg : decode cc pc = .ok (.invokestatic index, 3)) :
    va_Run p l e R s m args below meth c H locs 0 0 0 0 (F0 m pc ls st0) rest (Qc As.toArray) (zx_A a) := by
  obtain ⟨⟨hx, hb, hml, hown, hts⟩, -, hK, hJ, hN⟩ := F
  obtain ⟨hcode, hini, hd⟩ := hY
  obtain ⟨h1, h2, h3, h4, h5, h6⟩ := hR
  exact va_runSN ⟨hx, hb, hml, hown, hts⟩ hM ⟨va_cnB n hts (zx_goodc hcode) rfl h1 h2 (hN _ hlink) (hts _ hini) hd ⟨h3, h4⟩, hts _ hstat, trivial⟩ ⟨zx_blind, fun U hU hWm => ⟨rfl, by rw [hU]; exact hW, va_K.moved hWm.alike hK, hJ, hN.warm hWm⟩⟩ rfl hn hsz hst (lv_room hroom) hdg ⟨h5, h6⟩
variable {S1 : St} {b : Array Value}
theorem zx_ci {r : Int32} (hr : va_Run p l e R s m args below meth c H locs 0 0 0 0 (F0 m pc ls st0) rest (zx_Qi D a cs r S1 b) (zx_A a)) (hS : va_S (zx_A a) s.heap H locs) (kk : ∀ (H1 : Heap) (locs1 : List Loc), zx_W D a cs S1 H1 → va_S (zx_A a) s.heap H1 locs1 → W p l e R s m args below meth c H1 locs1 0 0 Q (F0 m (pc + 3) ls (.int r :: rest))) : W p l e R s m args below meth c H locs 0 0 Q (F0 m pc ls st0) :=
  va_calli hr hS (fun _ _ h => h) (fun _ h => h) (fun r2 _ t H1 locs1 ht _ hp hB _ _ hS1 => by subst hp; subst ht; exact kk _ locs1 hB hS1)
theorem zx_cl1 {r : Int64} (hr : va_Run p l e R s m args below meth c H locs 0 0 0 0 (F0 m pc ls st0) rest (zx_Ql D a cs r S1 b) (zx_A a)) (hS : va_S (zx_A a) s.heap H locs) (kk : ∀ (H1 : Heap) (locs1 : List Loc), zx_W D a cs S1 H1 → va_S (zx_A a) s.heap H1 locs1 → W p l e R s m args below meth c H1 locs1 0 0 Q (F0 m (pc + 3) ls (.long r :: rest))) : W p l e R s m args below meth c H locs 0 0 Q (F0 m pc ls st0) :=
  va_calll hr hS (fun _ _ h => h) (fun _ h => h) (fun r2 _ t H1 locs1 ht _ hp hB _ _ hS1 => by subst hp; subst ht; exact kk _ locs1 hB hS1)
theorem zx_cv (hr : va_Run p l e R s m args below meth c H locs 0 0 0 0 (F0 m pc ls st0) rest (zx_Qv D a cs S1 b) (zx_A a)) (hS : va_S (zx_A a) s.heap H locs) (kk : ∀ (H1 : Heap) (locs1 : List Loc), zx_W D a cs S1 H1 → va_S (zx_A a) s.heap H1 locs1 → W p l e R s m args below meth c H1 locs1 0 0 Q (F0 m (pc + 3) ls rest)) : W p l e R s m args below meth c H locs 0 0 Q (F0 m pc ls st0) :=
  va_callv hr hS (fun _ _ h => h) (fun _ h => h) (fun _ t H1 locs1 ht _ hp hB _ _ hS1 => by subst ht; exact kk _ locs1 hB hS1)
theorem zx_ca {r : Int32} (hr : va_Run p l e R s m args below meth c H locs 0 0 0 0 (F0 m pc ls st0) rest (zx_Qa D a cs r S1 b) (zx_A a)) (hS : va_S (zx_A a) s.heap H locs) (kk : ∀ (H1 : Heap) (locs1 : List Loc), zx_W D a cs S1 H1 → va_S (zx_A a) s.heap H1 locs1 → W p l e R s m args below meth c H1 locs1 0 0 Q (F0 m (pc + 3) ls (va_rf (zx_rfo a r) :: rest))) : W p l e R s m args below meth c H locs 0 0 Q (F0 m pc ls st0) := by
  intro T hT X
  obtain ⟨v, st₀, t, T', L, h0, X', hL, e1, e2, ⟨hv, hB, hz, hk⟩, st⟩ := hr T hT X
  have hv : v = some (va_rf (zx_rfo a r)) := by injection hv
  subst hv
  rw [h0] at hz hk
  obtain ⟨t2, a1, b1⟩ := kk T'.heap (locs ++ L) (by rw [e1]; exact hB)
    ⟨Nat.le_trans hS.1 (by rw [e1]; exact hz), fun q h1 h2 => by rw [e1, hk q (Nat.lt_of_lt_of_le h1 hS.1) h2]; exact hS.2.1 q h1 h2, fun q hq => by
      rcases List.mem_append.mp hq with h | h
      · exact hS.2.2 q h
      · exact hL q h⟩ T' rfl X'
  exact ⟨t2, st t2 a1, b1⟩
theorem zx_ri {v r : Int32} (F : zx_F D a cs p m c cc nL s args own meth) (hr : meth.sig.returnType = some .int) (hW : zx_W D a cs S H) (hS : va_S (zx_A a) s.heap H locs) (h : some (v, S) = some (r, S1)) (hdg : decode cc pc = .ok (.ireturn, 1)) : W p l e R s m args below meth c H locs 0 0 (MQ below (zx_Qi D a cs r S1) args s 0 0 (zx_A a)) (F0 m pc ls [.int v]) := by
  obtain ⟨⟨hx, hb, hml, hown, hts⟩, hlocks, hK, hJ, hN⟩ := F
  obtain ⟨rfl, rfl⟩ := Prod.mk.inj (Option.some.inj h)
  exact W.iret hx hb hr (fun t ht hWm => ⟨⟨v, (), rfl, rfl, (show zx_W D a cs S t.heap by rw [ht]; exact hW)⟩, hS.F ht⟩) hS.2.2 hdg
theorem zx_rz {v r : Int32} (F : zx_F D a cs p m c cc nL s args own meth) (hr : meth.sig.returnType = some .boolean) (hv : v = 0 ∨ v = 1) (hW : zx_W D a cs S H) (hS : va_S (zx_A a) s.heap H locs) (h : some (v, S) = some (r, S1)) (hdg : decode cc pc = .ok (.ireturn, 1)) : W p l e R s m args below meth c H locs 0 0 (MQ below (zx_Qi D a cs r S1) args s 0 0 (zx_A a)) (F0 m pc ls [.int v]) := by
  obtain ⟨⟨hx, hb, hml, hown, hts⟩, hlocks, hK, hJ, hN⟩ := F
  obtain ⟨rfl, rfl⟩ := Prod.mk.inj (Option.some.inj h)
  exact W.zret hx hb hr (by rcases hv with rfl | rfl <;> rfl) (fun t ht hWm => ⟨⟨v, (), rfl, rfl, (show zx_W D a cs S t.heap by rw [ht]; exact hW)⟩, hS.F ht⟩) hS.2.2 hdg
theorem zx_rl {v r : Int64} (F : zx_F D a cs p m c cc nL s args own meth) (hr : meth.sig.returnType = some .long) (hW : zx_W D a cs S H) (hS : va_S (zx_A a) s.heap H locs) (h : some (v, S) = some (r, S1)) (hdg : decode cc pc = .ok (.lreturn, 1)) : W p l e R s m args below meth c H locs 0 0 (MQ below (zx_Ql D a cs r S1) args s 0 0 (zx_A a)) (F0 m pc ls [.long v]) := by
  obtain ⟨⟨hx, hb, hml, hown, hts⟩, hlocks, hK, hJ, hN⟩ := F
  obtain ⟨rfl, rfl⟩ := Prod.mk.inj (Option.some.inj h)
  exact W.lret hx hb hr (fun t ht hWm => ⟨⟨v, (), rfl, rfl, (show zx_W D a cs S t.heap by rw [ht]; exact hW)⟩, hS.F ht⟩) hS.2.2 hdg
theorem zx_rv {r : Int32} (F : zx_F D a cs p m c cc nL s args own meth) (hr : meth.sig.returnType = none) (hW : zx_W D a cs S H) (hS : va_S (zx_A a) s.heap H locs) (h : some ((0 : Int32), S) = some (r, S1)) (hdg : decode cc pc = .ok (.return_, 1)) : W p l e R s m args below meth c H locs 0 0 (MQ below (zx_Qv D a cs S1) args s 0 0 (zx_A a)) (F0 m pc ls []) := by
  obtain ⟨⟨hx, hb, hml, hown, hts⟩, hlocks, hK, hJ, hN⟩ := F
  obtain ⟨rfl, rfl⟩ := Prod.mk.inj (Option.some.inj h)
  exact W.vret hx hb hr (fun t ht hWm => ⟨⟨(), rfl, trivial, (show zx_W D a cs S t.heap by rw [ht]; exact hW)⟩, hS.F ht⟩) hS.2.2 hdg
theorem zx_ra {v : Value} {x r : Int32} {cn : String} (F : zx_F D a cs p m c cc nL s args own meth) (hr : meth.sig.returnType = some (.object cn)) (hv : v = va_rf (zx_rfo a x)) (hW : zx_W D a cs S H) (hS : va_S (zx_A a) s.heap H locs) (h : some (x, S) = some (r, S1)) (hdg : decode cc pc = .ok (.areturn, 1)) : W p l e R s m args below meth c H locs 0 0 (MQ below (zx_Qa D a cs r S1) args s 0 0 (zx_A a)) (F0 m pc ls [v]) := by
  obtain ⟨⟨hx, hb, hml, hown, hts⟩, hlocks, hK, hJ, hN⟩ := F
  obtain ⟨rfl, rfl⟩ := Prod.mk.inj (Option.some.inj h)
  refine W.aret hx hb hr (Or.inl ⟨_, rfl⟩) ?_ (fun t ht hWm => ⟨by rw [hv], by rw [ht]; exact hW, hS.F ht⟩) hS.2.2 hdg
  rw [hv]
  cases zx_rfo a x with
  | none => exact Or.inl rfl
  | some q => exact Or.inr ⟨q, rfl⟩
theorem zx_nm {x z : Int32} (h : z = x) (kk : W p l e R s m args below meth c H locs cells slots Q (F0 m pc ls (.int z :: rest))) : W p l e R s m args below meth c H locs cells slots Q (F0 m pc ls (.int x :: rest)) := by
  subst h; exact kk
theorem zx_nml {x z : Int64} (h : z = x) (kk : W p l e R s m args below meth c H locs cells slots Q (F0 m pc ls (.long z :: rest))) : W p l e R s m args below meth c H locs cells slots Q (F0 m pc ls (.long x :: rest)) := by
  subst h; exact kk
theorem zx_min (F : zx_F D a cs p m c cc nL s args own meth) (hsz : ls.size = nL) (hlink : Cond.methodLink own index Lib.Math.min.name ∈ zx_tb) (hR : 1 ≤ R.frames ∧ 21 ≤ R.locals) (hroom : (rest.map fun v => v.category).sum ≤ 8) {x z : Int32} (hdg : decode cc pc = .ok (.invokestatic index, 3))
    (kk : W p l e R s m args below meth c H locs 0 0 Q (F0 m (pc + 3) ls (.int (if z < x then z else x) :: rest))) : W p l e R s m args below meth c H locs 0 0 Q (F0 m pc ls (.int z :: .int x :: rest)) := by
  obtain ⟨⟨hx, hb, hml, hown, hts⟩, hlocks, hK, hJ, hN⟩ := F
  exact va_mmin hx hb (hml.trans hsz.symm) hown (hts _ hlink) (hts _ wt_Math_min) (hts _ wn_J9) (hts _ wc_Math_min) hR.1 (Nat.le_trans (Nat.add_le_add_right hroom 13) hR.2) (Nat.zero_le _) (Nat.zero_le _) hdg kk
theorem zx_max (F : zx_F D a cs p m c cc nL s args own meth) (hsz : ls.size = nL) (hlink : Cond.methodLink own index Lib.Math.max.name ∈ zx_tb) (hR : 1 ≤ R.frames ∧ 21 ≤ R.locals) (hroom : (rest.map fun v => v.category).sum ≤ 8) {x z : Int32} (hdg : decode cc pc = .ok (.invokestatic index, 3))
    (kk : W p l e R s m args below meth c H locs 0 0 Q (F0 m (pc + 3) ls (.int (if x < z then z else x) :: rest))) : W p l e R s m args below meth c H locs 0 0 Q (F0 m pc ls (.int z :: .int x :: rest)) := by
  obtain ⟨⟨hx, hb, hml, hown, hts⟩, hlocks, hK, hJ, hN⟩ := F
  exact va_mmax hx hb (hml.trans hsz.symm) hown (hts _ hlink) (hts _ wt_Math_max) (hts _ wn_J9) (hts _ wc_Math_max) hR.1 (Nat.le_trans (Nat.add_le_add_right hroom 13) hR.2) (Nat.zero_le _) (Nat.zero_le _) hdg kk
/-- System.arraycopy of a whole row of n places, from its start, between arrays of one kind (t0: its place in zx_ty) -/
theorem zx_copy (F : zx_F D a cs p m c cc nL s args own meth) (hW : zx_W D a cs S H) (hS : va_S (zx_A a) s.heap H locs) (hsz : ls.size = nL) (hlink : Cond.methodLink own index arraycopyName ∈ zx_tb) {k0 k1 n t0 : Nat} {cA : ClassId} {ty : FieldType} (ht : (zx_ty cs)[t0]? = some (cA, ty)) (hprim : refKind ty = false) (h0 : k0 < 62) (h1 : k1 < 62) (he0 : ∀ f, zx_E a cs k0 f = .inl (cA, n, .inl f)) (he1 : ∀ f, zx_E a cs k1 f = .inl (cA, n, .inl f)) {w : Int32} (hw : w.toNatClampNeg = n) (hw0 : ¬ w < 0) (hfit : ∀ i, i < n → fits ty (.int (S k0 i)) = true) (hR : 1 ≤ R.frames ∧ 8 + (nativeFrameWords "java/lang/System" "arraycopy" 5 + 11) ≤ R.locals) (hroom : (rest.map fun v => v.category).sum ≤ 8) (hdg : decode cc pc = .ok (.invokestatic index, 3))
    (kk : ∀ (H1 : Heap) (locs1 : List Loc), zx_W D a cs (upS S k1 (va_cpy (S k0) (S k1) 0 0 n)) H1 → va_S (zx_A a) s.heap H1 locs1 → W p l e R s m args below meth c H1 locs1 cells slots Q (F0 m (pc + 3) ls rest)) : W p l e R s m args below meth c H locs cells slots Q (F0 m pc ls (.int w :: .int 0 :: .ref (a k1) :: .int 0 :: .ref (a k0) :: rest)) := by
  obtain ⟨⟨hx, hb, hml, hown, hts⟩, hlocks, hK, hJ, hN⟩ := F
  refine va_copyi (ty := ty) hx hb (hml.trans hsz.symm) hown (hts _ hlink) (hts _ wv_arraycopy) (hts _ wt_arraycopy) (hts _ wn_J10) hK hW (zx_D hJ) hS k0 k1 t0 t0 (by rw [zx_wl_get h0, he0]) (by rw [zx_wl_get h1, he1]) ht ht hprim (by decide) (by decide) hw0 (by rw [hw]; show 0 + n ≤ n; omega) (by rw [hw]; show 0 + n ≤ n; omega) (by rw [hw]; intro i hi; show fits ty (.int (S k0 (0 + i))) = true; rw [Nat.zero_add]; exact hfit i hi) hR.1 (Nat.le_trans (Nat.add_le_add_right hroom _) hR.2) hdg (fun H1 locs1 hP _ hS1 => ?_)
  rw [zx_wl_set h1 (he1 _)] at hP
  refine kk H1 locs1 ?_ hS1
  have e : va_cpy (S k0) (S k1) (0 : Int32).toNatClampNeg (0 : Int32).toNatClampNeg w.toNatClampNeg = va_cpy (S k0) (S k1) 0 0 n := by rw [hw]; rfl
  rw [e] at hP
  exact hP
theorem zx_acmp (F : zx_F D a cs p m c cc nL s args own meth) {k : Nat} (hk : k < 62) (hk0 : 0 < k) {v : Int32} (hv : v.toNatClampNeg < 62) {off : Int} {tgt : Nat} (hdg : decode cc pc = .ok (.if_acmp .ne off, 3)) (ht : (pc : Int) + off = (tgt : Int))
    (kt : ¬ v.toNatClampNeg = k → W p l e R s m args below meth c H locs cells slots Q (F0 m tgt ls rest)) (kf : v.toNatClampNeg = k → W p l e R s m args below meth c H locs cells slots Q (F0 m (pc + 3) ls rest)) : W p l e R s m args below meth c H locs cells slots Q (F0 m pc ls (va_rf (zx_rfo a v) :: .ref (a k) :: rest)) := by
  obtain ⟨⟨hx, hb, hml, hown, hts⟩, hlocks, hK, hJ, hN⟩ := F
  have e : some (a k) = zx_rfo a v ↔ v.toNatClampNeg = k := by
    unfold zx_rfo
    by_cases h0 : v = 0
    · subst h0
      rw [if_pos rfl]
      refine ⟨fun h => (by cases h), fun h => ?_⟩
      have : (0 : Int32).toNatClampNeg = 0 := by decide
      omega
    · rw [if_neg h0]
      exact ⟨fun h => (hJ _ _ hk hv (Option.some.inj h)).symm, fun h => by rw [h]⟩
  exact lv_acmp_ne (rx := some (a k)) hx hb hdg ht (fun h => kt fun q => h (e.mpr q)) (fun h => kf (e.mp h))
theorem zx_rfo_nI {k : Nat} (h : 0 < k) (h2 : k < 62) : va_rf (zx_rfo a (nI k)) = .ref (a k) := by
  have h3 : ¬ nI k = 0 := nI_ne0 h (by omega)
  have h4 : (nI k).toNatClampNeg = k := nI_clamp (by omega)
  simp [zx_rfo, h3, h4, va_rf]
theorem zx_rfo_nI2 {k : Nat} (h : 0 < k) (h2 : k < 62) : zx_rfo a (nI k) = some (a k) := by
  have h3 : ¬ nI k = 0 := nI_ne0 h (by omega)
  have h4 : (nI k).toNatClampNeg = k := nI_clamp (by omega)
  simp [zx_rfo, h3, h4]
theorem zx_aast (F : zx_F D a cs p m c cc nL s args own meth) (hW : zx_W D a cs S H) (hS : va_S (zx_A a) s.heap H locs) {k : Nat} {fs : List Value} (hk : k < 62) (hk0 : 0 < k) (he : zx_E a cs k (S k) = .inr (6, fs)) {i : Int32} (hin : vp_in i 6) (hdg : decode cc pc = .ok (.aastore, 1))
    (kk : ∀ (H1 : Heap) (locs1 : List Loc), zx_W D a cs (puS S 5 i.toNatClampNeg (nI k)) H1 → va_S (zx_A a) s.heap H1 locs1 → W p l e R s m args below meth c H1 locs1 cells slots Q (F0 m (pc + 1) ls rest)) : W p l e R s m args below meth c H locs cells slots Q (F0 m pc ls (.ref (a k) :: .int i :: .ref (a 5) :: rest)) := by
  obtain ⟨⟨hx, hb, hml, hown, hts⟩, -, hK, hJ, hN⟩ := F
  refine va_astq (f := fun j => zx_rfo a (S 5 j)) (r := (RX6, TX6, 2)) hx hb hK hW (zx_D hJ) hS 5 3 k 6 (by rw [zx_wl_get (by decide), zx_E5]) rfl (by rw [zx_wl_get hk, he]) rfl hin hdg (fun H1 locs1 hP _ hS1 => ?_)
  have e : va_up (fun j => zx_rfo a (S 5 j)) i.toNatClampNeg (some (a k)) = fun j => zx_rfo a (upd (S 5) i.toNatClampNeg (nI k) j) := by
    funext j
    by_cases h : j = i.toNatClampNeg
    · simp only [va_up, upd, if_pos h]
      exact (zx_rfo_nI2 hk0 hk).symm
    · simp only [va_up, upd, if_neg h]
  rw [e, zx_wl_set (f := upd (S 5) i.toNatClampNeg (nI k)) (by decide) zx_E5] at hP
  exact kk H1 locs1 hP hS1
end ZX
/-- the tables' cells -/
def zx_tab (k : Nat) : Bool := k == 20 || k == 22 || k == 24 || k == 26 || k == 28 || k == 30 || k == 32
def zx_row (k : Nat) : Bool := k == 1 || k == 3
def zx_tal (k : Nat) : Bool := k == 16 || k == 35 || k == 39
theorem zx_tab_c {k : Nat} (h : zx_tab k = true) : k = 20 ∨ k = 22 ∨ k = 24 ∨ k = 26 ∨ k = 28 ∨ k = 30 ∨ k = 32 := by simp [zx_tab] at h; omega
theorem zx_row_c {k : Nat} (h : zx_row k = true) : k = 1 ∨ k = 3 := by simp [zx_row] at h; omega
theorem zx_tal_c {k : Nat} (h : zx_tal k = true) : k = 16 ∨ k = 35 ∨ k = 39 := by simp [zx_tal] at h; omega
theorem zx_tab_l {k : Nat} (h : zx_tab k = true) : k < 62 ∧ k + 1 < 62 := by rcases zx_tab_c h with rfl | rfl | rfl | rfl | rfl | rfl | rfl <;> decide
theorem zx_row_l {k : Nat} (h : zx_row k = true) : k < 62 ∧ k + 1 < 62 := by rcases zx_row_c h with rfl | rfl <;> decide
theorem zx_tal_l {k : Nat} (h : zx_tal k = true) : k < 62 ∧ k + 1 < 62 := by rcases zx_tal_c h with rfl | rfl | rfl <;> decide
theorem zx_tab_E {k : Nat} (h : zx_tab k = true) {a : Nat → Nat} {cs : zx_C} {f : Nat → Int32} : zx_E a cs k f = .inr (6, [.ref (a (k + 1)), .int (f 1)]) := by rcases zx_tab_c h with rfl | rfl | rfl | rfl | rfl | rfl | rfl <;> rfl
theorem zx_tab_A {k : Nat} (h : zx_tab k = true) {a : Nat → Nat} {cs : zx_C} {f : Nat → Int32} : zx_E a cs (k + 1) f = .inl (cs.1, 256, .inl f) := by rcases zx_tab_c h with rfl | rfl | rfl | rfl | rfl | rfl | rfl <;> rfl
theorem zx_row_E {k : Nat} (h : zx_row k = true) {a : Nat → Nat} {cs : zx_C} {f : Nat → Int32} : zx_E a cs k f = .inr (4, [.ref (a (k + 1)), .int (f 1)]) := by rcases zx_row_c h with rfl | rfl <;> rfl
theorem zx_row_A {k : Nat} (h : zx_row k = true) {a : Nat → Nat} {cs : zx_C} {f : Nat → Int32} : zx_E a cs (k + 1) f = .inl (cs.2.1, 4000, .inl f) := by rcases zx_row_c h with rfl | rfl <;> rfl
theorem zx_tal_E {k : Nat} (h : zx_tal k = true) {a : Nat → Nat} {cs : zx_C} {f : Nat → Int32} : zx_E a cs k f = .inr (7, [.ref (a (k + 1))]) := by rcases zx_tal_c h with rfl | rfl | rfl <;> rfl
theorem zx_tal_A {k : Nat} (h : zx_tal k = true) {a : Nat → Nat} {cs : zx_C} {f : Nat → Int32} : zx_E a cs (k + 1) f = .inl (cs.1, 6, .inl f) := by rcases zx_tal_c h with rfl | rfl | rfl <;> rfl
/-- the lengths of the int arrays, by cell -/
def zx_len (k : Nat) : Nat := if k = 10 ∨ k = 11 then 4096 else if k = 17 ∨ k = 36 ∨ k = 40 then 6 else if k = 18 ∨ k = 37 then 2 else if k = 38 then 1400 else if k = 42 then 562 else 256
def zx_ia (k : Nat) : Bool := k == 6 || k == 14 || k == 17 || k == 21 || k == 23 || k == 25 || k == 27 || k == 29 || k == 31 || k == 33 || k == 36 || k == 37 || k == 40
theorem zx_ia_c {k : Nat} (h : zx_ia k = true) : k = 6 ∨ k = 14 ∨ k = 17 ∨ k = 21 ∨ k = 23 ∨ k = 25 ∨ k = 27 ∨ k = 29 ∨ k = 31 ∨ k = 33 ∨ k = 36 ∨ k = 37 ∨ k = 40 := by simp [zx_ia] at h; omega
theorem zx_ia_l {k : Nat} (h : zx_ia k = true) : k < 62 := by rcases zx_ia_c h with rfl | rfl | rfl | rfl | rfl | rfl | rfl | rfl | rfl | rfl | rfl | rfl | rfl <;> decide
theorem zx_ia_A {k : Nat} (h : zx_ia k = true) {a : Nat → Nat} {cs : zx_C} {f : Nat → Int32} : zx_E a cs k f = .inl (cs.1, zx_len k, .inl f) := by rcases zx_ia_c h with rfl | rfl | rfl | rfl | rfl | rfl | rfl | rfl | rfl | rfl | rfl | rfl | rfl <;> rfl
theorem zx_tab_ia {k : Nat} (h : zx_tab k = true) : zx_ia (k + 1) = true ∧ zx_len (k + 1) = 256 := by rcases zx_tab_c h with rfl | rfl | rfl | rfl | rfl | rfl | rfl <;> decide
theorem zx_tal_ia {k : Nat} (h : zx_tal k = true) : zx_ia (k + 1) = true ∧ zx_len (k + 1) = 6 := by rcases zx_tal_c h with rfl | rfl | rfl <;> decide
/-- a table's number out of a moving reference -/
theorem zx_rfo_tab {a : Nat → Nat} {v : Int32} (h : zx_tab v.toNatClampNeg = true) : va_rf (zx_rfo a v) = .ref (a v.toNatClampNeg) := by
  have : ¬ v = 0 := fun e => by subst e; revert h; decide
  simp [zx_rfo, this, va_rf]
theorem zx_rfo_0 {a : Nat → Nat} : va_rf (zx_rfo a 0) = .null := rfl
theorem zx_tab_0 {k : Nat} (h : zx_tab k = true) : 0 < k := by rcases zx_tab_c h with rfl | rfl | rfl | rfl | rfl | rfl | rfl <;> decide
theorem zx_rfo_1 {a : Nat → Nat} : va_rf (zx_rfo a 1) = .ref (a 1) := by
  have h1 : ¬ (1 : Int32) = 0 := by decide
  have h2 : (1 : Int32).toNatClampNeg = 1 := by decide
  simp [zx_rfo, h1, h2, va_rf]
