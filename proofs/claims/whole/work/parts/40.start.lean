/-- the state behind both constructors -/
def zx_S0 : St := fun k j =>
  if k = 5 then (if j = 0 then 20 else if j = 1 then 22 else if j = 2 then 24 else if j = 3 then 26 else if j = 4 then 28 else if j = 5 then 30 else 0) else
  if k = 7 then (if j = 4 then 32 else if j = 7 then (-1) else 0) else
  if k = 8 then (if j = 3 then 1 else if j = 4 then 1 else 0) else
  if k = 9 then (if j = 8 then (-1) else 0) else
  if k = 41 then (if j = 1 then 1 else if j = 2 then 1 else 0) else
  if k = 43 then (if j = 17 then (-1) else 0) else
  0
theorem st_cs {args : Array Value} {s : State} (hts : ∀ w ∈ lw_tbl, w.before args s = true) (hd : ∀ (c : Nat) (q : vw_C), vwCl[c]? = some q → True) : ∃ cs : zx_C, ∀ (k : Nat) (q : ClassId × FieldType), (zx_ty cs)[k]? = some q → ArrOfT s q.1 q.2 ∧ va_RA s q.1 q.2 := by
  have ht : ∀ w ∈ zx_tb, w.before args s = true := fun w h => hts w (List.mem_filter.mp h).1
  obtain ⟨c1, k1, m1, f1, g1, h1⟩ := Cond.arrayClass_spec (ht _ wa_int)
  obtain ⟨c2, k2, m2, f2, g2, h2⟩ := Cond.arrayClass_spec (ht _ wa_byte)
  obtain ⟨c3, k3, m3, f3, g3, h3⟩ := Cond.arrayClass_spec (ht _ wa_boolean)
  obtain ⟨m4, c4, k4, e1, e2, e3, e4, e5⟩ := Cond.arrayOver_spec (hts _ wx_over)
  refine ⟨(c1, c2, c3, c4), fun k q hq => ?_⟩
  match k, hq with
  | 0, hq => cases hq; exact ⟨fun n z => ⟨fun k h => (by cases h), k1, g1, m1, h1⟩, f1⟩
  | 1, hq => cases hq; exact ⟨fun n z => ⟨fun k h => (by cases h), k2, g2, m2, h2⟩, f2⟩
  | 2, hq => cases hq; exact ⟨fun n z => ⟨fun k h => (by cases h), k3, g3, m3, h3⟩, f3⟩
  | 3, hq => cases hq; exact ⟨fun n z => ⟨fun k h => (by cases h), k4, e3, m4, e4⟩, k4, m4, e3, e4, e1, e5⟩
  | k + 4, hq => simp at hq
theorem st_D {args : Array Value} {s : State} (ht : ∀ w ∈ zx_tb, w.before args s = true) : ∃ D : va_G, ∀ (k : Nat) (q : vw_C), vwCl[k]? = some q → u_Kn s q.1 q.2.1 q.2.2 (D.1 k) (D.2 k) := by
  obtain ⟨c0, i0, h0⟩ := u_known (C := RX0) (T := TX0) (N := 8) (n := 8) ht wu_X0 (ht _ wo_X0)
  obtain ⟨c1, i1, h1⟩ := u_known (C := RX1) (T := TX1) (N := 16) (n := 16) ht wu_X1 (ht _ wo_X1)
  obtain ⟨c2, i2, h2⟩ := u_known (C := RX2) (T := TX2) (N := 3) (n := 3) ht wu_X2 (ht _ wo_X2)
  obtain ⟨c3, i3, h3⟩ := u_known (C := RX3) (T := TX3) (N := 3) (n := 3) ht wu_X3 (ht _ wo_X3)
  obtain ⟨c4, i4, h4⟩ := u_known (C := RX4) (T := TX4) (N := 2) (n := 2) ht wu_X4 (ht _ wo_X4)
  obtain ⟨c5, i5, h5⟩ := u_known (C := RX5) (T := TX5) (N := 10) (n := 10) ht wu_X5 (ht _ wo_X5)
  obtain ⟨c6, i6, h6⟩ := u_known (C := RX6) (T := TX6) (N := 2) (n := 2) ht wu_X6 (ht _ wo_X6)
  obtain ⟨c7, i7, h7⟩ := u_known (C := RX7) (T := TX7) (N := 1) (n := 1) ht wu_X7 (ht _ wo_X7)
  obtain ⟨c8, i8, h8⟩ := u_known (C := RX8) (T := TX8) (N := 11) (n := 11) ht wu_X8 (ht _ wo_X8)
  obtain ⟨c9, i9, h9⟩ := u_known (C := RX9) (T := TX9) (N := 35) (n := 35) ht wu_X9 (ht _ wo_X9)
  refine ⟨(fun k => if k = 0 then c0 else if k = 1 then c1 else if k = 2 then c2 else if k = 3 then c3 else if k = 4 then c4 else if k = 5 then c5 else if k = 6 then c6 else if k = 7 then c7 else if k = 8 then c8 else c9, fun k => if k = 0 then i0 else if k = 1 then i1 else if k = 2 then i2 else if k = 3 then i3 else if k = 4 then i4 else if k = 5 then i5 else if k = 6 then i6 else if k = 7 then i7 else if k = 8 then i8 else i9), ?_⟩
  intro k q hq
  match k, hq with
  | 0, hq => cases hq; exact h0
  | 1, hq => cases hq; exact h1
  | 2, hq => cases hq; exact h2
  | 3, hq => cases hq; exact h3
  | 4, hq => cases hq; exact h4
  | 5, hq => cases hq; exact h5
  | 6, hq => cases hq; exact h6
  | 7, hq => cases hq; exact h7
  | 8, hq => cases hq; exact h8
  | 9, hq => cases hq; exact h9
  | k + 10, hq => simp [vwCl] at hq
def st_L (cs : zx_C) (x0 x1 x2 x3 x4 x5 x6 x7 x8 x9 x10 x11 x12 x13 x14 x15 x16 x17 x18 x19 x20 x21 x22 x23 x24 x25 x26 x27 x28 x29 x30 x31 x32 x33 x34 x35 x36 x37 x38 x39 x40 x41 x42 z0 z1 z2 z3 z4 z5 z6 z7 z8 z9 z10 z11 z12 z13 z14 z15 z16 z17 z18 : Nat) : va_W := [(x0, .inr (8, [.ref x1, .ref x3, .ref x5, .ref x6, .ref x7, .ref x8, .ref x22, .ref x27, .ref x29, .int 0, .int 0])), (x1, .inr (4, [.ref x2, .int 0])), (x2, .inl (cs.2.1, 4000, .inl (fun _ => 0))), (x3, .inr (4, [.ref x4, .int 0])), (x4, .inl (cs.2.1, 4000, .inl (fun _ => 0))), (x5, .inl (cs.2.2.2, 6, .inr (.inr (.inr (.inr (va_up (va_up (va_up (va_up (va_up (va_up (fun _ => none) 0 (some x31)) 1 (some x33)) 2 (some x35)) 3 (some x37)) 4 (some x39)) 5 (some x41))))))), (x6, .inl (cs.1, 256, .inl (fun _ => 0))), (x7, .inr (1, [.ref x8, .ref x16, .ref x18, .ref x19, .ref x20, .null, .int 0, .int (-1), .int 0, .int 0, .int 0, .int 0, .int 0, .int 0, .int 0, .int 0])), (x8, .inr (0, [.ref x9, .int 0, .int 0, .int 1, .int 1, .int 0, .int 0, .int 0])), (x9, .inr (5, [.ref x10, .ref x11, .ref x12, .ref x13, .ref x14, .ref x15, .int 0, .int 0, .int (-1), .null])), (x10, .inl (cs.1, 4096, .inl (fun _ => 0))), (x11, .inl (cs.1, 4096, .inl (fun _ => 0))), (x12, .inl (cs.1, 256, .inl (fun _ => 0))), (x13, .inl (cs.1, 256, .inl (fun _ => 0))), (x14, .inl (cs.1, 256, .inl (fun _ => 0))), (x15, .inl (cs.1, 256, .inl (fun _ => 0))), (x16, .inr (7, [.ref x17])), (x17, .inl (cs.1, 6, .inl (fun _ => 0))), (x18, .inl (cs.1, 2, .inl (fun _ => 0))), (x19, .inl (cs.2.1, 1400, .inl (fun _ => 0))), (x20, .inr (6, [.ref x21, .int 0])), (x21, .inl (cs.1, 256, .inl (fun _ => 0))), (x22, .inr (2, [.ref x23, .ref x25, .ref x26])), (x23, .inr (7, [.ref x24])), (x24, .inl (cs.1, 6, .inl (fun _ => 0))), (x25, .inl (cs.1, 2, .inl (fun _ => 0))), (x26, .inl (cs.1, 1400, .inl (fun _ => 0))), (x27, .inr (7, [.ref x28])), (x28, .inl (cs.1, 6, .inl (fun _ => 0))), (x29, .inr (3, [.ref x30, .int 1, .int 1])), (x30, .inl (cs.1, 562, .inl (fun _ => 0))), (x31, .inr (6, [.ref x32, .int 0])), (x32, .inl (cs.1, 256, .inl (fun _ => 0))), (x33, .inr (6, [.ref x34, .int 0])), (x34, .inl (cs.1, 256, .inl (fun _ => 0))), (x35, .inr (6, [.ref x36, .int 0])), (x36, .inl (cs.1, 256, .inl (fun _ => 0))), (x37, .inr (6, [.ref x38, .int 0])), (x38, .inl (cs.1, 256, .inl (fun _ => 0))), (x39, .inr (6, [.ref x40, .int 0])), (x40, .inl (cs.1, 256, .inl (fun _ => 0))), (x41, .inr (6, [.ref x42, .int 0])), (x42, .inl (cs.1, 256, .inl (fun _ => 0))), (z0, .inr (9, [.ref z1, .int 0, .ref z2, .int 0, .ref z3, .ref z4, .ref z5, .ref z6, .ref z7, .ref z8, .ref z9, .ref z10, .ref z11, .int 0, .ref z12, .ref z13, .int 0, .int (-1), .int 0, .int 0, .int 0, .int 0, .int 0, .ref z14, .ref z15, .ref z16, .ref z17, .int 0, .int 0, .int 0, .int 0, .int 0, .int 0, .int 0, .ref z18])), (z1, .inl (cs.1, 4000, .inl (fun _ => 0))), (z2, .inl (cs.1, 4000, .inl (fun _ => 0))), (z3, .inl (cs.1, 7, .inl (fun _ => 0))), (z4, .inl (cs.1, 1792, .inl (fun _ => 0))), (z5, .inl (cs.1, 1792, .inl (fun _ => 0))), (z6, .inl (cs.2.2.1, 21, .inl (fun _ => 0))), (z7, .inl (cs.1, 86016, .inl (fun _ => 0))), (z8, .inl (cs.1, 86016, .inl (fun _ => 0))), (z9, .inl (cs.1, 86016, .inl (fun _ => 0))), (z10, .inl (cs.1, 256, .inl (fun _ => 0))), (z11, .inl (cs.1, 256, .inl (fun _ => 0))), (z12, .inl (cs.1, 256, .inl (fun _ => 0))), (z13, .inl (cs.1, 6, .inl (fun _ => 0))), (z14, .inl (cs.1, 17000, .inl (fun _ => 0))), (z15, .inl (cs.1, 2, .inl (fun _ => 0))), (z16, .inl (cs.1, 6, .inl (fun _ => 0))), (z17, .inl (cs.1, 1060, .inl (fun _ => 0))), (z18, .inl (cs.1, 1400, .inl (fun _ => 0)))]
def st_a (x0 x1 x2 x3 x4 x5 x6 x7 x8 x9 x10 x11 x12 x13 x14 x15 x16 x17 x18 x19 x20 x21 x22 x23 x24 x25 x26 x27 x28 x29 x30 x31 x32 x33 x34 x35 x36 x37 x38 x39 x40 x41 x42 z0 z1 z2 z3 z4 z5 z6 z7 z8 z9 z10 z11 z12 z13 z14 z15 z16 z17 z18 : Nat) : Nat → Nat := fun k => ([x0, x1, x2, x3, x4, x5, x6, x7, x8, x9, x10, x11, x12, x13, x14, x15, x16, x17, x18, x19, x31, x32, x33, x34, x35, x36, x37, x38, x39, x40, x41, x42, x20, x21, x22, x23, x24, x25, x26, x27, x28, x29, x30, z0, z1, z2, z3, z4, z5, z6, z7, z8, z9, z10, z11, z12, z13, z14, z15, z16, z17, z18] : List Nat).getD k 0
set_option maxHeartbeats 4000000 in
set_option maxRecDepth 100000 in
theorem st_5 {x0 x1 x2 x3 x4 x5 x6 x7 x8 x9 x10 x11 x12 x13 x14 x15 x16 x17 x18 x19 x20 x21 x22 x23 x24 x25 x26 x27 x28 x29 x30 x31 x32 x33 x34 x35 x36 x37 x38 x39 x40 x41 x42 z0 z1 z2 z3 z4 z5 z6 z7 z8 z9 z10 z11 z12 z13 z14 z15 z16 z17 z18 : Nat} : (fun j => zx_rfo (st_a x0 x1 x2 x3 x4 x5 x6 x7 x8 x9 x10 x11 x12 x13 x14 x15 x16 x17 x18 x19 x20 x21 x22 x23 x24 x25 x26 x27 x28 x29 x30 x31 x32 x33 x34 x35 x36 x37 x38 x39 x40 x41 x42 z0 z1 z2 z3 z4 z5 z6 z7 z8 z9 z10 z11 z12 z13 z14 z15 z16 z17 z18) (zx_S0 5 j)) = va_up (va_up (va_up (va_up (va_up (va_up (fun _ => none) 0 (some x31)) 1 (some x33)) 2 (some x35)) 3 (some x37)) 4 (some x39)) 5 (some x41) := by
  funext j
  match j with
  | 0 => rfl
  | 1 => rfl
  | 2 => rfl
  | 3 => rfl
  | 4 => rfl
  | 5 => rfl
  | j + 6 =>
    have e : zx_S0 5 (j + 6) = 0 := by
      unfold zx_S0
      rw [if_pos rfl]
      simp
    rw [e]
    simp [va_up, zx_rfo]
set_option maxHeartbeats 8000000 in
set_option maxRecDepth 100000 in
theorem st_W {D : va_G} {cs : zx_C} {x0 x1 x2 x3 x4 x5 x6 x7 x8 x9 x10 x11 x12 x13 x14 x15 x16 x17 x18 x19 x20 x21 x22 x23 x24 x25 x26 x27 x28 x29 x30 x31 x32 x33 x34 x35 x36 x37 x38 x39 x40 x41 x42 z0 z1 z2 z3 z4 z5 z6 z7 z8 z9 z10 z11 z12 z13 z14 z15 z16 z17 z18 : Nat} {H : Heap} (hP : va_P D vwCl (st_L cs x0 x1 x2 x3 x4 x5 x6 x7 x8 x9 x10 x11 x12 x13 x14 x15 x16 x17 x18 x19 x20 x21 x22 x23 x24 x25 x26 x27 x28 x29 x30 x31 x32 x33 x34 x35 x36 x37 x38 x39 x40 x41 x42 z0 z1 z2 z3 z4 z5 z6 z7 z8 z9 z10 z11 z12 z13 z14 z15 z16 z17 z18) H) : zx_W D (st_a x0 x1 x2 x3 x4 x5 x6 x7 x8 x9 x10 x11 x12 x13 x14 x15 x16 x17 x18 x19 x20 x21 x22 x23 x24 x25 x26 x27 x28 x29 x30 x31 x32 x33 x34 x35 x36 x37 x38 x39 x40 x41 x42 z0 z1 z2 z3 z4 z5 z6 z7 z8 z9 z10 z11 z12 z13 z14 z15 z16 z17 z18) cs zx_S0 H := by
  intro k q hq
  obtain ⟨hk, rfl⟩ := zx_wl_at hq
  match k, hk with
  | 0, _ =>
    have h := hP 0 _ rfl
    exact h
  | 1, _ =>
    have h := hP 1 _ rfl
    exact h
  | 2, _ =>
    have h := hP 2 _ rfl
    exact h
  | 3, _ =>
    have h := hP 3 _ rfl
    exact h
  | 4, _ =>
    have h := hP 4 _ rfl
    exact h
  | 5, _ =>
    have h := hP 5 _ rfl
    rw [zx_E5, st_5]
    exact h
  | 6, _ =>
    have h := hP 6 _ rfl
    exact h
  | 7, _ =>
    have h := hP 7 _ rfl
    exact h
  | 8, _ =>
    have h := hP 8 _ rfl
    exact h
  | 9, _ =>
    have h := hP 9 _ rfl
    exact h
  | 10, _ =>
    have h := hP 10 _ rfl
    exact h
  | 11, _ =>
    have h := hP 11 _ rfl
    exact h
  | 12, _ =>
    have h := hP 12 _ rfl
    exact h
  | 13, _ =>
    have h := hP 13 _ rfl
    exact h
  | 14, _ =>
    have h := hP 14 _ rfl
    exact h
  | 15, _ =>
    have h := hP 15 _ rfl
    exact h
  | 16, _ =>
    have h := hP 16 _ rfl
    exact h
  | 17, _ =>
    have h := hP 17 _ rfl
    exact h
  | 18, _ =>
    have h := hP 18 _ rfl
    exact h
  | 19, _ =>
    have h := hP 19 _ rfl
    exact h
  | 20, _ =>
    have h := hP 31 _ rfl
    exact h
  | 21, _ =>
    have h := hP 32 _ rfl
    exact h
  | 22, _ =>
    have h := hP 33 _ rfl
    exact h
  | 23, _ =>
    have h := hP 34 _ rfl
    exact h
  | 24, _ =>
    have h := hP 35 _ rfl
    exact h
  | 25, _ =>
    have h := hP 36 _ rfl
    exact h
  | 26, _ =>
    have h := hP 37 _ rfl
    exact h
  | 27, _ =>
    have h := hP 38 _ rfl
    exact h
  | 28, _ =>
    have h := hP 39 _ rfl
    exact h
  | 29, _ =>
    have h := hP 40 _ rfl
    exact h
  | 30, _ =>
    have h := hP 41 _ rfl
    exact h
  | 31, _ =>
    have h := hP 42 _ rfl
    exact h
  | 32, _ =>
    have h := hP 20 _ rfl
    exact h
  | 33, _ =>
    have h := hP 21 _ rfl
    exact h
  | 34, _ =>
    have h := hP 22 _ rfl
    exact h
  | 35, _ =>
    have h := hP 23 _ rfl
    exact h
  | 36, _ =>
    have h := hP 24 _ rfl
    exact h
  | 37, _ =>
    have h := hP 25 _ rfl
    exact h
  | 38, _ =>
    have h := hP 26 _ rfl
    exact h
  | 39, _ =>
    have h := hP 27 _ rfl
    exact h
  | 40, _ =>
    have h := hP 28 _ rfl
    exact h
  | 41, _ =>
    have h := hP 29 _ rfl
    exact h
  | 42, _ =>
    have h := hP 30 _ rfl
    exact h
  | 43, _ =>
    have h := hP 43 _ rfl
    exact h
  | 44, _ =>
    have h := hP 44 _ rfl
    exact h
  | 45, _ =>
    have h := hP 45 _ rfl
    exact h
  | 46, _ =>
    have h := hP 46 _ rfl
    exact h
  | 47, _ =>
    have h := hP 47 _ rfl
    exact h
  | 48, _ =>
    have h := hP 48 _ rfl
    exact h
  | 49, _ =>
    have h := hP 49 _ rfl
    exact h
  | 50, _ =>
    have h := hP 50 _ rfl
    exact h
  | 51, _ =>
    have h := hP 51 _ rfl
    exact h
  | 52, _ =>
    have h := hP 52 _ rfl
    exact h
  | 53, _ =>
    have h := hP 53 _ rfl
    exact h
  | 54, _ =>
    have h := hP 54 _ rfl
    exact h
  | 55, _ =>
    have h := hP 55 _ rfl
    exact h
  | 56, _ =>
    have h := hP 56 _ rfl
    exact h
  | 57, _ =>
    have h := hP 57 _ rfl
    exact h
  | 58, _ =>
    have h := hP 58 _ rfl
    exact h
  | 59, _ =>
    have h := hP 59 _ rfl
    exact h
  | 60, _ =>
    have h := hP 60 _ rfl
    exact h
  | 61, _ =>
    have h := hP 61 _ rfl
    exact h
  | k + 62, h => exact absurd h (by omega)
set_option maxHeartbeats 8000000 in
set_option maxRecDepth 100000 in
theorem st_J {cs : zx_C} {A : Nat → Prop} {x0 x1 x2 x3 x4 x5 x6 x7 x8 x9 x10 x11 x12 x13 x14 x15 x16 x17 x18 x19 x20 x21 x22 x23 x24 x25 x26 x27 x28 x29 x30 x31 x32 x33 x34 x35 x36 x37 x38 x39 x40 x41 x42 z0 z1 z2 z3 z4 z5 z6 z7 z8 z9 z10 z11 z12 z13 z14 z15 z16 z17 z18 : Nat} (hD : va_D A (st_L cs x0 x1 x2 x3 x4 x5 x6 x7 x8 x9 x10 x11 x12 x13 x14 x15 x16 x17 x18 x19 x20 x21 x22 x23 x24 x25 x26 x27 x28 x29 x30 x31 x32 x33 x34 x35 x36 x37 x38 x39 x40 x41 x42 z0 z1 z2 z3 z4 z5 z6 z7 z8 z9 z10 z11 z12 z13 z14 z15 z16 z17 z18)) : zx_J (st_a x0 x1 x2 x3 x4 x5 x6 x7 x8 x9 x10 x11 x12 x13 x14 x15 x16 x17 x18 x19 x20 x21 x22 x23 x24 x25 x26 x27 x28 x29 x30 x31 x32 x33 x34 x35 x36 x37 x38 x39 x40 x41 x42 z0 z1 z2 z3 z4 z5 z6 z7 z8 z9 z10 z11 z12 z13 z14 z15 z16 z17 z18) ∧ ∀ k, k < 62 → A (st_a x0 x1 x2 x3 x4 x5 x6 x7 x8 x9 x10 x11 x12 x13 x14 x15 x16 x17 x18 x19 x20 x21 x22 x23 x24 x25 x26 x27 x28 x29 x30 x31 x32 x33 x34 x35 x36 x37 x38 x39 x40 x41 x42 z0 z1 z2 z3 z4 z5 z6 z7 z8 z9 z10 z11 z12 z13 z14 z15 z16 z17 z18 k) := by
  have hp : ∀ k, k < 62 → ∃ e, (st_L cs x0 x1 x2 x3 x4 x5 x6 x7 x8 x9 x10 x11 x12 x13 x14 x15 x16 x17 x18 x19 x20 x21 x22 x23 x24 x25 x26 x27 x28 x29 x30 x31 x32 x33 x34 x35 x36 x37 x38 x39 x40 x41 x42 z0 z1 z2 z3 z4 z5 z6 z7 z8 z9 z10 z11 z12 z13 z14 z15 z16 z17 z18)[([0, 1, 2, 3, 4, 5, 6, 7, 8, 9, 10, 11, 12, 13, 14, 15, 16, 17, 18, 19, 31, 32, 33, 34, 35, 36, 37, 38, 39, 40, 41, 42, 20, 21, 22, 23, 24, 25, 26, 27, 28, 29, 30, 43, 44, 45, 46, 47, 48, 49, 50, 51, 52, 53, 54, 55, 56, 57, 58, 59, 60, 61] : List Nat).getD k 0]? = some (st_a x0 x1 x2 x3 x4 x5 x6 x7 x8 x9 x10 x11 x12 x13 x14 x15 x16 x17 x18 x19 x20 x21 x22 x23 x24 x25 x26 x27 x28 x29 x30 x31 x32 x33 x34 x35 x36 x37 x38 x39 x40 x41 x42 z0 z1 z2 z3 z4 z5 z6 z7 z8 z9 z10 z11 z12 z13 z14 z15 z16 z17 z18 k, e) := by
    intro k hk
    match k, hk with
    | 0, _ => exact ⟨_, rfl⟩
    | 1, _ => exact ⟨_, rfl⟩
    | 2, _ => exact ⟨_, rfl⟩
    | 3, _ => exact ⟨_, rfl⟩
    | 4, _ => exact ⟨_, rfl⟩
    | 5, _ => exact ⟨_, rfl⟩
    | 6, _ => exact ⟨_, rfl⟩
    | 7, _ => exact ⟨_, rfl⟩
    | 8, _ => exact ⟨_, rfl⟩
    | 9, _ => exact ⟨_, rfl⟩
    | 10, _ => exact ⟨_, rfl⟩
    | 11, _ => exact ⟨_, rfl⟩
    | 12, _ => exact ⟨_, rfl⟩
    | 13, _ => exact ⟨_, rfl⟩
    | 14, _ => exact ⟨_, rfl⟩
    | 15, _ => exact ⟨_, rfl⟩
    | 16, _ => exact ⟨_, rfl⟩
    | 17, _ => exact ⟨_, rfl⟩
    | 18, _ => exact ⟨_, rfl⟩
    | 19, _ => exact ⟨_, rfl⟩
    | 20, _ => exact ⟨_, rfl⟩
    | 21, _ => exact ⟨_, rfl⟩
    | 22, _ => exact ⟨_, rfl⟩
    | 23, _ => exact ⟨_, rfl⟩
    | 24, _ => exact ⟨_, rfl⟩
    | 25, _ => exact ⟨_, rfl⟩
    | 26, _ => exact ⟨_, rfl⟩
    | 27, _ => exact ⟨_, rfl⟩
    | 28, _ => exact ⟨_, rfl⟩
    | 29, _ => exact ⟨_, rfl⟩
    | 30, _ => exact ⟨_, rfl⟩
    | 31, _ => exact ⟨_, rfl⟩
    | 32, _ => exact ⟨_, rfl⟩
    | 33, _ => exact ⟨_, rfl⟩
    | 34, _ => exact ⟨_, rfl⟩
    | 35, _ => exact ⟨_, rfl⟩
    | 36, _ => exact ⟨_, rfl⟩
    | 37, _ => exact ⟨_, rfl⟩
    | 38, _ => exact ⟨_, rfl⟩
    | 39, _ => exact ⟨_, rfl⟩
    | 40, _ => exact ⟨_, rfl⟩
    | 41, _ => exact ⟨_, rfl⟩
    | 42, _ => exact ⟨_, rfl⟩
    | 43, _ => exact ⟨_, rfl⟩
    | 44, _ => exact ⟨_, rfl⟩
    | 45, _ => exact ⟨_, rfl⟩
    | 46, _ => exact ⟨_, rfl⟩
    | 47, _ => exact ⟨_, rfl⟩
    | 48, _ => exact ⟨_, rfl⟩
    | 49, _ => exact ⟨_, rfl⟩
    | 50, _ => exact ⟨_, rfl⟩
    | 51, _ => exact ⟨_, rfl⟩
    | 52, _ => exact ⟨_, rfl⟩
    | 53, _ => exact ⟨_, rfl⟩
    | 54, _ => exact ⟨_, rfl⟩
    | 55, _ => exact ⟨_, rfl⟩
    | 56, _ => exact ⟨_, rfl⟩
    | 57, _ => exact ⟨_, rfl⟩
    | 58, _ => exact ⟨_, rfl⟩
    | 59, _ => exact ⟨_, rfl⟩
    | 60, _ => exact ⟨_, rfl⟩
    | 61, _ => exact ⟨_, rfl⟩
    | k + 62, h => exact absurd h (by omega)
  have hinj : ∀ i, i < 62 → ∀ j, j < 62 → ([0, 1, 2, 3, 4, 5, 6, 7, 8, 9, 10, 11, 12, 13, 14, 15, 16, 17, 18, 19, 31, 32, 33, 34, 35, 36, 37, 38, 39, 40, 41, 42, 20, 21, 22, 23, 24, 25, 26, 27, 28, 29, 30, 43, 44, 45, 46, 47, 48, 49, 50, 51, 52, 53, 54, 55, 56, 57, 58, 59, 60, 61] : List Nat).getD i 0 = ([0, 1, 2, 3, 4, 5, 6, 7, 8, 9, 10, 11, 12, 13, 14, 15, 16, 17, 18, 19, 31, 32, 33, 34, 35, 36, 37, 38, 39, 40, 41, 42, 20, 21, 22, 23, 24, 25, 26, 27, 28, 29, 30, 43, 44, 45, 46, 47, 48, 49, 50, 51, 52, 53, 54, 55, 56, 57, 58, 59, 60, 61] : List Nat).getD j 0 → i = j := by decide +kernel
  refine ⟨fun i j hi hj e => ?_, fun k hk => ?_⟩
  · obtain ⟨e1, h1⟩ := hp i hi
    obtain ⟨e2, h2⟩ := hp j hj
    exact hinj i hi j hj (hD.1 _ _ _ _ h1 h2 e)
  · obtain ⟨e1, h1⟩ := hp k hk
    exact hD.2 _ _ h1
set_option maxHeartbeats 8000000 in
set_option maxRecDepth 100000 in
theorem start_open {p : Program} {e : Env} {s : State} {m : MethodId} {below : List Frame} {meth : Method} {c : Code} (l : Launch) {b L : Nat} {xs : Nat → Int32} {fu : Nat} {I : St → Prop} (hI : lx_all fu I) (hI0 : I zx_S0) (hL : L ≤ 3072) (C0 : lw_At p s m meth c b L xs) : W p l e room_1 s m #[Value.ref b] below meth c s.heap [] 0 0 (lw_Z below #[Value.ref b] s) (entryFrame m ([Value.ref b] : List Value).toArray 4) := by
  obtain ⟨hx, hb, hr, hml, hown, hts, hX, hbl, hlocks, hgv⟩ := id C0
  have ht : ∀ w ∈ zx_tb, w.before #[Value.ref b] s = true := fun w h => hts w (List.mem_filter.mp h).1
  have hA : ∀ q : Nat, s.heap.size ≤ q → (fun q : Nat => s.heap.size ≤ q) q := fun _ h => h
  obtain ⟨D, hD0⟩ := st_D ht
  obtain ⟨cs, hcs⟩ := st_cs hts (fun _ _ _ => trivial)
  have hK : va_K D vwCl (zx_ty cs) s := ⟨hD0, hcs⟩
  have hO : va_AO RX6 s := va_AO.of (hts _ wx_over)
  have hN : zx_N s := fun w hw => va_Nw.of (zx_ne_on w hw) (hts w (zx_ne_tb w hw))
  have hS : va_S (fun q : Nat => s.heap.size ≤ q) s.heap s.heap [] := va_S.rf
  have hP : va_P D vwCl [] s.heap := fun k q h => by simp at h
  have hD : va_D (fun q : Nat => s.heap.size ≤ q) [] := ⟨fun i j p q h => by simp at h, fun k q h => by simp at h⟩
  have hl := lv_entry ([.ref b]) (n := 4) (Nat.le_of_ble_eq_true rfl)
  rw [lg_entry_eq]
  generalize (lg_sl ([.ref b]) ++ List.replicate (4 - (lg_sl ([.ref b])).length) Slot.unset).toArray = ls at hl ⊢
  have hl : lv_has ls 4 [(0, .ref b)] := hl
  refine va_new (ci := 8) (fs := [.null, .null, .null, .null, .null, .null, .null, .null, .null, .int 0, .int 0]) (C := RX8) (T := TX8) (N := 11) hx hb ht wu_X8 tyX8 tyX8_ok hown (ht _ wq_L_7) (ht _ wo_X8) (ht _ wn_X8) hK hP hD hS hA rfl (by decide) (Nat.le_of_ble_eq_true rfl) (Nat.le_of_ble_eq_true rfl) dL_law_0 (fun x0 H hP hD hS => ?_)
  have hP : va_P D vwCl [(x0, .inr (8, [.null, .null, .null, .null, .null, .null, .null, .null, .null, .int 0, .int 0]))] H := hP
  have hD : va_D (fun q : Nat => s.heap.size ≤ q) [(x0, .inr (8, [.null, .null, .null, .null, .null, .null, .null, .null, .null, .int 0, .int 0]))] := hD
  refine lv_dup hx hb dL_law_3 rfl ?_
  have hPc := hP.sub (ws' := [(x0, .inr (8, [.null, .null, .null, .null, .null, .null, .null, .null, .null, .int 0, .int 0]))]) [0] rfl
  have hFc := va_free (wc := [(x0, .inr (8, [.null, .null, .null, .null, .null, .null, .null, .null, .null, .int 0, .int 0]))]) hD hS hA [0] rfl
  refine va_callv (va_runI (As := []) (rest := [.ref x0]) ⟨hx, hb, hml, hown, ht⟩ (i_X8 l D cs x0 H.size) ⟨callB_of 0 ht (zx_goodc Y_X8_init.1) rfl rfl rfl (ht _ Y_X8_init.2.1) (ht _ wm_L_9) Y_X8_init.2.2 ⟨Nat.le_of_ble_eq_true rfl, Nat.le_of_ble_eq_true rfl⟩, rfl, ht _ wi_X8_init⟩ ⟨ix_blind, fun U hU hWm => ⟨rfl, by rw [hU], by rw [hU]; exact hPc, va_K.moved hWm.alike hK, va_AO.moved hWm.alike hO, hN.warm hWm⟩⟩ rfl rfl hl.1 rfl (lv_room (Nat.le_of_ble_eq_true rfl)) dL_law_4 ⟨Nat.le_of_ble_eq_true rfl, Nat.le_of_ble_eq_true rfl⟩) hS (fun q _ h => hFc q h) hFc (fun u t H1 locs ht1 hvm hw hB hz1 hk1 hS => ?_)
  obtain ⟨x1, x2, x3, x4, x5, x6, x7, x8, x9, x10, x11, x12, x13, x14, x15, x16, x17, x18, x19, x20, x21, x22, x23, x24, x25, x26, x27, x28, x29, x30, x31, x32, x33, x34, x35, x36, x37, x38, x39, x40, x41, x42, hP1, hD1⟩ := hB
  rw [ht1] at hP1
  obtain ⟨hP, hD⟩ := va_join (wr := []) (w1 := [(x0, .inr (8, [.ref x1, .ref x3, .ref x5, .ref x6, .ref x7, .ref x8, .ref x22, .ref x27, .ref x29, .int 0, .int 0])), (x1, .inr (4, [.ref x2, .int 0])), (x2, .inl (cs.2.1, 4000, .inl (fun _ => 0))), (x3, .inr (4, [.ref x4, .int 0])), (x4, .inl (cs.2.1, 4000, .inl (fun _ => 0))), (x5, .inl (cs.2.2.2, 6, .inr (.inr (.inr (.inr (va_up (va_up (va_up (va_up (va_up (va_up (fun _ => none) 0 (some x31)) 1 (some x33)) 2 (some x35)) 3 (some x37)) 4 (some x39)) 5 (some x41))))))), (x6, .inl (cs.1, 256, .inl (fun _ => 0))), (x7, .inr (1, [.ref x8, .ref x16, .ref x18, .ref x19, .ref x20, .null, .int 0, .int (-1), .int 0, .int 0, .int 0, .int 0, .int 0, .int 0, .int 0, .int 0])), (x8, .inr (0, [.ref x9, .int 0, .int 0, .int 1, .int 1, .int 0, .int 0, .int 0])), (x9, .inr (5, [.ref x10, .ref x11, .ref x12, .ref x13, .ref x14, .ref x15, .int 0, .int 0, .int (-1), .null])), (x10, .inl (cs.1, 4096, .inl (fun _ => 0))), (x11, .inl (cs.1, 4096, .inl (fun _ => 0))), (x12, .inl (cs.1, 256, .inl (fun _ => 0))), (x13, .inl (cs.1, 256, .inl (fun _ => 0))), (x14, .inl (cs.1, 256, .inl (fun _ => 0))), (x15, .inl (cs.1, 256, .inl (fun _ => 0))), (x16, .inr (7, [.ref x17])), (x17, .inl (cs.1, 6, .inl (fun _ => 0))), (x18, .inl (cs.1, 2, .inl (fun _ => 0))), (x19, .inl (cs.2.1, 1400, .inl (fun _ => 0))), (x20, .inr (6, [.ref x21, .int 0])), (x21, .inl (cs.1, 256, .inl (fun _ => 0))), (x22, .inr (2, [.ref x23, .ref x25, .ref x26])), (x23, .inr (7, [.ref x24])), (x24, .inl (cs.1, 6, .inl (fun _ => 0))), (x25, .inl (cs.1, 2, .inl (fun _ => 0))), (x26, .inl (cs.1, 1400, .inl (fun _ => 0))), (x27, .inr (7, [.ref x28])), (x28, .inl (cs.1, 6, .inl (fun _ => 0))), (x29, .inr (3, [.ref x30, .int 1, .int 1])), (x30, .inl (cs.1, 562, .inl (fun _ => 0))), (x31, .inr (6, [.ref x32, .int 0])), (x32, .inl (cs.1, 256, .inl (fun _ => 0))), (x33, .inr (6, [.ref x34, .int 0])), (x34, .inl (cs.1, 256, .inl (fun _ => 0))), (x35, .inr (6, [.ref x36, .int 0])), (x36, .inl (cs.1, 256, .inl (fun _ => 0))), (x37, .inr (6, [.ref x38, .int 0])), (x38, .inl (cs.1, 256, .inl (fun _ => 0))), (x39, .inr (6, [.ref x40, .int 0])), (x40, .inl (cs.1, 256, .inl (fun _ => 0))), (x41, .inr (6, [.ref x42, .int 0])), (x42, .inl (cs.1, 256, .inl (fun _ => 0)))]) hP hD [0] [] rfl rfl (by decide) (by decide) hk1 hFc hP1 hD1
  generalize H1 = H at hP hS ⊢
  refine W.widen (k := 43) (n := 22726) (Nat.le_of_ble_eq_true rfl) (Nat.le_of_ble_eq_true rfl) ?_
  have hP : va_P D vwCl [(x0, .inr (8, [.ref x1, .ref x3, .ref x5, .ref x6, .ref x7, .ref x8, .ref x22, .ref x27, .ref x29, .int 0, .int 0])), (x1, .inr (4, [.ref x2, .int 0])), (x2, .inl (cs.2.1, 4000, .inl (fun _ => 0))), (x3, .inr (4, [.ref x4, .int 0])), (x4, .inl (cs.2.1, 4000, .inl (fun _ => 0))), (x5, .inl (cs.2.2.2, 6, .inr (.inr (.inr (.inr (va_up (va_up (va_up (va_up (va_up (va_up (fun _ => none) 0 (some x31)) 1 (some x33)) 2 (some x35)) 3 (some x37)) 4 (some x39)) 5 (some x41))))))), (x6, .inl (cs.1, 256, .inl (fun _ => 0))), (x7, .inr (1, [.ref x8, .ref x16, .ref x18, .ref x19, .ref x20, .null, .int 0, .int (-1), .int 0, .int 0, .int 0, .int 0, .int 0, .int 0, .int 0, .int 0])), (x8, .inr (0, [.ref x9, .int 0, .int 0, .int 1, .int 1, .int 0, .int 0, .int 0])), (x9, .inr (5, [.ref x10, .ref x11, .ref x12, .ref x13, .ref x14, .ref x15, .int 0, .int 0, .int (-1), .null])), (x10, .inl (cs.1, 4096, .inl (fun _ => 0))), (x11, .inl (cs.1, 4096, .inl (fun _ => 0))), (x12, .inl (cs.1, 256, .inl (fun _ => 0))), (x13, .inl (cs.1, 256, .inl (fun _ => 0))), (x14, .inl (cs.1, 256, .inl (fun _ => 0))), (x15, .inl (cs.1, 256, .inl (fun _ => 0))), (x16, .inr (7, [.ref x17])), (x17, .inl (cs.1, 6, .inl (fun _ => 0))), (x18, .inl (cs.1, 2, .inl (fun _ => 0))), (x19, .inl (cs.2.1, 1400, .inl (fun _ => 0))), (x20, .inr (6, [.ref x21, .int 0])), (x21, .inl (cs.1, 256, .inl (fun _ => 0))), (x22, .inr (2, [.ref x23, .ref x25, .ref x26])), (x23, .inr (7, [.ref x24])), (x24, .inl (cs.1, 6, .inl (fun _ => 0))), (x25, .inl (cs.1, 2, .inl (fun _ => 0))), (x26, .inl (cs.1, 1400, .inl (fun _ => 0))), (x27, .inr (7, [.ref x28])), (x28, .inl (cs.1, 6, .inl (fun _ => 0))), (x29, .inr (3, [.ref x30, .int 1, .int 1])), (x30, .inl (cs.1, 562, .inl (fun _ => 0))), (x31, .inr (6, [.ref x32, .int 0])), (x32, .inl (cs.1, 256, .inl (fun _ => 0))), (x33, .inr (6, [.ref x34, .int 0])), (x34, .inl (cs.1, 256, .inl (fun _ => 0))), (x35, .inr (6, [.ref x36, .int 0])), (x36, .inl (cs.1, 256, .inl (fun _ => 0))), (x37, .inr (6, [.ref x38, .int 0])), (x38, .inl (cs.1, 256, .inl (fun _ => 0))), (x39, .inr (6, [.ref x40, .int 0])), (x40, .inl (cs.1, 256, .inl (fun _ => 0))), (x41, .inr (6, [.ref x42, .int 0])), (x42, .inl (cs.1, 256, .inl (fun _ => 0)))] H := hP
  have hD : va_D (fun q : Nat => s.heap.size ≤ q) [(x0, .inr (8, [.ref x1, .ref x3, .ref x5, .ref x6, .ref x7, .ref x8, .ref x22, .ref x27, .ref x29, .int 0, .int 0])), (x1, .inr (4, [.ref x2, .int 0])), (x2, .inl (cs.2.1, 4000, .inl (fun _ => 0))), (x3, .inr (4, [.ref x4, .int 0])), (x4, .inl (cs.2.1, 4000, .inl (fun _ => 0))), (x5, .inl (cs.2.2.2, 6, .inr (.inr (.inr (.inr (va_up (va_up (va_up (va_up (va_up (va_up (fun _ => none) 0 (some x31)) 1 (some x33)) 2 (some x35)) 3 (some x37)) 4 (some x39)) 5 (some x41))))))), (x6, .inl (cs.1, 256, .inl (fun _ => 0))), (x7, .inr (1, [.ref x8, .ref x16, .ref x18, .ref x19, .ref x20, .null, .int 0, .int (-1), .int 0, .int 0, .int 0, .int 0, .int 0, .int 0, .int 0, .int 0])), (x8, .inr (0, [.ref x9, .int 0, .int 0, .int 1, .int 1, .int 0, .int 0, .int 0])), (x9, .inr (5, [.ref x10, .ref x11, .ref x12, .ref x13, .ref x14, .ref x15, .int 0, .int 0, .int (-1), .null])), (x10, .inl (cs.1, 4096, .inl (fun _ => 0))), (x11, .inl (cs.1, 4096, .inl (fun _ => 0))), (x12, .inl (cs.1, 256, .inl (fun _ => 0))), (x13, .inl (cs.1, 256, .inl (fun _ => 0))), (x14, .inl (cs.1, 256, .inl (fun _ => 0))), (x15, .inl (cs.1, 256, .inl (fun _ => 0))), (x16, .inr (7, [.ref x17])), (x17, .inl (cs.1, 6, .inl (fun _ => 0))), (x18, .inl (cs.1, 2, .inl (fun _ => 0))), (x19, .inl (cs.2.1, 1400, .inl (fun _ => 0))), (x20, .inr (6, [.ref x21, .int 0])), (x21, .inl (cs.1, 256, .inl (fun _ => 0))), (x22, .inr (2, [.ref x23, .ref x25, .ref x26])), (x23, .inr (7, [.ref x24])), (x24, .inl (cs.1, 6, .inl (fun _ => 0))), (x25, .inl (cs.1, 2, .inl (fun _ => 0))), (x26, .inl (cs.1, 1400, .inl (fun _ => 0))), (x27, .inr (7, [.ref x28])), (x28, .inl (cs.1, 6, .inl (fun _ => 0))), (x29, .inr (3, [.ref x30, .int 1, .int 1])), (x30, .inl (cs.1, 562, .inl (fun _ => 0))), (x31, .inr (6, [.ref x32, .int 0])), (x32, .inl (cs.1, 256, .inl (fun _ => 0))), (x33, .inr (6, [.ref x34, .int 0])), (x34, .inl (cs.1, 256, .inl (fun _ => 0))), (x35, .inr (6, [.ref x36, .int 0])), (x36, .inl (cs.1, 256, .inl (fun _ => 0))), (x37, .inr (6, [.ref x38, .int 0])), (x38, .inl (cs.1, 256, .inl (fun _ => 0))), (x39, .inr (6, [.ref x40, .int 0])), (x40, .inl (cs.1, 256, .inl (fun _ => 0))), (x41, .inr (6, [.ref x42, .int 0])), (x42, .inl (cs.1, 256, .inl (fun _ => 0)))] := hD
  refine lv_astore_n (lv' := [(1, .ref x0), (0, .ref b)]) hx hb dL_law_7 rfl hl (by decide) rfl (fun ls hl => ?_)
  refine va_new (ci := 9) (fs := [.null, .int 0, .null, .int 0, .null, .null, .null, .null, .null, .null, .null, .null, .null, .int 0, .null, .null, .int 0, .int 0, .int 0, .int 0, .int 0, .int 0, .int 0, .null, .null, .null, .null, .int 0, .int 0, .int 0, .int 0, .int 0, .int 0, .int 0, .null]) (C := RX9) (T := TX9) (N := 35) hx hb ht wu_X9 tyX9 tyX9_ok hown (ht _ wq_L_10) (ht _ wo_X9) (ht _ wn_X9) hK hP hD hS hA rfl (by decide) (Nat.le_of_ble_eq_true rfl) (Nat.le_of_ble_eq_true rfl) dL_law_8 (fun z0 H hP hD hS => ?_)
  have hP : va_P D vwCl [(x0, .inr (8, [.ref x1, .ref x3, .ref x5, .ref x6, .ref x7, .ref x8, .ref x22, .ref x27, .ref x29, .int 0, .int 0])), (x1, .inr (4, [.ref x2, .int 0])), (x2, .inl (cs.2.1, 4000, .inl (fun _ => 0))), (x3, .inr (4, [.ref x4, .int 0])), (x4, .inl (cs.2.1, 4000, .inl (fun _ => 0))), (x5, .inl (cs.2.2.2, 6, .inr (.inr (.inr (.inr (va_up (va_up (va_up (va_up (va_up (va_up (fun _ => none) 0 (some x31)) 1 (some x33)) 2 (some x35)) 3 (some x37)) 4 (some x39)) 5 (some x41))))))), (x6, .inl (cs.1, 256, .inl (fun _ => 0))), (x7, .inr (1, [.ref x8, .ref x16, .ref x18, .ref x19, .ref x20, .null, .int 0, .int (-1), .int 0, .int 0, .int 0, .int 0, .int 0, .int 0, .int 0, .int 0])), (x8, .inr (0, [.ref x9, .int 0, .int 0, .int 1, .int 1, .int 0, .int 0, .int 0])), (x9, .inr (5, [.ref x10, .ref x11, .ref x12, .ref x13, .ref x14, .ref x15, .int 0, .int 0, .int (-1), .null])), (x10, .inl (cs.1, 4096, .inl (fun _ => 0))), (x11, .inl (cs.1, 4096, .inl (fun _ => 0))), (x12, .inl (cs.1, 256, .inl (fun _ => 0))), (x13, .inl (cs.1, 256, .inl (fun _ => 0))), (x14, .inl (cs.1, 256, .inl (fun _ => 0))), (x15, .inl (cs.1, 256, .inl (fun _ => 0))), (x16, .inr (7, [.ref x17])), (x17, .inl (cs.1, 6, .inl (fun _ => 0))), (x18, .inl (cs.1, 2, .inl (fun _ => 0))), (x19, .inl (cs.2.1, 1400, .inl (fun _ => 0))), (x20, .inr (6, [.ref x21, .int 0])), (x21, .inl (cs.1, 256, .inl (fun _ => 0))), (x22, .inr (2, [.ref x23, .ref x25, .ref x26])), (x23, .inr (7, [.ref x24])), (x24, .inl (cs.1, 6, .inl (fun _ => 0))), (x25, .inl (cs.1, 2, .inl (fun _ => 0))), (x26, .inl (cs.1, 1400, .inl (fun _ => 0))), (x27, .inr (7, [.ref x28])), (x28, .inl (cs.1, 6, .inl (fun _ => 0))), (x29, .inr (3, [.ref x30, .int 1, .int 1])), (x30, .inl (cs.1, 562, .inl (fun _ => 0))), (x31, .inr (6, [.ref x32, .int 0])), (x32, .inl (cs.1, 256, .inl (fun _ => 0))), (x33, .inr (6, [.ref x34, .int 0])), (x34, .inl (cs.1, 256, .inl (fun _ => 0))), (x35, .inr (6, [.ref x36, .int 0])), (x36, .inl (cs.1, 256, .inl (fun _ => 0))), (x37, .inr (6, [.ref x38, .int 0])), (x38, .inl (cs.1, 256, .inl (fun _ => 0))), (x39, .inr (6, [.ref x40, .int 0])), (x40, .inl (cs.1, 256, .inl (fun _ => 0))), (x41, .inr (6, [.ref x42, .int 0])), (x42, .inl (cs.1, 256, .inl (fun _ => 0))), (z0, .inr (9, [.null, .int 0, .null, .int 0, .null, .null, .null, .null, .null, .null, .null, .null, .null, .int 0, .null, .null, .int 0, .int 0, .int 0, .int 0, .int 0, .int 0, .int 0, .null, .null, .null, .null, .int 0, .int 0, .int 0, .int 0, .int 0, .int 0, .int 0, .null]))] H := hP
  have hD : va_D (fun q : Nat => s.heap.size ≤ q) [(x0, .inr (8, [.ref x1, .ref x3, .ref x5, .ref x6, .ref x7, .ref x8, .ref x22, .ref x27, .ref x29, .int 0, .int 0])), (x1, .inr (4, [.ref x2, .int 0])), (x2, .inl (cs.2.1, 4000, .inl (fun _ => 0))), (x3, .inr (4, [.ref x4, .int 0])), (x4, .inl (cs.2.1, 4000, .inl (fun _ => 0))), (x5, .inl (cs.2.2.2, 6, .inr (.inr (.inr (.inr (va_up (va_up (va_up (va_up (va_up (va_up (fun _ => none) 0 (some x31)) 1 (some x33)) 2 (some x35)) 3 (some x37)) 4 (some x39)) 5 (some x41))))))), (x6, .inl (cs.1, 256, .inl (fun _ => 0))), (x7, .inr (1, [.ref x8, .ref x16, .ref x18, .ref x19, .ref x20, .null, .int 0, .int (-1), .int 0, .int 0, .int 0, .int 0, .int 0, .int 0, .int 0, .int 0])), (x8, .inr (0, [.ref x9, .int 0, .int 0, .int 1, .int 1, .int 0, .int 0, .int 0])), (x9, .inr (5, [.ref x10, .ref x11, .ref x12, .ref x13, .ref x14, .ref x15, .int 0, .int 0, .int (-1), .null])), (x10, .inl (cs.1, 4096, .inl (fun _ => 0))), (x11, .inl (cs.1, 4096, .inl (fun _ => 0))), (x12, .inl (cs.1, 256, .inl (fun _ => 0))), (x13, .inl (cs.1, 256, .inl (fun _ => 0))), (x14, .inl (cs.1, 256, .inl (fun _ => 0))), (x15, .inl (cs.1, 256, .inl (fun _ => 0))), (x16, .inr (7, [.ref x17])), (x17, .inl (cs.1, 6, .inl (fun _ => 0))), (x18, .inl (cs.1, 2, .inl (fun _ => 0))), (x19, .inl (cs.2.1, 1400, .inl (fun _ => 0))), (x20, .inr (6, [.ref x21, .int 0])), (x21, .inl (cs.1, 256, .inl (fun _ => 0))), (x22, .inr (2, [.ref x23, .ref x25, .ref x26])), (x23, .inr (7, [.ref x24])), (x24, .inl (cs.1, 6, .inl (fun _ => 0))), (x25, .inl (cs.1, 2, .inl (fun _ => 0))), (x26, .inl (cs.1, 1400, .inl (fun _ => 0))), (x27, .inr (7, [.ref x28])), (x28, .inl (cs.1, 6, .inl (fun _ => 0))), (x29, .inr (3, [.ref x30, .int 1, .int 1])), (x30, .inl (cs.1, 562, .inl (fun _ => 0))), (x31, .inr (6, [.ref x32, .int 0])), (x32, .inl (cs.1, 256, .inl (fun _ => 0))), (x33, .inr (6, [.ref x34, .int 0])), (x34, .inl (cs.1, 256, .inl (fun _ => 0))), (x35, .inr (6, [.ref x36, .int 0])), (x36, .inl (cs.1, 256, .inl (fun _ => 0))), (x37, .inr (6, [.ref x38, .int 0])), (x38, .inl (cs.1, 256, .inl (fun _ => 0))), (x39, .inr (6, [.ref x40, .int 0])), (x40, .inl (cs.1, 256, .inl (fun _ => 0))), (x41, .inr (6, [.ref x42, .int 0])), (x42, .inl (cs.1, 256, .inl (fun _ => 0))), (z0, .inr (9, [.null, .int 0, .null, .int 0, .null, .null, .null, .null, .null, .null, .null, .null, .null, .int 0, .null, .null, .int 0, .int 0, .int 0, .int 0, .int 0, .int 0, .int 0, .null, .null, .null, .null, .int 0, .int 0, .int 0, .int 0, .int 0, .int 0, .int 0, .null]))] := hD
  refine lv_dup hx hb dL_law_11 rfl ?_
  have hPc := hP.sub (ws' := [(z0, .inr (9, [.null, .int 0, .null, .int 0, .null, .null, .null, .null, .null, .null, .null, .null, .null, .int 0, .null, .null, .int 0, .int 0, .int 0, .int 0, .int 0, .int 0, .int 0, .null, .null, .null, .null, .int 0, .int 0, .int 0, .int 0, .int 0, .int 0, .int 0, .null]))]) [43] rfl
  have hFc := va_free (wc := [(z0, .inr (9, [.null, .int 0, .null, .int 0, .null, .null, .null, .null, .null, .null, .null, .null, .null, .int 0, .null, .null, .int 0, .int 0, .int 0, .int 0, .int 0, .int 0, .int 0, .null, .null, .null, .null, .int 0, .int 0, .int 0, .int 0, .int 0, .int 0, .int 0, .null]))]) hD hS hA [43] rfl
  refine va_callv (va_runI (As := []) (rest := [.ref z0]) ⟨hx, hb, hml, hown, ht⟩ (i_X9 l D cs z0 H.size) ⟨callB_of 0 ht (zx_goodc Y_X9_init.1) rfl rfl rfl (ht _ Y_X9_init.2.1) (ht _ wm_L_12) Y_X9_init.2.2 ⟨Nat.le_of_ble_eq_true rfl, Nat.le_of_ble_eq_true rfl⟩, rfl, ht _ wi_X9_init⟩ ⟨ix_blind, fun U hU hWm => ⟨rfl, by rw [hU], by rw [hU]; exact hPc, va_K.moved hWm.alike hK, va_AO.moved hWm.alike hO, hN.warm hWm⟩⟩ rfl rfl hl.1 rfl (lv_room (Nat.le_of_ble_eq_true rfl)) dL_law_12 ⟨Nat.le_of_ble_eq_true rfl, Nat.le_of_ble_eq_true rfl⟩) hS (fun q _ h => hFc q h) hFc (fun u t H1 locs ht1 hvm hw hB hz1 hk1 hS => ?_)
  obtain ⟨z1, z2, z3, z4, z5, z6, z7, z8, z9, z10, z11, z12, z13, z14, z15, z16, z17, z18, hP1, hD1⟩ := hB
  rw [ht1] at hP1
  obtain ⟨hP, hD⟩ := va_join (wr := [(x0, .inr (8, [.ref x1, .ref x3, .ref x5, .ref x6, .ref x7, .ref x8, .ref x22, .ref x27, .ref x29, .int 0, .int 0])), (x1, .inr (4, [.ref x2, .int 0])), (x2, .inl (cs.2.1, 4000, .inl (fun _ => 0))), (x3, .inr (4, [.ref x4, .int 0])), (x4, .inl (cs.2.1, 4000, .inl (fun _ => 0))), (x5, .inl (cs.2.2.2, 6, .inr (.inr (.inr (.inr (va_up (va_up (va_up (va_up (va_up (va_up (fun _ => none) 0 (some x31)) 1 (some x33)) 2 (some x35)) 3 (some x37)) 4 (some x39)) 5 (some x41))))))), (x6, .inl (cs.1, 256, .inl (fun _ => 0))), (x7, .inr (1, [.ref x8, .ref x16, .ref x18, .ref x19, .ref x20, .null, .int 0, .int (-1), .int 0, .int 0, .int 0, .int 0, .int 0, .int 0, .int 0, .int 0])), (x8, .inr (0, [.ref x9, .int 0, .int 0, .int 1, .int 1, .int 0, .int 0, .int 0])), (x9, .inr (5, [.ref x10, .ref x11, .ref x12, .ref x13, .ref x14, .ref x15, .int 0, .int 0, .int (-1), .null])), (x10, .inl (cs.1, 4096, .inl (fun _ => 0))), (x11, .inl (cs.1, 4096, .inl (fun _ => 0))), (x12, .inl (cs.1, 256, .inl (fun _ => 0))), (x13, .inl (cs.1, 256, .inl (fun _ => 0))), (x14, .inl (cs.1, 256, .inl (fun _ => 0))), (x15, .inl (cs.1, 256, .inl (fun _ => 0))), (x16, .inr (7, [.ref x17])), (x17, .inl (cs.1, 6, .inl (fun _ => 0))), (x18, .inl (cs.1, 2, .inl (fun _ => 0))), (x19, .inl (cs.2.1, 1400, .inl (fun _ => 0))), (x20, .inr (6, [.ref x21, .int 0])), (x21, .inl (cs.1, 256, .inl (fun _ => 0))), (x22, .inr (2, [.ref x23, .ref x25, .ref x26])), (x23, .inr (7, [.ref x24])), (x24, .inl (cs.1, 6, .inl (fun _ => 0))), (x25, .inl (cs.1, 2, .inl (fun _ => 0))), (x26, .inl (cs.1, 1400, .inl (fun _ => 0))), (x27, .inr (7, [.ref x28])), (x28, .inl (cs.1, 6, .inl (fun _ => 0))), (x29, .inr (3, [.ref x30, .int 1, .int 1])), (x30, .inl (cs.1, 562, .inl (fun _ => 0))), (x31, .inr (6, [.ref x32, .int 0])), (x32, .inl (cs.1, 256, .inl (fun _ => 0))), (x33, .inr (6, [.ref x34, .int 0])), (x34, .inl (cs.1, 256, .inl (fun _ => 0))), (x35, .inr (6, [.ref x36, .int 0])), (x36, .inl (cs.1, 256, .inl (fun _ => 0))), (x37, .inr (6, [.ref x38, .int 0])), (x38, .inl (cs.1, 256, .inl (fun _ => 0))), (x39, .inr (6, [.ref x40, .int 0])), (x40, .inl (cs.1, 256, .inl (fun _ => 0))), (x41, .inr (6, [.ref x42, .int 0])), (x42, .inl (cs.1, 256, .inl (fun _ => 0)))]) (w1 := [(z0, .inr (9, [.ref z1, .int 0, .ref z2, .int 0, .ref z3, .ref z4, .ref z5, .ref z6, .ref z7, .ref z8, .ref z9, .ref z10, .ref z11, .int 0, .ref z12, .ref z13, .int 0, .int (-1), .int 0, .int 0, .int 0, .int 0, .int 0, .ref z14, .ref z15, .ref z16, .ref z17, .int 0, .int 0, .int 0, .int 0, .int 0, .int 0, .int 0, .ref z18])), (z1, .inl (cs.1, 4000, .inl (fun _ => 0))), (z2, .inl (cs.1, 4000, .inl (fun _ => 0))), (z3, .inl (cs.1, 7, .inl (fun _ => 0))), (z4, .inl (cs.1, 1792, .inl (fun _ => 0))), (z5, .inl (cs.1, 1792, .inl (fun _ => 0))), (z6, .inl (cs.2.2.1, 21, .inl (fun _ => 0))), (z7, .inl (cs.1, 86016, .inl (fun _ => 0))), (z8, .inl (cs.1, 86016, .inl (fun _ => 0))), (z9, .inl (cs.1, 86016, .inl (fun _ => 0))), (z10, .inl (cs.1, 256, .inl (fun _ => 0))), (z11, .inl (cs.1, 256, .inl (fun _ => 0))), (z12, .inl (cs.1, 256, .inl (fun _ => 0))), (z13, .inl (cs.1, 6, .inl (fun _ => 0))), (z14, .inl (cs.1, 17000, .inl (fun _ => 0))), (z15, .inl (cs.1, 2, .inl (fun _ => 0))), (z16, .inl (cs.1, 6, .inl (fun _ => 0))), (z17, .inl (cs.1, 1060, .inl (fun _ => 0))), (z18, .inl (cs.1, 1400, .inl (fun _ => 0)))]) hP hD [43] [0, 1, 2, 3, 4, 5, 6, 7, 8, 9, 10, 11, 12, 13, 14, 15, 16, 17, 18, 19, 20, 21, 22, 23, 24, 25, 26, 27, 28, 29, 30, 31, 32, 33, 34, 35, 36, 37, 38, 39, 40, 41, 42] rfl rfl (by decide) (by decide) hk1 hFc hP1 hD1
  generalize H1 = H at hP hS ⊢
  refine W.widen (k := 600000) (n := 7302250) (Nat.le_of_ble_eq_true rfl) (Nat.le_of_ble_eq_true rfl) ?_
  have hP : va_P D vwCl (st_L cs x0 x1 x2 x3 x4 x5 x6 x7 x8 x9 x10 x11 x12 x13 x14 x15 x16 x17 x18 x19 x20 x21 x22 x23 x24 x25 x26 x27 x28 x29 x30 x31 x32 x33 x34 x35 x36 x37 x38 x39 x40 x41 x42 z0 z1 z2 z3 z4 z5 z6 z7 z8 z9 z10 z11 z12 z13 z14 z15 z16 z17 z18) H := hP
  have hD : va_D (fun q : Nat => s.heap.size ≤ q) (st_L cs x0 x1 x2 x3 x4 x5 x6 x7 x8 x9 x10 x11 x12 x13 x14 x15 x16 x17 x18 x19 x20 x21 x22 x23 x24 x25 x26 x27 x28 x29 x30 x31 x32 x33 x34 x35 x36 x37 x38 x39 x40 x41 x42 z0 z1 z2 z3 z4 z5 z6 z7 z8 z9 z10 z11 z12 z13 z14 z15 z16 z17 z18) := hD
  refine lv_astore_n (lv' := [(2, .ref z0), (1, .ref x0), (0, .ref b)]) hx hb dL_law_15 rfl hl (by decide) rfl (fun ls hl => ?_)
  refine lv_iconst (v := 0) hx hb dL_law_16 (by decide) ?_
  refine lv_istore_n (lv' := [(3, .int 0), (2, .ref z0), (1, .ref x0), (0, .ref b)]) hx hb dL_law_17 rfl hl (by decide) rfl (fun ls hl => ?_)
  have hW := st_W hP
  obtain ⟨hJ, hA2⟩ := st_J hD
  exact lx_loop (a := st_a x0 x1 x2 x3 x4 x5 x6 x7 x8 x9 x10 x11 x12 x13 x14 x15 x16 x17 x18 x19 x20 x21 x22 x23 x24 x25 x26 x27 x28 x29 x30 x31 x32 x33 x34 x35 x36 x37 x38 x39 x40 x41 x42 z0 z1 z2 z3 z4 z5 z6 z7 z8 z9 z10 z11 z12 z13 z14 z15 z16 z17 z18) ⟨⟨hx, hb, hml, hown, ht⟩, hlocks, hK, hJ, hN⟩ hX hbl hA2 hL hlocks hr hI (L + 7) 0 0 (by omega) (by omega) nI_0.symm zx_S0 _ _ ls hI0 hW hS (lv_sub hl [3, 2, 1, 0] rfl)
