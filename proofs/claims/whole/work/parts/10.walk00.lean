theorem Y_J6_numberOfLeadingZeros_0f7a4 : zx_Y yJ6_numberOfLeadingZeros_0f7a4 cJ6_numberOfLeadingZeros_0f7a4 2 (some (.int)) 1 := ⟨wc_J6_numberOfLeadingZeros_0f7a4, wn_J6, by decide, by decide, by decide +kernel⟩
set_option maxHeartbeats 4000000 in
set_option maxRecDepth 100000 in
theorem k_J6_numberOfLeadingZeros_0f7a4_L73 {l : Launch} {D : va_G} {a : Nat → Nat} {cs : zx_C} {p : Program} {e : Env} {s : State} {m : MethodId} {below : List Frame} {meth : Method} {c : Code} {p0 : Int32}  (F : zx_F D a cs p m c cJ6_numberOfLeadingZeros_0f7a4 2 s ([.int p0] : List Value).toArray RJ6 meth) (hr : meth.sig.returnType = (some (.int))) {r9 : Int32} {S9 : St}    (v0 : Int32) (v1 : Int32) (S : St) (h : f_J6_numberOfLeadingZeros_0f7a4_L73 p0   v0 v1 S = some (r9, S9)) (H : Heap) (locs : List Loc) (ls : Array Slot) (hW : zx_W D a cs S H) (hS : va_S (zx_A a) s.heap H locs) (hl : lv_has ls 2 [(0, .int v0), (1, .int v1)]) : W p l e ({ frames := 0, cells := 0, slots := 0, locals := 0 }) s m ([.int p0] : List Value).toArray below meth c H locs 0 0 (MQ below (zx_Qi D a cs r9 S9) ([.int p0] : List Value).toArray s 0 0 (zx_A a)) (F0 m 73 ls []) := by
  obtain ⟨⟨hx, hb, hml, hown, hts⟩, hlk, hK, hJ, hN⟩ := id F
  unfold f_J6_numberOfLeadingZeros_0f7a4_L73 at h
  refine lv_iload_n hx hb dJ6_numberOfLeadingZeros_0f7a4_73 rfl (lv_at hl 1 rfl) ?_
  refine lv_iload_n hx hb dJ6_numberOfLeadingZeros_0f7a4_74 rfl (lv_at hl 0 rfl) ?_
  refine lv_iconst (v := 1) hx hb dJ6_numberOfLeadingZeros_0f7a4_75 (by decide) ?_
  refine lv_iushr hx hb dJ6_numberOfLeadingZeros_0f7a4_76 rfl ?_
  refine lv_isub hx hb dJ6_numberOfLeadingZeros_0f7a4_77 ?_
  exact zx_ri F hr hW hS h dJ6_numberOfLeadingZeros_0f7a4_78
set_option maxHeartbeats 4000000 in
set_option maxRecDepth 100000 in
theorem k_J6_numberOfLeadingZeros_0f7a4_L61 {l : Launch} {D : va_G} {a : Nat → Nat} {cs : zx_C} {p : Program} {e : Env} {s : State} {m : MethodId} {below : List Frame} {meth : Method} {c : Code} {p0 : Int32}  (F : zx_F D a cs p m c cJ6_numberOfLeadingZeros_0f7a4 2 s ([.int p0] : List Value).toArray RJ6 meth) (hr : meth.sig.returnType = (some (.int))) {r9 : Int32} {S9 : St}    (v0 : Int32) (v1 : Int32) (S : St) (h : f_J6_numberOfLeadingZeros_0f7a4_L61 p0   v0 v1 S = some (r9, S9)) (H : Heap) (locs : List Loc) (ls : Array Slot) (hW : zx_W D a cs S H) (hS : va_S (zx_A a) s.heap H locs) (hl : lv_has ls 2 [(0, .int v0), (1, .int v1)]) : W p l e ({ frames := 0, cells := 0, slots := 0, locals := 0 }) s m ([.int p0] : List Value).toArray below meth c H locs 0 0 (MQ below (zx_Qi D a cs r9 S9) ([.int p0] : List Value).toArray s 0 0 (zx_A a)) (F0 m 61 ls []) := by
  obtain ⟨⟨hx, hb, hml, hown, hts⟩, hlk, hK, hJ, hN⟩ := id F
  unfold f_J6_numberOfLeadingZeros_0f7a4_L61 at h
  refine lv_iload_n hx hb dJ6_numberOfLeadingZeros_0f7a4_61 rfl (lv_at hl 0 rfl) ?_
  refine lv_iconst (v := 4) hx hb dJ6_numberOfLeadingZeros_0f7a4_62 (by decide) ?_
  refine lv_icmp_lt (tgt := 73) hx hb dJ6_numberOfLeadingZeros_0f7a4_63 (by decide) (fun c5 => ?_) (fun c5 => ?_)
  · have h := g_t c5 h
    exact k_J6_numberOfLeadingZeros_0f7a4_L73  F hr   v0 v1 S h _ _ _ hW hS (lv_sub hl [0, 1] rfl)
  · have h := g_f c5 h
    obtain ⟨x6, ex6, h⟩ := g_pin h
    refine lv_iinc (v := x6) (lv' := [(1, .int x6), (0, .int v0)]) hx hb dJ6_numberOfLeadingZeros_0f7a4_66 hl (k := 1) rfl (by rw [ex6]; rfl) (by decide) rfl (fun ls hl => ?_)
    refine lv_iload_n hx hb dJ6_numberOfLeadingZeros_0f7a4_69 rfl (lv_at hl 1 rfl) ?_
    refine lv_iconst (v := 2) hx hb dJ6_numberOfLeadingZeros_0f7a4_70 (by decide) ?_
    refine lv_iushr hx hb dJ6_numberOfLeadingZeros_0f7a4_71 rfl ?_
    obtain ⟨x7, ex7, h⟩ := g_pin h
    refine zx_nm ex7 ?_
    refine lv_istore_n (lv' := [(0, .int x7), (1, .int x6)]) hx hb dJ6_numberOfLeadingZeros_0f7a4_72 rfl hl (by decide) rfl (fun ls hl => ?_)
    exact k_J6_numberOfLeadingZeros_0f7a4_L73  F hr   x7 x6 S h _ _ _ hW hS (lv_sub hl [0, 1] rfl)
set_option maxHeartbeats 4000000 in
set_option maxRecDepth 100000 in
theorem k_J6_numberOfLeadingZeros_0f7a4_L48 {l : Launch} {D : va_G} {a : Nat → Nat} {cs : zx_C} {p : Program} {e : Env} {s : State} {m : MethodId} {below : List Frame} {meth : Method} {c : Code} {p0 : Int32}  (F : zx_F D a cs p m c cJ6_numberOfLeadingZeros_0f7a4 2 s ([.int p0] : List Value).toArray RJ6 meth) (hr : meth.sig.returnType = (some (.int))) {r9 : Int32} {S9 : St}    (v0 : Int32) (v1 : Int32) (S : St) (h : f_J6_numberOfLeadingZeros_0f7a4_L48 p0   v0 v1 S = some (r9, S9)) (H : Heap) (locs : List Loc) (ls : Array Slot) (hW : zx_W D a cs S H) (hS : va_S (zx_A a) s.heap H locs) (hl : lv_has ls 2 [(0, .int v0), (1, .int v1)]) : W p l e ({ frames := 0, cells := 0, slots := 0, locals := 0 }) s m ([.int p0] : List Value).toArray below meth c H locs 0 0 (MQ below (zx_Qi D a cs r9 S9) ([.int p0] : List Value).toArray s 0 0 (zx_A a)) (F0 m 48 ls []) := by
  obtain ⟨⟨hx, hb, hml, hown, hts⟩, hlk, hK, hJ, hN⟩ := id F
  unfold f_J6_numberOfLeadingZeros_0f7a4_L48 at h
  refine lv_iload_n hx hb dJ6_numberOfLeadingZeros_0f7a4_48 rfl (lv_at hl 0 rfl) ?_
  refine lv_bipush (v := 16) hx hb dJ6_numberOfLeadingZeros_0f7a4_49 (by decide) ?_
  refine lv_icmp_lt (tgt := 61) hx hb dJ6_numberOfLeadingZeros_0f7a4_51 (by decide) (fun c4 => ?_) (fun c4 => ?_)
  · have h := g_t c4 h
    exact k_J6_numberOfLeadingZeros_0f7a4_L61  F hr   v0 v1 S h _ _ _ hW hS (lv_sub hl [0, 1] rfl)
  · have h := g_f c4 h
    obtain ⟨x8, ex8, h⟩ := g_pin h
    refine lv_iinc (v := x8) (lv' := [(1, .int x8), (0, .int v0)]) hx hb dJ6_numberOfLeadingZeros_0f7a4_54 hl (k := 1) rfl (by rw [ex8]; rfl) (by decide) rfl (fun ls hl => ?_)
    refine lv_iload_n hx hb dJ6_numberOfLeadingZeros_0f7a4_57 rfl (lv_at hl 1 rfl) ?_
    refine lv_iconst (v := 4) hx hb dJ6_numberOfLeadingZeros_0f7a4_58 (by decide) ?_
    refine lv_iushr hx hb dJ6_numberOfLeadingZeros_0f7a4_59 rfl ?_
    obtain ⟨x9, ex9, h⟩ := g_pin h
    refine zx_nm ex9 ?_
    refine lv_istore_n (lv' := [(0, .int x9), (1, .int x8)]) hx hb dJ6_numberOfLeadingZeros_0f7a4_60 rfl hl (by decide) rfl (fun ls hl => ?_)
    exact k_J6_numberOfLeadingZeros_0f7a4_L61  F hr   x9 x8 S h _ _ _ hW hS (lv_sub hl [0, 1] rfl)
set_option maxHeartbeats 4000000 in
set_option maxRecDepth 100000 in
theorem k_J6_numberOfLeadingZeros_0f7a4_L33 {l : Launch} {D : va_G} {a : Nat → Nat} {cs : zx_C} {p : Program} {e : Env} {s : State} {m : MethodId} {below : List Frame} {meth : Method} {c : Code} {p0 : Int32}  (F : zx_F D a cs p m c cJ6_numberOfLeadingZeros_0f7a4 2 s ([.int p0] : List Value).toArray RJ6 meth) (hr : meth.sig.returnType = (some (.int))) {r9 : Int32} {S9 : St}    (v0 : Int32) (v1 : Int32) (S : St) (h : f_J6_numberOfLeadingZeros_0f7a4_L33 p0   v0 v1 S = some (r9, S9)) (H : Heap) (locs : List Loc) (ls : Array Slot) (hW : zx_W D a cs S H) (hS : va_S (zx_A a) s.heap H locs) (hl : lv_has ls 2 [(0, .int v0), (1, .int v1)]) : W p l e ({ frames := 0, cells := 0, slots := 0, locals := 0 }) s m ([.int p0] : List Value).toArray below meth c H locs 0 0 (MQ below (zx_Qi D a cs r9 S9) ([.int p0] : List Value).toArray s 0 0 (zx_A a)) (F0 m 33 ls []) := by
  obtain ⟨⟨hx, hb, hml, hown, hts⟩, hlk, hK, hJ, hN⟩ := id F
  unfold f_J6_numberOfLeadingZeros_0f7a4_L33 at h
  refine lv_iload_n hx hb dJ6_numberOfLeadingZeros_0f7a4_33 rfl (lv_at hl 0 rfl) ?_
  refine lv_sipush (v := 256) hx hb dJ6_numberOfLeadingZeros_0f7a4_34 (by decide) ?_
  refine lv_icmp_lt (tgt := 48) hx hb dJ6_numberOfLeadingZeros_0f7a4_37 (by decide) (fun c3 => ?_) (fun c3 => ?_)
  · have h := g_t c3 h
    exact k_J6_numberOfLeadingZeros_0f7a4_L48  F hr   v0 v1 S h _ _ _ hW hS (lv_sub hl [0, 1] rfl)
  · have h := g_f c3 h
    obtain ⟨x10, ex10, h⟩ := g_pin h
    refine lv_iinc (v := x10) (lv' := [(1, .int x10), (0, .int v0)]) hx hb dJ6_numberOfLeadingZeros_0f7a4_40 hl (k := 1) rfl (by rw [ex10]; rfl) (by decide) rfl (fun ls hl => ?_)
    refine lv_iload_n hx hb dJ6_numberOfLeadingZeros_0f7a4_43 rfl (lv_at hl 1 rfl) ?_
    refine lv_bipush (v := 8) hx hb dJ6_numberOfLeadingZeros_0f7a4_44 (by decide) ?_
    refine lv_iushr hx hb dJ6_numberOfLeadingZeros_0f7a4_46 rfl ?_
    obtain ⟨x11, ex11, h⟩ := g_pin h
    refine zx_nm ex11 ?_
    refine lv_istore_n (lv' := [(0, .int x11), (1, .int x10)]) hx hb dJ6_numberOfLeadingZeros_0f7a4_47 rfl hl (by decide) rfl (fun ls hl => ?_)
    exact k_J6_numberOfLeadingZeros_0f7a4_L48  F hr   x11 x10 S h _ _ _ hW hS (lv_sub hl [0, 1] rfl)
set_option maxHeartbeats 4000000 in
set_option maxRecDepth 100000 in
theorem c_J6_numberOfLeadingZeros_0f7a4 (l : Launch) (D : va_G) (a : Nat → Nat) (cs : zx_C) (p0 : Int32)  (S : St) (r9 : Int32) (S9 : St) (h : f_J6_numberOfLeadingZeros_0f7a4 p0 S = some (r9, S9)) : Met l yJ6_numberOfLeadingZeros_0f7a4 (Cond.code yJ6_numberOfLeadingZeros_0f7a4 cJ6_numberOfLeadingZeros_0f7a4 2 (some (.int)) :: zx_tb) ({ frames := 0, cells := 0, slots := 0, locals := 0 }) (zx_P D a cs [.int p0] S) (zx_Qi D a cs r9 S9) 0 0 (zx_A a) := by
  refine zx_met (own := RJ6) (by decide) (Nat.le_of_ble_eq_true rfl) rfl ?_
  intro p e s m below meth c ls F hr hW hS hl
  have hl : lv_has ls 2 [(0, .int p0)] := hl
  obtain ⟨⟨hx, hb, hml, hown, hts⟩, hlk, hK, hJ, hN⟩ := id F
  unfold f_J6_numberOfLeadingZeros_0f7a4 at h
  refine lv_iload_n hx hb dJ6_numberOfLeadingZeros_0f7a4_0 rfl (lv_at hl 0 rfl) ?_
  refine lv_if_gt (tgt := 15) hx hb dJ6_numberOfLeadingZeros_0f7a4_1 (by decide) (fun c1 => ?_) (fun c1 => ?_)
  · have h := g_t c1 h
    refine lv_bipush (v := 31) hx hb dJ6_numberOfLeadingZeros_0f7a4_15 (by decide) ?_
    refine lv_istore_n (lv' := [(1, .int (31 : Int32)), (0, .int p0)]) hx hb dJ6_numberOfLeadingZeros_0f7a4_17 rfl hl (by decide) rfl (fun ls hl => ?_)
    refine lv_iload_n hx hb dJ6_numberOfLeadingZeros_0f7a4_18 rfl (lv_at hl 1 rfl) ?_
    refine lv_ldcw (v := 65536) hx hb hown (hts _ wk_J6_264) dJ6_numberOfLeadingZeros_0f7a4_19 ?_
    refine lv_icmp_lt (tgt := 33) hx hb dJ6_numberOfLeadingZeros_0f7a4_22 (by decide) (fun c2 => ?_) (fun c2 => ?_)
    · have h := g_t c2 h
      exact k_J6_numberOfLeadingZeros_0f7a4_L33  F hr   p0 (31 : Int32) S h _ _ _ hW hS (lv_sub hl [1, 0] rfl)
    · have h := g_f c2 h
      obtain ⟨x12, ex12, h⟩ := g_pin h
      refine lv_iinc (v := x12) (lv' := [(1, .int x12), (0, .int p0)]) hx hb dJ6_numberOfLeadingZeros_0f7a4_25 hl (k := 0) rfl (by rw [ex12]; rfl) (by decide) rfl (fun ls hl => ?_)
      refine lv_iload_n hx hb dJ6_numberOfLeadingZeros_0f7a4_28 rfl (lv_at hl 1 rfl) ?_
      refine lv_bipush (v := 16) hx hb dJ6_numberOfLeadingZeros_0f7a4_29 (by decide) ?_
      refine lv_iushr hx hb dJ6_numberOfLeadingZeros_0f7a4_31 rfl ?_
      obtain ⟨x13, ex13, h⟩ := g_pin h
      refine zx_nm ex13 ?_
      refine lv_istore_n (lv' := [(0, .int x13), (1, .int x12)]) hx hb dJ6_numberOfLeadingZeros_0f7a4_32 rfl hl (by decide) rfl (fun ls hl => ?_)
      exact k_J6_numberOfLeadingZeros_0f7a4_L33  F hr   x13 x12 S h _ _ _ hW hS (lv_sub hl [0, 1] rfl)
  · have h := g_f c1 h
    refine lv_iload_n hx hb dJ6_numberOfLeadingZeros_0f7a4_4 rfl (lv_at hl 0 rfl) ?_
    refine lv_if_ne (tgt := 13) hx hb dJ6_numberOfLeadingZeros_0f7a4_5 (by decide) (fun c14 => ?_) (fun c14 => ?_)
    · have h := g_f c14 h
      refine lv_iconst (v := 0) hx hb dJ6_numberOfLeadingZeros_0f7a4_13 (by decide) ?_
      exact zx_ri F hr hW hS h dJ6_numberOfLeadingZeros_0f7a4_14
    · have h := g_t c14 h
      refine lv_bipush (v := 32) hx hb dJ6_numberOfLeadingZeros_0f7a4_8 (by decide) ?_
      refine lv_goto (tgt := 14) hx hb dJ6_numberOfLeadingZeros_0f7a4_10 (by decide) ?_
      exact zx_ri F hr hW hS h dJ6_numberOfLeadingZeros_0f7a4_14
theorem Y_J7_fill_53178 : zx_Y yJ7_fill_53178 cJ7_fill_53178 4 none 2 := ⟨wc_J7_fill_53178, wn_J7, by decide, by decide, by decide +kernel⟩
set_option maxHeartbeats 4000000 in
set_option maxRecDepth 100000 in
theorem k_J7_fill_53178_L5 {l : Launch} {D : va_G} {a : Nat → Nat} {cs : zx_C} {p : Program} {e : Env} {s : State} {m : MethodId} {below : List Frame} {meth : Method} {c : Code} {fu : Nat} {k0 : Nat} {p1 : Int32} (hk0 : zx_ia k0 = true) (F : zx_F D a cs p m c cJ7_fill_53178 4 s ([.ref (a k0), .int p1] : List Value).toArray RJ7 meth) (hr : meth.sig.returnType = none) {r9 : Int32} {S9 : St}    : ∀ (n : Nat) (v1 : Int32) (v2 : Int32) (v3 : Int32) (S : St), f_J7_fill_53178_L5 fu k0 p1   n v1 v2 v3 S = some (r9, S9) → ∀ (H : Heap) (locs : List Loc) (ls : Array Slot), zx_W D a cs S H → va_S (zx_A a) s.heap H locs → lv_has ls 4 [(0, .ref (a k0)), (1, .int v1), (2, .int v2), (3, .int v3)] → W p l e ({ frames := 0, cells := 0, slots := 0, locals := 0 }) s m ([.ref (a k0), .int p1] : List Value).toArray below meth c H locs 0 0 (MQ below (zx_Qv D a cs S9) ([.ref (a k0), .int p1] : List Value).toArray s 0 0 (zx_A a)) (F0 m 5 ls []) := by
  obtain ⟨⟨hx, hb, hml, hown, hts⟩, hlk, hK, hJ, hN⟩ := id F
  intro n
  induction n with
  | zero =>
    intro v1 v2 v3 S h
    exact absurd h (fun q => by cases q)
  | succ n ih =>
    intro v1 v2 v3 S h H locs ls hW hS hl
    rw [f_J7_fill_53178_L5_s] at h
    refine lv_iload_n hx hb dJ7_fill_53178_5 rfl (lv_at hl 2 rfl) ?_
    refine lv_iload_n hx hb dJ7_fill_53178_6 rfl (lv_at hl 3 rfl) ?_
    refine lv_icmp_ge (tgt := 20) hx hb dJ7_fill_53178_7 (by decide) (fun c2 => ?_) (fun c2 => ?_)
    · have h := g_t c2 h
      exact zx_rv F hr hW hS h dJ7_fill_53178_20
    · have h := g_f c2 h
      refine lv_aload_n hx hb dJ7_fill_53178_10 rfl (lv_at hl 0 rfl) ?_
      refine lv_iload_n hx hb dJ7_fill_53178_11 rfl (lv_at hl 2 rfl) ?_
      refine lv_iload_n hx hb dJ7_fill_53178_12 rfl (lv_at hl 1 rfl) ?_
      obtain ⟨c4, h⟩ := g_no h
      obtain ⟨S3, eS3, h⟩ := g_pin h
      refine zx_iast (n := zx_len k0) F hW hS (zx_ia_l hk0) (fun f => (zx_ia_A hk0)) c4 dJ7_fill_53178_13 (fun H locs hW hS => ?_)
      have hW : zx_W D a cs S3 H := by rw [eS3]; exact hW
      obtain ⟨x5, ex5, h⟩ := g_pin h
      refine lv_iinc (v := x5) (lv' := [(2, .int x5), (0, .ref (a k0)), (1, .int v1), (3, .int v3)]) hx hb dJ7_fill_53178_14 hl (k := 2) rfl (by rw [ex5]; rfl) (by decide) rfl (fun ls hl => ?_)
      refine lv_goto (tgt := 5) hx hb dJ7_fill_53178_17 (by decide) ?_
      exact ih v1 x5 v3 S3 h _ _ _ hW hS (lv_sub hl [1, 2, 0, 3] rfl)
set_option maxHeartbeats 4000000 in
set_option maxRecDepth 100000 in
theorem c_J7_fill_53178 (l : Launch) (D : va_G) (a : Nat → Nat) (cs : zx_C) (fu : Nat) (k0 : Nat) (p1 : Int32) (hk0 : zx_ia k0 = true) (S : St) (r9 : Int32) (S9 : St) (h : f_J7_fill_53178 fu k0 p1 S = some (r9, S9)) : Met l yJ7_fill_53178 (Cond.code yJ7_fill_53178 cJ7_fill_53178 4 none :: zx_tb) ({ frames := 0, cells := 0, slots := 0, locals := 0 }) (zx_P D a cs [.ref (a k0), .int p1] S) (zx_Qv D a cs S9) 0 0 (zx_A a) := by
  refine zx_met (own := RJ7) (by decide) (Nat.le_of_ble_eq_true rfl) rfl ?_
  intro p e s m below meth c ls F hr hW hS hl
  have hl : lv_has ls 4 [(0, .ref (a k0)), (1, .int p1)] := hl
  obtain ⟨⟨hx, hb, hml, hown, hts⟩, hlk, hK, hJ, hN⟩ := id F
  unfold f_J7_fill_53178 at h
  refine lv_iconst (v := 0) hx hb dJ7_fill_53178_0 (by decide) ?_
  refine lv_istore_n (lv' := [(2, .int (0 : Int32)), (0, .ref (a k0)), (1, .int p1)]) hx hb dJ7_fill_53178_1 rfl hl (by decide) rfl (fun ls hl => ?_)
  refine lv_aload_n hx hb dJ7_fill_53178_2 rfl (lv_at hl 1 rfl) ?_
  refine zx_alen (v := (Int32.ofNat (zx_len k0))) F hW (zx_ia_l hk0) (zx_ia_A hk0) rfl dJ7_fill_53178_3 ?_
  obtain ⟨x1, ex1, h⟩ := g_pin h
  refine zx_nm ex1 ?_
  refine lv_istore_n (lv' := [(3, .int x1), (2, .int (0 : Int32)), (0, .ref (a k0)), (1, .int p1)]) hx hb dJ7_fill_53178_4 rfl hl (by decide) rfl (fun ls hl => ?_)
  exact k_J7_fill_53178_L5 hk0 F hr   fu p1 (0 : Int32) x1 S h _ _ _ hW hS (lv_sub hl [2, 3, 1, 0] rfl)
theorem Y_X8_isSymbol : zx_Y yX8_isSymbol cX8_isSymbol 1 (some (.boolean)) 1 := ⟨wc_X8_isSymbol, wn_X8, by decide, by decide, by decide +kernel⟩
set_option maxHeartbeats 4000000 in
set_option maxRecDepth 100000 in
theorem c_X8_isSymbol (l : Launch) (D : va_G) (a : Nat → Nat) (cs : zx_C) (p0 : Int32)  (S : St) (r9 : Int32) (S9 : St) (h : f_X8_isSymbol p0 S = some (r9, S9)) : Met l yX8_isSymbol (Cond.code yX8_isSymbol cX8_isSymbol 1 (some (.boolean)) :: zx_tb) ({ frames := 0, cells := 0, slots := 0, locals := 0 }) (zx_P D a cs [.int p0] S) (zx_Qi D a cs r9 S9) 0 0 (zx_A a) := by
  refine zx_met (own := RX8) (by decide) (Nat.le_of_ble_eq_true rfl) rfl ?_
  intro p e s m below meth c ls F hr hW hS hl
  have hl : lv_has ls 1 [(0, .int p0)] := hl
  obtain ⟨⟨hx, hb, hml, hown, hts⟩, hlk, hK, hJ, hN⟩ := id F
  unfold f_X8_isSymbol at h
  refine lv_iload_n hx hb dX8_isSymbol_0 rfl (lv_at hl 0 rfl) ?_
  refine lv_if_lt (tgt := 15) hx hb dX8_isSymbol_1 (by decide) (fun c1 => ?_) (fun c1 => ?_)
  · have h := g_t c1 h
    refine lv_iconst (v := 0) hx hb dX8_isSymbol_15 (by decide) ?_
    exact zx_rz F hr (by decide) hW hS h dX8_isSymbol_16
  · have h := g_f c1 h
    refine lv_iload_n hx hb dX8_isSymbol_4 rfl (lv_at hl 0 rfl) ?_
    refine lv_sipush (v := 256) hx hb dX8_isSymbol_5 (by decide) ?_
    refine lv_icmp_ge (tgt := 15) hx hb dX8_isSymbol_8 (by decide) (fun c2 => ?_) (fun c2 => ?_)
    · have h := g_t c2 h
      refine lv_iconst (v := 0) hx hb dX8_isSymbol_15 (by decide) ?_
      exact zx_rz F hr (by decide) hW hS h dX8_isSymbol_16
    · have h := g_f c2 h
      refine lv_iconst (v := 1) hx hb dX8_isSymbol_11 (by decide) ?_
      refine lv_goto (tgt := 16) hx hb dX8_isSymbol_12 (by decide) ?_
      exact zx_rz F hr (by decide) hW hS h dX8_isSymbol_16
theorem Y_X5_shareOf : zx_Y yX5_shareOf cX5_shareOf 2 (some (.int)) 1 := ⟨wc_X5_shareOf, wn_X5, by decide, by decide, by decide +kernel⟩
set_option maxHeartbeats 4000000 in
set_option maxRecDepth 100000 in
theorem c_X5_shareOf (l : Launch) (D : va_G) (a : Nat → Nat) (cs : zx_C) (p0 : Int32)  (S : St) (r9 : Int32) (S9 : St) (h : f_X5_shareOf p0 S = some (r9, S9)) : Met l yX5_shareOf (Cond.code yX5_shareOf cX5_shareOf 2 (some (.int)) :: zx_tb) ({ frames := 1, cells := 0, slots := 0, locals := 20 }) (zx_P D a cs [.ref (a 9), .int p0] S) (zx_Qi D a cs r9 S9) 0 0 (zx_A a) := by
  refine zx_met (own := RX5) (by decide) (Nat.le_of_ble_eq_true rfl) rfl ?_
  intro p e s m below meth c ls F hr hW hS hl
  have hl : lv_has ls 2 [(0, .ref (a 9)), (1, .int p0)] := hl
  obtain ⟨⟨hx, hb, hml, hown, hts⟩, hlk, hK, hJ, hN⟩ := id F
  unfold f_X5_shareOf at h
  refine lv_iload_n hx hb dX5_shareOf_0 rfl (lv_at hl 1 rfl) ?_
  obtain ⟨r1, S2, h3, h⟩ := g_bd h
  refine zx_ci (zx_runSN (As := [.int p0]) (rest := []) F hW (c_X8_isSymbol l D a cs p0  S r1 S2 h3) Y_X8_isSymbol wt_X8_isSymbol wN_X5_44 ⟨rfl, rfl, Nat.le_of_ble_eq_true rfl, Nat.le_of_ble_eq_true rfl, Nat.le_of_ble_eq_true rfl, Nat.le_of_ble_eq_true rfl⟩ rfl hl.1 rfl (Nat.le_of_ble_eq_true rfl) dX5_shareOf_1) hS (fun H locs hW hS => ?_)
  refine lv_if_eq (tgt := 16) hx hb dX5_shareOf_4 (by decide) (fun c4 => ?_) (fun c4 => ?_)
  · have h := g_t c4 h
    refine lv_iconst (v := 0) hx hb dX5_shareOf_16 (by decide) ?_
    exact zx_ri F hr hW hS h dX5_shareOf_17
  · have h := g_f c4 h
    refine lv_aload_n hx hb dX5_shareOf_7 rfl (lv_at hl 0 rfl) ?_
    refine zx_get (C := RX5) (T := TX5) (N := 10) F hW wu_X5 (by decide) zx_E9 rfl 2 (by decide) wf_X5_18 rfl dX5_shareOf_8 ?_
    refine lv_iload_n hx hb dX5_shareOf_11 rfl (lv_at hl 1 rfl) ?_
    obtain ⟨c5, h⟩ := g_no h
    refine zx_iald (n := 256) F hW (by decide) zx_E12 c5 dX5_shareOf_12 ?_
    refine lv_goto (tgt := 17) hx hb dX5_shareOf_13 (by decide) ?_
    exact zx_ri F hr hW hS h dX5_shareOf_17
theorem Y_X5_startOf : zx_Y yX5_startOf cX5_startOf 2 (some (.int)) 1 := ⟨wc_X5_startOf, wn_X5, by decide, by decide, by decide +kernel⟩
set_option maxHeartbeats 4000000 in
set_option maxRecDepth 100000 in
theorem c_X5_startOf (l : Launch) (D : va_G) (a : Nat → Nat) (cs : zx_C) (p0 : Int32)  (S : St) (r9 : Int32) (S9 : St) (h : f_X5_startOf p0 S = some (r9, S9)) : Met l yX5_startOf (Cond.code yX5_startOf cX5_startOf 2 (some (.int)) :: zx_tb) ({ frames := 1, cells := 0, slots := 0, locals := 20 }) (zx_P D a cs [.ref (a 9), .int p0] S) (zx_Qi D a cs r9 S9) 0 0 (zx_A a) := by
  refine zx_met (own := RX5) (by decide) (Nat.le_of_ble_eq_true rfl) rfl ?_
  intro p e s m below meth c ls F hr hW hS hl
  have hl : lv_has ls 2 [(0, .ref (a 9)), (1, .int p0)] := hl
  obtain ⟨⟨hx, hb, hml, hown, hts⟩, hlk, hK, hJ, hN⟩ := id F
  unfold f_X5_startOf at h
  refine lv_iload_n hx hb dX5_startOf_0 rfl (lv_at hl 1 rfl) ?_
  obtain ⟨r1, S2, h3, h⟩ := g_bd h
  refine zx_ci (zx_runSN (As := [.int p0]) (rest := []) F hW (c_X8_isSymbol l D a cs p0  S r1 S2 h3) Y_X8_isSymbol wt_X8_isSymbol wN_X5_44 ⟨rfl, rfl, Nat.le_of_ble_eq_true rfl, Nat.le_of_ble_eq_true rfl, Nat.le_of_ble_eq_true rfl, Nat.le_of_ble_eq_true rfl⟩ rfl hl.1 rfl (Nat.le_of_ble_eq_true rfl) dX5_startOf_1) hS (fun H locs hW hS => ?_)
  refine lv_if_eq (tgt := 16) hx hb dX5_startOf_4 (by decide) (fun c4 => ?_) (fun c4 => ?_)
  · have h := g_t c4 h
    refine lv_iconst (v := 0) hx hb dX5_startOf_16 (by decide) ?_
    exact zx_ri F hr hW hS h dX5_startOf_17
  · have h := g_f c4 h
    refine lv_aload_n hx hb dX5_startOf_7 rfl (lv_at hl 0 rfl) ?_
    refine zx_get (C := RX5) (T := TX5) (N := 10) F hW wu_X5 (by decide) zx_E9 rfl 3 (by decide) wf_X5_21 rfl dX5_startOf_8 ?_
    refine lv_iload_n hx hb dX5_startOf_11 rfl (lv_at hl 1 rfl) ?_
    obtain ⟨c5, h⟩ := g_no h
    refine zx_iald (n := 256) F hW (by decide) zx_E13 c5 dX5_startOf_12 ?_
    refine lv_goto (tgt := 17) hx hb dX5_startOf_13 (by decide) ?_
    exact zx_ri F hr hW hS h dX5_startOf_17
theorem Y_X0_divided : zx_Y yX0_divided cX0_divided 4 (some (.int)) 2 := ⟨wc_X0_divided, wn_X0, by decide, by decide, by decide +kernel⟩
set_option maxHeartbeats 4000000 in
set_option maxRecDepth 100000 in
theorem c_X0_divided (l : Launch) (D : va_G) (a : Nat → Nat) (cs : zx_C) (p0 : Int32) (p1 : Int32)  (S : St) (r9 : Int32) (S9 : St) (h : f_X0_divided p0 p1 S = some (r9, S9)) : Met l yX0_divided (Cond.code yX0_divided cX0_divided 4 (some (.int)) :: zx_tb) ({ frames := 2, cells := 0, slots := 0, locals := 41 }) (zx_P D a cs [.ref (a 8), .int p0, .int p1] S) (zx_Qi D a cs r9 S9) 0 0 (zx_A a) := by
  refine zx_met (own := RX0) (by decide) (Nat.le_of_ble_eq_true rfl) rfl ?_
  intro p e s m below meth c ls F hr hW hS hl
  have hl : lv_has ls 4 [(0, .ref (a 8)), (1, .int p0), (2, .int p1)] := hl
  obtain ⟨⟨hx, hb, hml, hown, hts⟩, hlk, hK, hJ, hN⟩ := id F
  unfold f_X0_divided at h
  refine lv_aload_n hx hb dX0_divided_0 rfl (lv_at hl 0 rfl) ?_
  refine zx_get (C := RX0) (T := TX0) (N := 8) F hW wu_X0 (by decide) zx_E8 rfl 0 (by decide) wf_X0_12 rfl dX0_divided_1 ?_
  refine lv_iload_n hx hb dX0_divided_4 rfl (lv_at hl 2 rfl) ?_
  obtain ⟨r1, S2, h3, h⟩ := g_bd h
  refine zx_ci (zx_runV (q := (RX5, TX5, 10)) (As := [.int p1]) (rest := []) F hW (c_X5_shareOf l D a cs p1  S r1 S2 h3) Y_X5_shareOf wi_X5_shareOf ws_X5_shareOf wm_X0_52 ⟨rfl, rfl, Nat.le_of_ble_eq_true rfl, Nat.le_of_ble_eq_true rfl, Nat.le_of_ble_eq_true rfl, Nat.le_of_ble_eq_true rfl⟩ (by decide) zx_E9 rfl rfl hl.1 rfl (Nat.le_of_ble_eq_true rfl) dX0_divided_5) hS (fun H locs hW hS => ?_)
  refine lv_istore_n (lv' := [(3, .int r1), (0, .ref (a 8)), (1, .int p0), (2, .int p1)]) hx hb dX0_divided_8 rfl hl (by decide) rfl (fun ls hl => ?_)
  refine lv_iload_n hx hb dX0_divided_9 rfl (lv_at hl 0 rfl) ?_
  refine lv_iconst (v := 1) hx hb dX0_divided_10 (by decide) ?_
  refine lv_icmp_ge (tgt := 19) hx hb dX0_divided_11 (by decide) (fun c4 => ?_) (fun c4 => ?_)
  · have h := g_t c4 h
    refine lv_iload_n hx hb dX0_divided_19 rfl (lv_at hl 2 rfl) ?_
    refine lv_iload_n hx hb dX0_divided_20 rfl (lv_at hl 0 rfl) ?_
    obtain ⟨c5, h⟩ := g_no h
    refine lv_idiv hx hb dX0_divided_21 c5 ?_
    refine lv_aload_n hx hb dX0_divided_22 rfl (lv_at hl 1 rfl) ?_
    refine zx_get (C := RX0) (T := TX0) (N := 8) F hW wu_X0 (by decide) zx_E8 rfl 2 (by decide) wf_X0_22 rfl dX0_divided_23 ?_
    refine lv_ishl hx hb dX0_divided_26 ?_
    refine lv_iload_n hx hb dX0_divided_27 rfl (lv_at hl 2 rfl) ?_
    refine lv_iload_n hx hb dX0_divided_28 rfl (lv_at hl 0 rfl) ?_
    obtain ⟨c6, h⟩ := g_no h
    refine lv_irem hx hb dX0_divided_29 c6 ?_
    refine lv_iadd hx hb dX0_divided_30 ?_
    refine lv_aload_n hx hb dX0_divided_31 rfl (lv_at hl 1 rfl) ?_
    refine zx_get (C := RX0) (T := TX0) (N := 8) F hW wu_X0 (by decide) zx_E8 rfl 0 (by decide) wf_X0_12 rfl dX0_divided_32 ?_
    refine lv_iload_n hx hb dX0_divided_35 rfl (lv_at hl 3 rfl) ?_
    obtain ⟨r7, S8, h9, h⟩ := g_bd h
    refine zx_ci (zx_runV (q := (RX5, TX5, 10)) (As := [.int p1]) (rest := [.int (((p0 / r1) <<< ((S2 8 2) &&& 31)) + (p0 - p0 / r1 * r1))]) F hW (c_X5_startOf l D a cs p1  S2 r7 S8 h9) Y_X5_startOf wi_X5_startOf ws_X5_startOf wm_X0_65 ⟨rfl, rfl, Nat.le_of_ble_eq_true rfl, Nat.le_of_ble_eq_true rfl, Nat.le_of_ble_eq_true rfl, Nat.le_of_ble_eq_true rfl⟩ (by decide) zx_E9 rfl rfl hl.1 rfl (Nat.le_of_ble_eq_true rfl) dX0_divided_36) hS (fun H locs hW hS => ?_)
    refine lv_iadd hx hb dX0_divided_39 ?_
    exact zx_ri F hr hW hS h dX0_divided_40
  · have h := g_f c4 h
    refine lv_aload_n hx hb dX0_divided_14 rfl (lv_at hl 1 rfl) ?_
    refine zx_get (C := RX0) (T := TX0) (N := 8) F hW wu_X0 (by decide) zx_E8 rfl 3 (by decide) wf_X0_25 rfl dX0_divided_15 ?_
    exact zx_ri F hr hW hS h dX0_divided_18
theorem Y_X0_isByTable : zx_Y yX0_isByTable cX0_isByTable 1 (some (.boolean)) 0 := ⟨wc_X0_isByTable, wn_X0, by decide, by decide, by decide +kernel⟩
set_option maxHeartbeats 4000000 in
set_option maxRecDepth 100000 in
theorem c_X0_isByTable (l : Launch) (D : va_G) (a : Nat → Nat) (cs : zx_C)   (S : St) (r9 : Int32) (S9 : St) (h : f_X0_isByTable  S = some (r9, S9)) : Met l yX0_isByTable (Cond.code yX0_isByTable cX0_isByTable 1 (some (.boolean)) :: zx_tb) ({ frames := 0, cells := 0, slots := 0, locals := 0 }) (zx_P D a cs [.ref (a 8)] S) (zx_Qi D a cs r9 S9) 0 0 (zx_A a) := by
  refine zx_met (own := RX0) (by decide) (Nat.le_of_ble_eq_true rfl) rfl ?_
  intro p e s m below meth c ls F hr hW hS hl
  have hl : lv_has ls 1 [(0, .ref (a 8))] := hl
  obtain ⟨⟨hx, hb, hml, hown, hts⟩, hlk, hK, hJ, hN⟩ := id F
  unfold f_X0_isByTable at h
  refine lv_aload_n hx hb dX0_isByTable_0 rfl (lv_at hl 0 rfl) ?_
  refine zx_get (C := RX0) (T := TX0) (N := 8) F hW wu_X0 (by decide) zx_E8 rfl 1 (by decide) wf_X0_18 rfl dX0_isByTable_1 ?_
  refine lv_if_ne (tgt := 11) hx hb dX0_isByTable_4 (by decide) (fun c1 => ?_) (fun c1 => ?_)
  · have h := g_f c1 h
    refine lv_iconst (v := 0) hx hb dX0_isByTable_11 (by decide) ?_
    exact zx_rz F hr (by decide) hW hS h dX0_isByTable_12
  · have h := g_t c1 h
    refine lv_iconst (v := 1) hx hb dX0_isByTable_7 (by decide) ?_
    refine lv_goto (tgt := 12) hx hb dX0_isByTable_8 (by decide) ?_
    exact zx_rz F hr (by decide) hW hS h dX0_isByTable_12
theorem Y_X5_placeOf : zx_Y yX5_placeOf cX5_placeOf 4 (some (.int)) 2 := ⟨wc_X5_placeOf, wn_X5, by decide, by decide, by decide +kernel⟩
set_option maxHeartbeats 4000000 in
set_option maxRecDepth 100000 in
theorem c_X5_placeOf (l : Launch) (D : va_G) (a : Nat → Nat) (cs : zx_C) (p0 : Int32) (p1 : Int32)  (S : St) (r9 : Int32) (S9 : St) (h : f_X5_placeOf p0 p1 S = some (r9, S9)) : Met l yX5_placeOf (Cond.code yX5_placeOf cX5_placeOf 4 (some (.int)) :: zx_tb) ({ frames := 2, cells := 0, slots := 0, locals := 41 }) (zx_P D a cs [.ref (a 9), .int p0, .int p1] S) (zx_Qi D a cs r9 S9) 0 0 (zx_A a) := by
  refine zx_met (own := RX5) (by decide) (Nat.le_of_ble_eq_true rfl) rfl ?_
  intro p e s m below meth c ls F hr hW hS hl
  have hl : lv_has ls 4 [(0, .ref (a 9)), (1, .int p0), (2, .int p1)] := hl
  obtain ⟨⟨hx, hb, hml, hown, hts⟩, hlk, hK, hJ, hN⟩ := id F
  unfold f_X5_placeOf at h
  refine lv_aload_n hx hb dX5_placeOf_0 rfl (lv_at hl 0 rfl) ?_
  refine lv_iload_n hx hb dX5_placeOf_1 rfl (lv_at hl 1 rfl) ?_
  obtain ⟨r1, S2, h3, h⟩ := g_bd h
  refine zx_ci (zx_runV (q := (RX5, TX5, 10)) (As := [.int p0]) (rest := []) F hW (c_X5_startOf l D a cs p0  S r1 S2 h3) Y_X5_startOf wi_X5_startOf ws_X5_startOf wm_X5_48 ⟨rfl, rfl, Nat.le_of_ble_eq_true rfl, Nat.le_of_ble_eq_true rfl, Nat.le_of_ble_eq_true rfl, Nat.le_of_ble_eq_true rfl⟩ (by decide) zx_E9 rfl rfl hl.1 rfl (Nat.le_of_ble_eq_true rfl) dX5_placeOf_2) hS (fun H locs hW hS => ?_)
  refine lv_iload_n hx hb dX5_placeOf_5 rfl (lv_at hl 2 rfl) ?_
  refine lv_iadd hx hb dX5_placeOf_6 ?_
  refine lv_aload_n hx hb dX5_placeOf_7 rfl (lv_at hl 0 rfl) ?_
  refine lv_iload_n hx hb dX5_placeOf_8 rfl (lv_at hl 1 rfl) ?_
  obtain ⟨r4, S5, h6, h⟩ := g_bd h
  refine zx_ci (zx_runV (q := (RX5, TX5, 10)) (As := [.int p0]) (rest := [.int (r1 + p1)]) F hW (c_X5_shareOf l D a cs p0  S2 r4 S5 h6) Y_X5_shareOf wi_X5_shareOf ws_X5_shareOf wm_X5_52 ⟨rfl, rfl, Nat.le_of_ble_eq_true rfl, Nat.le_of_ble_eq_true rfl, Nat.le_of_ble_eq_true rfl, Nat.le_of_ble_eq_true rfl⟩ (by decide) zx_E9 rfl rfl hl.1 rfl (Nat.le_of_ble_eq_true rfl) dX5_placeOf_9) hS (fun H locs hW hS => ?_)
  refine lv_isub hx hb dX5_placeOf_12 ?_
  obtain ⟨x7, ex7, h⟩ := g_pin h
  refine zx_nm ex7 ?_
  refine lv_istore_n (lv' := [(3, .int x7), (0, .ref (a 9)), (1, .int p0), (2, .int p1)]) hx hb dX5_placeOf_13 rfl hl (by decide) rfl (fun ls hl => ?_)
  refine lv_iload_n hx hb dX5_placeOf_14 rfl (lv_at hl 0 rfl) ?_
  refine lv_if_lt (tgt := 35) hx hb dX5_placeOf_15 (by decide) (fun c8 => ?_) (fun c8 => ?_)
  · have h := g_t c8 h
    refine lv_iconst (v := 0) hx hb dX5_placeOf_35 (by decide) ?_
    exact zx_ri F hr hW hS h dX5_placeOf_36
  · have h := g_f c8 h
    refine lv_iload_n hx hb dX5_placeOf_18 rfl (lv_at hl 0 rfl) ?_
    refine lv_aload_n hx hb dX5_placeOf_19 rfl (lv_at hl 1 rfl) ?_
    refine zx_get (C := RX5) (T := TX5) (N := 10) F hW wu_X5 (by decide) zx_E9 rfl 7 (by decide) wf_X5_34 rfl dX5_placeOf_20 ?_
    refine lv_icmp_ge (tgt := 35) hx hb dX5_placeOf_23 (by decide) (fun c9 => ?_) (fun c9 => ?_)
    · have h := g_t c9 h
      refine lv_iconst (v := 0) hx hb dX5_placeOf_35 (by decide) ?_
      exact zx_ri F hr hW hS h dX5_placeOf_36
    · have h := g_f c9 h
      refine lv_aload_n hx hb dX5_placeOf_26 rfl (lv_at hl 1 rfl) ?_
      refine zx_get (C := RX5) (T := TX5) (N := 10) F hW wu_X5 (by decide) zx_E9 rfl 1 (by decide) wf_X5_15 rfl dX5_placeOf_27 ?_
      refine lv_iload_n hx hb dX5_placeOf_30 rfl (lv_at hl 0 rfl) ?_
      obtain ⟨c10, h⟩ := g_no h
      refine zx_iald (n := 4096) F hW (by decide) zx_E11 c10 dX5_placeOf_31 ?_
      refine lv_goto (tgt := 36) hx hb dX5_placeOf_32 (by decide) ?_
      exact zx_ri F hr hW hS h dX5_placeOf_36
theorem Y_X0_advance : zx_Y yX0_advance cX0_advance 9 none 2 := ⟨wc_X0_advance, wn_X0, by decide, by decide, by decide +kernel⟩
set_option maxHeartbeats 4000000 in
set_option maxRecDepth 100000 in
theorem k_X0_advance_L74 {l : Launch} {D : va_G} {a : Nat → Nat} {cs : zx_C} {p : Program} {e : Env} {s : State} {m : MethodId} {below : List Frame} {meth : Method} {c : Code} {fu : Nat} {p0 : Int32} {p1 : Int32}  (F : zx_F D a cs p m c cX0_advance 9 s ([.ref (a 8), .int p0, .int p1] : List Value).toArray RX0 meth) (hr : meth.sig.returnType = none) {r9 : Int32} {S9 : St}    (v1 : Int32) (v2 : Int32) (v7 : Int32) (S : St) (h : f_X0_advance_L74 fu p0 p1   v1 v2 v7 S = some (r9, S9)) (H : Heap) (locs : List Loc) (ls : Array Slot) (hW : zx_W D a cs S H) (hS : va_S (zx_A a) s.heap H locs) (hl : lv_has ls 9 [(0, .ref (a 8)), (1, .int v1), (2, .int v2), (7, .int v7)]) : W p l e ({ frames := 3, cells := 0, slots := 0, locals := 64 }) s m ([.ref (a 8), .int p0, .int p1] : List Value).toArray below meth c H locs 0 0 (MQ below (zx_Qv D a cs S9) ([.ref (a 8), .int p0, .int p1] : List Value).toArray s 0 0 (zx_A a)) (F0 m 74 ls []) := by
  obtain ⟨⟨hx, hb, hml, hown, hts⟩, hlk, hK, hJ, hN⟩ := id F
  unfold f_X0_advance_L74 at h
  refine lv_aload_n hx hb dX0_advance_74 rfl (lv_at hl 0 rfl) ?_
  refine lv_iload hx hb dX0_advance_75 (lv_at hl 3 rfl) ?_
  obtain ⟨S10, eS10, h⟩ := g_pin h
  refine zx_putv (C := RX0) (T := TX0) (N := 8) F hW hS wu_X0 tyX0_ok nmX0 (by decide) zx_E8 rfl 6 (by decide) wf_X0_34 rfl v7 rfl rfl (Nat.le_of_ble_eq_true rfl) rfl dX0_advance_77 (fun H locs hW hS => ?_)
  have hW : zx_W D a cs S10 H := by rw [eS10]; exact hW
  refine lv_aload_n hx hb dX0_advance_80 rfl (lv_at hl 0 rfl) ?_
  refine lv_iload_n hx hb dX0_advance_81 rfl (lv_at hl 1 rfl) ?_
  refine lv_iconst (v := 1) hx hb dX0_advance_82 (by decide) ?_
  refine lv_iload hx hb dX0_advance_83 (lv_at hl 3 rfl) ?_
  refine lv_aload_n hx hb dX0_advance_85 rfl (lv_at hl 0 rfl) ?_
  refine zx_get (C := RX0) (T := TX0) (N := 8) F hW wu_X0 (by decide) zx_E8 rfl 4 (by decide) wf_X0_28 rfl dX0_advance_86 ?_
  refine lv_imul hx hb dX0_advance_89 ?_
  refine lv_ishl hx hb dX0_advance_90 ?_
  refine lv_iconst (v := 1) hx hb dX0_advance_91 (by decide) ?_
  refine lv_isub hx hb dX0_advance_92 ?_
  refine lv_iand hx hb dX0_advance_93 ?_
  obtain ⟨S11, eS11, h⟩ := g_pin h
  refine zx_putv (C := RX0) (T := TX0) (N := 8) F hW hS wu_X0 tyX0_ok nmX0 (by decide) zx_E8 rfl 7 (by decide) wf_X0_37 rfl (v1 &&& (((1 : Int32) <<< ((v7 * (S10 8 4)) &&& 31)) - (1 : Int32))) rfl rfl (Nat.le_of_ble_eq_true rfl) rfl dX0_advance_94 (fun H locs hW hS => ?_)
  have hW : zx_W D a cs S11 H := by rw [eS11]; exact hW
  refine lv_iload_n hx hb dX0_advance_97 rfl (lv_at hl 1 rfl) ?_
  refine lv_iload hx hb dX0_advance_98 (lv_at hl 3 rfl) ?_
  refine lv_aload_n hx hb dX0_advance_100 rfl (lv_at hl 0 rfl) ?_
  refine zx_get (C := RX0) (T := TX0) (N := 8) F hW wu_X0 (by decide) zx_E8 rfl 4 (by decide) wf_X0_28 rfl dX0_advance_101 ?_
  refine lv_imul hx hb dX0_advance_104 ?_
  refine lv_ishr hx hb dX0_advance_105 ?_
  obtain ⟨x12, ex12, h⟩ := g_pin h
  refine zx_nm ex12 ?_
  refine lv_istore (lv' := [(8, .int x12), (0, .ref (a 8)), (1, .int v1), (2, .int v2), (7, .int v7)]) hx hb dX0_advance_106 hl (by decide) rfl (fun ls hl => ?_)
  refine lv_aload_n hx hb dX0_advance_108 rfl (lv_at hl 1 rfl) ?_
  refine lv_aload_n hx hb dX0_advance_109 rfl (lv_at hl 1 rfl) ?_
  obtain ⟨r13, S14, h15, h⟩ := g_bd h
  refine zx_ci (zx_runV (q := (RX0, TX0, 8)) (As := []) (rest := [.ref (a 8)]) F hW (c_X0_isByTable l D a cs   S11 r13 S14 h15) Y_X0_isByTable wi_X0_isByTable ws_X0_isByTable wm_X0_47 ⟨rfl, rfl, Nat.le_of_ble_eq_true rfl, Nat.le_of_ble_eq_true rfl, Nat.le_of_ble_eq_true rfl, Nat.le_of_ble_eq_true rfl⟩ (by decide) zx_E8 rfl rfl hl.1 rfl (Nat.le_of_ble_eq_true rfl) dX0_advance_110) hS (fun H locs hW hS => ?_)
  refine lv_if_eq (tgt := 134) hx hb dX0_advance_113 (by decide) (fun c16 => ?_) (fun c16 => ?_)
  · have h := g_t c16 h
    refine lv_aload_n hx hb dX0_advance_134 rfl (lv_at hl 1 rfl) ?_
    refine lv_iload hx hb dX0_advance_135 (lv_at hl 0 rfl) ?_
    refine lv_iload_n hx hb dX0_advance_137 rfl (lv_at hl 3 rfl) ?_
    obtain ⟨r17, S18, h19, h⟩ := g_bd h
    refine zx_ci (zx_runV (q := (RX0, TX0, 8)) (As := [.int x12, .int v2]) (rest := [.ref (a 8)]) F hW (c_X0_divided l D a cs x12 v2  S14 r17 S18 h19) Y_X0_divided wi_X0_divided ws_X0_divided wm_X0_62 ⟨rfl, rfl, Nat.le_of_ble_eq_true rfl, Nat.le_of_ble_eq_true rfl, Nat.le_of_ble_eq_true rfl, Nat.le_of_ble_eq_true rfl⟩ (by decide) zx_E8 rfl rfl hl.1 rfl (Nat.le_of_ble_eq_true rfl) dX0_advance_138) hS (fun H locs hW hS => ?_)
    obtain ⟨S20, eS20, h⟩ := g_pin h
    refine zx_putv (C := RX0) (T := TX0) (N := 8) F hW hS wu_X0 tyX0_ok nmX0 (by decide) zx_E8 rfl 5 (by decide) wf_X0_31 rfl r17 rfl rfl (Nat.le_of_ble_eq_true rfl) rfl dX0_advance_141 (fun H locs hW hS => ?_)
    have hW : zx_W D a cs S20 H := by rw [eS20]; exact hW
    exact zx_rv F hr hW hS h dX0_advance_144
  · have h := g_f c16 h
    refine lv_aload_n hx hb dX0_advance_116 rfl (lv_at hl 1 rfl) ?_
    refine zx_get (C := RX0) (T := TX0) (N := 8) F hW wu_X0 (by decide) zx_E8 rfl 3 (by decide) wf_X0_25 rfl dX0_advance_117 ?_
    refine lv_aload_n hx hb dX0_advance_120 rfl (lv_at hl 1 rfl) ?_
    refine zx_get (C := RX0) (T := TX0) (N := 8) F hW wu_X0 (by decide) zx_E8 rfl 0 (by decide) wf_X0_12 rfl dX0_advance_121 ?_
    refine lv_iload_n hx hb dX0_advance_124 rfl (lv_at hl 3 rfl) ?_
    refine lv_iload hx hb dX0_advance_125 (lv_at hl 0 rfl) ?_
    obtain ⟨r21, S22, h23, h⟩ := g_bd h
    refine zx_ci (zx_runV (q := (RX5, TX5, 10)) (As := [.int v2, .int x12]) (rest := [.int (S14 8 3), .ref (a 8)]) F hW (c_X5_placeOf l D a cs v2 x12  S14 r21 S22 h23) Y_X5_placeOf wi_X5_placeOf ws_X5_placeOf wm_X0_58 ⟨rfl, rfl, Nat.le_of_ble_eq_true rfl, Nat.le_of_ble_eq_true rfl, Nat.le_of_ble_eq_true rfl, Nat.le_of_ble_eq_true rfl⟩ (by decide) zx_E9 rfl rfl hl.1 rfl (Nat.le_of_ble_eq_true rfl) dX0_advance_127) hS (fun H locs hW hS => ?_)
    refine lv_iadd hx hb dX0_advance_130 ?_
    refine lv_goto (tgt := 141) hx hb dX0_advance_131 (by decide) ?_
    obtain ⟨S24, eS24, h⟩ := g_pin h
    refine zx_putv (C := RX0) (T := TX0) (N := 8) F hW hS wu_X0 tyX0_ok nmX0 (by decide) zx_E8 rfl 5 (by decide) wf_X0_31 rfl ((S14 8 3) + r21) rfl rfl (Nat.le_of_ble_eq_true rfl) rfl dX0_advance_141 (fun H locs hW hS => ?_)
    have hW : zx_W D a cs S24 H := by rw [eS24]; exact hW
    exact zx_rv F hr hW hS h dX0_advance_144
set_option maxHeartbeats 4000000 in
set_option maxRecDepth 100000 in
theorem k_X0_advance_L42 {l : Launch} {D : va_G} {a : Nat → Nat} {cs : zx_C} {p : Program} {e : Env} {s : State} {m : MethodId} {below : List Frame} {meth : Method} {c : Code} {fu : Nat} {p0 : Int32} {p1 : Int32}  (F : zx_F D a cs p m c cX0_advance 9 s ([.ref (a 8), .int p0, .int p1] : List Value).toArray RX0 meth) (hr : meth.sig.returnType = none) {r9 : Int32} {S9 : St}    : ∀ (n : Nat) (v1 : Int32) (v2 : Int32) (v5 : Int64) (v7 : Int32) (v8 : Int32) (S : St), f_X0_advance_L42 fu p0 p1   n v1 v2 v5 v7 v8 S = some (r9, S9) → ∀ (H : Heap) (locs : List Loc) (ls : Array Slot), zx_W D a cs S H → va_S (zx_A a) s.heap H locs → lv_has ls 9 [(0, .ref (a 8)), (1, .int v1), (2, .int v2), (5, .long v5), (7, .int v7), (8, .int v8)] → W p l e ({ frames := 3, cells := 0, slots := 0, locals := 64 }) s m ([.ref (a 8), .int p0, .int p1] : List Value).toArray below meth c H locs 0 0 (MQ below (zx_Qv D a cs S9) ([.ref (a 8), .int p0, .int p1] : List Value).toArray s 0 0 (zx_A a)) (F0 m 42 ls []) := by
  obtain ⟨⟨hx, hb, hml, hown, hts⟩, hlk, hK, hJ, hN⟩ := id F
  intro n
  induction n with
  | zero =>
    intro v1 v2 v5 v7 v8 S h
    exact absurd h (fun q => by cases q)
  | succ n ih =>
    intro v1 v2 v5 v7 v8 S h H locs ls hW hS hl
    rw [f_X0_advance_L42_s] at h
    refine lv_iload hx hb dX0_advance_42 (lv_at hl 5 rfl) ?_
    refine lv_bipush (v := 12) hx hb dX0_advance_44 (by decide) ?_
    refine lv_icmp_ge (tgt := 74) hx hb dX0_advance_46 (by decide) (fun c9 => ?_) (fun c9 => ?_)
    · have h := g_t c9 h
      exact k_X0_advance_L74  F hr   v1 v2 v7 S h _ _ _ hW hS (lv_sub hl [0, 1, 2, 4] rfl)
    · have h := g_f c9 h
      refine lv_iload_n hx hb dX0_advance_49 rfl (lv_at hl 1 rfl) ?_
      refine lv_iload hx hb dX0_advance_50 (lv_at hl 4 rfl) ?_
      refine lv_aload_n hx hb dX0_advance_52 rfl (lv_at hl 0 rfl) ?_
      refine zx_get (C := RX0) (T := TX0) (N := 8) F hW wu_X0 (by decide) zx_E8 rfl 4 (by decide) wf_X0_28 rfl dX0_advance_53 ?_
      refine lv_imul hx hb dX0_advance_56 ?_
      refine lv_ishr hx hb dX0_advance_57 ?_
      refine lv_i2l hx hb dX0_advance_58 rfl ?_
      refine lv_lload hx hb dX0_advance_59 (lv_at hl 3 rfl) ?_
      refine W.lcmp hx hb dX0_advance_61 ?_
      refine lv_if_lt (tgt := 74) hx hb dX0_advance_62 (by decide) (fun c25 => ?_) (fun c25 => ?_)
      · have h := g_t c25 h
        exact k_X0_advance_L74  F hr   v1 v2 v7 S h _ _ _ hW hS (lv_sub hl [0, 1, 2, 4] rfl)
      · have h := g_f c25 h
        obtain ⟨x26, ex26, h⟩ := g_pin h
        refine lv_iinc (v := x26) (lv' := [(7, .int x26), (0, .ref (a 8)), (1, .int v1), (2, .int v2), (5, .long v5), (8, .int v8)]) hx hb dX0_advance_65 hl (k := 4) rfl (by rw [ex26]; rfl) (by decide) rfl (fun ls hl => ?_)
        obtain ⟨x27, ex27, h⟩ := g_pin h
        refine lv_iinc (v := x27) (lv' := [(8, .int x27), (7, .int x26), (0, .ref (a 8)), (1, .int v1), (2, .int v2), (5, .long v5)]) hx hb dX0_advance_68 hl (k := 5) rfl (by rw [ex27]; rfl) (by decide) rfl (fun ls hl => ?_)
        refine lv_goto (tgt := 42) hx hb dX0_advance_71 (by decide) ?_
        exact ih v1 v2 v5 x26 x27 S h _ _ _ hW hS (lv_sub hl [2, 3, 4, 5, 1, 0] rfl)
set_option maxHeartbeats 4000000 in
set_option maxRecDepth 100000 in
theorem k_X0_advance_L34 {l : Launch} {D : va_G} {a : Nat → Nat} {cs : zx_C} {p : Program} {e : Env} {s : State} {m : MethodId} {below : List Frame} {meth : Method} {c : Code} {fu : Nat} {p0 : Int32} {p1 : Int32}  (F : zx_F D a cs p m c cX0_advance 9 s ([.ref (a 8), .int p0, .int p1] : List Value).toArray RX0 meth) (hr : meth.sig.returnType = none) {r9 : Int32} {S9 : St}    (v1 : Int32) (v2 : Int32) (t0 : Int64) (S : St) (h : f_X0_advance_L34 fu p0 p1   v1 v2 t0 S = some (r9, S9)) (H : Heap) (locs : List Loc) (ls : Array Slot) (hW : zx_W D a cs S H) (hS : va_S (zx_A a) s.heap H locs) (hl : lv_has ls 9 [(0, .ref (a 8)), (1, .int v1), (2, .int v2)]) : W p l e ({ frames := 3, cells := 0, slots := 0, locals := 64 }) s m ([.ref (a 8), .int p0, .int p1] : List Value).toArray below meth c H locs 0 0 (MQ below (zx_Qv D a cs S9) ([.ref (a 8), .int p0, .int p1] : List Value).toArray s 0 0 (zx_A a)) (F0 m 34 ls [.long t0]) := by
  obtain ⟨⟨hx, hb, hml, hown, hts⟩, hlk, hK, hJ, hN⟩ := id F
  unfold f_X0_advance_L34 at h
  refine lv_lstore (lv' := [(5, .long t0), (0, .ref (a 8)), (1, .int v1), (2, .int v2)]) hx hb dX0_advance_34 hl (by decide) rfl (fun ls hl => ?_)
  refine lv_iconst (v := 0) hx hb dX0_advance_36 (by decide) ?_
  refine lv_istore (lv' := [(7, .int (0 : Int32)), (5, .long t0), (0, .ref (a 8)), (1, .int v1), (2, .int v2)]) hx hb dX0_advance_37 hl (by decide) rfl (fun ls hl => ?_)
  refine lv_iconst (v := 0) hx hb dX0_advance_39 (by decide) ?_
  refine lv_istore (lv' := [(8, .int (0 : Int32)), (7, .int (0 : Int32)), (5, .long t0), (0, .ref (a 8)), (1, .int v1), (2, .int v2)]) hx hb dX0_advance_40 hl (by decide) rfl (fun ls hl => ?_)
  exact k_X0_advance_L42  F hr   fu v1 v2 t0 (0 : Int32) (0 : Int32) S h _ _ _ hW hS (lv_sub hl [3, 4, 5, 2, 1, 0] rfl)
set_option maxHeartbeats 4000000 in
set_option maxRecDepth 100000 in
theorem c_X0_advance (l : Launch) (D : va_G) (a : Nat → Nat) (cs : zx_C) (fu : Nat) (p0 : Int32) (p1 : Int32)  (S : St) (r9 : Int32) (S9 : St) (h : f_X0_advance fu p0 p1 S = some (r9, S9)) : Met l yX0_advance (Cond.code yX0_advance cX0_advance 9 none :: zx_tb) ({ frames := 3, cells := 0, slots := 0, locals := 64 }) (zx_P D a cs [.ref (a 8), .int p0, .int p1] S) (zx_Qv D a cs S9) 0 0 (zx_A a) := by
  refine zx_met (own := RX0) (by decide) (Nat.le_of_ble_eq_true rfl) rfl ?_
  intro p e s m below meth c ls F hr hW hS hl
  have hl : lv_has ls 9 [(0, .ref (a 8)), (1, .int p0), (2, .int p1)] := hl
  obtain ⟨⟨hx, hb, hml, hown, hts⟩, hlk, hK, hJ, hN⟩ := id F
  unfold f_X0_advance at h
  refine lv_aload_n hx hb dX0_advance_0 rfl (lv_at hl 0 rfl) ?_
  refine zx_get (C := RX0) (T := TX0) (N := 8) F hW wu_X0 (by decide) zx_E8 rfl 0 (by decide) wf_X0_12 rfl dX0_advance_1 ?_
  refine lv_iload_n hx hb dX0_advance_4 rfl (lv_at hl 2 rfl) ?_
  obtain ⟨r1, S2, h3, h⟩ := g_bd h
  refine zx_ci (zx_runV (q := (RX5, TX5, 10)) (As := [.int p1]) (rest := []) F hW (c_X5_shareOf l D a cs p1  S r1 S2 h3) Y_X5_shareOf wi_X5_shareOf ws_X5_shareOf wm_X0_52 ⟨rfl, rfl, Nat.le_of_ble_eq_true rfl, Nat.le_of_ble_eq_true rfl, Nat.le_of_ble_eq_true rfl, Nat.le_of_ble_eq_true rfl⟩ (by decide) zx_E9 rfl rfl hl.1 rfl (Nat.le_of_ble_eq_true rfl) dX0_advance_5) hS (fun H locs hW hS => ?_)
  refine lv_i2l hx hb dX0_advance_8 rfl ?_
  obtain ⟨x4, ex4, h⟩ := g_pin h
  refine zx_nml ex4 ?_
  refine lv_lstore_n (lv' := [(3, .long x4), (0, .ref (a 8)), (1, .int p0), (2, .int p1)]) hx hb dX0_advance_9 rfl hl (by decide) rfl (fun ls hl => ?_)
  refine lv_aload_n hx hb dX0_advance_10 rfl (lv_at hl 1 rfl) ?_
  obtain ⟨r5, S6, h7, h⟩ := g_bd h
  refine zx_ci (zx_runV (q := (RX0, TX0, 8)) (As := []) (rest := []) F hW (c_X0_isByTable l D a cs   S2 r5 S6 h7) Y_X0_isByTable wi_X0_isByTable ws_X0_isByTable wm_X0_47 ⟨rfl, rfl, Nat.le_of_ble_eq_true rfl, Nat.le_of_ble_eq_true rfl, Nat.le_of_ble_eq_true rfl, Nat.le_of_ble_eq_true rfl⟩ (by decide) zx_E8 rfl rfl hl.1 rfl (Nat.le_of_ble_eq_true rfl) dX0_advance_11) hS (fun H locs hW hS => ?_)
  refine lv_if_eq (tgt := 25) hx hb dX0_advance_14 (by decide) (fun c8 => ?_) (fun c8 => ?_)
  · have h := g_t c8 h
    refine lv_lload_n hx hb dX0_advance_25 rfl (lv_at hl 0 rfl) ?_
    refine lv_bipush (v := 31) hx hb dX0_advance_26 (by decide) ?_
    refine lv_aload_n hx hb dX0_advance_28 rfl (lv_at hl 1 rfl) ?_
    refine zx_get (C := RX0) (T := TX0) (N := 8) F hW wu_X0 (by decide) zx_E8 rfl 2 (by decide) wf_X0_22 rfl dX0_advance_29 ?_
    refine lv_isub hx hb dX0_advance_32 ?_
    refine lv_lshl hx hb dX0_advance_33 rfl ?_
    exact k_X0_advance_L34  F hr   p0 p1 (x4 <<< ((((31 : Int32) - (S6 8 2))).toInt64 &&& 63)) S6 h _ _ _ hW hS (lv_sub hl [1, 2, 3] rfl)
  · have h := g_f c8 h
    refine lv_ldc2 (v := 2) hx hb hown (hts _ wl_X0_56) dX0_advance_17 ?_
    refine lv_lload_n hx hb dX0_advance_20 rfl (lv_at hl 0 rfl) ?_
    refine lv_lmul hx hb dX0_advance_21 ?_
    refine lv_goto (tgt := 34) hx hb dX0_advance_22 (by decide) ?_
    exact k_X0_advance_L34  F hr   p0 p1 ((2 : Int64) * x4) S6 h _ _ _ hW hS (lv_sub hl [1, 2, 3] rfl)
theorem Y_X0_placeOfState : zx_Y yX0_placeOfState cX0_placeOfState 2 (some (.int)) 1 := ⟨wc_X0_placeOfState, wn_X0, by decide, by decide, by decide +kernel⟩
set_option maxHeartbeats 4000000 in
set_option maxRecDepth 100000 in
theorem c_X0_placeOfState (l : Launch) (D : va_G) (a : Nat → Nat) (cs : zx_C) (p0 : Int32)  (S : St) (r9 : Int32) (S9 : St) (h : f_X0_placeOfState p0 S = some (r9, S9)) : Met l yX0_placeOfState (Cond.code yX0_placeOfState cX0_placeOfState 2 (some (.int)) :: zx_tb) ({ frames := 1, cells := 0, slots := 0, locals := 20 }) (zx_P D a cs [.ref (a 8), .int p0] S) (zx_Qi D a cs r9 S9) 0 0 (zx_A a) := by
  refine zx_met (own := RX0) (by decide) (Nat.le_of_ble_eq_true rfl) rfl ?_
  intro p e s m below meth c ls F hr hW hS hl
  have hl : lv_has ls 2 [(0, .ref (a 8)), (1, .int p0)] := hl
  obtain ⟨⟨hx, hb, hml, hown, hts⟩, hlk, hK, hJ, hN⟩ := id F
  unfold f_X0_placeOfState at h
  refine lv_aload_n hx hb dX0_placeOfState_0 rfl (lv_at hl 0 rfl) ?_
  obtain ⟨r1, S2, h3, h⟩ := g_bd h
  refine zx_ci (zx_runV (q := (RX0, TX0, 8)) (As := []) (rest := []) F hW (c_X0_isByTable l D a cs   S r1 S2 h3) Y_X0_isByTable wi_X0_isByTable ws_X0_isByTable wm_X0_47 ⟨rfl, rfl, Nat.le_of_ble_eq_true rfl, Nat.le_of_ble_eq_true rfl, Nat.le_of_ble_eq_true rfl, Nat.le_of_ble_eq_true rfl⟩ (by decide) zx_E8 rfl rfl hl.1 rfl (Nat.le_of_ble_eq_true rfl) dX0_placeOfState_1) hS (fun H locs hW hS => ?_)
  refine lv_if_eq (tgt := 16) hx hb dX0_placeOfState_4 (by decide) (fun c4 => ?_) (fun c4 => ?_)
  · have h := g_t c4 h
    refine lv_iload_n hx hb dX0_placeOfState_16 rfl (lv_at hl 1 rfl) ?_
    refine lv_iconst (v := 1) hx hb dX0_placeOfState_17 (by decide) ?_
    refine lv_aload_n hx hb dX0_placeOfState_18 rfl (lv_at hl 0 rfl) ?_
    refine zx_get (C := RX0) (T := TX0) (N := 8) F hW wu_X0 (by decide) zx_E8 rfl 2 (by decide) wf_X0_22 rfl dX0_placeOfState_19 ?_
    refine lv_ishl hx hb dX0_placeOfState_22 ?_
    refine lv_iconst (v := 1) hx hb dX0_placeOfState_23 (by decide) ?_
    refine lv_isub hx hb dX0_placeOfState_24 ?_
    refine lv_iand hx hb dX0_placeOfState_25 ?_
    exact zx_ri F hr hW hS h dX0_placeOfState_26
  · have h := g_f c4 h
    refine lv_iload_n hx hb dX0_placeOfState_7 rfl (lv_at hl 1 rfl) ?_
    refine lv_aload_n hx hb dX0_placeOfState_8 rfl (lv_at hl 0 rfl) ?_
    refine zx_get (C := RX0) (T := TX0) (N := 8) F hW wu_X0 (by decide) zx_E8 rfl 3 (by decide) wf_X0_25 rfl dX0_placeOfState_9 ?_
    refine lv_isub hx hb dX0_placeOfState_12 ?_
    refine lv_goto (tgt := 26) hx hb dX0_placeOfState_13 (by decide) ?_
    exact zx_ri F hr hW hS h dX0_placeOfState_26
theorem Y_X5_symbolAt : zx_Y yX5_symbolAt cX5_symbolAt 2 (some (.int)) 1 := ⟨wc_X5_symbolAt, wn_X5, by decide, by decide, by decide +kernel⟩
set_option maxHeartbeats 4000000 in
set_option maxRecDepth 100000 in
theorem c_X5_symbolAt (l : Launch) (D : va_G) (a : Nat → Nat) (cs : zx_C) (p0 : Int32)  (S : St) (r9 : Int32) (S9 : St) (h : f_X5_symbolAt p0 S = some (r9, S9)) : Met l yX5_symbolAt (Cond.code yX5_symbolAt cX5_symbolAt 2 (some (.int)) :: zx_tb) ({ frames := 0, cells := 0, slots := 0, locals := 0 }) (zx_P D a cs [.ref (a 9), .int p0] S) (zx_Qi D a cs r9 S9) 0 0 (zx_A a) := by
  refine zx_met (own := RX5) (by decide) (Nat.le_of_ble_eq_true rfl) rfl ?_
  intro p e s m below meth c ls F hr hW hS hl
  have hl : lv_has ls 2 [(0, .ref (a 9)), (1, .int p0)] := hl
  obtain ⟨⟨hx, hb, hml, hown, hts⟩, hlk, hK, hJ, hN⟩ := id F
  unfold f_X5_symbolAt at h
  refine lv_iload_n hx hb dX5_symbolAt_0 rfl (lv_at hl 1 rfl) ?_
  refine lv_if_lt (tgt := 25) hx hb dX5_symbolAt_1 (by decide) (fun c1 => ?_) (fun c1 => ?_)
  · have h := g_t c1 h
    refine lv_iconst (v := 0) hx hb dX5_symbolAt_25 (by decide) ?_
    exact zx_ri F hr hW hS h dX5_symbolAt_26
  · have h := g_f c1 h
    refine lv_iload_n hx hb dX5_symbolAt_4 rfl (lv_at hl 1 rfl) ?_
    refine lv_aload_n hx hb dX5_symbolAt_5 rfl (lv_at hl 0 rfl) ?_
    refine zx_get (C := RX5) (T := TX5) (N := 10) F hW wu_X5 (by decide) zx_E9 rfl 7 (by decide) wf_X5_34 rfl dX5_symbolAt_6 ?_
    refine lv_icmp_ge (tgt := 25) hx hb dX5_symbolAt_9 (by decide) (fun c2 => ?_) (fun c2 => ?_)
    · have h := g_t c2 h
      refine lv_iconst (v := 0) hx hb dX5_symbolAt_25 (by decide) ?_
      exact zx_ri F hr hW hS h dX5_symbolAt_26
    · have h := g_f c2 h
      refine lv_aload_n hx hb dX5_symbolAt_12 rfl (lv_at hl 0 rfl) ?_
      refine zx_get (C := RX5) (T := TX5) (N := 10) F hW wu_X5 (by decide) zx_E9 rfl 0 (by decide) wf_X5_9 rfl dX5_symbolAt_13 ?_
      refine lv_iload_n hx hb dX5_symbolAt_16 rfl (lv_at hl 1 rfl) ?_
      obtain ⟨c3, h⟩ := g_no h
      refine zx_iald (n := 4096) F hW (by decide) zx_E10 c3 dX5_symbolAt_17 ?_
      refine lv_sipush (v := 255) hx hb dX5_symbolAt_18 (by decide) ?_
      refine lv_iand hx hb dX5_symbolAt_21 ?_
      refine lv_goto (tgt := 26) hx hb dX5_symbolAt_22 (by decide) ?_
      exact zx_ri F hr hW hS h dX5_symbolAt_26
theorem Y_X0_symbolOf : zx_Y yX0_symbolOf cX0_symbolOf 2 (some (.int)) 1 := ⟨wc_X0_symbolOf, wn_X0, by decide, by decide, by decide +kernel⟩
set_option maxHeartbeats 4000000 in
set_option maxRecDepth 100000 in
theorem c_X0_symbolOf (l : Launch) (D : va_G) (a : Nat → Nat) (cs : zx_C) (p0 : Int32)  (S : St) (r9 : Int32) (S9 : St) (h : f_X0_symbolOf p0 S = some (r9, S9)) : Met l yX0_symbolOf (Cond.code yX0_symbolOf cX0_symbolOf 2 (some (.int)) :: zx_tb) ({ frames := 2, cells := 0, slots := 0, locals := 41 }) (zx_P D a cs [.ref (a 8), .int p0] S) (zx_Qi D a cs r9 S9) 0 0 (zx_A a) := by
  refine zx_met (own := RX0) (by decide) (Nat.le_of_ble_eq_true rfl) rfl ?_
  intro p e s m below meth c ls F hr hW hS hl
  have hl : lv_has ls 2 [(0, .ref (a 8)), (1, .int p0)] := hl
  obtain ⟨⟨hx, hb, hml, hown, hts⟩, hlk, hK, hJ, hN⟩ := id F
  unfold f_X0_symbolOf at h
  refine lv_aload_n hx hb dX0_symbolOf_0 rfl (lv_at hl 0 rfl) ?_
  refine zx_get (C := RX0) (T := TX0) (N := 8) F hW wu_X0 (by decide) zx_E8 rfl 0 (by decide) wf_X0_12 rfl dX0_symbolOf_1 ?_
  refine lv_aload_n hx hb dX0_symbolOf_4 rfl (lv_at hl 0 rfl) ?_
  refine lv_iload_n hx hb dX0_symbolOf_5 rfl (lv_at hl 1 rfl) ?_
  obtain ⟨r1, S2, h3, h⟩ := g_bd h
  refine zx_ci (zx_runV (q := (RX0, TX0, 8)) (As := [.int p0]) (rest := [.ref (a 9)]) F hW (c_X0_placeOfState l D a cs p0  S r1 S2 h3) Y_X0_placeOfState wi_X0_placeOfState ws_X0_placeOfState wm_X0_68 ⟨rfl, rfl, Nat.le_of_ble_eq_true rfl, Nat.le_of_ble_eq_true rfl, Nat.le_of_ble_eq_true rfl, Nat.le_of_ble_eq_true rfl⟩ (by decide) zx_E8 rfl rfl hl.1 rfl (Nat.le_of_ble_eq_true rfl) dX0_symbolOf_6) hS (fun H locs hW hS => ?_)
  obtain ⟨r4, S5, h6, h⟩ := g_bd h
  refine zx_ci (zx_runV (q := (RX5, TX5, 10)) (As := [.int r1]) (rest := []) F hW (c_X5_symbolAt l D a cs r1  S2 r4 S5 h6) Y_X5_symbolAt wi_X5_symbolAt ws_X5_symbolAt wm_X0_71 ⟨rfl, rfl, Nat.le_of_ble_eq_true rfl, Nat.le_of_ble_eq_true rfl, Nat.le_of_ble_eq_true rfl, Nat.le_of_ble_eq_true rfl⟩ (by decide) zx_E9 rfl rfl hl.1 rfl (Nat.le_of_ble_eq_true rfl) dX0_symbolOf_9) hS (fun H locs hW hS => ?_)
  exact zx_ri F hr hW hS h dX0_symbolOf_12
theorem Y_X5_rankAt : zx_Y yX5_rankAt cX5_rankAt 2 (some (.int)) 1 := ⟨wc_X5_rankAt, wn_X5, by decide, by decide, by decide +kernel⟩
set_option maxHeartbeats 4000000 in
set_option maxRecDepth 100000 in
theorem c_X5_rankAt (l : Launch) (D : va_G) (a : Nat → Nat) (cs : zx_C) (p0 : Int32)  (S : St) (r9 : Int32) (S9 : St) (h : f_X5_rankAt p0 S = some (r9, S9)) : Met l yX5_rankAt (Cond.code yX5_rankAt cX5_rankAt 2 (some (.int)) :: zx_tb) ({ frames := 0, cells := 0, slots := 0, locals := 0 }) (zx_P D a cs [.ref (a 9), .int p0] S) (zx_Qi D a cs r9 S9) 0 0 (zx_A a) := by
  refine zx_met (own := RX5) (by decide) (Nat.le_of_ble_eq_true rfl) rfl ?_
  intro p e s m below meth c ls F hr hW hS hl
  have hl : lv_has ls 2 [(0, .ref (a 9)), (1, .int p0)] := hl
  obtain ⟨⟨hx, hb, hml, hown, hts⟩, hlk, hK, hJ, hN⟩ := id F
  unfold f_X5_rankAt at h
  refine lv_iload_n hx hb dX5_rankAt_0 rfl (lv_at hl 1 rfl) ?_
  refine lv_if_lt (tgt := 24) hx hb dX5_rankAt_1 (by decide) (fun c1 => ?_) (fun c1 => ?_)
  · have h := g_t c1 h
    refine lv_iconst (v := 0) hx hb dX5_rankAt_24 (by decide) ?_
    exact zx_ri F hr hW hS h dX5_rankAt_25
  · have h := g_f c1 h
    refine lv_iload_n hx hb dX5_rankAt_4 rfl (lv_at hl 1 rfl) ?_
    refine lv_aload_n hx hb dX5_rankAt_5 rfl (lv_at hl 0 rfl) ?_
    refine zx_get (C := RX5) (T := TX5) (N := 10) F hW wu_X5 (by decide) zx_E9 rfl 7 (by decide) wf_X5_34 rfl dX5_rankAt_6 ?_
    refine lv_icmp_ge (tgt := 24) hx hb dX5_rankAt_9 (by decide) (fun c2 => ?_) (fun c2 => ?_)
    · have h := g_t c2 h
      refine lv_iconst (v := 0) hx hb dX5_rankAt_24 (by decide) ?_
      exact zx_ri F hr hW hS h dX5_rankAt_25
    · have h := g_f c2 h
      refine lv_aload_n hx hb dX5_rankAt_12 rfl (lv_at hl 0 rfl) ?_
      refine zx_get (C := RX5) (T := TX5) (N := 10) F hW wu_X5 (by decide) zx_E9 rfl 0 (by decide) wf_X5_9 rfl dX5_rankAt_13 ?_
      refine lv_iload_n hx hb dX5_rankAt_16 rfl (lv_at hl 1 rfl) ?_
      obtain ⟨c3, h⟩ := g_no h
      refine zx_iald (n := 4096) F hW (by decide) zx_E10 c3 dX5_rankAt_17 ?_
      refine lv_bipush (v := 8) hx hb dX5_rankAt_18 (by decide) ?_
      refine lv_ishr hx hb dX5_rankAt_20 ?_
      refine lv_goto (tgt := 25) hx hb dX5_rankAt_21 (by decide) ?_
      exact zx_ri F hr hW hS h dX5_rankAt_25
theorem Y_X0_behindSymbol : zx_Y yX0_behindSymbol cX0_behindSymbol 3 (some (.int)) 1 := ⟨wc_X0_behindSymbol, wn_X0, by decide, by decide, by decide +kernel⟩
set_option maxHeartbeats 4000000 in
set_option maxRecDepth 100000 in
theorem c_X0_behindSymbol (l : Launch) (D : va_G) (a : Nat → Nat) (cs : zx_C) (p0 : Int32)  (S : St) (r9 : Int32) (S9 : St) (h : f_X0_behindSymbol p0 S = some (r9, S9)) : Met l yX0_behindSymbol (Cond.code yX0_behindSymbol cX0_behindSymbol 3 (some (.int)) :: zx_tb) ({ frames := 3, cells := 0, slots := 0, locals := 62 }) (zx_P D a cs [.ref (a 8), .int p0] S) (zx_Qi D a cs r9 S9) 0 0 (zx_A a) := by
  refine zx_met (own := RX0) (by decide) (Nat.le_of_ble_eq_true rfl) rfl ?_
  intro p e s m below meth c ls F hr hW hS hl
  have hl : lv_has ls 3 [(0, .ref (a 8)), (1, .int p0)] := hl
  obtain ⟨⟨hx, hb, hml, hown, hts⟩, hlk, hK, hJ, hN⟩ := id F
  unfold f_X0_behindSymbol at h
  refine lv_aload_n hx hb dX0_behindSymbol_0 rfl (lv_at hl 0 rfl) ?_
  obtain ⟨r1, S2, h3, h⟩ := g_bd h
  refine zx_ci (zx_runV (q := (RX0, TX0, 8)) (As := []) (rest := []) F hW (c_X0_isByTable l D a cs   S r1 S2 h3) Y_X0_isByTable wi_X0_isByTable ws_X0_isByTable wm_X0_47 ⟨rfl, rfl, Nat.le_of_ble_eq_true rfl, Nat.le_of_ble_eq_true rfl, Nat.le_of_ble_eq_true rfl, Nat.le_of_ble_eq_true rfl⟩ (by decide) zx_E8 rfl rfl hl.1 rfl (Nat.le_of_ble_eq_true rfl) dX0_behindSymbol_1) hS (fun H locs hW hS => ?_)
  refine lv_if_eq (tgt := 21) hx hb dX0_behindSymbol_4 (by decide) (fun c4 => ?_) (fun c4 => ?_)
  · have h := g_t c4 h
    refine lv_aload_n hx hb dX0_behindSymbol_21 rfl (lv_at hl 0 rfl) ?_
    refine lv_iload_n hx hb dX0_behindSymbol_22 rfl (lv_at hl 1 rfl) ?_
    obtain ⟨r5, S6, h7, h⟩ := g_bd h
    refine zx_ci (zx_runV (q := (RX0, TX0, 8)) (As := [.int p0]) (rest := []) F hW (c_X0_symbolOf l D a cs p0  S2 r5 S6 h7) Y_X0_symbolOf wi_X0_symbolOf ws_X0_symbolOf wm_X0_77 ⟨rfl, rfl, Nat.le_of_ble_eq_true rfl, Nat.le_of_ble_eq_true rfl, Nat.le_of_ble_eq_true rfl, Nat.le_of_ble_eq_true rfl⟩ (by decide) zx_E8 rfl rfl hl.1 rfl (Nat.le_of_ble_eq_true rfl) dX0_behindSymbol_23) hS (fun H locs hW hS => ?_)
    refine lv_istore_n (lv' := [(2, .int r5), (0, .ref (a 8)), (1, .int p0)]) hx hb dX0_behindSymbol_26 rfl hl (by decide) rfl (fun ls hl => ?_)
    refine lv_aload_n hx hb dX0_behindSymbol_27 rfl (lv_at hl 1 rfl) ?_
    refine zx_get (C := RX0) (T := TX0) (N := 8) F hW wu_X0 (by decide) zx_E8 rfl 0 (by decide) wf_X0_12 rfl dX0_behindSymbol_28 ?_
    refine lv_iload_n hx hb dX0_behindSymbol_31 rfl (lv_at hl 0 rfl) ?_
    obtain ⟨r8, S9, h10, h⟩ := g_bd h
    refine zx_ci (zx_runV (q := (RX5, TX5, 10)) (As := [.int r5]) (rest := []) F hW (c_X5_shareOf l D a cs r5  S6 r8 S9 h10) Y_X5_shareOf wi_X5_shareOf ws_X5_shareOf wm_X0_52 ⟨rfl, rfl, Nat.le_of_ble_eq_true rfl, Nat.le_of_ble_eq_true rfl, Nat.le_of_ble_eq_true rfl, Nat.le_of_ble_eq_true rfl⟩ (by decide) zx_E9 rfl rfl hl.1 rfl (Nat.le_of_ble_eq_true rfl) dX0_behindSymbol_32) hS (fun H locs hW hS => ?_)
    refine lv_iload_n hx hb dX0_behindSymbol_35 rfl (lv_at hl 2 rfl) ?_
    refine lv_aload_n hx hb dX0_behindSymbol_36 rfl (lv_at hl 1 rfl) ?_
    refine zx_get (C := RX0) (T := TX0) (N := 8) F hW wu_X0 (by decide) zx_E8 rfl 2 (by decide) wf_X0_22 rfl dX0_behindSymbol_37 ?_
    refine lv_ishr hx hb dX0_behindSymbol_40 ?_
    refine lv_imul hx hb dX0_behindSymbol_41 ?_
    refine lv_aload_n hx hb dX0_behindSymbol_42 rfl (lv_at hl 1 rfl) ?_
    refine lv_iload_n hx hb dX0_behindSymbol_43 rfl (lv_at hl 2 rfl) ?_
    obtain ⟨r11, S12, h13, h⟩ := g_bd h
    refine zx_ci (zx_runV (q := (RX0, TX0, 8)) (As := [.int p0]) (rest := [.int (r8 * (p0 >>> ((S9 8 2) &&& 31)))]) F hW (c_X0_placeOfState l D a cs p0  S9 r11 S12 h13) Y_X0_placeOfState wi_X0_placeOfState ws_X0_placeOfState wm_X0_68 ⟨rfl, rfl, Nat.le_of_ble_eq_true rfl, Nat.le_of_ble_eq_true rfl, Nat.le_of_ble_eq_true rfl, Nat.le_of_ble_eq_true rfl⟩ (by decide) zx_E8 rfl rfl hl.1 rfl (Nat.le_of_ble_eq_true rfl) dX0_behindSymbol_44) hS (fun H locs hW hS => ?_)
    refine lv_iadd hx hb dX0_behindSymbol_47 ?_
    refine lv_aload_n hx hb dX0_behindSymbol_48 rfl (lv_at hl 1 rfl) ?_
    refine zx_get (C := RX0) (T := TX0) (N := 8) F hW wu_X0 (by decide) zx_E8 rfl 0 (by decide) wf_X0_12 rfl dX0_behindSymbol_49 ?_
    refine lv_iload_n hx hb dX0_behindSymbol_52 rfl (lv_at hl 0 rfl) ?_
    obtain ⟨r14, S15, h16, h⟩ := g_bd h
    refine zx_ci (zx_runV (q := (RX5, TX5, 10)) (As := [.int r5]) (rest := [.int ((r8 * (p0 >>> ((S9 8 2) &&& 31))) + r11)]) F hW (c_X5_startOf l D a cs r5  S12 r14 S15 h16) Y_X5_startOf wi_X5_startOf ws_X5_startOf wm_X0_65 ⟨rfl, rfl, Nat.le_of_ble_eq_true rfl, Nat.le_of_ble_eq_true rfl, Nat.le_of_ble_eq_true rfl, Nat.le_of_ble_eq_true rfl⟩ (by decide) zx_E9 rfl rfl hl.1 rfl (Nat.le_of_ble_eq_true rfl) dX0_behindSymbol_53) hS (fun H locs hW hS => ?_)
    refine lv_isub hx hb dX0_behindSymbol_56 ?_
    exact zx_ri F hr hW hS h dX0_behindSymbol_57
  · have h := g_f c4 h
    refine lv_aload_n hx hb dX0_behindSymbol_7 rfl (lv_at hl 0 rfl) ?_
    refine zx_get (C := RX0) (T := TX0) (N := 8) F hW wu_X0 (by decide) zx_E8 rfl 0 (by decide) wf_X0_12 rfl dX0_behindSymbol_8 ?_
    refine lv_iload_n hx hb dX0_behindSymbol_11 rfl (lv_at hl 1 rfl) ?_
    refine lv_aload_n hx hb dX0_behindSymbol_12 rfl (lv_at hl 0 rfl) ?_
    refine zx_get (C := RX0) (T := TX0) (N := 8) F hW wu_X0 (by decide) zx_E8 rfl 3 (by decide) wf_X0_25 rfl dX0_behindSymbol_13 ?_
    refine lv_isub hx hb dX0_behindSymbol_16 ?_
    obtain ⟨r17, S18, h19, h⟩ := g_bd h
    refine zx_ci (zx_runV (q := (RX5, TX5, 10)) (As := [.int (p0 - (S2 8 3))]) (rest := []) F hW (c_X5_rankAt l D a cs (p0 - (S2 8 3))  S2 r17 S18 h19) Y_X5_rankAt wi_X5_rankAt ws_X5_rankAt wm_X0_74 ⟨rfl, rfl, Nat.le_of_ble_eq_true rfl, Nat.le_of_ble_eq_true rfl, Nat.le_of_ble_eq_true rfl, Nat.le_of_ble_eq_true rfl⟩ (by decide) zx_E9 rfl rfl hl.1 rfl (Nat.le_of_ble_eq_true rfl) dX0_behindSymbol_17) hS (fun H locs hW hS => ?_)
    exact zx_ri F hr hW hS h dX0_behindSymbol_20
theorem Y_X0_isState : zx_Y yX0_isState cX0_isState 2 (some (.boolean)) 1 := ⟨wc_X0_isState, wn_X0, by decide, by decide, by decide +kernel⟩
set_option maxHeartbeats 4000000 in
set_option maxRecDepth 100000 in
theorem c_X0_isState (l : Launch) (D : va_G) (a : Nat → Nat) (cs : zx_C) (p0 : Int32)  (S : St) (r9 : Int32) (S9 : St) (h : f_X0_isState p0 S = some (r9, S9)) : Met l yX0_isState (Cond.code yX0_isState cX0_isState 2 (some (.boolean)) :: zx_tb) ({ frames := 1, cells := 0, slots := 0, locals := 20 }) (zx_P D a cs [.ref (a 8), .int p0] S) (zx_Qi D a cs r9 S9) 0 0 (zx_A a) := by
  refine zx_met (own := RX0) (by decide) (Nat.le_of_ble_eq_true rfl) rfl ?_
  intro p e s m below meth c ls F hr hW hS hl
  have hl : lv_has ls 2 [(0, .ref (a 8)), (1, .int p0)] := hl
  obtain ⟨⟨hx, hb, hml, hown, hts⟩, hlk, hK, hJ, hN⟩ := id F
  unfold f_X0_isState at h
  refine lv_iload_n hx hb dX0_isState_0 rfl (lv_at hl 1 rfl) ?_
  refine lv_aload_n hx hb dX0_isState_1 rfl (lv_at hl 0 rfl) ?_
  refine zx_get (C := RX0) (T := TX0) (N := 8) F hW wu_X0 (by decide) zx_E8 rfl 3 (by decide) wf_X0_25 rfl dX0_isState_2 ?_
  refine lv_icmp_lt (tgt := 29) hx hb dX0_isState_5 (by decide) (fun c1 => ?_) (fun c1 => ?_)
  · have h := g_t c1 h
    refine lv_iconst (v := 0) hx hb dX0_isState_29 (by decide) ?_
    exact zx_rz F hr (by decide) hW hS h dX0_isState_30
  · have h := g_f c1 h
    refine lv_aload_n hx hb dX0_isState_8 rfl (lv_at hl 0 rfl) ?_
    obtain ⟨r2, S3, h4, h⟩ := g_bd h
    refine zx_ci (zx_runV (q := (RX0, TX0, 8)) (As := []) (rest := []) F hW (c_X0_isByTable l D a cs   S r2 S3 h4) Y_X0_isByTable wi_X0_isByTable ws_X0_isByTable wm_X0_47 ⟨rfl, rfl, Nat.le_of_ble_eq_true rfl, Nat.le_of_ble_eq_true rfl, Nat.le_of_ble_eq_true rfl, Nat.le_of_ble_eq_true rfl⟩ (by decide) zx_E8 rfl rfl hl.1 rfl (Nat.le_of_ble_eq_true rfl) dX0_isState_9) hS (fun H locs hW hS => ?_)
    refine lv_if_eq (tgt := 25) hx hb dX0_isState_12 (by decide) (fun c5 => ?_) (fun c5 => ?_)
    · have h := g_t c5 h
      refine lv_iconst (v := 1) hx hb dX0_isState_25 (by decide) ?_
      refine lv_goto (tgt := 30) hx hb dX0_isState_26 (by decide) ?_
      exact zx_rz F hr (by decide) hW hS h dX0_isState_30
    · have h := g_f c5 h
      refine lv_iload_n hx hb dX0_isState_15 rfl (lv_at hl 1 rfl) ?_
      refine lv_iconst (v := 2) hx hb dX0_isState_16 (by decide) ?_
      refine lv_aload_n hx hb dX0_isState_17 rfl (lv_at hl 0 rfl) ?_
      refine zx_get (C := RX0) (T := TX0) (N := 8) F hW wu_X0 (by decide) zx_E8 rfl 3 (by decide) wf_X0_25 rfl dX0_isState_18 ?_
      refine lv_imul hx hb dX0_isState_21 ?_
      refine lv_icmp_ge (tgt := 29) hx hb dX0_isState_22 (by decide) (fun c6 => ?_) (fun c6 => ?_)
      · have h := g_t c6 h
        refine lv_iconst (v := 0) hx hb dX0_isState_29 (by decide) ?_
        exact zx_rz F hr (by decide) hW hS h dX0_isState_30
      · have h := g_f c6 h
        refine lv_iconst (v := 1) hx hb dX0_isState_25 (by decide) ?_
        refine lv_goto (tgt := 30) hx hb dX0_isState_26 (by decide) ?_
        exact zx_rz F hr (by decide) hW hS h dX0_isState_30
theorem Y_X5_giveRanks : zx_Y yX5_giveRanks cX5_giveRanks 4 none 0 := ⟨wc_X5_giveRanks, wn_X5, by decide, by decide, by decide +kernel⟩
set_option maxHeartbeats 4000000 in
set_option maxRecDepth 100000 in
theorem k_X5_giveRanks_L57 {l : Launch} {D : va_G} {a : Nat → Nat} {cs : zx_C} {p : Program} {e : Env} {s : State} {m : MethodId} {below : List Frame} {meth : Method} {c : Code} {fu : Nat}   (F : zx_F D a cs p m c cX5_giveRanks 4 s ([.ref (a 9)] : List Value).toArray RX5 meth) (hr : meth.sig.returnType = none) {r9 : Int32} {S9 : St} {K10 : Int32 → St → Option (Int32 × St)} (hK10 : ∀ (v1 : Int32) (S : St), K10 v1 S = some (r9, S9) → ∀ (H : Heap) (locs : List Loc) (ls : Array Slot), zx_W D a cs S H → va_S (zx_A a) s.heap H locs → lv_has ls 4 [(0, .ref (a 9)), (1, .int v1)] → W p l e ({ frames := 1, cells := 0, slots := 0, locals := 23 }) s m ([.ref (a 9)] : List Value).toArray below meth c H locs 0 0 (MQ below (zx_Qv D a cs S9) ([.ref (a 9)] : List Value).toArray s 0 0 (zx_A a)) (F0 m 10 ls []))  (v1 : Int32) (v2 : Int32) (S : St) (h : f_X5_giveRanks_L57 fu  K10  v1 v2 S = some (r9, S9)) (H : Heap) (locs : List Loc) (ls : Array Slot) (hW : zx_W D a cs S H) (hS : va_S (zx_A a) s.heap H locs) (hl : lv_has ls 4 [(0, .ref (a 9)), (1, .int v1), (2, .int v2)]) : W p l e ({ frames := 1, cells := 0, slots := 0, locals := 23 }) s m ([.ref (a 9)] : List Value).toArray below meth c H locs 0 0 (MQ below (zx_Qv D a cs S9) ([.ref (a 9)] : List Value).toArray s 0 0 (zx_A a)) (F0 m 57 ls []) := by
  obtain ⟨⟨hx, hb, hml, hown, hts⟩, hlk, hK, hJ, hN⟩ := id F
  unfold f_X5_giveRanks_L57 at h
  refine lv_aload_n hx hb dX5_giveRanks_57 rfl (lv_at hl 0 rfl) ?_
  refine zx_get (C := RX5) (T := TX5) (N := 10) F hW wu_X5 (by decide) zx_E9 rfl 0 (by decide) wf_X5_9 rfl dX5_giveRanks_58 ?_
  refine lv_iload_n hx hb dX5_giveRanks_61 rfl (lv_at hl 1 rfl) ?_
  refine lv_aload_n hx hb dX5_giveRanks_62 rfl (lv_at hl 0 rfl) ?_
  refine zx_get (C := RX5) (T := TX5) (N := 10) F hW wu_X5 (by decide) zx_E9 rfl 2 (by decide) wf_X5_18 rfl dX5_giveRanks_63 ?_
  refine lv_iload_n hx hb dX5_giveRanks_66 rfl (lv_at hl 2 rfl) ?_
  obtain ⟨c11, h⟩ := g_no h
  refine zx_iald (n := 256) F hW (by decide) zx_E12 c11 dX5_giveRanks_67 ?_
  refine lv_aload_n hx hb dX5_giveRanks_68 rfl (lv_at hl 0 rfl) ?_
  refine zx_get (C := RX5) (T := TX5) (N := 10) F hW wu_X5 (by decide) zx_E9 rfl 4 (by decide) wf_X5_24 rfl dX5_giveRanks_69 ?_
  refine lv_iload_n hx hb dX5_giveRanks_72 rfl (lv_at hl 2 rfl) ?_
  obtain ⟨c12, h⟩ := g_no h
  refine zx_iald (n := 256) F hW (by decide) zx_E14 c12 dX5_giveRanks_73 ?_
  refine lv_iadd hx hb dX5_giveRanks_74 ?_
  refine lv_bipush (v := 8) hx hb dX5_giveRanks_75 (by decide) ?_
  refine lv_ishl hx hb dX5_giveRanks_77 ?_
  refine lv_iload_n hx hb dX5_giveRanks_78 rfl (lv_at hl 2 rfl) ?_
  refine lv_ior hx hb dX5_giveRanks_79 ?_
  obtain ⟨c14, h⟩ := g_no h
  obtain ⟨S13, eS13, h⟩ := g_pin h
  refine zx_iast (n := 4096) F hW hS (by decide) (fun f => zx_E10) c14 dX5_giveRanks_80 (fun H locs hW hS => ?_)
  have hW : zx_W D a cs S13 H := by rw [eS13]; exact hW
  refine lv_aload_n hx hb dX5_giveRanks_81 rfl (lv_at hl 0 rfl) ?_
  refine zx_get (C := RX5) (T := TX5) (N := 10) F hW wu_X5 (by decide) zx_E9 rfl 4 (by decide) wf_X5_24 rfl dX5_giveRanks_82 ?_
  refine lv_iload_n hx hb dX5_giveRanks_85 rfl (lv_at hl 2 rfl) ?_
  refine lv_dup2_11 hx hb dX5_giveRanks_86 rfl rfl ?_
  obtain ⟨c15, h⟩ := g_no h
  refine zx_iald (n := 256) F hW (by decide) zx_E14 c15 dX5_giveRanks_87 ?_
  refine lv_iconst (v := 1) hx hb dX5_giveRanks_88 (by decide) ?_
  refine lv_iadd hx hb dX5_giveRanks_89 ?_
  obtain ⟨c17, h⟩ := g_no h
  obtain ⟨S16, eS16, h⟩ := g_pin h
  refine zx_iast (n := 256) F hW hS (by decide) (fun f => zx_E14) c17 dX5_giveRanks_90 (fun H locs hW hS => ?_)
  have hW : zx_W D a cs S16 H := by rw [eS16]; exact hW
  obtain ⟨x18, ex18, h⟩ := g_pin h
  refine lv_iinc (v := x18) (lv' := [(1, .int x18), (0, .ref (a 9)), (2, .int v2)]) hx hb dX5_giveRanks_91 hl (k := 1) rfl (by rw [ex18]; rfl) (by decide) rfl (fun ls hl => ?_)
  refine lv_goto (tgt := 10) hx hb dX5_giveRanks_94 (by decide) ?_
  exact hK10 x18 S16 h _ _ _ hW hS (lv_sub hl [1, 0] rfl)
set_option maxHeartbeats 4000000 in
set_option maxRecDepth 100000 in
theorem k_X5_giveRanks_L10 {l : Launch} {D : va_G} {a : Nat → Nat} {cs : zx_C} {p : Program} {e : Env} {s : State} {m : MethodId} {below : List Frame} {meth : Method} {c : Code} {fu : Nat}   (F : zx_F D a cs p m c cX5_giveRanks 4 s ([.ref (a 9)] : List Value).toArray RX5 meth) (hr : meth.sig.returnType = none) {r9 : Int32} {S9 : St}    : ∀ (n : Nat) (v1 : Int32) (S : St), f_X5_giveRanks_L10 fu    n v1 S = some (r9, S9) → ∀ (H : Heap) (locs : List Loc) (ls : Array Slot), zx_W D a cs S H → va_S (zx_A a) s.heap H locs → lv_has ls 4 [(0, .ref (a 9)), (1, .int v1)] → W p l e ({ frames := 1, cells := 0, slots := 0, locals := 23 }) s m ([.ref (a 9)] : List Value).toArray below meth c H locs 0 0 (MQ below (zx_Qv D a cs S9) ([.ref (a 9)] : List Value).toArray s 0 0 (zx_A a)) (F0 m 10 ls []) := by
  obtain ⟨⟨hx, hb, hml, hown, hts⟩, hlk, hK, hJ, hN⟩ := id F
  intro n
  induction n with
  | zero =>
    intro v1 S h
    exact absurd h (fun q => by cases q)
  | succ n ih =>
    intro v1 S h H locs ls hW hS hl
    rw [f_X5_giveRanks_L10_s] at h
    refine lv_iload_n hx hb dX5_giveRanks_10 rfl (lv_at hl 1 rfl) ?_
    refine lv_aload_n hx hb dX5_giveRanks_11 rfl (lv_at hl 0 rfl) ?_
    refine zx_get (C := RX5) (T := TX5) (N := 10) F hW wu_X5 (by decide) zx_E9 rfl 7 (by decide) wf_X5_34 rfl dX5_giveRanks_12 ?_
    refine lv_icmp_ge (tgt := 97) hx hb dX5_giveRanks_15 (by decide) (fun c4 => ?_) (fun c4 => ?_)
    · have h := g_t c4 h
      exact zx_rv F hr hW hS h dX5_giveRanks_97
    · have h := g_f c4 h
      refine lv_aload_n hx hb dX5_giveRanks_18 rfl (lv_at hl 0 rfl) ?_
      refine zx_get (C := RX5) (T := TX5) (N := 10) F hW wu_X5 (by decide) zx_E9 rfl 0 (by decide) wf_X5_9 rfl dX5_giveRanks_19 ?_
      refine lv_iload_n hx hb dX5_giveRanks_22 rfl (lv_at hl 1 rfl) ?_
      obtain ⟨c5, h⟩ := g_no h
      refine zx_iald (n := 4096) F hW (by decide) zx_E10 c5 dX5_giveRanks_23 ?_
      refine lv_sipush (v := 255) hx hb dX5_giveRanks_24 (by decide) ?_
      refine lv_iand hx hb dX5_giveRanks_27 ?_
      obtain ⟨x6, ex6, h⟩ := g_pin h
      refine zx_nm ex6 ?_
      refine lv_istore_n (lv' := [(2, .int x6), (0, .ref (a 9)), (1, .int v1)]) hx hb dX5_giveRanks_28 rfl hl (by decide) rfl (fun ls hl => ?_)
      refine lv_aload_n hx hb dX5_giveRanks_29 rfl (lv_at hl 1 rfl) ?_
      refine zx_get (C := RX5) (T := TX5) (N := 10) F hW wu_X5 (by decide) zx_E9 rfl 3 (by decide) wf_X5_21 rfl dX5_giveRanks_30 ?_
      refine lv_iload_n hx hb dX5_giveRanks_33 rfl (lv_at hl 0 rfl) ?_
      obtain ⟨c7, h⟩ := g_no h
      refine zx_iald (n := 256) F hW (by decide) zx_E13 c7 dX5_giveRanks_34 ?_
      refine lv_aload_n hx hb dX5_giveRanks_35 rfl (lv_at hl 1 rfl) ?_
      refine zx_get (C := RX5) (T := TX5) (N := 10) F hW wu_X5 (by decide) zx_E9 rfl 4 (by decide) wf_X5_24 rfl dX5_giveRanks_36 ?_
      refine lv_iload_n hx hb dX5_giveRanks_39 rfl (lv_at hl 0 rfl) ?_
      obtain ⟨c8, h⟩ := g_no h
      refine zx_iald (n := 256) F hW (by decide) zx_E14 c8 dX5_giveRanks_40 ?_
      refine lv_iadd hx hb dX5_giveRanks_41 ?_
      obtain ⟨x9, ex9, h⟩ := g_pin h
      refine zx_nm ex9 ?_
      refine lv_istore_n (lv' := [(3, .int x9), (2, .int x6), (0, .ref (a 9)), (1, .int v1)]) hx hb dX5_giveRanks_42 rfl hl (by decide) rfl (fun ls hl => ?_)
      refine lv_iload_n hx hb dX5_giveRanks_43 rfl (lv_at hl 0 rfl) ?_
      refine lv_sipush (v := 4096) hx hb dX5_giveRanks_44 (by decide) ?_
      refine lv_icmp_ge (tgt := 57) hx hb dX5_giveRanks_47 (by decide) (fun c10 => ?_) (fun c10 => ?_)
      · have h := g_t c10 h
        exact k_X5_giveRanks_L57  F hr ih  v1 x6 S h _ _ _ hW hS (lv_sub hl [2, 3, 1] rfl)
      · have h := g_f c10 h
        refine lv_aload_n hx hb dX5_giveRanks_50 rfl (lv_at hl 2 rfl) ?_
        refine zx_get (C := RX5) (T := TX5) (N := 10) F hW wu_X5 (by decide) zx_E9 rfl 1 (by decide) wf_X5_15 rfl dX5_giveRanks_51 ?_
        refine lv_iload_n hx hb dX5_giveRanks_54 rfl (lv_at hl 0 rfl) ?_
        refine lv_iload_n hx hb dX5_giveRanks_55 rfl (lv_at hl 3 rfl) ?_
        obtain ⟨c20, h⟩ := g_no h
        obtain ⟨S19, eS19, h⟩ := g_pin h
        refine zx_iast (n := 4096) F hW hS (by decide) (fun f => zx_E11) c20 dX5_giveRanks_56 (fun H locs hW hS => ?_)
        have hW : zx_W D a cs S19 H := by rw [eS19]; exact hW
        exact k_X5_giveRanks_L57  F hr ih  v1 x6 S19 h _ _ _ hW hS (lv_sub hl [2, 3, 1] rfl)
set_option maxHeartbeats 4000000 in
set_option maxRecDepth 100000 in
theorem c_X5_giveRanks (l : Launch) (D : va_G) (a : Nat → Nat) (cs : zx_C) (fu : Nat)   (S : St) (r9 : Int32) (S9 : St) (h : f_X5_giveRanks fu  S = some (r9, S9)) : Met l yX5_giveRanks (Cond.code yX5_giveRanks cX5_giveRanks 4 none :: zx_tb) ({ frames := 1, cells := 0, slots := 0, locals := 23 }) (zx_P D a cs [.ref (a 9)] S) (zx_Qv D a cs S9) 0 0 (zx_A a) := by
  refine zx_met (own := RX5) (by decide) (Nat.le_of_ble_eq_true rfl) rfl ?_
  intro p e s m below meth c ls F hr hW hS hl
  have hl : lv_has ls 4 [(0, .ref (a 9))] := hl
  obtain ⟨⟨hx, hb, hml, hown, hts⟩, hlk, hK, hJ, hN⟩ := id F
  unfold f_X5_giveRanks at h
  refine lv_aload_n hx hb dX5_giveRanks_0 rfl (lv_at hl 0 rfl) ?_
  refine zx_get (C := RX5) (T := TX5) (N := 10) F hW wu_X5 (by decide) zx_E9 rfl 4 (by decide) wf_X5_24 rfl dX5_giveRanks_1 ?_
  refine lv_iconst (v := 0) hx hb dX5_giveRanks_4 (by decide) ?_
  obtain ⟨r1, S2, h3, h⟩ := g_bd h
  refine zx_cv (zx_runS (As := [.ref (a 14), .int (0 : Int32)]) (rest := []) F hW (c_J7_fill_53178 l D a cs fu 14 (0 : Int32) (by decide) S r1 S2 h3) Y_J7_fill_53178 wt_J7_fill_53178 wm_X5_81 ⟨rfl, rfl, Nat.le_of_ble_eq_true rfl, Nat.le_of_ble_eq_true rfl, Nat.le_of_ble_eq_true rfl, Nat.le_of_ble_eq_true rfl⟩ rfl hl.1 rfl (Nat.le_of_ble_eq_true rfl) dX5_giveRanks_5) hS (fun H locs hW hS => ?_)
  refine lv_iconst (v := 0) hx hb dX5_giveRanks_8 (by decide) ?_
  refine lv_istore_n (lv' := [(1, .int (0 : Int32)), (0, .ref (a 9))]) hx hb dX5_giveRanks_9 rfl hl (by decide) rfl (fun ls hl => ?_)
  exact k_X5_giveRanks_L10  F hr   fu (0 : Int32) S2 h _ _ _ hW hS (lv_sub hl [1, 0] rfl)
theorem Y_X5_layByStep : zx_Y yX5_layByStep cX5_layByStep 5 none 1 := ⟨wc_X5_layByStep, wn_X5, by decide, by decide, by decide +kernel⟩
set_option maxHeartbeats 4000000 in
set_option maxRecDepth 100000 in
theorem k_X5_layByStep_L14 {l : Launch} {D : va_G} {a : Nat → Nat} {cs : zx_C} {p : Program} {e : Env} {s : State} {m : MethodId} {below : List Frame} {meth : Method} {c : Code} {fu : Nat} {p0 : Int32}  (F : zx_F D a cs p m c cX5_layByStep 5 s ([.ref (a 9), .int p0] : List Value).toArray RX5 meth) (hr : meth.sig.returnType = none) {r9 : Int32} {S9 : St} {K4 : Int32 → Int32 → Int32 → St → Option (Int32 × St)} (hK4 : ∀ (v1 : Int32) (v2 : Int32) (v3 : Int32) (S : St), K4 v1 v2 v3 S = some (r9, S9) → ∀ (H : Heap) (locs : List Loc) (ls : Array Slot), zx_W D a cs S H → va_S (zx_A a) s.heap H locs → lv_has ls 5 [(0, .ref (a 9)), (1, .int v1), (2, .int v2), (3, .int v3)] → W p l e ({ frames := 0, cells := 0, slots := 0, locals := 0 }) s m ([.ref (a 9), .int p0] : List Value).toArray below meth c H locs 0 0 (MQ below (zx_Qv D a cs S9) ([.ref (a 9), .int p0] : List Value).toArray s 0 0 (zx_A a)) (F0 m 4 ls []))  : ∀ (n : Nat) (v1 : Int32) (v2 : Int32) (v3 : Int32) (v4 : Int32) (S : St), f_X5_layByStep_L14 fu p0 K4  n v1 v2 v3 v4 S = some (r9, S9) → ∀ (H : Heap) (locs : List Loc) (ls : Array Slot), zx_W D a cs S H → va_S (zx_A a) s.heap H locs → lv_has ls 5 [(0, .ref (a 9)), (1, .int v1), (2, .int v2), (3, .int v3), (4, .int v4)] → W p l e ({ frames := 0, cells := 0, slots := 0, locals := 0 }) s m ([.ref (a 9), .int p0] : List Value).toArray below meth c H locs 0 0 (MQ below (zx_Qv D a cs S9) ([.ref (a 9), .int p0] : List Value).toArray s 0 0 (zx_A a)) (F0 m 14 ls []) := by
  obtain ⟨⟨hx, hb, hml, hown, hts⟩, hlk, hK, hJ, hN⟩ := id F
  intro n
  induction n with
  | zero =>
    intro v1 v2 v3 v4 S h
    exact absurd h (fun q => by cases q)
  | succ n ih =>
    intro v1 v2 v3 v4 S h H locs ls hW hS hl
    rw [f_X5_layByStep_L14_s] at h
    refine lv_iload hx hb dX5_layByStep_14 (lv_at hl 4 rfl) ?_
    refine lv_aload_n hx hb dX5_layByStep_16 rfl (lv_at hl 0 rfl) ?_
    refine zx_get (C := RX5) (T := TX5) (N := 10) F hW wu_X5 (by decide) zx_E9 rfl 2 (by decide) wf_X5_18 rfl dX5_layByStep_17 ?_
    refine lv_iload_n hx hb dX5_layByStep_20 rfl (lv_at hl 3 rfl) ?_
    obtain ⟨c2, h⟩ := g_no h
    refine zx_iald (n := 256) F hW (by decide) zx_E12 c2 dX5_layByStep_21 ?_
    refine lv_icmp_ge (tgt := 49) hx hb dX5_layByStep_22 (by decide) (fun c3 => ?_) (fun c3 => ?_)
    · have h := g_t c3 h
      obtain ⟨x4, ex4, h⟩ := g_pin h
      refine lv_iinc (v := x4) (lv' := [(3, .int x4), (0, .ref (a 9)), (1, .int v1), (2, .int v2), (4, .int v4)]) hx hb dX5_layByStep_49 hl (k := 3) rfl (by rw [ex4]; rfl) (by decide) rfl (fun ls hl => ?_)
      refine lv_goto (tgt := 4) hx hb dX5_layByStep_52 (by decide) ?_
      exact hK4 v1 v2 x4 S h _ _ _ hW hS (lv_sub hl [1, 2, 3, 0] rfl)
    · have h := g_f c3 h
      refine lv_aload_n hx hb dX5_layByStep_25 rfl (lv_at hl 0 rfl) ?_
      refine zx_get (C := RX5) (T := TX5) (N := 10) F hW wu_X5 (by decide) zx_E9 rfl 0 (by decide) wf_X5_9 rfl dX5_layByStep_26 ?_
      refine lv_iload_n hx hb dX5_layByStep_29 rfl (lv_at hl 2 rfl) ?_
      refine lv_iload_n hx hb dX5_layByStep_30 rfl (lv_at hl 3 rfl) ?_
      obtain ⟨c6, h⟩ := g_no h
      obtain ⟨S5, eS5, h⟩ := g_pin h
      refine zx_iast (n := 4096) F hW hS (by decide) (fun f => zx_E10) c6 dX5_layByStep_31 (fun H locs hW hS => ?_)
      have hW : zx_W D a cs S5 H := by rw [eS5]; exact hW
      refine lv_iload_n hx hb dX5_layByStep_32 rfl (lv_at hl 2 rfl) ?_
      refine lv_iload_n hx hb dX5_layByStep_33 rfl (lv_at hl 1 rfl) ?_
      refine lv_iadd hx hb dX5_layByStep_34 ?_
      refine lv_aload_n hx hb dX5_layByStep_35 rfl (lv_at hl 0 rfl) ?_
      refine zx_get (C := RX5) (T := TX5) (N := 10) F hW wu_X5 (by decide) zx_E9 rfl 7 (by decide) wf_X5_34 rfl dX5_layByStep_36 ?_
      refine lv_iconst (v := 1) hx hb dX5_layByStep_39 (by decide) ?_
      refine lv_isub hx hb dX5_layByStep_40 ?_
      refine lv_iand hx hb dX5_layByStep_41 ?_
      obtain ⟨x7, ex7, h⟩ := g_pin h
      refine zx_nm ex7 ?_
      refine lv_istore_n (lv' := [(2, .int x7), (0, .ref (a 9)), (1, .int v1), (3, .int v3), (4, .int v4)]) hx hb dX5_layByStep_42 rfl hl (by decide) rfl (fun ls hl => ?_)
      obtain ⟨x8, ex8, h⟩ := g_pin h
      refine lv_iinc (v := x8) (lv' := [(4, .int x8), (2, .int x7), (0, .ref (a 9)), (1, .int v1), (3, .int v3)]) hx hb dX5_layByStep_43 hl (k := 4) rfl (by rw [ex8]; rfl) (by decide) rfl (fun ls hl => ?_)
      refine lv_goto (tgt := 14) hx hb dX5_layByStep_46 (by decide) ?_
      exact ih v1 x7 v3 x8 S5 h _ _ _ hW hS (lv_sub hl [2, 3, 1, 4, 0] rfl)
set_option maxHeartbeats 4000000 in
set_option maxRecDepth 100000 in
theorem k_X5_layByStep_L4 {l : Launch} {D : va_G} {a : Nat → Nat} {cs : zx_C} {p : Program} {e : Env} {s : State} {m : MethodId} {below : List Frame} {meth : Method} {c : Code} {fu : Nat} {p0 : Int32}  (F : zx_F D a cs p m c cX5_layByStep 5 s ([.ref (a 9), .int p0] : List Value).toArray RX5 meth) (hr : meth.sig.returnType = none) {r9 : Int32} {S9 : St}    : ∀ (n : Nat) (v1 : Int32) (v2 : Int32) (v3 : Int32) (S : St), f_X5_layByStep_L4 fu p0   n v1 v2 v3 S = some (r9, S9) → ∀ (H : Heap) (locs : List Loc) (ls : Array Slot), zx_W D a cs S H → va_S (zx_A a) s.heap H locs → lv_has ls 5 [(0, .ref (a 9)), (1, .int v1), (2, .int v2), (3, .int v3)] → W p l e ({ frames := 0, cells := 0, slots := 0, locals := 0 }) s m ([.ref (a 9), .int p0] : List Value).toArray below meth c H locs 0 0 (MQ below (zx_Qv D a cs S9) ([.ref (a 9), .int p0] : List Value).toArray s 0 0 (zx_A a)) (F0 m 4 ls []) := by
  obtain ⟨⟨hx, hb, hml, hown, hts⟩, hlk, hK, hJ, hN⟩ := id F
  intro n
  induction n with
  | zero =>
    intro v1 v2 v3 S h
    exact absurd h (fun q => by cases q)
  | succ n ih =>
    intro v1 v2 v3 S h H locs ls hW hS hl
    rw [f_X5_layByStep_L4_s] at h
    refine lv_iload_n hx hb dX5_layByStep_4 rfl (lv_at hl 3 rfl) ?_
    refine lv_sipush (v := 256) hx hb dX5_layByStep_5 (by decide) ?_
    refine lv_icmp_ge (tgt := 55) hx hb dX5_layByStep_8 (by decide) (fun c1 => ?_) (fun c1 => ?_)
    · have h := g_t c1 h
      exact zx_rv F hr hW hS h dX5_layByStep_55
    · have h := g_f c1 h
      refine lv_iconst (v := 0) hx hb dX5_layByStep_11 (by decide) ?_
      refine lv_istore (lv' := [(4, .int (0 : Int32)), (0, .ref (a 9)), (1, .int v1), (2, .int v2), (3, .int v3)]) hx hb dX5_layByStep_12 hl (by decide) rfl (fun ls hl => ?_)
      exact k_X5_layByStep_L14  F hr ih  fu v1 v2 v3 (0 : Int32) S h _ _ _ hW hS (lv_sub hl [1, 2, 3, 4, 0] rfl)
set_option maxHeartbeats 4000000 in
set_option maxRecDepth 100000 in
theorem c_X5_layByStep (l : Launch) (D : va_G) (a : Nat → Nat) (cs : zx_C) (fu : Nat) (p0 : Int32)  (S : St) (r9 : Int32) (S9 : St) (h : f_X5_layByStep fu p0 S = some (r9, S9)) : Met l yX5_layByStep (Cond.code yX5_layByStep cX5_layByStep 5 none :: zx_tb) ({ frames := 0, cells := 0, slots := 0, locals := 0 }) (zx_P D a cs [.ref (a 9), .int p0] S) (zx_Qv D a cs S9) 0 0 (zx_A a) := by
  refine zx_met (own := RX5) (by decide) (Nat.le_of_ble_eq_true rfl) rfl ?_
  intro p e s m below meth c ls F hr hW hS hl
  have hl : lv_has ls 5 [(0, .ref (a 9)), (1, .int p0)] := hl
  obtain ⟨⟨hx, hb, hml, hown, hts⟩, hlk, hK, hJ, hN⟩ := id F
  unfold f_X5_layByStep at h
  refine lv_iconst (v := 0) hx hb dX5_layByStep_0 (by decide) ?_
  refine lv_istore_n (lv' := [(2, .int (0 : Int32)), (0, .ref (a 9)), (1, .int p0)]) hx hb dX5_layByStep_1 rfl hl (by decide) rfl (fun ls hl => ?_)
  refine lv_iconst (v := 0) hx hb dX5_layByStep_2 (by decide) ?_
  refine lv_istore_n (lv' := [(3, .int (0 : Int32)), (2, .int (0 : Int32)), (0, .ref (a 9)), (1, .int p0)]) hx hb dX5_layByStep_3 rfl hl (by decide) rfl (fun ls hl => ?_)
  exact k_X5_layByStep_L4  F hr   fu p0 (0 : Int32) (0 : Int32) S h _ _ _ hW hS (lv_sub hl [2, 3, 1, 0] rfl)
theorem Y_X5_isAhead : zx_Y yX5_isAhead cX5_isAhead 5 (some (.boolean)) 2 := ⟨wc_X5_isAhead, wn_X5, by decide, by decide, by decide +kernel⟩
set_option maxHeartbeats 4000000 in
set_option maxRecDepth 100000 in
theorem c_X5_isAhead (l : Launch) (D : va_G) (a : Nat → Nat) (cs : zx_C) (p0 : Int32) (p1 : Int32)  (S : St) (r9 : Int32) (S9 : St) (h : f_X5_isAhead p0 p1 S = some (r9, S9)) : Met l yX5_isAhead (Cond.code yX5_isAhead cX5_isAhead 5 (some (.boolean)) :: zx_tb) ({ frames := 0, cells := 0, slots := 0, locals := 0 }) (zx_P D a cs [.ref (a 9), .int p0, .int p1] S) (zx_Qi D a cs r9 S9) 0 0 (zx_A a) := by
  refine zx_met (own := RX5) (by decide) (Nat.le_of_ble_eq_true rfl) rfl ?_
  intro p e s m below meth c ls F hr hW hS hl
  have hl : lv_has ls 5 [(0, .ref (a 9)), (1, .int p0), (2, .int p1)] := hl
  obtain ⟨⟨hx, hb, hml, hown, hts⟩, hlk, hK, hJ, hN⟩ := id F
  unfold f_X5_isAhead at h
  refine lv_iconst (v := 2) hx hb dX5_isAhead_0 (by decide) ?_
  refine lv_aload_n hx hb dX5_isAhead_1 rfl (lv_at hl 0 rfl) ?_
  refine zx_get (C := RX5) (T := TX5) (N := 10) F hW wu_X5 (by decide) zx_E9 rfl 4 (by decide) wf_X5_24 rfl dX5_isAhead_2 ?_
  refine lv_iload_n hx hb dX5_isAhead_5 rfl (lv_at hl 1 rfl) ?_
  obtain ⟨c1, h⟩ := g_no h
  refine zx_iald (n := 256) F hW (by decide) zx_E14 c1 dX5_isAhead_6 ?_
  refine lv_imul hx hb dX5_isAhead_7 ?_
  refine lv_iconst (v := 1) hx hb dX5_isAhead_8 (by decide) ?_
  refine lv_iadd hx hb dX5_isAhead_9 ?_
  refine lv_aload_n hx hb dX5_isAhead_10 rfl (lv_at hl 0 rfl) ?_
  refine zx_get (C := RX5) (T := TX5) (N := 10) F hW wu_X5 (by decide) zx_E9 rfl 2 (by decide) wf_X5_18 rfl dX5_isAhead_11 ?_
  refine lv_iload_n hx hb dX5_isAhead_14 rfl (lv_at hl 2 rfl) ?_
  obtain ⟨c2, h⟩ := g_no h
  refine zx_iald (n := 256) F hW (by decide) zx_E12 c2 dX5_isAhead_15 ?_
  refine lv_imul hx hb dX5_isAhead_16 ?_
  obtain ⟨x3, ex3, h⟩ := g_pin h
  refine zx_nm ex3 ?_
  refine lv_istore_n (lv' := [(3, .int x3), (0, .ref (a 9)), (1, .int p0), (2, .int p1)]) hx hb dX5_isAhead_17 rfl hl (by decide) rfl (fun ls hl => ?_)
  refine lv_iconst (v := 2) hx hb dX5_isAhead_18 (by decide) ?_
  refine lv_aload_n hx hb dX5_isAhead_19 rfl (lv_at hl 1 rfl) ?_
  refine zx_get (C := RX5) (T := TX5) (N := 10) F hW wu_X5 (by decide) zx_E9 rfl 4 (by decide) wf_X5_24 rfl dX5_isAhead_20 ?_
  refine lv_iload_n hx hb dX5_isAhead_23 rfl (lv_at hl 3 rfl) ?_
  obtain ⟨c4, h⟩ := g_no h
  refine zx_iald (n := 256) F hW (by decide) zx_E14 c4 dX5_isAhead_24 ?_
  refine lv_imul hx hb dX5_isAhead_25 ?_
  refine lv_iconst (v := 1) hx hb dX5_isAhead_26 (by decide) ?_
  refine lv_iadd hx hb dX5_isAhead_27 ?_
  refine lv_aload_n hx hb dX5_isAhead_28 rfl (lv_at hl 1 rfl) ?_
  refine zx_get (C := RX5) (T := TX5) (N := 10) F hW wu_X5 (by decide) zx_E9 rfl 2 (by decide) wf_X5_18 rfl dX5_isAhead_29 ?_
  refine lv_iload_n hx hb dX5_isAhead_32 rfl (lv_at hl 2 rfl) ?_
  obtain ⟨c5, h⟩ := g_no h
  refine zx_iald (n := 256) F hW (by decide) zx_E12 c5 dX5_isAhead_33 ?_
  refine lv_imul hx hb dX5_isAhead_34 ?_
  obtain ⟨x6, ex6, h⟩ := g_pin h
  refine zx_nm ex6 ?_
  refine lv_istore (lv' := [(4, .int x6), (3, .int x3), (0, .ref (a 9)), (1, .int p0), (2, .int p1)]) hx hb dX5_isAhead_35 hl (by decide) rfl (fun ls hl => ?_)
  refine lv_iload_n hx hb dX5_isAhead_37 rfl (lv_at hl 1 rfl) ?_
  refine lv_iload hx hb dX5_isAhead_38 (lv_at hl 0 rfl) ?_
  refine lv_icmp_lt (tgt := 54) hx hb dX5_isAhead_40 (by decide) (fun c7 => ?_) (fun c7 => ?_)
  · have h := g_t c7 h
    refine lv_iconst (v := 1) hx hb dX5_isAhead_54 (by decide) ?_
    refine lv_goto (tgt := 59) hx hb dX5_isAhead_55 (by decide) ?_
    exact zx_rz F hr (by decide) hW hS h dX5_isAhead_59
  · have h := g_f c7 h
    refine lv_iload_n hx hb dX5_isAhead_43 rfl (lv_at hl 1 rfl) ?_
    refine lv_iload hx hb dX5_isAhead_44 (lv_at hl 0 rfl) ?_
    refine lv_icmp_ne (tgt := 58) hx hb dX5_isAhead_46 (by decide) (fun c8 => ?_) (fun c8 => ?_)
    · have h := g_f c8 h
      refine lv_iconst (v := 0) hx hb dX5_isAhead_58 (by decide) ?_
      exact zx_rz F hr (by decide) hW hS h dX5_isAhead_59
    · have h := g_t c8 h
      refine lv_iload_n hx hb dX5_isAhead_49 rfl (lv_at hl 3 rfl) ?_
      refine lv_iload_n hx hb dX5_isAhead_50 rfl (lv_at hl 4 rfl) ?_
      refine lv_icmp_ge (tgt := 58) hx hb dX5_isAhead_51 (by decide) (fun c9 => ?_) (fun c9 => ?_)
      · have h := g_t c9 h
        refine lv_iconst (v := 0) hx hb dX5_isAhead_58 (by decide) ?_
        exact zx_rz F hr (by decide) hW hS h dX5_isAhead_59
      · have h := g_f c9 h
        refine lv_iconst (v := 1) hx hb dX5_isAhead_54 (by decide) ?_
        refine lv_goto (tgt := 59) hx hb dX5_isAhead_55 (by decide) ?_
        exact zx_rz F hr (by decide) hW hS h dX5_isAhead_59
theorem Y_X5_sink : zx_Y yX5_sink cX5_sink 6 none 1 := ⟨wc_X5_sink, wn_X5, by decide, by decide, by decide +kernel⟩
set_option maxHeartbeats 4000000 in
set_option maxRecDepth 100000 in
theorem k_X5_sink_L66 {l : Launch} {D : va_G} {a : Nat → Nat} {cs : zx_C} {p : Program} {e : Env} {s : State} {m : MethodId} {below : List Frame} {meth : Method} {c : Code} {fu : Nat} {p0 : Int32}  (F : zx_F D a cs p m c cX5_sink 6 s ([.ref (a 9), .int p0] : List Value).toArray RX5 meth) (hr : meth.sig.returnType = none) {r9 : Int32} {S9 : St} {K4 : Int32 → Int32 → St → Option (Int32 × St)} (hK4 : ∀ (v2 : Int32) (v3 : Int32) (S : St), K4 v2 v3 S = some (r9, S9) → ∀ (H : Heap) (locs : List Loc) (ls : Array Slot), zx_W D a cs S H → va_S (zx_A a) s.heap H locs → lv_has ls 6 [(0, .ref (a 9)), (2, .int v2), (3, .int v3)] → W p l e ({ frames := 1, cells := 0, slots := 0, locals := 24 }) s m ([.ref (a 9), .int p0] : List Value).toArray below meth c H locs 0 0 (MQ below (zx_Qv D a cs S9) ([.ref (a 9), .int p0] : List Value).toArray s 0 0 (zx_A a)) (F0 m 4 ls []))  (v2 : Int32) (v3 : Int32) (v4 : Int32) (S : St) (h : f_X5_sink_L66 fu p0 K4  v2 v3 v4 S = some (r9, S9)) (H : Heap) (locs : List Loc) (ls : Array Slot) (hW : zx_W D a cs S H) (hS : va_S (zx_A a) s.heap H locs) (hl : lv_has ls 6 [(0, .ref (a 9)), (2, .int v2), (3, .int v3), (4, .int v4)]) : W p l e ({ frames := 1, cells := 0, slots := 0, locals := 24 }) s m ([.ref (a 9), .int p0] : List Value).toArray below meth c H locs 0 0 (MQ below (zx_Qv D a cs S9) ([.ref (a 9), .int p0] : List Value).toArray s 0 0 (zx_A a)) (F0 m 66 ls []) := by
  obtain ⟨⟨hx, hb, hml, hown, hts⟩, hlk, hK, hJ, hN⟩ := id F
  unfold f_X5_sink_L66 at h
  refine lv_aload_n hx hb dX5_sink_66 rfl (lv_at hl 0 rfl) ?_
  refine lv_aload_n hx hb dX5_sink_67 rfl (lv_at hl 0 rfl) ?_
  refine zx_get (C := RX5) (T := TX5) (N := 10) F hW wu_X5 (by decide) zx_E9 rfl 5 (by decide) wf_X5_27 rfl dX5_sink_68 ?_
  refine lv_iload hx hb dX5_sink_71 (lv_at hl 3 rfl) ?_
  obtain ⟨c5, h⟩ := g_no h
  refine zx_iald (n := 256) F hW (by decide) zx_E15 c5 dX5_sink_73 ?_
  refine lv_aload_n hx hb dX5_sink_74 rfl (lv_at hl 0 rfl) ?_
  refine zx_get (C := RX5) (T := TX5) (N := 10) F hW wu_X5 (by decide) zx_E9 rfl 5 (by decide) wf_X5_27 rfl dX5_sink_75 ?_
  refine lv_iload_n hx hb dX5_sink_78 rfl (lv_at hl 1 rfl) ?_
  obtain ⟨c6, h⟩ := g_no h
  refine zx_iald (n := 256) F hW (by decide) zx_E15 c6 dX5_sink_79 ?_
  obtain ⟨r7, S8, h9, h⟩ := g_bd h
  refine zx_ci (zx_runV (q := (RX5, TX5, 10)) (As := [.int (S 15 v4.toNatClampNeg), .int (S 15 v2.toNatClampNeg)]) (rest := []) F hW (c_X5_isAhead l D a cs (S 15 v4.toNatClampNeg) (S 15 v2.toNatClampNeg)  S r7 S8 h9) Y_X5_isAhead wi_X5_isAhead ws_X5_isAhead wm_X5_90 ⟨rfl, rfl, Nat.le_of_ble_eq_true rfl, Nat.le_of_ble_eq_true rfl, Nat.le_of_ble_eq_true rfl, Nat.le_of_ble_eq_true rfl⟩ (by decide) zx_E9 rfl rfl hl.1 rfl (Nat.le_of_ble_eq_true rfl) dX5_sink_80) hS (fun H locs hW hS => ?_)
  refine lv_if_ne (tgt := 87) hx hb dX5_sink_83 (by decide) (fun c10 => ?_) (fun c10 => ?_)
  · have h := g_f c10 h
    refine lv_aload_n hx hb dX5_sink_87 rfl (lv_at hl 0 rfl) ?_
    refine zx_get (C := RX5) (T := TX5) (N := 10) F hW wu_X5 (by decide) zx_E9 rfl 5 (by decide) wf_X5_27 rfl dX5_sink_88 ?_
    refine lv_iload_n hx hb dX5_sink_91 rfl (lv_at hl 1 rfl) ?_
    obtain ⟨c11, h⟩ := g_no h
    refine zx_iald (n := 256) F hW (by decide) zx_E15 c11 dX5_sink_92 ?_
    obtain ⟨x12, ex12, h⟩ := g_pin h
    refine zx_nm ex12 ?_
    refine lv_istore (lv' := [(5, .int x12), (0, .ref (a 9)), (2, .int v2), (3, .int v3), (4, .int v4)]) hx hb dX5_sink_93 hl (by decide) rfl (fun ls hl => ?_)
    refine lv_aload_n hx hb dX5_sink_95 rfl (lv_at hl 1 rfl) ?_
    refine zx_get (C := RX5) (T := TX5) (N := 10) F hW wu_X5 (by decide) zx_E9 rfl 5 (by decide) wf_X5_27 rfl dX5_sink_96 ?_
    refine lv_iload_n hx hb dX5_sink_99 rfl (lv_at hl 2 rfl) ?_
    refine lv_aload_n hx hb dX5_sink_100 rfl (lv_at hl 1 rfl) ?_
    refine zx_get (C := RX5) (T := TX5) (N := 10) F hW wu_X5 (by decide) zx_E9 rfl 5 (by decide) wf_X5_27 rfl dX5_sink_101 ?_
    refine lv_iload hx hb dX5_sink_104 (lv_at hl 4 rfl) ?_
    obtain ⟨c13, h⟩ := g_no h
    refine zx_iald (n := 256) F hW (by decide) zx_E15 c13 dX5_sink_106 ?_
    obtain ⟨c15, h⟩ := g_no h
    obtain ⟨S14, eS14, h⟩ := g_pin h
    refine zx_iast (n := 256) F hW hS (by decide) (fun f => zx_E15) c15 dX5_sink_107 (fun H locs hW hS => ?_)
    have hW : zx_W D a cs S14 H := by rw [eS14]; exact hW
    refine lv_aload_n hx hb dX5_sink_108 rfl (lv_at hl 1 rfl) ?_
    refine zx_get (C := RX5) (T := TX5) (N := 10) F hW wu_X5 (by decide) zx_E9 rfl 5 (by decide) wf_X5_27 rfl dX5_sink_109 ?_
    refine lv_iload hx hb dX5_sink_112 (lv_at hl 4 rfl) ?_
    refine lv_iload hx hb dX5_sink_114 (lv_at hl 0 rfl) ?_
    obtain ⟨c17, h⟩ := g_no h
    obtain ⟨S16, eS16, h⟩ := g_pin h
    refine zx_iast (n := 256) F hW hS (by decide) (fun f => zx_E15) c17 dX5_sink_116 (fun H locs hW hS => ?_)
    have hW : zx_W D a cs S16 H := by rw [eS16]; exact hW
    refine lv_iload hx hb dX5_sink_117 (lv_at hl 4 rfl) ?_
    refine lv_istore_n (lv' := [(2, .int v4), (5, .int x12), (0, .ref (a 9)), (3, .int v3), (4, .int v4)]) hx hb dX5_sink_119 rfl hl (by decide) rfl (fun ls hl => ?_)
    obtain ⟨x18, ex18, h⟩ := g_pin h
    refine lv_iinc (v := x18) (lv' := [(3, .int x18), (2, .int v4), (5, .int x12), (0, .ref (a 9)), (4, .int v4)]) hx hb dX5_sink_120 hl (k := 3) rfl (by rw [ex18]; rfl) (by decide) rfl (fun ls hl => ?_)
    refine lv_goto (tgt := 4) hx hb dX5_sink_123 (by decide) ?_
    exact hK4 v4 x18 S16 h _ _ _ hW hS (lv_sub hl [3, 1, 0] rfl)
  · have h := g_t c10 h
    exact zx_rv F hr hW hS h dX5_sink_86
set_option maxHeartbeats 4000000 in
set_option maxRecDepth 100000 in
theorem k_X5_sink_L4 {l : Launch} {D : va_G} {a : Nat → Nat} {cs : zx_C} {p : Program} {e : Env} {s : State} {m : MethodId} {below : List Frame} {meth : Method} {c : Code} {fu : Nat} {p0 : Int32}  (F : zx_F D a cs p m c cX5_sink 6 s ([.ref (a 9), .int p0] : List Value).toArray RX5 meth) (hr : meth.sig.returnType = none) {r9 : Int32} {S9 : St}    : ∀ (n : Nat) (v2 : Int32) (v3 : Int32) (S : St), f_X5_sink_L4 fu p0   n v2 v3 S = some (r9, S9) → ∀ (H : Heap) (locs : List Loc) (ls : Array Slot), zx_W D a cs S H → va_S (zx_A a) s.heap H locs → lv_has ls 6 [(0, .ref (a 9)), (2, .int v2), (3, .int v3)] → W p l e ({ frames := 1, cells := 0, slots := 0, locals := 24 }) s m ([.ref (a 9), .int p0] : List Value).toArray below meth c H locs 0 0 (MQ below (zx_Qv D a cs S9) ([.ref (a 9), .int p0] : List Value).toArray s 0 0 (zx_A a)) (F0 m 4 ls []) := by
  obtain ⟨⟨hx, hb, hml, hown, hts⟩, hlk, hK, hJ, hN⟩ := id F
  intro n
  induction n with
  | zero =>
    intro v2 v3 S h
    exact absurd h (fun q => by cases q)
  | succ n ih =>
    intro v2 v3 S h H locs ls hW hS hl
    rw [f_X5_sink_L4_s] at h
    refine lv_iload_n hx hb dX5_sink_4 rfl (lv_at hl 2 rfl) ?_
    refine lv_bipush (v := 8) hx hb dX5_sink_5 (by decide) ?_
    refine lv_icmp_ge (tgt := 126) hx hb dX5_sink_7 (by decide) (fun c1 => ?_) (fun c1 => ?_)
    · have h := g_t c1 h
      exact zx_rv F hr hW hS h dX5_sink_126
    · have h := g_f c1 h
      refine lv_iconst (v := 2) hx hb dX5_sink_10 (by decide) ?_
      refine lv_iload_n hx hb dX5_sink_11 rfl (lv_at hl 1 rfl) ?_
      refine lv_imul hx hb dX5_sink_12 ?_
      refine lv_iconst (v := 1) hx hb dX5_sink_13 (by decide) ?_
      refine lv_iadd hx hb dX5_sink_14 ?_
      refine lv_aload_n hx hb dX5_sink_15 rfl (lv_at hl 0 rfl) ?_
      refine zx_get (C := RX5) (T := TX5) (N := 10) F hW wu_X5 (by decide) zx_E9 rfl 6 (by decide) wf_X5_30 rfl dX5_sink_16 ?_
      refine lv_icmp_ge (tgt := 126) hx hb dX5_sink_19 (by decide) (fun c2 => ?_) (fun c2 => ?_)
      · have h := g_t c2 h
        exact zx_rv F hr hW hS h dX5_sink_126
      · have h := g_f c2 h
        refine lv_iconst (v := 2) hx hb dX5_sink_22 (by decide) ?_
        refine lv_iload_n hx hb dX5_sink_23 rfl (lv_at hl 1 rfl) ?_
        refine lv_imul hx hb dX5_sink_24 ?_
        refine lv_iconst (v := 1) hx hb dX5_sink_25 (by decide) ?_
        refine lv_iadd hx hb dX5_sink_26 ?_
        obtain ⟨x3, ex3, h⟩ := g_pin h
        refine zx_nm ex3 ?_
        refine lv_istore (lv' := [(4, .int x3), (0, .ref (a 9)), (2, .int v2), (3, .int v3)]) hx hb dX5_sink_27 hl (by decide) rfl (fun ls hl => ?_)
        refine lv_iload hx hb dX5_sink_29 (lv_at hl 0 rfl) ?_
        refine lv_iconst (v := 1) hx hb dX5_sink_31 (by decide) ?_
        refine lv_iadd hx hb dX5_sink_32 ?_
        refine lv_aload_n hx hb dX5_sink_33 rfl (lv_at hl 1 rfl) ?_
        refine zx_get (C := RX5) (T := TX5) (N := 10) F hW wu_X5 (by decide) zx_E9 rfl 6 (by decide) wf_X5_30 rfl dX5_sink_34 ?_
        refine lv_icmp_ge (tgt := 66) hx hb dX5_sink_37 (by decide) (fun c4 => ?_) (fun c4 => ?_)
        · have h := g_t c4 h
          exact k_X5_sink_L66  F hr ih  v2 v3 x3 S h _ _ _ hW hS (lv_sub hl [1, 2, 3, 0] rfl)
        · have h := g_f c4 h
          refine lv_aload_n hx hb dX5_sink_40 rfl (lv_at hl 1 rfl) ?_
          refine lv_aload_n hx hb dX5_sink_41 rfl (lv_at hl 1 rfl) ?_
          refine zx_get (C := RX5) (T := TX5) (N := 10) F hW wu_X5 (by decide) zx_E9 rfl 5 (by decide) wf_X5_27 rfl dX5_sink_42 ?_
          refine lv_iload hx hb dX5_sink_45 (lv_at hl 0 rfl) ?_
          refine lv_iconst (v := 1) hx hb dX5_sink_47 (by decide) ?_
          refine lv_iadd hx hb dX5_sink_48 ?_
          obtain ⟨c19, h⟩ := g_no h
          refine zx_iald (n := 256) F hW (by decide) zx_E15 c19 dX5_sink_49 ?_
          refine lv_aload_n hx hb dX5_sink_50 rfl (lv_at hl 1 rfl) ?_
          refine zx_get (C := RX5) (T := TX5) (N := 10) F hW wu_X5 (by decide) zx_E9 rfl 5 (by decide) wf_X5_27 rfl dX5_sink_51 ?_
          refine lv_iload hx hb dX5_sink_54 (lv_at hl 0 rfl) ?_
          obtain ⟨c20, h⟩ := g_no h
          refine zx_iald (n := 256) F hW (by decide) zx_E15 c20 dX5_sink_56 ?_
          obtain ⟨r21, S22, h23, h⟩ := g_bd h
          refine zx_ci (zx_runV (q := (RX5, TX5, 10)) (As := [.int (S 15 (x3 + (1 : Int32)).toNatClampNeg), .int (S 15 x3.toNatClampNeg)]) (rest := []) F hW (c_X5_isAhead l D a cs (S 15 (x3 + (1 : Int32)).toNatClampNeg) (S 15 x3.toNatClampNeg)  S r21 S22 h23) Y_X5_isAhead wi_X5_isAhead ws_X5_isAhead wm_X5_90 ⟨rfl, rfl, Nat.le_of_ble_eq_true rfl, Nat.le_of_ble_eq_true rfl, Nat.le_of_ble_eq_true rfl, Nat.le_of_ble_eq_true rfl⟩ (by decide) zx_E9 rfl rfl hl.1 rfl (Nat.le_of_ble_eq_true rfl) dX5_sink_57) hS (fun H locs hW hS => ?_)
          refine lv_if_eq (tgt := 66) hx hb dX5_sink_60 (by decide) (fun c24 => ?_) (fun c24 => ?_)
          · have h := g_t c24 h
            exact k_X5_sink_L66  F hr ih  v2 v3 x3 S22 h _ _ _ hW hS (lv_sub hl [1, 2, 3, 0] rfl)
          · have h := g_f c24 h
            obtain ⟨x25, ex25, h⟩ := g_pin h
            refine lv_iinc (v := x25) (lv' := [(4, .int x25), (0, .ref (a 9)), (2, .int v2), (3, .int v3)]) hx hb dX5_sink_63 hl (k := 0) rfl (by rw [ex25]; rfl) (by decide) rfl (fun ls hl => ?_)
            exact k_X5_sink_L66  F hr ih  v2 v3 x25 S22 h _ _ _ hW hS (lv_sub hl [1, 2, 3, 0] rfl)
set_option maxHeartbeats 4000000 in
set_option maxRecDepth 100000 in
theorem c_X5_sink (l : Launch) (D : va_G) (a : Nat → Nat) (cs : zx_C) (fu : Nat) (p0 : Int32)  (S : St) (r9 : Int32) (S9 : St) (h : f_X5_sink fu p0 S = some (r9, S9)) : Met l yX5_sink (Cond.code yX5_sink cX5_sink 6 none :: zx_tb) ({ frames := 1, cells := 0, slots := 0, locals := 24 }) (zx_P D a cs [.ref (a 9), .int p0] S) (zx_Qv D a cs S9) 0 0 (zx_A a) := by
  refine zx_met (own := RX5) (by decide) (Nat.le_of_ble_eq_true rfl) rfl ?_
  intro p e s m below meth c ls F hr hW hS hl
  have hl : lv_has ls 6 [(0, .ref (a 9)), (1, .int p0)] := hl
  obtain ⟨⟨hx, hb, hml, hown, hts⟩, hlk, hK, hJ, hN⟩ := id F
  unfold f_X5_sink at h
  refine lv_iload_n hx hb dX5_sink_0 rfl (lv_at hl 1 rfl) ?_
  refine lv_istore_n (lv' := [(2, .int p0), (0, .ref (a 9)), (1, .int p0)]) hx hb dX5_sink_1 rfl hl (by decide) rfl (fun ls hl => ?_)
  refine lv_iconst (v := 0) hx hb dX5_sink_2 (by decide) ?_
  refine lv_istore_n (lv' := [(3, .int (0 : Int32)), (2, .int p0), (0, .ref (a 9)), (1, .int p0)]) hx hb dX5_sink_3 rfl hl (by decide) rfl (fun ls hl => ?_)
  exact k_X5_sink_L4  F hr   fu p0 (0 : Int32) S h _ _ _ hW hS (lv_sub hl [2, 1, 0] rfl)
