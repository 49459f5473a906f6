theorem Y_X9_put : zx_Y yX9_put cX9_put 4 none 2 := ⟨wc_X9_put, wn_X9, by decide, by decide, by decide +kernel⟩
set_option maxHeartbeats 4000000 in
set_option maxRecDepth 100000 in
theorem k_X9_put_L4 {l : Launch} {D : va_G} {a : Nat → Nat} {cs : zx_C} {p : Program} {e : Env} {s : State} {m : MethodId} {below : List Frame} {meth : Method} {c : Code} {fu : Nat} {p0 : Int32} {p1 : Int32}  (F : zx_F D a cs p m c cX9_put 4 s ([.ref (a 43), .int p0, .int p1] : List Value).toArray RX9 meth) (hr : meth.sig.returnType = none) {r9 : Int32} {S9 : St}    : ∀ (n : Nat) (v1 : Int32) (v3 : Int32) (S : St), f_X9_put_L4 fu p0 p1   n v1 v3 S = some (r9, S9) → ∀ (H : Heap) (locs : List Loc) (ls : Array Slot), zx_W D a cs S H → va_S (zx_A a) s.heap H locs → lv_has ls 4 [(0, .ref (a 43)), (1, .int v1), (3, .int v3)] → W p l e ({ frames := 0, cells := 0, slots := 0, locals := 0 }) s m ([.ref (a 43), .int p0, .int p1] : List Value).toArray below meth c H locs 0 0 (MQ below (zx_Qv D a cs S9) ([.ref (a 43), .int p0, .int p1] : List Value).toArray s 0 0 (zx_A a)) (F0 m 4 ls []) := by
  obtain ⟨⟨hx, hb, hml, hown, hts⟩, hlk, hK, hJ, hN⟩ := id F
  intro n
  induction n with
  | zero =>
    intro v1 v3 S h
    exact absurd h (fun q => by cases q)
  | succ n ih =>
    intro v1 v3 S h H locs ls hW hS hl
    rw [f_X9_put_L4_s] at h
    refine lv_iload_n hx hb dX9_put_4 rfl (lv_at hl 2 rfl) ?_
    refine lv_if_lt (tgt := 43) hx hb dX9_put_5 (by decide) (fun c2 => ?_) (fun c2 => ?_)
    · have h := g_t c2 h
      exact zx_rv F hr hW hS h dX9_put_43
    · have h := g_f c2 h
      refine lv_aload_n hx hb dX9_put_8 rfl (lv_at hl 0 rfl) ?_
      refine zx_get (C := RX9) (T := TX9) (N := 35) F hW wu_X9 (by decide) zx_E43 rfl 2 (by decide) wf_X9_13 rfl dX9_put_9 ?_
      refine lv_aload_n hx hb dX9_put_12 rfl (lv_at hl 0 rfl) ?_
      refine zx_get (C := RX9) (T := TX9) (N := 35) F hW wu_X9 (by decide) zx_E43 rfl 3 (by decide) wf_X9_73 rfl dX9_put_13 ?_
      refine lv_iload_n hx hb dX9_put_16 rfl (lv_at hl 1 rfl) ?_
      refine lv_bipush (v := 8) hx hb dX9_put_17 (by decide) ?_
      refine lv_iload_n hx hb dX9_put_19 rfl (lv_at hl 2 rfl) ?_
      refine lv_imul hx hb dX9_put_20 ?_
      refine lv_ishr hx hb dX9_put_21 ?_
      refine lv_sipush (v := 255) hx hb dX9_put_22 (by decide) ?_
      refine lv_iand hx hb dX9_put_25 ?_
      obtain ⟨c4, h⟩ := g_no h
      obtain ⟨S3, eS3, h⟩ := g_pin h
      refine zx_iast (n := 4000) F hW hS (by decide) (fun f => zx_E45) c4 dX9_put_26 (fun H locs hW hS => ?_)
      have hW : zx_W D a cs S3 H := by rw [eS3]; exact hW
      refine lv_aload_n hx hb dX9_put_27 rfl (lv_at hl 0 rfl) ?_
      refine lv_dup hx hb dX9_put_28 rfl ?_
      refine zx_get (C := RX9) (T := TX9) (N := 35) F hW wu_X9 (by decide) zx_E43 rfl 3 (by decide) wf_X9_73 rfl dX9_put_29 ?_
      refine lv_iconst (v := 1) hx hb dX9_put_32 (by decide) ?_
      refine lv_iadd hx hb dX9_put_33 ?_
      obtain ⟨S5, eS5, h⟩ := g_pin h
      refine zx_putv (C := RX9) (T := TX9) (N := 35) F hW hS wu_X9 tyX9_ok nmX9 (by decide) zx_E43 rfl 3 (by decide) wf_X9_73 rfl ((S3 43 3) + (1 : Int32)) rfl rfl (Nat.le_of_ble_eq_true rfl) rfl dX9_put_34 (fun H locs hW hS => ?_)
      have hW : zx_W D a cs S5 H := by rw [eS5]; exact hW
      obtain ⟨x6, ex6, h⟩ := g_pin h
      refine lv_iinc (v := x6) (lv' := [(3, .int x6), (0, .ref (a 43)), (1, .int v1)]) hx hb dX9_put_37 hl (k := 2) rfl (by rw [ex6]; rfl) (by decide) rfl (fun ls hl => ?_)
      refine lv_goto (tgt := 4) hx hb dX9_put_40 (by decide) ?_
      exact ih v1 x6 S5 h _ _ _ hW hS (lv_sub hl [1, 2, 0] rfl)
set_option maxHeartbeats 4000000 in
set_option maxRecDepth 100000 in
theorem c_X9_put (l : Launch) (D : va_G) (a : Nat → Nat) (cs : zx_C) (fu : Nat) (p0 : Int32) (p1 : Int32)  (S : St) (r9 : Int32) (S9 : St) (h : f_X9_put fu p0 p1 S = some (r9, S9)) : Met l yX9_put (Cond.code yX9_put cX9_put 4 none :: zx_tb) ({ frames := 0, cells := 0, slots := 0, locals := 0 }) (zx_P D a cs [.ref (a 43), .int p0, .int p1] S) (zx_Qv D a cs S9) 0 0 (zx_A a) := by
  refine zx_met (own := RX9) (by decide) (Nat.le_of_ble_eq_true rfl) rfl ?_
  intro p e s m below meth c ls F hr hW hS hl
  have hl : lv_has ls 4 [(0, .ref (a 43)), (1, .int p0), (2, .int p1)] := hl
  obtain ⟨⟨hx, hb, hml, hown, hts⟩, hlk, hK, hJ, hN⟩ := id F
  unfold f_X9_put at h
  refine lv_iload_n hx hb dX9_put_0 rfl (lv_at hl 2 rfl) ?_
  refine lv_iconst (v := 1) hx hb dX9_put_1 (by decide) ?_
  refine lv_isub hx hb dX9_put_2 ?_
  obtain ⟨x1, ex1, h⟩ := g_pin h
  refine zx_nm ex1 ?_
  refine lv_istore_n (lv' := [(3, .int x1), (0, .ref (a 43)), (1, .int p0), (2, .int p1)]) hx hb dX9_put_3 rfl hl (by decide) rfl (fun ls hl => ?_)
  exact k_X9_put_L4  F hr   fu p0 x1 S h _ _ _ hW hS (lv_sub hl [1, 2, 0] rfl)
theorem Y_X9_tells : zx_Y yX9_tells cX9_tells 2 none 0 := ⟨wc_X9_tells, wn_X9, by decide, by decide, by decide +kernel⟩
set_option maxHeartbeats 4000000 in
set_option maxRecDepth 100000 in
theorem k_X9_tells_L2 {l : Launch} {D : va_G} {a : Nat → Nat} {cs : zx_C} {p : Program} {e : Env} {s : State} {m : MethodId} {below : List Frame} {meth : Method} {c : Code} {fu : Nat}   (F : zx_F D a cs p m c cX9_tells 2 s ([.ref (a 43)] : List Value).toArray RX9 meth) (hr : meth.sig.returnType = none) {r9 : Int32} {S9 : St}    : ∀ (n : Nat) (v1 : Int32) (S : St), f_X9_tells_L2 fu    n v1 S = some (r9, S9) → ∀ (H : Heap) (locs : List Loc) (ls : Array Slot), zx_W D a cs S H → va_S (zx_A a) s.heap H locs → lv_has ls 2 [(0, .ref (a 43)), (1, .int v1)] → W p l e ({ frames := 0, cells := 0, slots := 0, locals := 0 }) s m ([.ref (a 43)] : List Value).toArray below meth c H locs 0 0 (MQ below (zx_Qv D a cs S9) ([.ref (a 43)] : List Value).toArray s 0 0 (zx_A a)) (F0 m 2 ls []) := by
  obtain ⟨⟨hx, hb, hml, hown, hts⟩, hlk, hK, hJ, hN⟩ := id F
  intro n
  induction n with
  | zero =>
    intro v1 S h
    exact absurd h (fun q => by cases q)
  | succ n ih =>
    intro v1 S h H locs ls hW hS hl
    rw [f_X9_tells_L2_s] at h
    refine lv_iload_n hx hb dX9_tells_2 rfl (lv_at hl 1 rfl) ?_
    refine lv_bipush (v := 6) hx hb dX9_tells_3 (by decide) ?_
    refine lv_icmp_ge (tgt := 26) hx hb dX9_tells_5 (by decide) (fun c1 => ?_) (fun c1 => ?_)
    · have h := g_t c1 h
      exact zx_rv F hr hW hS h dX9_tells_26
    · have h := g_f c1 h
      refine lv_aload_n hx hb dX9_tells_8 rfl (lv_at hl 0 rfl) ?_
      refine zx_get (C := RX9) (T := TX9) (N := 35) F hW wu_X9 (by decide) zx_E43 rfl 15 (by decide) wf_X9_48 rfl dX9_tells_9 ?_
      refine lv_iload_n hx hb dX9_tells_12 rfl (lv_at hl 1 rfl) ?_
      refine lv_aload_n hx hb dX9_tells_13 rfl (lv_at hl 0 rfl) ?_
      refine zx_get (C := RX9) (T := TX9) (N := 35) F hW wu_X9 (by decide) zx_E43 rfl 25 (by decide) wf_X9_61 rfl dX9_tells_14 ?_
      refine lv_iload_n hx hb dX9_tells_17 rfl (lv_at hl 1 rfl) ?_
      obtain ⟨c2, h⟩ := g_no h
      refine zx_iald (n := 6) F hW (by decide) zx_E59 c2 dX9_tells_18 ?_
      obtain ⟨c4, h⟩ := g_no h
      obtain ⟨S3, eS3, h⟩ := g_pin h
      refine zx_iast (n := 6) F hW hS (by decide) (fun f => zx_E56) c4 dX9_tells_19 (fun H locs hW hS => ?_)
      have hW : zx_W D a cs S3 H := by rw [eS3]; exact hW
      obtain ⟨x5, ex5, h⟩ := g_pin h
      refine lv_iinc (v := x5) (lv' := [(1, .int x5), (0, .ref (a 43))]) hx hb dX9_tells_20 hl (k := 1) rfl (by rw [ex5]; rfl) (by decide) rfl (fun ls hl => ?_)
      refine lv_goto (tgt := 2) hx hb dX9_tells_23 (by decide) ?_
      exact ih x5 S3 h _ _ _ hW hS (lv_sub hl [1, 0] rfl)
set_option maxHeartbeats 4000000 in
set_option maxRecDepth 100000 in
theorem c_X9_tells (l : Launch) (D : va_G) (a : Nat → Nat) (cs : zx_C) (fu : Nat)   (S : St) (r9 : Int32) (S9 : St) (h : f_X9_tells fu  S = some (r9, S9)) : Met l yX9_tells (Cond.code yX9_tells cX9_tells 2 none :: zx_tb) ({ frames := 0, cells := 0, slots := 0, locals := 0 }) (zx_P D a cs [.ref (a 43)] S) (zx_Qv D a cs S9) 0 0 (zx_A a) := by
  refine zx_met (own := RX9) (by decide) (Nat.le_of_ble_eq_true rfl) rfl ?_
  intro p e s m below meth c ls F hr hW hS hl
  have hl : lv_has ls 2 [(0, .ref (a 43))] := hl
  obtain ⟨⟨hx, hb, hml, hown, hts⟩, hlk, hK, hJ, hN⟩ := id F
  unfold f_X9_tells at h
  refine lv_iconst (v := 0) hx hb dX9_tells_0 (by decide) ?_
  refine lv_istore_n (lv' := [(1, .int (0 : Int32)), (0, .ref (a 43))]) hx hb dX9_tells_1 rfl hl (by decide) rfl (fun ls hl => ?_)
  exact k_X9_tells_L2  F hr   fu (0 : Int32) S h _ _ _ hW hS (lv_sub hl [1, 0] rfl)
theorem Y_X9_pack : zx_Y yX9_pack cX9_pack 12 (some (.int)) 3 := ⟨wc_X9_pack, wn_X9, by decide, by decide, by decide +kernel⟩
set_option maxHeartbeats 4000000 in
set_option maxRecDepth 100000 in
theorem k_X9_pack_L670 {l : Launch} {D : va_G} {a : Nat → Nat} {cs : zx_C} {p : Program} {e : Env} {s : State} {m : MethodId} {below : List Frame} {meth : Method} {c : Code} {fu : Nat} {p0 : Int32} {p1 : Int32} {p2 : Int32}  (F : zx_F D a cs p m c cX9_pack 12 s ([.ref (a 43), .int p0, .int p1, .int p2] : List Value).toArray RX9 meth) (hr : meth.sig.returnType = (some (.int))) {r9 : Int32} {S9 : St} {K575 : Int32 → Int32 → Int32 → St → Option (Int32 × St)} (hK575 : ∀ (v2 : Int32) (v5 : Int32) (v8 : Int32) (S : St), K575 v2 v5 v8 S = some (r9, S9) → ∀ (H : Heap) (locs : List Loc) (ls : Array Slot), zx_W D a cs S H → va_S (zx_A a) s.heap H locs → lv_has ls 12 [(0, .ref (a 43)), (2, .int v2), (5, .int v5), (8, .int v8)] → W p l e ({ frames := 4, cells := 0, slots := 0, locals := 103 }) s m ([.ref (a 43), .int p0, .int p1, .int p2] : List Value).toArray below meth c H locs 0 0 (MQ below (zx_Qi D a cs r9 S9) ([.ref (a 43), .int p0, .int p1, .int p2] : List Value).toArray s 0 0 (zx_A a)) (F0 m 575 ls []))  (v2 : Int32) (v5 : Int32) (v8 : Int32) (t0 : Int32) (S : St) (h : f_X9_pack_L670 fu p0 p1 p2 K575  v2 v5 v8 t0 S = some (r9, S9)) (H : Heap) (locs : List Loc) (ls : Array Slot) (hW : zx_W D a cs S H) (hS : va_S (zx_A a) s.heap H locs) (hl : lv_has ls 12 [(0, .ref (a 43)), (2, .int v2), (5, .int v5), (8, .int v8)]) : W p l e ({ frames := 4, cells := 0, slots := 0, locals := 103 }) s m ([.ref (a 43), .int p0, .int p1, .int p2] : List Value).toArray below meth c H locs 0 0 (MQ below (zx_Qi D a cs r9 S9) ([.ref (a 43), .int p0, .int p1, .int p2] : List Value).toArray s 0 0 (zx_A a)) (F0 m 670 ls [.int t0, .ref (a 43)]) := by
  obtain ⟨⟨hx, hb, hml, hown, hts⟩, hlk, hK, hJ, hN⟩ := id F
  unfold f_X9_pack_L670 at h
  refine lv_iconst (v := 1) hx hb dX9_pack_670 (by decide) ?_
  obtain ⟨r72, S73, h74, h⟩ := g_bd h
  refine zx_cv (zx_runV (q := (RX9, TX9, 35)) (As := [.int t0, .int (1 : Int32)]) (rest := []) F hW (c_X9_put l D a cs fu t0 (1 : Int32)  S r72 S73 h74) Y_X9_put wi_X9_put ws_X9_put wm_X9_163 ⟨rfl, rfl, Nat.le_of_ble_eq_true rfl, Nat.le_of_ble_eq_true rfl, Nat.le_of_ble_eq_true rfl, Nat.le_of_ble_eq_true rfl⟩ (by decide) zx_E43 rfl rfl hl.1 rfl (Nat.le_of_ble_eq_true rfl) dX9_pack_671) hS (fun H locs hW hS => ?_)
  obtain ⟨x75, ex75, h⟩ := g_pin h
  refine lv_iinc (v := x75) (lv' := [(8, .int x75), (0, .ref (a 43)), (2, .int v2), (5, .int v5)]) hx hb dX9_pack_674 hl (k := 3) rfl (by rw [ex75]; rfl) (by decide) rfl (fun ls hl => ?_)
  refine lv_goto (tgt := 575) hx hb dX9_pack_677 (by decide) ?_
  exact hK575 v2 v5 x75 S73 h _ _ _ hW hS (lv_sub hl [1, 2, 3, 0] rfl)
set_option maxHeartbeats 4000000 in
set_option maxRecDepth 100000 in
theorem k_X9_pack_L650 {l : Launch} {D : va_G} {a : Nat → Nat} {cs : zx_C} {p : Program} {e : Env} {s : State} {m : MethodId} {below : List Frame} {meth : Method} {c : Code} {fu : Nat} {p0 : Int32} {p1 : Int32} {p2 : Int32}  (F : zx_F D a cs p m c cX9_pack 12 s ([.ref (a 43), .int p0, .int p1, .int p2] : List Value).toArray RX9 meth) (hr : meth.sig.returnType = (some (.int))) {r9 : Int32} {S9 : St} {K575 : Int32 → Int32 → Int32 → St → Option (Int32 × St)} (hK575 : ∀ (v2 : Int32) (v5 : Int32) (v8 : Int32) (S : St), K575 v2 v5 v8 S = some (r9, S9) → ∀ (H : Heap) (locs : List Loc) (ls : Array Slot), zx_W D a cs S H → va_S (zx_A a) s.heap H locs → lv_has ls 12 [(0, .ref (a 43)), (2, .int v2), (5, .int v5), (8, .int v8)] → W p l e ({ frames := 4, cells := 0, slots := 0, locals := 103 }) s m ([.ref (a 43), .int p0, .int p1, .int p2] : List Value).toArray below meth c H locs 0 0 (MQ below (zx_Qi D a cs r9 S9) ([.ref (a 43), .int p0, .int p1, .int p2] : List Value).toArray s 0 0 (zx_A a)) (F0 m 575 ls []))  (v2 : Int32) (v5 : Int32) (v8 : Int32) (v9 : Int32) (S : St) (h : f_X9_pack_L650 fu p0 p1 p2 K575  v2 v5 v8 v9 S = some (r9, S9)) (H : Heap) (locs : List Loc) (ls : Array Slot) (hW : zx_W D a cs S H) (hS : va_S (zx_A a) s.heap H locs) (hl : lv_has ls 12 [(0, .ref (a 43)), (2, .int v2), (5, .int v5), (8, .int v8), (9, .int v9)]) : W p l e ({ frames := 4, cells := 0, slots := 0, locals := 103 }) s m ([.ref (a 43), .int p0, .int p1, .int p2] : List Value).toArray below meth c H locs 0 0 (MQ below (zx_Qi D a cs r9 S9) ([.ref (a 43), .int p0, .int p1, .int p2] : List Value).toArray s 0 0 (zx_A a)) (F0 m 650 ls []) := by
  obtain ⟨⟨hx, hb, hml, hown, hts⟩, hlk, hK, hJ, hN⟩ := id F
  unfold f_X9_pack_L650 at h
  refine lv_aload_n hx hb dX9_pack_650 rfl (lv_at hl 0 rfl) ?_
  refine lv_iload_n hx hb dX9_pack_651 rfl (lv_at hl 1 rfl) ?_
  refine lv_if_ne (tgt := 660) hx hb dX9_pack_652 (by decide) (fun c70 => ?_) (fun c70 => ?_)
  · have h := g_f c70 h
    refine lv_aload_n hx hb dX9_pack_660 rfl (lv_at hl 0 rfl) ?_
    refine zx_get (C := RX9) (T := TX9) (N := 35) F hW wu_X9 (by decide) zx_E43 rfl 23 (by decide) wf_X9_55 rfl dX9_pack_661 ?_
    refine lv_iload hx hb dX9_pack_664 (lv_at hl 2 rfl) ?_
    refine lv_iload hx hb dX9_pack_666 (lv_at hl 3 rfl) ?_
    refine lv_iadd hx hb dX9_pack_668 ?_
    obtain ⟨c71, h⟩ := g_no h
    refine zx_iald (n := 17000) F hW (by decide) zx_E57 c71 dX9_pack_669 ?_
    exact k_X9_pack_L670  F hr hK575  v2 v5 v8 (S 57 (v5 + v8).toNatClampNeg) S h _ _ _ hW hS (lv_sub hl [0, 1, 2, 3] rfl)
  · have h := g_t c70 h
    refine lv_iload hx hb dX9_pack_655 (lv_at hl 4 rfl) ?_
    refine lv_goto (tgt := 670) hx hb dX9_pack_657 (by decide) ?_
    exact k_X9_pack_L670  F hr hK575  v2 v5 v8 v9 S h _ _ _ hW hS (lv_sub hl [0, 1, 2, 3] rfl)
set_option maxHeartbeats 4000000 in
set_option maxRecDepth 100000 in
theorem k_X9_pack_L641 {l : Launch} {D : va_G} {a : Nat → Nat} {cs : zx_C} {p : Program} {e : Env} {s : State} {m : MethodId} {below : List Frame} {meth : Method} {c : Code} {fu : Nat} {p0 : Int32} {p1 : Int32} {p2 : Int32}  (F : zx_F D a cs p m c cX9_pack 12 s ([.ref (a 43), .int p0, .int p1, .int p2] : List Value).toArray RX9 meth) (hr : meth.sig.returnType = (some (.int))) {r9 : Int32} {S9 : St} {K592 : Int32 → Int32 → Int32 → Int32 → Int32 → St → Option (Int32 × St)} (hK592 : ∀ (v2 : Int32) (v5 : Int32) (v8 : Int32) (v9 : Int32) (v10 : Int32) (S : St), K592 v2 v5 v8 v9 v10 S = some (r9, S9) → ∀ (H : Heap) (locs : List Loc) (ls : Array Slot), zx_W D a cs S H → va_S (zx_A a) s.heap H locs → lv_has ls 12 [(0, .ref (a 43)), (2, .int v2), (5, .int v5), (8, .int v8), (9, .int v9), (10, .int v10)] → W p l e ({ frames := 4, cells := 0, slots := 0, locals := 103 }) s m ([.ref (a 43), .int p0, .int p1, .int p2] : List Value).toArray below meth c H locs 0 0 (MQ below (zx_Qi D a cs r9 S9) ([.ref (a 43), .int p0, .int p1, .int p2] : List Value).toArray s 0 0 (zx_A a)) (F0 m 592 ls []))  (v2 : Int32) (v5 : Int32) (v8 : Int32) (v10 : Int32) (t0 : Int32) (t1 : Int32) (S : St) (h : f_X9_pack_L641 fu p0 p1 p2 K592  v2 v5 v8 v10 t0 t1 S = some (r9, S9)) (H : Heap) (locs : List Loc) (ls : Array Slot) (hW : zx_W D a cs S H) (hS : va_S (zx_A a) s.heap H locs) (hl : lv_has ls 12 [(0, .ref (a 43)), (2, .int v2), (5, .int v5), (8, .int v8), (10, .int v10)]) : W p l e ({ frames := 4, cells := 0, slots := 0, locals := 103 }) s m ([.ref (a 43), .int p0, .int p1, .int p2] : List Value).toArray below meth c H locs 0 0 (MQ below (zx_Qi D a cs r9 S9) ([.ref (a 43), .int p0, .int p1, .int p2] : List Value).toArray s 0 0 (zx_A a)) (F0 m 641 ls [.int t0, .int t1]) := by
  obtain ⟨⟨hx, hb, hml, hown, hts⟩, hlk, hK, hJ, hN⟩ := id F
  unfold f_X9_pack_L641 at h
  refine lv_iadd hx hb dX9_pack_641 ?_
  obtain ⟨x79, ex79, h⟩ := g_pin h
  refine zx_nm ex79 ?_
  refine lv_istore (lv' := [(9, .int x79), (0, .ref (a 43)), (2, .int v2), (5, .int v5), (8, .int v8), (10, .int v10)]) hx hb dX9_pack_642 hl (by decide) rfl (fun ls hl => ?_)
  obtain ⟨x80, ex80, h⟩ := g_pin h
  refine lv_iinc (v := x80) (lv' := [(10, .int x80), (9, .int x79), (0, .ref (a 43)), (2, .int v2), (5, .int v5), (8, .int v8)]) hx hb dX9_pack_644 hl (k := 5) rfl (by rw [ex80]; rfl) (by decide) rfl (fun ls hl => ?_)
  refine lv_goto (tgt := 592) hx hb dX9_pack_647 (by decide) ?_
  exact hK592 v2 v5 v8 x79 x80 S h _ _ _ hW hS (lv_sub hl [2, 3, 4, 5, 1, 0] rfl)
set_option maxHeartbeats 4000000 in
set_option maxRecDepth 100000 in
theorem k_X9_pack_L592 {l : Launch} {D : va_G} {a : Nat → Nat} {cs : zx_C} {p : Program} {e : Env} {s : State} {m : MethodId} {below : List Frame} {meth : Method} {c : Code} {fu : Nat} {p0 : Int32} {p1 : Int32} {p2 : Int32}  (F : zx_F D a cs p m c cX9_pack 12 s ([.ref (a 43), .int p0, .int p1, .int p2] : List Value).toArray RX9 meth) (hr : meth.sig.returnType = (some (.int))) {r9 : Int32} {S9 : St} {K575 : Int32 → Int32 → Int32 → St → Option (Int32 × St)} (hK575 : ∀ (v2 : Int32) (v5 : Int32) (v8 : Int32) (S : St), K575 v2 v5 v8 S = some (r9, S9) → ∀ (H : Heap) (locs : List Loc) (ls : Array Slot), zx_W D a cs S H → va_S (zx_A a) s.heap H locs → lv_has ls 12 [(0, .ref (a 43)), (2, .int v2), (5, .int v5), (8, .int v8)] → W p l e ({ frames := 4, cells := 0, slots := 0, locals := 103 }) s m ([.ref (a 43), .int p0, .int p1, .int p2] : List Value).toArray below meth c H locs 0 0 (MQ below (zx_Qi D a cs r9 S9) ([.ref (a 43), .int p0, .int p1, .int p2] : List Value).toArray s 0 0 (zx_A a)) (F0 m 575 ls []))  : ∀ (n : Nat) (v2 : Int32) (v5 : Int32) (v8 : Int32) (v9 : Int32) (v10 : Int32) (S : St), f_X9_pack_L592 fu p0 p1 p2 K575  n v2 v5 v8 v9 v10 S = some (r9, S9) → ∀ (H : Heap) (locs : List Loc) (ls : Array Slot), zx_W D a cs S H → va_S (zx_A a) s.heap H locs → lv_has ls 12 [(0, .ref (a 43)), (2, .int v2), (5, .int v5), (8, .int v8), (9, .int v9), (10, .int v10)] → W p l e ({ frames := 4, cells := 0, slots := 0, locals := 103 }) s m ([.ref (a 43), .int p0, .int p1, .int p2] : List Value).toArray below meth c H locs 0 0 (MQ below (zx_Qi D a cs r9 S9) ([.ref (a 43), .int p0, .int p1, .int p2] : List Value).toArray s 0 0 (zx_A a)) (F0 m 592 ls []) := by
  obtain ⟨⟨hx, hb, hml, hown, hts⟩, hlk, hK, hJ, hN⟩ := id F
  intro n
  induction n with
  | zero =>
    intro v2 v5 v8 v9 v10 S h
    exact absurd h (fun q => by cases q)
  | succ n ih =>
    intro v2 v5 v8 v9 v10 S h H locs ls hW hS hl
    rw [f_X9_pack_L592_s] at h
    refine lv_iload hx hb dX9_pack_592 (lv_at hl 5 rfl) ?_
    refine lv_bipush (v := 8) hx hb dX9_pack_594 (by decide) ?_
    refine lv_icmp_ge (tgt := 650) hx hb dX9_pack_596 (by decide) (fun c69 => ?_) (fun c69 => ?_)
    · have h := g_t c69 h
      exact k_X9_pack_L650  F hr hK575  v2 v5 v8 v9 S h _ _ _ hW hS (lv_sub hl [0, 1, 2, 3, 4] rfl)
    · have h := g_f c69 h
      refine lv_iload_n hx hb dX9_pack_599 rfl (lv_at hl 1 rfl) ?_
      refine lv_if_ne (tgt := 650) hx hb dX9_pack_600 (by decide) (fun c76 => ?_) (fun c76 => ?_)
      · have h := g_f c76 h
        exact k_X9_pack_L650  F hr hK575  v2 v5 v8 v9 S h _ _ _ hW hS (lv_sub hl [0, 1, 2, 3, 4] rfl)
      · have h := g_t c76 h
        refine lv_iload hx hb dX9_pack_603 (lv_at hl 2 rfl) ?_
        refine lv_bipush (v := 8) hx hb dX9_pack_605 (by decide) ?_
        refine lv_iload hx hb dX9_pack_607 (lv_at hl 3 rfl) ?_
        refine lv_imul hx hb dX9_pack_609 ?_
        refine lv_iadd hx hb dX9_pack_610 ?_
        refine lv_iload hx hb dX9_pack_611 (lv_at hl 5 rfl) ?_
        refine lv_iadd hx hb dX9_pack_613 ?_
        obtain ⟨x77, ex77, h⟩ := g_pin h
        refine zx_nm ex77 ?_
        refine lv_istore (lv' := [(11, .int x77), (0, .ref (a 43)), (2, .int v2), (5, .int v5), (8, .int v8), (9, .int v9), (10, .int v10)]) hx hb dX9_pack_614 hl (by decide) rfl (fun ls hl => ?_)
        refine lv_iconst (v := 2) hx hb dX9_pack_616 (by decide) ?_
        refine lv_iload hx hb dX9_pack_617 (lv_at hl 5 rfl) ?_
        refine lv_imul hx hb dX9_pack_619 ?_
        refine lv_iload hx hb dX9_pack_620 (lv_at hl 0 rfl) ?_
        refine lv_aload_n hx hb dX9_pack_622 rfl (lv_at hl 1 rfl) ?_
        refine zx_get (C := RX9) (T := TX9) (N := 35) F hW wu_X9 (by decide) zx_E43 rfl 23 (by decide) wf_X9_55 rfl dX9_pack_623 ?_
        refine zx_alen (v := (17000 : Int32)) F hW (by decide) zx_E57 (by decide) dX9_pack_626 ?_
        refine lv_icmp_ge (tgt := 640) hx hb dX9_pack_627 (by decide) (fun c78 => ?_) (fun c78 => ?_)
        · have h := g_t c78 h
          refine lv_iconst (v := 0) hx hb dX9_pack_640 (by decide) ?_
          exact k_X9_pack_L641  F hr ih  v2 v5 v8 v10 (0 : Int32) ((2 : Int32) * v9) S h _ _ _ hW hS (lv_sub hl [1, 2, 3, 4, 6] rfl)
        · have h := g_f c78 h
          refine lv_aload_n hx hb dX9_pack_630 rfl (lv_at hl 1 rfl) ?_
          refine zx_get (C := RX9) (T := TX9) (N := 35) F hW wu_X9 (by decide) zx_E43 rfl 23 (by decide) wf_X9_55 rfl dX9_pack_631 ?_
          refine lv_iload hx hb dX9_pack_634 (lv_at hl 0 rfl) ?_
          obtain ⟨c81, h⟩ := g_no h
          refine zx_iald (n := 17000) F hW (by decide) zx_E57 c81 dX9_pack_636 ?_
          refine lv_goto (tgt := 641) hx hb dX9_pack_637 (by decide) ?_
          exact k_X9_pack_L641  F hr ih  v2 v5 v8 v10 (S 57 x77.toNatClampNeg) ((2 : Int32) * v9) S h _ _ _ hW hS (lv_sub hl [1, 2, 3, 4, 6] rfl)
set_option maxHeartbeats 4000000 in
set_option maxRecDepth 100000 in
theorem k_X9_pack_L575 {l : Launch} {D : va_G} {a : Nat → Nat} {cs : zx_C} {p : Program} {e : Env} {s : State} {m : MethodId} {below : List Frame} {meth : Method} {c : Code} {fu : Nat} {p0 : Int32} {p1 : Int32} {p2 : Int32}  (F : zx_F D a cs p m c cX9_pack 12 s ([.ref (a 43), .int p0, .int p1, .int p2] : List Value).toArray RX9 meth) (hr : meth.sig.returnType = (some (.int))) {r9 : Int32} {S9 : St}    : ∀ (n : Nat) (v2 : Int32) (v5 : Int32) (v8 : Int32) (S : St), f_X9_pack_L575 fu p0 p1 p2   n v2 v5 v8 S = some (r9, S9) → ∀ (H : Heap) (locs : List Loc) (ls : Array Slot), zx_W D a cs S H → va_S (zx_A a) s.heap H locs → lv_has ls 12 [(0, .ref (a 43)), (2, .int v2), (5, .int v5), (8, .int v8)] → W p l e ({ frames := 4, cells := 0, slots := 0, locals := 103 }) s m ([.ref (a 43), .int p0, .int p1, .int p2] : List Value).toArray below meth c H locs 0 0 (MQ below (zx_Qi D a cs r9 S9) ([.ref (a 43), .int p0, .int p1, .int p2] : List Value).toArray s 0 0 (zx_A a)) (F0 m 575 ls []) := by
  obtain ⟨⟨hx, hb, hml, hown, hts⟩, hlk, hK, hJ, hN⟩ := id F
  intro n
  induction n with
  | zero =>
    intro v2 v5 v8 S h
    exact absurd h (fun q => by cases q)
  | succ n ih =>
    intro v2 v5 v8 S h H locs ls hW hS hl
    rw [f_X9_pack_L575_s] at h
    refine lv_iload hx hb dX9_pack_575 (lv_at hl 3 rfl) ?_
    refine lv_aload_n hx hb dX9_pack_577 rfl (lv_at hl 0 rfl) ?_
    refine zx_get (C := RX9) (T := TX9) (N := 35) F hW wu_X9 (by decide) zx_E43 rfl 25 (by decide) wf_X9_61 rfl dX9_pack_578 ?_
    refine lv_iconst (v := 4) hx hb dX9_pack_581 (by decide) ?_
    refine zx_iald (n := 6) F hW (by decide) zx_E59 (by unfold vp_in; decide) dX9_pack_582 ?_
    refine zx_nm (z := (S 59 4)) rfl ?_
    refine lv_icmp_ge (tgt := 680) hx hb dX9_pack_583 (by decide) (fun c65 => ?_) (fun c65 => ?_)
    · have h := g_t c65 h
      refine lv_aload_n hx hb dX9_pack_680 rfl (lv_at hl 0 rfl) ?_
      obtain ⟨r66, S67, h68, h⟩ := g_bd h
      refine zx_cv (zx_runV (q := (RX9, TX9, 35)) (As := []) (rest := []) F hW (c_X9_tells l D a cs fu   S r66 S67 h68) Y_X9_tells wi_X9_tells ws_X9_tells wm_X9_166 ⟨rfl, rfl, Nat.le_of_ble_eq_true rfl, Nat.le_of_ble_eq_true rfl, Nat.le_of_ble_eq_true rfl, Nat.le_of_ble_eq_true rfl⟩ (by decide) zx_E43 rfl rfl hl.1 rfl (Nat.le_of_ble_eq_true rfl) dX9_pack_681) hS (fun H locs hW hS => ?_)
      refine lv_aload_n hx hb dX9_pack_684 rfl (lv_at hl 0 rfl) ?_
      refine zx_get (C := RX9) (T := TX9) (N := 35) F hW wu_X9 (by decide) zx_E43 rfl 3 (by decide) wf_X9_73 rfl dX9_pack_685 ?_
      exact zx_ri F hr hW hS h dX9_pack_688
    · have h := g_f c65 h
      refine lv_iconst (v := 0) hx hb dX9_pack_586 (by decide) ?_
      refine lv_istore (lv' := [(9, .int (0 : Int32)), (0, .ref (a 43)), (2, .int v2), (5, .int v5), (8, .int v8)]) hx hb dX9_pack_587 hl (by decide) rfl (fun ls hl => ?_)
      refine lv_iconst (v := 0) hx hb dX9_pack_589 (by decide) ?_
      refine lv_istore (lv' := [(10, .int (0 : Int32)), (9, .int (0 : Int32)), (0, .ref (a 43)), (2, .int v2), (5, .int v5), (8, .int v8)]) hx hb dX9_pack_590 hl (by decide) rfl (fun ls hl => ?_)
      exact k_X9_pack_L592  F hr ih  fu v2 v5 v8 (0 : Int32) (0 : Int32) S h _ _ _ hW hS (lv_sub hl [2, 3, 4, 5, 1, 0] rfl)
set_option maxHeartbeats 4000000 in
set_option maxRecDepth 100000 in
theorem k_X9_pack_L572 {l : Launch} {D : va_G} {a : Nat → Nat} {cs : zx_C} {p : Program} {e : Env} {s : State} {m : MethodId} {below : List Frame} {meth : Method} {c : Code} {fu : Nat} {p0 : Int32} {p1 : Int32} {p2 : Int32}  (F : zx_F D a cs p m c cX9_pack 12 s ([.ref (a 43), .int p0, .int p1, .int p2] : List Value).toArray RX9 meth) (hr : meth.sig.returnType = (some (.int))) {r9 : Int32} {S9 : St}    (v2 : Int32) (v5 : Int32) (S : St) (h : f_X9_pack_L572 fu p0 p1 p2   v2 v5 S = some (r9, S9)) (H : Heap) (locs : List Loc) (ls : Array Slot) (hW : zx_W D a cs S H) (hS : va_S (zx_A a) s.heap H locs) (hl : lv_has ls 12 [(0, .ref (a 43)), (2, .int v2), (5, .int v5)]) : W p l e ({ frames := 4, cells := 0, slots := 0, locals := 103 }) s m ([.ref (a 43), .int p0, .int p1, .int p2] : List Value).toArray below meth c H locs 0 0 (MQ below (zx_Qi D a cs r9 S9) ([.ref (a 43), .int p0, .int p1, .int p2] : List Value).toArray s 0 0 (zx_A a)) (F0 m 572 ls []) := by
  obtain ⟨⟨hx, hb, hml, hown, hts⟩, hlk, hK, hJ, hN⟩ := id F
  unfold f_X9_pack_L572 at h
  refine lv_iconst (v := 0) hx hb dX9_pack_572 (by decide) ?_
  refine lv_istore (lv' := [(8, .int (0 : Int32)), (0, .ref (a 43)), (2, .int v2), (5, .int v5)]) hx hb dX9_pack_573 hl (by decide) rfl (fun ls hl => ?_)
  exact k_X9_pack_L575  F hr   fu v2 v5 (0 : Int32) S h _ _ _ hW hS (lv_sub hl [1, 2, 3, 0] rfl)
set_option maxHeartbeats 4000000 in
set_option maxRecDepth 100000 in
theorem k_X9_pack_L556 {l : Launch} {D : va_G} {a : Nat → Nat} {cs : zx_C} {p : Program} {e : Env} {s : State} {m : MethodId} {below : List Frame} {meth : Method} {c : Code} {fu : Nat} {p0 : Int32} {p1 : Int32} {p2 : Int32}  (F : zx_F D a cs p m c cX9_pack 12 s ([.ref (a 43), .int p0, .int p1, .int p2] : List Value).toArray RX9 meth) (hr : meth.sig.returnType = (some (.int))) {r9 : Int32} {S9 : St}    (v2 : Int32) (v5 : Int32) (S : St) (h : f_X9_pack_L556 fu p0 p1 p2   v2 v5 S = some (r9, S9)) (H : Heap) (locs : List Loc) (ls : Array Slot) (hW : zx_W D a cs S H) (hS : va_S (zx_A a) s.heap H locs) (hl : lv_has ls 12 [(0, .ref (a 43)), (2, .int v2), (5, .int v5)]) : W p l e ({ frames := 4, cells := 0, slots := 0, locals := 103 }) s m ([.ref (a 43), .int p0, .int p1, .int p2] : List Value).toArray below meth c H locs 0 0 (MQ below (zx_Qi D a cs r9 S9) ([.ref (a 43), .int p0, .int p1, .int p2] : List Value).toArray s 0 0 (zx_A a)) (F0 m 556 ls []) := by
  obtain ⟨⟨hx, hb, hml, hown, hts⟩, hlk, hK, hJ, hN⟩ := id F
  unfold f_X9_pack_L556 at h
  refine lv_iload_n hx hb dX9_pack_556 rfl (lv_at hl 1 rfl) ?_
  refine lv_iconst (v := 2) hx hb dX9_pack_557 (by decide) ?_
  refine lv_icmp_ne (tgt := 572) hx hb dX9_pack_558 (by decide) (fun c64 => ?_) (fun c64 => ?_)
  · have h := g_f c64 h
    exact k_X9_pack_L572  F hr   v2 v5 S h _ _ _ hW hS (lv_sub hl [0, 1, 2] rfl)
  · have h := g_t c64 h
    refine lv_aload_n hx hb dX9_pack_561 rfl (lv_at hl 0 rfl) ?_
    refine lv_aload_n hx hb dX9_pack_562 rfl (lv_at hl 0 rfl) ?_
    refine zx_get (C := RX9) (T := TX9) (N := 35) F hW wu_X9 (by decide) zx_E43 rfl 24 (by decide) wf_X9_58 rfl dX9_pack_563 ?_
    refine lv_iconst (v := 1) hx hb dX9_pack_566 (by decide) ?_
    refine zx_iald (n := 2) F hW (by decide) zx_E58 (by unfold vp_in; decide) dX9_pack_567 ?_
    refine zx_nm (z := (S 58 1)) rfl ?_
    refine lv_iconst (v := 4) hx hb dX9_pack_568 (by decide) ?_
    obtain ⟨r82, S83, h84, h⟩ := g_bd h
    refine zx_cv (zx_runV (q := (RX9, TX9, 35)) (As := [.int (S 58 1), .int (4 : Int32)]) (rest := []) F hW (c_X9_put l D a cs fu (S 58 1) (4 : Int32)  S r82 S83 h84) Y_X9_put wi_X9_put ws_X9_put wm_X9_163 ⟨rfl, rfl, Nat.le_of_ble_eq_true rfl, Nat.le_of_ble_eq_true rfl, Nat.le_of_ble_eq_true rfl, Nat.le_of_ble_eq_true rfl⟩ (by decide) zx_E43 rfl rfl hl.1 rfl (Nat.le_of_ble_eq_true rfl) dX9_pack_569) hS (fun H locs hW hS => ?_)
    exact k_X9_pack_L572  F hr   v2 v5 S83 h _ _ _ hW hS (lv_sub hl [0, 1, 2] rfl)
set_option maxHeartbeats 4000000 in
set_option maxRecDepth 100000 in
theorem k_X9_pack_L492 {l : Launch} {D : va_G} {a : Nat → Nat} {cs : zx_C} {p : Program} {e : Env} {s : State} {m : MethodId} {below : List Frame} {meth : Method} {c : Code} {fu : Nat} {p0 : Int32} {p1 : Int32} {p2 : Int32}  (F : zx_F D a cs p m c cX9_pack 12 s ([.ref (a 43), .int p0, .int p1, .int p2] : List Value).toArray RX9 meth) (hr : meth.sig.returnType = (some (.int))) {r9 : Int32} {S9 : St} {K440 : Int32 → Int32 → Int32 → Int32 → St → Option (Int32 × St)} (hK440 : ∀ (v1 : Int32) (v2 : Int32) (v5 : Int32) (v8 : Int32) (S : St), K440 v1 v2 v5 v8 S = some (r9, S9) → ∀ (H : Heap) (locs : List Loc) (ls : Array Slot), zx_W D a cs S H → va_S (zx_A a) s.heap H locs → lv_has ls 12 [(0, .ref (a 43)), (1, .int v1), (2, .int v2), (5, .int v5), (8, .int v8)] → W p l e ({ frames := 4, cells := 0, slots := 0, locals := 103 }) s m ([.ref (a 43), .int p0, .int p1, .int p2] : List Value).toArray below meth c H locs 0 0 (MQ below (zx_Qi D a cs r9 S9) ([.ref (a 43), .int p0, .int p1, .int p2] : List Value).toArray s 0 0 (zx_A a)) (F0 m 440 ls []))  (v1 : Int32) (v2 : Int32) (v5 : Int32) (v8 : Int32) (S : St) (h : f_X9_pack_L492 fu p0 p1 p2 K440  v1 v2 v5 v8 S = some (r9, S9)) (H : Heap) (locs : List Loc) (ls : Array Slot) (hW : zx_W D a cs S H) (hS : va_S (zx_A a) s.heap H locs) (hl : lv_has ls 12 [(0, .ref (a 43)), (1, .int v1), (2, .int v2), (5, .int v5), (8, .int v8)]) : W p l e ({ frames := 4, cells := 0, slots := 0, locals := 103 }) s m ([.ref (a 43), .int p0, .int p1, .int p2] : List Value).toArray below meth c H locs 0 0 (MQ below (zx_Qi D a cs r9 S9) ([.ref (a 43), .int p0, .int p1, .int p2] : List Value).toArray s 0 0 (zx_A a)) (F0 m 492 ls []) := by
  obtain ⟨⟨hx, hb, hml, hown, hts⟩, hlk, hK, hJ, hN⟩ := id F
  unfold f_X9_pack_L492 at h
  obtain ⟨x98, ex98, h⟩ := g_pin h
  refine lv_iinc (v := x98) (lv' := [(8, .int x98), (0, .ref (a 43)), (1, .int v1), (2, .int v2), (5, .int v5)]) hx hb dX9_pack_492 hl (k := 4) rfl (by rw [ex98]; rfl) (by decide) rfl (fun ls hl => ?_)
  refine lv_goto (tgt := 440) hx hb dX9_pack_495 (by decide) ?_
  exact hK440 v1 v2 v5 x98 S h _ _ _ hW hS (lv_sub hl [1, 2, 3, 4, 0] rfl)
set_option maxHeartbeats 4000000 in
set_option maxRecDepth 100000 in
theorem k_X9_pack_L440 {l : Launch} {D : va_G} {a : Nat → Nat} {cs : zx_C} {p : Program} {e : Env} {s : State} {m : MethodId} {below : List Frame} {meth : Method} {c : Code} {fu : Nat} {p0 : Int32} {p1 : Int32} {p2 : Int32}  (F : zx_F D a cs p m c cX9_pack 12 s ([.ref (a 43), .int p0, .int p1, .int p2] : List Value).toArray RX9 meth) (hr : meth.sig.returnType = (some (.int))) {r9 : Int32} {S9 : St}    : ∀ (n : Nat) (v1 : Int32) (v2 : Int32) (v5 : Int32) (v8 : Int32) (S : St), f_X9_pack_L440 fu p0 p1 p2   n v1 v2 v5 v8 S = some (r9, S9) → ∀ (H : Heap) (locs : List Loc) (ls : Array Slot), zx_W D a cs S H → va_S (zx_A a) s.heap H locs → lv_has ls 12 [(0, .ref (a 43)), (1, .int v1), (2, .int v2), (5, .int v5), (8, .int v8)] → W p l e ({ frames := 4, cells := 0, slots := 0, locals := 103 }) s m ([.ref (a 43), .int p0, .int p1, .int p2] : List Value).toArray below meth c H locs 0 0 (MQ below (zx_Qi D a cs r9 S9) ([.ref (a 43), .int p0, .int p1, .int p2] : List Value).toArray s 0 0 (zx_A a)) (F0 m 440 ls []) := by
  obtain ⟨⟨hx, hb, hml, hown, hts⟩, hlk, hK, hJ, hN⟩ := id F
  intro n
  induction n with
  | zero =>
    intro v1 v2 v5 v8 S h
    exact absurd h (fun q => by cases q)
  | succ n ih =>
    intro v1 v2 v5 v8 S h H locs ls hW hS hl
    rw [f_X9_pack_L440_s] at h
    refine lv_iload hx hb dX9_pack_440 (lv_at hl 4 rfl) ?_
    refine lv_sipush (v := 256) hx hb dX9_pack_442 (by decide) ?_
    refine lv_icmp_ge (tgt := 498) hx hb dX9_pack_445 (by decide) (fun c53 => ?_) (fun c53 => ?_)
    · have h := g_t c53 h
      refine lv_aload_n hx hb dX9_pack_498 rfl (lv_at hl 0 rfl) ?_
      refine lv_aload_n hx hb dX9_pack_499 rfl (lv_at hl 0 rfl) ?_
      refine zx_get (C := RX9) (T := TX9) (N := 35) F hW wu_X9 (by decide) zx_E43 rfl 1 (by decide) wf_X9_70 rfl dX9_pack_500 ?_
      refine lv_iconst (v := 2) hx hb dX9_pack_503 (by decide) ?_
      obtain ⟨r54, S55, h56, h⟩ := g_bd h
      refine zx_cv (zx_runV (q := (RX9, TX9, 35)) (As := [.int (S 43 1), .int (2 : Int32)]) (rest := []) F hW (c_X9_put l D a cs fu (S 43 1) (2 : Int32)  S r54 S55 h56) Y_X9_put wi_X9_put ws_X9_put wm_X9_163 ⟨rfl, rfl, Nat.le_of_ble_eq_true rfl, Nat.le_of_ble_eq_true rfl, Nat.le_of_ble_eq_true rfl, Nat.le_of_ble_eq_true rfl⟩ (by decide) zx_E43 rfl rfl hl.1 rfl (Nat.le_of_ble_eq_true rfl) dX9_pack_504) hS (fun H locs hW hS => ?_)
      refine lv_aload_n hx hb dX9_pack_507 rfl (lv_at hl 0 rfl) ?_
      refine lv_aload_n hx hb dX9_pack_508 rfl (lv_at hl 0 rfl) ?_
      refine zx_get (C := RX9) (T := TX9) (N := 35) F hW wu_X9 (by decide) zx_E43 rfl 25 (by decide) wf_X9_61 rfl dX9_pack_509 ?_
      refine lv_iconst (v := 4) hx hb dX9_pack_512 (by decide) ?_
      refine zx_iald (n := 6) F hW (by decide) zx_E59 (by unfold vp_in; decide) dX9_pack_513 ?_
      refine zx_nm (z := (S55 59 4)) rfl ?_
      refine lv_iconst (v := 2) hx hb dX9_pack_514 (by decide) ?_
      obtain ⟨r57, S58, h59, h⟩ := g_bd h
      refine zx_cv (zx_runV (q := (RX9, TX9, 35)) (As := [.int (S55 59 4), .int (2 : Int32)]) (rest := []) F hW (c_X9_put l D a cs fu (S55 59 4) (2 : Int32)  S55 r57 S58 h59) Y_X9_put wi_X9_put ws_X9_put wm_X9_163 ⟨rfl, rfl, Nat.le_of_ble_eq_true rfl, Nat.le_of_ble_eq_true rfl, Nat.le_of_ble_eq_true rfl, Nat.le_of_ble_eq_true rfl⟩ (by decide) zx_E43 rfl rfl hl.1 rfl (Nat.le_of_ble_eq_true rfl) dX9_pack_515) hS (fun H locs hW hS => ?_)
      refine lv_iload_n hx hb dX9_pack_518 rfl (lv_at hl 2 rfl) ?_
      refine lv_if_ne (tgt := 545) hx hb dX9_pack_519 (by decide) (fun c60 => ?_) (fun c60 => ?_)
      · have h := g_f c60 h
        refine lv_aload_n hx hb dX9_pack_545 rfl (lv_at hl 0 rfl) ?_
        refine lv_aload_n hx hb dX9_pack_546 rfl (lv_at hl 0 rfl) ?_
        refine zx_get (C := RX9) (T := TX9) (N := 35) F hW wu_X9 (by decide) zx_E43 rfl 24 (by decide) wf_X9_58 rfl dX9_pack_547 ?_
        refine lv_iconst (v := 0) hx hb dX9_pack_550 (by decide) ?_
        refine zx_iald (n := 2) F hW (by decide) zx_E58 (by unfold vp_in; decide) dX9_pack_551 ?_
        refine zx_nm (z := (S58 58 0)) rfl ?_
        refine lv_iconst (v := 4) hx hb dX9_pack_552 (by decide) ?_
        obtain ⟨r61, S62, h63, h⟩ := g_bd h
        refine zx_cv (zx_runV (q := (RX9, TX9, 35)) (As := [.int (S58 58 0), .int (4 : Int32)]) (rest := []) F hW (c_X9_put l D a cs fu (S58 58 0) (4 : Int32)  S58 r61 S62 h63) Y_X9_put wi_X9_put ws_X9_put wm_X9_163 ⟨rfl, rfl, Nat.le_of_ble_eq_true rfl, Nat.le_of_ble_eq_true rfl, Nat.le_of_ble_eq_true rfl, Nat.le_of_ble_eq_true rfl⟩ (by decide) zx_E43 rfl rfl hl.1 rfl (Nat.le_of_ble_eq_true rfl) dX9_pack_553) hS (fun H locs hW hS => ?_)
        exact k_X9_pack_L556  F hr   v2 v5 S62 h _ _ _ hW hS (lv_sub hl [0, 2, 3] rfl)
      · have h := g_t c60 h
        refine lv_aload_n hx hb dX9_pack_522 rfl (lv_at hl 0 rfl) ?_
        refine lv_aload_n hx hb dX9_pack_523 rfl (lv_at hl 0 rfl) ?_
        refine zx_get (C := RX9) (T := TX9) (N := 35) F hW wu_X9 (by decide) zx_E43 rfl 24 (by decide) wf_X9_58 rfl dX9_pack_524 ?_
        refine lv_iconst (v := 0) hx hb dX9_pack_527 (by decide) ?_
        refine zx_iald (n := 2) F hW (by decide) zx_E58 (by unfold vp_in; decide) dX9_pack_528 ?_
        refine zx_nm (z := (S58 58 0)) rfl ?_
        refine lv_iconst (v := 1) hx hb dX9_pack_529 (by decide) ?_
        refine lv_aload_n hx hb dX9_pack_530 rfl (lv_at hl 0 rfl) ?_
        refine zx_get (C := RX9) (T := TX9) (N := 35) F hW wu_X9 (by decide) zx_E43 rfl 4 (by decide) wf_X9_16 rfl dX9_pack_531 ?_
        refine lv_iload_n hx hb dX9_pack_534 rfl (lv_at hl 1 rfl) ?_
        obtain ⟨c85, h⟩ := g_no h
        refine zx_iald (n := 7) F hW (by decide) zx_E46 c85 dX9_pack_535 ?_
        refine lv_ishl hx hb dX9_pack_536 ?_
        refine lv_isub hx hb dX9_pack_537 ?_
        refine lv_iconst (v := 2) hx hb dX9_pack_538 (by decide) ?_
        obtain ⟨r86, S87, h88, h⟩ := g_bd h
        refine zx_cv (zx_runV (q := (RX9, TX9, 35)) (As := [.int ((S58 58 0) - ((1 : Int32) <<< ((S58 46 v1.toNatClampNeg) &&& 31))), .int (2 : Int32)]) (rest := []) F hW (c_X9_put l D a cs fu ((S58 58 0) - ((1 : Int32) <<< ((S58 46 v1.toNatClampNeg) &&& 31))) (2 : Int32)  S58 r86 S87 h88) Y_X9_put wi_X9_put ws_X9_put wm_X9_163 ⟨rfl, rfl, Nat.le_of_ble_eq_true rfl, Nat.le_of_ble_eq_true rfl, Nat.le_of_ble_eq_true rfl, Nat.le_of_ble_eq_true rfl⟩ (by decide) zx_E43 rfl rfl hl.1 rfl (Nat.le_of_ble_eq_true rfl) dX9_pack_539) hS (fun H locs hW hS => ?_)
        refine lv_goto (tgt := 556) hx hb dX9_pack_542 (by decide) ?_
        exact k_X9_pack_L556  F hr   v2 v5 S87 h _ _ _ hW hS (lv_sub hl [0, 2, 3] rfl)
    · have h := g_f c53 h
      refine lv_aload_n hx hb dX9_pack_448 rfl (lv_at hl 0 rfl) ?_
      refine zx_get (C := RX9) (T := TX9) (N := 35) F hW wu_X9 (by decide) zx_E43 rfl 5 (by decide) wf_X9_19 rfl dX9_pack_449 ?_
      refine lv_sipush (v := 256) hx hb dX9_pack_452 (by decide) ?_
      refine lv_iload_n hx hb dX9_pack_455 rfl (lv_at hl 1 rfl) ?_
      refine lv_imul hx hb dX9_pack_456 ?_
      refine lv_iload hx hb dX9_pack_457 (lv_at hl 4 rfl) ?_
      refine lv_iadd hx hb dX9_pack_459 ?_
      obtain ⟨c89, h⟩ := g_no h
      refine zx_iald (n := 1792) F hW (by decide) zx_E47 c89 dX9_pack_460 ?_
      refine lv_if_ne (tgt := 467) hx hb dX9_pack_461 (by decide) (fun c90 => ?_) (fun c90 => ?_)
      · have h := g_f c90 h
        refine lv_aload_n hx hb dX9_pack_467 rfl (lv_at hl 0 rfl) ?_
        refine lv_iload hx hb dX9_pack_468 (lv_at hl 4 rfl) ?_
        refine lv_iconst (v := 1) hx hb dX9_pack_470 (by decide) ?_
        obtain ⟨r91, S92, h93, h⟩ := g_bd h
        refine zx_cv (zx_runV (q := (RX9, TX9, 35)) (As := [.int v8, .int (1 : Int32)]) (rest := []) F hW (c_X9_put l D a cs fu v8 (1 : Int32)  S r91 S92 h93) Y_X9_put wi_X9_put ws_X9_put wm_X9_163 ⟨rfl, rfl, Nat.le_of_ble_eq_true rfl, Nat.le_of_ble_eq_true rfl, Nat.le_of_ble_eq_true rfl, Nat.le_of_ble_eq_true rfl⟩ (by decide) zx_E43 rfl rfl hl.1 rfl (Nat.le_of_ble_eq_true rfl) dX9_pack_471) hS (fun H locs hW hS => ?_)
        refine lv_aload_n hx hb dX9_pack_474 rfl (lv_at hl 0 rfl) ?_
        refine lv_aload_n hx hb dX9_pack_475 rfl (lv_at hl 0 rfl) ?_
        refine zx_get (C := RX9) (T := TX9) (N := 35) F hW wu_X9 (by decide) zx_E43 rfl 5 (by decide) wf_X9_19 rfl dX9_pack_476 ?_
        refine lv_sipush (v := 256) hx hb dX9_pack_479 (by decide) ?_
        refine lv_iload_n hx hb dX9_pack_482 rfl (lv_at hl 1 rfl) ?_
        refine lv_imul hx hb dX9_pack_483 ?_
        refine lv_iload hx hb dX9_pack_484 (lv_at hl 4 rfl) ?_
        refine lv_iadd hx hb dX9_pack_486 ?_
        obtain ⟨c94, h⟩ := g_no h
        refine zx_iald (n := 1792) F hW (by decide) zx_E47 c94 dX9_pack_487 ?_
        refine lv_iconst (v := 2) hx hb dX9_pack_488 (by decide) ?_
        obtain ⟨r95, S96, h97, h⟩ := g_bd h
        refine zx_cv (zx_runV (q := (RX9, TX9, 35)) (As := [.int (S92 47 (((256 : Int32) * v1) + v8).toNatClampNeg), .int (2 : Int32)]) (rest := []) F hW (c_X9_put l D a cs fu (S92 47 (((256 : Int32) * v1) + v8).toNatClampNeg) (2 : Int32)  S92 r95 S96 h97) Y_X9_put wi_X9_put ws_X9_put wm_X9_163 ⟨rfl, rfl, Nat.le_of_ble_eq_true rfl, Nat.le_of_ble_eq_true rfl, Nat.le_of_ble_eq_true rfl, Nat.le_of_ble_eq_true rfl⟩ (by decide) zx_E43 rfl rfl hl.1 rfl (Nat.le_of_ble_eq_true rfl) dX9_pack_489) hS (fun H locs hW hS => ?_)
        exact k_X9_pack_L492  F hr ih  v1 v2 v5 v8 S96 h _ _ _ hW hS (lv_sub hl [0, 1, 2, 3, 4] rfl)
      · have h := g_t c90 h
        refine lv_goto (tgt := 492) hx hb dX9_pack_464 (by decide) ?_
        exact k_X9_pack_L492  F hr ih  v1 v2 v5 v8 S h _ _ _ hW hS (lv_sub hl [0, 1, 2, 3, 4] rfl)
set_option maxHeartbeats 4000000 in
set_option maxRecDepth 100000 in
theorem k_X9_pack_L374 {l : Launch} {D : va_G} {a : Nat → Nat} {cs : zx_C} {p : Program} {e : Env} {s : State} {m : MethodId} {below : List Frame} {meth : Method} {c : Code} {fu : Nat} {p0 : Int32} {p1 : Int32} {p2 : Int32}  (F : zx_F D a cs p m c cX9_pack 12 s ([.ref (a 43), .int p0, .int p1, .int p2] : List Value).toArray RX9 meth) (hr : meth.sig.returnType = (some (.int))) {r9 : Int32} {S9 : St}    (v1 : Int32) (v2 : Int32) (v3 : Int32) (v5 : Int32) (v6 : Int32) (t0 : Int32) (t1 : Int32) (S : St) (h : f_X9_pack_L374 fu p0 p1 p2   v1 v2 v3 v5 v6 t0 t1 S = some (r9, S9)) (H : Heap) (locs : List Loc) (ls : Array Slot) (hW : zx_W D a cs S H) (hS : va_S (zx_A a) s.heap H locs) (hl : lv_has ls 12 [(0, .ref (a 43)), (1, .int v1), (2, .int v2), (3, .int v3), (5, .int v5), (6, .int v6)]) : W p l e ({ frames := 4, cells := 0, slots := 0, locals := 103 }) s m ([.ref (a 43), .int p0, .int p1, .int p2] : List Value).toArray below meth c H locs 0 0 (MQ below (zx_Qi D a cs r9 S9) ([.ref (a 43), .int p0, .int p1, .int p2] : List Value).toArray s 0 0 (zx_A a)) (F0 m 374 ls [.int t0, .int t1]) := by
  obtain ⟨⟨hx, hb, hml, hown, hts⟩, hlk, hK, hJ, hN⟩ := id F
  unfold f_X9_pack_L374 at h
  refine lv_iadd hx hb dX9_pack_374 ?_
  refine lv_aload_n hx hb dX9_pack_375 rfl (lv_at hl 0 rfl) ?_
  refine zx_get (C := RX9) (T := TX9) (N := 35) F hW wu_X9 (by decide) zx_E43 rfl 25 (by decide) wf_X9_61 rfl dX9_pack_376 ?_
  refine lv_iconst (v := 4) hx hb dX9_pack_379 (by decide) ?_
  refine zx_iald (n := 6) F hW (by decide) zx_E59 (by unfold vp_in; decide) dX9_pack_380 ?_
  refine zx_nm (z := (S 59 4)) rfl ?_
  refine lv_iadd hx hb dX9_pack_381 ?_
  obtain ⟨x37, ex37, h⟩ := g_pin h
  refine zx_nm ex37 ?_
  refine lv_istore (lv' := [(7, .int x37), (0, .ref (a 43)), (1, .int v1), (2, .int v2), (3, .int v3), (5, .int v5), (6, .int v6)]) hx hb dX9_pack_382 hl (by decide) rfl (fun ls hl => ?_)
  refine lv_iload hx hb dX9_pack_384 (lv_at hl 0 rfl) ?_
  refine lv_sipush (v := 4000) hx hb dX9_pack_386 (by decide) ?_
  refine lv_icmp_le (tgt := 395) hx hb dX9_pack_389 (by decide) (fun c38 => ?_) (fun c38 => ?_)
  · have h := g_t c38 h
    refine lv_aload_n hx hb dX9_pack_395 rfl (lv_at hl 1 rfl) ?_
    refine lv_iconst (v := 0) hx hb dX9_pack_396 (by decide) ?_
    obtain ⟨S39, eS39, h⟩ := g_pin h
    refine zx_putv (C := RX9) (T := TX9) (N := 35) F hW hS wu_X9 tyX9_ok nmX9 (by decide) zx_E43 rfl 3 (by decide) wf_X9_73 rfl (0 : Int32) rfl rfl (Nat.le_of_ble_eq_true rfl) rfl dX9_pack_397 (fun H locs hW hS => ?_)
    have hW : zx_W D a cs S39 H := by rw [eS39]; exact hW
    refine lv_aload_n hx hb dX9_pack_400 rfl (lv_at hl 1 rfl) ?_
    refine lv_bipush (v := 83) hx hb dX9_pack_401 (by decide) ?_
    refine lv_iconst (v := 1) hx hb dX9_pack_403 (by decide) ?_
    obtain ⟨r40, S41, h42, h⟩ := g_bd h
    refine zx_cv (zx_runV (q := (RX9, TX9, 35)) (As := [.int (83 : Int32), .int (1 : Int32)]) (rest := []) F hW (c_X9_put l D a cs fu (83 : Int32) (1 : Int32)  S39 r40 S41 h42) Y_X9_put wi_X9_put ws_X9_put wm_X9_163 ⟨rfl, rfl, Nat.le_of_ble_eq_true rfl, Nat.le_of_ble_eq_true rfl, Nat.le_of_ble_eq_true rfl, Nat.le_of_ble_eq_true rfl⟩ (by decide) zx_E43 rfl rfl hl.1 rfl (Nat.le_of_ble_eq_true rfl) dX9_pack_404) hS (fun H locs hW hS => ?_)
    refine lv_aload_n hx hb dX9_pack_407 rfl (lv_at hl 1 rfl) ?_
    refine lv_iconst (v := 4) hx hb dX9_pack_408 (by decide) ?_
    refine lv_iload_n hx hb dX9_pack_409 rfl (lv_at hl 3 rfl) ?_
    refine lv_imul hx hb dX9_pack_410 ?_
    refine lv_iload_n hx hb dX9_pack_411 rfl (lv_at hl 4 rfl) ?_
    refine lv_iadd hx hb dX9_pack_412 ?_
    refine lv_iconst (v := 1) hx hb dX9_pack_413 (by decide) ?_
    obtain ⟨r43, S44, h45, h⟩ := g_bd h
    refine zx_cv (zx_runV (q := (RX9, TX9, 35)) (As := [.int (((4 : Int32) * v2) + v3), .int (1 : Int32)]) (rest := []) F hW (c_X9_put l D a cs fu (((4 : Int32) * v2) + v3) (1 : Int32)  S41 r43 S44 h45) Y_X9_put wi_X9_put ws_X9_put wm_X9_163 ⟨rfl, rfl, Nat.le_of_ble_eq_true rfl, Nat.le_of_ble_eq_true rfl, Nat.le_of_ble_eq_true rfl, Nat.le_of_ble_eq_true rfl⟩ (by decide) zx_E43 rfl rfl hl.1 rfl (Nat.le_of_ble_eq_true rfl) dX9_pack_414) hS (fun H locs hW hS => ?_)
    refine lv_aload_n hx hb dX9_pack_417 rfl (lv_at hl 1 rfl) ?_
    refine lv_aload_n hx hb dX9_pack_418 rfl (lv_at hl 1 rfl) ?_
    refine zx_get (C := RX9) (T := TX9) (N := 35) F hW wu_X9 (by decide) zx_E43 rfl 4 (by decide) wf_X9_16 rfl dX9_pack_419 ?_
    refine lv_iload_n hx hb dX9_pack_422 rfl (lv_at hl 2 rfl) ?_
    obtain ⟨c46, h⟩ := g_no h
    refine zx_iald (n := 7) F hW (by decide) zx_E46 c46 dX9_pack_423 ?_
    refine lv_iconst (v := 1) hx hb dX9_pack_424 (by decide) ?_
    obtain ⟨r47, S48, h49, h⟩ := g_bd h
    refine zx_cv (zx_runV (q := (RX9, TX9, 35)) (As := [.int (S44 46 v1.toNatClampNeg), .int (1 : Int32)]) (rest := []) F hW (c_X9_put l D a cs fu (S44 46 v1.toNatClampNeg) (1 : Int32)  S44 r47 S48 h49) Y_X9_put wi_X9_put ws_X9_put wm_X9_163 ⟨rfl, rfl, Nat.le_of_ble_eq_true rfl, Nat.le_of_ble_eq_true rfl, Nat.le_of_ble_eq_true rfl, Nat.le_of_ble_eq_true rfl⟩ (by decide) zx_E43 rfl rfl hl.1 rfl (Nat.le_of_ble_eq_true rfl) dX9_pack_425) hS (fun H locs hW hS => ?_)
    refine lv_aload_n hx hb dX9_pack_428 rfl (lv_at hl 1 rfl) ?_
    refine lv_iload hx hb dX9_pack_429 (lv_at hl 6 rfl) ?_
    refine lv_iconst (v := 1) hx hb dX9_pack_431 (by decide) ?_
    refine lv_isub hx hb dX9_pack_432 ?_
    refine lv_iconst (v := 1) hx hb dX9_pack_433 (by decide) ?_
    obtain ⟨r50, S51, h52, h⟩ := g_bd h
    refine zx_cv (zx_runV (q := (RX9, TX9, 35)) (As := [.int (v6 - (1 : Int32)), .int (1 : Int32)]) (rest := []) F hW (c_X9_put l D a cs fu (v6 - (1 : Int32)) (1 : Int32)  S48 r50 S51 h52) Y_X9_put wi_X9_put ws_X9_put wm_X9_163 ⟨rfl, rfl, Nat.le_of_ble_eq_true rfl, Nat.le_of_ble_eq_true rfl, Nat.le_of_ble_eq_true rfl, Nat.le_of_ble_eq_true rfl⟩ (by decide) zx_E43 rfl rfl hl.1 rfl (Nat.le_of_ble_eq_true rfl) dX9_pack_434) hS (fun H locs hW hS => ?_)
    refine lv_iconst (v := 0) hx hb dX9_pack_437 (by decide) ?_
    refine lv_istore (lv' := [(8, .int (0 : Int32)), (7, .int x37), (0, .ref (a 43)), (1, .int v1), (2, .int v2), (3, .int v3), (5, .int v5), (6, .int v6)]) hx hb dX9_pack_438 hl (by decide) rfl (fun ls hl => ?_)
    exact k_X9_pack_L440  F hr   fu v1 v2 v5 (0 : Int32) S51 h _ _ _ hW hS (lv_sub hl [2, 3, 4, 6, 0] rfl)
  · have h := g_f c38 h
    refine lv_bipush (v := -4) hx hb dX9_pack_392 (by decide) ?_
    exact zx_ri F hr hW hS h dX9_pack_394
set_option maxHeartbeats 4000000 in
set_option maxRecDepth 100000 in
theorem k_X9_pack_L339 {l : Launch} {D : va_G} {a : Nat → Nat} {cs : zx_C} {p : Program} {e : Env} {s : State} {m : MethodId} {below : List Frame} {meth : Method} {c : Code} {fu : Nat} {p0 : Int32} {p1 : Int32} {p2 : Int32}  (F : zx_F D a cs p m c cX9_pack 12 s ([.ref (a 43), .int p0, .int p1, .int p2] : List Value).toArray RX9 meth) (hr : meth.sig.returnType = (some (.int))) {r9 : Int32} {S9 : St} {K308 : Int32 → Int32 → Int32 → Int32 → Int32 → Int32 → St → Option (Int32 × St)} (hK308 : ∀ (v1 : Int32) (v2 : Int32) (v3 : Int32) (v5 : Int32) (v6 : Int32) (v7 : Int32) (S : St), K308 v1 v2 v3 v5 v6 v7 S = some (r9, S9) → ∀ (H : Heap) (locs : List Loc) (ls : Array Slot), zx_W D a cs S H → va_S (zx_A a) s.heap H locs → lv_has ls 12 [(0, .ref (a 43)), (1, .int v1), (2, .int v2), (3, .int v3), (5, .int v5), (6, .int v6), (7, .int v7)] → W p l e ({ frames := 4, cells := 0, slots := 0, locals := 103 }) s m ([.ref (a 43), .int p0, .int p1, .int p2] : List Value).toArray below meth c H locs 0 0 (MQ below (zx_Qi D a cs r9 S9) ([.ref (a 43), .int p0, .int p1, .int p2] : List Value).toArray s 0 0 (zx_A a)) (F0 m 308 ls []))  (v1 : Int32) (v2 : Int32) (v3 : Int32) (v5 : Int32) (v7 : Int32) (t0 : Int32) (t1 : Int32) (S : St) (h : f_X9_pack_L339 fu p0 p1 p2 K308  v1 v2 v3 v5 v7 t0 t1 S = some (r9, S9)) (H : Heap) (locs : List Loc) (ls : Array Slot) (hW : zx_W D a cs S H) (hS : va_S (zx_A a) s.heap H locs) (hl : lv_has ls 12 [(0, .ref (a 43)), (1, .int v1), (2, .int v2), (3, .int v3), (5, .int v5), (7, .int v7)]) : W p l e ({ frames := 4, cells := 0, slots := 0, locals := 103 }) s m ([.ref (a 43), .int p0, .int p1, .int p2] : List Value).toArray below meth c H locs 0 0 (MQ below (zx_Qi D a cs r9 S9) ([.ref (a 43), .int p0, .int p1, .int p2] : List Value).toArray s 0 0 (zx_A a)) (F0 m 339 ls [.int t0, .int t1]) := by
  obtain ⟨⟨hx, hb, hml, hown, hts⟩, hlk, hK, hJ, hN⟩ := id F
  unfold f_X9_pack_L339 at h
  refine lv_iadd hx hb dX9_pack_339 ?_
  obtain ⟨x101, ex101, h⟩ := g_pin h
  refine zx_nm ex101 ?_
  refine lv_istore (lv' := [(6, .int x101), (0, .ref (a 43)), (1, .int v1), (2, .int v2), (3, .int v3), (5, .int v5), (7, .int v7)]) hx hb dX9_pack_340 hl (by decide) rfl (fun ls hl => ?_)
  obtain ⟨x102, ex102, h⟩ := g_pin h
  refine lv_iinc (v := x102) (lv' := [(7, .int x102), (6, .int x101), (0, .ref (a 43)), (1, .int v1), (2, .int v2), (3, .int v3), (5, .int v5)]) hx hb dX9_pack_342 hl (k := 6) rfl (by rw [ex102]; rfl) (by decide) rfl (fun ls hl => ?_)
  refine lv_goto (tgt := 308) hx hb dX9_pack_345 (by decide) ?_
  exact hK308 v1 v2 v3 v5 x101 x102 S h _ _ _ hW hS (lv_sub hl [2, 3, 4, 5, 6, 1, 0] rfl)
set_option maxHeartbeats 4000000 in
set_option maxRecDepth 100000 in
theorem k_X9_pack_L308 {l : Launch} {D : va_G} {a : Nat → Nat} {cs : zx_C} {p : Program} {e : Env} {s : State} {m : MethodId} {below : List Frame} {meth : Method} {c : Code} {fu : Nat} {p0 : Int32} {p1 : Int32} {p2 : Int32}  (F : zx_F D a cs p m c cX9_pack 12 s ([.ref (a 43), .int p0, .int p1, .int p2] : List Value).toArray RX9 meth) (hr : meth.sig.returnType = (some (.int))) {r9 : Int32} {S9 : St}    : ∀ (n : Nat) (v1 : Int32) (v2 : Int32) (v3 : Int32) (v5 : Int32) (v6 : Int32) (v7 : Int32) (S : St), f_X9_pack_L308 fu p0 p1 p2   n v1 v2 v3 v5 v6 v7 S = some (r9, S9) → ∀ (H : Heap) (locs : List Loc) (ls : Array Slot), zx_W D a cs S H → va_S (zx_A a) s.heap H locs → lv_has ls 12 [(0, .ref (a 43)), (1, .int v1), (2, .int v2), (3, .int v3), (5, .int v5), (6, .int v6), (7, .int v7)] → W p l e ({ frames := 4, cells := 0, slots := 0, locals := 103 }) s m ([.ref (a 43), .int p0, .int p1, .int p2] : List Value).toArray below meth c H locs 0 0 (MQ below (zx_Qi D a cs r9 S9) ([.ref (a 43), .int p0, .int p1, .int p2] : List Value).toArray s 0 0 (zx_A a)) (F0 m 308 ls []) := by
  obtain ⟨⟨hx, hb, hml, hown, hts⟩, hlk, hK, hJ, hN⟩ := id F
  intro n
  induction n with
  | zero =>
    intro v1 v2 v3 v5 v6 v7 S h
    exact absurd h (fun q => by cases q)
  | succ n ih =>
    intro v1 v2 v3 v5 v6 v7 S h H locs ls hW hS hl
    rw [f_X9_pack_L308_s] at h
    refine lv_iload hx hb dX9_pack_308 (lv_at hl 6 rfl) ?_
    refine lv_sipush (v := 256) hx hb dX9_pack_310 (by decide) ?_
    refine lv_icmp_ge (tgt := 348) hx hb dX9_pack_313 (by decide) (fun c34 => ?_) (fun c34 => ?_)
    · have h := g_t c34 h
      refine lv_bipush (v := 8) hx hb dX9_pack_348 (by decide) ?_
      refine lv_iconst (v := 3) hx hb dX9_pack_350 (by decide) ?_
      refine lv_iload hx hb dX9_pack_351 (lv_at hl 5 rfl) ?_
      refine lv_imul hx hb dX9_pack_353 ?_
      refine lv_iadd hx hb dX9_pack_354 ?_
      refine lv_iload_n hx hb dX9_pack_355 rfl (lv_at hl 2 rfl) ?_
      refine lv_if_ne (tgt := 363) hx hb dX9_pack_356 (by decide) (fun c35 => ?_) (fun c35 => ?_)
      · have h := g_f c35 h
        refine lv_iload_n hx hb dX9_pack_363 rfl (lv_at hl 2 rfl) ?_
        refine lv_iconst (v := 1) hx hb dX9_pack_364 (by decide) ?_
        refine lv_icmp_ne (tgt := 372) hx hb dX9_pack_365 (by decide) (fun c36 => ?_) (fun c36 => ?_)
        · have h := g_f c36 h
          refine lv_bipush (v := 8) hx hb dX9_pack_372 (by decide) ?_
          exact k_X9_pack_L374  F hr   v1 v2 v3 v5 v6 (8 : Int32) ((8 : Int32) + ((3 : Int32) * v6)) S h _ _ _ hW hS (lv_sub hl [0, 1, 2, 3, 4, 5] rfl)
        · have h := g_t c36 h
          refine lv_iconst (v := 4) hx hb dX9_pack_368 (by decide) ?_
          refine lv_goto (tgt := 374) hx hb dX9_pack_369 (by decide) ?_
          exact k_X9_pack_L374  F hr   v1 v2 v3 v5 v6 (4 : Int32) ((8 : Int32) + ((3 : Int32) * v6)) S h _ _ _ hW hS (lv_sub hl [0, 1, 2, 3, 4, 5] rfl)
      · have h := g_t c35 h
        refine lv_iconst (v := 2) hx hb dX9_pack_359 (by decide) ?_
        refine lv_goto (tgt := 374) hx hb dX9_pack_360 (by decide) ?_
        exact k_X9_pack_L374  F hr   v1 v2 v3 v5 v6 (2 : Int32) ((8 : Int32) + ((3 : Int32) * v6)) S h _ _ _ hW hS (lv_sub hl [0, 1, 2, 3, 4, 5] rfl)
    · have h := g_f c34 h
      refine lv_iload hx hb dX9_pack_316 (lv_at hl 5 rfl) ?_
      refine lv_aload_n hx hb dX9_pack_318 rfl (lv_at hl 0 rfl) ?_
      refine zx_get (C := RX9) (T := TX9) (N := 35) F hW wu_X9 (by decide) zx_E43 rfl 5 (by decide) wf_X9_19 rfl dX9_pack_319 ?_
      refine lv_sipush (v := 256) hx hb dX9_pack_322 (by decide) ?_
      refine lv_iload_n hx hb dX9_pack_325 rfl (lv_at hl 1 rfl) ?_
      refine lv_imul hx hb dX9_pack_326 ?_
      refine lv_iload hx hb dX9_pack_327 (lv_at hl 6 rfl) ?_
      refine lv_iadd hx hb dX9_pack_329 ?_
      obtain ⟨c99, h⟩ := g_no h
      refine zx_iald (n := 1792) F hW (by decide) zx_E47 c99 dX9_pack_330 ?_
      refine lv_if_le (tgt := 338) hx hb dX9_pack_331 (by decide) (fun c100 => ?_) (fun c100 => ?_)
      · have h := g_t c100 h
        refine lv_iconst (v := 0) hx hb dX9_pack_338 (by decide) ?_
        exact k_X9_pack_L339  F hr ih  v1 v2 v3 v5 v7 (0 : Int32) v6 S h _ _ _ hW hS (lv_sub hl [0, 1, 2, 3, 4, 6] rfl)
      · have h := g_f c100 h
        refine lv_iconst (v := 1) hx hb dX9_pack_334 (by decide) ?_
        refine lv_goto (tgt := 339) hx hb dX9_pack_335 (by decide) ?_
        exact k_X9_pack_L339  F hr ih  v1 v2 v3 v5 v7 (1 : Int32) v6 S h _ _ _ hW hS (lv_sub hl [0, 1, 2, 3, 4, 6] rfl)
set_option maxHeartbeats 4000000 in
set_option maxRecDepth 100000 in
theorem k_X9_pack_L301 {l : Launch} {D : va_G} {a : Nat → Nat} {cs : zx_C} {p : Program} {e : Env} {s : State} {m : MethodId} {below : List Frame} {meth : Method} {c : Code} {fu : Nat} {p0 : Int32} {p1 : Int32} {p2 : Int32}  (F : zx_F D a cs p m c cX9_pack 12 s ([.ref (a 43), .int p0, .int p1, .int p2] : List Value).toArray RX9 meth) (hr : meth.sig.returnType = (some (.int))) {r9 : Int32} {S9 : St}    (v1 : Int32) (v2 : Int32) (v3 : Int32) (v5 : Int32) (t0 : Int32) (t1 : Int32) (S : St) (h : f_X9_pack_L301 fu p0 p1 p2   v1 v2 v3 v5 t0 t1 S = some (r9, S9)) (H : Heap) (locs : List Loc) (ls : Array Slot) (hW : zx_W D a cs S H) (hS : va_S (zx_A a) s.heap H locs) (hl : lv_has ls 12 [(0, .ref (a 43)), (1, .int v1), (2, .int v2), (3, .int v3), (5, .int v5)]) : W p l e ({ frames := 4, cells := 0, slots := 0, locals := 103 }) s m ([.ref (a 43), .int p0, .int p1, .int p2] : List Value).toArray below meth c H locs 0 0 (MQ below (zx_Qi D a cs r9 S9) ([.ref (a 43), .int p0, .int p1, .int p2] : List Value).toArray s 0 0 (zx_A a)) (F0 m 301 ls [.int t0, .int t1, .ref (a 59)]) := by
  obtain ⟨⟨hx, hb, hml, hown, hts⟩, hlk, hK, hJ, hN⟩ := id F
  unfold f_X9_pack_L301 at h
  obtain ⟨c33, h⟩ := g_no h
  obtain ⟨S32, eS32, h⟩ := g_pin h
  refine zx_iast (n := 6) F hW hS (by decide) (fun f => zx_E59) c33 dX9_pack_301 (fun H locs hW hS => ?_)
  have hW : zx_W D a cs S32 H := by rw [eS32]; exact hW
  refine lv_iconst (v := 0) hx hb dX9_pack_302 (by decide) ?_
  refine lv_istore (lv' := [(6, .int (0 : Int32)), (0, .ref (a 43)), (1, .int v1), (2, .int v2), (3, .int v3), (5, .int v5)]) hx hb dX9_pack_303 hl (by decide) rfl (fun ls hl => ?_)
  refine lv_iconst (v := 0) hx hb dX9_pack_305 (by decide) ?_
  refine lv_istore (lv' := [(7, .int (0 : Int32)), (6, .int (0 : Int32)), (0, .ref (a 43)), (1, .int v1), (2, .int v2), (3, .int v3), (5, .int v5)]) hx hb dX9_pack_306 hl (by decide) rfl (fun ls hl => ?_)
  exact k_X9_pack_L308  F hr   fu v1 v2 v3 v5 (0 : Int32) (0 : Int32) S32 h _ _ _ hW hS (lv_sub hl [2, 3, 4, 5, 6, 1, 0] rfl)
set_option maxHeartbeats 4000000 in
set_option maxRecDepth 100000 in
theorem k_X9_pack_L240 {l : Launch} {D : va_G} {a : Nat → Nat} {cs : zx_C} {p : Program} {e : Env} {s : State} {m : MethodId} {below : List Frame} {meth : Method} {c : Code} {fu : Nat} {p0 : Int32} {p1 : Int32} {p2 : Int32}  (F : zx_F D a cs p m c cX9_pack 12 s ([.ref (a 43), .int p0, .int p1, .int p2] : List Value).toArray RX9 meth) (hr : meth.sig.returnType = (some (.int))) {r9 : Int32} {S9 : St} {K92 : Int32 → Int32 → Int32 → Int32 → Int32 → St → Option (Int32 × St)} (hK92 : ∀ (v1 : Int32) (v2 : Int32) (v3 : Int32) (v5 : Int32) (v6 : Int32) (S : St), K92 v1 v2 v3 v5 v6 S = some (r9, S9) → ∀ (H : Heap) (locs : List Loc) (ls : Array Slot), zx_W D a cs S H → va_S (zx_A a) s.heap H locs → lv_has ls 12 [(0, .ref (a 43)), (1, .int v1), (2, .int v2), (3, .int v3), (5, .int v5), (6, .int v6)] → W p l e ({ frames := 4, cells := 0, slots := 0, locals := 103 }) s m ([.ref (a 43), .int p0, .int p1, .int p2] : List Value).toArray below meth c H locs 0 0 (MQ below (zx_Qi D a cs r9 S9) ([.ref (a 43), .int p0, .int p1, .int p2] : List Value).toArray s 0 0 (zx_A a)) (F0 m 92 ls []))  (v1 : Int32) (v2 : Int32) (v3 : Int32) (v5 : Int32) (v6 : Int32) (t0 : Int32) (t1 : Int32) (S : St) (h : f_X9_pack_L240 fu p0 p1 p2 K92  v1 v2 v3 v5 v6 t0 t1 S = some (r9, S9)) (H : Heap) (locs : List Loc) (ls : Array Slot) (hW : zx_W D a cs S H) (hS : va_S (zx_A a) s.heap H locs) (hl : lv_has ls 12 [(0, .ref (a 43)), (1, .int v1), (2, .int v2), (3, .int v3), (5, .int v5), (6, .int v6)]) : W p l e ({ frames := 4, cells := 0, slots := 0, locals := 103 }) s m ([.ref (a 43), .int p0, .int p1, .int p2] : List Value).toArray below meth c H locs 0 0 (MQ below (zx_Qi D a cs r9 S9) ([.ref (a 43), .int p0, .int p1, .int p2] : List Value).toArray s 0 0 (zx_A a)) (F0 m 240 ls [.int t0, .int t1, .ref (a 59)]) := by
  obtain ⟨⟨hx, hb, hml, hown, hts⟩, hlk, hK, hJ, hN⟩ := id F
  unfold f_X9_pack_L240 at h
  obtain ⟨c118, h⟩ := g_no h
  obtain ⟨S117, eS117, h⟩ := g_pin h
  refine zx_iast (n := 6) F hW hS (by decide) (fun f => zx_E59) c118 dX9_pack_240 (fun H locs hW hS => ?_)
  have hW : zx_W D a cs S117 H := by rw [eS117]; exact hW
  obtain ⟨x119, ex119, h⟩ := g_pin h
  refine lv_iinc (v := x119) (lv' := [(6, .int x119), (0, .ref (a 43)), (1, .int v1), (2, .int v2), (3, .int v3), (5, .int v5)]) hx hb dX9_pack_241 hl (k := 5) rfl (by rw [ex119]; rfl) (by decide) rfl (fun ls hl => ?_)
  refine lv_goto (tgt := 92) hx hb dX9_pack_244 (by decide) ?_
  exact hK92 v1 v2 v3 v5 x119 S117 h _ _ _ hW hS (lv_sub hl [1, 2, 3, 4, 5, 0] rfl)
set_option maxHeartbeats 4000000 in
set_option maxRecDepth 100000 in
theorem k_X9_pack_L148 {l : Launch} {D : va_G} {a : Nat → Nat} {cs : zx_C} {p : Program} {e : Env} {s : State} {m : MethodId} {below : List Frame} {meth : Method} {c : Code} {fu : Nat} {p0 : Int32} {p1 : Int32} {p2 : Int32}  (F : zx_F D a cs p m c cX9_pack 12 s ([.ref (a 43), .int p0, .int p1, .int p2] : List Value).toArray RX9 meth) (hr : meth.sig.returnType = (some (.int))) {r9 : Int32} {S9 : St} {K92 : Int32 → Int32 → Int32 → Int32 → Int32 → St → Option (Int32 × St)} (hK92 : ∀ (v1 : Int32) (v2 : Int32) (v3 : Int32) (v5 : Int32) (v6 : Int32) (S : St), K92 v1 v2 v3 v5 v6 S = some (r9, S9) → ∀ (H : Heap) (locs : List Loc) (ls : Array Slot), zx_W D a cs S H → va_S (zx_A a) s.heap H locs → lv_has ls 12 [(0, .ref (a 43)), (1, .int v1), (2, .int v2), (3, .int v3), (5, .int v5), (6, .int v6)] → W p l e ({ frames := 4, cells := 0, slots := 0, locals := 103 }) s m ([.ref (a 43), .int p0, .int p1, .int p2] : List Value).toArray below meth c H locs 0 0 (MQ below (zx_Qi D a cs r9 S9) ([.ref (a 43), .int p0, .int p1, .int p2] : List Value).toArray s 0 0 (zx_A a)) (F0 m 92 ls []))  : ∀ (n : Nat) (v1 : Int32) (v2 : Int32) (v3 : Int32) (v5 : Int32) (v6 : Int32) (v7 : Int32) (v8 : Int32) (v9 : Int32) (S : St), f_X9_pack_L148 fu p0 p1 p2 K92  n v1 v2 v3 v5 v6 v7 v8 v9 S = some (r9, S9) → ∀ (H : Heap) (locs : List Loc) (ls : Array Slot), zx_W D a cs S H → va_S (zx_A a) s.heap H locs → lv_has ls 12 [(0, .ref (a 43)), (1, .int v1), (2, .int v2), (3, .int v3), (5, .int v5), (6, .int v6), (7, .int v7), (8, .int v8), (9, .int v9)] → W p l e ({ frames := 4, cells := 0, slots := 0, locals := 103 }) s m ([.ref (a 43), .int p0, .int p1, .int p2] : List Value).toArray below meth c H locs 0 0 (MQ below (zx_Qi D a cs r9 S9) ([.ref (a 43), .int p0, .int p1, .int p2] : List Value).toArray s 0 0 (zx_A a)) (F0 m 148 ls []) := by
  obtain ⟨⟨hx, hb, hml, hown, hts⟩, hlk, hK, hJ, hN⟩ := id F
  intro n
  induction n with
  | zero =>
    intro v1 v2 v3 v5 v6 v7 v8 v9 S h
    exact absurd h (fun q => by cases q)
  | succ n ih =>
    intro v1 v2 v3 v5 v6 v7 v8 v9 S h H locs ls hW hS hl
    rw [f_X9_pack_L148_s] at h
    refine lv_iload hx hb dX9_pack_148 (lv_at hl 8 rfl) ?_
    refine lv_aload_n hx hb dX9_pack_150 rfl (lv_at hl 0 rfl) ?_
    refine zx_get (C := RX9) (T := TX9) (N := 35) F hW wu_X9 (by decide) zx_E43 rfl 20 (by decide) wf_X9_109 rfl dX9_pack_151 ?_
    refine lv_icmp_ge (tgt := 190) hx hb dX9_pack_154 (by decide) (fun c110 => ?_) (fun c110 => ?_)
    · have h := g_t c110 h
      refine lv_aload_n hx hb dX9_pack_190 rfl (lv_at hl 0 rfl) ?_
      refine lv_aload_n hx hb dX9_pack_191 rfl (lv_at hl 0 rfl) ?_
      refine zx_get (C := RX9) (T := TX9) (N := 35) F hW wu_X9 (by decide) zx_E43 rfl 22 (by decide) wf_X9_115 rfl dX9_pack_192 ?_
      obtain ⟨r111, S112, h113, h⟩ := g_bd h
      refine zx_cv (zx_runV (q := (RX9, TX9, 35)) (As := [.int (S 43 22)]) (rest := []) F hW (c_X9_meets l D a cs (S 43 22)  S r111 S112 h113) Y_X9_meets wi_X9_meets ws_X9_meets wm_X9_160 ⟨rfl, rfl, Nat.le_of_ble_eq_true rfl, Nat.le_of_ble_eq_true rfl, Nat.le_of_ble_eq_true rfl, Nat.le_of_ble_eq_true rfl⟩ (by decide) zx_E43 rfl rfl hl.1 rfl (Nat.le_of_ble_eq_true rfl) dX9_pack_195) hS (fun H locs hW hS => ?_)
      refine lv_aload_n hx hb dX9_pack_198 rfl (lv_at hl 0 rfl) ?_
      refine zx_get (C := RX9) (T := TX9) (N := 35) F hW wu_X9 (by decide) zx_E43 rfl 24 (by decide) wf_X9_58 rfl dX9_pack_199 ?_
      refine lv_iload hx hb dX9_pack_202 (lv_at hl 6 rfl) ?_
      refine lv_aload_n hx hb dX9_pack_204 rfl (lv_at hl 0 rfl) ?_
      refine zx_get (C := RX9) (T := TX9) (N := 35) F hW wu_X9 (by decide) zx_E43 rfl 22 (by decide) wf_X9_115 rfl dX9_pack_205 ?_
      obtain ⟨c115, h⟩ := g_no h
      obtain ⟨S114, eS114, h⟩ := g_pin h
      refine zx_iast (n := 2) F hW hS (by decide) (fun f => zx_E58) c115 dX9_pack_208 (fun H locs hW hS => ?_)
      have hW : zx_W D a cs S114 H := by rw [eS114]; exact hW
      refine lv_aload_n hx hb dX9_pack_209 rfl (lv_at hl 0 rfl) ?_
      refine zx_get (C := RX9) (T := TX9) (N := 35) F hW wu_X9 (by decide) zx_E43 rfl 25 (by decide) wf_X9_61 rfl dX9_pack_210 ?_
      refine lv_iconst (v := 5) hx hb dX9_pack_213 (by decide) ?_
      refine lv_aload_n hx hb dX9_pack_214 rfl (lv_at hl 0 rfl) ?_
      refine zx_get (C := RX9) (T := TX9) (N := 35) F hW wu_X9 (by decide) zx_E43 rfl 20 (by decide) wf_X9_109 rfl dX9_pack_215 ?_
      refine lv_aload_n hx hb dX9_pack_218 rfl (lv_at hl 0 rfl) ?_
      refine zx_get (C := RX9) (T := TX9) (N := 35) F hW wu_X9 (by decide) zx_E43 rfl 25 (by decide) wf_X9_61 rfl dX9_pack_219 ?_
      refine lv_iconst (v := 5) hx hb dX9_pack_222 (by decide) ?_
      refine zx_iald (n := 6) F hW (by decide) zx_E59 (by unfold vp_in; decide) dX9_pack_223 ?_
      refine zx_nm (z := (S114 59 5)) rfl ?_
      refine lv_icmp_le (tgt := 234) hx hb dX9_pack_224 (by decide) (fun c116 => ?_) (fun c116 => ?_)
      · have h := g_t c116 h
        refine lv_aload_n hx hb dX9_pack_234 rfl (lv_at hl 0 rfl) ?_
        refine zx_get (C := RX9) (T := TX9) (N := 35) F hW wu_X9 (by decide) zx_E43 rfl 25 (by decide) wf_X9_61 rfl dX9_pack_235 ?_
        refine lv_iconst (v := 5) hx hb dX9_pack_238 (by decide) ?_
        refine zx_iald (n := 6) F hW (by decide) zx_E59 (by unfold vp_in; decide) dX9_pack_239 ?_
        refine zx_nm (z := (S114 59 5)) rfl ?_
        exact k_X9_pack_L240  F hr hK92  v1 v2 v3 v5 v6 (S114 59 5) (5 : Int32) S114 h _ _ _ hW hS (lv_sub hl [0, 1, 2, 3, 4, 5] rfl)
      · have h := g_f c116 h
        refine lv_aload_n hx hb dX9_pack_227 rfl (lv_at hl 0 rfl) ?_
        refine zx_get (C := RX9) (T := TX9) (N := 35) F hW wu_X9 (by decide) zx_E43 rfl 20 (by decide) wf_X9_109 rfl dX9_pack_228 ?_
        refine lv_goto (tgt := 240) hx hb dX9_pack_231 (by decide) ?_
        exact k_X9_pack_L240  F hr hK92  v1 v2 v3 v5 v6 (S114 43 20) (5 : Int32) S114 h _ _ _ hW hS (lv_sub hl [0, 1, 2, 3, 4, 5] rfl)
    · have h := g_f c110 h
      obtain ⟨x120, ex120, h⟩ := g_pin h
      refine lv_iinc (v := x120) (lv' := [(5, .int x120), (0, .ref (a 43)), (1, .int v1), (2, .int v2), (3, .int v3), (6, .int v6), (7, .int v7), (8, .int v8), (9, .int v9)]) hx hb dX9_pack_157 hl (k := 4) rfl (by rw [ex120]; rfl) (by decide) rfl (fun ls hl => ?_)
      refine lv_aload_n hx hb dX9_pack_160 rfl (lv_at hl 1 rfl) ?_
      refine zx_get (C := RX9) (T := TX9) (N := 35) F hW wu_X9 (by decide) zx_E43 rfl 23 (by decide) wf_X9_55 rfl dX9_pack_161 ?_
      refine lv_iload hx hb dX9_pack_164 (lv_at hl 0 rfl) ?_
      refine lv_aload_n hx hb dX9_pack_166 rfl (lv_at hl 1 rfl) ?_
      refine zx_get (C := RX9) (T := TX9) (N := 35) F hW wu_X9 (by decide) zx_E43 rfl 21 (by decide) wf_X9_112 rfl dX9_pack_167 ?_
      refine lv_iload hx hb dX9_pack_170 (lv_at hl 7 rfl) ?_
      refine lv_iload hx hb dX9_pack_172 (lv_at hl 8 rfl) ?_
      refine lv_imul hx hb dX9_pack_174 ?_
      refine lv_ishr hx hb dX9_pack_175 ?_
      refine lv_iconst (v := 1) hx hb dX9_pack_176 (by decide) ?_
      refine lv_iload hx hb dX9_pack_177 (lv_at hl 7 rfl) ?_
      refine lv_ishl hx hb dX9_pack_179 ?_
      refine lv_iconst (v := 1) hx hb dX9_pack_180 (by decide) ?_
      refine lv_isub hx hb dX9_pack_181 ?_
      refine lv_iand hx hb dX9_pack_182 ?_
      obtain ⟨c122, h⟩ := g_no h
      obtain ⟨S121, eS121, h⟩ := g_pin h
      refine zx_iast (n := 17000) F hW hS (by decide) (fun f => zx_E57) c122 dX9_pack_183 (fun H locs hW hS => ?_)
      have hW : zx_W D a cs S121 H := by rw [eS121]; exact hW
      obtain ⟨x123, ex123, h⟩ := g_pin h
      refine lv_iinc (v := x123) (lv' := [(9, .int x123), (5, .int x120), (0, .ref (a 43)), (1, .int v1), (2, .int v2), (3, .int v3), (6, .int v6), (7, .int v7), (8, .int v8)]) hx hb dX9_pack_184 hl (k := 8) rfl (by rw [ex123]; rfl) (by decide) rfl (fun ls hl => ?_)
      refine lv_goto (tgt := 148) hx hb dX9_pack_187 (by decide) ?_
      exact ih v1 v2 v3 x120 v6 v7 v8 x123 S121 h _ _ _ hW hS (lv_sub hl [2, 3, 4, 5, 1, 6, 7, 8, 0] rfl)
set_option maxHeartbeats 4000000 in
set_option maxRecDepth 100000 in
theorem k_X9_pack_L143 {l : Launch} {D : va_G} {a : Nat → Nat} {cs : zx_C} {p : Program} {e : Env} {s : State} {m : MethodId} {below : List Frame} {meth : Method} {c : Code} {fu : Nat} {p0 : Int32} {p1 : Int32} {p2 : Int32}  (F : zx_F D a cs p m c cX9_pack 12 s ([.ref (a 43), .int p0, .int p1, .int p2] : List Value).toArray RX9 meth) (hr : meth.sig.returnType = (some (.int))) {r9 : Int32} {S9 : St} {K92 : Int32 → Int32 → Int32 → Int32 → Int32 → St → Option (Int32 × St)} (hK92 : ∀ (v1 : Int32) (v2 : Int32) (v3 : Int32) (v5 : Int32) (v6 : Int32) (S : St), K92 v1 v2 v3 v5 v6 S = some (r9, S9) → ∀ (H : Heap) (locs : List Loc) (ls : Array Slot), zx_W D a cs S H → va_S (zx_A a) s.heap H locs → lv_has ls 12 [(0, .ref (a 43)), (1, .int v1), (2, .int v2), (3, .int v3), (5, .int v5), (6, .int v6)] → W p l e ({ frames := 4, cells := 0, slots := 0, locals := 103 }) s m ([.ref (a 43), .int p0, .int p1, .int p2] : List Value).toArray below meth c H locs 0 0 (MQ below (zx_Qi D a cs r9 S9) ([.ref (a 43), .int p0, .int p1, .int p2] : List Value).toArray s 0 0 (zx_A a)) (F0 m 92 ls []))  (v1 : Int32) (v2 : Int32) (v3 : Int32) (v5 : Int32) (v6 : Int32) (v7 : Int32) (t0 : Int32) (S : St) (h : f_X9_pack_L143 fu p0 p1 p2 K92  v1 v2 v3 v5 v6 v7 t0 S = some (r9, S9)) (H : Heap) (locs : List Loc) (ls : Array Slot) (hW : zx_W D a cs S H) (hS : va_S (zx_A a) s.heap H locs) (hl : lv_has ls 12 [(0, .ref (a 43)), (1, .int v1), (2, .int v2), (3, .int v3), (5, .int v5), (6, .int v6), (7, .int v7)]) : W p l e ({ frames := 4, cells := 0, slots := 0, locals := 103 }) s m ([.ref (a 43), .int p0, .int p1, .int p2] : List Value).toArray below meth c H locs 0 0 (MQ below (zx_Qi D a cs r9 S9) ([.ref (a 43), .int p0, .int p1, .int p2] : List Value).toArray s 0 0 (zx_A a)) (F0 m 143 ls [.int t0]) := by
  obtain ⟨⟨hx, hb, hml, hown, hts⟩, hlk, hK, hJ, hN⟩ := id F
  unfold f_X9_pack_L143 at h
  refine lv_istore (lv' := [(8, .int t0), (0, .ref (a 43)), (1, .int v1), (2, .int v2), (3, .int v3), (5, .int v5), (6, .int v6), (7, .int v7)]) hx hb dX9_pack_143 hl (by decide) rfl (fun ls hl => ?_)
  refine lv_iconst (v := 0) hx hb dX9_pack_145 (by decide) ?_
  refine lv_istore (lv' := [(9, .int (0 : Int32)), (8, .int t0), (0, .ref (a 43)), (1, .int v1), (2, .int v2), (3, .int v3), (5, .int v5), (6, .int v6), (7, .int v7)]) hx hb dX9_pack_146 hl (by decide) rfl (fun ls hl => ?_)
  exact k_X9_pack_L148  F hr hK92  fu v1 v2 v3 v5 v6 v7 t0 (0 : Int32) S h _ _ _ hW hS (lv_sub hl [2, 3, 4, 5, 6, 7, 8, 1, 0] rfl)
set_option maxHeartbeats 4000000 in
set_option maxRecDepth 100000 in
theorem k_X9_pack_L110 {l : Launch} {D : va_G} {a : Nat → Nat} {cs : zx_C} {p : Program} {e : Env} {s : State} {m : MethodId} {below : List Frame} {meth : Method} {c : Code} {fu : Nat} {p0 : Int32} {p1 : Int32} {p2 : Int32}  (F : zx_F D a cs p m c cX9_pack 12 s ([.ref (a 43), .int p0, .int p1, .int p2] : List Value).toArray RX9 meth) (hr : meth.sig.returnType = (some (.int))) {r9 : Int32} {S9 : St} {K92 : Int32 → Int32 → Int32 → Int32 → Int32 → St → Option (Int32 × St)} (hK92 : ∀ (v1 : Int32) (v2 : Int32) (v3 : Int32) (v5 : Int32) (v6 : Int32) (S : St), K92 v1 v2 v3 v5 v6 S = some (r9, S9) → ∀ (H : Heap) (locs : List Loc) (ls : Array Slot), zx_W D a cs S H → va_S (zx_A a) s.heap H locs → lv_has ls 12 [(0, .ref (a 43)), (1, .int v1), (2, .int v2), (3, .int v3), (5, .int v5), (6, .int v6)] → W p l e ({ frames := 4, cells := 0, slots := 0, locals := 103 }) s m ([.ref (a 43), .int p0, .int p1, .int p2] : List Value).toArray below meth c H locs 0 0 (MQ below (zx_Qi D a cs r9 S9) ([.ref (a 43), .int p0, .int p1, .int p2] : List Value).toArray s 0 0 (zx_A a)) (F0 m 92 ls []))  (v1 : Int32) (v2 : Int32) (v3 : Int32) (v5 : Int32) (v6 : Int32) (t0 : Int32) (S : St) (h : f_X9_pack_L110 fu p0 p1 p2 K92  v1 v2 v3 v5 v6 t0 S = some (r9, S9)) (H : Heap) (locs : List Loc) (ls : Array Slot) (hW : zx_W D a cs S H) (hS : va_S (zx_A a) s.heap H locs) (hl : lv_has ls 12 [(0, .ref (a 43)), (1, .int v1), (2, .int v2), (3, .int v3), (5, .int v5), (6, .int v6)]) : W p l e ({ frames := 4, cells := 0, slots := 0, locals := 103 }) s m ([.ref (a 43), .int p0, .int p1, .int p2] : List Value).toArray below meth c H locs 0 0 (MQ below (zx_Qi D a cs r9 S9) ([.ref (a 43), .int p0, .int p1, .int p2] : List Value).toArray s 0 0 (zx_A a)) (F0 m 110 ls [.int t0]) := by
  obtain ⟨⟨hx, hb, hml, hown, hts⟩, hlk, hK, hJ, hN⟩ := id F
  unfold f_X9_pack_L110 at h
  refine lv_istore (lv' := [(7, .int t0), (0, .ref (a 43)), (1, .int v1), (2, .int v2), (3, .int v3), (5, .int v5), (6, .int v6)]) hx hb dX9_pack_110 hl (by decide) rfl (fun ls hl => ?_)
  refine lv_aload_n hx hb dX9_pack_112 rfl (lv_at hl 1 rfl) ?_
  refine lv_iload_n hx hb dX9_pack_113 rfl (lv_at hl 2 rfl) ?_
  refine lv_iload_n hx hb dX9_pack_114 rfl (lv_at hl 3 rfl) ?_
  refine lv_iload_n hx hb dX9_pack_115 rfl (lv_at hl 4 rfl) ?_
  refine lv_aload_n hx hb dX9_pack_116 rfl (lv_at hl 1 rfl) ?_
  refine zx_get (C := RX9) (T := TX9) (N := 35) F hW wu_X9 (by decide) zx_E43 rfl 24 (by decide) wf_X9_58 rfl dX9_pack_117 ?_
  refine lv_iload hx hb dX9_pack_120 (lv_at hl 0 rfl) ?_
  obtain ⟨c104, h⟩ := g_no h
  refine zx_iald (n := 2) F hW (by decide) zx_E58 c104 dX9_pack_122 ?_
  refine lv_aload_n hx hb dX9_pack_123 rfl (lv_at hl 1 rfl) ?_
  refine zx_get (C := RX9) (T := TX9) (N := 35) F hW wu_X9 (by decide) zx_E43 rfl 0 (by decide) wf_X9_7 rfl dX9_pack_124 ?_
  refine lv_iload hx hb dX9_pack_127 (lv_at hl 6 rfl) ?_
  obtain ⟨c105, h⟩ := g_no h
  refine zx_iald (n := 4000) F hW (by decide) zx_E44 c105 dX9_pack_129 ?_
  obtain ⟨r106, S107, h108, h⟩ := g_bd h
  refine zx_cv (zx_runV (q := (RX9, TX9, 35)) (As := [.int v1, .int v2, .int v3, .int (S 58 t0.toNatClampNeg), .int (S 44 v6.toNatClampNeg)]) (rest := []) F hW (c_X9_step l D a cs fu v1 v2 v3 (S 58 t0.toNatClampNeg) (S 44 v6.toNatClampNeg)  S r106 S107 h108) Y_X9_step wi_X9_step ws_X9_step wm_X9_130 ⟨rfl, rfl, Nat.le_of_ble_eq_true rfl, Nat.le_of_ble_eq_true rfl, Nat.le_of_ble_eq_true rfl, Nat.le_of_ble_eq_true rfl⟩ (by decide) zx_E43 rfl rfl hl.1 rfl (Nat.le_of_ble_eq_true rfl) dX9_pack_130) hS (fun H locs hW hS => ?_)
  refine lv_iload_n hx hb dX9_pack_133 rfl (lv_at hl 3 rfl) ?_
  refine lv_if_ne (tgt := 141) hx hb dX9_pack_134 (by decide) (fun c109 => ?_) (fun c109 => ?_)
  · have h := g_f c109 h
    refine lv_bipush (v := 8) hx hb dX9_pack_141 (by decide) ?_
    exact k_X9_pack_L143  F hr hK92  v1 v2 v3 v5 v6 t0 (8 : Int32) S107 h _ _ _ hW hS (lv_sub hl [1, 2, 3, 4, 5, 6, 0] rfl)
  · have h := g_t c109 h
    refine lv_iconst (v := 1) hx hb dX9_pack_137 (by decide) ?_
    refine lv_goto (tgt := 143) hx hb dX9_pack_138 (by decide) ?_
    exact k_X9_pack_L143  F hr hK92  v1 v2 v3 v5 v6 t0 (1 : Int32) S107 h _ _ _ hW hS (lv_sub hl [1, 2, 3, 4, 5, 6, 0] rfl)
set_option maxHeartbeats 4000000 in
set_option maxRecDepth 100000 in
theorem k_X9_pack_L92 {l : Launch} {D : va_G} {a : Nat → Nat} {cs : zx_C} {p : Program} {e : Env} {s : State} {m : MethodId} {below : List Frame} {meth : Method} {c : Code} {fu : Nat} {p0 : Int32} {p1 : Int32} {p2 : Int32}  (F : zx_F D a cs p m c cX9_pack 12 s ([.ref (a 43), .int p0, .int p1, .int p2] : List Value).toArray RX9 meth) (hr : meth.sig.returnType = (some (.int))) {r9 : Int32} {S9 : St}    : ∀ (n : Nat) (v1 : Int32) (v2 : Int32) (v3 : Int32) (v5 : Int32) (v6 : Int32) (S : St), f_X9_pack_L92 fu p0 p1 p2   n v1 v2 v3 v5 v6 S = some (r9, S9) → ∀ (H : Heap) (locs : List Loc) (ls : Array Slot), zx_W D a cs S H → va_S (zx_A a) s.heap H locs → lv_has ls 12 [(0, .ref (a 43)), (1, .int v1), (2, .int v2), (3, .int v3), (5, .int v5), (6, .int v6)] → W p l e ({ frames := 4, cells := 0, slots := 0, locals := 103 }) s m ([.ref (a 43), .int p0, .int p1, .int p2] : List Value).toArray below meth c H locs 0 0 (MQ below (zx_Qi D a cs r9 S9) ([.ref (a 43), .int p0, .int p1, .int p2] : List Value).toArray s 0 0 (zx_A a)) (F0 m 92 ls []) := by
  obtain ⟨⟨hx, hb, hml, hown, hts⟩, hlk, hK, hJ, hN⟩ := id F
  intro n
  induction n with
  | zero =>
    intro v1 v2 v3 v5 v6 S h
    exact absurd h (fun q => by cases q)
  | succ n ih =>
    intro v1 v2 v3 v5 v6 S h H locs ls hW hS hl
    rw [f_X9_pack_L92_s] at h
    refine lv_iload hx hb dX9_pack_92 (lv_at hl 5 rfl) ?_
    refine lv_if_lt (tgt := 247) hx hb dX9_pack_94 (by decide) (fun c28 => ?_) (fun c28 => ?_)
    · have h := g_t c28 h
      refine lv_aload_n hx hb dX9_pack_247 rfl (lv_at hl 0 rfl) ?_
      refine zx_get (C := RX9) (T := TX9) (N := 35) F hW wu_X9 (by decide) zx_E43 rfl 25 (by decide) wf_X9_61 rfl dX9_pack_248 ?_
      refine lv_iconst (v := 2) hx hb dX9_pack_251 (by decide) ?_
      refine lv_aload_n hx hb dX9_pack_252 rfl (lv_at hl 0 rfl) ?_
      refine zx_get (C := RX9) (T := TX9) (N := 35) F hW wu_X9 (by decide) zx_E43 rfl 1 (by decide) wf_X9_70 rfl dX9_pack_253 ?_
      obtain ⟨S29, eS29, h⟩ := g_pin h
      refine zx_iast (n := 6) F hW hS (by decide) (fun f => zx_E59) (by unfold vp_in; decide) dX9_pack_256 (fun H locs hW hS => ?_)
      have hW : zx_W D a cs S29 H := by rw [eS29]; exact hW
      refine lv_aload_n hx hb dX9_pack_257 rfl (lv_at hl 0 rfl) ?_
      refine zx_get (C := RX9) (T := TX9) (N := 35) F hW wu_X9 (by decide) zx_E43 rfl 25 (by decide) wf_X9_61 rfl dX9_pack_258 ?_
      refine lv_iconst (v := 3) hx hb dX9_pack_261 (by decide) ?_
      refine lv_aload_n hx hb dX9_pack_262 rfl (lv_at hl 0 rfl) ?_
      refine zx_get (C := RX9) (T := TX9) (N := 35) F hW wu_X9 (by decide) zx_E43 rfl 23 (by decide) wf_X9_55 rfl dX9_pack_263 ?_
      refine zx_alen (v := (17000 : Int32)) F hW (by decide) zx_E57 (by decide) dX9_pack_266 ?_
      refine lv_iload hx hb dX9_pack_267 (lv_at hl 4 rfl) ?_
      refine lv_isub hx hb dX9_pack_269 ?_
      obtain ⟨S30, eS30, h⟩ := g_pin h
      refine zx_iast (n := 6) F hW hS (by decide) (fun f => zx_E59) (by unfold vp_in; decide) dX9_pack_270 (fun H locs hW hS => ?_)
      have hW : zx_W D a cs S30 H := by rw [eS30]; exact hW
      refine lv_aload_n hx hb dX9_pack_271 rfl (lv_at hl 0 rfl) ?_
      refine zx_get (C := RX9) (T := TX9) (N := 35) F hW wu_X9 (by decide) zx_E43 rfl 25 (by decide) wf_X9_61 rfl dX9_pack_272 ?_
      refine lv_iconst (v := 4) hx hb dX9_pack_275 (by decide) ?_
      refine lv_iload_n hx hb dX9_pack_276 rfl (lv_at hl 2 rfl) ?_
      refine lv_if_ne (tgt := 295) hx hb dX9_pack_277 (by decide) (fun c31 => ?_) (fun c31 => ?_)
      · have h := g_f c31 h
        refine lv_aload_n hx hb dX9_pack_295 rfl (lv_at hl 0 rfl) ?_
        refine zx_get (C := RX9) (T := TX9) (N := 35) F hW wu_X9 (by decide) zx_E43 rfl 25 (by decide) wf_X9_61 rfl dX9_pack_296 ?_
        refine lv_iconst (v := 3) hx hb dX9_pack_299 (by decide) ?_
        refine zx_iald (n := 6) F hW (by decide) zx_E59 (by unfold vp_in; decide) dX9_pack_300 ?_
        refine zx_nm (z := (S30 59 3)) rfl ?_
        exact k_X9_pack_L301  F hr   v1 v2 v3 v5 (S30 59 3) (4 : Int32) S30 h _ _ _ hW hS (lv_sub hl [0, 1, 2, 3, 4] rfl)
      · have h := g_t c31 h
        refine lv_aload_n hx hb dX9_pack_280 rfl (lv_at hl 0 rfl) ?_
        refine zx_get (C := RX9) (T := TX9) (N := 35) F hW wu_X9 (by decide) zx_E43 rfl 25 (by decide) wf_X9_61 rfl dX9_pack_281 ?_
        refine lv_iconst (v := 3) hx hb dX9_pack_284 (by decide) ?_
        refine zx_iald (n := 6) F hW (by decide) zx_E59 (by unfold vp_in; decide) dX9_pack_285 ?_
        refine zx_nm (z := (S30 59 3)) rfl ?_
        refine lv_bipush (v := 7) hx hb dX9_pack_286 (by decide) ?_
        refine lv_iadd hx hb dX9_pack_288 ?_
        refine lv_bipush (v := 8) hx hb dX9_pack_289 (by decide) ?_
        refine lv_idiv hx hb dX9_pack_291 (by decide) ?_
        refine lv_goto (tgt := 301) hx hb dX9_pack_292 (by decide) ?_
        exact k_X9_pack_L301  F hr   v1 v2 v3 v5 (((S30 59 3) + (7 : Int32)) / (8 : Int32)) (4 : Int32) S30 h _ _ _ hW hS (lv_sub hl [0, 1, 2, 3, 4] rfl)
    · have h := g_f c28 h
      refine lv_iload_n hx hb dX9_pack_97 rfl (lv_at hl 2 rfl) ?_
      refine lv_iconst (v := 2) hx hb dX9_pack_98 (by decide) ?_
      refine lv_icmp_ne (tgt := 109) hx hb dX9_pack_99 (by decide) (fun c103 => ?_) (fun c103 => ?_)
      · have h := g_f c103 h
        refine lv_iconst (v := 0) hx hb dX9_pack_109 (by decide) ?_
        exact k_X9_pack_L110  F hr ih  v1 v2 v3 v5 v6 (0 : Int32) S h _ _ _ hW hS (lv_sub hl [0, 1, 2, 3, 4, 5] rfl)
      · have h := g_t c103 h
        refine lv_iload hx hb dX9_pack_102 (lv_at hl 5 rfl) ?_
        refine lv_iconst (v := 2) hx hb dX9_pack_104 (by decide) ?_
        refine lv_irem hx hb dX9_pack_105 (by decide) ?_
        refine lv_goto (tgt := 110) hx hb dX9_pack_106 (by decide) ?_
        exact k_X9_pack_L110  F hr ih  v1 v2 v3 v5 v6 (v6 - v6 / (2 : Int32) * (2 : Int32)) S h _ _ _ hW hS (lv_sub hl [0, 1, 2, 3, 4, 5] rfl)
set_option maxHeartbeats 4000000 in
set_option maxRecDepth 100000 in
theorem c_X9_pack (l : Launch) (D : va_G) (a : Nat → Nat) (cs : zx_C) (fu : Nat) (p0 : Int32) (p1 : Int32) (p2 : Int32)  (S : St) (r9 : Int32) (S9 : St) (h : f_X9_pack fu p0 p1 p2 S = some (r9, S9)) : Met l yX9_pack (Cond.code yX9_pack cX9_pack 12 (some (.int)) :: zx_tb) ({ frames := 4, cells := 0, slots := 0, locals := 103 }) (zx_P D a cs [.ref (a 43), .int p0, .int p1, .int p2] S) (zx_Qi D a cs r9 S9) 0 0 (zx_A a) := by
  refine zx_met (own := RX9) (by decide) (Nat.le_of_ble_eq_true rfl) rfl ?_
  intro p e s m below meth c ls F hr hW hS hl
  have hl : lv_has ls 12 [(0, .ref (a 43)), (1, .int p0), (2, .int p1), (3, .int p2)] := hl
  obtain ⟨⟨hx, hb, hml, hown, hts⟩, hlk, hK, hJ, hN⟩ := id F
  unfold f_X9_pack at h
  refine lv_aload_n hx hb dX9_pack_0 rfl (lv_at hl 0 rfl) ?_
  refine lv_iload_n hx hb dX9_pack_1 rfl (lv_at hl 1 rfl) ?_
  obtain ⟨r1, S2, h3, h⟩ := g_bd h
  refine zx_ci (zx_runV (q := (RX9, TX9, 35)) (As := [.int p0]) (rest := []) F hW (c_X9_isTable l D a cs p0  S r1 S2 h3) Y_X9_isTable wi_X9_isTable ws_X9_isTable wm_X9_84 ⟨rfl, rfl, Nat.le_of_ble_eq_true rfl, Nat.le_of_ble_eq_true rfl, Nat.le_of_ble_eq_true rfl, Nat.le_of_ble_eq_true rfl⟩ (by decide) zx_E43 rfl rfl hl.1 rfl (Nat.le_of_ble_eq_true rfl) dX9_pack_2) hS (fun H locs hW hS => ?_)
  refine lv_if_eq (tgt := 16) hx hb dX9_pack_5 (by decide) (fun c4 => ?_) (fun c4 => ?_)
  · have h := g_t c4 h
    refine lv_iconst (v := -1) hx hb dX9_pack_16 (by decide) ?_
    exact zx_ri F hr hW hS h dX9_pack_17
  · have h := g_f c4 h
    refine lv_iload_n hx hb dX9_pack_8 rfl (lv_at hl 2 rfl) ?_
    refine lv_iload_n hx hb dX9_pack_9 rfl (lv_at hl 3 rfl) ?_
    obtain ⟨r5, S6, h7, h⟩ := g_bd h
    refine zx_ci (zx_runS (As := [.int p1, .int p2]) (rest := []) F hW (c_X9_isWay l D a cs p1 p2  S2 r5 S6 h7) Y_X9_isWay wt_X9_isWay wm_X9_119 ⟨rfl, rfl, Nat.le_of_ble_eq_true rfl, Nat.le_of_ble_eq_true rfl, Nat.le_of_ble_eq_true rfl, Nat.le_of_ble_eq_true rfl⟩ rfl hl.1 rfl (Nat.le_of_ble_eq_true rfl) dX9_pack_10) hS (fun H locs hW hS => ?_)
    refine lv_if_ne (tgt := 18) hx hb dX9_pack_13 (by decide) (fun c8 => ?_) (fun c8 => ?_)
    · have h := g_f c8 h
      refine lv_aload_n hx hb dX9_pack_18 rfl (lv_at hl 0 rfl) ?_
      refine lv_iload_n hx hb dX9_pack_19 rfl (lv_at hl 1 rfl) ?_
      obtain ⟨r9, S10, h11, h⟩ := g_bd h
      refine zx_ci (zx_runV (q := (RX9, TX9, 35)) (As := [.int p0]) (rest := []) F hW (c_X9_refusal l D a cs fu p0  S6 r9 S10 h11) Y_X9_refusal wi_X9_refusal ws_X9_refusal wm_X9_149 ⟨rfl, rfl, Nat.le_of_ble_eq_true rfl, Nat.le_of_ble_eq_true rfl, Nat.le_of_ble_eq_true rfl, Nat.le_of_ble_eq_true rfl⟩ (by decide) zx_E43 rfl rfl hl.1 rfl (Nat.le_of_ble_eq_true rfl) dX9_pack_20) hS (fun H locs hW hS => ?_)
      refine lv_istore (lv' := [(4, .int r9), (0, .ref (a 43)), (1, .int p0), (2, .int p1), (3, .int p2)]) hx hb dX9_pack_23 hl (by decide) rfl (fun ls hl => ?_)
      refine lv_iload hx hb dX9_pack_25 (lv_at hl 0 rfl) ?_
      refine lv_if_ge (tgt := 33) hx hb dX9_pack_27 (by decide) (fun c12 => ?_) (fun c12 => ?_)
      · have h := g_t c12 h
        refine lv_aload_n hx hb dX9_pack_33 rfl (lv_at hl 1 rfl) ?_
        refine lv_iload_n hx hb dX9_pack_34 rfl (lv_at hl 2 rfl) ?_
        refine lv_iload_n hx hb dX9_pack_35 rfl (lv_at hl 4 rfl) ?_
        obtain ⟨r13, S14, h15, h⟩ := g_bd h
        refine zx_cv (zx_runV (q := (RX9, TX9, 35)) (As := [.int p0, .int p2]) (rest := []) F hW (c_X9_lay l D a cs fu p0 p2  S10 r13 S14 h15) Y_X9_lay wi_X9_lay ws_X9_lay wm_X9_106 ⟨rfl, rfl, Nat.le_of_ble_eq_true rfl, Nat.le_of_ble_eq_true rfl, Nat.le_of_ble_eq_true rfl, Nat.le_of_ble_eq_true rfl⟩ (by decide) zx_E43 rfl rfl hl.1 rfl (Nat.le_of_ble_eq_true rfl) dX9_pack_36) hS (fun H locs hW hS => ?_)
        refine lv_aload_n hx hb dX9_pack_39 rfl (lv_at hl 1 rfl) ?_
        obtain ⟨r16, S17, h18, h⟩ := g_bd h
        refine zx_cv (zx_runV (q := (RX9, TX9, 35)) (As := []) (rest := []) F hW (c_X9_meetsNone l D a cs   S14 r16 S17 h18) Y_X9_meetsNone wi_X9_meetsNone ws_X9_meetsNone wm_X9_153 ⟨rfl, rfl, Nat.le_of_ble_eq_true rfl, Nat.le_of_ble_eq_true rfl, Nat.le_of_ble_eq_true rfl, Nat.le_of_ble_eq_true rfl⟩ (by decide) zx_E43 rfl rfl hl.1 rfl (Nat.le_of_ble_eq_true rfl) dX9_pack_40) hS (fun H locs hW hS => ?_)
        refine lv_aload_n hx hb dX9_pack_43 rfl (lv_at hl 1 rfl) ?_
        refine zx_get (C := RX9) (T := TX9) (N := 35) F hW wu_X9 (by decide) zx_E43 rfl 24 (by decide) wf_X9_58 rfl dX9_pack_44 ?_
        refine lv_iconst (v := 0) hx hb dX9_pack_47 (by decide) ?_
        refine lv_aload_n hx hb dX9_pack_48 rfl (lv_at hl 1 rfl) ?_
        refine lv_iload_n hx hb dX9_pack_49 rfl (lv_at hl 2 rfl) ?_
        refine lv_iload_n hx hb dX9_pack_50 rfl (lv_at hl 3 rfl) ?_
        obtain ⟨r19, S20, h21, h⟩ := g_bd h
        refine zx_ci (zx_runV (q := (RX9, TX9, 35)) (As := [.int p0, .int p1]) (rest := [.int (0 : Int32), .ref (a 58)]) F hW (c_X9_firstOf l D a cs p0 p1  S17 r19 S20 h21) Y_X9_firstOf wi_X9_firstOf ws_X9_firstOf wm_X9_156 ⟨rfl, rfl, Nat.le_of_ble_eq_true rfl, Nat.le_of_ble_eq_true rfl, Nat.le_of_ble_eq_true rfl, Nat.le_of_ble_eq_true rfl⟩ (by decide) zx_E43 rfl rfl hl.1 rfl (Nat.le_of_ble_eq_true rfl) dX9_pack_51) hS (fun H locs hW hS => ?_)
        obtain ⟨S22, eS22, h⟩ := g_pin h
        refine zx_iast (n := 2) F hW hS (by decide) (fun f => zx_E58) (by unfold vp_in; decide) dX9_pack_54 (fun H locs hW hS => ?_)
        have hW : zx_W D a cs S22 H := by rw [eS22]; exact hW
        refine lv_aload_n hx hb dX9_pack_55 rfl (lv_at hl 1 rfl) ?_
        refine zx_get (C := RX9) (T := TX9) (N := 35) F hW wu_X9 (by decide) zx_E43 rfl 24 (by decide) wf_X9_58 rfl dX9_pack_56 ?_
        refine lv_iconst (v := 1) hx hb dX9_pack_59 (by decide) ?_
        refine lv_aload_n hx hb dX9_pack_60 rfl (lv_at hl 1 rfl) ?_
        refine zx_get (C := RX9) (T := TX9) (N := 35) F hW wu_X9 (by decide) zx_E43 rfl 24 (by decide) wf_X9_58 rfl dX9_pack_61 ?_
        refine lv_iconst (v := 0) hx hb dX9_pack_64 (by decide) ?_
        refine zx_iald (n := 2) F hW (by decide) zx_E58 (by unfold vp_in; decide) dX9_pack_65 ?_
        refine zx_nm (z := (S22 58 0)) rfl ?_
        obtain ⟨S23, eS23, h⟩ := g_pin h
        refine zx_iast (n := 2) F hW hS (by decide) (fun f => zx_E58) (by unfold vp_in; decide) dX9_pack_66 (fun H locs hW hS => ?_)
        have hW : zx_W D a cs S23 H := by rw [eS23]; exact hW
        refine lv_aload_n hx hb dX9_pack_67 rfl (lv_at hl 1 rfl) ?_
        refine lv_aload_n hx hb dX9_pack_68 rfl (lv_at hl 1 rfl) ?_
        refine zx_get (C := RX9) (T := TX9) (N := 35) F hW wu_X9 (by decide) zx_E43 rfl 24 (by decide) wf_X9_58 rfl dX9_pack_69 ?_
        refine lv_iconst (v := 0) hx hb dX9_pack_72 (by decide) ?_
        refine zx_iald (n := 2) F hW (by decide) zx_E58 (by unfold vp_in; decide) dX9_pack_73 ?_
        refine zx_nm (z := (S23 58 0)) rfl ?_
        obtain ⟨r24, S25, h26, h⟩ := g_bd h
        refine zx_cv (zx_runV (q := (RX9, TX9, 35)) (As := [.int (S23 58 0)]) (rest := []) F hW (c_X9_meets l D a cs (S23 58 0)  S23 r24 S25 h26) Y_X9_meets wi_X9_meets ws_X9_meets wm_X9_160 ⟨rfl, rfl, Nat.le_of_ble_eq_true rfl, Nat.le_of_ble_eq_true rfl, Nat.le_of_ble_eq_true rfl, Nat.le_of_ble_eq_true rfl⟩ (by decide) zx_E43 rfl rfl hl.1 rfl (Nat.le_of_ble_eq_true rfl) dX9_pack_74) hS (fun H locs hW hS => ?_)
        refine lv_aload_n hx hb dX9_pack_77 rfl (lv_at hl 1 rfl) ?_
        refine zx_get (C := RX9) (T := TX9) (N := 35) F hW wu_X9 (by decide) zx_E43 rfl 23 (by decide) wf_X9_55 rfl dX9_pack_78 ?_
        refine zx_alen (v := (17000 : Int32)) F hW (by decide) zx_E57 (by decide) dX9_pack_81 ?_
        refine lv_istore (lv' := [(5, .int (17000 : Int32)), (4, .int r9), (0, .ref (a 43)), (1, .int p0), (2, .int p1), (3, .int p2)]) hx hb dX9_pack_82 hl (by decide) rfl (fun ls hl => ?_)
        refine lv_aload_n hx hb dX9_pack_84 rfl (lv_at hl 2 rfl) ?_
        refine zx_get (C := RX9) (T := TX9) (N := 35) F hW wu_X9 (by decide) zx_E43 rfl 1 (by decide) wf_X9_70 rfl dX9_pack_85 ?_
        refine lv_iconst (v := 1) hx hb dX9_pack_88 (by decide) ?_
        refine lv_isub hx hb dX9_pack_89 ?_
        obtain ⟨x27, ex27, h⟩ := g_pin h
        refine zx_nm ex27 ?_
        refine lv_istore (lv' := [(6, .int x27), (5, .int (17000 : Int32)), (4, .int r9), (0, .ref (a 43)), (1, .int p0), (2, .int p1), (3, .int p2)]) hx hb dX9_pack_90 hl (by decide) rfl (fun ls hl => ?_)
        exact k_X9_pack_L92  F hr   fu p0 p1 p2 (17000 : Int32) x27 S25 h _ _ _ hW hS (lv_sub hl [3, 4, 5, 6, 1, 0] rfl)
      · have h := g_f c12 h
        refine lv_iload hx hb dX9_pack_30 (lv_at hl 0 rfl) ?_
        exact zx_ri F hr hW hS h dX9_pack_32
    · have h := g_t c8 h
      refine lv_iconst (v := -1) hx hb dX9_pack_16 (by decide) ?_
      exact zx_ri F hr hW hS h dX9_pack_17
theorem Y_X9_place : zx_Y yX9_place cX9_place 4 (some (.int)) 3 := ⟨wc_X9_place, wn_X9, by decide, by decide, by decide +kernel⟩
set_option maxHeartbeats 4000000 in
set_option maxRecDepth 100000 in
theorem c_X9_place (l : Launch) (D : va_G) (a : Nat → Nat) (cs : zx_C) (fu : Nat) (p0 : Int32) (p1 : Int32) (p2 : Int32)  (S : St) (r9 : Int32) (S9 : St) (h : f_X9_place fu p0 p1 p2 S = some (r9, S9)) : Met l yX9_place (Cond.code yX9_place cX9_place 4 (some (.int)) :: zx_tb) ({ frames := 4, cells := 0, slots := 0, locals := 103 }) (zx_P D a cs [.ref (a 43), .int p0, .int p1, .int p2] S) (zx_Qi D a cs r9 S9) 0 0 (zx_A a) := by
  refine zx_met (own := RX9) (by decide) (Nat.le_of_ble_eq_true rfl) rfl ?_
  intro p e s m below meth c ls F hr hW hS hl
  have hl : lv_has ls 4 [(0, .ref (a 43)), (1, .int p0), (2, .int p1), (3, .int p2)] := hl
  obtain ⟨⟨hx, hb, hml, hown, hts⟩, hlk, hK, hJ, hN⟩ := id F
  unfold f_X9_place at h
  refine lv_aload_n hx hb dX9_place_0 rfl (lv_at hl 0 rfl) ?_
  refine lv_iload_n hx hb dX9_place_1 rfl (lv_at hl 1 rfl) ?_
  refine lv_iload_n hx hb dX9_place_2 rfl (lv_at hl 2 rfl) ?_
  refine lv_iload_n hx hb dX9_place_3 rfl (lv_at hl 3 rfl) ?_
  obtain ⟨r1, S2, h3, h⟩ := g_bd h
  refine zx_ci (zx_runV (q := (RX9, TX9, 35)) (As := [.int p0, .int p1, .int p2]) (rest := []) F hW (c_X9_isPlace l D a cs p0 p1 p2  S r1 S2 h3) Y_X9_isPlace wi_X9_isPlace ws_X9_isPlace wm_X9_103 ⟨rfl, rfl, Nat.le_of_ble_eq_true rfl, Nat.le_of_ble_eq_true rfl, Nat.le_of_ble_eq_true rfl, Nat.le_of_ble_eq_true rfl⟩ (by decide) zx_E43 rfl rfl hl.1 rfl (Nat.le_of_ble_eq_true rfl) dX9_place_4) hS (fun H locs hW hS => ?_)
  refine lv_if_ne (tgt := 12) hx hb dX9_place_7 (by decide) (fun c4 => ?_) (fun c4 => ?_)
  · have h := g_f c4 h
    refine lv_aload_n hx hb dX9_place_12 rfl (lv_at hl 0 rfl) ?_
    refine lv_iload_n hx hb dX9_place_13 rfl (lv_at hl 1 rfl) ?_
    refine lv_iload_n hx hb dX9_place_14 rfl (lv_at hl 2 rfl) ?_
    obtain ⟨r5, S6, h7, h⟩ := g_bd h
    refine zx_cv (zx_runV (q := (RX9, TX9, 35)) (As := [.int p0, .int p1]) (rest := []) F hW (c_X9_lay l D a cs fu p0 p1  S2 r5 S6 h7) Y_X9_lay wi_X9_lay ws_X9_lay wm_X9_106 ⟨rfl, rfl, Nat.le_of_ble_eq_true rfl, Nat.le_of_ble_eq_true rfl, Nat.le_of_ble_eq_true rfl, Nat.le_of_ble_eq_true rfl⟩ (by decide) zx_E43 rfl rfl hl.1 rfl (Nat.le_of_ble_eq_true rfl) dX9_place_15) hS (fun H locs hW hS => ?_)
    refine lv_aload_n hx hb dX9_place_18 rfl (lv_at hl 0 rfl) ?_
    refine zx_get (C := RX9) (T := TX9) (N := 35) F hW wu_X9 (by decide) zx_E43 rfl 8 (by decide) wf_X9_30 rfl dX9_place_19 ?_
    refine lv_sipush (v := 4096) hx hb dX9_place_22 (by decide) ?_
    refine lv_iconst (v := 3) hx hb dX9_place_25 (by decide) ?_
    refine lv_iload_n hx hb dX9_place_26 rfl (lv_at hl 1 rfl) ?_
    refine lv_imul hx hb dX9_place_27 ?_
    refine lv_iload_n hx hb dX9_place_28 rfl (lv_at hl 2 rfl) ?_
    refine lv_iadd hx hb dX9_place_29 ?_
    refine lv_imul hx hb dX9_place_30 ?_
    refine lv_iload_n hx hb dX9_place_31 rfl (lv_at hl 3 rfl) ?_
    refine lv_iadd hx hb dX9_place_32 ?_
    obtain ⟨c8, h⟩ := g_no h
    refine zx_iald (n := 86016) F hW (by decide) zx_E50 c8 dX9_place_33 ?_
    exact zx_ri F hr hW hS h dX9_place_34
  · have h := g_t c4 h
    refine lv_iconst (v := -1) hx hb dX9_place_10 (by decide) ?_
    exact zx_ri F hr hW hS h dX9_place_11
theorem Y_X9_rank : zx_Y yX9_rank cX9_rank 4 (some (.int)) 3 := ⟨wc_X9_rank, wn_X9, by decide, by decide, by decide +kernel⟩
set_option maxHeartbeats 4000000 in
set_option maxRecDepth 100000 in
theorem c_X9_rank (l : Launch) (D : va_G) (a : Nat → Nat) (cs : zx_C) (fu : Nat) (p0 : Int32) (p1 : Int32) (p2 : Int32)  (S : St) (r9 : Int32) (S9 : St) (h : f_X9_rank fu p0 p1 p2 S = some (r9, S9)) : Met l yX9_rank (Cond.code yX9_rank cX9_rank 4 (some (.int)) :: zx_tb) ({ frames := 4, cells := 0, slots := 0, locals := 103 }) (zx_P D a cs [.ref (a 43), .int p0, .int p1, .int p2] S) (zx_Qi D a cs r9 S9) 0 0 (zx_A a) := by
  refine zx_met (own := RX9) (by decide) (Nat.le_of_ble_eq_true rfl) rfl ?_
  intro p e s m below meth c ls F hr hW hS hl
  have hl : lv_has ls 4 [(0, .ref (a 43)), (1, .int p0), (2, .int p1), (3, .int p2)] := hl
  obtain ⟨⟨hx, hb, hml, hown, hts⟩, hlk, hK, hJ, hN⟩ := id F
  unfold f_X9_rank at h
  refine lv_aload_n hx hb dX9_rank_0 rfl (lv_at hl 0 rfl) ?_
  refine lv_iload_n hx hb dX9_rank_1 rfl (lv_at hl 1 rfl) ?_
  refine lv_iload_n hx hb dX9_rank_2 rfl (lv_at hl 2 rfl) ?_
  refine lv_iload_n hx hb dX9_rank_3 rfl (lv_at hl 3 rfl) ?_
  obtain ⟨r1, S2, h3, h⟩ := g_bd h
  refine zx_ci (zx_runV (q := (RX9, TX9, 35)) (As := [.int p0, .int p1, .int p2]) (rest := []) F hW (c_X9_isPlace l D a cs p0 p1 p2  S r1 S2 h3) Y_X9_isPlace wi_X9_isPlace ws_X9_isPlace wm_X9_103 ⟨rfl, rfl, Nat.le_of_ble_eq_true rfl, Nat.le_of_ble_eq_true rfl, Nat.le_of_ble_eq_true rfl, Nat.le_of_ble_eq_true rfl⟩ (by decide) zx_E43 rfl rfl hl.1 rfl (Nat.le_of_ble_eq_true rfl) dX9_rank_4) hS (fun H locs hW hS => ?_)
  refine lv_if_ne (tgt := 12) hx hb dX9_rank_7 (by decide) (fun c4 => ?_) (fun c4 => ?_)
  · have h := g_f c4 h
    refine lv_aload_n hx hb dX9_rank_12 rfl (lv_at hl 0 rfl) ?_
    refine lv_iload_n hx hb dX9_rank_13 rfl (lv_at hl 1 rfl) ?_
    refine lv_iload_n hx hb dX9_rank_14 rfl (lv_at hl 2 rfl) ?_
    obtain ⟨r5, S6, h7, h⟩ := g_bd h
    refine zx_cv (zx_runV (q := (RX9, TX9, 35)) (As := [.int p0, .int p1]) (rest := []) F hW (c_X9_lay l D a cs fu p0 p1  S2 r5 S6 h7) Y_X9_lay wi_X9_lay ws_X9_lay wm_X9_106 ⟨rfl, rfl, Nat.le_of_ble_eq_true rfl, Nat.le_of_ble_eq_true rfl, Nat.le_of_ble_eq_true rfl, Nat.le_of_ble_eq_true rfl⟩ (by decide) zx_E43 rfl rfl hl.1 rfl (Nat.le_of_ble_eq_true rfl) dX9_rank_15) hS (fun H locs hW hS => ?_)
    refine lv_aload_n hx hb dX9_rank_18 rfl (lv_at hl 0 rfl) ?_
    refine zx_get (C := RX9) (T := TX9) (N := 35) F hW wu_X9 (by decide) zx_E43 rfl 9 (by decide) wf_X9_33 rfl dX9_rank_19 ?_
    refine lv_sipush (v := 4096) hx hb dX9_rank_22 (by decide) ?_
    refine lv_iconst (v := 3) hx hb dX9_rank_25 (by decide) ?_
    refine lv_iload_n hx hb dX9_rank_26 rfl (lv_at hl 1 rfl) ?_
    refine lv_imul hx hb dX9_rank_27 ?_
    refine lv_iload_n hx hb dX9_rank_28 rfl (lv_at hl 2 rfl) ?_
    refine lv_iadd hx hb dX9_rank_29 ?_
    refine lv_imul hx hb dX9_rank_30 ?_
    refine lv_iload_n hx hb dX9_rank_31 rfl (lv_at hl 3 rfl) ?_
    refine lv_iadd hx hb dX9_rank_32 ?_
    obtain ⟨c8, h⟩ := g_no h
    refine zx_iald (n := 86016) F hW (by decide) zx_E51 c8 dX9_rank_33 ?_
    exact zx_ri F hr hW hS h dX9_rank_34
  · have h := g_t c4 h
    refine lv_iconst (v := -1) hx hb dX9_rank_10 (by decide) ?_
    exact zx_ri F hr hW hS h dX9_rank_11
theorem Y_X9_readsMessage : zx_Y yX9_readsMessage cX9_readsMessage 10 (some (.boolean)) 0 := ⟨wc_X9_readsMessage, wn_X9, by decide, by decide, by decide +kernel⟩
set_option maxHeartbeats 4000000 in
set_option maxRecDepth 100000 in
theorem k_X9_readsMessage_L407 {l : Launch} {D : va_G} {a : Nat → Nat} {cs : zx_C} {p : Program} {e : Env} {s : State} {m : MethodId} {below : List Frame} {meth : Method} {c : Code} {fu : Nat}   (F : zx_F D a cs p m c cX9_readsMessage 10 s ([.ref (a 43)] : List Value).toArray RX9 meth) (hr : meth.sig.returnType = (some (.boolean))) {r9 : Int32} {S9 : St}    (v4 : Int32) (v5 : Int32) (S : St) (h : f_X9_readsMessage_L407 fu    v4 v5 S = some (r9, S9)) (H : Heap) (locs : List Loc) (ls : Array Slot) (hW : zx_W D a cs S H) (hS : va_S (zx_A a) s.heap H locs) (hl : lv_has ls 10 [(0, .ref (a 43)), (4, .int v4), (5, .int v5)]) : W p l e ({ frames := 1, cells := 0, slots := 0, locals := 29 }) s m ([.ref (a 43)] : List Value).toArray below meth c H locs 0 0 (MQ below (zx_Qi D a cs r9 S9) ([.ref (a 43)] : List Value).toArray s 0 0 (zx_A a)) (F0 m 407 ls []) := by
  obtain ⟨⟨hx, hb, hml, hown, hts⟩, hlk, hK, hJ, hN⟩ := id F
  unfold f_X9_readsMessage_L407 at h
  refine lv_iload hx hb dX9_readsMessage_407 (lv_at hl 2 rfl) ?_
  refine lv_aload_n hx hb dX9_readsMessage_409 rfl (lv_at hl 0 rfl) ?_
  refine zx_get (C := RX9) (T := TX9) (N := 35) F hW wu_X9 (by decide) zx_E43 rfl 32 (by decide) wf_X9_204 rfl dX9_readsMessage_410 ?_
  refine lv_icmp_ge (tgt := 430) hx hb dX9_readsMessage_413 (by decide) (fun c14 => ?_) (fun c14 => ?_)
  · have h := g_t c14 h
    refine lv_aload_n hx hb dX9_readsMessage_430 rfl (lv_at hl 0 rfl) ?_
    refine zx_get (C := RX9) (T := TX9) (N := 35) F hW wu_X9 (by decide) zx_E43 rfl 24 (by decide) wf_X9_58 rfl dX9_readsMessage_431 ?_
    refine lv_iconst (v := 0) hx hb dX9_readsMessage_434 (by decide) ?_
    refine zx_iald (n := 2) F hW (by decide) zx_E58 (by unfold vp_in; decide) dX9_readsMessage_435 ?_
    refine zx_nm (z := (S 58 0)) rfl ?_
    refine lv_iload hx hb dX9_readsMessage_436 (lv_at hl 1 rfl) ?_
    refine lv_icmp_eq (tgt := 452) hx hb dX9_readsMessage_438 (by decide) (fun c15 => ?_) (fun c15 => ?_)
    · have h := g_t c15 h
      refine lv_aload_n hx hb dX9_readsMessage_452 rfl (lv_at hl 0 rfl) ?_
      refine zx_get (C := RX9) (T := TX9) (N := 35) F hW wu_X9 (by decide) zx_E43 rfl 28 (by decide) wf_X9_187 rfl dX9_readsMessage_453 ?_
      refine lv_iconst (v := 2) hx hb dX9_readsMessage_456 (by decide) ?_
      refine lv_icmp_ne (tgt := 484) hx hb dX9_readsMessage_457 (by decide) (fun c16 => ?_) (fun c16 => ?_)
      · have h := g_f c16 h
        refine lv_iconst (v := 1) hx hb dX9_readsMessage_484 (by decide) ?_
        exact zx_rz F hr (by decide) hW hS h dX9_readsMessage_485
      · have h := g_t c16 h
        refine lv_aload_n hx hb dX9_readsMessage_460 rfl (lv_at hl 0 rfl) ?_
        refine zx_get (C := RX9) (T := TX9) (N := 35) F hW wu_X9 (by decide) zx_E43 rfl 24 (by decide) wf_X9_58 rfl dX9_readsMessage_461 ?_
        refine lv_iconst (v := 1) hx hb dX9_readsMessage_464 (by decide) ?_
        refine zx_iald (n := 2) F hW (by decide) zx_E58 (by unfold vp_in; decide) dX9_readsMessage_465 ?_
        refine zx_nm (z := (S 58 1)) rfl ?_
        refine lv_iload hx hb dX9_readsMessage_466 (lv_at hl 1 rfl) ?_
        refine lv_icmp_eq (tgt := 484) hx hb dX9_readsMessage_468 (by decide) (fun c17 => ?_) (fun c17 => ?_)
        · have h := g_t c17 h
          refine lv_iconst (v := 1) hx hb dX9_readsMessage_484 (by decide) ?_
          exact zx_rz F hr (by decide) hW hS h dX9_readsMessage_485
        · have h := g_f c17 h
          refine lv_aload_n hx hb dX9_readsMessage_471 rfl (lv_at hl 0 rfl) ?_
          refine lv_bipush (v := 7) hx hb dX9_readsMessage_472 (by decide) ?_
          refine lv_aload_n hx hb dX9_readsMessage_474 rfl (lv_at hl 0 rfl) ?_
          refine zx_get (C := RX9) (T := TX9) (N := 35) F hW wu_X9 (by decide) zx_E43 rfl 33 (by decide) wf_X9_207 rfl dX9_readsMessage_475 ?_
          refine lv_iconst (v := 4) hx hb dX9_readsMessage_478 (by decide) ?_
          refine lv_iadd hx hb dX9_readsMessage_479 ?_
          obtain ⟨r18, S19, h20, h⟩ := g_bd h
          refine zx_ci (zx_runV (q := (RX9, TX9, 35)) (As := [.int (7 : Int32), .int ((S 43 33) + (4 : Int32))]) (rest := []) F hW (c_X9_fails l D a cs (7 : Int32) ((S 43 33) + (4 : Int32))  S r18 S19 h20) Y_X9_fails wi_X9_fails ws_X9_fails wm_X9_176 ⟨rfl, rfl, Nat.le_of_ble_eq_true rfl, Nat.le_of_ble_eq_true rfl, Nat.le_of_ble_eq_true rfl, Nat.le_of_ble_eq_true rfl⟩ (by decide) zx_E43 rfl rfl hl.1 rfl (Nat.le_of_ble_eq_true rfl) dX9_readsMessage_480) hS (fun H locs hW hS => ?_)
          obtain ⟨c21, h⟩ := g_ok h
          exact zx_rz F hr c21 hW hS h dX9_readsMessage_483
    · have h := g_f c15 h
      refine lv_aload_n hx hb dX9_readsMessage_441 rfl (lv_at hl 0 rfl) ?_
      refine lv_bipush (v := 7) hx hb dX9_readsMessage_442 (by decide) ?_
      refine lv_aload_n hx hb dX9_readsMessage_444 rfl (lv_at hl 0 rfl) ?_
      refine zx_get (C := RX9) (T := TX9) (N := 35) F hW wu_X9 (by decide) zx_E43 rfl 33 (by decide) wf_X9_207 rfl dX9_readsMessage_445 ?_
      obtain ⟨r22, S23, h24, h⟩ := g_bd h
      refine zx_ci (zx_runV (q := (RX9, TX9, 35)) (As := [.int (7 : Int32), .int (S 43 33)]) (rest := []) F hW (c_X9_fails l D a cs (7 : Int32) (S 43 33)  S r22 S23 h24) Y_X9_fails wi_X9_fails ws_X9_fails wm_X9_176 ⟨rfl, rfl, Nat.le_of_ble_eq_true rfl, Nat.le_of_ble_eq_true rfl, Nat.le_of_ble_eq_true rfl, Nat.le_of_ble_eq_true rfl⟩ (by decide) zx_E43 rfl rfl hl.1 rfl (Nat.le_of_ble_eq_true rfl) dX9_readsMessage_448) hS (fun H locs hW hS => ?_)
      obtain ⟨c25, h⟩ := g_ok h
      exact zx_rz F hr c25 hW hS h dX9_readsMessage_451
  · have h := g_f c14 h
    refine lv_aload_n hx hb dX9_readsMessage_416 rfl (lv_at hl 0 rfl) ?_
    refine lv_bipush (v := 6) hx hb dX9_readsMessage_417 (by decide) ?_
    refine lv_aload_n hx hb dX9_readsMessage_419 rfl (lv_at hl 0 rfl) ?_
    refine zx_get (C := RX9) (T := TX9) (N := 35) F hW wu_X9 (by decide) zx_E43 rfl 31 (by decide) wf_X9_214 rfl dX9_readsMessage_420 ?_
    refine lv_iload hx hb dX9_readsMessage_423 (lv_at hl 2 rfl) ?_
    refine lv_iadd hx hb dX9_readsMessage_425 ?_
    obtain ⟨r26, S27, h28, h⟩ := g_bd h
    refine zx_ci (zx_runV (q := (RX9, TX9, 35)) (As := [.int (6 : Int32), .int ((S 43 31) + v5)]) (rest := []) F hW (c_X9_fails l D a cs (6 : Int32) ((S 43 31) + v5)  S r26 S27 h28) Y_X9_fails wi_X9_fails ws_X9_fails wm_X9_176 ⟨rfl, rfl, Nat.le_of_ble_eq_true rfl, Nat.le_of_ble_eq_true rfl, Nat.le_of_ble_eq_true rfl, Nat.le_of_ble_eq_true rfl⟩ (by decide) zx_E43 rfl rfl hl.1 rfl (Nat.le_of_ble_eq_true rfl) dX9_readsMessage_426) hS (fun H locs hW hS => ?_)
    obtain ⟨c29, h⟩ := g_ok h
    exact zx_rz F hr c29 hW hS h dX9_readsMessage_429
set_option maxHeartbeats 4000000 in
set_option maxRecDepth 100000 in
theorem k_X9_readsMessage_L347 {l : Launch} {D : va_G} {a : Nat → Nat} {cs : zx_C} {p : Program} {e : Env} {s : State} {m : MethodId} {below : List Frame} {meth : Method} {c : Code} {fu : Nat}   (F : zx_F D a cs p m c cX9_readsMessage 10 s ([.ref (a 43)] : List Value).toArray RX9 meth) (hr : meth.sig.returnType = (some (.boolean))) {r9 : Int32} {S9 : St}    (v2 : Int32) (v4 : Int32) (t0 : Int32) (S : St) (h : f_X9_readsMessage_L347 fu    v2 v4 t0 S = some (r9, S9)) (H : Heap) (locs : List Loc) (ls : Array Slot) (hW : zx_W D a cs S H) (hS : va_S (zx_A a) s.heap H locs) (hl : lv_has ls 10 [(0, .ref (a 43)), (2, .int v2), (4, .int v4)]) : W p l e ({ frames := 1, cells := 0, slots := 0, locals := 29 }) s m ([.ref (a 43)] : List Value).toArray below meth c H locs 0 0 (MQ below (zx_Qi D a cs r9 S9) ([.ref (a 43)] : List Value).toArray s 0 0 (zx_A a)) (F0 m 347 ls [.int t0]) := by
  obtain ⟨⟨hx, hb, hml, hown, hts⟩, hlk, hK, hJ, hN⟩ := id F
  unfold f_X9_readsMessage_L347 at h
  refine lv_istore (lv' := [(5, .int t0), (0, .ref (a 43)), (2, .int v2), (4, .int v4)]) hx hb dX9_readsMessage_347 hl (by decide) rfl (fun ls hl => ?_)
  refine lv_aload_n hx hb dX9_readsMessage_349 rfl (lv_at hl 1 rfl) ?_
  refine zx_get (C := RX9) (T := TX9) (N := 35) F hW wu_X9 (by decide) zx_E43 rfl 28 (by decide) wf_X9_187 rfl dX9_readsMessage_350 ?_
  refine lv_if_ne (tgt := 407) hx hb dX9_readsMessage_353 (by decide) (fun c13 => ?_) (fun c13 => ?_)
  · have h := g_f c13 h
    exact k_X9_readsMessage_L407  F hr   v4 t0 S h _ _ _ hW hS (lv_sub hl [1, 3, 0] rfl)
  · have h := g_t c13 h
    refine lv_iload_n hx hb dX9_readsMessage_356 rfl (lv_at hl 2 rfl) ?_
    refine lv_bipush (v := 8) hx hb dX9_readsMessage_357 (by decide) ?_
    refine lv_irem hx hb dX9_readsMessage_359 (by decide) ?_
    refine lv_if_le (tgt := 407) hx hb dX9_readsMessage_360 (by decide) (fun c30 => ?_) (fun c30 => ?_)
    · have h := g_t c30 h
      exact k_X9_readsMessage_L407  F hr   v4 t0 S h _ _ _ hW hS (lv_sub hl [1, 3, 0] rfl)
    · have h := g_f c30 h
      refine lv_aload_n hx hb dX9_readsMessage_363 rfl (lv_at hl 1 rfl) ?_
      refine zx_get (C := RX9) (T := TX9) (N := 35) F hW wu_X9 (by decide) zx_E43 rfl 0 (by decide) wf_X9_7 rfl dX9_readsMessage_364 ?_
      refine lv_aload_n hx hb dX9_readsMessage_367 rfl (lv_at hl 1 rfl) ?_
      refine zx_get (C := RX9) (T := TX9) (N := 35) F hW wu_X9 (by decide) zx_E43 rfl 31 (by decide) wf_X9_214 rfl dX9_readsMessage_368 ?_
      refine lv_iload hx hb dX9_readsMessage_371 (lv_at hl 0 rfl) ?_
      refine lv_iadd hx hb dX9_readsMessage_373 ?_
      obtain ⟨c31, h⟩ := g_no h
      refine zx_iald (n := 4000) F hW (by decide) zx_E44 c31 dX9_readsMessage_374 ?_
      refine lv_iconst (v := 1) hx hb dX9_readsMessage_375 (by decide) ?_
      refine lv_bipush (v := 8) hx hb dX9_readsMessage_376 (by decide) ?_
      refine lv_iload_n hx hb dX9_readsMessage_378 rfl (lv_at hl 2 rfl) ?_
      refine lv_bipush (v := 8) hx hb dX9_readsMessage_379 (by decide) ?_
      refine lv_irem hx hb dX9_readsMessage_381 (by decide) ?_
      refine lv_isub hx hb dX9_readsMessage_382 ?_
      refine lv_ishl hx hb dX9_readsMessage_383 ?_
      refine lv_iconst (v := 1) hx hb dX9_readsMessage_384 (by decide) ?_
      refine lv_isub hx hb dX9_readsMessage_385 ?_
      refine lv_iand hx hb dX9_readsMessage_386 ?_
      refine lv_if_eq (tgt := 404) hx hb dX9_readsMessage_387 (by decide) (fun c32 => ?_) (fun c32 => ?_)
      · have h := g_t c32 h
        obtain ⟨x33, ex33, h⟩ := g_pin h
        refine lv_iinc (v := x33) (lv' := [(5, .int x33), (0, .ref (a 43)), (2, .int v2), (4, .int v4)]) hx hb dX9_readsMessage_404 hl (k := 0) rfl (by rw [ex33]; rfl) (by decide) rfl (fun ls hl => ?_)
        exact k_X9_readsMessage_L407  F hr   v4 x33 S h _ _ _ hW hS (lv_sub hl [1, 3, 0] rfl)
      · have h := g_f c32 h
        refine lv_aload_n hx hb dX9_readsMessage_390 rfl (lv_at hl 1 rfl) ?_
        refine lv_bipush (v := 6) hx hb dX9_readsMessage_391 (by decide) ?_
        refine lv_aload_n hx hb dX9_readsMessage_393 rfl (lv_at hl 1 rfl) ?_
        refine zx_get (C := RX9) (T := TX9) (N := 35) F hW wu_X9 (by decide) zx_E43 rfl 31 (by decide) wf_X9_214 rfl dX9_readsMessage_394 ?_
        refine lv_iload hx hb dX9_readsMessage_397 (lv_at hl 0 rfl) ?_
        refine lv_iadd hx hb dX9_readsMessage_399 ?_
        obtain ⟨r34, S35, h36, h⟩ := g_bd h
        refine zx_ci (zx_runV (q := (RX9, TX9, 35)) (As := [.int (6 : Int32), .int ((S 43 31) + t0)]) (rest := []) F hW (c_X9_fails l D a cs (6 : Int32) ((S 43 31) + t0)  S r34 S35 h36) Y_X9_fails wi_X9_fails ws_X9_fails wm_X9_176 ⟨rfl, rfl, Nat.le_of_ble_eq_true rfl, Nat.le_of_ble_eq_true rfl, Nat.le_of_ble_eq_true rfl, Nat.le_of_ble_eq_true rfl⟩ (by decide) zx_E43 rfl rfl hl.1 rfl (Nat.le_of_ble_eq_true rfl) dX9_readsMessage_400) hS (fun H locs hW hS => ?_)
        obtain ⟨c37, h⟩ := g_ok h
        exact zx_rz F hr c37 hW hS h dX9_readsMessage_403
set_option maxHeartbeats 4000000 in
set_option maxRecDepth 100000 in
theorem k_X9_readsMessage_L305 {l : Launch} {D : va_G} {a : Nat → Nat} {cs : zx_C} {p : Program} {e : Env} {s : State} {m : MethodId} {below : List Frame} {meth : Method} {c : Code} {fu : Nat}   (F : zx_F D a cs p m c cX9_readsMessage 10 s ([.ref (a 43)] : List Value).toArray RX9 meth) (hr : meth.sig.returnType = (some (.boolean))) {r9 : Int32} {S9 : St}    (v2 : Int32) (v4 : Int32) (S : St) (h : f_X9_readsMessage_L305 fu    v2 v4 S = some (r9, S9)) (H : Heap) (locs : List Loc) (ls : Array Slot) (hW : zx_W D a cs S H) (hS : va_S (zx_A a) s.heap H locs) (hl : lv_has ls 10 [(0, .ref (a 43)), (2, .int v2), (4, .int v4)]) : W p l e ({ frames := 1, cells := 0, slots := 0, locals := 29 }) s m ([.ref (a 43)] : List Value).toArray below meth c H locs 0 0 (MQ below (zx_Qi D a cs r9 S9) ([.ref (a 43)] : List Value).toArray s 0 0 (zx_A a)) (F0 m 305 ls []) := by
  obtain ⟨⟨hx, hb, hml, hown, hts⟩, hlk, hK, hJ, hN⟩ := id F
  unfold f_X9_readsMessage_L305 at h
  refine lv_aload_n hx hb dX9_readsMessage_305 rfl (lv_at hl 0 rfl) ?_
  refine zx_get (C := RX9) (T := TX9) (N := 35) F hW wu_X9 (by decide) zx_E43 rfl 25 (by decide) wf_X9_61 rfl dX9_readsMessage_306 ?_
  refine lv_iconst (v := 2) hx hb dX9_readsMessage_309 (by decide) ?_
  refine lv_aload_n hx hb dX9_readsMessage_310 rfl (lv_at hl 0 rfl) ?_
  refine zx_get (C := RX9) (T := TX9) (N := 35) F hW wu_X9 (by decide) zx_E43 rfl 30 (by decide) wf_X9_201 rfl dX9_readsMessage_311 ?_
  obtain ⟨S9, eS9, h⟩ := g_pin h
  refine zx_iast (n := 6) F hW hS (by decide) (fun f => zx_E59) (by unfold vp_in; decide) dX9_readsMessage_314 (fun H locs hW hS => ?_)
  have hW : zx_W D a cs S9 H := by rw [eS9]; exact hW
  refine lv_aload_n hx hb dX9_readsMessage_315 rfl (lv_at hl 0 rfl) ?_
  refine zx_get (C := RX9) (T := TX9) (N := 35) F hW wu_X9 (by decide) zx_E43 rfl 25 (by decide) wf_X9_61 rfl dX9_readsMessage_316 ?_
  refine lv_iconst (v := 3) hx hb dX9_readsMessage_319 (by decide) ?_
  refine lv_iload_n hx hb dX9_readsMessage_320 rfl (lv_at hl 1 rfl) ?_
  obtain ⟨S10, eS10, h⟩ := g_pin h
  refine zx_iast (n := 6) F hW hS (by decide) (fun f => zx_E59) (by unfold vp_in; decide) dX9_readsMessage_321 (fun H locs hW hS => ?_)
  have hW : zx_W D a cs S10 H := by rw [eS10]; exact hW
  refine lv_aload_n hx hb dX9_readsMessage_322 rfl (lv_at hl 0 rfl) ?_
  refine zx_get (C := RX9) (T := TX9) (N := 35) F hW wu_X9 (by decide) zx_E43 rfl 25 (by decide) wf_X9_61 rfl dX9_readsMessage_323 ?_
  refine lv_iconst (v := 4) hx hb dX9_readsMessage_326 (by decide) ?_
  refine lv_aload_n hx hb dX9_readsMessage_327 rfl (lv_at hl 0 rfl) ?_
  refine zx_get (C := RX9) (T := TX9) (N := 35) F hW wu_X9 (by decide) zx_E43 rfl 32 (by decide) wf_X9_204 rfl dX9_readsMessage_328 ?_
  obtain ⟨S11, eS11, h⟩ := g_pin h
  refine zx_iast (n := 6) F hW hS (by decide) (fun f => zx_E59) (by unfold vp_in; decide) dX9_readsMessage_331 (fun H locs hW hS => ?_)
  have hW : zx_W D a cs S11 H := by rw [eS11]; exact hW
  refine lv_aload_n hx hb dX9_readsMessage_332 rfl (lv_at hl 0 rfl) ?_
  refine zx_get (C := RX9) (T := TX9) (N := 35) F hW wu_X9 (by decide) zx_E43 rfl 28 (by decide) wf_X9_187 rfl dX9_readsMessage_333 ?_
  refine lv_if_ne (tgt := 346) hx hb dX9_readsMessage_336 (by decide) (fun c12 => ?_) (fun c12 => ?_)
  · have h := g_f c12 h
    refine lv_iload_n hx hb dX9_readsMessage_346 rfl (lv_at hl 1 rfl) ?_
    exact k_X9_readsMessage_L347  F hr   v2 v4 v2 S11 h _ _ _ hW hS (lv_sub hl [0, 1, 2] rfl)
  · have h := g_t c12 h
    refine lv_iload_n hx hb dX9_readsMessage_339 rfl (lv_at hl 1 rfl) ?_
    refine lv_bipush (v := 8) hx hb dX9_readsMessage_340 (by decide) ?_
    refine lv_idiv hx hb dX9_readsMessage_342 (by decide) ?_
    refine lv_goto (tgt := 347) hx hb dX9_readsMessage_343 (by decide) ?_
    exact k_X9_readsMessage_L347  F hr   v2 v4 (v2 / (8 : Int32)) S11 h _ _ _ hW hS (lv_sub hl [0, 1, 2] rfl)
set_option maxHeartbeats 4000000 in
set_option maxRecDepth 100000 in
theorem k_X9_readsMessage_L285 {l : Launch} {D : va_G} {a : Nat → Nat} {cs : zx_C} {p : Program} {e : Env} {s : State} {m : MethodId} {below : List Frame} {meth : Method} {c : Code} {fu : Nat}   (F : zx_F D a cs p m c cX9_readsMessage 10 s ([.ref (a 43)] : List Value).toArray RX9 meth) (hr : meth.sig.returnType = (some (.boolean))) {r9 : Int32} {S9 : St} {K56 : Int32 → Int32 → Int32 → Int32 → St → Option (Int32 × St)} (hK56 : ∀ (v2 : Int32) (v3 : Int32) (v4 : Int32) (v5 : Int32) (S : St), K56 v2 v3 v4 v5 S = some (r9, S9) → ∀ (H : Heap) (locs : List Loc) (ls : Array Slot), zx_W D a cs S H → va_S (zx_A a) s.heap H locs → lv_has ls 10 [(0, .ref (a 43)), (2, .int v2), (3, .int v3), (4, .int v4), (5, .int v5)] → W p l e ({ frames := 1, cells := 0, slots := 0, locals := 29 }) s m ([.ref (a 43)] : List Value).toArray below meth c H locs 0 0 (MQ below (zx_Qi D a cs r9 S9) ([.ref (a 43)] : List Value).toArray s 0 0 (zx_A a)) (F0 m 56 ls []))  (v2 : Int32) (v3 : Int32) (v4 : Int32) (v5 : Int32) (t0 : Int32) (t1 : Int32) (S : St) (h : f_X9_readsMessage_L285 fu  K56  v2 v3 v4 v5 t0 t1 S = some (r9, S9)) (H : Heap) (locs : List Loc) (ls : Array Slot) (hW : zx_W D a cs S H) (hS : va_S (zx_A a) s.heap H locs) (hl : lv_has ls 10 [(0, .ref (a 43)), (2, .int v2), (3, .int v3), (4, .int v4), (5, .int v5)]) : W p l e ({ frames := 1, cells := 0, slots := 0, locals := 29 }) s m ([.ref (a 43)] : List Value).toArray below meth c H locs 0 0 (MQ below (zx_Qi D a cs r9 S9) ([.ref (a 43)] : List Value).toArray s 0 0 (zx_A a)) (F0 m 285 ls [.int t0, .int t1, .ref (a 59)]) := by
  obtain ⟨⟨hx, hb, hml, hown, hts⟩, hlk, hK, hJ, hN⟩ := id F
  unfold f_X9_readsMessage_L285 at h
  obtain ⟨c63, h⟩ := g_no h
  obtain ⟨S62, eS62, h⟩ := g_pin h
  refine zx_iast (n := 6) F hW hS (by decide) (fun f => zx_E59) c63 dX9_readsMessage_285 (fun H locs hW hS => ?_)
  have hW : zx_W D a cs S62 H := by rw [eS62]; exact hW
  obtain ⟨x64, ex64, h⟩ := g_pin h
  refine lv_iinc (v := x64) (lv' := [(5, .int x64), (0, .ref (a 43)), (2, .int v2), (3, .int v3), (4, .int v4)]) hx hb dX9_readsMessage_286 hl (k := 4) rfl (by rw [ex64]; rfl) (by decide) rfl (fun ls hl => ?_)
  refine lv_goto (tgt := 56) hx hb dX9_readsMessage_289 (by decide) ?_
  exact hK56 v2 v3 v4 x64 S62 h _ _ _ hW hS (lv_sub hl [1, 2, 3, 4, 0] rfl)
set_option maxHeartbeats 4000000 in
set_option maxRecDepth 100000 in
theorem k_X9_readsMessage_L232 {l : Launch} {D : va_G} {a : Nat → Nat} {cs : zx_C} {p : Program} {e : Env} {s : State} {m : MethodId} {below : List Frame} {meth : Method} {c : Code} {fu : Nat}   (F : zx_F D a cs p m c cX9_readsMessage 10 s ([.ref (a 43)] : List Value).toArray RX9 meth) (hr : meth.sig.returnType = (some (.boolean))) {r9 : Int32} {S9 : St} {K148 : Int32 → Int32 → Int32 → Int32 → Int32 → Int32 → Int32 → St → Option (Int32 × St)} (hK148 : ∀ (v2 : Int32) (v3 : Int32) (v4 : Int32) (v5 : Int32) (v6 : Int32) (v7 : Int32) (v9 : Int32) (S : St), K148 v2 v3 v4 v5 v6 v7 v9 S = some (r9, S9) → ∀ (H : Heap) (locs : List Loc) (ls : Array Slot), zx_W D a cs S H → va_S (zx_A a) s.heap H locs → lv_has ls 10 [(0, .ref (a 43)), (2, .int v2), (3, .int v3), (4, .int v4), (5, .int v5), (6, .int v6), (7, .int v7), (9, .int v9)] → W p l e ({ frames := 1, cells := 0, slots := 0, locals := 29 }) s m ([.ref (a 43)] : List Value).toArray below meth c H locs 0 0 (MQ below (zx_Qi D a cs r9 S9) ([.ref (a 43)] : List Value).toArray s 0 0 (zx_A a)) (F0 m 148 ls []))  (v2 : Int32) (v3 : Int32) (v4 : Int32) (v5 : Int32) (v6 : Int32) (v9 : Int32) (t0 : Int32) (S : St) (h : f_X9_readsMessage_L232 fu  K148  v2 v3 v4 v5 v6 v9 t0 S = some (r9, S9)) (H : Heap) (locs : List Loc) (ls : Array Slot) (hW : zx_W D a cs S H) (hS : va_S (zx_A a) s.heap H locs) (hl : lv_has ls 10 [(0, .ref (a 43)), (2, .int v2), (3, .int v3), (4, .int v4), (5, .int v5), (6, .int v6), (9, .int v9)]) : W p l e ({ frames := 1, cells := 0, slots := 0, locals := 29 }) s m ([.ref (a 43)] : List Value).toArray below meth c H locs 0 0 (MQ below (zx_Qi D a cs r9 S9) ([.ref (a 43)] : List Value).toArray s 0 0 (zx_A a)) (F0 m 232 ls [.int t0]) := by
  obtain ⟨⟨hx, hb, hml, hown, hts⟩, hlk, hK, hJ, hN⟩ := id F
  unfold f_X9_readsMessage_L232 at h
  refine lv_istore (lv' := [(7, .int t0), (0, .ref (a 43)), (2, .int v2), (3, .int v3), (4, .int v4), (5, .int v5), (6, .int v6), (9, .int v9)]) hx hb dX9_readsMessage_232 hl (by decide) rfl (fun ls hl => ?_)
  obtain ⟨x68, ex68, h⟩ := g_pin h
  refine lv_iinc (v := x68) (lv' := [(2, .int x68), (7, .int t0), (0, .ref (a 43)), (3, .int v3), (4, .int v4), (5, .int v5), (6, .int v6), (9, .int v9)]) hx hb dX9_readsMessage_234 hl (k := 2) rfl (by rw [ex68]; rfl) (by decide) rfl (fun ls hl => ?_)
  obtain ⟨x69, ex69, h⟩ := g_pin h
  refine lv_iinc (v := x69) (lv' := [(9, .int x69), (2, .int x68), (7, .int t0), (0, .ref (a 43)), (3, .int v3), (4, .int v4), (5, .int v5), (6, .int v6)]) hx hb dX9_readsMessage_237 hl (k := 7) rfl (by rw [ex69]; rfl) (by decide) rfl (fun ls hl => ?_)
  refine lv_goto (tgt := 148) hx hb dX9_readsMessage_240 (by decide) ?_
  exact hK148 x68 v3 v4 v5 v6 t0 x69 S h _ _ _ hW hS (lv_sub hl [3, 1, 4, 5, 6, 7, 2, 0] rfl)
set_option maxHeartbeats 4000000 in
set_option maxRecDepth 100000 in
theorem k_X9_readsMessage_L148 {l : Launch} {D : va_G} {a : Nat → Nat} {cs : zx_C} {p : Program} {e : Env} {s : State} {m : MethodId} {below : List Frame} {meth : Method} {c : Code} {fu : Nat}   (F : zx_F D a cs p m c cX9_readsMessage 10 s ([.ref (a 43)] : List Value).toArray RX9 meth) (hr : meth.sig.returnType = (some (.boolean))) {r9 : Int32} {S9 : St} {K56 : Int32 → Int32 → Int32 → Int32 → St → Option (Int32 × St)} (hK56 : ∀ (v2 : Int32) (v3 : Int32) (v4 : Int32) (v5 : Int32) (S : St), K56 v2 v3 v4 v5 S = some (r9, S9) → ∀ (H : Heap) (locs : List Loc) (ls : Array Slot), zx_W D a cs S H → va_S (zx_A a) s.heap H locs → lv_has ls 10 [(0, .ref (a 43)), (2, .int v2), (3, .int v3), (4, .int v4), (5, .int v5)] → W p l e ({ frames := 1, cells := 0, slots := 0, locals := 29 }) s m ([.ref (a 43)] : List Value).toArray below meth c H locs 0 0 (MQ below (zx_Qi D a cs r9 S9) ([.ref (a 43)] : List Value).toArray s 0 0 (zx_A a)) (F0 m 56 ls []))  : ∀ (n : Nat) (v2 : Int32) (v3 : Int32) (v4 : Int32) (v5 : Int32) (v6 : Int32) (v7 : Int32) (v9 : Int32) (S : St), f_X9_readsMessage_L148 fu  K56  n v2 v3 v4 v5 v6 v7 v9 S = some (r9, S9) → ∀ (H : Heap) (locs : List Loc) (ls : Array Slot), zx_W D a cs S H → va_S (zx_A a) s.heap H locs → lv_has ls 10 [(0, .ref (a 43)), (2, .int v2), (3, .int v3), (4, .int v4), (5, .int v5), (6, .int v6), (7, .int v7), (9, .int v9)] → W p l e ({ frames := 1, cells := 0, slots := 0, locals := 29 }) s m ([.ref (a 43)] : List Value).toArray below meth c H locs 0 0 (MQ below (zx_Qi D a cs r9 S9) ([.ref (a 43)] : List Value).toArray s 0 0 (zx_A a)) (F0 m 148 ls []) := by
  obtain ⟨⟨hx, hb, hml, hown, hts⟩, hlk, hK, hJ, hN⟩ := id F
  intro n
  induction n with
  | zero =>
    intro v2 v3 v4 v5 v6 v7 v9 S h
    exact absurd h (fun q => by cases q)
  | succ n ih =>
    intro v2 v3 v4 v5 v6 v7 v9 S h H locs ls hW hS hl
    rw [f_X9_readsMessage_L148_s] at h
    refine lv_iload hx hb dX9_readsMessage_148 (lv_at hl 6 rfl) ?_
    refine lv_iload hx hb dX9_readsMessage_150 (lv_at hl 3 rfl) ?_
    refine lv_icmp_ge (tgt := 243) hx hb dX9_readsMessage_152 (by decide) (fun c55 => ?_) (fun c55 => ?_)
    · have h := g_t c55 h
      refine lv_aload_n hx hb dX9_readsMessage_243 rfl (lv_at hl 0 rfl) ?_
      refine lv_iload hx hb dX9_readsMessage_244 (lv_at hl 6 rfl) ?_
      obtain ⟨r56, S57, h58, h⟩ := g_bd h
      refine zx_cv (zx_runV (q := (RX9, TX9, 35)) (As := [.int v7]) (rest := []) F hW (c_X9_meets l D a cs v7  S r56 S57 h58) Y_X9_meets wi_X9_meets ws_X9_meets wm_X9_160 ⟨rfl, rfl, Nat.le_of_ble_eq_true rfl, Nat.le_of_ble_eq_true rfl, Nat.le_of_ble_eq_true rfl, Nat.le_of_ble_eq_true rfl⟩ (by decide) zx_E43 rfl rfl hl.1 rfl (Nat.le_of_ble_eq_true rfl) dX9_readsMessage_246) hS (fun H locs hW hS => ?_)
      refine lv_aload_n hx hb dX9_readsMessage_249 rfl (lv_at hl 0 rfl) ?_
      refine zx_get (C := RX9) (T := TX9) (N := 35) F hW wu_X9 (by decide) zx_E43 rfl 24 (by decide) wf_X9_58 rfl dX9_readsMessage_250 ?_
      refine lv_iload hx hb dX9_readsMessage_253 (lv_at hl 5 rfl) ?_
      refine lv_iload hx hb dX9_readsMessage_255 (lv_at hl 6 rfl) ?_
      obtain ⟨c60, h⟩ := g_no h
      obtain ⟨S59, eS59, h⟩ := g_pin h
      refine zx_iast (n := 2) F hW hS (by decide) (fun f => zx_E58) c60 dX9_readsMessage_257 (fun H locs hW hS => ?_)
      have hW : zx_W D a cs S59 H := by rw [eS59]; exact hW
      refine lv_aload_n hx hb dX9_readsMessage_258 rfl (lv_at hl 0 rfl) ?_
      refine zx_get (C := RX9) (T := TX9) (N := 35) F hW wu_X9 (by decide) zx_E43 rfl 25 (by decide) wf_X9_61 rfl dX9_readsMessage_259 ?_
      refine lv_iconst (v := 5) hx hb dX9_readsMessage_262 (by decide) ?_
      refine lv_iload hx hb dX9_readsMessage_263 (lv_at hl 7 rfl) ?_
      refine lv_aload_n hx hb dX9_readsMessage_265 rfl (lv_at hl 0 rfl) ?_
      refine zx_get (C := RX9) (T := TX9) (N := 35) F hW wu_X9 (by decide) zx_E43 rfl 25 (by decide) wf_X9_61 rfl dX9_readsMessage_266 ?_
      refine lv_iconst (v := 5) hx hb dX9_readsMessage_269 (by decide) ?_
      refine zx_iald (n := 6) F hW (by decide) zx_E59 (by unfold vp_in; decide) dX9_readsMessage_270 ?_
      refine zx_nm (z := (S59 59 5)) rfl ?_
      refine lv_icmp_le (tgt := 279) hx hb dX9_readsMessage_271 (by decide) (fun c61 => ?_) (fun c61 => ?_)
      · have h := g_t c61 h
        refine lv_aload_n hx hb dX9_readsMessage_279 rfl (lv_at hl 0 rfl) ?_
        refine zx_get (C := RX9) (T := TX9) (N := 35) F hW wu_X9 (by decide) zx_E43 rfl 25 (by decide) wf_X9_61 rfl dX9_readsMessage_280 ?_
        refine lv_iconst (v := 5) hx hb dX9_readsMessage_283 (by decide) ?_
        refine zx_iald (n := 6) F hW (by decide) zx_E59 (by unfold vp_in; decide) dX9_readsMessage_284 ?_
        refine zx_nm (z := (S59 59 5)) rfl ?_
        exact k_X9_readsMessage_L285  F hr hK56  v2 v3 v4 v5 (S59 59 5) (5 : Int32) S59 h _ _ _ hW hS (lv_sub hl [0, 1, 2, 3, 4] rfl)
      · have h := g_f c61 h
        refine lv_iload hx hb dX9_readsMessage_274 (lv_at hl 7 rfl) ?_
        refine lv_goto (tgt := 285) hx hb dX9_readsMessage_276 (by decide) ?_
        exact k_X9_readsMessage_L285  F hr hK56  v2 v3 v4 v5 v9 (5 : Int32) S59 h _ _ _ hW hS (lv_sub hl [0, 1, 2, 3, 4] rfl)
    · have h := g_f c55 h
      refine lv_iload_n hx hb dX9_readsMessage_155 rfl (lv_at hl 1 rfl) ?_
      refine lv_iload_n hx hb dX9_readsMessage_156 rfl (lv_at hl 2 rfl) ?_
      refine lv_icmp_ne (tgt := 175) hx hb dX9_readsMessage_157 (by decide) (fun c65 => ?_) (fun c65 => ?_)
      · have h := g_f c65 h
        refine lv_aload_n hx hb dX9_readsMessage_175 rfl (lv_at hl 0 rfl) ?_
        refine zx_get (C := RX9) (T := TX9) (N := 35) F hW wu_X9 (by decide) zx_E43 rfl 28 (by decide) wf_X9_187 rfl dX9_readsMessage_176 ?_
        refine lv_if_ne (tgt := 214) hx hb dX9_readsMessage_179 (by decide) (fun c66 => ?_) (fun c66 => ?_)
        · have h := g_f c66 h
          refine lv_sipush (v := 256) hx hb dX9_readsMessage_214 (by decide) ?_
          refine lv_iload hx hb dX9_readsMessage_217 (lv_at hl 6 rfl) ?_
          refine lv_imul hx hb dX9_readsMessage_219 ?_
          refine lv_aload_n hx hb dX9_readsMessage_220 rfl (lv_at hl 0 rfl) ?_
          refine zx_get (C := RX9) (T := TX9) (N := 35) F hW wu_X9 (by decide) zx_E43 rfl 0 (by decide) wf_X9_7 rfl dX9_readsMessage_221 ?_
          refine lv_aload_n hx hb dX9_readsMessage_224 rfl (lv_at hl 0 rfl) ?_
          refine zx_get (C := RX9) (T := TX9) (N := 35) F hW wu_X9 (by decide) zx_E43 rfl 31 (by decide) wf_X9_214 rfl dX9_readsMessage_225 ?_
          refine lv_iload_n hx hb dX9_readsMessage_228 rfl (lv_at hl 1 rfl) ?_
          refine lv_iadd hx hb dX9_readsMessage_229 ?_
          obtain ⟨c67, h⟩ := g_no h
          refine zx_iald (n := 4000) F hW (by decide) zx_E44 c67 dX9_readsMessage_230 ?_
          refine lv_iadd hx hb dX9_readsMessage_231 ?_
          exact k_X9_readsMessage_L232  F hr ih  v2 v3 v4 v5 v6 v9 (((256 : Int32) * v7) + (S 44 ((S 43 31) + v2).toNatClampNeg)) S h _ _ _ hW hS (lv_sub hl [0, 1, 2, 3, 4, 5, 7] rfl)
        · have h := g_t c66 h
          refine lv_iconst (v := 2) hx hb dX9_readsMessage_182 (by decide) ?_
          refine lv_iload hx hb dX9_readsMessage_183 (lv_at hl 6 rfl) ?_
          refine lv_imul hx hb dX9_readsMessage_185 ?_
          refine lv_aload_n hx hb dX9_readsMessage_186 rfl (lv_at hl 0 rfl) ?_
          refine zx_get (C := RX9) (T := TX9) (N := 35) F hW wu_X9 (by decide) zx_E43 rfl 0 (by decide) wf_X9_7 rfl dX9_readsMessage_187 ?_
          refine lv_aload_n hx hb dX9_readsMessage_190 rfl (lv_at hl 0 rfl) ?_
          refine zx_get (C := RX9) (T := TX9) (N := 35) F hW wu_X9 (by decide) zx_E43 rfl 31 (by decide) wf_X9_214 rfl dX9_readsMessage_191 ?_
          refine lv_iload_n hx hb dX9_readsMessage_194 rfl (lv_at hl 1 rfl) ?_
          refine lv_bipush (v := 8) hx hb dX9_readsMessage_195 (by decide) ?_
          refine lv_idiv hx hb dX9_readsMessage_197 (by decide) ?_
          refine lv_iadd hx hb dX9_readsMessage_198 ?_
          obtain ⟨c70, h⟩ := g_no h
          refine zx_iald (n := 4000) F hW (by decide) zx_E44 c70 dX9_readsMessage_199 ?_
          refine lv_bipush (v := 7) hx hb dX9_readsMessage_200 (by decide) ?_
          refine lv_iload_n hx hb dX9_readsMessage_202 rfl (lv_at hl 1 rfl) ?_
          refine lv_bipush (v := 8) hx hb dX9_readsMessage_203 (by decide) ?_
          refine lv_irem hx hb dX9_readsMessage_205 (by decide) ?_
          refine lv_isub hx hb dX9_readsMessage_206 ?_
          refine lv_ishr hx hb dX9_readsMessage_207 ?_
          refine lv_iconst (v := 1) hx hb dX9_readsMessage_208 (by decide) ?_
          refine lv_iand hx hb dX9_readsMessage_209 ?_
          refine lv_iadd hx hb dX9_readsMessage_210 ?_
          refine lv_goto (tgt := 232) hx hb dX9_readsMessage_211 (by decide) ?_
          exact k_X9_readsMessage_L232  F hr ih  v2 v3 v4 v5 v6 v9 (((2 : Int32) * v7) + (((S 44 ((S 43 31) + (v2 / (8 : Int32))).toNatClampNeg) >>> (((7 : Int32) - (v2 - v2 / (8 : Int32) * (8 : Int32))) &&& 31)) &&& (1 : Int32))) S h _ _ _ hW hS (lv_sub hl [0, 1, 2, 3, 4, 5, 7] rfl)
      · have h := g_t c65 h
        refine lv_aload_n hx hb dX9_readsMessage_160 rfl (lv_at hl 0 rfl) ?_
        refine lv_iconst (v := 5) hx hb dX9_readsMessage_161 (by decide) ?_
        refine lv_aload_n hx hb dX9_readsMessage_162 rfl (lv_at hl 0 rfl) ?_
        refine zx_get (C := RX9) (T := TX9) (N := 35) F hW wu_X9 (by decide) zx_E43 rfl 31 (by decide) wf_X9_214 rfl dX9_readsMessage_163 ?_
        refine lv_aload_n hx hb dX9_readsMessage_166 rfl (lv_at hl 0 rfl) ?_
        refine zx_get (C := RX9) (T := TX9) (N := 35) F hW wu_X9 (by decide) zx_E43 rfl 32 (by decide) wf_X9_204 rfl dX9_readsMessage_167 ?_
        refine lv_iadd hx hb dX9_readsMessage_170 ?_
        obtain ⟨r71, S72, h73, h⟩ := g_bd h
        refine zx_ci (zx_runV (q := (RX9, TX9, 35)) (As := [.int (5 : Int32), .int ((S 43 31) + (S 43 32))]) (rest := []) F hW (c_X9_fails l D a cs (5 : Int32) ((S 43 31) + (S 43 32))  S r71 S72 h73) Y_X9_fails wi_X9_fails ws_X9_fails wm_X9_176 ⟨rfl, rfl, Nat.le_of_ble_eq_true rfl, Nat.le_of_ble_eq_true rfl, Nat.le_of_ble_eq_true rfl, Nat.le_of_ble_eq_true rfl⟩ (by decide) zx_E43 rfl rfl hl.1 rfl (Nat.le_of_ble_eq_true rfl) dX9_readsMessage_171) hS (fun H locs hW hS => ?_)
        obtain ⟨c74, h⟩ := g_ok h
        exact zx_rz F hr c74 hW hS h dX9_readsMessage_174
set_option maxHeartbeats 4000000 in
set_option maxRecDepth 100000 in
theorem k_X9_readsMessage_L81 {l : Launch} {D : va_G} {a : Nat → Nat} {cs : zx_C} {p : Program} {e : Env} {s : State} {m : MethodId} {below : List Frame} {meth : Method} {c : Code} {fu : Nat}   (F : zx_F D a cs p m c cX9_readsMessage 10 s ([.ref (a 43)] : List Value).toArray RX9 meth) (hr : meth.sig.returnType = (some (.boolean))) {r9 : Int32} {S9 : St} {K56 : Int32 → Int32 → Int32 → Int32 → St → Option (Int32 × St)} (hK56 : ∀ (v2 : Int32) (v3 : Int32) (v4 : Int32) (v5 : Int32) (S : St), K56 v2 v3 v4 v5 S = some (r9, S9) → ∀ (H : Heap) (locs : List Loc) (ls : Array Slot), zx_W D a cs S H → va_S (zx_A a) s.heap H locs → lv_has ls 10 [(0, .ref (a 43)), (2, .int v2), (3, .int v3), (4, .int v4), (5, .int v5)] → W p l e ({ frames := 1, cells := 0, slots := 0, locals := 29 }) s m ([.ref (a 43)] : List Value).toArray below meth c H locs 0 0 (MQ below (zx_Qi D a cs r9 S9) ([.ref (a 43)] : List Value).toArray s 0 0 (zx_A a)) (F0 m 56 ls []))  (v2 : Int32) (v3 : Int32) (v4 : Int32) (v5 : Int32) (t0 : Int32) (S : St) (h : f_X9_readsMessage_L81 fu  K56  v2 v3 v4 v5 t0 S = some (r9, S9)) (H : Heap) (locs : List Loc) (ls : Array Slot) (hW : zx_W D a cs S H) (hS : va_S (zx_A a) s.heap H locs) (hl : lv_has ls 10 [(0, .ref (a 43)), (2, .int v2), (3, .int v3), (4, .int v4), (5, .int v5)]) : W p l e ({ frames := 1, cells := 0, slots := 0, locals := 29 }) s m ([.ref (a 43)] : List Value).toArray below meth c H locs 0 0 (MQ below (zx_Qi D a cs r9 S9) ([.ref (a 43)] : List Value).toArray s 0 0 (zx_A a)) (F0 m 81 ls [.int t0]) := by
  obtain ⟨⟨hx, hb, hml, hown, hts⟩, hlk, hK, hJ, hN⟩ := id F
  unfold f_X9_readsMessage_L81 at h
  refine lv_istore (lv' := [(6, .int t0), (0, .ref (a 43)), (2, .int v2), (3, .int v3), (4, .int v4), (5, .int v5)]) hx hb dX9_readsMessage_81 hl (by decide) rfl (fun ls hl => ?_)
  refine lv_aload_n hx hb dX9_readsMessage_83 rfl (lv_at hl 1 rfl) ?_
  refine zx_get (C := RX9) (T := TX9) (N := 35) F hW wu_X9 (by decide) zx_E43 rfl 24 (by decide) wf_X9_58 rfl dX9_readsMessage_84 ?_
  refine lv_iload hx hb dX9_readsMessage_87 (lv_at hl 0 rfl) ?_
  obtain ⟨c42, h⟩ := g_no h
  refine zx_iald (n := 2) F hW (by decide) zx_E58 c42 dX9_readsMessage_89 ?_
  obtain ⟨x43, ex43, h⟩ := g_pin h
  refine zx_nm ex43 ?_
  refine lv_istore (lv' := [(7, .int x43), (6, .int t0), (0, .ref (a 43)), (2, .int v2), (3, .int v3), (4, .int v4), (5, .int v5)]) hx hb dX9_readsMessage_90 hl (by decide) rfl (fun ls hl => ?_)
  refine lv_aload_n hx hb dX9_readsMessage_92 rfl (lv_at hl 2 rfl) ?_
  refine lv_iload hx hb dX9_readsMessage_93 (lv_at hl 0 rfl) ?_
  obtain ⟨r44, S45, h46, h⟩ := g_bd h
  refine zx_cv (zx_runV (q := (RX9, TX9, 35)) (As := [.int x43]) (rest := []) F hW (c_X9_meets l D a cs x43  S r44 S45 h46) Y_X9_meets wi_X9_meets ws_X9_meets wm_X9_160 ⟨rfl, rfl, Nat.le_of_ble_eq_true rfl, Nat.le_of_ble_eq_true rfl, Nat.le_of_ble_eq_true rfl, Nat.le_of_ble_eq_true rfl⟩ (by decide) zx_E43 rfl rfl hl.1 rfl (Nat.le_of_ble_eq_true rfl) dX9_readsMessage_95) hS (fun H locs hW hS => ?_)
  refine lv_aload_n hx hb dX9_readsMessage_98 rfl (lv_at hl 2 rfl) ?_
  refine lv_bipush (v := 6) hx hb dX9_readsMessage_99 (by decide) ?_
  refine lv_aload_n hx hb dX9_readsMessage_101 rfl (lv_at hl 2 rfl) ?_
  refine zx_get (C := RX9) (T := TX9) (N := 35) F hW wu_X9 (by decide) zx_E43 rfl 28 (by decide) wf_X9_187 rfl dX9_readsMessage_102 ?_
  refine lv_aload_n hx hb dX9_readsMessage_105 rfl (lv_at hl 2 rfl) ?_
  refine zx_get (C := RX9) (T := TX9) (N := 35) F hW wu_X9 (by decide) zx_E43 rfl 29 (by decide) wf_X9_190 rfl dX9_readsMessage_106 ?_
  refine lv_iload hx hb dX9_readsMessage_109 (lv_at hl 0 rfl) ?_
  obtain ⟨r47, S48, h49, h⟩ := g_bd h
  refine zx_ci (zx_runV (q := (RX9, TX9, 35)) (As := [.int (6 : Int32), .int (S45 43 28), .int (S45 43 29), .int x43]) (rest := []) F hW (c_X9_told l D a cs fu (6 : Int32) (S45 43 28) (S45 43 29) x43  S45 r47 S48 h49) Y_X9_told wi_X9_told ws_X9_told wm_X9_140 ⟨rfl, rfl, Nat.le_of_ble_eq_true rfl, Nat.le_of_ble_eq_true rfl, Nat.le_of_ble_eq_true rfl, Nat.le_of_ble_eq_true rfl⟩ (by decide) zx_E43 rfl rfl hl.1 rfl (Nat.le_of_ble_eq_true rfl) dX9_readsMessage_111) hS (fun H locs hW hS => ?_)
  refine lv_istore (lv' := [(8, .int r47), (7, .int x43), (6, .int t0), (0, .ref (a 43)), (2, .int v2), (3, .int v3), (4, .int v4), (5, .int v5)]) hx hb dX9_readsMessage_114 hl (by decide) rfl (fun ls hl => ?_)
  refine lv_aload_n hx hb dX9_readsMessage_116 rfl (lv_at hl 3 rfl) ?_
  refine zx_get (C := RX9) (T := TX9) (N := 35) F hW wu_X9 (by decide) zx_E43 rfl 34 (by decide) wf_X9_67 rfl dX9_readsMessage_117 ?_
  refine lv_iload hx hb dX9_readsMessage_120 (lv_at hl 7 rfl) ?_
  refine lv_iload hx hb dX9_readsMessage_122 (lv_at hl 0 rfl) ?_
  obtain ⟨c51, h⟩ := g_no h
  obtain ⟨S50, eS50, h⟩ := g_pin h
  refine zx_iast (n := 1400) F hW hS (by decide) (fun f => zx_E61) c51 dX9_readsMessage_124 (fun H locs hW hS => ?_)
  have hW : zx_W D a cs S50 H := by rw [eS50]; exact hW
  refine lv_aload_n hx hb dX9_readsMessage_125 rfl (lv_at hl 3 rfl) ?_
  refine lv_bipush (v := 6) hx hb dX9_readsMessage_126 (by decide) ?_
  refine lv_aload_n hx hb dX9_readsMessage_128 rfl (lv_at hl 3 rfl) ?_
  refine zx_get (C := RX9) (T := TX9) (N := 35) F hW wu_X9 (by decide) zx_E43 rfl 28 (by decide) wf_X9_187 rfl dX9_readsMessage_129 ?_
  refine lv_aload_n hx hb dX9_readsMessage_132 rfl (lv_at hl 3 rfl) ?_
  refine zx_get (C := RX9) (T := TX9) (N := 35) F hW wu_X9 (by decide) zx_E43 rfl 29 (by decide) wf_X9_190 rfl dX9_readsMessage_133 ?_
  refine lv_iload hx hb dX9_readsMessage_136 (lv_at hl 1 rfl) ?_
  refine lv_iload hx hb dX9_readsMessage_138 (lv_at hl 0 rfl) ?_
  obtain ⟨r52, S53, h54, h⟩ := g_bd h
  refine zx_ci (zx_runV (q := (RX9, TX9, 35)) (As := [.int (6 : Int32), .int (S50 43 28), .int (S50 43 29), .int x43, .int r47]) (rest := []) F hW (c_X9_behind l D a cs (6 : Int32) (S50 43 28) (S50 43 29) x43 r47  S50 r52 S53 h54) Y_X9_behind wi_X9_behind ws_X9_behind wm_X9_144 ⟨rfl, rfl, Nat.le_of_ble_eq_true rfl, Nat.le_of_ble_eq_true rfl, Nat.le_of_ble_eq_true rfl, Nat.le_of_ble_eq_true rfl⟩ (by decide) zx_E43 rfl rfl hl.1 rfl (Nat.le_of_ble_eq_true rfl) dX9_readsMessage_140) hS (fun H locs hW hS => ?_)
  refine lv_istore (lv' := [(7, .int r52), (8, .int r47), (6, .int t0), (0, .ref (a 43)), (2, .int v2), (3, .int v3), (4, .int v4), (5, .int v5)]) hx hb dX9_readsMessage_143 hl (by decide) rfl (fun ls hl => ?_)
  refine lv_iconst (v := 0) hx hb dX9_readsMessage_145 (by decide) ?_
  refine lv_istore (lv' := [(9, .int (0 : Int32)), (7, .int r52), (8, .int r47), (6, .int t0), (0, .ref (a 43)), (2, .int v2), (3, .int v3), (4, .int v4), (5, .int v5)]) hx hb dX9_readsMessage_146 hl (by decide) rfl (fun ls hl => ?_)
  exact k_X9_readsMessage_L148  F hr hK56  fu v2 v3 v4 v5 t0 r52 (0 : Int32) S53 h _ _ _ hW hS (lv_sub hl [4, 5, 6, 7, 8, 3, 1, 0] rfl)
set_option maxHeartbeats 4000000 in
set_option maxRecDepth 100000 in
theorem k_X9_readsMessage_L56 {l : Launch} {D : va_G} {a : Nat → Nat} {cs : zx_C} {p : Program} {e : Env} {s : State} {m : MethodId} {below : List Frame} {meth : Method} {c : Code} {fu : Nat}   (F : zx_F D a cs p m c cX9_readsMessage 10 s ([.ref (a 43)] : List Value).toArray RX9 meth) (hr : meth.sig.returnType = (some (.boolean))) {r9 : Int32} {S9 : St}    : ∀ (n : Nat) (v2 : Int32) (v3 : Int32) (v4 : Int32) (v5 : Int32) (S : St), f_X9_readsMessage_L56 fu    n v2 v3 v4 v5 S = some (r9, S9) → ∀ (H : Heap) (locs : List Loc) (ls : Array Slot), zx_W D a cs S H → va_S (zx_A a) s.heap H locs → lv_has ls 10 [(0, .ref (a 43)), (2, .int v2), (3, .int v3), (4, .int v4), (5, .int v5)] → W p l e ({ frames := 1, cells := 0, slots := 0, locals := 29 }) s m ([.ref (a 43)] : List Value).toArray below meth c H locs 0 0 (MQ below (zx_Qi D a cs r9 S9) ([.ref (a 43)] : List Value).toArray s 0 0 (zx_A a)) (F0 m 56 ls []) := by
  obtain ⟨⟨hx, hb, hml, hown, hts⟩, hlk, hK, hJ, hN⟩ := id F
  intro n
  induction n with
  | zero =>
    intro v2 v3 v4 v5 S h
    exact absurd h (fun q => by cases q)
  | succ n ih =>
    intro v2 v3 v4 v5 S h H locs ls hW hS hl
    rw [f_X9_readsMessage_L56_s] at h
    refine lv_iload hx hb dX9_readsMessage_56 (lv_at hl 4 rfl) ?_
    refine lv_aload_n hx hb dX9_readsMessage_58 rfl (lv_at hl 0 rfl) ?_
    refine zx_get (C := RX9) (T := TX9) (N := 35) F hW wu_X9 (by decide) zx_E43 rfl 30 (by decide) wf_X9_201 rfl dX9_readsMessage_59 ?_
    refine lv_icmp_ge (tgt := 292) hx hb dX9_readsMessage_62 (by decide) (fun c7 => ?_) (fun c7 => ?_)
    · have h := g_t c7 h
      refine lv_aload_n hx hb dX9_readsMessage_292 rfl (lv_at hl 0 rfl) ?_
      refine zx_get (C := RX9) (T := TX9) (N := 35) F hW wu_X9 (by decide) zx_E43 rfl 30 (by decide) wf_X9_201 rfl dX9_readsMessage_293 ?_
      refine lv_if_ne (tgt := 305) hx hb dX9_readsMessage_296 (by decide) (fun c8 => ?_) (fun c8 => ?_)
      · have h := g_f c8 h
        exact k_X9_readsMessage_L305  F hr   v2 v4 S h _ _ _ hW hS (lv_sub hl [0, 1, 3] rfl)
      · have h := g_t c8 h
        refine lv_aload_n hx hb dX9_readsMessage_299 rfl (lv_at hl 0 rfl) ?_
        refine lv_iload hx hb dX9_readsMessage_300 (lv_at hl 3 rfl) ?_
        obtain ⟨r38, S39, h40, h⟩ := g_bd h
        refine zx_cv (zx_runV (q := (RX9, TX9, 35)) (As := [.int v4]) (rest := []) F hW (c_X9_meets l D a cs v4  S r38 S39 h40) Y_X9_meets wi_X9_meets ws_X9_meets wm_X9_160 ⟨rfl, rfl, Nat.le_of_ble_eq_true rfl, Nat.le_of_ble_eq_true rfl, Nat.le_of_ble_eq_true rfl, Nat.le_of_ble_eq_true rfl⟩ (by decide) zx_E43 rfl rfl hl.1 rfl (Nat.le_of_ble_eq_true rfl) dX9_readsMessage_302) hS (fun H locs hW hS => ?_)
        exact k_X9_readsMessage_L305  F hr   v2 v4 S39 h _ _ _ hW hS (lv_sub hl [0, 1, 3] rfl)
    · have h := g_f c7 h
      refine lv_aload_n hx hb dX9_readsMessage_65 rfl (lv_at hl 0 rfl) ?_
      refine zx_get (C := RX9) (T := TX9) (N := 35) F hW wu_X9 (by decide) zx_E43 rfl 28 (by decide) wf_X9_187 rfl dX9_readsMessage_66 ?_
      refine lv_iconst (v := 2) hx hb dX9_readsMessage_69 (by decide) ?_
      refine lv_icmp_ne (tgt := 80) hx hb dX9_readsMessage_70 (by decide) (fun c41 => ?_) (fun c41 => ?_)
      · have h := g_f c41 h
        refine lv_iconst (v := 0) hx hb dX9_readsMessage_80 (by decide) ?_
        exact k_X9_readsMessage_L81  F hr ih  v2 v3 v4 v5 (0 : Int32) S h _ _ _ hW hS (lv_sub hl [0, 1, 2, 3, 4] rfl)
      · have h := g_t c41 h
        refine lv_iload hx hb dX9_readsMessage_73 (lv_at hl 4 rfl) ?_
        refine lv_iconst (v := 2) hx hb dX9_readsMessage_75 (by decide) ?_
        refine lv_irem hx hb dX9_readsMessage_76 (by decide) ?_
        refine lv_goto (tgt := 81) hx hb dX9_readsMessage_77 (by decide) ?_
        exact k_X9_readsMessage_L81  F hr ih  v2 v3 v4 v5 (v5 - v5 / (2 : Int32) * (2 : Int32)) S h _ _ _ hW hS (lv_sub hl [0, 1, 2, 3, 4] rfl)
set_option maxHeartbeats 4000000 in
set_option maxRecDepth 100000 in
theorem k_X9_readsMessage_L47 {l : Launch} {D : va_G} {a : Nat → Nat} {cs : zx_C} {p : Program} {e : Env} {s : State} {m : MethodId} {below : List Frame} {meth : Method} {c : Code} {fu : Nat}   (F : zx_F D a cs p m c cX9_readsMessage 10 s ([.ref (a 43)] : List Value).toArray RX9 meth) (hr : meth.sig.returnType = (some (.boolean))) {r9 : Int32} {S9 : St}    (v2 : Int32) (v3 : Int32) (t0 : Int32) (S : St) (h : f_X9_readsMessage_L47 fu    v2 v3 t0 S = some (r9, S9)) (H : Heap) (locs : List Loc) (ls : Array Slot) (hW : zx_W D a cs S H) (hS : va_S (zx_A a) s.heap H locs) (hl : lv_has ls 10 [(0, .ref (a 43)), (2, .int v2), (3, .int v3)]) : W p l e ({ frames := 1, cells := 0, slots := 0, locals := 29 }) s m ([.ref (a 43)] : List Value).toArray below meth c H locs 0 0 (MQ below (zx_Qi D a cs r9 S9) ([.ref (a 43)] : List Value).toArray s 0 0 (zx_A a)) (F0 m 47 ls [.int t0]) := by
  obtain ⟨⟨hx, hb, hml, hown, hts⟩, hlk, hK, hJ, hN⟩ := id F
  unfold f_X9_readsMessage_L47 at h
  refine lv_istore (lv' := [(4, .int t0), (0, .ref (a 43)), (2, .int v2), (3, .int v3)]) hx hb dX9_readsMessage_47 hl (by decide) rfl (fun ls hl => ?_)
  refine lv_aload_n hx hb dX9_readsMessage_49 rfl (lv_at hl 1 rfl) ?_
  obtain ⟨r4, S5, h6, h⟩ := g_bd h
  refine zx_cv (zx_runV (q := (RX9, TX9, 35)) (As := []) (rest := []) F hW (c_X9_meetsNone l D a cs   S r4 S5 h6) Y_X9_meetsNone wi_X9_meetsNone ws_X9_meetsNone wm_X9_153 ⟨rfl, rfl, Nat.le_of_ble_eq_true rfl, Nat.le_of_ble_eq_true rfl, Nat.le_of_ble_eq_true rfl, Nat.le_of_ble_eq_true rfl⟩ (by decide) zx_E43 rfl rfl hl.1 rfl (Nat.le_of_ble_eq_true rfl) dX9_readsMessage_50) hS (fun H locs hW hS => ?_)
  refine lv_iconst (v := 0) hx hb dX9_readsMessage_53 (by decide) ?_
  refine lv_istore (lv' := [(5, .int (0 : Int32)), (4, .int t0), (0, .ref (a 43)), (2, .int v2), (3, .int v3)]) hx hb dX9_readsMessage_54 hl (by decide) rfl (fun ls hl => ?_)
  exact k_X9_readsMessage_L56  F hr   fu v2 v3 t0 (0 : Int32) S5 h _ _ _ hW hS (lv_sub hl [2, 3, 4, 1, 0] rfl)
set_option maxHeartbeats 4000000 in
set_option maxRecDepth 100000 in
theorem k_X9_readsMessage_L33 {l : Launch} {D : va_G} {a : Nat → Nat} {cs : zx_C} {p : Program} {e : Env} {s : State} {m : MethodId} {below : List Frame} {meth : Method} {c : Code} {fu : Nat}   (F : zx_F D a cs p m c cX9_readsMessage 10 s ([.ref (a 43)] : List Value).toArray RX9 meth) (hr : meth.sig.returnType = (some (.boolean))) {r9 : Int32} {S9 : St}    (v1 : Int32) (v2 : Int32) (t0 : Int32) (S : St) (h : f_X9_readsMessage_L33 fu    v1 v2 t0 S = some (r9, S9)) (H : Heap) (locs : List Loc) (ls : Array Slot) (hW : zx_W D a cs S H) (hS : va_S (zx_A a) s.heap H locs) (hl : lv_has ls 10 [(0, .ref (a 43)), (1, .int v1), (2, .int v2)]) : W p l e ({ frames := 1, cells := 0, slots := 0, locals := 29 }) s m ([.ref (a 43)] : List Value).toArray below meth c H locs 0 0 (MQ below (zx_Qi D a cs r9 S9) ([.ref (a 43)] : List Value).toArray s 0 0 (zx_A a)) (F0 m 33 ls [.int t0]) := by
  obtain ⟨⟨hx, hb, hml, hown, hts⟩, hlk, hK, hJ, hN⟩ := id F
  unfold f_X9_readsMessage_L33 at h
  refine lv_istore_n (lv' := [(3, .int t0), (0, .ref (a 43)), (1, .int v1), (2, .int v2)]) hx hb dX9_readsMessage_33 rfl hl (by decide) rfl (fun ls hl => ?_)
  refine lv_aload_n hx hb dX9_readsMessage_34 rfl (lv_at hl 1 rfl) ?_
  refine zx_get (C := RX9) (T := TX9) (N := 35) F hW wu_X9 (by decide) zx_E43 rfl 28 (by decide) wf_X9_187 rfl dX9_readsMessage_35 ?_
  refine lv_if_ne (tgt := 45) hx hb dX9_readsMessage_38 (by decide) (fun c3 => ?_) (fun c3 => ?_)
  · have h := g_f c3 h
    refine lv_ldc (v := 8388608) hx hb hown (hts _ wk_X9_118) dX9_readsMessage_45 ?_
    exact k_X9_readsMessage_L47  F hr   v2 t0 (8388608 : Int32) S h _ _ _ hW hS (lv_sub hl [1, 3, 0] rfl)
  · have h := g_t c3 h
    refine lv_iload_n hx hb dX9_readsMessage_41 rfl (lv_at hl 2 rfl) ?_
    refine lv_goto (tgt := 47) hx hb dX9_readsMessage_42 (by decide) ?_
    exact k_X9_readsMessage_L47  F hr   v2 t0 v1 S h _ _ _ hW hS (lv_sub hl [1, 3, 0] rfl)
set_option maxHeartbeats 4000000 in
set_option maxRecDepth 100000 in
theorem c_X9_readsMessage (l : Launch) (D : va_G) (a : Nat → Nat) (cs : zx_C) (fu : Nat)   (S : St) (r9 : Int32) (S9 : St) (h : f_X9_readsMessage fu  S = some (r9, S9)) : Met l yX9_readsMessage (Cond.code yX9_readsMessage cX9_readsMessage 10 (some (.boolean)) :: zx_tb) ({ frames := 1, cells := 0, slots := 0, locals := 29 }) (zx_P D a cs [.ref (a 43)] S) (zx_Qi D a cs r9 S9) 0 0 (zx_A a) := by
  refine zx_met (own := RX9) (by decide) (Nat.le_of_ble_eq_true rfl) rfl ?_
  intro p e s m below meth c ls F hr hW hS hl
  have hl : lv_has ls 10 [(0, .ref (a 43))] := hl
  obtain ⟨⟨hx, hb, hml, hown, hts⟩, hlk, hK, hJ, hN⟩ := id F
  unfold f_X9_readsMessage at h
  refine lv_iconst (v := 1) hx hb dX9_readsMessage_0 (by decide) ?_
  refine lv_aload_n hx hb dX9_readsMessage_1 rfl (lv_at hl 0 rfl) ?_
  refine zx_get (C := RX9) (T := TX9) (N := 35) F hW wu_X9 (by decide) zx_E43 rfl 4 (by decide) wf_X9_16 rfl dX9_readsMessage_2 ?_
  refine lv_bipush (v := 6) hx hb dX9_readsMessage_5 (by decide) ?_
  refine zx_iald (n := 7) F hW (by decide) zx_E46 (by unfold vp_in; decide) dX9_readsMessage_7 ?_
  refine zx_nm (z := (S 46 6)) rfl ?_
  refine lv_ishl hx hb dX9_readsMessage_8 ?_
  obtain ⟨x1, ex1, h⟩ := g_pin h
  refine zx_nm ex1 ?_
  refine lv_istore_n (lv' := [(1, .int x1), (0, .ref (a 43))]) hx hb dX9_readsMessage_9 rfl hl (by decide) rfl (fun ls hl => ?_)
  refine lv_iconst (v := 0) hx hb dX9_readsMessage_10 (by decide) ?_
  refine lv_istore_n (lv' := [(2, .int (0 : Int32)), (1, .int x1), (0, .ref (a 43))]) hx hb dX9_readsMessage_11 rfl hl (by decide) rfl (fun ls hl => ?_)
  refine lv_aload_n hx hb dX9_readsMessage_12 rfl (lv_at hl 2 rfl) ?_
  refine zx_get (C := RX9) (T := TX9) (N := 35) F hW wu_X9 (by decide) zx_E43 rfl 28 (by decide) wf_X9_187 rfl dX9_readsMessage_13 ?_
  refine lv_if_ne (tgt := 29) hx hb dX9_readsMessage_16 (by decide) (fun c2 => ?_) (fun c2 => ?_)
  · have h := g_f c2 h
    refine lv_aload_n hx hb dX9_readsMessage_29 rfl (lv_at hl 2 rfl) ?_
    refine zx_get (C := RX9) (T := TX9) (N := 35) F hW wu_X9 (by decide) zx_E43 rfl 32 (by decide) wf_X9_204 rfl dX9_readsMessage_30 ?_
    exact k_X9_readsMessage_L33  F hr   x1 (0 : Int32) (S 43 32) S h _ _ _ hW hS (lv_sub hl [2, 1, 0] rfl)
  · have h := g_t c2 h
    refine lv_bipush (v := 8) hx hb dX9_readsMessage_19 (by decide) ?_
    refine lv_aload_n hx hb dX9_readsMessage_21 rfl (lv_at hl 2 rfl) ?_
    refine zx_get (C := RX9) (T := TX9) (N := 35) F hW wu_X9 (by decide) zx_E43 rfl 32 (by decide) wf_X9_204 rfl dX9_readsMessage_22 ?_
    refine lv_imul hx hb dX9_readsMessage_25 ?_
    refine lv_goto (tgt := 33) hx hb dX9_readsMessage_26 (by decide) ?_
    exact k_X9_readsMessage_L33  F hr   x1 (0 : Int32) ((8 : Int32) * (S 43 32)) S h _ _ _ hW hS (lv_sub hl [2, 1, 0] rfl)
