def zx_tb : List Cond := lw_tbl.filter goodWord
theorem zx_in1 {w : Cond} {i : Nat} (h : tables_1_1[i]? = some w) (hg : goodWord w = true) : w ∈ zx_tb := List.mem_filter.mpr ⟨List.mem_append_right _ (by have h := List.mem_of_getElem? h; exact List.mem_append_left _ h), hg⟩
theorem zx_ix1 {w : Cond} {i : Nat} (h : tables_1_1[i]? = some w) : w ∈ lw_tbl := List.mem_append_right _ (by have h := List.mem_of_getElem? h; exact List.mem_append_left _ h)
theorem zx_in2 {w : Cond} {i : Nat} (h : tables_1_2[i]? = some w) (hg : goodWord w = true) : w ∈ zx_tb := List.mem_filter.mpr ⟨List.mem_append_right _ (by have h := List.mem_of_getElem? h; exact List.mem_append_right _ (List.mem_append_left _ h)), hg⟩
theorem zx_ix2 {w : Cond} {i : Nat} (h : tables_1_2[i]? = some w) : w ∈ lw_tbl := List.mem_append_right _ (by have h := List.mem_of_getElem? h; exact List.mem_append_right _ (List.mem_append_left _ h))
theorem zx_in3 {w : Cond} {i : Nat} (h : tables_1_3[i]? = some w) (hg : goodWord w = true) : w ∈ zx_tb := List.mem_filter.mpr ⟨List.mem_append_right _ (by have h := List.mem_of_getElem? h; exact List.mem_append_right _ (List.mem_append_right _ (List.mem_append_left _ h))), hg⟩
theorem zx_ix3 {w : Cond} {i : Nat} (h : tables_1_3[i]? = some w) : w ∈ lw_tbl := List.mem_append_right _ (by have h := List.mem_of_getElem? h; exact List.mem_append_right _ (List.mem_append_right _ (List.mem_append_left _ h)))
theorem zx_in4 {w : Cond} {i : Nat} (h : tables_1_4[i]? = some w) (hg : goodWord w = true) : w ∈ zx_tb := List.mem_filter.mpr ⟨List.mem_append_right _ (by have h := List.mem_of_getElem? h; exact List.mem_append_right _ (List.mem_append_right _ (List.mem_append_right _ (List.mem_append_left _ h)))), hg⟩
theorem zx_ix4 {w : Cond} {i : Nat} (h : tables_1_4[i]? = some w) : w ∈ lw_tbl := List.mem_append_right _ (by have h := List.mem_of_getElem? h; exact List.mem_append_right _ (List.mem_append_right _ (List.mem_append_right _ (List.mem_append_left _ h))))
theorem zx_in5 {w : Cond} {i : Nat} (h : tables_1_5[i]? = some w) (hg : goodWord w = true) : w ∈ zx_tb := List.mem_filter.mpr ⟨List.mem_append_right _ (by have h := List.mem_of_getElem? h; exact List.mem_append_right _ (List.mem_append_right _ (List.mem_append_right _ (List.mem_append_right _ (h))))), hg⟩
theorem zx_ix5 {w : Cond} {i : Nat} (h : tables_1_5[i]? = some w) : w ∈ lw_tbl := List.mem_append_right _ (by have h := List.mem_of_getElem? h; exact List.mem_append_right _ (List.mem_append_right _ (List.mem_append_right _ (List.mem_append_right _ (h)))))
theorem zx_ip1 {q : MethodName × Nat} {i : Nat} (h : lw_privs_1[i]? = some q) (hg : goodWord (Cond.selects q.1.cls q.1 q.1) = true) : Cond.selects q.1.cls q.1 q.1 ∈ zx_tb := List.mem_filter.mpr ⟨List.mem_append_left _ (List.mem_map.mpr ⟨q, by have h := List.mem_of_getElem? h; exact List.mem_append_left _ h, rfl⟩), hg⟩
theorem zx_ip2 {q : MethodName × Nat} {i : Nat} (h : lw_privs_2[i]? = some q) (hg : goodWord (Cond.selects q.1.cls q.1 q.1) = true) : Cond.selects q.1.cls q.1 q.1 ∈ zx_tb := List.mem_filter.mpr ⟨List.mem_append_left _ (List.mem_map.mpr ⟨q, by have h := List.mem_of_getElem? h; exact List.mem_append_right _ (List.mem_append_left _ h), rfl⟩), hg⟩
theorem zx_ip3 {q : MethodName × Nat} {i : Nat} (h : lw_privs_3[i]? = some q) (hg : goodWord (Cond.selects q.1.cls q.1 q.1) = true) : Cond.selects q.1.cls q.1 q.1 ∈ zx_tb := List.mem_filter.mpr ⟨List.mem_append_left _ (List.mem_map.mpr ⟨q, by have h := List.mem_of_getElem? h; exact List.mem_append_right _ (List.mem_append_right _ (List.mem_append_left _ h)), rfl⟩), hg⟩
theorem zx_ip4 {q : MethodName × Nat} {i : Nat} (h : lw_privs_4[i]? = some q) (hg : goodWord (Cond.selects q.1.cls q.1 q.1) = true) : Cond.selects q.1.cls q.1 q.1 ∈ zx_tb := List.mem_filter.mpr ⟨List.mem_append_left _ (List.mem_map.mpr ⟨q, by have h := List.mem_of_getElem? h; exact List.mem_append_right _ (List.mem_append_right _ (List.mem_append_right _ (h))), rfl⟩), hg⟩
theorem wn_L : Cond.initialized RL ∈ zx_tb := zx_in1 (i := 0) rfl rfl
theorem wn_X8 : Cond.initialized RX8 ∈ zx_tb := zx_in1 (i := 1) rfl rfl
theorem wn_X4 : Cond.initialized RX4 ∈ zx_tb := zx_in1 (i := 2) rfl rfl
theorem wn_X1 : Cond.initialized RX1 ∈ zx_tb := zx_in1 (i := 3) rfl rfl
theorem wn_X0 : Cond.initialized RX0 ∈ zx_tb := zx_in1 (i := 4) rfl rfl
theorem wn_X5 : Cond.initialized RX5 ∈ zx_tb := zx_in1 (i := 5) rfl rfl
theorem wn_X7 : Cond.initialized RX7 ∈ zx_tb := zx_in1 (i := 6) rfl rfl
theorem wn_X6 : Cond.initialized RX6 ∈ zx_tb := zx_in1 (i := 7) rfl rfl
theorem wn_X2 : Cond.initialized RX2 ∈ zx_tb := zx_in1 (i := 8) rfl rfl
theorem wn_X3 : Cond.initialized RX3 ∈ zx_tb := zx_in1 (i := 9) rfl rfl
theorem wn_X9 : Cond.initialized RX9 ∈ zx_tb := zx_in1 (i := 10) rfl rfl
theorem wn_J7 : Cond.initialized RJ7 ∈ zx_tb := zx_in1 (i := 11) rfl rfl
theorem wn_J9 : Cond.initialized RJ9 ∈ zx_tb := zx_in1 (i := 12) rfl rfl
theorem wn_J10 : Cond.initialized RJ10 ∈ zx_tb := zx_in1 (i := 13) rfl rfl
theorem wn_J6 : Cond.initialized RJ6 ∈ zx_tb := zx_in1 (i := 14) rfl rfl
theorem wm_L_9 : Cond.methodLink RL 9 yX8_init ∈ zx_tb := zx_in1 (i := 17) rfl rfl
theorem wm_X8_3 : Cond.methodLink RX8 3 objectInit ∈ zx_tb := zx_in1 (i := 20) rfl rfl
theorem wm_X4_3 : Cond.methodLink RX4 3 objectInit ∈ zx_tb := zx_in1 (i := 28) rfl rfl
theorem wf_X4_9 : Cond.fieldLink RX4 9 (TX4 0).1 (TX4 0).2.1 (TX4 0).2.2.1 ∈ zx_tb := zx_in1 (i := 29) rfl rfl
theorem wf_X4_15 : Cond.fieldLink RX4 15 (TX4 1).1 (TX4 1).2.1 (TX4 1).2.2.1 ∈ zx_tb := zx_in1 (i := 30) rfl rfl
theorem wf_X8_70 : Cond.fieldLink RX8 70 (TX4 1).1 (TX4 1).2.1 (TX4 1).2.2.1 ∈ zx_tb := zx_in1 (i := 31) rfl rfl
theorem wf_X2_41 : Cond.fieldLink RX2 41 (TX4 1).1 (TX4 1).2.1 (TX4 1).2.2.1 ∈ zx_tb := zx_in1 (i := 32) rfl rfl
theorem wf_X1_107 : Cond.fieldLink RX1 107 (TX4 1).1 (TX4 1).2.1 (TX4 1).2.2.1 ∈ zx_tb := zx_in1 (i := 33) rfl rfl
theorem wm_X1_3 : Cond.methodLink RX1 3 objectInit ∈ zx_tb := zx_in1 (i := 47) rfl rfl
theorem wm_X0_3 : Cond.methodLink RX0 3 objectInit ∈ zx_tb := zx_in1 (i := 53) rfl rfl
theorem wm_X5_3 : Cond.methodLink RX5 3 objectInit ∈ zx_tb := zx_in1 (i := 59) rfl rfl
theorem wf_X5_9 : Cond.fieldLink RX5 9 (TX5 0).1 (TX5 0).2.1 (TX5 0).2.2.1 ∈ zx_tb := zx_in1 (i := 60) rfl rfl
theorem wf_X5_15 : Cond.fieldLink RX5 15 (TX5 1).1 (TX5 1).2.1 (TX5 1).2.2.1 ∈ zx_tb := zx_in1 (i := 61) rfl rfl
theorem wf_X5_18 : Cond.fieldLink RX5 18 (TX5 2).1 (TX5 2).2.1 (TX5 2).2.2.1 ∈ zx_tb := zx_in1 (i := 62) rfl rfl
theorem wf_X5_21 : Cond.fieldLink RX5 21 (TX5 3).1 (TX5 3).2.1 (TX5 3).2.2.1 ∈ zx_tb := zx_in1 (i := 63) rfl rfl
theorem wf_X5_24 : Cond.fieldLink RX5 24 (TX5 4).1 (TX5 4).2.1 (TX5 4).2.2.1 ∈ zx_tb := zx_in1 (i := 64) rfl rfl
theorem wf_X5_27 : Cond.fieldLink RX5 27 (TX5 5).1 (TX5 5).2.1 (TX5 5).2.2.1 ∈ zx_tb := zx_in1 (i := 65) rfl rfl
theorem wf_X5_30 : Cond.fieldLink RX5 30 (TX5 6).1 (TX5 6).2.1 (TX5 6).2.2.1 ∈ zx_tb := zx_in1 (i := 66) rfl rfl
theorem wf_X5_34 : Cond.fieldLink RX5 34 (TX5 7).1 (TX5 7).2.1 (TX5 7).2.2.1 ∈ zx_tb := zx_in1 (i := 67) rfl rfl
theorem wf_X5_37 : Cond.fieldLink RX5 37 (TX5 8).1 (TX5 8).2.1 (TX5 8).2.2.1 ∈ zx_tb := zx_in1 (i := 68) rfl rfl
theorem wf_X2_91 : Cond.fieldLink RX2 91 (TX5 8).1 (TX5 8).2.1 (TX5 8).2.2.1 ∈ zx_tb := zx_in1 (i := 69) rfl rfl
theorem wf_X5_40 : Cond.fieldLink RX5 40 (TX5 9).1 (TX5 9).2.1 (TX5 9).2.2.1 ∈ zx_tb := zx_in1 (i := 70) rfl rfl
theorem wf_X0_12 : Cond.fieldLink RX0 12 (TX0 0).1 (TX0 0).2.1 (TX0 0).2.2.1 ∈ zx_tb := zx_in1 (i := 93) rfl rfl
theorem wf_X2_87 : Cond.fieldLink RX2 87 (TX0 0).1 (TX0 0).2.1 (TX0 0).2.2.1 ∈ zx_tb := zx_in1 (i := 94) rfl rfl
theorem wf_X8_92 : Cond.fieldLink RX8 92 (TX0 0).1 (TX0 0).2.1 (TX0 0).2.2.1 ∈ zx_tb := zx_in1 (i := 95) rfl rfl
theorem wf_X1_140 : Cond.fieldLink RX1 140 (TX0 0).1 (TX0 0).2.1 (TX0 0).2.2.1 ∈ zx_tb := zx_in1 (i := 96) rfl rfl
theorem wf_X0_18 : Cond.fieldLink RX0 18 (TX0 1).1 (TX0 1).2.1 (TX0 1).2.2.1 ∈ zx_tb := zx_in1 (i := 97) rfl rfl
theorem wf_X2_84 : Cond.fieldLink RX2 84 (TX0 1).1 (TX0 1).2.1 (TX0 1).2.2.1 ∈ zx_tb := zx_in1 (i := 98) rfl rfl
theorem wf_X0_22 : Cond.fieldLink RX0 22 (TX0 2).1 (TX0 2).2.1 (TX0 2).2.2.1 ∈ zx_tb := zx_in1 (i := 99) rfl rfl
theorem wf_X0_25 : Cond.fieldLink RX0 25 (TX0 3).1 (TX0 3).2.1 (TX0 3).2.2.1 ∈ zx_tb := zx_in1 (i := 100) rfl rfl
theorem wf_X2_25 : Cond.fieldLink RX2 25 (TX0 3).1 (TX0 3).2.1 (TX0 3).2.2.1 ∈ zx_tb := zx_in1 (i := 101) rfl rfl
theorem wf_X1_195 : Cond.fieldLink RX1 195 (TX0 3).1 (TX0 3).2.1 (TX0 3).2.2.1 ∈ zx_tb := zx_in1 (i := 102) rfl rfl
theorem wf_X0_28 : Cond.fieldLink RX0 28 (TX0 4).1 (TX0 4).2.1 (TX0 4).2.2.1 ∈ zx_tb := zx_in1 (i := 103) rfl rfl
theorem wf_X2_75 : Cond.fieldLink RX2 75 (TX0 4).1 (TX0 4).2.1 (TX0 4).2.2.1 ∈ zx_tb := zx_in1 (i := 104) rfl rfl
theorem wf_X1_180 : Cond.fieldLink RX1 180 (TX0 4).1 (TX0 4).2.1 (TX0 4).2.2.1 ∈ zx_tb := zx_in1 (i := 105) rfl rfl
theorem wf_X0_31 : Cond.fieldLink RX0 31 (TX0 5).1 (TX0 5).2.1 (TX0 5).2.2.1 ∈ zx_tb := zx_in1 (i := 106) rfl rfl
theorem wf_X2_63 : Cond.fieldLink RX2 63 (TX0 5).1 (TX0 5).2.1 (TX0 5).2.2.1 ∈ zx_tb := zx_in1 (i := 107) rfl rfl
theorem wf_X8_203 : Cond.fieldLink RX8 203 (TX0 5).1 (TX0 5).2.1 (TX0 5).2.2.1 ∈ zx_tb := zx_in1 (i := 108) rfl rfl
theorem wf_X0_34 : Cond.fieldLink RX0 34 (TX0 6).1 (TX0 6).2.1 (TX0 6).2.2.1 ∈ zx_tb := zx_in1 (i := 109) rfl rfl
theorem wf_X2_66 : Cond.fieldLink RX2 66 (TX0 6).1 (TX0 6).2.1 (TX0 6).2.2.1 ∈ zx_tb := zx_in1 (i := 110) rfl rfl
theorem wf_X8_197 : Cond.fieldLink RX8 197 (TX0 6).1 (TX0 6).2.1 (TX0 6).2.2.1 ∈ zx_tb := zx_in1 (i := 111) rfl rfl
theorem wf_X0_37 : Cond.fieldLink RX0 37 (TX0 7).1 (TX0 7).2.1 (TX0 7).2.2.1 ∈ zx_tb := zx_in1 (i := 112) rfl rfl
theorem wf_X2_69 : Cond.fieldLink RX2 69 (TX0 7).1 (TX0 7).2.1 (TX0 7).2.2.1 ∈ zx_tb := zx_in1 (i := 113) rfl rfl
theorem wf_X8_200 : Cond.fieldLink RX8 200 (TX0 7).1 (TX0 7).2.1 (TX0 7).2.2.1 ∈ zx_tb := zx_in1 (i := 114) rfl rfl
theorem wm_X7_3 : Cond.methodLink RX7 3 objectInit ∈ zx_tb := zx_in1 (i := 137) rfl rfl
theorem wf_X7_11 : Cond.fieldLink RX7 11 (TX7 0).1 (TX7 0).2.1 (TX7 0).2.2.1 ∈ zx_tb := zx_in1 (i := 138) rfl rfl
theorem wf_X2_111 : Cond.fieldLink RX2 111 (TX7 0).1 (TX7 0).2.1 (TX7 0).2.2.1 ∈ zx_tb := zx_in1 (i := 139) rfl rfl
theorem wm_X6_3 : Cond.methodLink RX6 3 objectInit ∈ zx_tb := zx_in1 (i := 148) rfl rfl
theorem wf_X6_9 : Cond.fieldLink RX6 9 (TX6 0).1 (TX6 0).2.1 (TX6 0).2.2.1 ∈ zx_tb := zx_in1 (i := 149) rfl rfl
theorem wf_X6_15 : Cond.fieldLink RX6 15 (TX6 1).1 (TX6 1).2.1 (TX6 1).2.2.1 ∈ zx_tb := zx_in1 (i := 150) rfl rfl
theorem wf_X0_44 : Cond.fieldLink RX0 44 (TX6 1).1 (TX6 1).2.1 (TX6 1).2.2.1 ∈ zx_tb := zx_in1 (i := 151) rfl rfl
theorem wf_X2_96 : Cond.fieldLink RX2 96 (TX6 1).1 (TX6 1).2.1 (TX6 1).2.2.1 ∈ zx_tb := zx_in1 (i := 152) rfl rfl
theorem wf_X8_107 : Cond.fieldLink RX8 107 (TX6 1).1 (TX6 1).2.1 (TX6 1).2.2.1 ∈ zx_tb := zx_in1 (i := 153) rfl rfl
theorem wf_X1_12 : Cond.fieldLink RX1 12 (TX1 0).1 (TX1 0).2.1 (TX1 0).2.2.1 ∈ zx_tb := zx_in1 (i := 159) rfl rfl
theorem wf_X8_36 : Cond.fieldLink RX8 36 (TX1 0).1 (TX1 0).2.1 (TX1 0).2.2.1 ∈ zx_tb := zx_in1 (i := 160) rfl rfl
theorem wf_X1_21 : Cond.fieldLink RX1 21 (TX1 1).1 (TX1 1).2.1 (TX1 1).2.2.1 ∈ zx_tb := zx_in1 (i := 161) rfl rfl
theorem wf_X8_167 : Cond.fieldLink RX8 167 (TX1 1).1 (TX1 1).2.1 (TX1 1).2.2.1 ∈ zx_tb := zx_in1 (i := 162) rfl rfl
theorem wf_X1_25 : Cond.fieldLink RX1 25 (TX1 2).1 (TX1 2).2.1 (TX1 2).2.2.1 ∈ zx_tb := zx_in1 (i := 163) rfl rfl
theorem wf_X1_29 : Cond.fieldLink RX1 29 (TX1 3).1 (TX1 3).2.1 (TX1 3).2.2.1 ∈ zx_tb := zx_in1 (i := 164) rfl rfl
theorem wf_X1_36 : Cond.fieldLink RX1 36 (TX1 4).1 (TX1 4).2.1 (TX1 4).2.2.1 ∈ zx_tb := zx_in1 (i := 165) rfl rfl
theorem wf_X1_40 : Cond.fieldLink RX1 40 (TX1 5).1 (TX1 5).2.1 (TX1 5).2.2.1 ∈ zx_tb := zx_in1 (i := 166) rfl rfl
theorem wf_X1_44 : Cond.fieldLink RX1 44 (TX1 6).1 (TX1 6).2.1 (TX1 6).2.2.1 ∈ zx_tb := zx_in1 (i := 167) rfl rfl
theorem wf_X8_168 : Cond.fieldLink RX8 168 (TX1 6).1 (TX1 6).2.1 (TX1 6).2.2.1 ∈ zx_tb := zx_in1 (i := 168) rfl rfl
theorem wf_X1_48 : Cond.fieldLink RX1 48 (TX1 7).1 (TX1 7).2.1 (TX1 7).2.2.1 ∈ zx_tb := zx_in1 (i := 169) rfl rfl
theorem wf_X8_171 : Cond.fieldLink RX8 171 (TX1 7).1 (TX1 7).2.1 (TX1 7).2.2.1 ∈ zx_tb := zx_in1 (i := 170) rfl rfl
theorem wf_X1_51 : Cond.fieldLink RX1 51 (TX1 8).1 (TX1 8).2.1 (TX1 8).2.2.1 ∈ zx_tb := zx_in1 (i := 171) rfl rfl
theorem wf_X1_54 : Cond.fieldLink RX1 54 (TX1 9).1 (TX1 9).2.1 (TX1 9).2.2.1 ∈ zx_tb := zx_in1 (i := 172) rfl rfl
theorem wf_X1_57 : Cond.fieldLink RX1 57 (TX1 10).1 (TX1 10).2.1 (TX1 10).2.2.1 ∈ zx_tb := zx_in1 (i := 173) rfl rfl
theorem wf_X1_60 : Cond.fieldLink RX1 60 (TX1 11).1 (TX1 11).2.1 (TX1 11).2.2.1 ∈ zx_tb := zx_in1 (i := 174) rfl rfl
theorem wf_X1_63 : Cond.fieldLink RX1 63 (TX1 12).1 (TX1 12).2.1 (TX1 12).2.2.1 ∈ zx_tb := zx_in1 (i := 175) rfl rfl
theorem wf_X1_66 : Cond.fieldLink RX1 66 (TX1 13).1 (TX1 13).2.1 (TX1 13).2.2.1 ∈ zx_tb := zx_in1 (i := 176) rfl rfl
theorem wf_X1_69 : Cond.fieldLink RX1 69 (TX1 14).1 (TX1 14).2.1 (TX1 14).2.2.1 ∈ zx_tb := zx_in1 (i := 177) rfl rfl
theorem wf_X1_72 : Cond.fieldLink RX1 72 (TX1 15).1 (TX1 15).2.1 (TX1 15).2.2.1 ∈ zx_tb := zx_in1 (i := 178) rfl rfl
theorem wm_X2_3 : Cond.methodLink RX2 3 objectInit ∈ zx_tb := zx_in1 (i := 217) rfl rfl
theorem wf_X2_12 : Cond.fieldLink RX2 12 (TX2 0).1 (TX2 0).2.1 (TX2 0).2.2.1 ∈ zx_tb := zx_in1 (i := 220) rfl rfl
theorem wf_X8_150 : Cond.fieldLink RX8 150 (TX2 0).1 (TX2 0).2.1 (TX2 0).2.2.1 ∈ zx_tb := zx_in1 (i := 221) rfl rfl
theorem wf_X2_18 : Cond.fieldLink RX2 18 (TX2 1).1 (TX2 1).2.1 (TX2 1).2.2.1 ∈ zx_tb := zx_in1 (i := 222) rfl rfl
theorem wf_X2_22 : Cond.fieldLink RX2 22 (TX2 2).1 (TX2 2).2.1 (TX2 2).2.2.1 ∈ zx_tb := zx_in1 (i := 223) rfl rfl
theorem wm_X3_5 : Cond.methodLink RX3 5 objectInit ∈ zx_tb := zx_in1 (i := 238) rfl rfl
theorem wf_X3_11 : Cond.fieldLink RX3 11 (TX3 0).1 (TX3 0).2.1 (TX3 0).2.2.1 ∈ zx_tb := zx_in1 (i := 239) rfl rfl
theorem wf_X3_15 : Cond.fieldLink RX3 15 (TX3 1).1 (TX3 1).2.1 (TX3 1).2.2.1 ∈ zx_tb := zx_in2 (i := 0) rfl rfl
theorem wf_X3_19 : Cond.fieldLink RX3 19 (TX3 2).1 (TX3 2).2.1 (TX3 2).2.2.1 ∈ zx_tb := zx_in2 (i := 1) rfl rfl
theorem wf_X8_12 : Cond.fieldLink RX8 12 (TX8 0).1 (TX8 0).2.1 (TX8 0).2.2.1 ∈ zx_tb := zx_in2 (i := 10) rfl rfl
theorem wf_X8_16 : Cond.fieldLink RX8 16 (TX8 1).1 (TX8 1).2.1 (TX8 1).2.2.1 ∈ zx_tb := zx_in2 (i := 11) rfl rfl
theorem wf_X8_21 : Cond.fieldLink RX8 21 (TX8 2).1 (TX8 2).2.1 (TX8 2).2.2.1 ∈ zx_tb := zx_in2 (i := 12) rfl rfl
theorem wf_X8_25 : Cond.fieldLink RX8 25 (TX8 3).1 (TX8 3).2.1 (TX8 3).2.2.1 ∈ zx_tb := zx_in2 (i := 13) rfl rfl
theorem wf_X8_32 : Cond.fieldLink RX8 32 (TX8 4).1 (TX8 4).2.1 (TX8 4).2.2.1 ∈ zx_tb := zx_in2 (i := 14) rfl rfl
theorem wf_X8_40 : Cond.fieldLink RX8 40 (TX8 5).1 (TX8 5).2.1 (TX8 5).2.2.1 ∈ zx_tb := zx_in2 (i := 15) rfl rfl
theorem wf_X8_44 : Cond.fieldLink RX8 44 (TX8 6).1 (TX8 6).2.1 (TX8 6).2.2.1 ∈ zx_tb := zx_in2 (i := 16) rfl rfl
theorem wf_X8_51 : Cond.fieldLink RX8 51 (TX8 7).1 (TX8 7).2.1 (TX8 7).2.2.1 ∈ zx_tb := zx_in2 (i := 17) rfl rfl
theorem wf_X8_58 : Cond.fieldLink RX8 58 (TX8 8).1 (TX8 8).2.1 (TX8 8).2.2.1 ∈ zx_tb := zx_in2 (i := 18) rfl rfl
theorem wf_X8_62 : Cond.fieldLink RX8 62 (TX8 9).1 (TX8 9).2.1 (TX8 9).2.2.1 ∈ zx_tb := zx_in2 (i := 19) rfl rfl
theorem wf_X8_66 : Cond.fieldLink RX8 66 (TX8 10).1 (TX8 10).2.1 (TX8 10).2.2.1 ∈ zx_tb := zx_in2 (i := 20) rfl rfl
theorem wm_L_13 : Cond.methodLink RL 13 yX8_feed ∈ zx_tb := zx_in2 (i := 44) rfl rfl
theorem wm_X8_73 : Cond.methodLink RX8 73 yX4_addNumber ∈ zx_tb := zx_in2 (i := 48) rfl rfl
theorem wm_X4_19 : Cond.methodLink RX4 19 yX4_add ∈ zx_tb := zx_in2 (i := 52) rfl rfl
theorem wm_L_18 : Cond.methodLink RL 18 yX8_end ∈ zx_tb := zx_in2 (i := 56) rfl rfl
theorem wm_L_23 : Cond.methodLink RL 23 yX8_learn ∈ zx_tb := zx_in2 (i := 60) rfl rfl
theorem wm_X8_77 : Cond.methodLink RX8 77 yX8_isTableNumber ∈ zx_tb := zx_in2 (i := 64) rfl rfl
theorem wm_X8_81 : Cond.methodLink RX8 81 yX8_isLog ∈ zx_tb := zx_in2 (i := 67) rfl rfl
theorem wm_X8_84 : Cond.methodLink RX8 84 yX8_countTape ∈ zx_tb := zx_in2 (i := 70) rfl rfl
theorem wm_X8_222 : Cond.methodLink RX8 222 yJ7_fill_53178 ∈ zx_tb := zx_in2 (i := 74) rfl rfl
theorem wm_X8_174 : Cond.methodLink RX8 174 yX4_byteAt ∈ zx_tb := zx_in2 (i := 77) rfl rfl
theorem wm_X8_110 : Cond.methodLink RX8 110 yX8_isSymbol ∈ zx_tb := zx_in2 (i := 81) rfl rfl
theorem wm_X8_88 : Cond.methodLink RX8 88 yX6_fit ∈ zx_tb := zx_in2 (i := 84) rfl rfl
theorem wm_X6_29 : Cond.methodLink RX6 29 yX6_clear ∈ zx_tb := zx_in2 (i := 88) rfl rfl
theorem wm_X6_23 : Cond.methodLink RX6 23 yJ7_fill_53178 ∈ zx_tb := zx_in2 (i := 92) rfl rfl
theorem wm_X6_33 : Cond.methodLink RX6 33 yX6_places ∈ zx_tb := zx_in2 (i := 93) rfl rfl
theorem wm_X6_37 : Cond.methodLink RX6 37 Lib.Math.max.name ∈ zx_tb := zx_in2 (i := 97) rfl rfl
theorem wm_X6_43 : Cond.methodLink RX6 43 yX6_mostLacking ∈ zx_tb := zx_in2 (i := 100) rfl rfl
theorem wm_X6_54 : Cond.methodLink RX6 54 yX6_lack ∈ zx_tb := zx_in2 (i := 104) rfl rfl
theorem wm_X6_47 : Cond.methodLink RX6 47 yX6_change ∈ zx_tb := zx_in2 (i := 108) rfl rfl
theorem wm_X6_51 : Cond.methodLink RX6 51 yX6_leastLacking ∈ zx_tb := zx_in2 (i := 113) rfl rfl
theorem wm_X8_98 : Cond.methodLink RX8 98 yX5_forget ∈ zx_tb := zx_in2 (i := 117) rfl rfl
theorem wm_L_28 : Cond.methodLink RL 28 yX8_log ∈ zx_tb := zx_in2 (i := 121) rfl rfl
theorem wm_X8_103 : Cond.methodLink RX8 103 yX8_tableOrNull ∈ zx_tb := zx_in2 (i := 125) rfl rfl
theorem wm_X8_218 : Cond.methodLink RX8 218 yX6_isThere ∈ zx_tb := zx_in2 (i := 129) rfl rfl
theorem wm_L_32 : Cond.methodLink RL 32 yX8_share ∈ zx_tb := zx_in2 (i := 133) rfl rfl
theorem wm_X8_113 : Cond.methodLink RX8 113 yX6_shareOf ∈ zx_tb := zx_in2 (i := 137) rfl rfl
theorem wm_L_36 : Cond.methodLink RL 36 yX8_start ∈ zx_tb := zx_in2 (i := 141) rfl rfl
theorem wm_X8_117 : Cond.methodLink RX8 117 yX6_startOf ∈ zx_tb := zx_in2 (i := 145) rfl rfl
theorem wm_L_40 : Cond.methodLink RL 40 yX8_place ∈ zx_tb := zx_in2 (i := 149) rfl rfl
theorem wm_X8_120 : Cond.methodLink RX8 120 yX8_layForPlace ∈ zx_tb := zx_in2 (i := 153) rfl rfl
theorem wm_X8_215 : Cond.methodLink RX8 215 yX8_isSpread ∈ zx_tb := zx_in2 (i := 157) rfl rfl
theorem wm_X8_228 : Cond.methodLink RX8 228 yX6_places ∈ zx_tb := zx_in2 (i := 160) rfl rfl
theorem wm_X8_231 : Cond.methodLink RX8 231 yX5_lay ∈ zx_tb := zx_in2 (i := 161) rfl rfl
theorem wm_X5_55 : Cond.methodLink RX5 55 yX6_places ∈ zx_tb := zx_in2 (i := 165) rfl rfl
theorem wm_X5_60 : Cond.methodLink RX5 60 Lib.Math.min.name ∈ zx_tb := zx_in2 (i := 166) rfl rfl
theorem wm_X5_66 : Cond.methodLink RX5 66 yX5_takeShares ∈ zx_tb := zx_in2 (i := 169) rfl rfl
theorem wm_X5_80 : Cond.methodLink RX5 80 yX6_shareOf ∈ zx_tb := zx_in2 (i := 173) rfl rfl
theorem wm_X5_70 : Cond.methodLink RX5 70 yX5_layEven ∈ zx_tb := zx_in2 (i := 174) rfl rfl
theorem wm_X5_81 : Cond.methodLink RX5 81 yJ7_fill_53178 ∈ zx_tb := zx_in2 (i := 178) rfl rfl
theorem wm_X5_87 : Cond.methodLink RX5 87 yX5_sink ∈ zx_tb := zx_in2 (i := 179) rfl rfl
theorem wm_X5_90 : Cond.methodLink RX5 90 yX5_isAhead ∈ zx_tb := zx_in2 (i := 183) rfl rfl
theorem wm_X5_73 : Cond.methodLink RX5 73 yX5_layByStep ∈ zx_tb := zx_in2 (i := 187) rfl rfl
theorem wm_X5_77 : Cond.methodLink RX5 77 yX5_giveRanks ∈ zx_tb := zx_in2 (i := 191) rfl rfl
theorem wm_X8_124 : Cond.methodLink RX8 124 yX5_symbolAt ∈ zx_tb := zx_in2 (i := 195) rfl rfl
theorem wm_L_45 : Cond.methodLink RL 45 yX8_rank ∈ zx_tb := zx_in2 (i := 199) rfl rfl
theorem wm_X8_127 : Cond.methodLink RX8 127 yX5_rankAt ∈ zx_tb := zx_in2 (i := 203) rfl rfl
theorem wm_L_49 : Cond.methodLink RL 49 yX8_pack ∈ zx_tb := zx_in2 (i := 207) rfl rfl
theorem wm_X8_130 : Cond.methodLink RX8 130 yX8_isCoding ∈ zx_tb := zx_in2 (i := 211) rfl rfl
theorem wm_X8_134 : Cond.methodLink RX8 134 yX8_refusalOfTape ∈ zx_tb := zx_in2 (i := 214) rfl rfl
theorem wm_X8_138 : Cond.methodLink RX8 138 yX0_prepare ∈ zx_tb := zx_in2 (i := 218) rfl rfl
theorem wm_X0_40 : Cond.methodLink RX0 40 yX5_lay ∈ zx_tb := zx_in2 (i := 222) rfl rfl
theorem wm_X0_47 : Cond.methodLink RX0 47 yX0_isByTable ∈ zx_tb := zx_in2 (i := 223) rfl rfl
theorem wk_X0_51 : Cond.constant RX0 51 8388608 ∈ zx_tb := zx_in2 (i := 227) rfl rfl
theorem wm_X8_142 : Cond.methodLink RX8 142 yX2_codeMessage ∈ zx_tb := zx_in2 (i := 228) rfl rfl
theorem wm_X2_31 : Cond.methodLink RX2 31 yJ7_fill_53178 ∈ zx_tb := zx_in2 (i := 232) rfl rfl
theorem wm_X2_37 : Cond.methodLink RX2 37 yX7_begin ∈ zx_tb := zx_in2 (i := 233) rfl rfl
theorem wm_X7_15 : Cond.methodLink RX7 15 yJ7_fill_53178 ∈ zx_tb := zx_in2 (i := 237) rfl rfl
theorem wm_X2_46 : Cond.methodLink RX2 46 Lib.Math.min.name ∈ zx_tb := zx_in2 (i := 238) rfl rfl
theorem wm_X2_52 : Cond.methodLink RX2 52 yX0_turnOf ∈ zx_tb := zx_in2 (i := 239) rfl rfl
theorem wm_X2_56 : Cond.methodLink RX2 56 yX4_byteAt ∈ zx_tb := zx_in3 (i := 3) rfl rfl
theorem wm_X2_59 : Cond.methodLink RX2 59 yX0_advance ∈ zx_tb := zx_in3 (i := 4) rfl rfl
theorem wm_X0_52 : Cond.methodLink RX0 52 yX5_shareOf ∈ zx_tb := zx_in3 (i := 8) rfl rfl
theorem wl_X0_56 : Cond.constantLong RX0 56 2 ∈ zx_tb := zx_in3 (i := 13) rfl rfl
theorem wm_X0_58 : Cond.methodLink RX0 58 yX5_placeOf ∈ zx_tb := zx_in3 (i := 14) rfl rfl
theorem wm_X5_48 : Cond.methodLink RX5 48 yX5_startOf ∈ zx_tb := zx_in3 (i := 18) rfl rfl
theorem wm_X5_52 : Cond.methodLink RX5 52 yX5_shareOf ∈ zx_tb := zx_in3 (i := 22) rfl rfl
theorem wm_X0_62 : Cond.methodLink RX0 62 yX0_divided ∈ zx_tb := zx_in3 (i := 23) rfl rfl
theorem wm_X0_65 : Cond.methodLink RX0 65 yX5_startOf ∈ zx_tb := zx_in3 (i := 27) rfl rfl
theorem wm_X2_72 : Cond.methodLink RX2 72 yX7_addSymbol ∈ zx_tb := zx_in3 (i := 28) rfl rfl
theorem wm_X7_30 : Cond.methodLink RX7 30 yX7_meet ∈ zx_tb := zx_in3 (i := 32) rfl rfl
theorem wm_X7_21 : Cond.methodLink RX7 21 Lib.Math.min.name ∈ zx_tb := zx_in3 (i := 36) rfl rfl
theorem wm_X7_27 : Cond.methodLink RX7 27 Lib.Math.max.name ∈ zx_tb := zx_in3 (i := 37) rfl rfl
theorem wm_X2_78 : Cond.methodLink RX2 78 yX7_setBytes ∈ zx_tb := zx_in3 (i := 38) rfl rfl
theorem wm_X8_146 : Cond.methodLink RX8 146 yX2_writePacket ∈ zx_tb := zx_in3 (i := 42) rfl rfl
theorem wm_X2_81 : Cond.methodLink RX2 81 yX4_add ∈ zx_tb := zx_in3 (i := 46) rfl rfl
theorem wm_X2_101 : Cond.methodLink RX2 101 yX6_different ∈ zx_tb := zx_in3 (i := 47) rfl rfl
theorem wm_X2_105 : Cond.methodLink RX2 105 yX6_shareOf ∈ zx_tb := zx_in3 (i := 51) rfl rfl
theorem wm_X2_108 : Cond.methodLink RX2 108 yX4_addNumber ∈ zx_tb := zx_in3 (i := 52) rfl rfl
theorem wm_X2_114 : Cond.methodLink RX2 114 yX0_stateCount ∈ zx_tb := zx_in3 (i := 53) rfl rfl
theorem wm_X2_117 : Cond.methodLink RX2 117 yX0_stateBase ∈ zx_tb := zx_in3 (i := 57) rfl rfl
theorem wm_X2_120 : Cond.methodLink RX2 120 yX0_stateBytes ∈ zx_tb := zx_in3 (i := 61) rfl rfl
theorem wm_X2_123 : Cond.methodLink RX2 123 yX2_writePayload ∈ zx_tb := zx_in3 (i := 65) rfl rfl
theorem wm_X8_151 : Cond.methodLink RX8 151 yX7_copy ∈ zx_tb := zx_in3 (i := 69) rfl rfl
theorem wm_X7_34 : Cond.methodLink RX7 34 arraycopyName ∈ zx_tb := zx_in3 (i := 73) rfl rfl
theorem wm_L_53 : Cond.methodLink RL 53 yX8_unpack ∈ zx_tb := zx_in3 (i := 76) rfl rfl
theorem wm_X8_155 : Cond.methodLink RX8 155 yX1_readPacket ∈ zx_tb := zx_in3 (i := 80) rfl rfl
theorem wm_X1_75 : Cond.methodLink RX1 75 yX1_readHead ∈ zx_tb := zx_in3 (i := 84) rfl rfl
theorem wm_X1_129 : Cond.methodLink RX1 129 yX1_readNumber ∈ zx_tb := zx_in3 (i := 88) rfl rfl
theorem wm_X1_120 : Cond.methodLink RX1 120 yX1_byteCount ∈ zx_tb := zx_in3 (i := 92) rfl rfl
theorem wm_X1_124 : Cond.methodLink RX1 124 yX1_demand ∈ zx_tb := zx_in3 (i := 96) rfl rfl
theorem wm_X1_84 : Cond.methodLink RX1 84 yX1_isWhole ∈ zx_tb := zx_in3 (i := 100) rfl rfl
theorem wm_X1_128 : Cond.methodLink RX1 128 yX1_byteAt ∈ zx_tb := zx_in3 (i := 104) rfl rfl
theorem wm_X1_116 : Cond.methodLink RX1 116 yX4_byteAt ∈ zx_tb := zx_in3 (i := 108) rfl rfl
theorem wm_X1_144 : Cond.methodLink RX1 144 yX5_forget ∈ zx_tb := zx_in3 (i := 111) rfl rfl
theorem wm_X1_149 : Cond.methodLink RX1 149 yX6_clear ∈ zx_tb := zx_in3 (i := 112) rfl rfl
theorem wm_X1_78 : Cond.methodLink RX1 78 yX1_readShares ∈ zx_tb := zx_in3 (i := 113) rfl rfl
theorem wm_X1_152 : Cond.methodLink RX1 152 yX6_places ∈ zx_tb := zx_in3 (i := 117) rfl rfl
theorem wm_X1_155 : Cond.methodLink RX1 155 yX6_change ∈ zx_tb := zx_in3 (i := 118) rfl rfl
theorem wm_X1_81 : Cond.methodLink RX1 81 yX1_readSizes ∈ zx_tb := zx_in3 (i := 119) rfl rfl
theorem wm_X1_88 : Cond.methodLink RX1 88 yX0_prepare ∈ zx_tb := zx_in3 (i := 123) rfl rfl
theorem wm_X1_92 : Cond.methodLink RX1 92 yX1_readStates ∈ zx_tb := zx_in3 (i := 124) rfl rfl
theorem wm_X1_159 : Cond.methodLink RX1 159 yX0_stateCount ∈ zx_tb := zx_in3 (i := 128) rfl rfl
theorem wm_X1_162 : Cond.methodLink RX1 162 yX0_stateBase ∈ zx_tb := zx_in3 (i := 129) rfl rfl
theorem wm_X1_165 : Cond.methodLink RX1 165 yX0_stateBytes ∈ zx_tb := zx_in3 (i := 130) rfl rfl
theorem wm_X1_168 : Cond.methodLink RX1 168 yX0_isState ∈ zx_tb := zx_in3 (i := 131) rfl rfl
theorem wm_X1_95 : Cond.methodLink RX1 95 yX1_findPayload ∈ zx_tb := zx_in3 (i := 135) rfl rfl
theorem wm_X1_98 : Cond.methodLink RX1 98 yX1_readMessage ∈ zx_tb := zx_in3 (i := 139) rfl rfl
theorem wm_X1_171 : Cond.methodLink RX1 171 yX7_begin ∈ zx_tb := zx_in3 (i := 143) rfl rfl
theorem wm_X1_174 : Cond.methodLink RX1 174 yX7_meet ∈ zx_tb := zx_in3 (i := 144) rfl rfl
theorem wm_X1_177 : Cond.methodLink RX1 177 yX1_readSymbol ∈ zx_tb := zx_in3 (i := 145) rfl rfl
theorem wm_X1_186 : Cond.methodLink RX1 186 yX0_turnOf ∈ zx_tb := zx_in3 (i := 149) rfl rfl
theorem wm_X1_189 : Cond.methodLink RX1 189 yX0_symbolOf ∈ zx_tb := zx_in3 (i := 150) rfl rfl
theorem wm_X0_68 : Cond.methodLink RX0 68 yX0_placeOfState ∈ zx_tb := zx_in3 (i := 154) rfl rfl
theorem wm_X0_71 : Cond.methodLink RX0 71 yX5_symbolAt ∈ zx_tb := zx_in3 (i := 158) rfl rfl
theorem wm_X1_192 : Cond.methodLink RX1 192 yX0_behindSymbol ∈ zx_tb := zx_in3 (i := 159) rfl rfl
theorem wm_X0_74 : Cond.methodLink RX0 74 yX5_rankAt ∈ zx_tb := zx_in3 (i := 163) rfl rfl
theorem wm_X0_77 : Cond.methodLink RX0 77 yX0_symbolOf ∈ zx_tb := zx_in3 (i := 164) rfl rfl
theorem wm_X1_198 : Cond.methodLink RX1 198 yX1_readUnit ∈ zx_tb := zx_in3 (i := 165) rfl rfl
theorem wm_X1_201 : Cond.methodLink RX1 201 yX7_addSymbol ∈ zx_tb := zx_in3 (i := 169) rfl rfl
theorem wm_X1_183 : Cond.methodLink RX1 183 yX7_setBytes ∈ zx_tb := zx_in3 (i := 170) rfl rfl
theorem wm_X1_101 : Cond.methodLink RX1 101 yX1_checkPayloadEnd ∈ zx_tb := zx_in3 (i := 171) rfl rfl
theorem wm_X1_104 : Cond.methodLink RX1 104 yX1_checkStates ∈ zx_tb := zx_in3 (i := 175) rfl rfl
theorem wm_X8_159 : Cond.methodLink RX8 159 yX1_exchangeTable ∈ zx_tb := zx_in3 (i := 179) rfl rfl
theorem wm_X8_163 : Cond.methodLink RX8 163 yX1_writeMessage ∈ zx_tb := zx_in3 (i := 183) rfl rfl
theorem wm_X1_112 : Cond.methodLink RX1 112 yX4_add ∈ zx_tb := zx_in3 (i := 187) rfl rfl
theorem wm_L_57 : Cond.methodLink RL 57 yX8_fault ∈ zx_tb := zx_in3 (i := 188) rfl rfl
theorem wm_L_61 : Cond.methodLink RL 61 yX8_written ∈ zx_tb := zx_in3 (i := 192) rfl rfl
theorem wm_L_65 : Cond.methodLink RL 65 yX8_take ∈ zx_tb := zx_in3 (i := 196) rfl rfl
theorem wm_X8_177 : Cond.methodLink RX8 177 yX4_copy ∈ zx_tb := zx_in3 (i := 200) rfl rfl
theorem wm_X4_23 : Cond.methodLink RX4 23 arraycopyName ∈ zx_tb := zx_in3 (i := 204) rfl rfl
theorem wm_L_70 : Cond.methodLink RL 70 yX8_ideal ∈ zx_tb := zx_in3 (i := 205) rfl rfl
theorem wm_X8_179 : Cond.methodLink RX8 179 yX3_clear ∈ zx_tb := zx_in3 (i := 209) rfl rfl
theorem wm_X8_182 : Cond.methodLink RX8 182 yX3_times ∈ zx_tb := zx_in3 (i := 213) rfl rfl
theorem wl_X3_22 : Cond.constantLong RX3 22 1073741823 ∈ zx_tb := zx_in3 (i := 217) rfl rfl
theorem wm_X3_24 : Cond.methodLink RX3 24 yX3_multiply ∈ zx_tb := zx_in3 (i := 218) rfl rfl
theorem wm_X8_186 : Cond.methodLink RX8 186 yX3_highestBit ∈ zx_tb := zx_in3 (i := 222) rfl rfl
theorem wm_X3_27 : Cond.methodLink RX3 27 yJ6_numberOfLeadingZeros_0f7a4 ∈ zx_tb := zx_in3 (i := 226) rfl rfl
theorem wk_J6_264 : Cond.constant RJ6 264 65536 ∈ zx_tb := zx_in3 (i := 229) rfl rfl
theorem wm_L_74 : Cond.methodLink RL 74 yX8_code ∈ zx_tb := zx_in3 (i := 230) rfl rfl
theorem wm_X8_189 : Cond.methodLink RX8 189 yX8_prepareForState ∈ zx_tb := zx_in3 (i := 234) rfl rfl
theorem wm_X8_235 : Cond.methodLink RX8 235 yX0_isState ∈ zx_tb := zx_in3 (i := 238) rfl rfl
theorem wm_X8_193 : Cond.methodLink RX8 193 yX5_shareOf ∈ zx_tb := zx_in3 (i := 239) rfl rfl
theorem wm_X8_194 : Cond.methodLink RX8 194 yX0_advance ∈ zx_tb := zx_in4 (i := 0) rfl rfl
theorem wm_L_78 : Cond.methodLink RL 78 yX8_gone ∈ zx_tb := zx_in4 (i := 1) rfl rfl
theorem wm_L_82 : Cond.methodLink RL 82 yX8_symbol ∈ zx_tb := zx_in4 (i := 5) rfl rfl
theorem wm_X8_206 : Cond.methodLink RX8 206 yX0_symbolOf ∈ zx_tb := zx_in4 (i := 9) rfl rfl
theorem wm_L_87 : Cond.methodLink RL 87 yX8_left ∈ zx_tb := zx_in4 (i := 10) rfl rfl
theorem wm_X8_209 : Cond.methodLink RX8 209 yX0_behindSymbol ∈ zx_tb := zx_in4 (i := 14) rfl rfl
theorem wm_L_91 : Cond.methodLink RL 91 yX8_look ∈ zx_tb := zx_in4 (i := 15) rfl rfl
theorem wm_X8_212 : Cond.methodLink RX8 212 yX7_figure ∈ zx_tb := zx_in4 (i := 19) rfl rfl
theorem wm_L_12 : Cond.methodLink RL 12 yX9_init ∈ zx_tb := zx_in4 (i := 25) rfl rfl
theorem wm_X9_1 : Cond.methodLink RX9 1 objectInit ∈ zx_tb := zx_in4 (i := 28) rfl rfl
theorem wk_X9_29 : Cond.constant RX9 29 86016 ∈ zx_tb := zx_in4 (i := 29) rfl rfl
theorem wf_X9_7 : Cond.fieldLink RX9 7 (TX9 0).1 (TX9 0).2.1 (TX9 0).2.2.1 ∈ zx_tb := zx_in4 (i := 30) rfl rfl
theorem wf_X9_70 : Cond.fieldLink RX9 70 (TX9 1).1 (TX9 1).2.1 (TX9 1).2.2.1 ∈ zx_tb := zx_in4 (i := 31) rfl rfl
theorem wf_X9_13 : Cond.fieldLink RX9 13 (TX9 2).1 (TX9 2).2.1 (TX9 2).2.2.1 ∈ zx_tb := zx_in4 (i := 32) rfl rfl
theorem wf_X9_73 : Cond.fieldLink RX9 73 (TX9 3).1 (TX9 3).2.1 (TX9 3).2.2.1 ∈ zx_tb := zx_in4 (i := 33) rfl rfl
theorem wf_X9_16 : Cond.fieldLink RX9 16 (TX9 4).1 (TX9 4).2.1 (TX9 4).2.2.1 ∈ zx_tb := zx_in4 (i := 34) rfl rfl
theorem wf_X9_19 : Cond.fieldLink RX9 19 (TX9 5).1 (TX9 5).2.1 (TX9 5).2.2.1 ∈ zx_tb := zx_in4 (i := 35) rfl rfl
theorem wf_X9_22 : Cond.fieldLink RX9 22 (TX9 6).1 (TX9 6).2.1 (TX9 6).2.2.1 ∈ zx_tb := zx_in4 (i := 36) rfl rfl
theorem wf_X9_25 : Cond.fieldLink RX9 25 (TX9 7).1 (TX9 7).2.1 (TX9 7).2.2.1 ∈ zx_tb := zx_in4 (i := 37) rfl rfl
theorem wf_X9_30 : Cond.fieldLink RX9 30 (TX9 8).1 (TX9 8).2.1 (TX9 8).2.2.1 ∈ zx_tb := zx_in4 (i := 38) rfl rfl
theorem wf_X9_33 : Cond.fieldLink RX9 33 (TX9 9).1 (TX9 9).2.1 (TX9 9).2.2.1 ∈ zx_tb := zx_in4 (i := 39) rfl rfl
theorem wf_X9_36 : Cond.fieldLink RX9 36 (TX9 10).1 (TX9 10).2.1 (TX9 10).2.2.1 ∈ zx_tb := zx_in4 (i := 40) rfl rfl
theorem wf_X9_39 : Cond.fieldLink RX9 39 (TX9 11).1 (TX9 11).2.1 (TX9 11).2.2.1 ∈ zx_tb := zx_in4 (i := 41) rfl rfl
theorem wf_X9_42 : Cond.fieldLink RX9 42 (TX9 12).1 (TX9 12).2.1 (TX9 12).2.2.1 ∈ zx_tb := zx_in4 (i := 42) rfl rfl
theorem wf_X9_92 : Cond.fieldLink RX9 92 (TX9 13).1 (TX9 13).2.1 (TX9 13).2.2.1 ∈ zx_tb := zx_in4 (i := 43) rfl rfl
theorem wf_X9_45 : Cond.fieldLink RX9 45 (TX9 14).1 (TX9 14).2.1 (TX9 14).2.2.1 ∈ zx_tb := zx_in4 (i := 44) rfl rfl
theorem wf_X9_48 : Cond.fieldLink RX9 48 (TX9 15).1 (TX9 15).2.1 (TX9 15).2.2.1 ∈ zx_tb := zx_in4 (i := 45) rfl rfl
theorem wf_X9_170 : Cond.fieldLink RX9 170 (TX9 16).1 (TX9 16).2.1 (TX9 16).2.2.1 ∈ zx_tb := zx_in4 (i := 46) rfl rfl
theorem wf_X9_51 : Cond.fieldLink RX9 51 (TX9 17).1 (TX9 17).2.1 (TX9 17).2.2.1 ∈ zx_tb := zx_in4 (i := 47) rfl rfl
theorem wf_X9_134 : Cond.fieldLink RX9 134 (TX9 18).1 (TX9 18).2.1 (TX9 18).2.2.1 ∈ zx_tb := zx_in4 (i := 48) rfl rfl
theorem wf_X9_137 : Cond.fieldLink RX9 137 (TX9 19).1 (TX9 19).2.1 (TX9 19).2.2.1 ∈ zx_tb := zx_in4 (i := 49) rfl rfl
theorem wf_X9_109 : Cond.fieldLink RX9 109 (TX9 20).1 (TX9 20).2.1 (TX9 20).2.2.1 ∈ zx_tb := zx_in4 (i := 50) rfl rfl
theorem wf_X9_112 : Cond.fieldLink RX9 112 (TX9 21).1 (TX9 21).2.1 (TX9 21).2.2.1 ∈ zx_tb := zx_in4 (i := 51) rfl rfl
theorem wf_X9_115 : Cond.fieldLink RX9 115 (TX9 22).1 (TX9 22).2.1 (TX9 22).2.2.1 ∈ zx_tb := zx_in4 (i := 52) rfl rfl
theorem wf_X9_55 : Cond.fieldLink RX9 55 (TX9 23).1 (TX9 23).2.1 (TX9 23).2.2.1 ∈ zx_tb := zx_in4 (i := 53) rfl rfl
theorem wf_X9_58 : Cond.fieldLink RX9 58 (TX9 24).1 (TX9 24).2.1 (TX9 24).2.2.1 ∈ zx_tb := zx_in4 (i := 54) rfl rfl
theorem wf_X9_61 : Cond.fieldLink RX9 61 (TX9 25).1 (TX9 25).2.1 (TX9 25).2.2.1 ∈ zx_tb := zx_in4 (i := 55) rfl rfl
theorem wf_X9_64 : Cond.fieldLink RX9 64 (TX9 26).1 (TX9 26).2.1 (TX9 26).2.2.1 ∈ zx_tb := zx_in4 (i := 56) rfl rfl
theorem wf_X9_173 : Cond.fieldLink RX9 173 (TX9 27).1 (TX9 27).2.1 (TX9 27).2.2.1 ∈ zx_tb := zx_in4 (i := 57) rfl rfl
theorem wf_X9_187 : Cond.fieldLink RX9 187 (TX9 28).1 (TX9 28).2.1 (TX9 28).2.2.1 ∈ zx_tb := zx_in4 (i := 58) rfl rfl
theorem wf_X9_190 : Cond.fieldLink RX9 190 (TX9 29).1 (TX9 29).2.1 (TX9 29).2.2.1 ∈ zx_tb := zx_in4 (i := 59) rfl rfl
theorem wf_X9_201 : Cond.fieldLink RX9 201 (TX9 30).1 (TX9 30).2.1 (TX9 30).2.2.1 ∈ zx_tb := zx_in4 (i := 60) rfl rfl
theorem wf_X9_214 : Cond.fieldLink RX9 214 (TX9 31).1 (TX9 31).2.1 (TX9 31).2.2.1 ∈ zx_tb := zx_in4 (i := 61) rfl rfl
theorem wf_X9_204 : Cond.fieldLink RX9 204 (TX9 32).1 (TX9 32).2.1 (TX9 32).2.2.1 ∈ zx_tb := zx_in4 (i := 62) rfl rfl
theorem wf_X9_207 : Cond.fieldLink RX9 207 (TX9 33).1 (TX9 33).2.1 (TX9 33).2.2.1 ∈ zx_tb := zx_in4 (i := 63) rfl rfl
theorem wf_X9_67 : Cond.fieldLink RX9 67 (TX9 34).1 (TX9 34).2.1 (TX9 34).2.2.1 ∈ zx_tb := zx_in4 (i := 64) rfl rfl
theorem wm_L_17 : Cond.methodLink RL 17 yX9_feed ∈ zx_tb := zx_in4 (i := 137) rfl rfl
theorem wm_L_22 : Cond.methodLink RL 22 yX9_end ∈ zx_tb := zx_in4 (i := 141) rfl rfl
theorem wm_L_69 : Cond.methodLink RL 69 yX9_take ∈ zx_tb := zx_in4 (i := 145) rfl rfl
theorem wm_L_64 : Cond.methodLink RL 64 yX9_written ∈ zx_tb := zx_in4 (i := 149) rfl rfl
theorem wm_L_27 : Cond.methodLink RL 27 yX9_learn ∈ zx_tb := zx_in4 (i := 153) rfl rfl
theorem wm_X9_76 : Cond.methodLink RX9 76 yX9_lack ∈ zx_tb := zx_in4 (i := 157) rfl rfl
theorem wm_X9_80 : Cond.methodLink RX9 80 yX9_begin ∈ zx_tb := zx_in4 (i := 161) rfl rfl
theorem wm_L_31 : Cond.methodLink RL 31 yX9_log ∈ zx_tb := zx_in4 (i := 165) rfl rfl
theorem wm_X9_84 : Cond.methodLink RX9 84 yX9_isTable ∈ zx_tb := zx_in4 (i := 169) rfl rfl
theorem wm_L_35 : Cond.methodLink RL 35 yX9_share ∈ zx_tb := zx_in4 (i := 173) rfl rfl
theorem wm_L_39 : Cond.methodLink RL 39 yX9_start ∈ zx_tb := zx_in4 (i := 177) rfl rfl
theorem wm_L_44 : Cond.methodLink RL 44 yX9_place ∈ zx_tb := zx_in4 (i := 181) rfl rfl
theorem wm_X9_103 : Cond.methodLink RX9 103 yX9_isPlace ∈ zx_tb := zx_in4 (i := 185) rfl rfl
theorem wm_X9_106 : Cond.methodLink RX9 106 yX9_lay ∈ zx_tb := zx_in4 (i := 189) rfl rfl
theorem wm_X9_88 : Cond.methodLink RX9 88 yX9_even ∈ zx_tb := zx_in4 (i := 193) rfl rfl
theorem wm_X9_99 : Cond.methodLink RX9 99 yX9_sink ∈ zx_tb := zx_in4 (i := 197) rfl rfl
theorem wm_X9_95 : Cond.methodLink RX9 95 yX9_isAhead ∈ zx_tb := zx_in4 (i := 201) rfl rfl
theorem wm_L_48 : Cond.methodLink RL 48 yX9_rank ∈ zx_tb := zx_in4 (i := 205) rfl rfl
theorem wm_L_77 : Cond.methodLink RL 77 yX9_code ∈ zx_tb := zx_in4 (i := 209) rfl rfl
theorem wm_X9_126 : Cond.methodLink RX9 126 yX9_isAsked ∈ zx_tb := zx_in4 (i := 213) rfl rfl
theorem wm_X9_119 : Cond.methodLink RX9 119 yX9_isWay ∈ zx_tb := zx_in4 (i := 217) rfl rfl
theorem wm_X9_123 : Cond.methodLink RX9 123 yX9_isState ∈ zx_tb := zx_in4 (i := 220) rfl rfl
theorem wk_X9_118 : Cond.constant RX9 118 8388608 ∈ zx_tb := zx_in4 (i := 224) rfl rfl
theorem wm_X9_130 : Cond.methodLink RX9 130 yX9_step ∈ zx_tb := zx_in4 (i := 225) rfl rfl
theorem wm_L_81 : Cond.methodLink RL 81 yX9_gone ∈ zx_tb := zx_in4 (i := 229) rfl rfl
theorem wm_L_86 : Cond.methodLink RL 86 yX9_symbol ∈ zx_tb := zx_in4 (i := 233) rfl rfl
theorem wm_X9_140 : Cond.methodLink RX9 140 yX9_told ∈ zx_tb := zx_in4 (i := 237) rfl rfl
theorem wm_L_90 : Cond.methodLink RL 90 yX9_left ∈ zx_tb := zx_in5 (i := 1) rfl rfl
theorem wm_X9_144 : Cond.methodLink RX9 144 yX9_behind ∈ zx_tb := zx_in5 (i := 5) rfl rfl
theorem wm_L_52 : Cond.methodLink RL 52 yX9_pack ∈ zx_tb := zx_in5 (i := 9) rfl rfl
theorem wm_X9_149 : Cond.methodLink RX9 149 yX9_refusal ∈ zx_tb := zx_in5 (i := 13) rfl rfl
theorem wm_X9_153 : Cond.methodLink RX9 153 yX9_meetsNone ∈ zx_tb := zx_in5 (i := 17) rfl rfl
theorem wk_X9_148 : Cond.constant RX9 148 2147483647 ∈ zx_tb := zx_in5 (i := 21) rfl rfl
theorem wm_X9_156 : Cond.methodLink RX9 156 yX9_firstOf ∈ zx_tb := zx_in5 (i := 22) rfl rfl
theorem wm_X9_160 : Cond.methodLink RX9 160 yX9_meets ∈ zx_tb := zx_in5 (i := 26) rfl rfl
theorem wm_X9_163 : Cond.methodLink RX9 163 yX9_put ∈ zx_tb := zx_in5 (i := 30) rfl rfl
theorem wm_X9_166 : Cond.methodLink RX9 166 yX9_tells ∈ zx_tb := zx_in5 (i := 34) rfl rfl
theorem wm_L_73 : Cond.methodLink RL 73 yX9_ideal ∈ zx_tb := zx_in5 (i := 38) rfl rfl
theorem wk_X9_169 : Cond.constant RX9 169 65535 ∈ zx_tb := zx_in5 (i := 42) rfl rfl
theorem wm_L_94 : Cond.methodLink RL 94 yX9_look ∈ zx_tb := zx_in5 (i := 43) rfl rfl
theorem wm_L_56 : Cond.methodLink RL 56 yX9_unpack ∈ zx_tb := zx_in5 (i := 47) rfl rfl
theorem wm_X9_220 : Cond.methodLink RX9 220 yX9_reads ∈ zx_tb := zx_in5 (i := 51) rfl rfl
theorem wm_X9_181 : Cond.methodLink RX9 181 yX9_number ∈ zx_tb := zx_in5 (i := 55) rfl rfl
theorem wm_X9_176 : Cond.methodLink RX9 176 yX9_fails ∈ zx_tb := zx_in5 (i := 59) rfl rfl
theorem wl_X9_179 : Cond.constantLong RX9 179 (-1) ∈ zx_tb := zx_in5 (i := 63) rfl rfl
theorem wl_X9_185 : Cond.constantLong RX9 185 83 ∈ zx_tb := zx_in5 (i := 64) rfl rfl
theorem wl_X9_193 : Cond.constantLong RX9 193 12 ∈ zx_tb := zx_in5 (i := 65) rfl rfl
theorem wm_X9_195 : Cond.methodLink RX9 195 yX9_readsShares ∈ zx_tb := zx_in5 (i := 66) rfl rfl
theorem wl_X9_199 : Cond.constantLong RX9 199 1400 ∈ zx_tb := zx_in5 (i := 70) rfl rfl
theorem wl_X9_210 : Cond.constantLong RX9 210 8388608 ∈ zx_tb := zx_in5 (i := 71) rfl rfl
theorem wl_X9_212 : Cond.constantLong RX9 212 2147483647 ∈ zx_tb := zx_in5 (i := 72) rfl rfl
theorem wm_X9_217 : Cond.methodLink RX9 217 yX9_readsMessage ∈ zx_tb := zx_in5 (i := 73) rfl rfl
theorem wm_L_60 : Cond.methodLink RL 60 yX9_fault ∈ zx_tb := zx_in5 (i := 77) rfl rfl
theorem wc_X0_init : Cond.code yX0_init cX0_init 1 none ∈ zx_tb := zx_in1 (i := 52) rfl rfl
theorem wi_X0_init : Cond.instanceMethod yX0_init ∈ zx_tb := zx_in1 (i := 51) rfl rfl
theorem wc_X0_prepare : Cond.code yX0_prepare cX0_prepare 4 none ∈ zx_tb := zx_in2 (i := 221) rfl rfl
theorem wi_X0_prepare : Cond.instanceMethod yX0_prepare ∈ zx_tb := zx_in2 (i := 219) rfl rfl
theorem ws_X0_prepare : Cond.selects RX0 yX0_prepare yX0_prepare ∈ zx_tb := zx_in2 (i := 220) rfl rfl
theorem wc_X0_isByTable : Cond.code yX0_isByTable cX0_isByTable 1 (some (.boolean)) ∈ zx_tb := zx_in2 (i := 226) rfl rfl
theorem wi_X0_isByTable : Cond.instanceMethod yX0_isByTable ∈ zx_tb := zx_in2 (i := 224) rfl rfl
theorem ws_X0_isByTable : Cond.selects RX0 yX0_isByTable yX0_isByTable ∈ zx_tb := zx_in2 (i := 225) rfl rfl
theorem wc_X0_stateCount : Cond.code yX0_stateCount cX0_stateCount 1 (some (.int)) ∈ zx_tb := zx_in3 (i := 56) rfl rfl
theorem wi_X0_stateCount : Cond.instanceMethod yX0_stateCount ∈ zx_tb := zx_in3 (i := 54) rfl rfl
theorem ws_X0_stateCount : Cond.selects RX0 yX0_stateCount yX0_stateCount ∈ zx_tb := zx_in3 (i := 55) rfl rfl
theorem wc_X0_stateBytes : Cond.code yX0_stateBytes cX0_stateBytes 1 (some (.int)) ∈ zx_tb := zx_in3 (i := 64) rfl rfl
theorem wi_X0_stateBytes : Cond.instanceMethod yX0_stateBytes ∈ zx_tb := zx_in3 (i := 62) rfl rfl
theorem ws_X0_stateBytes : Cond.selects RX0 yX0_stateBytes yX0_stateBytes ∈ zx_tb := zx_in3 (i := 63) rfl rfl
theorem wc_X0_stateBase : Cond.code yX0_stateBase cX0_stateBase 1 (some (.int)) ∈ zx_tb := zx_in3 (i := 60) rfl rfl
theorem wi_X0_stateBase : Cond.instanceMethod yX0_stateBase ∈ zx_tb := zx_in3 (i := 58) rfl rfl
theorem ws_X0_stateBase : Cond.selects RX0 yX0_stateBase yX0_stateBase ∈ zx_tb := zx_in3 (i := 59) rfl rfl
theorem wc_X0_turnOf : Cond.code yX0_turnOf cX0_turnOf 2 (some (.int)) ∈ zx_tb := zx_in3 (i := 2) rfl rfl
theorem wi_X0_turnOf : Cond.instanceMethod yX0_turnOf ∈ zx_tb := zx_in3 (i := 0) rfl rfl
theorem ws_X0_turnOf : Cond.selects RX0 yX0_turnOf yX0_turnOf ∈ zx_tb := zx_in3 (i := 1) rfl rfl
theorem wc_X0_isState : Cond.code yX0_isState cX0_isState 2 (some (.boolean)) ∈ zx_tb := zx_in3 (i := 134) rfl rfl
theorem wi_X0_isState : Cond.instanceMethod yX0_isState ∈ zx_tb := zx_in3 (i := 132) rfl rfl
theorem ws_X0_isState : Cond.selects RX0 yX0_isState yX0_isState ∈ zx_tb := zx_in3 (i := 133) rfl rfl
theorem wc_X0_advance : Cond.code yX0_advance cX0_advance 9 none ∈ zx_tb := zx_in3 (i := 7) rfl rfl
theorem wi_X0_advance : Cond.instanceMethod yX0_advance ∈ zx_tb := zx_in3 (i := 5) rfl rfl
theorem ws_X0_advance : Cond.selects RX0 yX0_advance yX0_advance ∈ zx_tb := zx_in3 (i := 6) rfl rfl
theorem wc_X0_divided : Cond.code yX0_divided cX0_divided 4 (some (.int)) ∈ zx_tb := zx_in3 (i := 26) rfl rfl
theorem wi_X0_divided : Cond.instanceMethod yX0_divided ∈ zx_tb := zx_in3 (i := 25) rfl rfl
theorem ws_X0_divided : Cond.selects RX0 yX0_divided yX0_divided ∈ zx_tb := zx_ip1 (q := (yX0_divided, 8)) (i := 13) rfl rfl
theorem wc_X0_symbolOf : Cond.code yX0_symbolOf cX0_symbolOf 2 (some (.int)) ∈ zx_tb := zx_in3 (i := 153) rfl rfl
theorem wi_X0_symbolOf : Cond.instanceMethod yX0_symbolOf ∈ zx_tb := zx_in3 (i := 151) rfl rfl
theorem ws_X0_symbolOf : Cond.selects RX0 yX0_symbolOf yX0_symbolOf ∈ zx_tb := zx_in3 (i := 152) rfl rfl
theorem wc_X0_behindSymbol : Cond.code yX0_behindSymbol cX0_behindSymbol 3 (some (.int)) ∈ zx_tb := zx_in3 (i := 162) rfl rfl
theorem wi_X0_behindSymbol : Cond.instanceMethod yX0_behindSymbol ∈ zx_tb := zx_in3 (i := 160) rfl rfl
theorem ws_X0_behindSymbol : Cond.selects RX0 yX0_behindSymbol yX0_behindSymbol ∈ zx_tb := zx_in3 (i := 161) rfl rfl
theorem wc_X0_placeOfState : Cond.code yX0_placeOfState cX0_placeOfState 2 (some (.int)) ∈ zx_tb := zx_in3 (i := 157) rfl rfl
theorem wi_X0_placeOfState : Cond.instanceMethod yX0_placeOfState ∈ zx_tb := zx_in3 (i := 156) rfl rfl
theorem ws_X0_placeOfState : Cond.selects RX0 yX0_placeOfState yX0_placeOfState ∈ zx_tb := zx_ip2 (q := (yX0_placeOfState, 8)) (i := 11) rfl rfl
theorem wc_X1_init : Cond.code yX1_init cX1_init 1 none ∈ zx_tb := zx_in1 (i := 46) rfl rfl
theorem wi_X1_init : Cond.instanceMethod yX1_init ∈ zx_tb := zx_in1 (i := 45) rfl rfl
theorem wc_X1_readPacket : Cond.code yX1_readPacket cX1_readPacket 2 (some (.boolean)) ∈ zx_tb := zx_in3 (i := 83) rfl rfl
theorem wi_X1_readPacket : Cond.instanceMethod yX1_readPacket ∈ zx_tb := zx_in3 (i := 81) rfl rfl
theorem ws_X1_readPacket : Cond.selects RX1 yX1_readPacket yX1_readPacket ∈ zx_tb := zx_in3 (i := 82) rfl rfl
theorem wc_X1_exchangeTable : Cond.code yX1_exchangeTable cX1_exchangeTable 3 (some (.object "ShareCoder$Table")) ∈ zx_tb := zx_in3 (i := 182) rfl rfl
theorem wi_X1_exchangeTable : Cond.instanceMethod yX1_exchangeTable ∈ zx_tb := zx_in3 (i := 180) rfl rfl
theorem ws_X1_exchangeTable : Cond.selects RX1 yX1_exchangeTable yX1_exchangeTable ∈ zx_tb := zx_in3 (i := 181) rfl rfl
theorem wc_X1_writeMessage : Cond.code yX1_writeMessage cX1_writeMessage 3 none ∈ zx_tb := zx_in3 (i := 186) rfl rfl
theorem wi_X1_writeMessage : Cond.instanceMethod yX1_writeMessage ∈ zx_tb := zx_in3 (i := 184) rfl rfl
theorem ws_X1_writeMessage : Cond.selects RX1 yX1_writeMessage yX1_writeMessage ∈ zx_tb := zx_in3 (i := 185) rfl rfl
theorem wc_X1_isWhole : Cond.code yX1_isWhole cX1_isWhole 1 (some (.boolean)) ∈ zx_tb := zx_in3 (i := 103) rfl rfl
theorem wi_X1_isWhole : Cond.instanceMethod yX1_isWhole ∈ zx_tb := zx_in3 (i := 102) rfl rfl
theorem ws_X1_isWhole : Cond.selects RX1 yX1_isWhole yX1_isWhole ∈ zx_tb := zx_ip2 (q := (yX1_isWhole, 16)) (i := 3) rfl rfl
theorem wc_X1_demand : Cond.code yX1_demand cX1_demand 4 none ∈ zx_tb := zx_in3 (i := 99) rfl rfl
theorem wi_X1_demand : Cond.instanceMethod yX1_demand ∈ zx_tb := zx_in3 (i := 98) rfl rfl
theorem ws_X1_demand : Cond.selects RX1 yX1_demand yX1_demand ∈ zx_tb := zx_ip2 (q := (yX1_demand, 16)) (i := 2) rfl rfl
theorem wc_X1_byteCount : Cond.code yX1_byteCount cX1_byteCount 1 (some (.int)) ∈ zx_tb := zx_in3 (i := 95) rfl rfl
theorem wi_X1_byteCount : Cond.instanceMethod yX1_byteCount ∈ zx_tb := zx_in3 (i := 94) rfl rfl
theorem ws_X1_byteCount : Cond.selects RX1 yX1_byteCount yX1_byteCount ∈ zx_tb := zx_ip2 (q := (yX1_byteCount, 16)) (i := 1) rfl rfl
theorem wc_X1_byteAt : Cond.code yX1_byteAt cX1_byteAt 2 (some (.int)) ∈ zx_tb := zx_in3 (i := 107) rfl rfl
theorem wi_X1_byteAt : Cond.instanceMethod yX1_byteAt ∈ zx_tb := zx_in3 (i := 106) rfl rfl
theorem ws_X1_byteAt : Cond.selects RX1 yX1_byteAt yX1_byteAt ∈ zx_tb := zx_ip2 (q := (yX1_byteAt, 16)) (i := 4) rfl rfl
theorem wc_X1_readNumber : Cond.code yX1_readNumber cX1_readNumber 4 (some (.int)) ∈ zx_tb := zx_in3 (i := 91) rfl rfl
theorem wi_X1_readNumber : Cond.instanceMethod yX1_readNumber ∈ zx_tb := zx_in3 (i := 90) rfl rfl
theorem ws_X1_readNumber : Cond.selects RX1 yX1_readNumber yX1_readNumber ∈ zx_tb := zx_ip2 (q := (yX1_readNumber, 16)) (i := 0) rfl rfl
theorem wc_X1_readHead : Cond.code yX1_readHead cX1_readHead 3 none ∈ zx_tb := zx_in3 (i := 87) rfl rfl
theorem wi_X1_readHead : Cond.instanceMethod yX1_readHead ∈ zx_tb := zx_in3 (i := 86) rfl rfl
theorem ws_X1_readHead : Cond.selects RX1 yX1_readHead yX1_readHead ∈ zx_tb := zx_ip1 (q := (yX1_readHead, 16)) (i := 15) rfl rfl
theorem wc_X1_readShares : Cond.code yX1_readShares cX1_readShares 9 none ∈ zx_tb := zx_in3 (i := 116) rfl rfl
theorem wi_X1_readShares : Cond.instanceMethod yX1_readShares ∈ zx_tb := zx_in3 (i := 115) rfl rfl
theorem ws_X1_readShares : Cond.selects RX1 yX1_readShares yX1_readShares ∈ zx_tb := zx_ip2 (q := (yX1_readShares, 16)) (i := 5) rfl rfl
theorem wc_X1_readSizes : Cond.code yX1_readSizes cX1_readSizes 2 none ∈ zx_tb := zx_in3 (i := 122) rfl rfl
theorem wi_X1_readSizes : Cond.instanceMethod yX1_readSizes ∈ zx_tb := zx_in3 (i := 121) rfl rfl
theorem ws_X1_readSizes : Cond.selects RX1 yX1_readSizes yX1_readSizes ∈ zx_tb := zx_ip2 (q := (yX1_readSizes, 16)) (i := 6) rfl rfl
theorem wc_X1_readStates : Cond.code yX1_readStates cX1_readStates 3 none ∈ zx_tb := zx_in3 (i := 127) rfl rfl
theorem wi_X1_readStates : Cond.instanceMethod yX1_readStates ∈ zx_tb := zx_in3 (i := 126) rfl rfl
theorem ws_X1_readStates : Cond.selects RX1 yX1_readStates yX1_readStates ∈ zx_tb := zx_ip2 (q := (yX1_readStates, 16)) (i := 7) rfl rfl
theorem wc_X1_findPayload : Cond.code yX1_findPayload cX1_findPayload 1 none ∈ zx_tb := zx_in3 (i := 138) rfl rfl
theorem wi_X1_findPayload : Cond.instanceMethod yX1_findPayload ∈ zx_tb := zx_in3 (i := 137) rfl rfl
theorem ws_X1_findPayload : Cond.selects RX1 yX1_findPayload yX1_findPayload ∈ zx_tb := zx_ip2 (q := (yX1_findPayload, 16)) (i := 8) rfl rfl
theorem wc_X1_readMessage : Cond.code yX1_readMessage cX1_readMessage 2 none ∈ zx_tb := zx_in3 (i := 142) rfl rfl
theorem wi_X1_readMessage : Cond.instanceMethod yX1_readMessage ∈ zx_tb := zx_in3 (i := 141) rfl rfl
theorem ws_X1_readMessage : Cond.selects RX1 yX1_readMessage yX1_readMessage ∈ zx_tb := zx_ip2 (q := (yX1_readMessage, 16)) (i := 9) rfl rfl
theorem wc_X1_readSymbol : Cond.code yX1_readSymbol cX1_readSymbol 6 none ∈ zx_tb := zx_in3 (i := 148) rfl rfl
theorem wi_X1_readSymbol : Cond.instanceMethod yX1_readSymbol ∈ zx_tb := zx_in3 (i := 147) rfl rfl
theorem ws_X1_readSymbol : Cond.selects RX1 yX1_readSymbol yX1_readSymbol ∈ zx_tb := zx_ip2 (q := (yX1_readSymbol, 16)) (i := 10) rfl rfl
theorem wc_X1_readUnit : Cond.code yX1_readUnit cX1_readUnit 4 (some (.int)) ∈ zx_tb := zx_in3 (i := 168) rfl rfl
theorem wi_X1_readUnit : Cond.instanceMethod yX1_readUnit ∈ zx_tb := zx_in3 (i := 167) rfl rfl
theorem ws_X1_readUnit : Cond.selects RX1 yX1_readUnit yX1_readUnit ∈ zx_tb := zx_ip2 (q := (yX1_readUnit, 16)) (i := 12) rfl rfl
theorem wc_X1_checkPayloadEnd : Cond.code yX1_checkPayloadEnd cX1_checkPayloadEnd 4 none ∈ zx_tb := zx_in3 (i := 174) rfl rfl
theorem wi_X1_checkPayloadEnd : Cond.instanceMethod yX1_checkPayloadEnd ∈ zx_tb := zx_in3 (i := 173) rfl rfl
theorem ws_X1_checkPayloadEnd : Cond.selects RX1 yX1_checkPayloadEnd yX1_checkPayloadEnd ∈ zx_tb := zx_ip2 (q := (yX1_checkPayloadEnd, 16)) (i := 13) rfl rfl
theorem wc_X1_checkStates : Cond.code yX1_checkStates cX1_checkStates 2 none ∈ zx_tb := zx_in3 (i := 178) rfl rfl
theorem wi_X1_checkStates : Cond.instanceMethod yX1_checkStates ∈ zx_tb := zx_in3 (i := 177) rfl rfl
theorem ws_X1_checkStates : Cond.selects RX1 yX1_checkStates yX1_checkStates ∈ zx_tb := zx_ip2 (q := (yX1_checkStates, 16)) (i := 14) rfl rfl
theorem wc_X2_init : Cond.code yX2_init cX2_init 1 none ∈ zx_tb := zx_in1 (i := 216) rfl rfl
theorem wi_X2_init : Cond.instanceMethod yX2_init ∈ zx_tb := zx_in1 (i := 215) rfl rfl
theorem wc_X2_codeMessage : Cond.code yX2_codeMessage cX2_codeMessage 5 none ∈ zx_tb := zx_in2 (i := 231) rfl rfl
theorem wi_X2_codeMessage : Cond.instanceMethod yX2_codeMessage ∈ zx_tb := zx_in2 (i := 229) rfl rfl
theorem ws_X2_codeMessage : Cond.selects RX2 yX2_codeMessage yX2_codeMessage ∈ zx_tb := zx_in2 (i := 230) rfl rfl
theorem wc_X2_writePacket : Cond.code yX2_writePacket cX2_writePacket 5 none ∈ zx_tb := zx_in3 (i := 45) rfl rfl
theorem wi_X2_writePacket : Cond.instanceMethod yX2_writePacket ∈ zx_tb := zx_in3 (i := 43) rfl rfl
theorem ws_X2_writePacket : Cond.selects RX2 yX2_writePacket yX2_writePacket ∈ zx_tb := zx_in3 (i := 44) rfl rfl
theorem wc_X2_writePayload : Cond.code yX2_writePayload cX2_writePayload 8 none ∈ zx_tb := zx_in3 (i := 68) rfl rfl
theorem wi_X2_writePayload : Cond.instanceMethod yX2_writePayload ∈ zx_tb := zx_in3 (i := 67) rfl rfl
theorem ws_X2_writePayload : Cond.selects RX2 yX2_writePayload yX2_writePayload ∈ zx_tb := zx_ip1 (q := (yX2_writePayload, 3)) (i := 14) rfl rfl
theorem wc_X3_init : Cond.code yX3_init cX3_init 1 none ∈ zx_tb := zx_in1 (i := 237) rfl rfl
theorem wi_X3_init : Cond.instanceMethod yX3_init ∈ zx_tb := zx_in1 (i := 236) rfl rfl
theorem wc_X3_clear : Cond.code yX3_clear cX3_clear 1 none ∈ zx_tb := zx_in3 (i := 212) rfl rfl
theorem wi_X3_clear : Cond.instanceMethod yX3_clear ∈ zx_tb := zx_in3 (i := 210) rfl rfl
theorem ws_X3_clear : Cond.selects RX3 yX3_clear yX3_clear ∈ zx_tb := zx_in3 (i := 211) rfl rfl
theorem wc_X3_times : Cond.code yX3_times cX3_times 2 none ∈ zx_tb := zx_in3 (i := 216) rfl rfl
theorem wi_X3_times : Cond.instanceMethod yX3_times ∈ zx_tb := zx_in3 (i := 214) rfl rfl
theorem ws_X3_times : Cond.selects RX3 yX3_times yX3_times ∈ zx_tb := zx_in3 (i := 215) rfl rfl
theorem wc_X3_highestBit : Cond.code yX3_highestBit cX3_highestBit 2 (some (.int)) ∈ zx_tb := zx_in3 (i := 225) rfl rfl
theorem wi_X3_highestBit : Cond.instanceMethod yX3_highestBit ∈ zx_tb := zx_in3 (i := 223) rfl rfl
theorem ws_X3_highestBit : Cond.selects RX3 yX3_highestBit yX3_highestBit ∈ zx_tb := zx_in3 (i := 224) rfl rfl
theorem wc_X3_multiply : Cond.code yX3_multiply cX3_multiply 6 none ∈ zx_tb := zx_in3 (i := 221) rfl rfl
theorem wi_X3_multiply : Cond.instanceMethod yX3_multiply ∈ zx_tb := zx_in3 (i := 220) rfl rfl
theorem ws_X3_multiply : Cond.selects RX3 yX3_multiply yX3_multiply ∈ zx_tb := zx_ip2 (q := (yX3_multiply, 3)) (i := 15) rfl rfl
theorem wc_X4_init : Cond.code yX4_init cX4_init 1 none ∈ zx_tb := zx_in1 (i := 27) rfl rfl
theorem wi_X4_init : Cond.instanceMethod yX4_init ∈ zx_tb := zx_in1 (i := 26) rfl rfl
theorem wc_X4_byteAt : Cond.code yX4_byteAt cX4_byteAt 2 (some (.int)) ∈ zx_tb := zx_in2 (i := 80) rfl rfl
theorem wi_X4_byteAt : Cond.instanceMethod yX4_byteAt ∈ zx_tb := zx_in2 (i := 78) rfl rfl
theorem ws_X4_byteAt : Cond.selects RX4 yX4_byteAt yX4_byteAt ∈ zx_tb := zx_in2 (i := 79) rfl rfl
theorem wc_X4_add : Cond.code yX4_add cX4_add 2 none ∈ zx_tb := zx_in2 (i := 55) rfl rfl
theorem wi_X4_add : Cond.instanceMethod yX4_add ∈ zx_tb := zx_in2 (i := 53) rfl rfl
theorem ws_X4_add : Cond.selects RX4 yX4_add yX4_add ∈ zx_tb := zx_in2 (i := 54) rfl rfl
theorem wc_X4_addNumber : Cond.code yX4_addNumber cX4_addNumber 4 none ∈ zx_tb := zx_in2 (i := 51) rfl rfl
theorem wi_X4_addNumber : Cond.instanceMethod yX4_addNumber ∈ zx_tb := zx_in2 (i := 49) rfl rfl
theorem ws_X4_addNumber : Cond.selects RX4 yX4_addNumber yX4_addNumber ∈ zx_tb := zx_in2 (i := 50) rfl rfl
theorem wc_X4_copy : Cond.code yX4_copy cX4_copy 2 none ∈ zx_tb := zx_in3 (i := 203) rfl rfl
theorem wi_X4_copy : Cond.instanceMethod yX4_copy ∈ zx_tb := zx_in3 (i := 201) rfl rfl
theorem ws_X4_copy : Cond.selects RX4 yX4_copy yX4_copy ∈ zx_tb := zx_in3 (i := 202) rfl rfl
theorem wc_X5_init : Cond.code yX5_init cX5_init 1 none ∈ zx_tb := zx_in1 (i := 58) rfl rfl
theorem wi_X5_init : Cond.instanceMethod yX5_init ∈ zx_tb := zx_in1 (i := 57) rfl rfl
theorem wc_X5_forget : Cond.code yX5_forget cX5_forget 1 none ∈ zx_tb := zx_in2 (i := 120) rfl rfl
theorem wi_X5_forget : Cond.instanceMethod yX5_forget ∈ zx_tb := zx_in2 (i := 118) rfl rfl
theorem ws_X5_forget : Cond.selects RX5 yX5_forget yX5_forget ∈ zx_tb := zx_in2 (i := 119) rfl rfl
theorem wc_X5_shareOf : Cond.code yX5_shareOf cX5_shareOf 2 (some (.int)) ∈ zx_tb := zx_in3 (i := 11) rfl rfl
theorem wi_X5_shareOf : Cond.instanceMethod yX5_shareOf ∈ zx_tb := zx_in3 (i := 9) rfl rfl
theorem ws_X5_shareOf : Cond.selects RX5 yX5_shareOf yX5_shareOf ∈ zx_tb := zx_in3 (i := 10) rfl rfl
theorem wc_X5_startOf : Cond.code yX5_startOf cX5_startOf 2 (some (.int)) ∈ zx_tb := zx_in3 (i := 21) rfl rfl
theorem wi_X5_startOf : Cond.instanceMethod yX5_startOf ∈ zx_tb := zx_in3 (i := 19) rfl rfl
theorem ws_X5_startOf : Cond.selects RX5 yX5_startOf yX5_startOf ∈ zx_tb := zx_in3 (i := 20) rfl rfl
theorem wc_X5_symbolAt : Cond.code yX5_symbolAt cX5_symbolAt 2 (some (.int)) ∈ zx_tb := zx_in2 (i := 198) rfl rfl
theorem wi_X5_symbolAt : Cond.instanceMethod yX5_symbolAt ∈ zx_tb := zx_in2 (i := 196) rfl rfl
theorem ws_X5_symbolAt : Cond.selects RX5 yX5_symbolAt yX5_symbolAt ∈ zx_tb := zx_in2 (i := 197) rfl rfl
theorem wc_X5_rankAt : Cond.code yX5_rankAt cX5_rankAt 2 (some (.int)) ∈ zx_tb := zx_in2 (i := 206) rfl rfl
theorem wi_X5_rankAt : Cond.instanceMethod yX5_rankAt ∈ zx_tb := zx_in2 (i := 204) rfl rfl
theorem ws_X5_rankAt : Cond.selects RX5 yX5_rankAt yX5_rankAt ∈ zx_tb := zx_in2 (i := 205) rfl rfl
theorem wc_X5_placeOf : Cond.code yX5_placeOf cX5_placeOf 4 (some (.int)) ∈ zx_tb := zx_in3 (i := 17) rfl rfl
theorem wi_X5_placeOf : Cond.instanceMethod yX5_placeOf ∈ zx_tb := zx_in3 (i := 15) rfl rfl
theorem ws_X5_placeOf : Cond.selects RX5 yX5_placeOf yX5_placeOf ∈ zx_tb := zx_in3 (i := 16) rfl rfl
theorem wc_X5_lay : Cond.code yX5_lay cX5_lay 3 none ∈ zx_tb := zx_in2 (i := 164) rfl rfl
theorem wi_X5_lay : Cond.instanceMethod yX5_lay ∈ zx_tb := zx_in2 (i := 162) rfl rfl
theorem ws_X5_lay : Cond.selects RX5 yX5_lay yX5_lay ∈ zx_tb := zx_in2 (i := 163) rfl rfl
theorem wc_X5_takeShares : Cond.code yX5_takeShares cX5_takeShares 4 none ∈ zx_tb := zx_in2 (i := 172) rfl rfl
theorem wi_X5_takeShares : Cond.instanceMethod yX5_takeShares ∈ zx_tb := zx_in2 (i := 171) rfl rfl
theorem ws_X5_takeShares : Cond.selects RX5 yX5_takeShares yX5_takeShares ∈ zx_tb := zx_ip1 (q := (yX5_takeShares, 10)) (i := 6) rfl rfl
theorem wc_X5_layByStep : Cond.code yX5_layByStep cX5_layByStep 5 none ∈ zx_tb := zx_in2 (i := 190) rfl rfl
theorem wi_X5_layByStep : Cond.instanceMethod yX5_layByStep ∈ zx_tb := zx_in2 (i := 189) rfl rfl
theorem ws_X5_layByStep : Cond.selects RX5 yX5_layByStep yX5_layByStep ∈ zx_tb := zx_ip1 (q := (yX5_layByStep, 10)) (i := 10) rfl rfl
theorem wc_X5_layEven : Cond.code yX5_layEven cX5_layEven 3 none ∈ zx_tb := zx_in2 (i := 177) rfl rfl
theorem wi_X5_layEven : Cond.instanceMethod yX5_layEven ∈ zx_tb := zx_in2 (i := 176) rfl rfl
theorem ws_X5_layEven : Cond.selects RX5 yX5_layEven yX5_layEven ∈ zx_tb := zx_ip1 (q := (yX5_layEven, 10)) (i := 7) rfl rfl
theorem wc_X5_sink : Cond.code yX5_sink cX5_sink 6 none ∈ zx_tb := zx_in2 (i := 182) rfl rfl
theorem wi_X5_sink : Cond.instanceMethod yX5_sink ∈ zx_tb := zx_in2 (i := 181) rfl rfl
theorem ws_X5_sink : Cond.selects RX5 yX5_sink yX5_sink ∈ zx_tb := zx_ip1 (q := (yX5_sink, 10)) (i := 8) rfl rfl
theorem wc_X5_isAhead : Cond.code yX5_isAhead cX5_isAhead 5 (some (.boolean)) ∈ zx_tb := zx_in2 (i := 186) rfl rfl
theorem wi_X5_isAhead : Cond.instanceMethod yX5_isAhead ∈ zx_tb := zx_in2 (i := 185) rfl rfl
theorem ws_X5_isAhead : Cond.selects RX5 yX5_isAhead yX5_isAhead ∈ zx_tb := zx_ip1 (q := (yX5_isAhead, 10)) (i := 9) rfl rfl
theorem wc_X5_giveRanks : Cond.code yX5_giveRanks cX5_giveRanks 4 none ∈ zx_tb := zx_in2 (i := 194) rfl rfl
theorem wi_X5_giveRanks : Cond.instanceMethod yX5_giveRanks ∈ zx_tb := zx_in2 (i := 193) rfl rfl
theorem ws_X5_giveRanks : Cond.selects RX5 yX5_giveRanks yX5_giveRanks ∈ zx_tb := zx_ip1 (q := (yX5_giveRanks, 10)) (i := 11) rfl rfl
theorem wc_X6_init : Cond.code yX6_init cX6_init 1 none ∈ zx_tb := zx_in1 (i := 147) rfl rfl
theorem wi_X6_init : Cond.instanceMethod yX6_init ∈ zx_tb := zx_in1 (i := 146) rfl rfl
theorem wc_X6_isThere : Cond.code yX6_isThere cX6_isThere 1 (some (.boolean)) ∈ zx_tb := zx_in2 (i := 132) rfl rfl
theorem wi_X6_isThere : Cond.instanceMethod yX6_isThere ∈ zx_tb := zx_in2 (i := 130) rfl rfl
theorem ws_X6_isThere : Cond.selects RX6 yX6_isThere yX6_isThere ∈ zx_tb := zx_in2 (i := 131) rfl rfl
theorem wc_X6_places : Cond.code yX6_places cX6_places 1 (some (.int)) ∈ zx_tb := zx_in2 (i := 96) rfl rfl
theorem wi_X6_places : Cond.instanceMethod yX6_places ∈ zx_tb := zx_in2 (i := 94) rfl rfl
theorem ws_X6_places : Cond.selects RX6 yX6_places yX6_places ∈ zx_tb := zx_in2 (i := 95) rfl rfl
theorem wc_X6_shareOf : Cond.code yX6_shareOf cX6_shareOf 2 (some (.int)) ∈ zx_tb := zx_in2 (i := 140) rfl rfl
theorem wi_X6_shareOf : Cond.instanceMethod yX6_shareOf ∈ zx_tb := zx_in2 (i := 138) rfl rfl
theorem ws_X6_shareOf : Cond.selects RX6 yX6_shareOf yX6_shareOf ∈ zx_tb := zx_in2 (i := 139) rfl rfl
theorem wc_X6_startOf : Cond.code yX6_startOf cX6_startOf 4 (some (.int)) ∈ zx_tb := zx_in2 (i := 148) rfl rfl
theorem wi_X6_startOf : Cond.instanceMethod yX6_startOf ∈ zx_tb := zx_in2 (i := 146) rfl rfl
theorem ws_X6_startOf : Cond.selects RX6 yX6_startOf yX6_startOf ∈ zx_tb := zx_in2 (i := 147) rfl rfl
theorem wc_X6_different : Cond.code yX6_different cX6_different 3 (some (.int)) ∈ zx_tb := zx_in3 (i := 50) rfl rfl
theorem wi_X6_different : Cond.instanceMethod yX6_different ∈ zx_tb := zx_in3 (i := 48) rfl rfl
theorem ws_X6_different : Cond.selects RX6 yX6_different yX6_different ∈ zx_tb := zx_in3 (i := 49) rfl rfl
theorem wc_X6_clear : Cond.code yX6_clear cX6_clear 2 none ∈ zx_tb := zx_in2 (i := 91) rfl rfl
theorem wi_X6_clear : Cond.instanceMethod yX6_clear ∈ zx_tb := zx_in2 (i := 89) rfl rfl
theorem ws_X6_clear : Cond.selects RX6 yX6_clear yX6_clear ∈ zx_tb := zx_in2 (i := 90) rfl rfl
theorem wc_X6_change : Cond.code yX6_change cX6_change 3 none ∈ zx_tb := zx_in2 (i := 111) rfl rfl
theorem wi_X6_change : Cond.instanceMethod yX6_change ∈ zx_tb := zx_in2 (i := 109) rfl rfl
theorem ws_X6_change : Cond.selects RX6 yX6_change yX6_change ∈ zx_tb := zx_in2 (i := 110) rfl rfl
theorem wc_X6_fit : Cond.code yX6_fit cX6_fit 6 none ∈ zx_tb := zx_in2 (i := 87) rfl rfl
theorem wi_X6_fit : Cond.instanceMethod yX6_fit ∈ zx_tb := zx_in2 (i := 85) rfl rfl
theorem ws_X6_fit : Cond.selects RX6 yX6_fit yX6_fit ∈ zx_tb := zx_in2 (i := 86) rfl rfl
theorem wc_X6_lack : Cond.code yX6_lack cX6_lack 4 (some (.int)) ∈ zx_tb := zx_in2 (i := 107) rfl rfl
theorem wi_X6_lack : Cond.instanceMethod yX6_lack ∈ zx_tb := zx_in2 (i := 106) rfl rfl
theorem ws_X6_lack : Cond.selects RX6 yX6_lack yX6_lack ∈ zx_tb := zx_ip1 (q := (yX6_lack, 2)) (i := 2) rfl rfl
theorem wc_X6_mostLacking : Cond.code yX6_mostLacking cX6_mostLacking 6 (some (.int)) ∈ zx_tb := zx_in2 (i := 103) rfl rfl
theorem wi_X6_mostLacking : Cond.instanceMethod yX6_mostLacking ∈ zx_tb := zx_in2 (i := 102) rfl rfl
theorem ws_X6_mostLacking : Cond.selects RX6 yX6_mostLacking yX6_mostLacking ∈ zx_tb := zx_ip1 (q := (yX6_mostLacking, 2)) (i := 1) rfl rfl
theorem wc_X6_leastLacking : Cond.code yX6_leastLacking cX6_leastLacking 6 (some (.int)) ∈ zx_tb := zx_in2 (i := 116) rfl rfl
theorem wi_X6_leastLacking : Cond.instanceMethod yX6_leastLacking ∈ zx_tb := zx_in2 (i := 115) rfl rfl
theorem ws_X6_leastLacking : Cond.selects RX6 yX6_leastLacking yX6_leastLacking ∈ zx_tb := zx_ip1 (q := (yX6_leastLacking, 2)) (i := 3) rfl rfl
theorem wc_X7_init : Cond.code yX7_init cX7_init 1 none ∈ zx_tb := zx_in1 (i := 136) rfl rfl
theorem wi_X7_init : Cond.instanceMethod yX7_init ∈ zx_tb := zx_in1 (i := 135) rfl rfl
theorem wc_X7_figure : Cond.code yX7_figure cX7_figure 2 (some (.int)) ∈ zx_tb := zx_in4 (i := 22) rfl rfl
theorem wi_X7_figure : Cond.instanceMethod yX7_figure ∈ zx_tb := zx_in4 (i := 20) rfl rfl
theorem ws_X7_figure : Cond.selects RX7 yX7_figure yX7_figure ∈ zx_tb := zx_in4 (i := 21) rfl rfl
theorem wc_X7_begin : Cond.code yX7_begin cX7_begin 2 none ∈ zx_tb := zx_in2 (i := 236) rfl rfl
theorem wi_X7_begin : Cond.instanceMethod yX7_begin ∈ zx_tb := zx_in2 (i := 234) rfl rfl
theorem ws_X7_begin : Cond.selects RX7 yX7_begin yX7_begin ∈ zx_tb := zx_in2 (i := 235) rfl rfl
theorem wc_X7_meet : Cond.code yX7_meet cX7_meet 2 none ∈ zx_tb := zx_in3 (i := 35) rfl rfl
theorem wi_X7_meet : Cond.instanceMethod yX7_meet ∈ zx_tb := zx_in3 (i := 33) rfl rfl
theorem ws_X7_meet : Cond.selects RX7 yX7_meet yX7_meet ∈ zx_tb := zx_in3 (i := 34) rfl rfl
theorem wc_X7_addSymbol : Cond.code yX7_addSymbol cX7_addSymbol 3 none ∈ zx_tb := zx_in3 (i := 31) rfl rfl
theorem wi_X7_addSymbol : Cond.instanceMethod yX7_addSymbol ∈ zx_tb := zx_in3 (i := 29) rfl rfl
theorem ws_X7_addSymbol : Cond.selects RX7 yX7_addSymbol yX7_addSymbol ∈ zx_tb := zx_in3 (i := 30) rfl rfl
theorem wc_X7_setBytes : Cond.code yX7_setBytes cX7_setBytes 2 none ∈ zx_tb := zx_in3 (i := 41) rfl rfl
theorem wi_X7_setBytes : Cond.instanceMethod yX7_setBytes ∈ zx_tb := zx_in3 (i := 39) rfl rfl
theorem ws_X7_setBytes : Cond.selects RX7 yX7_setBytes yX7_setBytes ∈ zx_tb := zx_in3 (i := 40) rfl rfl
theorem wc_X7_copy : Cond.code yX7_copy cX7_copy 2 none ∈ zx_tb := zx_in3 (i := 72) rfl rfl
theorem wi_X7_copy : Cond.instanceMethod yX7_copy ∈ zx_tb := zx_in3 (i := 70) rfl rfl
theorem ws_X7_copy : Cond.selects RX7 yX7_copy yX7_copy ∈ zx_tb := zx_in3 (i := 71) rfl rfl
theorem wc_X8_init : Cond.code yX8_init cX8_init 2 none ∈ zx_tb := zx_in1 (i := 19) rfl rfl
theorem wi_X8_init : Cond.instanceMethod yX8_init ∈ zx_tb := zx_in1 (i := 18) rfl rfl
theorem wc_X8_feed : Cond.code yX8_feed cX8_feed 6 (some (.int)) ∈ zx_tb := zx_in2 (i := 47) rfl rfl
theorem wi_X8_feed : Cond.instanceMethod yX8_feed ∈ zx_tb := zx_in2 (i := 45) rfl rfl
theorem ws_X8_feed : Cond.selects RX8 yX8_feed yX8_feed ∈ zx_tb := zx_in2 (i := 46) rfl rfl
theorem wc_X8_end : Cond.code yX8_end cX8_end 2 (some (.int)) ∈ zx_tb := zx_in2 (i := 59) rfl rfl
theorem wi_X8_end : Cond.instanceMethod yX8_end ∈ zx_tb := zx_in2 (i := 57) rfl rfl
theorem ws_X8_end : Cond.selects RX8 yX8_end yX8_end ∈ zx_tb := zx_in2 (i := 58) rfl rfl
theorem wc_X8_learn : Cond.code yX8_learn cX8_learn 4 (some (.int)) ∈ zx_tb := zx_in2 (i := 63) rfl rfl
theorem wi_X8_learn : Cond.instanceMethod yX8_learn ∈ zx_tb := zx_in2 (i := 61) rfl rfl
theorem ws_X8_learn : Cond.selects RX8 yX8_learn yX8_learn ∈ zx_tb := zx_in2 (i := 62) rfl rfl
theorem wc_X8_log : Cond.code yX8_log cX8_log 3 (some (.int)) ∈ zx_tb := zx_in2 (i := 124) rfl rfl
theorem wi_X8_log : Cond.instanceMethod yX8_log ∈ zx_tb := zx_in2 (i := 122) rfl rfl
theorem ws_X8_log : Cond.selects RX8 yX8_log yX8_log ∈ zx_tb := zx_in2 (i := 123) rfl rfl
theorem wc_X8_share : Cond.code yX8_share cX8_share 4 (some (.int)) ∈ zx_tb := zx_in2 (i := 136) rfl rfl
theorem wi_X8_share : Cond.instanceMethod yX8_share ∈ zx_tb := zx_in2 (i := 134) rfl rfl
theorem ws_X8_share : Cond.selects RX8 yX8_share yX8_share ∈ zx_tb := zx_in2 (i := 135) rfl rfl
theorem wc_X8_start : Cond.code yX8_start cX8_start 4 (some (.int)) ∈ zx_tb := zx_in2 (i := 144) rfl rfl
theorem wi_X8_start : Cond.instanceMethod yX8_start ∈ zx_tb := zx_in2 (i := 142) rfl rfl
theorem ws_X8_start : Cond.selects RX8 yX8_start yX8_start ∈ zx_tb := zx_in2 (i := 143) rfl rfl
theorem wc_X8_place : Cond.code yX8_place cX8_place 4 (some (.int)) ∈ zx_tb := zx_in2 (i := 152) rfl rfl
theorem wi_X8_place : Cond.instanceMethod yX8_place ∈ zx_tb := zx_in2 (i := 150) rfl rfl
theorem ws_X8_place : Cond.selects RX8 yX8_place yX8_place ∈ zx_tb := zx_in2 (i := 151) rfl rfl
theorem wc_X8_rank : Cond.code yX8_rank cX8_rank 4 (some (.int)) ∈ zx_tb := zx_in2 (i := 202) rfl rfl
theorem wi_X8_rank : Cond.instanceMethod yX8_rank ∈ zx_tb := zx_in2 (i := 200) rfl rfl
theorem ws_X8_rank : Cond.selects RX8 yX8_rank yX8_rank ∈ zx_tb := zx_in2 (i := 201) rfl rfl
theorem wc_X8_pack : Cond.code yX8_pack cX8_pack 6 (some (.int)) ∈ zx_tb := zx_in2 (i := 210) rfl rfl
theorem wi_X8_pack : Cond.instanceMethod yX8_pack ∈ zx_tb := zx_in2 (i := 208) rfl rfl
theorem ws_X8_pack : Cond.selects RX8 yX8_pack yX8_pack ∈ zx_tb := zx_in2 (i := 209) rfl rfl
theorem wc_X8_unpack : Cond.code yX8_unpack cX8_unpack 3 (some (.int)) ∈ zx_tb := zx_in3 (i := 79) rfl rfl
theorem wi_X8_unpack : Cond.instanceMethod yX8_unpack ∈ zx_tb := zx_in3 (i := 77) rfl rfl
theorem ws_X8_unpack : Cond.selects RX8 yX8_unpack yX8_unpack ∈ zx_tb := zx_in3 (i := 78) rfl rfl
theorem wc_X8_fault : Cond.code yX8_fault cX8_fault 2 (some (.int)) ∈ zx_tb := zx_in3 (i := 191) rfl rfl
theorem wi_X8_fault : Cond.instanceMethod yX8_fault ∈ zx_tb := zx_in3 (i := 189) rfl rfl
theorem ws_X8_fault : Cond.selects RX8 yX8_fault yX8_fault ∈ zx_tb := zx_in3 (i := 190) rfl rfl
theorem wc_X8_written : Cond.code yX8_written cX8_written 2 (some (.int)) ∈ zx_tb := zx_in3 (i := 195) rfl rfl
theorem wi_X8_written : Cond.instanceMethod yX8_written ∈ zx_tb := zx_in3 (i := 193) rfl rfl
theorem ws_X8_written : Cond.selects RX8 yX8_written yX8_written ∈ zx_tb := zx_in3 (i := 194) rfl rfl
theorem wc_X8_take : Cond.code yX8_take cX8_take 1 (some (.int)) ∈ zx_tb := zx_in3 (i := 199) rfl rfl
theorem wi_X8_take : Cond.instanceMethod yX8_take ∈ zx_tb := zx_in3 (i := 197) rfl rfl
theorem ws_X8_take : Cond.selects RX8 yX8_take yX8_take ∈ zx_tb := zx_in3 (i := 198) rfl rfl
theorem wc_X8_ideal : Cond.code yX8_ideal cX8_ideal 5 (some (.int)) ∈ zx_tb := zx_in3 (i := 208) rfl rfl
theorem wi_X8_ideal : Cond.instanceMethod yX8_ideal ∈ zx_tb := zx_in3 (i := 206) rfl rfl
theorem ws_X8_ideal : Cond.selects RX8 yX8_ideal yX8_ideal ∈ zx_tb := zx_in3 (i := 207) rfl rfl
theorem wc_X8_code : Cond.code yX8_code cX8_code 6 (some (.int)) ∈ zx_tb := zx_in3 (i := 233) rfl rfl
theorem wi_X8_code : Cond.instanceMethod yX8_code ∈ zx_tb := zx_in3 (i := 231) rfl rfl
theorem ws_X8_code : Cond.selects RX8 yX8_code yX8_code ∈ zx_tb := zx_in3 (i := 232) rfl rfl
theorem wc_X8_gone : Cond.code yX8_gone cX8_gone 2 (some (.int)) ∈ zx_tb := zx_in4 (i := 4) rfl rfl
theorem wi_X8_gone : Cond.instanceMethod yX8_gone ∈ zx_tb := zx_in4 (i := 2) rfl rfl
theorem ws_X8_gone : Cond.selects RX8 yX8_gone yX8_gone ∈ zx_tb := zx_in4 (i := 3) rfl rfl
theorem wc_X8_symbol : Cond.code yX8_symbol cX8_symbol 5 (some (.int)) ∈ zx_tb := zx_in4 (i := 8) rfl rfl
theorem wi_X8_symbol : Cond.instanceMethod yX8_symbol ∈ zx_tb := zx_in4 (i := 6) rfl rfl
theorem ws_X8_symbol : Cond.selects RX8 yX8_symbol yX8_symbol ∈ zx_tb := zx_in4 (i := 7) rfl rfl
theorem wc_X8_left : Cond.code yX8_left cX8_left 5 (some (.int)) ∈ zx_tb := zx_in4 (i := 13) rfl rfl
theorem wi_X8_left : Cond.instanceMethod yX8_left ∈ zx_tb := zx_in4 (i := 11) rfl rfl
theorem ws_X8_left : Cond.selects RX8 yX8_left yX8_left ∈ zx_tb := zx_in4 (i := 12) rfl rfl
theorem wc_X8_look : Cond.code yX8_look cX8_look 2 (some (.int)) ∈ zx_tb := zx_in4 (i := 18) rfl rfl
theorem wi_X8_look : Cond.instanceMethod yX8_look ∈ zx_tb := zx_in4 (i := 16) rfl rfl
theorem ws_X8_look : Cond.selects RX8 yX8_look yX8_look ∈ zx_tb := zx_in4 (i := 17) rfl rfl
theorem wc_X8_isTableNumber : Cond.code yX8_isTableNumber cX8_isTableNumber 1 (some (.boolean)) ∈ zx_tb := zx_in2 (i := 66) rfl rfl
theorem wt_X8_isTableNumber : Cond.static yX8_isTableNumber ∈ zx_tb := zx_in2 (i := 65) rfl rfl
theorem wc_X8_isLog : Cond.code yX8_isLog cX8_isLog 1 (some (.boolean)) ∈ zx_tb := zx_in2 (i := 69) rfl rfl
theorem wt_X8_isLog : Cond.static yX8_isLog ∈ zx_tb := zx_in2 (i := 68) rfl rfl
theorem wc_X8_isSymbol : Cond.code yX8_isSymbol cX8_isSymbol 1 (some (.boolean)) ∈ zx_tb := zx_in2 (i := 83) rfl rfl
theorem wt_X8_isSymbol : Cond.static yX8_isSymbol ∈ zx_tb := zx_in2 (i := 82) rfl rfl
theorem wc_X8_isSpread : Cond.code yX8_isSpread cX8_isSpread 1 (some (.boolean)) ∈ zx_tb := zx_in2 (i := 159) rfl rfl
theorem wt_X8_isSpread : Cond.static yX8_isSpread ∈ zx_tb := zx_in2 (i := 158) rfl rfl
theorem wc_X8_isCoding : Cond.code yX8_isCoding cX8_isCoding 2 (some (.boolean)) ∈ zx_tb := zx_in2 (i := 213) rfl rfl
theorem wt_X8_isCoding : Cond.static yX8_isCoding ∈ zx_tb := zx_in2 (i := 212) rfl rfl
theorem wc_X8_tableOrNull : Cond.code yX8_tableOrNull cX8_tableOrNull 3 (some (.object "ShareCoder$Table")) ∈ zx_tb := zx_in2 (i := 128) rfl rfl
theorem wi_X8_tableOrNull : Cond.instanceMethod yX8_tableOrNull ∈ zx_tb := zx_in2 (i := 127) rfl rfl
theorem ws_X8_tableOrNull : Cond.selects RX8 yX8_tableOrNull yX8_tableOrNull ∈ zx_tb := zx_ip1 (q := (yX8_tableOrNull, 11)) (i := 4) rfl rfl
theorem wc_X8_countTape : Cond.code yX8_countTape cX8_countTape 4 (some (.int)) ∈ zx_tb := zx_in2 (i := 73) rfl rfl
theorem wi_X8_countTape : Cond.instanceMethod yX8_countTape ∈ zx_tb := zx_in2 (i := 72) rfl rfl
theorem ws_X8_countTape : Cond.selects RX8 yX8_countTape yX8_countTape ∈ zx_tb := zx_ip1 (q := (yX8_countTape, 11)) (i := 0) rfl rfl
theorem wc_X8_refusalOfTape : Cond.code yX8_refusalOfTape cX8_refusalOfTape 3 (some (.int)) ∈ zx_tb := zx_in2 (i := 217) rfl rfl
theorem wi_X8_refusalOfTape : Cond.instanceMethod yX8_refusalOfTape ∈ zx_tb := zx_in2 (i := 216) rfl rfl
theorem ws_X8_refusalOfTape : Cond.selects RX8 yX8_refusalOfTape yX8_refusalOfTape ∈ zx_tb := zx_ip1 (q := (yX8_refusalOfTape, 11)) (i := 12) rfl rfl
theorem wc_X8_layForPlace : Cond.code yX8_layForPlace cX8_layForPlace 5 (some (.boolean)) ∈ zx_tb := zx_in2 (i := 156) rfl rfl
theorem wi_X8_layForPlace : Cond.instanceMethod yX8_layForPlace ∈ zx_tb := zx_in2 (i := 155) rfl rfl
theorem ws_X8_layForPlace : Cond.selects RX8 yX8_layForPlace yX8_layForPlace ∈ zx_tb := zx_ip1 (q := (yX8_layForPlace, 11)) (i := 5) rfl rfl
theorem wc_X8_prepareForState : Cond.code yX8_prepareForState cX8_prepareForState 6 (some (.boolean)) ∈ zx_tb := zx_in3 (i := 237) rfl rfl
theorem wi_X8_prepareForState : Cond.instanceMethod yX8_prepareForState ∈ zx_tb := zx_in3 (i := 236) rfl rfl
theorem ws_X8_prepareForState : Cond.selects RX8 yX8_prepareForState yX8_prepareForState ∈ zx_tb := zx_ip3 (q := (yX8_prepareForState, 11)) (i := 0) rfl rfl
theorem wc_X9_init : Cond.code yX9_init cX9_init 1 none ∈ zx_tb := zx_in4 (i := 27) rfl rfl
theorem wi_X9_init : Cond.instanceMethod yX9_init ∈ zx_tb := zx_in4 (i := 26) rfl rfl
theorem wc_X9_feed : Cond.code yX9_feed cX9_feed 8 (some (.int)) ∈ zx_tb := zx_in4 (i := 140) rfl rfl
theorem wi_X9_feed : Cond.instanceMethod yX9_feed ∈ zx_tb := zx_in4 (i := 138) rfl rfl
theorem ws_X9_feed : Cond.selects RX9 yX9_feed yX9_feed ∈ zx_tb := zx_in4 (i := 139) rfl rfl
theorem wc_X9_end : Cond.code yX9_end cX9_end 2 (some (.int)) ∈ zx_tb := zx_in4 (i := 144) rfl rfl
theorem wi_X9_end : Cond.instanceMethod yX9_end ∈ zx_tb := zx_in4 (i := 142) rfl rfl
theorem ws_X9_end : Cond.selects RX9 yX9_end yX9_end ∈ zx_tb := zx_in4 (i := 143) rfl rfl
theorem wc_X9_take : Cond.code yX9_take cX9_take 2 (some (.int)) ∈ zx_tb := zx_in4 (i := 148) rfl rfl
theorem wi_X9_take : Cond.instanceMethod yX9_take ∈ zx_tb := zx_in4 (i := 146) rfl rfl
theorem ws_X9_take : Cond.selects RX9 yX9_take yX9_take ∈ zx_tb := zx_in4 (i := 147) rfl rfl
theorem wc_X9_written : Cond.code yX9_written cX9_written 2 (some (.int)) ∈ zx_tb := zx_in4 (i := 152) rfl rfl
theorem wi_X9_written : Cond.instanceMethod yX9_written ∈ zx_tb := zx_in4 (i := 150) rfl rfl
theorem ws_X9_written : Cond.selects RX9 yX9_written yX9_written ∈ zx_tb := zx_in4 (i := 151) rfl rfl
theorem wc_X9_isTable : Cond.code yX9_isTable cX9_isTable 2 (some (.boolean)) ∈ zx_tb := zx_in4 (i := 172) rfl rfl
theorem wi_X9_isTable : Cond.instanceMethod yX9_isTable ∈ zx_tb := zx_in4 (i := 171) rfl rfl
theorem ws_X9_isTable : Cond.selects RX9 yX9_isTable yX9_isTable ∈ zx_tb := zx_ip3 (q := (yX9_isTable, 35)) (i := 3) rfl rfl
theorem wc_X9_lack : Cond.code yX9_lack cX9_lack 4 (some (.int)) ∈ zx_tb := zx_in4 (i := 160) rfl rfl
theorem wi_X9_lack : Cond.instanceMethod yX9_lack ∈ zx_tb := zx_in4 (i := 159) rfl rfl
theorem ws_X9_lack : Cond.selects RX9 yX9_lack yX9_lack ∈ zx_tb := zx_ip3 (q := (yX9_lack, 35)) (i := 1) rfl rfl
theorem wc_X9_learn : Cond.code yX9_learn cX9_learn 8 (some (.int)) ∈ zx_tb := zx_in4 (i := 156) rfl rfl
theorem wi_X9_learn : Cond.instanceMethod yX9_learn ∈ zx_tb := zx_in4 (i := 154) rfl rfl
theorem ws_X9_learn : Cond.selects RX9 yX9_learn yX9_learn ∈ zx_tb := zx_in4 (i := 155) rfl rfl
theorem wc_X9_begin : Cond.code yX9_begin cX9_begin 4 none ∈ zx_tb := zx_in4 (i := 164) rfl rfl
theorem wi_X9_begin : Cond.instanceMethod yX9_begin ∈ zx_tb := zx_in4 (i := 163) rfl rfl
theorem ws_X9_begin : Cond.selects RX9 yX9_begin yX9_begin ∈ zx_tb := zx_ip3 (q := (yX9_begin, 35)) (i := 2) rfl rfl
theorem wc_X9_log : Cond.code yX9_log cX9_log 2 (some (.int)) ∈ zx_tb := zx_in4 (i := 168) rfl rfl
theorem wi_X9_log : Cond.instanceMethod yX9_log ∈ zx_tb := zx_in4 (i := 166) rfl rfl
theorem ws_X9_log : Cond.selects RX9 yX9_log yX9_log ∈ zx_tb := zx_in4 (i := 167) rfl rfl
theorem wc_X9_share : Cond.code yX9_share cX9_share 3 (some (.int)) ∈ zx_tb := zx_in4 (i := 176) rfl rfl
theorem wi_X9_share : Cond.instanceMethod yX9_share ∈ zx_tb := zx_in4 (i := 174) rfl rfl
theorem ws_X9_share : Cond.selects RX9 yX9_share yX9_share ∈ zx_tb := zx_in4 (i := 175) rfl rfl
theorem wc_X9_start : Cond.code yX9_start cX9_start 3 (some (.int)) ∈ zx_tb := zx_in4 (i := 180) rfl rfl
theorem wi_X9_start : Cond.instanceMethod yX9_start ∈ zx_tb := zx_in4 (i := 178) rfl rfl
theorem ws_X9_start : Cond.selects RX9 yX9_start yX9_start ∈ zx_tb := zx_in4 (i := 179) rfl rfl
theorem wc_X9_lay : Cond.code yX9_lay cX9_lay 9 none ∈ zx_tb := zx_in4 (i := 192) rfl rfl
theorem wi_X9_lay : Cond.instanceMethod yX9_lay ∈ zx_tb := zx_in4 (i := 191) rfl rfl
theorem ws_X9_lay : Cond.selects RX9 yX9_lay yX9_lay ∈ zx_tb := zx_ip3 (q := (yX9_lay, 35)) (i := 5) rfl rfl
theorem wc_X9_isAhead : Cond.code yX9_isAhead cX9_isAhead 6 (some (.boolean)) ∈ zx_tb := zx_in4 (i := 204) rfl rfl
theorem wi_X9_isAhead : Cond.instanceMethod yX9_isAhead ∈ zx_tb := zx_in4 (i := 203) rfl rfl
theorem ws_X9_isAhead : Cond.selects RX9 yX9_isAhead yX9_isAhead ∈ zx_tb := zx_ip3 (q := (yX9_isAhead, 35)) (i := 8) rfl rfl
theorem wc_X9_sink : Cond.code yX9_sink cX9_sink 6 none ∈ zx_tb := zx_in4 (i := 200) rfl rfl
theorem wi_X9_sink : Cond.instanceMethod yX9_sink ∈ zx_tb := zx_in4 (i := 199) rfl rfl
theorem ws_X9_sink : Cond.selects RX9 yX9_sink yX9_sink ∈ zx_tb := zx_ip3 (q := (yX9_sink, 35)) (i := 7) rfl rfl
theorem wc_X9_even : Cond.code yX9_even cX9_even 6 none ∈ zx_tb := zx_in4 (i := 196) rfl rfl
theorem wi_X9_even : Cond.instanceMethod yX9_even ∈ zx_tb := zx_in4 (i := 195) rfl rfl
theorem ws_X9_even : Cond.selects RX9 yX9_even yX9_even ∈ zx_tb := zx_ip3 (q := (yX9_even, 35)) (i := 6) rfl rfl
theorem wc_X9_isPlace : Cond.code yX9_isPlace cX9_isPlace 4 (some (.boolean)) ∈ zx_tb := zx_in4 (i := 188) rfl rfl
theorem wi_X9_isPlace : Cond.instanceMethod yX9_isPlace ∈ zx_tb := zx_in4 (i := 187) rfl rfl
theorem ws_X9_isPlace : Cond.selects RX9 yX9_isPlace yX9_isPlace ∈ zx_tb := zx_ip3 (q := (yX9_isPlace, 35)) (i := 4) rfl rfl
theorem wc_X9_place : Cond.code yX9_place cX9_place 4 (some (.int)) ∈ zx_tb := zx_in4 (i := 184) rfl rfl
theorem wi_X9_place : Cond.instanceMethod yX9_place ∈ zx_tb := zx_in4 (i := 182) rfl rfl
theorem ws_X9_place : Cond.selects RX9 yX9_place yX9_place ∈ zx_tb := zx_in4 (i := 183) rfl rfl
theorem wc_X9_rank : Cond.code yX9_rank cX9_rank 4 (some (.int)) ∈ zx_tb := zx_in4 (i := 208) rfl rfl
theorem wi_X9_rank : Cond.instanceMethod yX9_rank ∈ zx_tb := zx_in4 (i := 206) rfl rfl
theorem ws_X9_rank : Cond.selects RX9 yX9_rank yX9_rank ∈ zx_tb := zx_in4 (i := 207) rfl rfl
theorem wc_X9_isWay : Cond.code yX9_isWay cX9_isWay 2 (some (.boolean)) ∈ zx_tb := zx_in4 (i := 219) rfl rfl
theorem wt_X9_isWay : Cond.static yX9_isWay ∈ zx_tb := zx_in4 (i := 218) rfl rfl
theorem wc_X9_step : Cond.code yX9_step cX9_step 11 none ∈ zx_tb := zx_in4 (i := 228) rfl rfl
theorem wi_X9_step : Cond.instanceMethod yX9_step ∈ zx_tb := zx_in4 (i := 227) rfl rfl
theorem ws_X9_step : Cond.selects RX9 yX9_step yX9_step ∈ zx_tb := zx_ip3 (q := (yX9_step, 35)) (i := 11) rfl rfl
theorem wc_X9_told : Cond.code yX9_told cX9_told 10 (some (.int)) ∈ zx_tb := zx_in5 (i := 0) rfl rfl
theorem wi_X9_told : Cond.instanceMethod yX9_told ∈ zx_tb := zx_in4 (i := 239) rfl rfl
theorem ws_X9_told : Cond.selects RX9 yX9_told yX9_told ∈ zx_tb := zx_ip3 (q := (yX9_told, 35)) (i := 12) rfl rfl
theorem wc_X9_behind : Cond.code yX9_behind cX9_behind 7 (some (.int)) ∈ zx_tb := zx_in5 (i := 8) rfl rfl
theorem wi_X9_behind : Cond.instanceMethod yX9_behind ∈ zx_tb := zx_in5 (i := 7) rfl rfl
theorem ws_X9_behind : Cond.selects RX9 yX9_behind yX9_behind ∈ zx_tb := zx_ip3 (q := (yX9_behind, 35)) (i := 13) rfl rfl
theorem wc_X9_isState : Cond.code yX9_isState cX9_isState 4 (some (.boolean)) ∈ zx_tb := zx_in4 (i := 223) rfl rfl
theorem wi_X9_isState : Cond.instanceMethod yX9_isState ∈ zx_tb := zx_in4 (i := 222) rfl rfl
theorem ws_X9_isState : Cond.selects RX9 yX9_isState yX9_isState ∈ zx_tb := zx_ip3 (q := (yX9_isState, 35)) (i := 10) rfl rfl
theorem wc_X9_isAsked : Cond.code yX9_isAsked cX9_isAsked 5 (some (.boolean)) ∈ zx_tb := zx_in4 (i := 216) rfl rfl
theorem wi_X9_isAsked : Cond.instanceMethod yX9_isAsked ∈ zx_tb := zx_in4 (i := 215) rfl rfl
theorem ws_X9_isAsked : Cond.selects RX9 yX9_isAsked yX9_isAsked ∈ zx_tb := zx_ip3 (q := (yX9_isAsked, 35)) (i := 9) rfl rfl
theorem wc_X9_code : Cond.code yX9_code cX9_code 6 (some (.int)) ∈ zx_tb := zx_in4 (i := 212) rfl rfl
theorem wi_X9_code : Cond.instanceMethod yX9_code ∈ zx_tb := zx_in4 (i := 210) rfl rfl
theorem ws_X9_code : Cond.selects RX9 yX9_code yX9_code ∈ zx_tb := zx_in4 (i := 211) rfl rfl
theorem wc_X9_gone : Cond.code yX9_gone cX9_gone 2 (some (.int)) ∈ zx_tb := zx_in4 (i := 232) rfl rfl
theorem wi_X9_gone : Cond.instanceMethod yX9_gone ∈ zx_tb := zx_in4 (i := 230) rfl rfl
theorem ws_X9_gone : Cond.selects RX9 yX9_gone yX9_gone ∈ zx_tb := zx_in4 (i := 231) rfl rfl
theorem wc_X9_symbol : Cond.code yX9_symbol cX9_symbol 5 (some (.int)) ∈ zx_tb := zx_in4 (i := 236) rfl rfl
theorem wi_X9_symbol : Cond.instanceMethod yX9_symbol ∈ zx_tb := zx_in4 (i := 234) rfl rfl
theorem ws_X9_symbol : Cond.selects RX9 yX9_symbol yX9_symbol ∈ zx_tb := zx_in4 (i := 235) rfl rfl
theorem wc_X9_left : Cond.code yX9_left cX9_left 5 (some (.int)) ∈ zx_tb := zx_in5 (i := 4) rfl rfl
theorem wi_X9_left : Cond.instanceMethod yX9_left ∈ zx_tb := zx_in5 (i := 2) rfl rfl
theorem ws_X9_left : Cond.selects RX9 yX9_left yX9_left ∈ zx_tb := zx_in5 (i := 3) rfl rfl
theorem wc_X9_refusal : Cond.code yX9_refusal cX9_refusal 3 (some (.int)) ∈ zx_tb := zx_in5 (i := 16) rfl rfl
theorem wi_X9_refusal : Cond.instanceMethod yX9_refusal ∈ zx_tb := zx_in5 (i := 15) rfl rfl
theorem ws_X9_refusal : Cond.selects RX9 yX9_refusal yX9_refusal ∈ zx_tb := zx_ip3 (q := (yX9_refusal, 35)) (i := 14) rfl rfl
theorem wc_X9_meets : Cond.code yX9_meets cX9_meets 2 none ∈ zx_tb := zx_in5 (i := 29) rfl rfl
theorem wi_X9_meets : Cond.instanceMethod yX9_meets ∈ zx_tb := zx_in5 (i := 28) rfl rfl
theorem ws_X9_meets : Cond.selects RX9 yX9_meets yX9_meets ∈ zx_tb := zx_ip4 (q := (yX9_meets, 35)) (i := 1) rfl rfl
theorem wc_X9_meetsNone : Cond.code yX9_meetsNone cX9_meetsNone 1 none ∈ zx_tb := zx_in5 (i := 20) rfl rfl
theorem wi_X9_meetsNone : Cond.instanceMethod yX9_meetsNone ∈ zx_tb := zx_in5 (i := 19) rfl rfl
theorem ws_X9_meetsNone : Cond.selects RX9 yX9_meetsNone yX9_meetsNone ∈ zx_tb := zx_ip3 (q := (yX9_meetsNone, 35)) (i := 15) rfl rfl
theorem wc_X9_tells : Cond.code yX9_tells cX9_tells 2 none ∈ zx_tb := zx_in5 (i := 37) rfl rfl
theorem wi_X9_tells : Cond.instanceMethod yX9_tells ∈ zx_tb := zx_in5 (i := 36) rfl rfl
theorem ws_X9_tells : Cond.selects RX9 yX9_tells yX9_tells ∈ zx_tb := zx_ip4 (q := (yX9_tells, 35)) (i := 3) rfl rfl
theorem wc_X9_firstOf : Cond.code yX9_firstOf cX9_firstOf 3 (some (.int)) ∈ zx_tb := zx_in5 (i := 25) rfl rfl
theorem wi_X9_firstOf : Cond.instanceMethod yX9_firstOf ∈ zx_tb := zx_in5 (i := 24) rfl rfl
theorem ws_X9_firstOf : Cond.selects RX9 yX9_firstOf yX9_firstOf ∈ zx_tb := zx_ip4 (q := (yX9_firstOf, 35)) (i := 0) rfl rfl
theorem wc_X9_pack : Cond.code yX9_pack cX9_pack 12 (some (.int)) ∈ zx_tb := zx_in5 (i := 12) rfl rfl
theorem wi_X9_pack : Cond.instanceMethod yX9_pack ∈ zx_tb := zx_in5 (i := 10) rfl rfl
theorem ws_X9_pack : Cond.selects RX9 yX9_pack yX9_pack ∈ zx_tb := zx_in5 (i := 11) rfl rfl
theorem wc_X9_put : Cond.code yX9_put cX9_put 4 none ∈ zx_tb := zx_in5 (i := 33) rfl rfl
theorem wi_X9_put : Cond.instanceMethod yX9_put ∈ zx_tb := zx_in5 (i := 32) rfl rfl
theorem ws_X9_put : Cond.selects RX9 yX9_put yX9_put ∈ zx_tb := zx_ip4 (q := (yX9_put, 35)) (i := 2) rfl rfl
theorem wc_X9_ideal : Cond.code yX9_ideal cX9_ideal 9 (some (.int)) ∈ zx_tb := zx_in5 (i := 41) rfl rfl
theorem wi_X9_ideal : Cond.instanceMethod yX9_ideal ∈ zx_tb := zx_in5 (i := 39) rfl rfl
theorem ws_X9_ideal : Cond.selects RX9 yX9_ideal yX9_ideal ∈ zx_tb := zx_in5 (i := 40) rfl rfl
theorem wc_X9_look : Cond.code yX9_look cX9_look 2 (some (.int)) ∈ zx_tb := zx_in5 (i := 46) rfl rfl
theorem wi_X9_look : Cond.instanceMethod yX9_look ∈ zx_tb := zx_in5 (i := 44) rfl rfl
theorem ws_X9_look : Cond.selects RX9 yX9_look yX9_look ∈ zx_tb := zx_in5 (i := 45) rfl rfl
theorem wc_X9_fails : Cond.code yX9_fails cX9_fails 3 (some (.boolean)) ∈ zx_tb := zx_in5 (i := 62) rfl rfl
theorem wi_X9_fails : Cond.instanceMethod yX9_fails ∈ zx_tb := zx_in5 (i := 61) rfl rfl
theorem ws_X9_fails : Cond.selects RX9 yX9_fails yX9_fails ∈ zx_tb := zx_ip4 (q := (yX9_fails, 35)) (i := 6) rfl rfl
theorem wc_X9_number : Cond.code yX9_number cX9_number 5 (some (.long)) ∈ zx_tb := zx_in5 (i := 58) rfl rfl
theorem wi_X9_number : Cond.instanceMethod yX9_number ∈ zx_tb := zx_in5 (i := 57) rfl rfl
theorem ws_X9_number : Cond.selects RX9 yX9_number yX9_number ∈ zx_tb := zx_ip4 (q := (yX9_number, 35)) (i := 5) rfl rfl
theorem wc_X9_reads : Cond.code yX9_reads cX9_reads 5 (some (.boolean)) ∈ zx_tb := zx_in5 (i := 54) rfl rfl
theorem wi_X9_reads : Cond.instanceMethod yX9_reads ∈ zx_tb := zx_in5 (i := 53) rfl rfl
theorem ws_X9_reads : Cond.selects RX9 yX9_reads yX9_reads ∈ zx_tb := zx_ip4 (q := (yX9_reads, 35)) (i := 4) rfl rfl
theorem wc_X9_readsShares : Cond.code yX9_readsShares cX9_readsShares 9 (some (.boolean)) ∈ zx_tb := zx_in5 (i := 69) rfl rfl
theorem wi_X9_readsShares : Cond.instanceMethod yX9_readsShares ∈ zx_tb := zx_in5 (i := 68) rfl rfl
theorem ws_X9_readsShares : Cond.selects RX9 yX9_readsShares yX9_readsShares ∈ zx_tb := zx_ip4 (q := (yX9_readsShares, 35)) (i := 7) rfl rfl
theorem wc_X9_readsMessage : Cond.code yX9_readsMessage cX9_readsMessage 10 (some (.boolean)) ∈ zx_tb := zx_in5 (i := 76) rfl rfl
theorem wi_X9_readsMessage : Cond.instanceMethod yX9_readsMessage ∈ zx_tb := zx_in5 (i := 75) rfl rfl
theorem ws_X9_readsMessage : Cond.selects RX9 yX9_readsMessage yX9_readsMessage ∈ zx_tb := zx_ip4 (q := (yX9_readsMessage, 35)) (i := 8) rfl rfl
theorem wc_X9_unpack : Cond.code yX9_unpack cX9_unpack 4 (some (.int)) ∈ zx_tb := zx_in5 (i := 50) rfl rfl
theorem wi_X9_unpack : Cond.instanceMethod yX9_unpack ∈ zx_tb := zx_in5 (i := 48) rfl rfl
theorem ws_X9_unpack : Cond.selects RX9 yX9_unpack yX9_unpack ∈ zx_tb := zx_in5 (i := 49) rfl rfl
theorem wc_X9_fault : Cond.code yX9_fault cX9_fault 2 (some (.int)) ∈ zx_tb := zx_in5 (i := 80) rfl rfl
theorem wi_X9_fault : Cond.instanceMethod yX9_fault ∈ zx_tb := zx_in5 (i := 78) rfl rfl
theorem ws_X9_fault : Cond.selects RX9 yX9_fault yX9_fault ∈ zx_tb := zx_in5 (i := 79) rfl rfl
theorem wc_J6_numberOfLeadingZeros_0f7a4 : Cond.code yJ6_numberOfLeadingZeros_0f7a4 cJ6_numberOfLeadingZeros_0f7a4 2 (some (.int)) ∈ zx_tb := zx_in3 (i := 228) rfl rfl
theorem wt_J6_numberOfLeadingZeros_0f7a4 : Cond.static yJ6_numberOfLeadingZeros_0f7a4 ∈ zx_tb := zx_in3 (i := 227) rfl rfl
theorem wc_J9_max_7cf53 : Cond.code yJ9_max_7cf53 cJ9_max_7cf53 2 (some (.int)) ∈ zx_tb := zx_in2 (i := 99) rfl rfl
theorem wt_J9_max_7cf53 : Cond.static yJ9_max_7cf53 ∈ zx_tb := zx_in2 (i := 98) rfl rfl
theorem wc_J9_min_7cf53 : Cond.code yJ9_min_7cf53 cJ9_min_7cf53 2 (some (.int)) ∈ zx_tb := zx_in2 (i := 168) rfl rfl
theorem wt_J9_min_7cf53 : Cond.static yJ9_min_7cf53 ∈ zx_tb := zx_in2 (i := 167) rfl rfl
theorem wc_J7_fill_53178 : Cond.code yJ7_fill_53178 cJ7_fill_53178 4 none ∈ zx_tb := zx_in2 (i := 76) rfl rfl
theorem wt_J7_fill_53178 : Cond.static yJ7_fill_53178 ∈ zx_tb := zx_in2 (i := 75) rfl rfl
theorem wc_Math_max : Cond.code Lib.Math.max.name Lib.Math.max.code 2 (some .int) ∈ zx_tb := zx_in2 (i := 99) rfl rfl
theorem wt_Math_max : Cond.static Lib.Math.max.name ∈ zx_tb := zx_in2 (i := 98) rfl rfl
theorem wc_Math_min : Cond.code Lib.Math.min.name Lib.Math.min.code 2 (some .int) ∈ zx_tb := zx_in2 (i := 168) rfl rfl
theorem wt_Math_min : Cond.static Lib.Math.min.name ∈ zx_tb := zx_in2 (i := 167) rfl rfl
theorem wv_arraycopy : Cond.native arraycopyName ∈ zx_tb := zx_in3 (i := 75) rfl rfl
theorem wt_arraycopy : Cond.static arraycopyName ∈ zx_tb := zx_in3 (i := 74) rfl rfl
def zx_ne : List Cond := [Cond.methodLinkNest RX8 11 yX4_init RX8, Cond.methodLinkNest RX8 31 yX1_init RX8, Cond.methodLinkNest RX1 11 yX0_init RX8, Cond.methodLinkNest RX0 11 yX5_init RX8, Cond.methodLinkNest RX1 20 yX7_init RX8, Cond.methodLinkNest RX1 35 yX6_init RX8, Cond.methodLinkNest RX8 43 yX2_init RX8, Cond.methodLinkNest RX2 11 yX7_init RX8, Cond.methodLinkNest RX8 50 yX7_init RX8, Cond.methodLinkNest RX8 57 yX3_init RX8, Cond.methodLinkNest RX8 69 yX6_init RX8, Cond.methodLinkNest RX6 19 yX8_isSymbol RX8, Cond.methodLinkNest RX5 44 yX8_isSymbol RX8, Cond.methodLinkNest RX1 132 yX8_isCoding RX8, Cond.methodLinkNest RX1 136 yX8_isLog RX8]
theorem wN_X8_11 : Cond.methodLinkNest RX8 11 yX4_init RX8 ∈ zx_ne := List.mem_of_getElem? (i := 0) rfl
theorem wN_X8_31 : Cond.methodLinkNest RX8 31 yX1_init RX8 ∈ zx_ne := List.mem_of_getElem? (i := 1) rfl
theorem wN_X1_11 : Cond.methodLinkNest RX1 11 yX0_init RX8 ∈ zx_ne := List.mem_of_getElem? (i := 2) rfl
theorem wN_X0_11 : Cond.methodLinkNest RX0 11 yX5_init RX8 ∈ zx_ne := List.mem_of_getElem? (i := 3) rfl
theorem wN_X1_20 : Cond.methodLinkNest RX1 20 yX7_init RX8 ∈ zx_ne := List.mem_of_getElem? (i := 4) rfl
theorem wN_X1_35 : Cond.methodLinkNest RX1 35 yX6_init RX8 ∈ zx_ne := List.mem_of_getElem? (i := 5) rfl
theorem wN_X8_43 : Cond.methodLinkNest RX8 43 yX2_init RX8 ∈ zx_ne := List.mem_of_getElem? (i := 6) rfl
theorem wN_X2_11 : Cond.methodLinkNest RX2 11 yX7_init RX8 ∈ zx_ne := List.mem_of_getElem? (i := 7) rfl
theorem wN_X8_50 : Cond.methodLinkNest RX8 50 yX7_init RX8 ∈ zx_ne := List.mem_of_getElem? (i := 8) rfl
theorem wN_X8_57 : Cond.methodLinkNest RX8 57 yX3_init RX8 ∈ zx_ne := List.mem_of_getElem? (i := 9) rfl
theorem wN_X8_69 : Cond.methodLinkNest RX8 69 yX6_init RX8 ∈ zx_ne := List.mem_of_getElem? (i := 10) rfl
theorem wN_X6_19 : Cond.methodLinkNest RX6 19 yX8_isSymbol RX8 ∈ zx_ne := List.mem_of_getElem? (i := 11) rfl
theorem wN_X5_44 : Cond.methodLinkNest RX5 44 yX8_isSymbol RX8 ∈ zx_ne := List.mem_of_getElem? (i := 12) rfl
theorem wN_X1_132 : Cond.methodLinkNest RX1 132 yX8_isCoding RX8 ∈ zx_ne := List.mem_of_getElem? (i := 13) rfl
theorem wN_X1_136 : Cond.methodLinkNest RX1 136 yX8_isLog RX8 ∈ zx_ne := List.mem_of_getElem? (i := 14) rfl
theorem zx_ne_tb : ∀ w ∈ zx_ne, w ∈ lw_tbl := by
  unfold zx_ne
  refine List.forall_mem_cons.mpr ⟨zx_ix1 (i := 25) rfl, List.forall_mem_cons.mpr ⟨zx_ix1 (i := 44) rfl, List.forall_mem_cons.mpr ⟨zx_ix1 (i := 50) rfl, List.forall_mem_cons.mpr ⟨zx_ix1 (i := 56) rfl, List.forall_mem_cons.mpr ⟨zx_ix1 (i := 134) rfl, List.forall_mem_cons.mpr ⟨zx_ix1 (i := 145) rfl, List.forall_mem_cons.mpr ⟨zx_ix1 (i := 214) rfl, List.forall_mem_cons.mpr ⟨zx_ix1 (i := 219) rfl, List.forall_mem_cons.mpr ⟨zx_ix1 (i := 232) rfl, List.forall_mem_cons.mpr ⟨zx_ix1 (i := 235) rfl, List.forall_mem_cons.mpr ⟨zx_ix2 (i := 9) rfl, List.forall_mem_cons.mpr ⟨zx_ix2 (i := 112) rfl, List.forall_mem_cons.mpr ⟨zx_ix3 (i := 12) rfl, List.forall_mem_cons.mpr ⟨zx_ix3 (i := 109) rfl, List.forall_mem_cons.mpr ⟨zx_ix3 (i := 110) rfl, fun _ h => absurd h List.not_mem_nil⟩⟩⟩⟩⟩⟩⟩⟩⟩⟩⟩⟩⟩⟩⟩
theorem wu_X0 : ∀ w ∈ u_ws RX0 TX0 8, w ∈ zx_tb := by
  intro w hw
  obtain ⟨k, hk, rfl⟩ := List.mem_map.mp hw
  have hk := List.mem_range.mp hk
  match k, hk with
  | 0, _ => exact zx_in1 (i := 115) rfl rfl
  | 1, _ => exact zx_in1 (i := 117) rfl rfl
  | 2, _ => exact zx_in1 (i := 119) rfl rfl
  | 3, _ => exact zx_in1 (i := 121) rfl rfl
  | 4, _ => exact zx_in1 (i := 123) rfl rfl
  | 5, _ => exact zx_in1 (i := 125) rfl rfl
  | 6, _ => exact zx_in1 (i := 127) rfl rfl
  | 7, _ => exact zx_in1 (i := 129) rfl rfl
  | k + 8, h => exact absurd h (by omega)
theorem wu_X1 : ∀ w ∈ u_ws RX1 TX1 16, w ∈ zx_tb := by
  intro w hw
  obtain ⟨k, hk, rfl⟩ := List.mem_map.mp hw
  have hk := List.mem_range.mp hk
  match k, hk with
  | 0, _ => exact zx_in1 (i := 179) rfl rfl
  | 1, _ => exact zx_in1 (i := 181) rfl rfl
  | 2, _ => exact zx_in1 (i := 183) rfl rfl
  | 3, _ => exact zx_in1 (i := 185) rfl rfl
  | 4, _ => exact zx_in1 (i := 187) rfl rfl
  | 5, _ => exact zx_in1 (i := 189) rfl rfl
  | 6, _ => exact zx_in1 (i := 191) rfl rfl
  | 7, _ => exact zx_in1 (i := 193) rfl rfl
  | 8, _ => exact zx_in1 (i := 195) rfl rfl
  | 9, _ => exact zx_in1 (i := 197) rfl rfl
  | 10, _ => exact zx_in1 (i := 199) rfl rfl
  | 11, _ => exact zx_in1 (i := 201) rfl rfl
  | 12, _ => exact zx_in1 (i := 203) rfl rfl
  | 13, _ => exact zx_in1 (i := 205) rfl rfl
  | 14, _ => exact zx_in1 (i := 207) rfl rfl
  | 15, _ => exact zx_in1 (i := 209) rfl rfl
  | k + 16, h => exact absurd h (by omega)
theorem wu_X2 : ∀ w ∈ u_ws RX2 TX2 3, w ∈ zx_tb := by
  intro w hw
  obtain ⟨k, hk, rfl⟩ := List.mem_map.mp hw
  have hk := List.mem_range.mp hk
  match k, hk with
  | 0, _ => exact zx_in1 (i := 224) rfl rfl
  | 1, _ => exact zx_in1 (i := 226) rfl rfl
  | 2, _ => exact zx_in1 (i := 228) rfl rfl
  | k + 3, h => exact absurd h (by omega)
theorem wu_X3 : ∀ w ∈ u_ws RX3 TX3 3, w ∈ zx_tb := by
  intro w hw
  obtain ⟨k, hk, rfl⟩ := List.mem_map.mp hw
  have hk := List.mem_range.mp hk
  match k, hk with
  | 0, _ => exact zx_in2 (i := 2) rfl rfl
  | 1, _ => exact zx_in2 (i := 4) rfl rfl
  | 2, _ => exact zx_in2 (i := 6) rfl rfl
  | k + 3, h => exact absurd h (by omega)
theorem wu_X4 : ∀ w ∈ u_ws RX4 TX4 2, w ∈ zx_tb := by
  intro w hw
  obtain ⟨k, hk, rfl⟩ := List.mem_map.mp hw
  have hk := List.mem_range.mp hk
  match k, hk with
  | 0, _ => exact zx_in1 (i := 34) rfl rfl
  | 1, _ => exact zx_in1 (i := 36) rfl rfl
  | k + 2, h => exact absurd h (by omega)
theorem wu_X5 : ∀ w ∈ u_ws RX5 TX5 10, w ∈ zx_tb := by
  intro w hw
  obtain ⟨k, hk, rfl⟩ := List.mem_map.mp hw
  have hk := List.mem_range.mp hk
  match k, hk with
  | 0, _ => exact zx_in1 (i := 71) rfl rfl
  | 1, _ => exact zx_in1 (i := 73) rfl rfl
  | 2, _ => exact zx_in1 (i := 75) rfl rfl
  | 3, _ => exact zx_in1 (i := 77) rfl rfl
  | 4, _ => exact zx_in1 (i := 79) rfl rfl
  | 5, _ => exact zx_in1 (i := 81) rfl rfl
  | 6, _ => exact zx_in1 (i := 83) rfl rfl
  | 7, _ => exact zx_in1 (i := 85) rfl rfl
  | 8, _ => exact zx_in1 (i := 87) rfl rfl
  | 9, _ => exact zx_in1 (i := 89) rfl rfl
  | k + 10, h => exact absurd h (by omega)
theorem wu_X6 : ∀ w ∈ u_ws RX6 TX6 2, w ∈ zx_tb := by
  intro w hw
  obtain ⟨k, hk, rfl⟩ := List.mem_map.mp hw
  have hk := List.mem_range.mp hk
  match k, hk with
  | 0, _ => exact zx_in1 (i := 154) rfl rfl
  | 1, _ => exact zx_in1 (i := 156) rfl rfl
  | k + 2, h => exact absurd h (by omega)
theorem wu_X7 : ∀ w ∈ u_ws RX7 TX7 1, w ∈ zx_tb := by
  intro w hw
  obtain ⟨k, hk, rfl⟩ := List.mem_map.mp hw
  have hk := List.mem_range.mp hk
  match k, hk with
  | 0, _ => exact zx_in1 (i := 140) rfl rfl
  | k + 1, h => exact absurd h (by omega)
theorem wu_X8 : ∀ w ∈ u_ws RX8 TX8 11, w ∈ zx_tb := by
  intro w hw
  obtain ⟨k, hk, rfl⟩ := List.mem_map.mp hw
  have hk := List.mem_range.mp hk
  match k, hk with
  | 0, _ => exact zx_in2 (i := 21) rfl rfl
  | 1, _ => exact zx_in2 (i := 23) rfl rfl
  | 2, _ => exact zx_in2 (i := 25) rfl rfl
  | 3, _ => exact zx_in2 (i := 27) rfl rfl
  | 4, _ => exact zx_in2 (i := 29) rfl rfl
  | 5, _ => exact zx_in2 (i := 31) rfl rfl
  | 6, _ => exact zx_in2 (i := 33) rfl rfl
  | 7, _ => exact zx_in2 (i := 35) rfl rfl
  | 8, _ => exact zx_in2 (i := 37) rfl rfl
  | 9, _ => exact zx_in2 (i := 39) rfl rfl
  | 10, _ => exact zx_in2 (i := 41) rfl rfl
  | k + 11, h => exact absurd h (by omega)
theorem wu_X9 : ∀ w ∈ u_ws RX9 TX9 35, w ∈ zx_tb := by
  intro w hw
  obtain ⟨k, hk, rfl⟩ := List.mem_map.mp hw
  have hk := List.mem_range.mp hk
  match k, hk with
  | 0, _ => exact zx_in4 (i := 65) rfl rfl
  | 1, _ => exact zx_in4 (i := 67) rfl rfl
  | 2, _ => exact zx_in4 (i := 69) rfl rfl
  | 3, _ => exact zx_in4 (i := 71) rfl rfl
  | 4, _ => exact zx_in4 (i := 73) rfl rfl
  | 5, _ => exact zx_in4 (i := 75) rfl rfl
  | 6, _ => exact zx_in4 (i := 77) rfl rfl
  | 7, _ => exact zx_in4 (i := 79) rfl rfl
  | 8, _ => exact zx_in4 (i := 81) rfl rfl
  | 9, _ => exact zx_in4 (i := 83) rfl rfl
  | 10, _ => exact zx_in4 (i := 85) rfl rfl
  | 11, _ => exact zx_in4 (i := 87) rfl rfl
  | 12, _ => exact zx_in4 (i := 89) rfl rfl
  | 13, _ => exact zx_in4 (i := 91) rfl rfl
  | 14, _ => exact zx_in4 (i := 93) rfl rfl
  | 15, _ => exact zx_in4 (i := 95) rfl rfl
  | 16, _ => exact zx_in4 (i := 97) rfl rfl
  | 17, _ => exact zx_in4 (i := 99) rfl rfl
  | 18, _ => exact zx_in4 (i := 101) rfl rfl
  | 19, _ => exact zx_in4 (i := 103) rfl rfl
  | 20, _ => exact zx_in4 (i := 105) rfl rfl
  | 21, _ => exact zx_in4 (i := 107) rfl rfl
  | 22, _ => exact zx_in4 (i := 109) rfl rfl
  | 23, _ => exact zx_in4 (i := 111) rfl rfl
  | 24, _ => exact zx_in4 (i := 113) rfl rfl
  | 25, _ => exact zx_in4 (i := 115) rfl rfl
  | 26, _ => exact zx_in4 (i := 117) rfl rfl
  | 27, _ => exact zx_in4 (i := 119) rfl rfl
  | 28, _ => exact zx_in4 (i := 121) rfl rfl
  | 29, _ => exact zx_in4 (i := 123) rfl rfl
  | 30, _ => exact zx_in4 (i := 125) rfl rfl
  | 31, _ => exact zx_in4 (i := 127) rfl rfl
  | 32, _ => exact zx_in4 (i := 129) rfl rfl
  | 33, _ => exact zx_in4 (i := 131) rfl rfl
  | 34, _ => exact zx_in4 (i := 133) rfl rfl
  | k + 35, h => exact absurd h (by omega)
