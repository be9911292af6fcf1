/-! ===== the constructor of the desk ===== -/
def dbE (cs : Nat → ClassId) (h j : Nat) : va_E := if j % 2 = 0 then bO (h + j + 1) else cZ cs 0 40
def dF (cs : Nat → ClassId) (h : Nat) (u : cU) (a b j : Nat) : va_E := if j < 163 then wG cs (h + 1) (j - 1) else if j = 163 then cQ cs 4 2 (fun q => if q < a then some (h + 184 + 162 * q) else none) else if j = 164 then cZ cs 2 2 else if j < 174 then hG cs (h + 165) u (j - 165) else if j = 174 then cZ cs 1 12 else if j = 175 then cQ cs 3 10 (fun q => if q < b then some (h + 508 + 2 * q) else none) else if j < 184 then dbE cs h j else if j < 346 then wG cs (h + 184) (j - 184) else if j < 508 then wG cs (h + 346) (j - 346) else dbE cs h j
def dX (h : Nat) : va_E := .inr (4, [.ref (h + 1), .ref (h + 163), .ref (h + 164), .ref (h + 165), .ref (h + 174), .ref (h + 175), .ref (h + 176), .ref (h + 178), .ref (h + 180), .ref (h + 182)])
def dG (cs : Nat → ClassId) (h : Nat) (u : cU) : Nat → va_E := va_up (dF cs h u 2 10) 0 (dX h)
theorem dF_w0 (cs : Nat → ClassId) (h : Nat) (u : cU) (a b j : Nat) (hj : j < 161 + 1) : wG cs (h + 1) j = dF cs h u a b (1 + j) := by
  unfold dF
  rw [if_pos (by omega), Nat.add_sub_cancel_left]
theorem dF_h (cs : Nat → ClassId) (h : Nat) (u : cU) (a b j : Nat) (hj : j < 8 + 1) : hG cs (h + 165) u j = dF cs h u a b (165 + j) := by
  unfold dF
  rw [if_neg (by omega), if_neg (by omega), if_neg (by omega), if_pos (by omega), Nat.add_sub_cancel_left]
theorem dF_w1 (cs : Nat → ClassId) (h : Nat) (u : cU) (a b j : Nat) (hj : j < 161 + 1) : wG cs (h + 184) j = dF cs h u a b (184 + j) := by
  unfold dF
  rw [if_neg (by omega), if_neg (by omega), if_neg (by omega), if_neg (by omega), if_neg (by omega), if_neg (by omega), if_neg (by omega), if_pos (by omega), Nat.add_sub_cancel_left]
theorem dF_w2 (cs : Nat → ClassId) (h : Nat) (u : cU) (a b j : Nat) (hj : j < 161 + 1) : wG cs (h + 346) j = dF cs h u a b (346 + j) := by
  unfold dF
  rw [if_neg (by omega), if_neg (by omega), if_neg (by omega), if_neg (by omega), if_neg (by omega), if_neg (by omega), if_neg (by omega), if_neg (by omega), if_pos (by omega), Nat.add_sub_cancel_left]
theorem dF_e (cs : Nat → ClassId) (h : Nat) (u : cU) (a b j : Nat) (hj : (176 ≤ j ∧ j < 184) ∨ 508 ≤ j) : dF cs h u a b j = dbE cs h j := by
  unfold dF
  rw [if_neg (by omega), if_neg (by omega), if_neg (by omega), if_neg (by omega), if_neg (by omega), if_neg (by omega)]
  rcases hj with q | q
  · rw [if_pos (by omega)]
  · rw [if_neg (by omega), if_neg (by omega), if_neg (by omega)]
theorem dF_b {cs : Nat → ClassId} {h : Nat} {u : cU} {a b k : Nat} (hk : (176 ≤ k ∧ k < 183) ∨ 508 ≤ k) (ho : k % 2 = 0) : ∀ j, j < 1 + 1 → bG cs (h + k) (max 40 2) j = dF cs h u a b (k + j) := fun j hj => by
  rw [dF_e cs h u a b (k + j) (by omega)]
  rcases (show j = 0 ∨ j = 1 by omega) with rfl | rfl
  · unfold bG dbE
    rw [if_pos rfl, if_pos (by omega)]
    rfl
  · unfold bG dbE
    rw [if_neg (by decide), if_neg (by omega)]
    rfl
theorem dF_u (cs : Nat → ClassId) (h : Nat) (u u' : cU) (a b j : Nat) (hj : j < 165) : dF cs h u a b j = dF cs h u' a b j := by
  unfold dF
  by_cases q1 : j < 163
  · rw [if_pos q1, if_pos q1]
  · rw [if_neg q1, if_neg q1]
    by_cases q2 : j = 163
    · rw [if_pos q2, if_pos q2]
    · rw [if_neg q2, if_neg q2, if_pos (by omega), if_pos (by omega)]
theorem dF_a (cs : Nat → ClassId) (h : Nat) (u : cU) (a a' b j : Nat) (hj : j ≠ 163) : dF cs h u a b j = dF cs h u a' b j := by
  unfold dF
  by_cases q1 : j < 163
  · rw [if_pos q1, if_pos q1]
  · rw [if_neg q1, if_neg q1, if_neg hj, if_neg hj]
theorem dF_bb (cs : Nat → ClassId) (h : Nat) (u : cU) (a b b' j : Nat) (hj : j ≠ 175) : dF cs h u a b j = dF cs h u a b' j := by
  unfold dF
  by_cases q1 : j < 163
  · rw [if_pos q1, if_pos q1]
  · rw [if_neg q1, if_neg q1]
    by_cases q2 : j = 163
    · rw [if_pos q2, if_pos q2]
    · rw [if_neg q2, if_neg q2]
      by_cases q3 : j = 164
      · rw [if_pos q3, if_pos q3]
      · rw [if_neg q3, if_neg q3]
        by_cases q4 : j < 174
        · rw [if_pos q4, if_pos q4]
        · rw [if_neg q4, if_neg q4]
          by_cases q5 : j = 174
          · rw [if_pos q5, if_pos q5]
          · rw [if_neg q5, if_neg q5, if_neg hj, if_neg hj]
theorem dF_175 (cs : Nat → ClassId) (h : Nat) (u : cU) (a b : Nat) : dF cs h u a b 175 = cQ cs 3 10 (fun q => if q < b then some (h + 508 + 2 * q) else none) := rfl

set_option maxRecDepth 8000 in
theorem k_X4 (l : Launch) (D : va_G) (cs : Nat → ClassId) (h : Nat) : cM l D cs yX4_init cX4_init 2 5 164 20000 [] (fun _ => .inr (4, [.null, .null, .null, .null, .null, .null, .null, .null, .null, .null])) h 0 527 (fun u => BIs sh2 rf2 u 0 1) (fun u => dG cs h u) := by
  refine c_method (by decide +kernel) rfl (Nat.le_of_ble_eq_true rfl) ?_
  intro p e s m below meth c E hr0 hlk
  refine CG_cg (T0 (dF := dF cs h (fun _ _ => 0) 0 0)) ?_
  refine g_aload E 0 (show decode cX4_init 0 = .ok (.aload_n 0, 1) by decide +kernel) rfl ?_
  refine g_obj E (show decode cX4_init 1 = .ok (.invokespecial 1, 3) by decide +kernel) (m_wck_ok (l := [(Cond.methodLink RX4 1 Lib.objectInit, 71), (Cond.instanceMethod Lib.objectInit, 72), (Cond.code Lib.objectInit ⟨#[0xb1]⟩ 1 none, 73)]) (by decide +kernel)) ⟨Nat.le_of_ble_eq_true rfl, Nat.le_of_ble_eq_true rfl⟩ (Nat.le_of_ble_eq_true rfl) ?_
  refine g_aload E 0 (show decode cX4_init 4 = .ok (.aload_n 0, 1) by decide +kernel) rfl ?_
  refine g_new E (ci := 3) (q := (RX3, TX3, 8)) (fs := [.int 0, .int 0, .int 0, .int 0, .null, .null, .null, .int 0]) rfl (show decode cX4_init 5 = .ok (.new 7, 3) by decide +kernel) (m_wck_ok (l := [(Cond.classLink RX4 7 RX3, 74), (Cond.instantiable RX3 8, 75), (Cond.initialized RX3, 56)]) (by decide +kernel)) (fun j hj => by have hj : j < 8 := hj; rcases (show j = 0 ∨ j = 1 ∨ j = 2 ∨ j = 3 ∨ j = 4 ∨ j = 5 ∨ j = 6 ∨ j = 7 by omega) with rfl | rfl | rfl | rfl | rfl | rfl | rfl | rfl <;> rfl) ⟨Nat.le_of_ble_eq_true rfl, Nat.le_of_ble_eq_true rfl⟩ ?_
  refine g_dup E (show decode cX4_init 8 = .ok (.dup, 1) by decide +kernel) ?_
  refine g_callN E (k_X3 l D cs (h + 1)) (show decode cX4_init 9 = .ok (.invokespecial 9, 3) by decide +kernel) rfl (m_wck_ok (l := [(Cond.instanceMethod yX3_init, 77), (Cond.initialized RX3, 56), (Cond.code yX3_init cX3_init 1 none, 78)]) (by decide +kernel)) ⟨Nat.le_of_ble_eq_true rfl, Nat.le_of_ble_eq_true rfl⟩ ⟨Nat.le_of_ble_eq_true rfl, Nat.le_of_ble_eq_true rfl⟩ (Nat.le_of_ble_eq_true rfl) (fun u1 hu1 => ?_)
  refine CG_cg (G := va_up (dF cs h (fun _ _ => 0) 0 0) 0 _) (fun j hj => T3 (k := 1) (mc := 161) (by decide) (fun j hj => dF_w0 cs h _ 0 0 j hj) j hj) ?_
  refine g_put E (ci := 4) (k := 0) (q := (RX4, TX4, 10)) 0 (show decode cX4_init 12 = .ok (.putfield 10, 3) by decide +kernel) rfl (by decide) rfl rfl (by decide) (m_one 204 (by decide +kernel)) (Or.inl ⟨rfl, rfl⟩) rfl rfl (Nat.le_of_ble_eq_true rfl) ?_
  refine CG_cg (fun j _ => T1 j) ?_
  refine g_aload E 0 (show decode cX4_init 15 = .ok (.aload_n 0, 1) by decide +kernel) rfl ?_
  refine g_iconst E (v := 2) (show decode cX4_init 16 = .ok (.iconst 2, 1) by decide +kernel) (by decide +kernel) ?_
  refine g_newq E (C := RX3) (N' := 2) 4 (show decode cX4_init 17 = .ok (.anewarray 7, 3) by decide +kernel) rfl (m_one 74 (by decide +kernel)) E.2.2.2.2.2.2.2.2.2.2.1 rfl (by decide) ⟨Nat.le_of_ble_eq_true rfl, Nat.le_of_ble_eq_true rfl⟩ ?_
  refine CG_cg (fun j _ => T2 (by decide) rfl j) ?_
  refine g_put E (ci := 4) (k := 1) (q := (RX4, TX4, 10)) 0 (show decode cX4_init 20 = .ok (.putfield 16, 3) by decide +kernel) rfl (by decide) rfl rfl (by decide) (m_one 205 (by decide +kernel)) (Or.inl ⟨rfl, rfl⟩) rfl rfl (Nat.le_of_ble_eq_true rfl) ?_
  refine CG_cg (fun j _ => T1 j) ?_
  refine g_aload E 0 (show decode cX4_init 23 = .ok (.aload_n 0, 1) by decide +kernel) rfl ?_
  refine g_iconst E (v := 2) (show decode cX4_init 24 = .ok (.iconst 2, 1) by decide +kernel) (by decide +kernel) ?_
  refine g_newa E (ty := .boolean) (N' := 2) 2 (show decode cX4_init 25 = .ok (.newarray .boolean, 2) by decide +kernel) rfl rfl (m_one 201 (by decide +kernel)) (fun _ => rfl) rfl (by decide) (by decide) ⟨Nat.le_of_ble_eq_true rfl, Nat.le_of_ble_eq_true rfl⟩ ?_
  refine CG_cg (fun j _ => T2 (by decide) rfl j) ?_
  refine g_put E (ci := 4) (k := 2) (q := (RX4, TX4, 10)) 0 (show decode cX4_init 27 = .ok (.putfield 20, 3) by decide +kernel) rfl (by decide) rfl rfl (by decide) (m_one 206 (by decide +kernel)) (Or.inl ⟨rfl, rfl⟩) rfl rfl (Nat.le_of_ble_eq_true rfl) ?_
  refine CG_cg (fun j _ => T1 j) ?_
  refine g_aload E 0 (show decode cX4_init 30 = .ok (.aload_n 0, 1) by decide +kernel) rfl ?_
  refine g_new E (ci := 1) (q := (RX1, TX1, 5)) (fs := [.null, .null, .null, .null, .int 0]) rfl (show decode cX4_init 31 = .ok (.new 24, 3) by decide +kernel) (m_wck_ok (l := [(Cond.classLink RX4 24 RX1, 167), (Cond.instantiable RX1 5, 168), (Cond.initialized RX1, 61)]) (by decide +kernel)) (fun j hj => by have hj : j < 5 := hj; rcases (show j = 0 ∨ j = 1 ∨ j = 2 ∨ j = 3 ∨ j = 4 by omega) with rfl | rfl | rfl | rfl | rfl <;> rfl) ⟨Nat.le_of_ble_eq_true rfl, Nat.le_of_ble_eq_true rfl⟩ ?_
  refine g_dup E (show decode cX4_init 34 = .ok (.dup, 1) by decide +kernel) ?_
  refine g_call E (nA := 0) (k_X1 l D cs (h + 165)) (show decode cX4_init 35 = .ok (.invokespecial 26, 3) by decide +kernel) rfl (m_wck_ok (l := [(Cond.methodLink RX4 26 yX1_init, 169), (Cond.instanceMethod yX1_init, 170), (Cond.initialized RX1, 61), (Cond.code yX1_init cX1_init 1 none, 171)]) (by decide +kernel)) rfl rfl ⟨by decide +kernel, by decide +kernel, by decide +kernel⟩ ⟨Nat.le_of_ble_eq_true rfl, Nat.le_of_ble_eq_true rfl⟩ ⟨Nat.le_of_ble_eq_true rfl, Nat.le_of_ble_eq_true rfl⟩ (Nat.le_of_ble_eq_true rfl) rfl (fun u hu => ?_)
  refine CG_cg (G := va_up (dF cs h u 0 0) 0 _) (fun j hj => T3' (k := 165) (mc := 8) (by decide) (fun j hj => dF_u cs h _ u 0 0 j hj) (fun j hj => dF_h cs h u 0 0 j hj) j hj) ?_
  refine g_put E (ci := 4) (k := 3) (q := (RX4, TX4, 10)) 0 (show decode cX4_init 38 = .ok (.putfield 27, 3) by decide +kernel) rfl (by decide) rfl rfl (by decide) (m_one 207 (by decide +kernel)) (Or.inl ⟨rfl, rfl⟩) rfl rfl (Nat.le_of_ble_eq_true rfl) ?_
  refine CG_cg (fun j _ => T1 j) ?_
  refine g_aload E 0 (show decode cX4_init 41 = .ok (.aload_n 0, 1) by decide +kernel) rfl ?_
  refine g_bipush E (v := 12) (show decode cX4_init 42 = .ok (.bipush 12, 2) by decide +kernel) (by decide +kernel) ?_
  refine g_newa E (ty := .long) (N' := 12) 1 (show decode cX4_init 44 = .ok (.newarray .long, 2) by decide +kernel) rfl rfl (m_one 108 (by decide +kernel)) (fun _ => rfl) rfl (by decide) (by decide) ⟨Nat.le_of_ble_eq_true rfl, Nat.le_of_ble_eq_true rfl⟩ ?_
  refine CG_cg (fun j _ => T2 (by decide) rfl j) ?_
  refine g_put E (ci := 4) (k := 4) (q := (RX4, TX4, 10)) 0 (show decode cX4_init 46 = .ok (.putfield 31, 3) by decide +kernel) rfl (by decide) rfl rfl (by decide) (m_one 208 (by decide +kernel)) (Or.inl ⟨rfl, rfl⟩) rfl rfl (Nat.le_of_ble_eq_true rfl) ?_
  refine CG_cg (fun j _ => T1 j) ?_
  refine g_aload E 0 (show decode cX4_init 49 = .ok (.aload_n 0, 1) by decide +kernel) rfl ?_
  refine g_bipush E (v := 10) (show decode cX4_init 50 = .ok (.bipush 10, 2) by decide +kernel) (by decide +kernel) ?_
  refine g_newq E (C := RX0) (N' := 10) 3 (show decode cX4_init 52 = .ok (.anewarray 35, 3) by decide +kernel) rfl (m_one 202 (by decide +kernel)) E.2.2.2.2.2.2.2.2.2.1 rfl (by decide) ⟨Nat.le_of_ble_eq_true rfl, Nat.le_of_ble_eq_true rfl⟩ ?_
  refine CG_cg (fun j _ => T2 (by decide) rfl j) ?_
  refine g_put E (ci := 4) (k := 5) (q := (RX4, TX4, 10)) 0 (show decode cX4_init 55 = .ok (.putfield 37, 3) by decide +kernel) rfl (by decide) rfl rfl (by decide) (m_one 209 (by decide +kernel)) (Or.inl ⟨rfl, rfl⟩) rfl rfl (Nat.le_of_ble_eq_true rfl) ?_
  refine CG_cg (fun j _ => T1 j) ?_
  refine g_aload E 0 (show decode cX4_init 58 = .ok (.aload_n 0, 1) by decide +kernel) rfl ?_
  refine g_new E (ci := 0) (q := (RX0, TX0, 3)) (fs := [.null, .int 0, .int 0]) rfl (show decode cX4_init 59 = .ok (.new 35, 3) by decide +kernel) (m_wck_ok (l := [(Cond.classLink RX4 35 RX0, 202), (Cond.instantiable RX0 3, 88), (Cond.initialized RX0, 58)]) (by decide +kernel)) (fun j hj => by have hj : j < 3 := hj; rcases (show j = 0 ∨ j = 1 ∨ j = 2 by omega) with rfl | rfl | rfl <;> rfl) ⟨Nat.le_of_ble_eq_true rfl, Nat.le_of_ble_eq_true rfl⟩ ?_
  refine g_dup E (show decode cX4_init 62 = .ok (.dup, 1) by decide +kernel) ?_
  refine g_bipush E (v := 40) (show decode cX4_init 63 = .ok (.bipush 40, 2) by decide +kernel) (by decide +kernel) ?_
  refine g_call E (nA := 1) (k_X0 l D cs (h + 176) 40 (by decide)) (show decode cX4_init 65 = .ok (.invokespecial 41, 3) by decide +kernel) rfl (m_wck_ok (l := [(Cond.methodLink RX4 41 yX0_init, 203), (Cond.instanceMethod yX0_init, 90), (Cond.initialized RX0, 58), (Cond.code yX0_init cX0_init 2 none, 91)]) (by decide +kernel)) rfl rfl ⟨by decide +kernel, by decide +kernel, by decide +kernel⟩ ⟨Nat.le_of_ble_eq_true rfl, Nat.le_of_ble_eq_true rfl⟩ ⟨Nat.le_of_ble_eq_true rfl, Nat.le_of_ble_eq_true rfl⟩ (Nat.le_of_ble_eq_true rfl) rfl (fun _u h_u => ?_)
  refine CG_cg (G := va_up (dF cs h u 0 0) 0 _) (fun j hj => T3 (k := 176) (mc := 1) (by decide) (dF_b (by decide) (by decide)) j hj) ?_
  refine g_put E (ci := 4) (k := 6) (q := (RX4, TX4, 10)) 0 (show decode cX4_init 68 = .ok (.putfield 44, 3) by decide +kernel) rfl (by decide) rfl rfl (by decide) (m_one 210 (by decide +kernel)) (Or.inl ⟨rfl, rfl⟩) rfl rfl (Nat.le_of_ble_eq_true rfl) ?_
  refine CG_cg (fun j _ => T1 j) ?_
  refine g_aload E 0 (show decode cX4_init 71 = .ok (.aload_n 0, 1) by decide +kernel) rfl ?_
  refine g_new E (ci := 0) (q := (RX0, TX0, 3)) (fs := [.null, .int 0, .int 0]) rfl (show decode cX4_init 72 = .ok (.new 35, 3) by decide +kernel) (m_wck_ok (l := [(Cond.classLink RX4 35 RX0, 202), (Cond.instantiable RX0 3, 88), (Cond.initialized RX0, 58)]) (by decide +kernel)) (fun j hj => by have hj : j < 3 := hj; rcases (show j = 0 ∨ j = 1 ∨ j = 2 by omega) with rfl | rfl | rfl <;> rfl) ⟨Nat.le_of_ble_eq_true rfl, Nat.le_of_ble_eq_true rfl⟩ ?_
  refine g_dup E (show decode cX4_init 75 = .ok (.dup, 1) by decide +kernel) ?_
  refine g_bipush E (v := 40) (show decode cX4_init 76 = .ok (.bipush 40, 2) by decide +kernel) (by decide +kernel) ?_
  refine g_call E (nA := 1) (k_X0 l D cs (h + 178) 40 (by decide)) (show decode cX4_init 78 = .ok (.invokespecial 41, 3) by decide +kernel) rfl (m_wck_ok (l := [(Cond.methodLink RX4 41 yX0_init, 203), (Cond.instanceMethod yX0_init, 90), (Cond.initialized RX0, 58), (Cond.code yX0_init cX0_init 2 none, 91)]) (by decide +kernel)) rfl rfl ⟨by decide +kernel, by decide +kernel, by decide +kernel⟩ ⟨Nat.le_of_ble_eq_true rfl, Nat.le_of_ble_eq_true rfl⟩ ⟨Nat.le_of_ble_eq_true rfl, Nat.le_of_ble_eq_true rfl⟩ (Nat.le_of_ble_eq_true rfl) rfl (fun _u h_u => ?_)
  refine CG_cg (G := va_up (dF cs h u 0 0) 0 _) (fun j hj => T3 (k := 178) (mc := 1) (by decide) (dF_b (by decide) (by decide)) j hj) ?_
  refine g_put E (ci := 4) (k := 7) (q := (RX4, TX4, 10)) 0 (show decode cX4_init 81 = .ok (.putfield 48, 3) by decide +kernel) rfl (by decide) rfl rfl (by decide) (m_one 211 (by decide +kernel)) (Or.inl ⟨rfl, rfl⟩) rfl rfl (Nat.le_of_ble_eq_true rfl) ?_
  refine CG_cg (fun j _ => T1 j) ?_
  refine g_aload E 0 (show decode cX4_init 84 = .ok (.aload_n 0, 1) by decide +kernel) rfl ?_
  refine g_new E (ci := 0) (q := (RX0, TX0, 3)) (fs := [.null, .int 0, .int 0]) rfl (show decode cX4_init 85 = .ok (.new 35, 3) by decide +kernel) (m_wck_ok (l := [(Cond.classLink RX4 35 RX0, 202), (Cond.instantiable RX0 3, 88), (Cond.initialized RX0, 58)]) (by decide +kernel)) (fun j hj => by have hj : j < 3 := hj; rcases (show j = 0 ∨ j = 1 ∨ j = 2 by omega) with rfl | rfl | rfl <;> rfl) ⟨Nat.le_of_ble_eq_true rfl, Nat.le_of_ble_eq_true rfl⟩ ?_
  refine g_dup E (show decode cX4_init 88 = .ok (.dup, 1) by decide +kernel) ?_
  refine g_bipush E (v := 40) (show decode cX4_init 89 = .ok (.bipush 40, 2) by decide +kernel) (by decide +kernel) ?_
  refine g_call E (nA := 1) (k_X0 l D cs (h + 180) 40 (by decide)) (show decode cX4_init 91 = .ok (.invokespecial 41, 3) by decide +kernel) rfl (m_wck_ok (l := [(Cond.methodLink RX4 41 yX0_init, 203), (Cond.instanceMethod yX0_init, 90), (Cond.initialized RX0, 58), (Cond.code yX0_init cX0_init 2 none, 91)]) (by decide +kernel)) rfl rfl ⟨by decide +kernel, by decide +kernel, by decide +kernel⟩ ⟨Nat.le_of_ble_eq_true rfl, Nat.le_of_ble_eq_true rfl⟩ ⟨Nat.le_of_ble_eq_true rfl, Nat.le_of_ble_eq_true rfl⟩ (Nat.le_of_ble_eq_true rfl) rfl (fun _u h_u => ?_)
  refine CG_cg (G := va_up (dF cs h u 0 0) 0 _) (fun j hj => T3 (k := 180) (mc := 1) (by decide) (dF_b (by decide) (by decide)) j hj) ?_
  refine g_put E (ci := 4) (k := 8) (q := (RX4, TX4, 10)) 0 (show decode cX4_init 94 = .ok (.putfield 51, 3) by decide +kernel) rfl (by decide) rfl rfl (by decide) (m_one 212 (by decide +kernel)) (Or.inl ⟨rfl, rfl⟩) rfl rfl (Nat.le_of_ble_eq_true rfl) ?_
  refine CG_cg (fun j _ => T1 j) ?_
  refine g_aload E 0 (show decode cX4_init 97 = .ok (.aload_n 0, 1) by decide +kernel) rfl ?_
  refine g_new E (ci := 0) (q := (RX0, TX0, 3)) (fs := [.null, .int 0, .int 0]) rfl (show decode cX4_init 98 = .ok (.new 35, 3) by decide +kernel) (m_wck_ok (l := [(Cond.classLink RX4 35 RX0, 202), (Cond.instantiable RX0 3, 88), (Cond.initialized RX0, 58)]) (by decide +kernel)) (fun j hj => by have hj : j < 3 := hj; rcases (show j = 0 ∨ j = 1 ∨ j = 2 by omega) with rfl | rfl | rfl <;> rfl) ⟨Nat.le_of_ble_eq_true rfl, Nat.le_of_ble_eq_true rfl⟩ ?_
  refine g_dup E (show decode cX4_init 101 = .ok (.dup, 1) by decide +kernel) ?_
  refine g_bipush E (v := 40) (show decode cX4_init 102 = .ok (.bipush 40, 2) by decide +kernel) (by decide +kernel) ?_
  refine g_call E (nA := 1) (k_X0 l D cs (h + 182) 40 (by decide)) (show decode cX4_init 104 = .ok (.invokespecial 41, 3) by decide +kernel) rfl (m_wck_ok (l := [(Cond.methodLink RX4 41 yX0_init, 203), (Cond.instanceMethod yX0_init, 90), (Cond.initialized RX0, 58), (Cond.code yX0_init cX0_init 2 none, 91)]) (by decide +kernel)) rfl rfl ⟨by decide +kernel, by decide +kernel, by decide +kernel⟩ ⟨Nat.le_of_ble_eq_true rfl, Nat.le_of_ble_eq_true rfl⟩ ⟨Nat.le_of_ble_eq_true rfl, Nat.le_of_ble_eq_true rfl⟩ (Nat.le_of_ble_eq_true rfl) rfl (fun _u h_u => ?_)
  refine CG_cg (G := va_up (dF cs h u 0 0) 0 _) (fun j hj => T3 (k := 182) (mc := 1) (by decide) (dF_b (by decide) (by decide)) j hj) ?_
  refine g_put E (ci := 4) (k := 9) (q := (RX4, TX4, 10)) 0 (show decode cX4_init 107 = .ok (.putfield 54, 3) by decide +kernel) rfl (by decide) rfl rfl (by decide) (m_one 213 (by decide +kernel)) (Or.inl ⟨rfl, rfl⟩) rfl rfl (Nat.le_of_ble_eq_true rfl) ?_
  refine CG_cg (fun j _ => T1 j) ?_
  refine g_iconst E (v := 0) (show decode cX4_init 110 = .ok (.iconst 0, 1) by decide +kernel) (by decide +kernel) ?_
  refine g_istore E (lv' := [(1, .int 0), (0, .ref (h + 0))]) (show decode cX4_init 111 = .ok (.istore_n 1, 1) by decide +kernel) (by decide) rfl ?_
  refine CG_cg (G := va_up (dF cs h u 0 0) 0 (dX h)) (fun _ _ => rfl) ?_
  refine CG_sl (sl' := 5000) (by decide) ?_
  have loop : ∀ f b, b ≤ 10 → f = 10 - b → CG p l e (cR 5 164 527 20000) s m (Value.ref (h + 0) :: []).toArray below meth c (MQ below (cQc D h (527 + 0 + 1) (fun u => BIs sh2 rf2 u 0 1) (fun u => dG cs h u)) (Value.ref (h + 0) :: []).toArray s 527 20000 (fun q => h ≤ q)) D h 0 2 138 (507 + 2 * b) (va_up (dF cs h u 2 b) 0 (dX h)) (15000 + 43 * b) [(1, .int (nI b)), (0, .ref (h + 0))] [] := by
    intro f
    induction f with
    | zero =>
      intro b hb hf
      obtain rfl : b = 10 := by omega
      refine g_iload E 0 (show decode cX4_init 138 = .ok (.iload_n 1, 1) by decide +kernel) rfl ?_
      refine g_aload E 1 (show decode cX4_init 139 = .ok (.aload_n 0, 1) by decide +kernel) rfl ?_
      refine g_get E (ci := 4) (k := 5) (q := (RX4, TX4, 10)) 0 (show decode cX4_init 140 = .ok (.getfield 37, 3) by decide +kernel) rfl (by omega) rfl rfl (by decide) (m_one 209 (by decide +kernel)) rfl ?_
      refine g_alen E (N := 10) (C := RX0) 175 3 (show decode cX4_init 143 = .ok (.arraylength, 1) by decide +kernel) (by omega) rfl rfl rfl ?_
      refine g_icmpge E (tgt := 168) (show decode cX4_init 144 = .ok (.if_icmp .ge 24, 3) by decide +kernel) (by decide) (fun _ => ?_) (fun q => absurd (nI_le (a := 10) (b := 10) (by decide) (by decide)) q)
      exact g_ret u E hr0 hlk (show decode cX4_init 168 = .ok (.return_, 1) by decide +kernel) rfl (by decide) hu (fun _ _ => rfl)
    | succ f ih =>
      intro b hb hf
      refine g_iload E 0 (show decode cX4_init 138 = .ok (.iload_n 1, 1) by decide +kernel) rfl ?_
      refine g_aload E 1 (show decode cX4_init 139 = .ok (.aload_n 0, 1) by decide +kernel) rfl ?_
      refine g_get E (ci := 4) (k := 5) (q := (RX4, TX4, 10)) 0 (show decode cX4_init 140 = .ok (.getfield 37, 3) by decide +kernel) rfl (by omega) rfl rfl (by decide) (m_one 209 (by decide +kernel)) rfl ?_
      refine g_alen E (N := 10) (C := RX0) 175 3 (show decode cX4_init 143 = .ok (.arraylength, 1) by decide +kernel) (by omega) rfl rfl rfl ?_
      refine g_icmpge E (tgt := 168) (show decode cX4_init 144 = .ok (.if_icmp .ge 24, 3) by decide +kernel) (by decide) (fun q => absurd q (nI_ge (by omega) (by decide))) (fun _ => ?_)
      refine g_aload E 1 (show decode cX4_init 147 = .ok (.aload_n 0, 1) by decide +kernel) rfl ?_
      refine g_get E (ci := 4) (k := 5) (q := (RX4, TX4, 10)) 0 (show decode cX4_init 148 = .ok (.getfield 37, 3) by decide +kernel) rfl (by omega) rfl rfl (by decide) (m_one 209 (by decide +kernel)) rfl ?_
      refine g_iload E 0 (show decode cX4_init 151 = .ok (.iload_n 1, 1) by decide +kernel) rfl ?_
      refine g_new E (ci := 0) (q := (RX0, TX0, 3)) (fs := [.null, .int 0, .int 0]) rfl (show decode cX4_init 152 = .ok (.new 35, 3) by decide +kernel) (m_wck_ok (l := [(Cond.classLink RX4 35 RX0, 202), (Cond.instantiable RX0 3, 88), (Cond.initialized RX0, 58)]) (by decide +kernel)) (fun j hj => by have hj : j < 3 := hj; rcases (show j = 0 ∨ j = 1 ∨ j = 2 by omega) with rfl | rfl | rfl <;> rfl) ⟨by show 507 + 2 * b + 1 ≤ 527; omega, by show 15000 + 43 * b + 3 ≤ 20000; omega⟩ ?_
      refine g_dup E (show decode cX4_init 155 = .ok (.dup, 1) by decide +kernel) ?_
      refine g_bipush E (v := 40) (show decode cX4_init 156 = .ok (.bipush 40, 2) by decide +kernel) (by decide +kernel) ?_
      refine g_call E (nA := 1) (k_X0 l D cs (h + (507 + 2 * b + 0 + 1)) 40 (by decide)) (show decode cX4_init 158 = .ok (.invokespecial 41, 3) by decide +kernel) (va_up_self _ _ _) (m_wck_ok (l := [(Cond.methodLink RX4 41 yX0_init, 203), (Cond.instanceMethod yX0_init, 90), (Cond.initialized RX0, 58), (Cond.code yX0_init cX0_init 2 none, 91)]) (by decide +kernel)) rfl rfl ⟨by decide +kernel, by decide +kernel, by decide +kernel⟩ ⟨Nat.le_of_ble_eq_true rfl, Nat.le_of_ble_eq_true rfl⟩ ⟨by show 507 + 2 * b + 1 + 1 ≤ 527; omega, by show 15000 + 43 * b + 3 + 40 ≤ 20000; omega⟩ (Nat.le_of_ble_eq_true rfl) rfl (fun _u h_u => ?_)
      refine CG_cg (G := va_up (dF cs h u 2 b) 0 (dX h)) (fun j hj => T3 (k := 507 + 2 * b + 0 + 1) (mc := 1) (by omega) (dF_b (by omega) (by omega)) j (by omega)) ?_
      refine g_astq E (ci := 0) (q := (RX0, TX0, 3)) (N := 10) (x := b) 175 3 (507 + 2 * b + 0 + 1) (show decode cX4_init 161 = .ok (.aastore, 1) by decide +kernel) (by omega) rfl rfl rfl (by omega) (by rw [va_up_ne _ _ (by omega), dF_e cs h u 2 b _ (by omega)]; unfold dbE; rw [if_pos (by omega)]; rfl) rfl rfl (by omega) (by decide) ?_
      refine CG_cg (G := va_up (dF cs h u 2 (b + 1)) 0 (dX h)) (fun j _ => T4 (by decide) ?_ (fun i hi => dF_bb cs h u 2 b (b + 1) i hi) j) ?_
      · rw [dF_175]
        congr 1
        funext q
        unfold va_up
        by_cases z : q = b
        · rw [if_pos z, if_pos (by omega), z]
          congr 1
          omega
        · rw [if_neg z]
          show (if q < b then some (h + 508 + 2 * q) else none) = if q < b + 1 then some (h + 508 + 2 * q) else none
          by_cases z2 : q < b
          · rw [if_pos z2, if_pos (by omega)]
          · rw [if_neg z2, if_neg (by omega)]
      refine g_iinc E (lv' := [(1, .int (nI (b + 1))), (0, .ref (h + 0))]) 0 (show decode cX4_init 162 = .ok (.iinc 1 1, 3) by decide +kernel) rfl (by rw [← nI_1 b]; rfl) (by decide) rfl ?_
      refine g_goto E (tgt := 138) (show decode cX4_init 165 = .ok (.goto (-27), 3) by decide +kernel) (by decide) ?_
      have hk := ih (b + 1) (by omega) (by omega)
      rw [show 507 + 2 * (b + 1) = 507 + 2 * b + 1 + 1 by omega, show 15000 + 43 * (b + 1) = 15000 + 43 * b + 3 + 40 by omega] at hk
      exact hk
  refine g_iload E 0 (show decode cX4_init 112 = .ok (.iload_n 1, 1) by decide +kernel) rfl ?_
  refine g_iconst E (v := 2) (show decode cX4_init 113 = .ok (.iconst 2, 1) by decide +kernel) (by decide +kernel) ?_
  refine g_icmpge E (tgt := 136) (show decode cX4_init 114 = .ok (.if_icmp .ge 22, 3) by decide +kernel) (by decide) (fun q => absurd q (by decide)) (fun _ => ?_)
  refine g_aload E 1 (show decode cX4_init 117 = .ok (.aload_n 0, 1) by decide +kernel) rfl ?_
  refine g_get E (ci := 4) (k := 1) (q := (RX4, TX4, 10)) 0 (show decode cX4_init 118 = .ok (.getfield 16, 3) by decide +kernel) rfl (by decide) rfl rfl (by decide) (m_one 205 (by decide +kernel)) rfl ?_
  refine g_iload E 0 (show decode cX4_init 121 = .ok (.iload_n 1, 1) by decide +kernel) rfl ?_
  refine g_new E (ci := 3) (q := (RX3, TX3, 8)) (fs := [.int 0, .int 0, .int 0, .int 0, .null, .null, .null, .int 0]) rfl (show decode cX4_init 122 = .ok (.new 7, 3) by decide +kernel) (m_wck_ok (l := [(Cond.classLink RX4 7 RX3, 74), (Cond.instantiable RX3 8, 75), (Cond.initialized RX3, 56)]) (by decide +kernel)) (fun j hj => by have hj : j < 8 := hj; rcases (show j = 0 ∨ j = 1 ∨ j = 2 ∨ j = 3 ∨ j = 4 ∨ j = 5 ∨ j = 6 ∨ j = 7 by omega) with rfl | rfl | rfl | rfl | rfl | rfl | rfl | rfl <;> rfl) ⟨Nat.le_of_ble_eq_true rfl, Nat.le_of_ble_eq_true rfl⟩ ?_
  refine g_dup E (show decode cX4_init 125 = .ok (.dup, 1) by decide +kernel) ?_
  refine g_callN E (k_X3 l D cs (h + 184)) (show decode cX4_init 126 = .ok (.invokespecial 9, 3) by decide +kernel) rfl (m_wck_ok (l := [(Cond.instanceMethod yX3_init, 77), (Cond.initialized RX3, 56), (Cond.code yX3_init cX3_init 1 none, 78)]) (by decide +kernel)) ⟨Nat.le_of_ble_eq_true rfl, Nat.le_of_ble_eq_true rfl⟩ ⟨Nat.le_of_ble_eq_true rfl, Nat.le_of_ble_eq_true rfl⟩ (Nat.le_of_ble_eq_true rfl) (fun _u h_u => ?_)
  refine CG_cg (G := va_up (dF cs h u 0 0) 0 (dX h)) (fun j hj => T3 (k := 184) (mc := 161) (by decide) (fun j hj => dF_w1 cs h u 0 0 j hj) j hj) ?_
  refine g_astq E (ci := 3) (q := (RX3, TX3, 8)) (N := 2) (x := 0) 163 4 184 (show decode cX4_init 129 = .ok (.aastore, 1) by decide +kernel) (by decide) rfl rfl rfl (by decide) rfl rfl rfl (by decide) (by decide) ?_
  refine CG_cg (G := va_up (dF cs h u 1 0) 0 (dX h)) (fun j _ => T4 (by decide) ?_ (fun i hi => dF_a cs h u 0 1 0 i hi) j) ?_
  · show cQ cs 4 2 _ = cQ cs 4 2 _
    congr 1
    funext q
    unfold va_up
    show (if q = 0 then _ else if q < 0 then some (h + 184 + 162 * q) else none) = if q < 1 then some (h + 184 + 162 * q) else none
    by_cases z : q = 0
    · rw [if_pos z, if_pos (by omega), z]
    · rw [if_neg z]
      by_cases z2 : q < 0
      · rw [if_pos z2, if_pos (by omega)]
      · rw [if_neg z2, if_neg (by omega)]
  refine g_iinc E (lv' := [(1, .int 1), (0, .ref (h + 0))]) 0 (show decode cX4_init 130 = .ok (.iinc 1 1, 3) by decide +kernel) rfl (by decide) (by decide) rfl ?_
  refine g_goto E (tgt := 112) (show decode cX4_init 133 = .ok (.goto (-21), 3) by decide +kernel) (by decide) ?_
  refine g_iload E 0 (show decode cX4_init 112 = .ok (.iload_n 1, 1) by decide +kernel) rfl ?_
  refine g_iconst E (v := 2) (show decode cX4_init 113 = .ok (.iconst 2, 1) by decide +kernel) (by decide +kernel) ?_
  refine g_icmpge E (tgt := 136) (show decode cX4_init 114 = .ok (.if_icmp .ge 22, 3) by decide +kernel) (by decide) (fun q => absurd q (by decide)) (fun _ => ?_)
  refine g_aload E 1 (show decode cX4_init 117 = .ok (.aload_n 0, 1) by decide +kernel) rfl ?_
  refine g_get E (ci := 4) (k := 1) (q := (RX4, TX4, 10)) 0 (show decode cX4_init 118 = .ok (.getfield 16, 3) by decide +kernel) rfl (by decide) rfl rfl (by decide) (m_one 205 (by decide +kernel)) rfl ?_
  refine g_iload E 0 (show decode cX4_init 121 = .ok (.iload_n 1, 1) by decide +kernel) rfl ?_
  refine g_new E (ci := 3) (q := (RX3, TX3, 8)) (fs := [.int 0, .int 0, .int 0, .int 0, .null, .null, .null, .int 0]) rfl (show decode cX4_init 122 = .ok (.new 7, 3) by decide +kernel) (m_wck_ok (l := [(Cond.classLink RX4 7 RX3, 74), (Cond.instantiable RX3 8, 75), (Cond.initialized RX3, 56)]) (by decide +kernel)) (fun j hj => by have hj : j < 8 := hj; rcases (show j = 0 ∨ j = 1 ∨ j = 2 ∨ j = 3 ∨ j = 4 ∨ j = 5 ∨ j = 6 ∨ j = 7 by omega) with rfl | rfl | rfl | rfl | rfl | rfl | rfl | rfl <;> rfl) ⟨Nat.le_of_ble_eq_true rfl, Nat.le_of_ble_eq_true rfl⟩ ?_
  refine g_dup E (show decode cX4_init 125 = .ok (.dup, 1) by decide +kernel) ?_
  refine g_callN E (k_X3 l D cs (h + 346)) (show decode cX4_init 126 = .ok (.invokespecial 9, 3) by decide +kernel) rfl (m_wck_ok (l := [(Cond.instanceMethod yX3_init, 77), (Cond.initialized RX3, 56), (Cond.code yX3_init cX3_init 1 none, 78)]) (by decide +kernel)) ⟨Nat.le_of_ble_eq_true rfl, Nat.le_of_ble_eq_true rfl⟩ ⟨Nat.le_of_ble_eq_true rfl, Nat.le_of_ble_eq_true rfl⟩ (Nat.le_of_ble_eq_true rfl) (fun _u h_u => ?_)
  refine CG_cg (G := va_up (dF cs h u 1 0) 0 (dX h)) (fun j hj => T3 (k := 346) (mc := 161) (by decide) (fun j hj => dF_w2 cs h u 1 0 j hj) j hj) ?_
  refine g_astq E (ci := 3) (q := (RX3, TX3, 8)) (N := 2) (x := 1) 163 4 346 (show decode cX4_init 129 = .ok (.aastore, 1) by decide +kernel) (by decide) rfl rfl rfl (by decide) rfl rfl rfl (by decide) (by decide) ?_
  refine CG_cg (G := va_up (dF cs h u 2 0) 0 (dX h)) (fun j _ => T4 (by decide) ?_ (fun i hi => dF_a cs h u 1 2 0 i hi) j) ?_
  · show cQ cs 4 2 _ = cQ cs 4 2 _
    congr 1
    funext q
    unfold va_up
    show (if q = 1 then _ else if q < 1 then some (h + 184 + 162 * q) else none) = if q < 2 then some (h + 184 + 162 * q) else none
    by_cases z : q = 1
    · rw [if_pos z, if_pos (by omega), z]
    · rw [if_neg z]
      by_cases z2 : q < 1
      · rw [if_pos z2, if_pos (by omega)]
      · rw [if_neg z2, if_neg (by omega)]
  refine g_iinc E (lv' := [(1, .int 2), (0, .ref (h + 0))]) 0 (show decode cX4_init 130 = .ok (.iinc 1 1, 3) by decide +kernel) rfl (by decide) (by decide) rfl ?_
  refine g_goto E (tgt := 112) (show decode cX4_init 133 = .ok (.goto (-21), 3) by decide +kernel) (by decide) ?_
  refine g_iload E 0 (show decode cX4_init 112 = .ok (.iload_n 1, 1) by decide +kernel) rfl ?_
  refine g_iconst E (v := 2) (show decode cX4_init 113 = .ok (.iconst 2, 1) by decide +kernel) (by decide +kernel) ?_
  refine g_icmpge E (tgt := 136) (show decode cX4_init 114 = .ok (.if_icmp .ge 22, 3) by decide +kernel) (by decide) (fun _ => ?_) (fun q => absurd (by decide) q)
  refine g_iconst E (v := 0) (show decode cX4_init 136 = .ok (.iconst 0, 1) by decide +kernel) (by decide +kernel) ?_
  refine g_istore E (lv' := [(1, .int 0), (0, .ref (h + 0))]) (show decode cX4_init 137 = .ok (.istore_n 1, 1) by decide +kernel) (by decide) rfl ?_
  refine CG_sl (sl' := 15000) (by decide) ?_
  exact loop 10 0 (by decide) rfl
