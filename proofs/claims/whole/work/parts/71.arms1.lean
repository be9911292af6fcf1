/-! ===== the law: its arms ===== -/
section LGA
variable {p : Program} {l : Launch} {e : Env} {s : State} {m : MethodId} {below : List Frame} {meth : Method} {c : Code} {b L : Nat} {xs : Nat → Int32} {D : va_G} {cs : Nat → ClassId} {d0 : Nat} {i : Int32} {I : mPI} {J : mPJ}
theorem L_clear (E : lEnv p s m meth c b L xs D cs d0) {k : Nat} (hi : i = nI k) (hk : k + 5 ≤ L) (hSR : SR I J) (kk : ∀ I1 J1, SR I1 J1 → LG p l e s m below meth c b D cs d0 1001 i [] I1 J1) : LG p l e s m below meth c b D cs d0 164 i [] I J := by
  refine L_al1 E (lw_dd lwk1 0 rfl) ?_
  refine L_call E (nA := 0) (rest := []) (i0 := 523) (ci := 4) mt_X4_clear (lw_dd lwk1 1 rfl) rfl rfl (m_wck_ok (l := [(Cond.methodLink R_law 13 yX4_clear, 235), (Cond.instanceMethod yX4_clear, 236), (Cond.selects RX4 yX4_clear yX4_clear, 237), (Cond.initialized RX4, 55), (Cond.code yX4_clear cX4_clear 2 (some .int), 238)]) (by decide +kernel)) ⟨rfl, by decide, by decide, by decide +kernel⟩ ⟨Nat.le_of_ble_eq_true rfl, Nat.le_of_ble_eq_true rfl⟩ (arm_clear  I J hSR) rfl rfl (Nat.zero_le _) rfl (fun r I1 J1 hK => ?_)
  refine L_al2 E (lw_dd lwk1 2 rfl) ?_
  refine L_call E (nA := 0) (rest := (m_ol r).map (m_ev (adL d0)) ++ []) (i0 := 528) (ci := 5) mt_X5_clear (lw_dd lwk1 3 rfl) rfl rfl (m_wck_ok (l := [(Cond.methodLink R_law 17 yX5_clear, 734), (Cond.instanceMethod yX5_clear, 735), (Cond.selects RX5 yX5_clear yX5_clear, 736), (Cond.initialized RX5, 62), (Cond.code yX5_clear cX5_clear 2 (some .int), 737)]) (by decide +kernel)) ⟨rfl, by decide, by decide, by decide +kernel⟩ ⟨Nat.le_of_ble_eq_true rfl, Nat.le_of_ble_eq_true rfl⟩ hK rfl rfl (L_cat _ r) rfl (fun r2 I2 J2 hK2 => ?_)
  obtain ⟨v, rfl, rfl, hSR2⟩ := hK2
  exact L_eq E (lw_dd lwk1 4 rfl) rfl (kk I2 J2 hSR2)
theorem L_point (E : lEnv p s m meth c b L xs D cs d0) {k : Nat} (hi : i = nI k) (hk : k + 5 ≤ L) (hSR : SR I J) (kk : ∀ I1 J1, SR I1 J1 → LG p l e s m below meth c b D cs d0 1001 i [] I1 J1) : LG p l e s m below meth c b D cs d0 177 i [] I J := by
  refine L_al1 E (lw_dd lwk2 0 rfl) ?_
  refine L_arg E (k := k) 1 (lw_dd lwk2 1 rfl) (lw_dd lwk2 2 rfl) (lw_dd lwk2 3 rfl) (lw_dd lwk2 4 rfl) (lw_dd lwk2 5 rfl) rfl (by decide) hi hk ?_
  refine L_arg E (k := k) 2 (lw_dd lwk2 6 rfl) (lw_dd lwk2 7 rfl) (lw_dd lwk2 8 rfl) (lw_dd lwk2 9 rfl) (lw_dd lwk2 10 rfl) rfl (by decide) hi hk ?_
  refine L_call E (nA := 2) (rest := []) (i0 := 523) (ci := 4) mt_X4_point (lw_dd lwk2 11 rfl) rfl rfl (m_wck_ok (l := [(Cond.methodLink R_law 18 yX4_point, 249), (Cond.instanceMethod yX4_point, 250), (Cond.selects RX4 yX4_point yX4_point, 251), (Cond.initialized RX4, 55), (Cond.code yX4_point cX4_point 4 (some .int), 252)]) (by decide +kernel)) ⟨rfl, by decide, by decide, by decide +kernel⟩ ⟨Nat.le_of_ble_eq_true rfl, Nat.le_of_ble_eq_true rfl⟩ (arm_point (xs (k + 1)) (xs (k + 2)) I J hSR) rfl rfl (Nat.zero_le _) rfl (fun r I1 J1 hK => ?_)
  refine L_al2 E (lw_dd lwk2 12 rfl) ?_
  refine L_arg E (k := k) 1 (lw_dd lwk2 13 rfl) (lw_dd lwk2 14 rfl) (lw_dd lwk2 15 rfl) (lw_dd lwk2 16 rfl) (lw_dd lwk2 17 rfl) rfl (by decide) hi hk ?_
  refine L_arg E (k := k) 2 (lw_dd lwk2 18 rfl) (lw_dd lwk2 19 rfl) (lw_dd lwk2 20 rfl) (lw_dd lwk2 21 rfl) (lw_dd lwk2 22 rfl) rfl (by decide) hi hk ?_
  refine L_call E (nA := 2) (rest := (m_ol r).map (m_ev (adL d0)) ++ []) (i0 := 528) (ci := 5) mt_X5_point (lw_dd lwk2 23 rfl) rfl rfl (m_wck_ok (l := [(Cond.methodLink R_law 22 yX5_point, 742), (Cond.instanceMethod yX5_point, 743), (Cond.selects RX5 yX5_point yX5_point, 744), (Cond.initialized RX5, 62), (Cond.code yX5_point cX5_point 5 (some .int), 745)]) (by decide +kernel)) ⟨rfl, by decide, by decide, by decide +kernel⟩ ⟨Nat.le_of_ble_eq_true rfl, Nat.le_of_ble_eq_true rfl⟩ hK rfl rfl (L_cat _ r) rfl (fun r2 I2 J2 hK2 => ?_)
  obtain ⟨v, rfl, rfl, hSR2⟩ := hK2
  exact L_eq E (lw_dd lwk2 24 rfl) rfl (kk I2 J2 hSR2)
theorem L_moment (E : lEnv p s m meth c b L xs D cs d0) {k : Nat} (hi : i = nI k) (hk : k + 5 ≤ L) (hSR : SR I J) (kk : ∀ I1 J1, SR I1 J1 → LG p l e s m below meth c b D cs d0 1001 i [] I1 J1) : LG p l e s m below meth c b D cs d0 210 i [] I J := by
  refine L_al1 E (lw_dd lwk3 0 rfl) ?_
  refine L_arg E (k := k) 1 (lw_dd lwk3 1 rfl) (lw_dd lwk3 2 rfl) (lw_dd lwk3 3 rfl) (lw_dd lwk3 4 rfl) (lw_dd lwk3 5 rfl) rfl (by decide) hi hk ?_
  refine L_arg E (k := k) 2 (lw_dd lwk3 6 rfl) (lw_dd lwk3 7 rfl) (lw_dd lwk3 8 rfl) (lw_dd lwk3 9 rfl) (lw_dd lwk3 10 rfl) rfl (by decide) hi hk ?_
  refine L_call E (nA := 2) (rest := []) (i0 := 523) (ci := 4) mt_X4_moment (lw_dd lwk3 11 rfl) rfl rfl (m_wck_ok (l := [(Cond.methodLink R_law 23 yX4_moment, 264), (Cond.instanceMethod yX4_moment, 265), (Cond.selects RX4 yX4_moment yX4_moment, 266), (Cond.initialized RX4, 55), (Cond.code yX4_moment cX4_moment 4 (some .int), 267)]) (by decide +kernel)) ⟨rfl, by decide, by decide, by decide +kernel⟩ ⟨Nat.le_of_ble_eq_true rfl, Nat.le_of_ble_eq_true rfl⟩ (arm_moment (xs (k + 1)) (xs (k + 2)) I J hSR) rfl rfl (Nat.zero_le _) rfl (fun r I1 J1 hK => ?_)
  refine L_al2 E (lw_dd lwk3 12 rfl) ?_
  refine L_arg E (k := k) 1 (lw_dd lwk3 13 rfl) (lw_dd lwk3 14 rfl) (lw_dd lwk3 15 rfl) (lw_dd lwk3 16 rfl) (lw_dd lwk3 17 rfl) rfl (by decide) hi hk ?_
  refine L_arg E (k := k) 2 (lw_dd lwk3 18 rfl) (lw_dd lwk3 19 rfl) (lw_dd lwk3 20 rfl) (lw_dd lwk3 21 rfl) (lw_dd lwk3 22 rfl) rfl (by decide) hi hk ?_
  refine L_call E (nA := 2) (rest := (m_ol r).map (m_ev (adL d0)) ++ []) (i0 := 528) (ci := 5) mt_X5_moment (lw_dd lwk3 23 rfl) rfl rfl (m_wck_ok (l := [(Cond.methodLink R_law 26 yX5_moment, 760), (Cond.instanceMethod yX5_moment, 761), (Cond.selects RX5 yX5_moment yX5_moment, 762), (Cond.initialized RX5, 62), (Cond.code yX5_moment cX5_moment 5 (some .int), 763)]) (by decide +kernel)) ⟨rfl, by decide, by decide, by decide +kernel⟩ ⟨Nat.le_of_ble_eq_true rfl, Nat.le_of_ble_eq_true rfl⟩ hK rfl rfl (L_cat _ r) rfl (fun r2 I2 J2 hK2 => ?_)
  obtain ⟨v, rfl, rfl, hSR2⟩ := hK2
  exact L_eq E (lw_dd lwk3 24 rfl) rfl (kk I2 J2 hSR2)
theorem L_span (E : lEnv p s m meth c b L xs D cs d0) {k : Nat} (hi : i = nI k) (hk : k + 5 ≤ L) (hSR : SR I J) (kk : ∀ I1 J1, SR I1 J1 → LG p l e s m below meth c b D cs d0 1001 i [] I1 J1) : LG p l e s m below meth c b D cs d0 243 i [] I J := by
  refine L_al1 E (lw_dd lwk4 0 rfl) ?_
  refine L_arg E (k := k) 1 (lw_dd lwk4 1 rfl) (lw_dd lwk4 2 rfl) (lw_dd lwk4 3 rfl) (lw_dd lwk4 4 rfl) (lw_dd lwk4 5 rfl) rfl (by decide) hi hk ?_
  refine L_arg E (k := k) 2 (lw_dd lwk4 6 rfl) (lw_dd lwk4 7 rfl) (lw_dd lwk4 8 rfl) (lw_dd lwk4 9 rfl) (lw_dd lwk4 10 rfl) rfl (by decide) hi hk ?_
  refine L_call E (nA := 2) (rest := []) (i0 := 523) (ci := 4) mt_X4_span (lw_dd lwk4 11 rfl) rfl rfl (m_wck_ok (l := [(Cond.methodLink R_law 27 yX4_span, 277), (Cond.instanceMethod yX4_span, 278), (Cond.selects RX4 yX4_span yX4_span, 279), (Cond.initialized RX4, 55), (Cond.code yX4_span cX4_span 3 (some .int), 280)]) (by decide +kernel)) ⟨rfl, by decide, by decide, by decide +kernel⟩ ⟨Nat.le_of_ble_eq_true rfl, Nat.le_of_ble_eq_true rfl⟩ (arm_span (xs (k + 1)) (xs (k + 2)) I J hSR) rfl rfl (Nat.zero_le _) rfl (fun r I1 J1 hK => ?_)
  refine L_al2 E (lw_dd lwk4 12 rfl) ?_
  refine L_arg E (k := k) 1 (lw_dd lwk4 13 rfl) (lw_dd lwk4 14 rfl) (lw_dd lwk4 15 rfl) (lw_dd lwk4 16 rfl) (lw_dd lwk4 17 rfl) rfl (by decide) hi hk ?_
  refine L_arg E (k := k) 2 (lw_dd lwk4 18 rfl) (lw_dd lwk4 19 rfl) (lw_dd lwk4 20 rfl) (lw_dd lwk4 21 rfl) (lw_dd lwk4 22 rfl) rfl (by decide) hi hk ?_
  refine L_call E (nA := 2) (rest := (m_ol r).map (m_ev (adL d0)) ++ []) (i0 := 528) (ci := 5) mt_X5_span (lw_dd lwk4 23 rfl) rfl rfl (m_wck_ok (l := [(Cond.methodLink R_law 30 yX5_span, 767), (Cond.instanceMethod yX5_span, 768), (Cond.selects RX5 yX5_span yX5_span, 769), (Cond.initialized RX5, 62), (Cond.code yX5_span cX5_span 4 (some .int), 770)]) (by decide +kernel)) ⟨rfl, by decide, by decide, by decide +kernel⟩ ⟨Nat.le_of_ble_eq_true rfl, Nat.le_of_ble_eq_true rfl⟩ hK rfl rfl (L_cat _ r) rfl (fun r2 I2 J2 hK2 => ?_)
  obtain ⟨v, rfl, rfl, hSR2⟩ := hK2
  exact L_eq E (lw_dd lwk4 24 rfl) rfl (kk I2 J2 hSR2)
theorem L_counted (E : lEnv p s m meth c b L xs D cs d0) {k : Nat} (hi : i = nI k) (hk : k + 5 ≤ L) (hSR : SR I J) (kk : ∀ I1 J1, SR I1 J1 → LG p l e s m below meth c b D cs d0 1001 i [] I1 J1) : LG p l e s m below meth c b D cs d0 276 i [] I J := by
  refine L_al1 E (lw_dd lwk5 0 rfl) ?_
  refine L_arg E (k := k) 1 (lw_dd lwk5 1 rfl) (lw_dd lwk5 2 rfl) (lw_dd lwk5 3 rfl) (lw_dd lwk5 4 rfl) (lw_dd lwk5 5 rfl) rfl (by decide) hi hk ?_
  refine L_arg E (k := k) 2 (lw_dd lwk5 6 rfl) (lw_dd lwk5 7 rfl) (lw_dd lwk5 8 rfl) (lw_dd lwk5 9 rfl) (lw_dd lwk5 10 rfl) rfl (by decide) hi hk ?_
  refine L_arg E (k := k) 3 (lw_dd lwk5 11 rfl) (lw_dd lwk5 12 rfl) (lw_dd lwk5 13 rfl) (lw_dd lwk5 14 rfl) (lw_dd lwk5 15 rfl) rfl (by decide) hi hk ?_
  refine L_arg E (k := k) 4 (lw_dd lwk5 16 rfl) (lw_dd lwk5 17 rfl) (lw_dd lwk5 18 rfl) (lw_dd lwk5 19 rfl) (lw_dd lwk5 20 rfl) rfl (by decide) hi hk ?_
  refine L_call E (nA := 4) (rest := []) (i0 := 523) (ci := 4) mt_X4_counted (lw_dd lwk5 21 rfl) rfl rfl (m_wck_ok (l := [(Cond.methodLink R_law 31 yX4_counted, 288), (Cond.instanceMethod yX4_counted, 289), (Cond.selects RX4 yX4_counted yX4_counted, 290), (Cond.initialized RX4, 55), (Cond.code yX4_counted cX4_counted 9 (some .int), 291)]) (by decide +kernel)) ⟨rfl, by decide, by decide, by decide +kernel⟩ ⟨Nat.le_of_ble_eq_true rfl, Nat.le_of_ble_eq_true rfl⟩ (arm_counted (xs (k + 1)) (xs (k + 2)) (xs (k + 3)) (xs (k + 4)) I J hSR) rfl rfl (Nat.zero_le _) rfl (fun r I1 J1 hK => ?_)
  refine L_al2 E (lw_dd lwk5 22 rfl) ?_
  refine L_arg E (k := k) 1 (lw_dd lwk5 23 rfl) (lw_dd lwk5 24 rfl) (lw_dd lwk5 25 rfl) (lw_dd lwk5 26 rfl) (lw_dd lwk5 27 rfl) rfl (by decide) hi hk ?_
  refine L_arg E (k := k) 2 (lw_dd lwk5 28 rfl) (lw_dd lwk5 29 rfl) (lw_dd lwk5 30 rfl) (lw_dd lwk5 31 rfl) (lw_dd lwk5 32 rfl) rfl (by decide) hi hk ?_
  refine L_arg E (k := k) 3 (lw_dd lwk5 33 rfl) (lw_dd lwk5 34 rfl) (lw_dd lwk5 35 rfl) (lw_dd lwk5 36 rfl) (lw_dd lwk5 37 rfl) rfl (by decide) hi hk ?_
  refine L_arg E (k := k) 4 (lw_dd lwk5 38 rfl) (lw_dd lwk5 39 rfl) (lw_dd lwk5 40 rfl) (lw_dd lwk5 41 rfl) (lw_dd lwk5 42 rfl) rfl (by decide) hi hk ?_
  refine L_call E (nA := 4) (rest := (m_ol r).map (m_ev (adL d0)) ++ []) (i0 := 528) (ci := 5) mt_X5_counted (lw_dd lwk5 43 rfl) rfl rfl (m_wck_ok (l := [(Cond.methodLink R_law 35 yX5_counted, 772), (Cond.instanceMethod yX5_counted, 773), (Cond.selects RX5 yX5_counted yX5_counted, 774), (Cond.initialized RX5, 62), (Cond.code yX5_counted cX5_counted 10 (some .int), 775)]) (by decide +kernel)) ⟨rfl, by decide, by decide, by decide +kernel⟩ ⟨Nat.le_of_ble_eq_true rfl, Nat.le_of_ble_eq_true rfl⟩ hK rfl rfl (L_cat _ r) rfl (fun r2 I2 J2 hK2 => ?_)
  obtain ⟨v, rfl, rfl, hSR2⟩ := hK2
  exact L_eq E (lw_dd lwk5 44 rfl) rfl (kk I2 J2 hSR2)
theorem L_by (E : lEnv p s m meth c b L xs D cs d0) {k : Nat} (hi : i = nI k) (hk : k + 5 ≤ L) (hSR : SR I J) (kk : ∀ I1 J1, SR I1 J1 → LG p l e s m below meth c b D cs d0 1001 i [] I1 J1) : LG p l e s m below meth c b D cs d0 329 i [] I J := by
  refine L_al1 E (lw_dd lwk6 0 rfl) ?_
  refine L_arg E (k := k) 1 (lw_dd lwk6 1 rfl) (lw_dd lwk6 2 rfl) (lw_dd lwk6 3 rfl) (lw_dd lwk6 4 rfl) (lw_dd lwk6 5 rfl) rfl (by decide) hi hk ?_
  refine L_call E (nA := 1) (rest := []) (i0 := 523) (ci := 4) mt_X4_by (lw_dd lwk6 6 rfl) rfl rfl (m_wck_ok (l := [(Cond.methodLink R_law 36 yX4_by, 303), (Cond.instanceMethod yX4_by, 304), (Cond.selects RX4 yX4_by yX4_by, 305), (Cond.initialized RX4, 55), (Cond.code yX4_by cX4_by 4 (some .int), 306)]) (by decide +kernel)) ⟨rfl, by decide, by decide, by decide +kernel⟩ ⟨Nat.le_of_ble_eq_true rfl, Nat.le_of_ble_eq_true rfl⟩ (arm_by (xs (k + 1)) I J hSR) rfl rfl (Nat.zero_le _) rfl (fun r I1 J1 hK => ?_)
  refine L_al2 E (lw_dd lwk6 7 rfl) ?_
  refine L_arg E (k := k) 1 (lw_dd lwk6 8 rfl) (lw_dd lwk6 9 rfl) (lw_dd lwk6 10 rfl) (lw_dd lwk6 11 rfl) (lw_dd lwk6 12 rfl) rfl (by decide) hi hk ?_
  refine L_call E (nA := 1) (rest := (m_ol r).map (m_ev (adL d0)) ++ []) (i0 := 528) (ci := 5) mt_X5_by (lw_dd lwk6 13 rfl) rfl rfl (m_wck_ok (l := [(Cond.methodLink R_law 40 yX5_by, 781), (Cond.instanceMethod yX5_by, 782), (Cond.selects RX5 yX5_by yX5_by, 783), (Cond.initialized RX5, 62), (Cond.code yX5_by cX5_by 3 (some .int), 784)]) (by decide +kernel)) ⟨rfl, by decide, by decide, by decide +kernel⟩ ⟨Nat.le_of_ble_eq_true rfl, Nat.le_of_ble_eq_true rfl⟩ hK rfl rfl (L_cat _ r) rfl (fun r2 I2 J2 hK2 => ?_)
  obtain ⟨v, rfl, rfl, hSR2⟩ := hK2
  exact L_eq E (lw_dd lwk6 14 rfl) rfl (kk I2 J2 hSR2)
theorem L_mirror (E : lEnv p s m meth c b L xs D cs d0) {k : Nat} (hi : i = nI k) (hk : k + 5 ≤ L) (hSR : SR I J) (kk : ∀ I1 J1, SR I1 J1 → LG p l e s m below meth c b D cs d0 1001 i [] I1 J1) : LG p l e s m below meth c b D cs d0 352 i [] I J := by
  refine L_al1 E (lw_dd lwk7 0 rfl) ?_
  refine L_arg E (k := k) 1 (lw_dd lwk7 1 rfl) (lw_dd lwk7 2 rfl) (lw_dd lwk7 3 rfl) (lw_dd lwk7 4 rfl) (lw_dd lwk7 5 rfl) rfl (by decide) hi hk ?_
  refine L_call E (nA := 1) (rest := []) (i0 := 523) (ci := 4) mt_X4_mirror (lw_dd lwk7 6 rfl) rfl rfl (m_wck_ok (l := [(Cond.methodLink R_law 41 yX4_mirror, 396), (Cond.instanceMethod yX4_mirror, 397), (Cond.selects RX4 yX4_mirror yX4_mirror, 398), (Cond.initialized RX4, 55), (Cond.code yX4_mirror cX4_mirror 6 (some .int), 399)]) (by decide +kernel)) ⟨rfl, by decide, by decide, by decide +kernel⟩ ⟨Nat.le_of_ble_eq_true rfl, Nat.le_of_ble_eq_true rfl⟩ (arm_mirror (xs (k + 1)) I J hSR) rfl rfl (Nat.zero_le _) rfl (fun r I1 J1 hK => ?_)
  refine L_al2 E (lw_dd lwk7 7 rfl) ?_
  refine L_arg E (k := k) 1 (lw_dd lwk7 8 rfl) (lw_dd lwk7 9 rfl) (lw_dd lwk7 10 rfl) (lw_dd lwk7 11 rfl) (lw_dd lwk7 12 rfl) rfl (by decide) hi hk ?_
  refine L_call E (nA := 1) (rest := (m_ol r).map (m_ev (adL d0)) ++ []) (i0 := 528) (ci := 5) mt_X5_mirror (lw_dd lwk7 13 rfl) rfl rfl (m_wck_ok (l := [(Cond.methodLink R_law 44 yX5_mirror, 835), (Cond.instanceMethod yX5_mirror, 836), (Cond.selects RX5 yX5_mirror yX5_mirror, 837), (Cond.initialized RX5, 62), (Cond.code yX5_mirror cX5_mirror 4 (some .int), 838)]) (by decide +kernel)) ⟨rfl, by decide, by decide, by decide +kernel⟩ ⟨Nat.le_of_ble_eq_true rfl, Nat.le_of_ble_eq_true rfl⟩ hK rfl rfl (L_cat _ r) rfl (fun r2 I2 J2 hK2 => ?_)
  obtain ⟨v, rfl, rfl, hSR2⟩ := hK2
  exact L_eq E (lw_dd lwk7 14 rfl) rfl (kk I2 J2 hSR2)
theorem L_layMoment (E : lEnv p s m meth c b L xs D cs d0) {k : Nat} (hi : i = nI k) (hk : k + 5 ≤ L) (hSR : SR I J) (kk : ∀ I1 J1, SR I1 J1 → LG p l e s m below meth c b D cs d0 1001 i [] I1 J1) : LG p l e s m below meth c b D cs d0 375 i [] I J := by
  refine L_al1 E (lw_dd lwk8 0 rfl) ?_
  refine L_arg E (k := k) 1 (lw_dd lwk8 1 rfl) (lw_dd lwk8 2 rfl) (lw_dd lwk8 3 rfl) (lw_dd lwk8 4 rfl) (lw_dd lwk8 5 rfl) rfl (by decide) hi hk ?_
  refine L_call E (nA := 1) (rest := []) (i0 := 523) (ci := 4) mt_X4_layMoment (lw_dd lwk8 6 rfl) rfl rfl (m_wck_ok (l := [(Cond.methodLink R_law 45 yX4_layMoment, 400), (Cond.instanceMethod yX4_layMoment, 401), (Cond.selects RX4 yX4_layMoment yX4_layMoment, 402), (Cond.initialized RX4, 55), (Cond.code yX4_layMoment cX4_layMoment 2 (some .int), 403)]) (by decide +kernel)) ⟨rfl, by decide, by decide, by decide +kernel⟩ ⟨Nat.le_of_ble_eq_true rfl, Nat.le_of_ble_eq_true rfl⟩ (arm_layMoment (xs (k + 1)) I J hSR) rfl rfl (Nat.zero_le _) rfl (fun r I1 J1 hK => ?_)
  refine L_al2 E (lw_dd lwk8 7 rfl) ?_
  refine L_arg E (k := k) 1 (lw_dd lwk8 8 rfl) (lw_dd lwk8 9 rfl) (lw_dd lwk8 10 rfl) (lw_dd lwk8 11 rfl) (lw_dd lwk8 12 rfl) rfl (by decide) hi hk ?_
  refine L_call E (nA := 1) (rest := (m_ol r).map (m_ev (adL d0)) ++ []) (i0 := 528) (ci := 5) mt_X5_layMoment (lw_dd lwk8 13 rfl) rfl rfl (m_wck_ok (l := [(Cond.methodLink R_law 48 yX5_layMoment, 839), (Cond.instanceMethod yX5_layMoment, 840), (Cond.selects RX5 yX5_layMoment yX5_layMoment, 841), (Cond.initialized RX5, 62), (Cond.code yX5_layMoment cX5_layMoment 2 (some .int), 842)]) (by decide +kernel)) ⟨rfl, by decide, by decide, by decide +kernel⟩ ⟨Nat.le_of_ble_eq_true rfl, Nat.le_of_ble_eq_true rfl⟩ hK rfl rfl (L_cat _ r) rfl (fun r2 I2 J2 hK2 => ?_)
  obtain ⟨v, rfl, rfl, hSR2⟩ := hK2
  exact L_eq E (lw_dd lwk8 14 rfl) rfl (kk I2 J2 hSR2)
theorem L_layWorth (E : lEnv p s m meth c b L xs D cs d0) {k : Nat} (hi : i = nI k) (hk : k + 5 ≤ L) (hSR : SR I J) (kk : ∀ I1 J1, SR I1 J1 → LG p l e s m below meth c b D cs d0 1001 i [] I1 J1) : LG p l e s m below meth c b D cs d0 398 i [] I J := by
  refine L_al1 E (lw_dd lwk9 0 rfl) ?_
  refine L_arg E (k := k) 1 (lw_dd lwk9 1 rfl) (lw_dd lwk9 2 rfl) (lw_dd lwk9 3 rfl) (lw_dd lwk9 4 rfl) (lw_dd lwk9 5 rfl) rfl (by decide) hi hk ?_
  refine L_call E (nA := 1) (rest := []) (i0 := 523) (ci := 4) mt_X4_layWorth (lw_dd lwk9 6 rfl) rfl rfl (m_wck_ok (l := [(Cond.methodLink R_law 49 yX4_layWorth, 416), (Cond.instanceMethod yX4_layWorth, 417), (Cond.selects RX4 yX4_layWorth yX4_layWorth, 418), (Cond.initialized RX4, 55), (Cond.code yX4_layWorth cX4_layWorth 3 (some .int), 419)]) (by decide +kernel)) ⟨rfl, by decide, by decide, by decide +kernel⟩ ⟨Nat.le_of_ble_eq_true rfl, Nat.le_of_ble_eq_true rfl⟩ (arm_layWorth (xs (k + 1)) I J hSR) rfl rfl (Nat.zero_le _) rfl (fun r I1 J1 hK => ?_)
  refine L_al2 E (lw_dd lwk9 7 rfl) ?_
  refine L_arg E (k := k) 1 (lw_dd lwk9 8 rfl) (lw_dd lwk9 9 rfl) (lw_dd lwk9 10 rfl) (lw_dd lwk9 11 rfl) (lw_dd lwk9 12 rfl) rfl (by decide) hi hk ?_
  refine L_call E (nA := 1) (rest := (m_ol r).map (m_ev (adL d0)) ++ []) (i0 := 528) (ci := 5) mt_X5_layWorth (lw_dd lwk9 13 rfl) rfl rfl (m_wck_ok (l := [(Cond.methodLink R_law 52 yX5_layWorth, 875), (Cond.instanceMethod yX5_layWorth, 876), (Cond.selects RX5 yX5_layWorth yX5_layWorth, 877), (Cond.initialized RX5, 62), (Cond.code yX5_layWorth cX5_layWorth 2 (some .int), 878)]) (by decide +kernel)) ⟨rfl, by decide, by decide, by decide +kernel⟩ ⟨Nat.le_of_ble_eq_true rfl, Nat.le_of_ble_eq_true rfl⟩ hK rfl rfl (L_cat _ r) rfl (fun r2 I2 J2 hK2 => ?_)
  obtain ⟨v, rfl, rfl, hSR2⟩ := hK2
  exact L_eq E (lw_dd lwk9 14 rfl) rfl (kk I2 J2 hSR2)
theorem L_layDeterminant (E : lEnv p s m meth c b L xs D cs d0) {k : Nat} (hi : i = nI k) (hk : k + 5 ≤ L) (hSR : SR I J) (kk : ∀ I1 J1, SR I1 J1 → LG p l e s m below meth c b D cs d0 1001 i [] I1 J1) : LG p l e s m below meth c b D cs d0 421 i [] I J := by
  refine L_al1 E (lw_dd lwk10 0 rfl) ?_
  refine L_arg E (k := k) 1 (lw_dd lwk10 1 rfl) (lw_dd lwk10 2 rfl) (lw_dd lwk10 3 rfl) (lw_dd lwk10 4 rfl) (lw_dd lwk10 5 rfl) rfl (by decide) hi hk ?_
  refine L_call E (nA := 1) (rest := []) (i0 := 523) (ci := 4) mt_X4_layDeterminant (lw_dd lwk10 6 rfl) rfl rfl (m_wck_ok (l := [(Cond.methodLink R_law 53 yX4_layDeterminant, 459), (Cond.instanceMethod yX4_layDeterminant, 460), (Cond.selects RX4 yX4_layDeterminant yX4_layDeterminant, 461), (Cond.initialized RX4, 55), (Cond.code yX4_layDeterminant cX4_layDeterminant 2 (some .int), 462)]) (by decide +kernel)) ⟨rfl, by decide, by decide, by decide +kernel⟩ ⟨Nat.le_of_ble_eq_true rfl, Nat.le_of_ble_eq_true rfl⟩ (arm_layDet (xs (k + 1)) I J hSR) rfl rfl (Nat.zero_le _) rfl (fun r I1 J1 hK => ?_)
  refine L_al2 E (lw_dd lwk10 7 rfl) ?_
  refine L_arg E (k := k) 1 (lw_dd lwk10 8 rfl) (lw_dd lwk10 9 rfl) (lw_dd lwk10 10 rfl) (lw_dd lwk10 11 rfl) (lw_dd lwk10 12 rfl) rfl (by decide) hi hk ?_
  refine L_call E (nA := 1) (rest := (m_ol r).map (m_ev (adL d0)) ++ []) (i0 := 528) (ci := 5) mt_X5_layDeterminant (lw_dd lwk10 13 rfl) rfl rfl (m_wck_ok (l := [(Cond.methodLink R_law 56 yX5_layDeterminant, 912), (Cond.instanceMethod yX5_layDeterminant, 913), (Cond.selects RX5 yX5_layDeterminant yX5_layDeterminant, 914), (Cond.initialized RX5, 62), (Cond.code yX5_layDeterminant cX5_layDeterminant 2 (some .int), 915)]) (by decide +kernel)) ⟨rfl, by decide, by decide, by decide +kernel⟩ ⟨Nat.le_of_ble_eq_true rfl, Nat.le_of_ble_eq_true rfl⟩ hK rfl rfl (L_cat _ r) rfl (fun r2 I2 J2 hK2 => ?_)
  obtain ⟨v, rfl, rfl, hSR2⟩ := hK2
  exact L_eq E (lw_dd lwk10 14 rfl) rfl (kk I2 J2 hSR2)
theorem L_layNumber (E : lEnv p s m meth c b L xs D cs d0) {k : Nat} (hi : i = nI k) (hk : k + 5 ≤ L) (hSR : SR I J) (kk : ∀ I1 J1, SR I1 J1 → LG p l e s m below meth c b D cs d0 1001 i [] I1 J1) : LG p l e s m below meth c b D cs d0 444 i [] I J := by
  refine L_al1 E (lw_dd lwk11 0 rfl) ?_
  refine L_arg E (k := k) 1 (lw_dd lwk11 1 rfl) (lw_dd lwk11 2 rfl) (lw_dd lwk11 3 rfl) (lw_dd lwk11 4 rfl) (lw_dd lwk11 5 rfl) rfl (by decide) hi hk ?_
  refine L_arg E (k := k) 2 (lw_dd lwk11 6 rfl) (lw_dd lwk11 7 rfl) (lw_dd lwk11 8 rfl) (lw_dd lwk11 9 rfl) (lw_dd lwk11 10 rfl) rfl (by decide) hi hk ?_
  refine L_call E (nA := 2) (rest := []) (i0 := 523) (ci := 4) mt_X4_layNumber (lw_dd lwk11 11 rfl) rfl rfl (m_wck_ok (l := [(Cond.methodLink R_law 57 yX4_layNumber, 463), (Cond.instanceMethod yX4_layNumber, 464), (Cond.selects RX4 yX4_layNumber yX4_layNumber, 465), (Cond.initialized RX4, 55), (Cond.code yX4_layNumber cX4_layNumber 4 (some .int), 466)]) (by decide +kernel)) ⟨rfl, by decide, by decide, by decide +kernel⟩ ⟨Nat.le_of_ble_eq_true rfl, Nat.le_of_ble_eq_true rfl⟩ (arm_layNum (xs (k + 1)) (xs (k + 2)) I J hSR) rfl rfl (Nat.zero_le _) rfl (fun r I1 J1 hK => ?_)
  refine L_al2 E (lw_dd lwk11 12 rfl) ?_
  refine L_arg E (k := k) 1 (lw_dd lwk11 13 rfl) (lw_dd lwk11 14 rfl) (lw_dd lwk11 15 rfl) (lw_dd lwk11 16 rfl) (lw_dd lwk11 17 rfl) rfl (by decide) hi hk ?_
  refine L_arg E (k := k) 2 (lw_dd lwk11 18 rfl) (lw_dd lwk11 19 rfl) (lw_dd lwk11 20 rfl) (lw_dd lwk11 21 rfl) (lw_dd lwk11 22 rfl) rfl (by decide) hi hk ?_
  refine L_call E (nA := 2) (rest := (m_ol r).map (m_ev (adL d0)) ++ []) (i0 := 528) (ci := 5) mt_X5_layNumber (lw_dd lwk11 23 rfl) rfl rfl (m_wck_ok (l := [(Cond.methodLink R_law 60 yX5_layNumber, 916), (Cond.instanceMethod yX5_layNumber, 917), (Cond.selects RX5 yX5_layNumber yX5_layNumber, 918), (Cond.initialized RX5, 62), (Cond.code yX5_layNumber cX5_layNumber 3 (some .int), 919)]) (by decide +kernel)) ⟨rfl, by decide, by decide, by decide +kernel⟩ ⟨Nat.le_of_ble_eq_true rfl, Nat.le_of_ble_eq_true rfl⟩ hK rfl rfl (L_cat _ r) rfl (fun r2 I2 J2 hK2 => ?_)
  obtain ⟨v, rfl, rfl, hSR2⟩ := hK2
  exact L_eq E (lw_dd lwk11 24 rfl) rfl (kk I2 J2 hSR2)
theorem L_layRule (E : lEnv p s m meth c b L xs D cs d0) {k : Nat} (hi : i = nI k) (hk : k + 5 ≤ L) (hSR : SR I J) (kk : ∀ I1 J1, SR I1 J1 → LG p l e s m below meth c b D cs d0 1001 i [] I1 J1) : LG p l e s m below meth c b D cs d0 477 i [] I J := by
  refine L_al1 E (lw_dd lwk12 0 rfl) ?_
  refine L_arg E (k := k) 1 (lw_dd lwk12 1 rfl) (lw_dd lwk12 2 rfl) (lw_dd lwk12 3 rfl) (lw_dd lwk12 4 rfl) (lw_dd lwk12 5 rfl) rfl (by decide) hi hk ?_
  refine L_arg E (k := k) 2 (lw_dd lwk12 6 rfl) (lw_dd lwk12 7 rfl) (lw_dd lwk12 8 rfl) (lw_dd lwk12 9 rfl) (lw_dd lwk12 10 rfl) rfl (by decide) hi hk ?_
  refine L_call E (nA := 2) (rest := []) (i0 := 523) (ci := 4) mt_X4_layRule (lw_dd lwk12 11 rfl) rfl rfl (m_wck_ok (l := [(Cond.methodLink R_law 61 yX4_layRule, 472), (Cond.instanceMethod yX4_layRule, 473), (Cond.selects RX4 yX4_layRule yX4_layRule, 474), (Cond.initialized RX4, 55), (Cond.code yX4_layRule cX4_layRule 4 (some .int), 475)]) (by decide +kernel)) ⟨rfl, by decide, by decide, by decide +kernel⟩ ⟨Nat.le_of_ble_eq_true rfl, Nat.le_of_ble_eq_true rfl⟩ (arm_layRule (xs (k + 1)) (xs (k + 2)) I J hSR) rfl rfl (Nat.zero_le _) rfl (fun r I1 J1 hK => ?_)
  refine L_al2 E (lw_dd lwk12 12 rfl) ?_
  refine L_arg E (k := k) 1 (lw_dd lwk12 13 rfl) (lw_dd lwk12 14 rfl) (lw_dd lwk12 15 rfl) (lw_dd lwk12 16 rfl) (lw_dd lwk12 17 rfl) rfl (by decide) hi hk ?_
  refine L_arg E (k := k) 2 (lw_dd lwk12 18 rfl) (lw_dd lwk12 19 rfl) (lw_dd lwk12 20 rfl) (lw_dd lwk12 21 rfl) (lw_dd lwk12 22 rfl) rfl (by decide) hi hk ?_
  refine L_call E (nA := 2) (rest := (m_ol r).map (m_ev (adL d0)) ++ []) (i0 := 528) (ci := 5) mt_X5_layRule (lw_dd lwk12 23 rfl) rfl rfl (m_wck_ok (l := [(Cond.methodLink R_law 64 yX5_layRule, 924), (Cond.instanceMethod yX5_layRule, 925), (Cond.selects RX5 yX5_layRule yX5_layRule, 926), (Cond.initialized RX5, 62), (Cond.code yX5_layRule cX5_layRule 3 (some .int), 927)]) (by decide +kernel)) ⟨rfl, by decide, by decide, by decide +kernel⟩ ⟨Nat.le_of_ble_eq_true rfl, Nat.le_of_ble_eq_true rfl⟩ hK rfl rfl (L_cat _ r) rfl (fun r2 I2 J2 hK2 => ?_)
  obtain ⟨v, rfl, rfl, hSR2⟩ := hK2
  exact L_eq E (lw_dd lwk12 24 rfl) rfl (kk I2 J2 hSR2)
theorem L_layValue (E : lEnv p s m meth c b L xs D cs d0) {k : Nat} (hi : i = nI k) (hk : k + 5 ≤ L) (hSR : SR I J) (kk : ∀ I1 J1, SR I1 J1 → LG p l e s m below meth c b D cs d0 1001 i [] I1 J1) : LG p l e s m below meth c b D cs d0 510 i [] I J := by
  refine L_al1 E (lw_dd lwk13 0 rfl) ?_
  refine L_arg E (k := k) 1 (lw_dd lwk13 1 rfl) (lw_dd lwk13 2 rfl) (lw_dd lwk13 3 rfl) (lw_dd lwk13 4 rfl) (lw_dd lwk13 5 rfl) rfl (by decide) hi hk ?_
  refine L_arg E (k := k) 2 (lw_dd lwk13 6 rfl) (lw_dd lwk13 7 rfl) (lw_dd lwk13 8 rfl) (lw_dd lwk13 9 rfl) (lw_dd lwk13 10 rfl) rfl (by decide) hi hk ?_
  refine L_arg E (k := k) 3 (lw_dd lwk13 11 rfl) (lw_dd lwk13 12 rfl) (lw_dd lwk13 13 rfl) (lw_dd lwk13 14 rfl) (lw_dd lwk13 15 rfl) rfl (by decide) hi hk ?_
  refine L_call E (nA := 3) (rest := []) (i0 := 523) (ci := 4) mt_X4_layValue (lw_dd lwk13 16 rfl) rfl rfl (m_wck_ok (l := [(Cond.methodLink R_law 65 yX4_layValue, 489), (Cond.instanceMethod yX4_layValue, 490), (Cond.selects RX4 yX4_layValue yX4_layValue, 491), (Cond.initialized RX4, 55), (Cond.code yX4_layValue cX4_layValue 6 (some .int), 492)]) (by decide +kernel)) ⟨rfl, by decide, by decide, by decide +kernel⟩ ⟨Nat.le_of_ble_eq_true rfl, Nat.le_of_ble_eq_true rfl⟩ (arm_layValue (xs (k + 1)) (xs (k + 2)) (xs (k + 3)) I J hSR) rfl rfl (Nat.zero_le _) rfl (fun r I1 J1 hK => ?_)
  refine L_al2 E (lw_dd lwk13 17 rfl) ?_
  refine L_arg E (k := k) 1 (lw_dd lwk13 18 rfl) (lw_dd lwk13 19 rfl) (lw_dd lwk13 20 rfl) (lw_dd lwk13 21 rfl) (lw_dd lwk13 22 rfl) rfl (by decide) hi hk ?_
  refine L_arg E (k := k) 2 (lw_dd lwk13 23 rfl) (lw_dd lwk13 24 rfl) (lw_dd lwk13 25 rfl) (lw_dd lwk13 26 rfl) (lw_dd lwk13 27 rfl) rfl (by decide) hi hk ?_
  refine L_arg E (k := k) 3 (lw_dd lwk13 28 rfl) (lw_dd lwk13 29 rfl) (lw_dd lwk13 30 rfl) (lw_dd lwk13 31 rfl) (lw_dd lwk13 32 rfl) rfl (by decide) hi hk ?_
  refine L_call E (nA := 3) (rest := (m_ol r).map (m_ev (adL d0)) ++ []) (i0 := 528) (ci := 5) mt_X5_layValue (lw_dd lwk13 33 rfl) rfl rfl (m_wck_ok (l := [(Cond.methodLink R_law 69 yX5_layValue, 928), (Cond.instanceMethod yX5_layValue, 929), (Cond.selects RX5 yX5_layValue yX5_layValue, 930), (Cond.initialized RX5, 62), (Cond.code yX5_layValue cX5_layValue 5 (some .int), 931)]) (by decide +kernel)) ⟨rfl, by decide, by decide, by decide +kernel⟩ ⟨Nat.le_of_ble_eq_true rfl, Nat.le_of_ble_eq_true rfl⟩ hK rfl rfl (L_cat _ r) rfl (fun r2 I2 J2 hK2 => ?_)
  obtain ⟨v, rfl, rfl, hSR2⟩ := hK2
  exact L_eq E (lw_dd lwk13 34 rfl) rfl (kk I2 J2 hSR2)
theorem L_layProduct (E : lEnv p s m meth c b L xs D cs d0) {k : Nat} (hi : i = nI k) (hk : k + 5 ≤ L) (hSR : SR I J) (kk : ∀ I1 J1, SR I1 J1 → LG p l e s m below meth c b D cs d0 1001 i [] I1 J1) : LG p l e s m below meth c b D cs d0 553 i [] I J := by
  refine L_al1 E (lw_dd lwk14 0 rfl) ?_
  refine L_arg E (k := k) 1 (lw_dd lwk14 1 rfl) (lw_dd lwk14 2 rfl) (lw_dd lwk14 3 rfl) (lw_dd lwk14 4 rfl) (lw_dd lwk14 5 rfl) rfl (by decide) hi hk ?_
  refine L_arg E (k := k) 2 (lw_dd lwk14 6 rfl) (lw_dd lwk14 7 rfl) (lw_dd lwk14 8 rfl) (lw_dd lwk14 9 rfl) (lw_dd lwk14 10 rfl) rfl (by decide) hi hk ?_
  refine L_call E (nA := 2) (rest := []) (i0 := 523) (ci := 4) mt_X4_layProduct (lw_dd lwk14 11 rfl) rfl rfl (m_wck_ok (l := [(Cond.methodLink R_law 70 yX4_layProduct, 512), (Cond.instanceMethod yX4_layProduct, 513), (Cond.selects RX4 yX4_layProduct yX4_layProduct, 514), (Cond.initialized RX4, 55), (Cond.code yX4_layProduct cX4_layProduct 4 (some .int), 515)]) (by decide +kernel)) ⟨rfl, by decide, by decide, by decide +kernel⟩ ⟨Nat.le_of_ble_eq_true rfl, Nat.le_of_ble_eq_true rfl⟩ (arm_layProduct (xs (k + 1)) (xs (k + 2)) I J hSR) rfl rfl (Nat.zero_le _) rfl (fun r I1 J1 hK => ?_)
  refine L_al2 E (lw_dd lwk14 12 rfl) ?_
  refine L_arg E (k := k) 1 (lw_dd lwk14 13 rfl) (lw_dd lwk14 14 rfl) (lw_dd lwk14 15 rfl) (lw_dd lwk14 16 rfl) (lw_dd lwk14 17 rfl) rfl (by decide) hi hk ?_
  refine L_arg E (k := k) 2 (lw_dd lwk14 18 rfl) (lw_dd lwk14 19 rfl) (lw_dd lwk14 20 rfl) (lw_dd lwk14 21 rfl) (lw_dd lwk14 22 rfl) rfl (by decide) hi hk ?_
  refine L_call E (nA := 2) (rest := (m_ol r).map (m_ev (adL d0)) ++ []) (i0 := 528) (ci := 5) mt_X5_layProduct (lw_dd lwk14 23 rfl) rfl rfl (m_wck_ok (l := [(Cond.methodLink R_law 73 yX5_layProduct, 939), (Cond.instanceMethod yX5_layProduct, 940), (Cond.selects RX5 yX5_layProduct yX5_layProduct, 941), (Cond.initialized RX5, 62), (Cond.code yX5_layProduct cX5_layProduct 4 (some .int), 942)]) (by decide +kernel)) ⟨rfl, by decide, by decide, by decide +kernel⟩ ⟨Nat.le_of_ble_eq_true rfl, Nat.le_of_ble_eq_true rfl⟩ hK rfl rfl (L_cat _ r) rfl (fun r2 I2 J2 hK2 => ?_)
  obtain ⟨v, rfl, rfl, hSR2⟩ := hK2
  exact L_eq E (lw_dd lwk14 24 rfl) rfl (kk I2 J2 hSR2)
theorem L_layShare (E : lEnv p s m meth c b L xs D cs d0) {k : Nat} (hi : i = nI k) (hk : k + 5 ≤ L) (hSR : SR I J) (kk : ∀ I1 J1, SR I1 J1 → LG p l e s m below meth c b D cs d0 1001 i [] I1 J1) : LG p l e s m below meth c b D cs d0 586 i [] I J := by
  refine L_al1 E (lw_dd lwk15 0 rfl) ?_
  refine L_arg E (k := k) 1 (lw_dd lwk15 1 rfl) (lw_dd lwk15 2 rfl) (lw_dd lwk15 3 rfl) (lw_dd lwk15 4 rfl) (lw_dd lwk15 5 rfl) rfl (by decide) hi hk ?_
  refine L_arg E (k := k) 2 (lw_dd lwk15 6 rfl) (lw_dd lwk15 7 rfl) (lw_dd lwk15 8 rfl) (lw_dd lwk15 9 rfl) (lw_dd lwk15 10 rfl) rfl (by decide) hi hk ?_
  refine L_call E (nA := 2) (rest := []) (i0 := 523) (ci := 4) mt_X4_layShare (lw_dd lwk15 11 rfl) rfl rfl (m_wck_ok (l := [(Cond.methodLink R_law 74 yX4_layShare, 516), (Cond.instanceMethod yX4_layShare, 517), (Cond.selects RX4 yX4_layShare yX4_layShare, 518), (Cond.initialized RX4, 55), (Cond.code yX4_layShare cX4_layShare 4 (some .int), 519)]) (by decide +kernel)) ⟨rfl, by decide, by decide, by decide +kernel⟩ ⟨Nat.le_of_ble_eq_true rfl, Nat.le_of_ble_eq_true rfl⟩ (arm_layShare (xs (k + 1)) (xs (k + 2)) I J hSR) rfl rfl (Nat.zero_le _) rfl (fun r I1 J1 hK => ?_)
  refine L_al2 E (lw_dd lwk15 12 rfl) ?_
  refine L_arg E (k := k) 1 (lw_dd lwk15 13 rfl) (lw_dd lwk15 14 rfl) (lw_dd lwk15 15 rfl) (lw_dd lwk15 16 rfl) (lw_dd lwk15 17 rfl) rfl (by decide) hi hk ?_
  refine L_arg E (k := k) 2 (lw_dd lwk15 18 rfl) (lw_dd lwk15 19 rfl) (lw_dd lwk15 20 rfl) (lw_dd lwk15 21 rfl) (lw_dd lwk15 22 rfl) rfl (by decide) hi hk ?_
  refine L_call E (nA := 2) (rest := (m_ol r).map (m_ev (adL d0)) ++ []) (i0 := 528) (ci := 5) mt_X5_layShare (lw_dd lwk15 23 rfl) rfl rfl (m_wck_ok (l := [(Cond.methodLink R_law 77 yX5_layShare, 947), (Cond.instanceMethod yX5_layShare, 948), (Cond.selects RX5 yX5_layShare yX5_layShare, 949), (Cond.initialized RX5, 62), (Cond.code yX5_layShare cX5_layShare 3 (some .int), 950)]) (by decide +kernel)) ⟨rfl, by decide, by decide, by decide +kernel⟩ ⟨Nat.le_of_ble_eq_true rfl, Nat.le_of_ble_eq_true rfl⟩ hK rfl rfl (L_cat _ r) rfl (fun r2 I2 J2 hK2 => ?_)
  obtain ⟨v, rfl, rfl, hSR2⟩ := hK2
  exact L_eq E (lw_dd lwk15 24 rfl) rfl (kk I2 J2 hSR2)
end LGA
