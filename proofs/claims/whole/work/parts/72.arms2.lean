/-! ===== the law: its arms ===== -/
section LGA
variable {p : Program} {l : Launch} {e : Env} {s : State} {m : MethodId} {below : List Frame} {meth : Method} {c : Code} {b L : Nat} {xs : Nat → Int32} {D : va_G} {cs : Nat → ClassId} {d0 : Nat} {i : Int32} {I : mPI} {J : mPJ}
theorem L_layKernel (E : lEnv p s m meth c b L xs D cs d0) {k : Nat} (hi : i = nI k) (hk : k + 5 ≤ L) (hSR : SR I J) (kk : ∀ I1 J1, SR I1 J1 → LG p l e s m below meth c b D cs d0 1001 i [] I1 J1) : LG p l e s m below meth c b D cs d0 619 i [] I J := by
  refine L_al1 E (lw_dd lwk16 0 rfl) ?_
  refine L_arg E (k := k) 1 (lw_dd lwk16 1 rfl) (lw_dd lwk16 2 rfl) (lw_dd lwk16 3 rfl) (lw_dd lwk16 4 rfl) (lw_dd lwk16 5 rfl) rfl (by decide) hi hk ?_
  refine L_arg E (k := k) 2 (lw_dd lwk16 6 rfl) (lw_dd lwk16 7 rfl) (lw_dd lwk16 8 rfl) (lw_dd lwk16 9 rfl) (lw_dd lwk16 10 rfl) rfl (by decide) hi hk ?_
  refine L_arg E (k := k) 3 (lw_dd lwk16 11 rfl) (lw_dd lwk16 12 rfl) (lw_dd lwk16 13 rfl) (lw_dd lwk16 14 rfl) (lw_dd lwk16 15 rfl) rfl (by decide) hi hk ?_
  refine L_call E (nA := 3) (rest := []) (i0 := 523) (ci := 4) mt_X4_layKernel (lw_dd lwk16 16 rfl) rfl rfl (m_wck_ok (l := [(Cond.methodLink R_law 78 yX4_layKernel, 528), (Cond.instanceMethod yX4_layKernel, 529), (Cond.selects RX4 yX4_layKernel yX4_layKernel, 530), (Cond.initialized RX4, 55), (Cond.code yX4_layKernel cX4_layKernel 6 (some .int), 531)]) (by decide +kernel)) ⟨rfl, by decide, by decide, by decide +kernel⟩ ⟨Nat.le_of_ble_eq_true rfl, Nat.le_of_ble_eq_true rfl⟩ (arm_layKernel (xs (k + 1)) (xs (k + 2)) (xs (k + 3)) I J hSR) rfl rfl (Nat.zero_le _) rfl (fun r I1 J1 hK => ?_)
  refine L_al2 E (lw_dd lwk16 17 rfl) ?_
  refine L_arg E (k := k) 1 (lw_dd lwk16 18 rfl) (lw_dd lwk16 19 rfl) (lw_dd lwk16 20 rfl) (lw_dd lwk16 21 rfl) (lw_dd lwk16 22 rfl) rfl (by decide) hi hk ?_
  refine L_arg E (k := k) 2 (lw_dd lwk16 23 rfl) (lw_dd lwk16 24 rfl) (lw_dd lwk16 25 rfl) (lw_dd lwk16 26 rfl) (lw_dd lwk16 27 rfl) rfl (by decide) hi hk ?_
  refine L_arg E (k := k) 3 (lw_dd lwk16 28 rfl) (lw_dd lwk16 29 rfl) (lw_dd lwk16 30 rfl) (lw_dd lwk16 31 rfl) (lw_dd lwk16 32 rfl) rfl (by decide) hi hk ?_
  refine L_call E (nA := 3) (rest := (m_ol r).map (m_ev (adL d0)) ++ []) (i0 := 528) (ci := 5) mt_X5_layKernel (lw_dd lwk16 33 rfl) rfl rfl (m_wck_ok (l := [(Cond.methodLink R_law 81 yX5_layKernel, 955), (Cond.instanceMethod yX5_layKernel, 956), (Cond.selects RX5 yX5_layKernel yX5_layKernel, 957), (Cond.initialized RX5, 62), (Cond.code yX5_layKernel cX5_layKernel 5 (some .int), 958)]) (by decide +kernel)) ⟨rfl, by decide, by decide, by decide +kernel⟩ ⟨Nat.le_of_ble_eq_true rfl, Nat.le_of_ble_eq_true rfl⟩ hK rfl rfl (L_cat _ r) rfl (fun r2 I2 J2 hK2 => ?_)
  obtain ⟨v, rfl, rfl, hSR2⟩ := hK2
  exact L_eq E (lw_dd lwk16 34 rfl) rfl (kk I2 J2 hSR2)
theorem L_layLeft (E : lEnv p s m meth c b L xs D cs d0) {k : Nat} (hi : i = nI k) (hk : k + 5 ≤ L) (hSR : SR I J) (kk : ∀ I1 J1, SR I1 J1 → LG p l e s m below meth c b D cs d0 1001 i [] I1 J1) : LG p l e s m below meth c b D cs d0 662 i [] I J := by
  refine L_al1 E (lw_dd lwk17 0 rfl) ?_
  refine L_arg E (k := k) 1 (lw_dd lwk17 1 rfl) (lw_dd lwk17 2 rfl) (lw_dd lwk17 3 rfl) (lw_dd lwk17 4 rfl) (lw_dd lwk17 5 rfl) rfl (by decide) hi hk ?_
  refine L_arg E (k := k) 2 (lw_dd lwk17 6 rfl) (lw_dd lwk17 7 rfl) (lw_dd lwk17 8 rfl) (lw_dd lwk17 9 rfl) (lw_dd lwk17 10 rfl) rfl (by decide) hi hk ?_
  refine L_call E (nA := 2) (rest := []) (i0 := 523) (ci := 4) mt_X4_layLeft (lw_dd lwk17 11 rfl) rfl rfl (m_wck_ok (l := [(Cond.methodLink R_law 82 yX4_layLeft, 558), (Cond.instanceMethod yX4_layLeft, 559), (Cond.selects RX4 yX4_layLeft yX4_layLeft, 560), (Cond.initialized RX4, 55), (Cond.code yX4_layLeft cX4_layLeft 7 (some .int), 561)]) (by decide +kernel)) ⟨rfl, by decide, by decide, by decide +kernel⟩ ⟨Nat.le_of_ble_eq_true rfl, Nat.le_of_ble_eq_true rfl⟩ (arm_layLeft (xs (k + 1)) (xs (k + 2)) I J hSR) rfl rfl (Nat.zero_le _) rfl (fun r I1 J1 hK => ?_)
  refine L_al2 E (lw_dd lwk17 12 rfl) ?_
  refine L_arg E (k := k) 1 (lw_dd lwk17 13 rfl) (lw_dd lwk17 14 rfl) (lw_dd lwk17 15 rfl) (lw_dd lwk17 16 rfl) (lw_dd lwk17 17 rfl) rfl (by decide) hi hk ?_
  refine L_arg E (k := k) 2 (lw_dd lwk17 18 rfl) (lw_dd lwk17 19 rfl) (lw_dd lwk17 20 rfl) (lw_dd lwk17 21 rfl) (lw_dd lwk17 22 rfl) rfl (by decide) hi hk ?_
  refine L_call E (nA := 2) (rest := (m_ol r).map (m_ev (adL d0)) ++ []) (i0 := 528) (ci := 5) mt_X5_layLeft (lw_dd lwk17 23 rfl) rfl rfl (m_wck_ok (l := [(Cond.methodLink R_law 85 yX5_layLeft, 961), (Cond.instanceMethod yX5_layLeft, 962), (Cond.selects RX5 yX5_layLeft yX5_layLeft, 963), (Cond.initialized RX5, 62), (Cond.code yX5_layLeft cX5_layLeft 4 (some .int), 964)]) (by decide +kernel)) ⟨rfl, by decide, by decide, by decide +kernel⟩ ⟨Nat.le_of_ble_eq_true rfl, Nat.le_of_ble_eq_true rfl⟩ hK rfl rfl (L_cat _ r) rfl (fun r2 I2 J2 hK2 => ?_)
  obtain ⟨v, rfl, rfl, hSR2⟩ := hK2
  exact L_eq E (lw_dd lwk17 24 rfl) rfl (kk I2 J2 hSR2)
theorem L_sign (E : lEnv p s m meth c b L xs D cs d0) {k : Nat} (hi : i = nI k) (hk : k + 5 ≤ L) (hSR : SR I J) (kk : ∀ I1 J1, SR I1 J1 → LG p l e s m below meth c b D cs d0 1001 i [] I1 J1) : LG p l e s m below meth c b D cs d0 695 i [] I J := by
  refine L_al1 E (lw_dd lwk18 0 rfl) ?_
  refine L_call E (nA := 0) (rest := []) (i0 := 523) (ci := 4) mt_X4_sign (lw_dd lwk18 1 rfl) rfl rfl (m_wck_ok (l := [(Cond.methodLink R_law 86 yX4_sign, 568), (Cond.instanceMethod yX4_sign, 569), (Cond.selects RX4 yX4_sign yX4_sign, 570), (Cond.initialized RX4, 55), (Cond.code yX4_sign cX4_sign 1 (some .int), 571)]) (by decide +kernel)) ⟨rfl, by decide, by decide, by decide +kernel⟩ ⟨Nat.le_of_ble_eq_true rfl, Nat.le_of_ble_eq_true rfl⟩ (arm_sign  I J hSR) rfl rfl (Nat.zero_le _) rfl (fun r I1 J1 hK => ?_)
  refine L_al2 E (lw_dd lwk18 2 rfl) ?_
  refine L_call E (nA := 0) (rest := (m_ol r).map (m_ev (adL d0)) ++ []) (i0 := 528) (ci := 5) mt_X5_sign (lw_dd lwk18 3 rfl) rfl rfl (m_wck_ok (l := [(Cond.methodLink R_law 89 yX5_sign, 969), (Cond.instanceMethod yX5_sign, 872), (Cond.selects RX5 yX5_sign yX5_sign, 873), (Cond.initialized RX5, 62), (Cond.code yX5_sign cX5_sign 1 (some .int), 874)]) (by decide +kernel)) ⟨rfl, by decide, by decide, by decide +kernel⟩ ⟨Nat.le_of_ble_eq_true rfl, Nat.le_of_ble_eq_true rfl⟩ hK rfl rfl (L_cat _ r) rfl (fun r2 I2 J2 hK2 => ?_)
  obtain ⟨v, rfl, rfl, hSR2⟩ := hK2
  exact L_eq E (lw_dd lwk18 4 rfl) rfl (kk I2 J2 hSR2)
theorem L_bits (E : lEnv p s m meth c b L xs D cs d0) {k : Nat} (hi : i = nI k) (hk : k + 5 ≤ L) (hSR : SR I J) (kk : ∀ I1 J1, SR I1 J1 → LG p l e s m below meth c b D cs d0 1001 i [] I1 J1) : LG p l e s m below meth c b D cs d0 708 i [] I J := by
  refine L_al1 E (lw_dd lwk19 0 rfl) ?_
  refine L_arg E (k := k) 1 (lw_dd lwk19 1 rfl) (lw_dd lwk19 2 rfl) (lw_dd lwk19 3 rfl) (lw_dd lwk19 4 rfl) (lw_dd lwk19 5 rfl) rfl (by decide) hi hk ?_
  refine L_call E (nA := 1) (rest := []) (i0 := 523) (ci := 4) mt_X4_bits (lw_dd lwk19 6 rfl) rfl rfl (m_wck_ok (l := [(Cond.methodLink R_law 90 yX4_bits, 573), (Cond.instanceMethod yX4_bits, 574), (Cond.selects RX4 yX4_bits yX4_bits, 575), (Cond.initialized RX4, 55), (Cond.code yX4_bits cX4_bits 2 (some .int), 576)]) (by decide +kernel)) ⟨rfl, by decide, by decide, by decide +kernel⟩ ⟨Nat.le_of_ble_eq_true rfl, Nat.le_of_ble_eq_true rfl⟩ (arm_bits (xs (k + 1)) I J hSR) rfl rfl (Nat.zero_le _) rfl (fun r I1 J1 hK => ?_)
  refine L_al2 E (lw_dd lwk19 7 rfl) ?_
  refine L_arg E (k := k) 1 (lw_dd lwk19 8 rfl) (lw_dd lwk19 9 rfl) (lw_dd lwk19 10 rfl) (lw_dd lwk19 11 rfl) (lw_dd lwk19 12 rfl) rfl (by decide) hi hk ?_
  refine L_call E (nA := 1) (rest := (m_ol r).map (m_ev (adL d0)) ++ []) (i0 := 528) (ci := 5) mt_X5_bits (lw_dd lwk19 13 rfl) rfl rfl (m_wck_ok (l := [(Cond.methodLink R_law 93 yX5_bits, 970), (Cond.instanceMethod yX5_bits, 971), (Cond.selects RX5 yX5_bits yX5_bits, 972), (Cond.initialized RX5, 62), (Cond.code yX5_bits cX5_bits 2 (some .int), 973)]) (by decide +kernel)) ⟨rfl, by decide, by decide, by decide +kernel⟩ ⟨Nat.le_of_ble_eq_true rfl, Nat.le_of_ble_eq_true rfl⟩ hK rfl rfl (L_cat _ r) rfl (fun r2 I2 J2 hK2 => ?_)
  obtain ⟨v, rfl, rfl, hSR2⟩ := hK2
  exact L_eq E (lw_dd lwk19 14 rfl) rfl (kk I2 J2 hSR2)
theorem L_word (E : lEnv p s m meth c b L xs D cs d0) {k : Nat} (hi : i = nI k) (hk : k + 5 ≤ L) (hSR : SR I J) (kk : ∀ I1 J1, SR I1 J1 → LG p l e s m below meth c b D cs d0 1001 i [] I1 J1) : LG p l e s m below meth c b D cs d0 731 i [] I J := by
  refine L_al1 E (lw_dd lwk20 0 rfl) ?_
  refine L_arg E (k := k) 1 (lw_dd lwk20 1 rfl) (lw_dd lwk20 2 rfl) (lw_dd lwk20 3 rfl) (lw_dd lwk20 4 rfl) (lw_dd lwk20 5 rfl) rfl (by decide) hi hk ?_
  refine L_arg E (k := k) 2 (lw_dd lwk20 6 rfl) (lw_dd lwk20 7 rfl) (lw_dd lwk20 8 rfl) (lw_dd lwk20 9 rfl) (lw_dd lwk20 10 rfl) rfl (by decide) hi hk ?_
  refine L_call E (nA := 2) (rest := []) (i0 := 523) (ci := 4) mt_X4_word (lw_dd lwk20 11 rfl) rfl rfl (m_wck_ok (l := [(Cond.methodLink R_law 94 yX4_word, 599), (Cond.instanceMethod yX4_word, 600), (Cond.selects RX4 yX4_word yX4_word, 601), (Cond.initialized RX4, 55), (Cond.code yX4_word cX4_word 3 (some .int), 602)]) (by decide +kernel)) ⟨rfl, by decide, by decide, by decide +kernel⟩ ⟨Nat.le_of_ble_eq_true rfl, Nat.le_of_ble_eq_true rfl⟩ (arm_word (xs (k + 1)) (xs (k + 2)) I J hSR) rfl rfl (Nat.zero_le _) rfl (fun r I1 J1 hK => ?_)
  refine L_al2 E (lw_dd lwk20 12 rfl) ?_
  refine L_arg E (k := k) 1 (lw_dd lwk20 13 rfl) (lw_dd lwk20 14 rfl) (lw_dd lwk20 15 rfl) (lw_dd lwk20 16 rfl) (lw_dd lwk20 17 rfl) rfl (by decide) hi hk ?_
  refine L_arg E (k := k) 2 (lw_dd lwk20 18 rfl) (lw_dd lwk20 19 rfl) (lw_dd lwk20 20 rfl) (lw_dd lwk20 21 rfl) (lw_dd lwk20 22 rfl) rfl (by decide) hi hk ?_
  refine L_call E (nA := 2) (rest := (m_ol r).map (m_ev (adL d0)) ++ []) (i0 := 528) (ci := 5) mt_X5_word (lw_dd lwk20 23 rfl) rfl rfl (m_wck_ok (l := [(Cond.methodLink R_law 97 yX5_word, 974), (Cond.instanceMethod yX5_word, 975), (Cond.selects RX5 yX5_word yX5_word, 976), (Cond.initialized RX5, 62), (Cond.code yX5_word cX5_word 9 (some .int), 977)]) (by decide +kernel)) ⟨rfl, by decide, by decide, by decide +kernel⟩ ⟨Nat.le_of_ble_eq_true rfl, Nat.le_of_ble_eq_true rfl⟩ hK rfl rfl (L_cat _ r) rfl (fun r2 I2 J2 hK2 => ?_)
  obtain ⟨v, rfl, rfl, hSR2⟩ := hK2
  exact L_eq E (lw_dd lwk20 24 rfl) rfl (kk I2 J2 hSR2)
theorem L_against (E : lEnv p s m meth c b L xs D cs d0) {k : Nat} (hi : i = nI k) (hk : k + 5 ≤ L) (hSR : SR I J) (kk : ∀ I1 J1, SR I1 J1 → LG p l e s m below meth c b D cs d0 1001 i [] I1 J1) : LG p l e s m below meth c b D cs d0 764 i [] I J := by
  refine L_al1 E (lw_dd lwk21 0 rfl) ?_
  refine L_arg E (k := k) 1 (lw_dd lwk21 1 rfl) (lw_dd lwk21 2 rfl) (lw_dd lwk21 3 rfl) (lw_dd lwk21 4 rfl) (lw_dd lwk21 5 rfl) rfl (by decide) hi hk ?_
  refine L_arg E (k := k) 2 (lw_dd lwk21 6 rfl) (lw_dd lwk21 7 rfl) (lw_dd lwk21 8 rfl) (lw_dd lwk21 9 rfl) (lw_dd lwk21 10 rfl) rfl (by decide) hi hk ?_
  refine L_call E (nA := 2) (rest := []) (i0 := 523) (ci := 4) mt_X4_against (lw_dd lwk21 11 rfl) rfl rfl (m_wck_ok (l := [(Cond.methodLink R_law 98 yX4_against, 608), (Cond.instanceMethod yX4_against, 609), (Cond.selects RX4 yX4_against yX4_against, 610), (Cond.initialized RX4, 55), (Cond.code yX4_against cX4_against 3 (some .int), 611)]) (by decide +kernel)) ⟨rfl, by decide, by decide, by decide +kernel⟩ ⟨Nat.le_of_ble_eq_true rfl, Nat.le_of_ble_eq_true rfl⟩ (arm_against (xs (k + 1)) (xs (k + 2)) I J hSR) rfl rfl (Nat.zero_le _) rfl (fun r I1 J1 hK => ?_)
  refine L_al2 E (lw_dd lwk21 12 rfl) ?_
  refine L_arg E (k := k) 1 (lw_dd lwk21 13 rfl) (lw_dd lwk21 14 rfl) (lw_dd lwk21 15 rfl) (lw_dd lwk21 16 rfl) (lw_dd lwk21 17 rfl) rfl (by decide) hi hk ?_
  refine L_arg E (k := k) 2 (lw_dd lwk21 18 rfl) (lw_dd lwk21 19 rfl) (lw_dd lwk21 20 rfl) (lw_dd lwk21 21 rfl) (lw_dd lwk21 22 rfl) rfl (by decide) hi hk ?_
  refine L_call E (nA := 2) (rest := (m_ol r).map (m_ev (adL d0)) ++ []) (i0 := 528) (ci := 5) mt_X5_against (lw_dd lwk21 23 rfl) rfl rfl (m_wck_ok (l := [(Cond.methodLink R_law 101 yX5_against, 980), (Cond.instanceMethod yX5_against, 981), (Cond.selects RX5 yX5_against yX5_against, 982), (Cond.initialized RX5, 62), (Cond.code yX5_against cX5_against 3 (some .int), 983)]) (by decide +kernel)) ⟨rfl, by decide, by decide, by decide +kernel⟩ ⟨Nat.le_of_ble_eq_true rfl, Nat.le_of_ble_eq_true rfl⟩ hK rfl rfl (L_cat _ r) rfl (fun r2 I2 J2 hK2 => ?_)
  obtain ⟨v, rfl, rfl, hSR2⟩ := hK2
  exact L_eq E (lw_dd lwk21 24 rfl) rfl (kk I2 J2 hSR2)
theorem L_below (E : lEnv p s m meth c b L xs D cs d0) {k : Nat} (hi : i = nI k) (hk : k + 5 ≤ L) (hSR : SR I J) (kk : ∀ I1 J1, SR I1 J1 → LG p l e s m below meth c b D cs d0 1001 i [] I1 J1) : LG p l e s m below meth c b D cs d0 797 i [] I J := by
  refine L_al1 E (lw_dd lwk22 0 rfl) ?_
  refine L_arg E (k := k) 1 (lw_dd lwk22 1 rfl) (lw_dd lwk22 2 rfl) (lw_dd lwk22 3 rfl) (lw_dd lwk22 4 rfl) (lw_dd lwk22 5 rfl) rfl (by decide) hi hk ?_
  refine L_arg E (k := k) 2 (lw_dd lwk22 6 rfl) (lw_dd lwk22 7 rfl) (lw_dd lwk22 8 rfl) (lw_dd lwk22 9 rfl) (lw_dd lwk22 10 rfl) rfl (by decide) hi hk ?_
  refine L_arg E (k := k) 3 (lw_dd lwk22 11 rfl) (lw_dd lwk22 12 rfl) (lw_dd lwk22 13 rfl) (lw_dd lwk22 14 rfl) (lw_dd lwk22 15 rfl) rfl (by decide) hi hk ?_
  refine L_call E (nA := 3) (rest := []) (i0 := 523) (ci := 4) mt_X4_below (lw_dd lwk22 16 rfl) rfl rfl (m_wck_ok (l := [(Cond.methodLink R_law 102 yX4_below, 613), (Cond.instanceMethod yX4_below, 614), (Cond.selects RX4 yX4_below yX4_below, 615), (Cond.initialized RX4, 55), (Cond.code yX4_below cX4_below 5 (some .int), 616)]) (by decide +kernel)) ⟨rfl, by decide, by decide, by decide +kernel⟩ ⟨Nat.le_of_ble_eq_true rfl, Nat.le_of_ble_eq_true rfl⟩ (arm_below (xs (k + 1)) (xs (k + 2)) (xs (k + 3)) I J hSR) rfl rfl (Nat.zero_le _) rfl (fun r I1 J1 hK => ?_)
  refine L_al2 E (lw_dd lwk22 17 rfl) ?_
  refine L_arg E (k := k) 1 (lw_dd lwk22 18 rfl) (lw_dd lwk22 19 rfl) (lw_dd lwk22 20 rfl) (lw_dd lwk22 21 rfl) (lw_dd lwk22 22 rfl) rfl (by decide) hi hk ?_
  refine L_arg E (k := k) 2 (lw_dd lwk22 23 rfl) (lw_dd lwk22 24 rfl) (lw_dd lwk22 25 rfl) (lw_dd lwk22 26 rfl) (lw_dd lwk22 27 rfl) rfl (by decide) hi hk ?_
  refine L_arg E (k := k) 3 (lw_dd lwk22 28 rfl) (lw_dd lwk22 29 rfl) (lw_dd lwk22 30 rfl) (lw_dd lwk22 31 rfl) (lw_dd lwk22 32 rfl) rfl (by decide) hi hk ?_
  refine L_call E (nA := 3) (rest := (m_ol r).map (m_ev (adL d0)) ++ []) (i0 := 528) (ci := 5) mt_X5_below (lw_dd lwk22 33 rfl) rfl rfl (m_wck_ok (l := [(Cond.methodLink R_law 105 yX5_below, 984), (Cond.instanceMethod yX5_below, 985), (Cond.selects RX5 yX5_below yX5_below, 986), (Cond.initialized RX5, 62), (Cond.code yX5_below cX5_below 4 (some .int), 987)]) (by decide +kernel)) ⟨rfl, by decide, by decide, by decide +kernel⟩ ⟨Nat.le_of_ble_eq_true rfl, Nat.le_of_ble_eq_true rfl⟩ hK rfl rfl (L_cat _ r) rfl (fun r2 I2 J2 hK2 => ?_)
  obtain ⟨v, rfl, rfl, hSR2⟩ := hK2
  exact L_eq E (lw_dd lwk22 34 rfl) rfl (kk I2 J2 hSR2)
theorem L_shut (E : lEnv p s m meth c b L xs D cs d0) {k : Nat} (hi : i = nI k) (hk : k + 5 ≤ L) (hSR : SR I J) (kk : ∀ I1 J1, SR I1 J1 → LG p l e s m below meth c b D cs d0 1001 i [] I1 J1) : LG p l e s m below meth c b D cs d0 840 i [] I J := by
  refine L_al1 E (lw_dd lwk23 0 rfl) ?_
  refine L_arg E (k := k) 1 (lw_dd lwk23 1 rfl) (lw_dd lwk23 2 rfl) (lw_dd lwk23 3 rfl) (lw_dd lwk23 4 rfl) (lw_dd lwk23 5 rfl) rfl (by decide) hi hk ?_
  refine L_arg E (k := k) 2 (lw_dd lwk23 6 rfl) (lw_dd lwk23 7 rfl) (lw_dd lwk23 8 rfl) (lw_dd lwk23 9 rfl) (lw_dd lwk23 10 rfl) rfl (by decide) hi hk ?_
  refine L_arg E (k := k) 3 (lw_dd lwk23 11 rfl) (lw_dd lwk23 12 rfl) (lw_dd lwk23 13 rfl) (lw_dd lwk23 14 rfl) (lw_dd lwk23 15 rfl) rfl (by decide) hi hk ?_
  refine L_call E (nA := 3) (rest := []) (i0 := 523) (ci := 4) mt_X4_shut (lw_dd lwk23 16 rfl) rfl rfl (m_wck_ok (l := [(Cond.methodLink R_law 106 yX4_shut, 627), (Cond.instanceMethod yX4_shut, 628), (Cond.selects RX4 yX4_shut yX4_shut, 629), (Cond.initialized RX4, 55), (Cond.code yX4_shut cX4_shut 10 (some .int), 630)]) (by decide +kernel)) ⟨rfl, by decide, by decide, by decide +kernel⟩ ⟨Nat.le_of_ble_eq_true rfl, Nat.le_of_ble_eq_true rfl⟩ (arm_shut (xs (k + 1)) (xs (k + 2)) (xs (k + 3)) I J hSR) rfl rfl (Nat.zero_le _) rfl (fun r I1 J1 hK => ?_)
  refine L_al2 E (lw_dd lwk23 17 rfl) ?_
  refine L_arg E (k := k) 1 (lw_dd lwk23 18 rfl) (lw_dd lwk23 19 rfl) (lw_dd lwk23 20 rfl) (lw_dd lwk23 21 rfl) (lw_dd lwk23 22 rfl) rfl (by decide) hi hk ?_
  refine L_arg E (k := k) 2 (lw_dd lwk23 23 rfl) (lw_dd lwk23 24 rfl) (lw_dd lwk23 25 rfl) (lw_dd lwk23 26 rfl) (lw_dd lwk23 27 rfl) rfl (by decide) hi hk ?_
  refine L_arg E (k := k) 3 (lw_dd lwk23 28 rfl) (lw_dd lwk23 29 rfl) (lw_dd lwk23 30 rfl) (lw_dd lwk23 31 rfl) (lw_dd lwk23 32 rfl) rfl (by decide) hi hk ?_
  refine L_call E (nA := 3) (rest := (m_ol r).map (m_ev (adL d0)) ++ []) (i0 := 528) (ci := 5) mt_X5_shut (lw_dd lwk23 33 rfl) rfl rfl (m_wck_ok (l := [(Cond.methodLink R_law 109 yX5_shut, 996), (Cond.instanceMethod yX5_shut, 997), (Cond.selects RX5 yX5_shut yX5_shut, 998), (Cond.initialized RX5, 62), (Cond.code yX5_shut cX5_shut 12 (some .int), 999)]) (by decide +kernel)) ⟨rfl, by decide, by decide, by decide +kernel⟩ ⟨Nat.le_of_ble_eq_true rfl, Nat.le_of_ble_eq_true rfl⟩ hK rfl rfl (L_cat _ r) rfl (fun r2 I2 J2 hK2 => ?_)
  obtain ⟨v, rfl, rfl, hSR2⟩ := hK2
  exact L_eq E (lw_dd lwk23 34 rfl) rfl (kk I2 J2 hSR2)
theorem L_good (E : lEnv p s m meth c b L xs D cs d0) {k : Nat} (hi : i = nI k) (hk : k + 5 ≤ L) (hSR : SR I J) (kk : ∀ I1 J1, SR I1 J1 → LG p l e s m below meth c b D cs d0 1001 i [] I1 J1) : LG p l e s m below meth c b D cs d0 883 i [] I J := by
  refine L_al1 E (lw_dd lwk24 0 rfl) ?_
  refine L_call E (nA := 0) (rest := []) (i0 := 523) (ci := 4) mt_X4_good (lw_dd lwk24 1 rfl) rfl rfl (m_wck_ok (l := [(Cond.methodLink R_law 110 yX4_good, 635), (Cond.instanceMethod yX4_good, 636), (Cond.selects RX4 yX4_good yX4_good, 637), (Cond.initialized RX4, 55), (Cond.code yX4_good cX4_good 1 (some .int), 638)]) (by decide +kernel)) ⟨rfl, by decide, by decide, by decide +kernel⟩ ⟨Nat.le_of_ble_eq_true rfl, Nat.le_of_ble_eq_true rfl⟩ (arm_good  I J hSR) rfl rfl (Nat.zero_le _) rfl (fun r I1 J1 hK => ?_)
  refine L_al2 E (lw_dd lwk24 2 rfl) ?_
  refine L_call E (nA := 0) (rest := (m_ol r).map (m_ev (adL d0)) ++ []) (i0 := 528) (ci := 5) mt_X5_good (lw_dd lwk24 3 rfl) rfl rfl (m_wck_ok (l := [(Cond.methodLink R_law 113 yX5_good, 1007), (Cond.instanceMethod yX5_good, 1008), (Cond.selects RX5 yX5_good yX5_good, 1009), (Cond.initialized RX5, 62), (Cond.code yX5_good cX5_good 2 (some .int), 1010)]) (by decide +kernel)) ⟨rfl, by decide, by decide, by decide +kernel⟩ ⟨Nat.le_of_ble_eq_true rfl, Nat.le_of_ble_eq_true rfl⟩ hK rfl rfl (L_cat _ r) rfl (fun r2 I2 J2 hK2 => ?_)
  obtain ⟨v, rfl, rfl, hSR2⟩ := hK2
  exact L_eq E (lw_dd lwk24 4 rfl) rfl (kk I2 J2 hSR2)
theorem L_few (E : lEnv p s m meth c b L xs D cs d0) {k : Nat} (hi : i = nI k) (hk : k + 5 ≤ L) (hSR : SR I J) (kk : ∀ I1 J1, SR I1 J1 → LG p l e s m below meth c b D cs d0 1001 i [] I1 J1) : LG p l e s m below meth c b D cs d0 896 i [] I J := by
  refine L_al1 E (lw_dd lwk25 0 rfl) ?_
  refine L_call E (nA := 0) (rest := []) (i0 := 523) (ci := 4) mt_X4_few (lw_dd lwk25 1 rfl) rfl rfl (m_wck_ok (l := [(Cond.methodLink R_law 114 yX4_few, 639), (Cond.instanceMethod yX4_few, 640), (Cond.selects RX4 yX4_few yX4_few, 641), (Cond.initialized RX4, 55), (Cond.code yX4_few cX4_few 4 (some .int), 642)]) (by decide +kernel)) ⟨rfl, by decide, by decide, by decide +kernel⟩ ⟨Nat.le_of_ble_eq_true rfl, Nat.le_of_ble_eq_true rfl⟩ (arm_few  I J hSR) rfl rfl (Nat.zero_le _) rfl (fun r I1 J1 hK => ?_)
  refine L_al2 E (lw_dd lwk25 2 rfl) ?_
  refine L_call E (nA := 0) (rest := (m_ol r).map (m_ev (adL d0)) ++ []) (i0 := 528) (ci := 5) mt_X5_few (lw_dd lwk25 3 rfl) rfl rfl (m_wck_ok (l := [(Cond.methodLink R_law 117 yX5_few, 1011), (Cond.instanceMethod yX5_few, 1012), (Cond.selects RX5 yX5_few yX5_few, 1013), (Cond.initialized RX5, 62), (Cond.code yX5_few cX5_few 4 (some .int), 1014)]) (by decide +kernel)) ⟨rfl, by decide, by decide, by decide +kernel⟩ ⟨Nat.le_of_ble_eq_true rfl, Nat.le_of_ble_eq_true rfl⟩ hK rfl rfl (L_cat _ r) rfl (fun r2 I2 J2 hK2 => ?_)
  obtain ⟨v, rfl, rfl, hSR2⟩ := hK2
  exact L_eq E (lw_dd lwk25 4 rfl) rfl (kk I2 J2 hSR2)
theorem L_told (E : lEnv p s m meth c b L xs D cs d0) {k : Nat} (hi : i = nI k) (hk : k + 5 ≤ L) (hSR : SR I J) (kk : ∀ I1 J1, SR I1 J1 → LG p l e s m below meth c b D cs d0 1001 i [] I1 J1) : LG p l e s m below meth c b D cs d0 909 i [] I J := by
  refine L_al1 E (lw_dd lwk26 0 rfl) ?_
  refine L_arg E (k := k) 1 (lw_dd lwk26 1 rfl) (lw_dd lwk26 2 rfl) (lw_dd lwk26 3 rfl) (lw_dd lwk26 4 rfl) (lw_dd lwk26 5 rfl) rfl (by decide) hi hk ?_
  refine L_call E (nA := 1) (rest := []) (i0 := 523) (ci := 4) mt_X4_told (lw_dd lwk26 6 rfl) rfl rfl (m_wck_ok (l := [(Cond.methodLink R_law 118 yX4_told, 643), (Cond.instanceMethod yX4_told, 644), (Cond.selects RX4 yX4_told yX4_told, 645), (Cond.initialized RX4, 55), (Cond.code yX4_told cX4_told 2 (some .int), 646)]) (by decide +kernel)) ⟨rfl, by decide, by decide, by decide +kernel⟩ ⟨Nat.le_of_ble_eq_true rfl, Nat.le_of_ble_eq_true rfl⟩ (arm_told (xs (k + 1)) I J hSR) rfl rfl (Nat.zero_le _) rfl (fun r I1 J1 hK => ?_)
  refine L_al2 E (lw_dd lwk26 7 rfl) ?_
  refine L_arg E (k := k) 1 (lw_dd lwk26 8 rfl) (lw_dd lwk26 9 rfl) (lw_dd lwk26 10 rfl) (lw_dd lwk26 11 rfl) (lw_dd lwk26 12 rfl) rfl (by decide) hi hk ?_
  refine L_call E (nA := 1) (rest := (m_ol r).map (m_ev (adL d0)) ++ []) (i0 := 528) (ci := 5) mt_X5_told (lw_dd lwk26 13 rfl) rfl rfl (m_wck_ok (l := [(Cond.methodLink R_law 121 yX5_told, 1016), (Cond.instanceMethod yX5_told, 1017), (Cond.selects RX5 yX5_told yX5_told, 1018), (Cond.initialized RX5, 62), (Cond.code yX5_told cX5_told 2 (some .int), 1019)]) (by decide +kernel)) ⟨rfl, by decide, by decide, by decide +kernel⟩ ⟨Nat.le_of_ble_eq_true rfl, Nat.le_of_ble_eq_true rfl⟩ hK rfl rfl (L_cat _ r) rfl (fun r2 I2 J2 hK2 => ?_)
  obtain ⟨v, rfl, rfl, hSR2⟩ := hK2
  exact L_eq E (lw_dd lwk26 14 rfl) rfl (kk I2 J2 hSR2)
theorem L_keep (E : lEnv p s m meth c b L xs D cs d0) {k : Nat} (hi : i = nI k) (hk : k + 5 ≤ L) (hSR : SR I J) (kk : ∀ I1 J1, SR I1 J1 → LG p l e s m below meth c b D cs d0 1001 i [] I1 J1) : LG p l e s m below meth c b D cs d0 932 i [] I J := by
  refine L_al1 E (lw_dd lwk27 0 rfl) ?_
  refine L_arg E (k := k) 1 (lw_dd lwk27 1 rfl) (lw_dd lwk27 2 rfl) (lw_dd lwk27 3 rfl) (lw_dd lwk27 4 rfl) (lw_dd lwk27 5 rfl) rfl (by decide) hi hk ?_
  refine L_call E (nA := 1) (rest := []) (i0 := 523) (ci := 4) mt_X4_keep (lw_dd lwk27 6 rfl) rfl rfl (m_wck_ok (l := [(Cond.methodLink R_law 122 yX4_keep, 647), (Cond.instanceMethod yX4_keep, 648), (Cond.selects RX4 yX4_keep yX4_keep, 649), (Cond.initialized RX4, 55), (Cond.code yX4_keep cX4_keep 2 (some .int), 650)]) (by decide +kernel)) ⟨rfl, by decide, by decide, by decide +kernel⟩ ⟨Nat.le_of_ble_eq_true rfl, Nat.le_of_ble_eq_true rfl⟩ (arm_keep (xs (k + 1)) I J hSR) rfl rfl (Nat.zero_le _) rfl (fun r I1 J1 hK => ?_)
  refine L_al2 E (lw_dd lwk27 7 rfl) ?_
  refine L_arg E (k := k) 1 (lw_dd lwk27 8 rfl) (lw_dd lwk27 9 rfl) (lw_dd lwk27 10 rfl) (lw_dd lwk27 11 rfl) (lw_dd lwk27 12 rfl) rfl (by decide) hi hk ?_
  refine L_call E (nA := 1) (rest := (m_ol r).map (m_ev (adL d0)) ++ []) (i0 := 528) (ci := 5) mt_X5_keep (lw_dd lwk27 13 rfl) rfl rfl (m_wck_ok (l := [(Cond.methodLink R_law 125 yX5_keep, 1020), (Cond.instanceMethod yX5_keep, 1021), (Cond.selects RX5 yX5_keep yX5_keep, 1022), (Cond.initialized RX5, 62), (Cond.code yX5_keep cX5_keep 3 (some .int), 1023)]) (by decide +kernel)) ⟨rfl, by decide, by decide, by decide +kernel⟩ ⟨Nat.le_of_ble_eq_true rfl, Nat.le_of_ble_eq_true rfl⟩ hK rfl rfl (L_cat _ r) rfl (fun r2 I2 J2 hK2 => ?_)
  obtain ⟨v, rfl, rfl, hSR2⟩ := hK2
  exact L_eq E (lw_dd lwk27 14 rfl) rfl (kk I2 J2 hSR2)
theorem L_back (E : lEnv p s m meth c b L xs D cs d0) {k : Nat} (hi : i = nI k) (hk : k + 5 ≤ L) (hSR : SR I J) (kk : ∀ I1 J1, SR I1 J1 → LG p l e s m below meth c b D cs d0 1001 i [] I1 J1) : LG p l e s m below meth c b D cs d0 955 i [] I J := by
  refine L_al1 E (lw_dd lwk28 0 rfl) ?_
  refine L_arg E (k := k) 1 (lw_dd lwk28 1 rfl) (lw_dd lwk28 2 rfl) (lw_dd lwk28 3 rfl) (lw_dd lwk28 4 rfl) (lw_dd lwk28 5 rfl) rfl (by decide) hi hk ?_
  refine L_call E (nA := 1) (rest := []) (i0 := 523) (ci := 4) mt_X4_back (lw_dd lwk28 6 rfl) rfl rfl (m_wck_ok (l := [(Cond.methodLink R_law 126 yX4_back, 655), (Cond.instanceMethod yX4_back, 656), (Cond.selects RX4 yX4_back yX4_back, 657), (Cond.initialized RX4, 55), (Cond.code yX4_back cX4_back 2 (some .int), 658)]) (by decide +kernel)) ⟨rfl, by decide, by decide, by decide +kernel⟩ ⟨Nat.le_of_ble_eq_true rfl, Nat.le_of_ble_eq_true rfl⟩ (arm_back (xs (k + 1)) I J hSR) rfl rfl (Nat.zero_le _) rfl (fun r I1 J1 hK => ?_)
  refine L_al2 E (lw_dd lwk28 7 rfl) ?_
  refine L_arg E (k := k) 1 (lw_dd lwk28 8 rfl) (lw_dd lwk28 9 rfl) (lw_dd lwk28 10 rfl) (lw_dd lwk28 11 rfl) (lw_dd lwk28 12 rfl) rfl (by decide) hi hk ?_
  refine L_call E (nA := 1) (rest := (m_ol r).map (m_ev (adL d0)) ++ []) (i0 := 528) (ci := 5) mt_X5_back (lw_dd lwk28 13 rfl) rfl rfl (m_wck_ok (l := [(Cond.methodLink R_law 129 yX5_back, 1024), (Cond.instanceMethod yX5_back, 1025), (Cond.selects RX5 yX5_back yX5_back, 1026), (Cond.initialized RX5, 62), (Cond.code yX5_back cX5_back 3 (some .int), 1027)]) (by decide +kernel)) ⟨rfl, by decide, by decide, by decide +kernel⟩ ⟨Nat.le_of_ble_eq_true rfl, Nat.le_of_ble_eq_true rfl⟩ hK rfl rfl (L_cat _ r) rfl (fun r2 I2 J2 hK2 => ?_)
  obtain ⟨v, rfl, rfl, hSR2⟩ := hK2
  exact L_eq E (lw_dd lwk28 14 rfl) rfl (kk I2 J2 hSR2)
theorem L_differs (E : lEnv p s m meth c b L xs D cs d0) {k : Nat} (hi : i = nI k) (hk : k + 5 ≤ L) (hSR : SR I J) (kk : ∀ I1 J1, SR I1 J1 → LG p l e s m below meth c b D cs d0 1001 i [] I1 J1) : LG p l e s m below meth c b D cs d0 978 i [] I J := by
  refine L_al1 E (lw_dd lwk29 0 rfl) ?_
  refine L_arg E (k := k) 1 (lw_dd lwk29 1 rfl) (lw_dd lwk29 2 rfl) (lw_dd lwk29 3 rfl) (lw_dd lwk29 4 rfl) (lw_dd lwk29 5 rfl) rfl (by decide) hi hk ?_
  refine L_call E (nA := 1) (rest := []) (i0 := 523) (ci := 4) mt_X4_differs (lw_dd lwk29 6 rfl) rfl rfl (m_wck_ok (l := [(Cond.methodLink R_law 130 yX4_differs, 663), (Cond.instanceMethod yX4_differs, 664), (Cond.selects RX4 yX4_differs yX4_differs, 665), (Cond.initialized RX4, 55), (Cond.code yX4_differs cX4_differs 5 (some .int), 666)]) (by decide +kernel)) ⟨rfl, by decide, by decide, by decide +kernel⟩ ⟨Nat.le_of_ble_eq_true rfl, Nat.le_of_ble_eq_true rfl⟩ (arm_differs (xs (k + 1)) I J hSR) rfl rfl (Nat.zero_le _) rfl (fun r I1 J1 hK => ?_)
  refine L_al2 E (lw_dd lwk29 7 rfl) ?_
  refine L_arg E (k := k) 1 (lw_dd lwk29 8 rfl) (lw_dd lwk29 9 rfl) (lw_dd lwk29 10 rfl) (lw_dd lwk29 11 rfl) (lw_dd lwk29 12 rfl) rfl (by decide) hi hk ?_
  refine L_call E (nA := 1) (rest := (m_ol r).map (m_ev (adL d0)) ++ []) (i0 := 528) (ci := 5) mt_X5_differs (lw_dd lwk29 13 rfl) rfl rfl (m_wck_ok (l := [(Cond.methodLink R_law 133 yX5_differs, 1036), (Cond.instanceMethod yX5_differs, 1037), (Cond.selects RX5 yX5_differs yX5_differs, 1038), (Cond.initialized RX5, 62), (Cond.code yX5_differs cX5_differs 7 (some .int), 1039)]) (by decide +kernel)) ⟨rfl, by decide, by decide, by decide +kernel⟩ ⟨Nat.le_of_ble_eq_true rfl, Nat.le_of_ble_eq_true rfl⟩ hK rfl rfl (L_cat _ r) rfl (fun r2 I2 J2 hK2 => ?_)
  obtain ⟨v, rfl, rfl, hSR2⟩ := hK2
  exact L_eq E (lw_dd lwk29 14 rfl) rfl (kk I2 J2 hSR2)
end LGA
