/-! ===== the law: its round ===== -/
section LGL
variable {p : Program} {l : Launch} {e : Env} {s : State} {m : MethodId} {below : List Frame} {meth : Method} {c : Code} {b L : Nat} {xs : Nat → Int32} {D : va_G} {cs : Nat → ClassId} {d0 : Nat}
theorem L_inc (E : lEnv p s m meth c b L xs D cs d0) {k : Nat} {I : mPI} {J : mPJ} (kk : LG p l e s m below meth c b D cs d0 18 (nI (k + 5)) [] I J) : LG p l e s m below meth c b D cs d0 1001 (nI k) [] I J := fun H locs ls hP hS hl => by
  refine lv_iinc E.1 E.2.1 (k := 3) (v := nI (k + 5)) (lw_dd lwk30 0 rfl) hl rfl ?_ (by decide) rfl (fun ls1 hl1 => ?_)
  · rw [← nI_add]
    rfl
  · exact lv_goto E.1 E.2.1 (lw_dd lwk30 1 rfl) rfl (kk H locs ls1 hP hS (lv_sub hl1 [1, 2, 3, 0] rfl))
theorem L_end (E : lEnv p s m meth c b L xs D cs d0) {i : Int32} {I : mPI} {J : mPJ} : LG p l e s m below meth c b D cs d0 1007 i [] I J := fun H locs ls hP hS hl => by
  refine lv_iconst E.1 E.2.1 (v := 1) (lw_dd lwk30 2 rfl) rfl ?_
  refine va_forget (fun q hq => hS.2.2 q hq) ?_
  refine W.widen (k := 600000) (n := 7302250) (Nat.le_of_ble_eq_true rfl) (Nat.le_of_ble_eq_true rfl) ?_
  exact lw_ret E.1 E.2.1 E.2.2.2.2.2.2.2.2.2.2.1 E.2.2.2.2.2.2.2.2.2.2.2 (lw_dd lwk30 3 rfl)

theorem L_pick (E : lEnv p s m meth c b L xs D cs d0) {k : Nat} {I : mPI} {J : mPJ} (hk : k + 5 ≤ L) (hSR : SR I J) (kk : ∀ I1 J1, SR I1 J1 → LG p l e s m below meth c b D cs d0 1001 (nI k) [] I1 J1) : ∀ j, j < 32 → LG p l e s m below meth c b D cs d0 32 (nI k) [.int (nI j)] I J := fun j hj H locs ls hP hS hl => by
  rcases (show j = 0 ∨ j = 1 ∨ j = 2 ∨ j = 3 ∨ j = 4 ∨ j = 5 ∨ j = 6 ∨ j = 7 ∨ j = 8 ∨ j = 9 ∨ j = 10 ∨ j = 11 ∨ j = 12 ∨ j = 13 ∨ j = 14 ∨ j = 15 ∨ j = 16 ∨ j = 17 ∨ j = 18 ∨ j = 19 ∨ j = 20 ∨ j = 21 ∨ j = 22 ∨ j = 23 ∨ j = 24 ∨ j = 25 ∨ j = 26 ∨ j = 27 ∨ j = 28 ∨ j = 29 ∨ j = 30 ∨ j = 31 by omega) with rfl | rfl | rfl | rfl | rfl | rfl | rfl | rfl | rfl | rfl | rfl | rfl | rfl | rfl | rfl | rfl | rfl | rfl | rfl | rfl | rfl | rfl | rfl | rfl | rfl | rfl | rfl | rfl | rfl | rfl | rfl | rfl
  · exact lv_tableIn E.1 E.2.1 (tgt := 164) (lw_dd lwk0 21 rfl) (by decide) (by decide) rfl rfl (L_clear E rfl hk hSR kk H locs ls hP hS hl)
  · exact lv_tableIn E.1 E.2.1 (tgt := 177) (lw_dd lwk0 21 rfl) (by decide) (by decide) rfl rfl (L_point E rfl hk hSR kk H locs ls hP hS hl)
  · exact lv_tableIn E.1 E.2.1 (tgt := 210) (lw_dd lwk0 21 rfl) (by decide) (by decide) rfl rfl (L_moment E rfl hk hSR kk H locs ls hP hS hl)
  · exact lv_tableIn E.1 E.2.1 (tgt := 243) (lw_dd lwk0 21 rfl) (by decide) (by decide) rfl rfl (L_span E rfl hk hSR kk H locs ls hP hS hl)
  · exact lv_tableIn E.1 E.2.1 (tgt := 276) (lw_dd lwk0 21 rfl) (by decide) (by decide) rfl rfl (L_counted E rfl hk hSR kk H locs ls hP hS hl)
  · exact lv_tableIn E.1 E.2.1 (tgt := 329) (lw_dd lwk0 21 rfl) (by decide) (by decide) rfl rfl (L_by E rfl hk hSR kk H locs ls hP hS hl)
  · exact lv_tableIn E.1 E.2.1 (tgt := 352) (lw_dd lwk0 21 rfl) (by decide) (by decide) rfl rfl (L_mirror E rfl hk hSR kk H locs ls hP hS hl)
  · exact lv_tableIn E.1 E.2.1 (tgt := 375) (lw_dd lwk0 21 rfl) (by decide) (by decide) rfl rfl (L_layMoment E rfl hk hSR kk H locs ls hP hS hl)
  · exact lv_tableIn E.1 E.2.1 (tgt := 398) (lw_dd lwk0 21 rfl) (by decide) (by decide) rfl rfl (L_layWorth E rfl hk hSR kk H locs ls hP hS hl)
  · exact lv_tableIn E.1 E.2.1 (tgt := 421) (lw_dd lwk0 21 rfl) (by decide) (by decide) rfl rfl (L_layDeterminant E rfl hk hSR kk H locs ls hP hS hl)
  · exact lv_tableIn E.1 E.2.1 (tgt := 444) (lw_dd lwk0 21 rfl) (by decide) (by decide) rfl rfl (L_layNumber E rfl hk hSR kk H locs ls hP hS hl)
  · exact lv_tableIn E.1 E.2.1 (tgt := 477) (lw_dd lwk0 21 rfl) (by decide) (by decide) rfl rfl (L_layRule E rfl hk hSR kk H locs ls hP hS hl)
  · exact lv_tableIn E.1 E.2.1 (tgt := 510) (lw_dd lwk0 21 rfl) (by decide) (by decide) rfl rfl (L_layValue E rfl hk hSR kk H locs ls hP hS hl)
  · exact lv_tableIn E.1 E.2.1 (tgt := 553) (lw_dd lwk0 21 rfl) (by decide) (by decide) rfl rfl (L_layProduct E rfl hk hSR kk H locs ls hP hS hl)
  · exact lv_tableIn E.1 E.2.1 (tgt := 586) (lw_dd lwk0 21 rfl) (by decide) (by decide) rfl rfl (L_layShare E rfl hk hSR kk H locs ls hP hS hl)
  · exact lv_tableIn E.1 E.2.1 (tgt := 619) (lw_dd lwk0 21 rfl) (by decide) (by decide) rfl rfl (L_layKernel E rfl hk hSR kk H locs ls hP hS hl)
  · exact lv_tableIn E.1 E.2.1 (tgt := 662) (lw_dd lwk0 21 rfl) (by decide) (by decide) rfl rfl (L_layLeft E rfl hk hSR kk H locs ls hP hS hl)
  · exact lv_tableIn E.1 E.2.1 (tgt := 695) (lw_dd lwk0 21 rfl) (by decide) (by decide) rfl rfl (L_sign E rfl hk hSR kk H locs ls hP hS hl)
  · exact lv_tableIn E.1 E.2.1 (tgt := 708) (lw_dd lwk0 21 rfl) (by decide) (by decide) rfl rfl (L_bits E rfl hk hSR kk H locs ls hP hS hl)
  · exact lv_tableIn E.1 E.2.1 (tgt := 731) (lw_dd lwk0 21 rfl) (by decide) (by decide) rfl rfl (L_word E rfl hk hSR kk H locs ls hP hS hl)
  · exact lv_tableIn E.1 E.2.1 (tgt := 764) (lw_dd lwk0 21 rfl) (by decide) (by decide) rfl rfl (L_against E rfl hk hSR kk H locs ls hP hS hl)
  · exact lv_tableIn E.1 E.2.1 (tgt := 797) (lw_dd lwk0 21 rfl) (by decide) (by decide) rfl rfl (L_below E rfl hk hSR kk H locs ls hP hS hl)
  · exact lv_tableIn E.1 E.2.1 (tgt := 840) (lw_dd lwk0 21 rfl) (by decide) (by decide) rfl rfl (L_shut E rfl hk hSR kk H locs ls hP hS hl)
  · exact lv_tableIn E.1 E.2.1 (tgt := 883) (lw_dd lwk0 21 rfl) (by decide) (by decide) rfl rfl (L_good E rfl hk hSR kk H locs ls hP hS hl)
  · exact lv_tableIn E.1 E.2.1 (tgt := 896) (lw_dd lwk0 21 rfl) (by decide) (by decide) rfl rfl (L_few E rfl hk hSR kk H locs ls hP hS hl)
  · exact lv_tableIn E.1 E.2.1 (tgt := 909) (lw_dd lwk0 21 rfl) (by decide) (by decide) rfl rfl (L_told E rfl hk hSR kk H locs ls hP hS hl)
  · exact lv_tableIn E.1 E.2.1 (tgt := 932) (lw_dd lwk0 21 rfl) (by decide) (by decide) rfl rfl (L_keep E rfl hk hSR kk H locs ls hP hS hl)
  · exact lv_tableIn E.1 E.2.1 (tgt := 955) (lw_dd lwk0 21 rfl) (by decide) (by decide) rfl rfl (L_back E rfl hk hSR kk H locs ls hP hS hl)
  · exact lv_tableIn E.1 E.2.1 (tgt := 978) (lw_dd lwk0 21 rfl) (by decide) (by decide) rfl rfl (L_differs E rfl hk hSR kk H locs ls hP hS hl)
  · exact lv_tableOut E.1 E.2.1 (tgt := 1001) (lw_dd lwk0 21 rfl) (Or.inr (by decide)) rfl (kk I J hSR H locs ls hP hS hl)
  · exact lv_tableOut E.1 E.2.1 (tgt := 1001) (lw_dd lwk0 21 rfl) (Or.inr (by decide)) rfl (kk I J hSR H locs ls hP hS hl)
  · exact lv_tableOut E.1 E.2.1 (tgt := 1001) (lw_dd lwk0 21 rfl) (Or.inr (by decide)) rfl (kk I J hSR H locs ls hP hS hl)
theorem L_loop (E : lEnv p s m meth c b L xs D cs d0) : ∀ n k I J, L - k ≤ n → k ≤ L + 5 → SR I J → LG p l e s m below meth c b D cs d0 18 (nI k) [] I J := fun n => by
  have hL := E.2.2.2.2.2.2.2.2.2.1
  induction n with
  | zero =>
    intro k I J h0 h1 hSR H locs ls hP hS hl
    refine lv_iload_n E.1 E.2.1 (lw_dd lwk0 10 rfl) rfl (lv_at hl 3 rfl) ?_
    refine lv_aload_n E.1 E.2.1 (lw_dd lwk0 11 rfl) rfl (lv_at hl 0 rfl) ?_
    refine va_slen E.1 E.2.1 E.2.2.2.2.2.1 E.2.2.2.2.2.2.1 (L_nb E) hS (lw_dd lwk0 12 rfl) ?_
    refine lv_iconst E.1 E.2.1 (v := nI 5) (lw_dd lwk0 13 rfl) rfl ?_
    refine lv_isub E.1 E.2.1 (lw_dd lwk0 14 rfl) ?_
    refine lv_icmp_gt E.1 E.2.1 (tgt := 1007) (lw_dd lwk0 15 rfl) rfl (fun _ => L_end E (I := I) (J := J) H locs ls hP hS hl) (fun q => ?_)
    exfalso
    apply q
    rw [Int32.lt_iff_toInt_lt, show Int32.ofNat L = nI L from rfl, pk_sub_toInt (by omega) (by omega), nI_toInt (by omega)]
    omega
  | succ n ih =>
    intro k I J h0 h1 hSR H locs ls hP hS hl
    refine lv_iload_n E.1 E.2.1 (lw_dd lwk0 10 rfl) rfl (lv_at hl 3 rfl) ?_
    refine lv_aload_n E.1 E.2.1 (lw_dd lwk0 11 rfl) rfl (lv_at hl 0 rfl) ?_
    refine va_slen E.1 E.2.1 E.2.2.2.2.2.1 E.2.2.2.2.2.2.1 (L_nb E) hS (lw_dd lwk0 12 rfl) ?_
    refine lv_iconst E.1 E.2.1 (v := nI 5) (lw_dd lwk0 13 rfl) rfl ?_
    refine lv_isub E.1 E.2.1 (lw_dd lwk0 14 rfl) ?_
    refine lv_icmp_gt E.1 E.2.1 (tgt := 1007) (lw_dd lwk0 15 rfl) rfl (fun _ => L_end E (I := I) (J := J) H locs ls hP hS hl) (fun q => ?_)
    have hk : k + 5 ≤ L := by
      rw [Int32.lt_iff_toInt_lt, show Int32.ofNat L = nI L from rfl, pk_sub_toInt (by omega) (by omega), nI_toInt (by omega)] at q
      omega
    refine lv_aload_n E.1 E.2.1 (lw_dd lwk0 16 rfl) rfl (lv_at hl 0 rfl) ?_
    refine lv_iload_n E.1 E.2.1 (lw_dd lwk0 17 rfl) rfl (lv_at hl 3 rfl) ?_
    refine va_sld E.1 E.2.1 E.2.2.2.2.2.1 E.2.2.2.2.2.2.1 (L_nb E) hS (vp_in_nI (by omega) (by omega)) (lw_dd lwk0 18 rfl) ?_
    refine lv_bipush E.1 E.2.1 (v := 31) (lw_dd lwk0 19 rfl) (by decide) ?_
    refine lv_iand E.1 E.2.1 (lw_dd lwk0 20 rfl) ?_
    obtain ⟨j, hj, ej⟩ := pk_andE (xs (nI k).toNatClampNeg) (m := 31) 5 (by decide)
    rw [ej]
    exact L_pick E hk hSR (fun I1 J1 h2 => L_inc E (ih (k + 5) I1 J1 (by omega) (by omega) h2)) j hj H locs ls hP hS hl
end LGL
