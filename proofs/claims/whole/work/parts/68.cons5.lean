/-! ===== the constructor of the reference ===== -/
theorem U0 {dF F0 : Nat → va_E} {X : va_E} (h : ∀ j, j < 528 → F0 j = dF j) (hX : F0 528 = X) : ∀ j, j < 0 + 528 + 1 → F0 j = va_up dF 528 X j := fun j hj => by
  by_cases q : j = 528
  · rw [q, va_up_self]
    exact hX
  · rw [va_up_ne _ _ q]
    exact h j (by omega)
theorem U1 {dF : Nat → va_E} {X X' : va_E} {b : Nat} (j : Nat) : va_up (va_up dF b X) b X' j = va_up dF b X' j := by
  unfold va_up
  by_cases q : j = b
  · rw [if_pos q, if_pos q]
  · rw [if_neg q, if_neg q, if_neg q]
theorem U2 {dF : Nat → va_E} {X e : va_E} {b k : Nat} (hk : k ≠ b) (he : e = dF k) (j : Nat) : va_up (va_up dF b X) k e j = va_up dF b X j := by
  unfold va_up
  by_cases q : j = k
  · rw [if_pos q, if_neg (by omega), q]
    exact he
  · rw [if_neg q]
def mF (cs : Nat → ClassId) (h : Nat) (u : cU) (j : Nat) : va_E := if j < 528 then dG cs h u j else if j = 529 then cZ cs 0 10400 else if j = 530 then cZ cs 0 40 else if j = 531 then cZ cs 0 40 else if j = 532 then cZ cs 1 12 else if j = 533 then cZ cs 0 10 else if j = 534 then cZ cs 0 10 else if j = 535 then cZ cs 1 12 else if j = 536 then cZ cs 0 6 else if j = 537 then cZ cs 1 24 else if j = 538 then cZ cs 0 20 else if j = 539 then cZ cs 0 20 else if j = 540 then cZ cs 0 10 else cZ cs 1 12
def mX (h : Nat) : va_E := .inr (5, [.ref (h + 529), .ref (h + 530), .ref (h + 531), .ref (h + 532), .int 0, .int 0, .int 0, .int 0, .ref (h + 533), .ref (h + 534), .ref (h + 535), .ref (h + 536), .ref (h + 537), .ref (h + 538), .ref (h + 539), .ref (h + 540), .ref (h + 541)])
def mF0 (cs : Nat → ClassId) (h : Nat) (u : cU) (j : Nat) : va_E := if j < 528 then dG cs h u j else .inr (5, [.null, .null, .null, .null, .int 0, .int 0, .int 0, .int 0, .null, .null, .null, .null, .null, .null, .null, .null, .null])
abbrev adL (h : Nat) : Nat → Nat := fun i => h + pN i
def nmG (cs : Nat → ClassId) (h : Nat) (I : cU) (j : Nat) : va_E := m_ce cs (adL h) shL rfL I J0 (iL.getD j 0)
theorem ad_inj (h : Nat) : ∀ i j, i < 542 → j < 542 → adL h i = adL h j → i = j := fun i j hi hj e => pN_inj hi hj (by have e : h + pN i = h + pN j := e; omega)
theorem world_of {D : va_G} {cs : Nat → ClassId} {h : Nat} {I : cU} {H : Heap} (hP : va_P D m_cl (cW h 542 (nmG cs h I)) H) : va_P D m_cl (m_wl cs (adL h) shL rfL 542 I J0) H := fun k q hk => by
  have hl : k < 542 := by
    have := (List.getElem?_eq_some_iff.mp hk).1
    rwa [m_wl_len] at this
  rw [m_wl_at _ _ _ _ _ _ _ hl] at hk
  cases hk
  have hlt : pN k < 542 := by
    rcases Nat.lt_or_ge k 528 with q | q
    · have := pN_lt k q
      omega
    · rw [pN_hi q]
      exact hl
  have h1 := cW_of hP (j := pN k) hlt
  unfold nmG at h1
  rw [pN_inv k hl] at h1
  exact h1
theorem of_world {D : va_G} {cs : Nat → ClassId} {h : Nat} {I : cU} {H : Heap} (hP : va_P D m_cl (m_wl cs (adL h) shL rfL 542 I J0) H) : va_P D m_cl (cW h 542 (nmG cs h I)) H := cW_P (fun j hj => by
  obtain ⟨h1, h2⟩ := iL_inv j hj
  have h3 := hP _ _ (m_wl_at cs (adL h) shL rfL 542 I J0 h1)
  have h3 : va_at D m_cl (h + pN (iL.getD j 0), m_ce cs (adL h) shL rfL I J0 (iL.getD j 0)) H := h3
  rw [h2] at h3
  exact h3)
theorem world_0 {D : va_G} {cs : Nat → ClassId} {h : Nat} {u : cU} {H : Heap} (hP : va_P D m_cl (cW h 542 (va_up (mF cs h u) 528 (mX h))) H) : va_P D m_cl (m_wl cs (adL h) shL rfL 542 (I0 u) J0) H := fun k q hk => by
  have hl : k < 542 := by
    have := (List.getElem?_eq_some_iff.mp hk).1
    rwa [m_wl_len] at this
  rw [m_wl_at _ _ _ _ _ _ _ hl] at hk
  cases hk
  rcases Nat.lt_or_ge k 528 with q | q
  · refine init_at (u := u) (fun j hj => ?_) k q
    have h1 := cW_of hP (j := j) (by omega)
    rw [va_up_ne _ _ (by omega)] at h1
    unfold mF at h1
    rw [if_pos hj] at h1
    exact h1
  · have h1 := cW_of hP (j := k) hl
    show va_at D m_cl (h + pN k, m_ce cs (adL h) shL rfL (I0 u) J0 k) H
    rw [pN_hi q]
    rcases (show k = 528 ∨ k = 529 ∨ k = 530 ∨ k = 531 ∨ k = 532 ∨ k = 533 ∨ k = 534 ∨ k = 535 ∨ k = 536 ∨ k = 537 ∨ k = 538 ∨ k = 539 ∨ k = 540 ∨ k = 541 by omega) with rfl | rfl | rfl | rfl | rfl | rfl | rfl | rfl | rfl | rfl | rfl | rfl | rfl | rfl
    · have e : m_ce cs (adL h) shL rfL (I0 u) J0 528 = mX h := by
        rw [ce_o (show shL 528 = .inl 5 from rfl)]
        have e0 : I0 u 528 = fun _ => 0 := I0_z (by decide) (by decide) (by decide) (by decide) (by decide)
        show Sum.inr (5, m_fs (adL h) rfL (I0 u) 528 [2, 2, 2, 2, 0, 0, 1, 0, 2, 2, 2, 2, 2, 2, 2, 2, 2] 0) = _
        simp only [m_fs, m_fv, e0]
        rfl
      rw [e]
      exact h1
    · rw [ce_z (show shL 529 = .inr (0, 10400) from rfl) (by decide) (I0_z (by decide) (by decide) (by decide) (by decide) (by decide)) rfl]
      exact h1
    · rw [ce_z (show shL 530 = .inr (0, 40) from rfl) (by decide) (I0_z (by decide) (by decide) (by decide) (by decide) (by decide)) rfl]
      exact h1
    · rw [ce_z (show shL 531 = .inr (0, 40) from rfl) (by decide) (I0_z (by decide) (by decide) (by decide) (by decide) (by decide)) rfl]
      exact h1
    · rw [ce_z (show shL 532 = .inr (1, 12) from rfl) (by decide) (I0_z (by decide) (by decide) (by decide) (by decide) (by decide)) rfl]
      exact h1
    · rw [ce_z (show shL 533 = .inr (0, 10) from rfl) (by decide) (I0_z (by decide) (by decide) (by decide) (by decide) (by decide)) rfl]
      exact h1
    · rw [ce_z (show shL 534 = .inr (0, 10) from rfl) (by decide) (I0_z (by decide) (by decide) (by decide) (by decide) (by decide)) rfl]
      exact h1
    · rw [ce_z (show shL 535 = .inr (1, 12) from rfl) (by decide) (I0_z (by decide) (by decide) (by decide) (by decide) (by decide)) rfl]
      exact h1
    · rw [ce_z (show shL 536 = .inr (0, 6) from rfl) (by decide) (I0_z (by decide) (by decide) (by decide) (by decide) (by decide)) rfl]
      exact h1
    · rw [ce_z (show shL 537 = .inr (1, 24) from rfl) (by decide) (I0_z (by decide) (by decide) (by decide) (by decide) (by decide)) rfl]
      exact h1
    · rw [ce_z (show shL 538 = .inr (0, 20) from rfl) (by decide) (I0_z (by decide) (by decide) (by decide) (by decide) (by decide)) rfl]
      exact h1
    · rw [ce_z (show shL 539 = .inr (0, 20) from rfl) (by decide) (I0_z (by decide) (by decide) (by decide) (by decide) (by decide)) rfl]
      exact h1
    · rw [ce_z (show shL 540 = .inr (0, 10) from rfl) (by decide) (I0_z (by decide) (by decide) (by decide) (by decide) (by decide)) rfl]
      exact h1
    · rw [ce_z (show shL 541 = .inr (1, 12) from rfl) (by decide) (I0_z (by decide) (by decide) (by decide) (by decide) (by decide)) rfl]
      exact h1

def mPo (u : cU) (I : cU) : Prop := ∃ I1, SF (I0 u) I1 1 ∧ ZIs I1 1 1 ∧ I = m_uI I1 528 5 11
set_option maxRecDepth 8000 in
theorem k_X5 (l : Launch) (D : va_G) (cs : Nat → ClassId) (h : Nat) (u : cU) : cM l D cs yX5_init cX5_init 1 1 86 11000 [] (mF0 cs h u) h 528 13 (mPo u) (fun I => nmG cs h I) := by
  refine c_method (by decide +kernel) rfl (Nat.le_of_ble_eq_true rfl) ?_
  intro p e s m below meth c E hr0 hlk
  refine CG_cg (U0 (dF := mF cs h u) (fun j hj => ?_) rfl) ?_
  · unfold mF0 mF
    rw [if_pos hj, if_pos hj]
  refine g_aload E 0 (show decode cX5_init 0 = .ok (.aload_n 0, 1) by decide +kernel) rfl ?_
  refine g_obj E (show decode cX5_init 1 = .ok (.invokespecial 1, 3) by decide +kernel) (m_wck_ok (l := [(Cond.methodLink RX5 1 Lib.objectInit, 676), (Cond.instanceMethod Lib.objectInit, 72), (Cond.code Lib.objectInit ⟨#[0xb1]⟩ 1 none, 73)]) (by decide +kernel)) ⟨Nat.le_of_ble_eq_true rfl, Nat.le_of_ble_eq_true rfl⟩ (Nat.le_of_ble_eq_true rfl) ?_
  refine g_aload E 0 (show decode cX5_init 4 = .ok (.aload_n 0, 1) by decide +kernel) rfl ?_
  refine g_sipush E (v := 10400) (show decode cX5_init 5 = .ok (.sipush 10400, 3) by decide +kernel) (by decide +kernel) ?_
  refine g_newa E (ty := .int) (N' := 10400) 0 (show decode cX5_init 8 = .ok (.newarray .int, 2) by decide +kernel) rfl rfl (m_one 107 (by decide +kernel)) (fun _ => rfl) rfl (by decide) (by decide) ⟨Nat.le_of_ble_eq_true rfl, Nat.le_of_ble_eq_true rfl⟩ ?_
  refine CG_cg (fun j _ => U2 (by decide) rfl j) ?_
  refine g_put E (ci := 5) (k := 0) (q := (RX5, TX5, 17)) 528 (show decode cX5_init 10 = .ok (.putfield 7, 3) by decide +kernel) rfl (by decide) rfl rfl (by decide) (m_one 682 (by decide +kernel)) (Or.inl ⟨rfl, rfl⟩) rfl rfl (Nat.le_of_ble_eq_true rfl) ?_
  refine CG_cg (fun j _ => U1 j) ?_
  refine g_aload E 0 (show decode cX5_init 13 = .ok (.aload_n 0, 1) by decide +kernel) rfl ?_
  refine g_bipush E (v := 40) (show decode cX5_init 14 = .ok (.bipush 40, 2) by decide +kernel) (by decide +kernel) ?_
  refine g_newa E (ty := .int) (N' := 40) 0 (show decode cX5_init 16 = .ok (.newarray .int, 2) by decide +kernel) rfl rfl (m_one 107 (by decide +kernel)) (fun _ => rfl) rfl (by decide) (by decide) ⟨Nat.le_of_ble_eq_true rfl, Nat.le_of_ble_eq_true rfl⟩ ?_
  refine CG_cg (fun j _ => U2 (by decide) rfl j) ?_
  refine g_put E (ci := 5) (k := 1) (q := (RX5, TX5, 17)) 528 (show decode cX5_init 18 = .ok (.putfield 13, 3) by decide +kernel) rfl (by decide) rfl rfl (by decide) (m_one 683 (by decide +kernel)) (Or.inl ⟨rfl, rfl⟩) rfl rfl (Nat.le_of_ble_eq_true rfl) ?_
  refine CG_cg (fun j _ => U1 j) ?_
  refine g_aload E 0 (show decode cX5_init 21 = .ok (.aload_n 0, 1) by decide +kernel) rfl ?_
  refine g_bipush E (v := 40) (show decode cX5_init 22 = .ok (.bipush 40, 2) by decide +kernel) (by decide +kernel) ?_
  refine g_newa E (ty := .int) (N' := 40) 0 (show decode cX5_init 24 = .ok (.newarray .int, 2) by decide +kernel) rfl rfl (m_one 107 (by decide +kernel)) (fun _ => rfl) rfl (by decide) (by decide) ⟨Nat.le_of_ble_eq_true rfl, Nat.le_of_ble_eq_true rfl⟩ ?_
  refine CG_cg (fun j _ => U2 (by decide) rfl j) ?_
  refine g_put E (ci := 5) (k := 2) (q := (RX5, TX5, 17)) 528 (show decode cX5_init 26 = .ok (.putfield 16, 3) by decide +kernel) rfl (by decide) rfl rfl (by decide) (m_one 684 (by decide +kernel)) (Or.inl ⟨rfl, rfl⟩) rfl rfl (Nat.le_of_ble_eq_true rfl) ?_
  refine CG_cg (fun j _ => U1 j) ?_
  refine g_aload E 0 (show decode cX5_init 29 = .ok (.aload_n 0, 1) by decide +kernel) rfl ?_
  refine g_bipush E (v := 12) (show decode cX5_init 30 = .ok (.bipush 12, 2) by decide +kernel) (by decide +kernel) ?_
  refine g_newa E (ty := .long) (N' := 12) 1 (show decode cX5_init 32 = .ok (.newarray .long, 2) by decide +kernel) rfl rfl (m_one 108 (by decide +kernel)) (fun _ => rfl) rfl (by decide) (by decide) ⟨Nat.le_of_ble_eq_true rfl, Nat.le_of_ble_eq_true rfl⟩ ?_
  refine CG_cg (fun j _ => U2 (by decide) rfl j) ?_
  refine g_put E (ci := 5) (k := 3) (q := (RX5, TX5, 17)) 528 (show decode cX5_init 34 = .ok (.putfield 19, 3) by decide +kernel) rfl (by decide) rfl rfl (by decide) (m_one 685 (by decide +kernel)) (Or.inl ⟨rfl, rfl⟩) rfl rfl (Nat.le_of_ble_eq_true rfl) ?_
  refine CG_cg (fun j _ => U1 j) ?_
  refine g_aload E 0 (show decode cX5_init 37 = .ok (.aload_n 0, 1) by decide +kernel) rfl ?_
  refine g_bipush E (v := 10) (show decode cX5_init 38 = .ok (.bipush 10, 2) by decide +kernel) (by decide +kernel) ?_
  refine g_newa E (ty := .int) (N' := 10) 0 (show decode cX5_init 40 = .ok (.newarray .int, 2) by decide +kernel) rfl rfl (m_one 107 (by decide +kernel)) (fun _ => rfl) rfl (by decide) (by decide) ⟨Nat.le_of_ble_eq_true rfl, Nat.le_of_ble_eq_true rfl⟩ ?_
  refine CG_cg (fun j _ => U2 (by decide) rfl j) ?_
  refine g_put E (ci := 5) (k := 8) (q := (RX5, TX5, 17)) 528 (show decode cX5_init 42 = .ok (.putfield 23, 3) by decide +kernel) rfl (by decide) rfl rfl (by decide) (m_one 690 (by decide +kernel)) (Or.inl ⟨rfl, rfl⟩) rfl rfl (Nat.le_of_ble_eq_true rfl) ?_
  refine CG_cg (fun j _ => U1 j) ?_
  refine g_aload E 0 (show decode cX5_init 45 = .ok (.aload_n 0, 1) by decide +kernel) rfl ?_
  refine g_bipush E (v := 10) (show decode cX5_init 46 = .ok (.bipush 10, 2) by decide +kernel) (by decide +kernel) ?_
  refine g_newa E (ty := .int) (N' := 10) 0 (show decode cX5_init 48 = .ok (.newarray .int, 2) by decide +kernel) rfl rfl (m_one 107 (by decide +kernel)) (fun _ => rfl) rfl (by decide) (by decide) ⟨Nat.le_of_ble_eq_true rfl, Nat.le_of_ble_eq_true rfl⟩ ?_
  refine CG_cg (fun j _ => U2 (by decide) rfl j) ?_
  refine g_put E (ci := 5) (k := 9) (q := (RX5, TX5, 17)) 528 (show decode cX5_init 50 = .ok (.putfield 26, 3) by decide +kernel) rfl (by decide) rfl rfl (by decide) (m_one 691 (by decide +kernel)) (Or.inl ⟨rfl, rfl⟩) rfl rfl (Nat.le_of_ble_eq_true rfl) ?_
  refine CG_cg (fun j _ => U1 j) ?_
  refine g_aload E 0 (show decode cX5_init 53 = .ok (.aload_n 0, 1) by decide +kernel) rfl ?_
  refine g_bipush E (v := 12) (show decode cX5_init 54 = .ok (.bipush 12, 2) by decide +kernel) (by decide +kernel) ?_
  refine g_newa E (ty := .long) (N' := 12) 1 (show decode cX5_init 56 = .ok (.newarray .long, 2) by decide +kernel) rfl rfl (m_one 108 (by decide +kernel)) (fun _ => rfl) rfl (by decide) (by decide) ⟨Nat.le_of_ble_eq_true rfl, Nat.le_of_ble_eq_true rfl⟩ ?_
  refine CG_cg (fun j _ => U2 (by decide) rfl j) ?_
  refine g_put E (ci := 5) (k := 10) (q := (RX5, TX5, 17)) 528 (show decode cX5_init 58 = .ok (.putfield 29, 3) by decide +kernel) rfl (by decide) rfl rfl (by decide) (m_one 692 (by decide +kernel)) (Or.inl ⟨rfl, rfl⟩) rfl rfl (Nat.le_of_ble_eq_true rfl) ?_
  refine CG_cg (fun j _ => U1 j) ?_
  refine g_aload E 0 (show decode cX5_init 61 = .ok (.aload_n 0, 1) by decide +kernel) rfl ?_
  refine g_bipush E (v := 6) (show decode cX5_init 62 = .ok (.bipush 6, 2) by decide +kernel) (by decide +kernel) ?_
  refine g_newa E (ty := .int) (N' := 6) 0 (show decode cX5_init 64 = .ok (.newarray .int, 2) by decide +kernel) rfl rfl (m_one 107 (by decide +kernel)) (fun _ => rfl) rfl (by decide) (by decide) ⟨Nat.le_of_ble_eq_true rfl, Nat.le_of_ble_eq_true rfl⟩ ?_
  refine CG_cg (fun j _ => U2 (by decide) rfl j) ?_
  refine g_put E (ci := 5) (k := 11) (q := (RX5, TX5, 17)) 528 (show decode cX5_init 66 = .ok (.putfield 32, 3) by decide +kernel) rfl (by decide) rfl rfl (by decide) (m_one 693 (by decide +kernel)) (Or.inl ⟨rfl, rfl⟩) rfl rfl (Nat.le_of_ble_eq_true rfl) ?_
  refine CG_cg (fun j _ => U1 j) ?_
  refine g_aload E 0 (show decode cX5_init 69 = .ok (.aload_n 0, 1) by decide +kernel) rfl ?_
  refine g_bipush E (v := 24) (show decode cX5_init 70 = .ok (.bipush 24, 2) by decide +kernel) (by decide +kernel) ?_
  refine g_newa E (ty := .long) (N' := 24) 1 (show decode cX5_init 72 = .ok (.newarray .long, 2) by decide +kernel) rfl rfl (m_one 108 (by decide +kernel)) (fun _ => rfl) rfl (by decide) (by decide) ⟨Nat.le_of_ble_eq_true rfl, Nat.le_of_ble_eq_true rfl⟩ ?_
  refine CG_cg (fun j _ => U2 (by decide) rfl j) ?_
  refine g_put E (ci := 5) (k := 12) (q := (RX5, TX5, 17)) 528 (show decode cX5_init 74 = .ok (.putfield 35, 3) by decide +kernel) rfl (by decide) rfl rfl (by decide) (m_one 694 (by decide +kernel)) (Or.inl ⟨rfl, rfl⟩) rfl rfl (Nat.le_of_ble_eq_true rfl) ?_
  refine CG_cg (fun j _ => U1 j) ?_
  refine g_aload E 0 (show decode cX5_init 77 = .ok (.aload_n 0, 1) by decide +kernel) rfl ?_
  refine g_bipush E (v := 20) (show decode cX5_init 78 = .ok (.bipush 20, 2) by decide +kernel) (by decide +kernel) ?_
  refine g_newa E (ty := .int) (N' := 20) 0 (show decode cX5_init 80 = .ok (.newarray .int, 2) by decide +kernel) rfl rfl (m_one 107 (by decide +kernel)) (fun _ => rfl) rfl (by decide) (by decide) ⟨Nat.le_of_ble_eq_true rfl, Nat.le_of_ble_eq_true rfl⟩ ?_
  refine CG_cg (fun j _ => U2 (by decide) rfl j) ?_
  refine g_put E (ci := 5) (k := 13) (q := (RX5, TX5, 17)) 528 (show decode cX5_init 82 = .ok (.putfield 38, 3) by decide +kernel) rfl (by decide) rfl rfl (by decide) (m_one 695 (by decide +kernel)) (Or.inl ⟨rfl, rfl⟩) rfl rfl (Nat.le_of_ble_eq_true rfl) ?_
  refine CG_cg (fun j _ => U1 j) ?_
  refine g_aload E 0 (show decode cX5_init 85 = .ok (.aload_n 0, 1) by decide +kernel) rfl ?_
  refine g_bipush E (v := 20) (show decode cX5_init 86 = .ok (.bipush 20, 2) by decide +kernel) (by decide +kernel) ?_
  refine g_newa E (ty := .int) (N' := 20) 0 (show decode cX5_init 88 = .ok (.newarray .int, 2) by decide +kernel) rfl rfl (m_one 107 (by decide +kernel)) (fun _ => rfl) rfl (by decide) (by decide) ⟨Nat.le_of_ble_eq_true rfl, Nat.le_of_ble_eq_true rfl⟩ ?_
  refine CG_cg (fun j _ => U2 (by decide) rfl j) ?_
  refine g_put E (ci := 5) (k := 14) (q := (RX5, TX5, 17)) 528 (show decode cX5_init 90 = .ok (.putfield 41, 3) by decide +kernel) rfl (by decide) rfl rfl (by decide) (m_one 696 (by decide +kernel)) (Or.inl ⟨rfl, rfl⟩) rfl rfl (Nat.le_of_ble_eq_true rfl) ?_
  refine CG_cg (fun j _ => U1 j) ?_
  refine g_aload E 0 (show decode cX5_init 93 = .ok (.aload_n 0, 1) by decide +kernel) rfl ?_
  refine g_bipush E (v := 10) (show decode cX5_init 94 = .ok (.bipush 10, 2) by decide +kernel) (by decide +kernel) ?_
  refine g_newa E (ty := .int) (N' := 10) 0 (show decode cX5_init 96 = .ok (.newarray .int, 2) by decide +kernel) rfl rfl (m_one 107 (by decide +kernel)) (fun _ => rfl) rfl (by decide) (by decide) ⟨Nat.le_of_ble_eq_true rfl, Nat.le_of_ble_eq_true rfl⟩ ?_
  refine CG_cg (fun j _ => U2 (by decide) rfl j) ?_
  refine g_put E (ci := 5) (k := 15) (q := (RX5, TX5, 17)) 528 (show decode cX5_init 98 = .ok (.putfield 44, 3) by decide +kernel) rfl (by decide) rfl rfl (by decide) (m_one 697 (by decide +kernel)) (Or.inl ⟨rfl, rfl⟩) rfl rfl (Nat.le_of_ble_eq_true rfl) ?_
  refine CG_cg (fun j _ => U1 j) ?_
  refine g_aload E 0 (show decode cX5_init 101 = .ok (.aload_n 0, 1) by decide +kernel) rfl ?_
  refine g_bipush E (v := 12) (show decode cX5_init 102 = .ok (.bipush 12, 2) by decide +kernel) (by decide +kernel) ?_
  refine g_newa E (ty := .long) (N' := 12) 1 (show decode cX5_init 104 = .ok (.newarray .long, 2) by decide +kernel) rfl rfl (m_one 108 (by decide +kernel)) (fun _ => rfl) rfl (by decide) (by decide) ⟨Nat.le_of_ble_eq_true rfl, Nat.le_of_ble_eq_true rfl⟩ ?_
  refine CG_cg (fun j _ => U2 (by decide) rfl j) ?_
  refine g_put E (ci := 5) (k := 16) (q := (RX5, TX5, 17)) 528 (show decode cX5_init 106 = .ok (.putfield 47, 3) by decide +kernel) rfl (by decide) rfl rfl (by decide) (m_one 698 (by decide +kernel)) (Or.inl ⟨rfl, rfl⟩) rfl rfl (Nat.le_of_ble_eq_true rfl) ?_
  refine CG_cg (fun j _ => U1 j) ?_
  refine CG_cg (G := va_up (mF cs h u) 528 (mX h)) (fun _ _ => rfl) ?_
  refine g_aload E 0 (show decode cX5_init 109 = .ok (.aload_n 0, 1) by decide +kernel) rfl ?_
  refine g_iconst E (v := 1) (show decode cX5_init 110 = .ok (.iconst 1, 1) by decide +kernel) (by decide +kernel) ?_
  refine g_lconst E (v := 1) (show decode cX5_init 111 = .ok (.lconst 1, 1) by decide +kernel) rfl ?_
  have kk : ∀ I1 : cU, SF (I0 u) I1 1 → ZIs I1 1 1 → CG p l e (cR 1 86 13 11000) s m (Value.ref (h + 528) :: []).toArray below meth c (MQ below (cQc D h (13 + 528 + 1) (mPo u) (fun I => nmG cs h I)) (Value.ref (h + 528) :: []).toArray s 13 11000 (fun q => h ≤ q)) D h 528 1 115 13 (nmG cs h I1) 10616 [(0, .ref (h + 528))] [] := by
    intro I1 hSF hZ
    refine g_aload E 0 (show decode cX5_init 115 = .ok (.aload_n 0, 1) by decide +kernel) rfl ?_
    refine g_bipush E (v := 11) (show decode cX5_init 116 = .ok (.bipush 11, 2) by decide +kernel) (by decide +kernel) ?_
    refine g_put E (ci := 5) (k := 5) (q := (RX5, TX5, 17)) (fs := m_fs (adL h) rfL I1 528 (m_ft 5) 0) 528 (show decode cX5_init 118 = .ok (.putfield 54, 3) by decide +kernel) rfl (by decide) rfl rfl (by decide) (m_one 687 (by decide +kernel)) (Or.inr rfl) rfl rfl (by rw [m_fs_len]; decide) ?_
    refine g_ret (m_uI I1 528 5 11) E hr0 hlk (show decode cX5_init 121 = .ok (.return_, 1) by decide +kernel) rfl (by decide) ⟨I1, hSF, hZ, rfl⟩ (fun j hj => ?_)
    have hj : j < 542 := hj
    by_cases z : j = 528
    · rw [z, va_up_self, m_fs_set (adL h) rfL I1 528 11 (m_ft 5) 0 5 0 rfl (by decide)]
      rfl
    · rw [va_up_ne _ _ z]
      obtain ⟨h1, h2⟩ := iL_inv j hj
      unfold nmG
      refine (m_ce_I (fun b => ?_) (fun _ => rfl)).symm
      have hne : iL.getD j 0 ≠ 528 := fun zz => by
        rw [zz] at h2
        exact z h2.symm
      rw [uI_a _ _ _ hne]
  intro H locs ls hz hP hS hl
  have hP : va_P D m_cl (cW h 542 (va_up (mF cs h u) 528 (mX h))) H := hP
  refine v_call (nA := 2) (N := 542) (ad := adL h) (sh := shL) (rf := rfL) (I := I0 u) (J := J0) (i := 528) (As1 := [.inl (nI 1), .inr (.inl 1)]) (K := fun r I1 J1 => r = none ∧ J1 = J0 ∧ SF (I0 u) I1 1 ∧ ZIs I1 1 1) (rest := []) (A0 := fun q => h ≤ q) mt_X5_set E.1 E.2.1 E.2.2.1 E.2.2.2.1 E.2.2.2.2.1 E.2.2.2.2.2.2.2.1 (ad_inj h) lay_N (ci := 5) rfl rfl (m_wck_ok (l := [(Cond.methodLink RX5 50 yX5_set, 677), (Cond.instanceMethod yX5_set, 679), (Cond.selects RX5 yX5_set yX5_set, 14), (Cond.initialized RX5, 62), (Cond.code yX5_set cX5_set 7 none, 680)]) (by decide +kernel)) ⟨rfl, by decide +kernel, by decide +kernel, by decide +kernel⟩ ⟨Nat.le_of_ble_eq_true rfl, Nat.le_of_ble_eq_true rfl⟩ ⟨Nat.le_of_ble_eq_true rfl, Nat.le_of_ble_eq_true rfl⟩ ⟨528, [.inl (nI 1), .inr (.inl 1)], rfl, rfl, 1, 1, rfl, rfl, rfl, rfl, by decide, by decide, fun I1 a1 a2 => ⟨rfl, rfl, a1, a2⟩⟩ rfl (world_0 hP) hS (fun q hq => ?_) rfl hl.1 (Nat.le_of_ble_eq_true rfl) (show decode cX5_init 112 = .ok (.invokevirtual 50, 3) by decide +kernel) rfl (fun r I1 J1 H1 locs1 hK1 hP1 hz1 hk1 hS1 => W_sz (fun hs => ?_))
  · obtain ⟨a, -, rfl⟩ := hq
    exact Nat.le_add_right h _
  · obtain ⟨rfl, rfl, hSF, hZ⟩ := hK1
    have hP2 := of_world hP1
    have hP2 : va_P D m_cl (cW h (13 + 528 + 1) (nmG cs h I1)) H1 := hP2
    exact kk I1 hSF hZ H1 locs1 ls (g_keep E hP2 hs) hP2 hS1 hl
