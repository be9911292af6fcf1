/-! ===== the reference: orders and their signs ===== -/
def sK (l : List Nat) : Nat → Option Nat
  | 0 => none
  | k + 1 => match Nat.ble (l.getD k 0) (l.getD (k + 1) 0) with
    | true => some k
    | false => sK l k
def sJ (l : List Nat) (x : Nat) : Nat → Nat
  | 0 => 0
  | j + 1 => match Nat.ble x (l.getD (j + 1) 0) with
    | true => j + 1
    | false => sJ l x j
def swp (l : List Nat) (i j : Nat) : List Nat := (l.set i (l.getD j 0)).set j (l.getD i 0)
def rvs : Nat → List Nat → Nat → Nat → List Nat
  | 0, l, _, _ => l
  | f + 1, l, lo, hi => match Nat.ble hi lo with
    | true => l
    | false => rvs f (swp l lo hi) (lo + 1) (hi - 1)
def nxtL (n : Nat) (l : List Nat) : Option (List Nat) := match sK l (n - 1) with
  | none => none
  | some k => some (rvs 6 (swp l k (sJ l (l.getD k 0) (n - 1))) (k + 1) (n - 1))
def tin (l : List Nat) (i : Nat) : Nat → Nat
  | 0 => 0
  | j + 1 => tin l i j + (match Nat.ble (l.getD i 0) (l.getD (i + 1 + j) 0) with | true => 0 | false => 1)
def tou (l : List Nat) (n : Nat) : Nat → Nat
  | 0 => 0
  | i + 1 => tou l n i + tin l i (n - (i + 1))
def wfl (n : Nat) (l : List Nat) : Bool := Nat.beq l.length n && l.all (fun x => Nat.ble x 5)
def HL (I : mPI) (n : Nat) (l : List Nat) : Prop := wfl n l = true ∧ ∀ i, i < n → I 536 i = nI (l.getD i 0)
theorem wfl_len {n : Nat} {l : List Nat} (h : wfl n l = true) : l.length = n := by
  unfold wfl at h
  rw [Bool.and_eq_true] at h
  exact Nat.eq_of_beq_eq_true h.1
theorem wfl_get {n : Nat} {l : List Nat} (h : wfl n l = true) (i : Nat) : l.getD i 0 ≤ 5 := by
  unfold wfl at h
  rw [Bool.and_eq_true, List.all_eq_true] at h
  rw [List.getD_eq_getElem?_getD]
  rcases Nat.lt_or_ge i l.length with q | q
  · rw [List.getElem?_eq_getElem q]
    exact Nat.le_of_ble_eq_true (h.2 _ (List.getElem_mem q))
  · rw [List.getElem?_eq_none q]
    exact Nat.zero_le _
theorem getD_set (l : List Nat) (i j x : Nat) (hi : i < l.length) : (l.set i x).getD j 0 = if j = i then x else l.getD j 0 := by
  rw [List.getD_eq_getElem?_getD, List.getD_eq_getElem?_getD, List.getElem?_set]
  by_cases q : i = j
  · subst q
    rw [if_pos rfl, if_pos rfl, if_pos hi]
    rfl
  · rw [if_neg q, if_neg (fun r => q r.symm)]
theorem swp_get {l : List Nat} {i j k : Nat} (hi : i < l.length) (hj : j < l.length) : (swp l i j).getD k 0 = if k = j then l.getD i 0 else if k = i then l.getD j 0 else l.getD k 0 := by
  unfold swp
  rw [getD_set _ _ _ _ (by rw [List.length_set]; exact hj), getD_set _ _ _ _ hi]
theorem swp_wf {n : Nat} {l : List Nat} {i j : Nat} (h : wfl n l = true) (hi : i < n) (hj : j < n) : wfl n (swp l i j) = true := by
  have hl := wfl_len h
  have hg := wfl_get h
  unfold wfl
  rw [Bool.and_eq_true, List.all_eq_true]
  have e : (swp l i j).length = n := by
    unfold swp
    rw [List.length_set, List.length_set, hl]
  refine ⟨by rw [e]; exact Nat.beq_refl n, fun x hx => ?_⟩
  obtain ⟨k, hk, rfl⟩ := List.getElem_of_mem hx
  have := swp_get (l := l) (i := i) (j := j) (k := k) (by omega) (by omega)
  rw [List.getD_eq_getElem?_getD, List.getElem?_eq_getElem hk] at this
  have this : (swp l i j)[k] = _ := this
  rw [this]
  apply Nat.ble_eq_true_of_le
  split
  · exact hg i
  · split
    · exact hg j
    · exact hg k
theorem HL.swp {I : mPI} {n : Nat} {l : List Nat} {i j : Nat} (h : HL I n l) (hi : i < n) (hj : j < n) : HL (m_uI (m_uI I 536 i (I 536 j)) 536 j (I 536 i)) n (swp l i j) := by
  refine ⟨swp_wf h.1 hi hj, fun k hk => ?_⟩
  have hl := wfl_len h.1
  rw [swp_get (by omega) (by omega)]
  by_cases q : k = j
  · subst q
    rw [if_pos rfl, uI_s]
    exact h.2 i hi
  · rw [if_neg q, uI_k _ _ _ q]
    by_cases r : k = i
    · subst r
      rw [if_pos rfl, uI_s]
      exact h.2 j hj
    · rw [if_neg r, uI_k _ _ _ r]
      exact h.2 k hk
def OF (I I1 : mPI) : Prop := ∀ a, a ≠ 536 → I1 a = I a
theorem nI_nonneg' {k : Nat} (h : k < 2 ^ 31) : 0 ≤ nI k := by
  rw [i_le0, nI_toInt h]
  omega
def pt_mswap : mSH → mRF → mPT := m_pv 5 (fun sh rf d rest I J K => ∃ i j : Nat, sh = shL ∧ rf = rfL ∧ d = 528 ∧ rest = [.inl (nI i), .inl (nI j)] ∧ i < 6 ∧ j < 6 ∧ K none (m_uI (m_uI I 536 i (I 536 j)) 536 j (I 536 i)) J)
def pt_mparity : mSH → mRF → mPT := m_pv 5 (fun sh rf d rest I J K => ∃ (n : Nat) (l : List Nat), sh = shL ∧ rf = rfL ∧ d = 528 ∧ rest = [.inl (nI n)] ∧ n ≤ 6 ∧ HL I n l ∧ K (some (.inl (if tou l n n % 2 = 0 then 1 else -1))) I J)
def pt_mnext : mSH → mRF → mPT := m_pv 5 (fun sh rf d rest I J K => ∃ (n : Nat) (l : List Nat), sh = shL ∧ rf = rfL ∧ d = 528 ∧ rest = [.inl (nI n)] ∧ n ≤ 6 ∧ HL I n l ∧ (nxtL n l = none → K (some (.inl 0)) I J) ∧ ∀ l', nxtL n l = some l' → ∀ I1, OF I I1 → HL I1 n l' → K (some (.inl 1)) I1 J)
theorem oin {i : Nat} (h : i < 6) : m_inb shL 536 0 (nI i) := m_inb_i (n := 6) rfl (vp_in_nI h (by decide))
theorem ocl {i : Nat} (h : i < 6) : (nI i).toNatClampNeg = i := nI_clamp (by omega)
theorem ble_f {a b : Nat} (h : b < a) : Nat.ble a b = false := by
  cases q : Nat.ble a b
  · rfl
  · have := Nat.le_of_ble_eq_true q
    omega

set_option maxHeartbeats 4000000 in
set_option maxRecDepth 100000 in
theorem mt_X5_swap : m_Mt yX5_swap cX5_swap 4 none 0 0 pt_mswap := by
  refine m_method0 80 (fl := fl_X5) (kI := kI_X5) (kJ := kJ_X5) (ct := ct_none) (cd := cd_X5_swap) (rk := 0) (by decide +kernel) fl_X5_ok kI_X5_ok kJ_X5_ok (ce_none _ _ _ _ _) rfl ck_X5_swap ⟨_, _, rfl, rfl⟩ ?_
  intro sh rf As I J K hpt
  obtain ⟨d, rest, rfl, hd, i, j, rfl, rfl, rfl, rfl, hi, hj, hK⟩ := hpt
  refine ⟨Nat.le_of_ble_eq_true rfl, rfl, oin hi, rfl, rfl, oin hj, oin hi, rfl, oin hj, ?_⟩
  show K none (m_uI (m_uI I 536 (nI i).toNatClampNeg (I 536 (nI j).toNatClampNeg)) 536 (nI j).toNatClampNeg (I 536 (nI i).toNatClampNeg)) J
  rw [ocl hi, ocl hj]
  exact hK

set_option maxHeartbeats 4000000 in
set_option maxRecDepth 100000 in
theorem mt_X5_parity : m_Mt yX5_parity cX5_parity 5 (some .int) 0 0 pt_mparity := by
  refine m_methodG (fl := fl_X5) (kI := kI_X5) (kJ := kJ_X5) (ct := ct_none) (cd := cd_X5_parity) (cut := [(4, [0, 1, 2, 3]), (14, [0, 1, 2, 3, 4])]) (rk := 1) (fu := 80) (by decide +kernel) fl_X5_ok kI_X5_ok kJ_X5_ok (ce_none _ _ _ _ _) rfl ck_X5_parity ⟨_, _, rfl, rfl⟩ ?_
  intro sh rf As I J K hpt
  obtain ⟨d, rest, rfl, hd, n, l, rfl, rfl, rfl, rfl, hn, hl, hK⟩ := hpt
  have hg := wfl_get hl.1
  have tinb : ∀ i j, tin l i j ≤ j := by
    intro i j
    induction j with
    | zero => exact Nat.le_refl 0
    | succ j ih =>
      rw [tin]
      split <;> omega
  have toub : ∀ i, tou l n i ≤ i * 6 := by
    intro i
    induction i with
    | zero => exact Nat.le_refl 0
    | succ i ih =>
      have := tinb i (n - (i + 1))
      rw [tou]
      omega
  refine ⟨Nat.le_of_ble_eq_true rfl, fun a9 b9 pc vs st I1 J1 => st = [] ∧ I1 = I ∧ J1 = J ∧ ∃ i, i ≤ n ∧ a9 = n - i ∧ ((pc = 4 ∧ b9 = 10 ∧ vs = [.inr (.inr 528), .inl (nI n), .inl (nI (tou l n i)), .inl (nI i)]) ∨ (pc = 14 ∧ i < n ∧ ∃ j, j ≤ n - (i + 1) ∧ b9 = n - (i + 1) - j ∧ vs = [.inr (.inr 528), .inl (nI n), .inl (nI (tou l n i + tin l i j)), .inl (nI i), .inl (nI (i + 1 + j))])), ?_, ?_⟩
  · exact ⟨n - 0, 10, rfl, rfl, rfl, 0, Nat.zero_le _, rfl, Or.inl ⟨rfl, rfl, rfl⟩⟩
  · intro pc ks a9 b9 vs st I1 J1 hc hI
    obtain ⟨rfl, rfl, rfl, i, hi, rfl, hI⟩ := hI
    have tb := toub i
    rcases m_cu1 hc with ⟨rfl, rfl⟩ | hc
    · rcases hI with ⟨-, rfl, rfl⟩ | ⟨q, -⟩
      · refine ⟨fun h => ?_, fun h => ?_⟩
        · have h : nI n ≤ nI i := h
          rw [nI_leI (by omega) (by omega)] at h
          obtain rfl : i = n := by omega
          have erm : nI (tou l i i) - nI (tou l i i) / 2 * 2 = nI (tou l i i % 2) := pk_rem (d := 2) (by omega) (by decide) (by decide)
          refine ⟨show ¬ (2 : Int32) = 0 by decide, fun h2 => ?_, fun h2 => ?_⟩
          · have h2 : ¬ nI (tou l i i) - nI (tou l i i) / 2 * 2 = nI 0 := h2
            rw [erm, nI_eq (by omega) (by omega)] at h2
            rw [if_neg h2] at hK
            exact hK
          · have h2 : nI (tou l i i) - nI (tou l i i) / 2 * 2 = nI 0 := h2
            rw [erm, nI_eq (by omega) (by omega)] at h2
            rw [if_pos h2] at hK
            exact hK
        · have h : ¬ nI n ≤ nI i := h
          rw [nI_leI (by omega) (by omega)] at h
          refine ⟨n - i, n - (i + 1) - 0, Or.inr ⟨rfl, by omega⟩, rfl, rfl, rfl, i, hi, rfl, Or.inr ⟨rfl, by omega, 0, Nat.zero_le _, rfl, ?_⟩⟩
          rw [tin, Nat.add_zero, Nat.add_zero, ← nI_1 i]
      · exact absurd q (by decide)
    · rcases m_cu1 hc with ⟨rfl, rfl⟩ | hc
      · rcases hI with ⟨q, -⟩ | ⟨-, hin, j, hj, rfl, rfl⟩
        · exact absurd q (by decide)
        · have tb2 := tinb i j
          refine ⟨fun h => ?_, fun h => ?_⟩
          · have h : nI n ≤ nI (i + 1 + j) := h
            rw [nI_leI (by omega) (by omega)] at h
            obtain rfl : j = n - (i + 1) := by omega
            exact ⟨n - (i + 1), 10, Or.inl (by omega), rfl, rfl, rfl, i + 1, by omega, rfl, Or.inl ⟨rfl, rfl, by rw [← nI_1 i]; rfl⟩⟩
          · have h : ¬ nI n ≤ nI (i + 1 + j) := h
            rw [nI_leI (by omega) (by omega)] at h
            have g1 := hg i
            have g2 := hg (i + 1 + j)
            have e1 : I1 536 (nI i).toNatClampNeg = nI (l.getD i 0) := by rw [ocl (by omega)]; exact hl.2 i (by omega)
            have e2 : I1 536 (nI (i + 1 + j)).toNatClampNeg = nI (l.getD (i + 1 + j) 0) := by rw [ocl (by omega)]; exact hl.2 _ (by omega)
            refine ⟨rfl, oin (by omega), rfl, oin (by omega), fun h2 => ?_, fun h2 => ?_⟩
            · have h2 : I1 536 (nI i).toNatClampNeg ≤ I1 536 (nI (i + 1 + j)).toNatClampNeg := h2
              rw [e1, e2, nI_leI (by omega) (by omega)] at h2
              refine ⟨n - i, n - (i + 1) - (j + 1), Or.inr ⟨rfl, by omega⟩, rfl, rfl, rfl, i, hi, rfl, Or.inr ⟨rfl, hin, j + 1, by omega, rfl, ?_⟩⟩
              rw [tin, Nat.ble_eq_true_of_le h2, show i + 1 + (j + 1) = i + 1 + j + 1 by omega, ← nI_1 (i + 1 + j)]
              show ([.inr (.inr 528), .inl (nI n), .inl (nI (tou l n i + tin l i j) + 0), .inl (nI i), .inl (nI (i + 1 + j) + 1)] : List mPV) = _
              rw [Int32.add_zero]
              rfl
            · have h2 : ¬ I1 536 (nI i).toNatClampNeg ≤ I1 536 (nI (i + 1 + j)).toNatClampNeg := h2
              rw [e1, e2, nI_leI (by omega) (by omega)] at h2
              refine ⟨n - i, n - (i + 1) - (j + 1), Or.inr ⟨rfl, by omega⟩, rfl, rfl, rfl, i, hi, rfl, Or.inr ⟨rfl, hin, j + 1, by omega, rfl, ?_⟩⟩
              rw [tin, ble_f (by omega), show i + 1 + (j + 1) = i + 1 + j + 1 by omega, ← nI_1 (i + 1 + j)]
              show ([.inr (.inr 528), .inl (nI n), .inl (nI (tou l n i + tin l i j) + 1), .inl (nI i), .inl (nI (i + 1 + j) + 1)] : List mPV) = _
              rw [nI_1]
              rfl
      · cases hc

def ct_X5_nextOrder (sh : mSH) (rf : mRF) : Nat → Option (Nat × Bool × mPT) := fun k => match k with
  | 175 => some (3, true, pt_mswap sh rf)
  | _ => none
set_option maxRecDepth 20000 in
theorem ce_X5_nextOrder : m_CE RX5 1 23 cX5_nextOrder 6 ct_X5_nextOrder := by
  intro p l e s m args below meth c Q D cs ad sh rf N hx hb hml hown hts hK hi hN k n vf pt h
  unfold ct_X5_nextOrder at h
  split at h
  · cases h
    exact m_CG_V mt_X5_swap hx hb hml hown hts hK hi hN (ci := 5) m_pv_rec rfl rfl (m_wck_ok (l := [(Cond.methodLink RX5 175 yX5_swap, 908), (Cond.instanceMethod yX5_swap, 910), (Cond.selects RX5 yX5_swap yX5_swap, 43), (Cond.initialized RX5, 62), (Cond.code yX5_swap cX5_swap 4 none, 911)]) (by decide +kernel)) ⟨rfl, by decide +kernel, by decide +kernel, by decide +kernel⟩ ⟨Nat.le_of_ble_eq_true rfl, Nat.le_of_ble_eq_true rfl⟩
  · cases h
set_option maxHeartbeats 4000000 in
set_option maxRecDepth 100000 in
theorem mt_X5_nextOrder : m_Mt yX5_nextOrder cX5_nextOrder 6 (some .boolean) 1 23 pt_mnext := by
  refine m_methodG (fl := fl_X5) (kI := kI_X5) (kJ := kJ_X5) (ct := ct_X5_nextOrder) (cd := cd_X5_nextOrder) (cut := [(4, [0, 1, 2]), (31, [0, 1, 2]), (41, [0, 1, 2, 3]), (78, [0, 1, 4, 5])]) (rk := 3) (fu := 80) (by decide +kernel) fl_X5_ok kI_X5_ok kJ_X5_ok ce_X5_nextOrder rfl ck_X5_nextOrder ⟨_, _, rfl, rfl⟩ ?_
  intro sh rf As I J K hpt
  obtain ⟨d, rest, rfl, hd, n, l, rfl, rfl, rfl, rfl, hn, hl, hK0, hK1⟩ := hpt
  have hg := wfl_get hl.1
  have hlen := wfl_len hl.1
  have fin : ∀ I1, OF I I1 → ∀ i j, OF I (m_uI (m_uI I1 536 i (I1 536 j)) 536 j (I1 536 i)) := fun I1 h i j a ha => by rw [uI_a _ _ _ ha, uI_a _ _ _ ha, h a ha]
  refine ⟨Nat.le_of_ble_eq_true rfl, fun a9 b9 pc vs st I1 J1 => st = [] ∧ J1 = J ∧ ((pc = 4 ∧ I1 = I ∧ ((∃ m, m ≤ n - 1 ∧ a9 = 100 + m ∧ vs = [.inr (.inr 528), .inl (nI n), .inl (nI m - 1)] ∧ sK l (n - 1) = sK l m) ∨ (∃ x : Int32, x < 0 ∧ a9 = 100 ∧ vs = [.inr (.inr 528), .inl (nI n), .inl x] ∧ sK l (n - 1) = none))) ∨ (pc = 31 ∧ I1 = I ∧ a9 = 50 ∧ ((∃ k, k + 1 < n ∧ vs = [.inr (.inr 528), .inl (nI n), .inl (nI k)] ∧ sK l (n - 1) = some k ∧ l.getD k 0 ≤ l.getD (k + 1) 0) ∨ (∃ x : Int32, x < 0 ∧ vs = [.inr (.inr 528), .inl (nI n), .inl x] ∧ sK l (n - 1) = none))) ∨ (pc = 41 ∧ I1 = I ∧ ∃ k j, k + 1 ≤ j ∧ j < n ∧ a9 = 20 + j ∧ vs = [.inr (.inr 528), .inl (nI n), .inl (nI k), .inl (nI j)] ∧ sK l (n - 1) = some k ∧ l.getD k 0 ≤ l.getD (k + 1) 0 ∧ sJ l (l.getD k 0) (n - 1) = sJ l (l.getD k 0) j) ∨ (pc = 78 ∧ OF I I1 ∧ ∃ f lo hi l', a9 = f + 1 ∧ f ≤ 6 ∧ 1 ≤ lo ∧ lo ≤ n ∧ hi < n ∧ hi ≤ lo + 2 * f ∧ vs = [.inr (.inr 528), .inl (nI n), .inl (nI lo), .inl (nI hi)] ∧ HL I1 n l' ∧ nxtL n l = some (rvs f l' lo hi))), ?_, ?_⟩
  · rcases Nat.eq_zero_or_pos n with q | q
    · subst q
      exact ⟨100, 0, rfl, rfl, Or.inl ⟨rfl, rfl, Or.inr ⟨nI 0 - 2, by decide, rfl, rfl, rfl⟩⟩⟩
    · refine ⟨100 + (n - 1), 0, rfl, rfl, Or.inl ⟨rfl, rfl, Or.inl ⟨n - 1, Nat.le_refl _, rfl, ?_, rfl⟩⟩⟩
      have : ∀ n, n < 7 → 1 ≤ n → nI n - 2 = nI (n - 1) - 1 := by decide +kernel
      rw [← this n (by omega) q]
  · intro pc ks a9 b9 vs st I1 J1 hc hI
    obtain ⟨rfl, rfl, hI⟩ := hI
    rcases m_cu1 hc with ⟨rfl, rfl⟩ | hc
    · rcases hI with ⟨-, rfl, hI⟩ | ⟨q, -⟩ | ⟨q, -⟩ | ⟨q, -⟩
      · rcases hI with ⟨m, hm, rfl, rfl, hs⟩ | ⟨x, hx, rfl, rfl, hs⟩
        · refine ⟨fun h => ?_, fun h => ?_⟩
          · have h : nI m - nI 1 < 0 := h
            have m0 : m = 0 := by
              rcases Nat.eq_zero_or_pos m with q | q
              · exact q
              · rw [pk_sub (by omega)] at h
                exact absurd h (nI_pos (by omega))
            subst m0
            exact ⟨50, 0, Or.inl (by decide), rfl, rfl, Or.inr (Or.inl ⟨rfl, rfl, rfl, Or.inr ⟨nI 0 - 1, by decide, rfl, hs⟩⟩)⟩
          · have m0 : 0 < m := by
              rcases Nat.eq_zero_or_pos m with q | q
              · rw [q] at h
                exact absurd (by decide) h
              · exact q
            obtain ⟨k, rfl⟩ : ∃ k, m = k + 1 := ⟨m - 1, by omega⟩
            have ek : nI (k + 1) - 1 = nI k := pk_sub (a := k + 1) (b := 1) (by omega)
            have g1 := hg k
            have g2 := hg (k + 1)
            have e1 : I1 536 (nI (k + 1) - 1).toNatClampNeg = nI (l.getD k 0) := by rw [ek, ocl (by omega)]; exact hl.2 k (by omega)
            have e2 : I1 536 (nI (k + 1) - 1 + 1).toNatClampNeg = nI (l.getD (k + 1) 0) := by rw [ek, nI_1, ocl (by omega)]; exact hl.2 _ (by omega)
            rw [sK] at hs
            refine ⟨rfl, by rw [ek]; exact oin (by omega), rfl, by rw [ek, nI_1]; exact oin (by omega), fun h2 => ?_, fun h2 => ?_⟩
            · have h2 : I1 536 (nI (k + 1) - 1).toNatClampNeg ≤ I1 536 (nI (k + 1) - 1 + 1).toNatClampNeg := h2
              rw [e1, e2, nI_leI (by omega) (by omega)] at h2
              rw [Nat.ble_eq_true_of_le h2] at hs
              exact ⟨50, 0, Or.inl (by omega), rfl, rfl, Or.inr (Or.inl ⟨rfl, rfl, rfl, Or.inl ⟨k, by omega, by rw [← ek], hs, h2⟩⟩)⟩
            · have h2 : ¬ I1 536 (nI (k + 1) - 1).toNatClampNeg ≤ I1 536 (nI (k + 1) - 1 + 1).toNatClampNeg := h2
              rw [e1, e2, nI_leI (by omega) (by omega)] at h2
              rw [ble_f (by omega)] at hs
              refine ⟨100 + k, 0, Or.inl (by omega), rfl, rfl, Or.inl ⟨rfl, rfl, Or.inl ⟨k, by omega, rfl, ?_, hs⟩⟩⟩
              rw [← ek]
              exact congrArg (fun y => [Sum.inr (Sum.inr 528), Sum.inl (nI n), Sum.inl y]) (Int32.sub_eq_add_neg (nI (k + 1) - 1) 1).symm
        · refine ⟨fun h => ?_, fun h => absurd hx h⟩
          exact ⟨50, 0, Or.inl (by decide), rfl, rfl, Or.inr (Or.inl ⟨rfl, rfl, rfl, Or.inr ⟨x, hx, rfl, hs⟩⟩)⟩
      · exact absurd q (by decide)
      · exact absurd q (by decide)
      · exact absurd q (by decide)
    · rcases m_cu1 hc with ⟨rfl, rfl⟩ | hc
      · rcases hI with ⟨q, -⟩ | ⟨-, rfl, rfl, hI⟩ | ⟨q, -⟩ | ⟨q, -⟩
        · exact absurd q (by decide)
        · rcases hI with ⟨k, hk, rfl, hs, hle⟩ | ⟨x, hx, rfl, hs⟩
          · refine ⟨fun h => ?_, fun h => absurd (nI_nonneg' (by omega)) h⟩
            refine ⟨20 + (n - 1), 0, Or.inl (by omega), rfl, rfl, Or.inr (Or.inr (Or.inl ⟨rfl, rfl, k, n - 1, by omega, by omega, rfl, ?_, hs, hle, rfl⟩))⟩
            rw [← show nI n - 1 = nI (n - 1) from pk_sub (b := 1) (by omega)]
          · refine ⟨fun h => absurd hx (by rw [Int32.not_lt]; exact h), fun h => ⟨Or.inl rfl, hK0 ?_⟩⟩
            unfold nxtL
            rw [hs]
        · exact absurd q (by decide)
        · exact absurd q (by decide)
      · rcases m_cu1 hc with ⟨rfl, rfl⟩ | hc
        · rcases hI with ⟨q, -⟩ | ⟨q, -⟩ | ⟨-, rfl, k, j, hkj, hj, rfl, rfl, hs, hle, hsj⟩ | ⟨q, -⟩
          · exact absurd q (by decide)
          · exact absurd q (by decide)
          · have g1 := hg k
            have g2 := hg j
            have e1 : I1 536 (nI j).toNatClampNeg = nI (l.getD j 0) := by rw [ocl (by omega)]; exact hl.2 j (by omega)
            have e2 : I1 536 (nI k).toNatClampNeg = nI (l.getD k 0) := by rw [ocl (by omega)]; exact hl.2 k (by omega)
            obtain ⟨i, rfl⟩ : ∃ i, j = i + 1 := ⟨j - 1, by omega⟩
            rw [sJ] at hsj
            refine ⟨rfl, oin (by omega), rfl, oin (by omega), fun h2 => ?_, fun h2 => ?_⟩
            · have h2 : I1 536 (nI k).toNatClampNeg ≤ I1 536 (nI (i + 1)).toNatClampNeg := h2
              rw [e1, e2, nI_leI (by omega) (by omega)] at h2
              rw [Nat.ble_eq_true_of_le h2] at hsj
              refine ⟨528, [.inl (nI k), .inl (nI (i + 1))], rfl, rfl, k, i + 1, rfl, rfl, rfl, rfl, by omega, by omega, ?_⟩
              refine ⟨6 + 1, 0, Or.inl (by omega), rfl, rfl, Or.inr (Or.inr (Or.inr ⟨rfl, fin I1 (fun _ _ => rfl) k (i + 1), 6, k + 1, n - 1, swp l k (i + 1), rfl, by omega, by omega, by omega, by omega, by omega, ?_, hl.swp (by omega) (by omega), ?_⟩))⟩
              · rw [← nI_1 k, ← show nI n - 1 = nI (n - 1) from pk_sub (b := 1) (by omega)]
              · unfold nxtL
                rw [hs]
                show some (rvs 6 (swp l k (sJ l (l.getD k 0) (n - 1))) (k + 1) (n - 1)) = _
                rw [hsj]
            · have h2 : ¬ I1 536 (nI k).toNatClampNeg ≤ I1 536 (nI (i + 1)).toNatClampNeg := h2
              rw [e1, e2, nI_leI (by omega) (by omega)] at h2
              rw [ble_f (by omega)] at hsj
              have hne : i ≠ k := fun q => by
                rw [q] at h2
                omega
              refine ⟨20 + i, 0, Or.inl (by omega), rfl, rfl, Or.inr (Or.inr (Or.inl ⟨rfl, rfl, k, i, by omega, by omega, rfl, ?_, hs, hle, hsj⟩))⟩
              rw [← show nI (i + 1) - 1 = nI i from pk_sub (a := i + 1) (b := 1) (by omega)]
              exact congrArg (fun y => [Sum.inr (Sum.inr 528), Sum.inl (nI n), Sum.inl (nI k), Sum.inl y]) (Int32.sub_eq_add_neg (nI (i + 1)) 1).symm
          · exact absurd q (by decide)
        · rcases m_cu1 hc with ⟨rfl, rfl⟩ | hc
          · rcases hI with ⟨q, -⟩ | ⟨q, -⟩ | ⟨q, -⟩ | ⟨-, hof, f, lo, hi, l', rfl, hf, hlo, hlon, hhi, hlh, rfl, hH, hx⟩
            · exact absurd q (by decide)
            · exact absurd q (by decide)
            · exact absurd q (by decide)
            · refine ⟨fun h => ?_, fun h => ?_⟩
              · have h : nI hi ≤ nI lo := h
                rw [nI_leI (by omega) (by omega)] at h
                have e : rvs f l' lo hi = l' := by
                  cases f with
                  | zero => rfl
                  | succ f => rw [rvs, Nat.ble_eq_true_of_le h]
                rw [e] at hx
                exact ⟨Or.inr rfl, hK1 l' hx I1 hof hH⟩
              · have h : ¬ nI hi ≤ nI lo := h
                rw [nI_leI (by omega) (by omega)] at h
                obtain ⟨g, rfl⟩ : ∃ g, f = g + 1 := ⟨f - 1, by omega⟩
                rw [rvs, ble_f (by omega)] at hx
                refine ⟨528, [.inl (nI lo), .inl (nI hi)], rfl, rfl, lo, hi, rfl, rfl, rfl, rfl, by omega, by omega, ?_⟩
                refine ⟨g + 1, 0, Or.inl (by omega), rfl, rfl, Or.inr (Or.inr (Or.inr ⟨rfl, fin I1 hof lo hi, g, lo + 1, hi - 1, swp l' lo hi, rfl, by omega, by omega, by omega, by omega, by omega, ?_, hH.swp (by omega) (by omega), hx⟩))⟩
                have e2 : nI hi + -1 = nI (hi - 1) := by
                  obtain ⟨h', rfl⟩ : ∃ h', hi = h' + 1 := ⟨hi - 1, by omega⟩
                  exact nI_dec (k := 1) (by decide)
                rw [← nI_1 lo, ← e2]
          · cases hc

