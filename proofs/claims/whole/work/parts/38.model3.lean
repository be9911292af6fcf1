/-! ===== the reference: add, multiply, times, bitsOf ===== -/
theorem sgI_n {x : Int} (h : x < 0) : sgI x = -1 := by
  unfold sgI
  rw [if_pos h]
theorem sgI_p {x : Int} (h : 0 < x) : sgI x = 1 := by
  unfold sgI
  rw [if_neg (by omega), if_neg (by omega)]
theorem ZIs.len {I : mPI} {a b n m : Nat} {x y : Int} (h1 : ZR I a n x.natAbs) (h2 : ZR I b m y.natAbs) (h3 : 0 < m → zd I b (m - 1) ≠ 0) (h : y.natAbs ≤ x.natAbs) : m ≤ n := by
  refine ZIs.lim h2 h3 ?_
  have := dv_lt (B := 2 ^ 24) (g := zd I a) (n := n) h1.1.2.2
  rw [h1.2, ← Nat.pow_mul] at this
  omega
theorem ZR.sg {I : mPI} {t n v s : Nat} {x : Int32} (h : ZR I t n v) : ZR (m_uI I 531 s x) t n v := ⟨⟨by rw [uI_a _ _ _ (by decide)]; exact h.1.1, h.1.2.1, fun k hk => by rw [zd_s]; exact h.1.2.2 k hk⟩, by rw [dv_congr (fun k _ => zd_s I s x t k)]; exact h.2⟩
def pt_madd : mSH → mRF → mPT := m_pv 5 (fun sh rf d rest I J K => ∃ (a b t m : Nat) (x y : Int) (tm : Int32), sh = shL ∧ rf = rfL ∧ d = 528 ∧ rest = [.inl (nI a), .inl (nI b), .inl tm, .inl (nI t)] ∧ a < 40 ∧ b < 40 ∧ t < 40 ∧ (tm = 1 ∨ tm = -1) ∧ ZIs I a x ∧ ZIs I b y ∧ x.natAbs < 2 ^ (24 * m) ∧ y.natAbs < 2 ^ (24 * m) ∧ m + 1 ≤ 260 ∧ ∀ I1, SF I I1 t → ZIs I1 t (x + tm.toInt * y) → K none I1 J)
def pt_mmul : mSH → mRF → mPT := m_pv 5 (fun sh rf d rest I J K => ∃ (a b t m1 m2 : Nat) (x y : Int), sh = shL ∧ rf = rfL ∧ d = 528 ∧ rest = [.inl (nI a), .inl (nI b), .inl (nI t)] ∧ a < 40 ∧ b < 40 ∧ t < 40 ∧ a ≠ t ∧ b ≠ t ∧ ZIs I a x ∧ ZIs I b y ∧ x.natAbs < 2 ^ (24 * m1) ∧ y.natAbs < 2 ^ (24 * m2) ∧ m1 + m2 ≤ 260 ∧ ∀ I1, SF I I1 t → ZIs I1 t (x * y) → K none I1 J)
def pt_mbits : mSH → mRF → mPT := m_pv 5 (fun sh rf d rest I J K => ∃ (s : Nat) (z : Int), sh = shL ∧ rf = rfL ∧ d = 528 ∧ rest = [.inl (nI s)] ∧ s < 40 ∧ ZIs I s z ∧ K (some (.inl (nI (blen z.natAbs)))) I J)

def ct_X5_add (sh : mSH) (rf : mRF) : Nat → Option (Nat × Bool × mPT) := fun k => match k with
  | 66 => some (3, true, pt_mcopy sh rf)
  | 70 => some (4, true, pt_mjoin sh rf)
  | 74 => some (3, true, pt_mcompare sh rf)
  | 77 => some (4, true, pt_mless sh rf)
  | 80 => some (2, true, pt_mcut sh rf)
  | _ => none
set_option maxRecDepth 20000 in
theorem ce_X5_add : m_CE RX5 2 49 cX5_add 8 ct_X5_add := by
  intro p l e s m args below meth c Q D cs ad sh rf N hx hb hml hown hts hK hi hN k n vf pt h
  unfold ct_X5_add at h
  split at h
  · cases h
    exact m_CG_V mt_X5_copy hx hb hml hown hts hK hi hN (ci := 5) m_pv_rec rfl rfl (m_wck_ok (l := [(Cond.methodLink RX5 66 yX5_copy, 797), (Cond.instanceMethod yX5_copy, 799), (Cond.selects RX5 yX5_copy yX5_copy, 20), (Cond.initialized RX5, 62), (Cond.code yX5_copy cX5_copy 4 none, 800)]) (by decide +kernel)) ⟨rfl, by decide +kernel, by decide +kernel, by decide +kernel⟩ ⟨Nat.le_of_ble_eq_true rfl, Nat.le_of_ble_eq_true rfl⟩
  · cases h
    exact m_CG_V mt_X5_join hx hb hml hown hts hK hi hN (ci := 5) m_pv_rec rfl rfl (m_wck_ok (l := [(Cond.methodLink RX5 70 yX5_join, 805), (Cond.instanceMethod yX5_join, 807), (Cond.selects RX5 yX5_join yX5_join, 22), (Cond.initialized RX5, 62), (Cond.code yX5_join cX5_join 7 none, 808)]) (by decide +kernel)) ⟨rfl, by decide +kernel, by decide +kernel, by decide +kernel⟩ ⟨Nat.le_of_ble_eq_true rfl, Nat.le_of_ble_eq_true rfl⟩
  · cases h
    exact m_CG_V mt_X5_compare hx hb hml hown hts hK hi hN (ci := 5) m_pv_rec rfl rfl (m_wck_ok (l := [(Cond.methodLink RX5 74 yX5_compare, 814), (Cond.instanceMethod yX5_compare, 816), (Cond.selects RX5 yX5_compare yX5_compare, 24), (Cond.initialized RX5, 62), (Cond.code yX5_compare cX5_compare 6 (some .int), 817)]) (by decide +kernel)) ⟨rfl, by decide +kernel, by decide +kernel, by decide +kernel⟩ ⟨Nat.le_of_ble_eq_true rfl, Nat.le_of_ble_eq_true rfl⟩
  · cases h
    exact m_CG_V mt_X5_less hx hb hml hown hts hK hi hN (ci := 5) m_pv_rec rfl rfl (m_wck_ok (l := [(Cond.methodLink RX5 77 yX5_less, 818), (Cond.instanceMethod yX5_less, 820), (Cond.selects RX5 yX5_less yX5_less, 25), (Cond.initialized RX5, 62), (Cond.code yX5_less cX5_less 8 none, 821)]) (by decide +kernel)) ⟨rfl, by decide +kernel, by decide +kernel, by decide +kernel⟩ ⟨Nat.le_of_ble_eq_true rfl, Nat.le_of_ble_eq_true rfl⟩
  · cases h
    exact m_CG_V mt_X5_cut hx hb hml hown hts hK hi hN (ci := 5) m_pv_rec rfl rfl (m_wck_ok (l := [(Cond.methodLink RX5 80 yX5_cut, 793), (Cond.instanceMethod yX5_cut, 795), (Cond.selects RX5 yX5_cut yX5_cut, 19), (Cond.initialized RX5, 62), (Cond.code yX5_cut cX5_cut 2 none, 796)]) (by decide +kernel)) ⟨rfl, by decide +kernel, by decide +kernel, by decide +kernel⟩ ⟨Nat.le_of_ble_eq_true rfl, Nat.le_of_ble_eq_true rfl⟩
  · cases h
set_option maxHeartbeats 4000000 in
set_option maxRecDepth 100000 in
theorem mt_X5_add : m_Mt yX5_add cX5_add 8 none 2 49 pt_madd := by
  refine m_methodG (fl := fl_X5) (kI := kI_X5) (kJ := kJ_X5) (ct := ct_X5_add) (cd := cd_X5_add) (cut := [(24, [0, 1, 2, 3, 4, 5]), (161, [0, 4])]) (rk := 0) (fu := 120) (by decide +kernel) fl_X5_ok kI_X5_ok kJ_X5_ok ce_X5_add rfl ck_X5_add ⟨_, _, rfl, rfl⟩ ?_
  intro sh rf As I J K hpt
  obtain ⟨d, rest, rfl, hd, a, b, t, m, x, y, tm, rfl, rfl, rfl, rfl, ha, hb, ht, htm, hx, hy, hxm, hym, hm, hK⟩ := hpt
  obtain ⟨n1, hx1, hx2, hx3⟩ := id hx
  obtain ⟨n2, hy1, hy2, hy3⟩ := id hy
  have l1 := ZIs.lim hx1 hx2 hxm
  have l2 := ZIs.lim hy1 hy2 hym
  obtain ⟨y', hy'⟩ : ∃ y', y' = tm.toInt * y := ⟨_, rfl⟩
  rw [← hy'] at hK
  have esb : sgI y * tm = sgI y' := by
    rw [hy']
    rcases htm with rfl | rfl
    · rw [show (1 : Int32).toInt = 1 from rfl, Int.one_mul, Int32.mul_one]
    · rw [show (-1 : Int32).toInt = -1 from rfl, show (-1 : Int32) = sgI (-1) from rfl, sgI_x, Int.mul_comm]
  have eab : y'.natAbs = y.natAbs := by
    rw [hy', Int.natAbs_mul]
    rcases htm with rfl | rfl
    · exact Nat.one_mul _
    · exact Nat.one_mul _
  rw [← eab] at hy1 hym
  clear hy'
  refine ⟨Nat.le_of_ble_eq_true rfl, fun a9 b9 pc vs st I1 J1 => st = [] ∧ J1 = J ∧ ((pc = 24 ∧ a9 = 2 ∧ vs = [.inr (.inr 528), .inl (nI a), .inl (nI b), .inl tm, .inl (nI t), .inl (sgI y')] ∧ I1 = I ∧ (y' = 0 ∨ x = 0)) ∨ (pc = 161 ∧ a9 = 1 ∧ vs = [.inr (.inr 528), .inl (nI t)] ∧ SF I I1 t ∧ ∃ n, ZR I1 t n (x + y').natAbs ∧ (x + y' < 0 → I1 531 t = -1) ∧ (0 < x + y' → I1 531 t = 1))), ?_, ?_⟩
  · have ev : I 531 (nI b).toNatClampNeg * tm = sgI y' := by rw [scl hb, hy3, esb]
    refine ⟨rfl, sin hb, fun h => ?_, fun h => ⟨rfl, sin ha, fun h2 => ?_, fun h2 => ?_⟩⟩
    · have h : I 531 (nI b).toNatClampNeg * tm = 0 := h
      rw [ev, sgI_0] at h
      exact ⟨2, 0, rfl, rfl, Or.inl ⟨rfl, rfl, by rw [← ev]; rfl, rfl, Or.inl h⟩⟩
    · have h : ¬ I 531 (nI b).toNatClampNeg * tm = 0 := h
      have h2 : ¬ I 531 (nI a).toNatClampNeg = 0 := h2
      rw [ev, sgI_0] at h
      rw [scl ha, hx3, sgI_0] at h2
      refine ⟨rfl, sin ha, fun h3 => ?_, fun h3 => ?_⟩
      · have h3 : ¬ I 531 (nI a).toNatClampNeg = I 531 (nI b).toNatClampNeg * tm := h3
        rw [ev, scl ha, hx3] at h3
        refine ⟨528, [.inl (nI a), .inl (nI b)], rfl, rfl, a, b, x, y, rfl, rfl, rfl, rfl, ha, hb, hx, hy, fun h4 => ?_, fun h4 => ?_⟩
        · have h4 : cmpN x.natAbs y.natAbs < 0 := h4
          have hlt : x.natAbs < y'.natAbs := by
            rw [eab]
            unfold cmpN at h4
            by_cases q : x.natAbs < y.natAbs
            · exact q
            · rw [if_neg q] at h4
              split at h4 <;> exact absurd h4 (by decide)
          refine ⟨528, [.inl (nI b), .inl (nI a), .inl (nI t)], rfl, rfl, b, a, t, n2, n1, _, _, rfl, rfl, rfl, rfl, hb, ha, ht, hy1, hx1, ZIs.len hy1 hx1 hx2 (by omega), by omega, fun I1 s1 s2 s3 => ?_⟩
          refine ⟨rfl, sin ht, 1, 0, rfl, rfl, Or.inr ⟨rfl, rfl, rfl, ?_⟩⟩
          show SF I (m_uI I1 531 (nI t).toNatClampNeg (I 531 (nI b).toNatClampNeg * tm)) t ∧ ∃ n, ZR (m_uI I1 531 (nI t).toNatClampNeg (I 531 (nI b).toNatClampNeg * tm)) t n (x + y').natAbs ∧ (x + y' < 0 → m_uI I1 531 (nI t).toNatClampNeg (I 531 (nI b).toNatClampNeg * tm) 531 t = -1) ∧ (0 < x + y' → m_uI I1 531 (nI t).toNatClampNeg (I 531 (nI b).toNatClampNeg * tm) 531 t = 1)
          rw [scl ht, ev]
          have ez : (x + y').natAbs = y'.natAbs - x.natAbs := by
            rcases Int.lt_trichotomy x 0 with p | p | p <;> rcases Int.lt_trichotomy y' 0 with q | q | q
            · rw [sgI_n p, sgI_n q] at h3; exact absurd rfl h3
            · omega
            · omega
            · omega
            · omega
            · omega
            · omega
            · omega
            · rw [sgI_p p, sgI_p q] at h3; exact absurd rfl h3
          refine ⟨s1.trans (sf_s _ t _), n2, by rw [ez]; exact s3.sg, fun q => ?_, fun q => ?_⟩
          · rw [uI_s]
            refine sgI_n ?_
            omega
          · rw [uI_s]
            refine sgI_p ?_
            omega
        · have h4 : ¬ cmpN x.natAbs y.natAbs < 0 := h4
          have hlt : y'.natAbs ≤ x.natAbs := by
            rw [eab]
            unfold cmpN at h4
            by_cases q : x.natAbs < y.natAbs
            · rw [if_pos q] at h4
              exact absurd (by decide) h4
            · omega
          refine ⟨rfl, sin ha, 528, [.inl (nI a), .inl (nI b), .inl (nI t)], rfl, rfl, a, b, t, n1, n2, _, _, rfl, rfl, rfl, rfl, ha, hb, ht, hx1, hy1, ZIs.len hx1 hy1 hy2 hlt, hlt, fun I1 s1 s2 s3 => ?_⟩
          refine ⟨rfl, sin ht, 1, 0, rfl, rfl, Or.inr ⟨rfl, rfl, rfl, ?_⟩⟩
          show SF I (m_uI I1 531 (nI t).toNatClampNeg (I 531 (nI a).toNatClampNeg)) t ∧ ∃ n, ZR (m_uI I1 531 (nI t).toNatClampNeg (I 531 (nI a).toNatClampNeg)) t n (x + y').natAbs ∧ (x + y' < 0 → m_uI I1 531 (nI t).toNatClampNeg (I 531 (nI a).toNatClampNeg) 531 t = -1) ∧ (0 < x + y' → m_uI I1 531 (nI t).toNatClampNeg (I 531 (nI a).toNatClampNeg) 531 t = 1)
          rw [scl ht, scl ha, hx3]
          have ez : (x + y').natAbs = x.natAbs - y'.natAbs := by
            rcases Int.lt_trichotomy x 0 with p | p | p <;> rcases Int.lt_trichotomy y' 0 with q | q | q
            · rw [sgI_n p, sgI_n q] at h3; exact absurd rfl h3
            · omega
            · omega
            · omega
            · omega
            · omega
            · omega
            · omega
            · rw [sgI_p p, sgI_p q] at h3; exact absurd rfl h3
          refine ⟨s1.trans (sf_s _ t _), n1, by rw [ez]; exact s3.sg, fun q => ?_, fun q => ?_⟩
          · rw [uI_s]
            refine sgI_n ?_
            omega
          · rw [uI_s]
            refine sgI_p ?_
            omega
      · have h3 : I 531 (nI a).toNatClampNeg = I 531 (nI b).toNatClampNeg * tm := h3
        rw [ev, scl ha, hx3] at h3
        refine ⟨528, [.inl (nI a), .inl (nI b), .inl (nI t)], rfl, rfl, a, b, t, n1, n2, _, _, rfl, rfl, rfl, rfl, ha, hb, ht, hx1, hy1, by omega, fun I1 s1 s2 s3 => ?_⟩
        refine ⟨rfl, sin ht, 1, 0, rfl, rfl, Or.inr ⟨rfl, rfl, rfl, ?_⟩⟩
        show SF I (m_uI I1 531 (nI t).toNatClampNeg (I 531 (nI b).toNatClampNeg * tm)) t ∧ ∃ n, ZR (m_uI I1 531 (nI t).toNatClampNeg (I 531 (nI b).toNatClampNeg * tm)) t n (x + y').natAbs ∧ (x + y' < 0 → m_uI I1 531 (nI t).toNatClampNeg (I 531 (nI b).toNatClampNeg * tm) 531 t = -1) ∧ (0 < x + y' → m_uI I1 531 (nI t).toNatClampNeg (I 531 (nI b).toNatClampNeg * tm) 531 t = 1)
        rw [scl ht, ev]
        have esg : (x < 0 ∧ y' < 0) ∨ (0 < x ∧ 0 < y') := by
          rcases Int.lt_trichotomy x 0 with p | p | p <;> rcases Int.lt_trichotomy y' 0 with q | q | q
          · exact Or.inl ⟨p, q⟩
          · exact absurd q h
          · rw [sgI_n p, sgI_p q] at h3; exact absurd h3 (by decide)
          · exact absurd p h2
          · exact absurd p h2
          · exact absurd p h2
          · rw [sgI_p p, sgI_n q] at h3; exact absurd h3 (by decide)
          · exact absurd q h
          · exact Or.inr ⟨p, q⟩
        have ez : (x + y').natAbs = x.natAbs + y'.natAbs := by omega
        refine ⟨s1.trans (sf_s _ t _), _, by rw [ez]; exact s3.sg, fun q => ?_, fun q => ?_⟩
        · rw [uI_s]
          refine sgI_n ?_
          omega
        · rw [uI_s]
          refine sgI_p ?_
          omega
    · have h2 : I 531 (nI a).toNatClampNeg = 0 := h2
      rw [scl ha, hx3, sgI_0] at h2
      exact ⟨2, 0, rfl, rfl, Or.inl ⟨rfl, rfl, by rw [← ev]; rfl, rfl, Or.inr h2⟩⟩
  · intro pc ks a9 b9 vs st I1 J1 hc hI
    obtain ⟨rfl, rfl, hI⟩ := hI
    rcases m_cu1 hc with ⟨rfl, rfl⟩ | hc
    · rcases hI with ⟨-, rfl, rfl, rfl, hxy⟩ | ⟨q, -⟩
      · have fin : ∀ (f n : Nat) (z : Int) (sg : Int32), f < 40 → WF I1 f n → ZIs I1 f z → z.natAbs = (x + y').natAbs → sg = sgI (x + y') → pt_mcopy shL rfL [.inr (.inr 528), .inl (nI f), .inl (nI t)] I1 J1 (fun _ I2 J2 => shL 528 = .inl 5 ∧ m_inb shL 531 0 (nI t) ∧ K none (m_uI I2 531 (nI t).toNatClampNeg sg) J2) := by
          intro f n z sg hf hw hz e1 e2
          refine ⟨528, [.inl (nI f), .inl (nI t)], rfl, rfl, f, t, n, rfl, rfl, rfl, rfl, hf, ht, hw, fun I2 s1 s2 s3 s4 => ⟨rfl, sin ht, ?_⟩⟩
          have hz2 := ZIs.copy hw hz s2 s3 s4
          rw [scl ht]
          obtain ⟨n', z1, z2, z3⟩ := hz2
          refine hK _ (s1.trans (sf_s _ t _)) ⟨n', by rw [← e1]; exact z1.sg, fun q => by rw [zd_s]; exact z2 q, by rw [uI_s]; exact e2⟩
        refine ⟨fun h => ⟨fun h2 => ?_, fun h2 => absurd h2 h⟩, fun h => ⟨fun h2 => absurd h h2, fun h2 => ?_⟩⟩
        · have h : ¬ sgI y' = 0 := h
          rw [sgI_0] at h
          have hx0 := hxy.resolve_left h
          obtain ⟨b', rest, c1, c2, f, t', n, c3, c4, c5, c6, c7, c8, c9, c10⟩ := fin b n2 y (sgI y') hb hy1.1 hy (by omega) (by rw [hx0, Int.zero_add])
          exact ⟨b', rest, c1, c2, f, t', n, c3, c4, c5, c6, c7, c8, c9, c10⟩
        · have h : sgI y' = 0 := h
          rw [sgI_0] at h
          obtain ⟨b', rest, c1, c2, f, t', n, c3, c4, c5, c6, c7, c8, c9, c10⟩ := fin a n1 x (I1 531 (nI a).toNatClampNeg) ha hx1.1 hx (by omega) (by rw [scl ha, hx3, h, Int.add_zero])
          exact ⟨rfl, sin ha, b', rest, c1, c2, f, t', n, c3, c4, c5, c6, c7, c8, c9, c10⟩
      · exact absurd q (by decide)
    · rcases m_cu1 hc with ⟨rfl, rfl⟩ | hc
      · rcases hI with ⟨q, -⟩ | ⟨-, rfl, rfl, hsf, n, z1, z2, z3⟩
        · exact absurd q (by decide)
        · exact ⟨528, [.inl (nI t)], rfl, rfl, t, n, _, rfl, rfl, rfl, rfl, ht, z1, z2, z3, fun I2 s1 s2 => hK I2 (hsf.trans s1) s2⟩
      · cases hc

/-- slot t has digits up to wh -/
def WrA (I I1 : mPI) (t wh : Nat) : Prop := SF I I1 t ∧ I1 530 = I 530 ∧ I1 531 = I 531 ∧ ∀ i, i < wh → zd I1 t i < 2 ^ 24
theorem WrA.step {I I1 : mPI} {t k wh x idx : Nat} {v : Int32} {Q : mPI → Prop} (h : WrA I I1 t wh) (hk : k < wh) (hw : wh ≤ 260) (hx : x < 2 ^ 24) (hQ : ∀ I2, WrA I I2 t wh → (∀ i, i ≠ k → zd I2 t i = zd I1 t i) → dv (2 ^ 24) (zd I2 t) wh + zd I1 t k * (2 ^ 24) ^ k = dv (2 ^ 24) (zd I1 t) wh + x * (2 ^ 24) ^ k → Q I2) (hi : idx = 260 * t + k) (hv : v = nI x) : Q (m_uI I1 529 idx v) := by
  subst hi
  subst hv
  obtain ⟨h1, h2, h3, h4⟩ := h
  have e1 : ∀ i, i ≠ k → zd (m_uI I1 529 (260 * t + k) (nI x)) t i = zd I1 t i := fun i hi => zd_o I1 hi _
  have e2 : zd (m_uI I1 529 (260 * t + k) (nI x)) t k = x := by rw [zd_w, u32n (by omega)]
  refine hQ _ ⟨h1.trans (sf_z I1 (by omega) _), by rw [uI_a _ _ _ (by decide)]; exact h2, by rw [uI_a _ _ _ (by decide)]; exact h3, fun i hi => ?_⟩ e1 (dv_upd e2 e1 hk)
  by_cases q : i = k
  · rw [q, e2]
    exact hx
  · rw [e1 i q]
    exact h4 i hi

def ct_X5_multiply (sh : mSH) (rf : mRF) : Nat → Option (Nat × Bool × mPT) := fun k => match k with
  | 80 => some (2, true, pt_mcut sh rf)
  | _ => none
set_option maxRecDepth 20000 in
theorem ce_X5_multiply : m_CE RX5 1 21 cX5_multiply 11 ct_X5_multiply := by
  intro p l e s m args below meth c Q D cs ad sh rf N hx hb hml hown hts hK hi hN k n vf pt h
  unfold ct_X5_multiply at h
  split at h
  · cases h
    exact m_CG_V mt_X5_cut hx hb hml hown hts hK hi hN (ci := 5) m_pv_rec rfl rfl (m_wck_ok (l := [(Cond.methodLink RX5 80 yX5_cut, 793), (Cond.instanceMethod yX5_cut, 795), (Cond.selects RX5 yX5_cut yX5_cut, 19), (Cond.initialized RX5, 62), (Cond.code yX5_cut cX5_cut 2 none, 796)]) (by decide +kernel)) ⟨rfl, by decide +kernel, by decide +kernel, by decide +kernel⟩ ⟨Nat.le_of_ble_eq_true rfl, Nat.le_of_ble_eq_true rfl⟩
  · cases h
set_option maxHeartbeats 4000000 in
set_option maxRecDepth 100000 in
theorem mt_X5_multiply : m_Mt yX5_multiply cX5_multiply 11 none 1 21 pt_mmul := by
  refine m_methodG (fl := fl_X5) (kI := kI_X5) (kJ := kJ_X5) (ct := ct_X5_multiply) (cd := cd_X5_multiply) (cut := [(18, [0, 1, 2, 3, 4, 5]), (48, [0, 1, 2, 3, 4, 5]), (81, [0, 1, 2, 3, 4, 5, 6, 8, 10])]) (rk := 0) (fu := 120) (by decide +kernel) fl_X5_ok kI_X5_ok kJ_X5_ok ce_X5_multiply rfl ck_X5_multiply ⟨_, _, rfl, rfl⟩ ?_
  intro sh rf As I J K hpt
  obtain ⟨d, rest, rfl, hd, a, b, t, m1, m2, x, y, rfl, rfl, rfl, rfl, ha, hb, ht, hat, hbt, ⟨n1, hx1, hx2, hx3⟩, ⟨n2, hy1, hy2, hy3⟩, hxm, hym, hm, hK⟩ := hpt
  have l1 := ZIs.lim hx1 hx2 hxm
  have l2 := ZIs.lim hy1 hy2 hym
  obtain ⟨wh, hwh⟩ : ∃ wh, wh = n1 + n2 := ⟨_, rfl⟩
  refine ⟨Nat.le_of_ble_eq_true rfl, fun a9 b9 pc vs st I1 J1 => st = [] ∧ J1 = J ∧ ∃ i, ((pc = 18 ∧ a9 = 300 ∧ b9 = wh - i ∧ i ≤ wh ∧ vs = [.inr (.inr 528), .inl (nI a), .inl (nI b), .inl (nI t), .inl (nI wh), .inl (nI i)] ∧ WrI I I1 t i ∧ ∀ k, k < i → zd I1 t k = 0) ∨ (pc = 48 ∧ a9 = n1 - i ∧ i ≤ n1 ∧ b9 = n2 + 1 ∧ vs = [.inr (.inr 528), .inl (nI a), .inl (nI b), .inl (nI t), .inl (nI wh), .inl (nI i)] ∧ WrA I I1 t wh ∧ (∀ k, i + n2 ≤ k → k < wh → zd I1 t k = 0) ∧ dv (2 ^ 24) (zd I1 t) wh = dv (2 ^ 24) (zd I a) i * y.natAbs) ∨ (pc = 81 ∧ a9 = n1 - i ∧ i < n1 ∧ ∃ j c, b9 = n2 - j ∧ j ≤ n2 ∧ c < 2 ^ 24 ∧ vs = [.inr (.inr 528), .inl (nI a), .inl (nI b), .inl (nI t), .inl (nI wh), .inl (nI i), .inr (.inl (lN c)), .inr (.inl (lN (zd I a i))), .inl (nI j)] ∧ WrA I I1 t wh ∧ (∀ k, i + n2 ≤ k → k < wh → zd I1 t k = 0) ∧ dv (2 ^ 24) (zd I1 t) wh + c * ((2 ^ 24) ^ i * (2 ^ 24) ^ j) = dv (2 ^ 24) (zd I a) i * y.natAbs + zd I a i * (2 ^ 24) ^ i * dv (2 ^ 24) (zd I b) j)), ?_, ?_⟩
  · refine ⟨rfl, lin ha, rfl, lin hb, 300, wh - 0, rfl, rfl, 0, Or.inl ⟨rfl, rfl, rfl, Nat.zero_le _, ?_, WrI.rfl' I t, fun k hk => absurd hk (Nat.not_lt_zero k)⟩⟩
    show ([.inr (.inr 528), .inl (nI a), .inl (nI b), .inl (nI t), .inl (I 530 (nI a).toNatClampNeg + I 530 (nI b).toNatClampNeg), .inl 0] : List mPV) = _
    rw [scl ha, scl hb, hx1.1.1, hy1.1.1, nI_add, ← hwh]
    rfl
  · intro pc ks a9 b9 vs st I1 J1 hc hI
    obtain ⟨rfl, rfl, i, hI⟩ := hI
    rcases m_cu1 hc with ⟨rfl, rfl⟩ | hc
    · rcases hI with ⟨-, rfl, rfl, hi, rfl, hwr, hz⟩ | ⟨q, -⟩ | ⟨q, -⟩
      · refine ⟨fun h => ?_, fun h => ?_⟩
        · have h : nI wh ≤ nI i := h
          rw [nI_leI (by omega) (by omega)] at h
          obtain rfl : i = wh := by omega
          refine ⟨n1 - 0, n2 + 1, Or.inl (by omega), rfl, rfl, 0, Or.inr (Or.inl ⟨rfl, rfl, Nat.zero_le _, rfl, rfl, ⟨hwr.1, hwr.2.1, hwr.2.2.1, hwr.2.2.2.1⟩, fun k _ hk => hz k hk, ?_⟩)⟩
          rw [dv_ext (n := 0) (Nat.zero_le _) (fun k _ hk => hz k hk), dv, dv, Nat.zero_mul]
        · have h : ¬ nI wh ≤ nI i := h
          rw [nI_leI (by omega) (by omega)] at h
          refine ⟨rfl, zin ht (by omega), 300, wh - (i + 1), Or.inr ⟨rfl, by omega⟩, rfl, rfl, i + 1, Or.inl ⟨rfl, rfl, rfl, by omega, by rw [← nI_1 i], ?_⟩⟩
          refine hwr.step (Q := fun I2 => WrI I I2 t (i + 1) ∧ ∀ k, k < i + 1 → zd I2 t k = 0) (by omega) (x := 0) (by decide) (fun I2 f1 f2 f3 f4 => ⟨f1, fun k hk => ?_⟩) (zcl ht (by omega)) rfl
          by_cases q : k = i
          · rw [q]
            exact f3
          · rw [f2 k (by omega)]
            exact hz k (by omega)
      · exact absurd q (by decide)
      · exact absurd q (by decide)
    · rcases m_cu1 hc with ⟨rfl, rfl⟩ | hc
      · rcases hI with ⟨q, -⟩ | ⟨-, rfl, hi, rfl, rfl, hwr, hz, e4⟩ | ⟨q, -⟩
        · exact absurd q (by decide)
        · have e0 := hwr.2.1
          have e1 := hwr.2.2.1
          refine ⟨rfl, lin ha, fun h => ?_, fun h => ?_⟩
          · have h : I1 530 (nI a).toNatClampNeg ≤ nI i := h
            rw [scl ha, e0, hx1.1.1, nI_leI (by omega) (by omega)] at h
            obtain rfl : i = n1 := by omega
            refine ⟨rfl, lin ht, rfl, rfl, sin ha, rfl, sin hb, sin ht, ?_⟩
            rw [hx1.2, ← Int.natAbs_mul] at e4
            refine ⟨528, [.inl (nI t)], rfl, rfl, t, wh, x * y, rfl, rfl, rfl, rfl, ht, ?_⟩
            have key : ∀ I3, I3 = m_uI (m_uI I1 530 t (nI wh)) 531 t (sgI (x * y)) → ZR I3 t wh (x * y).natAbs ∧ (x * y < 0 → I3 531 t = -1) ∧ (0 < x * y → I3 531 t = 1) ∧ ∀ I2, SF I3 I2 t → ZIs I2 t (x * y) → K none I2 J1 := by
              intro I3 hI3
              subst hI3
              rw [uI_s]
              refine ⟨ZR.sg ⟨⟨uI_s _ _ _ _, by omega, fun k hk => by rw [zd_l]; exact hwr.2.2.2 k hk⟩, by rw [dv_congr (fun k _ => zd_l I1 t _ t k)]; exact e4⟩, sgI_n, sgI_p, fun I2 s1 s2 => hK I2 (((hwr.1.trans (sf_l I1 t _)).trans (sf_s _ t _)).trans s1) s2⟩
            refine key _ ?_
            show m_uI (m_uI I1 530 (nI t).toNatClampNeg (nI wh)) 531 (nI t).toNatClampNeg ((m_uI I1 530 (nI t).toNatClampNeg (nI wh)) 531 (nI a).toNatClampNeg * (m_uI I1 530 (nI t).toNatClampNeg (nI wh)) 531 (nI b).toNatClampNeg) = _
            rw [scl ht, scl ha, scl hb, uI_a _ _ _ (show (531 : Nat) ≠ 530 by decide), e1, hx3, hy3, sgI_x]
          · have h : ¬ I1 530 (nI a).toNatClampNeg ≤ nI i := h
            rw [scl ha, e0, hx1.1.1, nI_leI (by omega) (by omega)] at h
            refine ⟨rfl, zin ha (by omega), n1 - i, n2 - 0, Or.inr ⟨rfl, by omega⟩, rfl, rfl, i, Or.inr (Or.inr ⟨rfl, rfl, by omega, 0, 0, rfl, Nat.zero_le _, by decide, ?_, hwr, hz, ?_⟩)⟩
            · show ([.inr (.inr 528), .inl (nI a), .inl (nI b), .inl (nI t), .inl (nI wh), .inl (nI i), .inr (.inl 0), .inr (.inl (I1 529 ((260 : Int32) * nI a + nI i).toNatClampNeg).toInt64), .inl 0] : List mPV) = _
              rw [zrd I1 ha (by omega), hwr.1.zd hat (by omega), nI_l (by have := hx1.1.2.2 i (by omega); omega)]
              rfl
            · rw [e4, dv, Nat.zero_mul, Nat.mul_zero]
        · exact absurd q (by decide)
      · rcases m_cu1 hc with ⟨rfl, rfl⟩ | hc
        · rcases hI with ⟨q, -⟩ | ⟨q, -⟩ | ⟨-, rfl, hi, j, c, rfl, hj, hcc, rfl, hwr, hz, e4⟩
          · exact absurd q (by decide)
          · exact absurd q (by decide)
          · have e0 := hwr.2.1
            have hxa := hx1.1.2.2 i hi
            refine ⟨rfl, lin hb, fun h => ?_, fun h => ?_⟩
            · have h : I1 530 (nI b).toNatClampNeg ≤ nI j := h
              rw [scl hb, e0, hy1.1.1, nI_leI (by omega) (by omega)] at h
              obtain rfl : j = n2 := by omega
              have ex : (260 : Int32) * nI t + nI i + I1 530 (nI b).toNatClampNeg = (260 : Int32) * nI t + nI (i + j) := by
                rw [scl hb, e0, hy1.1.1, zx, zx, nI_add, show 260 * t + i + j = 260 * t + (i + j) by omega]
              have hin : m_inb shL 529 0 ((260 : Int32) * nI t + nI i + I1 530 (nI b).toNatClampNeg) := by
                rw [ex]
                exact zin ht (by omega)
              have hcl : ((260 : Int32) * nI t + nI i + I1 530 (nI b).toNatClampNeg).toNatClampNeg = 260 * t + (i + j) := by
                rw [ex]
                exact zcl ht (by omega)
              refine ⟨rfl, rfl, lin hb, hin, n1 - (i + 1), j + 1, Or.inl (by omega), rfl, rfl, i + 1, Or.inr (Or.inl ⟨rfl, rfl, by omega, rfl, by rw [← nI_1 i], ?_⟩)⟩
              refine hwr.step (Q := fun I2 => WrA I I2 t wh ∧ (∀ k, i + 1 + j ≤ k → k < wh → zd I2 t k = 0) ∧ dv (2 ^ 24) (zd I2 t) wh = dv (2 ^ 24) (zd I a) (i + 1) * y.natAbs) (k := i + j) (by omega) (by omega) (x := c) hcc (fun I2 f1 f2 f3 => ⟨f1, fun k h1 h2 => ?_, ?_⟩) hcl (lN_i c)
              · rw [f2 k (by omega)]
                exact hz k (by omega) h2
              · rw [hz (i + j) (Nat.le_refl _) (by omega), Nat.zero_mul, Nat.add_zero, Nat.pow_add, e4, hy1.2] at f3
                rw [f3, dv, Nat.add_mul]
            · have h : ¬ I1 530 (nI b).toNatClampNeg ≤ nI j := h
              rw [scl hb, e0, hy1.1.1, nI_leI (by omega) (by omega)] at h
              have hyb := hy1.1.2.2 j (by omega)
              have hg := hwr.2.2.2 (i + j) (by omega)
              have ex : (260 : Int32) * nI t + nI i + nI j = (260 : Int32) * nI t + nI (i + j) := by
                rw [zx, zx, nI_add, show 260 * t + i + j = 260 * t + (i + j) by omega]
              have hs : zd I a i * zd I b j ≤ 16777215 * 16777215 := Nat.mul_le_mul (by omega) (by omega)
              have esum : lN c + (lN (zd I a i) * (I1 529 ((260 : Int32) * nI b + nI j).toNatClampNeg).toInt64 + (I1 529 ((260 : Int32) * nI t + nI i + nI j).toNatClampNeg).toInt64) = lN (c + (zd I a i * zd I b j + zd I1 t (i + j))) := by
                rw [ex, zrd I1 hb (by omega), zrd I1 ht (by omega), hwr.1.zd hbt (by omega), nI_l (by omega), nI_l (by omega), lN_mul, lN_add, lN_add]
              have hin : m_inb shL 529 0 ((260 : Int32) * nI t + nI i + nI j) := by
                rw [ex]
                exact zin ht (by omega)
              have hcl : ((260 : Int32) * nI t + nI i + nI j).toNatClampNeg = 260 * t + (i + j) := by
                rw [ex]
                exact zcl ht (by omega)
              refine ⟨rfl, zin hb (by omega), rfl, hin, rfl, hin, n1 - i, n2 - (j + 1), Or.inr ⟨rfl, by omega⟩, rfl, rfl, i, Or.inr (Or.inr ⟨rfl, rfl, hi, j + 1, (c + (zd I a i * zd I b j + zd I1 t (i + j))) / 2 ^ 24, rfl, by omega, by omega, ?_, ?_⟩)⟩
              · rw [← nI_1 j, ← l_shr24 (by omega), ← esum]
                rfl
              · refine hwr.step (Q := fun I2 => WrA I I2 t wh ∧ (∀ k, i + n2 ≤ k → k < wh → zd I2 t k = 0) ∧ dv (2 ^ 24) (zd I2 t) wh + (c + (zd I a i * zd I b j + zd I1 t (i + j))) / 2 ^ 24 * ((2 ^ 24) ^ i * (2 ^ 24) ^ (j + 1)) = dv (2 ^ 24) (zd I a) i * y.natAbs + zd I a i * (2 ^ 24) ^ i * dv (2 ^ 24) (zd I b) (j + 1)) (k := i + j) (by omega) (by omega) (x := (c + (zd I a i * zd I b j + zd I1 t (i + j))) % 2 ^ 24) (Nat.mod_lt _ (by decide)) (fun I2 f1 f2 f3 => ⟨f1, fun k h1 h2 => ?_, ?_⟩) hcl ?_
                · rw [f2 k (by omega)]
                  exact hz k h1 h2
                · rw [show (2 ^ 24) ^ (j + 1) = (2 ^ 24) ^ j * 2 ^ 24 from Nat.pow_succ _ _, ← Nat.mul_assoc ((2 ^ 24) ^ i), dv]
                  rw [Nat.pow_add] at f3
                  exact mul_step e4 f3
                · show (lN c + (lN (zd I a i) * (I1 529 ((260 : Int32) * nI b + nI j).toNatClampNeg).toInt64 + (I1 529 ((260 : Int32) * nI t + nI i + nI j).toNatClampNeg).toInt64) &&& 16777215).toInt32 = _
                  rw [esum, l_and24 (by omega), lN_i]
        · cases hc

/-! all slots at once -/
def MS (I : mPI) (σ : Nat → Int) : Prop := ∀ s, s < 40 → ZIs I s (σ s)
def MF (I I1 : mPI) : Prop := ∀ a, a ≠ 529 → a ≠ 530 → a ≠ 531 → I1 a = I a
def up (σ : Nat → Int) (t : Nat) (v : Int) : Nat → Int := fun s => if s = t then v else σ s
theorem up_s (σ : Nat → Int) (t : Nat) (v : Int) : up σ t v t = v := if_pos rfl
theorem up_o (σ : Nat → Int) {t s : Nat} (v : Int) (h : s ≠ t) : up σ t v s = σ s := if_neg h
theorem MF.rfl' (I : mPI) : MF I I := fun _ _ _ _ => rfl
theorem MF.trans {I I1 I2 : mPI} (h : MF I I1) (g : MF I1 I2) : MF I I2 := fun a p q r => (g a p q r).trans (h a p q r)
theorem SF.mf {I I1 : mPI} {t : Nat} (h : SF I I1 t) : MF I I1 := fun a p q r => h.1 a p q r
theorem MS.up {I I1 : mPI} {σ : Nat → Int} {t : Nat} {v : Int} (h : MS I σ) (hs : SF I I1 t) (hz : ZIs I1 t v) : MS I1 (up σ t v) := fun s hs40 => by
  by_cases q : s = t
  · subst q
    rw [up_s]
    exact hz
  · rw [up_o σ v q]
    exact (h s hs40).sf hs q
theorem MS.cp {I I1 : mPI} {σ : Nat → Int} {f t n : Nat} (h : MS I σ) (hf : f < 40) (hw : WF I f n) (h0 : SF I I1 t) (h1 : I1 530 t = I 530 f) (h2 : I1 531 t = I 531 f) (h3 : ∀ k, k < n → zd I1 t k = zd I f k) : MS I1 (Jvm.Pilot.CMomentDeskLaw_law_r2060_3202d2.up σ t (σ f)) := h.up h0 (ZIs.copy hw (h f hf) h1 h2 h3)
theorem MS.wf {I : mPI} {σ : Nat → Int} {s : Nat} (h : MS I σ) (hs : s < 40) : ∃ n, WF I s n := by
  obtain ⟨n, h1, -⟩ := h s hs
  exact ⟨n, h1.1⟩
def pt_mtimes : mSH → mRF → mPT := m_pv 5 (fun sh rf d rest I J K => ∃ (s m : Nat) (v : Int64) (σ : Nat → Int), sh = shL ∧ rf = rfL ∧ d = 528 ∧ rest = [.inl (nI s), .inr (.inl v)] ∧ s < 40 ∧ s ≠ 5 ∧ s ≠ 6 ∧ MS I σ ∧ v.toInt.natAbs < 2 ^ 63 ∧ (σ s).natAbs < 2 ^ (24 * m) ∧ m + 3 ≤ 260 ∧ ∀ I1, MF I I1 → MS I1 (up (up (up σ 6 v.toInt) 5 (σ s * v.toInt)) s (σ s * v.toInt)) → K none I1 J)

def ct_X5_times (sh : mSH) (rf : mRF) : Nat → Option (Nat × Bool × mPT) := fun k => match k with
  | 50 => some (3, true, pt_mset sh rf)
  | 84 => some (4, true, pt_mmul sh rf)
  | 66 => some (3, true, pt_mcopy sh rf)
  | _ => none
set_option maxRecDepth 20000 in
theorem ce_X5_times : m_CE RX5 2 51 cX5_times 4 ct_X5_times := by
  intro p l e s m args below meth c Q D cs ad sh rf N hx hb hml hown hts hK hi hN k n vf pt h
  unfold ct_X5_times at h
  split at h
  · cases h
    exact m_CG_V mt_X5_set hx hb hml hown hts hK hi hN (ci := 5) m_pv_rec rfl rfl (m_wck_ok (l := [(Cond.methodLink RX5 50 yX5_set, 677), (Cond.instanceMethod yX5_set, 679), (Cond.selects RX5 yX5_set yX5_set, 14), (Cond.initialized RX5, 62), (Cond.code yX5_set cX5_set 7 none, 680)]) (by decide +kernel)) ⟨rfl, by decide +kernel, by decide +kernel, by decide +kernel⟩ ⟨Nat.le_of_ble_eq_true rfl, Nat.le_of_ble_eq_true rfl⟩
  · cases h
    exact m_CG_V mt_X5_multiply hx hb hml hown hts hK hi hN (ci := 5) m_pv_rec rfl rfl (m_wck_ok (l := [(Cond.methodLink RX5 84 yX5_multiply, 789), (Cond.instanceMethod yX5_multiply, 791), (Cond.selects RX5 yX5_multiply yX5_multiply, 18), (Cond.initialized RX5, 62), (Cond.code yX5_multiply cX5_multiply 11 none, 792)]) (by decide +kernel)) ⟨rfl, by decide +kernel, by decide +kernel, by decide +kernel⟩ ⟨Nat.le_of_ble_eq_true rfl, Nat.le_of_ble_eq_true rfl⟩
  · cases h
    exact m_CG_V mt_X5_copy hx hb hml hown hts hK hi hN (ci := 5) m_pv_rec rfl rfl (m_wck_ok (l := [(Cond.methodLink RX5 66 yX5_copy, 797), (Cond.instanceMethod yX5_copy, 799), (Cond.selects RX5 yX5_copy yX5_copy, 20), (Cond.initialized RX5, 62), (Cond.code yX5_copy cX5_copy 4 none, 800)]) (by decide +kernel)) ⟨rfl, by decide +kernel, by decide +kernel, by decide +kernel⟩ ⟨Nat.le_of_ble_eq_true rfl, Nat.le_of_ble_eq_true rfl⟩
  · cases h
set_option maxHeartbeats 4000000 in
set_option maxRecDepth 100000 in
theorem mt_X5_times : m_Mt yX5_times cX5_times 4 none 2 51 pt_mtimes := by
  refine m_method0 80 (fl := fl_X5) (kI := kI_X5) (kJ := kJ_X5) (ct := ct_X5_times) (cd := cd_X5_times) (rk := 0) (by decide +kernel) fl_X5_ok kI_X5_ok kJ_X5_ok ce_X5_times rfl ck_X5_times ⟨_, _, rfl, rfl⟩ ?_
  intro sh rf As I J K hpt
  obtain ⟨d, rest, rfl, hd, s, m, v, σ, rfl, rfl, rfl, rfl, hs, h5, h6, hM, hv, hm1, hm, hK⟩ := hpt
  refine ⟨Nat.le_of_ble_eq_true rfl, 528, [.inl (nI 6), .inr (.inl v)], rfl, rfl, 6, v, rfl, rfl, rfl, rfl, by decide, hv, fun I1 a1 a2 => ?_⟩
  have M1 := hM.up a1 a2
  have z1 := M1 s hs
  rw [up_o σ _ h6] at z1
  refine ⟨528, [.inl (nI s), .inl (nI 6), .inl (nI 5)], rfl, rfl, s, 6, 5, m, 3, σ s, v.toInt, rfl, rfl, rfl, rfl, hs, by decide, by decide, h5, by decide, z1, a2, hm1, Nat.lt_of_lt_of_le hv (Nat.pow_le_pow_right (by decide) (by decide)), hm, fun I2 b1 b2 => ?_⟩
  have M2 := M1.up b1 b2
  obtain ⟨n, hw⟩ := M2.wf (s := 5) (by decide)
  refine ⟨528, [.inl (nI 5), .inl (nI s)], rfl, rfl, 5, s, n, rfl, rfl, rfl, rfl, by decide, hs, hw, fun I3 c1 c2 c3 c4 => ?_⟩
  have M3 := M2.cp (by decide) hw c1 c2 c3 c4
  rw [up_s] at M3
  exact hK I3 ((a1.mf.trans b1.mf).trans c1.mf) M3

theorem blen_dig {D : Nat} {g : Nat → Nat} {n b : Nat} (hg : ∀ i, i < n + 1 → g i < 2 ^ 24) (h : dv (2 ^ 24) g (n + 1) = D) (h1 : g n < 2 ^ (b + 1)) (h2 : 2 ^ b ≤ g n) : blen D = 24 * n + (b + 1) := by
  have e : dv (2 ^ 24) g (n + 1) = dv (2 ^ 24) g n + g n * (2 ^ 24) ^ n := rfl
  have l := dv_lt (B := 2 ^ 24) (g := g) (n := n) (fun i hi => hg i (by omega))
  rw [← Nat.pow_mul] at e l
  rw [h] at e
  have a1 : 2 ^ b * 2 ^ (24 * n) ≤ g n * 2 ^ (24 * n) := Nat.mul_le_mul_right _ h2
  have a2 : (g n + 1) * 2 ^ (24 * n) ≤ 2 ^ (b + 1) * 2 ^ (24 * n) := Nat.mul_le_mul_right _ h1
  rw [← Nat.pow_add] at a1 a2
  rw [Nat.add_mul, Nat.one_mul] at a2
  rw [show 24 * n + (b + 1) = (b + 24 * n) + 1 by omega]
  refine blen_of (by omega) ?_
  rw [show b + 24 * n + 1 = b + 1 + 24 * n by omega]
  omega

set_option maxHeartbeats 4000000 in
set_option maxRecDepth 100000 in
theorem mt_X5_bitsOf : m_Mt yX5_bitsOf cX5_bitsOf 3 (some .int) 0 0 pt_mbits := by
  refine m_methodG (fl := fl_X5) (kI := kI_X5) (kJ := kJ_X5) (ct := ct_none) (cd := cd_X5_bitsOf) (cut := [(13, [0, 1, 2])]) (rk := 1) (fu := 80) (by decide +kernel) fl_X5_ok kI_X5_ok kJ_X5_ok (ce_none _ _ _ _ _) rfl ck_X5_bitsOf ⟨_, _, rfl, rfl⟩ ?_
  intro sh rf As I J K hpt
  obtain ⟨d, rest, rfl, hd, s, z, rfl, rfl, rfl, rfl, hs, ⟨n, ⟨⟨w1, w2, w3⟩, w4⟩, h2, h3⟩, hK⟩ := hpt
  refine ⟨Nat.le_of_ble_eq_true rfl, fun a9 b9 pc vs st I1 J1 => ∃ b, vs = [.inr (.inr 528), .inl (nI s), .inl (nI b)] ∧ st = [] ∧ I1 = I ∧ J1 = J ∧ a9 = 30 - b ∧ b ≤ 24 ∧ 0 < n ∧ (0 < b → 2 ^ (b - 1) ≤ zd I s (n - 1)), ?_, ?_⟩
  · refine ⟨rfl, lin hs, fun h => ?_, fun h => ?_⟩
    · have h : ¬ I 530 (nI s).toNatClampNeg = nI 0 := h
      rw [scl hs, w1, nI_eq (by omega) (by omega)] at h
      exact ⟨30 - 0, 0, 0, rfl, rfl, rfl, rfl, rfl, by omega, by omega, fun q => absurd q (Nat.lt_irrefl 0)⟩
    · have h : I 530 (nI s).toNatClampNeg = nI 0 := h
      rw [scl hs, w1, nI_eq (by omega) (by omega)] at h
      rw [h, dv] at w4
      rw [← w4] at hK
      exact hK
  · intro pc ks a9 b9 vs st I1 J1 hc hI
    rcases m_cu1 hc with ⟨rfl, rfl⟩ | hc
    · obtain ⟨b, rfl, rfl, rfl, rfl, rfl, hb, hn, hlo⟩ := hI
      have ht := w3 (n - 1) (by omega)
      have hnz := h2 hn
      have ex : (260 : Int32) * nI s + I1 530 (nI s).toNatClampNeg - 1 = (260 : Int32) * nI s + nI (n - 1) := by
        rw [scl hs, w1, zx, zx, show 260 * s + (n - 1) = 260 * s + n - 1 by omega]
        exact pk_sub (b := 1) (by omega)
      have hin : m_inb shL 529 0 ((260 : Int32) * nI s + I1 530 (nI s).toNatClampNeg - 1) := by
        rw [ex]
        exact zin hs (by omega)
      have evl : I1 529 ((260 : Int32) * nI s + I1 530 (nI s).toNatClampNeg - 1).toNatClampNeg >>> (nI b &&& 31) = nI (zd I1 s (n - 1) / 2 ^ b) := by
        rw [ex, zrd I1 hs (by omega), i_sarn (by omega) (by omega)]
      have hdl : zd I1 s (n - 1) / 2 ^ b ≤ zd I1 s (n - 1) := Nat.div_le_self _ _
      refine ⟨rfl, rfl, lin hs, hin, fun h => ?_, fun h => ?_⟩
      · have h : I1 529 ((260 : Int32) * nI s + I1 530 (nI s).toNatClampNeg - 1).toNatClampNeg >>> (nI b &&& 31) = nI 0 := h
        rw [evl, nI_eq (by omega) (by omega)] at h
        have hlt : zd I1 s (n - 1) < 2 ^ b := by
          rcases Nat.lt_or_ge (zd I1 s (n - 1)) (2 ^ b) with q | q
          · exact q
          · have := Nat.div_pos q (Nat.pow_pos (n := b) (show 0 < 2 by decide))
            omega
        have b0 : 0 < b := by
          rcases Nat.eq_zero_or_pos b with q | q
          · rw [q] at hlt
            omega
          · exact q
        obtain ⟨c, rfl⟩ : ∃ c, b = c + 1 := ⟨b - 1, by omega⟩
        obtain ⟨k, rfl⟩ : ∃ k, n = k + 1 := ⟨n - 1, by omega⟩
        have := blen_dig (g := zd I1 s) (n := k) (b := c) w3 w4 hlt (hlo (by omega))
        rw [this] at hK
        refine ⟨rfl, lin hs, ?_⟩
        show K (some (.inl (24 * (I1 530 (nI s).toNatClampNeg - 1) + nI (c + 1)))) I1 J1
        rw [scl hs, w1, show nI (k + 1) - 1 = nI k from pk_sub (a := k + 1) (b := 1) (by omega), show (24 : Int32) * nI k = nI (24 * k) from (Int32.ofNat_mul 24 k).symm, nI_add]
        exact hK
      · have h : ¬ I1 529 ((260 : Int32) * nI s + I1 530 (nI s).toNatClampNeg - 1).toNatClampNeg >>> (nI b &&& 31) = nI 0 := h
        rw [evl, nI_eq (by omega) (by omega)] at h
        have hge : 2 ^ b ≤ zd I1 s (n - 1) := by
          rcases Nat.lt_or_ge (zd I1 s (n - 1)) (2 ^ b) with q | q
          · exact absurd (Nat.div_eq_of_lt q) h
          · exact q
        have hb24 : b < 24 := by
          have : 2 ^ b < 2 ^ 24 := by omega
          exact (Nat.pow_lt_pow_iff_right (by decide)).mp this
        exact ⟨30 - (b + 1), 0, Or.inl (by omega), b + 1, by rw [← nI_1 b], rfl, rfl, rfl, rfl, by omega, hn, fun _ => hge⟩
    · cases hc

