/-! ===== the simulation: class and reference hold the same ===== -/
def LRg (k7 : Int32) (pl wg w : Nat → Int32) : Prop := ∃ n, k7 = nI n ∧ n ≤ 10 ∧ (∀ i, i < n → ∃ x, x < 19 ∧ pl i = nI x - 9 ∧ wg i = w x ∧ w x ≠ 0) ∧ (∀ i j, i < n → j < n → pl i = pl j → i = j) ∧ ∀ x, x < 19 → w x ≠ 0 → ∃ i, i < n ∧ pl i = nI x - 9
theorem LRg.m {I : mPI} {w : Nat → Int32} (h : LRg (I 528 7) (I 533) (I 534) w) : LRm I w := h
theorem LRm.g {I : mPI} {w : Nat → Int32} (h : LRm I w) : LRg (I 528 7) (I 533) (I 534) w := h
theorem LRg.cg {k7 k7' : Int32} {pl wg w pl' wg' w' : Nat → Int32} (h : LRg k7 pl wg w) (e7 : k7' = k7) (e1 : ∀ i, i < 10 → pl' i = pl i) (e2 : ∀ i, i < 10 → wg' i = wg i) (e3 : ∀ x, x < 19 → w' x = w x) : LRg k7' pl' wg' w' := by
  obtain ⟨n, h7, hn, a1, a2, a3⟩ := h
  refine ⟨n, e7.trans h7, hn, fun i hi => ?_, fun i j hi hj e => ?_, fun x hx hw => ?_⟩
  · obtain ⟨x, b1, b2, b3, b4⟩ := a1 i hi
    exact ⟨x, b1, by rw [e1 i (by omega)]; exact b2, by rw [e2 i (by omega), e3 x b1]; exact b3, by rw [e3 x b1]; exact b4⟩
  · rw [e1 i (by omega), e1 j (by omega)] at e
    exact a2 i j hi hj e
  · rw [e3 x hx] at hw
    obtain ⟨i, b1, b2⟩ := a3 x hx hw
    exact ⟨i, b1, by rw [e1 i (by omega)]; exact b2⟩
def WRel (c cw : Nat → Int32) (cm : Nat → Int64) (k4 k5 k6 k7 : Int32) (pl wg : Nat → Int32) (mm : Nat → Int64) : Prop := ∃ l kd n, c 1 = nI l ∧ k5 = nI l ∧ 3 ≤ l ∧ l ≤ 11 ∧ c 0 = nI kd ∧ k4 = nI kd ∧ kd < 4 ∧ c 2 = nI n ∧ k7 = nI n ∧ n ≤ 10 ∧ (kd ≠ 0 → n = 0) ∧ k6 = c 3 ∧ (c 3 = 0 ∨ c 3 = 1) ∧ (c 3 = 0 → l = 11) ∧ (∀ k, k ≤ l → mm k = cm k) ∧ (∀ k, k < 12 → (mm k).toInt.natAbs ≤ MB) ∧ (kd = 0 → c 3 = 0 → LRg k7 pl wg cw)
theorem WRel.cg {c cw c' cw' : Nat → Int32} {cm cm' : Nat → Int64} {k4 k5 k6 k7 k4' k5' k6' k7' : Int32} {pl wg pl' wg' : Nat → Int32} {mm mm' : Nat → Int64} (h : WRel c cw cm k4 k5 k6 k7 pl wg mm) (e0 : ∀ k, k < 4 → c' k = c k) (e1 : ∀ x, x < 19 → cw' x = cw x) (e2 : ∀ k, k < 12 → cm' k = cm k) (e4 : k4' = k4) (e5 : k5' = k5) (e6 : k6' = k6) (e7 : k7' = k7) (e8 : ∀ i, i < 10 → pl' i = pl i) (e9 : ∀ i, i < 10 → wg' i = wg i) (e10 : ∀ k, k < 12 → mm' k = mm k) : WRel c' cw' cm' k4' k5' k6' k7' pl' wg' mm' := by
  obtain ⟨l, kd, n, a1, a2, a3, a4, a5, a6, a7, a8, a9, b1, b2, b3, b4, b5, b6, b7, b8⟩ := h
  have c3 := e0 3 (by decide)
  refine ⟨l, kd, n, (e0 1 (by decide)).trans a1, e5.trans a2, a3, a4, (e0 0 (by decide)).trans a5, e4.trans a6, a7, (e0 2 (by decide)).trans a8, e7.trans a9, b1, b2, by rw [c3]; exact e6.trans b3, by rw [c3]; exact b4, by rw [c3]; exact b5, fun k hk => by rw [e10 k (by omega), e2 k (by omega)]; exact b6 k hk, fun k hk => by rw [e10 k hk]; exact b7 k hk, fun q1 q2 => ?_⟩
  rw [c3] at q2
  exact (b8 q1 q2).cg e7 e8 e9 e1
def KR (I : mPI) (J : mPJ) (p : Nat) : Prop := (I 525 p = 0 ∧ I 540 (5 * p) ≠ 1) ∨ (I 525 p ≠ 0 ∧ I 540 (5 * p) = 1 ∧ WRel (I (514 + p)) (I (517 + p)) (J (520 + p)) (I 540 (5 * p + 1)) (I 540 (5 * p + 2)) (I 540 (5 * p + 3)) (I 540 (5 * p + 4)) (fun k => I 538 (10 * p + k)) (fun k => I 539 (10 * p + k)) (fun k => J 537 (12 * p + k)))
def HX (I : mPI) (U L : Int) (σ : Nat → Int) : Prop := HIs shL rfL I 522 U L ∧ L ≠ 0 ∧ MS I σ ∧ 0 < σ 1 ∧ Nat.gcd (σ 0).natAbs (σ 1).natAbs = 1 ∧ U * σ 1 = σ 0 * L ∧ (σ 0).natAbs < 2 ^ (24 * 250) ∧ (σ 1).natAbs < 2 ^ (24 * 250)
abbrev CurR (I : mPI) (J : mPJ) : Prop := WRel (I 513) (I 516) (J 519) (I 528 4) (I 528 5) (I 528 6) (I 528 7) (I 533) (I 534) (J 532)
def SR (I : mPI) (J : mPJ) : Prop := CI I J ∧ (∃ U L σ, HX I U L σ) ∧ CurR I J ∧ ∀ p, p < 2 → KR I J p
theorem KR.cg {I I1 : mPI} {J J1 : mPJ} {p : Nat} (hp : p < 2) (h : KR I J p) (e1 : ∀ k, k < 4 → I1 (514 + p) k = I (514 + p) k) (e2 : ∀ x, x < 19 → I1 (517 + p) x = I (517 + p) x) (e3 : I1 525 p = I 525 p) (e4 : ∀ j, j / 10 = p → I1 538 j = I 538 j ∧ I1 539 j = I 539 j) (e5 : ∀ j, j / 5 = p → I1 540 j = I 540 j) (e6 : ∀ k, k < 12 → J1 (520 + p) k = J (520 + p) k) (e7 : ∀ j, j / 12 = p → J1 537 j = J 537 j) : KR I1 J1 p := by
  have f0 := e5 (5 * p) (by omega)
  rcases h with ⟨h1, h2⟩ | ⟨h1, h2, h3⟩
  · exact Or.inl ⟨by rw [e3]; exact h1, by rw [f0]; exact h2⟩
  · exact Or.inr ⟨by rw [e3]; exact h1, by rw [f0]; exact h2, h3.cg e1 e2 e6 (e5 _ (by omega)) (e5 _ (by omega)) (e5 _ (by omega)) (e5 _ (by omega)) (fun k hk => (e4 _ (by omega)).1) (fun k hk => (e4 _ (by omega)).2) (fun k hk => e7 _ (by omega))⟩
theorem CI.hi {I I1 : mPI} {J J1 : mPJ} (h : CI I J) (e1 : ∀ a, a < 528 → I1 a = I a) (e2 : ∀ a, a < 528 → J1 a = J a) : CI I1 J1 := fun p hp => ((h p hp).keep hp (e1 _ (by omega)) (e1 _ (by omega)) (fun a ha => e1 a (by unfold PA at ha; omega))).keepJ (e2 _ (by omega))
theorem HIs.hi {I I1 : mPI} {U L : Int} (h : HIs shL rfL I 522 U L) (e1 : ∀ a, a < 528 → I1 a = I a) : HIs shL rfL I1 522 U L := HIs_keep h (fun a ha => e1 a (by unfold HA at ha; omega))
theorem HIs.pr {I : mPI} {U L p q : Int} (h : HIs shL rfL I 522 U L) (hL : L ≠ 0) (e : U * q = p * L) : HIs shL rfL I 522 p q := by
  obtain ⟨u, l, h1, h2, h3, h4, h5⟩ := h
  refine ⟨u, l, h1, h2, h3, ?_, h5⟩
  have : L * (u * q) = L * (p * l) := by grind
  exact Int.eq_of_mul_eq_mul_left hL this
theorem MO.lo {I I1 : mPI} (h : MO I I1) : ∀ a, a < 528 → I1 a = I a := fun a ha => h a (by omega) (by omega) (by omega) (by omega)
theorem Vis.kr {I I1 : mPI} {J : mPJ} (h : Vis I I1) {p : Nat} (hp : p < 2) (k : KR I J p) : KR I1 J p :=
  k.cg hp (fun q hq => by have := h.2 (1 + p) (by omega) q (by omega); rw [show 513 + (1 + p) = 514 + p by omega] at this; exact this) (fun x _ => by rw [h.1 (517 + p) (by omega) (by omega)]) (by rw [h.1 525 (by omega) (by omega)]) (fun j _ => ⟨by rw [h.1 538 (by omega) (by omega)], by rw [h.1 539 (by omega) (by omega)]⟩) (fun j _ => by rw [h.1 540 (by omega) (by omega)]) (fun _ _ => rfl) (fun _ _ => rfl)
theorem Vis.cur {I I1 : mPI} {J : mPJ} (h : Vis I I1) (k : CurR I J) : CurR I1 J :=
  k.cg (fun q hq => h.2 0 (by omega) q (by omega)) (fun x _ => by rw [h.1 516 (by omega) (by omega)]) (fun _ _ => rfl) (by rw [h.1 528 (by omega) (by omega)]) (by rw [h.1 528 (by omega) (by omega)]) (by rw [h.1 528 (by omega) (by omega)]) (by rw [h.1 528 (by omega) (by omega)]) (fun i _ => by rw [h.1 533 (by omega) (by omega)]) (fun i _ => by rw [h.1 534 (by omega) (by omega)]) (fun _ _ => rfl)
theorem MO.kr {I I1 : mPI} {J : mPJ} (h : MO I I1) {p : Nat} (hp : p < 2) (k : KR I J p) : KR I1 J p :=
  k.cg hp (fun q _ => by rw [h.lo _ (by omega)]) (fun x _ => by rw [h.lo _ (by omega)]) (by rw [h.lo _ (by omega)]) (fun j _ => ⟨by rw [h 538 (by omega) (by omega) (by omega) (by omega)], by rw [h 539 (by omega) (by omega) (by omega) (by omega)]⟩) (fun j _ => by rw [h 540 (by omega) (by omega) (by omega) (by omega)]) (fun _ _ => rfl) (fun _ _ => rfl)
theorem MO.cur {I I1 : mPI} {J : mPJ} (h : MO I I1) (k : CurR I J) : CurR I1 J := by
  have e : I1 528 = I 528 := h 528 (by omega) (by omega) (by omega) (by omega)
  exact k.cg (fun q _ => by rw [h.lo _ (by omega)]) (fun x _ => by rw [h.lo _ (by omega)]) (fun _ _ => rfl) (by rw [e]) (by rw [e]) (by rw [e]) (by rw [e]) (fun i _ => by rw [h 533 (by omega) (by omega) (by omega) (by omega)]) (fun i _ => by rw [h 534 (by omega) (by omega) (by omega) (by omega)]) (fun _ _ => rfl)
theorem CurR.eq {I : mPI} {J : mPJ} (h : CurR I J) : ∃ l, I 513 1 = nI l ∧ I 528 5 = nI l ∧ 3 ≤ l ∧ l ≤ 11 ∧ eqT l (moC J 0) (moM J) ∧ BM J := by
  obtain ⟨l, kd, n, a1, a2, a3, a4, a5, a6, a7, a8, a9, b1, b2, b3, b4, b5, b6, b7, b8⟩ := h
  refine ⟨l, a1, a2, a3, a4, fun i hi => ?_, b7⟩
  show (J (519 + 0) i).toInt = (J 532 i).toInt
  rw [b6 i hi]
abbrev fK (r : Option mPV) : mKT := fun r2 I2 J2 => ∃ v, r = some (.inl v) ∧ r2 = some (.inl v) ∧ SR I2 J2
theorem sq_pos {z : Int} (h : z ≠ 0) : 0 < z * z := by
  rcases Int.lt_trichotomy z 0 with q | q | q
  · exact Int.mul_pos_of_neg_of_neg q q
  · exact absurd q h
  · exact Int.mul_pos q q
theorem frE_R {x y : mSL} (h : frE x y) : slR x = slR y := by
  match x, y, h with
  | .inl a, .inl b, h => exact h
  | .inr a, .inr b, h =>
    obtain ⟨h1, h2, h3⟩ := h
    refine sgA_scale (k := b.2 * b.2) (m := a.2 * a.2) (sq_pos h3) (sq_pos h2) ?_
    show a.1 * a.2 * (b.2 * b.2) = b.1 * b.2 * (a.2 * a.2)
    grind
theorem ask_arm {I : mPI} {J : mPJ} (h : SR I J) {r r' : Nat → mSL} (hr : ∀ l, eqT l (moC J 0) (moM J) → frE (r l) (r' l)) {K : mKT} (hK : ∀ v I1, AskM I1 J (fK (some (.inl v))) r' → K (some (.inl v)) I1 J) : Ask I J K r := by
  obtain ⟨hC, ⟨U, L, σ, hH, hL, hM, s1, s2, s3, s4, s5⟩, hW, hk⟩ := h
  obtain ⟨l, l1, l2, l3, l4, hT, hB⟩ := CurR.eq hW
  have hf := hr l hT
  refine ⟨l, U, L, hC, hH, hL, l1, l4, fun I1 hV hC1 hH1 => hK _ I1 ?_⟩
  have e28 : I1 528 = I 528 := hV.1 528 (by omega) (by omega)
  have M1 : MS I1 σ := hM.cg (hV.1 529 (by omega) (by omega)) (hV.1 530 (by omega) (by omega)) (hV.1 531 (by omega) (by omega))
  refine ⟨l, σ, by rw [e28]; exact l2, l4, hB, M1, fun I2 σ2 F M2 hPL => ⟨slR (r l), rfl, by rw [frE_R hf], hC1.hi F.lo (fun _ _ => rfl), ?_, F.cur (hV.cur hW), fun p hp => F.kr hp (hV.kr hp (hk p hp))⟩⟩
  have hH2 := hH1.hi F.lo
  generalize r l = x at hf hH2
  generalize r' l = y at hf hPL
  match x, y, hf with
  | .inl a, .inl b, hf =>
    obtain ⟨p0, p1⟩ := hPL
    exact ⟨U, L, σ2, hH2, hL, M2, by rw [p1]; exact s1, by rw [p0, p1]; exact s2, by rw [p0, p1]; exact s3, by rw [p0]; exact s4, by rw [p1]; exact s5⟩
  | .inr a, .inr b, hf =>
    obtain ⟨h1, h2, h3⟩ := hf
    obtain ⟨p1, p2, p3, p4, p5⟩ := hPL
    refine ⟨a.1, a.2, σ2, hH2, h2, M2, p1, p2, ?_, p4, p5⟩
    have : b.2 * (a.1 * σ2 1) = b.2 * (σ2 0 * a.2) := by grind
    exact Int.eq_of_mul_eq_mul_left h3 this
theorem tel_arm {I : mPI} {J : mPJ} (h : SR I J) {r : Int → Int → Nat → Int32} {r' : mPI → Nat → Int32} (hr : ∀ U L l I1, I 513 1 = nI l → I 528 5 = nI l → l ≤ 11 → eqT l (moC J 0) (moM J) → Vis I I1 → r U L l = r' I1 l) {K : mKT} (hK : ∀ v I1, Vis I I1 → TelM I1 J (fK (some (.inl v))) (r' I1) → K (some (.inl v)) I1 J) : Tel I J K r := by
  obtain ⟨hC, ⟨U, L, σ, hH, hL, hM, s1, s2, s3, s4, s5⟩, hW, hk⟩ := h
  obtain ⟨l, l1, l2, l3, l4, hT, hB⟩ := CurR.eq hW
  refine ⟨l, U, L, hC, hH, hL, l1, l4, fun I1 hV hC1 hH1 => hK _ I1 hV ?_⟩
  have e28 : I1 528 = I 528 := hV.1 528 (by omega) (by omega)
  have M1 : MS I1 σ := hM.cg (hV.1 529 (by omega) (by omega)) (hV.1 530 (by omega) (by omega)) (hV.1 531 (by omega) (by omega))
  exact ⟨l, σ, by rw [e28]; exact l2, l4, hB, M1, fun I2 σ2 F M2 p0 p1 => ⟨r U L l, rfl, by rw [hr U L l I1 l1 l2 l4 hT hV], hC1.hi F.lo (fun _ _ => rfl), ⟨U, L, σ2, hH1.hi F.lo, hL, M2, by rw [p1]; exact s1, by rw [p0, p1]; exact s2, by rw [p0, p1]; exact s3, by rw [p0]; exact s4, by rw [p1]; exact s5⟩, F.cur (hV.cur hW), fun p hp => F.kr hp (hV.kr hp (hk p hp))⟩⟩
def armP (ptC ptM : mSH → mRF → mPT) (args : List mPV) : Prop := ∀ I J, SR I J → ptC shL rfL (.inr (.inr 523) :: args) I J (fun r I1 J1 => ptM shL rfL (.inr (.inr 528) :: args) I1 J1 (fK r))

theorem arm_layMoment (a : Int32) : armP pt_layMoment pt_mlayMoment [.inl a] := fun I J h => ⟨523, [.inl a], rfl, rfl, a, rfl, rfl, rfl, rfl, ask_arm h (fun l hT => fr_Moment hT _) (fun v I1 ha => ⟨528, [.inl a], rfl, rfl, a, rfl, rfl, rfl, rfl, ha⟩)⟩
theorem arm_layWorth (a : Int32) : armP pt_layWorth pt_mlayWorth [.inl a] := fun I J h => ⟨523, [.inl a], rfl, rfl, a, rfl, rfl, rfl, rfl, ask_arm h (fun l hT => fr_Worth hT _) (fun v I1 ha => ⟨528, [.inl a], rfl, rfl, a, rfl, rfl, rfl, rfl, ha⟩)⟩
theorem arm_layDet (a : Int32) : armP pt_layDet pt_mlayDet [.inl a] := fun I J h => ⟨523, [.inl a], rfl, rfl, a, rfl, rfl, rfl, rfl, ask_arm h (fun l hT => fr_Det hT _) (fun v I1 ha => ⟨528, [.inl a], rfl, rfl, a, rfl, rfl, rfl, rfl, ha⟩)⟩
theorem arm_layNum (a b : Int32) : armP pt_layNum pt_mlayNum [.inl a, .inl b] := fun I J h => ⟨523, [.inl a, .inl b], rfl, rfl, a, b, rfl, rfl, rfl, rfl, ask_arm h (fun l hT => fr_Num hT _ _) (fun v I1 ha => ⟨528, [.inl a, .inl b], rfl, rfl, a, b, rfl, rfl, rfl, rfl, ha⟩)⟩
theorem arm_layRule (a b : Int32) : armP pt_layRule pt_mlayRule [.inl a, .inl b] := fun I J h => ⟨523, [.inl a, .inl b], rfl, rfl, a, b, rfl, rfl, rfl, rfl, ask_arm h (fun l hT => fr_Rule hT _ _) (fun v I1 ha => ⟨528, [.inl a, .inl b], rfl, rfl, a, b, rfl, rfl, rfl, rfl, ha⟩)⟩
theorem arm_layValue (a b c : Int32) : armP pt_layValue pt_mlayValue [.inl a, .inl b, .inl c] := fun I J h => ⟨523, [.inl a, .inl b, .inl c], rfl, rfl, a, b, c, rfl, rfl, rfl, rfl, ask_arm h (fun l hT => fr_Value hT _ _ _) (fun v I1 ha => ⟨528, [.inl a, .inl b, .inl c], rfl, rfl, a, b, c, rfl, rfl, rfl, rfl, ha⟩)⟩
theorem arm_layProduct (a b : Int32) : armP pt_layProduct pt_mlayProd [.inl a, .inl b] := fun I J h => ⟨523, [.inl a, .inl b], rfl, rfl, a, b, rfl, rfl, rfl, rfl, ask_arm h (fun l hT => fr_Product hT _ _) (fun v I1 ha => ⟨528, [.inl a, .inl b], rfl, rfl, a, b, rfl, rfl, rfl, rfl, ha⟩)⟩
theorem arm_layShare (a b : Int32) : armP pt_layShare pt_mlayShare [.inl a, .inl b] := fun I J h => ⟨523, [.inl a, .inl b], rfl, rfl, a, b, rfl, rfl, rfl, rfl, ask_arm h (fun l hT => fr_Share hT _ _) (fun v I1 ha => ⟨528, [.inl a, .inl b], rfl, rfl, a, b, rfl, rfl, rfl, rfl, ha⟩)⟩
theorem arm_layKernel (a b c : Int32) : armP pt_layKernel pt_mlayKernel [.inl a, .inl b, .inl c] := fun I J h => ⟨523, [.inl a, .inl b, .inl c], rfl, rfl, a, b, c, rfl, rfl, rfl, rfl, ask_arm h (fun l hT => fr_Kernel hT _ _ _) (fun v I1 ha => ⟨528, [.inl a, .inl b, .inl c], rfl, rfl, a, b, c, rfl, rfl, rfl, rfl, ha⟩)⟩
theorem arm_layLeft (a b : Int32) : armP pt_layLeft pt_mlayLeft [.inl a, .inl b] := fun I J h => ⟨523, [.inl a, .inl b], rfl, rfl, a, b, rfl, rfl, rfl, rfl, ask_arm h (fun l hT => fr_Left hT _ _) (fun v I1 ha => ⟨528, [.inl a, .inl b], rfl, rfl, a, b, rfl, rfl, rfl, rfl, ha⟩)⟩
theorem arm_below (a b c : Int32) : armP pt_below pt_mbelow [.inl a, .inl b, .inl c] := fun I J h => ⟨523, [.inl a, .inl b, .inl c], rfl, rfl, a, b, c, rfl, rfl, rfl, rfl, tel_arm (r' := fun _ l => spBelow (moM J) a.toInt b.toInt c.toInt l) h (fun U L l I1 _ _ _ hT _ => eq_Below hT _ _ _) (fun v I1 _ ha => ⟨528, [.inl a, .inl b, .inl c], rfl, rfl, a, b, c, rfl, rfl, rfl, rfl, ha⟩)⟩
theorem arm_shut (a b c : Int32) : armP pt_shut pt_mshut [.inl a, .inl b, .inl c] := fun I J h => ⟨523, [.inl a, .inl b, .inl c], rfl, rfl, a, b, c, rfl, rfl, rfl, rfl, tel_arm (r' := fun _ l => spShut (moM J) a.toInt b.toInt c.toInt l) h (fun U L l I1 _ _ _ hT _ => eq_Shut hT _ _ _) (fun v I1 _ ha => ⟨528, [.inl a, .inl b, .inl c], rfl, rfl, a, b, c, rfl, rfl, rfl, rfl, ha⟩)⟩
theorem arm_few : armP pt_few pt_mfew [] := fun I J h => ⟨523, [], rfl, rfl, rfl, rfl, rfl, rfl, tel_arm (r' := fun _ l => spFew (moM J) l) h (fun U L l I1 _ _ _ hT _ => eq_Few hT) (fun v I1 _ ha => ⟨528, [], rfl, rfl, rfl, rfl, rfl, rfl, ha⟩)⟩
theorem arm_good : armP pt_good pt_mgood [] := fun I J h => ⟨523, [], rfl, rfl, rfl, rfl, rfl, rfl, tel_arm (r' := fun _ l => nI (gwf (moM J) l)) h (fun U L l I1 _ _ _ hT _ => by rw [gwf_cg hT]) (fun v I1 _ ha => by
  obtain ⟨l, σ, h1, h2, h3, h4, h5⟩ := ha
  exact ⟨528, [], rfl, rfl, l, σ, rfl, rfl, rfl, rfl, h1, h2, h3, h4, h5⟩)⟩
theorem told_eq {I I1 : mPI} {J : mPJ} (h : CurR I J) (hV : Vis I I1) {l : Nat} (hT : eqT l (moC J 0) (moM J)) (wh : Int32) : toldF I (moC J 0) wh l = toldM I1 (moM J) wh l := by
  obtain ⟨l0, kd, n, a1, a2, a3, a4, a5, a6, a7, a8, a9, b1, b2, b3, b4, b5, b6, b7, b8⟩ := h
  have e28 : I1 528 = I 528 := hV.1 528 (by omega) (by omega)
  unfold toldF toldM
  rw [e28, a1, a2, a5, a6, a8, a9, b3, tpf_cg hT]
  have e2 : (if nI kd = 0 then nI n else 0) = nI n := by
    by_cases q : kd = 0
    · rw [q, if_pos nI_0]
    · rw [if_neg (nI_ne0 (by omega) (by omega)), b2 q]
      rfl
  have e3 : (if I 513 3 = 0 then (0 : Int32) else 1) = I 513 3 := by
    rcases b4 with q | q <;> rw [q] <;> rfl
  rw [e2, e3]
theorem arm_told (a : Int32) : armP pt_told pt_mtold [.inl a] := fun I J h => ⟨523, [.inl a], rfl, rfl, a, rfl, rfl, rfl, rfl, tel_arm (r' := fun I1 l => toldM I1 (moM J) a l) h (fun U L l I1 _ _ _ hT hV => told_eq h.2.2.1 hV hT a) (fun v I1 _ ha => ⟨528, [.inl a], rfl, rfl, a, rfl, rfl, rfl, rfl, ha⟩)⟩
theorem vis_ms {I I1 : mPI} {σ : Nat → Int} (hV : Vis I I1) (hM : MS I σ) : MS I1 σ := hM.cg (hV.1 529 (by omega) (by omega)) (hV.1 530 (by omega) (by omega)) (hV.1 531 (by omega) (by omega))
theorem SR.vis {I I1 : mPI} {J : mPJ} (h : SR I J) (hV : Vis I I1) (hC : CI I1 J) {U L : Int} {σ : Nat → Int} (hX : HX I1 U L σ) : SR I1 J := ⟨hC, ⟨U, L, σ, hX⟩, hV.cur h.2.2.1, fun p hp => hV.kr hp (h.2.2.2 p hp)⟩
theorem SR.mo {I I1 : mPI} {J : mPJ} (h : SR I J) (F : MO I I1) {U L : Int} {σ σ' : Nat → Int} (hX : HX I U L σ) (M : MS I1 σ') (p0 : σ' 0 = σ 0) (p1 : σ' 1 = σ 1) : SR I1 J := by
  obtain ⟨hH, hL, -, s1, s2, s3, s4, s5⟩ := hX
  exact ⟨h.1.hi F.lo (fun _ _ => rfl), ⟨U, L, σ', hH.hi F.lo, hL, M, by rw [p1]; exact s1, by rw [p0, p1]; exact s2, by rw [p0, p1]; exact s3, by rw [p0]; exact s4, by rw [p1]; exact s5⟩, F.cur h.2.2.1, fun p hp => F.kr hp (h.2.2.2 p hp)⟩
theorem HX.sg {I : mPI} {U L : Int} {σ : Nat → Int} (h : HX I U L σ) : sgA (U * L) = sgA (σ 0) := by
  obtain ⟨hH, hL, -, s1, s2, s3, s4, s5⟩ := h
  refine sgA_scale (k := σ 1) (m := L * L) s1 (sq_pos hL) ?_
  grind
theorem arm_sign : armP pt_sign pt_msign [] := fun I J h => by
  obtain ⟨U, L, σ, hX⟩ := h.2.1
  obtain ⟨l, l1, l2, l3, l4, hT, hB⟩ := CurR.eq h.2.2.1
  have hsg := hX.sg
  obtain ⟨hH, hL, hM, s⟩ := hX
  refine ⟨523, [], rfl, rfl, rfl, rfl, rfl, rfl, l, U, L, h.1, hH, hL, l1, l4, fun I1 hV hC1 hH1 => ⟨528, [], rfl, rfl, σ, rfl, rfl, rfl, rfl, vis_ms hV hM, sgA (U * L), rfl, by rw [hsg], h.vis hV hC1 (σ := σ) ⟨hH1, hL, vis_ms hV hM, s⟩⟩⟩
theorem arm_against (a b : Int32) : armP pt_against pt_magainst [.inl a, .inl b] := fun I J h => by
  obtain ⟨U, L, σ, hX⟩ := h.2.1
  obtain ⟨l, l1, l2, l3, l4, hT, hB⟩ := CurR.eq h.2.2.1
  obtain ⟨hH, hL, hM, s⟩ := hX
  refine ⟨523, [.inl a, .inl b], rfl, rfl, a, b, rfl, rfl, rfl, rfl, l, U, L, h.1, hH, hL, l1, l4, fun I1 hV hC1 hH1 => ?_⟩
  have hX1 : HX I1 U L σ := ⟨hH1, hL, vis_ms hV hM, s⟩
  have hS1 := h.vis hV hC1 hX1
  refine ⟨528, [.inl a, .inl b], rfl, rfl, a, b, σ, rfl, rfl, rfl, rfl, vis_ms hV hM, s.2.2.2.1, s.2.2.2.2, fun I2 σ2 F M2 p0 p1 => ⟨_, rfl, ?_, hS1.mo F.mo hX1 M2 p0 p1⟩⟩
  show some (Sum.inl (if isFr a.toInt b.toInt then sgI (σ 0 * b.toInt - σ 1 * a.toInt) else -20)) = some (Sum.inl (if isFr a.toInt b.toInt then sgI ((U * b.toInt - L * a.toInt) * L) else -20))
  by_cases q : isFr a.toInt b.toInt
  · rw [if_pos q, if_pos q]
    have s3 := s.2.2.1
    have : sgI ((U * b.toInt - L * a.toInt) * L) = sgI (σ 0 * b.toInt - σ 1 * a.toInt) := by
      refine sgI_scale (k := σ 1) (m := L * L) s.1 (sq_pos hL) ?_
      grind
    rw [this]
  · rw [if_neg q, if_neg q]
theorem arm_bits (a : Int32) : armP pt_bits pt_mbitsq [.inl a] := fun I J h => by
  obtain ⟨U, L, σ, hX⟩ := h.2.1
  obtain ⟨hH, hL, hM, s1, s2, s3, s4, s5⟩ := hX
  refine ⟨523, [.inl a], rfl, rfl, a, σ 0, σ 1, rfl, rfl, rfl, rfl, s1, s2, hH.pr hL s3, h.1, fun I1 hV hC1 hH1 => ?_⟩
  exact ⟨528, [.inl a], rfl, rfl, a, σ, rfl, rfl, rfl, rfl, vis_ms hV hM, _, rfl, rfl, h.vis hV hC1 (U := σ 0) (L := σ 1) (σ := σ) ⟨hH1, by omega, vis_ms hV hM, s1, s2, rfl, s4, s5⟩⟩
theorem arm_word (a b : Int32) : armP pt_word pt_mword [.inl a, .inl b] := fun I J h => by
  obtain ⟨U, L, σ, hX⟩ := h.2.1
  obtain ⟨hH, hL, hM, s1, s2, s3, s4, s5⟩ := hX
  refine ⟨523, [.inl a, .inl b], rfl, rfl, a, b, σ 0, σ 1, rfl, rfl, rfl, rfl, s1, s2, hH.pr hL s3, h.1, fun I1 hV hC1 hH1 => ?_⟩
  exact ⟨528, [.inl a, .inl b], rfl, rfl, a, b, σ, rfl, rfl, rfl, rfl, vis_ms hV hM, _, rfl, rfl, h.vis hV hC1 (U := σ 0) (L := σ 1) (σ := σ) ⟨hH1, by omega, vis_ms hV hM, s1, s2, rfl, s4, s5⟩⟩

