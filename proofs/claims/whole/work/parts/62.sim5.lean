/-! ===== the simulation: changing calls ===== -/
theorem upd_SR {I J I1 J1 I2 J2} (h : SR I J) {U L : Int} {σ : Nat → Int} (hX : HX I U L σ) {kd l n : Nat} {ch : Int32} {w : Nat → Int32} {mo mo' : Nat → Int64} (hc : UpdC I J I1 J1 (nI kd) (nI l) (nI n) ch w mo) (hm : UpdM I1 J1 I2 J2 (nI kd) (nI l) (nI n) ch mo') (hs : SlotsM I1 σ I2) (l3 : 3 ≤ l) (l11 : l ≤ 11) (k4 : kd < 4) (n10 : n ≤ 10) (kn : kd ≠ 0 → n = 0) (c01 : ch = 0 ∨ ch = 1) (c11 : ch = 0 → l = 11) (hmo : ∀ k, k ≤ l → mo' k = mo k) (hz : ∀ k, l < k → k < 12 → mo' k = 0) (hLR : kd = 0 → ch = 0 → LRg (I2 528 7) (I2 533) (I2 534) w) : SR I2 J2 := by
  obtain ⟨a1, a2, a3, a4, a5, a6, a7, a8, hC1⟩ := hc
  obtain ⟨b1, b2, b3, b4, b5, b6, b7⟩ := hm
  obtain ⟨σ', M2, p0, p1⟩ := hs
  obtain ⟨hH, hL, -, s1, s2, s3, s4, s5⟩ := hX
  have lo : ∀ a, a < 528 → I2 a = I1 a := fun a q => b1 a (by omega) (by omega) (by omega) (by omega) (by omega) (by omega) (by omega)
  have loJ : ∀ a, a < 528 → J2 a = J1 a := fun a q => b6 a (by omega) (by omega)
  have bnd := (CI.kind hC1).choose_spec.2.2.2.1
  refine ⟨hC1.hi lo loJ, ⟨U, L, σ', ?_, hL, M2, by rw [p1]; exact s1, by rw [p0, p1]; exact s2, by rw [p0, p1]; exact s3, by rw [p0]; exact s4, by rw [p1]; exact s5⟩, ?_, fun p hp => ?_⟩
  · refine HIs_keep hH (fun a ha => ?_)
    have hw := HA_nwk ha
    rw [lo a (by unfold HA at ha; omega)]
    exact a1 a hw (by unfold HA at ha; omega) (by unfold HA at ha; omega)
  · have e13 := lo 513 (by omega)
    have hmm : ∀ k, k ≤ l → J2 532 k = J2 519 k := fun k hk => by rw [b7 k (by omega), hmo k hk, loJ 519 (by omega), a8 k (by omega)]
    refine ⟨l, kd, n, by rw [e13]; exact a3, b3, l3, l11, by rw [e13]; exact a2, b2, k4, by rw [e13]; exact a4, b4, n10, kn, by rw [e13, b5, a5], by rw [e13, a5]; exact c01, by rw [e13, a5]; exact c11, hmm, fun k hk => ?_, fun q1 q2 => ?_⟩
    · rcases Nat.lt_or_ge l k with q | q
      · rw [b7 k hk, hz k q hk]
        decide
      · rw [hmm k q, loJ 519 (by omega)]
        exact bnd k hk
    · rw [e13, a5] at q2
      exact (hLR q1 q2).cg rfl (fun _ _ => rfl) (fun _ _ => rfl) (fun x hx => by rw [lo 516 (by omega), a6 x hx])
  · have q1 : ∀ a, 514 ≤ a → a ≠ 516 → a < 528 → I2 a = I a := fun a r1 r2 r3 => by
      rw [lo a r3]
      exact a1 a (by unfold wkA; omega) (by omega) r2
    have q2 : ∀ a, 537 ≤ a → I2 a = I a := fun a r1 => by
      rw [b1 a (by omega) (by omega) (by omega) (by omega) (by omega) (by omega) (by omega)]
      exact a1 a (by unfold wkA; omega) (by omega) (by omega)
    refine (h.2.2.2 p hp).cg hp (fun k _ => ?_) (fun x _ => ?_) ?_ (fun j _ => ⟨by rw [q2 538 (by omega)], by rw [q2 539 (by omega)]⟩) (fun j _ => by rw [q2 540 (by omega)]) (fun k _ => ?_) (fun j _ => ?_)
    · rw [q1 (514 + p) (by omega) (by omega) (by omega)]
    · rw [q1 (517 + p) (by omega) (by omega) (by omega)]
    · rw [q1 525 (by omega) (by omega) (by omega)]
    · rw [b6 (520 + p) (by omega) (by omega), a7 (520 + p) (by omega) (by omega)]
    · rw [b6 537 (by omega) (by omega), a7 537 (by omega) (by omega)]
theorem HX.of {I I1 : mPI} {U L : Int} {σ : Nat → Int} (h : HX I U L σ) (e1 : ∀ a, HA a → I1 a = I a) (e2 : I1 529 = I 529) (e3 : I1 530 = I 530) (e4 : I1 531 = I 531) : HX I1 U L σ := ⟨HIs_keep h.1 e1, h.2.1, h.2.2.1.cg e2 e3 e4, h.2.2.2⟩
theorem same_SR {I J I1 J1} (h : SR I J) {U L : Int} {σ : Nat → Int} (hX : HX I U L σ) (hs : SameC I J I1 J1) : SR I1 J1 ∧ HX I1 U L σ := by
  obtain ⟨w1, hj⟩ := hs
  have up : ∀ a, 504 ≤ a → I1 a = I a := fun a q => w1 a (by unfold wkA; omega)
  have hX1 : HX I1 U L σ := hX.of (fun a ha => w1 a (HA_nwk ha)) (up _ (by omega)) (up _ (by omega)) (up _ (by omega))
  refine ⟨⟨h.1.fr2 w1.fr hj, ⟨U, L, σ, hX1⟩, ?_, fun p hp => ?_⟩, hX1⟩
  · exact h.2.2.1.cg (fun k _ => by rw [up 513 (by omega)]) (fun x _ => by rw [up 516 (by omega)]) (fun k _ => by rw [hj 519 (by omega)]) (by rw [up 528 (by omega)]) (by rw [up 528 (by omega)]) (by rw [up 528 (by omega)]) (by rw [up 528 (by omega)]) (fun i _ => by rw [up 533 (by omega)]) (fun i _ => by rw [up 534 (by omega)]) (fun k _ => by rw [hj 532 (by omega)])
  · exact (h.2.2.2 p hp).cg hp (fun k _ => by rw [up (514 + p) (by omega)]) (fun x _ => by rw [up (517 + p) (by omega)]) (by rw [up 525 (by omega)]) (fun j _ => ⟨by rw [up 538 (by omega)], by rw [up 539 (by omega)]⟩) (fun j _ => by rw [up 540 (by omega)]) (fun k _ => by rw [hj (520 + p) (by omega)]) (fun j _ => by rw [hj 537 (by omega)])
theorem sameM_SR {I J I1 J1} (h : SR I J) {U L : Int} {σ : Nat → Int} (hX : HX I U L σ) (hs : SameM I J I1 J1) (ht : SlotsM I σ I1) : SR I1 J1 := by
  obtain ⟨F, hj⟩ := hs
  obtain ⟨σ', M, p0, p1⟩ := ht
  have h1 := h.mo F hX M p0 p1
  refine ⟨h1.1.hi (fun _ _ => rfl) (fun a q => hj a (by omega)), h1.2.1, h1.2.2.1.cg (fun _ _ => rfl) (fun _ _ => rfl) (fun k _ => by rw [hj 519 (by omega)]) rfl rfl rfl rfl (fun _ _ => rfl) (fun _ _ => rfl) (fun k _ => by rw [hj 532 (by omega)]), fun p hp => (h1.2.2.2 p hp).cg hp (fun _ _ => rfl) (fun _ _ => rfl) rfl (fun _ _ => ⟨rfl, rfl⟩) (fun _ _ => rfl) (fun k _ => by rw [hj (520 + p) (by omega)]) (fun j _ => by rw [hj 537 (by omega)])⟩
/-- what an update of the class leaves of the reference -/
theorem updC_m {I J I1 J1} {kd l n ch : Int32} {w : Nat → Int32} {mo : Nat → Int64} (hc : UpdC I J I1 J1 kd l n ch w mo) : (∀ a, 528 ≤ a → I1 a = I a) ∧ ∀ a, 528 ≤ a → J1 a = J a := ⟨fun a q => hc.1 a (by unfold wkA; omega) (by omega) (by omega), fun a q => hc.2.2.2.2.2.2.1 a (by omega) (by omega)⟩
theorem updC_ms {I J I1 J1} {kd l n ch : Int32} {w : Nat → Int32} {mo : Nat → Int64} (hc : UpdC I J I1 J1 kd l n ch w mo) {σ : Nat → Int} (M : MS I σ) : MS I1 σ := M.cg ((updC_m hc).1 _ (by omega)) ((updC_m hc).1 _ (by omega)) ((updC_m hc).1 _ (by omega))
theorem lr0 {k7 : Int32} {pl wg w : Nat → Int32} (h7 : k7 = nI 0) (hw : ∀ x, x < 19 → w x = 0) : LRg k7 pl wg w := ⟨0, h7, by decide, fun i hi => absurd hi (Nat.not_lt_zero i), fun i j hi => absurd hi (Nat.not_lt_zero i), fun x hx q => absurd (hw x hx) q⟩
theorem arm_clear : armP pt_clear pt_mclear [] := fun I J h => by
  obtain ⟨U, L, σ, hX⟩ := h.2.1
  obtain ⟨l, l1, l2, l3, l4, hT, hB⟩ := CurR.eq h.2.2.1
  refine ⟨523, [], rfl, rfl, rfl, rfl, rfl, rfl, h.1, fun I1 J1 hu => ?_⟩
  refine ⟨528, [], rfl, rfl, σ, rfl, rfl, rfl, rfl, updC_ms hu hX.2.2.1, fun I2 J2 hm e3 e4 hs => ⟨I 513 1, rfl, ?_, ?_⟩⟩
  · rw [(updC_m hu).1 528 (by omega), l2, l1]
  · exact upd_SR h hX (kd := 0) (l := 11) (n := 0) hu hm hs (by decide) (by decide) (by decide) (by decide) (fun _ => rfl) (Or.inl rfl) (fun _ => rfl) (fun _ _ => rfl) (fun _ _ _ => rfl) (fun _ _ => lr0 (by rw [hm.2.2.2.1]; rfl) (fun _ _ => rfl))
theorem arm_span (a b : Int32) : armP pt_span pt_mspan [.inl a, .inl b] := fun I J h => by
  obtain ⟨U, L, σ, hX⟩ := h.2.1
  refine ⟨523, [.inl a, .inl b], rfl, rfl, a, b, rfl, rfl, rfl, rfl, h.1, fun r hr I1 J1 hs => ?_, fun hr I1 J1 hu => ?_⟩
  · obtain ⟨h1, hX1⟩ := same_SR h hX hs
    exact ⟨528, [.inl a, .inl b], rfl, rfl, a, b, σ, rfl, rfl, rfl, rfl, hX1.2.2.1, fun r2 hr2 => ⟨r, rfl, by rw [hr] at hr2; cases hr2; rfl, h1⟩, fun hr2 => by rw [hr] at hr2; cases hr2⟩
  · exact ⟨528, [.inl a, .inl b], rfl, rfl, a, b, σ, rfl, rfl, rfl, rfl, updC_ms hu hX.2.2.1, fun r2 hr2 => (by rw [hr] at hr2; cases hr2), fun _ I2 J2 hm e3 e4 hs => ⟨1, rfl, rfl, upd_SR h hX (kd := 2) (l := 11) (n := 0) hu hm hs (by decide) (by decide) (by decide) (by decide) (fun _ => rfl) (Or.inl rfl) (fun _ => rfl) (fun _ _ => rfl) (fun k q1 q2 => by omega) (fun q => absurd q (by decide))⟩⟩
theorem arm_counted (a b c d : Int32) : armP pt_counted pt_mcounted [.inl a, .inl b, .inl c, .inl d] := fun I J h => by
  obtain ⟨U, L, σ, hX⟩ := h.2.1
  refine ⟨523, [.inl a, .inl b, .inl c, .inl d], rfl, rfl, a, b, c, d, rfl, rfl, rfl, rfl, h.1, fun r hr I1 J1 hs => ?_, fun hr I1 J1 hu => ?_⟩
  · obtain ⟨h1, hX1⟩ := same_SR h hX hs
    exact ⟨528, [.inl a, .inl b, .inl c, .inl d], rfl, rfl, a, b, c, d, σ, rfl, rfl, rfl, rfl, hX1.2.2.1, fun r2 hr2 => ⟨r, rfl, by rw [hr] at hr2; cases hr2; rfl, h1⟩, fun hr2 => by rw [hr] at hr2; cases hr2⟩
  · exact ⟨528, [.inl a, .inl b, .inl c, .inl d], rfl, rfl, a, b, c, d, σ, rfl, rfl, rfl, rfl, updC_ms hu hX.2.2.1, fun r2 hr2 => (by rw [hr] at hr2; cases hr2), fun _ I2 J2 hm e3 e4 hs => ⟨_, rfl, rfl, upd_SR h hX (kd := 3) (l := 11) (n := 0) hu hm hs (by decide) (by decide) (by decide) (by decide) (fun _ => rfl) (Or.inl rfl) (fun _ => rfl) (fun _ _ => rfl) (fun k q1 q2 => by omega) (fun q => absurd q (by decide))⟩⟩
theorem nzc_cg {f g : Nat → Int64} : ∀ n, (∀ k, k < n → f k = g k) → nzc f n = nzc g n
  | 0, _ => rfl
  | n + 1, h => by rw [nzc, nzc, nzc_cg n (fun k hk => h k (by omega)), h n (by omega)]
theorem arm_moment (a b : Int32) : armP pt_moment pt_mmoment [.inl a, .inl b] := fun I J h => by
  obtain ⟨U, L, σ, hX⟩ := h.2.1
  obtain ⟨l, kd, n, a1, a2, a3, a4, a5, a6, a7, a8, a9, b1, b2, b3, b4, b5, b6, b7, b8⟩ := h.2.2.1
  have espec : momO (I 528 4) (I 528 7) (I 528 6) a.toInt b.toInt = momO (I 513 0) (I 513 2) (I 513 3) a.toInt b.toInt := by rw [a5, a6, a8, a9, b3]
  refine ⟨523, [.inl a, .inl b], rfl, rfl, a, b, rfl, rfl, rfl, rfl, h.1, fun r hr I1 J1 hs => ?_, fun hr I1 J1 hu => ?_⟩
  · obtain ⟨h1, hX1⟩ := same_SR h hX hs
    have e28 : I1 528 = I 528 := hs.1 528 (by unfold wkA; omega)
    refine ⟨528, [.inl a, .inl b], rfl, rfl, a, b, σ, rfl, rfl, rfl, rfl, hX1.2.2.1, ⟨kd, a7, by rw [e28]; exact a6⟩, ⟨n, by omega, by rw [e28]; exact a9⟩, ?_⟩
    rw [e28, espec]
    exact ⟨fun r2 hr2 => ⟨r, rfl, by rw [hr] at hr2; cases hr2; rfl, h1⟩, fun hr2 => by rw [hr] at hr2; cases hr2⟩
  · have e28 : I1 528 = I 528 := (updC_m hu).1 528 (by omega)
    have e32 : J1 532 = J 532 := (updC_m hu).2 532 (by omega)
    have hok : I 513 3 = 0 ∧ ((I 513 0 = 0 ∧ I 513 2 = 0) ∨ I 513 0 = 1) ∧ 0 ≤ a.toInt ∧ a.toInt ≤ 11 := by
      unfold momO at hr
      split at hr
      · cases hr
      · next q0 =>
        split at hr
        · cases hr
        · split at hr
          · cases hr
          · next q =>
            refine ⟨?_, ?_, ?_⟩
            · by_cases z : I 513 3 = 0
              · exact z
              · exact absurd (Or.inl z) q
            · by_cases z : (I 513 0 = 0 ∧ I 513 2 = 0) ∨ I 513 0 = 1
              · exact z
              · exact absurd (Or.inr z) q
            · omega
    obtain ⟨c3, hkp, ha0⟩ := hok
    have hl := b5 c3
    subst hl
    have n0 : n = 0 := by
      rcases hkp with ⟨-, q⟩ | q
      · rw [a8] at q
        exact (nI_eq (b := 0) (by omega) (by omega)).mp q
      · refine b2 (fun z => ?_)
        rw [a5, z] at q
        exact absurd q (by decide)
    subst n0
    refine ⟨528, [.inl a, .inl b], rfl, rfl, a, b, σ, rfl, rfl, rfl, rfl, updC_ms hu hX.2.2.1, ⟨kd, a7, by rw [e28]; exact a6⟩, ⟨0, by omega, by rw [e28]; exact a9⟩, ?_⟩
    rw [e28, espec, e32, a2, a9, b3, c3]
    rw [a1, a8, c3] at hu
    rw [c3] at hr
    refine ⟨fun r2 hr2 => (by rw [hr] at hr2; cases hr2), fun _ I2 J2 hm e3 e4 hs => ⟨_, rfl, ?_, upd_SR h hX (kd := 1) (l := 11) (n := 0) hu hm hs (by decide) (by decide) (by decide) (by decide) (fun _ => rfl) (Or.inl rfl) (fun _ => rfl) (fun k hk => ?_) (fun k q1 q2 => by omega) (fun q => absurd q (by decide))⟩⟩
    · rw [nzc_cg 12 (fun k hk => ?_)]
      have e1 := hm.2.2.2.2.2.2 k hk
      have e2 := hu.2.2.2.2.2.2.2.1 k hk
      rw [e1, e2]
      show (if k = a.toInt.toNat then b.toInt64 else J 532 k) = if k = a.toInt.toNat then b.toInt64 else J 519 k
      rw [b6 k (by omega)]
    · show (if k = a.toInt.toNat then b.toInt64 else J 532 k) = if k = a.toInt.toNat then b.toInt64 else J 519 k
      rw [b6 k hk]
theorem arm_by (c : Int32) : armP pt_by pt_mby [.inl c] := fun I J h => by
  obtain ⟨U, L, σ, hX⟩ := h.2.1
  obtain ⟨l, kd, n, a1, a2, a3, a4, a5, a6, a7, a8, a9, b1, b2, b3, b4, b5, b6, b7, b8⟩ := h.2.2.1
  have hT : eqT l (moC J 0) (moM J) := fun i hi => by
    show (J (519 + 0) i).toInt = (J 532 i).toInt
    rw [b6 i hi]
  have ecg := byO_cg hT c.toInt
  refine ⟨523, [.inl c], rfl, rfl, c, l, rfl, rfl, rfl, rfl, h.1, a1, a4, fun r hr I1 J1 hs => ?_, fun hr I1 J1 hu => ?_⟩
  · obtain ⟨h1, hX1⟩ := same_SR h hX hs
    have e28 : I1 528 = I 528 := hs.1 528 (by unfold wkA; omega)
    have e32 : J1 532 = J 532 := hs.2 532 (by omega)
    have em : moM J1 = moM J := by
      unfold moM
      rw [e32]
    have hB : BM J1 := fun k hk => by rw [e32]; exact b7 k hk
    refine ⟨528, [.inl c], rfl, rfl, c, l, σ, rfl, rfl, rfl, rfl, by rw [e28]; exact a2, a3, a4, hB, hX1.2.2.1, ?_⟩
    rw [em, ← ecg]
    exact ⟨fun r2 hr2 I2 J2 hs2 ht => ⟨r, rfl, by rw [hr] at hr2; cases hr2; rfl, sameM_SR h1 hX1 hs2 ht⟩, fun hr2 => by rw [hr] at hr2; cases hr2⟩
  · have e28 : I1 528 = I 528 := (updC_m hu).1 528 (by omega)
    have e32 : J1 532 = J 532 := (updC_m hu).2 532 (by omega)
    have em : moM J1 = moM J := by
      unfold moM
      rw [e32]
    have hB : BM J1 := fun k hk => by rw [e32]; exact b7 k hk
    have hl3 : 3 < l := by
      unfold byO at hr
      split at hr
      · cases hr
      · split at hr
        · cases hr
        · omega
    refine ⟨528, [.inl c], rfl, rfl, c, l, σ, rfl, rfl, rfl, rfl, by rw [e28]; exact a2, a3, a4, hB, updC_ms hu hX.2.2.1, ?_⟩
    rw [em, ← ecg, e28, a6, a9]
    rw [a5, a8] at hu
    refine ⟨fun r2 hr2 => (by rw [hr] at hr2; cases hr2), fun _ I2 J2 hm e3 e4 hs => ⟨_, rfl, rfl, upd_SR h hX hu hm hs (by omega) (by omega) a7 b1 b2 (Or.inr rfl) (fun q => absurd q (by decide)) (fun k hk => ?_) (fun k q1 q2 => ?_) (fun _ q => absurd q (by decide))⟩⟩
    · show (if k < l then Int64.ofInt (byV (moM J) c.toInt k) else 0) = if k < l then Int64.ofInt (byV (moC J 0) c.toInt k) else J 519 k
      rw [if_pos (by omega), if_pos (by omega), byV_cg hT c.toInt (by omega)]
    · show (if k < l then Int64.ofInt (byV (moM J) c.toInt k) else 0) = 0
      rw [if_neg (by omega)]
theorem arm_mirror (c : Int32) : armP pt_mirror pt_mmirror [.inl c] := fun I J h => by
  obtain ⟨U, L, σ, hX⟩ := h.2.1
  obtain ⟨l, kd, n, a1, a2, a3, a4, a5, a6, a7, a8, a9, b1, b2, b3, b4, b5, b6, b7, b8⟩ := h.2.2.1
  have hT : eqT l (moC J 0) (moM J) := fun i hi => by
    show (J (519 + 0) i).toInt = (J 532 i).toInt
    rw [b6 i hi]
  have ecg := mirO_cg hT c
  refine ⟨523, [.inl c], rfl, rfl, c, l, rfl, rfl, rfl, rfl, h.1, a1, a4, fun r hr I1 J1 hs => ?_, fun hr I1 J1 hu => ?_⟩
  · obtain ⟨h1, hX1⟩ := same_SR h hX hs
    have e28 : I1 528 = I 528 := hs.1 528 (by unfold wkA; omega)
    have e32 : J1 532 = J 532 := hs.2 532 (by omega)
    have em : moM J1 = moM J := by
      unfold moM
      rw [e32]
    have hB : BM J1 := fun k hk => by rw [e32]; exact b7 k hk
    refine ⟨528, [.inl c], rfl, rfl, c, l, σ, rfl, rfl, rfl, rfl, by rw [e28]; exact a2, a4, hB, hX1.2.2.1, ?_⟩
    rw [em, ← ecg]
    exact ⟨fun r2 hr2 I2 J2 hs2 ht => ⟨r, rfl, by rw [hr] at hr2; cases hr2; rfl, sameM_SR h1 hX1 hs2 ht⟩, fun hr2 => by rw [hr] at hr2; cases hr2⟩
  · have e28 : I1 528 = I 528 := (updC_m hu).1 528 (by omega)
    have e32 : J1 532 = J 532 := (updC_m hu).2 532 (by omega)
    have em : moM J1 = moM J := by
      unfold moM
      rw [e32]
    have hB : BM J1 := fun k hk => by rw [e32]; exact b7 k hk
    refine ⟨528, [.inl c], rfl, rfl, c, l, σ, rfl, rfl, rfl, rfl, by rw [e28]; exact a2, a4, hB, updC_ms hu hX.2.2.1, ?_⟩
    rw [em, ← ecg, e28, a6, a9]
    rw [a5, a8] at hu
    refine ⟨fun r2 hr2 => (by rw [hr] at hr2; cases hr2), fun _ I2 J2 hm e3 e4 hs => ⟨_, rfl, rfl, upd_SR h hX hu hm hs (by omega) (by omega) a7 b1 b2 (Or.inr rfl) (fun q => absurd q (by decide)) (fun k hk => ?_) (fun k q1 q2 => ?_) (fun _ q => absurd q (by decide))⟩⟩
    · show (if k < l + 1 then Int64.ofInt (mirS (moM J) c k (k + 1)) else 0) = if k < l + 1 then Int64.ofInt (mirS (moC J 0) c k (k + 1)) else J 519 k
      rw [if_pos (by omega), if_pos (by omega), mirS_cg hT c hk (k + 1) (Nat.le_refl _)]
    · show (if k < l + 1 then Int64.ofInt (mirS (moM J) c k (k + 1)) else 0) = 0
      rw [if_neg (by omega)]
theorem arm_point (x wt : Int32) : armP pt_point pt_mpoint [.inl x, .inl wt] := fun I J h => by
  obtain ⟨U, L, σ, hX⟩ := h.2.1
  obtain ⟨l, kd, n, a1, a2, a3, a4, a5, a6, a7, a8, a9, b1, b2, b3, b4, b5, b6, b7, b8⟩ := h.2.2.1
  have espec : pointO (I 528 4) (I 528 7) (I 528 6) (I 516 (x.toInt + 9).toNat) x.toInt wt.toInt = pointO (I 513 0) (I 513 2) (I 513 3) (wAt I x.toInt) x.toInt wt.toInt := by
    rw [a5, a6, a8, a9, b3]
    rfl
  have hLI := (CI.kind h.1).choose_spec.2.2.2.2.2
  have hLR : I 528 4 = 0 → I 528 6 = 0 → LRm I (I 516) ∧ ∀ y, y < 19 → (I 516 y).toInt.natAbs ≤ 99 := fun q1 q2 => by
    rw [a6] at q1
    rw [b3] at q2
    have k0 : kd = 0 := (nI_eq (b := 0) (by omega) (by omega)).mp q1
    exact ⟨(b8 k0 q2).m, (hLI (by rw [a5, k0]; rfl) q2).2⟩
  refine ⟨523, [.inl x, .inl wt], rfl, rfl, x, wt, rfl, rfl, rfl, rfl, h.1, fun r hr I1 J1 hs => ?_, fun hr I1 J1 hu => ?_⟩
  · obtain ⟨h1, hX1⟩ := same_SR h hX hs
    have e28 : I1 528 = I 528 := hs.1 528 (by unfold wkA; omega)
    have e33 : I1 533 = I 533 := hs.1 533 (by unfold wkA; omega)
    have e34 : I1 534 = I 534 := hs.1 534 (by unfold wkA; omega)
    have hL1 : LRm I (I 516) → LRm I1 (I 516) := fun q => (q.g.cg (by rw [e28]) (fun i _ => by rw [e33]) (fun i _ => by rw [e34]) (fun _ _ => rfl)).m
    refine ⟨528, [.inl x, .inl wt], rfl, rfl, x, wt, I 516, σ, rfl, rfl, rfl, rfl, hX1.2.2.1, ?_, ?_⟩
    · rw [e28]
      exact fun q1 q2 => ⟨hL1 (hLR q1 q2).1, (hLR q1 q2).2⟩
    · rw [e28, espec]
      exact ⟨fun r2 hr2 => ⟨r, rfl, by rw [hr] at hr2; cases hr2; rfl, h1⟩, fun hr2 => by rw [hr] at hr2; cases hr2⟩
  · have e28 : I1 528 = I 528 := (updC_m hu).1 528 (by omega)
    have e33 : I1 533 = I 533 := (updC_m hu).1 533 (by omega)
    have e34 : I1 534 = I 534 := (updC_m hu).1 534 (by omega)
    have e32 : J1 532 = J 532 := (updC_m hu).2 532 (by omega)
    have hL1 : LRm I (I 516) → LRm I1 (I 516) := fun q => (q.g.cg (by rw [e28]) (fun i _ => by rw [e33]) (fun i _ => by rw [e34]) (fun _ _ => rfl)).m
    have hok : I 513 0 = 0 ∧ I 513 3 = 0 := by
      unfold pointO at hr
      split at hr
      · cases hr
      · split at hr
        · cases hr
        · next q =>
          refine ⟨?_, ?_⟩
          · by_cases z : I 513 0 = 0
            · exact z
            · exact absurd (Or.inl z) q
          · by_cases z : I 513 3 = 0
            · exact z
            · exact absurd (Or.inr z) q
    obtain ⟨k0, c3⟩ := hok
    have hl := b5 c3
    subst hl
    have kd0 : kd = 0 := by
      rw [a5] at k0
      exact (nI_eq (b := 0) (by omega) (by omega)).mp k0
    subst kd0
    refine ⟨528, [.inl x, .inl wt], rfl, rfl, x, wt, I 516, σ, rfl, rfl, rfl, rfl, updC_ms hu hX.2.2.1, ?_, ?_⟩
    · rw [e28]
      exact fun q1 q2 => ⟨hL1 (hLR q1 q2).1, (hLR q1 q2).2⟩
    · rw [e28, espec, e32, a2, a6, a9, b3, c3]
      rw [a1, a5, a8, c3] at hu
      rw [c3] at hr
      refine ⟨fun r2 hr2 => (by rw [hr] at hr2; cases hr2), fun _ I2 J2 hm hl2 hs => ?_⟩
      obtain ⟨n', h7', hn', -⟩ := id hl2
      have ee : nI n + (if I 516 (x.toInt + 9).toNat = 0 then 1 else 0) - (if I 516 (x.toInt + 9).toNat + wt = 0 then 1 else 0) = nI n' := by
        rw [← h7', hm.2.2.2.1]
      rw [ee] at hm
      have hu2 : UpdC I J I1 J1 (nI 0) (nI 11) (nI n') 0 (fun y => if y = (x.toInt + 9).toNat then wAt I x.toInt + wt else I 516 y) (fun k => J 519 k + wt.toInt64 * pwL x.toInt64 k) := by
        rw [← ee]
        exact hu
      refine ⟨_, rfl, ?_, upd_SR h hX hu2 hm hs (by decide) (by decide) (by decide) hn' (fun q => absurd rfl q) (Or.inl rfl) (fun _ => rfl) (fun k hk => ?_) (fun k q1 q2 => by omega) (fun _ _ => hl2.g)⟩
      · rw [h7', hu2.2.2.2.1]
      · show J 532 k + wt.toInt64 * pwL x.toInt64 k = J 519 k + wt.toInt64 * pwL x.toInt64 k
        rw [b6 k hk]
theorem kept_iff {I : mPI} {J : mPJ} (h : ∀ p, p < 2 → KR I J p) (pl : Int32) : isK I pl ↔ isKM I pl := by
  have h0 := h 0 (by decide)
  have h1 := h 1 (by decide)
  have g0 : ¬ I 525 0 = 0 ↔ I 540 0 = 1 := by
    rcases h0 with ⟨q1, q2⟩ | ⟨q1, q2, -⟩
    · exact ⟨fun z => absurd q1 z, fun z => absurd z q2⟩
    · exact ⟨fun _ => q2, fun _ => q1⟩
  have g1 : ¬ I 525 1 = 0 ↔ I 540 5 = 1 := by
    rcases h1 with ⟨q1, q2⟩ | ⟨q1, q2, -⟩
    · exact ⟨fun z => absurd q1 z, fun z => absurd z q2⟩
    · exact ⟨fun _ => q2, fun _ => q1⟩
  unfold isK isKM
  rw [g0, g1]
theorem kept_W {I : mPI} {J : mPJ} {p : Nat} (h : KR I J p) (hp : p < 2) {pl : Int32} (e : pl = nI p) (hk : isK I pl) : WRel (I (514 + p)) (I (517 + p)) (J (520 + p)) (I 540 (5 * p + 1)) (I 540 (5 * p + 2)) (I 540 (5 * p + 3)) (I 540 (5 * p + 4)) (fun k => I 538 (10 * p + k)) (fun k => I 539 (10 * p + k)) (fun k => J 537 (12 * p + k)) := by
  rcases h with ⟨q1, q2⟩ | ⟨q1, q2, q3⟩
  · exfalso
    rcases hk with ⟨r1, r2⟩ | ⟨r1, r2⟩
    · rw [e] at r1
      have : p = 0 := (nI_eq (b := 0) (by omega) (by omega)).mp r1
      subst this
      exact r2 q1
    · rw [e] at r1
      have : p = 1 := (nI_eq (b := 1) (by omega) (by omega)).mp r1
      subst this
      exact r2 q1
  · exact q3
theorem arm_keep (pl : Int32) : armP pt_keep pt_mkeep [.inl pl] := fun I J h => by
  obtain ⟨U, L, σ, hX⟩ := h.2.1
  refine ⟨523, [.inl pl], rfl, rfl, pl, rfl, rfl, rfl, rfl, h.1, fun hn => ?_, fun p hp e I1 J1 hc => ?_⟩
  · refine ⟨528, [.inl pl], rfl, rfl, pl, rfl, rfl, rfl, rfl, fun _ => ⟨-1, rfl, rfl, h⟩, fun p hp e => ?_⟩
    rw [e, nI_toInt (by omega)] at hn
    exact absurd ⟨by omega, by omega⟩ hn
  · refine ⟨528, [.inl pl], rfl, rfl, pl, rfl, rfl, rfl, rfl, fun hn => ?_, fun p' hp' e' I2 J2 hm => ⟨1, rfl, rfl, ?_⟩⟩
    · rw [e, nI_toInt (by omega)] at hn
      exact absurd ⟨by omega, by omega⟩ hn
    · have : p' = p := (nI_eq (by omega) (by omega)).mp (e'.symm.trans e)
      subst this
      obtain ⟨c1, c2, c3, c4, c5, c6, c7, hC1⟩ := hc
      obtain ⟨m1, m2, m3, ⟨m4, m5, m6, m7, m8⟩, m9, m10, m11, m12⟩ := hm
      have u1 : ∀ a, a ≠ 514 + p' → a ≠ 517 + p' → a ≠ 525 → a ≠ 538 → a ≠ 539 → a ≠ 540 → I2 a = I a := fun a q1 q2 q3 q4 q5 q6 => (m1 a q4 q5 q6).trans (c1 a q1 q2 q3)
      have lo : ∀ a, a < 528 → I2 a = I1 a := fun a q => m1 a (by omega) (by omega) (by omega)
      have hcur := h.2.2.1
      have k6 : (if I 528 6 = 0 then (0 : Int32) else 1) = I 528 6 := by
        obtain ⟨l, kd, n, -, -, -, -, -, -, -, -, -, -, -, b3, b4, -⟩ := hcur
        rw [b3]
        rcases b4 with q | q <;> rw [q] <;> rfl
      have e28 : I1 528 = I 528 := c1 528 (by omega) (by omega) (by omega)
      have e33 : I1 533 = I 533 := c1 533 (by omega) (by omega) (by omega)
      have e34 : I1 534 = I 534 := c1 534 (by omega) (by omega) (by omega)
      have e32 : J1 532 = J 532 := c6 532 (by omega)
      refine ⟨hC1.hi lo (fun a q => m10 a (by omega)), ⟨U, L, σ, hX.of (fun a ha => u1 a (by unfold HA at ha; omega) (by unfold HA at ha; omega) (by unfold HA at ha; omega) (by unfold HA at ha; omega) (by unfold HA at ha; omega) (by unfold HA at ha; omega)) (u1 529 (by omega) (by omega) (by omega) (by omega) (by omega) (by omega)) (u1 530 (by omega) (by omega) (by omega) (by omega) (by omega) (by omega)) (u1 531 (by omega) (by omega) (by omega) (by omega) (by omega) (by omega))⟩, ?_, fun q hq => ?_⟩
      · have e := u1 528 (by omega) (by omega) (by omega) (by omega) (by omega) (by omega)
        exact hcur.cg (fun k _ => by rw [u1 513 (by omega) (by omega) (by omega) (by omega) (by omega) (by omega)]) (fun x _ => by rw [u1 516 (by omega) (by omega) (by omega) (by omega) (by omega) (by omega)]) (fun k _ => by rw [m10 519 (by omega), c6 519 (by omega)]) (by rw [e]) (by rw [e]) (by rw [e]) (by rw [e]) (fun i _ => by rw [u1 533 (by omega) (by omega) (by omega) (by omega) (by omega) (by omega)]) (fun i _ => by rw [u1 534 (by omega) (by omega) (by omega) (by omega) (by omega) (by omega)]) (fun k _ => by rw [m10 532 (by omega), e32])
      · by_cases z : q = p'
        · subst z
          refine Or.inr ⟨?_, m4, ?_⟩
          · rw [lo 525 (by omega), c4]
            decide
          · exact hcur.cg (fun k hk => by rw [lo (514 + q) (by omega)]; exact c2 k hk) (fun x hx => by rw [lo (517 + q) (by omega)]; exact c3 x hx) (fun k hk => by rw [m10 (520 + q) (by omega)]; exact c7 k hk) (by rw [m5, e28]) (by rw [m6, e28]) (by rw [m7, e28]; exact k6) (by rw [m8, e28]) (fun i hi => by show I2 538 (10 * q + i) = _; rw [(m2 i hi).1, e33]) (fun i hi => by show I2 539 (10 * q + i) = _; rw [(m2 i hi).2, e34]) (fun k hk => by show J2 537 (12 * q + k) = _; rw [m11 k hk, e32])
        · exact (h.2.2.2 q hq).cg hq (fun k _ => by rw [u1 (514 + q) (by omega) (by omega) (by omega) (by omega) (by omega) (by omega)]) (fun x _ => by rw [u1 (517 + q) (by omega) (by omega) (by omega) (by omega) (by omega) (by omega)]) (by rw [lo 525 (by omega)]; exact c5 q z) (fun j hj => by
            have := m3 j (by omega)
            rw [this.1, this.2, c1 538 (by omega) (by omega) (by omega), c1 539 (by omega) (by omega) (by omega)]
            exact ⟨rfl, rfl⟩) (fun j hj => by rw [m9 j (by omega), c1 540 (by omega) (by omega) (by omega)]) (fun k _ => by rw [m10 (520 + q) (by omega), c6 (520 + q) (by omega)]) (fun j hj => by rw [m12 j (by omega), c6 537 (by omega)])
theorem arm_back (pl : Int32) : armP pt_back pt_mback [.inl pl] := fun I J h => by
  obtain ⟨U, L, σ, hX⟩ := h.2.1
  have hki := kept_iff h.2.2.2 pl
  refine ⟨523, [.inl pl], rfl, rfl, pl, rfl, rfl, rfl, rfl, h.1, fun hn => ?_, fun p hp e hk I1 J1 hu => ?_⟩
  · exact ⟨528, [.inl pl], rfl, rfl, pl, rfl, rfl, rfl, rfl, fun _ => ⟨-1, rfl, rfl, h⟩, fun p hp e hk => absurd (hki.mpr hk) hn⟩
  · have e40 : I1 540 = I 540 := (updC_m hu).1 540 (by omega)
    have ekm : isKM I1 pl := by
      unfold isKM
      rw [e40]
      exact hki.mp hk
    have hW := kept_W (h.2.2.2 p hp) hp e hk
    refine ⟨528, [.inl pl], rfl, rfl, pl, rfl, rfl, rfl, rfl, fun hn => absurd ekm hn, fun p' hp' e' _ I2 J2 hm => ⟨I (514 + p) 1, rfl, ?_, ?_⟩⟩
    · have : p' = p := (nI_eq (by omega) (by omega)).mp (e'.symm.trans e)
      subst this
      obtain ⟨l, kd, n, q1, q2, -⟩ := hW
      rw [e40, q2, q1]
    · have : p' = p := (nI_eq (by omega) (by omega)).mp (e'.symm.trans e)
      subst this
      have up := updC_m hu
      obtain ⟨a1, a2, a3, a4, a5, a6, a7, a8, hC1⟩ := hu
      obtain ⟨m1, m2, m3, m4, m5, m6, m7, m8⟩ := hm
      have lo : ∀ a, a < 528 → I2 a = I1 a := fun a q => m1 a (by omega) (by omega) (by omega)
      have k6 : (if I 540 (5 * p' + 3) = 1 then (1 : Int32) else 0) = I 540 (5 * p' + 3) := by
        obtain ⟨l, kd, n, -, -, -, -, -, -, -, -, -, -, -, b3, b4, -⟩ := hW
        rw [b3]
        rcases b4 with q | q <;> rw [q] <;> rfl
      have lw : ∀ a, 514 ≤ a → a ≠ 516 → a < 528 → I2 a = I a := fun a r1 r2 r3 => by
        rw [lo a r3]
        exact a1 a (by unfold wkA; omega) (by omega) r2
      have hi : ∀ a, 528 ≤ a → a ≠ 528 → a ≠ 533 → a ≠ 534 → I2 a = I a := fun a r1 r2 r3 r4 => by
        rw [m1 a r2 r3 r4]
        exact up.1 a r1
      refine ⟨hC1.hi lo (fun a q => m7 a (by omega)), ⟨U, L, σ, hX.of (fun a ha => by rw [lo a (by unfold HA at ha; omega)]; exact a1 a (HA_nwk ha) (by unfold HA at ha; omega) (by unfold HA at ha; omega)) (hi 529 (by omega) (by omega) (by omega) (by omega)) (hi 530 (by omega) (by omega) (by omega) (by omega)) (hi 531 (by omega) (by omega) (by omega) (by omega))⟩, ?_, fun q hq => ?_⟩
      · have e38 := up.1 538 (by omega)
        have e39 := up.1 539 (by omega)
        have e37 := up.2 537 (by omega)
        exact hW.cg (fun k hk => by
          rw [lo 513 (by omega)]
          rcases (show k = 0 ∨ k = 1 ∨ k = 2 ∨ k = 3 by omega) with rfl | rfl | rfl | rfl
          · exact a2
          · exact a3
          · exact a4
          · exact a5) (fun x hx => by rw [lo 516 (by omega)]; exact a6 x hx) (fun k hk => by rw [m7 519 (by omega)]; exact a8 k hk) (by rw [m2, e40]) (by rw [m3, e40]) (by rw [m4, e40]; exact k6) (by rw [m5, e40]) (fun i hi => by rw [(m6 i hi).1, e38]) (fun i hi => by rw [(m6 i hi).2, e39]) (fun k hk => by rw [m8 k hk, e37])
      · exact (h.2.2.2 q hq).cg hq (fun k _ => by rw [lw (514 + q) (by omega) (by omega) (by omega)]) (fun x _ => by rw [lw (517 + q) (by omega) (by omega) (by omega)]) (by rw [lw 525 (by omega) (by omega) (by omega)]) (fun j _ => ⟨by rw [hi 538 (by omega) (by omega) (by omega) (by omega)], by rw [hi 539 (by omega) (by omega) (by omega) (by omega)]⟩) (fun j _ => by rw [hi 540 (by omega) (by omega) (by omega) (by omega)]) (fun k _ => by rw [m7 (520 + q) (by omega), a7 (520 + q) (by omega) (by omega)]) (fun j _ => by rw [m7 537 (by omega), a7 537 (by omega) (by omega)])
theorem arm_differs (pl : Int32) : armP pt_differs pt_mdiffers [.inl pl] := fun I J h => by
  obtain ⟨U, L, σ, hX⟩ := h.2.1
  obtain ⟨l, l1, l2, l3, l4, hT, hB⟩ := CurR.eq h.2.2.1
  have hki := kept_iff h.2.2.2 pl
  obtain ⟨hH, hL, hM, s⟩ := hX
  refine ⟨523, [.inl pl], rfl, rfl, pl, rfl, rfl, rfl, rfl, l, U, L, h.1, hH, hL, l1, l4, fun I1 hV hC1 hH1 => ?_⟩
  have hX1 : HX I1 U L σ := ⟨hH1, hL, vis_ms hV hM, s⟩
  have hS1 := h.vis hV hC1 hX1
  have e28 : I1 528 = I 528 := hV.1 528 (by omega) (by omega)
  have e40 : I1 540 = I 540 := hV.1 540 (by omega) (by omega)
  have ekm : isKM I1 pl ↔ isK I pl := by
    rw [hki]
    unfold isKM
    rw [e40]
  refine ⟨528, [.inl pl], rfl, rfl, pl, l, σ, rfl, rfl, rfl, rfl, by rw [e28]; exact l2, l4, hB, vis_ms hV hM, fun hn => ?_, fun p hp e hk => ?_⟩
  · have hn : ¬ isK I pl := mt ekm.mpr hn
    refine ⟨_, rfl, ?_, hS1⟩
    show _ = some (Sum.inl (if isK I pl then _ else -1))
    rw [if_neg hn]
  · have hk : isK I pl := ekm.mp hk
    obtain ⟨m, kd, n, a1, a2, a3, a4, a5, a6, a7, a8, a9, b1, b2, b3, b4, b5, b6, b7, b8⟩ := kept_W (h.2.2.2 p hp) hp e hk
    refine ⟨m, by rw [e40]; exact a2, a4, b7, fun I2 J2 σ2 F M2 p0 p1 hj1 hj2 => ⟨_, rfl, ?_, ?_⟩⟩
    · have ep : pl.toInt.toNat = p := by
        rw [e, nI_toInt (by omega)]
        omega
      have hT2 : eqT m (moC J (1 + p)) (moK J p) := fun i hi => by
        show (J (519 + (1 + p)) i).toInt = (J 537 (12 * p + i)).toInt
        have hb6 : J 537 (12 * p + i) = J (520 + p) i := b6 i hi
        rw [show 519 + (1 + p) = 520 + p by omega, hb6]
      have hlk : lK I (1 + p) = m := by
        unfold lK
        rw [show 513 + (1 + p) = 514 + p by omega, a1, nI_toInt (by omega)]
        omega
      show _ = some (Sum.inl (if isK I pl then dfR (moC J 0) (moC J (1 + pl.toInt.toNat)) (tpf (moC J 0) l) (tpf (moC J (1 + pl.toInt.toNat)) (lK I (1 + pl.toInt.toNat))) 5 1 else -1))
      rw [if_pos hk, ep, hlk, tpf_cg hT, tpf_cg hT2, dfR_cg hT hT2 (tpf_le _ _).1 (tpf_le _ _).2 (tpf_le _ _).2]
    · have h2 := hS1.mo F hX1 M2 p0 p1
      refine ⟨h2.1.hi (fun _ _ => rfl) (fun a q => hj1 a (by omega) (by omega)), h2.2.1, h2.2.2.1.cg (fun _ _ => rfl) (fun _ _ => rfl) (fun k _ => by rw [hj1 519 (by omega) (by omega)]) rfl rfl rfl rfl (fun _ _ => rfl) (fun _ _ => rfl) hj2, fun q hq => (h2.2.2.2 q hq).cg hq (fun _ _ => rfl) (fun _ _ => rfl) rfl (fun _ _ => ⟨rfl, rfl⟩) (fun _ _ => rfl) (fun k _ => by rw [hj1 (520 + q) (by omega) (by omega)]) (fun j _ => by rw [hj1 537 (by omega) (by omega)])⟩

