/-! ===== names and the order in which cells are made ===== -/
def pB (p : Nat) : Nat := if p = 0 then 1 else if p = 1 then 184 else 346
def jj (q : Nat) : Nat := if q < 64 then 10 + 2 * q else if q < 76 then 138 + 2 * (q - 64) else if q = 76 then 6 else 8
def pN (i : Nat) : Nat := if i < 468 then pB (i / 156) + jj (i % 156 / 2) + i % 2 else if i < 476 then 166 + (i - 468) else if i < 496 then 508 + (i - 476) else if i < 504 then 176 + (i - 496) else if i < 507 then pB (i - 504) + 3 else if i < 510 then pB (i - 507) + 4 else if i < 513 then pB (i - 510) + 5 else if i < 516 then pB (i - 513) else if i < 519 then pB (i - 516) + 1 else if i < 522 then pB (i - 519) + 2 else if i = 522 then 165 else if i = 523 then 0 else if i = 524 then 163 else if i = 525 then 164 else if i = 526 then 174 else if i = 527 then 175 else i
def iL : List Nat := [523, 513, 516, 519, 504, 507, 510, 152, 153, 154, 155, 0, 1, 2, 3, 4, 5, 6, 7, 8, 9, 10, 11, 12, 13, 14, 15, 16, 17, 18, 19, 20, 21, 22, 23, 24, 25, 26, 27, 28, 29, 30, 31, 32, 33, 34, 35, 36, 37, 38, 39, 40, 41, 42, 43, 44, 45, 46, 47, 48, 49, 50, 51, 52, 53, 54, 55, 56, 57, 58, 59, 60, 61, 62, 63, 64, 65, 66, 67, 68, 69, 70, 71, 72, 73, 74, 75, 76, 77, 78, 79, 80, 81, 82, 83, 84, 85, 86, 87, 88, 89, 90, 91, 92, 93, 94, 95, 96, 97, 98, 99, 100, 101, 102, 103, 104, 105, 106, 107, 108, 109, 110, 111, 112, 113, 114, 115, 116, 117, 118, 119, 120, 121, 122, 123, 124, 125, 126, 127, 128, 129, 130, 131, 132, 133, 134, 135, 136, 137, 138, 139, 140, 141, 142, 143, 144, 145, 146, 147, 148, 149, 150, 151, 524, 525, 522, 468, 469, 470, 471, 472, 473, 474, 475, 526, 527, 496, 497, 498, 499, 500, 501, 502, 503, 514, 517, 520, 505, 508, 511, 308, 309, 310, 311, 156, 157, 158, 159, 160, 161, 162, 163, 164, 165, 166, 167, 168, 169, 170, 171, 172, 173, 174, 175, 176, 177, 178, 179, 180, 181, 182, 183, 184, 185, 186, 187, 188, 189, 190, 191, 192, 193, 194, 195, 196, 197, 198, 199, 200, 201, 202, 203, 204, 205, 206, 207, 208, 209, 210, 211, 212, 213, 214, 215, 216, 217, 218, 219, 220, 221, 222, 223, 224, 225, 226, 227, 228, 229, 230, 231, 232, 233, 234, 235, 236, 237, 238, 239, 240, 241, 242, 243, 244, 245, 246, 247, 248, 249, 250, 251, 252, 253, 254, 255, 256, 257, 258, 259, 260, 261, 262, 263, 264, 265, 266, 267, 268, 269, 270, 271, 272, 273, 274, 275, 276, 277, 278, 279, 280, 281, 282, 283, 284, 285, 286, 287, 288, 289, 290, 291, 292, 293, 294, 295, 296, 297, 298, 299, 300, 301, 302, 303, 304, 305, 306, 307, 515, 518, 521, 506, 509, 512, 464, 465, 466, 467, 312, 313, 314, 315, 316, 317, 318, 319, 320, 321, 322, 323, 324, 325, 326, 327, 328, 329, 330, 331, 332, 333, 334, 335, 336, 337, 338, 339, 340, 341, 342, 343, 344, 345, 346, 347, 348, 349, 350, 351, 352, 353, 354, 355, 356, 357, 358, 359, 360, 361, 362, 363, 364, 365, 366, 367, 368, 369, 370, 371, 372, 373, 374, 375, 376, 377, 378, 379, 380, 381, 382, 383, 384, 385, 386, 387, 388, 389, 390, 391, 392, 393, 394, 395, 396, 397, 398, 399, 400, 401, 402, 403, 404, 405, 406, 407, 408, 409, 410, 411, 412, 413, 414, 415, 416, 417, 418, 419, 420, 421, 422, 423, 424, 425, 426, 427, 428, 429, 430, 431, 432, 433, 434, 435, 436, 437, 438, 439, 440, 441, 442, 443, 444, 445, 446, 447, 448, 449, 450, 451, 452, 453, 454, 455, 456, 457, 458, 459, 460, 461, 462, 463, 476, 477, 478, 479, 480, 481, 482, 483, 484, 485, 486, 487, 488, 489, 490, 491, 492, 493, 494, 495, 528, 529, 530, 531, 532, 533, 534, 535, 536, 537, 538, 539, 540, 541]
set_option maxRecDepth 8000 in
theorem pN_inv : ∀ i, i < 542 → iL.getD (pN i) 0 = i := by decide +kernel
set_option maxRecDepth 8000 in
theorem pN_lt : ∀ i, i < 528 → pN i < 528 := by decide +kernel
set_option maxRecDepth 8000 in
theorem iL_inv : ∀ j, j < 542 → iL.getD j 0 < 542 ∧ pN (iL.getD j 0) = j := by decide +kernel
theorem pN_hi {i : Nat} (h : 528 ≤ i) : pN i = i := by
  unfold pN
  rw [if_neg (by omega), if_neg (by omega), if_neg (by omega), if_neg (by omega), if_neg (by omega), if_neg (by omega), if_neg (by omega), if_neg (by omega), if_neg (by omega), if_neg (by omega), if_neg (by omega), if_neg (by omega), if_neg (by omega), if_neg (by omega), if_neg (by omega), if_neg (by omega)]
theorem pN_m {x : Nat} (h1 : 468 ≤ x) (h2 : x < 504) : pN x = if x < 476 then 166 + (x - 468) else if x < 496 then 508 + (x - 476) else 176 + (x - 496) := by
  unfold pN
  rw [if_neg (show ¬ x < 468 by omega), if_pos h2]
theorem pN_inj {i j : Nat} (hi : i < 542) (hj : j < 542) (h : pN i = pN j) : i = j := by
  have a := pN_inv i hi
  have b := pN_inv j hj
  rw [h] at a
  exact a.symm.trans b
theorem jj_t : ∀ q, q < 78 → 6 ≤ jj q ∧ jj q < 161 ∧ jj q % 2 = 0 ∧ pcp (jj q + 1 - 3) = pcap q := by decide +kernel
def I0 (u : cU) : mPI := fun a k => if (504 ≤ a ∧ a < 507) ∧ k = 4 then 11 else if (513 ≤ a ∧ a < 516) ∧ k = 1 then 11 else if (513 ≤ a ∧ a < 516) ∧ k = 7 then 1 else if a = 522 ∧ k = 4 then 1 else if a = 470 then u 0 k else if a = 471 then u 1 k else 0
def J0 : mPJ := fun _ _ => 0
theorem I0_z {u : cU} {a : Nat} (h : ¬ (504 ≤ a ∧ a < 507)) (h2 : ¬ (513 ≤ a ∧ a < 516)) (h3 : a ≠ 522) (h4 : a ≠ 470) (h5 : a ≠ 471) : I0 u a = fun _ => 0 := by
  funext k
  unfold I0
  rw [if_neg (fun z => h z.1), if_neg (fun z => h2 z.1), if_neg (fun z => h2 z.1), if_neg (fun z => h3 z.1), if_neg h4, if_neg h5]
theorem at_q {D : va_G} {cl : List vw_C} {cs : Nat → ClassId} {t n a : Nat} {f g : Nat → Option Nat} {H : Heap} (h : va_at D cl (a, cQ cs t n f) H) (e : ∀ k, k < n → f k = g k) : va_at D cl (a, cQ cs t n g) H := by
  have h : H[a]? = some (vp_cell (cs t) (n, .inr (.inr (.inr (.inr f))))) := h
  show H[a]? = some (vp_cell (cs t) (n, .inr (.inr (.inr (.inr g)))))
  rw [h, vp_cell_q, vp_cell_q]
  unfold arrV
  congr 2
  congr 1
  funext j
  show va_rf (f j.val) = va_rf (g j.val)
  rw [e j.val j.isLt]
theorem wG_o {cs : Nat → ClassId} {b j : Nat} (h : 6 ≤ j) (ho : j % 2 = 0) : wG cs b j = bO (b + j + 1) := by
  unfold wG
  rw [va_up_ne _ _ (by omega)]
  unfold wF
  rw [if_neg (by omega), if_neg (by omega)]
  unfold pG
  rw [va_up_ne _ _ (by omega), pF_o (by omega) (by omega), show b + 3 + (j - 3) + 1 = b + j + 1 by omega]
theorem wG_e {cs : Nat → ClassId} {b j : Nat} (h : 7 ≤ j) (ho : j % 2 = 1) : wG cs b j = cZ cs 0 (pcp (j - 3)) := by
  unfold wG
  rw [va_up_ne _ _ (by omega)]
  unfold wF
  rw [if_neg (by omega), if_neg (by omega)]
  unfold pG
  rw [va_up_ne _ _ (by omega)]
  unfold pF
  rw [if_neg (by omega), if_neg (by omega), if_neg (by omega)]
theorem dG_w {cs : Nat → ClassId} {h : Nat} {u : cU} {p j : Nat} (hp : p < 3) (hj : j < 162) : dG cs h u (pB p + j) = wG cs (h + pB p) j := by
  unfold dG
  rcases (show p = 0 ∨ p = 1 ∨ p = 2 by omega) with rfl | rfl | rfl
  · rw [va_up_ne _ _ (by unfold pB; simp)]
    exact (dF_w0 cs h u 2 10 j hj).symm
  · rw [va_up_ne _ _ (by unfold pB; simp)]
    exact (dF_w1 cs h u 2 10 j hj).symm
  · rw [va_up_ne _ _ (by unfold pB; simp)]
    exact (dF_w2 cs h u 2 10 j hj).symm
theorem pB_t {p : Nat} (hp : p < 3) : (p = 0 ∧ pB p = 1) ∨ (p = 1 ∧ pB p = 184) ∨ (p = 2 ∧ pB p = 346) := by
  rcases (show p = 0 ∨ p = 1 ∨ p = 2 by omega) with rfl | rfl | rfl
  · exact Or.inl ⟨rfl, rfl⟩
  · exact Or.inr (Or.inl ⟨rfl, rfl⟩)
  · exact Or.inr (Or.inr ⟨rfl, rfl⟩)
theorem dG_h {cs : Nat → ClassId} {h : Nat} {u : cU} {j : Nat} (hj : j < 9) : dG cs h u (165 + j) = hG cs (h + 165) u j := by
  unfold dG
  rw [va_up_ne _ _ (by omega)]
  exact (dF_h cs h u 2 10 j hj).symm
theorem dG_e {cs : Nat → ClassId} {h : Nat} {u : cU} {j : Nat} (hj : (176 ≤ j ∧ j < 184) ∨ 508 ≤ j) : dG cs h u j = dbE cs h j := by
  unfold dG
  rw [va_up_ne _ _ (by omega)]
  exact dF_e cs h u 2 10 j hj
theorem ce_o {cs : Nat → ClassId} {ad : Nat → Nat} {sh : mSH} {rf : mRF} {I : mPI} {J : mPJ} {i ci : Nat} (h : sh i = .inl ci) : m_ce cs ad sh rf I J i = .inr (ci, m_fs ad rf I i (m_ft ci) 0) := by
  unfold m_ce
  rw [h]
theorem ce_a {cs : Nat → ClassId} {ad : Nat → Nat} {sh : mSH} {rf : mRF} {I : mPI} {J : mPJ} {i t n : Nat} (h : sh i = .inr (t, n)) : m_ce cs ad sh rf I J i = .inl (cs t, m_ar ad rf I J i t n) := by
  unfold m_ce
  rw [h]
/-- a row of numbers, all 0 -/
theorem ce_z {cs : Nat → ClassId} {ad : Nat → Nat} {sh : mSH} {rf : mRF} {I : mPI} {J : mPJ} {i t n : Nat} (h : sh i = .inr (t, n)) (ht : t < 3) (hI : I i = fun _ => 0) (hJ : J i = fun _ => 0) : m_ce cs ad sh rf I J i = cZ cs t n := by
  rw [ce_a h]
  unfold m_ar cZ
  rw [hI, hJ, if_pos ht]
theorem ce_q {cs : Nat → ClassId} {ad : Nat → Nat} {sh : mSH} {rf : mRF} {I : mPI} {J : mPJ} {i t n : Nat} (h : sh i = .inr (t, n)) (ht : 3 ≤ t) : m_ce cs ad sh rf I J i = cQ cs t n (fun k => some (ad (rf i k))) := by
  rw [ce_a h]
  unfold m_ar cQ
  rw [if_neg (by omega), if_neg (by omega)]
/-- a Big with 0 in it -/
theorem ce_b {cs : Nat → ClassId} {ad : Nat → Nat} {I : mPI} {J : mPJ} {b : Nat} (hb : b < 252) (hI : I (2 * b) = fun _ => 0) : m_ce cs ad shL rfL I J (2 * b) = bO (ad (2 * b + 1)) := by
  obtain ⟨h1, h2, -⟩ := lay_b hb
  rw [ce_o h1]
  show Sum.inr (0, [Value.ref (ad (rfL (2 * b) 0)), Value.int (I (2 * b) 1), Value.int (I (2 * b) 2)]) = _
  rw [h2, hI]
  rfl
theorem pN_b {p q e : Nat} (hp : p < 3) (hq : q < 78) (he : e < 2) : pN (2 * (78 * p + q) + e) = pB p + (jj q + e) := by
  unfold pN
  rw [if_pos (by omega), show (2 * (78 * p + q) + e) / 156 = p by omega, show (2 * (78 * p + q) + e) % 156 / 2 = q by omega, show (2 * (78 * p + q) + e) % 2 = e by omega, Nat.add_assoc]

theorem init_at {D : va_G} {cs : Nat → ClassId} {h : Nat} {u : cU} {H : Heap} (hF : ∀ j, j < 528 → va_at D m_cl (h + j, dG cs h u j) H) : ∀ i, i < 528 → va_at D m_cl (h + pN i, m_ce cs (fun i => h + pN i) shL rfL (I0 u) J0 i) H := by
  intro i hi
  have hat := hF (pN i) (pN_lt i hi)
  have hZ : ∀ t n, shL i = .inr (t, n) → t < 3 → ¬ (504 ≤ i ∧ i < 507) → ¬ (513 ≤ i ∧ i < 516) → i ≠ 522 → i ≠ 470 → i ≠ 471 → dG cs h u (pN i) = cZ cs t n → va_at D m_cl (h + pN i, m_ce cs (fun i => h + pN i) shL rfL (I0 u) J0 i) H := fun t n h1 h2 h3 h4 h5 h6 h7 h8 => by
    rw [ce_z h1 h2 (I0_z h3 h4 h5 h6 h7) rfl, ← h8]
    exact hat
  -- the Bigs
  by_cases c0 : i < 468
  · obtain ⟨p, q, e, hp, hq, he, rfl⟩ : ∃ p q e, p < 3 ∧ q < 78 ∧ e < 2 ∧ i = 2 * (78 * p + q) + e := ⟨i / 156, i % 156 / 2, i % 2, by omega, by omega, by omega, by omega⟩
    obtain ⟨j1, j2, j3, j4⟩ := jj_t q hq
    rcases (show e = 0 ∨ e = 1 by omega) with rfl | rfl
    · have e1 := pN_b (p := p) (q := q) (e := 0) hp hq (by decide)
      have e2 := pN_b (p := p) (q := q) (e := 1) hp hq (by decide)
      have hd : dG cs h u (pN (2 * (78 * p + q) + 0)) = bO (h + pN (2 * (78 * p + q) + 1)) := by
        rw [e1, e2, dG_w hp (by omega), wG_o (by omega) (by omega)]
        congr 1
        omega
      rw [Nat.add_zero] at hat hd ⊢
      rw [ce_b (by omega) (I0_z (by omega) (by omega) (by omega) (by omega) (by omega)), ← hd]
      exact hat
    · have e2 := pN_b (p := p) (q := q) (e := 1) hp hq (by decide)
      refine hZ 0 (capB (78 * p + q)) (lay_b (by omega)).2.2 (by decide) (by omega) (by omega) (by omega) (by omega) (by omega) ?_
      rw [e2, dG_w hp (by omega), wG_e (by omega) (by omega), j4]
      unfold capB
      rw [if_pos (by omega), show (78 * p + q) % 78 = q by omega]
  by_cases c1 : i < 504
  · obtain ⟨b, e, hb1, hb2, he, rfl⟩ : ∃ b e, 234 ≤ b ∧ b < 252 ∧ e < 2 ∧ i = 2 * b + e := ⟨i / 2, i % 2, by omega, by omega, by omega, by omega⟩
    have hcap : capB b = 40 := by
      unfold capB
      rw [if_neg (by omega)]
    have m0 := pN_m (x := 2 * b) (by omega) (by omega)
    have e1 : pN (2 * b + 1) = pN (2 * b) + 1 := by
      rw [pN_m (x := 2 * b + 1) (by omega) (by omega), m0]
      by_cases z1 : 2 * b < 476
      · rw [if_pos z1, if_pos (show 2 * b + 1 < 476 by omega)]
        omega
      · rw [if_neg z1, if_neg (show ¬ 2 * b + 1 < 476 by omega)]
        by_cases z2 : 2 * b < 496
        · rw [if_pos z2, if_pos (show 2 * b + 1 < 496 by omega)]
          omega
        · rw [if_neg z2, if_neg (show ¬ 2 * b + 1 < 496 by omega)]
          omega
    have e0 : ∃ k, pN (2 * b) = k ∧ ((166 ≤ k ∧ k < 174 ∧ k = 166 + (2 * b - 468) ∧ b < 238) ∨ ((176 ≤ k ∧ k < 183 ∨ 508 ≤ k) ∧ k % 2 = 0 ∧ 238 ≤ b)) := by
      refine ⟨_, rfl, ?_⟩
      rw [m0]
      by_cases z1 : 2 * b < 476
      · rw [if_pos z1]
        omega
      · rw [if_neg z1]
        by_cases z2 : 2 * b < 496
        · rw [if_pos z2]
          omega
        · rw [if_neg z2]
          omega
    obtain ⟨k, ek, hk⟩ := e0
    rcases hk with ⟨k1, k2, k3, k4⟩ | ⟨k1, k2, k3⟩
    · rcases (show b = 235 ∨ b ≠ 235 by omega) with rfl | hne
      · rcases (show e = 0 ∨ e = 1 by omega) with rfl | rfl
        · have hd : dG cs h u (pN (2 * 235 + 0)) = m_ce cs (fun i => h + pN i) shL rfL (I0 u) J0 (2 * 235 + 0) := rfl
          rw [← hd]
          exact hat
        · have hd : dG cs h u (pN (2 * 235 + 1)) = m_ce cs (fun i => h + pN i) shL rfL (I0 u) J0 (2 * 235 + 1) := rfl
          rw [← hd]
          exact hat
      · have hh : dG cs h u k = bO (h + k + 1) ∧ dG cs h u (k + 1) = cZ cs 0 40 := by
          have hkk : k = 165 + 1 ∨ k = 165 + 5 ∨ k = 165 + 7 := by omega
          rcases hkk with rfl | rfl | rfl
          · rw [show 165 + 1 + 1 = 165 + 2 from rfl, dG_h (by decide), dG_h (by decide)]
            exact ⟨rfl, rfl⟩
          · rw [show 165 + 5 + 1 = 165 + 6 from rfl, dG_h (by decide), dG_h (by decide)]
            exact ⟨rfl, rfl⟩
          · rw [show 165 + 7 + 1 = 165 + 8 from rfl, dG_h (by decide), dG_h (by decide)]
            exact ⟨rfl, rfl⟩
        rcases (show e = 0 ∨ e = 1 by omega) with rfl | rfl
        · rw [Nat.add_zero] at hat ⊢
          rw [ce_b (by omega) (I0_z (by omega) (by omega) (by omega) (by omega) (by omega))]
          show va_at D m_cl (h + pN (2 * b), bO (h + pN (2 * b + 1))) H
          rw [ek, hh.1] at hat
          rw [e1, ek]
          exact hat
        · refine hZ 0 40 (by rw [(lay_b hb2).2.2, hcap]) (by decide) (by omega) (by omega) (by omega) (by omega) (by omega) ?_
          rw [e1, ek]
          exact hh.2
    · rcases (show e = 0 ∨ e = 1 by omega) with rfl | rfl
      · rw [Nat.add_zero] at hat ⊢
        rw [ce_b (by omega) (I0_z (by omega) (by omega) (by omega) (by omega) (by omega))]
        show va_at D m_cl (h + pN (2 * b), bO (h + pN (2 * b + 1))) H
        rw [ek, dG_e (by omega)] at hat
        unfold dbE at hat
        rw [if_pos k2] at hat
        rw [e1, ek]
        exact hat
      · refine hZ 0 40 (by rw [(lay_b hb2).2.2, hcap]) (by decide) (by omega) (by omega) (by omega) (by omega) (by omega) ?_
        rw [e1, ek, dG_e (by omega)]
        unfold dbE
        rw [if_neg (by omega)]
  -- the rest
  by_cases c2 : i < 522
  · obtain ⟨g, p, hg, hp, rfl⟩ : ∃ g p, g < 6 ∧ p < 3 ∧ i = 504 + 3 * g + p := ⟨(i - 504) / 3, (i - 504) % 3, by omega, by omega, by omega⟩
    have hrefs : ∀ k, k < 76 → (if k < 64 then h + pN (2 * (78 * p + k)) else h + pN (2 * (78 * p + k))) = h + (pB p + (if k < 64 then 10 + 2 * k else 138 + 2 * (k - 64))) := fun k hk => by
      have := pN_b (p := p) (q := k) (e := 0) hp (by omega) (by decide)
      rw [Nat.add_zero, Nat.add_zero] at this
      rw [this]
      unfold jj
      by_cases z : k < 64
      · rw [if_pos z, if_pos z, if_pos z]
      · rw [if_neg z, if_neg z, if_neg z, if_pos hk]
    rcases (show g = 0 ∨ g = 1 ∨ g = 2 ∨ g = 3 ∨ g = 4 ∨ g = 5 by omega) with rfl | rfl | rfl | rfl | rfl | rfl
    · rcases (show p = 0 ∨ p = 1 ∨ p = 2 by omega) with rfl | rfl | rfl <;> exact hat
    · have hd : dG cs h u (pN (504 + 3 * 1 + p)) = cQ cs 3 64 (fun q => if q < 64 then some (h + pB p + 3 + 7 + 2 * q) else none) := by
        rcases (show p = 0 ∨ p = 1 ∨ p = 2 by omega) with rfl | rfl | rfl <;> rfl
      have hs : shL (504 + 3 * 1 + p) = .inr (3, 64) := by
        rcases (show p = 0 ∨ p = 1 ∨ p = 2 by omega) with rfl | rfl | rfl <;> rfl
      rw [hd] at hat
      rw [ce_q hs (by decide)]
      refine at_q hat (fun k hk => ?_)
      show (if k < 64 then some (h + pB p + 3 + 7 + 2 * k) else none) = some (h + pN (rfL (504 + 3 * 1 + p) k))
      have hr : rfL (504 + 3 * 1 + p) k = 2 * (78 * p + k) := by
        rcases (show p = 0 ∨ p = 1 ∨ p = 2 by omega) with rfl | rfl | rfl <;> rfl
      have := hrefs k (by omega)
      rw [if_pos hk, if_pos hk] at this
      rw [if_pos hk, hr, this]
      congr 1
      omega
    · have hd : dG cs h u (pN (504 + 3 * 2 + p)) = cQ cs 3 12 (fun q => if q < 12 then some (h + pB p + 3 + 135 + 2 * q) else none) := by
        rcases (show p = 0 ∨ p = 1 ∨ p = 2 by omega) with rfl | rfl | rfl <;> rfl
      have hs : shL (504 + 3 * 2 + p) = .inr (3, 12) := by
        rcases (show p = 0 ∨ p = 1 ∨ p = 2 by omega) with rfl | rfl | rfl <;> rfl
      rw [hd] at hat
      rw [ce_q hs (by decide)]
      refine at_q hat (fun k hk => ?_)
      show (if k < 12 then some (h + pB p + 3 + 135 + 2 * k) else none) = some (h + pN (rfL (504 + 3 * 2 + p) k))
      have hr : rfL (504 + 3 * 2 + p) k = 2 * (78 * p + (64 + k)) := by
        rcases (show p = 0 ∨ p = 1 ∨ p = 2 by omega) with rfl | rfl | rfl <;> rfl
      have := hrefs (64 + k) (by omega)
      rw [if_neg (by omega), if_neg (by omega)] at this
      rw [if_pos hk, hr, this]
      congr 1
      omega
    · rcases (show p = 0 ∨ p = 1 ∨ p = 2 by omega) with rfl | rfl | rfl <;> exact hat
    · rcases (show p = 0 ∨ p = 1 ∨ p = 2 by omega) with rfl | rfl | rfl <;> exact hZ 0 19 rfl (by decide) (by decide) (by decide) (by decide) (by decide) (by decide) rfl
    · rcases (show p = 0 ∨ p = 1 ∨ p = 2 by omega) with rfl | rfl | rfl <;> exact hZ 1 12 rfl (by decide) (by decide) (by decide) (by decide) (by decide) (by decide) rfl
  rcases (show i = 522 ∨ i = 523 ∨ i = 524 ∨ i = 525 ∨ i = 526 ∨ i = 527 by omega) with rfl | rfl | rfl | rfl | rfl | rfl
  · exact hat
  · exact hat
  · have hd : dG cs h u (pN 524) = cQ cs 4 2 (fun q => if q < 2 then some (h + 184 + 162 * q) else none) := rfl
    rw [hd] at hat
    rw [ce_q (show shL 524 = .inr (4, 2) from rfl) (by decide)]
    refine at_q hat (fun k hk => ?_)
    rcases (show k = 0 ∨ k = 1 by omega) with rfl | rfl <;> rfl
  · exact hZ 2 2 rfl (by decide) (by decide) (by decide) (by decide) (by decide) (by decide) rfl
  · exact hZ 1 12 rfl (by decide) (by decide) (by decide) (by decide) (by decide) (by decide) rfl
  · have hd : dG cs h u (pN 527) = cQ cs 3 10 (fun q => if q < 10 then some (h + 508 + 2 * q) else none) := rfl
    rw [hd] at hat
    rw [ce_q (show shL 527 = .inr (3, 10) from rfl) (by decide)]
    refine at_q hat (fun k hk => ?_)
    show (if k < 10 then some (h + 508 + 2 * k) else none) = some (h + pN (2 * (238 + k)))
    rw [if_pos hk, pN_m (x := 2 * (238 + k)) (by omega) (by omega), if_neg (show ¬ 2 * (238 + k) < 476 by omega), if_pos (show 2 * (238 + k) < 496 by omega)]
    exact congrArg some (by omega)

