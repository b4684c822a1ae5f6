/-! image, back -/
theorem sp_resemble {t u m n r : Nat} {T : Tn} {S : St} {K : St → Prop} (htu : u ≠ t) (h : RT S u m n r T)
    (k : ∀ S1, RT S1 t m n r T → (RJ S u m n → RJ S1 t m n) → (∀ kd i, ¬ (10 ≤ kd ∧ kd ≤ 16 ∧ i = t) → S1.1 kd i = S.1 kd i) → S1.1 10 t 4 = 0 → S1.1 10 t 5 = 0 → K S1) : wpX5_resemble t u S K := by
  obtain ⟨⟨hm, hn, hr⟩, ⟨e0, e1, e2, e3⟩, fA, fC, fB⟩ := id h
  unfold wpX5_resemble
  have z0 : ((0 : Int32).toNatClampNeg) = 0 := by decide
  have z4 : ((4 : Int32).toNatClampNeg) = 4 := by decide
  have z16 : ((16 : Int32).toNatClampNeg) = 16 := by decide
  have hs : ¬ t = u := fun q => htu q.symm
  intro S1 q1 S2 q2 S3 q3
  have r3 : S3.1 10 u 3 = nI r := by rw [q3, q2, q1]; simp [sa_rd, htu, e3]
  rw [r3, nI_clamp (by omega)]
  refine ⟨hr, fun S5 q5 S6 q6 S7 q7 => ?_⟩
  rw [z0, z4, z16]
  refine ⟨⟨by decide, by decide, by decide, by decide, by decide⟩, fun S8 q8 => ?_⟩
  refine ⟨⟨by decide, by decide, by decide, by decide, by decide⟩, fun S9 q9 => ?_⟩
  refine ⟨⟨by decide, by decide, by decide, by decide, by decide⟩, fun S10 q10 => ?_⟩
  refine ⟨⟨by decide, by decide, by decide, by decide, by decide⟩, fun S11 q11 => ?_⟩
  refine ⟨⟨by decide, by decide, by decide, by decide, by decide⟩, fun S12 q12 => ?_⟩
  refine ⟨⟨by decide, by decide, by decide, by decide, by decide⟩, fun S13 q13 => ?_⟩
  have c10 : ∀ j, S13.1 10 t j = if j = 5 then 0 else if j = 4 then 0 else if j = 3 then nI r else if j = 2 then T 0 0 else if j = 1 then nI n else if j = 0 then nI m else S.1 10 t j := by
    intro j
    rw [q13, q12, q11, q10, q9, q8, q7, q6, q5, q3, q2, q1]
    simp [sa_rd, upd_rd, htu, e0, e1, e2]
  have c11 : ∀ j, j < 4 → S13.1 11 t j = S.1 11 u j := by
    intro j hj
    rw [q13, q12, q11, q10, q9, q8, q7, q6, q5, q3, q2, q1]
    simp [sa_rd, va_cpy, hj]
  have c12 : ∀ j, j < 4 → S13.1 12 t j = S.1 12 u j := by
    intro j hj
    rw [q13, q12, q11, q10, q9, q8, q7, q6, q5, q3, q2, q1]
    simp [sa_rd, va_cpy, hj]
  have c13 : ∀ j, j < 4 → S13.1 13 t j = S.1 13 u j := by
    intro j hj
    rw [q13, q12, q11, q10, q9, q8, q7, q6, q5, q3, q2, q1]
    simp [sa_rd, va_cpy, hj]
  have c14 : ∀ j, j < 4 → S13.1 14 t j = S.1 14 u j := by
    intro j hj
    rw [q13, q12, q11, q10, q9, q8, q7, q6, q5, q3, q2, q1]
    simp [sa_rd, va_cpy, hj]
  have c15 : ∀ j, j < 16 → S13.1 15 t j = S.1 15 u j := by
    intro j hj
    rw [q13, q12, q11, q10, q9, q8, q7, q6, q5, q3, q2, q1]
    simp [sa_rd, va_cpy, hj]
  have c16 : ∀ j, j < 16 → S13.1 16 t j = S.1 16 u j := by
    intro j hj
    rw [q13, q12, q11, q10, q9, q8, q7, q6, q5, q3, q2, q1]
    simp [sa_rd, va_cpy, hj]
  refine k S13 ⟨⟨hm, hn, hr⟩, ⟨?_, ?_, ?_, ?_⟩, fun x hx => ?_, fun y hy => ?_, fun x y hx hy => ?_⟩ (fun hJ => ⟨fun x a b => ?_, fun x y a b c => ?_⟩) (fun kd i w => ?_) ?_ ?_
  · simp [c10]
  · simp [c10]
  · simp [c10]
  · simp [c10]
  · rw [c11 x (by omega), c12 x (by omega)]; exact fA x hx
  · rw [c13 y (by omega), c14 y (by omega)]; exact fC y hy
  · rw [c15 _ (by omega), c16 _ (by omega)]; exact fB x y hx hy
  · rw [c12 x b]; exact hJ.1 x a b
  · rw [c15 _ (by omega), c16 _ (by omega)]; exact hJ.2 x y a b c
  · rw [q13, q12, q11, q10, q9, q8, q7, q6, q5, q3, q2, q1]
    simp only [sa_rd]
    rw [if_neg (by omega), if_neg (by omega), if_neg (by omega), if_neg (by omega), if_neg (by omega), if_neg (by omega), if_neg (by omega), if_neg (by omega), if_neg (by omega), if_neg (by omega), if_neg (by omega), if_neg (by omega)]
  · simp [c10]
  · simp [c10]
theorem mp_img1 {K : Int32 → St → Prop} : ∀ (d i : Nat) (S1 : St), i + d = 16 → (∀ S2, (∀ kd i2, kd ≠ 61 → kd ≠ 62 → S2.1 kd i2 = S1.1 kd i2) → (∀ j, S2.1 61 0 j = if i ≤ j ∧ j < 16 then S1.1 44 0 j else S1.1 61 0 j) → (∀ j, S2.1 62 0 j = if i ≤ j ∧ j < 16 then S1.1 45 0 j else S1.1 62 0 j) → ∃ k, wbX8_image_40 K k 0 S2) → wbX8_image_2 K (d + 1) (nI i) S1
  | 0, i, S1, e, h => by
    show if (16 : Int32) ≤ nI i then _ else _
    rw [if_pos (by rw [lit32 16]; exact nI_le (by omega) (by omega))]
    exact h S1 (fun _ _ _ _ => rfl) (fun j => by rw [if_neg (by omega)]) (fun j => by rw [if_neg (by omega)])
  | d + 1, i, S1, e, h => by
    show if (16 : Int32) ≤ nI i then _ else _
    have vi : vp_in (nI i) 16 := vp_in_nI (by omega) (by omega)
    rw [if_neg (by rw [lit32 16]; exact nI_ge (by omega) (by omega)), nI_clamp (by omega), nI_1]
    refine ⟨vi, vi, fun S3 e3 => ⟨vi, vi, fun S5 e5 => mp_img1 d (i + 1) S5 (by omega) (fun S2 a b c => h S2 (fun kd i2 w1 w2 => ?_) (fun j => ?_) (fun j => ?_))⟩⟩
    · rw [a kd i2 w1 w2, e5, e3, sa_ne (by omega), sa_ne (by omega)]
    · rw [b j, e5, e3]
      by_cases c1 : i + 1 ≤ j ∧ j < 16
      · rw [if_pos c1, if_pos (by omega)]; simp [sa_rd]
      · rw [if_neg c1]
        by_cases c2 : j = i
        · subst c2; rw [if_pos (by omega)]; simp [sa_rd, upd_rd]
        · rw [if_neg (by omega)]; simp [sa_rd, upd_rd, c2]
    · rw [c j, e5, e3]
      by_cases c1 : i + 1 ≤ j ∧ j < 16
      · rw [if_pos c1, if_pos (by omega)]; simp [sa_rd]
      · rw [if_neg c1]
        by_cases c2 : j = i
        · subst c2; rw [if_pos (by omega)]; simp [sa_rd, upd_rd]
        · rw [if_neg (by omega)]; simp [sa_rd, upd_rd, c2]
def pkS (g : Nat) : Nat := if g = 3 then 50 else 46 + g
theorem pkS_lt (g : Nat) (h : g < 4) : 46 ≤ pkS g ∧ pkS g ≤ 50 := by unfold pkS; split <;> omega
theorem mp_img2 {K : Int32 → St → Prop} : ∀ (d i : Nat) (S1 : St), i + d = 4 → (∀ S2, (∀ kd i2, kd ≠ 63 → kd ≠ 40 → S2.1 kd i2 = S1.1 kd i2) → (∀ j, j < 50 → S2.1 40 0 j = S1.1 40 0 j) → (S2.1 40 0 50 = S1.1 40 0 7 ∧ S2.1 40 0 51 = S1.1 40 0 8 ∧ S2.1 40 0 52 = S1.1 40 0 16 ∧ S2.1 40 0 53 = S1.1 40 0 4) → (∀ p, p < 16 → S2.1 63 0 p = if i ≤ p % 4 then S1.1 (pkS (p / 4)) 0 (p % 4) else S1.1 63 0 p) → K (S1.1 40 0 7) S2) → wbX8_image_40 K (d + 1) (nI i) S1
  | 0, i, S1, e, h => by
    show if (4 : Int32) ≤ nI i then _ else _
    rw [if_pos (by rw [lit32 4]; exact nI_le (by omega) (by omega))]
    intro S7 e7 S8 e8 S9 e9 S10 e10
    have c40 : ∀ j, S10.1 40 0 j = if j = 53 then S1.1 40 0 4 else if j = 52 then S1.1 40 0 16 else if j = 51 then S1.1 40 0 8 else if j = 50 then S1.1 40 0 7 else S1.1 40 0 j := by
      intro j
      rw [e10, e9, e8, e7]; simp [sa_rd, upd_rd]
    rw [show S10.1 40 0 7 = S1.1 40 0 7 by simp [c40]]
    refine h S10 (fun kd i2 w1 w2 => ?_) (fun j hj => ?_) ⟨by simp [c40], by simp [c40], by simp [c40], by simp [c40]⟩ (fun p hp => ?_)
    · rw [e10, e9, e8, e7, sa_ne (by omega), sa_ne (by omega), sa_ne (by omega), sa_ne (by omega)]
    · rw [c40, if_neg (by omega), if_neg (by omega), if_neg (by omega), if_neg (by omega)]
    · rw [if_neg (by omega), e10, e9, e8, e7, sa_ne (by omega), sa_ne (by omega), sa_ne (by omega), sa_ne (by omega)]
  | d + 1, i, S1, e, h => by
    show if (4 : Int32) ≤ nI i then _ else _
    have vi : vp_in (nI i) 4 := vp_in_nI (by omega) (by omega)
    rw [if_neg (by rw [lit32 4]; exact nI_ge (by omega) (by omega)), nI_1, lit32 4, lit32 8, lit32 12, nI_add, nI_add, nI_add, nI_clamp (n := i) (by omega), nI_clamp (by omega), nI_clamp (by omega), nI_clamp (by omega)]
    refine ⟨vi, vp_in_nI (by omega) (by omega), fun S3 e3 => ⟨vi, vp_in_nI (by omega) (by omega), fun S5 e5 => ⟨vi, vp_in_nI (by omega) (by omega), fun S7 e7 => ⟨vi, vp_in_nI (by omega) (by omega), fun S9 e9 => ?_⟩⟩⟩⟩
    have W : ∀ kd i2, kd ≠ 63 → S9.1 kd i2 = S1.1 kd i2 := fun kd i2 w => by rw [e9, e7, e5, e3, sa_ne (by omega), sa_ne (by omega), sa_ne (by omega), sa_ne (by omega)]
    refine mp_img2 d (i + 1) S9 (by omega) (fun S2 a b c p2 => ?_)
    rw [W 40 0 (by omega)] at c ⊢
    refine h S2 (fun kd i2 w1 w2 => by rw [a kd i2 w1 w2, W kd i2 w1]) (fun j hj => by rw [b j hj, W 40 0 (by omega)]) c (fun p hp => ?_)
    rw [p2 p hp]
    by_cases c1 : i + 1 ≤ p % 4
    · rw [if_pos c1, if_pos (by omega), W _ 0 (by have := pkS_lt (p / 4) (by omega); omega)]
    · rw [if_neg c1]
      by_cases c2 : i ≤ p % 4
      · rw [if_pos c2]
        have hi : p % 4 = i := by omega
        rcases (show p / 4 = 0 ∨ p / 4 = 1 ∨ p / 4 = 2 ∨ p / 4 = 3 by omega) with g | g | g | g
        · obtain rfl : p = i := by omega
          rw [hi, g, e9, e7, e5, e3]; simp [sa_rd, upd_rd, pkS]
        · obtain rfl : p = 4 + i := by omega
          rw [hi, g, e9, e7, e5, e3]; simp [sa_rd, upd_rd, pkS]
        · obtain rfl : p = 8 + i := by omega
          rw [hi, g, e9, e7, e5, e3]; simp [sa_rd, upd_rd, pkS]
        · obtain rfl : p = 12 + i := by omega
          rw [hi, g, e9, e7, e5, e3]; simp [sa_rd, upd_rd, pkS]
      · rw [if_neg c2, e9, su_nj (by omega), e7, su_nj (by omega), e5, su_nj (by omega), e3, su_nj (by omega)]
theorem mp_bck1 {K : Int32 → St → Prop} : ∀ (d i : Nat) (S1 : St), i + d = 16 → (∀ S2, (∀ kd i2, kd ≠ 44 → kd ≠ 45 → S2.1 kd i2 = S1.1 kd i2) → (∀ j, S2.1 44 0 j = if i ≤ j ∧ j < 16 then S1.1 61 0 j else S1.1 44 0 j) → (∀ j, S2.1 45 0 j = if i ≤ j ∧ j < 16 then S1.1 62 0 j else S1.1 45 0 j) → ∃ k, wbX8_back_51 K k 0 S2) → wbX8_back_13 K (d + 1) (nI i) S1
  | 0, i, S1, e, h => by
    show if (16 : Int32) ≤ nI i then _ else _
    rw [if_pos (by rw [lit32 16]; exact nI_le (by omega) (by omega))]
    exact h S1 (fun _ _ _ _ => rfl) (fun j => by rw [if_neg (by omega)]) (fun j => by rw [if_neg (by omega)])
  | d + 1, i, S1, e, h => by
    show if (16 : Int32) ≤ nI i then _ else _
    have vi : vp_in (nI i) 16 := vp_in_nI (by omega) (by omega)
    rw [if_neg (by rw [lit32 16]; exact nI_ge (by omega) (by omega)), nI_clamp (by omega), nI_1]
    refine ⟨vi, vi, fun S3 e3 => ⟨vi, vi, fun S5 e5 => mp_bck1 d (i + 1) S5 (by omega) (fun S2 a b c => h S2 (fun kd i2 w1 w2 => ?_) (fun j => ?_) (fun j => ?_))⟩⟩
    · rw [a kd i2 w1 w2, e5, e3, sa_ne (by omega), sa_ne (by omega)]
    · rw [b j, e5, e3]
      by_cases c1 : i + 1 ≤ j ∧ j < 16
      · rw [if_pos c1, if_pos (by omega)]; simp [sa_rd]
      · rw [if_neg c1]
        by_cases c2 : j = i
        · subst c2; rw [if_pos (by omega)]; simp [sa_rd, upd_rd]
        · rw [if_neg (by omega)]; simp [sa_rd, upd_rd, c2]
    · rw [c j, e5, e3]
      by_cases c1 : i + 1 ≤ j ∧ j < 16
      · rw [if_pos c1, if_pos (by omega)]; simp [sa_rd]
      · rw [if_neg c1]
        by_cases c2 : j = i
        · subst c2; rw [if_pos (by omega)]; simp [sa_rd, upd_rd]
        · rw [if_neg (by omega)]; simp [sa_rd, upd_rd, c2]
theorem mp_bck2 {K : Int32 → St → Prop} : ∀ (d i : Nat) (S1 : St), i + d = 4 → (∀ S2, (∀ kd i2, ¬ (46 ≤ kd ∧ kd ≤ 48) → kd ≠ 50 → kd ≠ 40 → S2.1 kd i2 = S1.1 kd i2) → (∀ j, j = 3 ∨ j = 6 ∨ 50 ≤ j → S2.1 40 0 j = S1.1 40 0 j) → (S2.1 40 0 7 = S1.1 40 0 50 ∧ S2.1 40 0 8 = S1.1 40 0 51 ∧ S2.1 40 0 16 = S1.1 40 0 52 ∧ S2.1 40 0 4 = S1.1 40 0 53) → (∀ x, x < 4 → S2.1 46 0 x = (if i ≤ x then S1.1 63 0 x else S1.1 46 0 x) ∧ S2.1 47 0 x = (if i ≤ x then S1.1 63 0 (4 + x) else S1.1 47 0 x) ∧ S2.1 48 0 x = (if i ≤ x then S1.1 63 0 (8 + x) else S1.1 48 0 x) ∧ S2.1 50 0 x = (if i ≤ x then S1.1 63 0 (12 + x) else S1.1 50 0 x)) → K (S1.1 40 0 50) S2) → wbX8_back_51 K (d + 1) (nI i) S1
  | 0, i, S1, e, h => by
    show if (4 : Int32) ≤ nI i then _ else _
    rw [if_pos (by rw [lit32 4]; exact nI_le (by omega) (by omega))]
    intro S7 e7 S8 e8 S9 e9 S10 e10
    have c40 : ∀ j, S10.1 40 0 j = if j = 4 then S1.1 40 0 53 else if j = 16 then S1.1 40 0 52 else if j = 8 then S1.1 40 0 51 else if j = 7 then S1.1 40 0 50 else S1.1 40 0 j := by
      intro j
      rw [e10, e9, e8, e7]; simp [sa_rd, upd_rd]
    rw [show S10.1 40 0 7 = S1.1 40 0 50 by simp [c40]]
    refine h S10 (fun kd i2 w1 w2 w3 => ?_) (fun j hj => ?_) ⟨by simp [c40], by simp [c40], by simp [c40], by simp [c40]⟩ (fun x hx => ?_)
    · rw [e10, e9, e8, e7, sa_ne (by omega), sa_ne (by omega), sa_ne (by omega), sa_ne (by omega)]
    · rw [c40, if_neg (by omega), if_neg (by omega), if_neg (by omega), if_neg (by omega)]
    · rw [if_neg (by omega), if_neg (by omega), if_neg (by omega), if_neg (by omega), e10, e9, e8, e7]
      simp [sa_rd]
  | d + 1, i, S1, e, h => by
    show if (4 : Int32) ≤ nI i then _ else _
    have vi : vp_in (nI i) 4 := vp_in_nI (by omega) (by omega)
    rw [if_neg (by rw [lit32 4]; exact nI_ge (by omega) (by omega)), nI_1, lit32 4, lit32 8, lit32 12, nI_add, nI_add, nI_add, nI_clamp (n := i) (by omega), nI_clamp (by omega), nI_clamp (by omega), nI_clamp (by omega)]
    refine ⟨vp_in_nI (by omega) (by omega), vi, fun S3 e3 => ⟨vp_in_nI (by omega) (by omega), vi, fun S5 e5 => ⟨vp_in_nI (by omega) (by omega), vi, fun S7 e7 => ⟨vp_in_nI (by omega) (by omega), vi, fun S9 e9 => ?_⟩⟩⟩⟩
    have W : ∀ kd i2, ¬ (46 ≤ kd ∧ kd ≤ 48) → kd ≠ 50 → S9.1 kd i2 = S1.1 kd i2 := fun kd i2 w w2 => by rw [e9, e7, e5, e3, sa_ne (by omega), sa_ne (by omega), sa_ne (by omega), sa_ne (by omega)]
    refine mp_bck2 d (i + 1) S9 (by omega) (fun S2 a b c p2 => ?_)
    rw [W 40 0 (by omega) (by omega)] at c ⊢
    refine h S2 (fun kd i2 w1 w2 w3 => by rw [a kd i2 w1 w2 w3, W kd i2 w1 w2]) (fun j hj => by rw [b j hj, W 40 0 (by omega) (by omega)]) c (fun x hx => ?_)
    obtain ⟨p3, p4, p5, p6⟩ := p2 x hx
    rw [p3, p4, p5, p6]
    by_cases c1 : i + 1 ≤ x
    · simp only [if_pos c1, if_pos (show i ≤ x by omega)]
      rw [W 63 0 (by omega) (by omega)]
      exact ⟨rfl, rfl, rfl, rfl⟩
    · simp only [if_neg c1]
      by_cases c2 : x = i
      · subst c2
        simp only [if_pos (Nat.le_refl x)]
        rw [e9, e7, e5, e3]
        simp [sa_rd, upd_rd]
      · simp only [if_neg (show ¬ i ≤ x by omega)]
        rw [e9, e7, e5, e3]
        simp [sa_rd, upd_rd, c2]
section
variable {S : St} {F : Int32 → St → Prop} {K : St → Prop} {a b c d e : Int32}
theorem call_image (R : Rel S) (hK : ∀ S1, Rel S1 → K S1) (hF : Hm F wpX8_image K) : wpX7_image S F := by
  obtain ⟨m, n, r, T, k, V, R⟩ := R
  obtain ⟨hT, hJ, hM, hV, h2, hr, ⟨z, hz, z1, z2, z3⟩, h4, h5⟩ := id R
  obtain ⟨⟨g0, g1, g2, g3⟩, gA, gC, gB⟩ := id hM
  have hm := hT.1.1
  have hn := hT.1.2.1
  unfold wpX7_image
  refine sp_resemble (by omega) hT (fun S1 t1 j1 W1 _ _ S2 e2 => ?_)
  have W2 : ∀ kd i, ¬ (10 ≤ kd ∧ kd ≤ 16 ∧ i = 2) → kd ≠ 0 → S2.1 kd i = S.1 kd i := fun kd i w w2 => by rw [e2, sa_ne (by omega), W1 kd i w]
  rw [W2 10 0 (by omega) (by omega), hT.2.1.1]
  refine hF _ _ ⟨17, mp_img1 16 0 S2 (by omega) (fun S3 a3 b3 c3 => ⟨5, mp_img2 4 0 S3 (by omega) (fun S4 a4 b4 c4 d4 => ?_)⟩)⟩
  rw [a3 40 0 (by omega) (by omega), W2 40 0 (by omega) (by omega), g0]
  refine same (hK _ ⟨m, n, r, T, k, V, ?_⟩)
  have W : ∀ kd i, ¬ (10 ≤ kd ∧ kd ≤ 16 ∧ i = 2) → ¬ (61 ≤ kd ∧ kd ≤ 63) → kd ≠ 0 → kd ≠ 40 → S4.1 kd i = S.1 kd i := fun kd i w1 w2 w3 w4 => by rw [a4 kd i (by omega) w4, a3 kd i (by omega) (by omega), W2 kd i w1 w3]
  have W40 : ∀ j, j < 50 → S4.1 40 0 j = S.1 40 0 j := fun j hj => by rw [b4 j hj, a3 40 0 (by omega) (by omega), W2 40 0 (by omega) (by omega)]
  have W0 : ∀ j, j ≠ 6 → S4.1 0 0 j = S.1 0 0 j := fun j hj => by rw [a4 0 0 (by omega) (by omega), a3 0 0 (by omega) (by omega), e2, su_nj hj, W1 0 0 (by omega)]
  have T2 : ∀ kd, 10 ≤ kd → kd ≤ 16 → S4.1 kd 2 = S1.1 kd 2 := fun kd w1 w2 => by rw [a4 kd 2 (by omega) (by omega), a3 kd 2 (by omega) (by omega), e2, sa_ne (by omega)]
  refine ⟨(RT_eq (fun kd a b => W kd 0 (by omega) (by omega) (by omega) (by omega))).mpr hT, (RJ_eq (fun kd a b => W kd 0 (by omega) (by omega) (by omega) (by omega))).mpr hJ, (RM_eq (fun kd a b => W kd 0 (by omega) (by omega) (by omega) (by omega)) (fun j hj => W40 j (by omega))).mpr hM, hV, R2_f h2 (W0 2 (by omega)) (W40 3 (by omega)) (fun q => W 7 q (by omega) (by omega) (by omega) (by omega)) (fun q => W 8 q (by omega) (by omega) (by omega) (by omega)) (W 41 0 (by omega) (by omega) (by omega) (by omega)) (W 42 0 (by omega) (by omega) (by omega) (by omega)), hr, ⟨z, hz, ?_, ?_, fun j hj => ?_⟩, Or.inr ⟨?_, m, n, r, T, (RT_eq T2).mpr t1, (RJ_eq T2).mpr (j1 hJ), ?_, hV, hr, Nat.le_refl n, fun _ _ => rfl⟩, R5_f h5 (fun q => W 30 q (by omega) (by omega) (by omega) (by omega)) (fun q => W 31 q (by omega) (by omega) (by omega) (by omega)) (fun kd hk => W kd 0 (by omega) (by omega) (by omega) (by omega))⟩
  · rw [W 1 0 (by omega) (by omega) (by omega) (by omega)]; exact z1
  · rw [W40 6 (by omega)]; exact z2
  · rw [W 4 0 (by omega) (by omega) (by omega) (by omega), W 43 0 (by omega) (by omega) (by omega) (by omega)]; exact z3 j hj
  · rw [a4 0 0 (by omega) (by omega), a3 0 0 (by omega) (by omega), e2, su_eq]
  · obtain ⟨k1, k2, k3, k4⟩ := c4
    have V3 : ∀ kd, 44 ≤ kd → kd ≤ 50 → S3.1 kd 0 = S.1 kd 0 := fun kd w1 w2 => by rw [a3 kd 0 (by omega) (by omega), W2 kd 0 (by omega) (by omega)]
    have V40 : S3.1 40 0 = S.1 40 0 := by rw [a3 40 0 (by omega) (by omega), W2 40 0 (by omega) (by omega)]
    refine ⟨⟨by rw [k1, V40, g0], by rw [k2, V40, g1], by rw [k3, V40, g2], by rw [k4, V40, g3]⟩, fun x hx => ⟨?_, ?_⟩, fun y hy => ⟨?_, ?_⟩, fun x y hx hy => ⟨?_, ?_⟩⟩
    · rw [d4 x (by omega), if_pos (by omega), show x / 4 = 0 by omega, show x % 4 = x by omega]
      show S3.1 46 0 x = _
      rw [V3 46 (by omega) (by omega)]; exact (gA x hx).1
    · rw [d4 (4 + x) (by omega), if_pos (by omega), show (4 + x) / 4 = 1 by omega, show (4 + x) % 4 = x by omega]
      show S3.1 47 0 x = _
      rw [V3 47 (by omega) (by omega)]; exact (gA x hx).2
    · rw [d4 (12 + y) (by omega), if_pos (by omega), show (12 + y) / 4 = 3 by omega, show (12 + y) % 4 = y by omega]
      show S3.1 50 0 y = _
      rw [V3 50 (by omega) (by omega)]; exact (gC y hy).2.1
    · rw [d4 (8 + y) (by omega), if_pos (by omega), show (8 + y) / 4 = 2 by omega, show (8 + y) % 4 = y by omega]
      show S3.1 48 0 y = _
      rw [V3 48 (by omega) (by omega)]; exact (gC y hy).2.2
    · rw [a4 61 0 (by omega) (by omega), b3, if_pos (by omega), W2 44 0 (by omega) (by omega)]; exact (gB x y hx hy).1
    · rw [a4 62 0 (by omega) (by omega), c3, if_pos (by omega), W2 45 0 (by omega) (by omega)]; exact (gB x y hx hy).2
theorem call_back (R : Rel S) (hK : ∀ S1, Rel S1 → K S1) (hF : Hm F wpX8_back K) : wpX7_back S F := by
  obtain ⟨m, n, r, T, k, V, R⟩ := R
  have hR : Rel S := ⟨m, n, r, T, k, V, R⟩
  obtain ⟨hT, hJ, hM, hV, h2, hr, h3, h4, h5⟩ := id R
  obtain ⟨⟨g0, g1, g2, g3⟩, gA, gC, gB⟩ := id hM
  unfold wpX7_back
  rcases id h4 with ⟨w1, w2⟩ | ⟨w1, m2, n2, r2, T2, t2, j2, k2, v2, hr2, hn2, hT2⟩
  · rw [w1, if_pos rfl]
    refine hF _ _ ?_
    unfold wpX8_back
    rw [w2, if_pos rfl]
    exact same (hK _ hR)
  · rw [w1, if_neg nfi]
    have hm := t2.1.1
    have hn := t2.1.2.1
    refine sp_resemble (by omega) t2 (fun S1 t1 j1 W1 _ _ => ?_)
    rw [t1.2.1.1]
    refine hF _ _ ?_
    unfold wpX8_back
    obtain ⟨⟨q0, q1, q2, q3⟩, qA, qC, qB⟩ := k2
    rw [W1 40 0 (by omega), q0, if_neg (nI_nm1 (by omega))]
    refine ⟨17, mp_bck1 16 0 S1 (by omega) (fun S3 a3 b3 c3 => ⟨5, mp_bck2 4 0 S3 (by omega) (fun S4 a4 b4 c4 d4 => ?_)⟩)⟩
    have V3 : ∀ kd, 40 ≤ kd → kd ≠ 44 → kd ≠ 45 → S3.1 kd 0 = S.1 kd 0 := fun kd w1 w2 w3 => by rw [a3 kd 0 (by omega) (by omega), W1 kd 0 (by omega)]
    rw [V3 40 (by omega) (by omega) (by omega), q0]
    have W : ∀ kd i, ¬ (10 ≤ kd ∧ kd ≤ 16 ∧ i = 0) → ¬ (44 ≤ kd ∧ kd ≤ 50) → kd ≠ 40 → S4.1 kd i = S.1 kd i := fun kd i w1 w2 w3 => by rw [a4 kd i (by omega) (by omega) w3, a3 kd i (by omega) (by omega), W1 kd i w1]
    have f4 : ft S S4 := ⟨fun kd i w => W kd i (by unfold ct at w; omega) (by unfold ct at w; omega) (by unfold ct at w; omega), fun j hj => by rw [b4 j hj, V3 40 (by omega) (by omega) (by omega)]⟩
    have T0 : ∀ kd, 10 ≤ kd → kd ≤ 16 → S4.1 kd 0 = S1.1 kd 0 := fun kd w1 w2 => by rw [a4 kd 0 (by omega) (by omega) (by omega), a3 kd 0 (by omega) (by omega)]
    refine same (hK _ ⟨m2, n2, r2, T2, k, V, (RT_eq T0).mpr t1, (RJ_eq T0).mpr (j1 j2), ?_, v2, R2_fr h2 f4, hr2, R3_fr h3 f4, ?_, R5_fr h5 f4⟩)
    · obtain ⟨y1, y2, y3, y4⟩ := c4
      rw [V3 40 (by omega) (by omega) (by omega)] at y1 y2 y3 y4
      refine ⟨⟨y1.trans q0, y2.trans q1, y3.trans q2, y4.trans q3⟩, fun x hx => ?_, fun y hy => ?_, fun x y hx hy => ?_⟩
      · obtain ⟨p3, p4, p5, p6⟩ := d4 x (by omega)
        rw [p3, p4, if_pos (by omega), if_pos (by omega), V3 63 (by omega) (by omega) (by omega)]
        exact qA x hx
      · obtain ⟨p3, p4, p5, p6⟩ := d4 y (by omega)
        rw [p5, p6, if_pos (by omega), if_pos (by omega), V3 63 (by omega) (by omega) (by omega), a4 49 0 (by omega) (by omega) (by omega), V3 49 (by omega) (by omega) (by omega), (gC y (by omega)).1]
        exact ⟨(hT2 y hy).symm, qC y hy⟩
      · rw [a4 44 0 (by omega) (by omega) (by omega), a4 45 0 (by omega) (by omega) (by omega), b3, c3, if_pos (by omega), if_pos (by omega), W1 61 0 (by omega), W1 62 0 (by omega)]
        exact qB x y hx hy
    · have := R4_fr (n1 := n) (T1 := T) h4 f4 (Nat.le_refl n) (fun _ _ => rfl)
      have g : ∀ kd, 10 ≤ kd → kd ≤ 16 → S4.1 kd 2 = S.1 kd 2 := fun kd a b => W kd 2 (by omega) (by omega) (by omega)
      refine Or.inr ⟨by rw [W 0 0 (by omega) (by omega) (by omega)]; exact w1, m2, n2, r2, T2, (RT_eq g).mpr t2, (RJ_eq g).mpr j2, ?_, v2, hr2, Nat.le_refl n2, fun _ _ => rfl⟩
      unfold RK
      rw [f4.2 50 (by omega), f4.2 51 (by omega), f4.2 52 (by omega), f4.2 53 (by omega), W 61 0 (by omega) (by omega) (by omega), W 62 0 (by omega) (by omega) (by omega), W 63 0 (by omega) (by omega) (by omega)]
      exact ⟨⟨q0, q1, q2, q3⟩, qA, qC, qB⟩
end
