section
/-! the beginning: both constructors; the law's loop; the claim -/
def cs0 : List (List Int32) := [[1], [-1, -2, -43, 50, -45], [30, -1, -60]]
def by56 : List Int32 := [116, 97, 107, 101, 115, 32, 49, 32, 59, 32, 119, 111, 114, 116, 104, 32, 108, 105, 107, 101, 32, 43, 32, 104, 101, 114, 115, 32, 45, 32, 53, 48, 32, 59, 32, 119, 97, 110, 116, 115, 32, 51, 48, 32, 60, 32, 108, 105, 107, 101, 32, 59, 32, 32, 32, 32]
theorem rd52 : rdP 52 (fun j => (bytJS.getD 12 []).getD j 0) = .inr cs0 := by decide +kernel
theorem rd56 : rdP 56 (fun j => by56.getD j 0) = .inr cs0 := by decide +kernel
theorem by_ok : ∀ j, j < 56 → (by56.getD j 0).toNatClampNeg ≤ 255 ∧ by56.getD j 0 = nI (by56.getD j 0).toNatClampNeg := by decide +kernel
theorem js12 : (bytJS.getD 12 []).length = 52 := by decide +kernel
theorem init7_l {K : St → Prop} (k : ∀ S1, CE (S1.1 7 0) (S1.1 8 0) cs0 → S1.1 1 0 2 = 0 → (∀ kd i, kd = 0 ∨ 9 ≤ kd → S1.1 kd i = S0.1 kd i) → K S1) : ∀ (d i : Nat) (S : St), i + d = 52 → S.1 1 0 2 = nI i → (∀ j, j < i → S.1 4 0 j = (bytJS.getD 12 []).getD j 0) → (∀ kd i, kd = 0 ∨ 9 ≤ kd → S.1 kd i = S0.1 kd i) → wbX7_init K (d + 1) (nI i) S
  | 0, i, S, e, h2, h4, f => by
    obtain rfl : i = 52 := by omega
    unfold wbX7_init
    refine sp_len (by omega) ?_
    rw [js12, if_pos (nI_le (Nat.le_refl 52) (by omega))]
    refine sp_read (z := 52) (b := fun j => (bytJS.getD 12 []).getD j 0) ⟨⟨by omega, h2⟩, h4⟩ ?_
    rw [rd52]
    intro S2 ce f2
    refine sp_adopt ce (fun S3 ce3 f3 => fun S4 e4 => ?_)
    have m7 : (mix S4).1 7 0 = S3.1 7 0 := by rw [e4]; rfl
    have m8 : (mix S4).1 8 0 = S3.1 8 0 := by rw [e4]; rfl
    refine k _ (by rw [m7, m8]; exact ce3) (by rw [e4]; rfl) (fun kd i w => ?_)
    show (if kd = 0 ∨ (10 ≤ kd ∧ kd ≤ 17) then S0.1 kd i else S4.1 kd i) = _
    by_cases q : kd = 0 ∨ (10 ≤ kd ∧ kd ≤ 17)
    · rw [if_pos q]
    · rw [if_neg q, e4, sa_ne (by omega), f3 kd i (by omega), f2.1 kd i (by omega) (by omega) (by omega), f kd i w]
  | d + 1, i, S, e, h2, h4, f => by
    unfold wbX7_init
    refine sp_len (by omega) ?_
    rw [js12, if_neg (nI_ge (by omega) (by omega))]
    refine sp_chr (by omega) (by rw [js12]; omega) ?_
    unfold wpX2_append
    rw [h2, if_pos (show nI i < (160 : Int32) from nI_lt (b := 160) (by omega) (by omega)), nI_clamp (by omega), nI_1]
    refine ⟨vp_in_nI (by omega) (by omega), fun S2 e2 => fun S3 e3 => ?_⟩
    have b2 : S2.1 1 0 2 = nI i := by rw [e2, sa_ne (by omega)]; exact h2
    rw [b2, nI_1] at e3
    refine init7_l k d (i + 1) S3 (by omega) (by rw [e3, su_eq]) (fun j hj => ?_) (fun kd i w => by rw [e3, sa_ne (by omega), e2, sa_ne (by omega), f kd i w])
    rw [e3, sa_ne (by omega), e2, sa_eq, upd_rd]
    by_cases q : j = i
    · rw [if_pos q, q]
    · rw [if_neg q]; exact h4 j (by omega)
theorem init7 {K : St → Prop} (k : ∀ S1, CE (S1.1 7 0) (S1.1 8 0) cs0 → S1.1 1 0 2 = 0 → (∀ kd i, kd = 0 ∨ 9 ≤ kd → S1.1 kd i = S0.1 kd i) → K S1) : wpX7_init K := ⟨52 + 1, init7_l k 52 0 S0 (by omega) rfl (fun j hj => absurd hj (Nat.not_lt_zero j)) (fun _ _ _ => rfl)⟩
/-- eight bytes -/
theorem mp_spell {x : Nat} {a b c d e f g h : Int32} {S : St} {K : St → Prop} (hx : x + 8 ≤ 960) (hB : ∀ i, i < 8 → [a, b, c, d, e, f, g, h].getD i 0 = by56.getD (x + i) 0) (hS : ∀ j, j < x → S.1 41 0 j = by56.getD j 0) (k : ∀ S1, (∀ kd i, ¬ (kd = 41 ∧ i = 0) → S1.1 kd i = S.1 kd i) → (∀ j, j < x + 8 → S1.1 41 0 j = by56.getD j 0) → K S1) : wpX8_spell (nI x) a b c d e f g h S K := by
  unfold wpX8_spell
  have n : ∀ i, i < 8 → vp_in (nI (x + i)) 960 ∧ (nI (x + i)).toNatClampNeg = x + i := fun i hi => ⟨vp_in_nI (by omega) (by omega), nI_clamp (by omega)⟩
  rw [show nI x + 1 = nI (x + 1) from nI_add x 1, show nI x + 2 = nI (x + 2) from nI_add x 2, show nI x + 3 = nI (x + 3) from nI_add x 3, show nI x + 4 = nI (x + 4) from nI_add x 4, show nI x + 5 = nI (x + 5) from nI_add x 5, show nI x + 6 = nI (x + 6) from nI_add x 6, show nI x + 7 = nI (x + 7) from nI_add x 7, nI_clamp (by omega), (n 1 (by omega)).2, (n 2 (by omega)).2, (n 3 (by omega)).2, (n 4 (by omega)).2, (n 5 (by omega)).2, (n 6 (by omega)).2, (n 7 (by omega)).2]
  refine ⟨vp_in_nI (by omega) (by omega), fun S1 e1 => ⟨(n 1 (by omega)).1, fun S2 e2 => ⟨(n 2 (by omega)).1, fun S3 e3 => ⟨(n 3 (by omega)).1, fun S4 e4 => ⟨(n 4 (by omega)).1, fun S5 e5 => ⟨(n 5 (by omega)).1, fun S6 e6 => ⟨(n 6 (by omega)).1, fun S7 e7 => ⟨(n 7 (by omega)).1, fun S8 e8 => ?_⟩⟩⟩⟩⟩⟩⟩⟩
  refine k S8 (fun kd i w => by rw [e8, sa_ne w, e7, sa_ne w, e6, sa_ne w, e5, sa_ne w, e4, sa_ne w, e3, sa_ne w, e2, sa_ne w, e1, sa_ne w]) (fun j hj => ?_)
  have b0 := hB 0 (by omega)
  have b1 := hB 1 (by omega)
  have b2 := hB 2 (by omega)
  have b3 := hB 3 (by omega)
  have b4 := hB 4 (by omega)
  have b5 := hB 5 (by omega)
  have b6 := hB 6 (by omega)
  have b7 := hB 7 (by omega)
  by_cases q7 : j = x + 7
  · rw [e8, q7, su_eq]; exact b7
  rw [e8, su_nj q7]
  by_cases q6 : j = x + 6
  · rw [e7, q6, su_eq]; exact b6
  rw [e7, su_nj q6]
  by_cases q5 : j = x + 5
  · rw [e6, q5, su_eq]; exact b5
  rw [e6, su_nj q5]
  by_cases q4 : j = x + 4
  · rw [e5, q4, su_eq]; exact b4
  rw [e5, su_nj q4]
  by_cases q3 : j = x + 3
  · rw [e4, q3, su_eq]; exact b3
  rw [e4, su_nj q3]
  by_cases q2 : j = x + 2
  · rw [e3, q2, su_eq]; exact b2
  rw [e3, su_nj q2]
  by_cases q1 : j = x + 1
  · rw [e2, q1, su_eq]; exact b1
  rw [e2, su_nj q1]
  by_cases q0 : j = x
  · rw [e1, q0, su_eq]; exact b0
  rw [e1, su_nj q0]
  exact hS j (by omega)
theorem init8 {K : St → Prop} (k : ∀ S2, RuM S2 0 (ruF cs0) → S2.1 40 0 3 = 1 → (∀ j, j ≠ 3 → S2.1 40 0 j = S0.1 40 0 j) → (∀ kd i, 43 ≤ kd → S2.1 kd i = S0.1 kd i) → K S2) : wpX8_init K := by
  unfold wpX8_init
  refine mp_spell (x := 0) (by omega) (by decide) (fun j hj => absurd hj (Nat.not_lt_zero j)) (fun S1 f1 h1 => ?_)
  refine mp_spell (x := 8) (by omega) (by decide) h1 (fun S2 f2 h2 => ?_)
  refine mp_spell (x := 16) (by omega) (by decide) h2 (fun S3 f3 h3 => ?_)
  refine mp_spell (x := 24) (by omega) (by decide) h3 (fun S4 f4 h4 => ?_)
  refine mp_spell (x := 32) (by omega) (by decide) h4 (fun S5 f5 h5 => ?_)
  refine mp_spell (x := 40) (by omega) (by decide) h5 (fun S6 f6 h6 => ?_)
  refine mp_spell (x := 48) (by omega) (by decide) h6 (fun S7 f7 h7 => ⟨pk_in 0 6 (by omega), fun S8 e8 => fun S9 e9 => ?_⟩)
  have F7 : ∀ kd i, ¬ (kd = 41 ∧ i = 0) → S7.1 kd i = S0.1 kd i := fun kd i w => by rw [f7 kd i w, f6 kd i w, f5 kd i w, f4 kd i w, f3 kd i w, f2 kd i w, f1 kd i w]
  rw [show (0 : Int32).toNatClampNeg = 0 by decide] at e8
  refine k S9 (RuM_of (z := 56) (r := 0) (b := fun j => by56.getD j 0) (by omega) (by omega) (fun j hj => ⟨?_, _, (by_ok j hj).1, (by_ok j hj).2⟩) ?_ rd56) (by rw [e9, su_eq]) (fun j hj => by rw [e9, su_nj hj, e8, sa_ne (by omega), F7 40 0 (by omega)]) (fun kd i w => by rw [e9, sa_ne (by omega), e8, sa_ne (by omega), F7 kd i (by omega)])
  · rw [e9, sa_ne (by omega), e8, sa_ne (by omega), Nat.mul_zero, Nat.zero_add]; exact h7 j (by omega)
  · rw [e9, sa_ne (by omega), e8, su_eq]; rfl
theorem Rel_0 {S1 S2 : St} (c7 : CE (S1.1 7 0) (S1.1 8 0) cs0) (c2 : S1.1 1 0 2 = 0) (cf : ∀ kd i, kd = 0 ∨ 9 ≤ kd → S1.1 kd i = S0.1 kd i) (u : RuM S2 0 (ruF cs0)) (m3 : S2.1 40 0 3 = 1) (mj : ∀ j, j ≠ 3 → S2.1 40 0 j = S0.1 40 0 j) (mf : ∀ kd i, 43 ≤ kd → S2.1 kd i = S0.1 kd i) : Rel (joinS S1 S2) := by
  have jc : ∀ kd i, kd < 40 → (joinS S1 S2).1 kd i = S1.1 kd i := fun kd i w => if_pos w
  have jm : ∀ kd i, 40 ≤ kd → (joinS S1 S2).1 kd i = S2.1 kd i := fun kd i w => if_neg (by omega)
  have A : ∀ kd i, (kd = 0 ∨ 9 ≤ kd) → kd < 40 → (joinS S1 S2).1 kd i = S0.1 kd i := fun kd i w w2 => (jc kd i w2).trans (cf kd i w)
  have M : ∀ j, j ≠ 3 → (joinS S1 S2).1 40 0 j = S0.1 40 0 j := fun j w => by rw [jm 40 0 (by omega)]; exact mj j w
  have N : ∀ kd i, 43 ≤ kd → (joinS S1 S2).1 kd i = S0.1 kd i := fun kd i w => by rw [jm kd i (by omega)]; exact mf kd i w
  refine ⟨0, 0, 0, fun _ _ => 0, 1, fun _ => ruF cs0, ⟨⟨by omega, by omega, by omega⟩, ⟨?_, ?_, ?_, ?_⟩, fun x hx => absurd hx (Nat.not_lt_zero x), fun y hy => absurd hy (Nat.not_lt_zero y), fun x y hx => absurd hx (Nat.not_lt_zero x)⟩, ⟨fun x _ _ => ?_, fun x y _ _ _ => ⟨?_, ?_⟩⟩, ⟨⟨?_, ?_, ?_, ?_⟩, fun x hx => absurd hx (Nat.not_lt_zero x), fun y hy => absurd hy (Nat.not_lt_zero y), fun x y hx => absurd hx (Nat.not_lt_zero x)⟩, ⟨⟨0, by omega, rfl⟩, fun x hx => absurd hx (Nat.not_lt_zero x), fun y hy => absurd hy (Nat.not_lt_zero y), fun y hy => absurd hy (Nat.not_lt_zero y), fun x y hx => absurd hx (Nat.not_lt_zero x), fun x y hx => absurd hx (Nat.not_lt_zero x), fun x hx => absurd hx (Nat.not_lt_zero x), fun x x2 hx => absurd hx (Nat.not_lt_zero x)⟩, ⟨⟨by omega, by omega⟩, ⟨?_, ?_⟩, fun q hq => ?_⟩, by omega, ⟨0, by omega, ?_, ?_, fun j hj => absurd hj (Nat.not_lt_zero j)⟩, Or.inl ⟨?_, ?_⟩, fun q hq => Or.inl ⟨?_, ?_⟩⟩
  · rw [A 10 0 (by omega) (by omega)]; rfl
  · rw [A 10 0 (by omega) (by omega)]; rfl
  · rw [A 10 0 (by omega) (by omega)]; rfl
  · rw [A 10 0 (by omega) (by omega)]; rfl
  · rw [A 12 0 (by omega) (by omega)]; rfl
  · rw [A 15 0 (by omega) (by omega)]; rfl
  · rw [A 16 0 (by omega) (by omega)]; rfl
  · rw [M 7 (by omega)]; rfl
  · rw [M 8 (by omega)]; rfl
  · rw [M 16 (by omega)]; rfl
  · rw [M 4 (by omega)]; rfl
  · rw [A 0 0 (by omega) (by omega)]; rfl
  · rw [jm 40 0 (by omega), m3]; rfl
  · obtain rfl : q = 0 := by omega
    exact ⟨RuC_of (by rw [jc 7 0 (by omega), jc 8 0 (by omega)]; exact c7), RuM_fr u (fun j _ => by rw [jm 41 0 (by omega)]) (by rw [jm 42 0 (by omega)])⟩
  · rw [jc 1 0 (by omega), c2]; rfl
  · rw [M 6 (by omega)]; rfl
  · rw [A 0 0 (by omega) (by omega)]; rfl
  · rw [M 50 (by omega)]; rfl
  · rw [A 30 q (by omega) (by omega)]; rfl
  · rw [N 64 0 (by omega)]; rfl
set_option maxHeartbeats 4000000 in
set_option maxRecDepth 8000 in
theorem law_l {L : Nat} {xs : Nat → Int32} {K : Int32 → St → Prop} (hL : L ≤ 384) : ∀ (n x : Nat) (S : St), x ≤ 400 → L < x + 6 * n + 6 → Rel S → wbL_law_18 L xs K (n + 1) (nI x) S
  | 0, x, S, hx, hn, hR => by
    unfold wbL_law_18
    rw [if_pos (show Int32.ofNat L - 6 < nI x from (sub_lt_iff (a := L) (b := 6) (by omega) (by omega) (by omega)).mpr (by omega))]
    trivial
  | n + 1, x, S, hx, hn, hR => by
    unfold wbL_law_18
    by_cases q : L < 6 + x
    · rw [if_pos (show Int32.ofNat L - 6 < nI x from (sub_lt_iff (a := L) (b := 6) (by omega) (by omega) (by omega)).mpr q)]
      trivial
    rw [if_neg (show ¬ Int32.ofNat L - 6 < nI x from fun w => q ((sub_lt_iff (a := L) (b := 6) (by omega) (by omega) (by omega)).mp w))]
    have v0 : vp_in (nI x) L := vp_in_nI (by omega) (by omega)
    have v1 : vp_in (nI x + 1) L := by rw [show nI x + 1 = nI (x + 1) from nI_add x 1]; exact vp_in_nI (by omega) (by omega)
    have v2 : vp_in (nI x + 2) L := by rw [show nI x + 2 = nI (x + 2) from nI_add x 2]; exact vp_in_nI (by omega) (by omega)
    have v3 : vp_in (nI x + 3) L := by rw [show nI x + 3 = nI (x + 3) from nI_add x 3]; exact vp_in_nI (by omega) (by omega)
    have v4 : vp_in (nI x + 4) L := by rw [show nI x + 4 = nI (x + 4) from nI_add x 4]; exact vp_in_nI (by omega) (by omega)
    have v5 : vp_in (nI x + 5) L := by rw [show nI x + 5 = nI (x + 5) from nI_add x 5]; exact vp_in_nI (by omega) (by omega)
    have hK : ∀ S1, Rel S1 → wbL_law_1102 L xs (fun yx3 S9 => wbL_law_18 L xs K (n + 1) yx3 S9) K (nI x) S1 := fun S1 R1 => by
      unfold wbL_law_1102
      rw [show nI x + 6 = nI (x + 6) from nI_add x 6]
      exact law_l hL n (x + 6) S1 (by omega) (by omega) R1
    refine ⟨v0, ?_⟩
    refine if_of (fun _ => ⟨v1, call_man hR hK (fun r S1 w => ⟨v1, w⟩)⟩) (fun _ => ?_)
    refine if_of (fun _ => ⟨v1, v2, call_maid hR hK (fun r S1 w => ⟨v1, v2, w⟩)⟩) (fun _ => ?_)
    refine if_of (fun _ => ⟨v1, v2, v3, v4, call_likes hR hK (fun r S1 w => ⟨v1, v2, v3, v4, w⟩)⟩) (fun _ => ?_)
    refine if_of (fun _ => ⟨v1, v2, v3, call_set hR hK (fun r S1 w => ⟨v1, v2, v3, w⟩)⟩) (fun _ => ?_)
    refine if_of (fun _ => ⟨v1, v2, v3, call_told hR hK (fun r S1 w => ⟨v1, v2, v3, w⟩)⟩) (fun _ => ?_)
    refine if_of (fun _ => ⟨v1, v2, call_of hR hK (fun r S1 w => ⟨v1, v2, w⟩)⟩) (fun _ => ?_)
    refine if_of (fun _ => ⟨v1, call_feed hR hK (fun r S1 w => ⟨v1, w⟩)⟩) (fun _ => ?_)
    refine if_of (fun _ => call_text hR hK (fun r S1 w => w)) (fun _ => ?_)
    refine if_of (fun _ => ⟨v1, call_force hR hK (fun r S1 w => ⟨v1, w⟩)⟩) (fun _ => ?_)
    refine if_of (fun _ => ⟨v1, v2, call_ask hR hK (fun r S1 w => ⟨v1, v2, w⟩)⟩) (fun _ => ?_)
    refine if_of (fun _ => ⟨v1, call_part hR hK (fun r S1 w => ⟨v1, w⟩)⟩) (fun _ => ?_)
    refine if_of (fun _ => ⟨v1, v2, v3, v4, call_way hR hK (fun r S1 w => ⟨v1, v2, v3, v4, w⟩)⟩) (fun _ => ?_)
    refine if_of (fun _ => ⟨v1, call_mistake hR hK (fun r S1 w => ⟨v1, w⟩)⟩) (fun _ => ?_)
    refine if_of (fun _ => ⟨v1, call_sure hR hK (fun r S1 w => ⟨v1, w⟩)⟩) (fun _ => ?_)
    refine if_of (fun _ => ⟨v1, call_pairings hR hK (fun r S1 w => ⟨v1, w⟩)⟩) (fun _ => ?_)
    refine if_of (fun _ => ⟨v1, v2, call_best hR hK (fun r S1 w => ⟨v1, v2, w⟩)⟩) (fun _ => ?_)
    refine if_of (fun _ => ⟨v1, call_row hR hK (fun r S1 w => ⟨v1, w⟩)⟩) (fun _ => ?_)
    refine if_of (fun _ => ⟨v1, v2, call_year hR hK (fun r S1 w => ⟨v1, v2, w⟩)⟩) (fun _ => ?_)
    refine if_of (fun _ => ⟨v1, v2, call_judge hR hK (fun r S1 w => ⟨v1, v2, w⟩)⟩) (fun _ => ?_)
    refine if_of (fun _ => ⟨v1, call_drawn hR hK (fun r S1 w => ⟨v1, w⟩)⟩) (fun _ => ?_)
    refine if_of (fun _ => ⟨v1, v2, v3, call_chance hR hK (fun r S1 w => ⟨v1, v2, v3, w⟩)⟩) (fun _ => ?_)
    refine if_of (fun _ => call_image hR hK (fun r S1 w => w)) (fun _ => ?_)
    refine if_of (fun _ => call_back hR hK (fun r S1 w => w)) (fun _ => ?_)
    refine if_of (fun _ => ⟨v1, call_count hR hK (fun r S1 w => ⟨v1, w⟩)⟩) (fun _ => ?_)
    refine if_of (fun _ => ⟨v1, v2, v3, call_sheet hR hK (fun r S1 w => ⟨v1, v2, v3, w⟩)⟩) (fun _ => ?_)
    refine if_of (fun _ => ⟨v1, v2, v3, call_cell hR hK (fun r S1 w => ⟨v1, v2, v3, w⟩)⟩) (fun _ => ?_)
    refine if_of (fun _ => ⟨v1, v2, v3, v4, v5, call_copy hR hK (fun r S1 w => ⟨v1, v2, v3, v4, v5, w⟩)⟩) (fun _ => ?_)
    refine if_of (fun _ => ⟨v1, v2, v3, v4, call_likings hR hK (fun r S1 w => ⟨v1, v2, v3, v4, w⟩)⟩) (fun _ => ?_)
    refine if_of (fun _ => ⟨v1, v2, call_taken hR hK (fun r S1 w => ⟨v1, v2, w⟩)⟩) (fun _ => ?_)
    exact hK S hR
theorem whole_p {L : Nat} {xs : Nat → Int32} (hL : L ≤ 384) : wpX7_init (fun S1 => wpX8_init (fun S2 => ∃ k, wbL_law_18 L xs (fun _ _ => True) k 0 (joinS S1 S2))) :=
  init7 (fun S1 a b c => init8 (fun S2 d e f g => ⟨64 + 1, law_l hL 64 0 _ (by omega) (by omega) (Rel_0 a b c d e f g)⟩))
end
