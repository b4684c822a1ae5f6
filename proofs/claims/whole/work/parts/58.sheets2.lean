/-! calls: copy, likings -/
theorem mp_cpU {s i o j c : Nat} (hi : i + c ≤ 40) (hj : j + c ≤ 40) (hs : s < 4) (ho : o < 4) (hd : 40 * o + j ≤ 40 * s + i ∨ 40 * s + i + c ≤ 40 * o + j) (S0 : St) : ∀ (d k : Nat) (S1 : St) (K : Int32 → St → Prop), k + d = c → (∀ kd i, kd ≠ 67 → S1.1 kd i = S0.1 kd i) → (∀ p, S1.1 67 0 p = if 40 * o + j ≤ p ∧ p < 40 * o + j + k then S0.1 67 0 (40 * s + i + (p - (40 * o + j))) else S0.1 67 0 p) →
    (∀ S2, (∀ kd i, kd ≠ 67 → S2.1 kd i = S0.1 kd i) → (∀ p, S2.1 67 0 p = if 40 * o + j ≤ p ∧ p < 40 * o + j + c then S0.1 67 0 (40 * s + i + (p - (40 * o + j))) else S0.1 67 0 p) → K (nI c) S2) → wbX8_copy_121 K (nI s) (nI i) (nI o) (nI j) (nI c) 0 (d + 1) (nI k) S1
  | 0, k, S1, K, e, a, b, h => by
    show if nI c ≤ nI k then _ else _
    rw [if_pos (nI_le (by omega) (by omega))]
    obtain rfl : k = c := by omega
    exact h S1 a b
  | d + 1, k, S1, K, e, a, b, h => by
    show if nI c ≤ nI k then _ else _
    rw [if_neg (nI_ge (by omega) (by omega)), if_pos rfl]
    unfold wbX8_copy_145
    rw [at40, at40, nI_add, nI_add, nI_clamp (by omega), nI_clamp (by omega), nI_1]
    refine ⟨vp_in_nI (by omega) (by omega), vp_in_nI (by omega) (by omega), fun S2 e2 => mp_cpU hi hj hs ho hd S0 d (k + 1) S2 K (by omega) (fun kd i2 w => ?_) (fun p => ?_) h⟩
    · rw [e2, sa_ne (by omega)]; exact a kd i2 w
    · rw [e2, sa_eq, upd_rd, b, b]
      by_cases c1 : p = 40 * o + j + k
      · rw [if_pos c1, if_neg (by omega), if_pos (by omega), c1]
        exact congrArg (S0.1 67 0) (by omega)
      · rw [if_neg c1]
        by_cases c2 : 40 * o + j ≤ p ∧ p < 40 * o + j + k
        · rw [if_pos c2, if_pos (by omega)]
        · rw [if_neg c2, if_neg (by omega)]
theorem mp_cpD {s i j c : Nat} (hi : i + c ≤ 40) (hj : j + c ≤ 40) (hs : s < 4) (hd : i < j) (S0 : St) : ∀ (d k : Nat) (S1 : St) (K : Int32 → St → Prop), k + d = c → (∀ kd i, kd ≠ 67 → S1.1 kd i = S0.1 kd i) → (∀ p, S1.1 67 0 p = if 40 * s + j + c - k ≤ p ∧ p < 40 * s + j + c then S0.1 67 0 (40 * s + i + (p - (40 * s + j))) else S0.1 67 0 p) →
    (∀ S2, (∀ kd i, kd ≠ 67 → S2.1 kd i = S0.1 kd i) → (∀ p, S2.1 67 0 p = if 40 * s + j ≤ p ∧ p < 40 * s + j + c then S0.1 67 0 (40 * s + i + (p - (40 * s + j))) else S0.1 67 0 p) → K (nI c) S2) → wbX8_copy_121 K (nI s) (nI i) (nI s) (nI j) (nI c) 1 (d + 1) (nI k) S1
  | 0, k, S1, K, e, a, b, h => by
    show if nI c ≤ nI k then _ else _
    rw [if_pos (nI_le (by omega) (by omega))]
    obtain rfl : k = c := by omega
    exact h S1 a (fun p => by rw [b, Nat.add_sub_cancel])
  | d + 1, k, S1, K, e, a, b, h => by
    show if nI c ≤ nI k then _ else _
    rw [if_neg (nI_ge (by omega) (by omega)), if_neg nfi]
    unfold wbX8_copy_145
    rw [lit32 1, pk_sub (by omega), pk_sub (by omega), at40, at40, nI_add, nI_add, nI_clamp (by omega), nI_clamp (by omega), nI_add]
    refine ⟨vp_in_nI (by omega) (by omega), vp_in_nI (by omega) (by omega), fun S2 e2 => mp_cpD hi hj hs hd S0 d (k + 1) S2 K (by omega) (fun kd i2 w => ?_) (fun p => ?_) h⟩
    · rw [e2, sa_ne (by omega)]; exact a kd i2 w
    · rw [e2, sa_eq, upd_rd, b, b]
      by_cases c1 : p = 40 * s + j + (c - 1 - k)
      · rw [if_pos c1, if_neg (by omega), if_pos (by omega), c1]
        exact congrArg (S0.1 67 0) (by omega)
      · rw [if_neg c1]
        by_cases c2 : 40 * s + j + c - k ≤ p ∧ p < 40 * s + j + c
        · rw [if_pos c2, if_pos (by omega)]
        · rw [if_neg c2, if_neg (by omega)]
section
variable {S : St} {F : Int32 → St → Prop} {K : St → Prop} {a b c d e : Int32}
theorem call_copy (R : Rel S) (hK : ∀ S1, Rel S1 → K S1) (hF : Hm F (wpX8_copy a b c d e) K) : wpX7_copy a b c d e S F := by
  obtain ⟨m, n, r, T, k, V, R⟩ := R
  have hR : Rel S := ⟨m, n, r, T, k, V, R⟩
  have h5 : R5 S := R.2.2.2.2.2.2.2.2
  unfold wpX7_copy
  by_cases ca : 0 ≤ a ∧ a ≤ 3
  · refine s1 ca ?_
    rw [if_neg nfi]
    obtain ⟨q, hq, rfl⟩ := sht ca
    have vq : vp_in (nI q) 4 := vp_in_nI hq (by omega)
    by_cases cc : 0 ≤ c ∧ c ≤ 3
    · refine s1 cc ?_
      rw [if_neg nfi]
      obtain ⟨o, ho, rfl⟩ := sht cc
      have vo : vp_in (nI o) 4 := vp_in_nI ho (by omega)
      refine ⟨vq, vo, ?_⟩
      unfold wpX4_isMissing
      rw [nI_clamp (by omega), nI_clamp (by omega)]
      have md : ∀ (v : Int32) (S1 : St), (if (S1.1 64 0 q) = 0 then (if v = (-11) then K S1 else False) else ((vp_in (nI o) 4 ∧ if (S1.1 64 0 o) = 0 then (if v = (-11) then K S1 else False) else ((vp_in (nI q) 4 ∧ (vp_in (nI o) 4 ∧ if (S1.1 65 0 q) = (S1.1 65 0 o) then (if e < 0 then (if v = (-12) then K S1 else False) else (if b < 0 then (if v = (-12) then K S1 else False) else (if d < 0 then (if v = (-12) then K S1 else False) else ((vp_in (nI q) 4 ∧ if ((S1.1 66 0 q) - e) < b then (if v = (-12) then K S1 else False) else ((vp_in (nI o) 4 ∧ if d ≤ ((S1.1 66 0 o) - e) then (if nI q = nI o then (if d ≤ b then (wbX8_copy_115 (fun r2 S2 => if v = r2 then K S2 else False) (nI q) b (nI o) d e S1) else (wbX8_copy_116 (fun r2 S2 => if v = r2 then K S2 else False) (nI q) b (nI o) d e 1 S1)) else (wbX8_copy_115 (fun r2 S2 => if v = r2 then K S2 else False) (nI q) b (nI o) d e S1)) else (if v = (-12) then K S1 else False)))))))) else (if v = (-13) then K S1 else False)))))) ) → wpX8_copy (nI q) b (nI o) d e S1 (fun r2 S2 => if v = r2 then K S2 else False) := by
        intro v S1 hv
        unfold wpX8_copy
        refine ms1 ca ?_
        rw [if_neg nfi]
        refine ms1 cc ?_
        rw [if_neg nfi, nI_clamp (by omega), nI_clamp (by omega)]
        exact ⟨vq, hv⟩
      rcases h5 q hq with ⟨u1, u2⟩ | ⟨so, z, u0, u1, u2, u3, u4, u5, u6, u7⟩
      · rw [u1, if_pos rfl]
        show if (1 : Int32) = 0 then _ else _
        rw [if_neg nfi]
        refine hF _ _ (md _ _ ?_)
        rw [u2, if_pos rfl]
        exact same (hK _ hR)
      rw [u2, if_neg (nI_nm1 (by omega))]
      show if (0 : Int32) = 0 then _ else _
      rw [if_pos rfl]
      rcases h5 o ho with ⟨t1, t2⟩ | ⟨so2, z2, t0, t1, t2, t3, t4, t5, t6, t7⟩
      · rw [t1, if_pos rfl]
        show if (1 : Int32) = 0 then _ else _
        rw [if_neg nfi]
        refine hF _ _ (md _ _ ?_)
        rw [u3, if_neg nfi, t2, if_pos rfl]
        exact ⟨vo, same (hK _ hR)⟩
      rw [t2, if_neg (nI_nm1 (by omega))]
      show if (0 : Int32) = 0 then _ else _
      rw [if_pos rfl, u2, t2]
      by_cases cs : nI so = nI so2
      · rw [if_pos cs]
        have md2 : ∀ (v : Int32) (S1 : St), fc S S1 → (if e < 0 then (if v = (-12) then K S1 else False) else (if b < 0 then (if v = (-12) then K S1 else False) else (if d < 0 then (if v = (-12) then K S1 else False) else ((if (nI z - e) < b then (if v = (-12) then K S1 else False) else ((if d ≤ (nI z2 - e) then (if nI q = nI o then (if d ≤ b then (wbX8_copy_115 (fun r2 S2 => if v = r2 then K S2 else False) (nI q) b (nI o) d e S1) else (wbX8_copy_116 (fun r2 S2 => if v = r2 then K S2 else False) (nI q) b (nI o) d e 1 S1)) else (wbX8_copy_115 (fun r2 S2 => if v = r2 then K S2 else False) (nI q) b (nI o) d e S1)) else (if v = (-12) then K S1 else False)))))))) → wpX8_copy (nI q) b (nI o) d e S1 (fun r2 S2 => if v = r2 then K S2 else False) := by
          intro v S1 f hv
          refine md v S1 ?_
          rw [f 64 0 (by omega), f 65 0 (by omega), f 66 0 (by omega), u3, if_neg nfi, t3, if_neg nfi, u4, t4, if_pos cs, u6, t6]
          refine ⟨vo, vq, vo, ?_⟩
          by_cases w1 : e < 0
          · rw [if_pos w1] at hv ⊢; exact hv
          rw [if_neg w1] at hv ⊢
          by_cases w2 : b < 0
          · rw [if_pos w2] at hv ⊢; exact hv
          rw [if_neg w2] at hv ⊢
          by_cases w3 : d < 0
          · rw [if_pos w3] at hv ⊢; exact hv
          rw [if_neg w3] at hv ⊢
          refine ⟨vq, ?_⟩
          by_cases w4 : nI z - e < b
          · rw [if_pos w4] at hv ⊢; exact hv
          rw [if_neg w4] at hv ⊢
          exact ⟨vo, hv⟩
        have bad : (e < 0 ∨ b < 0 ∨ d < 0 ∨ nI z - e < b ∨ nI z2 - e < d) → F (-12) S := by
          intro hb
          refine hF _ _ (md2 _ _ (fc_rfl _) ?_)
          have sm : (if (-12 : Int32) = -12 then K S else False) := same (hK _ hR)
          by_cases w1 : e < 0
          · rw [if_pos w1]; exact sm
          rw [if_neg w1]
          by_cases w2 : b < 0
          · rw [if_pos w2]; exact sm
          rw [if_neg w2]
          by_cases w3 : d < 0
          · rw [if_pos w3]; exact sm
          rw [if_neg w3]
          by_cases w4 : nI z - e < b
          · rw [if_pos w4]; exact sm
          rw [if_neg w4, if_neg]
          · exact sm
          · rcases hb with h | h | h | h | h
            · exact absurd h w1
            · exact absurd h w2
            · exact absurd h w3
            · exact absurd h w4
            · exact Int32.not_le.mpr h
        unfold wpX4_holds
        rw [u5]
        by_cases w2 : b < 0
        · rw [if_pos w2]
          show if (0 : Int32) = 0 then _ else _
          rw [if_pos rfl]; exact bad (Or.inr (Or.inl w2))
        rw [if_neg w2]
        by_cases w1 : e < 0
        · rw [if_pos w1]
          show if (0 : Int32) = 0 then _ else _
          rw [if_pos rfl]; exact bad (Or.inl w1)
        rw [if_neg w1]
        by_cases w4 : nI z - e < b
        · rw [if_pos w4]
          show if (0 : Int32) = 0 then _ else _
          rw [if_pos rfl]; exact bad (Or.inr (Or.inr (Or.inr (Or.inl w4))))
        rw [if_neg w4]
        show if (1 : Int32) = 0 then _ else _
        rw [if_neg nfi]
        by_cases w3 : d < 0
        · rw [if_pos w3]
          show if (0 : Int32) = 0 then _ else _
          rw [if_pos rfl]; exact bad (Or.inr (Or.inr (Or.inl w3)))
        rw [if_neg w3, if_neg w1, t5]
        by_cases w5 : nI z2 - e < d
        · rw [if_pos w5]
          show if (0 : Int32) = 0 then _ else _
          rw [if_pos rfl]; exact bad (Or.inr (Or.inr (Or.inr (Or.inr w5))))
        rw [if_neg w5]
        show if (1 : Int32) = 0 then _ else _
        rw [if_neg nfi]
        refine ⟨⟨w2, w3, w1, ?_⟩, ?_⟩
        · obtain ⟨i, hi, rfl⟩ := nI_of w2
          obtain ⟨ne, hne, rfl⟩ := nI_of w1
          obtain ⟨j, hj, rfl⟩ := nI_of w3
          rw [nI_clamp hi, nI_clamp hne, nI_clamp hj]
          rw [sub_lt_iff (by omega) hne hi] at w4
          rw [sub_lt_iff (by omega) hne hj] at w5
          omega
        obtain ⟨i, hi, rfl⟩ := nI_of w2
        obtain ⟨ne, hne, rfl⟩ := nI_of w1
        obtain ⟨j, hj, rfl⟩ := nI_of w3
        have w4' := w4
        have w5' := w5
        rw [sub_lt_iff (by omega) hne hi] at w4
        rw [sub_lt_iff (by omega) hne hj] at w5
        rw [nI_clamp hi, nI_clamp hne, nI_clamp hj]
        intro S1 e1
        have fin : ∀ S2 : St, (∀ kd i, kd ≠ 67 → S2.1 kd i = S1.1 kd i) → (∀ p, S2.1 67 0 p = if 40 * o + j ≤ p ∧ p < 40 * o + j + ne then S1.1 67 0 (40 * q + i + (p - (40 * o + j))) else S1.1 67 0 p) → K S2 := by
          intro S2 a2 b2
          refine hK _ ⟨m, n, r, T, k, V, Rel_s R (fun kd i w1 w2 w3 => ?_) (fun q2 hq2 => ?_)⟩
          · rw [a2 kd i (by omega), e1, sa_ne (by omega)]
          · rw [a2 30 q2 (by omega), a2 31 q2 (by omega), a2 64 0 (by omega), a2 65 0 (by omega), a2 66 0 (by omega), e1, sa_ne (kd2 := 30) (by omega), sa_ne (kd2 := 64) (by omega), sa_ne (kd2 := 65) (by omega), sa_ne (kd2 := 66) (by omega)]
            rcases h5 q2 hq2 with v1 | ⟨so3, z3, v0, v1, v2, v3, v4, v5, v6, v7⟩
            · exact Or.inl v1
            · refine Or.inr ⟨so3, z3, v0, v1, v2, v3, v4, v5, v6, fun p hp => ?_⟩
              rw [b2, e1, sa_ne (kd2 := 67) (by omega)]
              by_cases x1 : q2 = o
              · subst x1
                rw [sa_eq]
                obtain rfl : z3 = z2 := (nI_eq (by omega) (by omega)).mp (v6.symm.trans t6)
                by_cases x2 : j ≤ p ∧ p < j + ne
                · rw [pk_cpy_in x2.1 x2.2, if_pos (by omega), u7 _ (by omega)]
                  exact congrArg (S.1 67 0) (by omega)
                · rw [pk_cpy_out (by omega), if_neg (by omega)]
                  exact v7 p hp
              · rw [sa_ne (by omega), if_neg (by omega)]
                exact v7 p hp
        refine hF _ _ (md2 _ _ (by rw [e1]; exact fc_sa (fc_rfl _)) ?_)
        rw [if_neg w1, if_neg w2, if_neg w3, if_neg w4', if_pos (Int32.not_lt.mp w5')]
        have up : (40 * o + j ≤ 40 * q + i ∨ 40 * q + i + ne ≤ 40 * o + j) → wbX8_copy_115 (fun r2 S2 => if nI ne = r2 then K S2 else False) (nI q) (nI i) (nI o) (nI j) (nI ne) S1 := fun hd => ⟨ne + 1, mp_cpU (by omega) (by omega) hq ho hd S1 ne 0 S1 _ (by omega) (fun _ _ _ => rfl) (fun p => by rw [if_neg (by omega)]) (fun S2 a2 b2 => same (fin S2 a2 b2))⟩
        by_cases x1 : nI q = nI o
        · rw [if_pos x1]
          obtain rfl : q = o := (nI_eq (by omega) (by omega)).mp x1
          by_cases x2 : nI j ≤ nI i
          · rw [if_pos x2]
            have := (nI_leI hj hi).mp x2
            exact up (by omega)
          · rw [if_neg x2]
            have : i < j := Nat.lt_of_not_le (fun w => x2 ((nI_leI hj hi).mpr w))
            exact ⟨ne + 1, mp_cpD (by omega) (by omega) hq this S1 ne 0 S1 _ (by omega) (fun _ _ _ => rfl) (fun p => by rw [if_neg (by omega)]) (fun S2 a2 b2 => same (fin S2 a2 b2))⟩
        · rw [if_neg x1]
          have x3 : q ≠ o := fun w => x1 (by rw [w])
          exact up (by omega)
      · rw [if_neg cs]
        refine hF _ _ (md _ _ ?_)
        rw [u3, if_neg nfi, t3, if_neg nfi, u4, t4, if_neg cs]
        exact ⟨vo, vq, vo, same (hK _ hR)⟩
    · refine s0 cc ?_
      rw [if_pos rfl]
      refine hF _ _ ?_
      unfold wpX8_copy
      refine ms1 ca ?_
      rw [if_neg nfi]
      refine ms0 cc ?_
      rw [if_pos rfl]
      exact same (hK _ hR)
  · refine s0 ca ?_
    rw [if_pos rfl]
    refine hF _ _ ?_
    unfold wpX8_copy
    refine ms0 ca ?_
    rw [if_pos rfl]
    exact same (hK _ hR)
end
