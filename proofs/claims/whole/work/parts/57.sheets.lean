/-! calls: sheet, cell, copy, likings -/
theorem sub_ti {a b : Nat} (ha : a < 2 ^ 31) (hb : b < 2 ^ 31) : (nI a - nI b).toInt = (a : Int) - b := by
  rw [Int32.toInt_sub, nI_toInt ha, nI_toInt hb]
  exact Int.bmod_eq_of_le (by omega) (by omega)
theorem sub_lt_iff {a b c : Nat} (ha : a < 2 ^ 31) (hb : b < 2 ^ 31) (hc : c < 2 ^ 31) : nI a - nI b < nI c ↔ a < b + c := by
  rw [Int32.lt_iff_toInt_lt, sub_ti ha hb, nI_toInt hc]; omega
theorem le_sub_iff {a b c : Nat} (ha : a < 2 ^ 31) (hb : b < 2 ^ 31) (hc : c < 2 ^ 31) : nI c ≤ nI a - nI b ↔ b + c ≤ a := by
  rw [Int32.le_iff_toInt_le, sub_ti ha hb, nI_toInt hc]; omega
theorem Rel_s {S S1 : St} {m n r : Nat} {T : Tn} {k : Nat} {V : Nat → Rl} (h : Rel' S m n r T k V) (W : ∀ kd i, kd ≠ 30 → kd ≠ 31 → kd < 64 → S1.1 kd i = S.1 kd i) (h5 : R5 S1) : Rel' S1 m n r T k V := by
  obtain ⟨hT, hJ, hM, hV, h2, hr, ⟨z, hz, z1, z2, z3⟩, h4, _⟩ := h
  refine ⟨(RT_eq (fun kd a b => W kd 0 (by omega) (by omega) (by omega))).mpr hT, (RJ_eq (fun kd a b => W kd 0 (by omega) (by omega) (by omega))).mpr hJ, (RM_eq (fun kd a b => W kd 0 (by omega) (by omega) (by omega)) (fun j hj => by rw [W 40 0 (by omega) (by omega) (by omega)])).mpr hM, hV, R2_f h2 (by rw [W 0 0 (by omega) (by omega) (by omega)]) (by rw [W 40 0 (by omega) (by omega) (by omega)]) (fun q => W 7 q (by omega) (by omega) (by omega)) (fun q => W 8 q (by omega) (by omega) (by omega)) (W 41 0 (by omega) (by omega) (by omega)) (W 42 0 (by omega) (by omega) (by omega)), hr, ⟨z, hz, ?_, ?_, fun j hj => ?_⟩, R4_f h4 (by rw [W 0 0 (by omega) (by omega) (by omega)]) (fun j hj => by rw [W 40 0 (by omega) (by omega) (by omega)]) (fun kd a b => W kd 2 (by omega) (by omega) (by omega)) (fun kd a b => W kd 0 (by omega) (by omega) (by omega)) (Nat.le_refl n) (Nat.le_refl k) (fun _ _ => rfl), h5⟩
  · rw [W 1 0 (by omega) (by omega) (by omega)]; exact z1
  · rw [W 40 0 (by omega) (by omega) (by omega)]; exact z2
  · rw [W 4 0 (by omega) (by omega) (by omega), W 43 0 (by omega) (by omega) (by omega)]; exact z3 j hj
theorem at40 (x y : Nat) : (40 : Int32) * nI x + nI y = nI (40 * x + y) := by rw [show (40 : Int32) = nI 40 from rfl, pk_mul, nI_add]
theorem mp_sheet_l {q so z : Nat} (hq : q < 4) (hso : so ≤ 2) (hz : z ≤ 40) : ∀ (d i : Nat) (S1 : St) (K : Int32 → St → Prop), i + d = z → (∀ S2, (∀ kd i, kd ≠ 67 → S2.1 kd i = S1.1 kd i) → (∀ j, S2.1 67 0 j = if 40 * q + i ≤ j ∧ j < 40 * q + z then 0 else S1.1 67 0 j) → K 1 S2) → wbX8_sheet_77 K (nI q) (nI so) (nI z) (d + 1) (nI i) S1
  | 0, i, S1, K, e, k => by
    show if nI z ≤ nI i then _ else _
    rw [if_pos (nI_le (by omega) (by omega))]
    exact k S1 (fun _ _ _ => rfl) (fun j => by rw [if_neg (by omega)])
  | d + 1, i, S1, K, e, k => by
    show if nI z ≤ nI i then _ else _
    rw [if_neg (nI_ge (by omega) (by omega)), if_neg (nI_pos (by omega)), at40, nI_clamp (by omega), nI_1]
    refine ⟨vp_in_nI (by omega) (by omega), fun S2 e2 => mp_sheet_l hq hso hz d (i + 1) S2 K (by omega) (fun S3 a b => k S3 (fun kd i2 w => ?_) (fun j => ?_))⟩
    · rw [a kd i2 w, e2, sa_ne (by omega)]
    · rw [b j, e2, sa_eq, upd_rd]
      by_cases c1 : 40 * q + (i + 1) ≤ j ∧ j < 40 * q + z
      · rw [if_pos c1, if_pos (by omega)]
      · rw [if_neg c1]
        by_cases c2 : j = 40 * q + i
        · rw [if_pos c2, if_pos (by omega)]
        · rw [if_neg c2, if_neg (by omega)]
theorem s1 {x : Int32} {S : St} {K : Int32 → St → Prop} (h : 0 ≤ x ∧ x ≤ 3) (k : K 1 S) : wpX7_isSheet x S K := w1 h k
theorem s0 {x : Int32} {S : St} {K : Int32 → St → Prop} (h : ¬ (0 ≤ x ∧ x ≤ 3)) (k : K 0 S) : wpX7_isSheet x S K := w0 h k
theorem ms1 {x : Int32} {S : St} {K : Int32 → St → Prop} (h : 0 ≤ x ∧ x ≤ 3) (k : K 1 S) : wpX8_isSheet x S K := v1 (a := 0) (b := 3) h k
theorem ms0 {x : Int32} {S : St} {K : Int32 → St → Prop} (h : ¬ (0 ≤ x ∧ x ≤ 3)) (k : K 0 S) : wpX8_isSheet x S K := v0 (a := 0) (b := 3) h k
theorem sht {x : Int32} : (0 ≤ x ∧ x ≤ 3) → ∃ q, q < 4 ∧ x = nI q := fun h => by
  obtain ⟨i, _, hi, rfl⟩ := in_nI (a := 0) (b := 3) (by omega) h (by omega)
  exact ⟨i, by omega, rfl⟩
section
variable {S : St} {F : Int32 → St → Prop} {K : St → Prop} {a b c d e : Int32}
theorem call_sheet (R : Rel S) (hK : ∀ S1, Rel S1 → K S1) (hF : Hm F (wpX8_sheet a b c) K) : wpX7_sheet a b c S F := by
  obtain ⟨m, n, r, T, k, V, R⟩ := R
  have hR : Rel S := ⟨m, n, r, T, k, V, R⟩
  have h5 : R5 S := R.2.2.2.2.2.2.2.2
  unfold wpX7_sheet
  by_cases ca : 0 ≤ a ∧ a ≤ 3
  · refine s1 ca ?_
    rw [if_neg nfi]
    obtain ⟨q, hq, rfl⟩ := sht ca
    have vq : vp_in (nI q) 4 := vp_in_nI hq (by omega)
    by_cases cb : -1 ≤ b ∧ b ≤ 2
    · refine w1 cb ?_
      rw [if_neg nfi, nI_clamp (by omega)]
      have md : ∀ v S1, (if b < 0 then (wbX8_sheet_34 (fun r2 S2 => if v = r2 then K S2 else False) (nI q) b c S1) else (if c ≤ 40 then (wbX8_sheet_34 (fun r2 S2 => if v = r2 then K S2 else False) (nI q) b c S1) else (if v = (-2) then K S1 else False))) → wpX8_sheet (nI q) b c S1 (fun r2 S2 => if v = r2 then K S2 else False) := by
        intro v S1 hv
        unfold wpX8_sheet
        refine ms1 ca ?_
        rw [if_neg nfi]
        refine v1 cb ?_
        rw [if_neg nfi]
        exact hv
      by_cases c1 : b = -1
      · subst c1
        rw [if_pos rfl]
        refine ⟨vq, fun S1 e1 S2 e2 => sp_fill (by omega) (hF _ _ (md _ _ ?_))⟩
        rw [if_pos (by decide)]
        unfold wbX8_sheet_34 wbX8_sheet_45 wbX8_sheet_59
        rw [if_pos (by decide), if_pos (by decide), nI_clamp (by omega)]
        refine ⟨vq, fun S4 e4 => ⟨vq, fun S5 e5 => ⟨vq, fun S6 e6 => ?_⟩⟩⟩
        have fin : ∀ K2 : Int32 → St → Prop, K2 1 S6 → ∃ k, wbX8_sheet_77 K2 (nI q) (-1) c k 0 S6 := by
          intro K2 hk
          refine ⟨1, ?_⟩
          show if c ≤ 0 then _ else _
          by_cases w : c ≤ 0
          · rw [if_pos w]; exact hk
          · rw [if_neg w, if_pos (by decide)]; exact hk
        refine fin _ (same (hK _ ⟨m, n, r, T, k, V, Rel_s R (fun kd i w1 w2 w3 => ?_) (fun q2 hq2 => ?_)⟩))
        · rw [e6, e5, e4, sa_ne (by omega), sa_ne (by omega), sa_ne (by omega), sa_ne (by omega), e2, e1, sa_ne (by omega), sa_ne (by omega)]
        · by_cases w : q2 = q
          · subst w
            refine Or.inl ⟨?_, ?_⟩
            · rw [e6, e5, e4, e2, e1]; simp [sa_rd, upd_rd]
            · rw [e6, e5, e4]; simp [sa_rd, upd_rd]; decide
          · have := h5 q2 hq2
            rw [e6, e5, e4, e2, e1]
            simpa [sa_rd, upd_rd, w] using this
      · rw [if_neg c1]
        obtain ⟨so, hso, rfl⟩ : ∃ so, so ≤ 2 ∧ b = nI so := by
          by_cases w : 0 ≤ b
          · obtain ⟨i, _, hi, rfl⟩ := in_nI (a := 0) (b := 2) (by omega) ⟨w, cb.2⟩ (by omega)
            exact ⟨i, hi, rfl⟩
          · refine absurd ?_ c1
            have w2 := Int32.lt_iff_toInt_lt.mp (Int32.not_le.mp w)
            have w3 := Int32.le_iff_toInt_le.mp cb.1
            rw [Int32.toInt_zero] at w2
            rw [show (-1 : Int32).toInt = -1 from by decide] at w3
            exact Int32.toInt_inj.mp (by rw [show (-1 : Int32).toInt = -1 from by decide]; omega)
        have b0 : ¬ nI so < 0 := nI_pos (by omega)
        by_cases c2 : c ≤ 40
        · rw [if_pos c2]
          by_cases c3 : 0 ≤ c
          · rw [if_pos c3]
            obtain ⟨z, _, hz, rfl⟩ := in_nI (a := 0) (b := 40) (by omega) ⟨c3, c2⟩ (by omega)
            refine ⟨vq, fun S1 e1 S2 e2 => sp_fill (by omega) (hF _ _ (md _ _ ?_))⟩
            rw [if_neg b0, if_pos c2]
            unfold wbX8_sheet_34 wbX8_sheet_45 wbX8_sheet_59
            rw [if_neg b0, if_pos c3, if_neg b0, nI_clamp (by omega)]
            refine ⟨vq, fun S4 e4 => ⟨vq, fun S5 e5 => ⟨vq, fun S6 e6 => ⟨z + 1, ?_⟩⟩⟩⟩
            refine mp_sheet_l hq hso hz z 0 S6 _ (by omega) (fun S7 a7 b7 => same (hK _ ⟨m, n, r, T, k, V, Rel_s R (fun kd i w1 w2 w3 => ?_) (fun q2 hq2 => ?_)⟩))
            · rw [a7 kd i (by omega), e6, e5, e4, sa_ne (by omega), sa_ne (by omega), sa_ne (by omega), sa_ne (by omega), e2, e1, sa_ne (by omega), sa_ne (by omega)]
            · rw [a7 30 q2 (by omega), a7 31 q2 (by omega), a7 64 0 (by omega), a7 65 0 (by omega), a7 66 0 (by omega)]
              by_cases w : q2 = q
              · subst w
                refine Or.inr ⟨so, z, hso, hz, ?_, ?_, ?_, ?_, ?_, fun j hj => ?_⟩
                · rw [e6, e5, e4, e2, e1]; simp [sa_rd, upd_rd]
                · rw [e6, e5, e4]; simp [sa_rd, upd_rd]; decide
                · rw [e6, e5]; simp [sa_rd, upd_rd]
                · rw [e6, e5, e4, e2, e1]; simp [sa_rd, upd_rd]
                · rw [e6]; simp [sa_rd, upd_rd]
                · rw [b7, if_pos (by omega), e6, e5, e4]; simp [sa_rd]; omega
              · rcases h5 q2 hq2 with ⟨u1, u2⟩ | ⟨so2, z2, u0, u1, u2, u3, u4, u5, u6, u7⟩
                · refine Or.inl ⟨?_, ?_⟩
                  · rw [e6, e5, e4, e2, e1]; simp [sa_rd, w, u1]
                  · rw [e6, e5, e4, e2, e1]; simp [sa_rd, upd_rd, w, u2]
                · refine Or.inr ⟨so2, z2, u0, u1, ?_, ?_, ?_, ?_, ?_, fun j hj => ?_⟩
                  · rw [e6, e5, e4, e2, e1]; simp [sa_rd, w, u2]
                  · rw [e6, e5, e4, e2, e1]; simp [sa_rd, upd_rd, w, u3]
                  · rw [e6, e5, e4, e2, e1]; simp [sa_rd, upd_rd, w, u4]
                  · rw [e6, e5, e4, e2, e1]; simp [sa_rd, w, u5]
                  · rw [e6, e5, e4, e2, e1]; simp [sa_rd, upd_rd, w, u6]
                  · rw [b7, if_neg (by omega), e6, e5, e4, e2, e1]; simp [sa_rd, w, u7 j hj]
          · rw [if_neg c3]
            refine hF _ _ (md _ _ ?_)
            unfold wbX8_sheet_34
            rw [if_neg b0, if_pos c2, if_neg b0, if_neg c3]
            exact same (hK _ hR)
        · rw [if_neg c2]
          refine hF _ _ (md _ _ ?_)
          rw [if_neg b0, if_neg c2]
          exact same (hK _ hR)
    · refine w0 cb ?_
      rw [if_pos rfl]
      refine hF _ _ ?_
      unfold wpX8_sheet
      refine ms1 ca ?_
      rw [if_neg nfi]
      refine v0 cb ?_
      rw [if_pos rfl]
      exact same (hK _ hR)
  · refine s0 ca ?_
    rw [if_pos rfl]
    refine hF _ _ ?_
    unfold wpX8_sheet
    refine ms0 ca ?_
    rw [if_pos rfl]
    exact same (hK _ hR)
theorem call_cell (R : Rel S) (hK : ∀ S1, Rel S1 → K S1) (hF : Hm F (wpX8_cell a b c) K) : wpX7_cell a b c S F := by
  obtain ⟨m, n, r, T, k, V, R⟩ := R
  have hR : Rel S := ⟨m, n, r, T, k, V, R⟩
  have h5 : R5 S := R.2.2.2.2.2.2.2.2
  unfold wpX7_cell
  by_cases ca : 0 ≤ a ∧ a ≤ 3
  · refine s1 ca ?_
    rw [if_neg nfi]
    obtain ⟨q, hq, rfl⟩ := sht ca
    have vq : vp_in (nI q) 4 := vp_in_nI hq (by omega)
    refine ⟨vq, ?_⟩
    unfold wpX4_isMissing
    rw [nI_clamp (by omega)]
    rcases h5 q hq with ⟨u1, u2⟩ | ⟨so, z, u0, u1, u2, u3, u4, u5, u6, u7⟩
    · rw [u1, if_pos rfl]
      show if (1 : Int32) = 0 then _ else _
      rw [if_neg nfi]
      refine hF _ _ ?_
      unfold wpX8_cell
      refine ms1 ca ?_
      rw [if_neg nfi, nI_clamp (by omega), u2, if_pos rfl]
      exact ⟨vq, same (hK _ hR)⟩
    · rw [u2, if_neg (nI_nm1 (by omega))]
      show if (0 : Int32) = 0 then _ else _
      rw [if_pos rfl]
      unfold wpX4_holds
      rw [u5]
      have md : ∀ v S1, fc S S1 → wpX8_in b.toInt64 0 ((nI z - 1).toInt64) S1 (fun r6 S6 => if r6 = 0 then (if v = (-12) then K S6 else False) else ((vp_in (nI q) 4 ∧ if (S6.1 65 0 q) = 0 then (wbX8_cell_83 (fun r2 S2 => if v = r2 then K S2 else False) c.toInt8.toInt32 ((40 * nI q) + b) S6) else ((vp_in (nI q) 4 ∧ if (S6.1 65 0 q) = 1 then (wbX8_cell_83 (fun r2 S2 => if v = r2 then K S2 else False) c.toInt16.toInt32 ((40 * nI q) + b) S6) else (wbX8_cell_83 (fun r2 S2 => if v = r2 then K S2 else False) c ((40 * nI q) + b) S6)))))) → wpX8_cell (nI q) b c S1 (fun r2 S2 => if v = r2 then K S2 else False) := by
        intro v S1 f hv
        unfold wpX8_cell
        refine ms1 ca ?_
        rw [if_neg nfi, nI_clamp (by omega), f 64 0 (by omega), u3, if_neg nfi, f 66 0 (by omega), u6]
        exact ⟨vq, vq, hv⟩
      by_cases cb : 0 ≤ b ∧ b ≤ nI z - 1
      · obtain ⟨i, hi, rfl⟩ := (isIx (by omega)).mp cb
        rw [if_neg (nI_pos (by omega)), if_neg (by decide), if_neg (Int32.not_lt.mpr cb.2)]
        show if (1 : Int32) = 0 then _ else _
        rw [if_neg nfi]
        have vi : vp_in (nI i) 40 := vp_in_nI (by omega) (by omega)
        have fin : ∀ v : Int32, ∀ S1, S1 = su S 31 q i v → (∀ w : Int32, wbX8_cell_83 (fun r2 S2 => if w = r2 then K S2 else False) v ((40 * nI q) + nI i) S1 → w = 1 → wpX8_cell (nI q) (nI i) c S1 (fun r2 S2 => if w = r2 then K S2 else False)) → F 1 S1 := by
          intro v S1 e1 hw
          refine hF _ _ (hw _ ?_ rfl)
          unfold wbX8_cell_83
          rw [at40, nI_clamp (by omega)]
          refine ⟨vp_in_nI (by omega) (by omega), fun S2 e2 => same (hK _ ⟨m, n, r, T, k, V, Rel_s R (fun kd i w1 w2 w3 => ?_) (fun q2 hq2 => ?_)⟩)⟩
          · rw [e2, e1, sa_ne (by omega), sa_ne (by omega)]
          · by_cases w : q2 = q
            · subst w
              refine Or.inr ⟨so, z, u0, u1, ?_, ?_, ?_, ?_, ?_, fun j hj => ?_⟩
              · rw [e2, e1]; simp [sa_rd, u2]
              · rw [e2, e1]; simp [sa_rd, u3]
              · rw [e2, e1]; simp [sa_rd, u4]
              · rw [e2, e1]; simp [sa_rd, u5]
              · rw [e2, e1]; simp [sa_rd, u6]
              · rw [e2, e1]
                by_cases w2 : j = i
                · subst w2; simp [sa_rd, upd_rd]
                · simp [sa_rd, upd_rd, w2, show ¬ 40 * q2 + j = 40 * q2 + i by omega, u7 j hj]
            · rcases h5 q2 hq2 with ⟨u1, u2⟩ | ⟨so2, z2, u0, u1, u2, u3, u4, u5, u6, u7⟩
              · refine Or.inl ⟨?_, ?_⟩
                · rw [e2, e1]; simp [sa_rd, u1]
                · rw [e2, e1]; simp [sa_rd, u2]
              · refine Or.inr ⟨so2, z2, u0, u1, ?_, ?_, ?_, ?_, ?_, fun j hj => ?_⟩
                · rw [e2, e1]; simp [sa_rd, u2]
                · rw [e2, e1]; simp [sa_rd, u3]
                · rw [e2, e1]; simp [sa_rd, u4]
                · rw [e2, e1]; simp [sa_rd, u5]
                · rw [e2, e1]; simp [sa_rd, u6]
                · rw [e2, e1]; simp [sa_rd, upd_rd, w, show ¬ 40 * q2 + j = 40 * q + i by omega, u7 j hj]
        unfold wpX4_put
        rw [u2, nI_clamp (by omega)]
        rcases (show so = 0 ∨ so = 1 ∨ so = 2 by omega) with rfl | rfl | rfl
        · rw [if_pos (by decide)]
          refine ⟨vi, fun S2 e2 => fin _ _ e2 (fun w hw _ => md _ _ (by rw [e2]; exact fc_sa (fc_rfl _)) (v1 cb ?_ (by decide) rfl))⟩
          rw [if_neg nfi, if_pos (by rw [e2, su_nk (by omega), u4]; decide)]
          exact ⟨vq, hw⟩
        · rw [if_neg (by decide), if_pos (by decide)]
          refine ⟨vi, fun S2 e2 => fin _ _ e2 (fun w hw _ => md _ _ (by rw [e2]; exact fc_sa (fc_rfl _)) (v1 cb ?_ (by decide) rfl))⟩
          rw [if_neg nfi, if_neg (by rw [e2, su_nk (by omega), u4]; decide), if_pos (by rw [e2, su_nk (by omega), u4]; decide)]
          exact ⟨vq, vq, hw⟩
        · rw [if_neg (by decide), if_neg (by decide)]
          refine ⟨vi, fun S2 e2 => fin _ _ e2 (fun w hw _ => md _ _ (by rw [e2]; exact fc_sa (fc_rfl _)) (v1 cb ?_ (by decide) rfl))⟩
          rw [if_neg nfi, if_neg (by rw [e2, su_nk (by omega), u4]; decide), if_neg (by rw [e2, su_nk (by omega), u4]; decide)]
          exact ⟨vq, vq, hw⟩
      · have fin : F (-12) S := by
          refine hF _ _ (md _ _ (fc_rfl _) (v0 cb ?_ (by decide) rfl))
          rw [if_pos rfl]
          exact same (hK _ hR)
        by_cases w1 : b < 0
        · rw [if_pos w1]
          show if (0 : Int32) = 0 then _ else _
          rw [if_pos rfl]; exact fin
        · rw [if_neg w1, if_neg (by decide)]
          by_cases w2 : nI z - 1 < b
          · rw [if_pos w2]
            show if (0 : Int32) = 0 then _ else _
            rw [if_pos rfl]; exact fin
          · exact absurd ⟨Int32.not_lt.mp w1, Int32.not_lt.mp w2⟩ cb
  · refine s0 ca ?_
    rw [if_pos rfl]
    refine hF _ _ ?_
    unfold wpX8_cell
    refine ms0 ca ?_
    rw [if_pos rfl]
    exact same (hK _ hR)
end
