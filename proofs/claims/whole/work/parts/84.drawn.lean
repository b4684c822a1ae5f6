section
/-! drawn, chance -/
def lcg (z : Int32) : Int32 := (z * 1103515245) + 12345
def drV (z : Int32) : Int32 := ((z.toUInt32 >>> ((9 : Int32).toUInt32 &&& Int32.toUInt32 31)).toInt32) - ((z.toUInt32 >>> ((9 : Int32).toUInt32 &&& Int32.toUInt32 31)).toInt32) / 100 * 100
theorem drV_ok (z : Int32) : ∃ k, k ≤ 99 ∧ drV z = nI k := by
  have e : (z.toUInt32 >>> ((9 : Int32).toUInt32 &&& Int32.toUInt32 31)).toInt32 = nI (z.toBitVec.toNat / 2 ^ 9) := by
    refine Int32.toBitVec_inj.mp (BitVec.eq_of_toNat_eq ?_)
    rw [pk_ushr z 9 9 (by decide)]
    show _ = (BitVec.ofNat 32 (z.toBitVec.toNat / 2 ^ 9)).toNat
    rw [BitVec.toNat_ofNat, Nat.mod_eq_of_lt]
    have := z.toBitVec.isLt
    omega
  have := z.toBitVec.isLt
  unfold drV
  rw [e, show (100 : Int32) = nI 100 from rfl, pk_rem (by omega) (by omega) (by omega)]
  exact ⟨_, by omega, rfl⟩
section
variable (g h : Int32 → Int32)
def drI (x : Nat) : Nat → Nat → Int32 → Tn → Int32 × Tn
  | 0, _, v, T => (v, T)
  | d + 1, y, v, T => drI x d (y + 1) (g v) (setT T 6 (4 * x + y) (h (g v)))
def drO (n : Nat) : Nat → Nat → Int32 → Tn → Int32 × Tn
  | 0, _, v, T => (v, T)
  | d + 1, x, v, T => drO n d (x + 1) (drI g h x n 0 v T).1 (drI g h x n 0 v T).2
end
section
variable {t m n r : Nat} {U : Rl} {g h : Int32 → Int32}
theorem drI_VT (hh : ∀ z, ∃ k, k ≤ 99 ∧ h z = nI k) {x : Nat} : ∀ d y v (T : Tn), VT m n T → VT m n (drI g h x d y v T).2
  | 0, _, _, _, w => w
  | d + 1, y, v, T, w => by
    obtain ⟨k, hk, e⟩ := hh (g v)
    have w2 : VT m n (setT T 6 (4 * x + y) (h (g v))) := by rw [e]; exact VT_6 w hk
    exact drI_VT hh d (y + 1) (g v) _ w2
theorem drO_VT (hh : ∀ z, ∃ k, k ≤ 99 ∧ h z = nI k) : ∀ d x v (T : Tn), VT m n T → VT m n (drO g h n d x v T).2
  | 0, _, _, _, w => w
  | d + 1, x, v, T, w => drO_VT hh d (x + 1) _ _ (drI_VT hh n 0 v T w)
theorem sp_dr_i (hg : ∀ z, (z * 1103515245) + 12345 = g z) (hh : ∀ z, ((z.toUInt32 >>> ((9 : Int32).toUInt32 &&& Int32.toUInt32 31)).toInt32) - ((z.toUInt32 >>> ((9 : Int32).toUInt32 &&& Int32.toUInt32 31)).toInt32) / 100 * 100 = h z) {K : St → Prop} {R4 : Int32 → Int32 → St → Prop} {x : Nat} (hx : x < m) : ∀ (d y : Nat) (v : Int32) (T : Tn) (S : St), y + d = n → RT S t m n r T → (∀ S1, RT S1 t m n r (drI g h x d y v T).2 → (∀ kd i, ¬ (kd = 16 ∧ i = t) → S1.1 kd i = S.1 kd i) → R4 (drI g h x d y v T).1 (nI (x + 1)) S1) → wbX5_drawHers_15 t R4 K (nI x) (d + 1) v (nI y) S
  | 0, y, v, T, S, e, hT, k => by
    have hn := hT.1.2.1
    unfold wbX5_drawHers_15
    rw [hT.2.1.2.1, if_pos (nI_le (by omega) (by omega)), nI_1]
    exact k S hT (fun _ _ _ => rfl)
  | d + 1, y, v, T, S, e, hT, k => by
    have hm := hT.1.1
    have hn := hT.1.2.1
    unfold wbX5_drawHers_15
    rw [hT.2.1.2.1, if_neg (nI_ge (by omega) (by omega)), hg, hh, nI_1]
    refine sp_at ⟨vp_in_nI (by omega) (by omega), fun S4 e4 => ?_⟩
    rw [nI_clamp (by omega)] at e4
    refine sp_dr_i hg hh hx d (y + 1) (g v) (setT T 6 (4 * x + y) (h (g v))) S4 (by omega) (by rw [e4]; exact RT_16 hT) (fun S5 t5 w5 => k S5 t5 (fun kd i q => ?_))
    rw [w5 kd i q, e4, sa_ne q]
theorem sp_dr_o (hg : ∀ z, (z * 1103515245) + 12345 = g z) (hh : ∀ z, ((z.toUInt32 >>> ((9 : Int32).toUInt32 &&& Int32.toUInt32 31)).toInt32) - ((z.toUInt32 >>> ((9 : Int32).toUInt32 &&& Int32.toUInt32 31)).toInt32) / 100 * 100 = h z) {K : St → Prop} : ∀ (d x : Nat) (v : Int32) (T : Tn) (S : St), x + d = m → RT S t m n r T → (∀ S1, RT S1 t m n r (drO g h n d x v T).2 → (∀ kd i, ¬ (kd = 16 ∧ i = t) → S1.1 kd i = S.1 kd i) → K S1) → wbX5_drawHers_4 t K (d + 1) v (nI x) S
  | 0, x, v, T, S, e, hT, k => by
    have hm := hT.1.1
    unfold wbX5_drawHers_4
    rw [hT.2.1.1, if_pos (nI_le (by omega) (by omega))]
    exact k S hT (fun _ _ _ => rfl)
  | d + 1, x, v, T, S, e, hT, k => by
    have hm := hT.1.1
    unfold wbX5_drawHers_4
    rw [hT.2.1.1, if_neg (nI_ge (by omega) (by omega))]
    exact ⟨n + 1, sp_dr_i hg hh (by omega) n 0 v T S (by omega) hT (fun S1 t1 w1 => sp_dr_o hg hh d (x + 1) _ _ S1 (by omega) t1 (fun S2 t2 w2 => k S2 t2 (fun kd i q => (w2 kd i q).trans (w1 kd i q))))⟩
/-- the reference -/
theorem mp_dr_i (hg : ∀ z, (z * 1103515245) + 12345 = g z) (hh : ∀ z, ((z.toUInt32 >>> ((9 : Int32).toUInt32 &&& Int32.toUInt32 31)).toInt32) - ((z.toUInt32 >>> ((9 : Int32).toUInt32 &&& Int32.toUInt32 31)).toInt32) / 100 * 100 = h z) {K : Int32 → St → Prop} {R30 : Int32 → Int32 → St → Prop} {x : Nat} (hm : m ≤ 4) (hn : n ≤ 4) (hx : x < m) : ∀ (d y : Nat) (v : Int32) (T : Tn) (S : St), y + d = n → RM S m n r T → (∀ S1, RM S1 m n r (drI g h x d y v T).2 → (∀ kd i, ¬ (kd = 45 ∧ i = 0) → S1.1 kd i = S.1 kd i) → R30 (drI g h x d y v T).1 (nI (x + 1)) S1) → wbX8_drawn_41 R30 K (nI x) (d + 1) v (nI y) S
  | 0, y, v, T, S, e, hT, k => by
    unfold wbX8_drawn_41
    rw [hT.1.2.1, if_pos (nI_le (by omega) (by omega)), nI_1]
    exact k S hT (fun _ _ _ => rfl)
  | d + 1, y, v, T, S, e, hT, k => by
    unfold wbX8_drawn_41
    rw [hT.1.2.1, if_neg (nI_ge (by omega) (by omega)), at4, nI_1, nI_clamp (by omega), hg, hh]
    refine ⟨vp_in_nI (by omega) (by omega), fun S4 e4 => ?_⟩
    refine mp_dr_i hg hh hm hn hx d (y + 1) (g v) (setT T 6 (4 * x + y) (h (g v))) S4 (by omega) (by rw [e4]; exact RM_45 hT) (fun S5 t5 w5 => k S5 t5 (fun kd i q => ?_))
    rw [w5 kd i q, e4, sa_ne q]
theorem mp_dr_o (hg : ∀ z, (z * 1103515245) + 12345 = g z) (hh : ∀ z, ((z.toUInt32 >>> ((9 : Int32).toUInt32 &&& Int32.toUInt32 31)).toInt32) - ((z.toUInt32 >>> ((9 : Int32).toUInt32 &&& Int32.toUInt32 31)).toInt32) / 100 * 100 = h z) {K : Int32 → St → Prop} (hm : m ≤ 4) (hn : n ≤ 4) : ∀ (d x : Nat) (v : Int32) (T : Tn) (S : St), x + d = m → RM S m n r T → (∀ S1, RM S1 m n r (drO g h n d x v T).2 → (∀ kd i, ¬ (kd = 45 ∧ i = 0) → S1.1 kd i = S.1 kd i) → wpX8_goes 1 S1 (fun r5 S5 => ∃ k, wbX8_drawn_99 K r5 k 0 S5)) → wbX8_drawn_30 K (d + 1) v (nI x) S
  | 0, x, v, T, S, e, hT, k => by
    unfold wbX8_drawn_30
    rw [hT.1.1, if_pos (nI_le (by omega) (by omega))]
    exact k S hT (fun _ _ _ => rfl)
  | d + 1, x, v, T, S, e, hT, k => by
    unfold wbX8_drawn_30
    rw [hT.1.1, if_neg (nI_ge (by omega) (by omega))]
    exact ⟨n + 1, mp_dr_i hg hh hm hn (by omega) n 0 v T S (by omega) hT (fun S1 t1 w1 => mp_dr_o hg hh hm hn d (x + 1) _ _ S1 (by omega) t1 (fun S2 t2 w2 => k S2 t2 (fun kd i q => (w2 kd i q).trans (w1 kd i q))))⟩
end
section
variable {m n r : Nat} {U : Rl}
def drT (m n : Nat) (T : Tn) (v : Int32) : Tn := (drO lcg drV n m 0 v T).2
def drA (m n : Nat) (U : Rl) (T : Tn) (v : Int32) : Int32 := (prj 1 (allP m n U (drT m n T v))).1
theorem sp_drawn {T : Tn} {S : St} {K : Int32 → St → Prop} {v : Int32} (hT : RT S 0 m n r T) (hU : RuC S r U) (k : ∀ S1, fk S S1 → K (drA m n U T v) S1) : wpX7_drawn v S K := by
  unfold wpX7_drawn
  refine sp_resemble (by omega) hT (fun S1 t1 _ W1 _ _ => ?_)
  have f1 : fk S S1 := ⟨⟨fun kd i w => W1 kd i (by unfold cz at w; omega), fun j _ => by rw [W1 40 0 (by omega)]⟩, fun kd i w => W1 kd i (by omega), by rw [W1 40 0 (by omega)]⟩
  refine ⟨m + 1, sp_dr_o (fun _ => rfl) (fun _ => rfl) m 0 v T S1 (by omega) t1 (fun S2 t2 w2 => ?_)⟩
  have f2 : fk S1 S2 := ⟨⟨fun kd i w => w2 kd i (by unfold cz at w; omega), fun j _ => by rw [w2 40 0 (by omega)]⟩, fun kd i w => w2 kd i (by omega), by rw [w2 40 0 (by omega)]⟩
  have f12 := fk_tr f1 f2
  refine sp_tryAll (U := U) t2 (RuC_fz hU f12.1) (fun S3 p3 f3 => ⟨pk_in 1 2 (by decide), ?_⟩)
  rw [show (1 : Int32).toNatClampNeg = 1 by decide, (PC_p p3 (show 1 < 2 by omega)).1]
  exact k S3 (fk_tr f12 f3.1)
theorem mp_d99 {K : Int32 → St → Prop} {v : Int32} : ∀ (d i : Nat) (S : St), i + d = 16 → (∀ S1, (∀ kd i, ¬ (kd = 45 ∧ i = 0) → S1.1 kd i = S.1 kd i) → (∀ j, S1.1 45 0 j = if i ≤ j ∧ j < 16 then S.1 60 0 j else S.1 45 0 j) → K v S1) → wbX8_drawn_99 K v (d + 1) (nI i) S
  | 0, i, S, e, k => by
    show if (16 : Int32) ≤ nI i then _ else _
    rw [if_pos (by rw [lit32 16]; exact nI_le (by omega) (by omega))]
    exact k S (fun _ _ _ => rfl) (fun j => by rw [if_neg (by omega)])
  | d + 1, i, S, e, k => by
    show if (16 : Int32) ≤ nI i then _ else _
    have vi : vp_in (nI i) 16 := vp_in_nI (by omega) (by omega)
    rw [if_neg (by rw [lit32 16]; exact nI_ge (by omega) (by omega)), nI_clamp (by omega), nI_1]
    refine ⟨vi, vi, fun S2 e2 => mp_d99 d (i + 1) S2 (by omega) (fun S3 w3 c3 => k S3 (fun kd i q => ?_) (fun j => ?_))⟩
    · rw [w3 kd i q, e2, sa_ne q]
    · rw [c3 j]
      by_cases q : i + 1 ≤ j ∧ j < 16
      · rw [if_pos q, if_pos (by omega), e2, sa_ne (by omega)]
      · rw [if_neg q, e2, sa_eq, upd_rd]
        by_cases q2 : j = i
        · rw [if_pos q2, if_pos (by omega), q2]
        · rw [if_neg q2, if_neg (by omega)]
theorem mp_d2 {K : Int32 → St → Prop} {v : Int32} : ∀ (d i : Nat) (S : St), i + d = 16 → (∀ S1, (∀ kd i, ¬ (kd = 60 ∧ i = 0) → S1.1 kd i = S.1 kd i) → (∀ j, S1.1 60 0 j = if i ≤ j ∧ j < 16 then S.1 45 0 j else S.1 60 0 j) → ∃ k, wbX8_drawn_30 K k v 0 S1) → wbX8_drawn_2 K v (d + 1) (nI i) S
  | 0, i, S, e, k => by
    show if (16 : Int32) ≤ nI i then _ else _
    rw [if_pos (by rw [lit32 16]; exact nI_le (by omega) (by omega))]
    exact k S (fun _ _ _ => rfl) (fun j => by rw [if_neg (by omega)])
  | d + 1, i, S, e, k => by
    show if (16 : Int32) ≤ nI i then _ else _
    have vi : vp_in (nI i) 16 := vp_in_nI (by omega) (by omega)
    rw [if_neg (by rw [lit32 16]; exact nI_ge (by omega) (by omega)), nI_clamp (by omega), nI_1]
    refine ⟨vi, vi, fun S2 e2 => mp_d2 d (i + 1) S2 (by omega) (fun S3 w3 c3 => k S3 (fun kd i q => ?_) (fun j => ?_))⟩
    · rw [w3 kd i q, e2, sa_ne q]
    · rw [c3 j]
      by_cases q : i + 1 ≤ j ∧ j < 16
      · rw [if_pos q, if_pos (by omega), e2, sa_ne (by omega)]
      · rw [if_neg q, e2, sa_eq, upd_rd]
        by_cases q2 : j = i
        · rw [if_pos q2, if_pos (by omega), q2]
        · rw [if_neg q2, if_neg (by omega)]
theorem mp_drawn {T : Tn} {S : St} {K : Int32 → St → Prop} {v : Int32} (hm : m ≤ 4) (hn : n ≤ 4) (hV : VT m n T) (hT : RM S m n r T) (hU : RuM S r U) (k : ∀ S1, RM S1 m n r T → fz S S1 → K (drA m n U T v) S1) : wpX8_drawn v S K := by
  refine ⟨16 + 1, mp_d2 16 0 S (by omega) (fun S1 w1 c1 => ⟨m + 1, ?_⟩)⟩
  have t1 : RM S1 m n r T := (RM_eq (fun kd a b => w1 kd 0 (by omega)) (fun j _ => by rw [w1 40 0 (by omega)])).mpr hT
  refine mp_dr_o (fun _ => rfl) (fun _ => rfl) hm hn m 0 v T S1 (by omega) t1 (fun S2 t2 w2 => ?_)
  have W2 : ∀ kd i, ¬ (kd = 45 ∧ i = 0) → ¬ (kd = 60 ∧ i = 0) → S2.1 kd i = S.1 kd i := fun kd i a b => (w2 kd i a).trans (w1 kd i b)
  have u2 : RuM S2 r U := RuM_fr hU (fun j _ => by rw [W2 41 0 (by omega) (by omega)]) (by rw [W2 42 0 (by omega) (by omega)])
  refine mp_goes (s := 1) hm hn (by omega) (drO_VT drV_ok m 0 v T hV) t2 u2 (fun S3 p3 t3 f3 => ⟨16 + 1, mp_d99 16 0 S3 (by omega) (fun S4 w4 c4 => k S4 ?_ ?_)⟩)
  · refine RM_pl hm hn hT (fun kd j a b _ => ?_) (fun kd j a b hj => ?_) (fun j hj => ?_)
    · rw [w4 kd 0 (by omega), f3.1 kd 0 (by omega) (by omega) (by omega) (by omega), W2 kd 0 (by omega) (by omega)]
    · rcases (show kd = 44 ∨ kd = 45 by omega) with rfl | rfl
      · rw [w4 44 0 (by omega), f3.1 44 0 (by omega) (by omega) (by omega) (by omega), W2 44 0 (by omega) (by omega)]
      · rw [c4 j, if_pos (by omega), f3.1 60 0 (by omega) (by omega) (by omega) (by omega), w2 60 0 (by omega), c1 j, if_pos (by omega)]
    · rw [w4 40 0 (by omega), f3.2 j (by omega) (by omega) (by omega), W2 40 0 (by omega) (by omega)]
  · refine ⟨fun kd i a => ?_, fun j hj => ?_⟩
    · rw [w4 kd i (by unfold cz at a; omega), f3.1 kd i (by unfold cz at a; omega) (by unfold cz at a; omega) (by unfold cz at a; omega) (by unfold cz at a; omega), W2 kd i (by unfold cz at a; omega) (by unfold cz at a; omega)]
    · rw [w4 40 0 (by omega), f3.2 j (by omega) (by omega) (by omega), W2 40 0 (by omega) (by omega)]
end
section
variable {S : St} {F : Int32 → St → Prop} {K : St → Prop} {a b c : Int32}
theorem call_drawn (R : Rel S) (hK : ∀ S1, Rel S1 → K S1) (hF : Hm F (wpX8_drawn a) K) : wpX7_drawn a S F := by
  obtain ⟨m, n, r, T, k, V, R⟩ := R
  obtain ⟨hT, hJ, hM, hV, h2, hr, h3, h4, h5⟩ := id R
  refine sp_drawn hT (h2.2.2 r hr).1 (fun S1 f1 => hF _ _ ?_)
  have m1 := RM_fk hM f1
  have R1 := Rel_q R f1.1 m1
  exact mp_drawn hT.1.1 hT.1.2.1 hV m1 (R1.2.2.2.2.1.2.2 r hr).2 (fun S2 m2 f2 => same (hK _ ⟨m, n, r, T, k, V, Rel_q R1 f2 m2⟩))
end
/-- how many of the towns, and what they have in common -/
def chF (m n : Nat) (U : Rl) (T : Tn) (v : Int32) : Nat → Nat → Nat → Nat
  | 0, _, j => j
  | d + 1, i, j => chF m n U T v d (i + 1) (if drA m n U T (v + nI i) ≤ 0 then j else j + 1)
theorem chF_le {m n : Nat} {U : Rl} {T : Tn} {v : Int32} : ∀ d i j, chF m n U T v d i j ≤ j + d
  | 0, _, j => Nat.le_refl j
  | d + 1, i, j => by
    unfold chF
    by_cases q : drA m n U T (v + nI i) ≤ 0
    · rw [if_pos q]; have := chF_le (m := m) (n := n) (U := U) (T := T) (v := v) d (i + 1) j; omega
    · rw [if_neg q]; have := chF_le (m := m) (n := n) (U := U) (T := T) (v := v) d (i + 1) (j + 1); omega
def cdF (a b : Nat) : Nat → Nat
  | 0 => 1
  | d + 1 => if d + 1 ≤ 1 then 1 else if a % (d + 1) = 0 ∧ b % (d + 1) = 0 then d + 1 else cdF a b d
def euF : Nat → Nat → Nat → Nat
  | 0, p, _ => p
  | f + 1, p, q => if q = 0 then p else euF f q (p % q)
theorem cd_eu : ∀ c, c < 21 → 1 ≤ c → ∀ j, j < 21 → j ≤ c → cdF j c c = euF 21 j c ∧ 0 < cdF j c c ∧ cdF j c c < 21 := by decide +kernel
theorem dv_l : ∀ j, j < 21 → ∀ g, g < 21 → (nI j / nI g).toInt64 = lN j / lN g := by decide +kernel
theorem rm_l : ∀ p, p < 21 → ∀ q, q < 21 → 0 < q → lN p - lN p / lN q * lN q = lN (p % q) := by decide +kernel
theorem nI_m1 (d : Nat) : nI (d + 1) + (-1) = nI d := by
  rw [← nI_1, Int32.add_assoc, show (1 : Int32) + -1 = 0 by decide, Int32.add_zero]
theorem sp_cd {a b : Nat} {S : St} {K : Int32 → St → Prop} (ha : a < 21) (hb : b < 21) : ∀ d, d < 21 → K (nI (cdF a b d)) S → wbX7_commonDivisor_2 K (nI a) (nI b) (d + 1) (nI d) S := by
  intro d
  induction d with
  | zero =>
    intro _ k
    unfold wbX7_commonDivisor_2
    rw [if_pos (by decide)]
    exact k
  | succ d ih =>
    intro hd k
    unfold wbX7_commonDivisor_2 wbX7_commonDivisor_21
    unfold cdF at k
    have n0 : ¬ nI (d + 1) = 0 := nI_ne0 (by omega) (by omega)
    have z0 : ∀ x, x < 21 → (nI x = (0 : Int32) ↔ x = 0) := fun x hx => nI_eq (b := 0) (by omega) (by omega)
    have la : a % (d + 1) < 21 := Nat.lt_of_le_of_lt (Nat.mod_le a (d + 1)) ha
    have lb : b % (d + 1) < 21 := Nat.lt_of_le_of_lt (Nat.mod_le b (d + 1)) hb
    have ra : nI a - nI a / nI (d + 1) * nI (d + 1) = nI (a % (d + 1)) := pk_rem (by omega) (by omega) (by omega)
    have rb : nI b - nI b / nI (d + 1) * nI (d + 1) = nI (b % (d + 1)) := pk_rem (by omega) (by omega) (by omega)
    rw [ra, rb, nI_m1]
    by_cases q : d + 1 ≤ 1
    · rw [if_pos q] at k
      refine if_of (fun _ => k) (fun w => absurd (nI_le (b := 1) q (by omega)) w)
    · rw [if_neg q] at k
      refine if_of (fun w => absurd w (nI_ge (a := 1) (by omega) (by omega))) (fun _ => ⟨n0, ?_⟩)
      by_cases q1 : a % (d + 1) = 0
      · have e1 : nI (a % (d + 1)) = 0 := (z0 (a % (d + 1)) la).mpr q1
        by_cases q2 : b % (d + 1) = 0
        · have e2 : nI (b % (d + 1)) = 0 := (z0 (b % (d + 1)) lb).mpr q2
          rw [if_pos ⟨q1, q2⟩] at k
          exact if_of (fun _ => ⟨n0, if_of (fun _ => k) (fun w => absurd e2 w)⟩) (fun w => absurd e1 w)
        · have e2 : ¬ nI (b % (d + 1)) = 0 := fun w => q2 ((z0 (b % (d + 1)) lb).mp w)
          rw [if_neg (fun ⟨u1, u2⟩ => q2 u2)] at k
          have g := ih (by omega) k
          exact if_of (fun _ => ⟨n0, if_of (fun w => absurd w e2) (fun _ => g)⟩) (fun w => absurd e1 w)
      · have e1 : ¬ nI (a % (d + 1)) = 0 := fun w => q1 ((z0 (a % (d + 1)) la).mp w)
        rw [if_neg (fun ⟨u1, u2⟩ => q1 u1)] at k
        have g := ih (by omega) k
        exact if_of (fun w => absurd w e1) (fun _ => g)
theorem mp_eu {x2 x3 : Int32} {x4 : Int64} {S : St} {K : Int64 → St → Prop} : ∀ f p q, p < 21 → q < 21 → q ≤ f → (if x3 = 0 then ((¬ lN (euF f p q) = 0 ∧ K (x4 / lN (euF f p q)) S)) else ((¬ lN (euF f p q) = 0 ∧ K (x2.toInt64 / lN (euF f p q)) S))) → wbX8_chance_73 K x2 x3 x4 (f + 1) (lN p) (lN q) S
  | 0, p, q, hp, hq, hf, k => by
    obtain rfl : q = 0 := by omega
    show if lg_cmp (lN 0) 0 = 0 then _ else _
    rw [if_pos (show lg_cmp (lN 0) 0 = 0 from (lg_cmp_eq _ _).mpr rfl)]
    exact k
  | f + 1, p, q, hp, hq, hf, k => by
    show if lg_cmp (lN q) 0 = 0 then _ else _
    unfold euF at k
    by_cases c : q = 0
    · rw [if_pos c] at k
      rw [if_pos ((lg_cmp_eq _ _).mpr (by rw [c]; rfl))]
      exact k
    · rw [if_neg c] at k
      have nz : ¬ lN q = 0 := fun w => c ((lN_eq (b := 0) (by omega) (by omega)).mp w)
      rw [if_neg (fun w => nz ((lg_cmp_eq _ _).mp w))]
      refine ⟨nz, ?_⟩
      rw [rm_l p hp q hq (by omega)]
      have := Nat.mod_lt p (show 0 < q by omega)
      exact mp_eu f q (p % q) hq (by omega) (by omega) k
section
variable {m n r : Nat} {T : Tn} {U : Rl}
theorem sp_ch_l {c : Nat} {v w : Int32} {F : Int64 → St → Prop} (hc : c < 21) (h1 : 1 ≤ c) : ∀ (d i j : Nat) (S : St), i + d = c → j ≤ i → RT S 0 m n r T → RuC S r U → (∀ S1, fk S S1 → F (if w = 0 then (nI (chF m n U T v d i j) / nI (cdF (chF m n U T v d i j) c c)).toInt64 else (nI c / nI (cdF (chF m n U T v d i j) c c)).toInt64) S1) → wbX7_chance_29 F v (nI c) w (d + 1) (nI j) (nI i) S
  | 0, i, j, S, e, hj, hT, hU, k => by
    show if nI c ≤ nI i then _ else _
    rw [if_pos (nI_le (by omega) (by omega))]
    have g := cd_eu c hc h1 j (by omega) (by omega)
    refine ⟨c + 1, sp_cd (by omega) hc c hc ?_⟩
    have ng : ¬ nI (cdF j c c) = 0 := nI_ne0 g.2.1 (by omega)
    have kk := k S (fk_rfl S)
    have e0 : chF m n U T v 0 i j = j := rfl
    rw [e0] at kk
    by_cases q : w = 0
    · rw [if_pos q] at kk ⊢; exact ⟨ng, kk⟩
    · rw [if_neg q] at kk ⊢; exact ⟨ng, kk⟩
  | d + 1, i, j, S, e, hj, hT, hU, k => by
    show if nI c ≤ nI i then _ else _
    rw [if_neg (nI_ge (by omega) (by omega))]
    refine sp_drawn hT hU (fun S1 f1 => ?_)
    unfold wbX7_chance_49
    rw [nI_1, nI_1]
    unfold chF at k
    have t1 := RT0_fz hT f1.1
    have u1 := RuC_fz hU f1.1
    by_cases q : drA m n U T (v + nI i) ≤ 0
    · rw [if_pos q] at k ⊢
      exact sp_ch_l hc h1 d (i + 1) j S1 (by omega) (by omega) t1 u1 (fun S2 f2 => k S2 (fk_tr f1 f2))
    · rw [if_neg q] at k ⊢
      exact sp_ch_l hc h1 d (i + 1) (j + 1) S1 (by omega) (by omega) t1 u1 (fun S2 f2 => k S2 (fk_tr f1 f2))
theorem mp_ch_l {c : Nat} {v w : Int32} {F : Int64 → St → Prop} (hm : m ≤ 4) (hn : n ≤ 4) (hV : VT m n T) (hc : c < 21) (h1 : 1 ≤ c) : ∀ (d i j : Nat) (S : St), i + d = c → j ≤ i → RM S m n r T → RuM S r U → (∀ S1, RM S1 m n r T → fz S S1 → F (if w = 0 then (nI (chF m n U T v d i j) / nI (cdF (chF m n U T v d i j) c c)).toInt64 else (nI c / nI (cdF (chF m n U T v d i j) c c)).toInt64) S1) → wbX8_chance_32 F v (nI c) w (d + 1) (lN j) (nI i) S
  | 0, i, j, S, e, hj, hT, hU, k => by
    show if nI c ≤ nI i then _ else _
    rw [if_pos (nI_le (by omega) (by omega)), nI_l (by omega)]
    obtain ⟨g1, g2, g3⟩ := cd_eu c hc h1 j (by omega) (by omega)
    refine ⟨21 + 1, mp_eu 21 j c (by omega) hc (by omega) ?_⟩
    rw [← g1]
    have ng : ¬ lN (cdF j c c) = 0 := fun w => by have := (lN_eq (b := 0) (by omega) (by omega)).mp w; omega
    have kk := k S hT (fz_rfl S)
    have e0 : chF m n U T v 0 i j = j := rfl
    rw [e0] at kk
    by_cases q : w = 0
    · rw [if_pos q] at kk ⊢
      rw [dv_l j (by omega) _ g3] at kk
      exact ⟨ng, kk⟩
    · rw [if_neg q] at kk ⊢
      rw [dv_l c (by omega) _ g3] at kk
      rw [nI_l (by omega)]
      exact ⟨ng, kk⟩
  | d + 1, i, j, S, e, hj, hT, hU, k => by
    show if nI c ≤ nI i then _ else _
    rw [if_neg (nI_ge (by omega) (by omega))]
    refine mp_drawn hm hn hV hT hU (fun S1 t1 f1 => ?_)
    unfold wbX8_chance_56
    rw [nI_1]
    unfold chF at k
    have u1 := RuM_fz hU f1
    by_cases q : drA m n U T (v + nI i) ≤ 0
    · rw [if_pos q] at k ⊢
      rw [show lN j + 0 = lN j from lN_add j 0]
      exact mp_ch_l hm hn hV hc h1 d (i + 1) j S1 (by omega) (by omega) t1 u1 (fun S2 t2 f2 => k S2 t2 (fz_tr f1 f2))
    · rw [if_neg q] at k ⊢
      rw [lN_1]
      exact mp_ch_l hm hn hV hc h1 d (i + 1) (j + 1) S1 (by omega) (by omega) t1 u1 (fun S2 t2 f2 => k S2 t2 (fz_tr f1 f2))
end
section
variable {S : St} {F : Int64 → St → Prop} {K : St → Prop} {a b c : Int32}
theorem call_chance (R : Rel S) (hK : ∀ S1, Rel S1 → K S1) (hF : ∀ (v : Int64) S1, wpX8_chance a b c S1 (fun r2 S2 => if lg_cmp v r2 = 0 then K S2 else False) → F v S1) : wpX7_chance a b c S F := by
  obtain ⟨m, n, r, T, k, V, R⟩ := R
  have hR : Rel S := ⟨m, n, r, T, k, V, R⟩
  obtain ⟨hT, hJ, hM, hV, h2, hr, h3, h4, h5⟩ := id R
  have sam : ∀ (v : Int64) (S1 : St), Rel S1 → (if lg_cmp v v = 0 then K S1 else False) := fun v S1 w => by rw [if_pos ((lg_cmp_eq _ _).mpr rfl)]; exact hK _ w
  unfold wpX7_chance
  by_cases cb : 1 ≤ b ∧ b ≤ 20
  · refine w1 cb ?_
    rw [if_neg nfi]
    by_cases cc : 0 ≤ c ∧ c ≤ 1
    · refine w1 cc ?_
      rw [if_neg nfi]
      obtain ⟨e, h1, he, rfl⟩ := in_nI (a := 1) (b := 20) (by omega) cb (by omega)
      refine ⟨e + 1, sp_ch_l (c := e) (by omega) h1 e 0 0 S (by omega) (by omega) hT (h2.2.2 r hr).1 (fun S1 f1 => hF _ _ ?_)⟩
      have m1 := RM_fk hM f1
      have R1 := Rel_q R f1.1 m1
      unfold wpX8_chance
      refine v1 cb ?_
      rw [if_neg nfi]
      refine v1 cc ?_
      rw [if_neg nfi]
      exact ⟨e + 1, mp_ch_l (c := e) hT.1.1 hT.1.2.1 hV (by omega) h1 e 0 0 S1 (by omega) (by omega) m1 (R1.2.2.2.2.1.2.2 r hr).2 (fun S2 m2 f2 => sam _ _ ⟨m, n, r, T, k, V, Rel_q R1 f2 m2⟩)⟩
    · refine w0 cc ?_
      rw [if_pos rfl]
      refine hF _ _ ?_
      unfold wpX8_chance
      refine v1 cb ?_
      rw [if_neg nfi]
      refine v0 cc ?_
      rw [if_pos rfl]
      exact sam _ _ hR
  · refine w0 cb ?_
    rw [if_pos rfl]
    refine hF _ _ ?_
    unfold wpX8_chance
    refine v0 cb ?_
    rw [if_pos rfl]
    exact sam _ _ hR
end
end
