/-! THE PURE PART: what the statements mean. First: small specs, the relation between the class's state and the reference's -/
theorem lit32 (n : Nat) : (OfNat.ofNat n : Int32) = nI n := rfl
theorem sa_rd (S : St) (kd i : Nat) (f : Nat → Int32) (kd2 i2 : Nat) : (sa S kd i f).1 kd2 i2 = if kd2 = kd ∧ i2 = i then f else S.1 kd2 i2 := rfl
theorem upd_rd (f : Nat → Int32) (k : Nat) (x : Int32) (j : Nat) : upd f k x j = if j = k then x else f j := rfl
theorem su_eq {S : St} {kd i j : Nat} {v : Int32} : (su S kd i j v).1 kd i j = v := by rw [sa_eq]; unfold upd; rw [if_pos rfl]
theorem su_nj {S : St} {kd i j j2 : Nat} {v : Int32} (h : j2 ≠ j) : (su S kd i j v).1 kd i j2 = S.1 kd i j2 := by rw [sa_eq]; unfold upd; rw [if_neg h]
theorem su_nk {S : St} {kd i j kd2 i2 : Nat} {v : Int32} (h : ¬ (kd2 = kd ∧ i2 = i)) : (su S kd i j v).1 kd2 i2 = S.1 kd2 i2 := sa_ne h
/-- numbers -/
theorem nI_ti {n : Nat} (h : n < 2 ^ 31) : (nI n).toInt = (n : Int) := nI_toInt h
theorem isIx {x : Int32} {m : Nat} (hm : m < 2 ^ 31) : (0 ≤ x ∧ x ≤ nI m - 1) ↔ ∃ i, i < m ∧ x = nI i := by
  have e1 : (1 : Int32) = nI 1 := rfl
  constructor
  · rintro ⟨h0, h1⟩
    obtain ⟨j, hj, rfl⟩ := nI_of (x := x) (Int32.not_lt.mpr h0)
    refine ⟨j, ?_, rfl⟩
    rcases Nat.eq_zero_or_pos m with h | h
    · subst h
      have : (nI 0 - 1 : Int32) = -1 := by decide
      rw [this] at h1
      have h2 := Int32.le_iff_toInt_le.mp h1
      rw [nI_toInt hj] at h2
      have : (-1 : Int32).toInt = -1 := by decide
      omega
    · rw [e1, pk_sub h] at h1
      have := (nI_leI hj (by omega)).mp h1
      omega
  · rintro ⟨i, hi, rfl⟩
    refine ⟨nI_pos' (by omega), ?_⟩
    rw [e1, pk_sub (by omega)]
    exact nI_le (by omega) (by omega)
theorem in_nI {x : Int32} {a b : Nat} (hb : b < 2 ^ 31) (h : nI a ≤ x ∧ x ≤ nI b) (ha : a ≤ b) : ∃ i, a ≤ i ∧ i ≤ b ∧ x = nI i := by
  have h0 : ¬ x < 0 := by
    intro q
    have := Int32.lt_of_le_of_lt h.1 q
    exact nI_pos (by omega) this
  obtain ⟨j, hj, rfl⟩ := nI_of h0
  exact ⟨j, (nI_leI (by omega) hj).mp h.1, (nI_leI hj hb).mp h.2, rfl⟩
/-- range checks -/
theorem w1 {x a b : Int32} {S : St} {K : Int32 → St → Prop} (h : a ≤ x ∧ x ≤ b) (k : K 1 S) : wpX7_within x a b S K := by
  unfold wpX7_within
  rw [if_neg (Int32.not_lt.mpr h.1), if_neg (Int32.not_lt.mpr h.2)]
  exact k
theorem w0 {x a b : Int32} {S : St} {K : Int32 → St → Prop} (h : ¬ (a ≤ x ∧ x ≤ b)) (k : K 0 S) : wpX7_within x a b S K := by
  unfold wpX7_within
  by_cases h1 : x < a
  · rw [if_pos h1]; exact k
  · rw [if_neg h1]
    by_cases h2 : b < x
    · rw [if_pos h2]; exact k
    · exact absurd ⟨Int32.not_lt.mp h1, Int32.not_lt.mp h2⟩ h
theorem toInt64_le {x y : Int32} : x.toInt64 ≤ y.toInt64 ↔ x ≤ y := by
  rw [Int64.le_iff_toInt_le, Int32.le_iff_toInt_le, Int32.toInt_toInt64, Int32.toInt_toInt64]
theorem lgc_neg {x y : Int64} : lg_cmp x y < 0 ↔ ¬ y ≤ x := by
  rw [← lg_cmp_ge x y]
  exact ⟨fun h => Int32.not_le.mpr h, fun h => Int32.not_le.mp h⟩
theorem lgc_pos {x y : Int64} : 0 < lg_cmp x y ↔ ¬ x ≤ y := by
  unfold lg_cmp
  by_cases h : x > y
  · rw [if_pos h]
    exact ⟨fun _ => Int64.not_le.mpr h, fun _ => by decide⟩
  · rw [if_neg h]
    by_cases h2 : x = y
    · rw [if_pos h2]
      exact ⟨fun q => absurd q (by decide), fun q => absurd (Int64.le_of_eq h2) q⟩
    · rw [if_neg h2]
      exact ⟨fun q => absurd q (by decide), fun q => absurd (Int64.not_lt.mp h) q⟩
theorem v1 {x a b : Int32} {A B : Int64} {S : St} {K : Int32 → St → Prop} (h : a ≤ x ∧ x ≤ b) (k : K 1 S) (hA : A = a.toInt64 := by decide) (hB : B = b.toInt64 := by decide) : wpX8_in x.toInt64 A B S K := by
  subst hA; subst hB
  unfold wpX8_in
  rw [if_neg (fun q => lgc_neg.mp q (toInt64_le.mpr h.1)), if_neg (fun q => lgc_pos.mp q (toInt64_le.mpr h.2))]
  exact k
theorem v0 {x a b : Int32} {A B : Int64} {S : St} {K : Int32 → St → Prop} (h : ¬ (a ≤ x ∧ x ≤ b)) (k : K 0 S) (hA : A = a.toInt64 := by decide) (hB : B = b.toInt64 := by decide) : wpX8_in x.toInt64 A B S K := by
  subst hA; subst hB
  unfold wpX8_in
  by_cases h1 : a ≤ x
  · rw [if_neg (fun q => lgc_neg.mp q (toInt64_le.mpr h1))]
    have h2 : ¬ x ≤ b := fun q => h ⟨h1, q⟩
    rw [if_pos (lgc_pos.mpr (fun q => h2 (toInt64_le.mp q)))]
    exact k
  · rw [if_pos (lgc_neg.mpr (fun q => h1 (toInt64_le.mp q)))]
    exact k
/-- people: by their numbers -/
theorem man1 {S : St} {K : Int32 → St → Prop} {m i : Nat} (hm : S.1 10 0 0 = nI m) (h4 : m ≤ 4) (hi : i < m) (k : K 1 S) : wpX7_isMan (nI i) S K := by
  unfold wpX7_isMan; rw [hm]; exact w1 ((isIx (by omega)).mpr ⟨i, hi, rfl⟩) k
theorem man0 {S : St} {K : Int32 → St → Prop} {m : Nat} {x : Int32} (hm : S.1 10 0 0 = nI m) (h4 : m ≤ 4) (hi : ¬ ∃ i, i < m ∧ x = nI i) (k : K 0 S) : wpX7_isMan x S K := by
  unfold wpX7_isMan; rw [hm]; exact w0 (fun q => hi ((isIx (by omega)).mp q)) k
theorem maid1 {S : St} {K : Int32 → St → Prop} {m i : Nat} (hm : S.1 10 0 1 = nI m) (h4 : m ≤ 4) (hi : i < m) (k : K 1 S) : wpX7_isMaid (nI i) S K := by
  unfold wpX7_isMaid; rw [hm]; exact w1 ((isIx (by omega)).mpr ⟨i, hi, rfl⟩) k
theorem maid0 {S : St} {K : Int32 → St → Prop} {m : Nat} {x : Int32} (hm : S.1 10 0 1 = nI m) (h4 : m ≤ 4) (hi : ¬ ∃ i, i < m ∧ x = nI i) (k : K 0 S) : wpX7_isMaid x S K := by
  unfold wpX7_isMaid; rw [hm]; exact w0 (fun q => hi ((isIx (by omega)).mp q)) k
theorem mman1 {S : St} {K : Int32 → St → Prop} {m i : Nat} (hm : S.1 40 0 7 = nI m) (h4 : m ≤ 4) (hi : i < m) (k : K 1 S) : wpX8_isMan (nI i) S K := by
  unfold wpX8_isMan; rw [hm]; exact v1 (b := nI m - 1) ((isIx (by omega)).mpr ⟨i, hi, rfl⟩) k (by decide) rfl
theorem mman0 {S : St} {K : Int32 → St → Prop} {m : Nat} {x : Int32} (hm : S.1 40 0 7 = nI m) (h4 : m ≤ 4) (hi : ¬ ∃ i, i < m ∧ x = nI i) (k : K 0 S) : wpX8_isMan x S K := by
  unfold wpX8_isMan; rw [hm]; exact v0 (b := nI m - 1) (fun q => hi ((isIx (by omega)).mp q)) k (by decide) rfl
theorem mmaid1 {S : St} {K : Int32 → St → Prop} {m i : Nat} (hm : S.1 40 0 8 = nI m) (h4 : m ≤ 4) (hi : i < m) (k : K 1 S) : wpX8_isMaid (nI i) S K := by
  unfold wpX8_isMaid; rw [hm]; exact v1 (b := nI m - 1) ((isIx (by omega)).mpr ⟨i, hi, rfl⟩) k (by decide) rfl
theorem mmaid0 {S : St} {K : Int32 → St → Prop} {m : Nat} {x : Int32} (hm : S.1 40 0 8 = nI m) (h4 : m ≤ 4) (hi : ¬ ∃ i, i < m ∧ x = nI i) (k : K 0 S) : wpX8_isMaid x S K := by
  unfold wpX8_isMaid; rw [hm]; exact v0 (b := nI m - 1) (fun q => hi ((isIx (by omega)).mp q)) k (by decide) rfl
theorem pair1 {S : St} {K : Int32 → St → Prop} {m n x y : Nat} (hm : S.1 10 0 0 = nI m) (hn : S.1 10 0 1 = nI n) (h4 : m ≤ 4) (h5 : n ≤ 4) (hx : x < m) (hy : y < n) (k : K 1 S) : wpX7_arePair (nI x) (nI y) S K := by
  unfold wpX7_arePair
  refine man1 hm h4 hx ?_
  rw [if_neg (by decide)]
  refine maid1 hn h5 hy ?_
  rw [if_neg (by decide)]
  exact k
theorem pair0 {S : St} {K : Int32 → St → Prop} {m n : Nat} {x y : Int32} (hm : S.1 10 0 0 = nI m) (hn : S.1 10 0 1 = nI n) (h4 : m ≤ 4) (h5 : n ≤ 4) (h : ¬ ((∃ i, i < m ∧ x = nI i) ∧ ∃ i, i < n ∧ y = nI i)) (k : K 0 S) : wpX7_arePair x y S K := by
  unfold wpX7_arePair
  by_cases hx : ∃ i, i < m ∧ x = nI i
  · obtain ⟨i, hi, rfl⟩ := id hx
    refine man1 hm h4 hi ?_
    rw [if_neg (by decide)]
    refine maid0 hn h5 (fun q => h ⟨hx, q⟩) ?_
    rw [if_pos rfl]
    exact k
  · refine man0 hm h4 hx ?_
    rw [if_pos rfl]
    exact k
theorem sp_at {x y : Nat} {S : St} {K : Int32 → St → Prop} (k : K (nI (4 * x + y)) S) : wpX5_at (nI x) (nI y) S K := by
  unfold wpX5_at
  rw [show (4 : Int32) = nI 4 from rfl, pk_mul, nI_add, Nat.mul_comm x 4]
  exact k
theorem at4 (x y : Nat) : (4 : Int32) * nI x + nI y = nI (4 * x + y) := by rw [show (4 : Int32) = nI 4 from rfl, pk_mul, nI_add]
theorem sp_repl {kd u n j : Nat} {v : Int32} {S : St} {K : Int32 → St → Prop} (hj : j < n) (hn : n < 2 ^ 31) (k : K (S.1 kd u j) (su S kd u j v)) : wpX7_replace kd u n (nI j) v S K := by
  refine ⟨vp_in_nI hj hn, vp_in_nI hj hn, fun S2 e => ?_⟩
  subst e
  rw [nI_clamp (by omega)]
  exact k
/-- THE RELATION. A town in the abstract: T 0 0 THE MONTH, T 1 NOES, T 2 wives, T 3 KINDS, T 4 NUMBERS, T 5 he likes her, T 6 she likes him -/
def husU (w : Nat → Int32) (y : Int32) : Nat → Nat → Int32
  | 0, _ => -1
  | k + 1, i => if w i = y then nI i else husU w y k (i + 1)
def VT (m n : Nat) (T : Nat → Nat → Int32) : Prop :=
  (∃ k, k ≤ 99 ∧ T 0 0 = nI k) ∧ (∀ x, x < m → ∃ k, k ≤ 9 ∧ T 1 x = nI k) ∧ (∀ y, y < n → ∃ k, k ≤ 5 ∧ T 3 y = nI k) ∧ (∀ y, y < n → ∃ k, k ≤ 9 ∧ T 4 y = nI k) ∧ (∀ x y, x < m → y < n → ∃ k, k ≤ 99 ∧ T 5 (4 * x + y) = nI k) ∧ (∀ x y, x < m → y < n → ∃ k, k ≤ 99 ∧ T 6 (4 * x + y) = nI k) ∧
  (∀ x, x < m → T 2 x = -1 ∨ ∃ y, y < n ∧ T 2 x = nI y) ∧ ∀ x x2, x < m → x2 < m → T 2 x = T 2 x2 → T 2 x ≠ -1 → x = x2
/-- the class's town t -/
def RT (S : St) (t m n r : Nat) (T : Nat → Nat → Int32) : Prop :=
  (m ≤ 4 ∧ n ≤ 4 ∧ r < 6) ∧ (S.1 10 t 0 = nI m ∧ S.1 10 t 1 = nI n ∧ S.1 10 t 2 = T 0 0 ∧ S.1 10 t 3 = nI r) ∧ (∀ x, x < m → S.1 11 t x = T 1 x ∧ S.1 12 t x = T 2 x) ∧ (∀ y, y < n → S.1 13 t y = T 3 y ∧ S.1 14 t y = T 4 y) ∧ ∀ x y, x < m → y < n → S.1 15 t (4 * x + y) = T 5 (4 * x + y) ∧ S.1 16 t (4 * x + y) = T 6 (4 * x + y)
/-- the places of people who haven't come -/
def RJ (S : St) (t m n : Nat) : Prop := (∀ x, m ≤ x → x < 4 → S.1 12 t x = -1) ∧ ∀ x y, x < 4 → y < 4 → (m ≤ x ∨ n ≤ y) → S.1 15 t (4 * x + y) = 50 ∧ S.1 16 t (4 * x + y) = 50
/-- the reference's town -/
def RM (S : St) (m n r : Nat) (T : Nat → Nat → Int32) : Prop :=
  (S.1 40 0 7 = nI m ∧ S.1 40 0 8 = nI n ∧ S.1 40 0 16 = T 0 0 ∧ S.1 40 0 4 = nI r) ∧ (∀ x, x < m → S.1 46 0 x = T 1 x ∧ S.1 47 0 x = T 2 x) ∧ (∀ y, y < n → S.1 49 0 y = T 3 y ∧ S.1 50 0 y = T 4 y ∧ S.1 48 0 y = husU (T 2) (nI y) m 0) ∧ ∀ x y, x < m → y < n → S.1 44 0 (4 * x + y) = T 5 (4 * x + y) ∧ S.1 45 0 (4 * x + y) = T 6 (4 * x + y)
/-- THE IMAGE -/
def RK (S : St) (m n r : Nat) (T : Nat → Nat → Int32) : Prop :=
  (S.1 40 0 50 = nI m ∧ S.1 40 0 51 = nI n ∧ S.1 40 0 52 = T 0 0 ∧ S.1 40 0 53 = nI r) ∧ (∀ x, x < m → S.1 63 0 x = T 1 x ∧ S.1 63 0 (4 + x) = T 2 x) ∧ (∀ y, y < n → S.1 63 0 (12 + y) = T 4 y ∧ S.1 63 0 (8 + y) = husU (T 2) (nI y) m 0) ∧ ∀ x y, x < m → y < n → S.1 61 0 (4 * x + y) = T 5 (4 * x + y) ∧ S.1 62 0 (4 * x + y) = T 6 (4 * x + y)
def R4 (S : St) (n k : Nat) (T : Nat → Nat → Int32) : Prop :=
  (S.1 0 0 6 = 0 ∧ S.1 40 0 50 = -1) ∨ (S.1 0 0 6 = 1 ∧ ∃ (m2 n2 r2 : Nat) (T2 : Nat → Nat → Int32), RT S 2 m2 n2 r2 T2 ∧ RJ S 2 m2 n2 ∧ RK S m2 n2 r2 T2 ∧ VT m2 n2 T2 ∧ r2 < k ∧ n2 ≤ n ∧ ∀ y, y < n2 → T2 3 y = T 3 y)
/-- THE TAPE -/
def R3 (S : St) : Prop := ∃ z, z ≤ 160 ∧ S.1 1 0 2 = nI z ∧ S.1 40 0 6 = nI z ∧ ∀ j, j < z → S.1 4 0 j = S.1 43 0 j ∧ ∃ b, b ≤ 255 ∧ S.1 43 0 j = nI b
/-- SHEETS -/
def R5 (S : St) : Prop := ∀ q, q < 4 → (S.1 30 q 0 = -1 ∧ S.1 64 0 q = 0) ∨ (∃ so z, so ≤ 2 ∧ z ≤ 40 ∧ S.1 30 q 0 = nI so ∧ S.1 64 0 q = 1 ∧ S.1 65 0 q = nI so ∧ S.1 30 q 1 = nI z ∧ S.1 66 0 q = nI z ∧ ∀ j, j < z → S.1 31 q j = S.1 67 0 (40 * q + j))
