section
/-! a TEXT is read: its three parts, on both sides; what a RULE says -/
def paP (z : Nat) (b : By) (j s : Nat) : Pr := if tT z b s = nI (7 + j) then bnd (pars z b 40 0 0 (nx z b s)) (fun q c => if tT z b q = 59 then .inr (nx z b q, c) else .inl q) else .inl s
def out3 (r : Nat ⊕ List (List Int32)) (A : Nat → Prop) (B : List (List Int32) → Prop) : Prop := match r with | .inl f => A f | .inr c => B c
theorem out_c {r : Pr} {A : Nat → Prop} {B B2 : Nat → List Int32 → Prop} (h : ∀ q c, B q c = B2 q c) : out r A B = out r A B2 := by
  rw [show B = B2 from funext (fun q => funext (h q))]
section
variable {z : Nat} {b : By}
theorem parP_o {n j s : Nat} {cs : List (List Int32)} {A : Nat → Prop} {B : List (List Int32) → Prop} : out3 (parP z b (n + 1) j s cs) A B = out (paP z b j s) A (fun q c => out3 (parP z b n (j + 1) q (cs ++ [c])) A B) := by
  have e : parP z b (n + 1) j s cs = if tT z b s = nI (7 + j) then (match pars z b 40 0 0 (nx z b s) with | .inl f => .inl f | .inr x => if tT z b x.1 = 59 then parP z b n (j + 1) (nx z b x.1) (cs ++ [x.2]) else .inl x.1) else .inl s := rfl
  rw [e]
  unfold paP
  by_cases q : tT z b s = nI (7 + j)
  · rw [if_pos q, if_pos q, out_bnd]
    cases pars z b 40 0 0 (nx z b s) with
    | inl f => rfl
    | inr x =>
      show out3 (if tT z b x.1 = 59 then parP z b n (j + 1) (nx z b x.1) (cs ++ [x.2]) else .inl x.1) A B = out (if tT z b x.1 = 59 then .inr (nx z b x.1, x.2) else .inl x.1) A (fun q c => out3 (parP z b n (j + 1) q (cs ++ [c])) A B)
      by_cases q2 : tT z b x.1 = 59
      · rw [if_pos q2, if_pos q2]; rfl
      · rw [if_neg q2, if_neg q2]; rfl
  · rw [if_neg q, if_neg q]; rfl
theorem rd_out {A : Nat → Prop} {B : List (List Int32) → Prop} : out3 (rdP z b) A B = out (paP z b 0 (tkS z b 0)) A (fun q1 c1 => out (paP z b 1 q1) A (fun q2 c2 => out (paP z b 2 q2) A (fun q3 c3 => if tT z b q3 = -1 then B [c1, c2, c3] else A q3))) := by
  have e3 : ∀ q3 (c1 c2 c3 : List Int32), out3 (parP z b 0 3 q3 [c1, c2, c3]) A B = if tT z b q3 = -1 then B [c1, c2, c3] else A q3 := fun q3 c1 c2 c3 => by
    unfold parP
    by_cases q : tT z b q3 = -1
    · rw [if_pos q, if_pos q]; rfl
    · rw [if_neg q, if_neg q]; rfl
  have e2 : ∀ q2 (c1 c2 : List Int32), out3 (parP z b (0 + 1) 2 q2 [c1, c2]) A B = out (paP z b 2 q2) A (fun q3 c3 => if tT z b q3 = -1 then B [c1, c2, c3] else A q3) := fun q2 c1 c2 => by
    rw [parP_o]; exact out_c (fun q3 c3 => e3 q3 c1 c2 c3)
  have e1 : ∀ q1 (c1 : List Int32), out3 (parP z b (1 + 1) 1 q1 [c1]) A B = out (paP z b 1 q1) A (fun q2 c2 => out (paP z b 2 q2) A (fun q3 c3 => if tT z b q3 = -1 then B [c1, c2, c3] else A q3)) := fun q1 c1 => by
    rw [parP_o]; exact out_c (fun q2 c2 => e2 q2 c1 c2)
  show out3 (parP z b (2 + 1) 0 (tkS z b 0) []) A B = _
  rw [parP_o]
  exact out_c (fun q1 c1 => e1 q1 c1)
theorem paP_ok {j s : Nat} (hj : j < 3) (hs : s ≤ z) : out (paP z b j s) (fun f => f ≤ z) (okR z s) := by
  unfold paP
  by_cases q : tT z b s = nI (7 + j)
  · rw [if_pos q, out_bnd]
    have nl := nx_le (b := b) (lt_of_tT (z := z) (b := b) (s := s) (by rw [q]; exact nI_nm1 (by omega)))
    refine out_m (pars_ok 40 0 0 (by omega) _ nl.2) (pars_ok 40 0 0 (by omega) _ nl.2) (fun f a _ => a) (fun q2 c a _ => ?_)
    obtain ⟨a1, a2, a3, a4⟩ := a
    by_cases q3 : tT z b q2 = 59
    · rw [if_pos q3]
      have n2 := nx_le (b := b) (lt_of_tT (z := z) (b := b) (s := q2) (by rw [q3]; decide))
      exact ⟨by show s + c.length ≤ _; omega, by show s < _; omega, n2.2, a4⟩
    · rw [if_neg q3]; exact a3
  · rw [if_neg q]; exact hs
end
/-! the reference -/
section
variable {z r : Nat} {b : By} {env : Nat → Int32}
theorem mp_p34B {S : St} {g : Nat} {v : Int32} {K : Int32 → St → Prop} (w : Bd S g) (k : K v S) : wbX8_part_34 K v S := by
  unfold wbX8_part_34
  refine mp_signB w ?_
  rw [if_pos rfl]
  refine mp_failB w ?_
  unfold wbX8_part_48
  rw [if_neg (nI_B w)]
  exact k
theorem mp_pB {S : St} {g : Nat} {K : Int32 → St → Prop} (w : Bd S g) (k : ∀ v, K v S) : wbX8_part_8 K S := by
  unfold wbX8_part_8 wbX8_part_19
  rw [if_neg (nI_B w), if_neg (nI_B w)]
  exact mp_p34B w (k 0)
theorem mp_part {j s : Nat} {S : St} {K : Int32 → St → Prop} (hz : z ≤ 160) (hj : j < 3) (hs : s ≤ z) (h : Mt z b r S s) (h29 : S.1 40 0 29 = nI 0) (he : Ev env S) (k : out (paP z b j s) (fun g => ∀ v S1, Bd S1 g → fx S S1 → K v S1) (fun q c => ∀ S1, Mt z b r S1 q → S1.1 40 0 29 = nI 0 → fx S S1 → K (ev env c) S1)) : wpX8_part (bI (decide (tT z b s = nI (7 + j)))) S K := by
  unfold wpX8_part
  unfold paP at k
  refine bI_if (fun q => ?_) (fun q => ?_)
  · rw [if_neg (of_decide_eq_false q)] at k
    exact mp_fail h (fun S1 w1 f1 => mp_pB w1 (fun v => k v S1 w1 f1))
  · have q := of_decide_eq_true q
    rw [if_pos q, out_bnd] at k
    have n1 : tT z b s ≠ -1 := by rw [q]; exact nI_nm1 (by omega)
    have n2 : tT z b s ≠ -2 := by rw [q]; exact nI_n2 (by omega)
    have nl := nx_le (b := b) (lt_of_tT n1)
    unfold wbX8_part_8
    rw [if_pos h.2.2.2.1]
    refine mp_nx h n1 n2 (fun S1 h1 f1 => ?_)
    unfold wbX8_part_19
    rw [if_pos h1.2.2.2.1]
    refine mp_pars hz 40 0 0 60 (by omega) (by omega) (by omega) (by omega) (nx z b s) S1 _ nl.2 h1 (by rw [f1.2 29 (by omega)]; exact h29) (Ev_fx he (fx_fn f1)) (out_m k k (fun g k1 _ => fun v S2 w2 f2 => ?_) (fun q2 c k1 _ => fun S2 h2 h229 f2 => ?_))
    · exact mp_p34B w2 (k1 v S2 w2 (fx_tr (fx_fn f1) f2))
    · unfold wbX8_part_34
      refine mp_isSign (v := 59) h2 (by omega) (by omega) (bI_if (fun q3 => ?_) (fun q3 => ?_))
      · have t : ¬ tT z b q2 = 59 := of_decide_eq_false q3
        rw [if_neg t] at k1
        refine mp_fail h2 (fun S3 w3 f3 => ?_)
        unfold wbX8_part_48
        rw [if_neg (nI_B w3)]
        exact k1 _ S3 w3 (fx_tr (fx_fn f1) (fx_tr f2 f3))
      · have t : tT z b q2 = 59 := of_decide_eq_true q3
        rw [if_pos t] at k1
        unfold wbX8_part_48
        rw [if_pos h2.2.2.2.1]
        exact mp_nx h2 (by rw [t]; decide) (by rw [t]; decide) (fun S3 h3 f3 => k1 S3 h3 (by rw [f3.2 29 (by omega)]; exact h229) (fx_tr (fx_fn f1) (fx_tr f2 (fx_fn f3))))
theorem mp_r146 {x2 x3 x4 x5 : Int32} {S : St} {K : Int32 → St → Prop} (k : ∀ v, K v S) : wbX8_read_146 K x2 x3 x4 x5 S := if_of (fun _ => k _) (fun _ => if_of (fun _ => k _) (fun _ => k _))
theorem mp_r126B {g : Nat} {x2 x3 x4 x5 : Int32} {S : St} {K : Int32 → St → Prop} (w : Bd S g) (k : ∀ v, K v S) : wbX8_read_126 K x2 x3 x4 x5 S := by
  unfold wbX8_read_126
  rw [if_neg (nI_B w)]
  exact mp_r146 k
theorem mp_r92B {g : Nat} {x2 x3 x4 : Int32} {S : St} {K : Int32 → St → Prop} (w : Bd S g) (k : ∀ v, K v S) : wbX8_read_92 K x2 x3 x4 S := by
  unfold wbX8_read_92
  rw [if_neg (nI_B w)]
  exact mp_r126B w k
theorem tK_0 {s : Nat} : tT z b s = -1 ↔ tK z b s = 0 := by
  rcases tk_cases (z := z) (b := b) s with c | c | c | c | c
  · rw [c.1, c.2.1]; decide
  · rw [c.1]
    rcases tT_w c.1 with q | ⟨j, hj, q⟩
    · rw [q]; decide
    · rw [q]; exact ⟨fun w => absurd w (nI_nm1 (by omega)), fun w => absurd w (by decide)⟩
  · rw [c.1, c.2.2]; decide
  · rw [c.1, c.2.2.1]
    obtain ⟨i, i1, i2, i3⟩ := sg_13 c.2.2.2
    rw [i3]; exact ⟨fun w => absurd w (nI_nm1 (by omega)), fun w => absurd w (by decide)⟩
  · rw [c.1, c.2.2]; decide
theorem mp_read {p : Nat} {S : St} {K : Int32 → St → Prop} (hz : z ≤ 160) (hr : r < 6) (hp : p < 3) (h41 : ∀ j, j < z → S.1 41 0 (160 * r + j) = b j ∧ ∃ v, v ≤ 255 ∧ b j = nI v) (h42 : S.1 42 0 r = nI z) (he : Ev env S) (k : out3 (rdP z b) (fun g => ∀ v S1, Bd S1 g → fx S S1 → K v S1) (fun cs => ∀ S1, S1.1 40 0 30 = 0 → fx S S1 → K (ev env (cs.getD p [])) S1)) : wpX8_read (nI r) (nI p) S K := by
  rw [rd_out] at k
  unfold wpX8_read
  intro S1 e1
  refine ⟨vp_in_nI hr (by omega), fun S3 e3 => fun S4 e4 => fun S5 e5 => fun S6 e6 => ?_⟩
  rw [nI_clamp (by omega)] at e3
  have f6 : fx S S6 := by rw [e6, e5, e4, e3, e1]; exact fx_su (fx_su (fx_su (fx_su (fx_su (fx_rfl S)))))
  have b6 : Mb z b r S6 := by
    refine ⟨⟨hz, hr⟩, ⟨?_, ?_⟩, fun j hj => by rw [f6.1 41 0 (by omega)]; exact h41 j hj⟩
    · rw [e6, su_nj (by omega), e5, su_nj (by omega), e4, su_nj (by omega), e3, su_nj (by omega), e1, su_eq, lit32 160, pk_mul]
    · rw [e6, su_nj (by omega), e5, su_nj (by omega), e4, su_nj (by omega), e3, su_eq, e1, sa_ne (by omega)]; exact h42
  refine mp_next b6 (by rw [e6, su_eq]) (Nat.zero_le z) (by rw [e6, su_nj (by omega), e5, su_nj (by omega), e4, su_eq]; rfl) (fun S7 h7 f7 => ?_)
  have g7 := fx_tr f6 (fx_fn f7)
  have c29 : S7.1 40 0 29 = nI 0 := by rw [f7.2 29 (by omega), e6, su_nj (by omega), e5, su_eq]; rfl
  have s0 := (tkS_le (z := z) (b := b) (Nat.zero_le z)).2
  refine mp_isWord (j := 6) h7 (by omega) (by decide) ?_
  refine mp_part (j := 0) hz (by omega) s0 h7 c29 (Ev_fx he g7) (out_m k (paP_ok (by omega) s0) (fun g k1 _ => fun v S9 w9 f9 => ?_) (fun q1 c1 k1 ok1 => fun S9 h9 h929 f9 => ?_))
  · rw [if_neg (nI_B w9)]
    exact mp_r92B w9 (fun v => k1 v S9 w9 (fx_tr g7 f9))
  have g9 := fx_tr g7 f9
  rw [if_pos h9.2.2.2.1]
  refine mp_isWord (j := 7) h9 (by omega) (by decide) ?_
  refine mp_part (j := 1) hz (by omega) ok1.2.2.1 h9 h929 (Ev_fx he g9) (out_m k1 (paP_ok (by omega) ok1.2.2.1) (fun g k2 _ => fun v S12 w12 f12 => ?_) (fun q2 c2 k2 ok2 => fun S12 h12 h1229 f12 => ?_))
  · exact mp_r92B w12 (fun v => k2 v S12 w12 (fx_tr g9 f12))
  have g12 := fx_tr g9 f12
  unfold wbX8_read_92
  rw [if_pos h12.2.2.2.1]
  refine mp_isWord (j := 8) h12 (by omega) (by decide) ?_
  refine mp_part (j := 2) hz (by omega) ok2.2.2.1 h12 h1229 (Ev_fx he g12) (out_m k2 (paP_ok (by omega) ok2.2.2.1) (fun g k3 _ => fun v S15 w15 f15 => ?_) (fun q3 c3 k3 ok3 => fun S15 h15 h1529 f15 => ?_))
  · exact mp_r126B w15 (fun v => k3 v S15 w15 (fx_tr g12 f15))
  have g15 := fx_tr g12 f15
  unfold wbX8_read_126
  rw [if_pos h15.2.2.2.1]
  by_cases q : tT z b q3 = -1
  · rw [if_pos q] at k3
    rw [if_pos (h15.2.2.1.trans (tK_0.mp q))]
    have kk := k3 S15 h15.2.2.2.1 g15
    unfold wbX8_read_146
    rcases (show p = 0 ∨ p = 1 ∨ p = 2 by omega) with rfl | rfl | rfl
    · rw [if_pos (show nI 0 = 0 from rfl)]; exact kk
    · rw [if_neg (show ¬ nI 1 = 0 by decide), if_pos (show nI 1 = 1 from rfl)]; exact kk
    · rw [if_neg (show ¬ nI 2 = 0 by decide), if_neg (show ¬ nI 2 = 1 by decide)]; exact kk
  · rw [if_neg q] at k3
    rw [if_neg (by rw [h15.2.2.1]; exact fun w => q (tK_0.mpr w))]
    exact mp_fail h15 (fun S18 w18 f18 => mp_r146 (fun v => k3 v S18 w18 (fx_tr g15 f18)))
end
def envF (a1 a2 a3 a4 a5 a6 : Int32) : Nat → Int32
  | 1 => a1
  | 2 => a2
  | 3 => a3
  | 4 => a4
  | 5 => a5
  | 6 => a6
  | _ => 0
def ruF (cs : List (List Int32)) : Rl := fun p a1 a2 a3 a4 a5 a6 => ev (envF a1 a2 a3 a4 a5 a6) (cs.getD p [])
theorem env_ok {f : Nat → Int32} {i : Nat} (h1 : 1 ≤ i) (h6 : i ≤ 6) : f i = envF (f 1) (f 2) (f 3) (f 4) (f 5) (f 6) i := by
  rcases (show i = 1 ∨ i = 2 ∨ i = 3 ∨ i = 4 ∨ i = 5 ∨ i = 6 by omega) with rfl | rfl | rfl | rfl | rfl | rfl <;> rfl
theorem fq_fx {S S1 : St} (h : fx S S1) : fq S S1 := ⟨fun kd i _ _ c => h.1 kd i c, fun j q => h.2 j (by omega)⟩
theorem RuM_of {z r : Nat} {b : By} {S : St} {cs : List (List Int32)} (hz : z ≤ 160) (hr : r < 6) (h41 : ∀ j, j < z → S.1 41 0 (160 * r + j) = b j ∧ ∃ v, v ≤ 255 ∧ b j = nI v) (h42 : S.1 42 0 r = nI z) (hc : rdP z b = .inr cs) : RuM S r (ruF cs) := by
  intro p S1 K hp a1 a2 k
  refine mp_read (z := z) (b := b) (env := envF (S1.1 40 0 17) (S1.1 40 0 18) (S1.1 40 0 19) (S1.1 40 0 20) (S1.1 40 0 21) (S1.1 40 0 22)) hz hr hp (fun j hj => by rw [a1 j (by omega)]; exact h41 j hj) (a2.trans h42) (fun i i1 i6 => env_ok (f := fun i => S1.1 40 0 (16 + i)) i1 i6) ?_
  rw [hc]
  exact fun S2 _ f2 => k S2 (fq_fx f2)
/-! the class -/
def fr3 (S S1 : St) : Prop := (∀ kd i, kd ≠ 1 → kd ≠ 2 → kd ≠ 3 → S1.1 kd i = S.1 kd i) ∧ S1.1 1 0 2 = S.1 1 0 2
theorem fr3_tr {S S1 S2 : St} (h : fr3 S S1) (g : fr3 S1 S2) : fr3 S S2 := ⟨fun kd i a c d => (g.1 kd i a c d).trans (h.1 kd i a c d), g.2.trans h.2⟩
theorem fr3_fy {S S1 : St} (h : fy S S1) : fr3 S S1 := ⟨fun kd i a c _ => h.1 kd i a c, h.2⟩
theorem fr3_3 {S : St} {j : Nat} {v : Int32} : fr3 S (su S 3 0 j v) := ⟨fun kd i _ _ c => sa_ne (by omega), by rw [sa_ne (by omega)]⟩
section
variable {z : Nat} {b : By}
theorem sp_levW {g : Nat} (hg : g < 2 ^ 31) : ∀ (d lv f op : Nat) (S : St) (K : St → Prop), lv + d = 5 → d + 2 ≤ f → Wr S g → (∀ S1, Wr S1 g → fy S S1 → K S1) → wpG0 f 0 (nI lv) (nI op) S K
  | 0, lv, f, op, S, K, e, hf, w, k => by
    obtain ⟨f1, rfl⟩ : ∃ f1, f = f1 + 1 + 1 := ⟨f - 2, by omega⟩
    obtain rfl : lv = 5 := by omega
    rw [wpG0_0]
    unfold wpX2_readLevel
    rw [if_neg (by decide), wpG0_1]
    unfold wpX2_readOne
    rw [w.1, if_neg (by decide), if_pos (by decide)]
    unfold wbX2_readOne_55
    rw [w.1, if_neg (by decide), if_neg (by decide)]
    exact sp_failW hg w k
  | d + 1, lv, f, op, S, K, e, hf, w, k => by
    obtain ⟨f1, rfl⟩ : ∃ f1, f = f1 + 1 := ⟨f - 1, by omega⟩
    rw [wpG0_0]
    unfold wpX2_readLevel
    rw [if_pos (show nI lv ≤ (4 : Int32) from nI_le (b := 4) (by omega) (by omega)), w.1]
    have go : wbX2_readLevel_48 (wpG0 f1) K (nI lv) (nI op) S := by
      unfold wbX2_readLevel_48 wbX2_readLevel_68
      rw [nI_1]
      refine sp_levW hg d (lv + 1) f1 op S _ (by omega) (by omega) w (fun S1 w1 f1 => ?_)
      exact if_of (fun _ => ⟨1, sp_loW (by omega) w1 (k S1 w1 f1)⟩) (fun _ => ⟨1, sp_loW (by omega) w1 (k S1 w1 f1)⟩)
    refine if_of (fun _ => ?_) (fun _ => go)
    rw [if_neg (by decide)]
    exact go
theorem sp_partW {g j : Nat} {S : St} {K : St → Prop} (hg : g < 2 ^ 31) (hj : j < 3) (w : Wr S g) (k : ∀ S1, Wr S1 g → fr3 S S1 → K S1) : wpX2_expect (7 + nI j) S (fun S7 => wpG0 60 0 0 0 S7 (fun S8 => wpX2_expect 59 S8 (fun S9 => (vp_in (nI j) 3 ∧ ∀ S10, S10 = su S9 3 0 (nI j).toNatClampNeg (S9.1 1 0 4) → K S10)))) := by
  have e7 : (7 : Int32) + nI j = nI (7 + j) := nI_add 7 j
  rw [e7]
  refine sp_expW hg w (nI_n2 (by omega)) (fun S7 w7 f7 => ?_)
  refine sp_levW hg 5 0 60 0 S7 _ (by omega) (by omega) w7 (fun S8 w8 f8 => ?_)
  refine sp_expW hg w8 (by decide) (fun S9 w9 f9 => ⟨vp_in_nI hj (by omega), fun S10 e10 => ?_⟩)
  refine k S10 ?_ (fr3_tr (fr3_fy (fy_tr f7 (fy_tr f8 f9))) (by rw [e10]; exact fr3_3))
  unfold Wr at w9 ⊢
  rw [e10, sa_ne (by omega)]; exact w9
theorem sp_partG {j s : Nat} {c0 : List Int32} {S : St} {K : St → Prop} (hz : z ≤ 160) (hj : j < 3) (hs : s ≤ z) (h : Ct z b S s) (hc : Cd S c0) (hl : c0.length ≤ s) (k : out (paP z b j s) (fun g => ∀ S1, Wr S1 g → fr3 S S1 → K S1) (fun q c => ∀ S1, Ct z b S1 q → Cd S1 (c0 ++ c) → S1.1 3 0 j = nI (c0 ++ c).length → (∀ i, i ≠ j → S1.1 3 0 i = S.1 3 0 i) → fr3 S S1 → K S1)) : wpX2_expect (7 + nI j) S (fun S7 => wpG0 60 0 0 0 S7 (fun S8 => wpX2_expect 59 S8 (fun S9 => (vp_in (nI j) 3 ∧ ∀ S10, S10 = su S9 3 0 (nI j).toNatClampNeg (S9.1 1 0 4) → K S10)))) := by
  have e7 : (7 : Int32) + nI j = nI (7 + j) := nI_add 7 j
  have wrE : ∀ (g : Nat) (S9 S10 : St), Wr S9 g → S10 = su S9 3 0 (nI j).toNatClampNeg (S9.1 1 0 4) → Wr S10 g := fun g S9 S10 w9 e10 => by
    unfold Wr at w9 ⊢
    rw [e10, sa_ne (by omega)]; exact w9
  rw [e7]
  unfold paP at k
  refine sp_exp h hc (by omega) (nI_nm1 (by omega)) (nI_n2 (by omega)) (fun q S7 h7 hc7 f7 => ?_) (fun q S7 w7 f7 => ?_)
  · rw [if_pos q, out_bnd] at k
    have nl := nx_le (b := b) (lt_of_tT (z := z) (b := b) (s := s) (by rw [q]; exact nI_nm1 (by omega)))
    refine (sp_pars (z := z) (b := b) hz 40).1 0 0 60 (by omega) (by omega) (by omega) (by omega) (nx z b s) c0 S7 _ nl.2 h7 hc7 (by omega) (out_m k (pars_ok 40 0 0 (by omega) _ nl.2) (fun g k1 hg => fun S8 w8 f8 => ?_) (fun q2 c k1 ok => fun S8 h8 hc8 f8 => ?_))
    · refine sp_expW (by omega) w8 (by decide) (fun S9 w9 f9 => ⟨vp_in_nI hj (by omega), fun S10 e10 => ?_⟩)
      exact k1 S10 (wrE _ _ _ w9 e10) (fr3_tr (fr3_fy (fy_tr f7 (fy_tr f8 f9))) (by rw [e10]; exact fr3_3))
    · obtain ⟨o1, o2, o3, _⟩ := ok
      refine sp_exp h8 hc8 (by rw [List.length_append]; omega) (by decide) (by decide) (fun q3 S9 h9 hc9 f9 => ⟨vp_in_nI hj (by omega), fun S10 e10 => ?_⟩) (fun q3 S9 w9 f9 => ⟨vp_in_nI hj (by omega), fun S10 e10 => ?_⟩)
      · rw [if_pos q3] at k1
        rw [nI_clamp (by omega)] at e10
        have f79 := fy_tr f7 (fy_tr f8 f9)
        refine k1 S10 ?_ ?_ ?_ (fun i hi => ?_) (fr3_tr (fr3_fy f79) (by rw [e10]; exact fr3_3))
        · unfold Ct Cb at h9 ⊢
          rw [e10, sa_ne (by omega), sa_ne (by omega)]; exact h9
        · unfold Cd at hc9 ⊢
          rw [e10, sa_ne (by omega), sa_ne (by omega)]; exact hc9
        · rw [e10, su_eq]; exact hc9.1
        · rw [e10, su_nj hi, f79.1 3 0 (by omega) (by omega)]
      · rw [if_neg q3] at k1
        exact k1 S10 (wrE _ _ _ w9 e10) (fr3_tr (fr3_fy (fy_tr f7 (fy_tr f8 f9))) (by rw [e10]; exact fr3_3))
  · rw [if_neg q] at k
    refine sp_levW (g := s) (by omega) 5 0 60 0 S7 _ (by omega) (by omega) w7 (fun S8 w8 f8 => ?_)
    refine sp_expW (by omega) w8 (by decide) (fun S9 w9 f9 => ⟨vp_in_nI hj (by omega), fun S10 e10 => ?_⟩)
    exact k S10 (wrE _ _ _ w9 e10) (fr3_tr (fr3_fy (fy_tr f7 (fy_tr f8 f9))) (by rw [e10]; exact fr3_3))
theorem rd_s {n j : Nat} {S : St} {K : Int32 → St → Prop} (hj : j < 3) (k : wpX2_expect (7 + nI j) S (fun S7 => wpG0 60 0 0 0 S7 (fun S8 => wpX2_expect 59 S8 (fun S9 => (vp_in (nI j) 3 ∧ ∀ S10, S10 = su S9 3 0 (nI j).toNatClampNeg (S9.1 1 0 4) → wbX2_read_21 K n (nI (j + 1)) S10))))) : wbX2_read_21 K (n + 1) (nI j) S := by
  unfold wbX2_read_21
  rw [if_neg (show ¬ (3 : Int32) ≤ nI j from nI_ge (b := 3) hj (by decide)), nI_1]
  exact k
theorem rd_e {n : Nat} {S : St} {K : Int32 → St → Prop} (k : wpX2_expect (-1) S (fun S6 => K (S6.1 1 0 9) S6)) : wbX2_read_21 K (n + 1) (nI 3) S := by
  unfold wbX2_read_21
  rw [if_pos (show (3 : Int32) ≤ nI 3 by decide)]
  exact k
def CE (f e : Nat → Int32) (cs : List (List Int32)) : Prop := ∃ c1 c2 c3 : List Int32, cs = [c1, c2, c3] ∧ (Gd c1 ∧ Gd c2 ∧ Gd c3) ∧ (c1 ++ c2 ++ c3).length ≤ 160 ∧ (e 0 = nI c1.length ∧ e 1 = nI (c1 ++ c2).length ∧ e 2 = nI (c1 ++ c2 ++ c3).length) ∧ ∀ i, i < (c1 ++ c2 ++ c3).length → f i = (c1 ++ c2 ++ c3).getD i 0
theorem sp_eW {g : Nat} {S : St} {K : Int32 → St → Prop} {n : Nat} (hg : g < 2 ^ 31) (w : Wr S g) (k : ∀ S1, fr3 S S1 → K (nI g) S1) : wbX2_read_21 K (n + 1) (nI 3) S := by
  refine rd_e (sp_expW hg w (by decide) (fun S1 w1 f1 => ?_))
  rw [w1.2.1]
  exact k S1 (fr3_fy f1)
theorem sp_read {S : St} {K : Int32 → St → Prop} (h : Cb z b S) (k : out3 (rdP z b) (fun g => ∀ S1, fr3 S S1 → K (nI g) S1) (fun cs => ∀ S1, CE (S1.1 2 0) (S1.1 3 0) cs → fr3 S S1 → K (-1) S1)) : wpX2_read S K := by
  have hz := h.1.1
  rw [rd_out] at k
  unfold wpX2_read
  intro S1 e1 S2 e2 S3 e3
  have f3 : fr3 S S3 := by rw [e3, e2, e1]; exact ⟨fun kd i a _ _ => by rw [sa_ne (by omega), sa_ne (by omega), sa_ne (by omega)], by rw [su_nj (by omega), su_nj (by omega), su_nj (by omega)]⟩
  have b3 : Cb z b S3 := by
    unfold Cb at h ⊢
    rw [f3.2, f3.1 4 0 (by omega) (by omega) (by omega)]; exact h
  refine sp_advance b3 (by rw [e3, su_eq]) (Nat.zero_le z) (by rw [e3, su_nj (by omega), e2, su_eq]; rfl) (fun S4 h4 f4 => ⟨3 + 1, ?_⟩)
  have g4 := fr3_tr f3 (fr3_fy (fy_fa f4))
  have c4 : Cd S4 [] := ⟨by rw [f4.2 4 (by omega), e3, su_nj (by omega), e2, su_nj (by omega), e1, su_eq]; rfl, fun i hi => absurd hi (Nat.not_lt_zero i)⟩
  have s0 := (tkS_le (z := z) (b := b) (Nat.zero_le z)).2
  refine rd_s (j := 0) (by omega) (sp_partG hz (by omega) s0 h4 c4 (Nat.zero_le _) (out_m k (paP_ok (by omega) s0) (fun g k1 hg => fun S5 w5 f5 => ?_) (fun q1 c1 k1 ok1 => fun S5 h5 hc5 en5 _ f5 => ?_)))
  · refine rd_s (j := 1) (by omega) (sp_partW (by omega) (by omega) w5 (fun S6 w6 f6 => rd_s (j := 2) (by omega) (sp_partW (by omega) (by omega) w6 (fun S7 w7 f7 => sp_eW (by omega) w7 (fun S8 f8 => k1 S8 (fr3_tr g4 (fr3_tr f5 (fr3_tr f6 (fr3_tr f7 f8)))))))))
  have g5 := fr3_tr g4 f5
  obtain ⟨o11, o12, o13, o14⟩ := ok1
  rw [List.nil_append] at hc5 en5
  refine rd_s (j := 1) (by omega) (sp_partG hz (by omega) o13 h5 hc5 (by omega) (out_m k1 (paP_ok (by omega) o13) (fun g k2 hg => fun S6 w6 f6 => ?_) (fun q2 c2 k2 ok2 => fun S6 h6 hc6 en6 ne6 f6 => ?_)))
  · exact rd_s (j := 2) (by omega) (sp_partW (by omega) (by omega) w6 (fun S7 w7 f7 => sp_eW (by omega) w7 (fun S8 f8 => k2 S8 (fr3_tr g5 (fr3_tr f6 (fr3_tr f7 f8))))))
  have g6 := fr3_tr g5 f6
  obtain ⟨o21, o22, o23, o24⟩ := ok2
  refine rd_s (j := 2) (by omega) (sp_partG hz (by omega) o23 h6 hc6 (by rw [List.length_append]; omega) (out_m k2 (paP_ok (by omega) o23) (fun g k3 hg => fun S7 w7 f7 => ?_) (fun q3 c3 k3 ok3 => fun S7 h7 hc7 en7 ne7 f7 => ?_)))
  · exact sp_eW (by omega) w7 (fun S8 f8 => k3 S8 (fr3_tr g6 (fr3_tr f7 f8)))
  have g7 := fr3_tr g6 f7
  obtain ⟨o31, o32, o33, o34⟩ := ok3
  refine rd_e ?_
  by_cases q : tT z b q3 = -1
  · rw [if_pos q] at k3
    unfold wpX2_expect
    rw [h7.2.2.1, if_pos q, if_pos q]
    show K (S7.1 1 0 9) S7
    rw [h7.2.2.2.1]
    refine k3 S7 ⟨c1, c2, c3, rfl, ⟨o14, o24, o34⟩, ?_, ⟨?_, ?_, en7⟩, hc7.2⟩ g7
    · rw [List.length_append, List.length_append]; omega
    · rw [ne7 0 (by omega), ne6 0 (by omega)]; exact en5
    · rw [ne7 1 (by omega)]; exact en6
  · rw [if_neg q] at k3
    unfold wpX2_expect
    rw [h7.2.2.1, if_neg q]
    refine sp_fail h7 hc7 (by rw [List.length_append, List.length_append]; omega) (fun S8 w8 f8 => ?_)
    show K (S8.1 1 0 9) S8
    rw [w8.2.1]
    exact k3 S8 (fr3_tr g7 (fr3_fy f8))
end
/-! what a RULE's codes are worth -/
def SK (f : Nat → Int32) (st : List Int32) : Prop := ∀ j, j < st.length → f (st.length - 1 - j) = st.getD j 0
theorem SK_tl {f : Nat → Int32} {x : Int32} {r : List Int32} (h : SK f (x :: r)) : SK f r := fun j hj => by
  have := h (j + 1) (by simp; omega)
  rw [show (x :: r).length - 1 - (j + 1) = r.length - 1 - j by simp; omega] at this
  rw [this]; rfl
theorem SK_hd {f : Nat → Int32} {x : Int32} {r : List Int32} (h : SK f (x :: r)) : f r.length = x := by
  have := h 0 (by simp)
  rw [show (x :: r).length - 1 - 0 = r.length by simp] at this
  rw [this]; rfl
theorem SK_up {f : Nat → Int32} {v : Int32} {r : List Int32} (h : SK f r) : SK (upd f r.length v) (v :: r) := fun j hj => by
  cases j with
  | zero =>
    rw [show (v :: r).length - 1 - 0 = r.length by simp, pk_us]; rfl
  | succ j =>
    have hj : j + 1 < r.length + 1 := by simpa using hj
    rw [show (v :: r).length - 1 - (j + 1) = r.length - 1 - j by simp; omega, upd_rd, if_neg (by omega), h j (by omega)]; rfl
theorem sp_turned {c a : Int32} {S : St} {K : Int32 → St → Prop} (k : K (turF c a) S) : wpX3_turned c a S K := by
  unfold wpX3_turned
  unfold turF at k
  refine if_of (fun q => ?_) (fun q => if_of (fun q2 => ?_) (fun q2 => ?_))
  · rw [if_pos q] at k; exact k
  · rw [if_neg q, if_pos q2] at k; exact k
  · rw [if_neg q, if_neg q2] at k; exact k
theorem sp_joined {c a x : Int32} {S : St} {K : Int32 → St → Prop} (k : K (joiF (-c) a x) S) : wpX3_joined c a x S K := by
  unfold wpX3_joined wbX3_joined_68
  unfold joiF at k
  by_cases c1 : -c = 10
  · rw [if_pos c1] at k ⊢
    refine if_of (fun q => if_of (fun q2 => ?_) (fun q2 => ?_)) (fun q => ?_)
    · rw [if_pos q, if_pos q2] at k; exact k
    · rw [if_pos q, if_neg q2] at k; exact k
    · rw [if_neg q] at k; exact k
  rw [if_neg c1] at k ⊢
  by_cases c2 : -c = 11
  · rw [if_pos c2] at k ⊢
    refine if_of (fun q => ?_) (fun q => if_of (fun q2 => ?_) (fun q2 => ?_))
    · rw [if_pos q] at k; exact k
    · rw [if_neg q, if_pos q2] at k; exact k
    · rw [if_neg q, if_neg q2] at k; exact k
  rw [if_neg c2] at k ⊢
  by_cases c3 : -c = 43
  · rw [if_pos c3] at k ⊢; exact k
  rw [if_neg c3] at k ⊢
  by_cases c4 : -c = 45
  · rw [if_pos c4] at k ⊢; exact k
  rw [if_neg c4] at k ⊢
  by_cases c5 : -c = 60
  · rw [if_pos c5] at k ⊢
    refine if_of (fun q => ?_) (fun q => ?_)
    · rw [if_pos q] at k; exact k
    · rw [if_neg q] at k; exact k
  rw [if_neg c5] at k ⊢
  by_cases c6 : -c = 61
  · rw [if_pos c6] at k ⊢
    refine if_of (fun q => ?_) (fun q => ?_)
    · rw [if_pos q] at k; exact k
    · rw [if_neg q] at k; exact k
  rw [if_neg c6] at k ⊢
  exact k
theorem nm_in {c : Int32} (h1 : ¬ c ≤ -7) (h2 : c < 0) : vp_in (-c) 7 ∧ 1 ≤ (-c).toNatClampNeg ∧ (-c).toNatClampNeg ≤ 6 := by
  have a1 := Int32.lt_iff_toInt_lt.mp (Int32.not_le.mp h1)
  have a2 := Int32.lt_iff_toInt_lt.mp h2
  have m7 : (-7 : Int32).toInt = -7 := by decide
  have m0 : (0 : Int32).toInt = 0 := by decide
  rw [m7] at a1
  rw [m0] at a2
  have key : ∀ v : Int32, c.toInt = v.toInt → c = v := fun v w => Int32.toInt_inj.mp w
  have c6 : c = -1 ∨ c = -2 ∨ c = -3 ∨ c = -4 ∨ c = -5 ∨ c = -6 := by
    rcases (show c.toInt = -1 ∨ c.toInt = -2 ∨ c.toInt = -3 ∨ c.toInt = -4 ∨ c.toInt = -5 ∨ c.toInt = -6 by omega) with w | w | w | w | w | w
    · exact Or.inl (key _ (by rw [w]; decide))
    · exact Or.inr (Or.inl (key _ (by rw [w]; decide)))
    · exact Or.inr (Or.inr (Or.inl (key _ (by rw [w]; decide))))
    · exact Or.inr (Or.inr (Or.inr (Or.inl (key _ (by rw [w]; decide)))))
    · exact Or.inr (Or.inr (Or.inr (Or.inr (Or.inl (key _ (by rw [w]; decide))))))
    · exact Or.inr (Or.inr (Or.inr (Or.inr (Or.inr (key _ (by rw [w]; decide))))))
  unfold vp_in
  rcases c6 with rfl | rfl | rfl | rfl | rfl | rfl <;> decide
theorem sp_vl {r u p : Nat} {K : Int32 → St → Prop} {env : Nat → Int32} (hp : p < 3) : ∀ (l : List Int32) (x : Nat) (st : List Int32) (S : St), S.1 8 r p = nI (x + l.length) → x + l.length ≤ 160 → st.length + l.length ≤ 160 → (∀ j, j < l.length → S.1 7 r (x + j) = l.getD j 0) → SK (S.1 9 r) st → (∀ i, 1 ≤ i → i ≤ 6 → S.1 17 u i = env i) → (∀ S2, (∀ kd i, kd ≠ 9 → S2.1 kd i = S.1 kd i) → SK (S2.1 9 r) (rnS env l st) → K (S2.1 9 r 0) S2) → wbX3_value_20 r u K (nI p) (l.length + 1) (nI st.length) (nI x) S
  | [], x, st, S, h8, hx, hst, h7, hS, he, k => by
    show vp_in (nI p) 3 ∧ if S.1 8 r (nI p).toNatClampNeg ≤ nI x then _ else _
    refine ⟨vp_in_nI hp (by omega), ?_⟩
    have hx : x + 0 ≤ 160 := hx
    rw [nI_clamp (by omega), h8, if_pos (show nI (x + ([] : List Int32).length) ≤ nI x from nI_le (Nat.le_refl x) (by omega)), show (0 : Int32).toNatClampNeg = 0 by decide]
    exact ⟨pk_in 0 160 (by omega), k S (fun _ _ _ => rfl) hS⟩
  | c :: l, x, st, S, h8, hx, hst, h7, hS, he, k => by
    have hl : (c :: l).length = l.length + 1 := rfl
    rw [hl] at h8 hx hst h7
    show vp_in (nI p) 3 ∧ if S.1 8 r (nI p).toNatClampNeg ≤ nI x then _ else _
    refine ⟨vp_in_nI hp (by omega), ?_⟩
    have cx : S.1 7 r x = c := h7 0 (by omega)
    rw [nI_clamp (by omega), h8, if_neg (nI_ge (by omega) (by omega)), nI_clamp (by omega), cx]
    refine ⟨vp_in_nI (by omega) (by omega), ?_⟩
    have go : ∀ (st2 : List Int32) (S2 : St), (∀ kd i, kd ≠ 9 → S2.1 kd i = S.1 kd i) → SK (S2.1 9 r) st2 → st2 = stp env c st → st2.length ≤ st.length + 1 → wbX3_value_161 r u (fun yx3 yx4 S9 => wbX3_value_20 r u K (nI p) (l.length + 1) yx3 yx4 S9) K (nI p) (nI st2.length) (nI x) S2 := by
      intro st2 S2 f2 s2 e2 n2
      unfold wbX3_value_161
      rw [nI_1]
      refine sp_vl (env := env) hp l (x + 1) st2 S2 (by rw [f2 8 r (by omega), h8, show x + (l.length + 1) = x + 1 + l.length by omega]) (by omega) (by omega) (fun j hj => ?_) s2 (fun i i1 i2 => by rw [f2 17 u (by omega)]; exact he i i1 i2) (fun S3 f3 s3 => k S3 (fun kd i w => (f3 kd i w).trans (f2 kd i w)) ?_)
      · have := h7 (j + 1) (by omega)
        rw [f2 7 r (by omega), show x + 1 + j = x + (j + 1) by omega, this]; rfl
      · rw [e2] at s3; exact s3
    by_cases c7 : c ≤ -7
    · rw [if_pos c7]
      have t97 : (c = -12 ∨ c = -13) → wbX3_value_97 r u (fun yx3 yx4 S9 => wbX3_value_20 r u K (nI p) (l.length + 1) yx3 yx4 S9) K (nI p) (nI st.length) (nI x) c S := by
        intro ct
        have es : stp env c st = tur1 c st := by unfold stp; rw [if_pos c7, if_pos ct]
        unfold wbX3_value_97
        cases st with
        | nil =>
          rw [if_pos (show nI ([] : List Int32).length < 1 by decide)]
          exact go [] S (fun _ _ _ => rfl) hS (by rw [es]; rfl) (by simp)
        | cons a st =>
          have la : (a :: st).length = st.length + 1 := rfl
          rw [la] at hst ⊢
          rw [if_neg (show ¬ nI (st.length + 1) < (1 : Int32) from nI_nlt (b := 1) (by omega) (by omega)), nI_pred, nI_clamp (by omega), SK_hd hS]
          refine ⟨vp_in_nI (by omega) (by omega), sp_turned ⟨vp_in_nI (by omega) (by omega), fun S2 e2 => ?_⟩⟩
          refine go (turF c a :: st) S2 (fun kd i w => by rw [e2, sa_ne (by omega)]) ?_ (by rw [es]; rfl) (by simp)
          rw [e2, sa_eq]
          exact SK_up (SK_tl hS)
      refine if_of (fun w => t97 (Or.inl w)) (fun w => if_of (fun w2 => t97 (Or.inr w2)) (fun w2 => ?_))
      have es : stp env c st = joi1 c st := by unfold stp; rw [if_pos c7, if_neg (fun q => q.elim w w2)]
      match st, hst, hS, go, es with
      | [], hst, hS, go, es =>
        rw [if_pos (show nI ([] : List Int32).length < 2 by decide)]
        exact go [] S (fun _ _ _ => rfl) hS (by rw [es]; rfl) (by simp)
      | [a], hst, hS, go, es =>
        rw [if_pos (show nI ([a] : List Int32).length < 2 from nI_lt (a := 1) (b := 2) (by omega) (by omega))]
        exact go [a] S (fun _ _ _ => rfl) hS (by rw [es]; rfl) (by simp)
      | y :: a :: st, hst, hS, go, es =>
        have la : (y :: a :: st).length = st.length + 1 + 1 := rfl
        rw [la] at hst ⊢
        have h1 := SK_hd hS
        have h1 : S.1 9 r (st.length + 1) = y := h1
        have h2 := SK_hd (SK_tl hS)
        rw [if_neg (show ¬ nI (st.length + 1 + 1) < (2 : Int32) from nI_nlt (b := 2) (by omega) (by omega)), nI_m1, nI_pred, nI_clamp (by omega), nI_clamp (by omega), h1, h2]
        refine ⟨vp_in_nI (by omega) (by omega), vp_in_nI (by omega) (by omega), sp_joined ⟨vp_in_nI (by omega) (by omega), fun S2 e2 => ?_⟩⟩
        have g := go (joiF (-c) a y :: st) S2 (fun kd i w => by rw [e2, sa_ne (by omega)]) ?_ (by rw [es]; rfl) (by simp only [List.length_cons]; omega)
        · exact g
        · rw [e2, sa_eq]
          exact SK_up (SK_tl (SK_tl hS))
    · rw [if_neg c7, if_neg (show ¬ (160 : Int32) ≤ nI st.length from nI_ge (b := 160) (by omega) (by decide))]
      have t76 : ∀ v : Int32, stp env c st = v :: st → wbX3_value_76 r u (fun yx3 yx4 S9 => wbX3_value_20 r u K (nI p) (l.length + 1) yx3 yx4 S9) K (nI p) (nI st.length) (nI x) v (nI st.length) S := by
        intro v ev
        unfold wbX3_value_76
        rw [nI_clamp (by omega), nI_1]
        refine ⟨vp_in_nI (by omega) (by omega), fun S2 e2 => ?_⟩
        refine go (v :: st) S2 (fun kd i w => by rw [e2, sa_ne (by omega)]) ?_ ev.symm (by simp)
        rw [e2, sa_eq]
        exact SK_up hS
      refine if_of (fun w => ?_) (fun w => ?_)
      · obtain ⟨n1, n2, n3⟩ := nm_in c7 w
        refine ⟨n1, t76 _ ?_⟩
        unfold stp
        rw [if_neg c7, if_pos w, he _ n2 n3]
      · refine t76 _ ?_
        unfold stp
        rw [if_neg c7, if_neg w]
theorem gd_off {c d : List Int32} {i : Nat} : (c ++ d).getD (c.length + i) 0 = d.getD i 0 := by simp [List.getD, List.getElem?_append_right]
theorem fq_v {S S2 : St} (h : ∀ kd i, kd ≠ 9 → S2.1 kd i = S.1 kd i) : fq S S2 := ⟨fun kd i a _ _ => h kd i a, fun j _ => by rw [h 40 0 (by omega)]⟩
theorem RuC_of {r : Nat} {S : St} {cs : List (List Int32)} (h : CE (S.1 7 r) (S.1 8 r) cs) : RuC S r (ruF cs) := by
  intro p t S1 K hp a1 a2 k
  obtain ⟨c1, c2, c3, rfl, ⟨g1, g2, g3⟩, hl, ⟨e0, e1, e2⟩, hf⟩ := h
  rw [← a2] at e0 e1 e2
  rw [← a1] at hf
  have one : ∀ (c : List Int32) (o : Nat), Gd c → o + c.length ≤ 160 → S1.1 8 r p = nI (o + c.length) → (∀ j, j < c.length → S1.1 7 r (o + j) = c.getD j 0) → [c1, c2, c3].getD p [] = c → wbX3_value_18 r t K (nI p) 0 (nI o) S1 := by
    intro c o gc ho he hc ec
    refine ⟨c.length + 1, sp_vl (env := envF (S1.1 17 t 1) (S1.1 17 t 2) (S1.1 17 t 3) (S1.1 17 t 4) (S1.1 17 t 5) (S1.1 17 t 6)) hp c o [] S1 he ho (by simp; omega) hc (fun j hj => absurd hj (Nat.not_lt_zero j)) (fun i i1 i6 => env_ok (f := S1.1 17 t) i1 i6) (fun S2 f2 s2 => ?_)⟩
    have kk := k S2 (fq_v f2)
    unfold ruF at kk
    rw [ec] at kk
    rw [gc] at s2
    have : S2.1 9 r 0 = ev (envF (S1.1 17 t 1) (S1.1 17 t 2) (S1.1 17 t 3) (S1.1 17 t 4) (S1.1 17 t 5) (S1.1 17 t 6)) c := SK_hd s2
    rw [this]
    exact kk
  simp only [List.length_append] at hl e1 e2 hf
  unfold wpX3_value
  rcases (show p = 0 ∨ p = 1 ∨ p = 2 by omega) with rfl | rfl | rfl
  · rw [if_pos (show nI 0 = 0 from rfl)]
    refine one c1 0 g1 (by omega) (by rw [e0, Nat.zero_add]) (fun j hj => ?_) rfl
    rw [hf _ (by omega), Nat.zero_add, List.append_assoc, gd_app hj]
  · rw [if_neg (show ¬ nI 1 = 0 by decide), show nI 1 - 1 = nI 0 by decide, nI_clamp (by omega), e0]
    refine ⟨vp_in_nI (by omega) (by omega), one c2 c1.length g2 (by omega) e1 (fun j hj => ?_) rfl⟩
    rw [hf _ (by omega), List.append_assoc, gd_off, gd_app hj]
  · rw [if_neg (show ¬ nI 2 = 0 by decide), show nI 2 - 1 = nI 1 by decide, nI_clamp (by omega), e1]
    refine ⟨vp_in_nI (by omega) (by omega), one c3 (c1.length + c2.length) g3 (by omega) e2 (fun j hj => ?_) rfl⟩
    rw [hf _ (by omega), show c1.length + c2.length + j = (c1 ++ c2).length + j by rw [List.length_append], gd_off]
theorem sp_adopt {t : Nat} {S : St} {K : St → Prop} {cs : List (List Int32)} (h : CE (S.1 2 0) (S.1 3 0) cs) (k : ∀ S1, CE (S1.1 7 t) (S1.1 8 t) cs → (∀ kd i, ¬ ((kd = 7 ∨ kd = 8) ∧ i = t) → S1.1 kd i = S.1 kd i) → K S1) : wpX3_adopt t S K := by
  unfold wpX3_adopt
  refine ⟨⟨by decide, by decide, by decide, by decide, by decide⟩, fun S1 e1 => ⟨⟨by decide, by decide, by decide, by decide, by decide⟩, fun S2 e2 => ?_⟩⟩
  have z0 : ((0 : Int32).toNatClampNeg) = 0 := by decide
  have z3 : ((3 : Int32).toNatClampNeg) = 3 := by decide
  have z160 : ((160 : Int32).toNatClampNeg) = 160 := by decide
  have h7 : ∀ j, j < 160 → S2.1 7 t j = S.1 2 0 j := fun j hj => by
    rw [e2, e1]; simp [sa_rd, va_cpy, z0, z160, hj]
  have h8 : ∀ j, j < 3 → S2.1 8 t j = S.1 3 0 j := fun j hj => by
    rw [e2, e1]; simp [sa_rd, va_cpy, z0, z3, hj]
  refine k S2 ?_ (fun kd i w => by rw [e2, sa_ne (by omega), e1, sa_ne (by omega)])
  obtain ⟨c1, c2, c3, ec, g, hl, ⟨e0, e1', e2'⟩, hf⟩ := h
  exact ⟨c1, c2, c3, ec, g, hl, ⟨by rw [h8 0 (by omega)]; exact e0, by rw [h8 1 (by omega)]; exact e1', by rw [h8 2 (by omega)]; exact e2'⟩, fun i hi => by rw [h7 i (by omega)]; exact hf i hi⟩
end
