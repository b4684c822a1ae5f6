/-! walks of the small constructors, written by wip/whole/tools/ctor.py -/
theorem Pq_le {P : Nat → Nat → Prop} {ad : Nat → Nat → Nat} {a kd0 i0 : Nat} (h : ∀ kd i, P kd i → a ≤ ad kd i) (h0 : a ≤ ad kd0 i0) : ∀ kd i, Pq P kd0 i0 kd i → a ≤ ad kd i := fun kd i q => q.elim (h kd i) (fun e => by rw [e.1, e.2]; exact h0)
theorem PLq {P : Nat → Nat → Prop} {kd0 i0 : Nat} (h : ∀ kd i, P kd i → PL kd i) (h0 : PL kd0 i0) : ∀ kd i, Pq P kd0 i0 kd i → PL kd i := fun kd i q => q.elim (h kd i) (fun e => by rw [e.1, e.2]; exact h0)
def ST (i : Nat) : St := sa (sa (sa S0 12 i (fun _ => 0)) 15 i (fun _ => 0)) 16 i (fun _ => 0)
/-- a world's contents may be told by another state that is the same where it matters -/
theorem wP.congr {D : va_G} {ad : Nat → Nat → Nat} {cs : Nat → ClassId} {P : Nat → Nat → Prop} {S S1 : St} {H : Heap} (h : wP D ad cs P S H) (hc : ∀ kd i, P kd i → (S.1 kd i = S1.1 kd i ∧ sw S kd i = sw S1 kd i) ∨ ∃ n t, (∀ (f : Nat → Int32) (w : Int64), lay ad cs kd i f w = .inl (cs t, n, .inl f)) ∧ ∀ j, j < n → S.1 kd i j = S1.1 kd i j) : wP D ad cs P S1 H := by
  intro kd i hp
  have h0 := h kd i hp
  rcases hc kd i hp with ⟨e1, e2⟩ | ⟨n, t, hl, hj⟩
  · rw [← e1, ← e2]; exact h0
  · rw [hl] at h0 ⊢
    exact va_at_arr h0 hj
theorem Pq_all {P : Nat → Nat → Prop} {X : Nat → Nat → Prop} {kd0 i0 : Nat} (h : ∀ kd i, P kd i → X kd i) (h0 : X kd0 i0) : ∀ kd i, Pq P kd0 i0 kd i → X kd i := fun kd i q => q.elim (h kd i) (fun e => by rw [e.1, e.2]; exact h0)
theorem cH_town {D : va_G} {b i : Nat} {cs : Nat → ClassId} {ws : va_W} {A : Nat → Prop} {s : State} {H : Heap} {locs : List Loc} {h : Nat} (hh : cH D (adX b) cs (Pq (Pq (Pq (Pq (Pq (Pq (Pq (fun _ _ => False) 11 i) 12 i) 13 i) 14 i) 15 i) 16 i) 17 i) ws A s.heap (sa (sa (sa (ST i) 12 i (fun j => if j < 4 then (-1) else (ST i).1 12 i j)) 15 i (fun j => if j < 16 then 50 else (sa (ST i) 12 i (fun j => if j < 4 then (-1) else (ST i).1 12 i j)).1 15 i j)) 16 i (fun j => if j < 16 then 50 else (sa (sa (ST i) 12 i (fun j => if j < 4 then (-1) else (ST i).1 12 i j)) 15 i (fun j => if j < 16 then 50 else (sa (ST i) 12 i (fun j => if j < 4 then (-1) else (ST i).1 12 i j)).1 15 i j)).1 16 i j)) H locs h) : cH D (adX b) cs (Pq (Pq (Pq (Pq (Pq (Pq (Pq (fun _ _ => False) 11 i) 12 i) 13 i) 14 i) 15 i) 16 i) 17 i) ws A s.heap S0 H locs h := by
  refine ⟨hh.1.congr ?_, hh.2⟩
  refine Pq_all (Pq_all (Pq_all (Pq_all (Pq_all (Pq_all (Pq_all (fun _ _ h => False.elim h) ?_) ?_) ?_) ?_) ?_) ?_) ?_
  · exact Or.inr ⟨4, 0, ly_11, fun j hj => by simp [ST, sa, S0]⟩
  · exact Or.inr ⟨4, 0, ly_12, fun j hj => by simp [ST, sa, S0, hj]⟩
  · exact Or.inr ⟨4, 0, ly_13, fun j hj => by simp [ST, sa, S0]⟩
  · exact Or.inr ⟨4, 0, ly_14, fun j hj => by simp [ST, sa, S0]⟩
  · exact Or.inr ⟨16, 0, ly_15, fun j hj => by simp [ST, sa, S0, hj]⟩
  · exact Or.inr ⟨16, 0, ly_16, fun j hj => by simp [ST, sa, S0, hj]⟩
  · exact Or.inr ⟨7, 0, ly_17, fun j hj => by simp [ST, sa, S0]⟩
theorem kX2_init : kC yX2_init cX2_init 1 0 := ⟨rfl, tb28, tb2, tb29, by decide, by decide, by decide +kernel⟩
set_option maxRecDepth 4000 in
theorem iX2 {l : Launch} {D : va_G} {cs : Nat → ClassId} {tU : Nat} {adK adV : Nat → Nat} (b : Nat) : MC l yX2_init cX2_init 1 1 60 3 323 D (adX b) cs tU adK adV (adX b 1 0) 1 [.null, .null, .int 0, .null, .int 0, .int 0, .int 0, .int 0, .int 0, .int 0] [] (fun _ => True) (Pq (Pq (Pq (Pq (fun _ _ => False) 2 0) 3 0) 4 0) 1 0) ((((((adX b 1 0) + 1) + 1) + 1) + 1)) (fun S1 => S1 = S0) := by
  refine MC_of S0 (by decide) rfl (Nat.le_of_ble_eq_true rfl) ?_
  intro p e R s m args below meth c ls E hin _ hRc hl hh
  have hx := E.hx
  have hb := E.hb
  have hh0 := hh
  have hl := lv_sub hl [0] rfl
  refine lv_aload_n hx hb dX2_init_0 rfl (lv_at hl 0 rfl) ?_
  refine W.objInit hx hb E.hown (E.hts _ tb30) (E.hts _ tb23) (E.hts _ tb24) rfl (by rw [E.hml]; exact hl.1) rfl dX2_init_1 (Nat.le_trans (by decide) E.hf) (Nat.le_trans (Nat.le_of_ble_eq_true rfl) E.hl) ?_
  refine W.eq (g2 := F0 m 4 ls []) rfl ?_
  refine lv_aload_n hx hb dX2_init_4 rfl (lv_at hl 0 rfl) ?_
  refine lv_sipush (v := 160) hx hb dX2_init_5 (by decide) ?_
  refine c_newa (atype := .int) (ty := .int) (kd := 2) (i := 0) (t := 0) (N := 160) E hh (fun q hq => by have := hh0.2.2.2.1; omega) rfl rfl rfl (fun _ _ => rfl) tb65 (by decide) rfl (by decide) (by rw [hRc.1]; decide) (by rw [hRc.2]; decide) ly_2 (by intro j _; rfl) (show b + 2 = b + 1 + 1 by omega) dX2_init_8 (fun H hh => ?_)
  refine c_putF (ci := 1) (k := 0) (q0 := 0) (C := RX2) (T := TX2) (N := 10) (ty := .array .int) (v := .ref (adX b 2 0)) E (Nat.le_refl _) hh rfl rfl inX2 tyX2_ok nmX2 (by decide) rfl hin rfl rfl rfl rfl (show 0 < 10 by decide) tb31 dX2_init_10 (fun H locs hh => ?_)
  have hh : cH D (adX b) cs (Pq (fun _ _ => False) 2 0) [((adX b 1 0), .inr (1, [.ref (adX b 2 0), .null, .int 0, .null, .int 0, .int 0, .int 0, .int 0, .int 0, .int 0]))] (fun q => (adX b 1 0) ≤ q) s.heap S0 H locs (((adX b 1 0) + 1) + 1) := hh
  refine lv_aload_n hx hb dX2_init_13 rfl (lv_at hl 0 rfl) ?_
  refine lv_iconst (v := 3) hx hb dX2_init_14 (by decide) ?_
  refine c_newa (atype := .int) (ty := .int) (kd := 3) (i := 0) (t := 0) (N := 3) E hh (fun q hq => by have := hh0.2.2.2.1; omega) rfl rfl rfl (fun _ _ => rfl) tb65 (by decide) rfl (by decide) (by rw [hRc.1]; decide) (by rw [hRc.2]; decide) ly_3 (by intro j _; rfl) (show b + 3 = b + 1 + 1 + 1 by omega) dX2_init_15 (fun H hh => ?_)
  refine c_putF (ci := 1) (k := 1) (q0 := 0) (C := RX2) (T := TX2) (N := 10) (ty := .array .int) (v := .ref (adX b 3 0)) E (Nat.le_refl _) hh rfl rfl inX2 tyX2_ok nmX2 (by decide) rfl hin rfl rfl rfl rfl (show 1 < 10 by decide) tb33 dX2_init_17 (fun H locs hh => ?_)
  have hh : cH D (adX b) cs (Pq (Pq (fun _ _ => False) 2 0) 3 0) [((adX b 1 0), .inr (1, [.ref (adX b 2 0), .ref (adX b 3 0), .int 0, .null, .int 0, .int 0, .int 0, .int 0, .int 0, .int 0]))] (fun q => (adX b 1 0) ≤ q) s.heap S0 H locs ((((adX b 1 0) + 1) + 1) + 1) := hh
  refine lv_aload_n hx hb dX2_init_20 rfl (lv_at hl 0 rfl) ?_
  refine lv_iconst (v := 0) hx hb dX2_init_21 (by decide) ?_
  refine c_put (ci := 1) (k := 2) (q0 := 0) (C := RX2) (T := TX2) (N := 10) (ty := .int) (v := .int 0) E (Nat.le_refl _) hh rfl rfl inX2 tyX2_ok nmX2 (by decide) rfl rfl rfl rfl (show 2 < 10 by decide) tb35 dX2_init_22 (fun H locs hh => ?_)
  have hh : cH D (adX b) cs (Pq (Pq (fun _ _ => False) 2 0) 3 0) [((adX b 1 0), .inr (1, [.ref (adX b 2 0), .ref (adX b 3 0), .int 0, .null, .int 0, .int 0, .int 0, .int 0, .int 0, .int 0]))] (fun q => (adX b 1 0) ≤ q) s.heap S0 H locs ((((adX b 1 0) + 1) + 1) + 1) := hh
  refine lv_aload_n hx hb dX2_init_25 rfl (lv_at hl 0 rfl) ?_
  refine lv_sipush (v := 160) hx hb dX2_init_26 (by decide) ?_
  refine c_newa (atype := .int) (ty := .int) (kd := 4) (i := 0) (t := 0) (N := 160) E hh (fun q hq => by have := hh0.2.2.2.1; omega) rfl rfl rfl (fun _ _ => rfl) tb65 (by decide) rfl (by decide) (by rw [hRc.1]; decide) (by rw [hRc.2]; decide) ly_4 (by intro j _; rfl) (show b + 4 = b + 1 + 1 + 1 + 1 by omega) dX2_init_29 (fun H hh => ?_)
  refine c_putF (ci := 1) (k := 3) (q0 := 0) (C := RX2) (T := TX2) (N := 10) (ty := .array .int) (v := .ref (adX b 4 0)) E (Nat.le_refl _) hh rfl rfl inX2 tyX2_ok nmX2 (by decide) rfl hin rfl rfl rfl rfl (show 3 < 10 by decide) tb37 dX2_init_31 (fun H locs hh => ?_)
  have hh : cH D (adX b) cs (Pq (Pq (Pq (fun _ _ => False) 2 0) 3 0) 4 0) [((adX b 1 0), .inr (1, [.ref (adX b 2 0), .ref (adX b 3 0), .int 0, .ref (adX b 4 0), .int 0, .int 0, .int 0, .int 0, .int 0, .int 0]))] (fun q => (adX b 1 0) ≤ q) s.heap S0 H locs (((((adX b 1 0) + 1) + 1) + 1) + 1) := hh
  refine lv_aload_n hx hb dX2_init_34 rfl (lv_at hl 0 rfl) ?_
  refine lv_iconst (v := 0) hx hb dX2_init_35 (by decide) ?_
  refine c_put (ci := 1) (k := 4) (q0 := 0) (C := RX2) (T := TX2) (N := 10) (ty := .int) (v := .int 0) E (Nat.le_refl _) hh rfl rfl inX2 tyX2_ok nmX2 (by decide) rfl rfl rfl rfl (show 4 < 10 by decide) tb38 dX2_init_36 (fun H locs hh => ?_)
  have hh : cH D (adX b) cs (Pq (Pq (Pq (fun _ _ => False) 2 0) 3 0) 4 0) [((adX b 1 0), .inr (1, [.ref (adX b 2 0), .ref (adX b 3 0), .int 0, .ref (adX b 4 0), .int 0, .int 0, .int 0, .int 0, .int 0, .int 0]))] (fun q => (adX b 1 0) ≤ q) s.heap S0 H locs (((((adX b 1 0) + 1) + 1) + 1) + 1) := hh
  refine lv_aload_n hx hb dX2_init_39 rfl (lv_at hl 0 rfl) ?_
  refine lv_iconst (v := 0) hx hb dX2_init_40 (by decide) ?_
  refine c_put (ci := 1) (k := 5) (q0 := 0) (C := RX2) (T := TX2) (N := 10) (ty := .int) (v := .int 0) E (Nat.le_refl _) hh rfl rfl inX2 tyX2_ok nmX2 (by decide) rfl rfl rfl rfl (show 5 < 10 by decide) tb39 dX2_init_41 (fun H locs hh => ?_)
  have hh : cH D (adX b) cs (Pq (Pq (Pq (fun _ _ => False) 2 0) 3 0) 4 0) [((adX b 1 0), .inr (1, [.ref (adX b 2 0), .ref (adX b 3 0), .int 0, .ref (adX b 4 0), .int 0, .int 0, .int 0, .int 0, .int 0, .int 0]))] (fun q => (adX b 1 0) ≤ q) s.heap S0 H locs (((((adX b 1 0) + 1) + 1) + 1) + 1) := hh
  refine lv_aload_n hx hb dX2_init_44 rfl (lv_at hl 0 rfl) ?_
  refine lv_iconst (v := 0) hx hb dX2_init_45 (by decide) ?_
  refine c_put (ci := 1) (k := 6) (q0 := 0) (C := RX2) (T := TX2) (N := 10) (ty := .int) (v := .int 0) E (Nat.le_refl _) hh rfl rfl inX2 tyX2_ok nmX2 (by decide) rfl rfl rfl rfl (show 6 < 10 by decide) tb40 dX2_init_46 (fun H locs hh => ?_)
  have hh : cH D (adX b) cs (Pq (Pq (Pq (fun _ _ => False) 2 0) 3 0) 4 0) [((adX b 1 0), .inr (1, [.ref (adX b 2 0), .ref (adX b 3 0), .int 0, .ref (adX b 4 0), .int 0, .int 0, .int 0, .int 0, .int 0, .int 0]))] (fun q => (adX b 1 0) ≤ q) s.heap S0 H locs (((((adX b 1 0) + 1) + 1) + 1) + 1) := hh
  refine lv_aload_n hx hb dX2_init_49 rfl (lv_at hl 0 rfl) ?_
  refine lv_iconst (v := (-1)) hx hb dX2_init_50 (by decide) ?_
  refine c_put (ci := 1) (k := 7) (q0 := 0) (C := RX2) (T := TX2) (N := 10) (ty := .int) (v := .int (-1)) E (Nat.le_refl _) hh rfl rfl inX2 tyX2_ok nmX2 (by decide) rfl rfl rfl rfl (show 7 < 10 by decide) tb41 dX2_init_51 (fun H locs hh => ?_)
  have hh : cH D (adX b) cs (Pq (Pq (Pq (fun _ _ => False) 2 0) 3 0) 4 0) [((adX b 1 0), .inr (1, [.ref (adX b 2 0), .ref (adX b 3 0), .int 0, .ref (adX b 4 0), .int 0, .int 0, .int 0, .int (-1), .int 0, .int 0]))] (fun q => (adX b 1 0) ≤ q) s.heap S0 H locs (((((adX b 1 0) + 1) + 1) + 1) + 1) := hh
  refine lv_aload_n hx hb dX2_init_54 rfl (lv_at hl 0 rfl) ?_
  refine lv_iconst (v := 0) hx hb dX2_init_55 (by decide) ?_
  refine c_put (ci := 1) (k := 8) (q0 := 0) (C := RX2) (T := TX2) (N := 10) (ty := .int) (v := .int 0) E (Nat.le_refl _) hh rfl rfl inX2 tyX2_ok nmX2 (by decide) rfl rfl rfl rfl (show 8 < 10 by decide) tb42 dX2_init_56 (fun H locs hh => ?_)
  have hh : cH D (adX b) cs (Pq (Pq (Pq (fun _ _ => False) 2 0) 3 0) 4 0) [((adX b 1 0), .inr (1, [.ref (adX b 2 0), .ref (adX b 3 0), .int 0, .ref (adX b 4 0), .int 0, .int 0, .int 0, .int (-1), .int 0, .int 0]))] (fun q => (adX b 1 0) ≤ q) s.heap S0 H locs (((((adX b 1 0) + 1) + 1) + 1) + 1) := hh
  refine lv_aload_n hx hb dX2_init_59 rfl (lv_at hl 0 rfl) ?_
  refine lv_iconst (v := (-1)) hx hb dX2_init_60 (by decide) ?_
  refine c_put (ci := 1) (k := 9) (q0 := 0) (C := RX2) (T := TX2) (N := 10) (ty := .int) (v := .int (-1)) E (Nat.le_refl _) hh rfl rfl inX2 tyX2_ok nmX2 (by decide) rfl rfl rfl rfl (show 9 < 10 by decide) tb43 dX2_init_61 (fun H locs hh => ?_)
  have hh : cH D (adX b) cs (Pq (Pq (Pq (fun _ _ => False) 2 0) 3 0) 4 0) [((adX b 1 0), .inr (1, [.ref (adX b 2 0), .ref (adX b 3 0), .int 0, .ref (adX b 4 0), .int 0, .int 0, .int 0, .int (-1), .int 0, .int (-1)]))] (fun q => (adX b 1 0) ≤ q) s.heap S0 H locs (((((adX b 1 0) + 1) + 1) + 1) + 1) := hh
  have hh := cH_done (kd := 1) (i := 0) hh rfl rfl
  exact c_vret E hh (fun _ _ q => q) rfl dX2_init_64
theorem iX2_ge (b : Nat) : ∀ kd j, (Pq (Pq (Pq (Pq (fun _ _ => False) 2 0) 3 0) 4 0) 1 0) kd j → (adX b 1 0) ≤ adX b kd j := Pq_le (Pq_le (Pq_le (Pq_le (fun _ _ h => False.elim h) (show b + 1 ≤ b + 2 by omega)) (show b + 1 ≤ b + 3 by omega)) (show b + 1 ≤ b + 4 by omega)) (show b + 1 ≤ b + 1 by omega)
theorem kX3_init : kC yX3_init cX3_init 2 1 := ⟨rfl, tb129, tb5, tb130, by decide, by decide, by decide +kernel⟩
set_option maxRecDepth 4000 in
theorem iX3 {l : Launch} {D : va_G} {cs : Nat → ClassId} {tU : Nat} {adK adV : Nat → Nat} (b : Nat) (i : Nat) : MC l yX3_init cX3_init 2 1 60 3 323 D (adX b) cs tU adK adV (adX b 6 i) 2 [.int 0, .null, .null, .null] [.int (nI i)] (fun _ => True) (Pq (Pq (Pq (Pq (fun _ _ => False) 7 i) 8 i) 9 i) 6 i) ((((((adX b 6 i) + 1) + 1) + 1) + 1)) (fun S1 => S1 = S0) := by
  refine MC_of S0 (by decide) rfl (Nat.le_of_ble_eq_true rfl) ?_
  intro p e R s m args below meth c ls E hin _ hRc hl hh
  have hx := E.hx
  have hb := E.hb
  have hh0 := hh
  have hl := lv_sub hl [0, 1] rfl
  refine lv_aload_n hx hb dX3_init_0 rfl (lv_at hl 0 rfl) ?_
  refine W.objInit hx hb E.hown (E.hts _ tb131) (E.hts _ tb23) (E.hts _ tb24) rfl (by rw [E.hml]; exact hl.1) rfl dX3_init_1 (Nat.le_trans (by decide) E.hf) (Nat.le_trans (Nat.le_of_ble_eq_true rfl) E.hl) ?_
  refine W.eq (g2 := F0 m 4 ls []) rfl ?_
  refine lv_aload_n hx hb dX3_init_4 rfl (lv_at hl 0 rfl) ?_
  refine lv_sipush (v := 160) hx hb dX3_init_5 (by decide) ?_
  refine c_newa (atype := .int) (ty := .int) (kd := 7) (i := i) (t := 0) (N := 160) E hh (fun q hq => by have := hh0.2.2.2.1; omega) rfl rfl rfl (fun _ _ => rfl) tb65 (by decide) rfl (by decide) (by rw [hRc.1]; decide) (by rw [hRc.2]; decide) ly_7 (by intro j _; rfl) (show b + (19 + 4 * i) = b + (18 + 4 * i) + 1 by omega) dX3_init_8 (fun H hh => ?_)
  refine c_putF (ci := 2) (k := 1) (q0 := 0) (C := RX3) (T := TX3) (N := 4) (ty := .array .int) (v := .ref (adX b 7 i)) E (Nat.le_refl _) hh rfl rfl inX3 tyX3_ok nmX3 (by decide) rfl hin rfl rfl rfl rfl (show 1 < 4 by decide) tb134 dX3_init_10 (fun H locs hh => ?_)
  have hh : cH D (adX b) cs (Pq (fun _ _ => False) 7 i) [((adX b 6 i), .inr (2, [.int 0, .ref (adX b 7 i), .null, .null]))] (fun q => (adX b 6 i) ≤ q) s.heap S0 H locs (((adX b 6 i) + 1) + 1) := hh
  refine lv_aload_n hx hb dX3_init_13 rfl (lv_at hl 0 rfl) ?_
  refine lv_iconst (v := 3) hx hb dX3_init_14 (by decide) ?_
  refine c_newa (atype := .int) (ty := .int) (kd := 8) (i := i) (t := 0) (N := 3) E hh (fun q hq => by have := hh0.2.2.2.1; omega) rfl rfl rfl (fun _ _ => rfl) tb65 (by decide) rfl (by decide) (by rw [hRc.1]; decide) (by rw [hRc.2]; decide) ly_8 (by intro j _; rfl) (show b + (20 + 4 * i) = b + (18 + 4 * i) + 1 + 1 by omega) dX3_init_15 (fun H hh => ?_)
  refine c_putF (ci := 2) (k := 2) (q0 := 0) (C := RX3) (T := TX3) (N := 4) (ty := .array .int) (v := .ref (adX b 8 i)) E (Nat.le_refl _) hh rfl rfl inX3 tyX3_ok nmX3 (by decide) rfl hin rfl rfl rfl rfl (show 2 < 4 by decide) tb135 dX3_init_17 (fun H locs hh => ?_)
  have hh : cH D (adX b) cs (Pq (Pq (fun _ _ => False) 7 i) 8 i) [((adX b 6 i), .inr (2, [.int 0, .ref (adX b 7 i), .ref (adX b 8 i), .null]))] (fun q => (adX b 6 i) ≤ q) s.heap S0 H locs ((((adX b 6 i) + 1) + 1) + 1) := hh
  refine lv_aload_n hx hb dX3_init_20 rfl (lv_at hl 0 rfl) ?_
  refine lv_sipush (v := 160) hx hb dX3_init_21 (by decide) ?_
  refine c_newa (atype := .int) (ty := .int) (kd := 9) (i := i) (t := 0) (N := 160) E hh (fun q hq => by have := hh0.2.2.2.1; omega) rfl rfl rfl (fun _ _ => rfl) tb65 (by decide) rfl (by decide) (by rw [hRc.1]; decide) (by rw [hRc.2]; decide) ly_9 (by intro j _; rfl) (show b + (21 + 4 * i) = b + (18 + 4 * i) + 1 + 1 + 1 by omega) dX3_init_24 (fun H hh => ?_)
  refine c_putF (ci := 2) (k := 3) (q0 := 0) (C := RX3) (T := TX3) (N := 4) (ty := .array .int) (v := .ref (adX b 9 i)) E (Nat.le_refl _) hh rfl rfl inX3 tyX3_ok nmX3 (by decide) rfl hin rfl rfl rfl rfl (show 3 < 4 by decide) tb136 dX3_init_26 (fun H locs hh => ?_)
  have hh : cH D (adX b) cs (Pq (Pq (Pq (fun _ _ => False) 7 i) 8 i) 9 i) [((adX b 6 i), .inr (2, [.int 0, .ref (adX b 7 i), .ref (adX b 8 i), .ref (adX b 9 i)]))] (fun q => (adX b 6 i) ≤ q) s.heap S0 H locs (((((adX b 6 i) + 1) + 1) + 1) + 1) := hh
  refine lv_aload_n hx hb dX3_init_29 rfl (lv_at hl 0 rfl) ?_
  refine lv_iload_n hx hb dX3_init_30 rfl (lv_at hl 1 rfl) ?_
  refine c_putF (ci := 2) (k := 0) (q0 := 0) (C := RX3) (T := TX3) (N := 4) (ty := .int) (v := .int (nI i)) E (Nat.le_refl _) hh rfl rfl inX3 tyX3_ok nmX3 (by decide) rfl hin rfl rfl rfl rfl (show 0 < 4 by decide) tb132 dX3_init_31 (fun H locs hh => ?_)
  have hh : cH D (adX b) cs (Pq (Pq (Pq (fun _ _ => False) 7 i) 8 i) 9 i) [((adX b 6 i), .inr (2, [.int (nI i), .ref (adX b 7 i), .ref (adX b 8 i), .ref (adX b 9 i)]))] (fun q => (adX b 6 i) ≤ q) s.heap S0 H locs (((((adX b 6 i) + 1) + 1) + 1) + 1) := hh
  have hh := cH_done (kd := 6) (i := i) hh rfl rfl
  exact c_vret E hh (fun _ _ q => q) rfl dX3_init_34
theorem iX3_ge (b : Nat) (i : Nat) : ∀ kd j, (Pq (Pq (Pq (Pq (fun _ _ => False) 7 i) 8 i) 9 i) 6 i) kd j → (adX b 6 i) ≤ adX b kd j := Pq_le (Pq_le (Pq_le (Pq_le (fun _ _ h => False.elim h) (show b + (18 + 4 * i) ≤ b + (19 + 4 * i) by omega)) (show b + (18 + 4 * i) ≤ b + (20 + 4 * i) by omega)) (show b + (18 + 4 * i) ≤ b + (21 + 4 * i) by omega)) (show b + (18 + 4 * i) ≤ b + (18 + 4 * i) by omega)
theorem kX4_init : kC yX4_init cX4_init 1 0 := ⟨rfl, tb148, tb6, tb149, by decide, by decide, by decide +kernel⟩
set_option maxRecDepth 4000 in
theorem iX4 {l : Launch} {D : va_G} {cs : Nat → ClassId} {tU : Nat} {adK adV : Nat → Nat} (b : Nat) (i : Nat) : MC l yX4_init cX4_init 1 1 60 1 40 D (adX b) cs tU adK adV (adX b 30 i) 3 [.int 0, .int 0, .null] [] (fun _ => True) (Pq (Pq (fun _ _ => False) 31 i) 30 i) ((((adX b 30 i) + 1) + 1)) (fun S1 => S1 = S0) := by
  refine MC_of S0 (by decide) rfl (Nat.le_of_ble_eq_true rfl) ?_
  intro p e R s m args below meth c ls E hin _ hRc hl hh
  have hx := E.hx
  have hb := E.hb
  have hh0 := hh
  have hl := lv_sub hl [0] rfl
  refine lv_aload_n hx hb dX4_init_0 rfl (lv_at hl 0 rfl) ?_
  refine W.objInit hx hb E.hown (E.hts _ tb150) (E.hts _ tb23) (E.hts _ tb24) rfl (by rw [E.hml]; exact hl.1) rfl dX4_init_1 (Nat.le_trans (by decide) E.hf) (Nat.le_trans (Nat.le_of_ble_eq_true rfl) E.hl) ?_
  refine W.eq (g2 := F0 m 4 ls []) rfl ?_
  refine lv_aload_n hx hb dX4_init_4 rfl (lv_at hl 0 rfl) ?_
  refine lv_iconst (v := (-1)) hx hb dX4_init_5 (by decide) ?_
  refine c_put (ci := 3) (k := 0) (q0 := 0) (C := RX4) (T := TX4) (N := 3) (ty := .int) (v := .int (-1)) E (Nat.le_refl _) hh rfl rfl inX4 tyX4_ok nmX4 (by decide) rfl rfl rfl rfl (show 0 < 3 by decide) tb151 dX4_init_6 (fun H locs hh => ?_)
  have hh : cH D (adX b) cs (fun _ _ => False) [((adX b 30 i), .inr (3, [.int (-1), .int 0, .null]))] (fun q => (adX b 30 i) ≤ q) s.heap S0 H locs ((adX b 30 i) + 1) := hh
  refine lv_aload_n hx hb dX4_init_9 rfl (lv_at hl 0 rfl) ?_
  refine lv_iconst (v := 0) hx hb dX4_init_10 (by decide) ?_
  refine c_put (ci := 3) (k := 1) (q0 := 0) (C := RX4) (T := TX4) (N := 3) (ty := .int) (v := .int 0) E (Nat.le_refl _) hh rfl rfl inX4 tyX4_ok nmX4 (by decide) rfl rfl rfl rfl (show 1 < 3 by decide) tb153 dX4_init_11 (fun H locs hh => ?_)
  have hh : cH D (adX b) cs (fun _ _ => False) [((adX b 30 i), .inr (3, [.int (-1), .int 0, .null]))] (fun q => (adX b 30 i) ≤ q) s.heap S0 H locs ((adX b 30 i) + 1) := hh
  refine lv_aload_n hx hb dX4_init_14 rfl (lv_at hl 0 rfl) ?_
  refine lv_bipush (v := 40) hx hb dX4_init_15 (by decide) ?_
  refine c_newa (atype := .int) (ty := .int) (kd := 31) (i := i) (t := 0) (N := 40) E hh (fun q hq => by have := hh0.2.2.2.1; omega) rfl rfl rfl (fun _ _ => rfl) tb65 (by decide) rfl (by decide) (by rw [hRc.1]; decide) (by rw [hRc.2]; decide) ly_31 (by intro j _; rfl) (show b + (43 + 2 * i) = b + (42 + 2 * i) + 1 by omega) dX4_init_17 (fun H hh => ?_)
  refine c_putF (ci := 3) (k := 2) (q0 := 0) (C := RX4) (T := TX4) (N := 3) (ty := .array .int) (v := .ref (adX b 31 i)) E (Nat.le_refl _) hh rfl rfl inX4 tyX4_ok nmX4 (by decide) rfl hin rfl rfl rfl rfl (show 2 < 3 by decide) tb155 dX4_init_19 (fun H locs hh => ?_)
  have hh : cH D (adX b) cs (Pq (fun _ _ => False) 31 i) [((adX b 30 i), .inr (3, [.int (-1), .int 0, .ref (adX b 31 i)]))] (fun q => (adX b 30 i) ≤ q) s.heap S0 H locs (((adX b 30 i) + 1) + 1) := hh
  have hh := cH_done (kd := 30) (i := i) hh rfl rfl
  exact c_vret E hh (fun _ _ q => q) rfl dX4_init_22
theorem iX4_ge (b : Nat) (i : Nat) : ∀ kd j, (Pq (Pq (fun _ _ => False) 31 i) 30 i) kd j → (adX b 30 i) ≤ adX b kd j := Pq_le (Pq_le (fun _ _ h => False.elim h) (show b + (42 + 2 * i) ≤ b + (43 + 2 * i) by omega)) (show b + (42 + 2 * i) ≤ b + (42 + 2 * i) by omega)
theorem kX1_init : kC yX1_init cX1_init 1 0 := ⟨rfl, tb71, tb3, tb72, by decide, by decide, by decide +kernel⟩
set_option maxRecDepth 4000 in
theorem iX1 {l : Launch} {D : va_G} {cs : Nat → ClassId} {tU : Nat} {adK adV : Nat → Nat} (b : Nat) : MC l yX1_init cX1_init 1 1 60 7 52 D (adX b) cs tU adK adV (adX b 18 0) 0 [.null, .null, .null, .null, .null, .null, .null] [] (fun _ => True) (Pq (Pq (Pq (Pq (Pq (Pq (Pq (Pq (fun _ _ => False) 19 0) 20 0) 21 0) 22 0) 23 0) 24 0) 25 0) 18 0) ((((((((((adX b 18 0) + 1) + 1) + 1) + 1) + 1) + 1) + 1) + 1)) (fun S1 => S1 = S0) := by
  refine MC_of S0 (by decide) rfl (Nat.le_of_ble_eq_true rfl) ?_
  intro p e R s m args below meth c ls E hin _ hRc hl hh
  have hx := E.hx
  have hb := E.hb
  have hh0 := hh
  have hl := lv_sub hl [0] rfl
  refine lv_aload_n hx hb dX1_init_0 rfl (lv_at hl 0 rfl) ?_
  refine W.objInit hx hb E.hown (E.hts _ tb73) (E.hts _ tb23) (E.hts _ tb24) rfl (by rw [E.hml]; exact hl.1) rfl dX1_init_1 (Nat.le_trans (by decide) E.hf) (Nat.le_trans (Nat.le_of_ble_eq_true rfl) E.hl) ?_
  refine W.eq (g2 := F0 m 4 ls []) rfl ?_
  refine lv_aload_n hx hb dX1_init_4 rfl (lv_at hl 0 rfl) ?_
  refine lv_iconst (v := 2) hx hb dX1_init_5 (by decide) ?_
  refine c_newa (atype := .int) (ty := .int) (kd := 19) (i := 0) (t := 0) (N := 2) E hh (fun q hq => by have := hh0.2.2.2.1; omega) rfl rfl rfl (fun _ _ => rfl) tb65 (by decide) rfl (by decide) (by rw [hRc.1]; decide) (by rw [hRc.2]; decide) ly_19 (by intro j _; rfl) (show b + 7 = b + 6 + 1 by omega) dX1_init_6 (fun H hh => ?_)
  refine c_putF (ci := 0) (k := 0) (q0 := 0) (C := RX1) (T := TX1) (N := 7) (ty := .array .int) (v := .ref (adX b 19 0)) E (Nat.le_refl _) hh rfl rfl inX1 tyX1_ok nmX1 (by decide) rfl hin rfl rfl rfl rfl (show 0 < 7 by decide) tb74 dX1_init_8 (fun H locs hh => ?_)
  have hh : cH D (adX b) cs (Pq (fun _ _ => False) 19 0) [((adX b 18 0), .inr (0, [.ref (adX b 19 0), .null, .null, .null, .null, .null, .null]))] (fun q => (adX b 18 0) ≤ q) s.heap S0 H locs (((adX b 18 0) + 1) + 1) := hh
  refine lv_aload_n hx hb dX1_init_11 rfl (lv_at hl 0 rfl) ?_
  refine lv_iconst (v := 2) hx hb dX1_init_12 (by decide) ?_
  refine c_newa (atype := .int) (ty := .int) (kd := 20) (i := 0) (t := 0) (N := 2) E hh (fun q hq => by have := hh0.2.2.2.1; omega) rfl rfl rfl (fun _ _ => rfl) tb65 (by decide) rfl (by decide) (by rw [hRc.1]; decide) (by rw [hRc.2]; decide) ly_20 (by intro j _; rfl) (show b + 8 = b + 6 + 1 + 1 by omega) dX1_init_13 (fun H hh => ?_)
  refine c_putF (ci := 0) (k := 1) (q0 := 0) (C := RX1) (T := TX1) (N := 7) (ty := .array .int) (v := .ref (adX b 20 0)) E (Nat.le_refl _) hh rfl rfl inX1 tyX1_ok nmX1 (by decide) rfl hin rfl rfl rfl rfl (show 1 < 7 by decide) tb76 dX1_init_15 (fun H locs hh => ?_)
  have hh : cH D (adX b) cs (Pq (Pq (fun _ _ => False) 19 0) 20 0) [((adX b 18 0), .inr (0, [.ref (adX b 19 0), .ref (adX b 20 0), .null, .null, .null, .null, .null]))] (fun q => (adX b 18 0) ≤ q) s.heap S0 H locs ((((adX b 18 0) + 1) + 1) + 1) := hh
  refine lv_aload_n hx hb dX1_init_18 rfl (lv_at hl 0 rfl) ?_
  refine lv_bipush (v := 8) hx hb dX1_init_19 (by decide) ?_
  refine c_newa (atype := .int) (ty := .int) (kd := 21) (i := 0) (t := 0) (N := 8) E hh (fun q hq => by have := hh0.2.2.2.1; omega) rfl rfl rfl (fun _ _ => rfl) tb65 (by decide) rfl (by decide) (by rw [hRc.1]; decide) (by rw [hRc.2]; decide) ly_21 (by intro j _; rfl) (show b + 9 = b + 6 + 1 + 1 + 1 by omega) dX1_init_21 (fun H hh => ?_)
  refine c_putF (ci := 0) (k := 2) (q0 := 0) (C := RX1) (T := TX1) (N := 7) (ty := .array .int) (v := .ref (adX b 21 0)) E (Nat.le_refl _) hh rfl rfl inX1 tyX1_ok nmX1 (by decide) rfl hin rfl rfl rfl rfl (show 2 < 7 by decide) tb78 dX1_init_23 (fun H locs hh => ?_)
  have hh : cH D (adX b) cs (Pq (Pq (Pq (fun _ _ => False) 19 0) 20 0) 21 0) [((adX b 18 0), .inr (0, [.ref (adX b 19 0), .ref (adX b 20 0), .ref (adX b 21 0), .null, .null, .null, .null]))] (fun q => (adX b 18 0) ≤ q) s.heap S0 H locs (((((adX b 18 0) + 1) + 1) + 1) + 1) := hh
  refine lv_aload_n hx hb dX1_init_26 rfl (lv_at hl 0 rfl) ?_
  refine lv_bipush (v := 16) hx hb dX1_init_27 (by decide) ?_
  refine c_newa (atype := .boolean) (ty := .boolean) (kd := 22) (i := 0) (t := 1) (N := 16) E hh (fun q hq => by have := hh0.2.2.2.1; omega) rfl rfl rfl (fun _ _ => rfl) tb98 (by decide) rfl (by decide) (by rw [hRc.1]; decide) (by rw [hRc.2]; decide) ly_22 (by intro j _; rfl) (show b + 10 = b + 6 + 1 + 1 + 1 + 1 by omega) dX1_init_29 (fun H hh => ?_)
  refine c_putF (ci := 0) (k := 3) (q0 := 0) (C := RX1) (T := TX1) (N := 7) (ty := .array .boolean) (v := .ref (adX b 22 0)) E (Nat.le_refl _) hh rfl rfl inX1 tyX1_ok nmX1 (by decide) rfl hin rfl rfl rfl rfl (show 3 < 7 by decide) tb79 dX1_init_31 (fun H locs hh => ?_)
  have hh : cH D (adX b) cs (Pq (Pq (Pq (Pq (fun _ _ => False) 19 0) 20 0) 21 0) 22 0) [((adX b 18 0), .inr (0, [.ref (adX b 19 0), .ref (adX b 20 0), .ref (adX b 21 0), .ref (adX b 22 0), .null, .null, .null]))] (fun q => (adX b 18 0) ≤ q) s.heap S0 H locs ((((((adX b 18 0) + 1) + 1) + 1) + 1) + 1) := hh
  refine lv_aload_n hx hb dX1_init_34 rfl (lv_at hl 0 rfl) ?_
  refine lv_bipush (v := 16) hx hb dX1_init_35 (by decide) ?_
  refine c_newa (atype := .int) (ty := .int) (kd := 23) (i := 0) (t := 0) (N := 16) E hh (fun q hq => by have := hh0.2.2.2.1; omega) rfl rfl rfl (fun _ _ => rfl) tb65 (by decide) rfl (by decide) (by rw [hRc.1]; decide) (by rw [hRc.2]; decide) ly_23 (by intro j _; rfl) (show b + 11 = b + 6 + 1 + 1 + 1 + 1 + 1 by omega) dX1_init_37 (fun H hh => ?_)
  refine c_putF (ci := 0) (k := 4) (q0 := 0) (C := RX1) (T := TX1) (N := 7) (ty := .array .int) (v := .ref (adX b 23 0)) E (Nat.le_refl _) hh rfl rfl inX1 tyX1_ok nmX1 (by decide) rfl hin rfl rfl rfl rfl (show 4 < 7 by decide) tb80 dX1_init_39 (fun H locs hh => ?_)
  have hh : cH D (adX b) cs (Pq (Pq (Pq (Pq (Pq (fun _ _ => False) 19 0) 20 0) 21 0) 22 0) 23 0) [((adX b 18 0), .inr (0, [.ref (adX b 19 0), .ref (adX b 20 0), .ref (adX b 21 0), .ref (adX b 22 0), .ref (adX b 23 0), .null, .null]))] (fun q => (adX b 18 0) ≤ q) s.heap S0 H locs (((((((adX b 18 0) + 1) + 1) + 1) + 1) + 1) + 1) := hh
  refine lv_aload_n hx hb dX1_init_42 rfl (lv_at hl 0 rfl) ?_
  refine lv_iconst (v := 4) hx hb dX1_init_43 (by decide) ?_
  refine c_newa (atype := .int) (ty := .int) (kd := 24) (i := 0) (t := 0) (N := 4) E hh (fun q hq => by have := hh0.2.2.2.1; omega) rfl rfl rfl (fun _ _ => rfl) tb65 (by decide) rfl (by decide) (by rw [hRc.1]; decide) (by rw [hRc.2]; decide) ly_24 (by intro j _; rfl) (show b + 12 = b + 6 + 1 + 1 + 1 + 1 + 1 + 1 by omega) dX1_init_44 (fun H hh => ?_)
  refine c_putF (ci := 0) (k := 5) (q0 := 0) (C := RX1) (T := TX1) (N := 7) (ty := .array .int) (v := .ref (adX b 24 0)) E (Nat.le_refl _) hh rfl rfl inX1 tyX1_ok nmX1 (by decide) rfl hin rfl rfl rfl rfl (show 5 < 7 by decide) tb81 dX1_init_46 (fun H locs hh => ?_)
  have hh : cH D (adX b) cs (Pq (Pq (Pq (Pq (Pq (Pq (fun _ _ => False) 19 0) 20 0) 21 0) 22 0) 23 0) 24 0) [((adX b 18 0), .inr (0, [.ref (adX b 19 0), .ref (adX b 20 0), .ref (adX b 21 0), .ref (adX b 22 0), .ref (adX b 23 0), .ref (adX b 24 0), .null]))] (fun q => (adX b 18 0) ≤ q) s.heap S0 H locs ((((((((adX b 18 0) + 1) + 1) + 1) + 1) + 1) + 1) + 1) := hh
  refine lv_aload_n hx hb dX1_init_49 rfl (lv_at hl 0 rfl) ?_
  refine lv_iconst (v := 4) hx hb dX1_init_50 (by decide) ?_
  refine c_newa (atype := .int) (ty := .int) (kd := 25) (i := 0) (t := 0) (N := 4) E hh (fun q hq => by have := hh0.2.2.2.1; omega) rfl rfl rfl (fun _ _ => rfl) tb65 (by decide) rfl (by decide) (by rw [hRc.1]; decide) (by rw [hRc.2]; decide) ly_25 (by intro j _; rfl) (show b + 13 = b + 6 + 1 + 1 + 1 + 1 + 1 + 1 + 1 by omega) dX1_init_51 (fun H hh => ?_)
  refine c_putF (ci := 0) (k := 6) (q0 := 0) (C := RX1) (T := TX1) (N := 7) (ty := .array .int) (v := .ref (adX b 25 0)) E (Nat.le_refl _) hh rfl rfl inX1 tyX1_ok nmX1 (by decide) rfl hin rfl rfl rfl rfl (show 6 < 7 by decide) tb82 dX1_init_53 (fun H locs hh => ?_)
  have hh : cH D (adX b) cs (Pq (Pq (Pq (Pq (Pq (Pq (Pq (fun _ _ => False) 19 0) 20 0) 21 0) 22 0) 23 0) 24 0) 25 0) [((adX b 18 0), .inr (0, [.ref (adX b 19 0), .ref (adX b 20 0), .ref (adX b 21 0), .ref (adX b 22 0), .ref (adX b 23 0), .ref (adX b 24 0), .ref (adX b 25 0)]))] (fun q => (adX b 18 0) ≤ q) s.heap S0 H locs (((((((((adX b 18 0) + 1) + 1) + 1) + 1) + 1) + 1) + 1) + 1) := hh
  have hh := cH_done (kd := 18) (i := 0) hh rfl rfl
  exact c_vret E hh (fun _ _ q => q) rfl dX1_init_56
theorem iX1_ge (b : Nat) : ∀ kd j, (Pq (Pq (Pq (Pq (Pq (Pq (Pq (Pq (fun _ _ => False) 19 0) 20 0) 21 0) 22 0) 23 0) 24 0) 25 0) 18 0) kd j → (adX b 18 0) ≤ adX b kd j := Pq_le (Pq_le (Pq_le (Pq_le (Pq_le (Pq_le (Pq_le (Pq_le (fun _ _ h => False.elim h) (show b + 6 ≤ b + 7 by omega)) (show b + 6 ≤ b + 8 by omega)) (show b + 6 ≤ b + 9 by omega)) (show b + 6 ≤ b + 10 by omega)) (show b + 6 ≤ b + 11 by omega)) (show b + 6 ≤ b + 12 by omega)) (show b + 6 ≤ b + 13 by omega)) (show b + 6 ≤ b + 6 by omega)
theorem kX6_init : kC yX6_init cX6_init 1 0 := ⟨rfl, tb102, tb4, tb103, by decide, by decide, by decide +kernel⟩
set_option maxRecDepth 4000 in
theorem iX6 {l : Launch} {D : va_G} {cs : Nat → ClassId} {tU : Nat} {adK adV : Nat → Nat} (b : Nat) : MC l yX6_init cX6_init 1 1 60 2 8 D (adX b) cs tU adK adV (adX b 26 0) 5 [.null, .int 0, .int 0, .int 0, .null] [] (fun _ => True) (Pq (Pq (Pq (fun _ _ => False) 27 0) 28 0) 26 0) (((((adX b 26 0) + 1) + 1) + 1)) (fun S1 => S1 = S0) := by
  refine MC_of S0 (by decide) rfl (Nat.le_of_ble_eq_true rfl) ?_
  intro p e R s m args below meth c ls E hin _ hRc hl hh
  have hx := E.hx
  have hb := E.hb
  have hh0 := hh
  have hl := lv_sub hl [0] rfl
  refine lv_aload_n hx hb dX6_init_0 rfl (lv_at hl 0 rfl) ?_
  refine W.objInit hx hb E.hown (E.hts _ tb104) (E.hts _ tb23) (E.hts _ tb24) rfl (by rw [E.hml]; exact hl.1) rfl dX6_init_1 (Nat.le_trans (by decide) E.hf) (Nat.le_trans (Nat.le_of_ble_eq_true rfl) E.hl) ?_
  refine W.eq (g2 := F0 m 4 ls []) rfl ?_
  refine lv_aload_n hx hb dX6_init_4 rfl (lv_at hl 0 rfl) ?_
  refine lv_iconst (v := 4) hx hb dX6_init_5 (by decide) ?_
  refine c_newa (atype := .int) (ty := .int) (kd := 27) (i := 0) (t := 0) (N := 4) E hh (fun q hq => by have := hh0.2.2.2.1; omega) rfl rfl rfl (fun _ _ => rfl) tb65 (by decide) rfl (by decide) (by rw [hRc.1]; decide) (by rw [hRc.2]; decide) ly_27 (by intro j _; rfl) (show b + 15 = b + 14 + 1 by omega) dX6_init_6 (fun H hh => ?_)
  refine c_putF (ci := 5) (k := 0) (q0 := 0) (C := RX6) (T := TX6) (N := 5) (ty := .array .int) (v := .ref (adX b 27 0)) E (Nat.le_refl _) hh rfl rfl inX6 tyX6_ok nmX6 (by decide) rfl hin rfl rfl rfl rfl (show 0 < 5 by decide) tb105 dX6_init_8 (fun H locs hh => ?_)
  have hh : cH D (adX b) cs (Pq (fun _ _ => False) 27 0) [((adX b 26 0), .inr (5, [.ref (adX b 27 0), .int 0, .int 0, .int 0, .null]))] (fun q => (adX b 26 0) ≤ q) s.heap S0 H locs (((adX b 26 0) + 1) + 1) := hh
  refine lv_aload_n hx hb dX6_init_11 rfl (lv_at hl 0 rfl) ?_
  refine lv_iconst (v := 0) hx hb dX6_init_12 (by decide) ?_
  refine c_put (ci := 5) (k := 1) (q0 := 0) (C := RX6) (T := TX6) (N := 5) (ty := .boolean) (v := .int 0) E (Nat.le_refl _) hh rfl rfl inX6 tyX6_ok nmX6 (by decide) rfl rfl rfl rfl (show 1 < 5 by decide) tb107 dX6_init_13 (fun H locs hh => ?_)
  have hh : cH D (adX b) cs (Pq (fun _ _ => False) 27 0) [((adX b 26 0), .inr (5, [.ref (adX b 27 0), .int 0, .int 0, .int 0, .null]))] (fun q => (adX b 26 0) ≤ q) s.heap S0 H locs (((adX b 26 0) + 1) + 1) := hh
  refine lv_aload_n hx hb dX6_init_16 rfl (lv_at hl 0 rfl) ?_
  refine lv_iconst (v := 0) hx hb dX6_init_17 (by decide) ?_
  refine c_put (ci := 5) (k := 2) (q0 := 0) (C := RX6) (T := TX6) (N := 5) (ty := .int) (v := .int 0) E (Nat.le_refl _) hh rfl rfl inX6 tyX6_ok nmX6 (by decide) rfl rfl rfl rfl (show 2 < 5 by decide) tb109 dX6_init_18 (fun H locs hh => ?_)
  have hh : cH D (adX b) cs (Pq (fun _ _ => False) 27 0) [((adX b 26 0), .inr (5, [.ref (adX b 27 0), .int 0, .int 0, .int 0, .null]))] (fun q => (adX b 26 0) ≤ q) s.heap S0 H locs (((adX b 26 0) + 1) + 1) := hh
  refine lv_aload_n hx hb dX6_init_21 rfl (lv_at hl 0 rfl) ?_
  refine lv_iconst (v := 0) hx hb dX6_init_22 (by decide) ?_
  refine c_put (ci := 5) (k := 3) (q0 := 0) (C := RX6) (T := TX6) (N := 5) (ty := .int) (v := .int 0) E (Nat.le_refl _) hh rfl rfl inX6 tyX6_ok nmX6 (by decide) rfl rfl rfl rfl (show 3 < 5 by decide) tb111 dX6_init_23 (fun H locs hh => ?_)
  have hh : cH D (adX b) cs (Pq (fun _ _ => False) 27 0) [((adX b 26 0), .inr (5, [.ref (adX b 27 0), .int 0, .int 0, .int 0, .null]))] (fun q => (adX b 26 0) ≤ q) s.heap S0 H locs (((adX b 26 0) + 1) + 1) := hh
  refine lv_aload_n hx hb dX6_init_26 rfl (lv_at hl 0 rfl) ?_
  refine lv_iconst (v := 4) hx hb dX6_init_27 (by decide) ?_
  refine c_newa (atype := .int) (ty := .int) (kd := 28) (i := 0) (t := 0) (N := 4) E hh (fun q hq => by have := hh0.2.2.2.1; omega) rfl rfl rfl (fun _ _ => rfl) tb65 (by decide) rfl (by decide) (by rw [hRc.1]; decide) (by rw [hRc.2]; decide) ly_28 (by intro j _; rfl) (show b + 16 = b + 14 + 1 + 1 by omega) dX6_init_28 (fun H hh => ?_)
  refine c_putF (ci := 5) (k := 4) (q0 := 0) (C := RX6) (T := TX6) (N := 5) (ty := .array .int) (v := .ref (adX b 28 0)) E (Nat.le_refl _) hh rfl rfl inX6 tyX6_ok nmX6 (by decide) rfl hin rfl rfl rfl rfl (show 4 < 5 by decide) tb113 dX6_init_30 (fun H locs hh => ?_)
  have hh : cH D (adX b) cs (Pq (Pq (fun _ _ => False) 27 0) 28 0) [((adX b 26 0), .inr (5, [.ref (adX b 27 0), .int 0, .int 0, .int 0, .ref (adX b 28 0)]))] (fun q => (adX b 26 0) ≤ q) s.heap S0 H locs ((((adX b 26 0) + 1) + 1) + 1) := hh
  have hh := cH_done (kd := 26) (i := 0) hh rfl rfl
  exact c_vret E hh (fun _ _ q => q) rfl dX6_init_33
theorem iX6_ge (b : Nat) : ∀ kd j, (Pq (Pq (Pq (fun _ _ => False) 27 0) 28 0) 26 0) kd j → (adX b 26 0) ≤ adX b kd j := Pq_le (Pq_le (Pq_le (fun _ _ h => False.elim h) (show b + 14 ≤ b + 15 by omega)) (show b + 14 ≤ b + 16 by omega)) (show b + 14 ≤ b + 14 by omega)
theorem kX5_init : kC yX5_init cX5_init 2 1 := ⟨rfl, tb303, tb13, tb304, by decide, by decide, by decide +kernel⟩
set_option maxRecDepth 4000 in
theorem iX5 {l : Launch} {D : va_G} {cs : Nat → ClassId} {tU : Nat} {adK adV : Nat → Nat} (b : Nat) (i : Nat) (hi : i < 3) : MC l yX5_init cX5_init 2 2 83 7 55 D (adX b) cs tU adK adV (adX b 10 i) 4 [.int 0, .int 0, .int 0, .null, .int 0, .int 0, .null, .null, .null, .null, .null, .null, .null] [.ref (adX b 6 0)] (fun _ => True) (Pq (Pq (Pq (Pq (Pq (Pq (Pq (Pq (fun _ _ => False) 11 i) 12 i) 13 i) 14 i) 15 i) 16 i) 17 i) 10 i) ((((((((((adX b 10 i) + 1) + 1) + 1) + 1) + 1) + 1) + 1) + 1)) (fun S1 => S1 = S0) := by
  refine MC_of (ST i) (by decide) rfl (Nat.le_of_ble_eq_true rfl) ?_
  intro p e R s m args below meth c ls E hin _ hRc hl hh
  have hx := E.hx
  have hb := E.hb
  have hh0 := hh
  have hl := lv_sub hl [0, 1] rfl
  have hPL : ∀ kd j, (Pq (Pq (Pq (Pq (Pq (Pq (Pq (fun _ _ => False) 11 i) 12 i) 13 i) 14 i) 15 i) 16 i) 17 i) kd j → PL kd j := PLq (PLq (PLq (PLq (PLq (PLq (PLq (fun _ _ h => False.elim h) (show i < 3 from hi)) (show i < 3 from hi)) (show i < 3 from hi)) (show i < 3 from hi)) (show i < 3 from hi)) (show i < 3 from hi)) (show i < 3 from hi)
  have hIP : wI (adX b) (Pq (Pq (Pq (Pq (Pq (Pq (Pq (fun _ _ => False) 11 i) 12 i) 13 i) 14 i) 15 i) 16 i) 17 i) := wI_PL hPL
  have hge : ∀ kd j, (Pq (Pq (Pq (Pq (Pq (Pq (Pq (fun _ _ => False) 11 i) 12 i) 13 i) 14 i) 15 i) 16 i) 17 i) kd j → (adX b 10 i) ≤ adX b kd j := Pq_le (Pq_le (Pq_le (Pq_le (Pq_le (Pq_le (Pq_le (fun _ _ h => False.elim h) (show b + (50 + 8 * i) ≤ b + (51 + 8 * i) by omega)) (show b + (50 + 8 * i) ≤ b + (52 + 8 * i) by omega)) (show b + (50 + 8 * i) ≤ b + (53 + 8 * i) by omega)) (show b + (50 + 8 * i) ≤ b + (54 + 8 * i) by omega)) (show b + (50 + 8 * i) ≤ b + (55 + 8 * i) by omega)) (show b + (50 + 8 * i) ≤ b + (56 + 8 * i) by omega)) (show b + (50 + 8 * i) ≤ b + (57 + 8 * i) by omega)
  have hAP : ∀ q, wA (adX b) (Pq (Pq (Pq (Pq (Pq (Pq (Pq (fun _ _ => False) 11 i) 12 i) 13 i) 14 i) 15 i) 16 i) 17 i) q → (adX b 10 i) ≤ q := fun q h => by obtain ⟨kd, j, h, rfl⟩ := h; exact hge kd j h
  have EP := E.toP (cn2 := cn0) hIP hAP (fun _ _ h => absurd h (Nat.not_lt_zero _))
  refine lv_aload_n hx hb dX5_init_0 rfl (lv_at hl 0 rfl) ?_
  refine W.objInit hx hb E.hown (E.hts _ tb305) (E.hts _ tb23) (E.hts _ tb24) rfl (by rw [E.hml]; exact hl.1) rfl dX5_init_1 (Nat.le_trans (by decide) E.hf) (Nat.le_trans (Nat.le_of_ble_eq_true rfl) E.hl) ?_
  refine W.eq (g2 := F0 m 4 ls []) rfl ?_
  refine lv_aload_n hx hb dX5_init_4 rfl (lv_at hl 0 rfl) ?_
  refine lv_iconst (v := 0) hx hb dX5_init_5 (by decide) ?_
  refine c_put (ci := 4) (k := 0) (q0 := 0) (C := RX5) (T := TX5) (N := 13) (ty := .int) (v := .int 0) E (Nat.le_refl _) hh rfl rfl inX5 tyX5_ok nmX5 (by decide) rfl rfl rfl rfl (show 0 < 13 by decide) tb309 dX5_init_6 (fun H locs hh => ?_)
  have hh : cH D (adX b) cs (fun _ _ => False) [((adX b 10 i), .inr (4, [.int 0, .int 0, .int 0, .null, .int 0, .int 0, .null, .null, .null, .null, .null, .null, .null]))] (fun q => (adX b 10 i) ≤ q) s.heap (ST i) H locs ((adX b 10 i) + 1) := hh
  refine lv_aload_n hx hb dX5_init_9 rfl (lv_at hl 0 rfl) ?_
  refine lv_iconst (v := 0) hx hb dX5_init_10 (by decide) ?_
  refine c_put (ci := 4) (k := 1) (q0 := 0) (C := RX5) (T := TX5) (N := 13) (ty := .int) (v := .int 0) E (Nat.le_refl _) hh rfl rfl inX5 tyX5_ok nmX5 (by decide) rfl rfl rfl rfl (show 1 < 13 by decide) tb312 dX5_init_11 (fun H locs hh => ?_)
  have hh : cH D (adX b) cs (fun _ _ => False) [((adX b 10 i), .inr (4, [.int 0, .int 0, .int 0, .null, .int 0, .int 0, .null, .null, .null, .null, .null, .null, .null]))] (fun q => (adX b 10 i) ≤ q) s.heap (ST i) H locs ((adX b 10 i) + 1) := hh
  refine lv_aload_n hx hb dX5_init_14 rfl (lv_at hl 0 rfl) ?_
  refine lv_iconst (v := 0) hx hb dX5_init_15 (by decide) ?_
  refine c_put (ci := 4) (k := 2) (q0 := 0) (C := RX5) (T := TX5) (N := 13) (ty := .int) (v := .int 0) E (Nat.le_refl _) hh rfl rfl inX5 tyX5_ok nmX5 (by decide) rfl rfl rfl rfl (show 2 < 13 by decide) tb316 dX5_init_16 (fun H locs hh => ?_)
  have hh : cH D (adX b) cs (fun _ _ => False) [((adX b 10 i), .inr (4, [.int 0, .int 0, .int 0, .null, .int 0, .int 0, .null, .null, .null, .null, .null, .null, .null]))] (fun q => (adX b 10 i) ≤ q) s.heap (ST i) H locs ((adX b 10 i) + 1) := hh
  refine lv_aload_n hx hb dX5_init_19 rfl (lv_at hl 0 rfl) ?_
  refine lv_iconst (v := 0) hx hb dX5_init_20 (by decide) ?_
  refine c_put (ci := 4) (k := 4) (q0 := 0) (C := RX5) (T := TX5) (N := 13) (ty := .int) (v := .int 0) E (Nat.le_refl _) hh rfl rfl inX5 tyX5_ok nmX5 (by decide) rfl rfl rfl rfl (show 4 < 13 by decide) tb321 dX5_init_21 (fun H locs hh => ?_)
  have hh : cH D (adX b) cs (fun _ _ => False) [((adX b 10 i), .inr (4, [.int 0, .int 0, .int 0, .null, .int 0, .int 0, .null, .null, .null, .null, .null, .null, .null]))] (fun q => (adX b 10 i) ≤ q) s.heap (ST i) H locs ((adX b 10 i) + 1) := hh
  refine lv_aload_n hx hb dX5_init_24 rfl (lv_at hl 0 rfl) ?_
  refine lv_iconst (v := 0) hx hb dX5_init_25 (by decide) ?_
  refine c_put (ci := 4) (k := 5) (q0 := 0) (C := RX5) (T := TX5) (N := 13) (ty := .int) (v := .int 0) E (Nat.le_refl _) hh rfl rfl inX5 tyX5_ok nmX5 (by decide) rfl rfl rfl rfl (show 5 < 13 by decide) tb323 dX5_init_26 (fun H locs hh => ?_)
  have hh : cH D (adX b) cs (fun _ _ => False) [((adX b 10 i), .inr (4, [.int 0, .int 0, .int 0, .null, .int 0, .int 0, .null, .null, .null, .null, .null, .null, .null]))] (fun q => (adX b 10 i) ≤ q) s.heap (ST i) H locs ((adX b 10 i) + 1) := hh
  refine lv_aload_n hx hb dX5_init_29 rfl (lv_at hl 0 rfl) ?_
  refine lv_iconst (v := 4) hx hb dX5_init_30 (by decide) ?_
  refine c_newa (atype := .int) (ty := .int) (kd := 11) (i := i) (t := 0) (N := 4) E hh (fun q hq => by have := hh0.2.2.2.1; omega) rfl rfl rfl (fun _ _ => rfl) tb65 (by decide) rfl (by decide) (by rw [hRc.1]; decide) (by rw [hRc.2]; decide) ly_11 (by intro j _; simp [ST, sa, S0]) (show b + (51 + 8 * i) = b + (50 + 8 * i) + 1 by omega) dX5_init_31 (fun H hh => ?_)
  refine c_putF (ci := 4) (k := 6) (q0 := 0) (C := RX5) (T := TX5) (N := 13) (ty := .array .int) (v := .ref (adX b 11 i)) E (Nat.le_refl _) hh rfl rfl inX5 tyX5_ok nmX5 (by decide) rfl hin rfl rfl rfl rfl (show 6 < 13 by decide) tb326 dX5_init_33 (fun H locs hh => ?_)
  have hh : cH D (adX b) cs (Pq (fun _ _ => False) 11 i) [((adX b 10 i), .inr (4, [.int 0, .int 0, .int 0, .null, .int 0, .int 0, .ref (adX b 11 i), .null, .null, .null, .null, .null, .null]))] (fun q => (adX b 10 i) ≤ q) s.heap (ST i) H locs (((adX b 10 i) + 1) + 1) := hh
  refine lv_aload_n hx hb dX5_init_36 rfl (lv_at hl 0 rfl) ?_
  refine lv_iconst (v := 4) hx hb dX5_init_37 (by decide) ?_
  refine c_newa (atype := .int) (ty := .int) (kd := 12) (i := i) (t := 0) (N := 4) E hh (fun q hq => by have := hh0.2.2.2.1; omega) rfl rfl rfl (fun _ _ => rfl) tb65 (by decide) rfl (by decide) (by rw [hRc.1]; decide) (by rw [hRc.2]; decide) ly_12 (by intro j _; simp [ST, sa, S0]) (show b + (52 + 8 * i) = b + (50 + 8 * i) + 1 + 1 by omega) dX5_init_38 (fun H hh => ?_)
  refine c_putF (ci := 4) (k := 7) (q0 := 0) (C := RX5) (T := TX5) (N := 13) (ty := .array .int) (v := .ref (adX b 12 i)) E (Nat.le_refl _) hh rfl rfl inX5 tyX5_ok nmX5 (by decide) rfl hin rfl rfl rfl rfl (show 7 < 13 by decide) tb329 dX5_init_40 (fun H locs hh => ?_)
  have hh : cH D (adX b) cs (Pq (Pq (fun _ _ => False) 11 i) 12 i) [((adX b 10 i), .inr (4, [.int 0, .int 0, .int 0, .null, .int 0, .int 0, .ref (adX b 11 i), .ref (adX b 12 i), .null, .null, .null, .null, .null]))] (fun q => (adX b 10 i) ≤ q) s.heap (ST i) H locs ((((adX b 10 i) + 1) + 1) + 1) := hh
  refine lv_aload_n hx hb dX5_init_43 rfl (lv_at hl 0 rfl) ?_
  refine lv_iconst (v := 4) hx hb dX5_init_44 (by decide) ?_
  refine c_newa (atype := .int) (ty := .int) (kd := 13) (i := i) (t := 0) (N := 4) E hh (fun q hq => by have := hh0.2.2.2.1; omega) rfl rfl rfl (fun _ _ => rfl) tb65 (by decide) rfl (by decide) (by rw [hRc.1]; decide) (by rw [hRc.2]; decide) ly_13 (by intro j _; simp [ST, sa, S0]) (show b + (53 + 8 * i) = b + (50 + 8 * i) + 1 + 1 + 1 by omega) dX5_init_45 (fun H hh => ?_)
  refine c_putF (ci := 4) (k := 8) (q0 := 0) (C := RX5) (T := TX5) (N := 13) (ty := .array .int) (v := .ref (adX b 13 i)) E (Nat.le_refl _) hh rfl rfl inX5 tyX5_ok nmX5 (by decide) rfl hin rfl rfl rfl rfl (show 8 < 13 by decide) tb331 dX5_init_47 (fun H locs hh => ?_)
  have hh : cH D (adX b) cs (Pq (Pq (Pq (fun _ _ => False) 11 i) 12 i) 13 i) [((adX b 10 i), .inr (4, [.int 0, .int 0, .int 0, .null, .int 0, .int 0, .ref (adX b 11 i), .ref (adX b 12 i), .ref (adX b 13 i), .null, .null, .null, .null]))] (fun q => (adX b 10 i) ≤ q) s.heap (ST i) H locs (((((adX b 10 i) + 1) + 1) + 1) + 1) := hh
  refine lv_aload_n hx hb dX5_init_50 rfl (lv_at hl 0 rfl) ?_
  refine lv_iconst (v := 4) hx hb dX5_init_51 (by decide) ?_
  refine c_newa (atype := .int) (ty := .int) (kd := 14) (i := i) (t := 0) (N := 4) E hh (fun q hq => by have := hh0.2.2.2.1; omega) rfl rfl rfl (fun _ _ => rfl) tb65 (by decide) rfl (by decide) (by rw [hRc.1]; decide) (by rw [hRc.2]; decide) ly_14 (by intro j _; simp [ST, sa, S0]) (show b + (54 + 8 * i) = b + (50 + 8 * i) + 1 + 1 + 1 + 1 by omega) dX5_init_52 (fun H hh => ?_)
  refine c_putF (ci := 4) (k := 9) (q0 := 0) (C := RX5) (T := TX5) (N := 13) (ty := .array .int) (v := .ref (adX b 14 i)) E (Nat.le_refl _) hh rfl rfl inX5 tyX5_ok nmX5 (by decide) rfl hin rfl rfl rfl rfl (show 9 < 13 by decide) tb333 dX5_init_54 (fun H locs hh => ?_)
  have hh : cH D (adX b) cs (Pq (Pq (Pq (Pq (fun _ _ => False) 11 i) 12 i) 13 i) 14 i) [((adX b 10 i), .inr (4, [.int 0, .int 0, .int 0, .null, .int 0, .int 0, .ref (adX b 11 i), .ref (adX b 12 i), .ref (adX b 13 i), .ref (adX b 14 i), .null, .null, .null]))] (fun q => (adX b 10 i) ≤ q) s.heap (ST i) H locs ((((((adX b 10 i) + 1) + 1) + 1) + 1) + 1) := hh
  refine lv_aload_n hx hb dX5_init_57 rfl (lv_at hl 0 rfl) ?_
  refine lv_bipush (v := 16) hx hb dX5_init_58 (by decide) ?_
  refine c_newa (atype := .int) (ty := .int) (kd := 15) (i := i) (t := 0) (N := 16) E hh (fun q hq => by have := hh0.2.2.2.1; omega) rfl rfl rfl (fun _ _ => rfl) tb65 (by decide) rfl (by decide) (by rw [hRc.1]; decide) (by rw [hRc.2]; decide) ly_15 (by intro j _; simp [ST, sa, S0]) (show b + (55 + 8 * i) = b + (50 + 8 * i) + 1 + 1 + 1 + 1 + 1 by omega) dX5_init_60 (fun H hh => ?_)
  refine c_putF (ci := 4) (k := 10) (q0 := 0) (C := RX5) (T := TX5) (N := 13) (ty := .array .int) (v := .ref (adX b 15 i)) E (Nat.le_refl _) hh rfl rfl inX5 tyX5_ok nmX5 (by decide) rfl hin rfl rfl rfl rfl (show 10 < 13 by decide) tb335 dX5_init_62 (fun H locs hh => ?_)
  have hh : cH D (adX b) cs (Pq (Pq (Pq (Pq (Pq (fun _ _ => False) 11 i) 12 i) 13 i) 14 i) 15 i) [((adX b 10 i), .inr (4, [.int 0, .int 0, .int 0, .null, .int 0, .int 0, .ref (adX b 11 i), .ref (adX b 12 i), .ref (adX b 13 i), .ref (adX b 14 i), .ref (adX b 15 i), .null, .null]))] (fun q => (adX b 10 i) ≤ q) s.heap (ST i) H locs (((((((adX b 10 i) + 1) + 1) + 1) + 1) + 1) + 1) := hh
  refine lv_aload_n hx hb dX5_init_65 rfl (lv_at hl 0 rfl) ?_
  refine lv_bipush (v := 16) hx hb dX5_init_66 (by decide) ?_
  refine c_newa (atype := .int) (ty := .int) (kd := 16) (i := i) (t := 0) (N := 16) E hh (fun q hq => by have := hh0.2.2.2.1; omega) rfl rfl rfl (fun _ _ => rfl) tb65 (by decide) rfl (by decide) (by rw [hRc.1]; decide) (by rw [hRc.2]; decide) ly_16 (by intro j _; simp [ST, sa, S0]) (show b + (56 + 8 * i) = b + (50 + 8 * i) + 1 + 1 + 1 + 1 + 1 + 1 by omega) dX5_init_68 (fun H hh => ?_)
  refine c_putF (ci := 4) (k := 11) (q0 := 0) (C := RX5) (T := TX5) (N := 13) (ty := .array .int) (v := .ref (adX b 16 i)) E (Nat.le_refl _) hh rfl rfl inX5 tyX5_ok nmX5 (by decide) rfl hin rfl rfl rfl rfl (show 11 < 13 by decide) tb338 dX5_init_70 (fun H locs hh => ?_)
  have hh : cH D (adX b) cs (Pq (Pq (Pq (Pq (Pq (Pq (fun _ _ => False) 11 i) 12 i) 13 i) 14 i) 15 i) 16 i) [((adX b 10 i), .inr (4, [.int 0, .int 0, .int 0, .null, .int 0, .int 0, .ref (adX b 11 i), .ref (adX b 12 i), .ref (adX b 13 i), .ref (adX b 14 i), .ref (adX b 15 i), .ref (adX b 16 i), .null]))] (fun q => (adX b 10 i) ≤ q) s.heap (ST i) H locs ((((((((adX b 10 i) + 1) + 1) + 1) + 1) + 1) + 1) + 1) := hh
  refine lv_aload_n hx hb dX5_init_73 rfl (lv_at hl 0 rfl) ?_
  refine lv_bipush (v := 7) hx hb dX5_init_74 (by decide) ?_
  refine c_newa (atype := .int) (ty := .int) (kd := 17) (i := i) (t := 0) (N := 7) E hh (fun q hq => by have := hh0.2.2.2.1; omega) rfl rfl rfl (fun _ _ => rfl) tb65 (by decide) rfl (by decide) (by rw [hRc.1]; decide) (by rw [hRc.2]; decide) ly_17 (by intro j _; simp [ST, sa, S0]) (show b + (57 + 8 * i) = b + (50 + 8 * i) + 1 + 1 + 1 + 1 + 1 + 1 + 1 by omega) dX5_init_76 (fun H hh => ?_)
  refine c_putF (ci := 4) (k := 12) (q0 := 0) (C := RX5) (T := TX5) (N := 13) (ty := .array .int) (v := .ref (adX b 17 i)) E (Nat.le_refl _) hh rfl rfl inX5 tyX5_ok nmX5 (by decide) rfl hin rfl rfl rfl rfl (show 12 < 13 by decide) tb341 dX5_init_78 (fun H locs hh => ?_)
  have hh : cH D (adX b) cs (Pq (Pq (Pq (Pq (Pq (Pq (Pq (fun _ _ => False) 11 i) 12 i) 13 i) 14 i) 15 i) 16 i) 17 i) [((adX b 10 i), .inr (4, [.int 0, .int 0, .int 0, .null, .int 0, .int 0, .ref (adX b 11 i), .ref (adX b 12 i), .ref (adX b 13 i), .ref (adX b 14 i), .ref (adX b 15 i), .ref (adX b 16 i), .ref (adX b 17 i)]))] (fun q => (adX b 10 i) ≤ q) s.heap (ST i) H locs (((((((((adX b 10 i) + 1) + 1) + 1) + 1) + 1) + 1) + 1) + 1) := hh
  refine lv_aload_n hx hb dX5_init_81 rfl (lv_at hl 0 rfl) ?_
  refine lv_aload_n hx hb dX5_init_82 rfl (lv_at hl 1 rfl) ?_
  refine c_put (ci := 4) (k := 3) (q0 := 0) (C := RX5) (T := TX5) (N := 13) (ty := .object RX3) (v := .ref (adX b 6 0)) E (Nat.le_refl _) hh rfl rfl inX5 tyX5_ok nmX5 (by decide) rfl rfl rfl rfl (show 3 < 13 by decide) tb319 dX5_init_83 (fun H locs hh => ?_)
  have hh : cH D (adX b) cs (Pq (Pq (Pq (Pq (Pq (Pq (Pq (fun _ _ => False) 11 i) 12 i) 13 i) 14 i) 15 i) 16 i) 17 i) [((adX b 10 i), .inr (4, [.int 0, .int 0, .int 0, .ref (adX b 6 0), .int 0, .int 0, .ref (adX b 11 i), .ref (adX b 12 i), .ref (adX b 13 i), .ref (adX b 14 i), .ref (adX b 15 i), .ref (adX b 16 i), .ref (adX b 17 i)]))] (fun q => (adX b 10 i) ≤ q) s.heap (ST i) H locs (((((((((adX b 10 i) + 1) + 1) + 1) + 1) + 1) + 1) + 1) + 1) := hh
  refine lv_aload_n hx hb dX5_init_86 rfl (lv_at hl 0 rfl) ?_
  refine c_get (ci := 4) (k := 7) (q0 := 0) (C := RX5) (T := TX5) (N := 13) E hh rfl rfl inX5 (by decide) rfl tb329 dX5_init_87 ?_
  refine lv_iconst (v := (-1)) hx hb dX5_init_90 (by decide) ?_
  refine c_cv hAP hh (x_runS (As := [.ref (adX b 12 i), .int (-1)]) (rest := []) EP (cH_wH hh) (mJ7_fill_53178 hIP (fun _ _ h => absurd h (Nat.not_lt_zero _)) (by unfold Pq; simp) ly_12 (sp_fill (by decide) (rfl : (fun S1 => S1 = sa (ST i) 12 i (fun j => if j < 4 then (-1) else ((ST i)).1 12 i j)) _))) kJ7_fill_53178 tb306 ⟨by decide, by decide⟩ rfl hl.1 rfl (Nat.le_of_ble_eq_true rfl) dX5_init_91 ⟨by rw [hRc.1]; decide, by rw [hRc.2]; decide⟩) (fun S1 H locs eS hh => ?_)
  subst eS
  refine lv_aload_n hx hb dX5_init_94 rfl (lv_at hl 0 rfl) ?_
  refine c_get (ci := 4) (k := 10) (q0 := 0) (C := RX5) (T := TX5) (N := 13) E hh rfl rfl inX5 (by decide) rfl tb335 dX5_init_95 ?_
  refine lv_bipush (v := 50) hx hb dX5_init_98 (by decide) ?_
  refine c_cv hAP hh (x_runS (As := [.ref (adX b 15 i), .int 50]) (rest := []) EP (cH_wH hh) (mJ7_fill_53178 hIP (fun _ _ h => absurd h (Nat.not_lt_zero _)) (by unfold Pq; simp) ly_15 (sp_fill (by decide) (rfl : (fun S1 => S1 = sa (sa (ST i) 12 i (fun j => if j < 4 then (-1) else (ST i).1 12 i j)) 15 i (fun j => if j < 16 then 50 else ((sa (ST i) 12 i (fun j => if j < 4 then (-1) else (ST i).1 12 i j))).1 15 i j)) _))) kJ7_fill_53178 tb306 ⟨by decide, by decide⟩ rfl hl.1 rfl (Nat.le_of_ble_eq_true rfl) dX5_init_100 ⟨by rw [hRc.1]; decide, by rw [hRc.2]; decide⟩) (fun S1 H locs eS hh => ?_)
  subst eS
  refine lv_aload_n hx hb dX5_init_103 rfl (lv_at hl 0 rfl) ?_
  refine c_get (ci := 4) (k := 11) (q0 := 0) (C := RX5) (T := TX5) (N := 13) E hh rfl rfl inX5 (by decide) rfl tb338 dX5_init_104 ?_
  refine lv_bipush (v := 50) hx hb dX5_init_107 (by decide) ?_
  refine c_cv hAP hh (x_runS (As := [.ref (adX b 16 i), .int 50]) (rest := []) EP (cH_wH hh) (mJ7_fill_53178 hIP (fun _ _ h => absurd h (Nat.not_lt_zero _)) (by unfold Pq; simp) ly_16 (sp_fill (by decide) (rfl : (fun S1 => S1 = sa (sa (sa (ST i) 12 i (fun j => if j < 4 then (-1) else (ST i).1 12 i j)) 15 i (fun j => if j < 16 then 50 else (sa (ST i) 12 i (fun j => if j < 4 then (-1) else (ST i).1 12 i j)).1 15 i j)) 16 i (fun j => if j < 16 then 50 else ((sa (sa (ST i) 12 i (fun j => if j < 4 then (-1) else (ST i).1 12 i j)) 15 i (fun j => if j < 16 then 50 else (sa (ST i) 12 i (fun j => if j < 4 then (-1) else (ST i).1 12 i j)).1 15 i j))).1 16 i j)) _))) kJ7_fill_53178 tb306 ⟨by decide, by decide⟩ rfl hl.1 rfl (Nat.le_of_ble_eq_true rfl) dX5_init_109 ⟨by rw [hRc.1]; decide, by rw [hRc.2]; decide⟩) (fun S1 H locs eS hh => ?_)
  subst eS
  have hh := cH_town hh
  have hh : cH D (adX b) cs (Pq (Pq (Pq (Pq (Pq (Pq (Pq (fun _ _ => False) 11 i) 12 i) 13 i) 14 i) 15 i) 16 i) 17 i) [((adX b 10 i), .inr (4, [.int 0, .int 0, .int 0, .ref (adX b 6 0), .int 0, .int 0, .ref (adX b 11 i), .ref (adX b 12 i), .ref (adX b 13 i), .ref (adX b 14 i), .ref (adX b 15 i), .ref (adX b 16 i), .ref (adX b 17 i)]))] (fun q => (adX b 10 i) ≤ q) s.heap S0 H locs (((((((((adX b 10 i) + 1) + 1) + 1) + 1) + 1) + 1) + 1) + 1) := hh
  have hh := cH_done (kd := 10) (i := i) hh rfl rfl
  exact c_vret E hh (fun _ _ q => q) rfl dX5_init_112
theorem iX5_ge (b : Nat) (i : Nat) : ∀ kd j, (Pq (Pq (Pq (Pq (Pq (Pq (Pq (Pq (fun _ _ => False) 11 i) 12 i) 13 i) 14 i) 15 i) 16 i) 17 i) 10 i) kd j → (adX b 10 i) ≤ adX b kd j := Pq_le (Pq_le (Pq_le (Pq_le (Pq_le (Pq_le (Pq_le (Pq_le (fun _ _ h => False.elim h) (show b + (50 + 8 * i) ≤ b + (51 + 8 * i) by omega)) (show b + (50 + 8 * i) ≤ b + (52 + 8 * i) by omega)) (show b + (50 + 8 * i) ≤ b + (53 + 8 * i) by omega)) (show b + (50 + 8 * i) ≤ b + (54 + 8 * i) by omega)) (show b + (50 + 8 * i) ≤ b + (55 + 8 * i) by omega)) (show b + (50 + 8 * i) ≤ b + (56 + 8 * i) by omega)) (show b + (50 + 8 * i) ≤ b + (57 + 8 * i) by omega)) (show b + (50 + 8 * i) ≤ b + (50 + 8 * i) by omega)
