/-! pairings in the abstract: N who says no, W worths, L he likes her, H she likes him -/
abbrev Bm := Nat → Nat → Bool
abbrev Im := Nat → Nat → Int32
def lawB (N : Bm) (w : Nat → Int32) : Nat → Nat → Bool
  | 0, _ => true
  | d + 1, x => (bif decide (w x = -1) then true else !N x (w x).toNatClampNeg) && lawB N w d (x + 1)
def ownF (L : Im) (w : Nat → Int32) (x : Nat) : Int32 := if w x = -1 then -1 else L x (w x).toNatClampNeg
def herF (m : Nat) (H : Im) (w : Nat → Int32) (y : Nat) : Int32 := if husU w (nI y) m 0 = -1 then -1 else H (husU w (nI y) m 0).toNatClampNeg y
def steI (m : Nat) (N : Bm) (L H : Im) (w : Nat → Int32) (x : Nat) : Nat → Nat → Bool
  | 0, _ => true
  | d + 1, y => (N x y || decide (L x y ≤ ownF L w x) || decide (H x y ≤ herF m H w y)) && steI m N L H w x d (y + 1)
def steO (m n : Nat) (N : Bm) (L H : Im) (w : Nat → Int32) : Nat → Nat → Bool
  | 0, _ => true
  | d + 1, x => steI m N L H w x n 0 && steO m n N L H w d (x + 1)
def conP (W : Im) (w : Nat → Int32) : Nat → Int32
  | 0 => 0
  | x + 1 => if w x = -1 then conP W w x else conP W w x + W x (w x).toNatClampNeg
abbrev Pa := Int32 × Int32 × (Nat → Int32)
def entP (a : Pa) (s : Int32) (w : Nat → Int32) : Pa := (a.1 + 1, bif decide (a.1 = 0) || !decide (s ≤ a.2.1) then (s, w) else a.2)
def enu {A : Type} (n : Nat) (al : Bm) (lf : (Nat → Int32) → A → A) : Nat → Nat → (Nat → Int32) → Nat → A → A
  | 0, _, w, _, a => lf w a
  | d + 1, x, w, k, a => foldZ (fun y a => bif !k.testBit y && al x y then enu n al lf d (x + 1) (upd w x (nI y)) (k ||| 2 ^ y) a else a) n 0 (enu n al lf d (x + 1) (upd w x (-1)) k a)
def eSt {A : Type} (n : Nat) (al : Bm) (lf : (Nat → Int32) → A → A) (d x : Nat) (w : Nat → Int32) (k : Nat) : Nat → A → A := fun y a => bif !k.testBit y && al x y then enu n al lf d (x + 1) (upd w x (nI y)) (k ||| 2 ^ y) a else a
theorem enu_s {A : Type} {n : Nat} {al : Bm} {lf : (Nat → Int32) → A → A} {d x : Nat} {w : Nat → Int32} {k : Nat} {a : A} : enu n al lf (d + 1) x w k a = foldZ (eSt n al lf d x w k) n 0 (enu n al lf d (x + 1) (upd w x (-1)) k a) := rfl
/-- the class's leaf: both sorts; the reference's: one sort -/
def lfC (m n : Nat) (N : Bm) (W L H : Im) : (Nat → Int32) → Pa × Pa → Pa × Pa := fun w a => (entP a.1 (conP W w m) w, bif steO m n N L H w m 0 then entP a.2 (conP W w m) w else a.2)
def okM (m n : Nat) (N : Bm) (L H : Im) (s : Nat) (w : Nat → Int32) : Bool := lawB N w m 0 && (bif decide (s = 0) then true else steO m n N L H w m 0)
def lfM (m n : Nat) (N : Bm) (W L H : Im) (s : Nat) : (Nat → Int32) → Pa → Pa := fun w a => bif okM m n N L H s w then entP a (conP W w m) w else a
def prj (s : Nat) (a : Pa × Pa) : Pa := bif decide (s = 0) then a.1 else a.2
theorem lawB_bad {N : Bm} {w : Nat → Int32} : ∀ d x i, x ≤ i → i < x + d → (¬ w i = -1 ∧ N i (w i).toNatClampNeg = true) → lawB N w d x = false
  | 0, x, i, a, b, _ => by omega
  | d + 1, x, i, a, b, h => by
    unfold lawB
    by_cases q : x = i
    · subst q; simp [h.1, h.2]
    · rw [lawB_bad d (x + 1) i (by omega) (by omega) h, Bool.and_false]
theorem lawB_good {N : Bm} {w : Nat → Int32} : ∀ d x, (∀ i, x ≤ i → i < x + d → (w i = -1 ∨ N i (w i).toNatClampNeg = false)) → lawB N w d x = true
  | 0, x, _ => rfl
  | d + 1, x, h => by
    unfold lawB
    rw [lawB_good d (x + 1) (fun i a b => h i (by omega) (by omega)), Bool.and_true]
    rcases h x (by omega) (by omega) with q | q
    · simp [q]
    · by_cases q2 : w x = -1
      · simp [q2]
      · simp [q2, q]
theorem upd_lt {w : Nat → Int32} {x i : Nat} {v : Int32} (h : i < x) : upd w x v i = w i := by rw [upd_rd, if_neg (by omega)]
theorem fold_c {A B : Type} {g : Nat → A → A} {h : Nat → B → B} {f : B → A} : ∀ d z b, (∀ y b, z ≤ y → y < z + d → g y (f b) = f (h y b)) → foldZ g d z (f b) = f (foldZ h d z b)
  | 0, _, _, _ => rfl
  | d + 1, z, b, e => by
    unfold foldZ
    rw [e z b (by omega) (by omega)]
    exact fold_c d (z + 1) _ (fun y b a1 a2 => e y b (by omega) (by omega))
section
variable {m n : Nat} {N : Bm} {W L H : Im} {s : Nat}
theorem enu_bad : ∀ (d x : Nat) (w : Nat → Int32) (k : Nat) (a : Pa) (i : Nat), x + d = m → i < x → (¬ w i = -1 ∧ N i (w i).toNatClampNeg = true) → enu n (fun _ _ => true) (lfM m n N W L H s) d x w k a = a
  | 0, x, w, k, a, i, e, hi, h => by
    show lfM m n N W L H s w a = a
    unfold lfM okM
    rw [lawB_bad m 0 i (by omega) (by omega) h]
    rfl
  | d + 1, x, w, k, a, i, e, hi, h => by
    rw [enu_s, enu_bad d (x + 1) _ k a i (by omega) (by omega) (by rw [upd_lt hi]; exact h)]
    refine fold_id (fun y => ?_) n 0
    unfold eSt
    rw [enu_bad d (x + 1) (upd w x (nI y)) (k ||| 2 ^ y) a i (by omega) (by omega) (by rw [upd_lt hi]; exact h)]
    cases !k.testBit y && true <;> rfl
theorem enu_eq (hs : s < 2) (hn : n ≤ 4) : ∀ (d x : Nat) (w : Nat → Int32) (k : Nat) (a : Pa × Pa), x + d = m → (∀ i, i < x → (w i = -1 ∨ N i (w i).toNatClampNeg = false)) → enu n (fun _ _ => true) (lfM m n N W L H s) d x w k (prj s a) = prj s (enu n (fun x y => !N x y) (lfC m n N W L H) d x w k a)
  | 0, x, w, k, a, e, h => by
    show lfM m n N W L H s w (prj s a) = prj s (lfC m n N W L H w a)
    have hl : lawB N w m 0 = true := lawB_good m 0 (fun i _ hi => h i (by omega))
    unfold lfM lfC okM prj
    rw [hl]
    rcases (show s = 0 ∨ s = 1 by omega) with rfl | rfl
    · rfl
    · rfl
  | d + 1, x, w, k, a, e, h => by
    rw [enu_s, enu_s, enu_eq hs hn d (x + 1) (upd w x (-1)) k a (by omega) (fun i hi => by
      by_cases q : i = x
      · subst q; exact Or.inl (pk_us)
      · rw [upd_lt (by omega)]; exact h i (by omega))]
    refine fold_c n 0 _ (fun y b _ hy => ?_)
    unfold eSt
    cases q : N x y
    · rw [enu_eq hs hn d (x + 1) (upd w x (nI y)) (k ||| 2 ^ y) b (by omega) (fun i hi => by
        by_cases q2 : i = x
        · subst q2; rw [pk_us, nI_clamp (by omega)]; exact Or.inr q
        · rw [upd_lt (by omega)]; exact h i (by omega))]
      cases k.testBit y <;> simp [q]
    · rw [enu_bad d (x + 1) (upd w x (nI y)) (k ||| 2 ^ y) (prj s b) x (by omega) (by omega) (by rw [pk_us, nI_clamp (by omega)]; exact ⟨nI_nm1 (by omega), q⟩)]
      cases k.testBit y <;> simp [q]
end
theorem conP_congr {W : Im} {w w2 : Nat → Int32} : ∀ x, (∀ i, i < x → w i = w2 i) → conP W w x = conP W w2 x
  | 0, _ => rfl
  | x + 1, h => by
    unfold conP
    rw [h x (by omega), conP_congr x (fun i hi => h i (by omega))]
