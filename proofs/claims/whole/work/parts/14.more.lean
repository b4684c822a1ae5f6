/-! more rows: receivers, System.arraycopy between rows of ints -/
theorem vp_lt {j : Int32} {n : Nat} (h : vp_in j n) : j.toNatClampNeg < n := Nat.not_le.mp fun q => h (Or.inr q)
theorem rv_0 {ad : Nat → Nat → Nat} {cs : Nat → ClassId} {i : Nat} : ∃ (ci : Nat) (q : vw_C), clX[ci]? = some q ∧ q.1 = RX7 ∧ ∀ (f : Nat → Int32) (w : Int64), ∃ fs, lay ad cs 0 i f w = .inr (ci, fs) := ⟨6, (RX7, TX7, 10), rfl, rfl, fun _ _ => ⟨_, rfl⟩⟩
theorem rv_1 {ad : Nat → Nat → Nat} {cs : Nat → ClassId} {i : Nat} : ∃ (ci : Nat) (q : vw_C), clX[ci]? = some q ∧ q.1 = RX2 ∧ ∀ (f : Nat → Int32) (w : Int64), ∃ fs, lay ad cs 1 i f w = .inr (ci, fs) := ⟨1, (RX2, TX2, 10), rfl, rfl, fun _ _ => ⟨_, rfl⟩⟩
theorem rv_6 {ad : Nat → Nat → Nat} {cs : Nat → ClassId} {i : Nat} : ∃ (ci : Nat) (q : vw_C), clX[ci]? = some q ∧ q.1 = RX3 ∧ ∀ (f : Nat → Int32) (w : Int64), ∃ fs, lay ad cs 6 i f w = .inr (ci, fs) := ⟨2, (RX3, TX3, 4), rfl, rfl, fun _ _ => ⟨_, rfl⟩⟩
theorem rv_10 {ad : Nat → Nat → Nat} {cs : Nat → ClassId} {i : Nat} : ∃ (ci : Nat) (q : vw_C), clX[ci]? = some q ∧ q.1 = RX5 ∧ ∀ (f : Nat → Int32) (w : Int64), ∃ fs, lay ad cs 10 i f w = .inr (ci, fs) := ⟨4, (RX5, TX5, 13), rfl, rfl, fun _ _ => ⟨_, rfl⟩⟩
theorem rv_18 {ad : Nat → Nat → Nat} {cs : Nat → ClassId} {i : Nat} : ∃ (ci : Nat) (q : vw_C), clX[ci]? = some q ∧ q.1 = RX1 ∧ ∀ (f : Nat → Int32) (w : Int64), ∃ fs, lay ad cs 18 i f w = .inr (ci, fs) := ⟨0, (RX1, TX1, 7), rfl, rfl, fun _ _ => ⟨_, rfl⟩⟩
theorem rv_26 {ad : Nat → Nat → Nat} {cs : Nat → ClassId} {i : Nat} : ∃ (ci : Nat) (q : vw_C), clX[ci]? = some q ∧ q.1 = RX6 ∧ ∀ (f : Nat → Int32) (w : Int64), ∃ fs, lay ad cs 26 i f w = .inr (ci, fs) := ⟨5, (RX6, TX6, 5), rfl, rfl, fun _ _ => ⟨_, rfl⟩⟩
theorem rv_30 {ad : Nat → Nat → Nat} {cs : Nat → ClassId} {i : Nat} : ∃ (ci : Nat) (q : vw_C), clX[ci]? = some q ∧ q.1 = RX4 ∧ ∀ (f : Nat → Int32) (w : Int64), ∃ fs, lay ad cs 30 i f w = .inr (ci, fs) := ⟨3, (RX4, TX4, 3), rfl, rfl, fun _ _ => ⟨_, rfl⟩⟩
theorem rv_40 {ad : Nat → Nat → Nat} {cs : Nat → ClassId} {i : Nat} : ∃ (ci : Nat) (q : vw_C), clX[ci]? = some q ∧ q.1 = RX8 ∧ ∀ (f : Nat → Int32) (w : Int64), ∃ fs, lay ad cs 40 i f w = .inr (ci, fs) := ⟨7, (RX8, TX8, 58), rfl, rfl, fun _ _ => ⟨_, rfl⟩⟩
section RCP
variable {p : Program} {l : Launch} {e : Env} {R : Room} {s : State} {m : MethodId} {args : Array Value} {below : List Frame} {meth : Method} {c : Code} {H : Heap} {locs : List Loc} {Q : State → Prop} {own : String} {cc : ByteArray} {nL : Nat} {ret : Option FieldType} {fr lo : Nat} {D : va_G} {ad : Nat → Nat → Nat} {cs : Nat → ClassId} {P : Nat → Nat → Prop} {A : Nat → Prop} {tU : Nat} {adK adV : Nat → Nat} {cn : Nat → Nat} {S : St} {pc nc ns sz : Nat} {ls : Array Slot} {rest : List Value}
theorem x_copy {k0 i0 k1 i1 n0 n1 idx : Nat} {sp dp n : Int32} (E : Ex p s m args meth c R own cc nL ret fr lo D ad cs P A tU adK adV cn) (h : wH D ad cs P A s.heap sz S H locs) (hp0 : P k0 i0) (hp1 : P k1 i1) (ha0 : ∀ (f : Nat → Int32) (w : Int64), lay ad cs k0 i0 f w = .inl (cs 0, n0, .inl f)) (ha1 : ∀ (f : Nat → Int32) (w : Int64), lay ad cs k1 i1 f w = .inl (cs 0, n1, .inl f))
    (hy : ¬ sp < 0 ∧ ¬ dp < 0 ∧ ¬ n < 0 ∧ sp.toNatClampNeg + n.toNatClampNeg ≤ n0 ∧ dp.toNatClampNeg + n.toNatClampNeg ≤ n1) (hml : c.maxLocals = ls.size) (hlk : Cond.methodLink own idx arraycopyName ∈ tG) (hframes : 1 ≤ R.frames) (hlocals : (rest.map fun v => v.category).sum + (nativeFrameWords "java/lang/System" "arraycopy" 5 + 11) ≤ R.locals) (hdg : decode cc pc = .ok (.invokestatic idx, 3))
    (kk : ∀ (S1 : St) (H1 : Heap) (locs1 : List Loc), S1 = sa S k1 i1 (va_cpy (S.1 k0 i0) (S.1 k1 i1) sp.toNatClampNeg dp.toNatClampNeg n.toNatClampNeg) → wH D ad cs P A s.heap sz S1 H1 locs1 → W p l e R s m args below meth c H1 locs1 nc ns Q (F0 m (pc + 3) ls rest)) : W p l e R s m args below meth c H locs nc ns Q (F0 m pc ls (.int n :: .int dp :: .ref (ad k1 i1) :: .int sp :: .ref (ad k0 i0) :: rest)) := by
  obtain ⟨h1, h2, h3, h4, h5⟩ := hy
  have hK := E.hK
  have nn : ∀ z : Int32, ¬ z < 0 → z.toInt = (z.toNatClampNeg : Int) := by
    intro z hz
    have hz0 : (0 : Int) ≤ z.toInt := by
      have := Int32.not_lt.mp hz
      simpa using Int32.le_iff_toInt_le.mp this
    show z.toInt = ((z.toInt.toNat : Nat) : Int)
    omega
  intro T hT X
  have hc0 : H[ad k0 i0]? = some (vp_cell (cs 0) (n0, .inl (S.1 k0 i0))) := by have := h.1 k0 i0 hp0; rw [ha0] at this; exact this
  have hc1 : H[ad k1 i1]? = some (vp_cell (cs 0) (n1, .inl (S.1 k1 i1))) := by have := h.1 k1 i1 hp1; rw [ha1] at this; exact this
  obtain ⟨-, kA, hk0, cm0, hkk0⟩ := (hK.2 0 (cs 0, .int) rfl).1 n0 (fun j => .int (S.1 k0 i0 j))
  obtain ⟨-, kB, hk1, cm1, hkk1⟩ := (hK.2 0 (cs 0, .int) rfl).1 n1 (fun j => .int (S.1 k1 i1 j))
  obtain ⟨vm', X', step⟩ := X.arraycopy E.hx E.hown (E.hts _ hlk) (E.hts _ tb299) (E.hts _ tb298) (E.hts _ tb12) (src := ad k0 i0) (dst := ad k1 i1) (cs := vp_cell (cs 0) (n0, .inl (S.1 k0 i0))) (cd := vp_cell (cs 0) (n1, .inl (S.1 k1 i1))) (srcPos := sp) (destPos := dp) (n := n) (by rw [hT]; exact hc0) (by rw [hT]; exact hc1)
    (fun _ h => by cases h) (fun _ h => by cases h) (fun h => by cases h) (fun h => by cases h) hk0 hk1 hkk0 hkk1 (by simp [refKind]) h1 h2 h3
    (by rw [nn sp h1, nn n h3]; show ¬ _ > ((arrV (cs 0) n0 (fun j => .int (S.1 k0 i0 j))).slots.size : Int); rw [arrV_size]; omega)
    (by rw [nn dp h2, nn n h3]; show ¬ _ > ((arrV (cs 0) n1 (fun j => .int (S.1 k1 i1 j))).slots.size : Int); rw [arrV_size]; omega)
    (fun vm₁ _ i hi => by
      have e : (vp_cell (cs 0) (n0, .inl (S.1 k0 i0))).slots.getD (sp.toNatClampNeg + i) .null = .int (S.1 k0 i0 (sp.toNatClampNeg + i)) := by
        show (arrV (cs 0) n0 (fun j => .int (S.1 k0 i0 j))).slots.getD _ _ = _
        rw [Array.getD_eq_getD_getElem?, arrV_read _ _ (by omega)]
        rfl
      refine ⟨?_, ?_⟩
      · rw [e]
        rfl
      · rw [e]
        exact trivial)
    (g := F0 m pc ls (.int n :: .int dp :: .ref (ad k1 i1) :: .int sp :: .ref (ad k0 i0) :: rest)) rfl (by rw [hml]) (rest := rest) rfl (by rw [E.hb]; exact hdg) hframes (by show 2 * 0 + _ + _ ≤ _; omega)
  have e1 : copied (vp_cell (cs 0) (n0, .inl (S.1 k0 i0))) (vp_cell (cs 0) (n1, .inl (S.1 k1 i1))) sp dp n = vp_cell (cs 0) (n1, .inl (va_cpy (S.1 k0 i0) (S.1 k1 i1) sp.toNatClampNeg dp.toNatClampNeg n.toNatClampNeg)) := va_copied (fun z => .int z) (cs 0) (cs 0) (S.1 k0 i0) (S.1 k1 i1) h4
  rw [e1] at X' step
  have hlt : ad k1 i1 < H.size := (Array.getElem?_eq_some_iff.mp hc1).1
  generalize hcell : vp_cell (cs 0) (n1, .inl (va_cpy (S.1 k0 i0) (S.1 k1 i1) sp.toNatClampNeg dp.toNatClampNeg n.toNatClampNeg)) = cell at X' step
  have hheap : ((T.setVm vm').setCell (ad k1 i1) cell).heap = H.setIfInBounds (ad k1 i1) cell := by rw [← hT]; rfl
  have oq : ∀ q : Nat, q ≠ ad k1 i1 → (H.setIfInBounds (ad k1 i1) cell)[q]? = H[q]? := fun q hq => by simp [Array.getElem?_setIfInBounds, Ne.symm hq]
  have hw := wH_set (k := 0) (f := va_cpy (S.1 k0 i0) (S.1 k1 i1) sp.toNatClampNeg dp.toNatClampNeg n.toNatClampNeg) (H1 := H.setIfInBounds (ad k1 i1) cell) E.hI E.hA h hp1 (by rw [ha1]; show (H.setIfInBounds (ad k1 i1) cell)[ad k1 i1]? = some (vp_cell _ _); rw [hcell]; simp [Array.getElem?_setIfInBounds, hlt]) (by simp) oq
  obtain ⟨t, a1, b1⟩ := kk _ _ _ rfl ⟨hw.1, ⟨hw.2.1.1, hw.2.1.2.1, fun q hq => by
      rcases List.mem_append.mp hq with h9 | h9
      · exact h.2.1.2.2 q h9
      · obtain ⟨z, -, hz⟩ := List.mem_map.mp h9
        rw [← hz]
        exact E.hA _ ⟨k1, i1, hp1, rfl⟩⟩, hw.2.2⟩ _ hheap X'
  exact ⟨t, step t a1, b1⟩
end RCP
