/-! ints are copied from one row to another -/
def jcp (i : jI) (a d sp dp n : Nat) : jI := fun q => if q = d then va_cpy (i a) (i d) sp dp n else i q
section JCp
variable {p : Program} {l : Launch} {e : Env} {R : Room} {s : State} {m : MethodId} {args : Array Value} {below : List Frame} {meth : Method} {c : Code} {H : Heap} {locs : List Loc} {cells slots : Nat} {Q : State → Prop}
variable {cc : ByteArray} {pc : Nat} {ls : Array Slot} {rest : List Value} {D : va_G} {b tU n : Nat} {cy : Nat → ClassId} {K len : Nat → Nat} {r : jR} {i : jI} {j : jL} {own : String} {index ka kd : Nat}
theorem jC_cp_ne {q sp dp z : Nat} (h : q ≠ kd) : jC cy b K len r (jcp i ka kd sp dp z) j q = jC cy b K len r i j q := by
  have e1 : jcp i ka kd sp dp z q = i q := if_neg h
  have e2 : jFv b r (jcp i ka kd sp dp z) j q = jFv b r i j q := by funext g t; simp only [jFv, e1]
  simp only [jC, e1, e2]
theorem jcopy {nL : Nat} {Ts : List Cond} (C0 : jCx p s m args c cc nL Ts own b cy D tU n K r) (w : jDy b cy D n K len r i j s H locs) (hlink : (Cond.methodLink own index arraycopyName).before args s = true) (hnat : (Cond.native arraycopyName).before args s = true) (hstat : (Cond.static arraycopyName).before args s = true) (hini : (Cond.initialized "java/lang/System").before args s = true) (hka : ka < n ∧ K ka = 13) (hkd : kd < n ∧ K kd = 13) (hsz : ls.size = nL)
    {sp dp z : Int32} (h : (¬ sp < 0 ∧ ¬ dp < 0 ∧ ¬ z < 0) ∧ sp.toNatClampNeg + z.toNatClampNeg ≤ len ka ∧ dp.toNatClampNeg + z.toNatClampNeg ≤ len kd)
    (hframes : 1 ≤ R.frames) (hlocals : (rest.map fun v => v.category).sum + (nativeFrameWords "java/lang/System" "arraycopy" 5 + 11) ≤ R.locals) (hdg : decode cc pc = .ok (.invokestatic index, 3))
    (kk : ∀ (i1 : jI) (H : Heap) (locs : List Loc), i1 = jcp i ka kd sp.toNatClampNeg dp.toNatClampNeg z.toNatClampNeg → jDy b cy D n K len r i1 j s H locs → W p l e R s m args below meth c H locs cells slots Q (F0 m (pc + 3) ls rest)) : W p l e R s m args below meth c H locs cells slots Q (F0 m pc ls (.int z :: .int dp :: .ref (b + kd) :: .int sp :: .ref (b + ka) :: rest)) := by
  obtain ⟨hx, hb, hml, hown, hts, hst, hG⟩ := C0
  obtain ⟨hz0, hP, hS⟩ := w
  obtain ⟨⟨h1, h2, h3⟩, h4, h5⟩ := h
  have nn : ∀ z : Int32, ¬ z < 0 → z.toInt = (z.toNatClampNeg : Int) := by
    intro z hz
    have hz0 : (0 : Int) ≤ z.toInt := by
      have := Int32.not_lt.mp hz
      simpa using Int32.le_iff_toInt_le.mp this
    show z.toInt = ((z.toInt.toNat : Nat) : Int)
    omega
  have ha0 := (jW_get (cy := cy) (b := b) (K := K) (len := len) (r := r) (i := i) (j := j) hka.1).trans (congrArg (fun q => some (b + ka, q)) (jC_arr hka.2 (by decide)))
  have ha1 := (jW_get (cy := cy) (b := b) (K := K) (len := len) (r := r) (i := i) (j := j) hkd.1).trans (congrArg (fun q => some (b + kd, q)) (jC_arr hkd.2 (by decide)))
  intro T hT X
  have hc0 : H[b + ka]? = some (vp_cell (cy 13) (len ka, .inl (i ka))) := hP ka _ ha0
  have hc1 : H[b + kd]? = some (vp_cell (cy 13) (len kd, .inl (i kd))) := hP kd _ ha1
  obtain ⟨-, k0, hk0, cm0, hkk0⟩ := (hst.1.2 1 _ rfl).1 (len ka) (fun q => .int (i ka q))
  obtain ⟨-, k1, hk1, cm1, hkk1⟩ := (hst.1.2 1 _ rfl).1 (len kd) (fun q => .int (i kd q))
  obtain ⟨vm', X', step⟩ := X.arraycopy hx hown hlink hnat hstat hini (src := b + ka) (dst := b + kd) (cs := vp_cell (cy 13) (len ka, .inl (i ka))) (cd := vp_cell (cy 13) (len kd, .inl (i kd))) (srcPos := sp) (destPos := dp) (n := z) (by rw [hT]; exact hc0) (by rw [hT]; exact hc1)
    (fun _ h => by cases h) (fun _ h => by cases h) (fun h => by cases h) (fun h => by cases h) hk0 hk1 hkk0 hkk1 (by simp) h1 h2 h3
    (by rw [nn sp h1, nn z h3]; show ¬ _ > ((arrV (cy 13) (len ka) (fun q => .int (i ka q))).slots.size : Int); rw [arrV_size]; omega)
    (by rw [nn dp h2, nn z h3]; show ¬ _ > ((arrV (cy 13) (len kd) (fun q => .int (i kd q))).slots.size : Int); rw [arrV_size]; omega)
    (fun vm₁ _ q hq => by
      have e : (vp_cell (cy 13) (len ka, .inl (i ka))).slots.getD (sp.toNatClampNeg + q) .null = .int (i ka (sp.toNatClampNeg + q)) := by
        show (arrV (cy 13) (len ka) (fun q => .int (i ka q))).slots.getD _ _ = _
        rw [Array.getD_eq_getD_getElem?, arrV_read _ _ (by omega)]
        rfl
      refine ⟨?_, ?_⟩
      · rw [e]
        rfl
      · rw [e]
        exact trivial)
    (g := F0 m pc ls (.int z :: .int dp :: .ref (b + kd) :: .int sp :: .ref (b + ka) :: rest)) rfl (by rw [hml]; exact hsz) (rest := rest) rfl (by rw [hb]; exact hdg) hframes (by show 2 * 0 + _ + _ ≤ _; omega)
  have e1 : copied (vp_cell (cy 13) (len ka, .inl (i ka))) (vp_cell (cy 13) (len kd, .inl (i kd))) sp dp z = vp_cell (cy 13) (len kd, .inl (va_cpy (i ka) (i kd) sp.toNatClampNeg dp.toNatClampNeg z.toNatClampNeg)) := va_copied (fun z => .int z) (cy 13) (cy 13) (i ka) (i kd) h4
  rw [e1] at X' step
  have hl : b + kd < H.size := (Array.getElem?_eq_some_iff.mp hc1).1
  generalize hcell : vp_cell (cy 13) (len kd, .inl (va_cpy (i ka) (i kd) sp.toNatClampNeg dp.toNatClampNeg z.toNatClampNeg)) = cell at X' step
  have hheap : ((T.setVm vm').setCell (b + kd) cell).heap = H.setIfInBounds (b + kd) cell := by rw [← hT]; rfl
  have oq : ∀ q : Nat, q ≠ b + kd → (H.setIfInBounds (b + kd) cell)[q]? = H[q]? := fun q hq => by simp [Array.getElem?_setIfInBounds, Ne.symm hq]
  have hP1 := hP.set (e := .inl (cy 13, len kd, .inl (va_cpy (i ka) (i kd) sp.toNatClampNeg dp.toNatClampNeg z.toNatClampNeg))) jW_D ha1 (show (H.setIfInBounds (b + kd) cell)[b + kd]? = some _ by rw [← hcell]; simp [Array.getElem?_setIfInBounds, hl]) oq
  rw [jW_set (K' := K) (len' := len) (r' := r) (i' := jcp i ka kd sp.toNatClampNeg dp.toNatClampNeg z.toNatClampNeg) (j' := j) hkd.1 (by rw [jC_arr hkd.2 (by decide)]; simp [jcp]) (fun q _ hq => jC_cp_ne hq)] at hP1
  obtain ⟨t, a1, b1⟩ := kk _ _ _ rfl ⟨by simp; exact hz0, hP1, by simp; exact hS.1, fun q g1 g2 => by
      rw [oq q (fun e => g2 (by rw [e]; exact Nat.le_add_right b kd))]
      exact hS.2.1 q g1 g2, fun q hq => by
      rcases List.mem_append.mp hq with h | h
      · exact hS.2.2 q h
      · obtain ⟨z, -, hz⟩ := List.mem_map.mp h
        rw [← hz]
        exact Nat.le_add_right b kd⟩ _ hheap X'
  exact ⟨t, step t a1, b1⟩
end JCp
