section S_X3_init
def J_X3_init (Q : jS → Prop) (g : jS) (L : Nat) (x0 : Nat) (x1 : Int32) : Prop := ∀ g6_1 : jS, g6_1 = gnew 13 L g → (∀ g8_2 : jS, g8_2 = gpr g6_1 x0 0 (gN g) → (∀ g13_3 : jS, g13_3 = gnew 13 L g8_2 → (∀ g15_4 : jS, g15_4 = gpr g13_3 x0 1 (gN g8_2) → (∀ g20_5 : jS, g20_5 = gnew 13 L g15_4 → (∀ g22_6 : jS, g22_6 = gpr g20_5 x0 2 (gN g15_4) → (Q g22_6))))))
abbrev rm_X3_init (L : Nat) : Room := { frames := 1, cells := 3, slots := 3 * L, locals := 12 }
theorem hiX3_X3_init : ∀ w ∈ u_ws RX3 TX3 4, w ∈ wsX3_init := by decide +kernel
set_option maxHeartbeats 8000000 in
set_option maxRecDepth 100000 in
theorem c_X3_init {l : Launch} {b tU : Nat} {cy : Nat → ClassId} {D : va_G} {Q : jS → Prop} {g : jS} {x0 : Nat} {x1 : Int32} {L : Nat} (hL : ¬ x1 < 0 ∧ x1.toNatClampNeg = L ∧ L ≤ 100000000) (hx0 : x0 < gN g ∧ gK g x0 = 3) (h : J_X3_init Q g L x0 x1) : Met l yX3_init wsX3_init (rm_X3_init L) (va_Pc [.ref (b + x0), .int x1] (jPA b cy D tU g)) (jQAv b cy D tU g Q) 3 (3 * L) (jA b) := by
  refine Met.ofW (cc := cX3_init) (maxL := 2) (ret := none) (by decide) rfl ?_
  intro p e s m args below meth c s₁ B hml hv
  obtain ⟨rfl, hv⟩ := hv
  have C0 : jCA p s m _ c cX3_init 2 wsX3_init RX3 b cy D tU := ⟨B.exec, B.bytes, hml, findClass_of_methodNamed B.named, atoms_spec (ws := wsX3_init) B.pre, hv.1.2.2⟩
  have hr := B.returns
  have hlk := B.notSynchronized
  obtain ⟨hx, hb, hml, hown, hts, hst⟩ := id C0
  have hnm : meth.name = "<init>" := (name_of_methodNamed B.named B.method).1
  have hiX3 : ∀ w ∈ u_ws RX3 TX3 4, w ∈ wsX3_init := hiX3_X3_init
  have w : jDA b cy D g s s.heap [] := ⟨jDy.start hv.1, hv.2⟩
  have hE : jEx g g := jEx.rf
  have hl := lv_entry ([.ref (b + x0), .int x1]) (n := 2) (Nat.le_of_ble_eq_true rfl)
  rw [lg_entry_eq]
  generalize (lg_sl ([.ref (b + x0), .int x1]) ++ List.replicate (2 - (lg_sl ([.ref (b + x0), .int x1])).length) Slot.unset).toArray = ls at hl ⊢
  replace hl : lv_has ls 2 [(0, .ref (b + x0)), (1, .int x1)] := hl
  show W p l e (rm_X3_init L) s m _ below meth c s.heap [] 0 0 _ (F0 m 0 ls [])
  rw [J_X3_init] at h
  refine lv_aload_n hx hb dX3_init_0 rfl (lv_at hl 0 rfl) ?_
  refine W.objInit hx hb hown (hts (.methodLink RX3 3 objectInit) (by decide +kernel)) (hts (.instanceMethod objectInit) (by decide +kernel)) (hts _ (List.mem_of_getElem? (l := wsX3_init) (i := 3) rfl)) rfl (by rw [hml]; exact hl.1) rfl dX3_init_1 (Nat.le_of_ble_eq_true rfl) (Nat.le_of_ble_eq_true rfl) ?_
  refine W.eq (g2 := F0 m 4 ls []) rfl ?_
  refine lv_aload_n hx hb dX3_init_4 rfl (lv_at hl 0 rfl) ?_
  refine lv_iload_n hx hb dX3_init_5 rfl (lv_at hl 1 rfl) ?_
  refine jnaA (atype := .int) (ty := .int) (kd := 13) (N := L) hx hb hst w (hts (.arrayClass .int) (by decide +kernel)) rfl (Or.inr (Or.inl ⟨rfl, rfl⟩)) hL.1 hL.2.1 (by have := hL.2.2; show L * 4 ≤ _; omega) (Nat.le_of_ble_eq_true rfl) (by show _ ≤ 3 * L; omega) dX3_init_6 (fun g6_1 H he w => ?_)
  have hE1 : jEx g g6_1 := by rw [he]; exact jEx_new
  replace hx0 := hE1.at hx0
  have hq6_1 : gN g < gN g6_1 ∧ gK g6_1 (gN g) = 13 := by rw [he]; exact gnew_at
  replace hE := hE.tr hE1
  replace h := h g6_1 he
  clear he hE1
  refine jprA (f := 0) (fin := true) hx hb hts hown hst w hx0 hq6_1 (rfl : jrt 3 0 = 13) hiX3 (rfl : vwCl[3]? = some (RX3, TX3, 4)) (hts (.fieldLink RX3 9 "FootByGate$Heap" "least" "[I") (by decide +kernel)) ⟨by decide, by decide, rfl⟩ tyX3 tyX3_ok nmX3 rfl (fun _ => ⟨hnm, rfl⟩) (fun z => ⟨rfl, rfl⟩) dX3_init_8 (fun g8_2 H locs he w => ?_)
  have hE1 : jEx g6_1 g8_2 := by rw [he]; exact jEx_pr
  replace hx0 := hE1.at hx0
  replace hE := hE.tr hE1
  replace h := h g8_2 he
  clear he hE1
  refine lv_aload_n hx hb dX3_init_11 rfl (lv_at hl 0 rfl) ?_
  refine lv_iload_n hx hb dX3_init_12 rfl (lv_at hl 1 rfl) ?_
  refine jnaA (atype := .int) (ty := .int) (kd := 13) (N := L) hx hb hst w (hts (.arrayClass .int) (by decide +kernel)) rfl (Or.inr (Or.inl ⟨rfl, rfl⟩)) hL.1 hL.2.1 (by have := hL.2.2; show L * 4 ≤ _; omega) (Nat.le_of_ble_eq_true rfl) (by show _ ≤ 3 * L; omega) dX3_init_13 (fun g13_3 H he w => ?_)
  have hE1 : jEx g8_2 g13_3 := by rw [he]; exact jEx_new
  replace hx0 := hE1.at hx0
  have hq13_3 : gN g8_2 < gN g13_3 ∧ gK g13_3 (gN g8_2) = 13 := by rw [he]; exact gnew_at
  replace hE := hE.tr hE1
  replace h := h g13_3 he
  clear he hE1
  refine jprA (f := 1) (fin := true) hx hb hts hown hst w hx0 hq13_3 (rfl : jrt 3 1 = 13) hiX3 (rfl : vwCl[3]? = some (RX3, TX3, 4)) (hts (.fieldLink RX3 15 "FootByGate$Heap" "heap" "[I") (by decide +kernel)) ⟨by decide, by decide, rfl⟩ tyX3 tyX3_ok nmX3 rfl (fun _ => ⟨hnm, rfl⟩) (fun z => ⟨rfl, rfl⟩) dX3_init_15 (fun g15_4 H locs he w => ?_)
  have hE1 : jEx g13_3 g15_4 := by rw [he]; exact jEx_pr
  replace hx0 := hE1.at hx0
  replace hE := hE.tr hE1
  replace h := h g15_4 he
  clear he hE1
  refine lv_aload_n hx hb dX3_init_18 rfl (lv_at hl 0 rfl) ?_
  refine lv_iload_n hx hb dX3_init_19 rfl (lv_at hl 1 rfl) ?_
  refine jnaA (atype := .int) (ty := .int) (kd := 13) (N := L) hx hb hst w (hts (.arrayClass .int) (by decide +kernel)) rfl (Or.inr (Or.inl ⟨rfl, rfl⟩)) hL.1 hL.2.1 (by have := hL.2.2; show L * 4 ≤ _; omega) (Nat.le_of_ble_eq_true rfl) (by show _ ≤ 3 * L; omega) dX3_init_20 (fun g20_5 H he w => ?_)
  have hE1 : jEx g15_4 g20_5 := by rw [he]; exact jEx_new
  replace hx0 := hE1.at hx0
  have hq20_5 : gN g15_4 < gN g20_5 ∧ gK g20_5 (gN g15_4) = 13 := by rw [he]; exact gnew_at
  replace hE := hE.tr hE1
  replace h := h g20_5 he
  clear he hE1
  refine jprA (f := 2) (fin := true) hx hb hts hown hst w hx0 hq20_5 (rfl : jrt 3 2 = 13) hiX3 (rfl : vwCl[3]? = some (RX3, TX3, 4)) (hts (.fieldLink RX3 18 "FootByGate$Heap" "seat" "[I") (by decide +kernel)) ⟨by decide, by decide, rfl⟩ tyX3 tyX3_ok nmX3 rfl (fun _ => ⟨hnm, rfl⟩) (fun z => ⟨rfl, rfl⟩) dX3_init_22 (fun g22_6 H locs he w => ?_)
  have hE1 : jEx g20_5 g22_6 := by rw [he]; exact jEx_pr
  replace hx0 := hE1.at hx0
  replace hE := hE.tr hE1
  replace h := h g22_6 he
  clear he hE1
  refine W.widen (k := 3) (n := 3 * L) (by first | exact Nat.le_of_ble_eq_true rfl | (show _ ≤ _; omega)) (by first | exact Nat.le_of_ble_eq_true rfl | (show _ ≤ _; omega)) ?_
  exact jretA_v hx hb hr hlk hst w hE h dX3_init_25
end S_X3_init
section S_X0_init
def J_X0_init (Q : jS → Prop) (g : jS) (x0 : Nat) : Prop := ∀ g5_1 : jS, g5_1 = gnew 3 0 g → (J_X3_init (fun g12_2 : jS => ∀ g15_3 : jS, g15_3 = gpr g12_2 x0 0 (gN g) → (∀ g22_4 : jS, g22_4 = gnew 13 3500 g15_3 → (∀ g24_5 : jS, g24_5 = gpr g22_4 x0 1 (gN g15_3) → (Q g24_5)))) g5_1 3500 (gN g) (3500 : Int32))
abbrev rm_X0_init : Room := { frames := 2, cells := 5, slots := 14004, locals := 33 }
theorem hiX0_X0_init : ∀ w ∈ u_ws RX0 TX0 2, w ∈ wsX0_init := by decide +kernel
theorem hiX3_X0_init : ∀ w ∈ u_ws RX3 TX3 4, w ∈ wsX0_init := by decide +kernel
set_option maxHeartbeats 8000000 in
set_option maxRecDepth 100000 in
theorem c_X0_init {l : Launch} {b tU : Nat} {cy : Nat → ClassId} {D : va_G} {Q : jS → Prop} {g : jS} {x0 : Nat} (hx0 : x0 < gN g ∧ gK g x0 = 0) (h : J_X0_init Q g x0) : Met l yX0_init wsX0_init rm_X0_init (va_Pc [.ref (b + x0)] (jPA b cy D tU g)) (jQAv b cy D tU g Q) 5 (14004) (jA b) := by
  refine Met.ofW (cc := cX0_init) (maxL := 1) (ret := none) (by decide) rfl ?_
  intro p e s m args below meth c s₁ B hml hv
  obtain ⟨rfl, hv⟩ := hv
  have C0 : jCA p s m _ c cX0_init 1 wsX0_init RX0 b cy D tU := ⟨B.exec, B.bytes, hml, findClass_of_methodNamed B.named, atoms_spec (ws := wsX0_init) B.pre, hv.1.2.2⟩
  have hr := B.returns
  have hlk := B.notSynchronized
  obtain ⟨hx, hb, hml, hown, hts, hst⟩ := id C0
  have hnm : meth.name = "<init>" := (name_of_methodNamed B.named B.method).1
  have hiX0 : ∀ w ∈ u_ws RX0 TX0 2, w ∈ wsX0_init := hiX0_X0_init
  have hiX3 : ∀ w ∈ u_ws RX3 TX3 4, w ∈ wsX0_init := hiX3_X0_init
  have w : jDA b cy D g s s.heap [] := ⟨jDy.start hv.1, hv.2⟩
  have hE : jEx g g := jEx.rf
  have hl := lv_entry ([.ref (b + x0)]) (n := 1) (Nat.le_of_ble_eq_true rfl)
  rw [lg_entry_eq]
  generalize (lg_sl ([.ref (b + x0)]) ++ List.replicate (1 - (lg_sl ([.ref (b + x0)])).length) Slot.unset).toArray = ls at hl ⊢
  replace hl : lv_has ls 1 [(0, .ref (b + x0))] := hl
  show W p l e rm_X0_init s m _ below meth c s.heap [] 0 0 _ (F0 m 0 ls [])
  rw [J_X0_init] at h
  refine lv_aload_n hx hb dX0_init_0 rfl (lv_at hl 0 rfl) ?_
  refine W.objInit hx hb hown (hts (.methodLink RX0 5 objectInit) (by decide +kernel)) (hts (.instanceMethod objectInit) (by decide +kernel)) (hts _ (List.mem_of_getElem? (l := wsX0_init) (i := 3) rfl)) rfl (by rw [hml]; exact hl.1) rfl dX0_init_1 (Nat.le_of_ble_eq_true rfl) (Nat.le_of_ble_eq_true rfl) ?_
  refine W.eq (g2 := F0 m 4 ls []) rfl ?_
  refine lv_aload_n hx hb dX0_init_4 rfl (lv_at hl 0 rfl) ?_
  refine jnewA (ci := 3) hx hb hts hown hst w hiX3 (rfl : vwCl[3]? = some (RX3, TX3, 4)) tyX3 tyX3_ok (hts (.classLink RX0 11 RX3) (by decide +kernel)) (hts (.instantiable RX3 4) (by decide +kernel)) (hts (.initialized RX3) (by decide +kernel)) (by decide) (by decide +kernel) (Nat.le_of_ble_eq_true rfl) (Nat.le_of_ble_eq_true rfl) dX0_init_5 (fun g5_1 H he w => ?_)
  have hE1 : jEx g g5_1 := by rw [he]; exact jEx_new
  replace hx0 := hE1.at hx0
  have hq5_1 : gN g < gN g5_1 ∧ gK g5_1 (gN g) = 3 := by rw [he]; exact gnew_at
  replace hE := hE.tr hE1
  replace h := h g5_1 he
  clear he hE1
  refine W.widen (k := 1) (n := 4) (Nat.le_of_ble_eq_true rfl) (Nat.le_of_ble_eq_true rfl) ?_
  refine lv_dup hx hb dX0_init_8 rfl ?_
  refine lv_sipush (v := (3500 : Int32)) hx hb dX0_init_9 (by decide) ?_
  refine jcIA (k := (gN g)) (As := [.int (3500 : Int32)]) (rest := [.ref (b + (gN g)), .ref (b + x0)]) (mc := 3) (ms := 10500) C0 w (c_X3_init (L := 3500) ⟨by decide, by decide, by decide⟩ hq5_1 h) (cwI 1 hts ggX0_init_X3_init rfl rfl rfl (hts (.initialized RX3) (by decide +kernel)) (hts (.methodLink RX0 13 yX3_init) (by decide +kernel)) (hts (.instanceMethod yX3_init) (by decide +kernel)) rfl (by decide +kernel) ⟨Nat.le_of_ble_eq_true rfl, Nat.le_of_ble_eq_true rfl⟩) rfl hl.1 rfl (Nat.le_of_ble_eq_true rfl) dX0_init_12 (fun g12_2 H locs h hE1 w => ?_) ⟨Nat.le_of_ble_eq_true rfl, Nat.le_of_ble_eq_true rfl⟩
  replace hx0 := hE1.at hx0
  replace hq5_1 := hE1.at hq5_1
  replace hE := hE.tr hE1
  clear hE1
  refine W.widen (k := 4) (n := 10504) (Nat.le_of_ble_eq_true rfl) (Nat.le_of_ble_eq_true rfl) ?_
  refine jprA (f := 0) (fin := true) hx hb hts hown hst w hx0 hq5_1 (rfl : jrt 0 0 = 3) hiX0 (rfl : vwCl[0]? = some (RX0, TX0, 2)) (hts (.fieldLink RX0 16 "FootByGate$Arms" "heap" "LFootByGate$Heap;") (by decide +kernel)) ⟨by decide, by decide, rfl⟩ tyX0 tyX0_ok nmX0 rfl (fun _ => ⟨hnm, rfl⟩) (fun z => ⟨rfl, rfl⟩) dX0_init_15 (fun g15_3 H locs he w => ?_)
  have hE1 : jEx g12_2 g15_3 := by rw [he]; exact jEx_pr
  replace hx0 := hE1.at hx0
  replace hE := hE.tr hE1
  replace h := h g15_3 he
  clear he hE1
  refine lv_aload_n hx hb dX0_init_18 rfl (lv_at hl 0 rfl) ?_
  refine lv_sipush (v := (3500 : Int32)) hx hb dX0_init_19 (by decide) ?_
  refine jnaA (atype := .int) (ty := .int) (kd := 13) (N := 3500) hx hb hst w (hts (.arrayClass .int) (by decide +kernel)) rfl (Or.inr (Or.inl ⟨rfl, rfl⟩)) (by decide) (by decide) (Nat.le_of_ble_eq_true rfl) (Nat.le_of_ble_eq_true rfl) (Nat.le_of_ble_eq_true rfl) dX0_init_22 (fun g22_4 H he w => ?_)
  have hE1 : jEx g15_3 g22_4 := by rw [he]; exact jEx_new
  replace hx0 := hE1.at hx0
  have hq22_4 : gN g15_3 < gN g22_4 ∧ gK g22_4 (gN g15_3) = 13 := by rw [he]; exact gnew_at
  replace hE := hE.tr hE1
  replace h := h g22_4 he
  clear he hE1
  refine W.widen (k := 5) (n := 14004) (Nat.le_of_ble_eq_true rfl) (Nat.le_of_ble_eq_true rfl) ?_
  refine jprA (f := 1) (fin := true) hx hb hts hown hst w hx0 hq22_4 (rfl : jrt 0 1 = 13) hiX0 (rfl : vwCl[0]? = some (RX0, TX0, 2)) (hts (.fieldLink RX0 20 "FootByGate$Arms" "stands" "[I") (by decide +kernel)) ⟨by decide, by decide, rfl⟩ tyX0 tyX0_ok nmX0 rfl (fun _ => ⟨hnm, rfl⟩) (fun z => ⟨rfl, rfl⟩) dX0_init_24 (fun g24_5 H locs he w => ?_)
  have hE1 : jEx g22_4 g24_5 := by rw [he]; exact jEx_pr
  replace hx0 := hE1.at hx0
  replace hE := hE.tr hE1
  replace h := h g24_5 he
  clear he hE1
  refine W.widen (k := 5) (n := 14004) (by first | exact Nat.le_of_ble_eq_true rfl | (show _ ≤ _; omega)) (by first | exact Nat.le_of_ble_eq_true rfl | (show _ ≤ _; omega)) ?_
  exact jretA_v hx hb hr hlk hst w hE h dX0_init_27
end S_X0_init
section S_X1_init
def J_X1_init (Q : jS → Prop) (g : jS) (x0 : Nat) : Prop := ∀ g8_1 : jS, g8_1 = gnew 13 1024 g → (∀ g10_2 : jS, g10_2 = gpr g8_1 x0 0 (gN g) → (Q g10_2))
abbrev rm_X1_init : Room := { frames := 1, cells := 1, slots := 1024, locals := 12 }
theorem hiX1_X1_init : ∀ w ∈ u_ws RX1 TX1 1, w ∈ wsX1_init := by decide +kernel
set_option maxHeartbeats 8000000 in
set_option maxRecDepth 100000 in
theorem c_X1_init {l : Launch} {b tU : Nat} {cy : Nat → ClassId} {D : va_G} {Q : jS → Prop} {g : jS} {x0 : Nat} (hx0 : x0 < gN g ∧ gK g x0 = 1) (h : J_X1_init Q g x0) : Met l yX1_init wsX1_init rm_X1_init (va_Pc [.ref (b + x0)] (jPA b cy D tU g)) (jQAv b cy D tU g Q) 1 (1024) (jA b) := by
  refine Met.ofW (cc := cX1_init) (maxL := 1) (ret := none) (by decide) rfl ?_
  intro p e s m args below meth c s₁ B hml hv
  obtain ⟨rfl, hv⟩ := hv
  have C0 : jCA p s m _ c cX1_init 1 wsX1_init RX1 b cy D tU := ⟨B.exec, B.bytes, hml, findClass_of_methodNamed B.named, atoms_spec (ws := wsX1_init) B.pre, hv.1.2.2⟩
  have hr := B.returns
  have hlk := B.notSynchronized
  obtain ⟨hx, hb, hml, hown, hts, hst⟩ := id C0
  have hnm : meth.name = "<init>" := (name_of_methodNamed B.named B.method).1
  have hiX1 : ∀ w ∈ u_ws RX1 TX1 1, w ∈ wsX1_init := hiX1_X1_init
  have w : jDA b cy D g s s.heap [] := ⟨jDy.start hv.1, hv.2⟩
  have hE : jEx g g := jEx.rf
  have hl := lv_entry ([.ref (b + x0)]) (n := 1) (Nat.le_of_ble_eq_true rfl)
  rw [lg_entry_eq]
  generalize (lg_sl ([.ref (b + x0)]) ++ List.replicate (1 - (lg_sl ([.ref (b + x0)])).length) Slot.unset).toArray = ls at hl ⊢
  replace hl : lv_has ls 1 [(0, .ref (b + x0))] := hl
  show W p l e rm_X1_init s m _ below meth c s.heap [] 0 0 _ (F0 m 0 ls [])
  rw [J_X1_init] at h
  refine lv_aload_n hx hb dX1_init_0 rfl (lv_at hl 0 rfl) ?_
  refine W.objInit hx hb hown (hts (.methodLink RX1 3 objectInit) (by decide +kernel)) (hts (.instanceMethod objectInit) (by decide +kernel)) (hts _ (List.mem_of_getElem? (l := wsX1_init) (i := 3) rfl)) rfl (by rw [hml]; exact hl.1) rfl dX1_init_1 (Nat.le_of_ble_eq_true rfl) (Nat.le_of_ble_eq_true rfl) ?_
  refine W.eq (g2 := F0 m 4 ls []) rfl ?_
  refine lv_aload_n hx hb dX1_init_4 rfl (lv_at hl 0 rfl) ?_
  refine lv_sipush (v := (1024 : Int32)) hx hb dX1_init_5 (by decide) ?_
  refine jnaA (atype := .int) (ty := .int) (kd := 13) (N := 1024) hx hb hst w (hts (.arrayClass .int) (by decide +kernel)) rfl (Or.inr (Or.inl ⟨rfl, rfl⟩)) (by decide) (by decide) (Nat.le_of_ble_eq_true rfl) (Nat.le_of_ble_eq_true rfl) (Nat.le_of_ble_eq_true rfl) dX1_init_8 (fun g8_1 H he w => ?_)
  have hE1 : jEx g g8_1 := by rw [he]; exact jEx_new
  replace hx0 := hE1.at hx0
  have hq8_1 : gN g < gN g8_1 ∧ gK g8_1 (gN g) = 13 := by rw [he]; exact gnew_at
  replace hE := hE.tr hE1
  replace h := h g8_1 he
  clear he hE1
  refine W.widen (k := 1) (n := 1024) (Nat.le_of_ble_eq_true rfl) (Nat.le_of_ble_eq_true rfl) ?_
  refine jprA (f := 0) (fin := true) hx hb hts hown hst w hx0 hq8_1 (rfl : jrt 1 0 = 13) hiX1 (rfl : vwCl[1]? = some (RX1, TX1, 1)) (hts (.fieldLink RX1 9 "FootByGate$Circuit" "tried" "[I") (by decide +kernel)) ⟨by decide, by decide, rfl⟩ tyX1 tyX1_ok nmX1 rfl (fun _ => ⟨hnm, rfl⟩) (fun z => ⟨rfl, rfl⟩) dX1_init_10 (fun g10_2 H locs he w => ?_)
  have hE1 : jEx g8_1 g10_2 := by rw [he]; exact jEx_pr
  replace hx0 := hE1.at hx0
  replace hE := hE.tr hE1
  replace h := h g10_2 he
  clear he hE1
  refine W.widen (k := 1) (n := 1024) (by first | exact Nat.le_of_ble_eq_true rfl | (show _ ≤ _; omega)) (by first | exact Nat.le_of_ble_eq_true rfl | (show _ ≤ _; omega)) ?_
  exact jretA_v hx hb hr hlk hst w hE h dX1_init_13
end S_X1_init
section S_X2_init
def J_X2_init (Q : jS → Prop) (g : jS) (x0 : Nat) : Prop := ∀ g7_1 : jS, g7_1 = gnew 13 10 g → (∀ g9_2 : jS, g9_2 = gpr g7_1 x0 0 (gN g) → (∀ g15_3 : jS, g15_3 = gnew 13 10 g9_2 → (∀ g17_4 : jS, g17_4 = gpr g15_3 x0 1 (gN g9_2) → (Q g17_4))))
abbrev rm_X2_init : Room := { frames := 1, cells := 2, slots := 20, locals := 12 }
theorem hiX2_X2_init : ∀ w ∈ u_ws RX2 TX2 2, w ∈ wsX2_init := by decide +kernel
set_option maxHeartbeats 8000000 in
set_option maxRecDepth 100000 in
theorem c_X2_init {l : Launch} {b tU : Nat} {cy : Nat → ClassId} {D : va_G} {Q : jS → Prop} {g : jS} {x0 : Nat} (hx0 : x0 < gN g ∧ gK g x0 = 2) (h : J_X2_init Q g x0) : Met l yX2_init wsX2_init rm_X2_init (va_Pc [.ref (b + x0)] (jPA b cy D tU g)) (jQAv b cy D tU g Q) 2 (20) (jA b) := by
  refine Met.ofW (cc := cX2_init) (maxL := 1) (ret := none) (by decide) rfl ?_
  intro p e s m args below meth c s₁ B hml hv
  obtain ⟨rfl, hv⟩ := hv
  have C0 : jCA p s m _ c cX2_init 1 wsX2_init RX2 b cy D tU := ⟨B.exec, B.bytes, hml, findClass_of_methodNamed B.named, atoms_spec (ws := wsX2_init) B.pre, hv.1.2.2⟩
  have hr := B.returns
  have hlk := B.notSynchronized
  obtain ⟨hx, hb, hml, hown, hts, hst⟩ := id C0
  have hnm : meth.name = "<init>" := (name_of_methodNamed B.named B.method).1
  have hiX2 : ∀ w ∈ u_ws RX2 TX2 2, w ∈ wsX2_init := hiX2_X2_init
  have w : jDA b cy D g s s.heap [] := ⟨jDy.start hv.1, hv.2⟩
  have hE : jEx g g := jEx.rf
  have hl := lv_entry ([.ref (b + x0)]) (n := 1) (Nat.le_of_ble_eq_true rfl)
  rw [lg_entry_eq]
  generalize (lg_sl ([.ref (b + x0)]) ++ List.replicate (1 - (lg_sl ([.ref (b + x0)])).length) Slot.unset).toArray = ls at hl ⊢
  replace hl : lv_has ls 1 [(0, .ref (b + x0))] := hl
  show W p l e rm_X2_init s m _ below meth c s.heap [] 0 0 _ (F0 m 0 ls [])
  rw [J_X2_init] at h
  refine lv_aload_n hx hb dX2_init_0 rfl (lv_at hl 0 rfl) ?_
  refine W.objInit hx hb hown (hts (.methodLink RX2 3 objectInit) (by decide +kernel)) (hts (.instanceMethod objectInit) (by decide +kernel)) (hts _ (List.mem_of_getElem? (l := wsX2_init) (i := 3) rfl)) rfl (by rw [hml]; exact hl.1) rfl dX2_init_1 (Nat.le_of_ble_eq_true rfl) (Nat.le_of_ble_eq_true rfl) ?_
  refine W.eq (g2 := F0 m 4 ls []) rfl ?_
  refine lv_aload_n hx hb dX2_init_4 rfl (lv_at hl 0 rfl) ?_
  refine lv_bipush (v := (10 : Int32)) hx hb dX2_init_5 (by decide) ?_
  refine jnaA (atype := .int) (ty := .int) (kd := 13) (N := 10) hx hb hst w (hts (.arrayClass .int) (by decide +kernel)) rfl (Or.inr (Or.inl ⟨rfl, rfl⟩)) (by decide) (by decide) (Nat.le_of_ble_eq_true rfl) (Nat.le_of_ble_eq_true rfl) (Nat.le_of_ble_eq_true rfl) dX2_init_7 (fun g7_1 H he w => ?_)
  have hE1 : jEx g g7_1 := by rw [he]; exact jEx_new
  replace hx0 := hE1.at hx0
  have hq7_1 : gN g < gN g7_1 ∧ gK g7_1 (gN g) = 13 := by rw [he]; exact gnew_at
  replace hE := hE.tr hE1
  replace h := h g7_1 he
  clear he hE1
  refine W.widen (k := 1) (n := 10) (Nat.le_of_ble_eq_true rfl) (Nat.le_of_ble_eq_true rfl) ?_
  refine jprA (f := 0) (fin := true) hx hb hts hown hst w hx0 hq7_1 (rfl : jrt 2 0 = 13) hiX2 (rfl : vwCl[2]? = some (RX2, TX2, 2)) (hts (.fieldLink RX2 9 "FootByGate$Gait" "steps" "[I") (by decide +kernel)) ⟨by decide, by decide, rfl⟩ tyX2 tyX2_ok nmX2 rfl (fun _ => ⟨hnm, rfl⟩) (fun z => ⟨rfl, rfl⟩) dX2_init_9 (fun g9_2 H locs he w => ?_)
  have hE1 : jEx g7_1 g9_2 := by rw [he]; exact jEx_pr
  replace hx0 := hE1.at hx0
  replace hE := hE.tr hE1
  replace h := h g9_2 he
  clear he hE1
  refine lv_aload_n hx hb dX2_init_12 rfl (lv_at hl 0 rfl) ?_
  refine lv_bipush (v := (10 : Int32)) hx hb dX2_init_13 (by decide) ?_
  refine jnaA (atype := .int) (ty := .int) (kd := 13) (N := 10) hx hb hst w (hts (.arrayClass .int) (by decide +kernel)) rfl (Or.inr (Or.inl ⟨rfl, rfl⟩)) (by decide) (by decide) (Nat.le_of_ble_eq_true rfl) (Nat.le_of_ble_eq_true rfl) (Nat.le_of_ble_eq_true rfl) dX2_init_15 (fun g15_3 H he w => ?_)
  have hE1 : jEx g9_2 g15_3 := by rw [he]; exact jEx_new
  replace hx0 := hE1.at hx0
  have hq15_3 : gN g9_2 < gN g15_3 ∧ gK g15_3 (gN g9_2) = 13 := by rw [he]; exact gnew_at
  replace hE := hE.tr hE1
  replace h := h g15_3 he
  clear he hE1
  refine W.widen (k := 2) (n := 20) (Nat.le_of_ble_eq_true rfl) (Nat.le_of_ble_eq_true rfl) ?_
  refine jprA (f := 1) (fin := true) hx hb hts hown hst w hx0 hq15_3 (rfl : jrt 2 1 = 13) hiX2 (rfl : vwCl[2]? = some (RX2, TX2, 2)) (hts (.fieldLink RX2 15 "FootByGate$Gait" "turn" "[I") (by decide +kernel)) ⟨by decide, by decide, rfl⟩ tyX2 tyX2_ok nmX2 rfl (fun _ => ⟨hnm, rfl⟩) (fun z => ⟨rfl, rfl⟩) dX2_init_17 (fun g17_4 H locs he w => ?_)
  have hE1 : jEx g15_3 g17_4 := by rw [he]; exact jEx_pr
  replace hx0 := hE1.at hx0
  replace hE := hE.tr hE1
  replace h := h g17_4 he
  clear he hE1
  refine W.widen (k := 2) (n := 20) (by first | exact Nat.le_of_ble_eq_true rfl | (show _ ≤ _; omega)) (by first | exact Nat.le_of_ble_eq_true rfl | (show _ ≤ _; omega)) ?_
  exact jretA_v hx hb hr hlk hst w hE h dX2_init_20
end S_X2_init
section S_X4_init
def J_X4_init (Q : jS → Prop) (g : jS) (x0 : Nat) : Prop := ∀ g6_1 : jS, g6_1 = gnew 13 5 g → (∀ g8_2 : jS, g8_2 = gpr g6_1 x0 2 (gN g) → (∀ g13_3 : jS, g13_3 = gnew 13 5 g8_2 → (∀ g15_4 : jS, g15_4 = gpr g13_3 x0 3 (gN g8_2) → (∀ g21_5 : jS, g21_5 = gnew 13 6 g15_4 → (∀ g23_6 : jS, g23_6 = gpr g21_5 x0 5 (gN g15_4) → (∀ g29_7 : jS, g29_7 = gnew 13 10 g23_6 → (∀ g31_8 : jS, g31_8 = gpr g29_7 x0 6 (gN g23_6) → (Q g31_8))))))))
abbrev rm_X4_init : Room := { frames := 1, cells := 4, slots := 26, locals := 12 }
theorem hiX4_X4_init : ∀ w ∈ u_ws RX4 TX4 7, w ∈ wsX4_init := by decide +kernel
set_option maxHeartbeats 8000000 in
set_option maxRecDepth 100000 in
theorem c_X4_init {l : Launch} {b tU : Nat} {cy : Nat → ClassId} {D : va_G} {Q : jS → Prop} {g : jS} {x0 : Nat} (hx0 : x0 < gN g ∧ gK g x0 = 4) (h : J_X4_init Q g x0) : Met l yX4_init wsX4_init rm_X4_init (va_Pc [.ref (b + x0)] (jPA b cy D tU g)) (jQAv b cy D tU g Q) 4 (26) (jA b) := by
  refine Met.ofW (cc := cX4_init) (maxL := 1) (ret := none) (by decide) rfl ?_
  intro p e s m args below meth c s₁ B hml hv
  obtain ⟨rfl, hv⟩ := hv
  have C0 : jCA p s m _ c cX4_init 1 wsX4_init RX4 b cy D tU := ⟨B.exec, B.bytes, hml, findClass_of_methodNamed B.named, atoms_spec (ws := wsX4_init) B.pre, hv.1.2.2⟩
  have hr := B.returns
  have hlk := B.notSynchronized
  obtain ⟨hx, hb, hml, hown, hts, hst⟩ := id C0
  have hnm : meth.name = "<init>" := (name_of_methodNamed B.named B.method).1
  have hiX4 : ∀ w ∈ u_ws RX4 TX4 7, w ∈ wsX4_init := hiX4_X4_init
  have w : jDA b cy D g s s.heap [] := ⟨jDy.start hv.1, hv.2⟩
  have hE : jEx g g := jEx.rf
  have hl := lv_entry ([.ref (b + x0)]) (n := 1) (Nat.le_of_ble_eq_true rfl)
  rw [lg_entry_eq]
  generalize (lg_sl ([.ref (b + x0)]) ++ List.replicate (1 - (lg_sl ([.ref (b + x0)])).length) Slot.unset).toArray = ls at hl ⊢
  replace hl : lv_has ls 1 [(0, .ref (b + x0))] := hl
  show W p l e rm_X4_init s m _ below meth c s.heap [] 0 0 _ (F0 m 0 ls [])
  rw [J_X4_init] at h
  refine lv_aload_n hx hb dX4_init_0 rfl (lv_at hl 0 rfl) ?_
  refine W.objInit hx hb hown (hts (.methodLink RX4 3 objectInit) (by decide +kernel)) (hts (.instanceMethod objectInit) (by decide +kernel)) (hts _ (List.mem_of_getElem? (l := wsX4_init) (i := 3) rfl)) rfl (by rw [hml]; exact hl.1) rfl dX4_init_1 (Nat.le_of_ble_eq_true rfl) (Nat.le_of_ble_eq_true rfl) ?_
  refine W.eq (g2 := F0 m 4 ls []) rfl ?_
  refine lv_aload_n hx hb dX4_init_4 rfl (lv_at hl 0 rfl) ?_
  refine lv_iconst (v := (5 : Int32)) hx hb dX4_init_5 (by decide) ?_
  refine jnaA (atype := .int) (ty := .int) (kd := 13) (N := 5) hx hb hst w (hts (.arrayClass .int) (by decide +kernel)) rfl (Or.inr (Or.inl ⟨rfl, rfl⟩)) (by decide) (by decide) (Nat.le_of_ble_eq_true rfl) (Nat.le_of_ble_eq_true rfl) (Nat.le_of_ble_eq_true rfl) dX4_init_6 (fun g6_1 H he w => ?_)
  have hE1 : jEx g g6_1 := by rw [he]; exact jEx_new
  replace hx0 := hE1.at hx0
  have hq6_1 : gN g < gN g6_1 ∧ gK g6_1 (gN g) = 13 := by rw [he]; exact gnew_at
  replace hE := hE.tr hE1
  replace h := h g6_1 he
  clear he hE1
  refine W.widen (k := 1) (n := 5) (Nat.le_of_ble_eq_true rfl) (Nat.le_of_ble_eq_true rfl) ?_
  refine jprA (f := 2) (fin := true) hx hb hts hown hst w hx0 hq6_1 (rfl : jrt 4 2 = 13) hiX4 (rfl : vwCl[4]? = some (RX4, TX4, 7)) (hts (.fieldLink RX4 9 "FootByGate$Image" "stands" "[I") (by decide +kernel)) ⟨by decide, by decide, rfl⟩ tyX4 tyX4_ok nmX4 rfl (fun _ => ⟨hnm, rfl⟩) (fun z => ⟨rfl, rfl⟩) dX4_init_8 (fun g8_2 H locs he w => ?_)
  have hE1 : jEx g6_1 g8_2 := by rw [he]; exact jEx_pr
  replace hx0 := hE1.at hx0
  replace hE := hE.tr hE1
  replace h := h g8_2 he
  clear he hE1
  refine lv_aload_n hx hb dX4_init_11 rfl (lv_at hl 0 rfl) ?_
  refine lv_iconst (v := (5 : Int32)) hx hb dX4_init_12 (by decide) ?_
  refine jnaA (atype := .int) (ty := .int) (kd := 13) (N := 5) hx hb hst w (hts (.arrayClass .int) (by decide +kernel)) rfl (Or.inr (Or.inl ⟨rfl, rfl⟩)) (by decide) (by decide) (Nat.le_of_ble_eq_true rfl) (Nat.le_of_ble_eq_true rfl) (Nat.le_of_ble_eq_true rfl) dX4_init_13 (fun g13_3 H he w => ?_)
  have hE1 : jEx g8_2 g13_3 := by rw [he]; exact jEx_new
  replace hx0 := hE1.at hx0
  have hq13_3 : gN g8_2 < gN g13_3 ∧ gK g13_3 (gN g8_2) = 13 := by rw [he]; exact gnew_at
  replace hE := hE.tr hE1
  replace h := h g13_3 he
  clear he hE1
  refine W.widen (k := 2) (n := 10) (Nat.le_of_ble_eq_true rfl) (Nat.le_of_ble_eq_true rfl) ?_
  refine jprA (f := 3) (fin := true) hx hb hts hown hst w hx0 hq13_3 (rfl : jrt 4 3 = 13) hiX4 (rfl : vwCl[4]? = some (RX4, TX4, 7)) (hts (.fieldLink RX4 15 "FootByGate$Image" "skipped" "[I") (by decide +kernel)) ⟨by decide, by decide, rfl⟩ tyX4 tyX4_ok nmX4 rfl (fun _ => ⟨hnm, rfl⟩) (fun z => ⟨rfl, rfl⟩) dX4_init_15 (fun g15_4 H locs he w => ?_)
  have hE1 : jEx g13_3 g15_4 := by rw [he]; exact jEx_pr
  replace hx0 := hE1.at hx0
  replace hE := hE.tr hE1
  replace h := h g15_4 he
  clear he hE1
  refine lv_aload_n hx hb dX4_init_18 rfl (lv_at hl 0 rfl) ?_
  refine lv_bipush (v := (6 : Int32)) hx hb dX4_init_19 (by decide) ?_
  refine jnaA (atype := .int) (ty := .int) (kd := 13) (N := 6) hx hb hst w (hts (.arrayClass .int) (by decide +kernel)) rfl (Or.inr (Or.inl ⟨rfl, rfl⟩)) (by decide) (by decide) (Nat.le_of_ble_eq_true rfl) (Nat.le_of_ble_eq_true rfl) (Nat.le_of_ble_eq_true rfl) dX4_init_21 (fun g21_5 H he w => ?_)
  have hE1 : jEx g15_4 g21_5 := by rw [he]; exact jEx_new
  replace hx0 := hE1.at hx0
  have hq21_5 : gN g15_4 < gN g21_5 ∧ gK g21_5 (gN g15_4) = 13 := by rw [he]; exact gnew_at
  replace hE := hE.tr hE1
  replace h := h g21_5 he
  clear he hE1
  refine W.widen (k := 3) (n := 16) (Nat.le_of_ble_eq_true rfl) (Nat.le_of_ble_eq_true rfl) ?_
  refine jprA (f := 5) (fin := true) hx hb hts hown hst w hx0 hq21_5 (rfl : jrt 4 5 = 13) hiX4 (rfl : vwCl[4]? = some (RX4, TX4, 7)) (hts (.fieldLink RX4 18 "FootByGate$Image" "prints" "[I") (by decide +kernel)) ⟨by decide, by decide, rfl⟩ tyX4 tyX4_ok nmX4 rfl (fun _ => ⟨hnm, rfl⟩) (fun z => ⟨rfl, rfl⟩) dX4_init_23 (fun g23_6 H locs he w => ?_)
  have hE1 : jEx g21_5 g23_6 := by rw [he]; exact jEx_pr
  replace hx0 := hE1.at hx0
  replace hE := hE.tr hE1
  replace h := h g23_6 he
  clear he hE1
  refine lv_aload_n hx hb dX4_init_26 rfl (lv_at hl 0 rfl) ?_
  refine lv_bipush (v := (10 : Int32)) hx hb dX4_init_27 (by decide) ?_
  refine jnaA (atype := .int) (ty := .int) (kd := 13) (N := 10) hx hb hst w (hts (.arrayClass .int) (by decide +kernel)) rfl (Or.inr (Or.inl ⟨rfl, rfl⟩)) (by decide) (by decide) (Nat.le_of_ble_eq_true rfl) (Nat.le_of_ble_eq_true rfl) (Nat.le_of_ble_eq_true rfl) dX4_init_29 (fun g29_7 H he w => ?_)
  have hE1 : jEx g23_6 g29_7 := by rw [he]; exact jEx_new
  replace hx0 := hE1.at hx0
  have hq29_7 : gN g23_6 < gN g29_7 ∧ gK g29_7 (gN g23_6) = 13 := by rw [he]; exact gnew_at
  replace hE := hE.tr hE1
  replace h := h g29_7 he
  clear he hE1
  refine W.widen (k := 4) (n := 26) (Nat.le_of_ble_eq_true rfl) (Nat.le_of_ble_eq_true rfl) ?_
  refine jprA (f := 6) (fin := true) hx hb hts hown hst w hx0 hq29_7 (rfl : jrt 4 6 = 13) hiX4 (rfl : vwCl[4]? = some (RX4, TX4, 7)) (hts (.fieldLink RX4 21 "FootByGate$Image" "paces" "[I") (by decide +kernel)) ⟨by decide, by decide, rfl⟩ tyX4 tyX4_ok nmX4 rfl (fun _ => ⟨hnm, rfl⟩) (fun z => ⟨rfl, rfl⟩) dX4_init_31 (fun g31_8 H locs he w => ?_)
  have hE1 : jEx g29_7 g31_8 := by rw [he]; exact jEx_pr
  replace hx0 := hE1.at hx0
  replace hE := hE.tr hE1
  replace h := h g31_8 he
  clear he hE1
  refine W.widen (k := 4) (n := 26) (by first | exact Nat.le_of_ble_eq_true rfl | (show _ ≤ _; omega)) (by first | exact Nat.le_of_ble_eq_true rfl | (show _ ≤ _; omega)) ?_
  exact jretA_v hx hb hr hlk hst w hE h dX4_init_34
end S_X4_init
section S_X5_init
def J_X5_init (Q : jS → Prop) (g : jS) (x0 : Nat) : Prop := ∀ g7_1 : jS, g7_1 = gnew 13 50 g → (∀ g9_2 : jS, g9_2 = gpr g7_1 x0 0 (gN g) → (Q g9_2))
abbrev rm_X5_init : Room := { frames := 1, cells := 1, slots := 50, locals := 12 }
theorem hiX5_X5_init : ∀ w ∈ u_ws RX5 TX5 5, w ∈ wsX5_init := by decide +kernel
set_option maxHeartbeats 8000000 in
set_option maxRecDepth 100000 in
theorem c_X5_init {l : Launch} {b tU : Nat} {cy : Nat → ClassId} {D : va_G} {Q : jS → Prop} {g : jS} {x0 : Nat} (hx0 : x0 < gN g ∧ gK g x0 = 5) (h : J_X5_init Q g x0) : Met l yX5_init wsX5_init rm_X5_init (va_Pc [.ref (b + x0)] (jPA b cy D tU g)) (jQAv b cy D tU g Q) 1 (50) (jA b) := by
  refine Met.ofW (cc := cX5_init) (maxL := 1) (ret := none) (by decide) rfl ?_
  intro p e s m args below meth c s₁ B hml hv
  obtain ⟨rfl, hv⟩ := hv
  have C0 : jCA p s m _ c cX5_init 1 wsX5_init RX5 b cy D tU := ⟨B.exec, B.bytes, hml, findClass_of_methodNamed B.named, atoms_spec (ws := wsX5_init) B.pre, hv.1.2.2⟩
  have hr := B.returns
  have hlk := B.notSynchronized
  obtain ⟨hx, hb, hml, hown, hts, hst⟩ := id C0
  have hnm : meth.name = "<init>" := (name_of_methodNamed B.named B.method).1
  have hiX5 : ∀ w ∈ u_ws RX5 TX5 5, w ∈ wsX5_init := hiX5_X5_init
  have w : jDA b cy D g s s.heap [] := ⟨jDy.start hv.1, hv.2⟩
  have hE : jEx g g := jEx.rf
  have hl := lv_entry ([.ref (b + x0)]) (n := 1) (Nat.le_of_ble_eq_true rfl)
  rw [lg_entry_eq]
  generalize (lg_sl ([.ref (b + x0)]) ++ List.replicate (1 - (lg_sl ([.ref (b + x0)])).length) Slot.unset).toArray = ls at hl ⊢
  replace hl : lv_has ls 1 [(0, .ref (b + x0))] := hl
  show W p l e rm_X5_init s m _ below meth c s.heap [] 0 0 _ (F0 m 0 ls [])
  rw [J_X5_init] at h
  refine lv_aload_n hx hb dX5_init_0 rfl (lv_at hl 0 rfl) ?_
  refine W.objInit hx hb hown (hts (.methodLink RX5 3 objectInit) (by decide +kernel)) (hts (.instanceMethod objectInit) (by decide +kernel)) (hts _ (List.mem_of_getElem? (l := wsX5_init) (i := 3) rfl)) rfl (by rw [hml]; exact hl.1) rfl dX5_init_1 (Nat.le_of_ble_eq_true rfl) (Nat.le_of_ble_eq_true rfl) ?_
  refine W.eq (g2 := F0 m 4 ls []) rfl ?_
  refine lv_aload_n hx hb dX5_init_4 rfl (lv_at hl 0 rfl) ?_
  refine lv_bipush (v := (50 : Int32)) hx hb dX5_init_5 (by decide) ?_
  refine jnaA (atype := .int) (ty := .int) (kd := 13) (N := 50) hx hb hst w (hts (.arrayClass .int) (by decide +kernel)) rfl (Or.inr (Or.inl ⟨rfl, rfl⟩)) (by decide) (by decide) (Nat.le_of_ble_eq_true rfl) (Nat.le_of_ble_eq_true rfl) (Nat.le_of_ble_eq_true rfl) dX5_init_7 (fun g7_1 H he w => ?_)
  have hE1 : jEx g g7_1 := by rw [he]; exact jEx_new
  replace hx0 := hE1.at hx0
  have hq7_1 : gN g < gN g7_1 ∧ gK g7_1 (gN g) = 13 := by rw [he]; exact gnew_at
  replace hE := hE.tr hE1
  replace h := h g7_1 he
  clear he hE1
  refine W.widen (k := 1) (n := 50) (Nat.le_of_ble_eq_true rfl) (Nat.le_of_ble_eq_true rfl) ?_
  refine jprA (f := 0) (fin := true) hx hb hts hown hst w hx0 hq7_1 (rfl : jrt 5 0 = 13) hiX5 (rfl : vwCl[5]? = some (RX5, TX5, 5)) (hts (.fieldLink RX5 11 "FootByGate$Page" "letters" "[I") (by decide +kernel)) ⟨by decide, by decide, rfl⟩ tyX5 tyX5_ok nmX5 rfl (fun _ => ⟨hnm, rfl⟩) (fun z => ⟨rfl, rfl⟩) dX5_init_9 (fun g9_2 H locs he w => ?_)
  have hE1 : jEx g7_1 g9_2 := by rw [he]; exact jEx_pr
  replace hx0 := hE1.at hx0
  replace hE := hE.tr hE1
  replace h := h g9_2 he
  clear he hE1
  refine W.widen (k := 1) (n := 50) (by first | exact Nat.le_of_ble_eq_true rfl | (show _ ≤ _; omega)) (by first | exact Nat.le_of_ble_eq_true rfl | (show _ ≤ _; omega)) ?_
  exact jretA_v hx hb hr hlk hst w hE h dX5_init_12
end S_X5_init
section S_X6_init
def J_X6_init (Q : jS → Prop) (g : jS) (x0 : Nat) : Prop := ∀ g7_1 : jS, g7_1 = gnew 14 14 g → (∀ g9_2 : jS, g9_2 = gpr g7_1 x0 0 (gN g) → (∀ g15_3 : jS, g15_3 = gnew 13 10 g9_2 → (∀ g17_4 : jS, g17_4 = gpr g15_3 x0 1 (gN g9_2) → (Q g17_4))))
abbrev rm_X6_init : Room := { frames := 1, cells := 2, slots := 24, locals := 12 }
theorem hiX6_X6_init : ∀ w ∈ u_ws RX6 TX6 2, w ∈ wsX6_init := by decide +kernel
set_option maxHeartbeats 8000000 in
set_option maxRecDepth 100000 in
theorem c_X6_init {l : Launch} {b tU : Nat} {cy : Nat → ClassId} {D : va_G} {Q : jS → Prop} {g : jS} {x0 : Nat} (hx0 : x0 < gN g ∧ gK g x0 = 6) (h : J_X6_init Q g x0) : Met l yX6_init wsX6_init rm_X6_init (va_Pc [.ref (b + x0)] (jPA b cy D tU g)) (jQAv b cy D tU g Q) 2 (24) (jA b) := by
  refine Met.ofW (cc := cX6_init) (maxL := 1) (ret := none) (by decide) rfl ?_
  intro p e s m args below meth c s₁ B hml hv
  obtain ⟨rfl, hv⟩ := hv
  have C0 : jCA p s m _ c cX6_init 1 wsX6_init RX6 b cy D tU := ⟨B.exec, B.bytes, hml, findClass_of_methodNamed B.named, atoms_spec (ws := wsX6_init) B.pre, hv.1.2.2⟩
  have hr := B.returns
  have hlk := B.notSynchronized
  obtain ⟨hx, hb, hml, hown, hts, hst⟩ := id C0
  have hnm : meth.name = "<init>" := (name_of_methodNamed B.named B.method).1
  have hiX6 : ∀ w ∈ u_ws RX6 TX6 2, w ∈ wsX6_init := hiX6_X6_init
  have w : jDA b cy D g s s.heap [] := ⟨jDy.start hv.1, hv.2⟩
  have hE : jEx g g := jEx.rf
  have hl := lv_entry ([.ref (b + x0)]) (n := 1) (Nat.le_of_ble_eq_true rfl)
  rw [lg_entry_eq]
  generalize (lg_sl ([.ref (b + x0)]) ++ List.replicate (1 - (lg_sl ([.ref (b + x0)])).length) Slot.unset).toArray = ls at hl ⊢
  replace hl : lv_has ls 1 [(0, .ref (b + x0))] := hl
  show W p l e rm_X6_init s m _ below meth c s.heap [] 0 0 _ (F0 m 0 ls [])
  rw [J_X6_init] at h
  refine lv_aload_n hx hb dX6_init_0 rfl (lv_at hl 0 rfl) ?_
  refine W.objInit hx hb hown (hts (.methodLink RX6 3 objectInit) (by decide +kernel)) (hts (.instanceMethod objectInit) (by decide +kernel)) (hts _ (List.mem_of_getElem? (l := wsX6_init) (i := 3) rfl)) rfl (by rw [hml]; exact hl.1) rfl dX6_init_1 (Nat.le_of_ble_eq_true rfl) (Nat.le_of_ble_eq_true rfl) ?_
  refine W.eq (g2 := F0 m 4 ls []) rfl ?_
  refine lv_aload_n hx hb dX6_init_4 rfl (lv_at hl 0 rfl) ?_
  refine lv_bipush (v := (14 : Int32)) hx hb dX6_init_5 (by decide) ?_
  refine jnaA (atype := .long) (ty := .long) (kd := 14) (N := 14) hx hb hst w (hts (.arrayClass .long) (by decide +kernel)) rfl (Or.inr (Or.inr (Or.inl ⟨rfl, rfl⟩))) (by decide) (by decide) (Nat.le_of_ble_eq_true rfl) (Nat.le_of_ble_eq_true rfl) (Nat.le_of_ble_eq_true rfl) dX6_init_7 (fun g7_1 H he w => ?_)
  have hE1 : jEx g g7_1 := by rw [he]; exact jEx_new
  replace hx0 := hE1.at hx0
  have hq7_1 : gN g < gN g7_1 ∧ gK g7_1 (gN g) = 14 := by rw [he]; exact gnew_at
  replace hE := hE.tr hE1
  replace h := h g7_1 he
  clear he hE1
  refine W.widen (k := 1) (n := 14) (Nat.le_of_ble_eq_true rfl) (Nat.le_of_ble_eq_true rfl) ?_
  refine jprA (f := 0) (fin := true) hx hb hts hown hst w hx0 hq7_1 (rfl : jrt 6 0 = 14) hiX6 (rfl : vwCl[6]? = some (RX6, TX6, 2)) (hts (.fieldLink RX6 9 "FootByGate$Reach" "marks" "[J") (by decide +kernel)) ⟨by decide, by decide, rfl⟩ tyX6 tyX6_ok nmX6 rfl (fun _ => ⟨hnm, rfl⟩) (fun z => ⟨rfl, rfl⟩) dX6_init_9 (fun g9_2 H locs he w => ?_)
  have hE1 : jEx g7_1 g9_2 := by rw [he]; exact jEx_pr
  replace hx0 := hE1.at hx0
  replace hE := hE.tr hE1
  replace h := h g9_2 he
  clear he hE1
  refine lv_aload_n hx hb dX6_init_12 rfl (lv_at hl 0 rfl) ?_
  refine lv_bipush (v := (10 : Int32)) hx hb dX6_init_13 (by decide) ?_
  refine jnaA (atype := .int) (ty := .int) (kd := 13) (N := 10) hx hb hst w (hts (.arrayClass .int) (by decide +kernel)) rfl (Or.inr (Or.inl ⟨rfl, rfl⟩)) (by decide) (by decide) (Nat.le_of_ble_eq_true rfl) (Nat.le_of_ble_eq_true rfl) (Nat.le_of_ble_eq_true rfl) dX6_init_15 (fun g15_3 H he w => ?_)
  have hE1 : jEx g9_2 g15_3 := by rw [he]; exact jEx_new
  replace hx0 := hE1.at hx0
  have hq15_3 : gN g9_2 < gN g15_3 ∧ gK g15_3 (gN g9_2) = 13 := by rw [he]; exact gnew_at
  replace hE := hE.tr hE1
  replace h := h g15_3 he
  clear he hE1
  refine W.widen (k := 2) (n := 24) (Nat.le_of_ble_eq_true rfl) (Nat.le_of_ble_eq_true rfl) ?_
  refine jprA (f := 1) (fin := true) hx hb hts hown hst w hx0 hq15_3 (rfl : jrt 6 1 = 13) hiX6 (rfl : vwCl[6]? = some (RX6, TX6, 2)) (hts (.fieldLink RX6 15 "FootByGate$Reach" "turns" "[I") (by decide +kernel)) ⟨by decide, by decide, rfl⟩ tyX6 tyX6_ok nmX6 rfl (fun _ => ⟨hnm, rfl⟩) (fun z => ⟨rfl, rfl⟩) dX6_init_17 (fun g17_4 H locs he w => ?_)
  have hE1 : jEx g15_3 g17_4 := by rw [he]; exact jEx_pr
  replace hx0 := hE1.at hx0
  replace hE := hE.tr hE1
  replace h := h g17_4 he
  clear he hE1
  refine W.widen (k := 2) (n := 24) (by first | exact Nat.le_of_ble_eq_true rfl | (show _ ≤ _; omega)) (by first | exact Nat.le_of_ble_eq_true rfl | (show _ ≤ _; omega)) ?_
  exact jretA_v hx hb hr hlk hst w hE h dX6_init_20
end S_X6_init
section S_X8_init
def J_X8_init (Q : jS → Prop) (g : jS) (x0 : Nat) : Prop := ∀ g7_1 : jS, g7_1 = gnew 13 10 g → (∀ g9_2 : jS, g9_2 = gpr g7_1 x0 3 (gN g) → (∀ g15_3 : jS, g15_3 = gnew 13 10 g9_2 → (∀ g17_4 : jS, g17_4 = gpr g15_3 x0 4 (gN g9_2) → (∀ g23_5 : jS, g23_5 = gnew 13 10 g17_4 → (∀ g25_6 : jS, g25_6 = gpr g23_5 x0 5 (gN g17_4) → (∀ g31_7 : jS, g31_7 = gnew 13 10 g25_6 → (∀ g33_8 : jS, g33_8 = gpr g31_7 x0 6 (gN g25_6) → (∀ g38_9 : jS, g38_9 = gnew 13 3 g33_8 → (∀ g40_10 : jS, g40_10 = gpr g38_9 x0 7 (gN g33_8) → (Q g40_10))))))))))
abbrev rm_X8_init : Room := { frames := 1, cells := 5, slots := 43, locals := 12 }
theorem hiX8_X8_init : ∀ w ∈ u_ws RX8 TX8 8, w ∈ wsX8_init := by decide +kernel
set_option maxHeartbeats 8000000 in
set_option maxRecDepth 100000 in
theorem c_X8_init {l : Launch} {b tU : Nat} {cy : Nat → ClassId} {D : va_G} {Q : jS → Prop} {g : jS} {x0 : Nat} (hx0 : x0 < gN g ∧ gK g x0 = 7) (h : J_X8_init Q g x0) : Met l yX8_init wsX8_init rm_X8_init (va_Pc [.ref (b + x0)] (jPA b cy D tU g)) (jQAv b cy D tU g Q) 5 (43) (jA b) := by
  refine Met.ofW (cc := cX8_init) (maxL := 1) (ret := none) (by decide) rfl ?_
  intro p e s m args below meth c s₁ B hml hv
  obtain ⟨rfl, hv⟩ := hv
  have C0 : jCA p s m _ c cX8_init 1 wsX8_init RX8 b cy D tU := ⟨B.exec, B.bytes, hml, findClass_of_methodNamed B.named, atoms_spec (ws := wsX8_init) B.pre, hv.1.2.2⟩
  have hr := B.returns
  have hlk := B.notSynchronized
  obtain ⟨hx, hb, hml, hown, hts, hst⟩ := id C0
  have hnm : meth.name = "<init>" := (name_of_methodNamed B.named B.method).1
  have hiX8 : ∀ w ∈ u_ws RX8 TX8 8, w ∈ wsX8_init := hiX8_X8_init
  have w : jDA b cy D g s s.heap [] := ⟨jDy.start hv.1, hv.2⟩
  have hE : jEx g g := jEx.rf
  have hl := lv_entry ([.ref (b + x0)]) (n := 1) (Nat.le_of_ble_eq_true rfl)
  rw [lg_entry_eq]
  generalize (lg_sl ([.ref (b + x0)]) ++ List.replicate (1 - (lg_sl ([.ref (b + x0)])).length) Slot.unset).toArray = ls at hl ⊢
  replace hl : lv_has ls 1 [(0, .ref (b + x0))] := hl
  show W p l e rm_X8_init s m _ below meth c s.heap [] 0 0 _ (F0 m 0 ls [])
  rw [J_X8_init] at h
  refine lv_aload_n hx hb dX8_init_0 rfl (lv_at hl 0 rfl) ?_
  refine W.objInit hx hb hown (hts (.methodLink RX8 3 objectInit) (by decide +kernel)) (hts (.instanceMethod objectInit) (by decide +kernel)) (hts _ (List.mem_of_getElem? (l := wsX8_init) (i := 3) rfl)) rfl (by rw [hml]; exact hl.1) rfl dX8_init_1 (Nat.le_of_ble_eq_true rfl) (Nat.le_of_ble_eq_true rfl) ?_
  refine W.eq (g2 := F0 m 4 ls []) rfl ?_
  refine lv_aload_n hx hb dX8_init_4 rfl (lv_at hl 0 rfl) ?_
  refine lv_bipush (v := (10 : Int32)) hx hb dX8_init_5 (by decide) ?_
  refine jnaA (atype := .int) (ty := .int) (kd := 13) (N := 10) hx hb hst w (hts (.arrayClass .int) (by decide +kernel)) rfl (Or.inr (Or.inl ⟨rfl, rfl⟩)) (by decide) (by decide) (Nat.le_of_ble_eq_true rfl) (Nat.le_of_ble_eq_true rfl) (Nat.le_of_ble_eq_true rfl) dX8_init_7 (fun g7_1 H he w => ?_)
  have hE1 : jEx g g7_1 := by rw [he]; exact jEx_new
  replace hx0 := hE1.at hx0
  have hq7_1 : gN g < gN g7_1 ∧ gK g7_1 (gN g) = 13 := by rw [he]; exact gnew_at
  replace hE := hE.tr hE1
  replace h := h g7_1 he
  clear he hE1
  refine W.widen (k := 1) (n := 10) (Nat.le_of_ble_eq_true rfl) (Nat.le_of_ble_eq_true rfl) ?_
  refine jprA (f := 3) (fin := true) hx hb hts hown hst w hx0 hq7_1 (rfl : jrt 7 3 = 13) hiX8 (rfl : vwCl[7]? = some (RX8, TX8, 8)) (hts (.fieldLink RX8 9 "FootByGate$Town" "first" "[I") (by decide +kernel)) ⟨by decide, by decide, rfl⟩ tyX8 tyX8_ok nmX8 rfl (fun _ => ⟨hnm, rfl⟩) (fun z => ⟨rfl, rfl⟩) dX8_init_9 (fun g9_2 H locs he w => ?_)
  have hE1 : jEx g7_1 g9_2 := by rw [he]; exact jEx_pr
  replace hx0 := hE1.at hx0
  replace hE := hE.tr hE1
  replace h := h g9_2 he
  clear he hE1
  refine lv_aload_n hx hb dX8_init_12 rfl (lv_at hl 0 rfl) ?_
  refine lv_bipush (v := (10 : Int32)) hx hb dX8_init_13 (by decide) ?_
  refine jnaA (atype := .int) (ty := .int) (kd := 13) (N := 10) hx hb hst w (hts (.arrayClass .int) (by decide +kernel)) rfl (Or.inr (Or.inl ⟨rfl, rfl⟩)) (by decide) (by decide) (Nat.le_of_ble_eq_true rfl) (Nat.le_of_ble_eq_true rfl) (Nat.le_of_ble_eq_true rfl) dX8_init_15 (fun g15_3 H he w => ?_)
  have hE1 : jEx g9_2 g15_3 := by rw [he]; exact jEx_new
  replace hx0 := hE1.at hx0
  have hq15_3 : gN g9_2 < gN g15_3 ∧ gK g15_3 (gN g9_2) = 13 := by rw [he]; exact gnew_at
  replace hE := hE.tr hE1
  replace h := h g15_3 he
  clear he hE1
  refine W.widen (k := 2) (n := 20) (Nat.le_of_ble_eq_true rfl) (Nat.le_of_ble_eq_true rfl) ?_
  refine jprA (f := 4) (fin := true) hx hb hts hown hst w hx0 hq15_3 (rfl : jrt 7 4 = 13) hiX8 (rfl : vwCl[7]? = some (RX8, TX8, 8)) (hts (.fieldLink RX8 15 "FootByGate$Town" "second" "[I") (by decide +kernel)) ⟨by decide, by decide, rfl⟩ tyX8 tyX8_ok nmX8 rfl (fun _ => ⟨hnm, rfl⟩) (fun z => ⟨rfl, rfl⟩) dX8_init_17 (fun g17_4 H locs he w => ?_)
  have hE1 : jEx g15_3 g17_4 := by rw [he]; exact jEx_pr
  replace hx0 := hE1.at hx0
  replace hE := hE.tr hE1
  replace h := h g17_4 he
  clear he hE1
  refine lv_aload_n hx hb dX8_init_20 rfl (lv_at hl 0 rfl) ?_
  refine lv_bipush (v := (10 : Int32)) hx hb dX8_init_21 (by decide) ?_
  refine jnaA (atype := .int) (ty := .int) (kd := 13) (N := 10) hx hb hst w (hts (.arrayClass .int) (by decide +kernel)) rfl (Or.inr (Or.inl ⟨rfl, rfl⟩)) (by decide) (by decide) (Nat.le_of_ble_eq_true rfl) (Nat.le_of_ble_eq_true rfl) (Nat.le_of_ble_eq_true rfl) dX8_init_23 (fun g23_5 H he w => ?_)
  have hE1 : jEx g17_4 g23_5 := by rw [he]; exact jEx_new
  replace hx0 := hE1.at hx0
  have hq23_5 : gN g17_4 < gN g23_5 ∧ gK g23_5 (gN g17_4) = 13 := by rw [he]; exact gnew_at
  replace hE := hE.tr hE1
  replace h := h g23_5 he
  clear he hE1
  refine W.widen (k := 3) (n := 30) (Nat.le_of_ble_eq_true rfl) (Nat.le_of_ble_eq_true rfl) ?_
  refine jprA (f := 5) (fin := true) hx hb hts hown hst w hx0 hq23_5 (rfl : jrt 7 5 = 13) hiX8 (rfl : vwCl[7]? = some (RX8, TX8, 8)) (hts (.fieldLink RX8 18 "FootByGate$Town" "paces" "[I") (by decide +kernel)) ⟨by decide, by decide, rfl⟩ tyX8 tyX8_ok nmX8 rfl (fun _ => ⟨hnm, rfl⟩) (fun z => ⟨rfl, rfl⟩) dX8_init_25 (fun g25_6 H locs he w => ?_)
  have hE1 : jEx g23_5 g25_6 := by rw [he]; exact jEx_pr
  replace hx0 := hE1.at hx0
  replace hE := hE.tr hE1
  replace h := h g25_6 he
  clear he hE1
  refine lv_aload_n hx hb dX8_init_28 rfl (lv_at hl 0 rfl) ?_
  refine lv_bipush (v := (10 : Int32)) hx hb dX8_init_29 (by decide) ?_
  refine jnaA (atype := .int) (ty := .int) (kd := 13) (N := 10) hx hb hst w (hts (.arrayClass .int) (by decide +kernel)) rfl (Or.inr (Or.inl ⟨rfl, rfl⟩)) (by decide) (by decide) (Nat.le_of_ble_eq_true rfl) (Nat.le_of_ble_eq_true rfl) (Nat.le_of_ble_eq_true rfl) dX8_init_31 (fun g31_7 H he w => ?_)
  have hE1 : jEx g25_6 g31_7 := by rw [he]; exact jEx_new
  replace hx0 := hE1.at hx0
  have hq31_7 : gN g25_6 < gN g31_7 ∧ gK g31_7 (gN g25_6) = 13 := by rw [he]; exact gnew_at
  replace hE := hE.tr hE1
  replace h := h g31_7 he
  clear he hE1
  refine W.widen (k := 4) (n := 40) (Nat.le_of_ble_eq_true rfl) (Nat.le_of_ble_eq_true rfl) ?_
  refine jprA (f := 6) (fin := true) hx hb hts hown hst w hx0 hq31_7 (rfl : jrt 7 6 = 13) hiX8 (rfl : vwCl[7]? = some (RX8, TX8, 8)) (hts (.fieldLink RX8 21 "FootByGate$Town" "gate" "[I") (by decide +kernel)) ⟨by decide, by decide, rfl⟩ tyX8 tyX8_ok nmX8 rfl (fun _ => ⟨hnm, rfl⟩) (fun z => ⟨rfl, rfl⟩) dX8_init_33 (fun g33_8 H locs he w => ?_)
  have hE1 : jEx g31_7 g33_8 := by rw [he]; exact jEx_pr
  replace hx0 := hE1.at hx0
  replace hE := hE.tr hE1
  replace h := h g33_8 he
  clear he hE1
  refine lv_aload_n hx hb dX8_init_36 rfl (lv_at hl 0 rfl) ?_
  refine lv_iconst (v := (3 : Int32)) hx hb dX8_init_37 (by decide) ?_
  refine jnaA (atype := .int) (ty := .int) (kd := 13) (N := 3) hx hb hst w (hts (.arrayClass .int) (by decide +kernel)) rfl (Or.inr (Or.inl ⟨rfl, rfl⟩)) (by decide) (by decide) (Nat.le_of_ble_eq_true rfl) (Nat.le_of_ble_eq_true rfl) (Nat.le_of_ble_eq_true rfl) dX8_init_38 (fun g38_9 H he w => ?_)
  have hE1 : jEx g33_8 g38_9 := by rw [he]; exact jEx_new
  replace hx0 := hE1.at hx0
  have hq38_9 : gN g33_8 < gN g38_9 ∧ gK g38_9 (gN g33_8) = 13 := by rw [he]; exact gnew_at
  replace hE := hE.tr hE1
  replace h := h g38_9 he
  clear he hE1
  refine W.widen (k := 5) (n := 43) (Nat.le_of_ble_eq_true rfl) (Nat.le_of_ble_eq_true rfl) ?_
  refine jprA (f := 7) (fin := true) hx hb hts hown hst w hx0 hq38_9 (rfl : jrt 7 7 = 13) hiX8 (rfl : vwCl[7]? = some (RX8, TX8, 8)) (hts (.fieldLink RX8 24 "FootByGate$Town" "streetOf" "[I") (by decide +kernel)) ⟨by decide, by decide, rfl⟩ tyX8 tyX8_ok nmX8 rfl (fun _ => ⟨hnm, rfl⟩) (fun z => ⟨rfl, rfl⟩) dX8_init_40 (fun g40_10 H locs he w => ?_)
  have hE1 : jEx g38_9 g40_10 := by rw [he]; exact jEx_pr
  replace hx0 := hE1.at hx0
  replace hE := hE.tr hE1
  replace h := h g40_10 he
  clear he hE1
  refine W.widen (k := 5) (n := 43) (by first | exact Nat.le_of_ble_eq_true rfl | (show _ ≤ _; omega)) (by first | exact Nat.le_of_ble_eq_true rfl | (show _ ≤ _; omega)) ?_
  exact jretA_v hx hb hr hlk hst w hE h dX8_init_43
end S_X8_init
section S_X9_init
def J_X9_init (Q : jS → Prop) (g : jS) (x0 : Nat) : Prop := Q g
abbrev rm_X9_init : Room := { frames := 1, cells := 0, slots := 0, locals := 12 }
set_option maxHeartbeats 8000000 in
set_option maxRecDepth 100000 in
theorem c_X9_init {l : Launch} {b tU : Nat} {cy : Nat → ClassId} {D : va_G} {Q : jS → Prop} {g : jS} {x0 : Nat} (hx0 : x0 < gN g ∧ gK g x0 = 8) (h : J_X9_init Q g x0) : Met l yX9_init wsX9_init rm_X9_init (va_Pc [.ref (b + x0)] (jPA b cy D tU g)) (jQAv b cy D tU g Q) 0 (0) (jA b) := by
  refine Met.ofW (cc := cX9_init) (maxL := 1) (ret := none) (by decide) rfl ?_
  intro p e s m args below meth c s₁ B hml hv
  obtain ⟨rfl, hv⟩ := hv
  have C0 : jCA p s m _ c cX9_init 1 wsX9_init RX9 b cy D tU := ⟨B.exec, B.bytes, hml, findClass_of_methodNamed B.named, atoms_spec (ws := wsX9_init) B.pre, hv.1.2.2⟩
  have hr := B.returns
  have hlk := B.notSynchronized
  obtain ⟨hx, hb, hml, hown, hts, hst⟩ := id C0
  have hnm : meth.name = "<init>" := (name_of_methodNamed B.named B.method).1
  have w : jDA b cy D g s s.heap [] := ⟨jDy.start hv.1, hv.2⟩
  have hE : jEx g g := jEx.rf
  have hl := lv_entry ([.ref (b + x0)]) (n := 1) (Nat.le_of_ble_eq_true rfl)
  rw [lg_entry_eq]
  generalize (lg_sl ([.ref (b + x0)]) ++ List.replicate (1 - (lg_sl ([.ref (b + x0)])).length) Slot.unset).toArray = ls at hl ⊢
  replace hl : lv_has ls 1 [(0, .ref (b + x0))] := hl
  show W p l e rm_X9_init s m _ below meth c s.heap [] 0 0 _ (F0 m 0 ls [])
  rw [J_X9_init] at h
  refine lv_aload_n hx hb dX9_init_0 rfl (lv_at hl 0 rfl) ?_
  refine W.objInit hx hb hown (hts (.methodLink RX9 3 objectInit) (by decide +kernel)) (hts (.instanceMethod objectInit) (by decide +kernel)) (hts _ (List.mem_of_getElem? (l := wsX9_init) (i := 3) rfl)) rfl (by rw [hml]; exact hl.1) rfl dX9_init_1 (Nat.le_of_ble_eq_true rfl) (Nat.le_of_ble_eq_true rfl) ?_
  refine W.eq (g2 := F0 m 4 ls []) rfl ?_
  refine W.widen (k := 0) (n := 0) (by first | exact Nat.le_of_ble_eq_true rfl | (show _ ≤ _; omega)) (by first | exact Nat.le_of_ble_eq_true rfl | (show _ ≤ _; omega)) ?_
  exact jretA_v hx hb hr hlk hst w hE h dX9_init_4
end S_X9_init
section S_X10_init
def J_X10_init (Q : jS → Prop) (g : jS) (x0 : Nat) : Prop := ∀ g5_1 : jS, g5_1 = gnew 3 0 g → (J_X3_init (fun g12_2 : jS => ∀ g15_3 : jS, g15_3 = gpr g12_2 x0 0 (gN g) → (Q g15_3)) g5_1 896 (gN g) (896 : Int32))
abbrev rm_X10_init : Room := { frames := 2, cells := 4, slots := 2692, locals := 33 }
theorem hiX10_X10_init : ∀ w ∈ u_ws RX10 TX10 1, w ∈ wsX10_init := by decide +kernel
theorem hiX3_X10_init : ∀ w ∈ u_ws RX3 TX3 4, w ∈ wsX10_init := by decide +kernel
set_option maxHeartbeats 8000000 in
set_option maxRecDepth 100000 in
theorem c_X10_init {l : Launch} {b tU : Nat} {cy : Nat → ClassId} {D : va_G} {Q : jS → Prop} {g : jS} {x0 : Nat} (hx0 : x0 < gN g ∧ gK g x0 = 9) (h : J_X10_init Q g x0) : Met l yX10_init wsX10_init rm_X10_init (va_Pc [.ref (b + x0)] (jPA b cy D tU g)) (jQAv b cy D tU g Q) 4 (2692) (jA b) := by
  refine Met.ofW (cc := cX10_init) (maxL := 1) (ret := none) (by decide) rfl ?_
  intro p e s m args below meth c s₁ B hml hv
  obtain ⟨rfl, hv⟩ := hv
  have C0 : jCA p s m _ c cX10_init 1 wsX10_init RX10 b cy D tU := ⟨B.exec, B.bytes, hml, findClass_of_methodNamed B.named, atoms_spec (ws := wsX10_init) B.pre, hv.1.2.2⟩
  have hr := B.returns
  have hlk := B.notSynchronized
  obtain ⟨hx, hb, hml, hown, hts, hst⟩ := id C0
  have hnm : meth.name = "<init>" := (name_of_methodNamed B.named B.method).1
  have hiX10 : ∀ w ∈ u_ws RX10 TX10 1, w ∈ wsX10_init := hiX10_X10_init
  have hiX3 : ∀ w ∈ u_ws RX3 TX3 4, w ∈ wsX10_init := hiX3_X10_init
  have w : jDA b cy D g s s.heap [] := ⟨jDy.start hv.1, hv.2⟩
  have hE : jEx g g := jEx.rf
  have hl := lv_entry ([.ref (b + x0)]) (n := 1) (Nat.le_of_ble_eq_true rfl)
  rw [lg_entry_eq]
  generalize (lg_sl ([.ref (b + x0)]) ++ List.replicate (1 - (lg_sl ([.ref (b + x0)])).length) Slot.unset).toArray = ls at hl ⊢
  replace hl : lv_has ls 1 [(0, .ref (b + x0))] := hl
  show W p l e rm_X10_init s m _ below meth c s.heap [] 0 0 _ (F0 m 0 ls [])
  rw [J_X10_init] at h
  refine lv_aload_n hx hb dX10_init_0 rfl (lv_at hl 0 rfl) ?_
  refine W.objInit hx hb hown (hts (.methodLink RX10 3 objectInit) (by decide +kernel)) (hts (.instanceMethod objectInit) (by decide +kernel)) (hts _ (List.mem_of_getElem? (l := wsX10_init) (i := 3) rfl)) rfl (by rw [hml]; exact hl.1) rfl dX10_init_1 (Nat.le_of_ble_eq_true rfl) (Nat.le_of_ble_eq_true rfl) ?_
  refine W.eq (g2 := F0 m 4 ls []) rfl ?_
  refine lv_aload_n hx hb dX10_init_4 rfl (lv_at hl 0 rfl) ?_
  refine jnewA (ci := 3) hx hb hts hown hst w hiX3 (rfl : vwCl[3]? = some (RX3, TX3, 4)) tyX3 tyX3_ok (hts (.classLink RX10 9 RX3) (by decide +kernel)) (hts (.instantiable RX3 4) (by decide +kernel)) (hts (.initialized RX3) (by decide +kernel)) (by decide) (by decide +kernel) (Nat.le_of_ble_eq_true rfl) (Nat.le_of_ble_eq_true rfl) dX10_init_5 (fun g5_1 H he w => ?_)
  have hE1 : jEx g g5_1 := by rw [he]; exact jEx_new
  replace hx0 := hE1.at hx0
  have hq5_1 : gN g < gN g5_1 ∧ gK g5_1 (gN g) = 3 := by rw [he]; exact gnew_at
  replace hE := hE.tr hE1
  replace h := h g5_1 he
  clear he hE1
  refine W.widen (k := 1) (n := 4) (Nat.le_of_ble_eq_true rfl) (Nat.le_of_ble_eq_true rfl) ?_
  refine lv_dup hx hb dX10_init_8 rfl ?_
  refine lv_sipush (v := (896 : Int32)) hx hb dX10_init_9 (by decide) ?_
  refine jcIA (k := (gN g)) (As := [.int (896 : Int32)]) (rest := [.ref (b + (gN g)), .ref (b + x0)]) (mc := 3) (ms := 2688) C0 w (c_X3_init (L := 896) ⟨by decide, by decide, by decide⟩ hq5_1 h) (cwI 1 hts ggX10_init_X3_init rfl rfl rfl (hts (.initialized RX3) (by decide +kernel)) (hts (.methodLink RX10 13 yX3_init) (by decide +kernel)) (hts (.instanceMethod yX3_init) (by decide +kernel)) rfl (by decide +kernel) ⟨Nat.le_of_ble_eq_true rfl, Nat.le_of_ble_eq_true rfl⟩) rfl hl.1 rfl (Nat.le_of_ble_eq_true rfl) dX10_init_12 (fun g12_2 H locs h hE1 w => ?_) ⟨Nat.le_of_ble_eq_true rfl, Nat.le_of_ble_eq_true rfl⟩
  replace hx0 := hE1.at hx0
  replace hq5_1 := hE1.at hq5_1
  replace hE := hE.tr hE1
  clear hE1
  refine W.widen (k := 4) (n := 2692) (Nat.le_of_ble_eq_true rfl) (Nat.le_of_ble_eq_true rfl) ?_
  refine jprA (f := 0) (fin := true) hx hb hts hown hst w hx0 hq5_1 (rfl : jrt 9 0 = 3) hiX10 (rfl : vwCl[9]? = some (RX10, TX10, 1)) (hts (.fieldLink RX10 16 "FootByGate$Ways" "heap" "LFootByGate$Heap;") (by decide +kernel)) ⟨by decide, by decide, rfl⟩ tyX10 tyX10_ok nmX10 rfl (fun _ => ⟨hnm, rfl⟩) (fun z => ⟨rfl, rfl⟩) dX10_init_15 (fun g15_3 H locs he w => ?_)
  have hE1 : jEx g12_2 g15_3 := by rw [he]; exact jEx_pr
  replace hx0 := hE1.at hx0
  replace hE := hE.tr hE1
  replace h := h g15_3 he
  clear he hE1
  refine W.widen (k := 4) (n := 2692) (by first | exact Nat.le_of_ble_eq_true rfl | (show _ ≤ _; omega)) (by first | exact Nat.le_of_ble_eq_true rfl | (show _ ≤ _; omega)) ?_
  exact jretA_v hx hb hr hlk hst w hE h dX10_init_18
end S_X10_init
section S_X11_init
def J_X11_init (Q : jS → Prop) (g : jS) (x0 : Nat) : Prop := ∀ g5_1 : jS, g5_1 = gnew 5 0 g → (J_X5_init (fun g9_2 : jS => ∀ g12_3 : jS, g12_3 = gpr g9_2 x0 0 (gN g) → (∀ g16_4 : jS, g16_4 = gnew 7 0 g12_3 → (J_X8_init (fun g20_5 : jS => ∀ g23_6 : jS, g23_6 = gpr g20_5 x0 1 (gN g12_3) → (∀ g28_7 : jS, g28_7 = gnew 16 5 g23_6 → (∀ g31_8 : jS, g31_8 = gpr g28_7 x0 2 (gN g23_6) → (∀ g37_9 : jS, g37_9 = gnew 13 6 g31_8 → (∀ g39_10 : jS, g39_10 = gpr g37_9 x0 4 (gN g31_8) → (∀ g43_11 : jS, g43_11 = gnew 4 0 g39_10 → (J_X4_init (fun g47_12 : jS => ∀ g50_13 : jS, g50_13 = gpr g47_12 x0 6 (gN g39_10) → (∀ g54_14 : jS, g54_14 = gnew 2 0 g50_13 → (J_X2_init (fun g58_15 : jS => ∀ g61_16 : jS, g61_16 = gpr g58_15 x0 9 (gN g50_13) → (∀ g65_17 : jS, g65_17 = gnew 2 0 g61_16 → (J_X2_init (fun g69_18 : jS => ∀ g72_19 : jS, g72_19 = gpr g69_18 x0 10 (gN g61_16) → (∀ g76_20 : jS, g76_20 = gnew 9 0 g72_19 → (J_X10_init (fun g80_21 : jS => ∀ g83_22 : jS, g83_22 = gpr g80_21 x0 11 (gN g72_19) → (∀ g87_23 : jS, g87_23 = gnew 6 0 g83_22 → (J_X6_init (fun g91_24 : jS => ∀ g94_25 : jS, g94_25 = gpr g91_24 x0 12 (gN g83_22) → (∀ g98_26 : jS, g98_26 = gnew 1 0 g94_25 → (J_X1_init (fun g102_27 : jS => ∀ g105_28 : jS, g105_28 = gpr g102_27 x0 13 (gN g94_25) → (∃ a116, gr g105_28 x0 2 = some a116 ∧ (∀ g120_29 : jS, g120_29 = gnew 8 0 g105_28 → (J_X9_init (fun g124_30 : jS => vp_in (0 : Int32) (gl g124_30 a116) ∧ ∀ g127_31 : jS, g127_31 = gpr g124_30 a116 (0 : Int32).toNatClampNeg (gN g105_28) → (∃ a116, gr g127_31 x0 2 = some a116 ∧ (∀ g120_32 : jS, g120_32 = gnew 8 0 g127_31 → (J_X9_init (fun g124_33 : jS => vp_in (1 : Int32) (gl g124_33 a116) ∧ ∀ g127_34 : jS, g127_34 = gpr g124_33 a116 (1 : Int32).toNatClampNeg (gN g127_31) → (∃ a116, gr g127_34 x0 2 = some a116 ∧ (∀ g120_35 : jS, g120_35 = gnew 8 0 g127_34 → (J_X9_init (fun g124_36 : jS => vp_in (2 : Int32) (gl g124_36 a116) ∧ ∀ g127_37 : jS, g127_37 = gpr g124_36 a116 (2 : Int32).toNatClampNeg (gN g127_34) → (∃ a116, gr g127_37 x0 2 = some a116 ∧ (∀ g120_38 : jS, g120_38 = gnew 8 0 g127_37 → (J_X9_init (fun g124_39 : jS => vp_in (3 : Int32) (gl g124_39 a116) ∧ ∀ g127_40 : jS, g127_40 = gpr g124_39 a116 (3 : Int32).toNatClampNeg (gN g127_37) → (∃ a116, gr g127_40 x0 2 = some a116 ∧ (∀ g120_41 : jS, g120_41 = gnew 8 0 g127_40 → (J_X9_init (fun g124_42 : jS => vp_in (4 : Int32) (gl g124_42 a116) ∧ ∀ g127_43 : jS, g127_43 = gpr g124_42 a116 (4 : Int32).toNatClampNeg (gN g127_40) → (Q g127_43)) g120_41 (gN g127_40))))) g120_38 (gN g127_37))))) g120_35 (gN g127_34))))) g120_32 (gN g127_31))))) g120_29 (gN g105_28))))) g98_26 (gN g94_25)))) g87_23 (gN g83_22)))) g76_20 (gN g72_19)))) g65_17 (gN g61_16)))) g54_14 (gN g50_13)))) g43_11 (gN g39_10)))))))) g16_4 (gN g12_3)))) g5_1 (gN g))
abbrev rm_X11_init : Room := { frames := 3, cells := 36, slots := 3953, locals := 53 }
theorem hiX1_X11_init : ∀ w ∈ u_ws RX1 TX1 1, w ∈ wsX11_init := by decide +kernel
theorem hiX10_X11_init : ∀ w ∈ u_ws RX10 TX10 1, w ∈ wsX11_init := by decide +kernel
theorem hiX11_X11_init : ∀ w ∈ u_ws RX11 TX11 15, w ∈ wsX11_init := by decide +kernel
theorem hiX2_X11_init : ∀ w ∈ u_ws RX2 TX2 2, w ∈ wsX11_init := by decide +kernel
theorem hiX4_X11_init : ∀ w ∈ u_ws RX4 TX4 7, w ∈ wsX11_init := by decide +kernel
theorem hiX5_X11_init : ∀ w ∈ u_ws RX5 TX5 5, w ∈ wsX11_init := by decide +kernel
theorem hiX6_X11_init : ∀ w ∈ u_ws RX6 TX6 2, w ∈ wsX11_init := by decide +kernel
theorem hiX8_X11_init : ∀ w ∈ u_ws RX8 TX8 8, w ∈ wsX11_init := by decide +kernel
theorem hiX9_X11_init : ∀ w ∈ u_ws RX9 TX9 3, w ∈ wsX11_init := by decide +kernel
set_option maxHeartbeats 8000000 in
set_option maxRecDepth 100000 in
theorem c_X11_init {l : Launch} {b tU : Nat} {cy : Nat → ClassId} {D : va_G} {Q : jS → Prop} {g : jS} {x0 : Nat} (hx0 : x0 < gN g ∧ gK g x0 = 10) (h : J_X11_init Q g x0) : Met l yX11_init wsX11_init rm_X11_init (va_Pc [.ref (b + x0)] (jPA b cy D tU g)) (jQAv b cy D tU g Q) 36 (3953) (jA b) := by
  refine Met.ofW (cc := cX11_init) (maxL := 2) (ret := none) (by decide) rfl ?_
  intro p e s m args below meth c s₁ B hml hv
  obtain ⟨rfl, hv⟩ := hv
  have C0 : jCA p s m _ c cX11_init 2 wsX11_init RX11 b cy D tU := ⟨B.exec, B.bytes, hml, findClass_of_methodNamed B.named, atoms_spec (ws := wsX11_init) B.pre, hv.1.2.2⟩
  have hr := B.returns
  have hlk := B.notSynchronized
  obtain ⟨hx, hb, hml, hown, hts, hst⟩ := id C0
  have hnm : meth.name = "<init>" := (name_of_methodNamed B.named B.method).1
  have hiX1 : ∀ w ∈ u_ws RX1 TX1 1, w ∈ wsX11_init := hiX1_X11_init
  have hiX10 : ∀ w ∈ u_ws RX10 TX10 1, w ∈ wsX11_init := hiX10_X11_init
  have hiX11 : ∀ w ∈ u_ws RX11 TX11 15, w ∈ wsX11_init := hiX11_X11_init
  have hiX2 : ∀ w ∈ u_ws RX2 TX2 2, w ∈ wsX11_init := hiX2_X11_init
  have hiX4 : ∀ w ∈ u_ws RX4 TX4 7, w ∈ wsX11_init := hiX4_X11_init
  have hiX5 : ∀ w ∈ u_ws RX5 TX5 5, w ∈ wsX11_init := hiX5_X11_init
  have hiX6 : ∀ w ∈ u_ws RX6 TX6 2, w ∈ wsX11_init := hiX6_X11_init
  have hiX8 : ∀ w ∈ u_ws RX8 TX8 8, w ∈ wsX11_init := hiX8_X11_init
  have hiX9 : ∀ w ∈ u_ws RX9 TX9 3, w ∈ wsX11_init := hiX9_X11_init
  have w : jDA b cy D g s s.heap [] := ⟨jDy.start hv.1, hv.2⟩
  have hE : jEx g g := jEx.rf
  have hl := lv_entry ([.ref (b + x0)]) (n := 2) (Nat.le_of_ble_eq_true rfl)
  rw [lg_entry_eq]
  generalize (lg_sl ([.ref (b + x0)]) ++ List.replicate (2 - (lg_sl ([.ref (b + x0)])).length) Slot.unset).toArray = ls at hl ⊢
  replace hl : lv_has ls 2 [(0, .ref (b + x0))] := hl
  show W p l e rm_X11_init s m _ below meth c s.heap [] 0 0 _ (F0 m 0 ls [])
  rw [J_X11_init] at h
  refine lv_aload_n hx hb dX11_init_0 rfl (lv_at hl 0 rfl) ?_
  refine W.objInit hx hb hown (hts (.methodLink RX11 1 objectInit) (by decide +kernel)) (hts (.instanceMethod objectInit) (by decide +kernel)) (hts _ (List.mem_of_getElem? (l := wsX11_init) (i := 3) rfl)) rfl (by rw [hml]; exact hl.1) rfl dX11_init_1 (Nat.le_of_ble_eq_true rfl) (Nat.le_of_ble_eq_true rfl) ?_
  refine W.eq (g2 := F0 m 4 ls []) rfl ?_
  refine lv_aload_n hx hb dX11_init_4 rfl (lv_at hl 0 rfl) ?_
  refine jnewA (ci := 5) hx hb hts hown hst w hiX5 (rfl : vwCl[5]? = some (RX5, TX5, 5)) tyX5 tyX5_ok (hts (.classLink RX11 7 RX5) (by decide +kernel)) (hts (.instantiable RX5 5) (by decide +kernel)) (hts (.initialized RX5) (by decide +kernel)) (by decide) (by decide +kernel) (Nat.le_of_ble_eq_true rfl) (Nat.le_of_ble_eq_true rfl) dX11_init_5 (fun g5_1 H he w => ?_)
  have hE1 : jEx g g5_1 := by rw [he]; exact jEx_new
  replace hx0 := hE1.at hx0
  have hq5_1 : gN g < gN g5_1 ∧ gK g5_1 (gN g) = 5 := by rw [he]; exact gnew_at
  replace hE := hE.tr hE1
  replace h := h g5_1 he
  clear he hE1
  refine W.widen (k := 1) (n := 5) (Nat.le_of_ble_eq_true rfl) (Nat.le_of_ble_eq_true rfl) ?_
  refine lv_dup hx hb dX11_init_8 rfl ?_
  refine jcNA (k := (gN g)) (As := []) (rest := [.ref (b + (gN g)), .ref (b + x0)]) (mc := 1) (ms := 50) C0 w (c_X5_init hq5_1 h) ⟨va_cnB 0 hts ggX11_init_X5_init rfl rfl rfl (hst.2.2.2.2 _ (List.mem_of_getElem? (l := jNl) (i := 0) rfl)) (hts (.initialized RX5) (by decide +kernel)) (by decide +kernel) ⟨Nat.le_of_ble_eq_true rfl, Nat.le_of_ble_eq_true rfl⟩, rfl, hts (.instanceMethod yX5_init) (by decide +kernel)⟩ rfl hl.1 rfl (Nat.le_of_ble_eq_true rfl) dX11_init_9 (fun g9_2 H locs h hE1 w => ?_) ⟨Nat.le_of_ble_eq_true rfl, Nat.le_of_ble_eq_true rfl⟩
  replace hx0 := hE1.at hx0
  replace hq5_1 := hE1.at hq5_1
  replace hE := hE.tr hE1
  clear hE1
  refine W.widen (k := 2) (n := 55) (Nat.le_of_ble_eq_true rfl) (Nat.le_of_ble_eq_true rfl) ?_
  refine jprA (f := 0) (fin := true) hx hb hts hown hst w hx0 hq5_1 (rfl : jrt 10 0 = 5) hiX11 (rfl : vwCl[10]? = some (RX11, TX11, 15)) (hts (.fieldLink RX11 10 "FootByGate" "page" "LFootByGate$Page;") (by decide +kernel)) ⟨by decide, by decide, rfl⟩ tyX11 tyX11_ok nmX11 rfl (fun _ => ⟨hnm, rfl⟩) (fun z => ⟨rfl, rfl⟩) dX11_init_12 (fun g12_3 H locs he w => ?_)
  have hE1 : jEx g9_2 g12_3 := by rw [he]; exact jEx_pr
  replace hx0 := hE1.at hx0
  replace hE := hE.tr hE1
  replace h := h g12_3 he
  clear he hE1
  refine lv_aload_n hx hb dX11_init_15 rfl (lv_at hl 0 rfl) ?_
  refine jnewA (ci := 7) hx hb hts hown hst w hiX8 (rfl : vwCl[7]? = some (RX8, TX8, 8)) tyX8 tyX8_ok (hts (.classLink RX11 16 RX8) (by decide +kernel)) (hts (.instantiable RX8 8) (by decide +kernel)) (hts (.initialized RX8) (by decide +kernel)) (by decide) (by decide +kernel) (Nat.le_of_ble_eq_true rfl) (Nat.le_of_ble_eq_true rfl) dX11_init_16 (fun g16_4 H he w => ?_)
  have hE1 : jEx g12_3 g16_4 := by rw [he]; exact jEx_new
  replace hx0 := hE1.at hx0
  have hq16_4 : gN g12_3 < gN g16_4 ∧ gK g16_4 (gN g12_3) = 7 := by rw [he]; exact gnew_at
  replace hE := hE.tr hE1
  replace h := h g16_4 he
  clear he hE1
  refine W.widen (k := 3) (n := 63) (Nat.le_of_ble_eq_true rfl) (Nat.le_of_ble_eq_true rfl) ?_
  refine lv_dup hx hb dX11_init_19 rfl ?_
  refine jcNA (k := (gN g12_3)) (As := []) (rest := [.ref (b + (gN g12_3)), .ref (b + x0)]) (mc := 5) (ms := 43) C0 w (c_X8_init hq16_4 h) ⟨va_cnB 0 hts ggX11_init_X8_init rfl rfl rfl (hst.2.2.2.2 _ (List.mem_of_getElem? (l := jNl) (i := 1) rfl)) (hts (.initialized RX8) (by decide +kernel)) (by decide +kernel) ⟨Nat.le_of_ble_eq_true rfl, Nat.le_of_ble_eq_true rfl⟩, rfl, hts (.instanceMethod yX8_init) (by decide +kernel)⟩ rfl hl.1 rfl (Nat.le_of_ble_eq_true rfl) dX11_init_20 (fun g20_5 H locs h hE1 w => ?_) ⟨Nat.le_of_ble_eq_true rfl, Nat.le_of_ble_eq_true rfl⟩
  replace hx0 := hE1.at hx0
  replace hq16_4 := hE1.at hq16_4
  replace hE := hE.tr hE1
  clear hE1
  refine W.widen (k := 8) (n := 106) (Nat.le_of_ble_eq_true rfl) (Nat.le_of_ble_eq_true rfl) ?_
  refine jprA (f := 1) (fin := true) hx hb hts hown hst w hx0 hq16_4 (rfl : jrt 10 1 = 7) hiX11 (rfl : vwCl[10]? = some (RX11, TX11, 15)) (hts (.fieldLink RX11 19 "FootByGate" "map" "LFootByGate$Town;") (by decide +kernel)) ⟨by decide, by decide, rfl⟩ tyX11 tyX11_ok nmX11 rfl (fun _ => ⟨hnm, rfl⟩) (fun z => ⟨rfl, rfl⟩) dX11_init_23 (fun g23_6 H locs he w => ?_)
  have hE1 : jEx g20_5 g23_6 := by rw [he]; exact jEx_pr
  replace hx0 := hE1.at hx0
  replace hE := hE.tr hE1
  replace h := h g23_6 he
  clear he hE1
  refine lv_aload_n hx hb dX11_init_26 rfl (lv_at hl 0 rfl) ?_
  refine lv_iconst (v := (5 : Int32)) hx hb dX11_init_27 (by decide) ?_
  refine jnqA (N := 5) hx hb hown hst w (hts (.classLink RX11 23 RX9) (by decide +kernel)) (by decide) (by decide) (Nat.le_of_ble_eq_true rfl) (Nat.le_of_ble_eq_true rfl) (Nat.le_of_ble_eq_true rfl) dX11_init_28 (fun g28_7 H he w => ?_)
  have hE1 : jEx g23_6 g28_7 := by rw [he]; exact jEx_new
  replace hx0 := hE1.at hx0
  have hq28_7 : gN g23_6 < gN g28_7 ∧ gK g28_7 (gN g23_6) = 16 := by rw [he]; exact gnew_at
  replace hE := hE.tr hE1
  replace h := h g28_7 he
  clear he hE1
  refine W.widen (k := 9) (n := 111) (Nat.le_of_ble_eq_true rfl) (Nat.le_of_ble_eq_true rfl) ?_
  refine jprA (f := 2) (fin := true) hx hb hts hown hst w hx0 hq28_7 (rfl : jrt 10 2 = 16) hiX11 (rfl : vwCl[10]? = some (RX11, TX11, 15)) (hts (.fieldLink RX11 25 "FootByGate" "walkers" "[LFootByGate$Walker;") (by decide +kernel)) ⟨by decide, by decide, rfl⟩ tyX11 tyX11_ok nmX11 rfl (fun _ => ⟨hnm, rfl⟩) (fun z => ⟨rfl, rfl⟩) dX11_init_31 (fun g31_8 H locs he w => ?_)
  have hE1 : jEx g28_7 g31_8 := by rw [he]; exact jEx_pr
  replace hx0 := hE1.at hx0
  replace hE := hE.tr hE1
  replace h := h g31_8 he
  clear he hE1
  refine lv_aload_n hx hb dX11_init_34 rfl (lv_at hl 0 rfl) ?_
  refine lv_bipush (v := (6 : Int32)) hx hb dX11_init_35 (by decide) ?_
  refine jnaA (atype := .int) (ty := .int) (kd := 13) (N := 6) hx hb hst w (hts (.arrayClass .int) (by decide +kernel)) rfl (Or.inr (Or.inl ⟨rfl, rfl⟩)) (by decide) (by decide) (Nat.le_of_ble_eq_true rfl) (Nat.le_of_ble_eq_true rfl) (Nat.le_of_ble_eq_true rfl) dX11_init_37 (fun g37_9 H he w => ?_)
  have hE1 : jEx g31_8 g37_9 := by rw [he]; exact jEx_new
  replace hx0 := hE1.at hx0
  have hq37_9 : gN g31_8 < gN g37_9 ∧ gK g37_9 (gN g31_8) = 13 := by rw [he]; exact gnew_at
  replace hE := hE.tr hE1
  replace h := h g37_9 he
  clear he hE1
  refine W.widen (k := 10) (n := 117) (Nat.le_of_ble_eq_true rfl) (Nat.le_of_ble_eq_true rfl) ?_
  refine jprA (f := 4) (fin := true) hx hb hts hown hst w hx0 hq37_9 (rfl : jrt 10 4 = 13) hiX11 (rfl : vwCl[10]? = some (RX11, TX11, 15)) (hts (.fieldLink RX11 29 "FootByGate" "prints" "[I") (by decide +kernel)) ⟨by decide, by decide, rfl⟩ tyX11 tyX11_ok nmX11 rfl (fun _ => ⟨hnm, rfl⟩) (fun z => ⟨rfl, rfl⟩) dX11_init_39 (fun g39_10 H locs he w => ?_)
  have hE1 : jEx g37_9 g39_10 := by rw [he]; exact jEx_pr
  replace hx0 := hE1.at hx0
  replace hE := hE.tr hE1
  replace h := h g39_10 he
  clear he hE1
  refine lv_aload_n hx hb dX11_init_42 rfl (lv_at hl 0 rfl) ?_
  refine jnewA (ci := 4) hx hb hts hown hst w hiX4 (rfl : vwCl[4]? = some (RX4, TX4, 7)) tyX4 tyX4_ok (hts (.classLink RX11 33 RX4) (by decide +kernel)) (hts (.instantiable RX4 7) (by decide +kernel)) (hts (.initialized RX4) (by decide +kernel)) (by decide) (by decide +kernel) (Nat.le_of_ble_eq_true rfl) (Nat.le_of_ble_eq_true rfl) dX11_init_43 (fun g43_11 H he w => ?_)
  have hE1 : jEx g39_10 g43_11 := by rw [he]; exact jEx_new
  replace hx0 := hE1.at hx0
  have hq43_11 : gN g39_10 < gN g43_11 ∧ gK g43_11 (gN g39_10) = 4 := by rw [he]; exact gnew_at
  replace hE := hE.tr hE1
  replace h := h g43_11 he
  clear he hE1
  refine W.widen (k := 11) (n := 124) (Nat.le_of_ble_eq_true rfl) (Nat.le_of_ble_eq_true rfl) ?_
  refine lv_dup hx hb dX11_init_46 rfl ?_
  refine jcNA (k := (gN g39_10)) (As := []) (rest := [.ref (b + (gN g39_10)), .ref (b + x0)]) (mc := 4) (ms := 26) C0 w (c_X4_init hq43_11 h) ⟨va_cnB 0 hts ggX11_init_X4_init rfl rfl rfl (hst.2.2.2.2 _ (List.mem_of_getElem? (l := jNl) (i := 2) rfl)) (hts (.initialized RX4) (by decide +kernel)) (by decide +kernel) ⟨Nat.le_of_ble_eq_true rfl, Nat.le_of_ble_eq_true rfl⟩, rfl, hts (.instanceMethod yX4_init) (by decide +kernel)⟩ rfl hl.1 rfl (Nat.le_of_ble_eq_true rfl) dX11_init_47 (fun g47_12 H locs h hE1 w => ?_) ⟨Nat.le_of_ble_eq_true rfl, Nat.le_of_ble_eq_true rfl⟩
  replace hx0 := hE1.at hx0
  replace hq43_11 := hE1.at hq43_11
  replace hE := hE.tr hE1
  clear hE1
  refine W.widen (k := 15) (n := 150) (Nat.le_of_ble_eq_true rfl) (Nat.le_of_ble_eq_true rfl) ?_
  refine jprA (f := 6) (fin := true) hx hb hts hown hst w hx0 hq43_11 (rfl : jrt 10 6 = 4) hiX11 (rfl : vwCl[10]? = some (RX11, TX11, 15)) (hts (.fieldLink RX11 36 "FootByGate" "kept" "LFootByGate$Image;") (by decide +kernel)) ⟨by decide, by decide, rfl⟩ tyX11 tyX11_ok nmX11 rfl (fun _ => ⟨hnm, rfl⟩) (fun z => ⟨rfl, rfl⟩) dX11_init_50 (fun g50_13 H locs he w => ?_)
  have hE1 : jEx g47_12 g50_13 := by rw [he]; exact jEx_pr
  replace hx0 := hE1.at hx0
  replace hE := hE.tr hE1
  replace h := h g50_13 he
  clear he hE1
  refine lv_aload_n hx hb dX11_init_53 rfl (lv_at hl 0 rfl) ?_
  refine jnewA (ci := 2) hx hb hts hown hst w hiX2 (rfl : vwCl[2]? = some (RX2, TX2, 2)) tyX2 tyX2_ok (hts (.classLink RX11 40 RX2) (by decide +kernel)) (hts (.instantiable RX2 2) (by decide +kernel)) (hts (.initialized RX2) (by decide +kernel)) (by decide) (by decide +kernel) (Nat.le_of_ble_eq_true rfl) (Nat.le_of_ble_eq_true rfl) dX11_init_54 (fun g54_14 H he w => ?_)
  have hE1 : jEx g50_13 g54_14 := by rw [he]; exact jEx_new
  replace hx0 := hE1.at hx0
  have hq54_14 : gN g50_13 < gN g54_14 ∧ gK g54_14 (gN g50_13) = 2 := by rw [he]; exact gnew_at
  replace hE := hE.tr hE1
  replace h := h g54_14 he
  clear he hE1
  refine W.widen (k := 16) (n := 152) (Nat.le_of_ble_eq_true rfl) (Nat.le_of_ble_eq_true rfl) ?_
  refine lv_dup hx hb dX11_init_57 rfl ?_
  refine jcNA (k := (gN g50_13)) (As := []) (rest := [.ref (b + (gN g50_13)), .ref (b + x0)]) (mc := 2) (ms := 20) C0 w (c_X2_init hq54_14 h) ⟨va_cnB 0 hts ggX11_init_X2_init rfl rfl rfl (hst.2.2.2.2 _ (List.mem_of_getElem? (l := jNl) (i := 3) rfl)) (hts (.initialized RX2) (by decide +kernel)) (by decide +kernel) ⟨Nat.le_of_ble_eq_true rfl, Nat.le_of_ble_eq_true rfl⟩, rfl, hts (.instanceMethod yX2_init) (by decide +kernel)⟩ rfl hl.1 rfl (Nat.le_of_ble_eq_true rfl) dX11_init_58 (fun g58_15 H locs h hE1 w => ?_) ⟨Nat.le_of_ble_eq_true rfl, Nat.le_of_ble_eq_true rfl⟩
  replace hx0 := hE1.at hx0
  replace hq54_14 := hE1.at hq54_14
  replace hE := hE.tr hE1
  clear hE1
  refine W.widen (k := 18) (n := 172) (Nat.le_of_ble_eq_true rfl) (Nat.le_of_ble_eq_true rfl) ?_
  refine jprA (f := 9) (fin := true) hx hb hts hown hst w hx0 hq54_14 (rfl : jrt 10 9 = 2) hiX11 (rfl : vwCl[10]? = some (RX11, TX11, 15)) (hts (.fieldLink RX11 43 "FootByGate" "gait" "LFootByGate$Gait;") (by decide +kernel)) ⟨by decide, by decide, rfl⟩ tyX11 tyX11_ok nmX11 rfl (fun _ => ⟨hnm, rfl⟩) (fun z => ⟨rfl, rfl⟩) dX11_init_61 (fun g61_16 H locs he w => ?_)
  have hE1 : jEx g58_15 g61_16 := by rw [he]; exact jEx_pr
  replace hx0 := hE1.at hx0
  replace hE := hE.tr hE1
  replace h := h g61_16 he
  clear he hE1
  refine lv_aload_n hx hb dX11_init_64 rfl (lv_at hl 0 rfl) ?_
  refine jnewA (ci := 2) hx hb hts hown hst w hiX2 (rfl : vwCl[2]? = some (RX2, TX2, 2)) tyX2 tyX2_ok (hts (.classLink RX11 40 RX2) (by decide +kernel)) (hts (.instantiable RX2 2) (by decide +kernel)) (hts (.initialized RX2) (by decide +kernel)) (by decide) (by decide +kernel) (Nat.le_of_ble_eq_true rfl) (Nat.le_of_ble_eq_true rfl) dX11_init_65 (fun g65_17 H he w => ?_)
  have hE1 : jEx g61_16 g65_17 := by rw [he]; exact jEx_new
  replace hx0 := hE1.at hx0
  have hq65_17 : gN g61_16 < gN g65_17 ∧ gK g65_17 (gN g61_16) = 2 := by rw [he]; exact gnew_at
  replace hE := hE.tr hE1
  replace h := h g65_17 he
  clear he hE1
  refine W.widen (k := 19) (n := 174) (Nat.le_of_ble_eq_true rfl) (Nat.le_of_ble_eq_true rfl) ?_
  refine lv_dup hx hb dX11_init_68 rfl ?_
  refine jcNA (k := (gN g61_16)) (As := []) (rest := [.ref (b + (gN g61_16)), .ref (b + x0)]) (mc := 2) (ms := 20) C0 w (c_X2_init hq65_17 h) ⟨va_cnB 0 hts ggX11_init_X2_init rfl rfl rfl (hst.2.2.2.2 _ (List.mem_of_getElem? (l := jNl) (i := 3) rfl)) (hts (.initialized RX2) (by decide +kernel)) (by decide +kernel) ⟨Nat.le_of_ble_eq_true rfl, Nat.le_of_ble_eq_true rfl⟩, rfl, hts (.instanceMethod yX2_init) (by decide +kernel)⟩ rfl hl.1 rfl (Nat.le_of_ble_eq_true rfl) dX11_init_69 (fun g69_18 H locs h hE1 w => ?_) ⟨Nat.le_of_ble_eq_true rfl, Nat.le_of_ble_eq_true rfl⟩
  replace hx0 := hE1.at hx0
  replace hq65_17 := hE1.at hq65_17
  replace hE := hE.tr hE1
  clear hE1
  refine W.widen (k := 21) (n := 194) (Nat.le_of_ble_eq_true rfl) (Nat.le_of_ble_eq_true rfl) ?_
  refine jprA (f := 10) (fin := true) hx hb hts hown hst w hx0 hq65_17 (rfl : jrt 10 10 = 2) hiX11 (rfl : vwCl[10]? = some (RX11, TX11, 15)) (hts (.fieldLink RX11 47 "FootByGate" "otherGait" "LFootByGate$Gait;") (by decide +kernel)) ⟨by decide, by decide, rfl⟩ tyX11 tyX11_ok nmX11 rfl (fun _ => ⟨hnm, rfl⟩) (fun z => ⟨rfl, rfl⟩) dX11_init_72 (fun g72_19 H locs he w => ?_)
  have hE1 : jEx g69_18 g72_19 := by rw [he]; exact jEx_pr
  replace hx0 := hE1.at hx0
  replace hE := hE.tr hE1
  replace h := h g72_19 he
  clear he hE1
  refine lv_aload_n hx hb dX11_init_75 rfl (lv_at hl 0 rfl) ?_
  refine jnewA (ci := 9) hx hb hts hown hst w hiX10 (rfl : vwCl[9]? = some (RX10, TX10, 1)) tyX10 tyX10_ok (hts (.classLink RX11 50 RX10) (by decide +kernel)) (hts (.instantiable RX10 1) (by decide +kernel)) (hts (.initialized RX10) (by decide +kernel)) (by decide) (by decide +kernel) (Nat.le_of_ble_eq_true rfl) (Nat.le_of_ble_eq_true rfl) dX11_init_76 (fun g76_20 H he w => ?_)
  have hE1 : jEx g72_19 g76_20 := by rw [he]; exact jEx_new
  replace hx0 := hE1.at hx0
  have hq76_20 : gN g72_19 < gN g76_20 ∧ gK g76_20 (gN g72_19) = 9 := by rw [he]; exact gnew_at
  replace hE := hE.tr hE1
  replace h := h g76_20 he
  clear he hE1
  refine W.widen (k := 22) (n := 195) (Nat.le_of_ble_eq_true rfl) (Nat.le_of_ble_eq_true rfl) ?_
  refine lv_dup hx hb dX11_init_79 rfl ?_
  refine jcNA (k := (gN g72_19)) (As := []) (rest := [.ref (b + (gN g72_19)), .ref (b + x0)]) (mc := 4) (ms := 2692) C0 w (c_X10_init hq76_20 h) ⟨va_cnB 0 hts ggX11_init_X10_init rfl rfl rfl (hst.2.2.2.2 _ (List.mem_of_getElem? (l := jNl) (i := 4) rfl)) (hts (.initialized RX10) (by decide +kernel)) (by decide +kernel) ⟨Nat.le_of_ble_eq_true rfl, Nat.le_of_ble_eq_true rfl⟩, rfl, hts (.instanceMethod yX10_init) (by decide +kernel)⟩ rfl hl.1 rfl (Nat.le_of_ble_eq_true rfl) dX11_init_80 (fun g80_21 H locs h hE1 w => ?_) ⟨Nat.le_of_ble_eq_true rfl, Nat.le_of_ble_eq_true rfl⟩
  replace hx0 := hE1.at hx0
  replace hq76_20 := hE1.at hq76_20
  replace hE := hE.tr hE1
  clear hE1
  refine W.widen (k := 26) (n := 2887) (Nat.le_of_ble_eq_true rfl) (Nat.le_of_ble_eq_true rfl) ?_
  refine jprA (f := 11) (fin := true) hx hb hts hown hst w hx0 hq76_20 (rfl : jrt 10 11 = 9) hiX11 (rfl : vwCl[10]? = some (RX11, TX11, 15)) (hts (.fieldLink RX11 53 "FootByGate" "ways" "LFootByGate$Ways;") (by decide +kernel)) ⟨by decide, by decide, rfl⟩ tyX11 tyX11_ok nmX11 rfl (fun _ => ⟨hnm, rfl⟩) (fun z => ⟨rfl, rfl⟩) dX11_init_83 (fun g83_22 H locs he w => ?_)
  have hE1 : jEx g80_21 g83_22 := by rw [he]; exact jEx_pr
  replace hx0 := hE1.at hx0
  replace hE := hE.tr hE1
  replace h := h g83_22 he
  clear he hE1
  refine lv_aload_n hx hb dX11_init_86 rfl (lv_at hl 0 rfl) ?_
  refine jnewA (ci := 6) hx hb hts hown hst w hiX6 (rfl : vwCl[6]? = some (RX6, TX6, 2)) tyX6 tyX6_ok (hts (.classLink RX11 57 RX6) (by decide +kernel)) (hts (.instantiable RX6 2) (by decide +kernel)) (hts (.initialized RX6) (by decide +kernel)) (by decide) (by decide +kernel) (Nat.le_of_ble_eq_true rfl) (Nat.le_of_ble_eq_true rfl) dX11_init_87 (fun g87_23 H he w => ?_)
  have hE1 : jEx g83_22 g87_23 := by rw [he]; exact jEx_new
  replace hx0 := hE1.at hx0
  have hq87_23 : gN g83_22 < gN g87_23 ∧ gK g87_23 (gN g83_22) = 6 := by rw [he]; exact gnew_at
  replace hE := hE.tr hE1
  replace h := h g87_23 he
  clear he hE1
  refine W.widen (k := 27) (n := 2889) (Nat.le_of_ble_eq_true rfl) (Nat.le_of_ble_eq_true rfl) ?_
  refine lv_dup hx hb dX11_init_90 rfl ?_
  refine jcNA (k := (gN g83_22)) (As := []) (rest := [.ref (b + (gN g83_22)), .ref (b + x0)]) (mc := 2) (ms := 24) C0 w (c_X6_init hq87_23 h) ⟨va_cnB 0 hts ggX11_init_X6_init rfl rfl rfl (hst.2.2.2.2 _ (List.mem_of_getElem? (l := jNl) (i := 5) rfl)) (hts (.initialized RX6) (by decide +kernel)) (by decide +kernel) ⟨Nat.le_of_ble_eq_true rfl, Nat.le_of_ble_eq_true rfl⟩, rfl, hts (.instanceMethod yX6_init) (by decide +kernel)⟩ rfl hl.1 rfl (Nat.le_of_ble_eq_true rfl) dX11_init_91 (fun g91_24 H locs h hE1 w => ?_) ⟨Nat.le_of_ble_eq_true rfl, Nat.le_of_ble_eq_true rfl⟩
  replace hx0 := hE1.at hx0
  replace hq87_23 := hE1.at hq87_23
  replace hE := hE.tr hE1
  clear hE1
  refine W.widen (k := 29) (n := 2913) (Nat.le_of_ble_eq_true rfl) (Nat.le_of_ble_eq_true rfl) ?_
  refine jprA (f := 12) (fin := true) hx hb hts hown hst w hx0 hq87_23 (rfl : jrt 10 12 = 6) hiX11 (rfl : vwCl[10]? = some (RX11, TX11, 15)) (hts (.fieldLink RX11 60 "FootByGate" "reach" "LFootByGate$Reach;") (by decide +kernel)) ⟨by decide, by decide, rfl⟩ tyX11 tyX11_ok nmX11 rfl (fun _ => ⟨hnm, rfl⟩) (fun z => ⟨rfl, rfl⟩) dX11_init_94 (fun g94_25 H locs he w => ?_)
  have hE1 : jEx g91_24 g94_25 := by rw [he]; exact jEx_pr
  replace hx0 := hE1.at hx0
  replace hE := hE.tr hE1
  replace h := h g94_25 he
  clear he hE1
  refine lv_aload_n hx hb dX11_init_97 rfl (lv_at hl 0 rfl) ?_
  refine jnewA (ci := 1) hx hb hts hown hst w hiX1 (rfl : vwCl[1]? = some (RX1, TX1, 1)) tyX1 tyX1_ok (hts (.classLink RX11 64 RX1) (by decide +kernel)) (hts (.instantiable RX1 1) (by decide +kernel)) (hts (.initialized RX1) (by decide +kernel)) (by decide) (by decide +kernel) (Nat.le_of_ble_eq_true rfl) (Nat.le_of_ble_eq_true rfl) dX11_init_98 (fun g98_26 H he w => ?_)
  have hE1 : jEx g94_25 g98_26 := by rw [he]; exact jEx_new
  replace hx0 := hE1.at hx0
  have hq98_26 : gN g94_25 < gN g98_26 ∧ gK g98_26 (gN g94_25) = 1 := by rw [he]; exact gnew_at
  replace hE := hE.tr hE1
  replace h := h g98_26 he
  clear he hE1
  refine W.widen (k := 30) (n := 2914) (Nat.le_of_ble_eq_true rfl) (Nat.le_of_ble_eq_true rfl) ?_
  refine lv_dup hx hb dX11_init_101 rfl ?_
  refine jcNA (k := (gN g94_25)) (As := []) (rest := [.ref (b + (gN g94_25)), .ref (b + x0)]) (mc := 1) (ms := 1024) C0 w (c_X1_init hq98_26 h) ⟨va_cnB 0 hts ggX11_init_X1_init rfl rfl rfl (hst.2.2.2.2 _ (List.mem_of_getElem? (l := jNl) (i := 6) rfl)) (hts (.initialized RX1) (by decide +kernel)) (by decide +kernel) ⟨Nat.le_of_ble_eq_true rfl, Nat.le_of_ble_eq_true rfl⟩, rfl, hts (.instanceMethod yX1_init) (by decide +kernel)⟩ rfl hl.1 rfl (Nat.le_of_ble_eq_true rfl) dX11_init_102 (fun g102_27 H locs h hE1 w => ?_) ⟨Nat.le_of_ble_eq_true rfl, Nat.le_of_ble_eq_true rfl⟩
  replace hx0 := hE1.at hx0
  replace hq98_26 := hE1.at hq98_26
  replace hE := hE.tr hE1
  clear hE1
  refine W.widen (k := 31) (n := 3938) (Nat.le_of_ble_eq_true rfl) (Nat.le_of_ble_eq_true rfl) ?_
  refine jprA (f := 13) (fin := true) hx hb hts hown hst w hx0 hq98_26 (rfl : jrt 10 13 = 1) hiX11 (rfl : vwCl[10]? = some (RX11, TX11, 15)) (hts (.fieldLink RX11 67 "FootByGate" "circuit" "LFootByGate$Circuit;") (by decide +kernel)) ⟨by decide, by decide, rfl⟩ tyX11 tyX11_ok nmX11 rfl (fun _ => ⟨hnm, rfl⟩) (fun z => ⟨rfl, rfl⟩) dX11_init_105 (fun g105_28 H locs he w => ?_)
  have hE1 : jEx g102_27 g105_28 := by rw [he]; exact jEx_pr
  replace hx0 := hE1.at hx0
  replace hE := hE.tr hE1
  replace h := h g105_28 he
  clear he hE1
  refine lv_iconst (v := (0 : Int32)) hx hb dX11_init_108 (by decide) ?_
  refine lv_istore_n (lv' := [(1, .int (0 : Int32)), (0, .ref (b + x0))]) hx hb dX11_init_109 rfl hl (by decide) rfl (fun ls hl => ?_)
  refine lv_iload_n hx hb dX11_init_110 rfl (lv_at hl 0 rfl) ?_
  refine lv_iconst (v := (5 : Int32)) hx hb dX11_init_111 (by decide) ?_
  refine lv_icmp_ge (tgt := 134) hx hb dX11_init_112 (by decide) (fun hc => ?_) (fun hc => ?_)
  · exact absurd hc (by decide)
  clear hc
  refine lv_aload_n hx hb dX11_init_115 rfl (lv_at hl 1 rfl) ?_
  obtain ⟨a116, hr0, h⟩ := h
  refine jgr (f := 2) hx hb hts hown hst w.1 w.2 hx0 hiX11 (rfl : vwCl[10]? = some (RX11, TX11, 15)) (hts (.fieldLink RX11 25 "FootByGate" "walkers" "[LFootByGate$Walker;") (by decide +kernel)) ⟨by decide, by decide, rfl⟩ (rfl : jrt 10 2 = 16) dX11_init_116 hr0 (fun ha116 => ?_)
  clear hr0
  refine lv_iload_n hx hb dX11_init_119 rfl (lv_at hl 0 rfl) ?_
  refine jnewA (ci := 8) hx hb hts hown hst w hiX9 (rfl : vwCl[8]? = some (RX9, TX9, 3)) tyX9 tyX9_ok (hts (.classLink RX11 23 RX9) (by decide +kernel)) (hts (.instantiable RX9 3) (by decide +kernel)) (hts (.initialized RX9) (by decide +kernel)) (by decide) (by decide +kernel) (Nat.le_of_ble_eq_true rfl) (Nat.le_of_ble_eq_true rfl) dX11_init_120 (fun g120_29 H he w => ?_)
  have hE1 : jEx g105_28 g120_29 := by rw [he]; exact jEx_new
  replace ha116 := hE1.at ha116
  replace hx0 := hE1.at hx0
  have hq120_29 : gN g105_28 < gN g120_29 ∧ gK g120_29 (gN g105_28) = 8 := by rw [he]; exact gnew_at
  replace hE := hE.tr hE1
  replace h := h g120_29 he
  clear he hE1
  refine W.widen (k := 32) (n := 3941) (Nat.le_of_ble_eq_true rfl) (Nat.le_of_ble_eq_true rfl) ?_
  refine lv_dup hx hb dX11_init_123 rfl ?_
  refine jcNA (k := (gN g105_28)) (As := []) (rest := [.ref (b + (gN g105_28)), .int (0 : Int32), .ref (b + a116)]) (mc := 0) (ms := 0) C0 w (c_X9_init hq120_29 h) ⟨va_cnB 0 hts ggX11_init_X9_init rfl rfl rfl (hst.2.2.2.2 _ (List.mem_of_getElem? (l := jNl) (i := 7) rfl)) (hts (.initialized RX9) (by decide +kernel)) (by decide +kernel) ⟨Nat.le_of_ble_eq_true rfl, Nat.le_of_ble_eq_true rfl⟩, rfl, hts (.instanceMethod yX9_init) (by decide +kernel)⟩ rfl hl.1 rfl (Nat.le_of_ble_eq_true rfl) dX11_init_124 (fun g124_30 H locs h hE1 w => ?_) ⟨Nat.le_of_ble_eq_true rfl, Nat.le_of_ble_eq_true rfl⟩
  replace ha116 := hE1.at ha116
  replace hq120_29 := hE1.at hq120_29
  replace hx0 := hE1.at hx0
  replace hE := hE.tr hE1
  clear hE1
  refine W.widen (k := 32) (n := 3941) (Nat.le_of_ble_eq_true rfl) (Nat.le_of_ble_eq_true rfl) ?_
  obtain ⟨hn, h⟩ := h
  refine jaaA hx hb hst w ha116 hq120_29 hn dX11_init_127 (fun g127_31 H locs he w => ?_)
  clear hn
  have hE1 : jEx g124_30 g127_31 := by rw [he]; exact jEx_pr
  replace hx0 := hE1.at hx0
  replace hE := hE.tr hE1
  replace h := h g127_31 he
  clear he hE1
  refine lv_iinc (v := (1 : Int32)) (lv' := [(1, .int (1 : Int32)), (0, .ref (b + x0))]) hx hb dX11_init_128 hl (k := 0) rfl (by decide) (by decide) rfl (fun ls hl => ?_)
  refine lv_goto (tgt := 110) hx hb dX11_init_131 (by decide) ?_
  refine lv_iload_n hx hb dX11_init_110 rfl (lv_at hl 0 rfl) ?_
  refine lv_iconst (v := (5 : Int32)) hx hb dX11_init_111 (by decide) ?_
  refine lv_icmp_ge (tgt := 134) hx hb dX11_init_112 (by decide) (fun hc => ?_) (fun hc => ?_)
  · exact absurd hc (by decide)
  clear hc
  refine lv_aload_n hx hb dX11_init_115 rfl (lv_at hl 1 rfl) ?_
  obtain ⟨a116, hr0, h⟩ := h
  refine jgr (f := 2) hx hb hts hown hst w.1 w.2 hx0 hiX11 (rfl : vwCl[10]? = some (RX11, TX11, 15)) (hts (.fieldLink RX11 25 "FootByGate" "walkers" "[LFootByGate$Walker;") (by decide +kernel)) ⟨by decide, by decide, rfl⟩ (rfl : jrt 10 2 = 16) dX11_init_116 hr0 (fun ha116 => ?_)
  clear hr0
  refine lv_iload_n hx hb dX11_init_119 rfl (lv_at hl 0 rfl) ?_
  refine jnewA (ci := 8) hx hb hts hown hst w hiX9 (rfl : vwCl[8]? = some (RX9, TX9, 3)) tyX9 tyX9_ok (hts (.classLink RX11 23 RX9) (by decide +kernel)) (hts (.instantiable RX9 3) (by decide +kernel)) (hts (.initialized RX9) (by decide +kernel)) (by decide) (by decide +kernel) (Nat.le_of_ble_eq_true rfl) (Nat.le_of_ble_eq_true rfl) dX11_init_120 (fun g120_32 H he w => ?_)
  have hE1 : jEx g127_31 g120_32 := by rw [he]; exact jEx_new
  replace ha116 := hE1.at ha116
  replace hx0 := hE1.at hx0
  have hq120_32 : gN g127_31 < gN g120_32 ∧ gK g120_32 (gN g127_31) = 8 := by rw [he]; exact gnew_at
  replace hE := hE.tr hE1
  replace h := h g120_32 he
  clear he hE1
  refine W.widen (k := 33) (n := 3944) (Nat.le_of_ble_eq_true rfl) (Nat.le_of_ble_eq_true rfl) ?_
  refine lv_dup hx hb dX11_init_123 rfl ?_
  refine jcNA (k := (gN g127_31)) (As := []) (rest := [.ref (b + (gN g127_31)), .int (1 : Int32), .ref (b + a116)]) (mc := 0) (ms := 0) C0 w (c_X9_init hq120_32 h) ⟨va_cnB 0 hts ggX11_init_X9_init rfl rfl rfl (hst.2.2.2.2 _ (List.mem_of_getElem? (l := jNl) (i := 7) rfl)) (hts (.initialized RX9) (by decide +kernel)) (by decide +kernel) ⟨Nat.le_of_ble_eq_true rfl, Nat.le_of_ble_eq_true rfl⟩, rfl, hts (.instanceMethod yX9_init) (by decide +kernel)⟩ rfl hl.1 rfl (Nat.le_of_ble_eq_true rfl) dX11_init_124 (fun g124_33 H locs h hE1 w => ?_) ⟨Nat.le_of_ble_eq_true rfl, Nat.le_of_ble_eq_true rfl⟩
  replace ha116 := hE1.at ha116
  replace hq120_32 := hE1.at hq120_32
  replace hx0 := hE1.at hx0
  replace hE := hE.tr hE1
  clear hE1
  refine W.widen (k := 33) (n := 3944) (Nat.le_of_ble_eq_true rfl) (Nat.le_of_ble_eq_true rfl) ?_
  obtain ⟨hn, h⟩ := h
  refine jaaA hx hb hst w ha116 hq120_32 hn dX11_init_127 (fun g127_34 H locs he w => ?_)
  clear hn
  have hE1 : jEx g124_33 g127_34 := by rw [he]; exact jEx_pr
  replace hx0 := hE1.at hx0
  replace hE := hE.tr hE1
  replace h := h g127_34 he
  clear he hE1
  refine lv_iinc (v := (2 : Int32)) (lv' := [(1, .int (2 : Int32)), (0, .ref (b + x0))]) hx hb dX11_init_128 hl (k := 0) rfl (by decide) (by decide) rfl (fun ls hl => ?_)
  refine lv_goto (tgt := 110) hx hb dX11_init_131 (by decide) ?_
  refine lv_iload_n hx hb dX11_init_110 rfl (lv_at hl 0 rfl) ?_
  refine lv_iconst (v := (5 : Int32)) hx hb dX11_init_111 (by decide) ?_
  refine lv_icmp_ge (tgt := 134) hx hb dX11_init_112 (by decide) (fun hc => ?_) (fun hc => ?_)
  · exact absurd hc (by decide)
  clear hc
  refine lv_aload_n hx hb dX11_init_115 rfl (lv_at hl 1 rfl) ?_
  obtain ⟨a116, hr0, h⟩ := h
  refine jgr (f := 2) hx hb hts hown hst w.1 w.2 hx0 hiX11 (rfl : vwCl[10]? = some (RX11, TX11, 15)) (hts (.fieldLink RX11 25 "FootByGate" "walkers" "[LFootByGate$Walker;") (by decide +kernel)) ⟨by decide, by decide, rfl⟩ (rfl : jrt 10 2 = 16) dX11_init_116 hr0 (fun ha116 => ?_)
  clear hr0
  refine lv_iload_n hx hb dX11_init_119 rfl (lv_at hl 0 rfl) ?_
  refine jnewA (ci := 8) hx hb hts hown hst w hiX9 (rfl : vwCl[8]? = some (RX9, TX9, 3)) tyX9 tyX9_ok (hts (.classLink RX11 23 RX9) (by decide +kernel)) (hts (.instantiable RX9 3) (by decide +kernel)) (hts (.initialized RX9) (by decide +kernel)) (by decide) (by decide +kernel) (Nat.le_of_ble_eq_true rfl) (Nat.le_of_ble_eq_true rfl) dX11_init_120 (fun g120_35 H he w => ?_)
  have hE1 : jEx g127_34 g120_35 := by rw [he]; exact jEx_new
  replace ha116 := hE1.at ha116
  replace hx0 := hE1.at hx0
  have hq120_35 : gN g127_34 < gN g120_35 ∧ gK g120_35 (gN g127_34) = 8 := by rw [he]; exact gnew_at
  replace hE := hE.tr hE1
  replace h := h g120_35 he
  clear he hE1
  refine W.widen (k := 34) (n := 3947) (Nat.le_of_ble_eq_true rfl) (Nat.le_of_ble_eq_true rfl) ?_
  refine lv_dup hx hb dX11_init_123 rfl ?_
  refine jcNA (k := (gN g127_34)) (As := []) (rest := [.ref (b + (gN g127_34)), .int (2 : Int32), .ref (b + a116)]) (mc := 0) (ms := 0) C0 w (c_X9_init hq120_35 h) ⟨va_cnB 0 hts ggX11_init_X9_init rfl rfl rfl (hst.2.2.2.2 _ (List.mem_of_getElem? (l := jNl) (i := 7) rfl)) (hts (.initialized RX9) (by decide +kernel)) (by decide +kernel) ⟨Nat.le_of_ble_eq_true rfl, Nat.le_of_ble_eq_true rfl⟩, rfl, hts (.instanceMethod yX9_init) (by decide +kernel)⟩ rfl hl.1 rfl (Nat.le_of_ble_eq_true rfl) dX11_init_124 (fun g124_36 H locs h hE1 w => ?_) ⟨Nat.le_of_ble_eq_true rfl, Nat.le_of_ble_eq_true rfl⟩
  replace ha116 := hE1.at ha116
  replace hq120_35 := hE1.at hq120_35
  replace hx0 := hE1.at hx0
  replace hE := hE.tr hE1
  clear hE1
  refine W.widen (k := 34) (n := 3947) (Nat.le_of_ble_eq_true rfl) (Nat.le_of_ble_eq_true rfl) ?_
  obtain ⟨hn, h⟩ := h
  refine jaaA hx hb hst w ha116 hq120_35 hn dX11_init_127 (fun g127_37 H locs he w => ?_)
  clear hn
  have hE1 : jEx g124_36 g127_37 := by rw [he]; exact jEx_pr
  replace hx0 := hE1.at hx0
  replace hE := hE.tr hE1
  replace h := h g127_37 he
  clear he hE1
  refine lv_iinc (v := (3 : Int32)) (lv' := [(1, .int (3 : Int32)), (0, .ref (b + x0))]) hx hb dX11_init_128 hl (k := 0) rfl (by decide) (by decide) rfl (fun ls hl => ?_)
  refine lv_goto (tgt := 110) hx hb dX11_init_131 (by decide) ?_
  refine lv_iload_n hx hb dX11_init_110 rfl (lv_at hl 0 rfl) ?_
  refine lv_iconst (v := (5 : Int32)) hx hb dX11_init_111 (by decide) ?_
  refine lv_icmp_ge (tgt := 134) hx hb dX11_init_112 (by decide) (fun hc => ?_) (fun hc => ?_)
  · exact absurd hc (by decide)
  clear hc
  refine lv_aload_n hx hb dX11_init_115 rfl (lv_at hl 1 rfl) ?_
  obtain ⟨a116, hr0, h⟩ := h
  refine jgr (f := 2) hx hb hts hown hst w.1 w.2 hx0 hiX11 (rfl : vwCl[10]? = some (RX11, TX11, 15)) (hts (.fieldLink RX11 25 "FootByGate" "walkers" "[LFootByGate$Walker;") (by decide +kernel)) ⟨by decide, by decide, rfl⟩ (rfl : jrt 10 2 = 16) dX11_init_116 hr0 (fun ha116 => ?_)
  clear hr0
  refine lv_iload_n hx hb dX11_init_119 rfl (lv_at hl 0 rfl) ?_
  refine jnewA (ci := 8) hx hb hts hown hst w hiX9 (rfl : vwCl[8]? = some (RX9, TX9, 3)) tyX9 tyX9_ok (hts (.classLink RX11 23 RX9) (by decide +kernel)) (hts (.instantiable RX9 3) (by decide +kernel)) (hts (.initialized RX9) (by decide +kernel)) (by decide) (by decide +kernel) (Nat.le_of_ble_eq_true rfl) (Nat.le_of_ble_eq_true rfl) dX11_init_120 (fun g120_38 H he w => ?_)
  have hE1 : jEx g127_37 g120_38 := by rw [he]; exact jEx_new
  replace ha116 := hE1.at ha116
  replace hx0 := hE1.at hx0
  have hq120_38 : gN g127_37 < gN g120_38 ∧ gK g120_38 (gN g127_37) = 8 := by rw [he]; exact gnew_at
  replace hE := hE.tr hE1
  replace h := h g120_38 he
  clear he hE1
  refine W.widen (k := 35) (n := 3950) (Nat.le_of_ble_eq_true rfl) (Nat.le_of_ble_eq_true rfl) ?_
  refine lv_dup hx hb dX11_init_123 rfl ?_
  refine jcNA (k := (gN g127_37)) (As := []) (rest := [.ref (b + (gN g127_37)), .int (3 : Int32), .ref (b + a116)]) (mc := 0) (ms := 0) C0 w (c_X9_init hq120_38 h) ⟨va_cnB 0 hts ggX11_init_X9_init rfl rfl rfl (hst.2.2.2.2 _ (List.mem_of_getElem? (l := jNl) (i := 7) rfl)) (hts (.initialized RX9) (by decide +kernel)) (by decide +kernel) ⟨Nat.le_of_ble_eq_true rfl, Nat.le_of_ble_eq_true rfl⟩, rfl, hts (.instanceMethod yX9_init) (by decide +kernel)⟩ rfl hl.1 rfl (Nat.le_of_ble_eq_true rfl) dX11_init_124 (fun g124_39 H locs h hE1 w => ?_) ⟨Nat.le_of_ble_eq_true rfl, Nat.le_of_ble_eq_true rfl⟩
  replace ha116 := hE1.at ha116
  replace hq120_38 := hE1.at hq120_38
  replace hx0 := hE1.at hx0
  replace hE := hE.tr hE1
  clear hE1
  refine W.widen (k := 35) (n := 3950) (Nat.le_of_ble_eq_true rfl) (Nat.le_of_ble_eq_true rfl) ?_
  obtain ⟨hn, h⟩ := h
  refine jaaA hx hb hst w ha116 hq120_38 hn dX11_init_127 (fun g127_40 H locs he w => ?_)
  clear hn
  have hE1 : jEx g124_39 g127_40 := by rw [he]; exact jEx_pr
  replace hx0 := hE1.at hx0
  replace hE := hE.tr hE1
  replace h := h g127_40 he
  clear he hE1
  refine lv_iinc (v := (4 : Int32)) (lv' := [(1, .int (4 : Int32)), (0, .ref (b + x0))]) hx hb dX11_init_128 hl (k := 0) rfl (by decide) (by decide) rfl (fun ls hl => ?_)
  refine lv_goto (tgt := 110) hx hb dX11_init_131 (by decide) ?_
  refine lv_iload_n hx hb dX11_init_110 rfl (lv_at hl 0 rfl) ?_
  refine lv_iconst (v := (5 : Int32)) hx hb dX11_init_111 (by decide) ?_
  refine lv_icmp_ge (tgt := 134) hx hb dX11_init_112 (by decide) (fun hc => ?_) (fun hc => ?_)
  · exact absurd hc (by decide)
  clear hc
  refine lv_aload_n hx hb dX11_init_115 rfl (lv_at hl 1 rfl) ?_
  obtain ⟨a116, hr0, h⟩ := h
  refine jgr (f := 2) hx hb hts hown hst w.1 w.2 hx0 hiX11 (rfl : vwCl[10]? = some (RX11, TX11, 15)) (hts (.fieldLink RX11 25 "FootByGate" "walkers" "[LFootByGate$Walker;") (by decide +kernel)) ⟨by decide, by decide, rfl⟩ (rfl : jrt 10 2 = 16) dX11_init_116 hr0 (fun ha116 => ?_)
  clear hr0
  refine lv_iload_n hx hb dX11_init_119 rfl (lv_at hl 0 rfl) ?_
  refine jnewA (ci := 8) hx hb hts hown hst w hiX9 (rfl : vwCl[8]? = some (RX9, TX9, 3)) tyX9 tyX9_ok (hts (.classLink RX11 23 RX9) (by decide +kernel)) (hts (.instantiable RX9 3) (by decide +kernel)) (hts (.initialized RX9) (by decide +kernel)) (by decide) (by decide +kernel) (Nat.le_of_ble_eq_true rfl) (Nat.le_of_ble_eq_true rfl) dX11_init_120 (fun g120_41 H he w => ?_)
  have hE1 : jEx g127_40 g120_41 := by rw [he]; exact jEx_new
  replace ha116 := hE1.at ha116
  replace hx0 := hE1.at hx0
  have hq120_41 : gN g127_40 < gN g120_41 ∧ gK g120_41 (gN g127_40) = 8 := by rw [he]; exact gnew_at
  replace hE := hE.tr hE1
  replace h := h g120_41 he
  clear he hE1
  refine W.widen (k := 36) (n := 3953) (Nat.le_of_ble_eq_true rfl) (Nat.le_of_ble_eq_true rfl) ?_
  refine lv_dup hx hb dX11_init_123 rfl ?_
  refine jcNA (k := (gN g127_40)) (As := []) (rest := [.ref (b + (gN g127_40)), .int (4 : Int32), .ref (b + a116)]) (mc := 0) (ms := 0) C0 w (c_X9_init hq120_41 h) ⟨va_cnB 0 hts ggX11_init_X9_init rfl rfl rfl (hst.2.2.2.2 _ (List.mem_of_getElem? (l := jNl) (i := 7) rfl)) (hts (.initialized RX9) (by decide +kernel)) (by decide +kernel) ⟨Nat.le_of_ble_eq_true rfl, Nat.le_of_ble_eq_true rfl⟩, rfl, hts (.instanceMethod yX9_init) (by decide +kernel)⟩ rfl hl.1 rfl (Nat.le_of_ble_eq_true rfl) dX11_init_124 (fun g124_42 H locs h hE1 w => ?_) ⟨Nat.le_of_ble_eq_true rfl, Nat.le_of_ble_eq_true rfl⟩
  replace ha116 := hE1.at ha116
  replace hq120_41 := hE1.at hq120_41
  replace hx0 := hE1.at hx0
  replace hE := hE.tr hE1
  clear hE1
  refine W.widen (k := 36) (n := 3953) (Nat.le_of_ble_eq_true rfl) (Nat.le_of_ble_eq_true rfl) ?_
  obtain ⟨hn, h⟩ := h
  refine jaaA hx hb hst w ha116 hq120_41 hn dX11_init_127 (fun g127_43 H locs he w => ?_)
  clear hn
  have hE1 : jEx g124_42 g127_43 := by rw [he]; exact jEx_pr
  replace hx0 := hE1.at hx0
  replace hE := hE.tr hE1
  replace h := h g127_43 he
  clear he hE1
  refine lv_iinc (v := (5 : Int32)) (lv' := [(1, .int (5 : Int32)), (0, .ref (b + x0))]) hx hb dX11_init_128 hl (k := 0) rfl (by decide) (by decide) rfl (fun ls hl => ?_)
  refine lv_goto (tgt := 110) hx hb dX11_init_131 (by decide) ?_
  refine lv_iload_n hx hb dX11_init_110 rfl (lv_at hl 0 rfl) ?_
  refine lv_iconst (v := (5 : Int32)) hx hb dX11_init_111 (by decide) ?_
  refine lv_icmp_ge (tgt := 134) hx hb dX11_init_112 (by decide) (fun hc => ?_) (fun hc => ?_)
  rotate_left
  · exact absurd hc (by decide)
  clear hc
  refine W.widen (k := 36) (n := 3953) (by first | exact Nat.le_of_ble_eq_true rfl | (show _ ≤ _; omega)) (by first | exact Nat.le_of_ble_eq_true rfl | (show _ ≤ _; omega)) ?_
  exact jretA_v hx hb hr hlk hst w hE h dX11_init_134
end S_X11_init
section S_X12_init
def J_X12_init (Q : jS → Prop) (g : jS) (x0 : Nat) : Prop := ∀ g7_1 : jS, g7_1 = gnew 13 10 g → (∀ g9_2 : jS, g9_2 = gpr g7_1 x0 1 (gN g) → (∀ g15_3 : jS, g15_3 = gnew 13 10 g9_2 → (∀ g17_4 : jS, g17_4 = gpr g15_3 x0 2 (gN g9_2) → (∀ g23_5 : jS, g23_5 = gnew 13 10 g17_4 → (∀ g25_6 : jS, g25_6 = gpr g23_5 x0 3 (gN g17_4) → (∀ g31_7 : jS, g31_7 = gnew 13 10 g25_6 → (∀ g33_8 : jS, g33_8 = gpr g31_7 x0 4 (gN g25_6) → (∀ g38_9 : jS, g38_9 = gnew 13 5 g33_8 → (∀ g40_10 : jS, g40_10 = gpr g38_9 x0 9 (gN g33_8) → (∀ g45_11 : jS, g45_11 = gnew 13 5 g40_10 → (∀ g47_12 : jS, g47_12 = gpr g45_11 x0 10 (gN g40_10) → (∀ g52_13 : jS, g52_13 = gnew 13 5 g47_12 → (∀ g54_14 : jS, g54_14 = gpr g52_13 x0 11 (gN g47_12) → (∀ g60_15 : jS, g60_15 = gnew 13 6 g54_14 → (∀ g62_16 : jS, g62_16 = gpr g60_15 x0 13 (gN g54_14) → (∀ g68_17 : jS, g68_17 = gnew 12 50 g62_16 → (∀ g70_18 : jS, g70_18 = gpr g68_17 x0 16 (gN g62_16) → (∀ g76_19 : jS, g76_19 = gnew 13 10 g70_18 → (∀ g78_20 : jS, g78_20 = gpr g76_19 x0 22 (gN g70_18) → (∀ g84_21 : jS, g84_21 = gnew 13 10 g78_20 → (∀ g86_22 : jS, g86_22 = gpr g84_21 x0 23 (gN g78_20) → (∀ g92_23 : jS, g92_23 = gnew 13 10 g86_22 → (∀ g94_24 : jS, g94_24 = gpr g92_23 x0 24 (gN g86_22) → (∀ g100_25 : jS, g100_25 = gnew 13 10 g94_24 → (∀ g102_26 : jS, g102_26 = gpr g100_25 x0 25 (gN g94_24) → (∀ g109_27 : jS, g109_27 = gnew 13 378 g102_26 → (∀ g111_28 : jS, g111_28 = gpr g109_27 x0 26 (gN g102_26) → (∀ g118_29 : jS, g118_29 = gnew 13 378 g111_28 → (∀ g120_30 : jS, g120_30 = gpr g118_29 x0 27 (gN g111_28) → (∀ g127_31 : jS, g127_31 = gnew 15 378 g120_30 → (∀ g129_32 : jS, g129_32 = gpr g127_31 x0 28 (gN g120_30) → (∀ g135_33 : jS, g135_33 = gnew 13 11 g129_32 → (∀ g137_34 : jS, g137_34 = gpr g135_33 x0 31 (gN g129_32) → (∀ g143_35 : jS, g143_35 = gnew 13 11 g137_34 → (∀ g145_36 : jS, g145_36 = gpr g143_35 x0 32 (gN g137_34) → (∀ g152_37 : jS, g152_37 = gnew 13 20412 g145_36 → (∀ g154_38 : jS, g154_38 = gpr g152_37 x0 33 (gN g145_36) → (∀ g161_39 : jS, g161_39 = gnew 13 20412 g154_38 → (∀ g163_40 : jS, g163_40 = gpr g161_39 x0 34 (gN g154_38) → (∀ g170_41 : jS, g170_41 = gnew 15 20412 g163_40 → (∀ g172_42 : jS, g172_42 = gpr g170_41 x0 35 (gN g163_40) → (∀ g179_43 : jS, g179_43 = gnew 15 2646 g172_42 → (∀ g181_44 : jS, g181_44 = gpr g179_43 x0 39 (gN g172_42) → (∀ g188_45 : jS, g188_45 = gnew 13 2646 g181_44 → (∀ g190_46 : jS, g190_46 = gpr g188_45 x0 40 (gN g181_44) → (∀ g195_47 : jS, g195_47 = gnew 13 5 g190_46 → (∀ g197_48 : jS, g197_48 = gpr g195_47 x0 46 (gN g190_46) → (∀ g202_49 : jS, g202_49 = gnew 13 5 g197_48 → (∀ g204_50 : jS, g204_50 = gpr g202_49 x0 47 (gN g197_48) → (∀ g210_51 : jS, g210_51 = gnew 13 10 g204_50 → (∀ g212_52 : jS, g212_52 = gpr g210_51 x0 48 (gN g204_50) → (∀ g218_53 : jS, g218_53 = gnew 13 6 g212_52 → (∀ g220_54 : jS, g220_54 = gpr g218_53 x0 49 (gN g212_52) → (Q g220_54))))))))))))))))))))))))))))))))))))))))))))))))))))))
abbrev rm_X12_init : Room := { frames := 1, cells := 27, slots := 67861, locals := 12 }
theorem hiX12_X12_init : ∀ w ∈ u_ws RX12 TX12 51, w ∈ wsX12_init := by decide +kernel
set_option maxHeartbeats 8000000 in
set_option maxRecDepth 100000 in
theorem c_X12_init {l : Launch} {b tU : Nat} {cy : Nat → ClassId} {D : va_G} {Q : jS → Prop} {g : jS} {x0 : Nat} (hx0 : x0 < gN g ∧ gK g x0 = 11) (h : J_X12_init Q g x0) : Met l yX12_init wsX12_init rm_X12_init (va_Pc [.ref (b + x0)] (jPA b cy D tU g)) (jQAv b cy D tU g Q) 27 (67861) (jA b) := by
  refine Met.ofW (cc := cX12_init) (maxL := 1) (ret := none) (by decide) rfl ?_
  intro p e s m args below meth c s₁ B hml hv
  obtain ⟨rfl, hv⟩ := hv
  have C0 : jCA p s m _ c cX12_init 1 wsX12_init RX12 b cy D tU := ⟨B.exec, B.bytes, hml, findClass_of_methodNamed B.named, atoms_spec (ws := wsX12_init) B.pre, hv.1.2.2⟩
  have hr := B.returns
  have hlk := B.notSynchronized
  obtain ⟨hx, hb, hml, hown, hts, hst⟩ := id C0
  have hnm : meth.name = "<init>" := (name_of_methodNamed B.named B.method).1
  have hiX12 : ∀ w ∈ u_ws RX12 TX12 51, w ∈ wsX12_init := hiX12_X12_init
  have w : jDA b cy D g s s.heap [] := ⟨jDy.start hv.1, hv.2⟩
  have hE : jEx g g := jEx.rf
  have hl := lv_entry ([.ref (b + x0)]) (n := 1) (Nat.le_of_ble_eq_true rfl)
  rw [lg_entry_eq]
  generalize (lg_sl ([.ref (b + x0)]) ++ List.replicate (1 - (lg_sl ([.ref (b + x0)])).length) Slot.unset).toArray = ls at hl ⊢
  replace hl : lv_has ls 1 [(0, .ref (b + x0))] := hl
  show W p l e rm_X12_init s m _ below meth c s.heap [] 0 0 _ (F0 m 0 ls [])
  rw [J_X12_init] at h
  refine lv_aload_n hx hb dX12_init_0 rfl (lv_at hl 0 rfl) ?_
  refine W.objInit hx hb hown (hts (.methodLink RX12 1 objectInit) (by decide +kernel)) (hts (.instanceMethod objectInit) (by decide +kernel)) (hts _ (List.mem_of_getElem? (l := wsX12_init) (i := 3) rfl)) rfl (by rw [hml]; exact hl.1) rfl dX12_init_1 (Nat.le_of_ble_eq_true rfl) (Nat.le_of_ble_eq_true rfl) ?_
  refine W.eq (g2 := F0 m 4 ls []) rfl ?_
  refine lv_aload_n hx hb dX12_init_4 rfl (lv_at hl 0 rfl) ?_
  refine lv_bipush (v := (10 : Int32)) hx hb dX12_init_5 (by decide) ?_
  refine jnaA (atype := .int) (ty := .int) (kd := 13) (N := 10) hx hb hst w (hts (.arrayClass .int) (by decide +kernel)) rfl (Or.inr (Or.inl ⟨rfl, rfl⟩)) (by decide) (by decide) (Nat.le_of_ble_eq_true rfl) (Nat.le_of_ble_eq_true rfl) (Nat.le_of_ble_eq_true rfl) dX12_init_7 (fun g7_1 H he w => ?_)
  have hE1 : jEx g g7_1 := by rw [he]; exact jEx_new
  replace hx0 := hE1.at hx0
  have hq7_1 : gN g < gN g7_1 ∧ gK g7_1 (gN g) = 13 := by rw [he]; exact gnew_at
  replace hE := hE.tr hE1
  replace h := h g7_1 he
  clear he hE1
  refine W.widen (k := 1) (n := 10) (Nat.le_of_ble_eq_true rfl) (Nat.le_of_ble_eq_true rfl) ?_
  refine jprA (f := 1) (fin := true) hx hb hts hown hst w hx0 hq7_1 (rfl : jrt 11 1 = 13) hiX12 (rfl : vwCl[11]? = some (RX12, TX12, 51)) (hts (.fieldLink RX12 7 "FootByGateModel" "placeA" "[I") (by decide +kernel)) ⟨by decide, by decide, rfl⟩ tyX12 tyX12_ok nmX12 rfl (fun _ => ⟨hnm, rfl⟩) (fun z => ⟨rfl, rfl⟩) dX12_init_9 (fun g9_2 H locs he w => ?_)
  have hE1 : jEx g7_1 g9_2 := by rw [he]; exact jEx_pr
  replace hx0 := hE1.at hx0
  replace hE := hE.tr hE1
  replace h := h g9_2 he
  clear he hE1
  refine lv_aload_n hx hb dX12_init_12 rfl (lv_at hl 0 rfl) ?_
  refine lv_bipush (v := (10 : Int32)) hx hb dX12_init_13 (by decide) ?_
  refine jnaA (atype := .int) (ty := .int) (kd := 13) (N := 10) hx hb hst w (hts (.arrayClass .int) (by decide +kernel)) rfl (Or.inr (Or.inl ⟨rfl, rfl⟩)) (by decide) (by decide) (Nat.le_of_ble_eq_true rfl) (Nat.le_of_ble_eq_true rfl) (Nat.le_of_ble_eq_true rfl) dX12_init_15 (fun g15_3 H he w => ?_)
  have hE1 : jEx g9_2 g15_3 := by rw [he]; exact jEx_new
  replace hx0 := hE1.at hx0
  have hq15_3 : gN g9_2 < gN g15_3 ∧ gK g15_3 (gN g9_2) = 13 := by rw [he]; exact gnew_at
  replace hE := hE.tr hE1
  replace h := h g15_3 he
  clear he hE1
  refine W.widen (k := 2) (n := 20) (Nat.le_of_ble_eq_true rfl) (Nat.le_of_ble_eq_true rfl) ?_
  refine jprA (f := 2) (fin := true) hx hb hts hown hst w hx0 hq15_3 (rfl : jrt 11 2 = 13) hiX12 (rfl : vwCl[11]? = some (RX12, TX12, 51)) (hts (.fieldLink RX12 13 "FootByGateModel" "placeB" "[I") (by decide +kernel)) ⟨by decide, by decide, rfl⟩ tyX12 tyX12_ok nmX12 rfl (fun _ => ⟨hnm, rfl⟩) (fun z => ⟨rfl, rfl⟩) dX12_init_17 (fun g17_4 H locs he w => ?_)
  have hE1 : jEx g15_3 g17_4 := by rw [he]; exact jEx_pr
  replace hx0 := hE1.at hx0
  replace hE := hE.tr hE1
  replace h := h g17_4 he
  clear he hE1
  refine lv_aload_n hx hb dX12_init_20 rfl (lv_at hl 0 rfl) ?_
  refine lv_bipush (v := (10 : Int32)) hx hb dX12_init_21 (by decide) ?_
  refine jnaA (atype := .int) (ty := .int) (kd := 13) (N := 10) hx hb hst w (hts (.arrayClass .int) (by decide +kernel)) rfl (Or.inr (Or.inl ⟨rfl, rfl⟩)) (by decide) (by decide) (Nat.le_of_ble_eq_true rfl) (Nat.le_of_ble_eq_true rfl) (Nat.le_of_ble_eq_true rfl) dX12_init_23 (fun g23_5 H he w => ?_)
  have hE1 : jEx g17_4 g23_5 := by rw [he]; exact jEx_new
  replace hx0 := hE1.at hx0
  have hq23_5 : gN g17_4 < gN g23_5 ∧ gK g23_5 (gN g17_4) = 13 := by rw [he]; exact gnew_at
  replace hE := hE.tr hE1
  replace h := h g23_5 he
  clear he hE1
  refine W.widen (k := 3) (n := 30) (Nat.le_of_ble_eq_true rfl) (Nat.le_of_ble_eq_true rfl) ?_
  refine jprA (f := 3) (fin := true) hx hb hts hown hst w hx0 hq23_5 (rfl : jrt 11 3 = 13) hiX12 (rfl : vwCl[11]? = some (RX12, TX12, 51)) (hts (.fieldLink RX12 16 "FootByGateModel" "pacesOf" "[I") (by decide +kernel)) ⟨by decide, by decide, rfl⟩ tyX12 tyX12_ok nmX12 rfl (fun _ => ⟨hnm, rfl⟩) (fun z => ⟨rfl, rfl⟩) dX12_init_25 (fun g25_6 H locs he w => ?_)
  have hE1 : jEx g23_5 g25_6 := by rw [he]; exact jEx_pr
  replace hx0 := hE1.at hx0
  replace hE := hE.tr hE1
  replace h := h g25_6 he
  clear he hE1
  refine lv_aload_n hx hb dX12_init_28 rfl (lv_at hl 0 rfl) ?_
  refine lv_bipush (v := (10 : Int32)) hx hb dX12_init_29 (by decide) ?_
  refine jnaA (atype := .int) (ty := .int) (kd := 13) (N := 10) hx hb hst w (hts (.arrayClass .int) (by decide +kernel)) rfl (Or.inr (Or.inl ⟨rfl, rfl⟩)) (by decide) (by decide) (Nat.le_of_ble_eq_true rfl) (Nat.le_of_ble_eq_true rfl) (Nat.le_of_ble_eq_true rfl) dX12_init_31 (fun g31_7 H he w => ?_)
  have hE1 : jEx g25_6 g31_7 := by rw [he]; exact jEx_new
  replace hx0 := hE1.at hx0
  have hq31_7 : gN g25_6 < gN g31_7 ∧ gK g31_7 (gN g25_6) = 13 := by rw [he]; exact gnew_at
  replace hE := hE.tr hE1
  replace h := h g31_7 he
  clear he hE1
  refine W.widen (k := 4) (n := 40) (Nat.le_of_ble_eq_true rfl) (Nat.le_of_ble_eq_true rfl) ?_
  refine jprA (f := 4) (fin := true) hx hb hts hown hst w hx0 hq31_7 (rfl : jrt 11 4 = 13) hiX12 (rfl : vwCl[11]? = some (RX12, TX12, 51)) (hts (.fieldLink RX12 19 "FootByGateModel" "gateOf" "[I") (by decide +kernel)) ⟨by decide, by decide, rfl⟩ tyX12 tyX12_ok nmX12 rfl (fun _ => ⟨hnm, rfl⟩) (fun z => ⟨rfl, rfl⟩) dX12_init_33 (fun g33_8 H locs he w => ?_)
  have hE1 : jEx g31_7 g33_8 := by rw [he]; exact jEx_pr
  replace hx0 := hE1.at hx0
  replace hE := hE.tr hE1
  replace h := h g33_8 he
  clear he hE1
  refine lv_aload_n hx hb dX12_init_36 rfl (lv_at hl 0 rfl) ?_
  refine lv_iconst (v := (5 : Int32)) hx hb dX12_init_37 (by decide) ?_
  refine jnaA (atype := .int) (ty := .int) (kd := 13) (N := 5) hx hb hst w (hts (.arrayClass .int) (by decide +kernel)) rfl (Or.inr (Or.inl ⟨rfl, rfl⟩)) (by decide) (by decide) (Nat.le_of_ble_eq_true rfl) (Nat.le_of_ble_eq_true rfl) (Nat.le_of_ble_eq_true rfl) dX12_init_38 (fun g38_9 H he w => ?_)
  have hE1 : jEx g33_8 g38_9 := by rw [he]; exact jEx_new
  replace hx0 := hE1.at hx0
  have hq38_9 : gN g33_8 < gN g38_9 ∧ gK g38_9 (gN g33_8) = 13 := by rw [he]; exact gnew_at
  replace hE := hE.tr hE1
  replace h := h g38_9 he
  clear he hE1
  refine W.widen (k := 5) (n := 45) (Nat.le_of_ble_eq_true rfl) (Nat.le_of_ble_eq_true rfl) ?_
  refine jprA (f := 9) (fin := true) hx hb hts hown hst w hx0 hq38_9 (rfl : jrt 11 9 = 13) hiX12 (rfl : vwCl[11]? = some (RX12, TX12, 51)) (hts (.fieldLink RX12 22 "FootByGateModel" "kindOf" "[I") (by decide +kernel)) ⟨by decide, by decide, rfl⟩ tyX12 tyX12_ok nmX12 rfl (fun _ => ⟨hnm, rfl⟩) (fun z => ⟨rfl, rfl⟩) dX12_init_40 (fun g40_10 H locs he w => ?_)
  have hE1 : jEx g38_9 g40_10 := by rw [he]; exact jEx_pr
  replace hx0 := hE1.at hx0
  replace hE := hE.tr hE1
  replace h := h g40_10 he
  clear he hE1
  refine lv_aload_n hx hb dX12_init_43 rfl (lv_at hl 0 rfl) ?_
  refine lv_iconst (v := (5 : Int32)) hx hb dX12_init_44 (by decide) ?_
  refine jnaA (atype := .int) (ty := .int) (kd := 13) (N := 5) hx hb hst w (hts (.arrayClass .int) (by decide +kernel)) rfl (Or.inr (Or.inl ⟨rfl, rfl⟩)) (by decide) (by decide) (Nat.le_of_ble_eq_true rfl) (Nat.le_of_ble_eq_true rfl) (Nat.le_of_ble_eq_true rfl) dX12_init_45 (fun g45_11 H he w => ?_)
  have hE1 : jEx g40_10 g45_11 := by rw [he]; exact jEx_new
  replace hx0 := hE1.at hx0
  have hq45_11 : gN g40_10 < gN g45_11 ∧ gK g45_11 (gN g40_10) = 13 := by rw [he]; exact gnew_at
  replace hE := hE.tr hE1
  replace h := h g45_11 he
  clear he hE1
  refine W.widen (k := 6) (n := 50) (Nat.le_of_ble_eq_true rfl) (Nat.le_of_ble_eq_true rfl) ?_
  refine jprA (f := 10) (fin := true) hx hb hts hown hst w hx0 hq45_11 (rfl : jrt 11 10 = 13) hiX12 (rfl : vwCl[11]? = some (RX12, TX12, 51)) (hts (.fieldLink RX12 25 "FootByGateModel" "standsOf" "[I") (by decide +kernel)) ⟨by decide, by decide, rfl⟩ tyX12 tyX12_ok nmX12 rfl (fun _ => ⟨hnm, rfl⟩) (fun z => ⟨rfl, rfl⟩) dX12_init_47 (fun g47_12 H locs he w => ?_)
  have hE1 : jEx g45_11 g47_12 := by rw [he]; exact jEx_pr
  replace hx0 := hE1.at hx0
  replace hE := hE.tr hE1
  replace h := h g47_12 he
  clear he hE1
  refine lv_aload_n hx hb dX12_init_50 rfl (lv_at hl 0 rfl) ?_
  refine lv_iconst (v := (5 : Int32)) hx hb dX12_init_51 (by decide) ?_
  refine jnaA (atype := .int) (ty := .int) (kd := 13) (N := 5) hx hb hst w (hts (.arrayClass .int) (by decide +kernel)) rfl (Or.inr (Or.inl ⟨rfl, rfl⟩)) (by decide) (by decide) (Nat.le_of_ble_eq_true rfl) (Nat.le_of_ble_eq_true rfl) (Nat.le_of_ble_eq_true rfl) dX12_init_52 (fun g52_13 H he w => ?_)
  have hE1 : jEx g47_12 g52_13 := by rw [he]; exact jEx_new
  replace hx0 := hE1.at hx0
  have hq52_13 : gN g47_12 < gN g52_13 ∧ gK g52_13 (gN g47_12) = 13 := by rw [he]; exact gnew_at
  replace hE := hE.tr hE1
  replace h := h g52_13 he
  clear he hE1
  refine W.widen (k := 7) (n := 55) (Nat.le_of_ble_eq_true rfl) (Nat.le_of_ble_eq_true rfl) ?_
  refine jprA (f := 11) (fin := true) hx hb hts hown hst w hx0 hq52_13 (rfl : jrt 11 11 = 13) hiX12 (rfl : vwCl[11]? = some (RX12, TX12, 51)) (hts (.fieldLink RX12 28 "FootByGateModel" "skippedOf" "[I") (by decide +kernel)) ⟨by decide, by decide, rfl⟩ tyX12 tyX12_ok nmX12 rfl (fun _ => ⟨hnm, rfl⟩) (fun z => ⟨rfl, rfl⟩) dX12_init_54 (fun g54_14 H locs he w => ?_)
  have hE1 : jEx g52_13 g54_14 := by rw [he]; exact jEx_pr
  replace hx0 := hE1.at hx0
  replace hE := hE.tr hE1
  replace h := h g54_14 he
  clear he hE1
  refine lv_aload_n hx hb dX12_init_57 rfl (lv_at hl 0 rfl) ?_
  refine lv_bipush (v := (6 : Int32)) hx hb dX12_init_58 (by decide) ?_
  refine jnaA (atype := .int) (ty := .int) (kd := 13) (N := 6) hx hb hst w (hts (.arrayClass .int) (by decide +kernel)) rfl (Or.inr (Or.inl ⟨rfl, rfl⟩)) (by decide) (by decide) (Nat.le_of_ble_eq_true rfl) (Nat.le_of_ble_eq_true rfl) (Nat.le_of_ble_eq_true rfl) dX12_init_60 (fun g60_15 H he w => ?_)
  have hE1 : jEx g54_14 g60_15 := by rw [he]; exact jEx_new
  replace hx0 := hE1.at hx0
  have hq60_15 : gN g54_14 < gN g60_15 ∧ gK g60_15 (gN g54_14) = 13 := by rw [he]; exact gnew_at
  replace hE := hE.tr hE1
  replace h := h g60_15 he
  clear he hE1
  refine W.widen (k := 8) (n := 61) (Nat.le_of_ble_eq_true rfl) (Nat.le_of_ble_eq_true rfl) ?_
  refine jprA (f := 13) (fin := true) hx hb hts hown hst w hx0 hq60_15 (rfl : jrt 11 13 = 13) hiX12 (rfl : vwCl[11]? = some (RX12, TX12, 51)) (hts (.fieldLink RX12 31 "FootByGateModel" "printOf" "[I") (by decide +kernel)) ⟨by decide, by decide, rfl⟩ tyX12 tyX12_ok nmX12 rfl (fun _ => ⟨hnm, rfl⟩) (fun z => ⟨rfl, rfl⟩) dX12_init_62 (fun g62_16 H locs he w => ?_)
  have hE1 : jEx g60_15 g62_16 := by rw [he]; exact jEx_pr
  replace hx0 := hE1.at hx0
  replace hE := hE.tr hE1
  replace h := h g62_16 he
  clear he hE1
  refine lv_aload_n hx hb dX12_init_65 rfl (lv_at hl 0 rfl) ?_
  refine lv_bipush (v := (50 : Int32)) hx hb dX12_init_66 (by decide) ?_
  refine jnaA (atype := .byte) (ty := .byte) (kd := 12) (N := 50) hx hb hst w (hts (.arrayClass .byte) (by decide +kernel)) rfl (Or.inl ⟨rfl, rfl⟩) (by decide) (by decide) (Nat.le_of_ble_eq_true rfl) (Nat.le_of_ble_eq_true rfl) (Nat.le_of_ble_eq_true rfl) dX12_init_68 (fun g68_17 H he w => ?_)
  have hE1 : jEx g62_16 g68_17 := by rw [he]; exact jEx_new
  replace hx0 := hE1.at hx0
  have hq68_17 : gN g62_16 < gN g68_17 ∧ gK g68_17 (gN g62_16) = 12 := by rw [he]; exact gnew_at
  replace hE := hE.tr hE1
  replace h := h g68_17 he
  clear he hE1
  refine W.widen (k := 9) (n := 111) (Nat.le_of_ble_eq_true rfl) (Nat.le_of_ble_eq_true rfl) ?_
  refine jprA (f := 16) (fin := true) hx hb hts hown hst w hx0 hq68_17 (rfl : jrt 11 16 = 12) hiX12 (rfl : vwCl[11]? = some (RX12, TX12, 51)) (hts (.fieldLink RX12 34 "FootByGateModel" "page" "[B") (by decide +kernel)) ⟨by decide, by decide, rfl⟩ tyX12 tyX12_ok nmX12 rfl (fun _ => ⟨hnm, rfl⟩) (fun z => ⟨rfl, rfl⟩) dX12_init_70 (fun g70_18 H locs he w => ?_)
  have hE1 : jEx g68_17 g70_18 := by rw [he]; exact jEx_pr
  replace hx0 := hE1.at hx0
  replace hE := hE.tr hE1
  replace h := h g70_18 he
  clear he hE1
  refine lv_aload_n hx hb dX12_init_73 rfl (lv_at hl 0 rfl) ?_
  refine lv_bipush (v := (10 : Int32)) hx hb dX12_init_74 (by decide) ?_
  refine jnaA (atype := .int) (ty := .int) (kd := 13) (N := 10) hx hb hst w (hts (.arrayClass .int) (by decide +kernel)) rfl (Or.inr (Or.inl ⟨rfl, rfl⟩)) (by decide) (by decide) (Nat.le_of_ble_eq_true rfl) (Nat.le_of_ble_eq_true rfl) (Nat.le_of_ble_eq_true rfl) dX12_init_76 (fun g76_19 H he w => ?_)
  have hE1 : jEx g70_18 g76_19 := by rw [he]; exact jEx_new
  replace hx0 := hE1.at hx0
  have hq76_19 : gN g70_18 < gN g76_19 ∧ gK g76_19 (gN g70_18) = 13 := by rw [he]; exact gnew_at
  replace hE := hE.tr hE1
  replace h := h g76_19 he
  clear he hE1
  refine W.widen (k := 10) (n := 121) (Nat.le_of_ble_eq_true rfl) (Nat.le_of_ble_eq_true rfl) ?_
  refine jprA (f := 22) (fin := true) hx hb hts hown hst w hx0 hq76_19 (rfl : jrt 11 22 = 13) hiX12 (rfl : vwCl[11]? = some (RX12, TX12, 51)) (hts (.fieldLink RX12 38 "FootByGateModel" "newA" "[I") (by decide +kernel)) ⟨by decide, by decide, rfl⟩ tyX12 tyX12_ok nmX12 rfl (fun _ => ⟨hnm, rfl⟩) (fun z => ⟨rfl, rfl⟩) dX12_init_78 (fun g78_20 H locs he w => ?_)
  have hE1 : jEx g76_19 g78_20 := by rw [he]; exact jEx_pr
  replace hx0 := hE1.at hx0
  replace hE := hE.tr hE1
  replace h := h g78_20 he
  clear he hE1
  refine lv_aload_n hx hb dX12_init_81 rfl (lv_at hl 0 rfl) ?_
  refine lv_bipush (v := (10 : Int32)) hx hb dX12_init_82 (by decide) ?_
  refine jnaA (atype := .int) (ty := .int) (kd := 13) (N := 10) hx hb hst w (hts (.arrayClass .int) (by decide +kernel)) rfl (Or.inr (Or.inl ⟨rfl, rfl⟩)) (by decide) (by decide) (Nat.le_of_ble_eq_true rfl) (Nat.le_of_ble_eq_true rfl) (Nat.le_of_ble_eq_true rfl) dX12_init_84 (fun g84_21 H he w => ?_)
  have hE1 : jEx g78_20 g84_21 := by rw [he]; exact jEx_new
  replace hx0 := hE1.at hx0
  have hq84_21 : gN g78_20 < gN g84_21 ∧ gK g84_21 (gN g78_20) = 13 := by rw [he]; exact gnew_at
  replace hE := hE.tr hE1
  replace h := h g84_21 he
  clear he hE1
  refine W.widen (k := 11) (n := 131) (Nat.le_of_ble_eq_true rfl) (Nat.le_of_ble_eq_true rfl) ?_
  refine jprA (f := 23) (fin := true) hx hb hts hown hst w hx0 hq84_21 (rfl : jrt 11 23 = 13) hiX12 (rfl : vwCl[11]? = some (RX12, TX12, 51)) (hts (.fieldLink RX12 41 "FootByGateModel" "newB" "[I") (by decide +kernel)) ⟨by decide, by decide, rfl⟩ tyX12 tyX12_ok nmX12 rfl (fun _ => ⟨hnm, rfl⟩) (fun z => ⟨rfl, rfl⟩) dX12_init_86 (fun g86_22 H locs he w => ?_)
  have hE1 : jEx g84_21 g86_22 := by rw [he]; exact jEx_pr
  replace hx0 := hE1.at hx0
  replace hE := hE.tr hE1
  replace h := h g86_22 he
  clear he hE1
  refine lv_aload_n hx hb dX12_init_89 rfl (lv_at hl 0 rfl) ?_
  refine lv_bipush (v := (10 : Int32)) hx hb dX12_init_90 (by decide) ?_
  refine jnaA (atype := .int) (ty := .int) (kd := 13) (N := 10) hx hb hst w (hts (.arrayClass .int) (by decide +kernel)) rfl (Or.inr (Or.inl ⟨rfl, rfl⟩)) (by decide) (by decide) (Nat.le_of_ble_eq_true rfl) (Nat.le_of_ble_eq_true rfl) (Nat.le_of_ble_eq_true rfl) dX12_init_92 (fun g92_23 H he w => ?_)
  have hE1 : jEx g86_22 g92_23 := by rw [he]; exact jEx_new
  replace hx0 := hE1.at hx0
  have hq92_23 : gN g86_22 < gN g92_23 ∧ gK g92_23 (gN g86_22) = 13 := by rw [he]; exact gnew_at
  replace hE := hE.tr hE1
  replace h := h g92_23 he
  clear he hE1
  refine W.widen (k := 12) (n := 141) (Nat.le_of_ble_eq_true rfl) (Nat.le_of_ble_eq_true rfl) ?_
  refine jprA (f := 24) (fin := true) hx hb hts hown hst w hx0 hq92_23 (rfl : jrt 11 24 = 13) hiX12 (rfl : vwCl[11]? = some (RX12, TX12, 51)) (hts (.fieldLink RX12 44 "FootByGateModel" "newPaces" "[I") (by decide +kernel)) ⟨by decide, by decide, rfl⟩ tyX12 tyX12_ok nmX12 rfl (fun _ => ⟨hnm, rfl⟩) (fun z => ⟨rfl, rfl⟩) dX12_init_94 (fun g94_24 H locs he w => ?_)
  have hE1 : jEx g92_23 g94_24 := by rw [he]; exact jEx_pr
  replace hx0 := hE1.at hx0
  replace hE := hE.tr hE1
  replace h := h g94_24 he
  clear he hE1
  refine lv_aload_n hx hb dX12_init_97 rfl (lv_at hl 0 rfl) ?_
  refine lv_bipush (v := (10 : Int32)) hx hb dX12_init_98 (by decide) ?_
  refine jnaA (atype := .int) (ty := .int) (kd := 13) (N := 10) hx hb hst w (hts (.arrayClass .int) (by decide +kernel)) rfl (Or.inr (Or.inl ⟨rfl, rfl⟩)) (by decide) (by decide) (Nat.le_of_ble_eq_true rfl) (Nat.le_of_ble_eq_true rfl) (Nat.le_of_ble_eq_true rfl) dX12_init_100 (fun g100_25 H he w => ?_)
  have hE1 : jEx g94_24 g100_25 := by rw [he]; exact jEx_new
  replace hx0 := hE1.at hx0
  have hq100_25 : gN g94_24 < gN g100_25 ∧ gK g100_25 (gN g94_24) = 13 := by rw [he]; exact gnew_at
  replace hE := hE.tr hE1
  replace h := h g100_25 he
  clear he hE1
  refine W.widen (k := 13) (n := 151) (Nat.le_of_ble_eq_true rfl) (Nat.le_of_ble_eq_true rfl) ?_
  refine jprA (f := 25) (fin := true) hx hb hts hown hst w hx0 hq100_25 (rfl : jrt 11 25 = 13) hiX12 (rfl : vwCl[11]? = some (RX12, TX12, 51)) (hts (.fieldLink RX12 47 "FootByGateModel" "newGate" "[I") (by decide +kernel)) ⟨by decide, by decide, rfl⟩ tyX12 tyX12_ok nmX12 rfl (fun _ => ⟨hnm, rfl⟩) (fun z => ⟨rfl, rfl⟩) dX12_init_102 (fun g102_26 H locs he w => ?_)
  have hE1 : jEx g100_25 g102_26 := by rw [he]; exact jEx_pr
  replace hx0 := hE1.at hx0
  replace hE := hE.tr hE1
  replace h := h g102_26 he
  clear he hE1
  refine lv_aload_n hx hb dX12_init_105 rfl (lv_at hl 0 rfl) ?_
  refine lv_sipush (v := (378 : Int32)) hx hb dX12_init_106 (by decide) ?_
  refine jnaA (atype := .int) (ty := .int) (kd := 13) (N := 378) hx hb hst w (hts (.arrayClass .int) (by decide +kernel)) rfl (Or.inr (Or.inl ⟨rfl, rfl⟩)) (by decide) (by decide) (Nat.le_of_ble_eq_true rfl) (Nat.le_of_ble_eq_true rfl) (Nat.le_of_ble_eq_true rfl) dX12_init_109 (fun g109_27 H he w => ?_)
  have hE1 : jEx g102_26 g109_27 := by rw [he]; exact jEx_new
  replace hx0 := hE1.at hx0
  have hq109_27 : gN g102_26 < gN g109_27 ∧ gK g109_27 (gN g102_26) = 13 := by rw [he]; exact gnew_at
  replace hE := hE.tr hE1
  replace h := h g109_27 he
  clear he hE1
  refine W.widen (k := 14) (n := 529) (Nat.le_of_ble_eq_true rfl) (Nat.le_of_ble_eq_true rfl) ?_
  refine jprA (f := 26) (fin := true) hx hb hts hown hst w hx0 hq109_27 (rfl : jrt 11 26 = 13) hiX12 (rfl : vwCl[11]? = some (RX12, TX12, 51)) (hts (.fieldLink RX12 50 "FootByGateModel" "cost" "[I") (by decide +kernel)) ⟨by decide, by decide, rfl⟩ tyX12 tyX12_ok nmX12 rfl (fun _ => ⟨hnm, rfl⟩) (fun z => ⟨rfl, rfl⟩) dX12_init_111 (fun g111_28 H locs he w => ?_)
  have hE1 : jEx g109_27 g111_28 := by rw [he]; exact jEx_pr
  replace hx0 := hE1.at hx0
  replace hE := hE.tr hE1
  replace h := h g111_28 he
  clear he hE1
  refine lv_aload_n hx hb dX12_init_114 rfl (lv_at hl 0 rfl) ?_
  refine lv_sipush (v := (378 : Int32)) hx hb dX12_init_115 (by decide) ?_
  refine jnaA (atype := .int) (ty := .int) (kd := 13) (N := 378) hx hb hst w (hts (.arrayClass .int) (by decide +kernel)) rfl (Or.inr (Or.inl ⟨rfl, rfl⟩)) (by decide) (by decide) (Nat.le_of_ble_eq_true rfl) (Nat.le_of_ble_eq_true rfl) (Nat.le_of_ble_eq_true rfl) dX12_init_118 (fun g118_29 H he w => ?_)
  have hE1 : jEx g111_28 g118_29 := by rw [he]; exact jEx_new
  replace hx0 := hE1.at hx0
  have hq118_29 : gN g111_28 < gN g118_29 ∧ gK g118_29 (gN g111_28) = 13 := by rw [he]; exact gnew_at
  replace hE := hE.tr hE1
  replace h := h g118_29 he
  clear he hE1
  refine W.widen (k := 15) (n := 907) (Nat.le_of_ble_eq_true rfl) (Nat.le_of_ble_eq_true rfl) ?_
  refine jprA (f := 27) (fin := true) hx hb hts hown hst w hx0 hq118_29 (rfl : jrt 11 27 = 13) hiX12 (rfl : vwCl[11]? = some (RX12, TX12, 51)) (hts (.fieldLink RX12 53 "FootByGateModel" "queue" "[I") (by decide +kernel)) ⟨by decide, by decide, rfl⟩ tyX12 tyX12_ok nmX12 rfl (fun _ => ⟨hnm, rfl⟩) (fun z => ⟨rfl, rfl⟩) dX12_init_120 (fun g120_30 H locs he w => ?_)
  have hE1 : jEx g118_29 g120_30 := by rw [he]; exact jEx_pr
  replace hx0 := hE1.at hx0
  replace hE := hE.tr hE1
  replace h := h g120_30 he
  clear he hE1
  refine lv_aload_n hx hb dX12_init_123 rfl (lv_at hl 0 rfl) ?_
  refine lv_sipush (v := (378 : Int32)) hx hb dX12_init_124 (by decide) ?_
  refine jnaA (atype := .boolean) (ty := .boolean) (kd := 15) (N := 378) hx hb hst w (hts (.arrayClass .boolean) (by decide +kernel)) rfl (Or.inr (Or.inr (Or.inr ⟨rfl, rfl⟩))) (by decide) (by decide) (Nat.le_of_ble_eq_true rfl) (Nat.le_of_ble_eq_true rfl) (Nat.le_of_ble_eq_true rfl) dX12_init_127 (fun g127_31 H he w => ?_)
  have hE1 : jEx g120_30 g127_31 := by rw [he]; exact jEx_new
  replace hx0 := hE1.at hx0
  have hq127_31 : gN g120_30 < gN g127_31 ∧ gK g127_31 (gN g120_30) = 15 := by rw [he]; exact gnew_at
  replace hE := hE.tr hE1
  replace h := h g127_31 he
  clear he hE1
  refine W.widen (k := 16) (n := 1285) (Nat.le_of_ble_eq_true rfl) (Nat.le_of_ble_eq_true rfl) ?_
  refine jprA (f := 28) (fin := true) hx hb hts hown hst w hx0 hq127_31 (rfl : jrt 11 28 = 15) hiX12 (rfl : vwCl[11]? = some (RX12, TX12, 51)) (hts (.fieldLink RX12 56 "FootByGateModel" "waits" "[Z") (by decide +kernel)) ⟨by decide, by decide, rfl⟩ tyX12 tyX12_ok nmX12 rfl (fun _ => ⟨hnm, rfl⟩) (fun z => ⟨rfl, rfl⟩) dX12_init_129 (fun g129_32 H locs he w => ?_)
  have hE1 : jEx g127_31 g129_32 := by rw [he]; exact jEx_pr
  replace hx0 := hE1.at hx0
  replace hE := hE.tr hE1
  replace h := h g129_32 he
  clear he hE1
  refine lv_aload_n hx hb dX12_init_132 rfl (lv_at hl 0 rfl) ?_
  refine lv_bipush (v := (11 : Int32)) hx hb dX12_init_133 (by decide) ?_
  refine jnaA (atype := .int) (ty := .int) (kd := 13) (N := 11) hx hb hst w (hts (.arrayClass .int) (by decide +kernel)) rfl (Or.inr (Or.inl ⟨rfl, rfl⟩)) (by decide) (by decide) (Nat.le_of_ble_eq_true rfl) (Nat.le_of_ble_eq_true rfl) (Nat.le_of_ble_eq_true rfl) dX12_init_135 (fun g135_33 H he w => ?_)
  have hE1 : jEx g129_32 g135_33 := by rw [he]; exact jEx_new
  replace hx0 := hE1.at hx0
  have hq135_33 : gN g129_32 < gN g135_33 ∧ gK g135_33 (gN g129_32) = 13 := by rw [he]; exact gnew_at
  replace hE := hE.tr hE1
  replace h := h g135_33 he
  clear he hE1
  refine W.widen (k := 17) (n := 1296) (Nat.le_of_ble_eq_true rfl) (Nat.le_of_ble_eq_true rfl) ?_
  refine jprA (f := 31) (fin := true) hx hb hts hown hst w hx0 hq135_33 (rfl : jrt 11 31 = 13) hiX12 (rfl : vwCl[11]? = some (RX12, TX12, 51)) (hts (.fieldLink RX12 60 "FootByGateModel" "roundStands" "[I") (by decide +kernel)) ⟨by decide, by decide, rfl⟩ tyX12 tyX12_ok nmX12 rfl (fun _ => ⟨hnm, rfl⟩) (fun z => ⟨rfl, rfl⟩) dX12_init_137 (fun g137_34 H locs he w => ?_)
  have hE1 : jEx g135_33 g137_34 := by rw [he]; exact jEx_pr
  replace hx0 := hE1.at hx0
  replace hE := hE.tr hE1
  replace h := h g137_34 he
  clear he hE1
  refine lv_aload_n hx hb dX12_init_140 rfl (lv_at hl 0 rfl) ?_
  refine lv_bipush (v := (11 : Int32)) hx hb dX12_init_141 (by decide) ?_
  refine jnaA (atype := .int) (ty := .int) (kd := 13) (N := 11) hx hb hst w (hts (.arrayClass .int) (by decide +kernel)) rfl (Or.inr (Or.inl ⟨rfl, rfl⟩)) (by decide) (by decide) (Nat.le_of_ble_eq_true rfl) (Nat.le_of_ble_eq_true rfl) (Nat.le_of_ble_eq_true rfl) dX12_init_143 (fun g143_35 H he w => ?_)
  have hE1 : jEx g137_34 g143_35 := by rw [he]; exact jEx_new
  replace hx0 := hE1.at hx0
  have hq143_35 : gN g137_34 < gN g143_35 ∧ gK g143_35 (gN g137_34) = 13 := by rw [he]; exact gnew_at
  replace hE := hE.tr hE1
  replace h := h g143_35 he
  clear he hE1
  refine W.widen (k := 18) (n := 1307) (Nat.le_of_ble_eq_true rfl) (Nat.le_of_ble_eq_true rfl) ?_
  refine jprA (f := 32) (fin := true) hx hb hts hown hst w hx0 hq143_35 (rfl : jrt 11 32 = 13) hiX12 (rfl : vwCl[11]? = some (RX12, TX12, 51)) (hts (.fieldLink RX12 63 "FootByGateModel" "roundTry" "[I") (by decide +kernel)) ⟨by decide, by decide, rfl⟩ tyX12 tyX12_ok nmX12 rfl (fun _ => ⟨hnm, rfl⟩) (fun z => ⟨rfl, rfl⟩) dX12_init_145 (fun g145_36 H locs he w => ?_)
  have hE1 : jEx g143_35 g145_36 := by rw [he]; exact jEx_pr
  replace hx0 := hE1.at hx0
  replace hE := hE.tr hE1
  replace h := h g145_36 he
  clear he hE1
  refine lv_aload_n hx hb dX12_init_148 rfl (lv_at hl 0 rfl) ?_
  refine lv_sipush (v := (20412 : Int32)) hx hb dX12_init_149 (by decide) ?_
  refine jnaA (atype := .int) (ty := .int) (kd := 13) (N := 20412) hx hb hst w (hts (.arrayClass .int) (by decide +kernel)) rfl (Or.inr (Or.inl ⟨rfl, rfl⟩)) (by decide) (by decide) (Nat.le_of_ble_eq_true rfl) (Nat.le_of_ble_eq_true rfl) (Nat.le_of_ble_eq_true rfl) dX12_init_152 (fun g152_37 H he w => ?_)
  have hE1 : jEx g145_36 g152_37 := by rw [he]; exact jEx_new
  replace hx0 := hE1.at hx0
  have hq152_37 : gN g145_36 < gN g152_37 ∧ gK g152_37 (gN g145_36) = 13 := by rw [he]; exact gnew_at
  replace hE := hE.tr hE1
  replace h := h g152_37 he
  clear he hE1
  refine W.widen (k := 19) (n := 21719) (Nat.le_of_ble_eq_true rfl) (Nat.le_of_ble_eq_true rfl) ?_
  refine jprA (f := 33) (fin := true) hx hb hts hown hst w hx0 hq152_37 (rfl : jrt 11 33 = 13) hiX12 (rfl : vwCl[11]? = some (RX12, TX12, 51)) (hts (.fieldLink RX12 66 "FootByGateModel" "bothCost" "[I") (by decide +kernel)) ⟨by decide, by decide, rfl⟩ tyX12 tyX12_ok nmX12 rfl (fun _ => ⟨hnm, rfl⟩) (fun z => ⟨rfl, rfl⟩) dX12_init_154 (fun g154_38 H locs he w => ?_)
  have hE1 : jEx g152_37 g154_38 := by rw [he]; exact jEx_pr
  replace hx0 := hE1.at hx0
  replace hE := hE.tr hE1
  replace h := h g154_38 he
  clear he hE1
  refine lv_aload_n hx hb dX12_init_157 rfl (lv_at hl 0 rfl) ?_
  refine lv_sipush (v := (20412 : Int32)) hx hb dX12_init_158 (by decide) ?_
  refine jnaA (atype := .int) (ty := .int) (kd := 13) (N := 20412) hx hb hst w (hts (.arrayClass .int) (by decide +kernel)) rfl (Or.inr (Or.inl ⟨rfl, rfl⟩)) (by decide) (by decide) (Nat.le_of_ble_eq_true rfl) (Nat.le_of_ble_eq_true rfl) (Nat.le_of_ble_eq_true rfl) dX12_init_161 (fun g161_39 H he w => ?_)
  have hE1 : jEx g154_38 g161_39 := by rw [he]; exact jEx_new
  replace hx0 := hE1.at hx0
  have hq161_39 : gN g154_38 < gN g161_39 ∧ gK g161_39 (gN g154_38) = 13 := by rw [he]; exact gnew_at
  replace hE := hE.tr hE1
  replace h := h g161_39 he
  clear he hE1
  refine W.widen (k := 20) (n := 42131) (Nat.le_of_ble_eq_true rfl) (Nat.le_of_ble_eq_true rfl) ?_
  refine jprA (f := 34) (fin := true) hx hb hts hown hst w hx0 hq161_39 (rfl : jrt 11 34 = 13) hiX12 (rfl : vwCl[11]? = some (RX12, TX12, 51)) (hts (.fieldLink RX12 69 "FootByGateModel" "bothQueue" "[I") (by decide +kernel)) ⟨by decide, by decide, rfl⟩ tyX12 tyX12_ok nmX12 rfl (fun _ => ⟨hnm, rfl⟩) (fun z => ⟨rfl, rfl⟩) dX12_init_163 (fun g163_40 H locs he w => ?_)
  have hE1 : jEx g161_39 g163_40 := by rw [he]; exact jEx_pr
  replace hx0 := hE1.at hx0
  replace hE := hE.tr hE1
  replace h := h g163_40 he
  clear he hE1
  refine lv_aload_n hx hb dX12_init_166 rfl (lv_at hl 0 rfl) ?_
  refine lv_sipush (v := (20412 : Int32)) hx hb dX12_init_167 (by decide) ?_
  refine jnaA (atype := .boolean) (ty := .boolean) (kd := 15) (N := 20412) hx hb hst w (hts (.arrayClass .boolean) (by decide +kernel)) rfl (Or.inr (Or.inr (Or.inr ⟨rfl, rfl⟩))) (by decide) (by decide) (Nat.le_of_ble_eq_true rfl) (Nat.le_of_ble_eq_true rfl) (Nat.le_of_ble_eq_true rfl) dX12_init_170 (fun g170_41 H he w => ?_)
  have hE1 : jEx g163_40 g170_41 := by rw [he]; exact jEx_new
  replace hx0 := hE1.at hx0
  have hq170_41 : gN g163_40 < gN g170_41 ∧ gK g170_41 (gN g163_40) = 15 := by rw [he]; exact gnew_at
  replace hE := hE.tr hE1
  replace h := h g170_41 he
  clear he hE1
  refine W.widen (k := 21) (n := 62543) (Nat.le_of_ble_eq_true rfl) (Nat.le_of_ble_eq_true rfl) ?_
  refine jprA (f := 35) (fin := true) hx hb hts hown hst w hx0 hq170_41 (rfl : jrt 11 35 = 15) hiX12 (rfl : vwCl[11]? = some (RX12, TX12, 51)) (hts (.fieldLink RX12 72 "FootByGateModel" "bothWaits" "[Z") (by decide +kernel)) ⟨by decide, by decide, rfl⟩ tyX12 tyX12_ok nmX12 rfl (fun _ => ⟨hnm, rfl⟩) (fun z => ⟨rfl, rfl⟩) dX12_init_172 (fun g172_42 H locs he w => ?_)
  have hE1 : jEx g170_41 g172_42 := by rw [he]; exact jEx_pr
  replace hx0 := hE1.at hx0
  replace hE := hE.tr hE1
  replace h := h g172_42 he
  clear he hE1
  refine lv_aload_n hx hb dX12_init_175 rfl (lv_at hl 0 rfl) ?_
  refine lv_sipush (v := (2646 : Int32)) hx hb dX12_init_176 (by decide) ?_
  refine jnaA (atype := .boolean) (ty := .boolean) (kd := 15) (N := 2646) hx hb hst w (hts (.arrayClass .boolean) (by decide +kernel)) rfl (Or.inr (Or.inr (Or.inr ⟨rfl, rfl⟩))) (by decide) (by decide) (Nat.le_of_ble_eq_true rfl) (Nat.le_of_ble_eq_true rfl) (Nat.le_of_ble_eq_true rfl) dX12_init_179 (fun g179_43 H he w => ?_)
  have hE1 : jEx g172_42 g179_43 := by rw [he]; exact jEx_new
  replace hx0 := hE1.at hx0
  have hq179_43 : gN g172_42 < gN g179_43 ∧ gK g179_43 (gN g172_42) = 15 := by rw [he]; exact gnew_at
  replace hE := hE.tr hE1
  replace h := h g179_43 he
  clear he hE1
  refine W.widen (k := 22) (n := 65189) (Nat.le_of_ble_eq_true rfl) (Nat.le_of_ble_eq_true rfl) ?_
  refine jprA (f := 39) (fin := true) hx hb hts hown hst w hx0 hq179_43 (rfl : jrt 11 39 = 15) hiX12 (rfl : vwCl[11]? = some (RX12, TX12, 51)) (hts (.fieldLink RX12 75 "FootByGateModel" "canBe" "[Z") (by decide +kernel)) ⟨by decide, by decide, rfl⟩ tyX12 tyX12_ok nmX12 rfl (fun _ => ⟨hnm, rfl⟩) (fun z => ⟨rfl, rfl⟩) dX12_init_181 (fun g181_44 H locs he w => ?_)
  have hE1 : jEx g179_43 g181_44 := by rw [he]; exact jEx_pr
  replace hx0 := hE1.at hx0
  replace hE := hE.tr hE1
  replace h := h g181_44 he
  clear he hE1
  refine lv_aload_n hx hb dX12_init_184 rfl (lv_at hl 0 rfl) ?_
  refine lv_sipush (v := (2646 : Int32)) hx hb dX12_init_185 (by decide) ?_
  refine jnaA (atype := .int) (ty := .int) (kd := 13) (N := 2646) hx hb hst w (hts (.arrayClass .int) (by decide +kernel)) rfl (Or.inr (Or.inl ⟨rfl, rfl⟩)) (by decide) (by decide) (Nat.le_of_ble_eq_true rfl) (Nat.le_of_ble_eq_true rfl) (Nat.le_of_ble_eq_true rfl) dX12_init_188 (fun g188_45 H he w => ?_)
  have hE1 : jEx g181_44 g188_45 := by rw [he]; exact jEx_new
  replace hx0 := hE1.at hx0
  have hq188_45 : gN g181_44 < gN g188_45 ∧ gK g188_45 (gN g181_44) = 13 := by rw [he]; exact gnew_at
  replace hE := hE.tr hE1
  replace h := h g188_45 he
  clear he hE1
  refine W.widen (k := 23) (n := 67835) (Nat.le_of_ble_eq_true rfl) (Nat.le_of_ble_eq_true rfl) ?_
  refine jprA (f := 40) (fin := true) hx hb hts hown hst w hx0 hq188_45 (rfl : jrt 11 40 = 13) hiX12 (rfl : vwCl[11]? = some (RX12, TX12, 51)) (hts (.fieldLink RX12 78 "FootByGateModel" "canQueue" "[I") (by decide +kernel)) ⟨by decide, by decide, rfl⟩ tyX12 tyX12_ok nmX12 rfl (fun _ => ⟨hnm, rfl⟩) (fun z => ⟨rfl, rfl⟩) dX12_init_190 (fun g190_46 H locs he w => ?_)
  have hE1 : jEx g188_45 g190_46 := by rw [he]; exact jEx_pr
  replace hx0 := hE1.at hx0
  replace hE := hE.tr hE1
  replace h := h g190_46 he
  clear he hE1
  refine lv_aload_n hx hb dX12_init_193 rfl (lv_at hl 0 rfl) ?_
  refine lv_iconst (v := (5 : Int32)) hx hb dX12_init_194 (by decide) ?_
  refine jnaA (atype := .int) (ty := .int) (kd := 13) (N := 5) hx hb hst w (hts (.arrayClass .int) (by decide +kernel)) rfl (Or.inr (Or.inl ⟨rfl, rfl⟩)) (by decide) (by decide) (Nat.le_of_ble_eq_true rfl) (Nat.le_of_ble_eq_true rfl) (Nat.le_of_ble_eq_true rfl) dX12_init_195 (fun g195_47 H he w => ?_)
  have hE1 : jEx g190_46 g195_47 := by rw [he]; exact jEx_new
  replace hx0 := hE1.at hx0
  have hq195_47 : gN g190_46 < gN g195_47 ∧ gK g195_47 (gN g190_46) = 13 := by rw [he]; exact gnew_at
  replace hE := hE.tr hE1
  replace h := h g195_47 he
  clear he hE1
  refine W.widen (k := 24) (n := 67840) (Nat.le_of_ble_eq_true rfl) (Nat.le_of_ble_eq_true rfl) ?_
  refine jprA (f := 46) (fin := true) hx hb hts hown hst w hx0 hq195_47 (rfl : jrt 11 46 = 13) hiX12 (rfl : vwCl[11]? = some (RX12, TX12, 51)) (hts (.fieldLink RX12 81 "FootByGateModel" "keptStands" "[I") (by decide +kernel)) ⟨by decide, by decide, rfl⟩ tyX12 tyX12_ok nmX12 rfl (fun _ => ⟨hnm, rfl⟩) (fun z => ⟨rfl, rfl⟩) dX12_init_197 (fun g197_48 H locs he w => ?_)
  have hE1 : jEx g195_47 g197_48 := by rw [he]; exact jEx_pr
  replace hx0 := hE1.at hx0
  replace hE := hE.tr hE1
  replace h := h g197_48 he
  clear he hE1
  refine lv_aload_n hx hb dX12_init_200 rfl (lv_at hl 0 rfl) ?_
  refine lv_iconst (v := (5 : Int32)) hx hb dX12_init_201 (by decide) ?_
  refine jnaA (atype := .int) (ty := .int) (kd := 13) (N := 5) hx hb hst w (hts (.arrayClass .int) (by decide +kernel)) rfl (Or.inr (Or.inl ⟨rfl, rfl⟩)) (by decide) (by decide) (Nat.le_of_ble_eq_true rfl) (Nat.le_of_ble_eq_true rfl) (Nat.le_of_ble_eq_true rfl) dX12_init_202 (fun g202_49 H he w => ?_)
  have hE1 : jEx g197_48 g202_49 := by rw [he]; exact jEx_new
  replace hx0 := hE1.at hx0
  have hq202_49 : gN g197_48 < gN g202_49 ∧ gK g202_49 (gN g197_48) = 13 := by rw [he]; exact gnew_at
  replace hE := hE.tr hE1
  replace h := h g202_49 he
  clear he hE1
  refine W.widen (k := 25) (n := 67845) (Nat.le_of_ble_eq_true rfl) (Nat.le_of_ble_eq_true rfl) ?_
  refine jprA (f := 47) (fin := true) hx hb hts hown hst w hx0 hq202_49 (rfl : jrt 11 47 = 13) hiX12 (rfl : vwCl[11]? = some (RX12, TX12, 51)) (hts (.fieldLink RX12 84 "FootByGateModel" "keptSkipped" "[I") (by decide +kernel)) ⟨by decide, by decide, rfl⟩ tyX12 tyX12_ok nmX12 rfl (fun _ => ⟨hnm, rfl⟩) (fun z => ⟨rfl, rfl⟩) dX12_init_204 (fun g204_50 H locs he w => ?_)
  have hE1 : jEx g202_49 g204_50 := by rw [he]; exact jEx_pr
  replace hx0 := hE1.at hx0
  replace hE := hE.tr hE1
  replace h := h g204_50 he
  clear he hE1
  refine lv_aload_n hx hb dX12_init_207 rfl (lv_at hl 0 rfl) ?_
  refine lv_bipush (v := (10 : Int32)) hx hb dX12_init_208 (by decide) ?_
  refine jnaA (atype := .int) (ty := .int) (kd := 13) (N := 10) hx hb hst w (hts (.arrayClass .int) (by decide +kernel)) rfl (Or.inr (Or.inl ⟨rfl, rfl⟩)) (by decide) (by decide) (Nat.le_of_ble_eq_true rfl) (Nat.le_of_ble_eq_true rfl) (Nat.le_of_ble_eq_true rfl) dX12_init_210 (fun g210_51 H he w => ?_)
  have hE1 : jEx g204_50 g210_51 := by rw [he]; exact jEx_new
  replace hx0 := hE1.at hx0
  have hq210_51 : gN g204_50 < gN g210_51 ∧ gK g210_51 (gN g204_50) = 13 := by rw [he]; exact gnew_at
  replace hE := hE.tr hE1
  replace h := h g210_51 he
  clear he hE1
  refine W.widen (k := 26) (n := 67855) (Nat.le_of_ble_eq_true rfl) (Nat.le_of_ble_eq_true rfl) ?_
  refine jprA (f := 48) (fin := true) hx hb hts hown hst w hx0 hq210_51 (rfl : jrt 11 48 = 13) hiX12 (rfl : vwCl[11]? = some (RX12, TX12, 51)) (hts (.fieldLink RX12 87 "FootByGateModel" "keptPaces" "[I") (by decide +kernel)) ⟨by decide, by decide, rfl⟩ tyX12 tyX12_ok nmX12 rfl (fun _ => ⟨hnm, rfl⟩) (fun z => ⟨rfl, rfl⟩) dX12_init_212 (fun g212_52 H locs he w => ?_)
  have hE1 : jEx g210_51 g212_52 := by rw [he]; exact jEx_pr
  replace hx0 := hE1.at hx0
  replace hE := hE.tr hE1
  replace h := h g212_52 he
  clear he hE1
  refine lv_aload_n hx hb dX12_init_215 rfl (lv_at hl 0 rfl) ?_
  refine lv_bipush (v := (6 : Int32)) hx hb dX12_init_216 (by decide) ?_
  refine jnaA (atype := .int) (ty := .int) (kd := 13) (N := 6) hx hb hst w (hts (.arrayClass .int) (by decide +kernel)) rfl (Or.inr (Or.inl ⟨rfl, rfl⟩)) (by decide) (by decide) (Nat.le_of_ble_eq_true rfl) (Nat.le_of_ble_eq_true rfl) (Nat.le_of_ble_eq_true rfl) dX12_init_218 (fun g218_53 H he w => ?_)
  have hE1 : jEx g212_52 g218_53 := by rw [he]; exact jEx_new
  replace hx0 := hE1.at hx0
  have hq218_53 : gN g212_52 < gN g218_53 ∧ gK g218_53 (gN g212_52) = 13 := by rw [he]; exact gnew_at
  replace hE := hE.tr hE1
  replace h := h g218_53 he
  clear he hE1
  refine W.widen (k := 27) (n := 67861) (Nat.le_of_ble_eq_true rfl) (Nat.le_of_ble_eq_true rfl) ?_
  refine jprA (f := 49) (fin := true) hx hb hts hown hst w hx0 hq218_53 (rfl : jrt 11 49 = 13) hiX12 (rfl : vwCl[11]? = some (RX12, TX12, 51)) (hts (.fieldLink RX12 90 "FootByGateModel" "keptPrint" "[I") (by decide +kernel)) ⟨by decide, by decide, rfl⟩ tyX12 tyX12_ok nmX12 rfl (fun _ => ⟨hnm, rfl⟩) (fun z => ⟨rfl, rfl⟩) dX12_init_220 (fun g220_54 H locs he w => ?_)
  have hE1 : jEx g218_53 g220_54 := by rw [he]; exact jEx_pr
  replace hx0 := hE1.at hx0
  replace hE := hE.tr hE1
  replace h := h g220_54 he
  clear he hE1
  refine W.widen (k := 27) (n := 67861) (by first | exact Nat.le_of_ble_eq_true rfl | (show _ ≤ _; omega)) (by first | exact Nat.le_of_ble_eq_true rfl | (show _ ≤ _; omega)) ?_
  exact jretA_v hx hb hr hlk hst w hE h dX12_init_223
end S_X12_init
