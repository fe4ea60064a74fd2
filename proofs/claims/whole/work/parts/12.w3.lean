section S_X12_within
def J_X12_within_L14 (len : Nat → Nat) (r : jR) (Q : Int32 → jI → jL → Prop) (i : jI) (j : jL) : Prop := Q (0 : Int32) i j
def J_X12_within (len : Nat → Nat) (r : jR) (Q : Int32 → jI → jL → Prop) (i : jI) (j : jL) (x0 : Int32) (x1 : Int32) (x2 : Int32) : Prop := ((x0 < x1) → (J_X12_within_L14 len r Q i j )) ∧ ((¬ x0 < x1) → (((x2 < x0) → (J_X12_within_L14 len r Q i j )) ∧ ((¬ x2 < x0) → (Q (1 : Int32) i j))))
abbrev rm_X12_within : Room := { frames := 0, cells := 0, slots := 0, locals := 0 }
variable {p : Program} {l : Launch} {e : Env} {s : State} {m : MethodId} {args : Array Value} {below : List Frame} {meth : Method} {c : Code} {b tU n : Nat} {cy : Nat → ClassId} {D : va_G} {K len : Nat → Nat} {r : jR} {Q : Int32 → jI → jL → Prop}
set_option maxHeartbeats 4000000 in
set_option maxRecDepth 100000 in
theorem w_X12_within_L14 (C0 : jCx p s m args c cX12_within 3 wsX12_within RX12 b cy D tU n K r) (hr : meth.sig.returnType = some .boolean) (hlk : meth.locks = false) {H : Heap} {locs : List Loc} {ls : Array Slot} {i : jI} {j : jL}  (w : jDy b cy D n K len r i j s H locs) (hl : lv_has ls 3 []) (h : J_X12_within_L14 len r Q i j) : W p l e rm_X12_within s m args below meth c H locs 0 0 (MQ below (jQi b cy D tU n K len r Q) args s 0 0 (jA b)) (F0 m 14 ls []) := by
  obtain ⟨hx, hb, hml, hown, hts, hst, hG⟩ := id C0
  rw [J_X12_within_L14] at h
  refine lv_iconst (v := (0 : Int32)) hx hb dX12_within_14 (by decide) ?_
  exact jret_z hx hb hr hlk hst w (by decide) h dX12_within_15
set_option maxHeartbeats 4000000 in
set_option maxRecDepth 100000 in
theorem c_X12_within (hG : jG n K r) {i : jI} {j : jL} {x0 : Int32} {x1 : Int32} {x2 : Int32} (h : J_X12_within len r Q i j x0 x1 x2) : Met l yX12_within wsX12_within rm_X12_within (va_Pc [.int x0, .int x1, .int x2] (jPre b cy D tU n K len r i j)) (jQi b cy D tU n K len r Q) 0 0 (jA b) := by
  refine Met.ofW (cc := cX12_within) (maxL := 3) (ret := (some .boolean)) (by decide) rfl ?_
  intro p e s m args below meth c s₁ B hml hv
  obtain ⟨rfl, hv⟩ := hv
  have C0 : jCx p s m _ c cX12_within 3 wsX12_within RX12 b cy D tU n K r := ⟨B.exec, B.bytes, hml, findClass_of_methodNamed B.named, atoms_spec (ws := wsX12_within) B.pre, hv.2.2, hG⟩
  have hr := B.returns
  have hlk := B.notSynchronized
  obtain ⟨hx, hb, hml, hown, hts, hst, hG⟩ := id C0
  have w := jDy.start hv
  have hl := lv_entry ([.int x0, .int x1, .int x2]) (n := 3) (Nat.le_of_ble_eq_true rfl)
  rw [lg_entry_eq]
  generalize (lg_sl ([.int x0, .int x1, .int x2]) ++ List.replicate (3 - (lg_sl ([.int x0, .int x1, .int x2])).length) Slot.unset).toArray = ls at hl ⊢
  replace hl : lv_has ls 3 [(0, .int x0), (1, .int x1), (2, .int x2)] := hl
  show W p l e rm_X12_within s m _ below meth c s.heap [] 0 0 _ (F0 m 0 ls [])
  rw [J_X12_within] at h
  refine lv_iload_n hx hb dX12_within_0 rfl (lv_at hl 0 rfl) ?_
  refine lv_iload_n hx hb dX12_within_1 rfl (lv_at hl 1 rfl) ?_
  refine lv_icmp_lt (tgt := 14) hx hb dX12_within_2 (by decide) (fun hc => ?_) (fun hc => ?_)
  · replace h := h.1 hc
    clear hc
    exact w_X12_within_L14 C0 hr hlk w (lv_sub hl [] rfl) h
  · replace h := h.2 hc
    clear hc
    refine lv_iload_n hx hb dX12_within_5 rfl (lv_at hl 0 rfl) ?_
    refine lv_iload_n hx hb dX12_within_6 rfl (lv_at hl 2 rfl) ?_
    refine lv_icmp_gt (tgt := 14) hx hb dX12_within_7 (by decide) (fun hc => ?_) (fun hc => ?_)
    · replace h := h.1 hc
      clear hc
      exact w_X12_within_L14 C0 hr hlk w (lv_sub hl [] rfl) h
    · replace h := h.2 hc
      clear hc
      refine lv_iconst (v := (1 : Int32)) hx hb dX12_within_10 (by decide) ?_
      refine lv_goto (tgt := 15) hx hb dX12_within_11 (by decide) ?_
      exact jret_z hx hb hr hlk hst w (by decide) h dX12_within_15
end S_X12_within
section S_X12_isWalker
def J_X12_isWalker (len : Nat → Nat) (r : jR) (Q : Int32 → jI → jL → Prop) (i : jI) (j : jL) (x0 : Nat) (x1 : Int32) : Prop := J_X12_within len r (fun (q8 : Int32) (i8 : jI) (j8 : jL) => (q8 = 0 ∨ q8 = 1) ∧ Q q8 i8 j8) i j x1 (0 : Int32) ((i x0 8) - (1 : Int32))
abbrev rm_X12_isWalker : Room := { frames := 1, cells := 0, slots := 0, locals := 22 }
variable {p : Program} {l : Launch} {e : Env} {s : State} {m : MethodId} {args : Array Value} {below : List Frame} {meth : Method} {c : Code} {b tU n : Nat} {cy : Nat → ClassId} {D : va_G} {K len : Nat → Nat} {r : jR} {Q : Int32 → jI → jL → Prop}
theorem hiX12_X12_isWalker : ∀ w ∈ u_ws RX12 TX12 51, w ∈ wsX12_isWalker := by decide +kernel
set_option maxHeartbeats 4000000 in
set_option maxRecDepth 100000 in
theorem c_X12_isWalker (hG : jG n K r) {i : jI} {j : jL} {x0 : Nat} {x1 : Int32} (hx0 : x0 < n ∧ K x0 = 11) (h : J_X12_isWalker len r Q i j x0 x1) : Met l yX12_isWalker wsX12_isWalker rm_X12_isWalker (va_Pc [.ref (b + x0), .int x1] (jPre b cy D tU n K len r i j)) (jQi b cy D tU n K len r Q) 0 0 (jA b) := by
  refine Met.ofW (cc := cX12_isWalker) (maxL := 2) (ret := (some .boolean)) (by decide) rfl ?_
  intro p e s m args below meth c s₁ B hml hv
  obtain ⟨rfl, hv⟩ := hv
  have C0 : jCx p s m _ c cX12_isWalker 2 wsX12_isWalker RX12 b cy D tU n K r := ⟨B.exec, B.bytes, hml, findClass_of_methodNamed B.named, atoms_spec (ws := wsX12_isWalker) B.pre, hv.2.2, hG⟩
  have hr := B.returns
  have hlk := B.notSynchronized
  obtain ⟨hx, hb, hml, hown, hts, hst, hG⟩ := id C0
  have hiX12 : ∀ w ∈ u_ws RX12 TX12 51, w ∈ wsX12_isWalker := hiX12_X12_isWalker
  have w := jDy.start hv
  have hl := lv_entry ([.ref (b + x0), .int x1]) (n := 2) (Nat.le_of_ble_eq_true rfl)
  rw [lg_entry_eq]
  generalize (lg_sl ([.ref (b + x0), .int x1]) ++ List.replicate (2 - (lg_sl ([.ref (b + x0), .int x1])).length) Slot.unset).toArray = ls at hl ⊢
  replace hl : lv_has ls 2 [(0, .ref (b + x0)), (1, .int x1)] := hl
  show W p l e rm_X12_isWalker s m _ below meth c s.heap [] 0 0 _ (F0 m 0 ls [])
  rw [J_X12_isWalker] at h
  refine lv_iload_n hx hb dX12_isWalker_0 rfl (lv_at hl 1 rfl) ?_
  refine lv_iconst (v := (0 : Int32)) hx hb dX12_isWalker_1 (by decide) ?_
  refine lv_aload_n hx hb dX12_isWalker_2 rfl (lv_at hl 0 rfl) ?_
  refine jgi (f := 8) hx hb hts hown hst w hx0 hiX12 (rfl : vwCl[11]? = some (RX12, TX12, 51)) (hts (.fieldLink RX12 138 "FootByGateModel" "walkers" "I") (by decide +kernel)) ⟨by decide, by decide, rfl⟩ dX12_isWalker_3 ?_
  refine lv_iconst (v := (1 : Int32)) hx hb dX12_isWalker_6 (by decide) ?_
  refine lv_isub hx hb dX12_isWalker_7 ?_
  refine jcS_i (As := [.int x1, .int (0 : Int32), .int ((i x0 8) - (1 : Int32))]) (rest := []) C0 w (c_X12_within hG h) (va_cwS 3 hts gX12_isWalker_X12_within rfl rfl rfl (by decide +kernel) ⟨Nat.le_of_ble_eq_true rfl, Nat.le_of_ble_eq_true rfl⟩) rfl hl.1 rfl (Nat.le_of_ble_eq_true rfl) dX12_isWalker_8 (fun q8 i8 j8 H locs h w => ?_) ⟨Nat.zero_le _, Nat.zero_le _⟩
  exact jret_z hx hb hr hlk hst w h.1 h.2 dX12_isWalker_11
end S_X12_isWalker
section S_X12_footIn
def J_X12_footIn (len : Nat → Nat) (r : jR) (Q : Int32 → jI → jL → Prop) (i : jI) (j : jL) (x0 : Int32) : Prop := Q ((x0 / (7 : Int32)) - (x0 / (7 : Int32)) / (2 : Int32) * (2 : Int32)) i j
abbrev rm_X12_footIn : Room := { frames := 0, cells := 0, slots := 0, locals := 0 }
variable {p : Program} {l : Launch} {e : Env} {s : State} {m : MethodId} {args : Array Value} {below : List Frame} {meth : Method} {c : Code} {b tU n : Nat} {cy : Nat → ClassId} {D : va_G} {K len : Nat → Nat} {r : jR} {Q : Int32 → jI → jL → Prop}
set_option maxHeartbeats 4000000 in
set_option maxRecDepth 100000 in
theorem c_X12_footIn (hG : jG n K r) {i : jI} {j : jL} {x0 : Int32} (h : J_X12_footIn len r Q i j x0) : Met l yX12_footIn wsX12_footIn rm_X12_footIn (va_Pc [.int x0] (jPre b cy D tU n K len r i j)) (jQi b cy D tU n K len r Q) 0 0 (jA b) := by
  refine Met.ofW (cc := cX12_footIn) (maxL := 1) (ret := (some .int)) (by decide) rfl ?_
  intro p e s m args below meth c s₁ B hml hv
  obtain ⟨rfl, hv⟩ := hv
  have C0 : jCx p s m _ c cX12_footIn 1 wsX12_footIn RX12 b cy D tU n K r := ⟨B.exec, B.bytes, hml, findClass_of_methodNamed B.named, atoms_spec (ws := wsX12_footIn) B.pre, hv.2.2, hG⟩
  have hr := B.returns
  have hlk := B.notSynchronized
  obtain ⟨hx, hb, hml, hown, hts, hst, hG⟩ := id C0
  have w := jDy.start hv
  have hl := lv_entry ([.int x0]) (n := 1) (Nat.le_of_ble_eq_true rfl)
  rw [lg_entry_eq]
  generalize (lg_sl ([.int x0]) ++ List.replicate (1 - (lg_sl ([.int x0])).length) Slot.unset).toArray = ls at hl ⊢
  replace hl : lv_has ls 1 [(0, .int x0)] := hl
  show W p l e rm_X12_footIn s m _ below meth c s.heap [] 0 0 _ (F0 m 0 ls [])
  rw [J_X12_footIn] at h
  refine lv_iload_n hx hb dX12_footIn_0 rfl (lv_at hl 0 rfl) ?_
  refine lv_bipush (v := (7 : Int32)) hx hb dX12_footIn_1 (by decide) ?_
  refine lv_idiv hx hb dX12_footIn_3 (by decide) ?_
  refine lv_iconst (v := (2 : Int32)) hx hb dX12_footIn_4 (by decide) ?_
  refine lv_irem hx hb dX12_footIn_5 (by decide) ?_
  exact jret_i hx hb hr hlk hst w h dX12_footIn_6
end S_X12_footIn
section S_X12_weight
def J_X12_weight (len : Nat → Nat) (r : jR) (Q : Int32 → jI → jL → Prop) (i : jI) (j : jL) (x0 : Int32) : Prop := ((¬ x0 = 0) → (((¬ x0 = (1 : Int32)) → (Q (126 : Int32) i j)) ∧ ((x0 = (1 : Int32)) → (Q (42 : Int32) i j)))) ∧ ((x0 = 0) → (Q (14 : Int32) i j))
abbrev rm_X12_weight : Room := { frames := 0, cells := 0, slots := 0, locals := 0 }
variable {p : Program} {l : Launch} {e : Env} {s : State} {m : MethodId} {args : Array Value} {below : List Frame} {meth : Method} {c : Code} {b tU n : Nat} {cy : Nat → ClassId} {D : va_G} {K len : Nat → Nat} {r : jR} {Q : Int32 → jI → jL → Prop}
set_option maxHeartbeats 4000000 in
set_option maxRecDepth 100000 in
theorem c_X12_weight (hG : jG n K r) {i : jI} {j : jL} {x0 : Int32} (h : J_X12_weight len r Q i j x0) : Met l yX12_weight wsX12_weight rm_X12_weight (va_Pc [.int x0] (jPre b cy D tU n K len r i j)) (jQi b cy D tU n K len r Q) 0 0 (jA b) := by
  refine Met.ofW (cc := cX12_weight) (maxL := 1) (ret := (some .int)) (by decide) rfl ?_
  intro p e s m args below meth c s₁ B hml hv
  obtain ⟨rfl, hv⟩ := hv
  have C0 : jCx p s m _ c cX12_weight 1 wsX12_weight RX12 b cy D tU n K r := ⟨B.exec, B.bytes, hml, findClass_of_methodNamed B.named, atoms_spec (ws := wsX12_weight) B.pre, hv.2.2, hG⟩
  have hr := B.returns
  have hlk := B.notSynchronized
  obtain ⟨hx, hb, hml, hown, hts, hst, hG⟩ := id C0
  have w := jDy.start hv
  have hl := lv_entry ([.int x0]) (n := 1) (Nat.le_of_ble_eq_true rfl)
  rw [lg_entry_eq]
  generalize (lg_sl ([.int x0]) ++ List.replicate (1 - (lg_sl ([.int x0])).length) Slot.unset).toArray = ls at hl ⊢
  replace hl : lv_has ls 1 [(0, .int x0)] := hl
  show W p l e rm_X12_weight s m _ below meth c s.heap [] 0 0 _ (F0 m 0 ls [])
  rw [J_X12_weight] at h
  refine lv_iload_n hx hb dX12_weight_0 rfl (lv_at hl 0 rfl) ?_
  refine lv_if_ne (tgt := 9) hx hb dX12_weight_1 (by decide) (fun hc => ?_) (fun hc => ?_)
  · replace h := h.1 hc
    clear hc
    refine lv_iload_n hx hb dX12_weight_9 rfl (lv_at hl 0 rfl) ?_
    refine lv_iconst (v := (1 : Int32)) hx hb dX12_weight_10 (by decide) ?_
    refine lv_icmp_ne (tgt := 19) hx hb dX12_weight_11 (by decide) (fun hc => ?_) (fun hc => ?_)
    · replace h := h.1 hc
      clear hc
      refine lv_bipush (v := (126 : Int32)) hx hb dX12_weight_19 (by decide) ?_
      exact jret_i hx hb hr hlk hst w h dX12_weight_21
    · replace h := h.2 hc
      clear hc
      refine lv_bipush (v := (42 : Int32)) hx hb dX12_weight_14 (by decide) ?_
      refine lv_goto (tgt := 21) hx hb dX12_weight_16 (by decide) ?_
      exact jret_i hx hb hr hlk hst w h dX12_weight_21
  · replace h := h.2 hc
    clear hc
    refine lv_bipush (v := (14 : Int32)) hx hb dX12_weight_4 (by decide) ?_
    refine lv_goto (tgt := 21) hx hb dX12_weight_6 (by decide) ?_
    exact jret_i hx hb hr hlk hst w h dX12_weight_21
end S_X12_weight
section S_X12_markIn
def J_X12_markIn (len : Nat → Nat) (r : jR) (Q : Int32 → jI → jL → Prop) (i : jI) (j : jL) (x0 : Int32) (x1 : Int32) : Prop := J_X12_weight len r (fun (q2 : Int32) (i2 : jI) (j2 : jL) => (¬ q2 = 0) ∧ (Q (((x0 / q2) - (x0 / q2) / (3 : Int32) * (3 : Int32)) - (1 : Int32)) i2 j2)) i j x1
abbrev rm_X12_markIn : Room := { frames := 1, cells := 0, slots := 0, locals := 20 }
variable {p : Program} {l : Launch} {e : Env} {s : State} {m : MethodId} {args : Array Value} {below : List Frame} {meth : Method} {c : Code} {b tU n : Nat} {cy : Nat → ClassId} {D : va_G} {K len : Nat → Nat} {r : jR} {Q : Int32 → jI → jL → Prop}
set_option maxHeartbeats 4000000 in
set_option maxRecDepth 100000 in
theorem c_X12_markIn (hG : jG n K r) {i : jI} {j : jL} {x0 : Int32} {x1 : Int32} (h : J_X12_markIn len r Q i j x0 x1) : Met l yX12_markIn wsX12_markIn rm_X12_markIn (va_Pc [.int x0, .int x1] (jPre b cy D tU n K len r i j)) (jQi b cy D tU n K len r Q) 0 0 (jA b) := by
  refine Met.ofW (cc := cX12_markIn) (maxL := 2) (ret := (some .int)) (by decide) rfl ?_
  intro p e s m args below meth c s₁ B hml hv
  obtain ⟨rfl, hv⟩ := hv
  have C0 : jCx p s m _ c cX12_markIn 2 wsX12_markIn RX12 b cy D tU n K r := ⟨B.exec, B.bytes, hml, findClass_of_methodNamed B.named, atoms_spec (ws := wsX12_markIn) B.pre, hv.2.2, hG⟩
  have hr := B.returns
  have hlk := B.notSynchronized
  obtain ⟨hx, hb, hml, hown, hts, hst, hG⟩ := id C0
  have w := jDy.start hv
  have hl := lv_entry ([.int x0, .int x1]) (n := 2) (Nat.le_of_ble_eq_true rfl)
  rw [lg_entry_eq]
  generalize (lg_sl ([.int x0, .int x1]) ++ List.replicate (2 - (lg_sl ([.int x0, .int x1])).length) Slot.unset).toArray = ls at hl ⊢
  replace hl : lv_has ls 2 [(0, .int x0), (1, .int x1)] := hl
  show W p l e rm_X12_markIn s m _ below meth c s.heap [] 0 0 _ (F0 m 0 ls [])
  rw [J_X12_markIn] at h
  refine lv_iload_n hx hb dX12_markIn_0 rfl (lv_at hl 0 rfl) ?_
  refine lv_iload_n hx hb dX12_markIn_1 rfl (lv_at hl 1 rfl) ?_
  refine jcS_i (As := [.int x1]) (rest := [.int x0]) C0 w (c_X12_weight hG h) (va_cwS 1 hts gX12_markIn_X12_weight rfl rfl rfl (by decide +kernel) ⟨Nat.le_of_ble_eq_true rfl, Nat.le_of_ble_eq_true rfl⟩) rfl hl.1 rfl (Nat.le_of_ble_eq_true rfl) dX12_markIn_2 (fun q2 i2 j2 H locs h w => ?_) ⟨Nat.zero_le _, Nat.zero_le _⟩
  obtain ⟨hz, h⟩ := h
  refine lv_idiv hx hb dX12_markIn_5 hz ?_
  refine lv_iconst (v := (3 : Int32)) hx hb dX12_markIn_6 (by decide) ?_
  refine lv_irem hx hb dX12_markIn_7 (by decide) ?_
  refine lv_iconst (v := (1 : Int32)) hx hb dX12_markIn_8 (by decide) ?_
  refine lv_isub hx hb dX12_markIn_9 ?_
  exact jret_i hx hb hr hlk hst w h dX12_markIn_10
end S_X12_markIn
section S_X12_placeIn
def J_X12_placeIn (len : Nat → Nat) (r : jR) (Q : Int32 → jI → jL → Prop) (i : jI) (j : jL) (x0 : Int32) : Prop := Q (x0 - x0 / (7 : Int32) * (7 : Int32)) i j
abbrev rm_X12_placeIn : Room := { frames := 0, cells := 0, slots := 0, locals := 0 }
variable {p : Program} {l : Launch} {e : Env} {s : State} {m : MethodId} {args : Array Value} {below : List Frame} {meth : Method} {c : Code} {b tU n : Nat} {cy : Nat → ClassId} {D : va_G} {K len : Nat → Nat} {r : jR} {Q : Int32 → jI → jL → Prop}
set_option maxHeartbeats 4000000 in
set_option maxRecDepth 100000 in
theorem c_X12_placeIn (hG : jG n K r) {i : jI} {j : jL} {x0 : Int32} (h : J_X12_placeIn len r Q i j x0) : Met l yX12_placeIn wsX12_placeIn rm_X12_placeIn (va_Pc [.int x0] (jPre b cy D tU n K len r i j)) (jQi b cy D tU n K len r Q) 0 0 (jA b) := by
  refine Met.ofW (cc := cX12_placeIn) (maxL := 1) (ret := (some .int)) (by decide) rfl ?_
  intro p e s m args below meth c s₁ B hml hv
  obtain ⟨rfl, hv⟩ := hv
  have C0 : jCx p s m _ c cX12_placeIn 1 wsX12_placeIn RX12 b cy D tU n K r := ⟨B.exec, B.bytes, hml, findClass_of_methodNamed B.named, atoms_spec (ws := wsX12_placeIn) B.pre, hv.2.2, hG⟩
  have hr := B.returns
  have hlk := B.notSynchronized
  obtain ⟨hx, hb, hml, hown, hts, hst, hG⟩ := id C0
  have w := jDy.start hv
  have hl := lv_entry ([.int x0]) (n := 1) (Nat.le_of_ble_eq_true rfl)
  rw [lg_entry_eq]
  generalize (lg_sl ([.int x0]) ++ List.replicate (1 - (lg_sl ([.int x0])).length) Slot.unset).toArray = ls at hl ⊢
  replace hl : lv_has ls 1 [(0, .int x0)] := hl
  show W p l e rm_X12_placeIn s m _ below meth c s.heap [] 0 0 _ (F0 m 0 ls [])
  rw [J_X12_placeIn] at h
  refine lv_iload_n hx hb dX12_placeIn_0 rfl (lv_at hl 0 rfl) ?_
  refine lv_bipush (v := (7 : Int32)) hx hb dX12_placeIn_1 (by decide) ?_
  refine lv_irem hx hb dX12_placeIn_3 (by decide) ?_
  exact jret_i hx hb hr hlk hst w h dX12_placeIn_4
end S_X12_placeIn
section S_X12_walkerNow
def J_X12_walkerNow (len : Nat → Nat) (r : jR) (Q : Int32 → jI → jL → Prop) (i : jI) (j : jL) (x0 : Nat) (x1 : Int32) (x2 : Int32) : Prop := ((x2 = (0 : Int32)) → (∃ a33, r x0 9 = some a33 ∧ (vp_in x1 (len a33) ∧ (Q (i a33 x1.toNatClampNeg) i j)))) ∧ (((x2 = (1 : Int32)) → (∃ a40, r x0 10 = some a40 ∧ (vp_in x1 (len a40) ∧ (J_X12_placeIn len r (fun (q45 : Int32) (i45 : jI) (j45 : jL) => Q q45 i45 j45) i j (i a40 x1.toNatClampNeg))))) ∧ (((x2 = (2 : Int32)) → (∃ a50, r x0 10 = some a50 ∧ (vp_in x1 (len a50) ∧ (J_X12_footIn len r (fun (q55 : Int32) (i55 : jI) (j55 : jL) => Q q55 i55 j55) i j (i a50 x1.toNatClampNeg))))) ∧ (((x2 = (3 : Int32)) → (∃ a60, r x0 11 = some a60 ∧ (vp_in x1 (len a60) ∧ (Q (i a60 x1.toNatClampNeg) i j)))) ∧ ((¬ x2 = (0 : Int32) → ¬ x2 = (1 : Int32) → ¬ x2 = (2 : Int32) → ¬ x2 = (3 : Int32) → (∃ a67, r x0 10 = some a67 ∧ (vp_in x1 (len a67) ∧ (J_X12_markIn len r (fun (q75 : Int32) (i75 : jI) (j75 : jL) => Q q75 i75 j75) i j (i a67 x1.toNatClampNeg) (x2 - (4 : Int32))))))))))
abbrev rm_X12_walkerNow : Room := { frames := 2, cells := 0, slots := 0, locals := 41 }
variable {p : Program} {l : Launch} {e : Env} {s : State} {m : MethodId} {args : Array Value} {below : List Frame} {meth : Method} {c : Code} {b tU n : Nat} {cy : Nat → ClassId} {D : va_G} {K len : Nat → Nat} {r : jR} {Q : Int32 → jI → jL → Prop}
theorem hiX12_X12_walkerNow : ∀ w ∈ u_ws RX12 TX12 51, w ∈ wsX12_walkerNow := by decide +kernel
set_option maxHeartbeats 4000000 in
set_option maxRecDepth 100000 in
theorem c_X12_walkerNow (hG : jG n K r) {i : jI} {j : jL} {x0 : Nat} {x1 : Int32} {x2 : Int32} (hx0 : x0 < n ∧ K x0 = 11) (h : J_X12_walkerNow len r Q i j x0 x1 x2) : Met l yX12_walkerNow wsX12_walkerNow rm_X12_walkerNow (va_Pc [.ref (b + x0), .int x1, .int x2] (jPre b cy D tU n K len r i j)) (jQi b cy D tU n K len r Q) 0 0 (jA b) := by
  refine Met.ofW (cc := cX12_walkerNow) (maxL := 3) (ret := (some .int)) (by decide) rfl ?_
  intro p e s m args below meth c s₁ B hml hv
  obtain ⟨rfl, hv⟩ := hv
  have C0 : jCx p s m _ c cX12_walkerNow 3 wsX12_walkerNow RX12 b cy D tU n K r := ⟨B.exec, B.bytes, hml, findClass_of_methodNamed B.named, atoms_spec (ws := wsX12_walkerNow) B.pre, hv.2.2, hG⟩
  have hr := B.returns
  have hlk := B.notSynchronized
  obtain ⟨hx, hb, hml, hown, hts, hst, hG⟩ := id C0
  have hiX12 : ∀ w ∈ u_ws RX12 TX12 51, w ∈ wsX12_walkerNow := hiX12_X12_walkerNow
  have w := jDy.start hv
  have hl := lv_entry ([.ref (b + x0), .int x1, .int x2]) (n := 3) (Nat.le_of_ble_eq_true rfl)
  rw [lg_entry_eq]
  generalize (lg_sl ([.ref (b + x0), .int x1, .int x2]) ++ List.replicate (3 - (lg_sl ([.ref (b + x0), .int x1, .int x2])).length) Slot.unset).toArray = ls at hl ⊢
  replace hl : lv_has ls 3 [(0, .ref (b + x0)), (1, .int x1), (2, .int x2)] := hl
  show W p l e rm_X12_walkerNow s m _ below meth c s.heap [] 0 0 _ (F0 m 0 ls [])
  rw [J_X12_walkerNow] at h
  refine lv_iload_n hx hb dX12_walkerNow_0 rfl (lv_at hl 2 rfl) ?_
  by_cases hc0 : x2 = (0 : Int32)
  · replace h := h.1 hc0
    refine lv_tableIn (off := 31) (tgt := 32) hx hb dX12_walkerNow_1 (by rw [hc0]; decide) (by rw [hc0]; decide) (by rw [hc0]; rfl) (by decide) ?_
    clear hc0
    refine lv_aload_n hx hb dX12_walkerNow_32 rfl (lv_at hl 0 rfl) ?_
    obtain ⟨a33, hr0, h⟩ := h
    refine jgr (f := 9) hx hb hts hown hst w hG hx0 hiX12 (rfl : vwCl[11]? = some (RX12, TX12, 51)) (hts (.fieldLink RX12 22 "FootByGateModel" "kindOf" "[I") (by decide +kernel)) ⟨by decide, by decide, rfl⟩ (rfl : jrt 11 9 = 13) dX12_walkerNow_33 hr0 (fun ha33 => ?_)
    clear hr0
    refine lv_iload_n hx hb dX12_walkerNow_36 rfl (lv_at hl 1 rfl) ?_
    obtain ⟨hn, h⟩ := h
    refine jaid hx hb hst w ha33 hn dX12_walkerNow_37 ?_
    clear hn
    exact jret_i hx hb hr hlk hst w h dX12_walkerNow_38
  replace h := h.2
  by_cases hc1 : x2 = (1 : Int32)
  · replace h := h.1 hc1
    refine lv_tableIn (off := 38) (tgt := 39) hx hb dX12_walkerNow_1 (by rw [hc1]; decide) (by rw [hc1]; decide) (by rw [hc1]; rfl) (by decide) ?_
    clear hc1
    refine lv_aload_n hx hb dX12_walkerNow_39 rfl (lv_at hl 0 rfl) ?_
    obtain ⟨a40, hr0, h⟩ := h
    refine jgr (f := 10) hx hb hts hown hst w hG hx0 hiX12 (rfl : vwCl[11]? = some (RX12, TX12, 51)) (hts (.fieldLink RX12 25 "FootByGateModel" "standsOf" "[I") (by decide +kernel)) ⟨by decide, by decide, rfl⟩ (rfl : jrt 11 10 = 13) dX12_walkerNow_40 hr0 (fun ha40 => ?_)
    clear hr0
    refine lv_iload_n hx hb dX12_walkerNow_43 rfl (lv_at hl 1 rfl) ?_
    obtain ⟨hn, h⟩ := h
    refine jaid hx hb hst w ha40 hn dX12_walkerNow_44 ?_
    clear hn
    refine jcS_i (As := [.int (i a40 x1.toNatClampNeg)]) (rest := []) C0 w (c_X12_placeIn hG h) (va_cwS 1 hts gX12_walkerNow_X12_placeIn rfl rfl rfl (by decide +kernel) ⟨Nat.le_of_ble_eq_true rfl, Nat.le_of_ble_eq_true rfl⟩) rfl hl.1 rfl (Nat.le_of_ble_eq_true rfl) dX12_walkerNow_45 (fun q45 i45 j45 H locs h w => ?_) ⟨Nat.zero_le _, Nat.zero_le _⟩
    exact jret_i hx hb hr hlk hst w h dX12_walkerNow_48
  replace h := h.2
  by_cases hc2 : x2 = (2 : Int32)
  · replace h := h.1 hc2
    refine lv_tableIn (off := 48) (tgt := 49) hx hb dX12_walkerNow_1 (by rw [hc2]; decide) (by rw [hc2]; decide) (by rw [hc2]; rfl) (by decide) ?_
    clear hc2
    refine lv_aload_n hx hb dX12_walkerNow_49 rfl (lv_at hl 0 rfl) ?_
    obtain ⟨a50, hr0, h⟩ := h
    refine jgr (f := 10) hx hb hts hown hst w hG hx0 hiX12 (rfl : vwCl[11]? = some (RX12, TX12, 51)) (hts (.fieldLink RX12 25 "FootByGateModel" "standsOf" "[I") (by decide +kernel)) ⟨by decide, by decide, rfl⟩ (rfl : jrt 11 10 = 13) dX12_walkerNow_50 hr0 (fun ha50 => ?_)
    clear hr0
    refine lv_iload_n hx hb dX12_walkerNow_53 rfl (lv_at hl 1 rfl) ?_
    obtain ⟨hn, h⟩ := h
    refine jaid hx hb hst w ha50 hn dX12_walkerNow_54 ?_
    clear hn
    refine jcS_i (As := [.int (i a50 x1.toNatClampNeg)]) (rest := []) C0 w (c_X12_footIn hG h) (va_cwS 1 hts gX12_walkerNow_X12_footIn rfl rfl rfl (by decide +kernel) ⟨Nat.le_of_ble_eq_true rfl, Nat.le_of_ble_eq_true rfl⟩) rfl hl.1 rfl (Nat.le_of_ble_eq_true rfl) dX12_walkerNow_55 (fun q55 i55 j55 H locs h w => ?_) ⟨Nat.zero_le _, Nat.zero_le _⟩
    exact jret_i hx hb hr hlk hst w h dX12_walkerNow_58
  replace h := h.2
  by_cases hc3 : x2 = (3 : Int32)
  · replace h := h.1 hc3
    refine lv_tableIn (off := 58) (tgt := 59) hx hb dX12_walkerNow_1 (by rw [hc3]; decide) (by rw [hc3]; decide) (by rw [hc3]; rfl) (by decide) ?_
    clear hc3
    refine lv_aload_n hx hb dX12_walkerNow_59 rfl (lv_at hl 0 rfl) ?_
    obtain ⟨a60, hr0, h⟩ := h
    refine jgr (f := 11) hx hb hts hown hst w hG hx0 hiX12 (rfl : vwCl[11]? = some (RX12, TX12, 51)) (hts (.fieldLink RX12 28 "FootByGateModel" "skippedOf" "[I") (by decide +kernel)) ⟨by decide, by decide, rfl⟩ (rfl : jrt 11 11 = 13) dX12_walkerNow_60 hr0 (fun ha60 => ?_)
    clear hr0
    refine lv_iload_n hx hb dX12_walkerNow_63 rfl (lv_at hl 1 rfl) ?_
    obtain ⟨hn, h⟩ := h
    refine jaid hx hb hst w ha60 hn dX12_walkerNow_64 ?_
    clear hn
    exact jret_i hx hb hr hlk hst w h dX12_walkerNow_65
  replace h := h.2
  replace h := h hc0 hc1 hc2 hc3
  have hd : x2.toInt < 0 ∨ 3 < x2.toInt := by
    rcases Int.lt_or_le x2.toInt 0 with h1 | h1
    · exact Or.inl h1
    rcases Int.lt_or_le 3 x2.toInt with h2 | h2
    · exact Or.inr h2
    exfalso
    have h3 : x2.toInt = 0 ∨ x2.toInt = 1 ∨ x2.toInt = 2 ∨ x2.toInt = 3 := by omega
    rcases h3 with h3 | h3 | h3 | h3
    · exact hc0 (Int32.toInt_inj.mp (h3.trans (by decide)))
    · exact hc1 (Int32.toInt_inj.mp (h3.trans (by decide)))
    · exact hc2 (Int32.toInt_inj.mp (h3.trans (by decide)))
    · exact hc3 (Int32.toInt_inj.mp (h3.trans (by decide)))
  refine lv_tableOut (tgt := 66) hx hb dX12_walkerNow_1 hd (by decide) ?_
  clear hd hc0 hc1 hc2 hc3
  refine lv_aload_n hx hb dX12_walkerNow_66 rfl (lv_at hl 0 rfl) ?_
  obtain ⟨a67, hr0, h⟩ := h
  refine jgr (f := 10) hx hb hts hown hst w hG hx0 hiX12 (rfl : vwCl[11]? = some (RX12, TX12, 51)) (hts (.fieldLink RX12 25 "FootByGateModel" "standsOf" "[I") (by decide +kernel)) ⟨by decide, by decide, rfl⟩ (rfl : jrt 11 10 = 13) dX12_walkerNow_67 hr0 (fun ha67 => ?_)
  clear hr0
  refine lv_iload_n hx hb dX12_walkerNow_70 rfl (lv_at hl 1 rfl) ?_
  obtain ⟨hn, h⟩ := h
  refine jaid hx hb hst w ha67 hn dX12_walkerNow_71 ?_
  clear hn
  refine lv_iload_n hx hb dX12_walkerNow_72 rfl (lv_at hl 2 rfl) ?_
  refine lv_iconst (v := (4 : Int32)) hx hb dX12_walkerNow_73 (by decide) ?_
  refine lv_isub hx hb dX12_walkerNow_74 ?_
  refine jcS_i (As := [.int (i a67 x1.toNatClampNeg), .int (x2 - (4 : Int32))]) (rest := []) C0 w (c_X12_markIn hG h) (va_cwS 2 hts gX12_walkerNow_X12_markIn rfl rfl rfl (by decide +kernel) ⟨Nat.le_of_ble_eq_true rfl, Nat.le_of_ble_eq_true rfl⟩) rfl hl.1 rfl (Nat.le_of_ble_eq_true rfl) dX12_walkerNow_75 (fun q75 i75 j75 H locs h w => ?_) ⟨Nat.zero_le _, Nat.zero_le _⟩
  exact jret_i hx hb hr hlk hst w h dX12_walkerNow_78
end S_X12_walkerNow
section S_X12_about
def J_X12_about (len : Nat → Nat) (r : jR) (Q : Int32 → jI → jL → Prop) (i : jI) (j : jL) (x0 : Nat) (x1 : Int32) (x2 : Int32) : Prop := J_X12_isWalker len r (fun (q2 : Int32) (i2 : jI) (j2 : jL) => ((¬ q2 = 0) → (J_X12_within len r (fun (q17 : Int32) (i17 : jI) (j17 : jL) => ((q17 = 0) → (Q (-102 : Int32) i17 j17)) ∧ ((¬ q17 = 0) → (J_X12_walkerNow len r (fun (q26 : Int32) (i26 : jI) (j26 : jL) => Q q26 i26 j26) i17 j17 x0 x1 x2))) i2 j2 x2 (0 : Int32) (6 : Int32))) ∧ ((q2 = 0) → (Q (-101 : Int32) i2 j2))) i j x0 x1
abbrev rm_X12_about : Room := { frames := 3, cells := 0, slots := 0, locals := 63 }
variable {p : Program} {l : Launch} {e : Env} {s : State} {m : MethodId} {args : Array Value} {below : List Frame} {meth : Method} {c : Code} {b tU n : Nat} {cy : Nat → ClassId} {D : va_G} {K len : Nat → Nat} {r : jR} {Q : Int32 → jI → jL → Prop}
set_option maxHeartbeats 4000000 in
set_option maxRecDepth 100000 in
theorem c_X12_about (hG : jG n K r) {i : jI} {j : jL} {x0 : Nat} {x1 : Int32} {x2 : Int32} (hx0 : x0 < n ∧ K x0 = 11) (h : J_X12_about len r Q i j x0 x1 x2) : Met l yX12_about wsX12_about rm_X12_about (va_Pc [.ref (b + x0), .int x1, .int x2] (jPre b cy D tU n K len r i j)) (jQi b cy D tU n K len r Q) 0 0 (jA b) := by
  refine Met.ofW (cc := cX12_about) (maxL := 3) (ret := (some .int)) (by decide) rfl ?_
  intro p e s m args below meth c s₁ B hml hv
  obtain ⟨rfl, hv⟩ := hv
  have C0 : jCx p s m _ c cX12_about 3 wsX12_about RX12 b cy D tU n K r := ⟨B.exec, B.bytes, hml, findClass_of_methodNamed B.named, atoms_spec (ws := wsX12_about) B.pre, hv.2.2, hG⟩
  have hr := B.returns
  have hlk := B.notSynchronized
  obtain ⟨hx, hb, hml, hown, hts, hst, hG⟩ := id C0
  have w := jDy.start hv
  have hl := lv_entry ([.ref (b + x0), .int x1, .int x2]) (n := 3) (Nat.le_of_ble_eq_true rfl)
  rw [lg_entry_eq]
  generalize (lg_sl ([.ref (b + x0), .int x1, .int x2]) ++ List.replicate (3 - (lg_sl ([.ref (b + x0), .int x1, .int x2])).length) Slot.unset).toArray = ls at hl ⊢
  replace hl : lv_has ls 3 [(0, .ref (b + x0)), (1, .int x1), (2, .int x2)] := hl
  show W p l e rm_X12_about s m _ below meth c s.heap [] 0 0 _ (F0 m 0 ls [])
  rw [J_X12_about] at h
  refine lv_aload_n hx hb dX12_about_0 rfl (lv_at hl 0 rfl) ?_
  refine lv_iload_n hx hb dX12_about_1 rfl (lv_at hl 1 rfl) ?_
  refine jcV_i (k := x0) (As := [.int x1]) (rest := []) C0 w (c_X12_isWalker hG hx0 h) (cwV 1 hts gX12_about_X12_isWalker rfl rfl rfl (by decide +kernel) ⟨Nat.le_of_ble_eq_true rfl, Nat.le_of_ble_eq_true rfl⟩) hx0 (rfl : vwCl[11]? = some (RX12, TX12, 51)) (by decide) rfl hl.1 rfl (Nat.le_of_ble_eq_true rfl) dX12_about_2 (fun q2 i2 j2 H locs h w => ?_) ⟨Nat.zero_le _, Nat.zero_le _⟩
  refine lv_if_ne (tgt := 13) hx hb dX12_about_5 (by decide) (fun hc => ?_) (fun hc => ?_)
  · replace h := h.1 hc
    clear hc
    refine lv_iload_n hx hb dX12_about_13 rfl (lv_at hl 2 rfl) ?_
    refine lv_iconst (v := (0 : Int32)) hx hb dX12_about_14 (by decide) ?_
    refine lv_bipush (v := (6 : Int32)) hx hb dX12_about_15 (by decide) ?_
    refine jcS_i (As := [.int x2, .int (0 : Int32), .int (6 : Int32)]) (rest := []) C0 w (c_X12_within hG h) (va_cwS 3 hts gX12_about_X12_within rfl rfl rfl (by decide +kernel) ⟨Nat.le_of_ble_eq_true rfl, Nat.le_of_ble_eq_true rfl⟩) rfl hl.1 rfl (Nat.le_of_ble_eq_true rfl) dX12_about_17 (fun q17 i17 j17 H locs h w => ?_) ⟨Nat.zero_le _, Nat.zero_le _⟩
    refine lv_if_eq (tgt := 32) hx hb dX12_about_20 (by decide) (fun hc => ?_) (fun hc => ?_)
    · replace h := h.1 hc
      clear hc
      refine lv_bipush (v := (-102 : Int32)) hx hb dX12_about_32 (by decide) ?_
      exact jret_i hx hb hr hlk hst w h dX12_about_34
    · replace h := h.2 hc
      clear hc
      refine lv_aload_n hx hb dX12_about_23 rfl (lv_at hl 0 rfl) ?_
      refine lv_iload_n hx hb dX12_about_24 rfl (lv_at hl 1 rfl) ?_
      refine lv_iload_n hx hb dX12_about_25 rfl (lv_at hl 2 rfl) ?_
      refine jcV_i (k := x0) (As := [.int x1, .int x2]) (rest := []) C0 w (c_X12_walkerNow hG hx0 h) (cwV 2 hts gX12_about_X12_walkerNow rfl rfl rfl (by decide +kernel) ⟨Nat.le_of_ble_eq_true rfl, Nat.le_of_ble_eq_true rfl⟩) hx0 (rfl : vwCl[11]? = some (RX12, TX12, 51)) (by decide) rfl hl.1 rfl (Nat.le_of_ble_eq_true rfl) dX12_about_26 (fun q26 i26 j26 H locs h w => ?_) ⟨Nat.zero_le _, Nat.zero_le _⟩
      refine lv_goto (tgt := 34) hx hb dX12_about_29 (by decide) ?_
      exact jret_i hx hb hr hlk hst w h dX12_about_34
  · replace h := h.2 hc
    clear hc
    refine lv_bipush (v := (-101 : Int32)) hx hb dX12_about_8 (by decide) ?_
    refine lv_goto (tgt := 34) hx hb dX12_about_10 (by decide) ?_
    exact jret_i hx hb hr hlk hst w h dX12_about_34
end S_X12_about
section S_X12_as
def J_X12_as_L49 (len : Nat → Nat) (r : jR) (Q : Int32 → jI → jL → Prop) (i : jI) (j : jL) (x1 : Int32) : Prop := Q x1 i j
def J_X12_as_L53 (len : Nat → Nat) (r : jR) (Q : Int32 → jI → jL → Prop) (i : jI) (j : jL) : Prop := Q (-1 : Int32) i j
def J_X12_as (len : Nat → Nat) (r : jR) (Q : Int32 → jI → jL → Prop) (i : jI) (j : jL) (x0 : Nat) (x1 : Int32) (x2 : Int32) : Prop := J_X12_isWalker len r (fun (q2 : Int32) (i2 : jI) (j2 : jL) => ((¬ q2 = 0) → (J_X12_within len r (fun (q14 : Int32) (i14 : jI) (j14 : jL) => ((¬ q14 = 0) → (∃ a24, r x0 9 = some a24 ∧ (vp_in x1 (len a24) ∧ (∀ v29 : Int32, v29 = i14 a24 x1.toNatClampNeg → (((x2 = 0) → (J_X12_as_L49 len r Q i14 j14 x1)) ∧ ((¬ x2 = 0) → (((v29 = x2) → (J_X12_as_L49 len r Q i14 j14 x1)) ∧ ((¬ v29 = x2) → (((¬ x2 = (2 : Int32)) → (J_X12_as_L53 len r Q i14 j14 )) ∧ ((x2 = (2 : Int32)) → (((¬ v29 = (4 : Int32)) → (J_X12_as_L53 len r Q i14 j14 )) ∧ ((v29 = (4 : Int32)) → (J_X12_as_L49 len r Q i14 j14 x1))))))))))))) ∧ ((q14 = 0) → (Q (-102 : Int32) i14 j14))) i2 j2 x2 (0 : Int32) (4 : Int32))) ∧ ((q2 = 0) → (Q (-101 : Int32) i2 j2))) i j x0 x1
abbrev rm_X12_as : Room := { frames := 2, cells := 0, slots := 0, locals := 43 }
variable {p : Program} {l : Launch} {e : Env} {s : State} {m : MethodId} {args : Array Value} {below : List Frame} {meth : Method} {c : Code} {b tU n : Nat} {cy : Nat → ClassId} {D : va_G} {K len : Nat → Nat} {r : jR} {Q : Int32 → jI → jL → Prop}
theorem hiX12_X12_as : ∀ w ∈ u_ws RX12 TX12 51, w ∈ wsX12_as := by decide +kernel
set_option maxHeartbeats 4000000 in
set_option maxRecDepth 100000 in
theorem w_X12_as_L49 (C0 : jCx p s m args c cX12_as 4 wsX12_as RX12 b cy D tU n K r) (hr : meth.sig.returnType = some .int) (hlk : meth.locks = false) {H : Heap} {locs : List Loc} {ls : Array Slot} {i : jI} {j : jL} {x1 : Int32} (w : jDy b cy D n K len r i j s H locs) (hl : lv_has ls 4 [(1, .int x1)]) (h : J_X12_as_L49 len r Q i j x1) : W p l e rm_X12_as s m args below meth c H locs 0 0 (MQ below (jQi b cy D tU n K len r Q) args s 0 0 (jA b)) (F0 m 49 ls []) := by
  obtain ⟨hx, hb, hml, hown, hts, hst, hG⟩ := id C0
  have hiX12 : ∀ w ∈ u_ws RX12 TX12 51, w ∈ wsX12_as := hiX12_X12_as
  rw [J_X12_as_L49] at h
  refine lv_iload_n hx hb dX12_as_49 rfl (lv_at hl 0 rfl) ?_
  refine lv_goto (tgt := 54) hx hb dX12_as_50 (by decide) ?_
  exact jret_i hx hb hr hlk hst w h dX12_as_54
set_option maxHeartbeats 4000000 in
set_option maxRecDepth 100000 in
theorem w_X12_as_L53 (C0 : jCx p s m args c cX12_as 4 wsX12_as RX12 b cy D tU n K r) (hr : meth.sig.returnType = some .int) (hlk : meth.locks = false) {H : Heap} {locs : List Loc} {ls : Array Slot} {i : jI} {j : jL}  (w : jDy b cy D n K len r i j s H locs) (hl : lv_has ls 4 []) (h : J_X12_as_L53 len r Q i j) : W p l e rm_X12_as s m args below meth c H locs 0 0 (MQ below (jQi b cy D tU n K len r Q) args s 0 0 (jA b)) (F0 m 53 ls []) := by
  obtain ⟨hx, hb, hml, hown, hts, hst, hG⟩ := id C0
  have hiX12 : ∀ w ∈ u_ws RX12 TX12 51, w ∈ wsX12_as := hiX12_X12_as
  rw [J_X12_as_L53] at h
  refine lv_iconst (v := (-1 : Int32)) hx hb dX12_as_53 (by decide) ?_
  exact jret_i hx hb hr hlk hst w h dX12_as_54
set_option maxHeartbeats 4000000 in
set_option maxRecDepth 100000 in
theorem c_X12_as (hG : jG n K r) {i : jI} {j : jL} {x0 : Nat} {x1 : Int32} {x2 : Int32} (hx0 : x0 < n ∧ K x0 = 11) (h : J_X12_as len r Q i j x0 x1 x2) : Met l yX12_as wsX12_as rm_X12_as (va_Pc [.ref (b + x0), .int x1, .int x2] (jPre b cy D tU n K len r i j)) (jQi b cy D tU n K len r Q) 0 0 (jA b) := by
  refine Met.ofW (cc := cX12_as) (maxL := 4) (ret := (some .int)) (by decide) rfl ?_
  intro p e s m args below meth c s₁ B hml hv
  obtain ⟨rfl, hv⟩ := hv
  have C0 : jCx p s m _ c cX12_as 4 wsX12_as RX12 b cy D tU n K r := ⟨B.exec, B.bytes, hml, findClass_of_methodNamed B.named, atoms_spec (ws := wsX12_as) B.pre, hv.2.2, hG⟩
  have hr := B.returns
  have hlk := B.notSynchronized
  obtain ⟨hx, hb, hml, hown, hts, hst, hG⟩ := id C0
  have hiX12 : ∀ w ∈ u_ws RX12 TX12 51, w ∈ wsX12_as := hiX12_X12_as
  have w := jDy.start hv
  have hl := lv_entry ([.ref (b + x0), .int x1, .int x2]) (n := 4) (Nat.le_of_ble_eq_true rfl)
  rw [lg_entry_eq]
  generalize (lg_sl ([.ref (b + x0), .int x1, .int x2]) ++ List.replicate (4 - (lg_sl ([.ref (b + x0), .int x1, .int x2])).length) Slot.unset).toArray = ls at hl ⊢
  replace hl : lv_has ls 4 [(0, .ref (b + x0)), (1, .int x1), (2, .int x2)] := hl
  show W p l e rm_X12_as s m _ below meth c s.heap [] 0 0 _ (F0 m 0 ls [])
  rw [J_X12_as] at h
  refine lv_aload_n hx hb dX12_as_0 rfl (lv_at hl 0 rfl) ?_
  refine lv_iload_n hx hb dX12_as_1 rfl (lv_at hl 1 rfl) ?_
  refine jcV_i (k := x0) (As := [.int x1]) (rest := []) C0 w (c_X12_isWalker hG hx0 h) (cwV 1 hts gX12_as_X12_isWalker rfl rfl rfl (by decide +kernel) ⟨Nat.le_of_ble_eq_true rfl, Nat.le_of_ble_eq_true rfl⟩) hx0 (rfl : vwCl[11]? = some (RX12, TX12, 51)) (by decide) rfl hl.1 rfl (Nat.le_of_ble_eq_true rfl) dX12_as_2 (fun q2 i2 j2 H locs h w => ?_) ⟨Nat.zero_le _, Nat.zero_le _⟩
  refine lv_if_ne (tgt := 11) hx hb dX12_as_5 (by decide) (fun hc => ?_) (fun hc => ?_)
  · replace h := h.1 hc
    clear hc
    refine lv_iload_n hx hb dX12_as_11 rfl (lv_at hl 2 rfl) ?_
    refine lv_iconst (v := (0 : Int32)) hx hb dX12_as_12 (by decide) ?_
    refine lv_iconst (v := (4 : Int32)) hx hb dX12_as_13 (by decide) ?_
    refine jcS_i (As := [.int x2, .int (0 : Int32), .int (4 : Int32)]) (rest := []) C0 w (c_X12_within hG h) (va_cwS 3 hts gX12_as_X12_within rfl rfl rfl (by decide +kernel) ⟨Nat.le_of_ble_eq_true rfl, Nat.le_of_ble_eq_true rfl⟩) rfl hl.1 rfl (Nat.le_of_ble_eq_true rfl) dX12_as_14 (fun q14 i14 j14 H locs h w => ?_) ⟨Nat.zero_le _, Nat.zero_le _⟩
    refine lv_if_ne (tgt := 23) hx hb dX12_as_17 (by decide) (fun hc => ?_) (fun hc => ?_)
    · replace h := h.1 hc
      clear hc
      refine lv_aload_n hx hb dX12_as_23 rfl (lv_at hl 0 rfl) ?_
      obtain ⟨a24, hr0, h⟩ := h
      refine jgr (f := 9) hx hb hts hown hst w hG hx0 hiX12 (rfl : vwCl[11]? = some (RX12, TX12, 51)) (hts (.fieldLink RX12 22 "FootByGateModel" "kindOf" "[I") (by decide +kernel)) ⟨by decide, by decide, rfl⟩ (rfl : jrt 11 9 = 13) dX12_as_24 hr0 (fun ha24 => ?_)
      clear hr0
      refine lv_iload_n hx hb dX12_as_27 rfl (lv_at hl 1 rfl) ?_
      obtain ⟨hn, h⟩ := h
      refine jaid hx hb hst w ha24 hn dX12_as_28 ?_
      clear hn
      refine lv_topi (fun v29 he => ?_)
      replace h := h v29 he
      clear he
      refine lv_istore_n (lv' := [(3, .int v29), (0, .ref (b + x0)), (1, .int x1), (2, .int x2)]) hx hb dX12_as_29 rfl hl (by decide) rfl (fun ls hl => ?_)
      refine lv_iload_n hx hb dX12_as_30 rfl (lv_at hl 3 rfl) ?_
      refine lv_if_eq (tgt := 49) hx hb dX12_as_31 (by decide) (fun hc => ?_) (fun hc => ?_)
      · replace h := h.1 hc
        clear hc
        exact w_X12_as_L49 C0 hr hlk w (lv_sub hl [2] rfl) h
      · replace h := h.2 hc
        clear hc
        refine lv_iload_n hx hb dX12_as_34 rfl (lv_at hl 0 rfl) ?_
        refine lv_iload_n hx hb dX12_as_35 rfl (lv_at hl 3 rfl) ?_
        refine lv_icmp_eq (tgt := 49) hx hb dX12_as_36 (by decide) (fun hc => ?_) (fun hc => ?_)
        · replace h := h.1 hc
          clear hc
          exact w_X12_as_L49 C0 hr hlk w (lv_sub hl [2] rfl) h
        · replace h := h.2 hc
          clear hc
          refine lv_iload_n hx hb dX12_as_39 rfl (lv_at hl 3 rfl) ?_
          refine lv_iconst (v := (2 : Int32)) hx hb dX12_as_40 (by decide) ?_
          refine lv_icmp_ne (tgt := 53) hx hb dX12_as_41 (by decide) (fun hc => ?_) (fun hc => ?_)
          · replace h := h.1 hc
            clear hc
            exact w_X12_as_L53 C0 hr hlk w (lv_sub hl [] rfl) h
          · replace h := h.2 hc
            clear hc
            refine lv_iload_n hx hb dX12_as_44 rfl (lv_at hl 0 rfl) ?_
            refine lv_iconst (v := (4 : Int32)) hx hb dX12_as_45 (by decide) ?_
            refine lv_icmp_ne (tgt := 53) hx hb dX12_as_46 (by decide) (fun hc => ?_) (fun hc => ?_)
            · replace h := h.1 hc
              clear hc
              exact w_X12_as_L53 C0 hr hlk w (lv_sub hl [] rfl) h
            · replace h := h.2 hc
              clear hc
              exact w_X12_as_L49 C0 hr hlk w (lv_sub hl [2] rfl) h
    · replace h := h.2 hc
      clear hc
      refine lv_bipush (v := (-102 : Int32)) hx hb dX12_as_20 (by decide) ?_
      exact jret_i hx hb hr hlk hst w h dX12_as_22
  · replace h := h.2 hc
    clear hc
    refine lv_bipush (v := (-101 : Int32)) hx hb dX12_as_8 (by decide) ?_
    exact jret_i hx hb hr hlk hst w h dX12_as_10
end S_X12_as
section S_X12_isAt
def J_X12_isAt_L26 (len : Nat → Nat) (r : jR) (Q : Int32 → jI → jL → Prop) (i : jI) (j : jL) : Prop := Q (1 : Int32) i j
def J_X12_isAt (len : Nat → Nat) (r : jR) (Q : Int32 → jI → jL → Prop) (i : jI) (j : jL) (x0 : Nat) (x1 : Int32) (x2 : Int32) : Prop := ∃ a1, r x0 1 = some a1 ∧ (vp_in x2 (len a1) ∧ (J_X12_placeIn len r (fun (q7 : Int32) (i7 : jI) (j7 : jL) => (((i a1 x2.toNatClampNeg) = q7) → (J_X12_isAt_L26 len r Q i7 j7 )) ∧ ((¬ (i a1 x2.toNatClampNeg) = q7) → (∃ a14, r x0 2 = some a14 ∧ (vp_in x2 (len a14) ∧ (J_X12_placeIn len r (fun (q20 : Int32) (i20 : jI) (j20 : jL) => ((¬ (i7 a14 x2.toNatClampNeg) = q20) → (Q (0 : Int32) i20 j20)) ∧ (((i7 a14 x2.toNatClampNeg) = q20) → (J_X12_isAt_L26 len r Q i20 j20 ))) i7 j7 x1))))) i j x1))
abbrev rm_X12_isAt : Room := { frames := 1, cells := 0, slots := 0, locals := 20 }
variable {p : Program} {l : Launch} {e : Env} {s : State} {m : MethodId} {args : Array Value} {below : List Frame} {meth : Method} {c : Code} {b tU n : Nat} {cy : Nat → ClassId} {D : va_G} {K len : Nat → Nat} {r : jR} {Q : Int32 → jI → jL → Prop}
theorem hiX12_X12_isAt : ∀ w ∈ u_ws RX12 TX12 51, w ∈ wsX12_isAt := by decide +kernel
set_option maxHeartbeats 4000000 in
set_option maxRecDepth 100000 in
theorem w_X12_isAt_L26 (C0 : jCx p s m args c cX12_isAt 3 wsX12_isAt RX12 b cy D tU n K r) (hr : meth.sig.returnType = some .boolean) (hlk : meth.locks = false) {H : Heap} {locs : List Loc} {ls : Array Slot} {i : jI} {j : jL}  (w : jDy b cy D n K len r i j s H locs) (hl : lv_has ls 3 []) (h : J_X12_isAt_L26 len r Q i j) : W p l e rm_X12_isAt s m args below meth c H locs 0 0 (MQ below (jQi b cy D tU n K len r Q) args s 0 0 (jA b)) (F0 m 26 ls []) := by
  obtain ⟨hx, hb, hml, hown, hts, hst, hG⟩ := id C0
  have hiX12 : ∀ w ∈ u_ws RX12 TX12 51, w ∈ wsX12_isAt := hiX12_X12_isAt
  rw [J_X12_isAt_L26] at h
  refine lv_iconst (v := (1 : Int32)) hx hb dX12_isAt_26 (by decide) ?_
  refine lv_goto (tgt := 31) hx hb dX12_isAt_27 (by decide) ?_
  exact jret_z hx hb hr hlk hst w (by decide) h dX12_isAt_31
set_option maxHeartbeats 4000000 in
set_option maxRecDepth 100000 in
theorem c_X12_isAt (hG : jG n K r) {i : jI} {j : jL} {x0 : Nat} {x1 : Int32} {x2 : Int32} (hx0 : x0 < n ∧ K x0 = 11) (h : J_X12_isAt len r Q i j x0 x1 x2) : Met l yX12_isAt wsX12_isAt rm_X12_isAt (va_Pc [.ref (b + x0), .int x1, .int x2] (jPre b cy D tU n K len r i j)) (jQi b cy D tU n K len r Q) 0 0 (jA b) := by
  refine Met.ofW (cc := cX12_isAt) (maxL := 3) (ret := (some .boolean)) (by decide) rfl ?_
  intro p e s m args below meth c s₁ B hml hv
  obtain ⟨rfl, hv⟩ := hv
  have C0 : jCx p s m _ c cX12_isAt 3 wsX12_isAt RX12 b cy D tU n K r := ⟨B.exec, B.bytes, hml, findClass_of_methodNamed B.named, atoms_spec (ws := wsX12_isAt) B.pre, hv.2.2, hG⟩
  have hr := B.returns
  have hlk := B.notSynchronized
  obtain ⟨hx, hb, hml, hown, hts, hst, hG⟩ := id C0
  have hiX12 : ∀ w ∈ u_ws RX12 TX12 51, w ∈ wsX12_isAt := hiX12_X12_isAt
  have w := jDy.start hv
  have hl := lv_entry ([.ref (b + x0), .int x1, .int x2]) (n := 3) (Nat.le_of_ble_eq_true rfl)
  rw [lg_entry_eq]
  generalize (lg_sl ([.ref (b + x0), .int x1, .int x2]) ++ List.replicate (3 - (lg_sl ([.ref (b + x0), .int x1, .int x2])).length) Slot.unset).toArray = ls at hl ⊢
  replace hl : lv_has ls 3 [(0, .ref (b + x0)), (1, .int x1), (2, .int x2)] := hl
  show W p l e rm_X12_isAt s m _ below meth c s.heap [] 0 0 _ (F0 m 0 ls [])
  rw [J_X12_isAt] at h
  refine lv_aload_n hx hb dX12_isAt_0 rfl (lv_at hl 0 rfl) ?_
  obtain ⟨a1, hr0, h⟩ := h
  refine jgr (f := 1) hx hb hts hown hst w hG hx0 hiX12 (rfl : vwCl[11]? = some (RX12, TX12, 51)) (hts (.fieldLink RX12 7 "FootByGateModel" "placeA" "[I") (by decide +kernel)) ⟨by decide, by decide, rfl⟩ (rfl : jrt 11 1 = 13) dX12_isAt_1 hr0 (fun ha1 => ?_)
  clear hr0
  refine lv_iload_n hx hb dX12_isAt_4 rfl (lv_at hl 2 rfl) ?_
  obtain ⟨hn, h⟩ := h
  refine jaid hx hb hst w ha1 hn dX12_isAt_5 ?_
  clear hn
  refine lv_iload_n hx hb dX12_isAt_6 rfl (lv_at hl 1 rfl) ?_
  refine jcS_i (As := [.int x1]) (rest := [.int (i a1 x2.toNatClampNeg)]) C0 w (c_X12_placeIn hG h) (va_cwS 1 hts gX12_isAt_X12_placeIn rfl rfl rfl (by decide +kernel) ⟨Nat.le_of_ble_eq_true rfl, Nat.le_of_ble_eq_true rfl⟩) rfl hl.1 rfl (Nat.le_of_ble_eq_true rfl) dX12_isAt_7 (fun q7 i7 j7 H locs h w => ?_) ⟨Nat.zero_le _, Nat.zero_le _⟩
  refine lv_icmp_eq (tgt := 26) hx hb dX12_isAt_10 (by decide) (fun hc => ?_) (fun hc => ?_)
  · replace h := h.1 hc
    clear hc
    exact w_X12_isAt_L26 C0 hr hlk w (lv_sub hl [] rfl) h
  · replace h := h.2 hc
    clear hc
    refine lv_aload_n hx hb dX12_isAt_13 rfl (lv_at hl 0 rfl) ?_
    obtain ⟨a14, hr0, h⟩ := h
    refine jgr (f := 2) hx hb hts hown hst w hG hx0 hiX12 (rfl : vwCl[11]? = some (RX12, TX12, 51)) (hts (.fieldLink RX12 13 "FootByGateModel" "placeB" "[I") (by decide +kernel)) ⟨by decide, by decide, rfl⟩ (rfl : jrt 11 2 = 13) dX12_isAt_14 hr0 (fun ha14 => ?_)
    clear hr0
    refine lv_iload_n hx hb dX12_isAt_17 rfl (lv_at hl 2 rfl) ?_
    obtain ⟨hn, h⟩ := h
    refine jaid hx hb hst w ha14 hn dX12_isAt_18 ?_
    clear hn
    refine lv_iload_n hx hb dX12_isAt_19 rfl (lv_at hl 1 rfl) ?_
    refine jcS_i (As := [.int x1]) (rest := [.int (i7 a14 x2.toNatClampNeg)]) C0 w (c_X12_placeIn hG h) (va_cwS 1 hts gX12_isAt_X12_placeIn rfl rfl rfl (by decide +kernel) ⟨Nat.le_of_ble_eq_true rfl, Nat.le_of_ble_eq_true rfl⟩) rfl hl.1 rfl (Nat.le_of_ble_eq_true rfl) dX12_isAt_20 (fun q20 i20 j20 H locs h w => ?_) ⟨Nat.zero_le _, Nat.zero_le _⟩
    refine lv_icmp_ne (tgt := 30) hx hb dX12_isAt_23 (by decide) (fun hc => ?_) (fun hc => ?_)
    · replace h := h.1 hc
      clear hc
      refine lv_iconst (v := (0 : Int32)) hx hb dX12_isAt_30 (by decide) ?_
      exact jret_z hx hb hr hlk hst w (by decide) h dX12_isAt_31
    · replace h := h.2 hc
      clear hc
      exact w_X12_isAt_L26 C0 hr hlk w (lv_sub hl [] rfl) h
end S_X12_isAt
section S_X12_stepsBy
def J_X12_stepsBy (len : Nat → Nat) (r : jR) (Q : Int32 → jI → jL → Prop) (i : jI) (j : jL) (x0 : Int32) (x1 : Int32) : Prop := ((x0 = (1 : Int32)) → (Q (x1 + (x1 / (2 : Int32))) i j)) ∧ (((x0 = (2 : Int32)) → (Q ((x1 + (1 : Int32)) / (2 : Int32)) i j)) ∧ (((x0 = (3 : Int32)) → (Q x1 i j)) ∧ (((x0 = (4 : Int32)) → (Q (((x1 + (1 : Int32)) / (2 : Int32)) + (1 : Int32)) i j)) ∧ ((¬ x0 = (1 : Int32) → ¬ x0 = (2 : Int32) → ¬ x0 = (3 : Int32) → ¬ x0 = (4 : Int32) → (Q x1 i j))))))
abbrev rm_X12_stepsBy : Room := { frames := 0, cells := 0, slots := 0, locals := 0 }
variable {p : Program} {l : Launch} {e : Env} {s : State} {m : MethodId} {args : Array Value} {below : List Frame} {meth : Method} {c : Code} {b tU n : Nat} {cy : Nat → ClassId} {D : va_G} {K len : Nat → Nat} {r : jR} {Q : Int32 → jI → jL → Prop}
set_option maxHeartbeats 4000000 in
set_option maxRecDepth 100000 in
theorem c_X12_stepsBy (hG : jG n K r) {i : jI} {j : jL} {x0 : Int32} {x1 : Int32} (h : J_X12_stepsBy len r Q i j x0 x1) : Met l yX12_stepsBy wsX12_stepsBy rm_X12_stepsBy (va_Pc [.int x0, .int x1] (jPre b cy D tU n K len r i j)) (jQi b cy D tU n K len r Q) 0 0 (jA b) := by
  refine Met.ofW (cc := cX12_stepsBy) (maxL := 2) (ret := (some .int)) (by decide) rfl ?_
  intro p e s m args below meth c s₁ B hml hv
  obtain ⟨rfl, hv⟩ := hv
  have C0 : jCx p s m _ c cX12_stepsBy 2 wsX12_stepsBy RX12 b cy D tU n K r := ⟨B.exec, B.bytes, hml, findClass_of_methodNamed B.named, atoms_spec (ws := wsX12_stepsBy) B.pre, hv.2.2, hG⟩
  have hr := B.returns
  have hlk := B.notSynchronized
  obtain ⟨hx, hb, hml, hown, hts, hst, hG⟩ := id C0
  have w := jDy.start hv
  have hl := lv_entry ([.int x0, .int x1]) (n := 2) (Nat.le_of_ble_eq_true rfl)
  rw [lg_entry_eq]
  generalize (lg_sl ([.int x0, .int x1]) ++ List.replicate (2 - (lg_sl ([.int x0, .int x1])).length) Slot.unset).toArray = ls at hl ⊢
  replace hl : lv_has ls 2 [(0, .int x0), (1, .int x1)] := hl
  show W p l e rm_X12_stepsBy s m _ below meth c s.heap [] 0 0 _ (F0 m 0 ls [])
  rw [J_X12_stepsBy] at h
  refine lv_iload_n hx hb dX12_stepsBy_0 rfl (lv_at hl 0 rfl) ?_
  by_cases hc0 : x0 = (1 : Int32)
  · replace h := h.1 hc0
    refine lv_tableIn (off := 31) (tgt := 32) hx hb dX12_stepsBy_1 (by rw [hc0]; decide) (by rw [hc0]; decide) (by rw [hc0]; rfl) (by decide) ?_
    clear hc0
    refine lv_iload_n hx hb dX12_stepsBy_32 rfl (lv_at hl 1 rfl) ?_
    refine lv_iload_n hx hb dX12_stepsBy_33 rfl (lv_at hl 1 rfl) ?_
    refine lv_iconst (v := (2 : Int32)) hx hb dX12_stepsBy_34 (by decide) ?_
    refine lv_idiv hx hb dX12_stepsBy_35 (by decide) ?_
    refine lv_iadd hx hb dX12_stepsBy_36 ?_
    exact jret_i hx hb hr hlk hst w h dX12_stepsBy_37
  replace h := h.2
  by_cases hc1 : x0 = (2 : Int32)
  · replace h := h.1 hc1
    refine lv_tableIn (off := 37) (tgt := 38) hx hb dX12_stepsBy_1 (by rw [hc1]; decide) (by rw [hc1]; decide) (by rw [hc1]; rfl) (by decide) ?_
    clear hc1
    refine lv_iload_n hx hb dX12_stepsBy_38 rfl (lv_at hl 1 rfl) ?_
    refine lv_iconst (v := (1 : Int32)) hx hb dX12_stepsBy_39 (by decide) ?_
    refine lv_iadd hx hb dX12_stepsBy_40 ?_
    refine lv_iconst (v := (2 : Int32)) hx hb dX12_stepsBy_41 (by decide) ?_
    refine lv_idiv hx hb dX12_stepsBy_42 (by decide) ?_
    exact jret_i hx hb hr hlk hst w h dX12_stepsBy_43
  replace h := h.2
  by_cases hc2 : x0 = (3 : Int32)
  · replace h := h.1 hc2
    refine lv_tableIn (off := 51) (tgt := 52) hx hb dX12_stepsBy_1 (by rw [hc2]; decide) (by rw [hc2]; decide) (by rw [hc2]; rfl) (by decide) ?_
    clear hc2
    refine lv_iload_n hx hb dX12_stepsBy_52 rfl (lv_at hl 1 rfl) ?_
    exact jret_i hx hb hr hlk hst w h dX12_stepsBy_53
  replace h := h.2
  by_cases hc3 : x0 = (4 : Int32)
  · replace h := h.1 hc3
    refine lv_tableIn (off := 43) (tgt := 44) hx hb dX12_stepsBy_1 (by rw [hc3]; decide) (by rw [hc3]; decide) (by rw [hc3]; rfl) (by decide) ?_
    clear hc3
    refine lv_iload_n hx hb dX12_stepsBy_44 rfl (lv_at hl 1 rfl) ?_
    refine lv_iconst (v := (1 : Int32)) hx hb dX12_stepsBy_45 (by decide) ?_
    refine lv_iadd hx hb dX12_stepsBy_46 ?_
    refine lv_iconst (v := (2 : Int32)) hx hb dX12_stepsBy_47 (by decide) ?_
    refine lv_idiv hx hb dX12_stepsBy_48 (by decide) ?_
    refine lv_iconst (v := (1 : Int32)) hx hb dX12_stepsBy_49 (by decide) ?_
    refine lv_iadd hx hb dX12_stepsBy_50 ?_
    exact jret_i hx hb hr hlk hst w h dX12_stepsBy_51
  replace h := h.2
  replace h := h hc0 hc1 hc2 hc3
  have hd : x0.toInt < 1 ∨ 4 < x0.toInt := by
    rcases Int.lt_or_le x0.toInt 1 with h1 | h1
    · exact Or.inl h1
    rcases Int.lt_or_le 4 x0.toInt with h2 | h2
    · exact Or.inr h2
    exfalso
    have h3 : x0.toInt = 1 ∨ x0.toInt = 2 ∨ x0.toInt = 3 ∨ x0.toInt = 4 := by omega
    rcases h3 with h3 | h3 | h3 | h3
    · exact hc0 (Int32.toInt_inj.mp (h3.trans (by decide)))
    · exact hc1 (Int32.toInt_inj.mp (h3.trans (by decide)))
    · exact hc2 (Int32.toInt_inj.mp (h3.trans (by decide)))
    · exact hc3 (Int32.toInt_inj.mp (h3.trans (by decide)))
  refine lv_tableOut (tgt := 52) hx hb dX12_stepsBy_1 hd (by decide) ?_
  clear hd hc0 hc1 hc2 hc3
  refine lv_iload_n hx hb dX12_stepsBy_52 rfl (lv_at hl 1 rfl) ?_
  exact jret_i hx hb hr hlk hst w h dX12_stepsBy_53
end S_X12_stepsBy
section S_X12_behind
def J_X12_behind_L173 (len : Nat → Nat) (r : jR) (Q : Int32 → jI → jL → Prop) (i : jI) (j : jL) (x8 : Int32) : Prop := Q x8 i j
def J_X12_behind_L178 (len : Nat → Nat) (r : jR) (Q : Int32 → jI → jL → Prop) (i : jI) (j : jL) : Prop := Q (-1 : Int32) i j
def J_X12_behind_L113 (len : Nat → Nat) (r : jR) (Q : Int32 → jI → jL → Prop) (i : jI) (j : jL) (x0 : Nat) (x2 : Int32) (x4 : Int32) (x6 : Int32) (x7 : Int32) (t0 : Int32) (t1 : Int32) : Prop := ∀ v114 : Int32, v114 = t0 + t1 → (((¬ x7 = (-1 : Int32)) → (J_X12_markIn len r (fun (q128 : Int32) (i128 : jI) (j128 : jL) => ((x4 = 0) → (((q128 = x6) → (J_X12_behind_L173 len r Q i128 j128 v114)) ∧ ((¬ q128 = x6) → (((¬ q128 = (-1 : Int32)) → (J_X12_behind_L178 len r Q i128 j128 )) ∧ ((q128 = (-1 : Int32)) → ((((i128 x0 6) = 0) → (J_X12_behind_L178 len r Q i128 j128 )) ∧ ((¬ (i128 x0 6) = 0) → (J_X12_behind_L173 len r Q i128 j128 v114)))))))) ∧ ((¬ x4 = 0) → (J_X12_weight len r (fun (q142 : Int32) (i142 : jI) (j142 : jL) => Q (v114 + (q142 * (x6 - q128))) i142 j142) i128 j128 x7))) i j x2 x7)) ∧ ((x7 = (-1 : Int32)) → (Q v114 i j)))
def J_X12_behind_L52 (len : Nat → Nat) (r : jR) (Q : Int32 → jI → jL → Prop) (i : jI) (j : jL) (x0 : Nat) (x2 : Int32) (x3 : Int32) (x4 : Int32) (t0 : Int32) : Prop := J_X12_footIn len r (fun (q55 : Int32) (i55 : jI) (j55 : jL) => ∀ v63 : Int32, v63 = (q55 + t0) - (q55 + t0) / (2 : Int32) * (2 : Int32) → (∃ a66, r x0 4 = some a66 ∧ (vp_in x3 (len a66) ∧ (∀ v71 : Int32, v71 = i55 a66 x3.toNatClampNeg → (J_X12_placeIn len r (fun (q75 : Int32) (i75 : jI) (j75 : jL) => J_X12_footIn len r (fun (q82 : Int32) (i82 : jI) (j82 : jL) => ((x4 = 0) → (∃ a108, r x0 1 = some a108 ∧ (vp_in x3 (len a108) ∧ (J_X12_behind_L113 len r Q i82 j82 x0 x2 x4 v63 v71 (((x2 - q75) - ((7 : Int32) * q82)) + ((7 : Int32) * v63)) (i82 a108 x3.toNatClampNeg))))) ∧ ((¬ x4 = 0) → (∃ a99, r x0 2 = some a99 ∧ (vp_in x3 (len a99) ∧ (J_X12_behind_L113 len r Q i82 j82 x0 x2 x4 v63 v71 (((x2 - q75) - ((7 : Int32) * q82)) + ((7 : Int32) * v63)) (i82 a99 x3.toNatClampNeg)))))) i75 j75 x2) i55 j55 x2))))) i j x2
def J_X12_behind_L29 (len : Nat → Nat) (r : jR) (Q : Int32 → jI → jL → Prop) (i : jI) (j : jL) (x0 : Nat) (x1 : Int32) (x2 : Int32) (x3 : Int32) (t0 : Int32) : Prop := ((¬ x1 = (3 : Int32)) → (∃ a42, r x0 3 = some a42 ∧ (vp_in x3 (len a42) ∧ (J_X12_stepsBy len r (fun (q47 : Int32) (i47 : jI) (j47 : jL) => J_X12_behind_L52 len r Q i47 j47 x0 x2 x3 t0 (q47 - q47 / (2 : Int32) * (2 : Int32))) i j x1 (i a42 x3.toNatClampNeg))))) ∧ ((x1 = (3 : Int32)) → (J_X12_behind_L52 len r Q i j x0 x2 x3 t0 (0 : Int32)))
def J_X12_behind (len : Nat → Nat) (r : jR) (Q : Int32 → jI → jL → Prop) (i : jI) (j : jL) (x0 : Nat) (x1 : Int32) (x2 : Int32) (x3 : Int32) : Prop := J_X12_isAt len r (fun (q3 : Int32) (i3 : jI) (j3 : jL) => ((¬ q3 = 0) → (∃ a12, r x0 1 = some a12 ∧ (vp_in x3 (len a12) ∧ (J_X12_placeIn len r (fun (q18 : Int32) (i18 : jI) (j18 : jL) => ((¬ (i3 a12 x3.toNatClampNeg) = q18) → (J_X12_behind_L29 len r Q i18 j18 x0 x1 x2 x3 (0 : Int32))) ∧ (((i3 a12 x3.toNatClampNeg) = q18) → (J_X12_behind_L29 len r Q i18 j18 x0 x1 x2 x3 (1 : Int32)))) i3 j3 x2)))) ∧ ((q3 = 0) → (Q (-1 : Int32) i3 j3))) i j x0 x2 x3
abbrev rm_X12_behind : Room := { frames := 2, cells := 0, slots := 0, locals := 42 }
variable {p : Program} {l : Launch} {e : Env} {s : State} {m : MethodId} {args : Array Value} {below : List Frame} {meth : Method} {c : Code} {b tU n : Nat} {cy : Nat → ClassId} {D : va_G} {K len : Nat → Nat} {r : jR} {Q : Int32 → jI → jL → Prop}
theorem hiX12_X12_behind : ∀ w ∈ u_ws RX12 TX12 51, w ∈ wsX12_behind := by decide +kernel
set_option maxHeartbeats 4000000 in
set_option maxRecDepth 100000 in
theorem w_X12_behind_L173 (C0 : jCx p s m args c cX12_behind 10 wsX12_behind RX12 b cy D tU n K r) (hr : meth.sig.returnType = some .int) (hlk : meth.locks = false) {H : Heap} {locs : List Loc} {ls : Array Slot} {i : jI} {j : jL} {x8 : Int32} (w : jDy b cy D n K len r i j s H locs) (hl : lv_has ls 10 [(8, .int x8)]) (h : J_X12_behind_L173 len r Q i j x8) : W p l e rm_X12_behind s m args below meth c H locs 0 0 (MQ below (jQi b cy D tU n K len r Q) args s 0 0 (jA b)) (F0 m 173 ls []) := by
  obtain ⟨hx, hb, hml, hown, hts, hst, hG⟩ := id C0
  have hiX12 : ∀ w ∈ u_ws RX12 TX12 51, w ∈ wsX12_behind := hiX12_X12_behind
  rw [J_X12_behind_L173] at h
  refine lv_iload hx hb dX12_behind_173 (lv_at hl 0 rfl) ?_
  refine lv_goto (tgt := 179) hx hb dX12_behind_175 (by decide) ?_
  exact jret_i hx hb hr hlk hst w h dX12_behind_179
set_option maxHeartbeats 4000000 in
set_option maxRecDepth 100000 in
theorem w_X12_behind_L178 (C0 : jCx p s m args c cX12_behind 10 wsX12_behind RX12 b cy D tU n K r) (hr : meth.sig.returnType = some .int) (hlk : meth.locks = false) {H : Heap} {locs : List Loc} {ls : Array Slot} {i : jI} {j : jL}  (w : jDy b cy D n K len r i j s H locs) (hl : lv_has ls 10 []) (h : J_X12_behind_L178 len r Q i j) : W p l e rm_X12_behind s m args below meth c H locs 0 0 (MQ below (jQi b cy D tU n K len r Q) args s 0 0 (jA b)) (F0 m 178 ls []) := by
  obtain ⟨hx, hb, hml, hown, hts, hst, hG⟩ := id C0
  have hiX12 : ∀ w ∈ u_ws RX12 TX12 51, w ∈ wsX12_behind := hiX12_X12_behind
  rw [J_X12_behind_L178] at h
  refine lv_iconst (v := (-1 : Int32)) hx hb dX12_behind_178 (by decide) ?_
  exact jret_i hx hb hr hlk hst w h dX12_behind_179
set_option maxHeartbeats 4000000 in
set_option maxRecDepth 100000 in
theorem w_X12_behind_L113 (C0 : jCx p s m args c cX12_behind 10 wsX12_behind RX12 b cy D tU n K r) (hr : meth.sig.returnType = some .int) (hlk : meth.locks = false) {H : Heap} {locs : List Loc} {ls : Array Slot} {i : jI} {j : jL} {x0 : Nat} {x2 : Int32} {x4 : Int32} {x6 : Int32} {x7 : Int32} {t0 : Int32} {t1 : Int32} (w : jDy b cy D n K len r i j s H locs) (hx0 : x0 < n ∧ K x0 = 11) (hl : lv_has ls 10 [(0, .ref (b + x0)), (2, .int x2), (4, .int x4), (6, .int x6), (7, .int x7)]) (h : J_X12_behind_L113 len r Q i j x0 x2 x4 x6 x7 t0 t1) : W p l e rm_X12_behind s m args below meth c H locs 0 0 (MQ below (jQi b cy D tU n K len r Q) args s 0 0 (jA b)) (F0 m 113 ls [.int t1, .int t0]) := by
  obtain ⟨hx, hb, hml, hown, hts, hst, hG⟩ := id C0
  have hiX12 : ∀ w ∈ u_ws RX12 TX12 51, w ∈ wsX12_behind := hiX12_X12_behind
  rw [J_X12_behind_L113] at h
  refine lv_iadd hx hb dX12_behind_113 ?_
  refine lv_topi (fun v114 he => ?_)
  replace h := h v114 he
  clear he
  refine lv_istore (lv' := [(8, .int v114), (0, .ref (b + x0)), (2, .int x2), (4, .int x4), (6, .int x6), (7, .int x7)]) hx hb dX12_behind_114 hl (by decide) rfl (fun ls hl => ?_)
  refine lv_iload hx hb dX12_behind_116 (lv_at hl 5 rfl) ?_
  refine lv_iconst (v := (-1 : Int32)) hx hb dX12_behind_118 (by decide) ?_
  refine lv_icmp_ne (tgt := 125) hx hb dX12_behind_119 (by decide) (fun hc => ?_) (fun hc => ?_)
  · replace h := h.1 hc
    clear hc
    refine lv_iload_n hx hb dX12_behind_125 rfl (lv_at hl 2 rfl) ?_
    refine lv_iload hx hb dX12_behind_126 (lv_at hl 5 rfl) ?_
    refine jcS_i (As := [.int x2, .int x7]) (rest := []) C0 w (c_X12_markIn hG h) (va_cwS 2 hts gX12_behind_X12_markIn rfl rfl rfl (by decide +kernel) ⟨Nat.le_of_ble_eq_true rfl, Nat.le_of_ble_eq_true rfl⟩) rfl hl.1 rfl (Nat.le_of_ble_eq_true rfl) dX12_behind_128 (fun q128 i128 j128 H locs h w => ?_) ⟨Nat.zero_le _, Nat.zero_le _⟩
    refine lv_istore (lv' := [(9, .int q128), (8, .int v114), (0, .ref (b + x0)), (2, .int x2), (4, .int x4), (6, .int x6), (7, .int x7)]) hx hb dX12_behind_131 hl (by decide) rfl (fun ls hl => ?_)
    refine lv_iload hx hb dX12_behind_133 (lv_at hl 4 rfl) ?_
    refine lv_if_eq (tgt := 153) hx hb dX12_behind_135 (by decide) (fun hc => ?_) (fun hc => ?_)
    · replace h := h.1 hc
      clear hc
      refine lv_iload hx hb dX12_behind_153 (lv_at hl 0 rfl) ?_
      refine lv_iload hx hb dX12_behind_155 (lv_at hl 5 rfl) ?_
      refine lv_icmp_eq (tgt := 173) hx hb dX12_behind_157 (by decide) (fun hc => ?_) (fun hc => ?_)
      · replace h := h.1 hc
        clear hc
        exact w_X12_behind_L173 C0 hr hlk w (lv_sub hl [1] rfl) h
      · replace h := h.2 hc
        clear hc
        refine lv_iload hx hb dX12_behind_160 (lv_at hl 0 rfl) ?_
        refine lv_iconst (v := (-1 : Int32)) hx hb dX12_behind_162 (by decide) ?_
        refine lv_icmp_ne (tgt := 178) hx hb dX12_behind_163 (by decide) (fun hc => ?_) (fun hc => ?_)
        · replace h := h.1 hc
          clear hc
          exact w_X12_behind_L178 C0 hr hlk w (lv_sub hl [] rfl) h
        · replace h := h.2 hc
          clear hc
          refine lv_aload_n hx hb dX12_behind_166 rfl (lv_at hl 2 rfl) ?_
          refine jgi (f := 6) hx hb hts hown hst w hx0 hiX12 (rfl : vwCl[11]? = some (RX12, TX12, 51)) (hts (.fieldLink RX12 132 "FootByGateModel" "isFree" "Z") (by decide +kernel)) ⟨by decide, by decide, rfl⟩ dX12_behind_167 ?_
          refine lv_if_eq (tgt := 178) hx hb dX12_behind_170 (by decide) (fun hc => ?_) (fun hc => ?_)
          · replace h := h.1 hc
            clear hc
            exact w_X12_behind_L178 C0 hr hlk w (lv_sub hl [] rfl) h
          · replace h := h.2 hc
            clear hc
            exact w_X12_behind_L173 C0 hr hlk w (lv_sub hl [1] rfl) h
    · replace h := h.2 hc
      clear hc
      refine lv_iload hx hb dX12_behind_138 (lv_at hl 1 rfl) ?_
      refine lv_iload hx hb dX12_behind_140 (lv_at hl 6 rfl) ?_
      refine jcS_i (As := [.int x7]) (rest := [.int v114]) C0 w (c_X12_weight hG h) (va_cwS 1 hts gX12_behind_X12_weight rfl rfl rfl (by decide +kernel) ⟨Nat.le_of_ble_eq_true rfl, Nat.le_of_ble_eq_true rfl⟩) rfl hl.1 rfl (Nat.le_of_ble_eq_true rfl) dX12_behind_142 (fun q142 i142 j142 H locs h w => ?_) ⟨Nat.zero_le _, Nat.zero_le _⟩
      refine lv_iload hx hb dX12_behind_145 (lv_at hl 5 rfl) ?_
      refine lv_iload hx hb dX12_behind_147 (lv_at hl 0 rfl) ?_
      refine lv_isub hx hb dX12_behind_149 ?_
      refine lv_imul hx hb dX12_behind_150 ?_
      refine lv_iadd hx hb dX12_behind_151 ?_
      exact jret_i hx hb hr hlk hst w h dX12_behind_152
  · replace h := h.2 hc
    clear hc
    refine lv_iload hx hb dX12_behind_122 (lv_at hl 0 rfl) ?_
    exact jret_i hx hb hr hlk hst w h dX12_behind_124
set_option maxHeartbeats 4000000 in
set_option maxRecDepth 100000 in
theorem w_X12_behind_L52 (C0 : jCx p s m args c cX12_behind 10 wsX12_behind RX12 b cy D tU n K r) (hr : meth.sig.returnType = some .int) (hlk : meth.locks = false) {H : Heap} {locs : List Loc} {ls : Array Slot} {i : jI} {j : jL} {x0 : Nat} {x2 : Int32} {x3 : Int32} {x4 : Int32} {t0 : Int32} (w : jDy b cy D n K len r i j s H locs) (hx0 : x0 < n ∧ K x0 = 11) (hl : lv_has ls 10 [(0, .ref (b + x0)), (2, .int x2), (3, .int x3), (4, .int x4)]) (h : J_X12_behind_L52 len r Q i j x0 x2 x3 x4 t0) : W p l e rm_X12_behind s m args below meth c H locs 0 0 (MQ below (jQi b cy D tU n K len r Q) args s 0 0 (jA b)) (F0 m 52 ls [.int t0]) := by
  obtain ⟨hx, hb, hml, hown, hts, hst, hG⟩ := id C0
  have hiX12 : ∀ w ∈ u_ws RX12 TX12 51, w ∈ wsX12_behind := hiX12_X12_behind
  rw [J_X12_behind_L52] at h
  refine lv_istore (lv' := [(5, .int t0), (0, .ref (b + x0)), (2, .int x2), (3, .int x3), (4, .int x4)]) hx hb dX12_behind_52 hl (by decide) rfl (fun ls hl => ?_)
  refine lv_iload_n hx hb dX12_behind_54 rfl (lv_at hl 2 rfl) ?_
  refine jcS_i (As := [.int x2]) (rest := []) C0 w (c_X12_footIn hG h) (va_cwS 1 hts gX12_behind_X12_footIn rfl rfl rfl (by decide +kernel) ⟨Nat.le_of_ble_eq_true rfl, Nat.le_of_ble_eq_true rfl⟩) rfl hl.1 rfl (Nat.le_of_ble_eq_true rfl) dX12_behind_55 (fun q55 i55 j55 H locs h w => ?_) ⟨Nat.zero_le _, Nat.zero_le _⟩
  refine lv_iload hx hb dX12_behind_58 (lv_at hl 0 rfl) ?_
  refine lv_iadd hx hb dX12_behind_60 ?_
  refine lv_iconst (v := (2 : Int32)) hx hb dX12_behind_61 (by decide) ?_
  refine lv_irem hx hb dX12_behind_62 (by decide) ?_
  refine lv_topi (fun v63 he => ?_)
  replace h := h v63 he
  clear he
  refine lv_istore (lv' := [(6, .int v63), (5, .int t0), (0, .ref (b + x0)), (2, .int x2), (3, .int x3), (4, .int x4)]) hx hb dX12_behind_63 hl (by decide) rfl (fun ls hl => ?_)
  refine lv_aload_n hx hb dX12_behind_65 rfl (lv_at hl 2 rfl) ?_
  obtain ⟨a66, hr0, h⟩ := h
  refine jgr (f := 4) hx hb hts hown hst w hG hx0 hiX12 (rfl : vwCl[11]? = some (RX12, TX12, 51)) (hts (.fieldLink RX12 19 "FootByGateModel" "gateOf" "[I") (by decide +kernel)) ⟨by decide, by decide, rfl⟩ (rfl : jrt 11 4 = 13) dX12_behind_66 hr0 (fun ha66 => ?_)
  clear hr0
  refine lv_iload_n hx hb dX12_behind_69 rfl (lv_at hl 4 rfl) ?_
  obtain ⟨hn, h⟩ := h
  refine jaid hx hb hst w ha66 hn dX12_behind_70 ?_
  clear hn
  refine lv_topi (fun v71 he => ?_)
  replace h := h v71 he
  clear he
  refine lv_istore (lv' := [(7, .int v71), (6, .int v63), (5, .int t0), (0, .ref (b + x0)), (2, .int x2), (3, .int x3), (4, .int x4)]) hx hb dX12_behind_71 hl (by decide) rfl (fun ls hl => ?_)
  refine lv_iload_n hx hb dX12_behind_73 rfl (lv_at hl 4 rfl) ?_
  refine lv_iload_n hx hb dX12_behind_74 rfl (lv_at hl 4 rfl) ?_
  refine jcS_i (As := [.int x2]) (rest := [.int x2]) C0 w (c_X12_placeIn hG h) (va_cwS 1 hts gX12_behind_X12_placeIn rfl rfl rfl (by decide +kernel) ⟨Nat.le_of_ble_eq_true rfl, Nat.le_of_ble_eq_true rfl⟩) rfl hl.1 rfl (Nat.le_of_ble_eq_true rfl) dX12_behind_75 (fun q75 i75 j75 H locs h w => ?_) ⟨Nat.zero_le _, Nat.zero_le _⟩
  refine lv_isub hx hb dX12_behind_78 ?_
  refine lv_bipush (v := (7 : Int32)) hx hb dX12_behind_79 (by decide) ?_
  refine lv_iload_n hx hb dX12_behind_81 rfl (lv_at hl 4 rfl) ?_
  refine jcS_i (As := [.int x2]) (rest := [.int (7 : Int32), .int (x2 - q75)]) C0 w (c_X12_footIn hG h) (va_cwS 1 hts gX12_behind_X12_footIn rfl rfl rfl (by decide +kernel) ⟨Nat.le_of_ble_eq_true rfl, Nat.le_of_ble_eq_true rfl⟩) rfl hl.1 rfl (Nat.le_of_ble_eq_true rfl) dX12_behind_82 (fun q82 i82 j82 H locs h w => ?_) ⟨Nat.zero_le _, Nat.zero_le _⟩
  refine lv_imul hx hb dX12_behind_85 ?_
  refine lv_isub hx hb dX12_behind_86 ?_
  refine lv_bipush (v := (7 : Int32)) hx hb dX12_behind_87 (by decide) ?_
  refine lv_iload hx hb dX12_behind_89 (lv_at hl 1 rfl) ?_
  refine lv_imul hx hb dX12_behind_91 ?_
  refine lv_iadd hx hb dX12_behind_92 ?_
  refine lv_iload hx hb dX12_behind_93 (lv_at hl 6 rfl) ?_
  refine lv_if_eq (tgt := 107) hx hb dX12_behind_95 (by decide) (fun hc => ?_) (fun hc => ?_)
  · replace h := h.1 hc
    clear hc
    refine lv_aload_n hx hb dX12_behind_107 rfl (lv_at hl 3 rfl) ?_
    obtain ⟨a108, hr0, h⟩ := h
    refine jgr (f := 1) hx hb hts hown hst w hG hx0 hiX12 (rfl : vwCl[11]? = some (RX12, TX12, 51)) (hts (.fieldLink RX12 7 "FootByGateModel" "placeA" "[I") (by decide +kernel)) ⟨by decide, by decide, rfl⟩ (rfl : jrt 11 1 = 13) dX12_behind_108 hr0 (fun ha108 => ?_)
    clear hr0
    refine lv_iload_n hx hb dX12_behind_111 rfl (lv_at hl 5 rfl) ?_
    obtain ⟨hn, h⟩ := h
    refine jaid hx hb hst w ha108 hn dX12_behind_112 ?_
    clear hn
    exact w_X12_behind_L113 C0 hr hlk w hx0 (lv_sub hl [3, 4, 6, 1, 0] rfl) h
  · replace h := h.2 hc
    clear hc
    refine lv_aload_n hx hb dX12_behind_98 rfl (lv_at hl 3 rfl) ?_
    obtain ⟨a99, hr0, h⟩ := h
    refine jgr (f := 2) hx hb hts hown hst w hG hx0 hiX12 (rfl : vwCl[11]? = some (RX12, TX12, 51)) (hts (.fieldLink RX12 13 "FootByGateModel" "placeB" "[I") (by decide +kernel)) ⟨by decide, by decide, rfl⟩ (rfl : jrt 11 2 = 13) dX12_behind_99 hr0 (fun ha99 => ?_)
    clear hr0
    refine lv_iload_n hx hb dX12_behind_102 rfl (lv_at hl 5 rfl) ?_
    obtain ⟨hn, h⟩ := h
    refine jaid hx hb hst w ha99 hn dX12_behind_103 ?_
    clear hn
    refine lv_goto (tgt := 113) hx hb dX12_behind_104 (by decide) ?_
    exact w_X12_behind_L113 C0 hr hlk w hx0 (lv_sub hl [3, 4, 6, 1, 0] rfl) h
set_option maxHeartbeats 4000000 in
set_option maxRecDepth 100000 in
theorem w_X12_behind_L29 (C0 : jCx p s m args c cX12_behind 10 wsX12_behind RX12 b cy D tU n K r) (hr : meth.sig.returnType = some .int) (hlk : meth.locks = false) {H : Heap} {locs : List Loc} {ls : Array Slot} {i : jI} {j : jL} {x0 : Nat} {x1 : Int32} {x2 : Int32} {x3 : Int32} {t0 : Int32} (w : jDy b cy D n K len r i j s H locs) (hx0 : x0 < n ∧ K x0 = 11) (hl : lv_has ls 10 [(0, .ref (b + x0)), (1, .int x1), (2, .int x2), (3, .int x3)]) (h : J_X12_behind_L29 len r Q i j x0 x1 x2 x3 t0) : W p l e rm_X12_behind s m args below meth c H locs 0 0 (MQ below (jQi b cy D tU n K len r Q) args s 0 0 (jA b)) (F0 m 29 ls [.int t0]) := by
  obtain ⟨hx, hb, hml, hown, hts, hst, hG⟩ := id C0
  have hiX12 : ∀ w ∈ u_ws RX12 TX12 51, w ∈ wsX12_behind := hiX12_X12_behind
  rw [J_X12_behind_L29] at h
  refine lv_istore (lv' := [(4, .int t0), (0, .ref (b + x0)), (1, .int x1), (2, .int x2), (3, .int x3)]) hx hb dX12_behind_29 hl (by decide) rfl (fun ls hl => ?_)
  refine lv_iload_n hx hb dX12_behind_31 rfl (lv_at hl 2 rfl) ?_
  refine lv_iconst (v := (3 : Int32)) hx hb dX12_behind_32 (by decide) ?_
  refine lv_icmp_ne (tgt := 40) hx hb dX12_behind_33 (by decide) (fun hc => ?_) (fun hc => ?_)
  · replace h := h.1 hc
    clear hc
    refine lv_iload_n hx hb dX12_behind_40 rfl (lv_at hl 2 rfl) ?_
    refine lv_aload_n hx hb dX12_behind_41 rfl (lv_at hl 1 rfl) ?_
    obtain ⟨a42, hr0, h⟩ := h
    refine jgr (f := 3) hx hb hts hown hst w hG hx0 hiX12 (rfl : vwCl[11]? = some (RX12, TX12, 51)) (hts (.fieldLink RX12 16 "FootByGateModel" "pacesOf" "[I") (by decide +kernel)) ⟨by decide, by decide, rfl⟩ (rfl : jrt 11 3 = 13) dX12_behind_42 hr0 (fun ha42 => ?_)
    clear hr0
    refine lv_iload_n hx hb dX12_behind_45 rfl (lv_at hl 4 rfl) ?_
    obtain ⟨hn, h⟩ := h
    refine jaid hx hb hst w ha42 hn dX12_behind_46 ?_
    clear hn
    refine jcS_i (As := [.int x1, .int (i a42 x3.toNatClampNeg)]) (rest := []) C0 w (c_X12_stepsBy hG h) (va_cwS 2 hts gX12_behind_X12_stepsBy rfl rfl rfl (by decide +kernel) ⟨Nat.le_of_ble_eq_true rfl, Nat.le_of_ble_eq_true rfl⟩) rfl hl.1 rfl (Nat.le_of_ble_eq_true rfl) dX12_behind_47 (fun q47 i47 j47 H locs h w => ?_) ⟨Nat.zero_le _, Nat.zero_le _⟩
    refine lv_iconst (v := (2 : Int32)) hx hb dX12_behind_50 (by decide) ?_
    refine lv_irem hx hb dX12_behind_51 (by decide) ?_
    exact w_X12_behind_L52 C0 hr hlk w hx0 (lv_sub hl [1, 3, 4, 0] rfl) h
  · replace h := h.2 hc
    clear hc
    refine lv_iconst (v := (0 : Int32)) hx hb dX12_behind_36 (by decide) ?_
    refine lv_goto (tgt := 52) hx hb dX12_behind_37 (by decide) ?_
    exact w_X12_behind_L52 C0 hr hlk w hx0 (lv_sub hl [1, 3, 4, 0] rfl) h
set_option maxHeartbeats 4000000 in
set_option maxRecDepth 100000 in
theorem c_X12_behind (hG : jG n K r) {i : jI} {j : jL} {x0 : Nat} {x1 : Int32} {x2 : Int32} {x3 : Int32} (hx0 : x0 < n ∧ K x0 = 11) (h : J_X12_behind len r Q i j x0 x1 x2 x3) : Met l yX12_behind wsX12_behind rm_X12_behind (va_Pc [.ref (b + x0), .int x1, .int x2, .int x3] (jPre b cy D tU n K len r i j)) (jQi b cy D tU n K len r Q) 0 0 (jA b) := by
  refine Met.ofW (cc := cX12_behind) (maxL := 10) (ret := (some .int)) (by decide) rfl ?_
  intro p e s m args below meth c s₁ B hml hv
  obtain ⟨rfl, hv⟩ := hv
  have C0 : jCx p s m _ c cX12_behind 10 wsX12_behind RX12 b cy D tU n K r := ⟨B.exec, B.bytes, hml, findClass_of_methodNamed B.named, atoms_spec (ws := wsX12_behind) B.pre, hv.2.2, hG⟩
  have hr := B.returns
  have hlk := B.notSynchronized
  obtain ⟨hx, hb, hml, hown, hts, hst, hG⟩ := id C0
  have hiX12 : ∀ w ∈ u_ws RX12 TX12 51, w ∈ wsX12_behind := hiX12_X12_behind
  have w := jDy.start hv
  have hl := lv_entry ([.ref (b + x0), .int x1, .int x2, .int x3]) (n := 10) (Nat.le_of_ble_eq_true rfl)
  rw [lg_entry_eq]
  generalize (lg_sl ([.ref (b + x0), .int x1, .int x2, .int x3]) ++ List.replicate (10 - (lg_sl ([.ref (b + x0), .int x1, .int x2, .int x3])).length) Slot.unset).toArray = ls at hl ⊢
  replace hl : lv_has ls 10 [(0, .ref (b + x0)), (1, .int x1), (2, .int x2), (3, .int x3)] := hl
  show W p l e rm_X12_behind s m _ below meth c s.heap [] 0 0 _ (F0 m 0 ls [])
  rw [J_X12_behind] at h
  refine lv_aload_n hx hb dX12_behind_0 rfl (lv_at hl 0 rfl) ?_
  refine lv_iload_n hx hb dX12_behind_1 rfl (lv_at hl 2 rfl) ?_
  refine lv_iload_n hx hb dX12_behind_2 rfl (lv_at hl 3 rfl) ?_
  refine jcV_i (k := x0) (As := [.int x2, .int x3]) (rest := []) C0 w (c_X12_isAt hG hx0 h) (cwV 2 hts gX12_behind_X12_isAt rfl rfl rfl (by decide +kernel) ⟨Nat.le_of_ble_eq_true rfl, Nat.le_of_ble_eq_true rfl⟩) hx0 (rfl : vwCl[11]? = some (RX12, TX12, 51)) (by decide) rfl hl.1 rfl (Nat.le_of_ble_eq_true rfl) dX12_behind_3 (fun q3 i3 j3 H locs h w => ?_) ⟨Nat.zero_le _, Nat.zero_le _⟩
  refine lv_if_ne (tgt := 11) hx hb dX12_behind_6 (by decide) (fun hc => ?_) (fun hc => ?_)
  · replace h := h.1 hc
    clear hc
    refine lv_aload_n hx hb dX12_behind_11 rfl (lv_at hl 0 rfl) ?_
    obtain ⟨a12, hr0, h⟩ := h
    refine jgr (f := 1) hx hb hts hown hst w hG hx0 hiX12 (rfl : vwCl[11]? = some (RX12, TX12, 51)) (hts (.fieldLink RX12 7 "FootByGateModel" "placeA" "[I") (by decide +kernel)) ⟨by decide, by decide, rfl⟩ (rfl : jrt 11 1 = 13) dX12_behind_12 hr0 (fun ha12 => ?_)
    clear hr0
    refine lv_iload_n hx hb dX12_behind_15 rfl (lv_at hl 3 rfl) ?_
    obtain ⟨hn, h⟩ := h
    refine jaid hx hb hst w ha12 hn dX12_behind_16 ?_
    clear hn
    refine lv_iload_n hx hb dX12_behind_17 rfl (lv_at hl 2 rfl) ?_
    refine jcS_i (As := [.int x2]) (rest := [.int (i3 a12 x3.toNatClampNeg)]) C0 w (c_X12_placeIn hG h) (va_cwS 1 hts gX12_behind_X12_placeIn rfl rfl rfl (by decide +kernel) ⟨Nat.le_of_ble_eq_true rfl, Nat.le_of_ble_eq_true rfl⟩) rfl hl.1 rfl (Nat.le_of_ble_eq_true rfl) dX12_behind_18 (fun q18 i18 j18 H locs h w => ?_) ⟨Nat.zero_le _, Nat.zero_le _⟩
    refine lv_icmp_ne (tgt := 28) hx hb dX12_behind_21 (by decide) (fun hc => ?_) (fun hc => ?_)
    · replace h := h.1 hc
      clear hc
      refine lv_iconst (v := (0 : Int32)) hx hb dX12_behind_28 (by decide) ?_
      exact w_X12_behind_L29 C0 hr hlk w hx0 (lv_sub hl [0, 1, 2, 3] rfl) h
    · replace h := h.2 hc
      clear hc
      refine lv_iconst (v := (1 : Int32)) hx hb dX12_behind_24 (by decide) ?_
      refine lv_goto (tgt := 29) hx hb dX12_behind_25 (by decide) ?_
      exact w_X12_behind_L29 C0 hr hlk w hx0 (lv_sub hl [0, 1, 2, 3] rfl) h
  · replace h := h.2 hc
    clear hc
    refine lv_iconst (v := (-1 : Int32)) hx hb dX12_behind_9 (by decide) ?_
    exact jret_i hx hb hr hlk hst w h dX12_behind_10
end S_X12_behind
section S_X12_blank
def J_X12_blank (len : Nat → Nat) (r : jR) (Q : Int32 → jI → jL → Prop) (i : jI) (j : jL) (x0 : Nat) : Prop := ∀ v4 : Int32, v4 = i x0 15 → (∀ i7 : jI, i7 = ju i x0 15 (0 : Int32) → (Q v4 i7 j))
abbrev rm_X12_blank : Room := { frames := 0, cells := 0, slots := 0, locals := 0 }
variable {p : Program} {l : Launch} {e : Env} {s : State} {m : MethodId} {args : Array Value} {below : List Frame} {meth : Method} {c : Code} {b tU n : Nat} {cy : Nat → ClassId} {D : va_G} {K len : Nat → Nat} {r : jR} {Q : Int32 → jI → jL → Prop}
theorem hiX12_X12_blank : ∀ w ∈ u_ws RX12 TX12 51, w ∈ wsX12_blank := by decide +kernel
set_option maxHeartbeats 4000000 in
set_option maxRecDepth 100000 in
theorem c_X12_blank (hG : jG n K r) {i : jI} {j : jL} {x0 : Nat} (hx0 : x0 < n ∧ K x0 = 11) (h : J_X12_blank len r Q i j x0) : Met l yX12_blank wsX12_blank rm_X12_blank (va_Pc [.ref (b + x0)] (jPre b cy D tU n K len r i j)) (jQi b cy D tU n K len r Q) 0 0 (jA b) := by
  refine Met.ofW (cc := cX12_blank) (maxL := 2) (ret := (some .int)) (by decide) rfl ?_
  intro p e s m args below meth c s₁ B hml hv
  obtain ⟨rfl, hv⟩ := hv
  have C0 : jCx p s m _ c cX12_blank 2 wsX12_blank RX12 b cy D tU n K r := ⟨B.exec, B.bytes, hml, findClass_of_methodNamed B.named, atoms_spec (ws := wsX12_blank) B.pre, hv.2.2, hG⟩
  have hr := B.returns
  have hlk := B.notSynchronized
  obtain ⟨hx, hb, hml, hown, hts, hst, hG⟩ := id C0
  have hiX12 : ∀ w ∈ u_ws RX12 TX12 51, w ∈ wsX12_blank := hiX12_X12_blank
  have w := jDy.start hv
  have hl := lv_entry ([.ref (b + x0)]) (n := 2) (Nat.le_of_ble_eq_true rfl)
  rw [lg_entry_eq]
  generalize (lg_sl ([.ref (b + x0)]) ++ List.replicate (2 - (lg_sl ([.ref (b + x0)])).length) Slot.unset).toArray = ls at hl ⊢
  replace hl : lv_has ls 2 [(0, .ref (b + x0))] := hl
  show W p l e rm_X12_blank s m _ below meth c s.heap [] 0 0 _ (F0 m 0 ls [])
  rw [J_X12_blank] at h
  refine lv_aload_n hx hb dX12_blank_0 rfl (lv_at hl 0 rfl) ?_
  refine jgi (f := 15) hx hb hts hown hst w hx0 hiX12 (rfl : vwCl[11]? = some (RX12, TX12, 51)) (hts (.fieldLink RX12 95 "FootByGateModel" "pageLength" "I") (by decide +kernel)) ⟨by decide, by decide, rfl⟩ dX12_blank_1 ?_
  refine lv_topi (fun v4 he => ?_)
  replace h := h v4 he
  clear he
  refine lv_istore_n (lv' := [(1, .int v4), (0, .ref (b + x0))]) hx hb dX12_blank_4 rfl hl (by decide) rfl (fun ls hl => ?_)
  refine lv_aload_n hx hb dX12_blank_5 rfl (lv_at hl 1 rfl) ?_
  refine lv_iconst (v := (0 : Int32)) hx hb dX12_blank_6 (by decide) ?_
  refine jpi (f := 15) hx hb hts hown hst w hx0 hiX12 (rfl : vwCl[11]? = some (RX12, TX12, 51)) (hts (.fieldLink RX12 95 "FootByGateModel" "pageLength" "I") (by decide +kernel)) ⟨by decide, by decide, rfl⟩ tyX12 tyX12_ok nmX12 rfl ⟨rfl, rfl⟩ dX12_blank_7 (fun i7 H locs he w => ?_)
  replace h := h i7 he
  clear he
  refine lv_iload_n hx hb dX12_blank_10 rfl (lv_at hl 0 rfl) ?_
  exact jret_i hx hb hr hlk hst w h dX12_blank_11
end S_X12_blank
section S_X12_comeBoth
def J_X12_comeBoth_L67 (len : Nat → Nat) (r : jR) (Q : jI → jL → Prop) (i : jI) (j : jL) (x0 : Nat) (t0 : Nat) (t1 : Int32) : Prop := ∀ i67 : jI, i67 = ju i t0 37 t1 → (∀ i77 : jI, i77 = ju i67 x0 36 ((i67 x0 36) + (1 : Int32)) → (Q i77 j))
def J_X12_comeBoth (len : Nat → Nat) (r : jR) (Q : jI → jL → Prop) (i : jI) (j : jL) (x0 : Nat) (x1 : Int32) (x2 : Int32) : Prop := ∃ a2, r x0 33 = some a2 ∧ (vp_in x1 (len a2) ∧ (((x2 < (i a2 x1.toNatClampNeg)) → (∃ a12, r x0 33 = some a12 ∧ (vp_in x1 (len a12) ∧ ∀ i17 : jI, i17 = ju i a12 x1.toNatClampNeg x2 → (∃ a19, r x0 35 = some a19 ∧ (vp_in x1 (len a19) ∧ (((¬ (i17 a19 x1.toNatClampNeg) = 0) → (Q i17 j)) ∧ (((i17 a19 x1.toNatClampNeg) = 0) → (∃ a28, r x0 35 = some a28 ∧ (vp_in x1 (len a28) ∧ ∀ i33 : jI, i33 = ju i17 a28 x1.toNatClampNeg (vp_nar .boolean (1 : Int32)) → (∃ a35, r x0 34 = some a35 ∧ (vp_in (i33 x0 37) (len a35) ∧ ∀ i43 : jI, i43 = ju i33 a35 (i33 x0 37).toNatClampNeg x1 → (((¬ ((i43 x0 37) + (1 : Int32)) = (20412 : Int32)) → (J_X12_comeBoth_L67 len r Q i43 j x0 x0 ((i43 x0 37) + (1 : Int32)))) ∧ ((((i43 x0 37) + (1 : Int32)) = (20412 : Int32)) → (J_X12_comeBoth_L67 len r Q i43 j x0 x0 (0 : Int32))))))))))))))) ∧ ((¬ x2 < (i a2 x1.toNatClampNeg)) → (Q i j))))
abbrev rm_X12_comeBoth : Room := { frames := 0, cells := 0, slots := 0, locals := 0 }
variable {p : Program} {l : Launch} {e : Env} {s : State} {m : MethodId} {args : Array Value} {below : List Frame} {meth : Method} {c : Code} {b tU n : Nat} {cy : Nat → ClassId} {D : va_G} {K len : Nat → Nat} {r : jR} {Q : jI → jL → Prop}
theorem hiX12_X12_comeBoth : ∀ w ∈ u_ws RX12 TX12 51, w ∈ wsX12_comeBoth := by decide +kernel
set_option maxHeartbeats 4000000 in
set_option maxRecDepth 100000 in
theorem w_X12_comeBoth_L67 (C0 : jCx p s m args c cX12_comeBoth 3 wsX12_comeBoth RX12 b cy D tU n K r) (hr : meth.sig.returnType = none) (hlk : meth.locks = false) {H : Heap} {locs : List Loc} {ls : Array Slot} {i : jI} {j : jL} {x0 : Nat} {t0 : Nat} {t1 : Int32} (w : jDy b cy D n K len r i j s H locs) (hx0 : x0 < n ∧ K x0 = 11) (ht0 : t0 < n ∧ K t0 = 11) (hl : lv_has ls 3 [(0, .ref (b + x0))]) (h : J_X12_comeBoth_L67 len r Q i j x0 t0 t1) : W p l e rm_X12_comeBoth s m args below meth c H locs 0 0 (MQ below (jQv b cy D tU n K len r Q) args s 0 0 (jA b)) (F0 m 67 ls [.int t1, .ref (b + t0)]) := by
  obtain ⟨hx, hb, hml, hown, hts, hst, hG⟩ := id C0
  have hiX12 : ∀ w ∈ u_ws RX12 TX12 51, w ∈ wsX12_comeBoth := hiX12_X12_comeBoth
  rw [J_X12_comeBoth_L67] at h
  refine jpi (f := 37) hx hb hts hown hst w ht0 hiX12 (rfl : vwCl[11]? = some (RX12, TX12, 51)) (hts (.fieldLink RX12 245 "FootByGateModel" "bothEnd" "I") (by decide +kernel)) ⟨by decide, by decide, rfl⟩ tyX12 tyX12_ok nmX12 rfl ⟨rfl, rfl⟩ dX12_comeBoth_67 (fun i67 H locs he w => ?_)
  replace h := h i67 he
  clear he
  refine lv_aload_n hx hb dX12_comeBoth_70 rfl (lv_at hl 0 rfl) ?_
  refine lv_dup hx hb dX12_comeBoth_71 rfl ?_
  refine jgi (f := 36) hx hb hts hown hst w hx0 hiX12 (rfl : vwCl[11]? = some (RX12, TX12, 51)) (hts (.fieldLink RX12 248 "FootByGateModel" "bothMany" "I") (by decide +kernel)) ⟨by decide, by decide, rfl⟩ dX12_comeBoth_72 ?_
  refine lv_iconst (v := (1 : Int32)) hx hb dX12_comeBoth_75 (by decide) ?_
  refine lv_iadd hx hb dX12_comeBoth_76 ?_
  refine jpi (f := 36) hx hb hts hown hst w hx0 hiX12 (rfl : vwCl[11]? = some (RX12, TX12, 51)) (hts (.fieldLink RX12 248 "FootByGateModel" "bothMany" "I") (by decide +kernel)) ⟨by decide, by decide, rfl⟩ tyX12 tyX12_ok nmX12 rfl ⟨rfl, rfl⟩ dX12_comeBoth_77 (fun i77 H locs he w => ?_)
  replace h := h i77 he
  clear he
  exact jret_v hx hb hr hlk hst w h dX12_comeBoth_80
set_option maxHeartbeats 4000000 in
set_option maxRecDepth 100000 in
theorem c_X12_comeBoth (hG : jG n K r) {i : jI} {j : jL} {x0 : Nat} {x1 : Int32} {x2 : Int32} (hx0 : x0 < n ∧ K x0 = 11) (h : J_X12_comeBoth len r Q i j x0 x1 x2) : Met l yX12_comeBoth wsX12_comeBoth rm_X12_comeBoth (va_Pc [.ref (b + x0), .int x1, .int x2] (jPre b cy D tU n K len r i j)) (jQv b cy D tU n K len r Q) 0 0 (jA b) := by
  refine Met.ofW (cc := cX12_comeBoth) (maxL := 3) (ret := none) (by decide) rfl ?_
  intro p e s m args below meth c s₁ B hml hv
  obtain ⟨rfl, hv⟩ := hv
  have C0 : jCx p s m _ c cX12_comeBoth 3 wsX12_comeBoth RX12 b cy D tU n K r := ⟨B.exec, B.bytes, hml, findClass_of_methodNamed B.named, atoms_spec (ws := wsX12_comeBoth) B.pre, hv.2.2, hG⟩
  have hr := B.returns
  have hlk := B.notSynchronized
  obtain ⟨hx, hb, hml, hown, hts, hst, hG⟩ := id C0
  have hiX12 : ∀ w ∈ u_ws RX12 TX12 51, w ∈ wsX12_comeBoth := hiX12_X12_comeBoth
  have w := jDy.start hv
  have hl := lv_entry ([.ref (b + x0), .int x1, .int x2]) (n := 3) (Nat.le_of_ble_eq_true rfl)
  rw [lg_entry_eq]
  generalize (lg_sl ([.ref (b + x0), .int x1, .int x2]) ++ List.replicate (3 - (lg_sl ([.ref (b + x0), .int x1, .int x2])).length) Slot.unset).toArray = ls at hl ⊢
  replace hl : lv_has ls 3 [(0, .ref (b + x0)), (1, .int x1), (2, .int x2)] := hl
  show W p l e rm_X12_comeBoth s m _ below meth c s.heap [] 0 0 _ (F0 m 0 ls [])
  rw [J_X12_comeBoth] at h
  refine lv_iload_n hx hb dX12_comeBoth_0 rfl (lv_at hl 2 rfl) ?_
  refine lv_aload_n hx hb dX12_comeBoth_1 rfl (lv_at hl 0 rfl) ?_
  obtain ⟨a2, hr0, h⟩ := h
  refine jgr (f := 33) hx hb hts hown hst w hG hx0 hiX12 (rfl : vwCl[11]? = some (RX12, TX12, 51)) (hts (.fieldLink RX12 66 "FootByGateModel" "bothCost" "[I") (by decide +kernel)) ⟨by decide, by decide, rfl⟩ (rfl : jrt 11 33 = 13) dX12_comeBoth_2 hr0 (fun ha2 => ?_)
  clear hr0
  refine lv_iload_n hx hb dX12_comeBoth_5 rfl (lv_at hl 1 rfl) ?_
  obtain ⟨hn, h⟩ := h
  refine jaid hx hb hst w ha2 hn dX12_comeBoth_6 ?_
  clear hn
  refine lv_icmp_lt (tgt := 11) hx hb dX12_comeBoth_7 (by decide) (fun hc => ?_) (fun hc => ?_)
  · replace h := h.1 hc
    clear hc
    refine lv_aload_n hx hb dX12_comeBoth_11 rfl (lv_at hl 0 rfl) ?_
    obtain ⟨a12, hr0, h⟩ := h
    refine jgr (f := 33) hx hb hts hown hst w hG hx0 hiX12 (rfl : vwCl[11]? = some (RX12, TX12, 51)) (hts (.fieldLink RX12 66 "FootByGateModel" "bothCost" "[I") (by decide +kernel)) ⟨by decide, by decide, rfl⟩ (rfl : jrt 11 33 = 13) dX12_comeBoth_12 hr0 (fun ha12 => ?_)
    clear hr0
    refine lv_iload_n hx hb dX12_comeBoth_15 rfl (lv_at hl 1 rfl) ?_
    refine lv_iload_n hx hb dX12_comeBoth_16 rfl (lv_at hl 2 rfl) ?_
    obtain ⟨hn, h⟩ := h
    refine jais hx hb hst w ha12 hn dX12_comeBoth_17 (fun i17 H locs he w => ?_)
    replace h := h i17 he
    clear he hn
    refine lv_aload_n hx hb dX12_comeBoth_18 rfl (lv_at hl 0 rfl) ?_
    obtain ⟨a19, hr0, h⟩ := h
    refine jgr (f := 35) hx hb hts hown hst w hG hx0 hiX12 (rfl : vwCl[11]? = some (RX12, TX12, 51)) (hts (.fieldLink RX12 72 "FootByGateModel" "bothWaits" "[Z") (by decide +kernel)) ⟨by decide, by decide, rfl⟩ (rfl : jrt 11 35 = 15) dX12_comeBoth_19 hr0 (fun ha19 => ?_)
    clear hr0
    refine lv_iload_n hx hb dX12_comeBoth_22 rfl (lv_at hl 1 rfl) ?_
    obtain ⟨hn, h⟩ := h
    refine jazd hx hb hst w ha19 hn dX12_comeBoth_23 ?_
    clear hn
    refine lv_if_ne (tgt := 80) hx hb dX12_comeBoth_24 (by decide) (fun hc => ?_) (fun hc => ?_)
    · replace h := h.1 hc
      clear hc
      exact jret_v hx hb hr hlk hst w h dX12_comeBoth_80
    · replace h := h.2 hc
      clear hc
      refine lv_aload_n hx hb dX12_comeBoth_27 rfl (lv_at hl 0 rfl) ?_
      obtain ⟨a28, hr0, h⟩ := h
      refine jgr (f := 35) hx hb hts hown hst w hG hx0 hiX12 (rfl : vwCl[11]? = some (RX12, TX12, 51)) (hts (.fieldLink RX12 72 "FootByGateModel" "bothWaits" "[Z") (by decide +kernel)) ⟨by decide, by decide, rfl⟩ (rfl : jrt 11 35 = 15) dX12_comeBoth_28 hr0 (fun ha28 => ?_)
      clear hr0
      refine lv_iload_n hx hb dX12_comeBoth_31 rfl (lv_at hl 1 rfl) ?_
      refine lv_iconst (v := (1 : Int32)) hx hb dX12_comeBoth_32 (by decide) ?_
      obtain ⟨hn, h⟩ := h
      refine jazs hx hb hst w ha28 hn dX12_comeBoth_33 (fun i33 H locs he w => ?_)
      replace h := h i33 he
      clear he hn
      refine lv_aload_n hx hb dX12_comeBoth_34 rfl (lv_at hl 0 rfl) ?_
      obtain ⟨a35, hr0, h⟩ := h
      refine jgr (f := 34) hx hb hts hown hst w hG hx0 hiX12 (rfl : vwCl[11]? = some (RX12, TX12, 51)) (hts (.fieldLink RX12 69 "FootByGateModel" "bothQueue" "[I") (by decide +kernel)) ⟨by decide, by decide, rfl⟩ (rfl : jrt 11 34 = 13) dX12_comeBoth_35 hr0 (fun ha35 => ?_)
      clear hr0
      refine lv_aload_n hx hb dX12_comeBoth_38 rfl (lv_at hl 0 rfl) ?_
      refine jgi (f := 37) hx hb hts hown hst w hx0 hiX12 (rfl : vwCl[11]? = some (RX12, TX12, 51)) (hts (.fieldLink RX12 245 "FootByGateModel" "bothEnd" "I") (by decide +kernel)) ⟨by decide, by decide, rfl⟩ dX12_comeBoth_39 ?_
      refine lv_iload_n hx hb dX12_comeBoth_42 rfl (lv_at hl 1 rfl) ?_
      obtain ⟨hn, h⟩ := h
      refine jais hx hb hst w ha35 hn dX12_comeBoth_43 (fun i43 H locs he w => ?_)
      replace h := h i43 he
      clear he hn
      refine lv_aload_n hx hb dX12_comeBoth_44 rfl (lv_at hl 0 rfl) ?_
      refine lv_aload_n hx hb dX12_comeBoth_45 rfl (lv_at hl 0 rfl) ?_
      refine jgi (f := 37) hx hb hts hown hst w hx0 hiX12 (rfl : vwCl[11]? = some (RX12, TX12, 51)) (hts (.fieldLink RX12 245 "FootByGateModel" "bothEnd" "I") (by decide +kernel)) ⟨by decide, by decide, rfl⟩ dX12_comeBoth_46 ?_
      refine lv_iconst (v := (1 : Int32)) hx hb dX12_comeBoth_49 (by decide) ?_
      refine lv_iadd hx hb dX12_comeBoth_50 ?_
      refine lv_sipush (v := (20412 : Int32)) hx hb dX12_comeBoth_51 (by decide) ?_
      refine lv_icmp_ne (tgt := 61) hx hb dX12_comeBoth_54 (by decide) (fun hc => ?_) (fun hc => ?_)
      · replace h := h.1 hc
        clear hc
        refine lv_aload_n hx hb dX12_comeBoth_61 rfl (lv_at hl 0 rfl) ?_
        refine jgi (f := 37) hx hb hts hown hst w hx0 hiX12 (rfl : vwCl[11]? = some (RX12, TX12, 51)) (hts (.fieldLink RX12 245 "FootByGateModel" "bothEnd" "I") (by decide +kernel)) ⟨by decide, by decide, rfl⟩ dX12_comeBoth_62 ?_
        refine lv_iconst (v := (1 : Int32)) hx hb dX12_comeBoth_65 (by decide) ?_
        refine lv_iadd hx hb dX12_comeBoth_66 ?_
        exact w_X12_comeBoth_L67 C0 hr hlk w hx0 hx0 (lv_sub hl [0] rfl) h
      · replace h := h.2 hc
        clear hc
        refine lv_iconst (v := (0 : Int32)) hx hb dX12_comeBoth_57 (by decide) ?_
        refine lv_goto (tgt := 67) hx hb dX12_comeBoth_58 (by decide) ?_
        exact w_X12_comeBoth_L67 C0 hr hlk w hx0 hx0 (lv_sub hl [0] rfl) h
  · replace h := h.2 hc
    clear hc
    exact jret_v hx hb hr hlk hst w h dX12_comeBoth_10
end S_X12_comeBoth
section S_X12_together
def J_X12_together (len : Nat → Nat) (r : jR) (Q : Int32 → jI → jL → Prop) (i : jI) (j : jL) (x0 : Int32) (x1 : Int32) : Prop := Q (((((x0 / (7 : Int32)) * (54 : Int32)) + (x1 / (7 : Int32))) * (7 : Int32)) + (x0 - x0 / (7 : Int32) * (7 : Int32))) i j
abbrev rm_X12_together : Room := { frames := 0, cells := 0, slots := 0, locals := 0 }
variable {p : Program} {l : Launch} {e : Env} {s : State} {m : MethodId} {args : Array Value} {below : List Frame} {meth : Method} {c : Code} {b tU n : Nat} {cy : Nat → ClassId} {D : va_G} {K len : Nat → Nat} {r : jR} {Q : Int32 → jI → jL → Prop}
set_option maxHeartbeats 4000000 in
set_option maxRecDepth 100000 in
theorem c_X12_together (hG : jG n K r) {i : jI} {j : jL} {x0 : Int32} {x1 : Int32} (h : J_X12_together len r Q i j x0 x1) : Met l yX12_together wsX12_together rm_X12_together (va_Pc [.int x0, .int x1] (jPre b cy D tU n K len r i j)) (jQi b cy D tU n K len r Q) 0 0 (jA b) := by
  refine Met.ofW (cc := cX12_together) (maxL := 2) (ret := (some .int)) (by decide) rfl ?_
  intro p e s m args below meth c s₁ B hml hv
  obtain ⟨rfl, hv⟩ := hv
  have C0 : jCx p s m _ c cX12_together 2 wsX12_together RX12 b cy D tU n K r := ⟨B.exec, B.bytes, hml, findClass_of_methodNamed B.named, atoms_spec (ws := wsX12_together) B.pre, hv.2.2, hG⟩
  have hr := B.returns
  have hlk := B.notSynchronized
  obtain ⟨hx, hb, hml, hown, hts, hst, hG⟩ := id C0
  have w := jDy.start hv
  have hl := lv_entry ([.int x0, .int x1]) (n := 2) (Nat.le_of_ble_eq_true rfl)
  rw [lg_entry_eq]
  generalize (lg_sl ([.int x0, .int x1]) ++ List.replicate (2 - (lg_sl ([.int x0, .int x1])).length) Slot.unset).toArray = ls at hl ⊢
  replace hl : lv_has ls 2 [(0, .int x0), (1, .int x1)] := hl
  show W p l e rm_X12_together s m _ below meth c s.heap [] 0 0 _ (F0 m 0 ls [])
  rw [J_X12_together] at h
  refine lv_iload_n hx hb dX12_together_0 rfl (lv_at hl 0 rfl) ?_
  refine lv_bipush (v := (7 : Int32)) hx hb dX12_together_1 (by decide) ?_
  refine lv_idiv hx hb dX12_together_3 (by decide) ?_
  refine lv_bipush (v := (54 : Int32)) hx hb dX12_together_4 (by decide) ?_
  refine lv_imul hx hb dX12_together_6 ?_
  refine lv_iload_n hx hb dX12_together_7 rfl (lv_at hl 1 rfl) ?_
  refine lv_bipush (v := (7 : Int32)) hx hb dX12_together_8 (by decide) ?_
  refine lv_idiv hx hb dX12_together_10 (by decide) ?_
  refine lv_iadd hx hb dX12_together_11 ?_
  refine lv_bipush (v := (7 : Int32)) hx hb dX12_together_12 (by decide) ?_
  refine lv_imul hx hb dX12_together_14 ?_
  refine lv_iload_n hx hb dX12_together_15 rfl (lv_at hl 0 rfl) ?_
  refine lv_bipush (v := (7 : Int32)) hx hb dX12_together_16 (by decide) ?_
  refine lv_irem hx hb dX12_together_18 (by decide) ?_
  refine lv_iadd hx hb dX12_together_19 ?_
  exact jret_i hx hb hr hlk hst w h dX12_together_20
end S_X12_together
section S_X12_bothNow
def J_X12_bothNow_L310 (len : Nat → Nat) (r : jR) (Q : Int32 → jI → jL → Prop) (Hd73 : jI → jL → Nat → Int32 → Int32 → Int32 → Int32 → Prop) (Hd210 : jI → jL → Nat → Int32 → Int32 → Int32 → Int32 → Int32 → Int32 → Int32 → Int32 → Prop) (i : jI) (j : jL) (x0 : Nat) (x1 : Int32) (x2 : Int32) (x3 : Int32) (x4 : Int32) (x6 : Int32) (x7 : Int32) (x8 : Int32) (x9 : Int32) : Prop := ∀ v310 : Int32, v310 = x9 + (1 : Int32) → (Hd210 i j x0 x1 x2 x3 x4 x6 x7 x8 v310)
def J_X12_bothNow_L210 (len : Nat → Nat) (r : jR) (Q : Int32 → jI → jL → Prop) (Hd73 : jI → jL → Nat → Int32 → Int32 → Int32 → Int32 → Prop) : Nat → jI → jL → Nat → Int32 → Int32 → Int32 → Int32 → Int32 → Int32 → Int32 → Int32 → Prop
  | 0 => fun _ _ _ _ _ _ _ _ _ _ _ => False
  | g + 1 => fun i j x0 x1 x2 x3 x4 x6 x7 x8 x9 => (((i x0 0) ≤ x9) → (Hd73 i j x0 x1 x2 x3 x4)) ∧ ((¬ (i x0 0) ≤ x9) → (∃ a221, r x0 9 = some a221 ∧ (vp_in x1 (len a221) ∧ (J_X12_behind len r (fun (q230 : Int32) (i230 : jI) (j230 : jL) => ∃ a237, r x0 9 = some a237 ∧ (vp_in x2 (len a237) ∧ (J_X12_behind len r (fun (q246 : Int32) (i246 : jI) (j246 : jL) => ((q230 = (-1 : Int32)) → (J_X12_bothNow_L310 len r Q Hd73 (J_X12_bothNow_L210 len r Q Hd73 g) i246 j246 x0 x1 x2 x3 x4 x6 x7 x8 x9)) ∧ ((¬ q230 = (-1 : Int32)) → (((q246 = (-1 : Int32)) → (J_X12_bothNow_L310 len r Q Hd73 (J_X12_bothNow_L210 len r Q Hd73 g) i246 j246 x0 x1 x2 x3 x4 x6 x7 x8 x9)) ∧ ((¬ q246 = (-1 : Int32)) → (J_X12_together len r (fun (q268 : Int32) (i268 : jI) (j268 : jL) => ∃ a274, r x0 9 = some a274 ∧ (vp_in x1 (len a274) ∧ (∃ a280, r x0 3 = some a280 ∧ (vp_in x9 (len a280) ∧ (J_X12_stepsBy len r (fun (q286 : Int32) (i286 : jI) (j286 : jL) => ∃ a291, r x0 9 = some a291 ∧ (vp_in x2 (len a291) ∧ (∃ a297, r x0 3 = some a297 ∧ (vp_in x9 (len a297) ∧ (J_X12_stepsBy len r (fun (q303 : Int32) (i303 : jI) (j303 : jL) => J_X12_comeBoth len r (fun (i307 : jI) (j307 : jL) => J_X12_bothNow_L310 len r Q Hd73 (J_X12_bothNow_L210 len r Q Hd73 g) i307 j307 x0 x1 x2 x3 x4 x6 x7 x8 x9) i303 j303 x0 q268 ((x6 + q286) + q303)) i286 j286 (i286 a291 x2.toNatClampNeg) (i286 a297 x9.toNatClampNeg)))))) i268 j268 (i268 a274 x1.toNatClampNeg) (i268 a280 x9.toNatClampNeg)))))) i246 j246 q230 q246))))) i230 j230 x0 (i230 a237 x2.toNatClampNeg) x8 x9))) i j x0 (i a221 x1.toNatClampNeg) x7 x9))))
def J_X12_bothNow_L167 (len : Nat → Nat) (r : jR) (Q : Int32 → jI → jL → Prop) (Hd73 : jI → jL → Nat → Int32 → Int32 → Int32 → Int32 → Prop) (i : jI) (j : jL) (x0 : Nat) (x1 : Int32) (x2 : Int32) (x3 : Int32) (x5 : Int32) (x6 : Int32) (t0 : Int32) : Prop := ∀ v186 : Int32, v186 = (((x5 / (7 : Int32)) / (54 : Int32)) * (7 : Int32)) + (x5 - x5 / (7 : Int32) * (7 : Int32)) → (∀ v205 : Int32, v205 = (((x5 / (7 : Int32)) - (x5 / (7 : Int32)) / (54 : Int32) * (54 : Int32)) * (7 : Int32)) + (x5 - x5 / (7 : Int32) * (7 : Int32)) → (∃ g0, J_X12_bothNow_L210 len r Q Hd73 g0 i j x0 x1 x2 x3 t0 x6 v186 v205 (0 : Int32)))
def J_X12_bothNow_L165 (len : Nat → Nat) (r : jR) (Q : Int32 → jI → jL → Prop) (Hd73 : jI → jL → Nat → Int32 → Int32 → Int32 → Int32 → Prop) (i : jI) (j : jL) (x0 : Nat) (x1 : Int32) (x2 : Int32) (x3 : Int32) (x4 : Int32) (x5 : Int32) (x6 : Int32) : Prop := J_X12_bothNow_L167 len r Q Hd73 i j x0 x1 x2 x3 x5 x6 x4
def J_X12_bothNow_L114 (len : Nat → Nat) (r : jR) (Q : Int32 → jI → jL → Prop) (Hd73 : jI → jL → Nat → Int32 → Int32 → Int32 → Int32 → Prop) (i : jI) (j : jL) (x0 : Nat) (x1 : Int32) (x2 : Int32) (x3 : Int32) (x4 : Int32) (x5 : Int32) (t0 : Nat) (t1 : Int32) : Prop := ∀ i114 : jI, i114 = ju i t0 38 t1 → (∀ i124 : jI, i124 = ju i114 x0 36 ((i114 x0 36) - (1 : Int32)) → (∃ a128, r x0 35 = some a128 ∧ (vp_in x5 (len a128) ∧ ∀ i134 : jI, i134 = ju i124 a128 x5.toNatClampNeg (vp_nar .boolean (0 : Int32)) → (∃ a136, r x0 33 = some a136 ∧ (vp_in x5 (len a136) ∧ (∀ v142 : Int32, v142 = i134 a136 x5.toNatClampNeg → (((¬ (x5 - x5 / (7 : Int32) * (7 : Int32)) = x3) → (J_X12_bothNow_L165 len r Q Hd73 i134 j x0 x1 x2 x3 x4 x5 v142)) ∧ (((x5 - x5 / (7 : Int32) * (7 : Int32)) = x3) → (((x4 ≤ v142) → (J_X12_bothNow_L165 len r Q Hd73 i134 j x0 x1 x2 x3 x4 x5 v142)) ∧ ((¬ x4 ≤ v142) → (J_X12_bothNow_L167 len r Q Hd73 i134 j x0 x1 x2 x3 x5 v142 v142)))))))))))
def J_X12_bothNow_L73 (len : Nat → Nat) (r : jR) (Q : Int32 → jI → jL → Prop) : Nat → jI → jL → Nat → Int32 → Int32 → Int32 → Int32 → Prop
  | 0 => fun _ _ _ _ _ _ _ => False
  | g + 1 => fun i j x0 x1 x2 x3 x4 => (((i x0 36) ≤ 0) → (((¬ x4 = (268435456 : Int32)) → (Q x4 i j)) ∧ ((x4 = (268435456 : Int32)) → (Q (-1 : Int32) i j)))) ∧ ((¬ (i x0 36) ≤ 0) → (∃ a81, r x0 34 = some a81 ∧ (vp_in (i x0 38) (len a81) ∧ (∀ v89 : Int32, v89 = i a81 (i x0 38).toNatClampNeg → (((¬ ((i x0 38) + (1 : Int32)) = (20412 : Int32)) → (J_X12_bothNow_L114 len r Q (J_X12_bothNow_L73 len r Q g) i j x0 x1 x2 x3 x4 v89 x0 ((i x0 38) + (1 : Int32)))) ∧ ((((i x0 38) + (1 : Int32)) = (20412 : Int32)) → (J_X12_bothNow_L114 len r Q (J_X12_bothNow_L73 len r Q g) i j x0 x1 x2 x3 x4 v89 x0 (0 : Int32))))))))
def J_X12_bothNow_L7 (len : Nat → Nat) (r : jR) (Q : Int32 → jI → jL → Prop) : Nat → jI → jL → Nat → Int32 → Int32 → Int32 → Int32 → Int32 → Prop
  | 0 => fun _ _ _ _ _ _ _ _ => False
  | g + 1 => fun i j x0 x1 x2 x3 x4 x5 => (((20412 : Int32) ≤ x5) → (∀ i40 : jI, i40 = ju i x0 36 (0 : Int32) → (∀ i45 : jI, i45 = ju i40 x0 37 (0 : Int32) → (∀ i50 : jI, i50 = ju i45 x0 38 (0 : Int32) → (∃ a55, r x0 10 = some a55 ∧ (vp_in x1 (len a55) ∧ (∃ a61, r x0 10 = some a61 ∧ (vp_in x2 (len a61) ∧ (J_X12_together len r (fun (q66 : Int32) (i66 : jI) (j66 : jL) => J_X12_comeBoth len r (fun (i70 : jI) (j70 : jL) => ∃ g0, J_X12_bothNow_L73 len r Q g0 i70 j70 x0 x1 x2 x3 x4) i66 j66 x0 q66 (0 : Int32)) i50 j (i50 a55 x1.toNatClampNeg) (i50 a61 x2.toNatClampNeg)))))))))) ∧ ((¬ (20412 : Int32) ≤ x5) → (∃ a16, r x0 33 = some a16 ∧ (vp_in x5 (len a16) ∧ ∀ i23 : jI, i23 = ju i a16 x5.toNatClampNeg (268435456 : Int32) → (∃ a25, r x0 35 = some a25 ∧ (vp_in x5 (len a25) ∧ ∀ i31 : jI, i31 = ju i23 a25 x5.toNatClampNeg (vp_nar .boolean (0 : Int32)) → (∀ v32 : Int32, v32 = x5 + (1 : Int32) → ((J_X12_bothNow_L7 len r Q g) i31 j x0 x1 x2 x3 x4 v32)))))))
def J_X12_bothNow (len : Nat → Nat) (r : jR) (Q : Int32 → jI → jL → Prop) (i : jI) (j : jL) (x0 : Nat) (x1 : Int32) (x2 : Int32) (x3 : Int32) : Prop := ∃ g0, J_X12_bothNow_L7 len r Q g0 i j x0 x1 x2 x3 (268435456 : Int32) (0 : Int32)
abbrev rm_X12_bothNow : Room := { frames := 3, cells := 0, slots := 0, locals := 71 }
variable {p : Program} {l : Launch} {e : Env} {s : State} {m : MethodId} {args : Array Value} {below : List Frame} {meth : Method} {c : Code} {b tU n : Nat} {cy : Nat → ClassId} {D : va_G} {K len : Nat → Nat} {r : jR} {Q : Int32 → jI → jL → Prop}
theorem hiX12_X12_bothNow : ∀ w ∈ u_ws RX12 TX12 51, w ∈ wsX12_bothNow := by decide +kernel
set_option maxHeartbeats 4000000 in
set_option maxRecDepth 100000 in
theorem w_X12_bothNow_L310 (C0 : jCx p s m args c cX12_bothNow 12 wsX12_bothNow RX12 b cy D tU n K r) (hr : meth.sig.returnType = some .int) (hlk : meth.locks = false) {Hd73 : jI → jL → Nat → Int32 → Int32 → Int32 → Int32 → Prop} (k73 : ∀ {H : Heap} {locs : List Loc} {ls : Array Slot} {i : jI} {j : jL} {x0 : Nat} {x1 : Int32} {x2 : Int32} {x3 : Int32} {x4 : Int32} (w : jDy b cy D n K len r i j s H locs) (hx0 : x0 < n ∧ K x0 = 11) (hl : lv_has ls 12 [(0, .ref (b + x0)), (1, .int x1), (2, .int x2), (3, .int x3), (4, .int x4)]) (h : Hd73 i j x0 x1 x2 x3 x4), W p l e rm_X12_bothNow s m args below meth c H locs 0 0 (MQ below (jQi b cy D tU n K len r Q) args s 0 0 (jA b)) (F0 m 73 ls [])) {Hd210 : jI → jL → Nat → Int32 → Int32 → Int32 → Int32 → Int32 → Int32 → Int32 → Int32 → Prop} (k210 : ∀ {H : Heap} {locs : List Loc} {ls : Array Slot} {i : jI} {j : jL} {x0 : Nat} {x1 : Int32} {x2 : Int32} {x3 : Int32} {x4 : Int32} {x6 : Int32} {x7 : Int32} {x8 : Int32} {x9 : Int32} (w : jDy b cy D n K len r i j s H locs) (hx0 : x0 < n ∧ K x0 = 11) (hl : lv_has ls 12 [(0, .ref (b + x0)), (1, .int x1), (2, .int x2), (3, .int x3), (4, .int x4), (6, .int x6), (7, .int x7), (8, .int x8), (9, .int x9)]) (h : Hd210 i j x0 x1 x2 x3 x4 x6 x7 x8 x9), W p l e rm_X12_bothNow s m args below meth c H locs 0 0 (MQ below (jQi b cy D tU n K len r Q) args s 0 0 (jA b)) (F0 m 210 ls [])) {H : Heap} {locs : List Loc} {ls : Array Slot} {i : jI} {j : jL} {x0 : Nat} {x1 : Int32} {x2 : Int32} {x3 : Int32} {x4 : Int32} {x6 : Int32} {x7 : Int32} {x8 : Int32} {x9 : Int32} (w : jDy b cy D n K len r i j s H locs) (hx0 : x0 < n ∧ K x0 = 11) (hl : lv_has ls 12 [(0, .ref (b + x0)), (1, .int x1), (2, .int x2), (3, .int x3), (4, .int x4), (6, .int x6), (7, .int x7), (8, .int x8), (9, .int x9)]) (h : J_X12_bothNow_L310 len r Q Hd73 Hd210 i j x0 x1 x2 x3 x4 x6 x7 x8 x9) : W p l e rm_X12_bothNow s m args below meth c H locs 0 0 (MQ below (jQi b cy D tU n K len r Q) args s 0 0 (jA b)) (F0 m 310 ls []) := by
  obtain ⟨hx, hb, hml, hown, hts, hst, hG⟩ := id C0
  have hiX12 : ∀ w ∈ u_ws RX12 TX12 51, w ∈ wsX12_bothNow := hiX12_X12_bothNow
  rw [J_X12_bothNow_L310] at h
  obtain ⟨v310, he⟩ : ∃ z : Int32, z = x9 + (1 : Int32) := ⟨_, rfl⟩
  replace h := h v310 he
  refine lv_iinc (v := v310) (lv' := [(9, .int v310), (0, .ref (b + x0)), (1, .int x1), (2, .int x2), (3, .int x3), (4, .int x4), (6, .int x6), (7, .int x7), (8, .int x8)]) hx hb dX12_bothNow_310 hl (k := 8) rfl (by rw [he]; rfl) (by decide) rfl (fun ls hl => ?_)
  clear he
  refine lv_goto (tgt := 210) hx hb dX12_bothNow_313 (by decide) ?_
  exact k210 w hx0 (lv_sub hl [1, 2, 3, 4, 5, 6, 7, 8, 0] rfl) h
set_option maxHeartbeats 4000000 in
set_option maxRecDepth 100000 in
theorem w_X12_bothNow_L210 (C0 : jCx p s m args c cX12_bothNow 12 wsX12_bothNow RX12 b cy D tU n K r) (hr : meth.sig.returnType = some .int) (hlk : meth.locks = false) {Hd73 : jI → jL → Nat → Int32 → Int32 → Int32 → Int32 → Prop} (k73 : ∀ {H : Heap} {locs : List Loc} {ls : Array Slot} {i : jI} {j : jL} {x0 : Nat} {x1 : Int32} {x2 : Int32} {x3 : Int32} {x4 : Int32} (w : jDy b cy D n K len r i j s H locs) (hx0 : x0 < n ∧ K x0 = 11) (hl : lv_has ls 12 [(0, .ref (b + x0)), (1, .int x1), (2, .int x2), (3, .int x3), (4, .int x4)]) (h : Hd73 i j x0 x1 x2 x3 x4), W p l e rm_X12_bothNow s m args below meth c H locs 0 0 (MQ below (jQi b cy D tU n K len r Q) args s 0 0 (jA b)) (F0 m 73 ls [])) : ∀ (g : Nat) {H : Heap} {locs : List Loc} {ls : Array Slot} {i : jI} {j : jL} {x0 : Nat} {x1 : Int32} {x2 : Int32} {x3 : Int32} {x4 : Int32} {x6 : Int32} {x7 : Int32} {x8 : Int32} {x9 : Int32} (w : jDy b cy D n K len r i j s H locs) (hx0 : x0 < n ∧ K x0 = 11) (hl : lv_has ls 12 [(0, .ref (b + x0)), (1, .int x1), (2, .int x2), (3, .int x3), (4, .int x4), (6, .int x6), (7, .int x7), (8, .int x8), (9, .int x9)]) (h : J_X12_bothNow_L210 len r Q Hd73 g i j x0 x1 x2 x3 x4 x6 x7 x8 x9), W p l e rm_X12_bothNow s m args below meth c H locs 0 0 (MQ below (jQi b cy D tU n K len r Q) args s 0 0 (jA b)) (F0 m 210 ls []) := by
  obtain ⟨hx, hb, hml, hown, hts, hst, hG⟩ := id C0
  have hiX12 : ∀ w ∈ u_ws RX12 TX12 51, w ∈ wsX12_bothNow := hiX12_X12_bothNow
  intro g
  induction g with
  | zero => intro H locs ls i j x0 x1 x2 x3 x4 x6 x7 x8 x9 w hx0 hl h; exact False.elim h
  | succ g ih =>
    intro H locs ls i j x0 x1 x2 x3 x4 x6 x7 x8 x9 w hx0 hl h
    rw [J_X12_bothNow_L210] at h
    refine lv_iload hx hb dX12_bothNow_210 (lv_at hl 8 rfl) ?_
    refine lv_aload_n hx hb dX12_bothNow_212 rfl (lv_at hl 0 rfl) ?_
    refine jgi (f := 0) hx hb hts hown hst w hx0 hiX12 (rfl : vwCl[11]? = some (RX12, TX12, 51)) (hts (.fieldLink RX12 126 "FootByGateModel" "streets" "I") (by decide +kernel)) ⟨by decide, by decide, rfl⟩ dX12_bothNow_213 ?_
    refine lv_icmp_ge (tgt := 316) hx hb dX12_bothNow_216 (by decide) (fun hc => ?_) (fun hc => ?_)
    · replace h := h.1 hc
      clear hc
      refine lv_goto (tgt := 73) hx hb dX12_bothNow_316 (by decide) ?_
      exact k73 w hx0 (lv_sub hl [0, 1, 2, 3, 4] rfl) h
    · replace h := h.2 hc
      clear hc
      refine lv_aload_n hx hb dX12_bothNow_219 rfl (lv_at hl 0 rfl) ?_
      refine lv_aload_n hx hb dX12_bothNow_220 rfl (lv_at hl 0 rfl) ?_
      obtain ⟨a221, hr0, h⟩ := h
      refine jgr (f := 9) hx hb hts hown hst w hG hx0 hiX12 (rfl : vwCl[11]? = some (RX12, TX12, 51)) (hts (.fieldLink RX12 22 "FootByGateModel" "kindOf" "[I") (by decide +kernel)) ⟨by decide, by decide, rfl⟩ (rfl : jrt 11 9 = 13) dX12_bothNow_221 hr0 (fun ha221 => ?_)
      clear hr0
      refine lv_iload_n hx hb dX12_bothNow_224 rfl (lv_at hl 1 rfl) ?_
      obtain ⟨hn, h⟩ := h
      refine jaid hx hb hst w ha221 hn dX12_bothNow_225 ?_
      clear hn
      refine lv_iload hx hb dX12_bothNow_226 (lv_at hl 6 rfl) ?_
      refine lv_iload hx hb dX12_bothNow_228 (lv_at hl 8 rfl) ?_
      refine jcV_i (k := x0) (As := [.int (i a221 x1.toNatClampNeg), .int x7, .int x9]) (rest := []) C0 w (c_X12_behind hG hx0 h) (cwV 3 hts gX12_bothNow_X12_behind rfl rfl rfl (by decide +kernel) ⟨Nat.le_of_ble_eq_true rfl, Nat.le_of_ble_eq_true rfl⟩) hx0 (rfl : vwCl[11]? = some (RX12, TX12, 51)) (by decide) rfl hl.1 rfl (Nat.le_of_ble_eq_true rfl) dX12_bothNow_230 (fun q230 i230 j230 H locs h w => ?_) ⟨Nat.zero_le _, Nat.zero_le _⟩
      refine lv_istore (lv' := [(10, .int q230), (0, .ref (b + x0)), (1, .int x1), (2, .int x2), (3, .int x3), (4, .int x4), (6, .int x6), (7, .int x7), (8, .int x8), (9, .int x9)]) hx hb dX12_bothNow_233 hl (by decide) rfl (fun ls hl => ?_)
      refine lv_aload_n hx hb dX12_bothNow_235 rfl (lv_at hl 1 rfl) ?_
      refine lv_aload_n hx hb dX12_bothNow_236 rfl (lv_at hl 1 rfl) ?_
      obtain ⟨a237, hr0, h⟩ := h
      refine jgr (f := 9) hx hb hts hown hst w hG hx0 hiX12 (rfl : vwCl[11]? = some (RX12, TX12, 51)) (hts (.fieldLink RX12 22 "FootByGateModel" "kindOf" "[I") (by decide +kernel)) ⟨by decide, by decide, rfl⟩ (rfl : jrt 11 9 = 13) dX12_bothNow_237 hr0 (fun ha237 => ?_)
      clear hr0
      refine lv_iload_n hx hb dX12_bothNow_240 rfl (lv_at hl 3 rfl) ?_
      obtain ⟨hn, h⟩ := h
      refine jaid hx hb hst w ha237 hn dX12_bothNow_241 ?_
      clear hn
      refine lv_iload hx hb dX12_bothNow_242 (lv_at hl 8 rfl) ?_
      refine lv_iload hx hb dX12_bothNow_244 (lv_at hl 9 rfl) ?_
      refine jcV_i (k := x0) (As := [.int (i230 a237 x2.toNatClampNeg), .int x8, .int x9]) (rest := []) C0 w (c_X12_behind hG hx0 h) (cwV 3 hts gX12_bothNow_X12_behind rfl rfl rfl (by decide +kernel) ⟨Nat.le_of_ble_eq_true rfl, Nat.le_of_ble_eq_true rfl⟩) hx0 (rfl : vwCl[11]? = some (RX12, TX12, 51)) (by decide) rfl hl.1 rfl (Nat.le_of_ble_eq_true rfl) dX12_bothNow_246 (fun q246 i246 j246 H locs h w => ?_) ⟨Nat.zero_le _, Nat.zero_le _⟩
      refine lv_istore (lv' := [(11, .int q246), (10, .int q230), (0, .ref (b + x0)), (1, .int x1), (2, .int x2), (3, .int x3), (4, .int x4), (6, .int x6), (7, .int x7), (8, .int x8), (9, .int x9)]) hx hb dX12_bothNow_249 hl (by decide) rfl (fun ls hl => ?_)
      refine lv_iload hx hb dX12_bothNow_251 (lv_at hl 1 rfl) ?_
      refine lv_iconst (v := (-1 : Int32)) hx hb dX12_bothNow_253 (by decide) ?_
      refine lv_icmp_eq (tgt := 310) hx hb dX12_bothNow_254 (by decide) (fun hc => ?_) (fun hc => ?_)
      · replace h := h.1 hc
        clear hc
        exact w_X12_bothNow_L310 C0 hr hlk (fun w hx0 hl h => k73 w hx0 hl h) (fun w hx0 hl h => ih w hx0 hl h) w hx0 (lv_sub hl [2, 3, 4, 5, 6, 7, 8, 9, 10] rfl) h
      · replace h := h.2 hc
        clear hc
        refine lv_iload hx hb dX12_bothNow_257 (lv_at hl 0 rfl) ?_
        refine lv_iconst (v := (-1 : Int32)) hx hb dX12_bothNow_259 (by decide) ?_
        refine lv_icmp_eq (tgt := 310) hx hb dX12_bothNow_260 (by decide) (fun hc => ?_) (fun hc => ?_)
        · replace h := h.1 hc
          clear hc
          exact w_X12_bothNow_L310 C0 hr hlk (fun w hx0 hl h => k73 w hx0 hl h) (fun w hx0 hl h => ih w hx0 hl h) w hx0 (lv_sub hl [2, 3, 4, 5, 6, 7, 8, 9, 10] rfl) h
        · replace h := h.2 hc
          clear hc
          refine lv_aload_n hx hb dX12_bothNow_263 rfl (lv_at hl 2 rfl) ?_
          refine lv_iload hx hb dX12_bothNow_264 (lv_at hl 1 rfl) ?_
          refine lv_iload hx hb dX12_bothNow_266 (lv_at hl 0 rfl) ?_
          refine jcS_i (As := [.int q230, .int q246]) (rest := [.ref (b + x0)]) C0 w (c_X12_together hG h) (va_cwS 2 hts gX12_bothNow_X12_together rfl rfl rfl (by decide +kernel) ⟨Nat.le_of_ble_eq_true rfl, Nat.le_of_ble_eq_true rfl⟩) rfl hl.1 rfl (Nat.le_of_ble_eq_true rfl) dX12_bothNow_268 (fun q268 i268 j268 H locs h w => ?_) ⟨Nat.zero_le _, Nat.zero_le _⟩
          refine lv_iload hx hb dX12_bothNow_271 (lv_at hl 7 rfl) ?_
          refine lv_aload_n hx hb dX12_bothNow_273 rfl (lv_at hl 2 rfl) ?_
          obtain ⟨a274, hr0, h⟩ := h
          refine jgr (f := 9) hx hb hts hown hst w hG hx0 hiX12 (rfl : vwCl[11]? = some (RX12, TX12, 51)) (hts (.fieldLink RX12 22 "FootByGateModel" "kindOf" "[I") (by decide +kernel)) ⟨by decide, by decide, rfl⟩ (rfl : jrt 11 9 = 13) dX12_bothNow_274 hr0 (fun ha274 => ?_)
          clear hr0
          refine lv_iload_n hx hb dX12_bothNow_277 rfl (lv_at hl 3 rfl) ?_
          obtain ⟨hn, h⟩ := h
          refine jaid hx hb hst w ha274 hn dX12_bothNow_278 ?_
          clear hn
          refine lv_aload_n hx hb dX12_bothNow_279 rfl (lv_at hl 2 rfl) ?_
          obtain ⟨a280, hr0, h⟩ := h
          refine jgr (f := 3) hx hb hts hown hst w hG hx0 hiX12 (rfl : vwCl[11]? = some (RX12, TX12, 51)) (hts (.fieldLink RX12 16 "FootByGateModel" "pacesOf" "[I") (by decide +kernel)) ⟨by decide, by decide, rfl⟩ (rfl : jrt 11 3 = 13) dX12_bothNow_280 hr0 (fun ha280 => ?_)
          clear hr0
          refine lv_iload hx hb dX12_bothNow_283 (lv_at hl 10 rfl) ?_
          obtain ⟨hn, h⟩ := h
          refine jaid hx hb hst w ha280 hn dX12_bothNow_285 ?_
          clear hn
          refine jcS_i (As := [.int (i268 a274 x1.toNatClampNeg), .int (i268 a280 x9.toNatClampNeg)]) (rest := [.int x6, .int q268, .ref (b + x0)]) C0 w (c_X12_stepsBy hG h) (va_cwS 2 hts gX12_bothNow_X12_stepsBy rfl rfl rfl (by decide +kernel) ⟨Nat.le_of_ble_eq_true rfl, Nat.le_of_ble_eq_true rfl⟩) rfl hl.1 rfl (Nat.le_of_ble_eq_true rfl) dX12_bothNow_286 (fun q286 i286 j286 H locs h w => ?_) ⟨Nat.zero_le _, Nat.zero_le _⟩
          refine lv_iadd hx hb dX12_bothNow_289 ?_
          refine lv_aload_n hx hb dX12_bothNow_290 rfl (lv_at hl 2 rfl) ?_
          obtain ⟨a291, hr0, h⟩ := h
          refine jgr (f := 9) hx hb hts hown hst w hG hx0 hiX12 (rfl : vwCl[11]? = some (RX12, TX12, 51)) (hts (.fieldLink RX12 22 "FootByGateModel" "kindOf" "[I") (by decide +kernel)) ⟨by decide, by decide, rfl⟩ (rfl : jrt 11 9 = 13) dX12_bothNow_291 hr0 (fun ha291 => ?_)
          clear hr0
          refine lv_iload_n hx hb dX12_bothNow_294 rfl (lv_at hl 4 rfl) ?_
          obtain ⟨hn, h⟩ := h
          refine jaid hx hb hst w ha291 hn dX12_bothNow_295 ?_
          clear hn
          refine lv_aload_n hx hb dX12_bothNow_296 rfl (lv_at hl 2 rfl) ?_
          obtain ⟨a297, hr0, h⟩ := h
          refine jgr (f := 3) hx hb hts hown hst w hG hx0 hiX12 (rfl : vwCl[11]? = some (RX12, TX12, 51)) (hts (.fieldLink RX12 16 "FootByGateModel" "pacesOf" "[I") (by decide +kernel)) ⟨by decide, by decide, rfl⟩ (rfl : jrt 11 3 = 13) dX12_bothNow_297 hr0 (fun ha297 => ?_)
          clear hr0
          refine lv_iload hx hb dX12_bothNow_300 (lv_at hl 10 rfl) ?_
          obtain ⟨hn, h⟩ := h
          refine jaid hx hb hst w ha297 hn dX12_bothNow_302 ?_
          clear hn
          refine jcS_i (As := [.int (i286 a291 x2.toNatClampNeg), .int (i286 a297 x9.toNatClampNeg)]) (rest := [.int (x6 + q286), .int q268, .ref (b + x0)]) C0 w (c_X12_stepsBy hG h) (va_cwS 2 hts gX12_bothNow_X12_stepsBy rfl rfl rfl (by decide +kernel) ⟨Nat.le_of_ble_eq_true rfl, Nat.le_of_ble_eq_true rfl⟩) rfl hl.1 rfl (Nat.le_of_ble_eq_true rfl) dX12_bothNow_303 (fun q303 i303 j303 H locs h w => ?_) ⟨Nat.zero_le _, Nat.zero_le _⟩
          refine lv_iadd hx hb dX12_bothNow_306 ?_
          refine jcV_v (k := x0) (As := [.int q268, .int ((x6 + q286) + q303)]) (rest := []) C0 w (c_X12_comeBoth hG hx0 h) (cwV 2 hts gX12_bothNow_X12_comeBoth rfl rfl rfl (by decide +kernel) ⟨Nat.le_of_ble_eq_true rfl, Nat.le_of_ble_eq_true rfl⟩) hx0 (rfl : vwCl[11]? = some (RX12, TX12, 51)) (by decide) rfl hl.1 rfl (Nat.le_of_ble_eq_true rfl) dX12_bothNow_307 (fun i307 j307 H locs h w => ?_) ⟨Nat.zero_le _, Nat.zero_le _⟩
          exact w_X12_bothNow_L310 C0 hr hlk (fun w hx0 hl h => k73 w hx0 hl h) (fun w hx0 hl h => ih w hx0 hl h) w hx0 (lv_sub hl [2, 3, 4, 5, 6, 7, 8, 9, 10] rfl) h
set_option maxHeartbeats 4000000 in
set_option maxRecDepth 100000 in
theorem w_X12_bothNow_L167 (C0 : jCx p s m args c cX12_bothNow 12 wsX12_bothNow RX12 b cy D tU n K r) (hr : meth.sig.returnType = some .int) (hlk : meth.locks = false) {Hd73 : jI → jL → Nat → Int32 → Int32 → Int32 → Int32 → Prop} (k73 : ∀ {H : Heap} {locs : List Loc} {ls : Array Slot} {i : jI} {j : jL} {x0 : Nat} {x1 : Int32} {x2 : Int32} {x3 : Int32} {x4 : Int32} (w : jDy b cy D n K len r i j s H locs) (hx0 : x0 < n ∧ K x0 = 11) (hl : lv_has ls 12 [(0, .ref (b + x0)), (1, .int x1), (2, .int x2), (3, .int x3), (4, .int x4)]) (h : Hd73 i j x0 x1 x2 x3 x4), W p l e rm_X12_bothNow s m args below meth c H locs 0 0 (MQ below (jQi b cy D tU n K len r Q) args s 0 0 (jA b)) (F0 m 73 ls [])) {H : Heap} {locs : List Loc} {ls : Array Slot} {i : jI} {j : jL} {x0 : Nat} {x1 : Int32} {x2 : Int32} {x3 : Int32} {x5 : Int32} {x6 : Int32} {t0 : Int32} (w : jDy b cy D n K len r i j s H locs) (hx0 : x0 < n ∧ K x0 = 11) (hl : lv_has ls 12 [(0, .ref (b + x0)), (1, .int x1), (2, .int x2), (3, .int x3), (5, .int x5), (6, .int x6)]) (h : J_X12_bothNow_L167 len r Q Hd73 i j x0 x1 x2 x3 x5 x6 t0) : W p l e rm_X12_bothNow s m args below meth c H locs 0 0 (MQ below (jQi b cy D tU n K len r Q) args s 0 0 (jA b)) (F0 m 167 ls [.int t0]) := by
  obtain ⟨hx, hb, hml, hown, hts, hst, hG⟩ := id C0
  have hiX12 : ∀ w ∈ u_ws RX12 TX12 51, w ∈ wsX12_bothNow := hiX12_X12_bothNow
  rw [J_X12_bothNow_L167] at h
  refine lv_istore (lv' := [(4, .int t0), (0, .ref (b + x0)), (1, .int x1), (2, .int x2), (3, .int x3), (5, .int x5), (6, .int x6)]) hx hb dX12_bothNow_167 hl (by decide) rfl (fun ls hl => ?_)
  refine lv_iload hx hb dX12_bothNow_169 (lv_at hl 5 rfl) ?_
  refine lv_bipush (v := (7 : Int32)) hx hb dX12_bothNow_171 (by decide) ?_
  refine lv_idiv hx hb dX12_bothNow_173 (by decide) ?_
  refine lv_bipush (v := (54 : Int32)) hx hb dX12_bothNow_174 (by decide) ?_
  refine lv_idiv hx hb dX12_bothNow_176 (by decide) ?_
  refine lv_bipush (v := (7 : Int32)) hx hb dX12_bothNow_177 (by decide) ?_
  refine lv_imul hx hb dX12_bothNow_179 ?_
  refine lv_iload hx hb dX12_bothNow_180 (lv_at hl 5 rfl) ?_
  refine lv_bipush (v := (7 : Int32)) hx hb dX12_bothNow_182 (by decide) ?_
  refine lv_irem hx hb dX12_bothNow_184 (by decide) ?_
  refine lv_iadd hx hb dX12_bothNow_185 ?_
  refine lv_topi (fun v186 he => ?_)
  replace h := h v186 he
  clear he
  refine lv_istore (lv' := [(7, .int v186), (4, .int t0), (0, .ref (b + x0)), (1, .int x1), (2, .int x2), (3, .int x3), (5, .int x5), (6, .int x6)]) hx hb dX12_bothNow_186 hl (by decide) rfl (fun ls hl => ?_)
  refine lv_iload hx hb dX12_bothNow_188 (lv_at hl 6 rfl) ?_
  refine lv_bipush (v := (7 : Int32)) hx hb dX12_bothNow_190 (by decide) ?_
  refine lv_idiv hx hb dX12_bothNow_192 (by decide) ?_
  refine lv_bipush (v := (54 : Int32)) hx hb dX12_bothNow_193 (by decide) ?_
  refine lv_irem hx hb dX12_bothNow_195 (by decide) ?_
  refine lv_bipush (v := (7 : Int32)) hx hb dX12_bothNow_196 (by decide) ?_
  refine lv_imul hx hb dX12_bothNow_198 ?_
  refine lv_iload hx hb dX12_bothNow_199 (lv_at hl 6 rfl) ?_
  refine lv_bipush (v := (7 : Int32)) hx hb dX12_bothNow_201 (by decide) ?_
  refine lv_irem hx hb dX12_bothNow_203 (by decide) ?_
  refine lv_iadd hx hb dX12_bothNow_204 ?_
  refine lv_topi (fun v205 he => ?_)
  replace h := h v205 he
  clear he
  refine lv_istore (lv' := [(8, .int v205), (7, .int v186), (4, .int t0), (0, .ref (b + x0)), (1, .int x1), (2, .int x2), (3, .int x3), (5, .int x5), (6, .int x6)]) hx hb dX12_bothNow_205 hl (by decide) rfl (fun ls hl => ?_)
  refine lv_iconst (v := (0 : Int32)) hx hb dX12_bothNow_207 (by decide) ?_
  refine lv_istore (lv' := [(9, .int (0 : Int32)), (8, .int v205), (7, .int v186), (4, .int t0), (0, .ref (b + x0)), (1, .int x1), (2, .int x2), (3, .int x3), (5, .int x5), (6, .int x6)]) hx hb dX12_bothNow_208 hl (by decide) rfl (fun ls hl => ?_)
  obtain ⟨g0, h⟩ := h
  exact w_X12_bothNow_L210 C0 hr hlk (fun w hx0 hl h => k73 w hx0 hl h) g0 w hx0 (lv_sub hl [4, 5, 6, 7, 3, 9, 2, 1, 0] rfl) h
set_option maxHeartbeats 4000000 in
set_option maxRecDepth 100000 in
theorem w_X12_bothNow_L165 (C0 : jCx p s m args c cX12_bothNow 12 wsX12_bothNow RX12 b cy D tU n K r) (hr : meth.sig.returnType = some .int) (hlk : meth.locks = false) {Hd73 : jI → jL → Nat → Int32 → Int32 → Int32 → Int32 → Prop} (k73 : ∀ {H : Heap} {locs : List Loc} {ls : Array Slot} {i : jI} {j : jL} {x0 : Nat} {x1 : Int32} {x2 : Int32} {x3 : Int32} {x4 : Int32} (w : jDy b cy D n K len r i j s H locs) (hx0 : x0 < n ∧ K x0 = 11) (hl : lv_has ls 12 [(0, .ref (b + x0)), (1, .int x1), (2, .int x2), (3, .int x3), (4, .int x4)]) (h : Hd73 i j x0 x1 x2 x3 x4), W p l e rm_X12_bothNow s m args below meth c H locs 0 0 (MQ below (jQi b cy D tU n K len r Q) args s 0 0 (jA b)) (F0 m 73 ls [])) {H : Heap} {locs : List Loc} {ls : Array Slot} {i : jI} {j : jL} {x0 : Nat} {x1 : Int32} {x2 : Int32} {x3 : Int32} {x4 : Int32} {x5 : Int32} {x6 : Int32} (w : jDy b cy D n K len r i j s H locs) (hx0 : x0 < n ∧ K x0 = 11) (hl : lv_has ls 12 [(0, .ref (b + x0)), (1, .int x1), (2, .int x2), (3, .int x3), (4, .int x4), (5, .int x5), (6, .int x6)]) (h : J_X12_bothNow_L165 len r Q Hd73 i j x0 x1 x2 x3 x4 x5 x6) : W p l e rm_X12_bothNow s m args below meth c H locs 0 0 (MQ below (jQi b cy D tU n K len r Q) args s 0 0 (jA b)) (F0 m 165 ls []) := by
  obtain ⟨hx, hb, hml, hown, hts, hst, hG⟩ := id C0
  have hiX12 : ∀ w ∈ u_ws RX12 TX12 51, w ∈ wsX12_bothNow := hiX12_X12_bothNow
  rw [J_X12_bothNow_L165] at h
  refine lv_iload hx hb dX12_bothNow_165 (lv_at hl 4 rfl) ?_
  exact w_X12_bothNow_L167 C0 hr hlk (fun w hx0 hl h => k73 w hx0 hl h) w hx0 (lv_sub hl [0, 1, 2, 3, 5, 6] rfl) h
set_option maxHeartbeats 4000000 in
set_option maxRecDepth 100000 in
theorem w_X12_bothNow_L114 (C0 : jCx p s m args c cX12_bothNow 12 wsX12_bothNow RX12 b cy D tU n K r) (hr : meth.sig.returnType = some .int) (hlk : meth.locks = false) {Hd73 : jI → jL → Nat → Int32 → Int32 → Int32 → Int32 → Prop} (k73 : ∀ {H : Heap} {locs : List Loc} {ls : Array Slot} {i : jI} {j : jL} {x0 : Nat} {x1 : Int32} {x2 : Int32} {x3 : Int32} {x4 : Int32} (w : jDy b cy D n K len r i j s H locs) (hx0 : x0 < n ∧ K x0 = 11) (hl : lv_has ls 12 [(0, .ref (b + x0)), (1, .int x1), (2, .int x2), (3, .int x3), (4, .int x4)]) (h : Hd73 i j x0 x1 x2 x3 x4), W p l e rm_X12_bothNow s m args below meth c H locs 0 0 (MQ below (jQi b cy D tU n K len r Q) args s 0 0 (jA b)) (F0 m 73 ls [])) {H : Heap} {locs : List Loc} {ls : Array Slot} {i : jI} {j : jL} {x0 : Nat} {x1 : Int32} {x2 : Int32} {x3 : Int32} {x4 : Int32} {x5 : Int32} {t0 : Nat} {t1 : Int32} (w : jDy b cy D n K len r i j s H locs) (hx0 : x0 < n ∧ K x0 = 11) (ht0 : t0 < n ∧ K t0 = 11) (hl : lv_has ls 12 [(0, .ref (b + x0)), (1, .int x1), (2, .int x2), (3, .int x3), (4, .int x4), (5, .int x5)]) (h : J_X12_bothNow_L114 len r Q Hd73 i j x0 x1 x2 x3 x4 x5 t0 t1) : W p l e rm_X12_bothNow s m args below meth c H locs 0 0 (MQ below (jQi b cy D tU n K len r Q) args s 0 0 (jA b)) (F0 m 114 ls [.int t1, .ref (b + t0)]) := by
  obtain ⟨hx, hb, hml, hown, hts, hst, hG⟩ := id C0
  have hiX12 : ∀ w ∈ u_ws RX12 TX12 51, w ∈ wsX12_bothNow := hiX12_X12_bothNow
  rw [J_X12_bothNow_L114] at h
  refine jpi (f := 38) hx hb hts hown hst w ht0 hiX12 (rfl : vwCl[11]? = some (RX12, TX12, 51)) (hts (.fieldLink RX12 251 "FootByGateModel" "bothFrom" "I") (by decide +kernel)) ⟨by decide, by decide, rfl⟩ tyX12 tyX12_ok nmX12 rfl ⟨rfl, rfl⟩ dX12_bothNow_114 (fun i114 H locs he w => ?_)
  replace h := h i114 he
  clear he
  refine lv_aload_n hx hb dX12_bothNow_117 rfl (lv_at hl 0 rfl) ?_
  refine lv_dup hx hb dX12_bothNow_118 rfl ?_
  refine jgi (f := 36) hx hb hts hown hst w hx0 hiX12 (rfl : vwCl[11]? = some (RX12, TX12, 51)) (hts (.fieldLink RX12 248 "FootByGateModel" "bothMany" "I") (by decide +kernel)) ⟨by decide, by decide, rfl⟩ dX12_bothNow_119 ?_
  refine lv_iconst (v := (1 : Int32)) hx hb dX12_bothNow_122 (by decide) ?_
  refine lv_isub hx hb dX12_bothNow_123 ?_
  refine jpi (f := 36) hx hb hts hown hst w hx0 hiX12 (rfl : vwCl[11]? = some (RX12, TX12, 51)) (hts (.fieldLink RX12 248 "FootByGateModel" "bothMany" "I") (by decide +kernel)) ⟨by decide, by decide, rfl⟩ tyX12 tyX12_ok nmX12 rfl ⟨rfl, rfl⟩ dX12_bothNow_124 (fun i124 H locs he w => ?_)
  replace h := h i124 he
  clear he
  refine lv_aload_n hx hb dX12_bothNow_127 rfl (lv_at hl 0 rfl) ?_
  obtain ⟨a128, hr0, h⟩ := h
  refine jgr (f := 35) hx hb hts hown hst w hG hx0 hiX12 (rfl : vwCl[11]? = some (RX12, TX12, 51)) (hts (.fieldLink RX12 72 "FootByGateModel" "bothWaits" "[Z") (by decide +kernel)) ⟨by decide, by decide, rfl⟩ (rfl : jrt 11 35 = 15) dX12_bothNow_128 hr0 (fun ha128 => ?_)
  clear hr0
  refine lv_iload hx hb dX12_bothNow_131 (lv_at hl 5 rfl) ?_
  refine lv_iconst (v := (0 : Int32)) hx hb dX12_bothNow_133 (by decide) ?_
  obtain ⟨hn, h⟩ := h
  refine jazs hx hb hst w ha128 hn dX12_bothNow_134 (fun i134 H locs he w => ?_)
  replace h := h i134 he
  clear he hn
  refine lv_aload_n hx hb dX12_bothNow_135 rfl (lv_at hl 0 rfl) ?_
  obtain ⟨a136, hr0, h⟩ := h
  refine jgr (f := 33) hx hb hts hown hst w hG hx0 hiX12 (rfl : vwCl[11]? = some (RX12, TX12, 51)) (hts (.fieldLink RX12 66 "FootByGateModel" "bothCost" "[I") (by decide +kernel)) ⟨by decide, by decide, rfl⟩ (rfl : jrt 11 33 = 13) dX12_bothNow_136 hr0 (fun ha136 => ?_)
  clear hr0
  refine lv_iload hx hb dX12_bothNow_139 (lv_at hl 5 rfl) ?_
  obtain ⟨hn, h⟩ := h
  refine jaid hx hb hst w ha136 hn dX12_bothNow_141 ?_
  clear hn
  refine lv_topi (fun v142 he => ?_)
  replace h := h v142 he
  clear he
  refine lv_istore (lv' := [(6, .int v142), (0, .ref (b + x0)), (1, .int x1), (2, .int x2), (3, .int x3), (4, .int x4), (5, .int x5)]) hx hb dX12_bothNow_142 hl (by decide) rfl (fun ls hl => ?_)
  refine lv_iload hx hb dX12_bothNow_144 (lv_at hl 6 rfl) ?_
  refine lv_bipush (v := (7 : Int32)) hx hb dX12_bothNow_146 (by decide) ?_
  refine lv_irem hx hb dX12_bothNow_148 (by decide) ?_
  refine lv_iload_n hx hb dX12_bothNow_149 rfl (lv_at hl 4 rfl) ?_
  refine lv_icmp_ne (tgt := 165) hx hb dX12_bothNow_150 (by decide) (fun hc => ?_) (fun hc => ?_)
  · replace h := h.1 hc
    clear hc
    exact w_X12_bothNow_L165 C0 hr hlk (fun w hx0 hl h => k73 w hx0 hl h) w hx0 (lv_sub hl [1, 2, 3, 4, 5, 6, 0] rfl) h
  · replace h := h.2 hc
    clear hc
    refine lv_iload hx hb dX12_bothNow_153 (lv_at hl 0 rfl) ?_
    refine lv_iload hx hb dX12_bothNow_155 (lv_at hl 5 rfl) ?_
    refine lv_icmp_ge (tgt := 165) hx hb dX12_bothNow_157 (by decide) (fun hc => ?_) (fun hc => ?_)
    · replace h := h.1 hc
      clear hc
      exact w_X12_bothNow_L165 C0 hr hlk (fun w hx0 hl h => k73 w hx0 hl h) w hx0 (lv_sub hl [1, 2, 3, 4, 5, 6, 0] rfl) h
    · replace h := h.2 hc
      clear hc
      refine lv_iload hx hb dX12_bothNow_160 (lv_at hl 0 rfl) ?_
      refine lv_goto (tgt := 167) hx hb dX12_bothNow_162 (by decide) ?_
      exact w_X12_bothNow_L167 C0 hr hlk (fun w hx0 hl h => k73 w hx0 hl h) w hx0 (lv_sub hl [1, 2, 3, 4, 6, 0] rfl) h
set_option maxHeartbeats 4000000 in
set_option maxRecDepth 100000 in
theorem w_X12_bothNow_L73 (C0 : jCx p s m args c cX12_bothNow 12 wsX12_bothNow RX12 b cy D tU n K r) (hr : meth.sig.returnType = some .int) (hlk : meth.locks = false) : ∀ (g : Nat) {H : Heap} {locs : List Loc} {ls : Array Slot} {i : jI} {j : jL} {x0 : Nat} {x1 : Int32} {x2 : Int32} {x3 : Int32} {x4 : Int32} (w : jDy b cy D n K len r i j s H locs) (hx0 : x0 < n ∧ K x0 = 11) (hl : lv_has ls 12 [(0, .ref (b + x0)), (1, .int x1), (2, .int x2), (3, .int x3), (4, .int x4)]) (h : J_X12_bothNow_L73 len r Q g i j x0 x1 x2 x3 x4), W p l e rm_X12_bothNow s m args below meth c H locs 0 0 (MQ below (jQi b cy D tU n K len r Q) args s 0 0 (jA b)) (F0 m 73 ls []) := by
  obtain ⟨hx, hb, hml, hown, hts, hst, hG⟩ := id C0
  have hiX12 : ∀ w ∈ u_ws RX12 TX12 51, w ∈ wsX12_bothNow := hiX12_X12_bothNow
  intro g
  induction g with
  | zero => intro H locs ls i j x0 x1 x2 x3 x4 w hx0 hl h; exact False.elim h
  | succ g ih =>
    intro H locs ls i j x0 x1 x2 x3 x4 w hx0 hl h
    rw [J_X12_bothNow_L73] at h
    refine lv_aload_n hx hb dX12_bothNow_73 rfl (lv_at hl 0 rfl) ?_
    refine jgi (f := 36) hx hb hts hown hst w hx0 hiX12 (rfl : vwCl[11]? = some (RX12, TX12, 51)) (hts (.fieldLink RX12 248 "FootByGateModel" "bothMany" "I") (by decide +kernel)) ⟨by decide, by decide, rfl⟩ dX12_bothNow_74 ?_
    refine lv_if_le (tgt := 319) hx hb dX12_bothNow_77 (by decide) (fun hc => ?_) (fun hc => ?_)
    · replace h := h.1 hc
      clear hc
      refine lv_iload hx hb dX12_bothNow_319 (lv_at hl 4 rfl) ?_
      refine lv_ldc hx hb hown (hts (.constant RX12 193 (268435456)) (by decide +kernel)) dX12_bothNow_321 ?_
      refine lv_icmp_ne (tgt := 330) hx hb dX12_bothNow_323 (by decide) (fun hc => ?_) (fun hc => ?_)
      · replace h := h.1 hc
        clear hc
        refine lv_iload hx hb dX12_bothNow_330 (lv_at hl 4 rfl) ?_
        exact jret_i hx hb hr hlk hst w h dX12_bothNow_332
      · replace h := h.2 hc
        clear hc
        refine lv_iconst (v := (-1 : Int32)) hx hb dX12_bothNow_326 (by decide) ?_
        refine lv_goto (tgt := 332) hx hb dX12_bothNow_327 (by decide) ?_
        exact jret_i hx hb hr hlk hst w h dX12_bothNow_332
    · replace h := h.2 hc
      clear hc
      refine lv_aload_n hx hb dX12_bothNow_80 rfl (lv_at hl 0 rfl) ?_
      obtain ⟨a81, hr0, h⟩ := h
      refine jgr (f := 34) hx hb hts hown hst w hG hx0 hiX12 (rfl : vwCl[11]? = some (RX12, TX12, 51)) (hts (.fieldLink RX12 69 "FootByGateModel" "bothQueue" "[I") (by decide +kernel)) ⟨by decide, by decide, rfl⟩ (rfl : jrt 11 34 = 13) dX12_bothNow_81 hr0 (fun ha81 => ?_)
      clear hr0
      refine lv_aload_n hx hb dX12_bothNow_84 rfl (lv_at hl 0 rfl) ?_
      refine jgi (f := 38) hx hb hts hown hst w hx0 hiX12 (rfl : vwCl[11]? = some (RX12, TX12, 51)) (hts (.fieldLink RX12 251 "FootByGateModel" "bothFrom" "I") (by decide +kernel)) ⟨by decide, by decide, rfl⟩ dX12_bothNow_85 ?_
      obtain ⟨hn, h⟩ := h
      refine jaid hx hb hst w ha81 hn dX12_bothNow_88 ?_
      clear hn
      refine lv_topi (fun v89 he => ?_)
      replace h := h v89 he
      clear he
      refine lv_istore (lv' := [(5, .int v89), (0, .ref (b + x0)), (1, .int x1), (2, .int x2), (3, .int x3), (4, .int x4)]) hx hb dX12_bothNow_89 hl (by decide) rfl (fun ls hl => ?_)
      refine lv_aload_n hx hb dX12_bothNow_91 rfl (lv_at hl 1 rfl) ?_
      refine lv_aload_n hx hb dX12_bothNow_92 rfl (lv_at hl 1 rfl) ?_
      refine jgi (f := 38) hx hb hts hown hst w hx0 hiX12 (rfl : vwCl[11]? = some (RX12, TX12, 51)) (hts (.fieldLink RX12 251 "FootByGateModel" "bothFrom" "I") (by decide +kernel)) ⟨by decide, by decide, rfl⟩ dX12_bothNow_93 ?_
      refine lv_iconst (v := (1 : Int32)) hx hb dX12_bothNow_96 (by decide) ?_
      refine lv_iadd hx hb dX12_bothNow_97 ?_
      refine lv_sipush (v := (20412 : Int32)) hx hb dX12_bothNow_98 (by decide) ?_
      refine lv_icmp_ne (tgt := 108) hx hb dX12_bothNow_101 (by decide) (fun hc => ?_) (fun hc => ?_)
      · replace h := h.1 hc
        clear hc
        refine lv_aload_n hx hb dX12_bothNow_108 rfl (lv_at hl 1 rfl) ?_
        refine jgi (f := 38) hx hb hts hown hst w hx0 hiX12 (rfl : vwCl[11]? = some (RX12, TX12, 51)) (hts (.fieldLink RX12 251 "FootByGateModel" "bothFrom" "I") (by decide +kernel)) ⟨by decide, by decide, rfl⟩ dX12_bothNow_109 ?_
        refine lv_iconst (v := (1 : Int32)) hx hb dX12_bothNow_112 (by decide) ?_
        refine lv_iadd hx hb dX12_bothNow_113 ?_
        exact w_X12_bothNow_L114 C0 hr hlk (fun w hx0 hl h => ih w hx0 hl h) w hx0 hx0 (lv_sub hl [1, 2, 3, 4, 5, 0] rfl) h
      · replace h := h.2 hc
        clear hc
        refine lv_iconst (v := (0 : Int32)) hx hb dX12_bothNow_104 (by decide) ?_
        refine lv_goto (tgt := 114) hx hb dX12_bothNow_105 (by decide) ?_
        exact w_X12_bothNow_L114 C0 hr hlk (fun w hx0 hl h => ih w hx0 hl h) w hx0 hx0 (lv_sub hl [1, 2, 3, 4, 5, 0] rfl) h
set_option maxHeartbeats 4000000 in
set_option maxRecDepth 100000 in
theorem w_X12_bothNow_L7 (C0 : jCx p s m args c cX12_bothNow 12 wsX12_bothNow RX12 b cy D tU n K r) (hr : meth.sig.returnType = some .int) (hlk : meth.locks = false) : ∀ (g : Nat) {H : Heap} {locs : List Loc} {ls : Array Slot} {i : jI} {j : jL} {x0 : Nat} {x1 : Int32} {x2 : Int32} {x3 : Int32} {x4 : Int32} {x5 : Int32} (w : jDy b cy D n K len r i j s H locs) (hx0 : x0 < n ∧ K x0 = 11) (hl : lv_has ls 12 [(0, .ref (b + x0)), (1, .int x1), (2, .int x2), (3, .int x3), (4, .int x4), (5, .int x5)]) (h : J_X12_bothNow_L7 len r Q g i j x0 x1 x2 x3 x4 x5), W p l e rm_X12_bothNow s m args below meth c H locs 0 0 (MQ below (jQi b cy D tU n K len r Q) args s 0 0 (jA b)) (F0 m 7 ls []) := by
  obtain ⟨hx, hb, hml, hown, hts, hst, hG⟩ := id C0
  have hiX12 : ∀ w ∈ u_ws RX12 TX12 51, w ∈ wsX12_bothNow := hiX12_X12_bothNow
  intro g
  induction g with
  | zero => intro H locs ls i j x0 x1 x2 x3 x4 x5 w hx0 hl h; exact False.elim h
  | succ g ih =>
    intro H locs ls i j x0 x1 x2 x3 x4 x5 w hx0 hl h
    rw [J_X12_bothNow_L7] at h
    refine lv_iload hx hb dX12_bothNow_7 (lv_at hl 5 rfl) ?_
    refine lv_sipush (v := (20412 : Int32)) hx hb dX12_bothNow_9 (by decide) ?_
    refine lv_icmp_ge (tgt := 38) hx hb dX12_bothNow_12 (by decide) (fun hc => ?_) (fun hc => ?_)
    · replace h := h.1 hc
      clear hc
      refine lv_aload_n hx hb dX12_bothNow_38 rfl (lv_at hl 0 rfl) ?_
      refine lv_iconst (v := (0 : Int32)) hx hb dX12_bothNow_39 (by decide) ?_
      refine jpi (f := 36) hx hb hts hown hst w hx0 hiX12 (rfl : vwCl[11]? = some (RX12, TX12, 51)) (hts (.fieldLink RX12 248 "FootByGateModel" "bothMany" "I") (by decide +kernel)) ⟨by decide, by decide, rfl⟩ tyX12 tyX12_ok nmX12 rfl ⟨rfl, rfl⟩ dX12_bothNow_40 (fun i40 H locs he w => ?_)
      replace h := h i40 he
      clear he
      refine lv_aload_n hx hb dX12_bothNow_43 rfl (lv_at hl 0 rfl) ?_
      refine lv_iconst (v := (0 : Int32)) hx hb dX12_bothNow_44 (by decide) ?_
      refine jpi (f := 37) hx hb hts hown hst w hx0 hiX12 (rfl : vwCl[11]? = some (RX12, TX12, 51)) (hts (.fieldLink RX12 245 "FootByGateModel" "bothEnd" "I") (by decide +kernel)) ⟨by decide, by decide, rfl⟩ tyX12 tyX12_ok nmX12 rfl ⟨rfl, rfl⟩ dX12_bothNow_45 (fun i45 H locs he w => ?_)
      replace h := h i45 he
      clear he
      refine lv_aload_n hx hb dX12_bothNow_48 rfl (lv_at hl 0 rfl) ?_
      refine lv_iconst (v := (0 : Int32)) hx hb dX12_bothNow_49 (by decide) ?_
      refine jpi (f := 38) hx hb hts hown hst w hx0 hiX12 (rfl : vwCl[11]? = some (RX12, TX12, 51)) (hts (.fieldLink RX12 251 "FootByGateModel" "bothFrom" "I") (by decide +kernel)) ⟨by decide, by decide, rfl⟩ tyX12 tyX12_ok nmX12 rfl ⟨rfl, rfl⟩ dX12_bothNow_50 (fun i50 H locs he w => ?_)
      replace h := h i50 he
      clear he
      refine lv_aload_n hx hb dX12_bothNow_53 rfl (lv_at hl 0 rfl) ?_
      refine lv_aload_n hx hb dX12_bothNow_54 rfl (lv_at hl 0 rfl) ?_
      obtain ⟨a55, hr0, h⟩ := h
      refine jgr (f := 10) hx hb hts hown hst w hG hx0 hiX12 (rfl : vwCl[11]? = some (RX12, TX12, 51)) (hts (.fieldLink RX12 25 "FootByGateModel" "standsOf" "[I") (by decide +kernel)) ⟨by decide, by decide, rfl⟩ (rfl : jrt 11 10 = 13) dX12_bothNow_55 hr0 (fun ha55 => ?_)
      clear hr0
      refine lv_iload_n hx hb dX12_bothNow_58 rfl (lv_at hl 1 rfl) ?_
      obtain ⟨hn, h⟩ := h
      refine jaid hx hb hst w ha55 hn dX12_bothNow_59 ?_
      clear hn
      refine lv_aload_n hx hb dX12_bothNow_60 rfl (lv_at hl 0 rfl) ?_
      obtain ⟨a61, hr0, h⟩ := h
      refine jgr (f := 10) hx hb hts hown hst w hG hx0 hiX12 (rfl : vwCl[11]? = some (RX12, TX12, 51)) (hts (.fieldLink RX12 25 "FootByGateModel" "standsOf" "[I") (by decide +kernel)) ⟨by decide, by decide, rfl⟩ (rfl : jrt 11 10 = 13) dX12_bothNow_61 hr0 (fun ha61 => ?_)
      clear hr0
      refine lv_iload_n hx hb dX12_bothNow_64 rfl (lv_at hl 2 rfl) ?_
      obtain ⟨hn, h⟩ := h
      refine jaid hx hb hst w ha61 hn dX12_bothNow_65 ?_
      clear hn
      refine jcS_i (As := [.int (i50 a55 x1.toNatClampNeg), .int (i50 a61 x2.toNatClampNeg)]) (rest := [.ref (b + x0)]) C0 w (c_X12_together hG h) (va_cwS 2 hts gX12_bothNow_X12_together rfl rfl rfl (by decide +kernel) ⟨Nat.le_of_ble_eq_true rfl, Nat.le_of_ble_eq_true rfl⟩) rfl hl.1 rfl (Nat.le_of_ble_eq_true rfl) dX12_bothNow_66 (fun q66 i66 j66 H locs h w => ?_) ⟨Nat.zero_le _, Nat.zero_le _⟩
      refine lv_iconst (v := (0 : Int32)) hx hb dX12_bothNow_69 (by decide) ?_
      refine jcV_v (k := x0) (As := [.int q66, .int (0 : Int32)]) (rest := []) C0 w (c_X12_comeBoth hG hx0 h) (cwV 2 hts gX12_bothNow_X12_comeBoth rfl rfl rfl (by decide +kernel) ⟨Nat.le_of_ble_eq_true rfl, Nat.le_of_ble_eq_true rfl⟩) hx0 (rfl : vwCl[11]? = some (RX12, TX12, 51)) (by decide) rfl hl.1 rfl (Nat.le_of_ble_eq_true rfl) dX12_bothNow_70 (fun i70 j70 H locs h w => ?_) ⟨Nat.zero_le _, Nat.zero_le _⟩
      obtain ⟨g0, h⟩ := h
      exact w_X12_bothNow_L73 C0 hr hlk g0 w hx0 (lv_sub hl [0, 1, 2, 3, 4] rfl) h
    · replace h := h.2 hc
      clear hc
      refine lv_aload_n hx hb dX12_bothNow_15 rfl (lv_at hl 0 rfl) ?_
      obtain ⟨a16, hr0, h⟩ := h
      refine jgr (f := 33) hx hb hts hown hst w hG hx0 hiX12 (rfl : vwCl[11]? = some (RX12, TX12, 51)) (hts (.fieldLink RX12 66 "FootByGateModel" "bothCost" "[I") (by decide +kernel)) ⟨by decide, by decide, rfl⟩ (rfl : jrt 11 33 = 13) dX12_bothNow_16 hr0 (fun ha16 => ?_)
      clear hr0
      refine lv_iload hx hb dX12_bothNow_19 (lv_at hl 5 rfl) ?_
      refine lv_ldc hx hb hown (hts (.constant RX12 193 (268435456)) (by decide +kernel)) dX12_bothNow_21 ?_
      obtain ⟨hn, h⟩ := h
      refine jais hx hb hst w ha16 hn dX12_bothNow_23 (fun i23 H locs he w => ?_)
      replace h := h i23 he
      clear he hn
      refine lv_aload_n hx hb dX12_bothNow_24 rfl (lv_at hl 0 rfl) ?_
      obtain ⟨a25, hr0, h⟩ := h
      refine jgr (f := 35) hx hb hts hown hst w hG hx0 hiX12 (rfl : vwCl[11]? = some (RX12, TX12, 51)) (hts (.fieldLink RX12 72 "FootByGateModel" "bothWaits" "[Z") (by decide +kernel)) ⟨by decide, by decide, rfl⟩ (rfl : jrt 11 35 = 15) dX12_bothNow_25 hr0 (fun ha25 => ?_)
      clear hr0
      refine lv_iload hx hb dX12_bothNow_28 (lv_at hl 5 rfl) ?_
      refine lv_iconst (v := (0 : Int32)) hx hb dX12_bothNow_30 (by decide) ?_
      obtain ⟨hn, h⟩ := h
      refine jazs hx hb hst w ha25 hn dX12_bothNow_31 (fun i31 H locs he w => ?_)
      replace h := h i31 he
      clear he hn
      obtain ⟨v32, he⟩ : ∃ z : Int32, z = x5 + (1 : Int32) := ⟨_, rfl⟩
      replace h := h v32 he
      refine lv_iinc (v := v32) (lv' := [(5, .int v32), (0, .ref (b + x0)), (1, .int x1), (2, .int x2), (3, .int x3), (4, .int x4)]) hx hb dX12_bothNow_32 hl (k := 5) rfl (by rw [he]; rfl) (by decide) rfl (fun ls hl => ?_)
      clear he
      refine lv_goto (tgt := 7) hx hb dX12_bothNow_35 (by decide) ?_
      exact ih w hx0 (lv_sub hl [1, 2, 3, 4, 5, 0] rfl) h
set_option maxHeartbeats 4000000 in
set_option maxRecDepth 100000 in
theorem c_X12_bothNow (hG : jG n K r) {i : jI} {j : jL} {x0 : Nat} {x1 : Int32} {x2 : Int32} {x3 : Int32} (hx0 : x0 < n ∧ K x0 = 11) (h : J_X12_bothNow len r Q i j x0 x1 x2 x3) : Met l yX12_bothNow wsX12_bothNow rm_X12_bothNow (va_Pc [.ref (b + x0), .int x1, .int x2, .int x3] (jPre b cy D tU n K len r i j)) (jQi b cy D tU n K len r Q) 0 0 (jA b) := by
  refine Met.ofW (cc := cX12_bothNow) (maxL := 12) (ret := (some .int)) (by decide) rfl ?_
  intro p e s m args below meth c s₁ B hml hv
  obtain ⟨rfl, hv⟩ := hv
  have C0 : jCx p s m _ c cX12_bothNow 12 wsX12_bothNow RX12 b cy D tU n K r := ⟨B.exec, B.bytes, hml, findClass_of_methodNamed B.named, atoms_spec (ws := wsX12_bothNow) B.pre, hv.2.2, hG⟩
  have hr := B.returns
  have hlk := B.notSynchronized
  obtain ⟨hx, hb, hml, hown, hts, hst, hG⟩ := id C0
  have hiX12 : ∀ w ∈ u_ws RX12 TX12 51, w ∈ wsX12_bothNow := hiX12_X12_bothNow
  have w := jDy.start hv
  have hl := lv_entry ([.ref (b + x0), .int x1, .int x2, .int x3]) (n := 12) (Nat.le_of_ble_eq_true rfl)
  rw [lg_entry_eq]
  generalize (lg_sl ([.ref (b + x0), .int x1, .int x2, .int x3]) ++ List.replicate (12 - (lg_sl ([.ref (b + x0), .int x1, .int x2, .int x3])).length) Slot.unset).toArray = ls at hl ⊢
  replace hl : lv_has ls 12 [(0, .ref (b + x0)), (1, .int x1), (2, .int x2), (3, .int x3)] := hl
  show W p l e rm_X12_bothNow s m _ below meth c s.heap [] 0 0 _ (F0 m 0 ls [])
  rw [J_X12_bothNow] at h
  refine lv_ldc hx hb hown (hts (.constant RX12 193 (268435456)) (by decide +kernel)) dX12_bothNow_0 ?_
  refine lv_istore (lv' := [(4, .int (268435456 : Int32)), (0, .ref (b + x0)), (1, .int x1), (2, .int x2), (3, .int x3)]) hx hb dX12_bothNow_2 hl (by decide) rfl (fun ls hl => ?_)
  refine lv_iconst (v := (0 : Int32)) hx hb dX12_bothNow_4 (by decide) ?_
  refine lv_istore (lv' := [(5, .int (0 : Int32)), (4, .int (268435456 : Int32)), (0, .ref (b + x0)), (1, .int x1), (2, .int x2), (3, .int x3)]) hx hb dX12_bothNow_5 hl (by decide) rfl (fun ls hl => ?_)
  obtain ⟨g0, h⟩ := h
  exact w_X12_bothNow_L7 C0 hr hlk g0 w hx0 (lv_sub hl [2, 3, 4, 5, 1, 0] rfl) h
end S_X12_bothNow
section S_X12_isPlace
def J_X12_isPlace (len : Nat → Nat) (r : jR) (Q : Int32 → jI → jL → Prop) (i : jI) (j : jL) (x0 : Int32) : Prop := J_X12_within len r (fun (q4 : Int32) (i4 : jI) (j4 : jL) => (q4 = 0 ∨ q4 = 1) ∧ Q q4 i4 j4) i j x0 (0 : Int32) (6 : Int32)
abbrev rm_X12_isPlace : Room := { frames := 1, cells := 0, slots := 0, locals := 22 }
variable {p : Program} {l : Launch} {e : Env} {s : State} {m : MethodId} {args : Array Value} {below : List Frame} {meth : Method} {c : Code} {b tU n : Nat} {cy : Nat → ClassId} {D : va_G} {K len : Nat → Nat} {r : jR} {Q : Int32 → jI → jL → Prop}
set_option maxHeartbeats 4000000 in
set_option maxRecDepth 100000 in
theorem c_X12_isPlace (hG : jG n K r) {i : jI} {j : jL} {x0 : Int32} (h : J_X12_isPlace len r Q i j x0) : Met l yX12_isPlace wsX12_isPlace rm_X12_isPlace (va_Pc [.int x0] (jPre b cy D tU n K len r i j)) (jQi b cy D tU n K len r Q) 0 0 (jA b) := by
  refine Met.ofW (cc := cX12_isPlace) (maxL := 1) (ret := (some .boolean)) (by decide) rfl ?_
  intro p e s m args below meth c s₁ B hml hv
  obtain ⟨rfl, hv⟩ := hv
  have C0 : jCx p s m _ c cX12_isPlace 1 wsX12_isPlace RX12 b cy D tU n K r := ⟨B.exec, B.bytes, hml, findClass_of_methodNamed B.named, atoms_spec (ws := wsX12_isPlace) B.pre, hv.2.2, hG⟩
  have hr := B.returns
  have hlk := B.notSynchronized
  obtain ⟨hx, hb, hml, hown, hts, hst, hG⟩ := id C0
  have w := jDy.start hv
  have hl := lv_entry ([.int x0]) (n := 1) (Nat.le_of_ble_eq_true rfl)
  rw [lg_entry_eq]
  generalize (lg_sl ([.int x0]) ++ List.replicate (1 - (lg_sl ([.int x0])).length) Slot.unset).toArray = ls at hl ⊢
  replace hl : lv_has ls 1 [(0, .int x0)] := hl
  show W p l e rm_X12_isPlace s m _ below meth c s.heap [] 0 0 _ (F0 m 0 ls [])
  rw [J_X12_isPlace] at h
  refine lv_iload_n hx hb dX12_isPlace_0 rfl (lv_at hl 0 rfl) ?_
  refine lv_iconst (v := (0 : Int32)) hx hb dX12_isPlace_1 (by decide) ?_
  refine lv_bipush (v := (6 : Int32)) hx hb dX12_isPlace_2 (by decide) ?_
  refine jcS_i (As := [.int x0, .int (0 : Int32), .int (6 : Int32)]) (rest := []) C0 w (c_X12_within hG h) (va_cwS 3 hts gX12_isPlace_X12_within rfl rfl rfl (by decide +kernel) ⟨Nat.le_of_ble_eq_true rfl, Nat.le_of_ble_eq_true rfl⟩) rfl hl.1 rfl (Nat.le_of_ble_eq_true rfl) dX12_isPlace_4 (fun q4 i4 j4 H locs h w => ?_) ⟨Nat.zero_le _, Nat.zero_le _⟩
  exact jret_z hx hb hr hlk hst w h.1 h.2 dX12_isPlace_7
end S_X12_isPlace
section S_X12_both
def J_X12_both_L28 (len : Nat → Nat) (r : jR) (Q : Int32 → jI → jL → Prop) (i : jI) (j : jL) : Prop := Q (-101 : Int32) i j
def J_X12_both (len : Nat → Nat) (r : jR) (Q : Int32 → jI → jL → Prop) (i : jI) (j : jL) (x0 : Nat) (x1 : Int32) (x2 : Int32) (x3 : Int32) : Prop := J_X12_isWalker len r (fun (q2 : Int32) (i2 : jI) (j2 : jL) => ((q2 = 0) → (J_X12_both_L28 len r Q i2 j2 )) ∧ ((¬ q2 = 0) → (J_X12_isWalker len r (fun (q10 : Int32) (i10 : jI) (j10 : jL) => ((q10 = 0) → (J_X12_both_L28 len r Q i10 j10 )) ∧ ((¬ q10 = 0) → (((x1 = x2) → (J_X12_both_L28 len r Q i10 j10 )) ∧ ((¬ x1 = x2) → (J_X12_isPlace len r (fun (q22 : Int32) (i22 : jI) (j22 : jL) => ((¬ q22 = 0) → (∃ a32, r x0 10 = some a32 ∧ (vp_in x1 (len a32) ∧ (J_X12_placeIn len r (fun (q37 : Int32) (i37 : jI) (j37 : jL) => ∃ a41, r x0 10 = some a41 ∧ (vp_in x2 (len a41) ∧ (J_X12_placeIn len r (fun (q46 : Int32) (i46 : jI) (j46 : jL) => ((¬ q37 = q46) → (Q (-103 : Int32) i46 j46)) ∧ ((q37 = q46) → (J_X12_bothNow len r (fun (q56 : Int32) (i56 : jI) (j56 : jL) => Q q56 i56 j56) i46 j46 x0 x1 x2 x3))) i37 j37 (i37 a41 x2.toNatClampNeg)))) i22 j22 (i22 a32 x1.toNatClampNeg))))) ∧ ((q22 = 0) → (J_X12_both_L28 len r Q i22 j22 ))) i10 j10 x3))))) i2 j2 x0 x2))) i j x0 x1
abbrev rm_X12_both : Room := { frames := 4, cells := 0, slots := 0, locals := 102 }
variable {p : Program} {l : Launch} {e : Env} {s : State} {m : MethodId} {args : Array Value} {below : List Frame} {meth : Method} {c : Code} {b tU n : Nat} {cy : Nat → ClassId} {D : va_G} {K len : Nat → Nat} {r : jR} {Q : Int32 → jI → jL → Prop}
theorem hiX12_X12_both : ∀ w ∈ u_ws RX12 TX12 51, w ∈ wsX12_both := by decide +kernel
set_option maxHeartbeats 4000000 in
set_option maxRecDepth 100000 in
theorem w_X12_both_L28 (C0 : jCx p s m args c cX12_both 4 wsX12_both RX12 b cy D tU n K r) (hr : meth.sig.returnType = some .int) (hlk : meth.locks = false) {H : Heap} {locs : List Loc} {ls : Array Slot} {i : jI} {j : jL}  (w : jDy b cy D n K len r i j s H locs) (hl : lv_has ls 4 []) (h : J_X12_both_L28 len r Q i j) : W p l e rm_X12_both s m args below meth c H locs 0 0 (MQ below (jQi b cy D tU n K len r Q) args s 0 0 (jA b)) (F0 m 28 ls []) := by
  obtain ⟨hx, hb, hml, hown, hts, hst, hG⟩ := id C0
  have hiX12 : ∀ w ∈ u_ws RX12 TX12 51, w ∈ wsX12_both := hiX12_X12_both
  rw [J_X12_both_L28] at h
  refine lv_bipush (v := (-101 : Int32)) hx hb dX12_both_28 (by decide) ?_
  exact jret_i hx hb hr hlk hst w h dX12_both_30
set_option maxHeartbeats 4000000 in
set_option maxRecDepth 100000 in
theorem c_X12_both (hG : jG n K r) {i : jI} {j : jL} {x0 : Nat} {x1 : Int32} {x2 : Int32} {x3 : Int32} (hx0 : x0 < n ∧ K x0 = 11) (h : J_X12_both len r Q i j x0 x1 x2 x3) : Met l yX12_both wsX12_both rm_X12_both (va_Pc [.ref (b + x0), .int x1, .int x2, .int x3] (jPre b cy D tU n K len r i j)) (jQi b cy D tU n K len r Q) 0 0 (jA b) := by
  refine Met.ofW (cc := cX12_both) (maxL := 4) (ret := (some .int)) (by decide) rfl ?_
  intro p e s m args below meth c s₁ B hml hv
  obtain ⟨rfl, hv⟩ := hv
  have C0 : jCx p s m _ c cX12_both 4 wsX12_both RX12 b cy D tU n K r := ⟨B.exec, B.bytes, hml, findClass_of_methodNamed B.named, atoms_spec (ws := wsX12_both) B.pre, hv.2.2, hG⟩
  have hr := B.returns
  have hlk := B.notSynchronized
  obtain ⟨hx, hb, hml, hown, hts, hst, hG⟩ := id C0
  have hiX12 : ∀ w ∈ u_ws RX12 TX12 51, w ∈ wsX12_both := hiX12_X12_both
  have w := jDy.start hv
  have hl := lv_entry ([.ref (b + x0), .int x1, .int x2, .int x3]) (n := 4) (Nat.le_of_ble_eq_true rfl)
  rw [lg_entry_eq]
  generalize (lg_sl ([.ref (b + x0), .int x1, .int x2, .int x3]) ++ List.replicate (4 - (lg_sl ([.ref (b + x0), .int x1, .int x2, .int x3])).length) Slot.unset).toArray = ls at hl ⊢
  replace hl : lv_has ls 4 [(0, .ref (b + x0)), (1, .int x1), (2, .int x2), (3, .int x3)] := hl
  show W p l e rm_X12_both s m _ below meth c s.heap [] 0 0 _ (F0 m 0 ls [])
  rw [J_X12_both] at h
  refine lv_aload_n hx hb dX12_both_0 rfl (lv_at hl 0 rfl) ?_
  refine lv_iload_n hx hb dX12_both_1 rfl (lv_at hl 1 rfl) ?_
  refine jcV_i (k := x0) (As := [.int x1]) (rest := []) C0 w (c_X12_isWalker hG hx0 h) (cwV 1 hts gX12_both_X12_isWalker rfl rfl rfl (by decide +kernel) ⟨Nat.le_of_ble_eq_true rfl, Nat.le_of_ble_eq_true rfl⟩) hx0 (rfl : vwCl[11]? = some (RX12, TX12, 51)) (by decide) rfl hl.1 rfl (Nat.le_of_ble_eq_true rfl) dX12_both_2 (fun q2 i2 j2 H locs h w => ?_) ⟨Nat.zero_le _, Nat.zero_le _⟩
  refine lv_if_eq (tgt := 28) hx hb dX12_both_5 (by decide) (fun hc => ?_) (fun hc => ?_)
  · replace h := h.1 hc
    clear hc
    exact w_X12_both_L28 C0 hr hlk w (lv_sub hl [] rfl) h
  · replace h := h.2 hc
    clear hc
    refine lv_aload_n hx hb dX12_both_8 rfl (lv_at hl 0 rfl) ?_
    refine lv_iload_n hx hb dX12_both_9 rfl (lv_at hl 2 rfl) ?_
    refine jcV_i (k := x0) (As := [.int x2]) (rest := []) C0 w (c_X12_isWalker hG hx0 h) (cwV 1 hts gX12_both_X12_isWalker rfl rfl rfl (by decide +kernel) ⟨Nat.le_of_ble_eq_true rfl, Nat.le_of_ble_eq_true rfl⟩) hx0 (rfl : vwCl[11]? = some (RX12, TX12, 51)) (by decide) rfl hl.1 rfl (Nat.le_of_ble_eq_true rfl) dX12_both_10 (fun q10 i10 j10 H locs h w => ?_) ⟨Nat.zero_le _, Nat.zero_le _⟩
    refine lv_if_eq (tgt := 28) hx hb dX12_both_13 (by decide) (fun hc => ?_) (fun hc => ?_)
    · replace h := h.1 hc
      clear hc
      exact w_X12_both_L28 C0 hr hlk w (lv_sub hl [] rfl) h
    · replace h := h.2 hc
      clear hc
      refine lv_iload_n hx hb dX12_both_16 rfl (lv_at hl 1 rfl) ?_
      refine lv_iload_n hx hb dX12_both_17 rfl (lv_at hl 2 rfl) ?_
      refine lv_icmp_eq (tgt := 28) hx hb dX12_both_18 (by decide) (fun hc => ?_) (fun hc => ?_)
      · replace h := h.1 hc
        clear hc
        exact w_X12_both_L28 C0 hr hlk w (lv_sub hl [] rfl) h
      · replace h := h.2 hc
        clear hc
        refine lv_iload_n hx hb dX12_both_21 rfl (lv_at hl 3 rfl) ?_
        refine jcS_i (As := [.int x3]) (rest := []) C0 w (c_X12_isPlace hG h) (va_cwS 1 hts gX12_both_X12_isPlace rfl rfl rfl (by decide +kernel) ⟨Nat.le_of_ble_eq_true rfl, Nat.le_of_ble_eq_true rfl⟩) rfl hl.1 rfl (Nat.le_of_ble_eq_true rfl) dX12_both_22 (fun q22 i22 j22 H locs h w => ?_) ⟨Nat.zero_le _, Nat.zero_le _⟩
        refine lv_if_ne (tgt := 31) hx hb dX12_both_25 (by decide) (fun hc => ?_) (fun hc => ?_)
        · replace h := h.1 hc
          clear hc
          refine lv_aload_n hx hb dX12_both_31 rfl (lv_at hl 0 rfl) ?_
          obtain ⟨a32, hr0, h⟩ := h
          refine jgr (f := 10) hx hb hts hown hst w hG hx0 hiX12 (rfl : vwCl[11]? = some (RX12, TX12, 51)) (hts (.fieldLink RX12 25 "FootByGateModel" "standsOf" "[I") (by decide +kernel)) ⟨by decide, by decide, rfl⟩ (rfl : jrt 11 10 = 13) dX12_both_32 hr0 (fun ha32 => ?_)
          clear hr0
          refine lv_iload_n hx hb dX12_both_35 rfl (lv_at hl 1 rfl) ?_
          obtain ⟨hn, h⟩ := h
          refine jaid hx hb hst w ha32 hn dX12_both_36 ?_
          clear hn
          refine jcS_i (As := [.int (i22 a32 x1.toNatClampNeg)]) (rest := []) C0 w (c_X12_placeIn hG h) (va_cwS 1 hts gX12_both_X12_placeIn rfl rfl rfl (by decide +kernel) ⟨Nat.le_of_ble_eq_true rfl, Nat.le_of_ble_eq_true rfl⟩) rfl hl.1 rfl (Nat.le_of_ble_eq_true rfl) dX12_both_37 (fun q37 i37 j37 H locs h w => ?_) ⟨Nat.zero_le _, Nat.zero_le _⟩
          refine lv_aload_n hx hb dX12_both_40 rfl (lv_at hl 0 rfl) ?_
          obtain ⟨a41, hr0, h⟩ := h
          refine jgr (f := 10) hx hb hts hown hst w hG hx0 hiX12 (rfl : vwCl[11]? = some (RX12, TX12, 51)) (hts (.fieldLink RX12 25 "FootByGateModel" "standsOf" "[I") (by decide +kernel)) ⟨by decide, by decide, rfl⟩ (rfl : jrt 11 10 = 13) dX12_both_41 hr0 (fun ha41 => ?_)
          clear hr0
          refine lv_iload_n hx hb dX12_both_44 rfl (lv_at hl 2 rfl) ?_
          obtain ⟨hn, h⟩ := h
          refine jaid hx hb hst w ha41 hn dX12_both_45 ?_
          clear hn
          refine jcS_i (As := [.int (i37 a41 x2.toNatClampNeg)]) (rest := [.int q37]) C0 w (c_X12_placeIn hG h) (va_cwS 1 hts gX12_both_X12_placeIn rfl rfl rfl (by decide +kernel) ⟨Nat.le_of_ble_eq_true rfl, Nat.le_of_ble_eq_true rfl⟩) rfl hl.1 rfl (Nat.le_of_ble_eq_true rfl) dX12_both_46 (fun q46 i46 j46 H locs h w => ?_) ⟨Nat.zero_le _, Nat.zero_le _⟩
          refine lv_icmp_ne (tgt := 62) hx hb dX12_both_49 (by decide) (fun hc => ?_) (fun hc => ?_)
          · replace h := h.1 hc
            clear hc
            refine lv_bipush (v := (-103 : Int32)) hx hb dX12_both_62 (by decide) ?_
            exact jret_i hx hb hr hlk hst w h dX12_both_64
          · replace h := h.2 hc
            clear hc
            refine lv_aload_n hx hb dX12_both_52 rfl (lv_at hl 0 rfl) ?_
            refine lv_iload_n hx hb dX12_both_53 rfl (lv_at hl 1 rfl) ?_
            refine lv_iload_n hx hb dX12_both_54 rfl (lv_at hl 2 rfl) ?_
            refine lv_iload_n hx hb dX12_both_55 rfl (lv_at hl 3 rfl) ?_
            refine jcV_i (k := x0) (As := [.int x1, .int x2, .int x3]) (rest := []) C0 w (c_X12_bothNow hG hx0 h) (cwV 3 hts gX12_both_X12_bothNow rfl rfl rfl (by decide +kernel) ⟨Nat.le_of_ble_eq_true rfl, Nat.le_of_ble_eq_true rfl⟩) hx0 (rfl : vwCl[11]? = some (RX12, TX12, 51)) (by decide) rfl hl.1 rfl (Nat.le_of_ble_eq_true rfl) dX12_both_56 (fun q56 i56 j56 H locs h w => ?_) ⟨Nat.zero_le _, Nat.zero_le _⟩
            refine lv_goto (tgt := 64) hx hb dX12_both_59 (by decide) ?_
            exact jret_i hx hb hr hlk hst w h dX12_both_64
        · replace h := h.2 hc
          clear hc
          exact w_X12_both_L28 C0 hr hlk w (lv_sub hl [] rfl) h
end S_X12_both
section S_X12_costTo
def J_X12_costTo_L32 (len : Nat → Nat) (r : jR) (Q : Int32 → jI → jL → Prop) (Hd5 : jI → jL → Nat → Int32 → Int32 → Prop) (i : jI) (j : jL) (x0 : Nat) (x3 : Int32) (t0 : Int32) : Prop := ∀ v33 : Int32, v33 = x3 + (7 : Int32) → (Hd5 i j x0 t0 v33)
def J_X12_costTo_L5 (len : Nat → Nat) (r : jR) (Q : Int32 → jI → jL → Prop) : Nat → jI → jL → Nat → Int32 → Int32 → Prop
  | 0 => fun _ _ _ _ _ => False
  | g + 1 => fun i j x0 x2 x3 => (((378 : Int32) ≤ x3) → (Q x2 i j)) ∧ ((¬ (378 : Int32) ≤ x3) → (∃ a13, r x0 26 = some a13 ∧ (vp_in x3 (len a13) ∧ (((x2 ≤ (i a13 x3.toNatClampNeg)) → (J_X12_costTo_L32 len r Q (J_X12_costTo_L5 len r Q g) i j x0 x3 x2)) ∧ ((¬ x2 ≤ (i a13 x3.toNatClampNeg)) → (∃ a23, r x0 26 = some a23 ∧ (vp_in x3 (len a23) ∧ (J_X12_costTo_L32 len r Q (J_X12_costTo_L5 len r Q g) i j x0 x3 (i a23 x3.toNatClampNeg)))))))))
def J_X12_costTo (len : Nat → Nat) (r : jR) (Q : Int32 → jI → jL → Prop) (i : jI) (j : jL) (x0 : Nat) (x1 : Int32) : Prop := ∃ g0, J_X12_costTo_L5 len r Q g0 i j x0 (268435456 : Int32) x1
abbrev rm_X12_costTo : Room := { frames := 0, cells := 0, slots := 0, locals := 0 }
variable {p : Program} {l : Launch} {e : Env} {s : State} {m : MethodId} {args : Array Value} {below : List Frame} {meth : Method} {c : Code} {b tU n : Nat} {cy : Nat → ClassId} {D : va_G} {K len : Nat → Nat} {r : jR} {Q : Int32 → jI → jL → Prop}
theorem hiX12_X12_costTo : ∀ w ∈ u_ws RX12 TX12 51, w ∈ wsX12_costTo := by decide +kernel
set_option maxHeartbeats 4000000 in
set_option maxRecDepth 100000 in
theorem w_X12_costTo_L32 (C0 : jCx p s m args c cX12_costTo 4 wsX12_costTo RX12 b cy D tU n K r) (hr : meth.sig.returnType = some .int) (hlk : meth.locks = false) {Hd5 : jI → jL → Nat → Int32 → Int32 → Prop} (k5 : ∀ {H : Heap} {locs : List Loc} {ls : Array Slot} {i : jI} {j : jL} {x0 : Nat} {x2 : Int32} {x3 : Int32} (w : jDy b cy D n K len r i j s H locs) (hx0 : x0 < n ∧ K x0 = 11) (hl : lv_has ls 4 [(0, .ref (b + x0)), (2, .int x2), (3, .int x3)]) (h : Hd5 i j x0 x2 x3), W p l e rm_X12_costTo s m args below meth c H locs 0 0 (MQ below (jQi b cy D tU n K len r Q) args s 0 0 (jA b)) (F0 m 5 ls [])) {H : Heap} {locs : List Loc} {ls : Array Slot} {i : jI} {j : jL} {x0 : Nat} {x3 : Int32} {t0 : Int32} (w : jDy b cy D n K len r i j s H locs) (hx0 : x0 < n ∧ K x0 = 11) (hl : lv_has ls 4 [(0, .ref (b + x0)), (3, .int x3)]) (h : J_X12_costTo_L32 len r Q Hd5 i j x0 x3 t0) : W p l e rm_X12_costTo s m args below meth c H locs 0 0 (MQ below (jQi b cy D tU n K len r Q) args s 0 0 (jA b)) (F0 m 32 ls [.int t0]) := by
  obtain ⟨hx, hb, hml, hown, hts, hst, hG⟩ := id C0
  have hiX12 : ∀ w ∈ u_ws RX12 TX12 51, w ∈ wsX12_costTo := hiX12_X12_costTo
  rw [J_X12_costTo_L32] at h
  refine lv_istore_n (lv' := [(2, .int t0), (0, .ref (b + x0)), (3, .int x3)]) hx hb dX12_costTo_32 rfl hl (by decide) rfl (fun ls hl => ?_)
  obtain ⟨v33, he⟩ : ∃ z : Int32, z = x3 + (7 : Int32) := ⟨_, rfl⟩
  replace h := h v33 he
  refine lv_iinc (v := v33) (lv' := [(3, .int v33), (2, .int t0), (0, .ref (b + x0))]) hx hb dX12_costTo_33 hl (k := 2) rfl (by rw [he]; rfl) (by decide) rfl (fun ls hl => ?_)
  clear he
  refine lv_goto (tgt := 5) hx hb dX12_costTo_36 (by decide) ?_
  exact k5 w hx0 (lv_sub hl [2, 1, 0] rfl) h
set_option maxHeartbeats 4000000 in
set_option maxRecDepth 100000 in
theorem w_X12_costTo_L5 (C0 : jCx p s m args c cX12_costTo 4 wsX12_costTo RX12 b cy D tU n K r) (hr : meth.sig.returnType = some .int) (hlk : meth.locks = false) : ∀ (g : Nat) {H : Heap} {locs : List Loc} {ls : Array Slot} {i : jI} {j : jL} {x0 : Nat} {x2 : Int32} {x3 : Int32} (w : jDy b cy D n K len r i j s H locs) (hx0 : x0 < n ∧ K x0 = 11) (hl : lv_has ls 4 [(0, .ref (b + x0)), (2, .int x2), (3, .int x3)]) (h : J_X12_costTo_L5 len r Q g i j x0 x2 x3), W p l e rm_X12_costTo s m args below meth c H locs 0 0 (MQ below (jQi b cy D tU n K len r Q) args s 0 0 (jA b)) (F0 m 5 ls []) := by
  obtain ⟨hx, hb, hml, hown, hts, hst, hG⟩ := id C0
  have hiX12 : ∀ w ∈ u_ws RX12 TX12 51, w ∈ wsX12_costTo := hiX12_X12_costTo
  intro g
  induction g with
  | zero => intro H locs ls i j x0 x2 x3 w hx0 hl h; exact False.elim h
  | succ g ih =>
    intro H locs ls i j x0 x2 x3 w hx0 hl h
    rw [J_X12_costTo_L5] at h
    refine lv_iload_n hx hb dX12_costTo_5 rfl (lv_at hl 2 rfl) ?_
    refine lv_sipush (v := (378 : Int32)) hx hb dX12_costTo_6 (by decide) ?_
    refine lv_icmp_ge (tgt := 39) hx hb dX12_costTo_9 (by decide) (fun hc => ?_) (fun hc => ?_)
    · replace h := h.1 hc
      clear hc
      refine lv_iload_n hx hb dX12_costTo_39 rfl (lv_at hl 1 rfl) ?_
      exact jret_i hx hb hr hlk hst w h dX12_costTo_40
    · replace h := h.2 hc
      clear hc
      refine lv_aload_n hx hb dX12_costTo_12 rfl (lv_at hl 0 rfl) ?_
      obtain ⟨a13, hr0, h⟩ := h
      refine jgr (f := 26) hx hb hts hown hst w hG hx0 hiX12 (rfl : vwCl[11]? = some (RX12, TX12, 51)) (hts (.fieldLink RX12 50 "FootByGateModel" "cost" "[I") (by decide +kernel)) ⟨by decide, by decide, rfl⟩ (rfl : jrt 11 26 = 13) dX12_costTo_13 hr0 (fun ha13 => ?_)
      clear hr0
      refine lv_iload_n hx hb dX12_costTo_16 rfl (lv_at hl 2 rfl) ?_
      obtain ⟨hn, h⟩ := h
      refine jaid hx hb hst w ha13 hn dX12_costTo_17 ?_
      clear hn
      refine lv_iload_n hx hb dX12_costTo_18 rfl (lv_at hl 1 rfl) ?_
      refine lv_icmp_ge (tgt := 31) hx hb dX12_costTo_19 (by decide) (fun hc => ?_) (fun hc => ?_)
      · replace h := h.1 hc
        clear hc
        refine lv_iload_n hx hb dX12_costTo_31 rfl (lv_at hl 1 rfl) ?_
        exact w_X12_costTo_L32 C0 hr hlk (fun w hx0 hl h => ih w hx0 hl h) w hx0 (lv_sub hl [0, 2] rfl) h
      · replace h := h.2 hc
        clear hc
        refine lv_aload_n hx hb dX12_costTo_22 rfl (lv_at hl 0 rfl) ?_
        obtain ⟨a23, hr0, h⟩ := h
        refine jgr (f := 26) hx hb hts hown hst w hG hx0 hiX12 (rfl : vwCl[11]? = some (RX12, TX12, 51)) (hts (.fieldLink RX12 50 "FootByGateModel" "cost" "[I") (by decide +kernel)) ⟨by decide, by decide, rfl⟩ (rfl : jrt 11 26 = 13) dX12_costTo_23 hr0 (fun ha23 => ?_)
        clear hr0
        refine lv_iload_n hx hb dX12_costTo_26 rfl (lv_at hl 2 rfl) ?_
        obtain ⟨hn, h⟩ := h
        refine jaid hx hb hst w ha23 hn dX12_costTo_27 ?_
        clear hn
        refine lv_goto (tgt := 32) hx hb dX12_costTo_28 (by decide) ?_
        exact w_X12_costTo_L32 C0 hr hlk (fun w hx0 hl h => ih w hx0 hl h) w hx0 (lv_sub hl [0, 2] rfl) h
set_option maxHeartbeats 4000000 in
set_option maxRecDepth 100000 in
theorem c_X12_costTo (hG : jG n K r) {i : jI} {j : jL} {x0 : Nat} {x1 : Int32} (hx0 : x0 < n ∧ K x0 = 11) (h : J_X12_costTo len r Q i j x0 x1) : Met l yX12_costTo wsX12_costTo rm_X12_costTo (va_Pc [.ref (b + x0), .int x1] (jPre b cy D tU n K len r i j)) (jQi b cy D tU n K len r Q) 0 0 (jA b) := by
  refine Met.ofW (cc := cX12_costTo) (maxL := 4) (ret := (some .int)) (by decide) rfl ?_
  intro p e s m args below meth c s₁ B hml hv
  obtain ⟨rfl, hv⟩ := hv
  have C0 : jCx p s m _ c cX12_costTo 4 wsX12_costTo RX12 b cy D tU n K r := ⟨B.exec, B.bytes, hml, findClass_of_methodNamed B.named, atoms_spec (ws := wsX12_costTo) B.pre, hv.2.2, hG⟩
  have hr := B.returns
  have hlk := B.notSynchronized
  obtain ⟨hx, hb, hml, hown, hts, hst, hG⟩ := id C0
  have hiX12 : ∀ w ∈ u_ws RX12 TX12 51, w ∈ wsX12_costTo := hiX12_X12_costTo
  have w := jDy.start hv
  have hl := lv_entry ([.ref (b + x0), .int x1]) (n := 4) (Nat.le_of_ble_eq_true rfl)
  rw [lg_entry_eq]
  generalize (lg_sl ([.ref (b + x0), .int x1]) ++ List.replicate (4 - (lg_sl ([.ref (b + x0), .int x1])).length) Slot.unset).toArray = ls at hl ⊢
  replace hl : lv_has ls 4 [(0, .ref (b + x0)), (1, .int x1)] := hl
  show W p l e rm_X12_costTo s m _ below meth c s.heap [] 0 0 _ (F0 m 0 ls [])
  rw [J_X12_costTo] at h
  refine lv_ldc hx hb hown (hts (.constant RX12 193 (268435456)) (by decide +kernel)) dX12_costTo_0 ?_
  refine lv_istore_n (lv' := [(2, .int (268435456 : Int32)), (0, .ref (b + x0)), (1, .int x1)]) hx hb dX12_costTo_2 rfl hl (by decide) rfl (fun ls hl => ?_)
  refine lv_iload_n hx hb dX12_costTo_3 rfl (lv_at hl 2 rfl) ?_
  refine lv_istore_n (lv' := [(3, .int x1), (2, .int (268435456 : Int32)), (0, .ref (b + x0)), (1, .int x1)]) hx hb dX12_costTo_4 rfl hl (by decide) rfl (fun ls hl => ?_)
  obtain ⟨g0, h⟩ := h
  exact w_X12_costTo_L5 C0 hr hlk g0 w hx0 (lv_sub hl [2, 1, 0] rfl) h
end S_X12_costTo
section S_X12_come
def J_X12_come (len : Nat → Nat) (r : jR) (Q : jI → jL → Prop) (i : jI) (j : jL) (x0 : Nat) (x1 : Int32) (x2 : Int32) : Prop := ∃ a2, r x0 26 = some a2 ∧ (vp_in x1 (len a2) ∧ (((x2 < (i a2 x1.toNatClampNeg)) → (∃ a12, r x0 26 = some a12 ∧ (vp_in x1 (len a12) ∧ ∀ i17 : jI, i17 = ju i a12 x1.toNatClampNeg x2 → (∃ a19, r x0 28 = some a19 ∧ (vp_in x1 (len a19) ∧ (((¬ (i17 a19 x1.toNatClampNeg) = 0) → (Q i17 j)) ∧ (((i17 a19 x1.toNatClampNeg) = 0) → (∃ a28, r x0 28 = some a28 ∧ (vp_in x1 (len a28) ∧ ∀ i33 : jI, i33 = ju i17 a28 x1.toNatClampNeg (vp_nar .boolean (1 : Int32)) → (∃ a35, r x0 27 = some a35 ∧ (vp_in (((i33 x0 29) + (i33 x0 30)) - ((i33 x0 29) + (i33 x0 30)) / (378 : Int32) * (378 : Int32)) (len a35) ∧ ∀ i52 : jI, i52 = ju i33 a35 (((i33 x0 29) + (i33 x0 30)) - ((i33 x0 29) + (i33 x0 30)) / (378 : Int32) * (378 : Int32)).toNatClampNeg x1 → (∀ i60 : jI, i60 = ju i52 x0 30 ((i52 x0 30) + (1 : Int32)) → (Q i60 j))))))))))))) ∧ ((¬ x2 < (i a2 x1.toNatClampNeg)) → (Q i j))))
abbrev rm_X12_come : Room := { frames := 0, cells := 0, slots := 0, locals := 0 }
variable {p : Program} {l : Launch} {e : Env} {s : State} {m : MethodId} {args : Array Value} {below : List Frame} {meth : Method} {c : Code} {b tU n : Nat} {cy : Nat → ClassId} {D : va_G} {K len : Nat → Nat} {r : jR} {Q : jI → jL → Prop}
theorem hiX12_X12_come : ∀ w ∈ u_ws RX12 TX12 51, w ∈ wsX12_come := by decide +kernel
set_option maxHeartbeats 4000000 in
set_option maxRecDepth 100000 in
theorem c_X12_come (hG : jG n K r) {i : jI} {j : jL} {x0 : Nat} {x1 : Int32} {x2 : Int32} (hx0 : x0 < n ∧ K x0 = 11) (h : J_X12_come len r Q i j x0 x1 x2) : Met l yX12_come wsX12_come rm_X12_come (va_Pc [.ref (b + x0), .int x1, .int x2] (jPre b cy D tU n K len r i j)) (jQv b cy D tU n K len r Q) 0 0 (jA b) := by
  refine Met.ofW (cc := cX12_come) (maxL := 3) (ret := none) (by decide) rfl ?_
  intro p e s m args below meth c s₁ B hml hv
  obtain ⟨rfl, hv⟩ := hv
  have C0 : jCx p s m _ c cX12_come 3 wsX12_come RX12 b cy D tU n K r := ⟨B.exec, B.bytes, hml, findClass_of_methodNamed B.named, atoms_spec (ws := wsX12_come) B.pre, hv.2.2, hG⟩
  have hr := B.returns
  have hlk := B.notSynchronized
  obtain ⟨hx, hb, hml, hown, hts, hst, hG⟩ := id C0
  have hiX12 : ∀ w ∈ u_ws RX12 TX12 51, w ∈ wsX12_come := hiX12_X12_come
  have w := jDy.start hv
  have hl := lv_entry ([.ref (b + x0), .int x1, .int x2]) (n := 3) (Nat.le_of_ble_eq_true rfl)
  rw [lg_entry_eq]
  generalize (lg_sl ([.ref (b + x0), .int x1, .int x2]) ++ List.replicate (3 - (lg_sl ([.ref (b + x0), .int x1, .int x2])).length) Slot.unset).toArray = ls at hl ⊢
  replace hl : lv_has ls 3 [(0, .ref (b + x0)), (1, .int x1), (2, .int x2)] := hl
  show W p l e rm_X12_come s m _ below meth c s.heap [] 0 0 _ (F0 m 0 ls [])
  rw [J_X12_come] at h
  refine lv_iload_n hx hb dX12_come_0 rfl (lv_at hl 2 rfl) ?_
  refine lv_aload_n hx hb dX12_come_1 rfl (lv_at hl 0 rfl) ?_
  obtain ⟨a2, hr0, h⟩ := h
  refine jgr (f := 26) hx hb hts hown hst w hG hx0 hiX12 (rfl : vwCl[11]? = some (RX12, TX12, 51)) (hts (.fieldLink RX12 50 "FootByGateModel" "cost" "[I") (by decide +kernel)) ⟨by decide, by decide, rfl⟩ (rfl : jrt 11 26 = 13) dX12_come_2 hr0 (fun ha2 => ?_)
  clear hr0
  refine lv_iload_n hx hb dX12_come_5 rfl (lv_at hl 1 rfl) ?_
  obtain ⟨hn, h⟩ := h
  refine jaid hx hb hst w ha2 hn dX12_come_6 ?_
  clear hn
  refine lv_icmp_lt (tgt := 11) hx hb dX12_come_7 (by decide) (fun hc => ?_) (fun hc => ?_)
  · replace h := h.1 hc
    clear hc
    refine lv_aload_n hx hb dX12_come_11 rfl (lv_at hl 0 rfl) ?_
    obtain ⟨a12, hr0, h⟩ := h
    refine jgr (f := 26) hx hb hts hown hst w hG hx0 hiX12 (rfl : vwCl[11]? = some (RX12, TX12, 51)) (hts (.fieldLink RX12 50 "FootByGateModel" "cost" "[I") (by decide +kernel)) ⟨by decide, by decide, rfl⟩ (rfl : jrt 11 26 = 13) dX12_come_12 hr0 (fun ha12 => ?_)
    clear hr0
    refine lv_iload_n hx hb dX12_come_15 rfl (lv_at hl 1 rfl) ?_
    refine lv_iload_n hx hb dX12_come_16 rfl (lv_at hl 2 rfl) ?_
    obtain ⟨hn, h⟩ := h
    refine jais hx hb hst w ha12 hn dX12_come_17 (fun i17 H locs he w => ?_)
    replace h := h i17 he
    clear he hn
    refine lv_aload_n hx hb dX12_come_18 rfl (lv_at hl 0 rfl) ?_
    obtain ⟨a19, hr0, h⟩ := h
    refine jgr (f := 28) hx hb hts hown hst w hG hx0 hiX12 (rfl : vwCl[11]? = some (RX12, TX12, 51)) (hts (.fieldLink RX12 56 "FootByGateModel" "waits" "[Z") (by decide +kernel)) ⟨by decide, by decide, rfl⟩ (rfl : jrt 11 28 = 15) dX12_come_19 hr0 (fun ha19 => ?_)
    clear hr0
    refine lv_iload_n hx hb dX12_come_22 rfl (lv_at hl 1 rfl) ?_
    obtain ⟨hn, h⟩ := h
    refine jazd hx hb hst w ha19 hn dX12_come_23 ?_
    clear hn
    refine lv_if_ne (tgt := 63) hx hb dX12_come_24 (by decide) (fun hc => ?_) (fun hc => ?_)
    · replace h := h.1 hc
      clear hc
      exact jret_v hx hb hr hlk hst w h dX12_come_63
    · replace h := h.2 hc
      clear hc
      refine lv_aload_n hx hb dX12_come_27 rfl (lv_at hl 0 rfl) ?_
      obtain ⟨a28, hr0, h⟩ := h
      refine jgr (f := 28) hx hb hts hown hst w hG hx0 hiX12 (rfl : vwCl[11]? = some (RX12, TX12, 51)) (hts (.fieldLink RX12 56 "FootByGateModel" "waits" "[Z") (by decide +kernel)) ⟨by decide, by decide, rfl⟩ (rfl : jrt 11 28 = 15) dX12_come_28 hr0 (fun ha28 => ?_)
      clear hr0
      refine lv_iload_n hx hb dX12_come_31 rfl (lv_at hl 1 rfl) ?_
      refine lv_iconst (v := (1 : Int32)) hx hb dX12_come_32 (by decide) ?_
      obtain ⟨hn, h⟩ := h
      refine jazs hx hb hst w ha28 hn dX12_come_33 (fun i33 H locs he w => ?_)
      replace h := h i33 he
      clear he hn
      refine lv_aload_n hx hb dX12_come_34 rfl (lv_at hl 0 rfl) ?_
      obtain ⟨a35, hr0, h⟩ := h
      refine jgr (f := 27) hx hb hts hown hst w hG hx0 hiX12 (rfl : vwCl[11]? = some (RX12, TX12, 51)) (hts (.fieldLink RX12 53 "FootByGateModel" "queue" "[I") (by decide +kernel)) ⟨by decide, by decide, rfl⟩ (rfl : jrt 11 27 = 13) dX12_come_35 hr0 (fun ha35 => ?_)
      clear hr0
      refine lv_aload_n hx hb dX12_come_38 rfl (lv_at hl 0 rfl) ?_
      refine jgi (f := 29) hx hb hts hown hst w hx0 hiX12 (rfl : vwCl[11]? = some (RX12, TX12, 51)) (hts (.fieldLink RX12 187 "FootByGateModel" "queueFrom" "I") (by decide +kernel)) ⟨by decide, by decide, rfl⟩ dX12_come_39 ?_
      refine lv_aload_n hx hb dX12_come_42 rfl (lv_at hl 0 rfl) ?_
      refine jgi (f := 30) hx hb hts hown hst w hx0 hiX12 (rfl : vwCl[11]? = some (RX12, TX12, 51)) (hts (.fieldLink RX12 190 "FootByGateModel" "queueMany" "I") (by decide +kernel)) ⟨by decide, by decide, rfl⟩ dX12_come_43 ?_
      refine lv_iadd hx hb dX12_come_46 ?_
      refine lv_sipush (v := (378 : Int32)) hx hb dX12_come_47 (by decide) ?_
      refine lv_irem hx hb dX12_come_50 (by decide) ?_
      refine lv_iload_n hx hb dX12_come_51 rfl (lv_at hl 1 rfl) ?_
      obtain ⟨hn, h⟩ := h
      refine jais hx hb hst w ha35 hn dX12_come_52 (fun i52 H locs he w => ?_)
      replace h := h i52 he
      clear he hn
      refine lv_aload_n hx hb dX12_come_53 rfl (lv_at hl 0 rfl) ?_
      refine lv_dup hx hb dX12_come_54 rfl ?_
      refine jgi (f := 30) hx hb hts hown hst w hx0 hiX12 (rfl : vwCl[11]? = some (RX12, TX12, 51)) (hts (.fieldLink RX12 190 "FootByGateModel" "queueMany" "I") (by decide +kernel)) ⟨by decide, by decide, rfl⟩ dX12_come_55 ?_
      refine lv_iconst (v := (1 : Int32)) hx hb dX12_come_58 (by decide) ?_
      refine lv_iadd hx hb dX12_come_59 ?_
      refine jpi (f := 30) hx hb hts hown hst w hx0 hiX12 (rfl : vwCl[11]? = some (RX12, TX12, 51)) (hts (.fieldLink RX12 190 "FootByGateModel" "queueMany" "I") (by decide +kernel)) ⟨by decide, by decide, rfl⟩ tyX12 tyX12_ok nmX12 rfl ⟨rfl, rfl⟩ dX12_come_60 (fun i60 H locs he w => ?_)
      replace h := h i60 he
      clear he
      exact jret_v hx hb hr hlk hst w h dX12_come_63
  · replace h := h.2 hc
    clear hc
    exact jret_v hx hb hr hlk hst w h dX12_come_10
end S_X12_come
section S_X12_turned
def J_X12_turned (len : Nat → Nat) (r : jR) (Q : Int32 → jI → jL → Prop) (i : jI) (j : jL) (x0 : Int32) : Prop := J_X12_footIn len r (fun (q1 : Int32) (i1 : jI) (j1 : jL) => ((¬ q1 = 0) → (Q (x0 - (7 : Int32)) i1 j1)) ∧ ((q1 = 0) → (Q (x0 + (7 : Int32)) i1 j1))) i j x0
abbrev rm_X12_turned : Room := { frames := 1, cells := 0, slots := 0, locals := 20 }
variable {p : Program} {l : Launch} {e : Env} {s : State} {m : MethodId} {args : Array Value} {below : List Frame} {meth : Method} {c : Code} {b tU n : Nat} {cy : Nat → ClassId} {D : va_G} {K len : Nat → Nat} {r : jR} {Q : Int32 → jI → jL → Prop}
set_option maxHeartbeats 4000000 in
set_option maxRecDepth 100000 in
theorem c_X12_turned (hG : jG n K r) {i : jI} {j : jL} {x0 : Int32} (h : J_X12_turned len r Q i j x0) : Met l yX12_turned wsX12_turned rm_X12_turned (va_Pc [.int x0] (jPre b cy D tU n K len r i j)) (jQi b cy D tU n K len r Q) 0 0 (jA b) := by
  refine Met.ofW (cc := cX12_turned) (maxL := 1) (ret := (some .int)) (by decide) rfl ?_
  intro p e s m args below meth c s₁ B hml hv
  obtain ⟨rfl, hv⟩ := hv
  have C0 : jCx p s m _ c cX12_turned 1 wsX12_turned RX12 b cy D tU n K r := ⟨B.exec, B.bytes, hml, findClass_of_methodNamed B.named, atoms_spec (ws := wsX12_turned) B.pre, hv.2.2, hG⟩
  have hr := B.returns
  have hlk := B.notSynchronized
  obtain ⟨hx, hb, hml, hown, hts, hst, hG⟩ := id C0
  have w := jDy.start hv
  have hl := lv_entry ([.int x0]) (n := 1) (Nat.le_of_ble_eq_true rfl)
  rw [lg_entry_eq]
  generalize (lg_sl ([.int x0]) ++ List.replicate (1 - (lg_sl ([.int x0])).length) Slot.unset).toArray = ls at hl ⊢
  replace hl : lv_has ls 1 [(0, .int x0)] := hl
  show W p l e rm_X12_turned s m _ below meth c s.heap [] 0 0 _ (F0 m 0 ls [])
  rw [J_X12_turned] at h
  refine lv_iload_n hx hb dX12_turned_0 rfl (lv_at hl 0 rfl) ?_
  refine jcS_i (As := [.int x0]) (rest := []) C0 w (c_X12_footIn hG h) (va_cwS 1 hts gX12_turned_X12_footIn rfl rfl rfl (by decide +kernel) ⟨Nat.le_of_ble_eq_true rfl, Nat.le_of_ble_eq_true rfl⟩) rfl hl.1 rfl (Nat.le_of_ble_eq_true rfl) dX12_turned_1 (fun q1 i1 j1 H locs h w => ?_) ⟨Nat.zero_le _, Nat.zero_le _⟩
  refine lv_if_ne (tgt := 14) hx hb dX12_turned_4 (by decide) (fun hc => ?_) (fun hc => ?_)
  · replace h := h.1 hc
    clear hc
    refine lv_iload_n hx hb dX12_turned_14 rfl (lv_at hl 0 rfl) ?_
    refine lv_bipush (v := (7 : Int32)) hx hb dX12_turned_15 (by decide) ?_
    refine lv_isub hx hb dX12_turned_17 ?_
    exact jret_i hx hb hr hlk hst w h dX12_turned_18
  · replace h := h.2 hc
    clear hc
    refine lv_iload_n hx hb dX12_turned_7 rfl (lv_at hl 0 rfl) ?_
    refine lv_bipush (v := (7 : Int32)) hx hb dX12_turned_8 (by decide) ?_
    refine lv_iadd hx hb dX12_turned_10 ?_
    refine lv_goto (tgt := 18) hx hb dX12_turned_11 (by decide) ?_
    exact jret_i hx hb hr hlk hst w h dX12_turned_18
end S_X12_turned
section S_X12_layCosts
def J_X12_layCosts_L189 (len : Nat → Nat) (r : jR) (Q : jI → jL → Prop) (Hd50 : jI → jL → Nat → Int32 → Int32 → Prop) (i : jI) (j : jL) (x0 : Nat) (x1 : Int32) (x3 : Int32) : Prop := Hd50 i j x0 x1 x3
def J_X12_layCosts_L154 (len : Nat → Nat) (r : jR) (Q : jI → jL → Prop) (Hd50 : jI → jL → Nat → Int32 → Int32 → Prop) (Hd103 : jI → jL → Nat → Int32 → Int32 → Int32 → Int32 → Prop) (i : jI) (j : jL) (x0 : Nat) (x1 : Int32) (x3 : Int32) (x4 : Int32) (x5 : Int32) : Prop := ∀ v154 : Int32, v154 = x5 + (1 : Int32) → (Hd103 i j x0 x1 x3 x4 v154)
def J_X12_layCosts_L103 (len : Nat → Nat) (r : jR) (Q : jI → jL → Prop) (Hd50 : jI → jL → Nat → Int32 → Int32 → Prop) : Nat → jI → jL → Nat → Int32 → Int32 → Int32 → Int32 → Prop
  | 0 => fun _ _ _ _ _ _ _ => False
  | g + 1 => fun i j x0 x1 x3 x4 x5 => (((i x0 0) ≤ x5) → (((x3 = 0) → (J_X12_layCosts_L189 len r Q Hd50 i j x0 x1 x3)) ∧ ((¬ x3 = 0) → (((x1 = (3 : Int32)) → (J_X12_layCosts_L189 len r Q Hd50 i j x0 x1 x3)) ∧ ((¬ x1 = (3 : Int32)) → (J_X12_turned len r (fun (q172 : Int32) (i172 : jI) (j172 : jL) => ∃ a176, r x0 26 = some a176 ∧ (vp_in x4 (len a176) ∧ (J_X12_come len r (fun (i186 : jI) (j186 : jL) => J_X12_layCosts_L189 len r Q Hd50 i186 j186 x0 x1 x3) i172 j172 x0 q172 ((i172 a176 x4.toNatClampNeg) + (10000 : Int32))))) i j x4)))))) ∧ ((¬ (i x0 0) ≤ x5) → (J_X12_behind len r (fun (q118 : Int32) (i118 : jI) (j118 : jL) => ((q118 = (-1 : Int32)) → (J_X12_layCosts_L154 len r Q Hd50 (J_X12_layCosts_L103 len r Q Hd50 g) i118 j118 x0 x1 x3 x4 x5)) ∧ ((¬ q118 = (-1 : Int32)) → (∃ a133, r x0 26 = some a133 ∧ (vp_in x4 (len a133) ∧ (∃ a141, r x0 3 = some a141 ∧ (vp_in x5 (len a141) ∧ (J_X12_stepsBy len r (fun (q147 : Int32) (i147 : jI) (j147 : jL) => J_X12_come len r (fun (i151 : jI) (j151 : jL) => J_X12_layCosts_L154 len r Q Hd50 (J_X12_layCosts_L103 len r Q Hd50 g) i151 j151 x0 x1 x3 x4 x5) i147 j147 x0 q118 ((i118 a133 x4.toNatClampNeg) + q147)) i118 j118 x1 (i118 a141 x5.toNatClampNeg)))))))) i j x0 x1 x4 x5))
def J_X12_layCosts_L50 (len : Nat → Nat) (r : jR) (Q : jI → jL → Prop) : Nat → jI → jL → Nat → Int32 → Int32 → Prop
  | 0 => fun _ _ _ _ _ => False
  | g + 1 => fun i j x0 x1 x3 => (((i x0 30) ≤ 0) → (Q i j)) ∧ ((¬ (i x0 30) ≤ 0) → (∃ a58, r x0 27 = some a58 ∧ (vp_in (i x0 29) (len a58) ∧ (∀ v66 : Int32, v66 = i a58 (i x0 29).toNatClampNeg → (∀ i79 : jI, i79 = ju i x0 29 (((i x0 29) + (1 : Int32)) - ((i x0 29) + (1 : Int32)) / (378 : Int32) * (378 : Int32)) → (∀ i89 : jI, i89 = ju i79 x0 30 ((i79 x0 30) - (1 : Int32)) → (∃ a93, r x0 28 = some a93 ∧ (vp_in v66 (len a93) ∧ ∀ i99 : jI, i99 = ju i89 a93 v66.toNatClampNeg (vp_nar .boolean (0 : Int32)) → (∃ g0, J_X12_layCosts_L103 len r Q (J_X12_layCosts_L50 len r Q g) g0 i99 j x0 x1 x3 v66 (0 : Int32))))))))))
def J_X12_layCosts_L3 (len : Nat → Nat) (r : jR) (Q : jI → jL → Prop) : Nat → jI → jL → Nat → Int32 → Int32 → Int32 → Int32 → Prop
  | 0 => fun _ _ _ _ _ _ _ => False
  | g + 1 => fun i j x0 x1 x2 x3 x4 => (((378 : Int32) ≤ x4) → (∀ i36 : jI, i36 = ju i x0 29 (0 : Int32) → (∀ i41 : jI, i41 = ju i36 x0 30 (0 : Int32) → (J_X12_come len r (fun (i47 : jI) (j47 : jL) => ∃ g0, J_X12_layCosts_L50 len r Q g0 i47 j47 x0 x1 x3) i41 j x0 x2 (0 : Int32))))) ∧ ((¬ (378 : Int32) ≤ x4) → (∃ a12, r x0 26 = some a12 ∧ (vp_in x4 (len a12) ∧ ∀ i19 : jI, i19 = ju i a12 x4.toNatClampNeg (268435456 : Int32) → (∃ a21, r x0 28 = some a21 ∧ (vp_in x4 (len a21) ∧ ∀ i27 : jI, i27 = ju i19 a21 x4.toNatClampNeg (vp_nar .boolean (0 : Int32)) → (∀ v28 : Int32, v28 = x4 + (1 : Int32) → ((J_X12_layCosts_L3 len r Q g) i27 j x0 x1 x2 x3 v28)))))))
def J_X12_layCosts (len : Nat → Nat) (r : jR) (Q : jI → jL → Prop) (i : jI) (j : jL) (x0 : Nat) (x1 : Int32) (x2 : Int32) (x3 : Int32) : Prop := ∃ g0, J_X12_layCosts_L3 len r Q g0 i j x0 x1 x2 x3 (0 : Int32)
abbrev rm_X12_layCosts : Room := { frames := 3, cells := 0, slots := 0, locals := 71 }
variable {p : Program} {l : Launch} {e : Env} {s : State} {m : MethodId} {args : Array Value} {below : List Frame} {meth : Method} {c : Code} {b tU n : Nat} {cy : Nat → ClassId} {D : va_G} {K len : Nat → Nat} {r : jR} {Q : jI → jL → Prop}
theorem hiX12_X12_layCosts : ∀ w ∈ u_ws RX12 TX12 51, w ∈ wsX12_layCosts := by decide +kernel
set_option maxHeartbeats 4000000 in
set_option maxRecDepth 100000 in
theorem w_X12_layCosts_L189 (C0 : jCx p s m args c cX12_layCosts 7 wsX12_layCosts RX12 b cy D tU n K r) (hr : meth.sig.returnType = none) (hlk : meth.locks = false) {Hd50 : jI → jL → Nat → Int32 → Int32 → Prop} (k50 : ∀ {H : Heap} {locs : List Loc} {ls : Array Slot} {i : jI} {j : jL} {x0 : Nat} {x1 : Int32} {x3 : Int32} (w : jDy b cy D n K len r i j s H locs) (hx0 : x0 < n ∧ K x0 = 11) (hl : lv_has ls 7 [(0, .ref (b + x0)), (1, .int x1), (3, .int x3)]) (h : Hd50 i j x0 x1 x3), W p l e rm_X12_layCosts s m args below meth c H locs 0 0 (MQ below (jQv b cy D tU n K len r Q) args s 0 0 (jA b)) (F0 m 50 ls [])) {H : Heap} {locs : List Loc} {ls : Array Slot} {i : jI} {j : jL} {x0 : Nat} {x1 : Int32} {x3 : Int32} (w : jDy b cy D n K len r i j s H locs) (hx0 : x0 < n ∧ K x0 = 11) (hl : lv_has ls 7 [(0, .ref (b + x0)), (1, .int x1), (3, .int x3)]) (h : J_X12_layCosts_L189 len r Q Hd50 i j x0 x1 x3) : W p l e rm_X12_layCosts s m args below meth c H locs 0 0 (MQ below (jQv b cy D tU n K len r Q) args s 0 0 (jA b)) (F0 m 189 ls []) := by
  obtain ⟨hx, hb, hml, hown, hts, hst, hG⟩ := id C0
  have hiX12 : ∀ w ∈ u_ws RX12 TX12 51, w ∈ wsX12_layCosts := hiX12_X12_layCosts
  rw [J_X12_layCosts_L189] at h
  refine lv_goto (tgt := 50) hx hb dX12_layCosts_189 (by decide) ?_
  exact k50 w hx0 (lv_sub hl [0, 1, 2] rfl) h
set_option maxHeartbeats 4000000 in
set_option maxRecDepth 100000 in
theorem w_X12_layCosts_L154 (C0 : jCx p s m args c cX12_layCosts 7 wsX12_layCosts RX12 b cy D tU n K r) (hr : meth.sig.returnType = none) (hlk : meth.locks = false) {Hd50 : jI → jL → Nat → Int32 → Int32 → Prop} (k50 : ∀ {H : Heap} {locs : List Loc} {ls : Array Slot} {i : jI} {j : jL} {x0 : Nat} {x1 : Int32} {x3 : Int32} (w : jDy b cy D n K len r i j s H locs) (hx0 : x0 < n ∧ K x0 = 11) (hl : lv_has ls 7 [(0, .ref (b + x0)), (1, .int x1), (3, .int x3)]) (h : Hd50 i j x0 x1 x3), W p l e rm_X12_layCosts s m args below meth c H locs 0 0 (MQ below (jQv b cy D tU n K len r Q) args s 0 0 (jA b)) (F0 m 50 ls [])) {Hd103 : jI → jL → Nat → Int32 → Int32 → Int32 → Int32 → Prop} (k103 : ∀ {H : Heap} {locs : List Loc} {ls : Array Slot} {i : jI} {j : jL} {x0 : Nat} {x1 : Int32} {x3 : Int32} {x4 : Int32} {x5 : Int32} (w : jDy b cy D n K len r i j s H locs) (hx0 : x0 < n ∧ K x0 = 11) (hl : lv_has ls 7 [(0, .ref (b + x0)), (1, .int x1), (3, .int x3), (4, .int x4), (5, .int x5)]) (h : Hd103 i j x0 x1 x3 x4 x5), W p l e rm_X12_layCosts s m args below meth c H locs 0 0 (MQ below (jQv b cy D tU n K len r Q) args s 0 0 (jA b)) (F0 m 103 ls [])) {H : Heap} {locs : List Loc} {ls : Array Slot} {i : jI} {j : jL} {x0 : Nat} {x1 : Int32} {x3 : Int32} {x4 : Int32} {x5 : Int32} (w : jDy b cy D n K len r i j s H locs) (hx0 : x0 < n ∧ K x0 = 11) (hl : lv_has ls 7 [(0, .ref (b + x0)), (1, .int x1), (3, .int x3), (4, .int x4), (5, .int x5)]) (h : J_X12_layCosts_L154 len r Q Hd50 Hd103 i j x0 x1 x3 x4 x5) : W p l e rm_X12_layCosts s m args below meth c H locs 0 0 (MQ below (jQv b cy D tU n K len r Q) args s 0 0 (jA b)) (F0 m 154 ls []) := by
  obtain ⟨hx, hb, hml, hown, hts, hst, hG⟩ := id C0
  have hiX12 : ∀ w ∈ u_ws RX12 TX12 51, w ∈ wsX12_layCosts := hiX12_X12_layCosts
  rw [J_X12_layCosts_L154] at h
  obtain ⟨v154, he⟩ : ∃ z : Int32, z = x5 + (1 : Int32) := ⟨_, rfl⟩
  replace h := h v154 he
  refine lv_iinc (v := v154) (lv' := [(5, .int v154), (0, .ref (b + x0)), (1, .int x1), (3, .int x3), (4, .int x4)]) hx hb dX12_layCosts_154 hl (k := 4) rfl (by rw [he]; rfl) (by decide) rfl (fun ls hl => ?_)
  clear he
  refine lv_goto (tgt := 103) hx hb dX12_layCosts_157 (by decide) ?_
  exact k103 w hx0 (lv_sub hl [1, 2, 3, 4, 0] rfl) h
set_option maxHeartbeats 4000000 in
set_option maxRecDepth 100000 in
theorem w_X12_layCosts_L103 (C0 : jCx p s m args c cX12_layCosts 7 wsX12_layCosts RX12 b cy D tU n K r) (hr : meth.sig.returnType = none) (hlk : meth.locks = false) {Hd50 : jI → jL → Nat → Int32 → Int32 → Prop} (k50 : ∀ {H : Heap} {locs : List Loc} {ls : Array Slot} {i : jI} {j : jL} {x0 : Nat} {x1 : Int32} {x3 : Int32} (w : jDy b cy D n K len r i j s H locs) (hx0 : x0 < n ∧ K x0 = 11) (hl : lv_has ls 7 [(0, .ref (b + x0)), (1, .int x1), (3, .int x3)]) (h : Hd50 i j x0 x1 x3), W p l e rm_X12_layCosts s m args below meth c H locs 0 0 (MQ below (jQv b cy D tU n K len r Q) args s 0 0 (jA b)) (F0 m 50 ls [])) : ∀ (g : Nat) {H : Heap} {locs : List Loc} {ls : Array Slot} {i : jI} {j : jL} {x0 : Nat} {x1 : Int32} {x3 : Int32} {x4 : Int32} {x5 : Int32} (w : jDy b cy D n K len r i j s H locs) (hx0 : x0 < n ∧ K x0 = 11) (hl : lv_has ls 7 [(0, .ref (b + x0)), (1, .int x1), (3, .int x3), (4, .int x4), (5, .int x5)]) (h : J_X12_layCosts_L103 len r Q Hd50 g i j x0 x1 x3 x4 x5), W p l e rm_X12_layCosts s m args below meth c H locs 0 0 (MQ below (jQv b cy D tU n K len r Q) args s 0 0 (jA b)) (F0 m 103 ls []) := by
  obtain ⟨hx, hb, hml, hown, hts, hst, hG⟩ := id C0
  have hiX12 : ∀ w ∈ u_ws RX12 TX12 51, w ∈ wsX12_layCosts := hiX12_X12_layCosts
  intro g
  induction g with
  | zero => intro H locs ls i j x0 x1 x3 x4 x5 w hx0 hl h; exact False.elim h
  | succ g ih =>
    intro H locs ls i j x0 x1 x3 x4 x5 w hx0 hl h
    rw [J_X12_layCosts_L103] at h
    refine lv_iload hx hb dX12_layCosts_103 (lv_at hl 4 rfl) ?_
    refine lv_aload_n hx hb dX12_layCosts_105 rfl (lv_at hl 0 rfl) ?_
    refine jgi (f := 0) hx hb hts hown hst w hx0 hiX12 (rfl : vwCl[11]? = some (RX12, TX12, 51)) (hts (.fieldLink RX12 126 "FootByGateModel" "streets" "I") (by decide +kernel)) ⟨by decide, by decide, rfl⟩ dX12_layCosts_106 ?_
    refine lv_icmp_ge (tgt := 160) hx hb dX12_layCosts_109 (by decide) (fun hc => ?_) (fun hc => ?_)
    · replace h := h.1 hc
      clear hc
      refine lv_iload_n hx hb dX12_layCosts_160 rfl (lv_at hl 2 rfl) ?_
      refine lv_if_eq (tgt := 189) hx hb dX12_layCosts_161 (by decide) (fun hc => ?_) (fun hc => ?_)
      · replace h := h.1 hc
        clear hc
        exact w_X12_layCosts_L189 C0 hr hlk (fun w hx0 hl h => k50 w hx0 hl h) w hx0 (lv_sub hl [0, 1, 2] rfl) h
      · replace h := h.2 hc
        clear hc
        refine lv_iload_n hx hb dX12_layCosts_164 rfl (lv_at hl 1 rfl) ?_
        refine lv_iconst (v := (3 : Int32)) hx hb dX12_layCosts_165 (by decide) ?_
        refine lv_icmp_eq (tgt := 189) hx hb dX12_layCosts_166 (by decide) (fun hc => ?_) (fun hc => ?_)
        · replace h := h.1 hc
          clear hc
          exact w_X12_layCosts_L189 C0 hr hlk (fun w hx0 hl h => k50 w hx0 hl h) w hx0 (lv_sub hl [0, 1, 2] rfl) h
        · replace h := h.2 hc
          clear hc
          refine lv_aload_n hx hb dX12_layCosts_169 rfl (lv_at hl 0 rfl) ?_
          refine lv_iload hx hb dX12_layCosts_170 (lv_at hl 3 rfl) ?_
          refine jcS_i (As := [.int x4]) (rest := [.ref (b + x0)]) C0 w (c_X12_turned hG h) (va_cwS 1 hts gX12_layCosts_X12_turned rfl rfl rfl (by decide +kernel) ⟨Nat.le_of_ble_eq_true rfl, Nat.le_of_ble_eq_true rfl⟩) rfl hl.1 rfl (Nat.le_of_ble_eq_true rfl) dX12_layCosts_172 (fun q172 i172 j172 H locs h w => ?_) ⟨Nat.zero_le _, Nat.zero_le _⟩
          refine lv_aload_n hx hb dX12_layCosts_175 rfl (lv_at hl 0 rfl) ?_
          obtain ⟨a176, hr0, h⟩ := h
          refine jgr (f := 26) hx hb hts hown hst w hG hx0 hiX12 (rfl : vwCl[11]? = some (RX12, TX12, 51)) (hts (.fieldLink RX12 50 "FootByGateModel" "cost" "[I") (by decide +kernel)) ⟨by decide, by decide, rfl⟩ (rfl : jrt 11 26 = 13) dX12_layCosts_176 hr0 (fun ha176 => ?_)
          clear hr0
          refine lv_iload hx hb dX12_layCosts_179 (lv_at hl 3 rfl) ?_
          obtain ⟨hn, h⟩ := h
          refine jaid hx hb hst w ha176 hn dX12_layCosts_181 ?_
          clear hn
          refine lv_sipush (v := (10000 : Int32)) hx hb dX12_layCosts_182 (by decide) ?_
          refine lv_iadd hx hb dX12_layCosts_185 ?_
          refine jcV_v (k := x0) (As := [.int q172, .int ((i172 a176 x4.toNatClampNeg) + (10000 : Int32))]) (rest := []) C0 w (c_X12_come hG hx0 h) (cwV 2 hts gX12_layCosts_X12_come rfl rfl rfl (by decide +kernel) ⟨Nat.le_of_ble_eq_true rfl, Nat.le_of_ble_eq_true rfl⟩) hx0 (rfl : vwCl[11]? = some (RX12, TX12, 51)) (by decide) rfl hl.1 rfl (Nat.le_of_ble_eq_true rfl) dX12_layCosts_186 (fun i186 j186 H locs h w => ?_) ⟨Nat.zero_le _, Nat.zero_le _⟩
          exact w_X12_layCosts_L189 C0 hr hlk (fun w hx0 hl h => k50 w hx0 hl h) w hx0 (lv_sub hl [0, 1, 2] rfl) h
    · replace h := h.2 hc
      clear hc
      refine lv_aload_n hx hb dX12_layCosts_112 rfl (lv_at hl 0 rfl) ?_
      refine lv_iload_n hx hb dX12_layCosts_113 rfl (lv_at hl 1 rfl) ?_
      refine lv_iload hx hb dX12_layCosts_114 (lv_at hl 3 rfl) ?_
      refine lv_iload hx hb dX12_layCosts_116 (lv_at hl 4 rfl) ?_
      refine jcV_i (k := x0) (As := [.int x1, .int x4, .int x5]) (rest := []) C0 w (c_X12_behind hG hx0 h) (cwV 3 hts gX12_layCosts_X12_behind rfl rfl rfl (by decide +kernel) ⟨Nat.le_of_ble_eq_true rfl, Nat.le_of_ble_eq_true rfl⟩) hx0 (rfl : vwCl[11]? = some (RX12, TX12, 51)) (by decide) rfl hl.1 rfl (Nat.le_of_ble_eq_true rfl) dX12_layCosts_118 (fun q118 i118 j118 H locs h w => ?_) ⟨Nat.zero_le _, Nat.zero_le _⟩
      refine lv_istore (lv' := [(6, .int q118), (0, .ref (b + x0)), (1, .int x1), (3, .int x3), (4, .int x4), (5, .int x5)]) hx hb dX12_layCosts_121 hl (by decide) rfl (fun ls hl => ?_)
      refine lv_iload hx hb dX12_layCosts_123 (lv_at hl 0 rfl) ?_
      refine lv_iconst (v := (-1 : Int32)) hx hb dX12_layCosts_125 (by decide) ?_
      refine lv_icmp_eq (tgt := 154) hx hb dX12_layCosts_126 (by decide) (fun hc => ?_) (fun hc => ?_)
      · replace h := h.1 hc
        clear hc
        exact w_X12_layCosts_L154 C0 hr hlk (fun w hx0 hl h => k50 w hx0 hl h) (fun w hx0 hl h => ih w hx0 hl h) w hx0 (lv_sub hl [1, 2, 3, 4, 5] rfl) h
      · replace h := h.2 hc
        clear hc
        refine lv_aload_n hx hb dX12_layCosts_129 rfl (lv_at hl 1 rfl) ?_
        refine lv_iload hx hb dX12_layCosts_130 (lv_at hl 0 rfl) ?_
        refine lv_aload_n hx hb dX12_layCosts_132 rfl (lv_at hl 1 rfl) ?_
        obtain ⟨a133, hr0, h⟩ := h
        refine jgr (f := 26) hx hb hts hown hst w hG hx0 hiX12 (rfl : vwCl[11]? = some (RX12, TX12, 51)) (hts (.fieldLink RX12 50 "FootByGateModel" "cost" "[I") (by decide +kernel)) ⟨by decide, by decide, rfl⟩ (rfl : jrt 11 26 = 13) dX12_layCosts_133 hr0 (fun ha133 => ?_)
        clear hr0
        refine lv_iload hx hb dX12_layCosts_136 (lv_at hl 4 rfl) ?_
        obtain ⟨hn, h⟩ := h
        refine jaid hx hb hst w ha133 hn dX12_layCosts_138 ?_
        clear hn
        refine lv_iload_n hx hb dX12_layCosts_139 rfl (lv_at hl 2 rfl) ?_
        refine lv_aload_n hx hb dX12_layCosts_140 rfl (lv_at hl 1 rfl) ?_
        obtain ⟨a141, hr0, h⟩ := h
        refine jgr (f := 3) hx hb hts hown hst w hG hx0 hiX12 (rfl : vwCl[11]? = some (RX12, TX12, 51)) (hts (.fieldLink RX12 16 "FootByGateModel" "pacesOf" "[I") (by decide +kernel)) ⟨by decide, by decide, rfl⟩ (rfl : jrt 11 3 = 13) dX12_layCosts_141 hr0 (fun ha141 => ?_)
        clear hr0
        refine lv_iload hx hb dX12_layCosts_144 (lv_at hl 5 rfl) ?_
        obtain ⟨hn, h⟩ := h
        refine jaid hx hb hst w ha141 hn dX12_layCosts_146 ?_
        clear hn
        refine jcS_i (As := [.int x1, .int (i118 a141 x5.toNatClampNeg)]) (rest := [.int (i118 a133 x4.toNatClampNeg), .int q118, .ref (b + x0)]) C0 w (c_X12_stepsBy hG h) (va_cwS 2 hts gX12_layCosts_X12_stepsBy rfl rfl rfl (by decide +kernel) ⟨Nat.le_of_ble_eq_true rfl, Nat.le_of_ble_eq_true rfl⟩) rfl hl.1 rfl (Nat.le_of_ble_eq_true rfl) dX12_layCosts_147 (fun q147 i147 j147 H locs h w => ?_) ⟨Nat.zero_le _, Nat.zero_le _⟩
        refine lv_iadd hx hb dX12_layCosts_150 ?_
        refine jcV_v (k := x0) (As := [.int q118, .int ((i118 a133 x4.toNatClampNeg) + q147)]) (rest := []) C0 w (c_X12_come hG hx0 h) (cwV 2 hts gX12_layCosts_X12_come rfl rfl rfl (by decide +kernel) ⟨Nat.le_of_ble_eq_true rfl, Nat.le_of_ble_eq_true rfl⟩) hx0 (rfl : vwCl[11]? = some (RX12, TX12, 51)) (by decide) rfl hl.1 rfl (Nat.le_of_ble_eq_true rfl) dX12_layCosts_151 (fun i151 j151 H locs h w => ?_) ⟨Nat.zero_le _, Nat.zero_le _⟩
        exact w_X12_layCosts_L154 C0 hr hlk (fun w hx0 hl h => k50 w hx0 hl h) (fun w hx0 hl h => ih w hx0 hl h) w hx0 (lv_sub hl [1, 2, 3, 4, 5] rfl) h
set_option maxHeartbeats 4000000 in
set_option maxRecDepth 100000 in
theorem w_X12_layCosts_L50 (C0 : jCx p s m args c cX12_layCosts 7 wsX12_layCosts RX12 b cy D tU n K r) (hr : meth.sig.returnType = none) (hlk : meth.locks = false) : ∀ (g : Nat) {H : Heap} {locs : List Loc} {ls : Array Slot} {i : jI} {j : jL} {x0 : Nat} {x1 : Int32} {x3 : Int32} (w : jDy b cy D n K len r i j s H locs) (hx0 : x0 < n ∧ K x0 = 11) (hl : lv_has ls 7 [(0, .ref (b + x0)), (1, .int x1), (3, .int x3)]) (h : J_X12_layCosts_L50 len r Q g i j x0 x1 x3), W p l e rm_X12_layCosts s m args below meth c H locs 0 0 (MQ below (jQv b cy D tU n K len r Q) args s 0 0 (jA b)) (F0 m 50 ls []) := by
  obtain ⟨hx, hb, hml, hown, hts, hst, hG⟩ := id C0
  have hiX12 : ∀ w ∈ u_ws RX12 TX12 51, w ∈ wsX12_layCosts := hiX12_X12_layCosts
  intro g
  induction g with
  | zero => intro H locs ls i j x0 x1 x3 w hx0 hl h; exact False.elim h
  | succ g ih =>
    intro H locs ls i j x0 x1 x3 w hx0 hl h
    rw [J_X12_layCosts_L50] at h
    refine lv_aload_n hx hb dX12_layCosts_50 rfl (lv_at hl 0 rfl) ?_
    refine jgi (f := 30) hx hb hts hown hst w hx0 hiX12 (rfl : vwCl[11]? = some (RX12, TX12, 51)) (hts (.fieldLink RX12 190 "FootByGateModel" "queueMany" "I") (by decide +kernel)) ⟨by decide, by decide, rfl⟩ dX12_layCosts_51 ?_
    refine lv_if_le (tgt := 192) hx hb dX12_layCosts_54 (by decide) (fun hc => ?_) (fun hc => ?_)
    · replace h := h.1 hc
      clear hc
      exact jret_v hx hb hr hlk hst w h dX12_layCosts_192
    · replace h := h.2 hc
      clear hc
      refine lv_aload_n hx hb dX12_layCosts_57 rfl (lv_at hl 0 rfl) ?_
      obtain ⟨a58, hr0, h⟩ := h
      refine jgr (f := 27) hx hb hts hown hst w hG hx0 hiX12 (rfl : vwCl[11]? = some (RX12, TX12, 51)) (hts (.fieldLink RX12 53 "FootByGateModel" "queue" "[I") (by decide +kernel)) ⟨by decide, by decide, rfl⟩ (rfl : jrt 11 27 = 13) dX12_layCosts_58 hr0 (fun ha58 => ?_)
      clear hr0
      refine lv_aload_n hx hb dX12_layCosts_61 rfl (lv_at hl 0 rfl) ?_
      refine jgi (f := 29) hx hb hts hown hst w hx0 hiX12 (rfl : vwCl[11]? = some (RX12, TX12, 51)) (hts (.fieldLink RX12 187 "FootByGateModel" "queueFrom" "I") (by decide +kernel)) ⟨by decide, by decide, rfl⟩ dX12_layCosts_62 ?_
      obtain ⟨hn, h⟩ := h
      refine jaid hx hb hst w ha58 hn dX12_layCosts_65 ?_
      clear hn
      refine lv_topi (fun v66 he => ?_)
      replace h := h v66 he
      clear he
      refine lv_istore (lv' := [(4, .int v66), (0, .ref (b + x0)), (1, .int x1), (3, .int x3)]) hx hb dX12_layCosts_66 hl (by decide) rfl (fun ls hl => ?_)
      refine lv_aload_n hx hb dX12_layCosts_68 rfl (lv_at hl 1 rfl) ?_
      refine lv_aload_n hx hb dX12_layCosts_69 rfl (lv_at hl 1 rfl) ?_
      refine jgi (f := 29) hx hb hts hown hst w hx0 hiX12 (rfl : vwCl[11]? = some (RX12, TX12, 51)) (hts (.fieldLink RX12 187 "FootByGateModel" "queueFrom" "I") (by decide +kernel)) ⟨by decide, by decide, rfl⟩ dX12_layCosts_70 ?_
      refine lv_iconst (v := (1 : Int32)) hx hb dX12_layCosts_73 (by decide) ?_
      refine lv_iadd hx hb dX12_layCosts_74 ?_
      refine lv_sipush (v := (378 : Int32)) hx hb dX12_layCosts_75 (by decide) ?_
      refine lv_irem hx hb dX12_layCosts_78 (by decide) ?_
      refine jpi (f := 29) hx hb hts hown hst w hx0 hiX12 (rfl : vwCl[11]? = some (RX12, TX12, 51)) (hts (.fieldLink RX12 187 "FootByGateModel" "queueFrom" "I") (by decide +kernel)) ⟨by decide, by decide, rfl⟩ tyX12 tyX12_ok nmX12 rfl ⟨rfl, rfl⟩ dX12_layCosts_79 (fun i79 H locs he w => ?_)
      replace h := h i79 he
      clear he
      refine lv_aload_n hx hb dX12_layCosts_82 rfl (lv_at hl 1 rfl) ?_
      refine lv_dup hx hb dX12_layCosts_83 rfl ?_
      refine jgi (f := 30) hx hb hts hown hst w hx0 hiX12 (rfl : vwCl[11]? = some (RX12, TX12, 51)) (hts (.fieldLink RX12 190 "FootByGateModel" "queueMany" "I") (by decide +kernel)) ⟨by decide, by decide, rfl⟩ dX12_layCosts_84 ?_
      refine lv_iconst (v := (1 : Int32)) hx hb dX12_layCosts_87 (by decide) ?_
      refine lv_isub hx hb dX12_layCosts_88 ?_
      refine jpi (f := 30) hx hb hts hown hst w hx0 hiX12 (rfl : vwCl[11]? = some (RX12, TX12, 51)) (hts (.fieldLink RX12 190 "FootByGateModel" "queueMany" "I") (by decide +kernel)) ⟨by decide, by decide, rfl⟩ tyX12 tyX12_ok nmX12 rfl ⟨rfl, rfl⟩ dX12_layCosts_89 (fun i89 H locs he w => ?_)
      replace h := h i89 he
      clear he
      refine lv_aload_n hx hb dX12_layCosts_92 rfl (lv_at hl 1 rfl) ?_
      obtain ⟨a93, hr0, h⟩ := h
      refine jgr (f := 28) hx hb hts hown hst w hG hx0 hiX12 (rfl : vwCl[11]? = some (RX12, TX12, 51)) (hts (.fieldLink RX12 56 "FootByGateModel" "waits" "[Z") (by decide +kernel)) ⟨by decide, by decide, rfl⟩ (rfl : jrt 11 28 = 15) dX12_layCosts_93 hr0 (fun ha93 => ?_)
      clear hr0
      refine lv_iload hx hb dX12_layCosts_96 (lv_at hl 0 rfl) ?_
      refine lv_iconst (v := (0 : Int32)) hx hb dX12_layCosts_98 (by decide) ?_
      obtain ⟨hn, h⟩ := h
      refine jazs hx hb hst w ha93 hn dX12_layCosts_99 (fun i99 H locs he w => ?_)
      replace h := h i99 he
      clear he hn
      refine lv_iconst (v := (0 : Int32)) hx hb dX12_layCosts_100 (by decide) ?_
      refine lv_istore (lv' := [(5, .int (0 : Int32)), (4, .int v66), (0, .ref (b + x0)), (1, .int x1), (3, .int x3)]) hx hb dX12_layCosts_101 hl (by decide) rfl (fun ls hl => ?_)
      obtain ⟨g0, h⟩ := h
      exact w_X12_layCosts_L103 C0 hr hlk (fun w hx0 hl h => ih w hx0 hl h) g0 w hx0 (lv_sub hl [2, 3, 4, 1, 0] rfl) h
set_option maxHeartbeats 4000000 in
set_option maxRecDepth 100000 in
theorem w_X12_layCosts_L3 (C0 : jCx p s m args c cX12_layCosts 7 wsX12_layCosts RX12 b cy D tU n K r) (hr : meth.sig.returnType = none) (hlk : meth.locks = false) : ∀ (g : Nat) {H : Heap} {locs : List Loc} {ls : Array Slot} {i : jI} {j : jL} {x0 : Nat} {x1 : Int32} {x2 : Int32} {x3 : Int32} {x4 : Int32} (w : jDy b cy D n K len r i j s H locs) (hx0 : x0 < n ∧ K x0 = 11) (hl : lv_has ls 7 [(0, .ref (b + x0)), (1, .int x1), (2, .int x2), (3, .int x3), (4, .int x4)]) (h : J_X12_layCosts_L3 len r Q g i j x0 x1 x2 x3 x4), W p l e rm_X12_layCosts s m args below meth c H locs 0 0 (MQ below (jQv b cy D tU n K len r Q) args s 0 0 (jA b)) (F0 m 3 ls []) := by
  obtain ⟨hx, hb, hml, hown, hts, hst, hG⟩ := id C0
  have hiX12 : ∀ w ∈ u_ws RX12 TX12 51, w ∈ wsX12_layCosts := hiX12_X12_layCosts
  intro g
  induction g with
  | zero => intro H locs ls i j x0 x1 x2 x3 x4 w hx0 hl h; exact False.elim h
  | succ g ih =>
    intro H locs ls i j x0 x1 x2 x3 x4 w hx0 hl h
    rw [J_X12_layCosts_L3] at h
    refine lv_iload hx hb dX12_layCosts_3 (lv_at hl 4 rfl) ?_
    refine lv_sipush (v := (378 : Int32)) hx hb dX12_layCosts_5 (by decide) ?_
    refine lv_icmp_ge (tgt := 34) hx hb dX12_layCosts_8 (by decide) (fun hc => ?_) (fun hc => ?_)
    · replace h := h.1 hc
      clear hc
      refine lv_aload_n hx hb dX12_layCosts_34 rfl (lv_at hl 0 rfl) ?_
      refine lv_iconst (v := (0 : Int32)) hx hb dX12_layCosts_35 (by decide) ?_
      refine jpi (f := 29) hx hb hts hown hst w hx0 hiX12 (rfl : vwCl[11]? = some (RX12, TX12, 51)) (hts (.fieldLink RX12 187 "FootByGateModel" "queueFrom" "I") (by decide +kernel)) ⟨by decide, by decide, rfl⟩ tyX12 tyX12_ok nmX12 rfl ⟨rfl, rfl⟩ dX12_layCosts_36 (fun i36 H locs he w => ?_)
      replace h := h i36 he
      clear he
      refine lv_aload_n hx hb dX12_layCosts_39 rfl (lv_at hl 0 rfl) ?_
      refine lv_iconst (v := (0 : Int32)) hx hb dX12_layCosts_40 (by decide) ?_
      refine jpi (f := 30) hx hb hts hown hst w hx0 hiX12 (rfl : vwCl[11]? = some (RX12, TX12, 51)) (hts (.fieldLink RX12 190 "FootByGateModel" "queueMany" "I") (by decide +kernel)) ⟨by decide, by decide, rfl⟩ tyX12 tyX12_ok nmX12 rfl ⟨rfl, rfl⟩ dX12_layCosts_41 (fun i41 H locs he w => ?_)
      replace h := h i41 he
      clear he
      refine lv_aload_n hx hb dX12_layCosts_44 rfl (lv_at hl 0 rfl) ?_
      refine lv_iload_n hx hb dX12_layCosts_45 rfl (lv_at hl 2 rfl) ?_
      refine lv_iconst (v := (0 : Int32)) hx hb dX12_layCosts_46 (by decide) ?_
      refine jcV_v (k := x0) (As := [.int x2, .int (0 : Int32)]) (rest := []) C0 w (c_X12_come hG hx0 h) (cwV 2 hts gX12_layCosts_X12_come rfl rfl rfl (by decide +kernel) ⟨Nat.le_of_ble_eq_true rfl, Nat.le_of_ble_eq_true rfl⟩) hx0 (rfl : vwCl[11]? = some (RX12, TX12, 51)) (by decide) rfl hl.1 rfl (Nat.le_of_ble_eq_true rfl) dX12_layCosts_47 (fun i47 j47 H locs h w => ?_) ⟨Nat.zero_le _, Nat.zero_le _⟩
      obtain ⟨g0, h⟩ := h
      exact w_X12_layCosts_L50 C0 hr hlk g0 w hx0 (lv_sub hl [0, 1, 3] rfl) h
    · replace h := h.2 hc
      clear hc
      refine lv_aload_n hx hb dX12_layCosts_11 rfl (lv_at hl 0 rfl) ?_
      obtain ⟨a12, hr0, h⟩ := h
      refine jgr (f := 26) hx hb hts hown hst w hG hx0 hiX12 (rfl : vwCl[11]? = some (RX12, TX12, 51)) (hts (.fieldLink RX12 50 "FootByGateModel" "cost" "[I") (by decide +kernel)) ⟨by decide, by decide, rfl⟩ (rfl : jrt 11 26 = 13) dX12_layCosts_12 hr0 (fun ha12 => ?_)
      clear hr0
      refine lv_iload hx hb dX12_layCosts_15 (lv_at hl 4 rfl) ?_
      refine lv_ldc hx hb hown (hts (.constant RX12 193 (268435456)) (by decide +kernel)) dX12_layCosts_17 ?_
      obtain ⟨hn, h⟩ := h
      refine jais hx hb hst w ha12 hn dX12_layCosts_19 (fun i19 H locs he w => ?_)
      replace h := h i19 he
      clear he hn
      refine lv_aload_n hx hb dX12_layCosts_20 rfl (lv_at hl 0 rfl) ?_
      obtain ⟨a21, hr0, h⟩ := h
      refine jgr (f := 28) hx hb hts hown hst w hG hx0 hiX12 (rfl : vwCl[11]? = some (RX12, TX12, 51)) (hts (.fieldLink RX12 56 "FootByGateModel" "waits" "[Z") (by decide +kernel)) ⟨by decide, by decide, rfl⟩ (rfl : jrt 11 28 = 15) dX12_layCosts_21 hr0 (fun ha21 => ?_)
      clear hr0
      refine lv_iload hx hb dX12_layCosts_24 (lv_at hl 4 rfl) ?_
      refine lv_iconst (v := (0 : Int32)) hx hb dX12_layCosts_26 (by decide) ?_
      obtain ⟨hn, h⟩ := h
      refine jazs hx hb hst w ha21 hn dX12_layCosts_27 (fun i27 H locs he w => ?_)
      replace h := h i27 he
      clear he hn
      obtain ⟨v28, he⟩ : ∃ z : Int32, z = x4 + (1 : Int32) := ⟨_, rfl⟩
      replace h := h v28 he
      refine lv_iinc (v := v28) (lv' := [(4, .int v28), (0, .ref (b + x0)), (1, .int x1), (2, .int x2), (3, .int x3)]) hx hb dX12_layCosts_28 hl (k := 4) rfl (by rw [he]; rfl) (by decide) rfl (fun ls hl => ?_)
      clear he
      refine lv_goto (tgt := 3) hx hb dX12_layCosts_31 (by decide) ?_
      exact ih w hx0 (lv_sub hl [1, 2, 3, 4, 0] rfl) h
set_option maxHeartbeats 4000000 in
set_option maxRecDepth 100000 in
theorem c_X12_layCosts (hG : jG n K r) {i : jI} {j : jL} {x0 : Nat} {x1 : Int32} {x2 : Int32} {x3 : Int32} (hx0 : x0 < n ∧ K x0 = 11) (h : J_X12_layCosts len r Q i j x0 x1 x2 x3) : Met l yX12_layCosts wsX12_layCosts rm_X12_layCosts (va_Pc [.ref (b + x0), .int x1, .int x2, .int x3] (jPre b cy D tU n K len r i j)) (jQv b cy D tU n K len r Q) 0 0 (jA b) := by
  refine Met.ofW (cc := cX12_layCosts) (maxL := 7) (ret := none) (by decide) rfl ?_
  intro p e s m args below meth c s₁ B hml hv
  obtain ⟨rfl, hv⟩ := hv
  have C0 : jCx p s m _ c cX12_layCosts 7 wsX12_layCosts RX12 b cy D tU n K r := ⟨B.exec, B.bytes, hml, findClass_of_methodNamed B.named, atoms_spec (ws := wsX12_layCosts) B.pre, hv.2.2, hG⟩
  have hr := B.returns
  have hlk := B.notSynchronized
  obtain ⟨hx, hb, hml, hown, hts, hst, hG⟩ := id C0
  have hiX12 : ∀ w ∈ u_ws RX12 TX12 51, w ∈ wsX12_layCosts := hiX12_X12_layCosts
  have w := jDy.start hv
  have hl := lv_entry ([.ref (b + x0), .int x1, .int x2, .int x3]) (n := 7) (Nat.le_of_ble_eq_true rfl)
  rw [lg_entry_eq]
  generalize (lg_sl ([.ref (b + x0), .int x1, .int x2, .int x3]) ++ List.replicate (7 - (lg_sl ([.ref (b + x0), .int x1, .int x2, .int x3])).length) Slot.unset).toArray = ls at hl ⊢
  replace hl : lv_has ls 7 [(0, .ref (b + x0)), (1, .int x1), (2, .int x2), (3, .int x3)] := hl
  show W p l e rm_X12_layCosts s m _ below meth c s.heap [] 0 0 _ (F0 m 0 ls [])
  rw [J_X12_layCosts] at h
  refine lv_iconst (v := (0 : Int32)) hx hb dX12_layCosts_0 (by decide) ?_
  refine lv_istore (lv' := [(4, .int (0 : Int32)), (0, .ref (b + x0)), (1, .int x1), (2, .int x2), (3, .int x3)]) hx hb dX12_layCosts_1 hl (by decide) rfl (fun ls hl => ?_)
  obtain ⟨g0, h⟩ := h
  exact w_X12_layCosts_L3 C0 hr hlk g0 w hx0 (lv_sub hl [1, 2, 3, 4, 0] rfl) h
end S_X12_layCosts
section S_X12_shutNow
def J_X12_shutNow_L45 (len : Nat → Nat) (r : jR) (Q : Int32 → jI → jL → Prop) (Hd21 : jI → jL → Nat → Int32 → Int32 → Prop) (i : jI) (j : jL) (x0 : Nat) (x3 : Int32) (t0 : Int32) (t1 : Int32) : Prop := ∀ v46 : Int32, v46 = t0 ||| t1 → (∀ v47 : Int32, v47 = x3 + (1 : Int32) → (Hd21 i j x0 v46 v47))
def J_X12_shutNow_L21 (len : Nat → Nat) (r : jR) (Q : Int32 → jI → jL → Prop) : Nat → jI → jL → Nat → Int32 → Int32 → Prop
  | 0 => fun _ _ _ _ _ => False
  | g + 1 => fun i j x0 x2 x3 => (((7 : Int32) ≤ x3) → (Q x2 i j)) ∧ ((¬ (7 : Int32) ≤ x3) → (J_X12_costTo len r (fun (q30 : Int32) (i30 : jI) (j30 : jL) => ((¬ q30 = (268435456 : Int32)) → (J_X12_shutNow_L45 len r Q (J_X12_shutNow_L21 len r Q g) i30 j30 x0 x3 x2 (0 : Int32))) ∧ ((q30 = (268435456 : Int32)) → (J_X12_shutNow_L45 len r Q (J_X12_shutNow_L21 len r Q g) i30 j30 x0 x3 x2 ((1 : Int32) <<< (x3 &&& 31))))) i j x0 x3))
def J_X12_shutNow (len : Nat → Nat) (r : jR) (Q : Int32 → jI → jL → Prop) (i : jI) (j : jL) (x0 : Nat) (x1 : Int32) : Prop := ∃ a2, r x0 9 = some a2 ∧ (vp_in x1 (len a2) ∧ (∃ a8, r x0 10 = some a8 ∧ (vp_in x1 (len a8) ∧ (J_X12_layCosts len r (fun (i14 : jI) (j14 : jL) => ∃ g0, J_X12_shutNow_L21 len r Q g0 i14 j14 x0 (0 : Int32) (0 : Int32)) i j x0 (i a2 x1.toNatClampNeg) (i a8 x1.toNatClampNeg) (0 : Int32)))))
abbrev rm_X12_shutNow : Room := { frames := 4, cells := 0, slots := 0, locals := 97 }
variable {p : Program} {l : Launch} {e : Env} {s : State} {m : MethodId} {args : Array Value} {below : List Frame} {meth : Method} {c : Code} {b tU n : Nat} {cy : Nat → ClassId} {D : va_G} {K len : Nat → Nat} {r : jR} {Q : Int32 → jI → jL → Prop}
theorem hiX12_X12_shutNow : ∀ w ∈ u_ws RX12 TX12 51, w ∈ wsX12_shutNow := by decide +kernel
set_option maxHeartbeats 4000000 in
set_option maxRecDepth 100000 in
theorem w_X12_shutNow_L45 (C0 : jCx p s m args c cX12_shutNow 4 wsX12_shutNow RX12 b cy D tU n K r) (hr : meth.sig.returnType = some .int) (hlk : meth.locks = false) {Hd21 : jI → jL → Nat → Int32 → Int32 → Prop} (k21 : ∀ {H : Heap} {locs : List Loc} {ls : Array Slot} {i : jI} {j : jL} {x0 : Nat} {x2 : Int32} {x3 : Int32} (w : jDy b cy D n K len r i j s H locs) (hx0 : x0 < n ∧ K x0 = 11) (hl : lv_has ls 4 [(0, .ref (b + x0)), (2, .int x2), (3, .int x3)]) (h : Hd21 i j x0 x2 x3), W p l e rm_X12_shutNow s m args below meth c H locs 0 0 (MQ below (jQi b cy D tU n K len r Q) args s 0 0 (jA b)) (F0 m 21 ls [])) {H : Heap} {locs : List Loc} {ls : Array Slot} {i : jI} {j : jL} {x0 : Nat} {x3 : Int32} {t0 : Int32} {t1 : Int32} (w : jDy b cy D n K len r i j s H locs) (hx0 : x0 < n ∧ K x0 = 11) (hl : lv_has ls 4 [(0, .ref (b + x0)), (3, .int x3)]) (h : J_X12_shutNow_L45 len r Q Hd21 i j x0 x3 t0 t1) : W p l e rm_X12_shutNow s m args below meth c H locs 0 0 (MQ below (jQi b cy D tU n K len r Q) args s 0 0 (jA b)) (F0 m 45 ls [.int t1, .int t0]) := by
  obtain ⟨hx, hb, hml, hown, hts, hst, hG⟩ := id C0
  have hiX12 : ∀ w ∈ u_ws RX12 TX12 51, w ∈ wsX12_shutNow := hiX12_X12_shutNow
  rw [J_X12_shutNow_L45] at h
  refine lv_ior hx hb dX12_shutNow_45 ?_
  refine lv_topi (fun v46 he => ?_)
  replace h := h v46 he
  clear he
  refine lv_istore_n (lv' := [(2, .int v46), (0, .ref (b + x0)), (3, .int x3)]) hx hb dX12_shutNow_46 rfl hl (by decide) rfl (fun ls hl => ?_)
  obtain ⟨v47, he⟩ : ∃ z : Int32, z = x3 + (1 : Int32) := ⟨_, rfl⟩
  replace h := h v47 he
  refine lv_iinc (v := v47) (lv' := [(3, .int v47), (2, .int v46), (0, .ref (b + x0))]) hx hb dX12_shutNow_47 hl (k := 2) rfl (by rw [he]; rfl) (by decide) rfl (fun ls hl => ?_)
  clear he
  refine lv_goto (tgt := 21) hx hb dX12_shutNow_50 (by decide) ?_
  exact k21 w hx0 (lv_sub hl [2, 1, 0] rfl) h
set_option maxHeartbeats 4000000 in
set_option maxRecDepth 100000 in
theorem w_X12_shutNow_L21 (C0 : jCx p s m args c cX12_shutNow 4 wsX12_shutNow RX12 b cy D tU n K r) (hr : meth.sig.returnType = some .int) (hlk : meth.locks = false) : ∀ (g : Nat) {H : Heap} {locs : List Loc} {ls : Array Slot} {i : jI} {j : jL} {x0 : Nat} {x2 : Int32} {x3 : Int32} (w : jDy b cy D n K len r i j s H locs) (hx0 : x0 < n ∧ K x0 = 11) (hl : lv_has ls 4 [(0, .ref (b + x0)), (2, .int x2), (3, .int x3)]) (h : J_X12_shutNow_L21 len r Q g i j x0 x2 x3), W p l e rm_X12_shutNow s m args below meth c H locs 0 0 (MQ below (jQi b cy D tU n K len r Q) args s 0 0 (jA b)) (F0 m 21 ls []) := by
  obtain ⟨hx, hb, hml, hown, hts, hst, hG⟩ := id C0
  have hiX12 : ∀ w ∈ u_ws RX12 TX12 51, w ∈ wsX12_shutNow := hiX12_X12_shutNow
  intro g
  induction g with
  | zero => intro H locs ls i j x0 x2 x3 w hx0 hl h; exact False.elim h
  | succ g ih =>
    intro H locs ls i j x0 x2 x3 w hx0 hl h
    rw [J_X12_shutNow_L21] at h
    refine lv_iload_n hx hb dX12_shutNow_21 rfl (lv_at hl 2 rfl) ?_
    refine lv_bipush (v := (7 : Int32)) hx hb dX12_shutNow_22 (by decide) ?_
    refine lv_icmp_ge (tgt := 53) hx hb dX12_shutNow_24 (by decide) (fun hc => ?_) (fun hc => ?_)
    · replace h := h.1 hc
      clear hc
      refine lv_iload_n hx hb dX12_shutNow_53 rfl (lv_at hl 1 rfl) ?_
      exact jret_i hx hb hr hlk hst w h dX12_shutNow_54
    · replace h := h.2 hc
      clear hc
      refine lv_iload_n hx hb dX12_shutNow_27 rfl (lv_at hl 1 rfl) ?_
      refine lv_aload_n hx hb dX12_shutNow_28 rfl (lv_at hl 0 rfl) ?_
      refine lv_iload_n hx hb dX12_shutNow_29 rfl (lv_at hl 2 rfl) ?_
      refine jcV_i (k := x0) (As := [.int x3]) (rest := [.int x2]) C0 w (c_X12_costTo hG hx0 h) (cwV 1 hts gX12_shutNow_X12_costTo rfl rfl rfl (by decide +kernel) ⟨Nat.le_of_ble_eq_true rfl, Nat.le_of_ble_eq_true rfl⟩) hx0 (rfl : vwCl[11]? = some (RX12, TX12, 51)) (by decide) rfl hl.1 rfl (Nat.le_of_ble_eq_true rfl) dX12_shutNow_30 (fun q30 i30 j30 H locs h w => ?_) ⟨Nat.zero_le _, Nat.zero_le _⟩
      refine lv_ldc hx hb hown (hts (.constant RX12 193 (268435456)) (by decide +kernel)) dX12_shutNow_33 ?_
      refine lv_icmp_ne (tgt := 44) hx hb dX12_shutNow_35 (by decide) (fun hc => ?_) (fun hc => ?_)
      · replace h := h.1 hc
        clear hc
        refine lv_iconst (v := (0 : Int32)) hx hb dX12_shutNow_44 (by decide) ?_
        exact w_X12_shutNow_L45 C0 hr hlk (fun w hx0 hl h => ih w hx0 hl h) w hx0 (lv_sub hl [0, 2] rfl) h
      · replace h := h.2 hc
        clear hc
        refine lv_iconst (v := (1 : Int32)) hx hb dX12_shutNow_38 (by decide) ?_
        refine lv_iload_n hx hb dX12_shutNow_39 rfl (lv_at hl 2 rfl) ?_
        refine lv_ishl hx hb dX12_shutNow_40 ?_
        refine lv_goto (tgt := 45) hx hb dX12_shutNow_41 (by decide) ?_
        exact w_X12_shutNow_L45 C0 hr hlk (fun w hx0 hl h => ih w hx0 hl h) w hx0 (lv_sub hl [0, 2] rfl) h
set_option maxHeartbeats 4000000 in
set_option maxRecDepth 100000 in
theorem c_X12_shutNow (hG : jG n K r) {i : jI} {j : jL} {x0 : Nat} {x1 : Int32} (hx0 : x0 < n ∧ K x0 = 11) (h : J_X12_shutNow len r Q i j x0 x1) : Met l yX12_shutNow wsX12_shutNow rm_X12_shutNow (va_Pc [.ref (b + x0), .int x1] (jPre b cy D tU n K len r i j)) (jQi b cy D tU n K len r Q) 0 0 (jA b) := by
  refine Met.ofW (cc := cX12_shutNow) (maxL := 4) (ret := (some .int)) (by decide) rfl ?_
  intro p e s m args below meth c s₁ B hml hv
  obtain ⟨rfl, hv⟩ := hv
  have C0 : jCx p s m _ c cX12_shutNow 4 wsX12_shutNow RX12 b cy D tU n K r := ⟨B.exec, B.bytes, hml, findClass_of_methodNamed B.named, atoms_spec (ws := wsX12_shutNow) B.pre, hv.2.2, hG⟩
  have hr := B.returns
  have hlk := B.notSynchronized
  obtain ⟨hx, hb, hml, hown, hts, hst, hG⟩ := id C0
  have hiX12 : ∀ w ∈ u_ws RX12 TX12 51, w ∈ wsX12_shutNow := hiX12_X12_shutNow
  have w := jDy.start hv
  have hl := lv_entry ([.ref (b + x0), .int x1]) (n := 4) (Nat.le_of_ble_eq_true rfl)
  rw [lg_entry_eq]
  generalize (lg_sl ([.ref (b + x0), .int x1]) ++ List.replicate (4 - (lg_sl ([.ref (b + x0), .int x1])).length) Slot.unset).toArray = ls at hl ⊢
  replace hl : lv_has ls 4 [(0, .ref (b + x0)), (1, .int x1)] := hl
  show W p l e rm_X12_shutNow s m _ below meth c s.heap [] 0 0 _ (F0 m 0 ls [])
  rw [J_X12_shutNow] at h
  refine lv_aload_n hx hb dX12_shutNow_0 rfl (lv_at hl 0 rfl) ?_
  refine lv_aload_n hx hb dX12_shutNow_1 rfl (lv_at hl 0 rfl) ?_
  obtain ⟨a2, hr0, h⟩ := h
  refine jgr (f := 9) hx hb hts hown hst w hG hx0 hiX12 (rfl : vwCl[11]? = some (RX12, TX12, 51)) (hts (.fieldLink RX12 22 "FootByGateModel" "kindOf" "[I") (by decide +kernel)) ⟨by decide, by decide, rfl⟩ (rfl : jrt 11 9 = 13) dX12_shutNow_2 hr0 (fun ha2 => ?_)
  clear hr0
  refine lv_iload_n hx hb dX12_shutNow_5 rfl (lv_at hl 1 rfl) ?_
  obtain ⟨hn, h⟩ := h
  refine jaid hx hb hst w ha2 hn dX12_shutNow_6 ?_
  clear hn
  refine lv_aload_n hx hb dX12_shutNow_7 rfl (lv_at hl 0 rfl) ?_
  obtain ⟨a8, hr0, h⟩ := h
  refine jgr (f := 10) hx hb hts hown hst w hG hx0 hiX12 (rfl : vwCl[11]? = some (RX12, TX12, 51)) (hts (.fieldLink RX12 25 "FootByGateModel" "standsOf" "[I") (by decide +kernel)) ⟨by decide, by decide, rfl⟩ (rfl : jrt 11 10 = 13) dX12_shutNow_8 hr0 (fun ha8 => ?_)
  clear hr0
  refine lv_iload_n hx hb dX12_shutNow_11 rfl (lv_at hl 1 rfl) ?_
  obtain ⟨hn, h⟩ := h
  refine jaid hx hb hst w ha8 hn dX12_shutNow_12 ?_
  clear hn
  refine lv_iconst (v := (0 : Int32)) hx hb dX12_shutNow_13 (by decide) ?_
  refine jcV_v (k := x0) (As := [.int (i a2 x1.toNatClampNeg), .int (i a8 x1.toNatClampNeg), .int (0 : Int32)]) (rest := []) C0 w (c_X12_layCosts hG hx0 h) (cwV 3 hts gX12_shutNow_X12_layCosts rfl rfl rfl (by decide +kernel) ⟨Nat.le_of_ble_eq_true rfl, Nat.le_of_ble_eq_true rfl⟩) hx0 (rfl : vwCl[11]? = some (RX12, TX12, 51)) (by decide) rfl hl.1 rfl (Nat.le_of_ble_eq_true rfl) dX12_shutNow_14 (fun i14 j14 H locs h w => ?_) ⟨Nat.zero_le _, Nat.zero_le _⟩
  refine lv_iconst (v := (0 : Int32)) hx hb dX12_shutNow_17 (by decide) ?_
  refine lv_istore_n (lv' := [(2, .int (0 : Int32)), (0, .ref (b + x0)), (1, .int x1)]) hx hb dX12_shutNow_18 rfl hl (by decide) rfl (fun ls hl => ?_)
  refine lv_iconst (v := (0 : Int32)) hx hb dX12_shutNow_19 (by decide) ?_
  refine lv_istore_n (lv' := [(3, .int (0 : Int32)), (2, .int (0 : Int32)), (0, .ref (b + x0)), (1, .int x1)]) hx hb dX12_shutNow_20 rfl hl (by decide) rfl (fun ls hl => ?_)
  obtain ⟨g0, h⟩ := h
  exact w_X12_shutNow_L21 C0 hr hlk g0 w hx0 (lv_sub hl [2, 1, 0] rfl) h
end S_X12_shutNow
section S_X12_changeNow
def J_X12_changeNow_L58 (len : Nat → Nat) (r : jR) (Q : Int32 → jI → jL → Prop) (Hd13 : jI → jL → Nat → Int32 → Int32 → Int32 → Int32 → Int32 → Prop) (i : jI) (j : jL) (x0 : Nat) (x1 : Int32) (x2 : Int32) (x3 : Int32) (x5 : Int32) (t0 : Int32) (t1 : Int32) : Prop := ∀ v59 : Int32, v59 = t0 ||| t1 → (∃ a62, r x0 3 = some a62 ∧ (vp_in x1 (len a62) ∧ ∀ i67 : jI, i67 = ju i a62 x1.toNatClampNeg x3 → (∀ v68 : Int32, v68 = x5 + (1 : Int32) → (Hd13 i67 j x0 x1 x2 x3 v59 v68))))
def J_X12_changeNow_L13 (len : Nat → Nat) (r : jR) (Q : Int32 → jI → jL → Prop) : Nat → jI → jL → Nat → Int32 → Int32 → Int32 → Int32 → Int32 → Prop
  | 0 => fun _ _ _ _ _ _ _ _ => False
  | g + 1 => fun i j x0 x1 x2 x3 x4 x5 => (((i x0 8) ≤ x5) → (Q x4 i j)) ∧ ((¬ (i x0 8) ≤ x5) → (J_X12_shutNow len r (fun (q25 : Int32) (i25 : jI) (j25 : jL) => ∃ a31, r x0 3 = some a31 ∧ (vp_in x1 (len a31) ∧ ∀ i36 : jI, i36 = ju i25 a31 x1.toNatClampNeg x2 → (J_X12_shutNow len r (fun (q42 : Int32) (i42 : jI) (j42 : jL) => ((¬ q42 = q25) → (J_X12_changeNow_L58 len r Q (J_X12_changeNow_L13 len r Q g) i42 j42 x0 x1 x2 x3 x5 x4 ((1 : Int32) <<< (x5 &&& 31)))) ∧ ((q42 = q25) → (J_X12_changeNow_L58 len r Q (J_X12_changeNow_L13 len r Q g) i42 j42 x0 x1 x2 x3 x5 x4 (0 : Int32)))) i36 j25 x0 x5))) i j x0 x5))
def J_X12_changeNow (len : Nat → Nat) (r : jR) (Q : Int32 → jI → jL → Prop) (i : jI) (j : jL) (x0 : Nat) (x1 : Int32) (x2 : Int32) : Prop := ∃ a1, r x0 3 = some a1 ∧ (vp_in x1 (len a1) ∧ (∀ v6 : Int32, v6 = i a1 x1.toNatClampNeg → (∃ g0, J_X12_changeNow_L13 len r Q g0 i j x0 x1 x2 v6 (0 : Int32) (0 : Int32))))
abbrev rm_X12_changeNow : Room := { frames := 5, cells := 0, slots := 0, locals := 120 }
variable {p : Program} {l : Launch} {e : Env} {s : State} {m : MethodId} {args : Array Value} {below : List Frame} {meth : Method} {c : Code} {b tU n : Nat} {cy : Nat → ClassId} {D : va_G} {K len : Nat → Nat} {r : jR} {Q : Int32 → jI → jL → Prop}
theorem hiX12_X12_changeNow : ∀ w ∈ u_ws RX12 TX12 51, w ∈ wsX12_changeNow := by decide +kernel
set_option maxHeartbeats 4000000 in
set_option maxRecDepth 100000 in
theorem w_X12_changeNow_L58 (C0 : jCx p s m args c cX12_changeNow 7 wsX12_changeNow RX12 b cy D tU n K r) (hr : meth.sig.returnType = some .int) (hlk : meth.locks = false) {Hd13 : jI → jL → Nat → Int32 → Int32 → Int32 → Int32 → Int32 → Prop} (k13 : ∀ {H : Heap} {locs : List Loc} {ls : Array Slot} {i : jI} {j : jL} {x0 : Nat} {x1 : Int32} {x2 : Int32} {x3 : Int32} {x4 : Int32} {x5 : Int32} (w : jDy b cy D n K len r i j s H locs) (hx0 : x0 < n ∧ K x0 = 11) (hl : lv_has ls 7 [(0, .ref (b + x0)), (1, .int x1), (2, .int x2), (3, .int x3), (4, .int x4), (5, .int x5)]) (h : Hd13 i j x0 x1 x2 x3 x4 x5), W p l e rm_X12_changeNow s m args below meth c H locs 0 0 (MQ below (jQi b cy D tU n K len r Q) args s 0 0 (jA b)) (F0 m 13 ls [])) {H : Heap} {locs : List Loc} {ls : Array Slot} {i : jI} {j : jL} {x0 : Nat} {x1 : Int32} {x2 : Int32} {x3 : Int32} {x5 : Int32} {t0 : Int32} {t1 : Int32} (w : jDy b cy D n K len r i j s H locs) (hx0 : x0 < n ∧ K x0 = 11) (hl : lv_has ls 7 [(0, .ref (b + x0)), (1, .int x1), (2, .int x2), (3, .int x3), (5, .int x5)]) (h : J_X12_changeNow_L58 len r Q Hd13 i j x0 x1 x2 x3 x5 t0 t1) : W p l e rm_X12_changeNow s m args below meth c H locs 0 0 (MQ below (jQi b cy D tU n K len r Q) args s 0 0 (jA b)) (F0 m 58 ls [.int t1, .int t0]) := by
  obtain ⟨hx, hb, hml, hown, hts, hst, hG⟩ := id C0
  have hiX12 : ∀ w ∈ u_ws RX12 TX12 51, w ∈ wsX12_changeNow := hiX12_X12_changeNow
  rw [J_X12_changeNow_L58] at h
  refine lv_ior hx hb dX12_changeNow_58 ?_
  refine lv_topi (fun v59 he => ?_)
  replace h := h v59 he
  clear he
  refine lv_istore (lv' := [(4, .int v59), (0, .ref (b + x0)), (1, .int x1), (2, .int x2), (3, .int x3), (5, .int x5)]) hx hb dX12_changeNow_59 hl (by decide) rfl (fun ls hl => ?_)
  refine lv_aload_n hx hb dX12_changeNow_61 rfl (lv_at hl 1 rfl) ?_
  obtain ⟨a62, hr0, h⟩ := h
  refine jgr (f := 3) hx hb hts hown hst w hG hx0 hiX12 (rfl : vwCl[11]? = some (RX12, TX12, 51)) (hts (.fieldLink RX12 16 "FootByGateModel" "pacesOf" "[I") (by decide +kernel)) ⟨by decide, by decide, rfl⟩ (rfl : jrt 11 3 = 13) dX12_changeNow_62 hr0 (fun ha62 => ?_)
  clear hr0
  refine lv_iload_n hx hb dX12_changeNow_65 rfl (lv_at hl 2 rfl) ?_
  refine lv_iload_n hx hb dX12_changeNow_66 rfl (lv_at hl 4 rfl) ?_
  obtain ⟨hn, h⟩ := h
  refine jais hx hb hst w ha62 hn dX12_changeNow_67 (fun i67 H locs he w => ?_)
  replace h := h i67 he
  clear he hn
  obtain ⟨v68, he⟩ : ∃ z : Int32, z = x5 + (1 : Int32) := ⟨_, rfl⟩
  replace h := h v68 he
  refine lv_iinc (v := v68) (lv' := [(5, .int v68), (4, .int v59), (0, .ref (b + x0)), (1, .int x1), (2, .int x2), (3, .int x3)]) hx hb dX12_changeNow_68 hl (k := 5) rfl (by rw [he]; rfl) (by decide) rfl (fun ls hl => ?_)
  clear he
  refine lv_goto (tgt := 13) hx hb dX12_changeNow_71 (by decide) ?_
  exact k13 w hx0 (lv_sub hl [2, 3, 4, 5, 1, 0] rfl) h
set_option maxHeartbeats 4000000 in
set_option maxRecDepth 100000 in
theorem w_X12_changeNow_L13 (C0 : jCx p s m args c cX12_changeNow 7 wsX12_changeNow RX12 b cy D tU n K r) (hr : meth.sig.returnType = some .int) (hlk : meth.locks = false) : ∀ (g : Nat) {H : Heap} {locs : List Loc} {ls : Array Slot} {i : jI} {j : jL} {x0 : Nat} {x1 : Int32} {x2 : Int32} {x3 : Int32} {x4 : Int32} {x5 : Int32} (w : jDy b cy D n K len r i j s H locs) (hx0 : x0 < n ∧ K x0 = 11) (hl : lv_has ls 7 [(0, .ref (b + x0)), (1, .int x1), (2, .int x2), (3, .int x3), (4, .int x4), (5, .int x5)]) (h : J_X12_changeNow_L13 len r Q g i j x0 x1 x2 x3 x4 x5), W p l e rm_X12_changeNow s m args below meth c H locs 0 0 (MQ below (jQi b cy D tU n K len r Q) args s 0 0 (jA b)) (F0 m 13 ls []) := by
  obtain ⟨hx, hb, hml, hown, hts, hst, hG⟩ := id C0
  have hiX12 : ∀ w ∈ u_ws RX12 TX12 51, w ∈ wsX12_changeNow := hiX12_X12_changeNow
  intro g
  induction g with
  | zero => intro H locs ls i j x0 x1 x2 x3 x4 x5 w hx0 hl h; exact False.elim h
  | succ g ih =>
    intro H locs ls i j x0 x1 x2 x3 x4 x5 w hx0 hl h
    rw [J_X12_changeNow_L13] at h
    refine lv_iload hx hb dX12_changeNow_13 (lv_at hl 5 rfl) ?_
    refine lv_aload_n hx hb dX12_changeNow_15 rfl (lv_at hl 0 rfl) ?_
    refine jgi (f := 8) hx hb hts hown hst w hx0 hiX12 (rfl : vwCl[11]? = some (RX12, TX12, 51)) (hts (.fieldLink RX12 138 "FootByGateModel" "walkers" "I") (by decide +kernel)) ⟨by decide, by decide, rfl⟩ dX12_changeNow_16 ?_
    refine lv_icmp_ge (tgt := 74) hx hb dX12_changeNow_19 (by decide) (fun hc => ?_) (fun hc => ?_)
    · replace h := h.1 hc
      clear hc
      refine lv_iload hx hb dX12_changeNow_74 (lv_at hl 4 rfl) ?_
      exact jret_i hx hb hr hlk hst w h dX12_changeNow_76
    · replace h := h.2 hc
      clear hc
      refine lv_aload_n hx hb dX12_changeNow_22 rfl (lv_at hl 0 rfl) ?_
      refine lv_iload hx hb dX12_changeNow_23 (lv_at hl 5 rfl) ?_
      refine jcV_i (k := x0) (As := [.int x5]) (rest := []) C0 w (c_X12_shutNow hG hx0 h) (cwV 1 hts gX12_changeNow_X12_shutNow rfl rfl rfl (by decide +kernel) ⟨Nat.le_of_ble_eq_true rfl, Nat.le_of_ble_eq_true rfl⟩) hx0 (rfl : vwCl[11]? = some (RX12, TX12, 51)) (by decide) rfl hl.1 rfl (Nat.le_of_ble_eq_true rfl) dX12_changeNow_25 (fun q25 i25 j25 H locs h w => ?_) ⟨Nat.zero_le _, Nat.zero_le _⟩
      refine lv_istore (lv' := [(6, .int q25), (0, .ref (b + x0)), (1, .int x1), (2, .int x2), (3, .int x3), (4, .int x4), (5, .int x5)]) hx hb dX12_changeNow_28 hl (by decide) rfl (fun ls hl => ?_)
      refine lv_aload_n hx hb dX12_changeNow_30 rfl (lv_at hl 1 rfl) ?_
      obtain ⟨a31, hr0, h⟩ := h
      refine jgr (f := 3) hx hb hts hown hst w hG hx0 hiX12 (rfl : vwCl[11]? = some (RX12, TX12, 51)) (hts (.fieldLink RX12 16 "FootByGateModel" "pacesOf" "[I") (by decide +kernel)) ⟨by decide, by decide, rfl⟩ (rfl : jrt 11 3 = 13) dX12_changeNow_31 hr0 (fun ha31 => ?_)
      clear hr0
      refine lv_iload_n hx hb dX12_changeNow_34 rfl (lv_at hl 2 rfl) ?_
      refine lv_iload_n hx hb dX12_changeNow_35 rfl (lv_at hl 3 rfl) ?_
      obtain ⟨hn, h⟩ := h
      refine jais hx hb hst w ha31 hn dX12_changeNow_36 (fun i36 H locs he w => ?_)
      replace h := h i36 he
      clear he hn
      refine lv_iload hx hb dX12_changeNow_37 (lv_at hl 5 rfl) ?_
      refine lv_aload_n hx hb dX12_changeNow_39 rfl (lv_at hl 1 rfl) ?_
      refine lv_iload hx hb dX12_changeNow_40 (lv_at hl 6 rfl) ?_
      refine jcV_i (k := x0) (As := [.int x5]) (rest := [.int x4]) C0 w (c_X12_shutNow hG hx0 h) (cwV 1 hts gX12_changeNow_X12_shutNow rfl rfl rfl (by decide +kernel) ⟨Nat.le_of_ble_eq_true rfl, Nat.le_of_ble_eq_true rfl⟩) hx0 (rfl : vwCl[11]? = some (RX12, TX12, 51)) (by decide) rfl hl.1 rfl (Nat.le_of_ble_eq_true rfl) dX12_changeNow_42 (fun q42 i42 j42 H locs h w => ?_) ⟨Nat.zero_le _, Nat.zero_le _⟩
      refine lv_iload hx hb dX12_changeNow_45 (lv_at hl 0 rfl) ?_
      refine lv_icmp_ne (tgt := 54) hx hb dX12_changeNow_47 (by decide) (fun hc => ?_) (fun hc => ?_)
      · replace h := h.1 hc
        clear hc
        refine lv_iconst (v := (1 : Int32)) hx hb dX12_changeNow_54 (by decide) ?_
        refine lv_iload hx hb dX12_changeNow_55 (lv_at hl 6 rfl) ?_
        refine lv_ishl hx hb dX12_changeNow_57 ?_
        exact w_X12_changeNow_L58 C0 hr hlk (fun w hx0 hl h => ih w hx0 hl h) w hx0 (lv_sub hl [1, 2, 3, 4, 6] rfl) h
      · replace h := h.2 hc
        clear hc
        refine lv_iconst (v := (0 : Int32)) hx hb dX12_changeNow_50 (by decide) ?_
        refine lv_goto (tgt := 58) hx hb dX12_changeNow_51 (by decide) ?_
        exact w_X12_changeNow_L58 C0 hr hlk (fun w hx0 hl h => ih w hx0 hl h) w hx0 (lv_sub hl [1, 2, 3, 4, 6] rfl) h
set_option maxHeartbeats 4000000 in
set_option maxRecDepth 100000 in
theorem c_X12_changeNow (hG : jG n K r) {i : jI} {j : jL} {x0 : Nat} {x1 : Int32} {x2 : Int32} (hx0 : x0 < n ∧ K x0 = 11) (h : J_X12_changeNow len r Q i j x0 x1 x2) : Met l yX12_changeNow wsX12_changeNow rm_X12_changeNow (va_Pc [.ref (b + x0), .int x1, .int x2] (jPre b cy D tU n K len r i j)) (jQi b cy D tU n K len r Q) 0 0 (jA b) := by
  refine Met.ofW (cc := cX12_changeNow) (maxL := 7) (ret := (some .int)) (by decide) rfl ?_
  intro p e s m args below meth c s₁ B hml hv
  obtain ⟨rfl, hv⟩ := hv
  have C0 : jCx p s m _ c cX12_changeNow 7 wsX12_changeNow RX12 b cy D tU n K r := ⟨B.exec, B.bytes, hml, findClass_of_methodNamed B.named, atoms_spec (ws := wsX12_changeNow) B.pre, hv.2.2, hG⟩
  have hr := B.returns
  have hlk := B.notSynchronized
  obtain ⟨hx, hb, hml, hown, hts, hst, hG⟩ := id C0
  have hiX12 : ∀ w ∈ u_ws RX12 TX12 51, w ∈ wsX12_changeNow := hiX12_X12_changeNow
  have w := jDy.start hv
  have hl := lv_entry ([.ref (b + x0), .int x1, .int x2]) (n := 7) (Nat.le_of_ble_eq_true rfl)
  rw [lg_entry_eq]
  generalize (lg_sl ([.ref (b + x0), .int x1, .int x2]) ++ List.replicate (7 - (lg_sl ([.ref (b + x0), .int x1, .int x2])).length) Slot.unset).toArray = ls at hl ⊢
  replace hl : lv_has ls 7 [(0, .ref (b + x0)), (1, .int x1), (2, .int x2)] := hl
  show W p l e rm_X12_changeNow s m _ below meth c s.heap [] 0 0 _ (F0 m 0 ls [])
  rw [J_X12_changeNow] at h
  refine lv_aload_n hx hb dX12_changeNow_0 rfl (lv_at hl 0 rfl) ?_
  obtain ⟨a1, hr0, h⟩ := h
  refine jgr (f := 3) hx hb hts hown hst w hG hx0 hiX12 (rfl : vwCl[11]? = some (RX12, TX12, 51)) (hts (.fieldLink RX12 16 "FootByGateModel" "pacesOf" "[I") (by decide +kernel)) ⟨by decide, by decide, rfl⟩ (rfl : jrt 11 3 = 13) dX12_changeNow_1 hr0 (fun ha1 => ?_)
  clear hr0
  refine lv_iload_n hx hb dX12_changeNow_4 rfl (lv_at hl 1 rfl) ?_
  obtain ⟨hn, h⟩ := h
  refine jaid hx hb hst w ha1 hn dX12_changeNow_5 ?_
  clear hn
  refine lv_topi (fun v6 he => ?_)
  replace h := h v6 he
  clear he
  refine lv_istore_n (lv' := [(3, .int v6), (0, .ref (b + x0)), (1, .int x1), (2, .int x2)]) hx hb dX12_changeNow_6 rfl hl (by decide) rfl (fun ls hl => ?_)
  refine lv_iconst (v := (0 : Int32)) hx hb dX12_changeNow_7 (by decide) ?_
  refine lv_istore (lv' := [(4, .int (0 : Int32)), (3, .int v6), (0, .ref (b + x0)), (1, .int x1), (2, .int x2)]) hx hb dX12_changeNow_8 hl (by decide) rfl (fun ls hl => ?_)
  refine lv_iconst (v := (0 : Int32)) hx hb dX12_changeNow_10 (by decide) ?_
  refine lv_istore (lv' := [(5, .int (0 : Int32)), (4, .int (0 : Int32)), (3, .int v6), (0, .ref (b + x0)), (1, .int x1), (2, .int x2)]) hx hb dX12_changeNow_11 hl (by decide) rfl (fun ls hl => ?_)
  obtain ⟨g0, h⟩ := h
  exact w_X12_changeNow_L13 C0 hr hlk g0 w hx0 (lv_sub hl [3, 4, 5, 2, 1, 0] rfl) h
end S_X12_changeNow
section S_X12_isStreet
def J_X12_isStreet (len : Nat → Nat) (r : jR) (Q : Int32 → jI → jL → Prop) (i : jI) (j : jL) (x0 : Nat) (x1 : Int32) : Prop := J_X12_within len r (fun (q8 : Int32) (i8 : jI) (j8 : jL) => (q8 = 0 ∨ q8 = 1) ∧ Q q8 i8 j8) i j x1 (0 : Int32) ((i x0 0) - (1 : Int32))
abbrev rm_X12_isStreet : Room := { frames := 1, cells := 0, slots := 0, locals := 22 }
variable {p : Program} {l : Launch} {e : Env} {s : State} {m : MethodId} {args : Array Value} {below : List Frame} {meth : Method} {c : Code} {b tU n : Nat} {cy : Nat → ClassId} {D : va_G} {K len : Nat → Nat} {r : jR} {Q : Int32 → jI → jL → Prop}
theorem hiX12_X12_isStreet : ∀ w ∈ u_ws RX12 TX12 51, w ∈ wsX12_isStreet := by decide +kernel
set_option maxHeartbeats 4000000 in
set_option maxRecDepth 100000 in
theorem c_X12_isStreet (hG : jG n K r) {i : jI} {j : jL} {x0 : Nat} {x1 : Int32} (hx0 : x0 < n ∧ K x0 = 11) (h : J_X12_isStreet len r Q i j x0 x1) : Met l yX12_isStreet wsX12_isStreet rm_X12_isStreet (va_Pc [.ref (b + x0), .int x1] (jPre b cy D tU n K len r i j)) (jQi b cy D tU n K len r Q) 0 0 (jA b) := by
  refine Met.ofW (cc := cX12_isStreet) (maxL := 2) (ret := (some .boolean)) (by decide) rfl ?_
  intro p e s m args below meth c s₁ B hml hv
  obtain ⟨rfl, hv⟩ := hv
  have C0 : jCx p s m _ c cX12_isStreet 2 wsX12_isStreet RX12 b cy D tU n K r := ⟨B.exec, B.bytes, hml, findClass_of_methodNamed B.named, atoms_spec (ws := wsX12_isStreet) B.pre, hv.2.2, hG⟩
  have hr := B.returns
  have hlk := B.notSynchronized
  obtain ⟨hx, hb, hml, hown, hts, hst, hG⟩ := id C0
  have hiX12 : ∀ w ∈ u_ws RX12 TX12 51, w ∈ wsX12_isStreet := hiX12_X12_isStreet
  have w := jDy.start hv
  have hl := lv_entry ([.ref (b + x0), .int x1]) (n := 2) (Nat.le_of_ble_eq_true rfl)
  rw [lg_entry_eq]
  generalize (lg_sl ([.ref (b + x0), .int x1]) ++ List.replicate (2 - (lg_sl ([.ref (b + x0), .int x1])).length) Slot.unset).toArray = ls at hl ⊢
  replace hl : lv_has ls 2 [(0, .ref (b + x0)), (1, .int x1)] := hl
  show W p l e rm_X12_isStreet s m _ below meth c s.heap [] 0 0 _ (F0 m 0 ls [])
  rw [J_X12_isStreet] at h
  refine lv_iload_n hx hb dX12_isStreet_0 rfl (lv_at hl 1 rfl) ?_
  refine lv_iconst (v := (0 : Int32)) hx hb dX12_isStreet_1 (by decide) ?_
  refine lv_aload_n hx hb dX12_isStreet_2 rfl (lv_at hl 0 rfl) ?_
  refine jgi (f := 0) hx hb hts hown hst w hx0 hiX12 (rfl : vwCl[11]? = some (RX12, TX12, 51)) (hts (.fieldLink RX12 126 "FootByGateModel" "streets" "I") (by decide +kernel)) ⟨by decide, by decide, rfl⟩ dX12_isStreet_3 ?_
  refine lv_iconst (v := (1 : Int32)) hx hb dX12_isStreet_6 (by decide) ?_
  refine lv_isub hx hb dX12_isStreet_7 ?_
  refine jcS_i (As := [.int x1, .int (0 : Int32), .int ((i x0 0) - (1 : Int32))]) (rest := []) C0 w (c_X12_within hG h) (va_cwS 3 hts gX12_isStreet_X12_within rfl rfl rfl (by decide +kernel) ⟨Nat.le_of_ble_eq_true rfl, Nat.le_of_ble_eq_true rfl⟩) rfl hl.1 rfl (Nat.le_of_ble_eq_true rfl) dX12_isStreet_8 (fun q8 i8 j8 H locs h w => ?_) ⟨Nat.zero_le _, Nat.zero_le _⟩
  exact jret_z hx hb hr hlk hst w h.1 h.2 dX12_isStreet_11
end S_X12_isStreet
section S_X12_change
def J_X12_change (len : Nat → Nat) (r : jR) (Q : Int32 → jI → jL → Prop) (i : jI) (j : jL) (x0 : Nat) (x1 : Int32) (x2 : Int32) : Prop := J_X12_isStreet len r (fun (q2 : Int32) (i2 : jI) (j2 : jL) => ((¬ q2 = 0) → (J_X12_within len r (fun (q15 : Int32) (i15 : jI) (j15 : jL) => ((q15 = 0) → (Q (-102 : Int32) i15 j15)) ∧ ((¬ q15 = 0) → (J_X12_changeNow len r (fun (q24 : Int32) (i24 : jI) (j24 : jL) => Q q24 i24 j24) i15 j15 x0 x1 x2))) i2 j2 x2 (0 : Int32) (9 : Int32))) ∧ ((q2 = 0) → (Q (-101 : Int32) i2 j2))) i j x0 x1
abbrev rm_X12_change : Room := { frames := 6, cells := 0, slots := 0, locals := 146 }
variable {p : Program} {l : Launch} {e : Env} {s : State} {m : MethodId} {args : Array Value} {below : List Frame} {meth : Method} {c : Code} {b tU n : Nat} {cy : Nat → ClassId} {D : va_G} {K len : Nat → Nat} {r : jR} {Q : Int32 → jI → jL → Prop}
set_option maxHeartbeats 4000000 in
set_option maxRecDepth 100000 in
theorem c_X12_change (hG : jG n K r) {i : jI} {j : jL} {x0 : Nat} {x1 : Int32} {x2 : Int32} (hx0 : x0 < n ∧ K x0 = 11) (h : J_X12_change len r Q i j x0 x1 x2) : Met l yX12_change wsX12_change rm_X12_change (va_Pc [.ref (b + x0), .int x1, .int x2] (jPre b cy D tU n K len r i j)) (jQi b cy D tU n K len r Q) 0 0 (jA b) := by
  refine Met.ofW (cc := cX12_change) (maxL := 3) (ret := (some .int)) (by decide) rfl ?_
  intro p e s m args below meth c s₁ B hml hv
  obtain ⟨rfl, hv⟩ := hv
  have C0 : jCx p s m _ c cX12_change 3 wsX12_change RX12 b cy D tU n K r := ⟨B.exec, B.bytes, hml, findClass_of_methodNamed B.named, atoms_spec (ws := wsX12_change) B.pre, hv.2.2, hG⟩
  have hr := B.returns
  have hlk := B.notSynchronized
  obtain ⟨hx, hb, hml, hown, hts, hst, hG⟩ := id C0
  have w := jDy.start hv
  have hl := lv_entry ([.ref (b + x0), .int x1, .int x2]) (n := 3) (Nat.le_of_ble_eq_true rfl)
  rw [lg_entry_eq]
  generalize (lg_sl ([.ref (b + x0), .int x1, .int x2]) ++ List.replicate (3 - (lg_sl ([.ref (b + x0), .int x1, .int x2])).length) Slot.unset).toArray = ls at hl ⊢
  replace hl : lv_has ls 3 [(0, .ref (b + x0)), (1, .int x1), (2, .int x2)] := hl
  show W p l e rm_X12_change s m _ below meth c s.heap [] 0 0 _ (F0 m 0 ls [])
  rw [J_X12_change] at h
  refine lv_aload_n hx hb dX12_change_0 rfl (lv_at hl 0 rfl) ?_
  refine lv_iload_n hx hb dX12_change_1 rfl (lv_at hl 1 rfl) ?_
  refine jcV_i (k := x0) (As := [.int x1]) (rest := []) C0 w (c_X12_isStreet hG hx0 h) (cwV 1 hts gX12_change_X12_isStreet rfl rfl rfl (by decide +kernel) ⟨Nat.le_of_ble_eq_true rfl, Nat.le_of_ble_eq_true rfl⟩) hx0 (rfl : vwCl[11]? = some (RX12, TX12, 51)) (by decide) rfl hl.1 rfl (Nat.le_of_ble_eq_true rfl) dX12_change_2 (fun q2 i2 j2 H locs h w => ?_) ⟨Nat.zero_le _, Nat.zero_le _⟩
  refine lv_if_ne (tgt := 11) hx hb dX12_change_5 (by decide) (fun hc => ?_) (fun hc => ?_)
  · replace h := h.1 hc
    clear hc
    refine lv_iload_n hx hb dX12_change_11 rfl (lv_at hl 2 rfl) ?_
    refine lv_iconst (v := (0 : Int32)) hx hb dX12_change_12 (by decide) ?_
    refine lv_bipush (v := (9 : Int32)) hx hb dX12_change_13 (by decide) ?_
    refine jcS_i (As := [.int x2, .int (0 : Int32), .int (9 : Int32)]) (rest := []) C0 w (c_X12_within hG h) (va_cwS 3 hts gX12_change_X12_within rfl rfl rfl (by decide +kernel) ⟨Nat.le_of_ble_eq_true rfl, Nat.le_of_ble_eq_true rfl⟩) rfl hl.1 rfl (Nat.le_of_ble_eq_true rfl) dX12_change_15 (fun q15 i15 j15 H locs h w => ?_) ⟨Nat.zero_le _, Nat.zero_le _⟩
    refine lv_if_eq (tgt := 30) hx hb dX12_change_18 (by decide) (fun hc => ?_) (fun hc => ?_)
    · replace h := h.1 hc
      clear hc
      refine lv_bipush (v := (-102 : Int32)) hx hb dX12_change_30 (by decide) ?_
      exact jret_i hx hb hr hlk hst w h dX12_change_32
    · replace h := h.2 hc
      clear hc
      refine lv_aload_n hx hb dX12_change_21 rfl (lv_at hl 0 rfl) ?_
      refine lv_iload_n hx hb dX12_change_22 rfl (lv_at hl 1 rfl) ?_
      refine lv_iload_n hx hb dX12_change_23 rfl (lv_at hl 2 rfl) ?_
      refine jcV_i (k := x0) (As := [.int x1, .int x2]) (rest := []) C0 w (c_X12_changeNow hG hx0 h) (cwV 2 hts gX12_change_X12_changeNow rfl rfl rfl (by decide +kernel) ⟨Nat.le_of_ble_eq_true rfl, Nat.le_of_ble_eq_true rfl⟩) hx0 (rfl : vwCl[11]? = some (RX12, TX12, 51)) (by decide) rfl hl.1 rfl (Nat.le_of_ble_eq_true rfl) dX12_change_24 (fun q24 i24 j24 H locs h w => ?_) ⟨Nat.zero_le _, Nat.zero_le _⟩
      refine lv_goto (tgt := 32) hx hb dX12_change_27 (by decide) ?_
      exact jret_i hx hb hr hlk hst w h dX12_change_32
  · replace h := h.2 hc
    clear hc
    refine lv_bipush (v := (-101 : Int32)) hx hb dX12_change_8 (by decide) ?_
    exact jret_i hx hb hr hlk hst w h dX12_change_10
end S_X12_change
section S_X12_has
def J_X12_has (len : Nat → Nat) (r : jR) (Q : Int32 → jI → jL → Prop) (i : jI) (j : jL) (x0 : Int32) (x1 : Int32) : Prop := ((¬ ((x0 >>> (x1 &&& 31)) &&& (1 : Int32)) = (1 : Int32)) → (Q (0 : Int32) i j)) ∧ ((((x0 >>> (x1 &&& 31)) &&& (1 : Int32)) = (1 : Int32)) → (Q (1 : Int32) i j))
abbrev rm_X12_has : Room := { frames := 0, cells := 0, slots := 0, locals := 0 }
variable {p : Program} {l : Launch} {e : Env} {s : State} {m : MethodId} {args : Array Value} {below : List Frame} {meth : Method} {c : Code} {b tU n : Nat} {cy : Nat → ClassId} {D : va_G} {K len : Nat → Nat} {r : jR} {Q : Int32 → jI → jL → Prop}
set_option maxHeartbeats 4000000 in
set_option maxRecDepth 100000 in
theorem c_X12_has (hG : jG n K r) {i : jI} {j : jL} {x0 : Int32} {x1 : Int32} (h : J_X12_has len r Q i j x0 x1) : Met l yX12_has wsX12_has rm_X12_has (va_Pc [.int x0, .int x1] (jPre b cy D tU n K len r i j)) (jQi b cy D tU n K len r Q) 0 0 (jA b) := by
  refine Met.ofW (cc := cX12_has) (maxL := 2) (ret := (some .boolean)) (by decide) rfl ?_
  intro p e s m args below meth c s₁ B hml hv
  obtain ⟨rfl, hv⟩ := hv
  have C0 : jCx p s m _ c cX12_has 2 wsX12_has RX12 b cy D tU n K r := ⟨B.exec, B.bytes, hml, findClass_of_methodNamed B.named, atoms_spec (ws := wsX12_has) B.pre, hv.2.2, hG⟩
  have hr := B.returns
  have hlk := B.notSynchronized
  obtain ⟨hx, hb, hml, hown, hts, hst, hG⟩ := id C0
  have w := jDy.start hv
  have hl := lv_entry ([.int x0, .int x1]) (n := 2) (Nat.le_of_ble_eq_true rfl)
  rw [lg_entry_eq]
  generalize (lg_sl ([.int x0, .int x1]) ++ List.replicate (2 - (lg_sl ([.int x0, .int x1])).length) Slot.unset).toArray = ls at hl ⊢
  replace hl : lv_has ls 2 [(0, .int x0), (1, .int x1)] := hl
  show W p l e rm_X12_has s m _ below meth c s.heap [] 0 0 _ (F0 m 0 ls [])
  rw [J_X12_has] at h
  refine lv_iload_n hx hb dX12_has_0 rfl (lv_at hl 0 rfl) ?_
  refine lv_iload_n hx hb dX12_has_1 rfl (lv_at hl 1 rfl) ?_
  refine lv_ishr hx hb dX12_has_2 ?_
  refine lv_iconst (v := (1 : Int32)) hx hb dX12_has_3 (by decide) ?_
  refine lv_iand hx hb dX12_has_4 ?_
  refine lv_iconst (v := (1 : Int32)) hx hb dX12_has_5 (by decide) ?_
  refine lv_icmp_ne (tgt := 13) hx hb dX12_has_6 (by decide) (fun hc => ?_) (fun hc => ?_)
  · replace h := h.1 hc
    clear hc
    refine lv_iconst (v := (0 : Int32)) hx hb dX12_has_13 (by decide) ?_
    exact jret_z hx hb hr hlk hst w (by decide) h dX12_has_14
  · replace h := h.2 hc
    clear hc
    refine lv_iconst (v := (1 : Int32)) hx hb dX12_has_9 (by decide) ?_
    refine lv_goto (tgt := 14) hx hb dX12_has_10 (by decide) ?_
    exact jret_z hx hb hr hlk hst w (by decide) h dX12_has_14
end S_X12_has
section S_X12_layStones
def J_X12_layStones_L30 (len : Nat → Nat) (r : jR) (Q : jI → jL → Prop) (Hd2 : jI → jL → Nat → Int32 → Int32 → Int32 → Prop) (i : jI) (j : jL) (x0 : Nat) (x1 : Int32) (x2 : Int32) (x3 : Int32) (t0 : Nat) (t1 : Int32) (t2 : Int32) (t3 : Int32) : Prop := vp_in t1 (len t0) ∧ ∀ i31 : jI, i31 = ju i t0 t1.toNatClampNeg (t2 + t3) → (∀ v32 : Int32, v32 = x3 + (1 : Int32) → (Hd2 i31 j x0 x1 x2 v32))
def J_X12_layStones_L2 (len : Nat → Nat) (r : jR) (Q : jI → jL → Prop) : Nat → jI → jL → Nat → Int32 → Int32 → Int32 → Prop
  | 0 => fun _ _ _ _ _ _ => False
  | g + 1 => fun i j x0 x1 x2 x3 => (((i x0 0) ≤ x3) → (Q i j)) ∧ ((¬ (i x0 0) ≤ x3) → (∃ a11, r x0 3 = some a11 ∧ (vp_in x3 (len a11) ∧ (J_X12_has len r (fun (q19 : Int32) (i19 : jI) (j19 : jL) => ((q19 = 0) → (J_X12_layStones_L30 len r Q (J_X12_layStones_L2 len r Q g) i19 j19 x0 x1 x2 x3 a11 x3 (i a11 x3.toNatClampNeg) (0 : Int32))) ∧ ((¬ q19 = 0) → (J_X12_layStones_L30 len r Q (J_X12_layStones_L2 len r Q g) i19 j19 x0 x1 x2 x3 a11 x3 (i a11 x3.toNatClampNeg) x2))) i j x1 x3))))
def J_X12_layStones (len : Nat → Nat) (r : jR) (Q : jI → jL → Prop) (i : jI) (j : jL) (x0 : Nat) (x1 : Int32) (x2 : Int32) : Prop := ∃ g0, J_X12_layStones_L2 len r Q g0 i j x0 x1 x2 (0 : Int32)
abbrev rm_X12_layStones : Room := { frames := 1, cells := 0, slots := 0, locals := 21 }
variable {p : Program} {l : Launch} {e : Env} {s : State} {m : MethodId} {args : Array Value} {below : List Frame} {meth : Method} {c : Code} {b tU n : Nat} {cy : Nat → ClassId} {D : va_G} {K len : Nat → Nat} {r : jR} {Q : jI → jL → Prop}
theorem hiX12_X12_layStones : ∀ w ∈ u_ws RX12 TX12 51, w ∈ wsX12_layStones := by decide +kernel
set_option maxHeartbeats 4000000 in
set_option maxRecDepth 100000 in
theorem w_X12_layStones_L30 (C0 : jCx p s m args c cX12_layStones 4 wsX12_layStones RX12 b cy D tU n K r) (hr : meth.sig.returnType = none) (hlk : meth.locks = false) {Hd2 : jI → jL → Nat → Int32 → Int32 → Int32 → Prop} (k2 : ∀ {H : Heap} {locs : List Loc} {ls : Array Slot} {i : jI} {j : jL} {x0 : Nat} {x1 : Int32} {x2 : Int32} {x3 : Int32} (w : jDy b cy D n K len r i j s H locs) (hx0 : x0 < n ∧ K x0 = 11) (hl : lv_has ls 4 [(0, .ref (b + x0)), (1, .int x1), (2, .int x2), (3, .int x3)]) (h : Hd2 i j x0 x1 x2 x3), W p l e rm_X12_layStones s m args below meth c H locs 0 0 (MQ below (jQv b cy D tU n K len r Q) args s 0 0 (jA b)) (F0 m 2 ls [])) {H : Heap} {locs : List Loc} {ls : Array Slot} {i : jI} {j : jL} {x0 : Nat} {x1 : Int32} {x2 : Int32} {x3 : Int32} {t0 : Nat} {t1 : Int32} {t2 : Int32} {t3 : Int32} (w : jDy b cy D n K len r i j s H locs) (hx0 : x0 < n ∧ K x0 = 11) (ht0 : t0 < n ∧ K t0 = 13) (hl : lv_has ls 4 [(0, .ref (b + x0)), (1, .int x1), (2, .int x2), (3, .int x3)]) (h : J_X12_layStones_L30 len r Q Hd2 i j x0 x1 x2 x3 t0 t1 t2 t3) : W p l e rm_X12_layStones s m args below meth c H locs 0 0 (MQ below (jQv b cy D tU n K len r Q) args s 0 0 (jA b)) (F0 m 30 ls [.int t3, .int t2, .int t1, .ref (b + t0)]) := by
  obtain ⟨hx, hb, hml, hown, hts, hst, hG⟩ := id C0
  have hiX12 : ∀ w ∈ u_ws RX12 TX12 51, w ∈ wsX12_layStones := hiX12_X12_layStones
  rw [J_X12_layStones_L30] at h
  refine lv_iadd hx hb dX12_layStones_30 ?_
  obtain ⟨hn, h⟩ := h
  refine jais hx hb hst w ht0 hn dX12_layStones_31 (fun i31 H locs he w => ?_)
  replace h := h i31 he
  clear he hn
  obtain ⟨v32, he⟩ : ∃ z : Int32, z = x3 + (1 : Int32) := ⟨_, rfl⟩
  replace h := h v32 he
  refine lv_iinc (v := v32) (lv' := [(3, .int v32), (0, .ref (b + x0)), (1, .int x1), (2, .int x2)]) hx hb dX12_layStones_32 hl (k := 3) rfl (by rw [he]; rfl) (by decide) rfl (fun ls hl => ?_)
  clear he
  refine lv_goto (tgt := 2) hx hb dX12_layStones_35 (by decide) ?_
  exact k2 w hx0 (lv_sub hl [1, 2, 3, 0] rfl) h
set_option maxHeartbeats 4000000 in
set_option maxRecDepth 100000 in
theorem w_X12_layStones_L2 (C0 : jCx p s m args c cX12_layStones 4 wsX12_layStones RX12 b cy D tU n K r) (hr : meth.sig.returnType = none) (hlk : meth.locks = false) : ∀ (g : Nat) {H : Heap} {locs : List Loc} {ls : Array Slot} {i : jI} {j : jL} {x0 : Nat} {x1 : Int32} {x2 : Int32} {x3 : Int32} (w : jDy b cy D n K len r i j s H locs) (hx0 : x0 < n ∧ K x0 = 11) (hl : lv_has ls 4 [(0, .ref (b + x0)), (1, .int x1), (2, .int x2), (3, .int x3)]) (h : J_X12_layStones_L2 len r Q g i j x0 x1 x2 x3), W p l e rm_X12_layStones s m args below meth c H locs 0 0 (MQ below (jQv b cy D tU n K len r Q) args s 0 0 (jA b)) (F0 m 2 ls []) := by
  obtain ⟨hx, hb, hml, hown, hts, hst, hG⟩ := id C0
  have hiX12 : ∀ w ∈ u_ws RX12 TX12 51, w ∈ wsX12_layStones := hiX12_X12_layStones
  intro g
  induction g with
  | zero => intro H locs ls i j x0 x1 x2 x3 w hx0 hl h; exact False.elim h
  | succ g ih =>
    intro H locs ls i j x0 x1 x2 x3 w hx0 hl h
    rw [J_X12_layStones_L2] at h
    refine lv_iload_n hx hb dX12_layStones_2 rfl (lv_at hl 3 rfl) ?_
    refine lv_aload_n hx hb dX12_layStones_3 rfl (lv_at hl 0 rfl) ?_
    refine jgi (f := 0) hx hb hts hown hst w hx0 hiX12 (rfl : vwCl[11]? = some (RX12, TX12, 51)) (hts (.fieldLink RX12 126 "FootByGateModel" "streets" "I") (by decide +kernel)) ⟨by decide, by decide, rfl⟩ dX12_layStones_4 ?_
    refine lv_icmp_ge (tgt := 38) hx hb dX12_layStones_7 (by decide) (fun hc => ?_) (fun hc => ?_)
    · replace h := h.1 hc
      clear hc
      exact jret_v hx hb hr hlk hst w h dX12_layStones_38
    · replace h := h.2 hc
      clear hc
      refine lv_aload_n hx hb dX12_layStones_10 rfl (lv_at hl 0 rfl) ?_
      obtain ⟨a11, hr0, h⟩ := h
      refine jgr (f := 3) hx hb hts hown hst w hG hx0 hiX12 (rfl : vwCl[11]? = some (RX12, TX12, 51)) (hts (.fieldLink RX12 16 "FootByGateModel" "pacesOf" "[I") (by decide +kernel)) ⟨by decide, by decide, rfl⟩ (rfl : jrt 11 3 = 13) dX12_layStones_11 hr0 (fun ha11 => ?_)
      clear hr0
      refine lv_iload_n hx hb dX12_layStones_14 rfl (lv_at hl 3 rfl) ?_
      refine lv_dup2_11 hx hb dX12_layStones_15 rfl rfl ?_
      obtain ⟨hn, h⟩ := h
      refine jaid hx hb hst w ha11 hn dX12_layStones_16 ?_
      clear hn
      refine lv_iload_n hx hb dX12_layStones_17 rfl (lv_at hl 1 rfl) ?_
      refine lv_iload_n hx hb dX12_layStones_18 rfl (lv_at hl 3 rfl) ?_
      refine jcS_i (As := [.int x1, .int x3]) (rest := [.int (i a11 x3.toNatClampNeg), .int x3, .ref (b + a11)]) C0 w (c_X12_has hG h) (va_cwS 2 hts gX12_layStones_X12_has rfl rfl rfl (by decide +kernel) ⟨Nat.le_of_ble_eq_true rfl, Nat.le_of_ble_eq_true rfl⟩) rfl hl.1 rfl (Nat.le_of_ble_eq_true rfl) dX12_layStones_19 (fun q19 i19 j19 H locs h w => ?_) ⟨Nat.zero_le _, Nat.zero_le _⟩
      refine lv_if_eq (tgt := 29) hx hb dX12_layStones_22 (by decide) (fun hc => ?_) (fun hc => ?_)
      · replace h := h.1 hc
        clear hc
        refine lv_iconst (v := (0 : Int32)) hx hb dX12_layStones_29 (by decide) ?_
        exact w_X12_layStones_L30 C0 hr hlk (fun w hx0 hl h => ih w hx0 hl h) w hx0 ha11 (lv_sub hl [0, 1, 2, 3] rfl) h
      · replace h := h.2 hc
        clear hc
        refine lv_iload_n hx hb dX12_layStones_25 rfl (lv_at hl 2 rfl) ?_
        refine lv_goto (tgt := 30) hx hb dX12_layStones_26 (by decide) ?_
        exact w_X12_layStones_L30 C0 hr hlk (fun w hx0 hl h => ih w hx0 hl h) w hx0 ha11 (lv_sub hl [0, 1, 2, 3] rfl) h
set_option maxHeartbeats 4000000 in
set_option maxRecDepth 100000 in
theorem c_X12_layStones (hG : jG n K r) {i : jI} {j : jL} {x0 : Nat} {x1 : Int32} {x2 : Int32} (hx0 : x0 < n ∧ K x0 = 11) (h : J_X12_layStones len r Q i j x0 x1 x2) : Met l yX12_layStones wsX12_layStones rm_X12_layStones (va_Pc [.ref (b + x0), .int x1, .int x2] (jPre b cy D tU n K len r i j)) (jQv b cy D tU n K len r Q) 0 0 (jA b) := by
  refine Met.ofW (cc := cX12_layStones) (maxL := 4) (ret := none) (by decide) rfl ?_
  intro p e s m args below meth c s₁ B hml hv
  obtain ⟨rfl, hv⟩ := hv
  have C0 : jCx p s m _ c cX12_layStones 4 wsX12_layStones RX12 b cy D tU n K r := ⟨B.exec, B.bytes, hml, findClass_of_methodNamed B.named, atoms_spec (ws := wsX12_layStones) B.pre, hv.2.2, hG⟩
  have hr := B.returns
  have hlk := B.notSynchronized
  obtain ⟨hx, hb, hml, hown, hts, hst, hG⟩ := id C0
  have hiX12 : ∀ w ∈ u_ws RX12 TX12 51, w ∈ wsX12_layStones := hiX12_X12_layStones
  have w := jDy.start hv
  have hl := lv_entry ([.ref (b + x0), .int x1, .int x2]) (n := 4) (Nat.le_of_ble_eq_true rfl)
  rw [lg_entry_eq]
  generalize (lg_sl ([.ref (b + x0), .int x1, .int x2]) ++ List.replicate (4 - (lg_sl ([.ref (b + x0), .int x1, .int x2])).length) Slot.unset).toArray = ls at hl ⊢
  replace hl : lv_has ls 4 [(0, .ref (b + x0)), (1, .int x1), (2, .int x2)] := hl
  show W p l e rm_X12_layStones s m _ below meth c s.heap [] 0 0 _ (F0 m 0 ls [])
  rw [J_X12_layStones] at h
  refine lv_iconst (v := (0 : Int32)) hx hb dX12_layStones_0 (by decide) ?_
  refine lv_istore_n (lv' := [(3, .int (0 : Int32)), (0, .ref (b + x0)), (1, .int x1), (2, .int x2)]) hx hb dX12_layStones_1 rfl hl (by decide) rfl (fun ls hl => ?_)
  obtain ⟨g0, h⟩ := h
  exact w_X12_layStones_L2 C0 hr hlk g0 w hx0 (lv_sub hl [1, 2, 3, 0] rfl) h
end S_X12_layStones
section S_X12_comesBy
def J_X12_comesBy (len : Nat → Nat) (r : jR) (Q : Int32 → jI → jL → Prop) (i : jI) (j : jL) (x0 : Nat) (x1 : Int32) (x2 : Int32) (x3 : Int32) : Prop := J_X12_layStones len r (fun (i3 : jI) (j3 : jL) => ∃ a8, r x0 9 = some a8 ∧ (vp_in x1 (len a8) ∧ (∃ a14, r x0 10 = some a14 ∧ (vp_in x1 (len a14) ∧ (J_X12_layCosts len r (fun (i20 : jI) (j20 : jL) => J_X12_layStones len r (fun (i26 : jI) (j26 : jL) => J_X12_costTo len r (fun (q31 : Int32) (i31 : jI) (j31 : jL) => (((268435456 : Int32) ≤ q31) → (Q (0 : Int32) i31 j31)) ∧ ((¬ (268435456 : Int32) ≤ q31) → (Q (1 : Int32) i31 j31))) i26 j26 x0 x2) i20 j20 x0 x3 (-1 : Int32)) i3 j3 x0 (i3 a8 x1.toNatClampNeg) (i3 a14 x1.toNatClampNeg) (0 : Int32)))))) i j x0 x3 (1 : Int32)
abbrev rm_X12_comesBy : Room := { frames := 4, cells := 0, slots := 0, locals := 97 }
variable {p : Program} {l : Launch} {e : Env} {s : State} {m : MethodId} {args : Array Value} {below : List Frame} {meth : Method} {c : Code} {b tU n : Nat} {cy : Nat → ClassId} {D : va_G} {K len : Nat → Nat} {r : jR} {Q : Int32 → jI → jL → Prop}
theorem hiX12_X12_comesBy : ∀ w ∈ u_ws RX12 TX12 51, w ∈ wsX12_comesBy := by decide +kernel
set_option maxHeartbeats 4000000 in
set_option maxRecDepth 100000 in
theorem c_X12_comesBy (hG : jG n K r) {i : jI} {j : jL} {x0 : Nat} {x1 : Int32} {x2 : Int32} {x3 : Int32} (hx0 : x0 < n ∧ K x0 = 11) (h : J_X12_comesBy len r Q i j x0 x1 x2 x3) : Met l yX12_comesBy wsX12_comesBy rm_X12_comesBy (va_Pc [.ref (b + x0), .int x1, .int x2, .int x3] (jPre b cy D tU n K len r i j)) (jQi b cy D tU n K len r Q) 0 0 (jA b) := by
  refine Met.ofW (cc := cX12_comesBy) (maxL := 4) (ret := (some .boolean)) (by decide) rfl ?_
  intro p e s m args below meth c s₁ B hml hv
  obtain ⟨rfl, hv⟩ := hv
  have C0 : jCx p s m _ c cX12_comesBy 4 wsX12_comesBy RX12 b cy D tU n K r := ⟨B.exec, B.bytes, hml, findClass_of_methodNamed B.named, atoms_spec (ws := wsX12_comesBy) B.pre, hv.2.2, hG⟩
  have hr := B.returns
  have hlk := B.notSynchronized
  obtain ⟨hx, hb, hml, hown, hts, hst, hG⟩ := id C0
  have hiX12 : ∀ w ∈ u_ws RX12 TX12 51, w ∈ wsX12_comesBy := hiX12_X12_comesBy
  have w := jDy.start hv
  have hl := lv_entry ([.ref (b + x0), .int x1, .int x2, .int x3]) (n := 4) (Nat.le_of_ble_eq_true rfl)
  rw [lg_entry_eq]
  generalize (lg_sl ([.ref (b + x0), .int x1, .int x2, .int x3]) ++ List.replicate (4 - (lg_sl ([.ref (b + x0), .int x1, .int x2, .int x3])).length) Slot.unset).toArray = ls at hl ⊢
  replace hl : lv_has ls 4 [(0, .ref (b + x0)), (1, .int x1), (2, .int x2), (3, .int x3)] := hl
  show W p l e rm_X12_comesBy s m _ below meth c s.heap [] 0 0 _ (F0 m 0 ls [])
  rw [J_X12_comesBy] at h
  refine lv_aload_n hx hb dX12_comesBy_0 rfl (lv_at hl 0 rfl) ?_
  refine lv_iload_n hx hb dX12_comesBy_1 rfl (lv_at hl 3 rfl) ?_
  refine lv_iconst (v := (1 : Int32)) hx hb dX12_comesBy_2 (by decide) ?_
  refine jcV_v (k := x0) (As := [.int x3, .int (1 : Int32)]) (rest := []) C0 w (c_X12_layStones hG hx0 h) (cwV 2 hts gX12_comesBy_X12_layStones rfl rfl rfl (by decide +kernel) ⟨Nat.le_of_ble_eq_true rfl, Nat.le_of_ble_eq_true rfl⟩) hx0 (rfl : vwCl[11]? = some (RX12, TX12, 51)) (by decide) rfl hl.1 rfl (Nat.le_of_ble_eq_true rfl) dX12_comesBy_3 (fun i3 j3 H locs h w => ?_) ⟨Nat.zero_le _, Nat.zero_le _⟩
  refine lv_aload_n hx hb dX12_comesBy_6 rfl (lv_at hl 0 rfl) ?_
  refine lv_aload_n hx hb dX12_comesBy_7 rfl (lv_at hl 0 rfl) ?_
  obtain ⟨a8, hr0, h⟩ := h
  refine jgr (f := 9) hx hb hts hown hst w hG hx0 hiX12 (rfl : vwCl[11]? = some (RX12, TX12, 51)) (hts (.fieldLink RX12 22 "FootByGateModel" "kindOf" "[I") (by decide +kernel)) ⟨by decide, by decide, rfl⟩ (rfl : jrt 11 9 = 13) dX12_comesBy_8 hr0 (fun ha8 => ?_)
  clear hr0
  refine lv_iload_n hx hb dX12_comesBy_11 rfl (lv_at hl 1 rfl) ?_
  obtain ⟨hn, h⟩ := h
  refine jaid hx hb hst w ha8 hn dX12_comesBy_12 ?_
  clear hn
  refine lv_aload_n hx hb dX12_comesBy_13 rfl (lv_at hl 0 rfl) ?_
  obtain ⟨a14, hr0, h⟩ := h
  refine jgr (f := 10) hx hb hts hown hst w hG hx0 hiX12 (rfl : vwCl[11]? = some (RX12, TX12, 51)) (hts (.fieldLink RX12 25 "FootByGateModel" "standsOf" "[I") (by decide +kernel)) ⟨by decide, by decide, rfl⟩ (rfl : jrt 11 10 = 13) dX12_comesBy_14 hr0 (fun ha14 => ?_)
  clear hr0
  refine lv_iload_n hx hb dX12_comesBy_17 rfl (lv_at hl 1 rfl) ?_
  obtain ⟨hn, h⟩ := h
  refine jaid hx hb hst w ha14 hn dX12_comesBy_18 ?_
  clear hn
  refine lv_iconst (v := (0 : Int32)) hx hb dX12_comesBy_19 (by decide) ?_
  refine jcV_v (k := x0) (As := [.int (i3 a8 x1.toNatClampNeg), .int (i3 a14 x1.toNatClampNeg), .int (0 : Int32)]) (rest := []) C0 w (c_X12_layCosts hG hx0 h) (cwV 3 hts gX12_comesBy_X12_layCosts rfl rfl rfl (by decide +kernel) ⟨Nat.le_of_ble_eq_true rfl, Nat.le_of_ble_eq_true rfl⟩) hx0 (rfl : vwCl[11]? = some (RX12, TX12, 51)) (by decide) rfl hl.1 rfl (Nat.le_of_ble_eq_true rfl) dX12_comesBy_20 (fun i20 j20 H locs h w => ?_) ⟨Nat.zero_le _, Nat.zero_le _⟩
  refine lv_aload_n hx hb dX12_comesBy_23 rfl (lv_at hl 0 rfl) ?_
  refine lv_iload_n hx hb dX12_comesBy_24 rfl (lv_at hl 3 rfl) ?_
  refine lv_iconst (v := (-1 : Int32)) hx hb dX12_comesBy_25 (by decide) ?_
  refine jcV_v (k := x0) (As := [.int x3, .int (-1 : Int32)]) (rest := []) C0 w (c_X12_layStones hG hx0 h) (cwV 2 hts gX12_comesBy_X12_layStones rfl rfl rfl (by decide +kernel) ⟨Nat.le_of_ble_eq_true rfl, Nat.le_of_ble_eq_true rfl⟩) hx0 (rfl : vwCl[11]? = some (RX12, TX12, 51)) (by decide) rfl hl.1 rfl (Nat.le_of_ble_eq_true rfl) dX12_comesBy_26 (fun i26 j26 H locs h w => ?_) ⟨Nat.zero_le _, Nat.zero_le _⟩
  refine lv_aload_n hx hb dX12_comesBy_29 rfl (lv_at hl 0 rfl) ?_
  refine lv_iload_n hx hb dX12_comesBy_30 rfl (lv_at hl 2 rfl) ?_
  refine jcV_i (k := x0) (As := [.int x2]) (rest := []) C0 w (c_X12_costTo hG hx0 h) (cwV 1 hts gX12_comesBy_X12_costTo rfl rfl rfl (by decide +kernel) ⟨Nat.le_of_ble_eq_true rfl, Nat.le_of_ble_eq_true rfl⟩) hx0 (rfl : vwCl[11]? = some (RX12, TX12, 51)) (by decide) rfl hl.1 rfl (Nat.le_of_ble_eq_true rfl) dX12_comesBy_31 (fun q31 i31 j31 H locs h w => ?_) ⟨Nat.zero_le _, Nat.zero_le _⟩
  refine lv_ldc hx hb hown (hts (.constant RX12 193 (268435456)) (by decide +kernel)) dX12_comesBy_34 ?_
  refine lv_icmp_ge (tgt := 43) hx hb dX12_comesBy_36 (by decide) (fun hc => ?_) (fun hc => ?_)
  · replace h := h.1 hc
    clear hc
    refine lv_iconst (v := (0 : Int32)) hx hb dX12_comesBy_43 (by decide) ?_
    exact jret_z hx hb hr hlk hst w (by decide) h dX12_comesBy_44
  · replace h := h.2 hc
    clear hc
    refine lv_iconst (v := (1 : Int32)) hx hb dX12_comesBy_39 (by decide) ?_
    refine lv_goto (tgt := 44) hx hb dX12_comesBy_40 (by decide) ?_
    exact jret_z hx hb hr hlk hst w (by decide) h dX12_comesBy_44
end S_X12_comesBy
section S_X12_howMany
def J_X12_howMany (len : Nat → Nat) (r : jR) (Q : Int32 → jI → jL → Prop) (i : jI) (j : jL) (x0 : Nat) (x1 : Int32) : Prop := ((x1 = (0 : Int32)) → (Q (i x0 0) i j)) ∧ (((x1 = (1 : Int32)) → (Q (i x0 5) i j)) ∧ (((x1 = (2 : Int32)) → (Q (i x0 8) i j)) ∧ (((x1 = (3 : Int32)) → (Q (i x0 12) i j)) ∧ (((x1 = (4 : Int32)) → ((((i x0 6) = 0) → (Q (0 : Int32) i j)) ∧ ((¬ (i x0 6) = 0) → (Q (1 : Int32) i j)))) ∧ (((x1 = (5 : Int32)) → (Q (i x0 15) i j)) ∧ (((x1 = (6 : Int32)) → (Q (i x0 7) i j)) ∧ (((x1 = (7 : Int32)) → (Q (i x0 14) i j)) ∧ ((¬ x1 = (0 : Int32) → ¬ x1 = (1 : Int32) → ¬ x1 = (2 : Int32) → ¬ x1 = (3 : Int32) → ¬ x1 = (4 : Int32) → ¬ x1 = (5 : Int32) → ¬ x1 = (6 : Int32) → ¬ x1 = (7 : Int32) → (Q (-102 : Int32) i j))))))))))
abbrev rm_X12_howMany : Room := { frames := 0, cells := 0, slots := 0, locals := 0 }
variable {p : Program} {l : Launch} {e : Env} {s : State} {m : MethodId} {args : Array Value} {below : List Frame} {meth : Method} {c : Code} {b tU n : Nat} {cy : Nat → ClassId} {D : va_G} {K len : Nat → Nat} {r : jR} {Q : Int32 → jI → jL → Prop}
theorem hiX12_X12_howMany : ∀ w ∈ u_ws RX12 TX12 51, w ∈ wsX12_howMany := by decide +kernel
set_option maxHeartbeats 4000000 in
set_option maxRecDepth 100000 in
theorem c_X12_howMany (hG : jG n K r) {i : jI} {j : jL} {x0 : Nat} {x1 : Int32} (hx0 : x0 < n ∧ K x0 = 11) (h : J_X12_howMany len r Q i j x0 x1) : Met l yX12_howMany wsX12_howMany rm_X12_howMany (va_Pc [.ref (b + x0), .int x1] (jPre b cy D tU n K len r i j)) (jQi b cy D tU n K len r Q) 0 0 (jA b) := by
  refine Met.ofW (cc := cX12_howMany) (maxL := 2) (ret := (some .int)) (by decide) rfl ?_
  intro p e s m args below meth c s₁ B hml hv
  obtain ⟨rfl, hv⟩ := hv
  have C0 : jCx p s m _ c cX12_howMany 2 wsX12_howMany RX12 b cy D tU n K r := ⟨B.exec, B.bytes, hml, findClass_of_methodNamed B.named, atoms_spec (ws := wsX12_howMany) B.pre, hv.2.2, hG⟩
  have hr := B.returns
  have hlk := B.notSynchronized
  obtain ⟨hx, hb, hml, hown, hts, hst, hG⟩ := id C0
  have hiX12 : ∀ w ∈ u_ws RX12 TX12 51, w ∈ wsX12_howMany := hiX12_X12_howMany
  have w := jDy.start hv
  have hl := lv_entry ([.ref (b + x0), .int x1]) (n := 2) (Nat.le_of_ble_eq_true rfl)
  rw [lg_entry_eq]
  generalize (lg_sl ([.ref (b + x0), .int x1]) ++ List.replicate (2 - (lg_sl ([.ref (b + x0), .int x1])).length) Slot.unset).toArray = ls at hl ⊢
  replace hl : lv_has ls 2 [(0, .ref (b + x0)), (1, .int x1)] := hl
  show W p l e rm_X12_howMany s m _ below meth c s.heap [] 0 0 _ (F0 m 0 ls [])
  rw [J_X12_howMany] at h
  refine lv_iload_n hx hb dX12_howMany_0 rfl (lv_at hl 1 rfl) ?_
  by_cases hc0 : x1 = (0 : Int32)
  · replace h := h.1 hc0
    refine lv_tableIn (off := 47) (tgt := 48) hx hb dX12_howMany_1 (by rw [hc0]; decide) (by rw [hc0]; decide) (by rw [hc0]; rfl) (by decide) ?_
    clear hc0
    refine lv_aload_n hx hb dX12_howMany_48 rfl (lv_at hl 0 rfl) ?_
    refine jgi (f := 0) hx hb hts hown hst w hx0 hiX12 (rfl : vwCl[11]? = some (RX12, TX12, 51)) (hts (.fieldLink RX12 126 "FootByGateModel" "streets" "I") (by decide +kernel)) ⟨by decide, by decide, rfl⟩ dX12_howMany_49 ?_
    exact jret_i hx hb hr hlk hst w h dX12_howMany_52
  replace h := h.2
  by_cases hc1 : x1 = (1 : Int32)
  · replace h := h.1 hc1
    refine lv_tableIn (off := 52) (tgt := 53) hx hb dX12_howMany_1 (by rw [hc1]; decide) (by rw [hc1]; decide) (by rw [hc1]; rfl) (by decide) ?_
    clear hc1
    refine lv_aload_n hx hb dX12_howMany_53 rfl (lv_at hl 0 rfl) ?_
    refine jgi (f := 5) hx hb hts hown hst w hx0 hiX12 (rfl : vwCl[11]? = some (RX12, TX12, 51)) (hts (.fieldLink RX12 129 "FootByGateModel" "gates" "I") (by decide +kernel)) ⟨by decide, by decide, rfl⟩ dX12_howMany_54 ?_
    exact jret_i hx hb hr hlk hst w h dX12_howMany_57
  replace h := h.2
  by_cases hc2 : x1 = (2 : Int32)
  · replace h := h.1 hc2
    refine lv_tableIn (off := 57) (tgt := 58) hx hb dX12_howMany_1 (by rw [hc2]; decide) (by rw [hc2]; decide) (by rw [hc2]; rfl) (by decide) ?_
    clear hc2
    refine lv_aload_n hx hb dX12_howMany_58 rfl (lv_at hl 0 rfl) ?_
    refine jgi (f := 8) hx hb hts hown hst w hx0 hiX12 (rfl : vwCl[11]? = some (RX12, TX12, 51)) (hts (.fieldLink RX12 138 "FootByGateModel" "walkers" "I") (by decide +kernel)) ⟨by decide, by decide, rfl⟩ dX12_howMany_59 ?_
    exact jret_i hx hb hr hlk hst w h dX12_howMany_62
  replace h := h.2
  by_cases hc3 : x1 = (3 : Int32)
  · replace h := h.1 hc3
    refine lv_tableIn (off := 62) (tgt := 63) hx hb dX12_howMany_1 (by rw [hc3]; decide) (by rw [hc3]; decide) (by rw [hc3]; rfl) (by decide) ?_
    clear hc3
    refine lv_aload_n hx hb dX12_howMany_63 rfl (lv_at hl 0 rfl) ?_
    refine jgi (f := 12) hx hb hts hown hst w hx0 hiX12 (rfl : vwCl[11]? = some (RX12, TX12, 51)) (hts (.fieldLink RX12 141 "FootByGateModel" "prints" "I") (by decide +kernel)) ⟨by decide, by decide, rfl⟩ dX12_howMany_64 ?_
    exact jret_i hx hb hr hlk hst w h dX12_howMany_67
  replace h := h.2
  by_cases hc4 : x1 = (4 : Int32)
  · replace h := h.1 hc4
    refine lv_tableIn (off := 67) (tgt := 68) hx hb dX12_howMany_1 (by rw [hc4]; decide) (by rw [hc4]; decide) (by rw [hc4]; rfl) (by decide) ?_
    clear hc4
    refine lv_aload_n hx hb dX12_howMany_68 rfl (lv_at hl 0 rfl) ?_
    refine jgi (f := 6) hx hb hts hown hst w hx0 hiX12 (rfl : vwCl[11]? = some (RX12, TX12, 51)) (hts (.fieldLink RX12 132 "FootByGateModel" "isFree" "Z") (by decide +kernel)) ⟨by decide, by decide, rfl⟩ dX12_howMany_69 ?_
    refine lv_if_eq (tgt := 79) hx hb dX12_howMany_72 (by decide) (fun hc => ?_) (fun hc => ?_)
    · replace h := h.1 hc
      clear hc
      refine lv_iconst (v := (0 : Int32)) hx hb dX12_howMany_79 (by decide) ?_
      exact jret_i hx hb hr hlk hst w h dX12_howMany_80
    · replace h := h.2 hc
      clear hc
      refine lv_iconst (v := (1 : Int32)) hx hb dX12_howMany_75 (by decide) ?_
      refine lv_goto (tgt := 80) hx hb dX12_howMany_76 (by decide) ?_
      exact jret_i hx hb hr hlk hst w h dX12_howMany_80
  replace h := h.2
  by_cases hc5 : x1 = (5 : Int32)
  · replace h := h.1 hc5
    refine lv_tableIn (off := 80) (tgt := 81) hx hb dX12_howMany_1 (by rw [hc5]; decide) (by rw [hc5]; decide) (by rw [hc5]; rfl) (by decide) ?_
    clear hc5
    refine lv_aload_n hx hb dX12_howMany_81 rfl (lv_at hl 0 rfl) ?_
    refine jgi (f := 15) hx hb hts hown hst w hx0 hiX12 (rfl : vwCl[11]? = some (RX12, TX12, 51)) (hts (.fieldLink RX12 95 "FootByGateModel" "pageLength" "I") (by decide +kernel)) ⟨by decide, by decide, rfl⟩ dX12_howMany_82 ?_
    exact jret_i hx hb hr hlk hst w h dX12_howMany_85
  replace h := h.2
  by_cases hc6 : x1 = (6 : Int32)
  · replace h := h.1 hc6
    refine lv_tableIn (off := 85) (tgt := 86) hx hb dX12_howMany_1 (by rw [hc6]; decide) (by rw [hc6]; decide) (by rw [hc6]; rfl) (by decide) ?_
    clear hc6
    refine lv_aload_n hx hb dX12_howMany_86 rfl (lv_at hl 0 rfl) ?_
    refine jgi (f := 7) hx hb hts hown hst w hx0 hiX12 (rfl : vwCl[11]? = some (RX12, TX12, 51)) (hts (.fieldLink RX12 135 "FootByGateModel" "towns" "I") (by decide +kernel)) ⟨by decide, by decide, rfl⟩ dX12_howMany_87 ?_
    exact jret_i hx hb hr hlk hst w h dX12_howMany_90
  replace h := h.2
  by_cases hc7 : x1 = (7 : Int32)
  · replace h := h.1 hc7
    refine lv_tableIn (off := 90) (tgt := 91) hx hb dX12_howMany_1 (by rw [hc7]; decide) (by rw [hc7]; decide) (by rw [hc7]; rfl) (by decide) ?_
    clear hc7
    refine lv_aload_n hx hb dX12_howMany_91 rfl (lv_at hl 0 rfl) ?_
    refine jgi (f := 14) hx hb hts hown hst w hx0 hiX12 (rfl : vwCl[11]? = some (RX12, TX12, 51)) (hts (.fieldLink RX12 221 "FootByGateModel" "asks" "I") (by decide +kernel)) ⟨by decide, by decide, rfl⟩ dX12_howMany_92 ?_
    exact jret_i hx hb hr hlk hst w h dX12_howMany_95
  replace h := h.2
  replace h := h hc0 hc1 hc2 hc3 hc4 hc5 hc6 hc7
  have hd : x1.toInt < 0 ∨ 7 < x1.toInt := by
    rcases Int.lt_or_le x1.toInt 0 with h1 | h1
    · exact Or.inl h1
    rcases Int.lt_or_le 7 x1.toInt with h2 | h2
    · exact Or.inr h2
    exfalso
    have h3 : x1.toInt = 0 ∨ x1.toInt = 1 ∨ x1.toInt = 2 ∨ x1.toInt = 3 ∨ x1.toInt = 4 ∨ x1.toInt = 5 ∨ x1.toInt = 6 ∨ x1.toInt = 7 := by omega
    rcases h3 with h3 | h3 | h3 | h3 | h3 | h3 | h3 | h3
    · exact hc0 (Int32.toInt_inj.mp (h3.trans (by decide)))
    · exact hc1 (Int32.toInt_inj.mp (h3.trans (by decide)))
    · exact hc2 (Int32.toInt_inj.mp (h3.trans (by decide)))
    · exact hc3 (Int32.toInt_inj.mp (h3.trans (by decide)))
    · exact hc4 (Int32.toInt_inj.mp (h3.trans (by decide)))
    · exact hc5 (Int32.toInt_inj.mp (h3.trans (by decide)))
    · exact hc6 (Int32.toInt_inj.mp (h3.trans (by decide)))
    · exact hc7 (Int32.toInt_inj.mp (h3.trans (by decide)))
  refine lv_tableOut (tgt := 96) hx hb dX12_howMany_1 hd (by decide) ?_
  clear hd hc0 hc1 hc2 hc3 hc4 hc5 hc6 hc7
  refine lv_bipush (v := (-102 : Int32)) hx hb dX12_howMany_96 (by decide) ?_
  exact jret_i hx hb hr hlk hst w h dX12_howMany_98
end S_X12_howMany
section S_X12_count
def J_X12_count (len : Nat → Nat) (r : jR) (Q : Int32 → jI → jL → Prop) (i : jI) (j : jL) (x0 : Nat) (x1 : Int32) : Prop := J_X12_howMany len r (fun (q2 : Int32) (i2 : jI) (j2 : jL) => Q q2 i2 j2) i j x0 x1
abbrev rm_X12_count : Room := { frames := 1, cells := 0, slots := 0, locals := 21 }
variable {p : Program} {l : Launch} {e : Env} {s : State} {m : MethodId} {args : Array Value} {below : List Frame} {meth : Method} {c : Code} {b tU n : Nat} {cy : Nat → ClassId} {D : va_G} {K len : Nat → Nat} {r : jR} {Q : Int32 → jI → jL → Prop}
set_option maxHeartbeats 4000000 in
set_option maxRecDepth 100000 in
theorem c_X12_count (hG : jG n K r) {i : jI} {j : jL} {x0 : Nat} {x1 : Int32} (hx0 : x0 < n ∧ K x0 = 11) (h : J_X12_count len r Q i j x0 x1) : Met l yX12_count wsX12_count rm_X12_count (va_Pc [.ref (b + x0), .int x1] (jPre b cy D tU n K len r i j)) (jQi b cy D tU n K len r Q) 0 0 (jA b) := by
  refine Met.ofW (cc := cX12_count) (maxL := 2) (ret := (some .int)) (by decide) rfl ?_
  intro p e s m args below meth c s₁ B hml hv
  obtain ⟨rfl, hv⟩ := hv
  have C0 : jCx p s m _ c cX12_count 2 wsX12_count RX12 b cy D tU n K r := ⟨B.exec, B.bytes, hml, findClass_of_methodNamed B.named, atoms_spec (ws := wsX12_count) B.pre, hv.2.2, hG⟩
  have hr := B.returns
  have hlk := B.notSynchronized
  obtain ⟨hx, hb, hml, hown, hts, hst, hG⟩ := id C0
  have w := jDy.start hv
  have hl := lv_entry ([.ref (b + x0), .int x1]) (n := 2) (Nat.le_of_ble_eq_true rfl)
  rw [lg_entry_eq]
  generalize (lg_sl ([.ref (b + x0), .int x1]) ++ List.replicate (2 - (lg_sl ([.ref (b + x0), .int x1])).length) Slot.unset).toArray = ls at hl ⊢
  replace hl : lv_has ls 2 [(0, .ref (b + x0)), (1, .int x1)] := hl
  show W p l e rm_X12_count s m _ below meth c s.heap [] 0 0 _ (F0 m 0 ls [])
  rw [J_X12_count] at h
  refine lv_aload_n hx hb dX12_count_0 rfl (lv_at hl 0 rfl) ?_
  refine lv_iload_n hx hb dX12_count_1 rfl (lv_at hl 1 rfl) ?_
  refine jcV_i (k := x0) (As := [.int x1]) (rest := []) C0 w (c_X12_howMany hG hx0 h) (cwV 1 hts gX12_count_X12_howMany rfl rfl rfl (by decide +kernel) ⟨Nat.le_of_ble_eq_true rfl, Nat.le_of_ble_eq_true rfl⟩) hx0 (rfl : vwCl[11]? = some (RX12, TX12, 51)) (by decide) rfl hl.1 rfl (Nat.le_of_ble_eq_true rfl) dX12_count_2 (fun q2 i2 j2 H locs h w => ?_) ⟨Nat.zero_le _, Nat.zero_le _⟩
  exact jret_i hx hb hr hlk hst w h dX12_count_5
end S_X12_count
section S_X12_evenBy
def J_X12_evenBy_L115 (len : Nat → Nat) (r : jR) (Q : Int32 → jI → jL → Prop) (Hd5 : jI → jL → Nat → Int32 → Int32 → Int32 → Int32 → Prop) (i : jI) (j : jL) (x0 : Nat) (x1 : Int32) (x2 : Int32) (x4 : Int32) (t0 : Int32) (t1 : Int32) : Prop := ∀ v116 : Int32, v116 = t0 ||| t1 → (∀ v117 : Int32, v117 = x4 + (1 : Int32) → (Hd5 i j x0 x1 x2 v116 v117))
def J_X12_evenBy_L101 (len : Nat → Nat) (r : jR) (Q : Int32 → jI → jL → Prop) (Hd5 : jI → jL → Nat → Int32 → Int32 → Int32 → Int32 → Prop) (i : jI) (j : jL) (x0 : Nat) (x1 : Int32) (x2 : Int32) (x3 : Int32) (x4 : Int32) (x6 : Int32) : Prop := ((x6 = 0) → (J_X12_evenBy_L115 len r Q Hd5 i j x0 x1 x2 x4 x3 ((1 : Int32) <<< (x4 &&& 31)))) ∧ ((¬ x6 = 0) → (J_X12_evenBy_L115 len r Q Hd5 i j x0 x1 x2 x4 x3 (0 : Int32)))
def J_X12_evenBy_L87 (len : Nat → Nat) (r : jR) (Q : Int32 → jI → jL → Prop) (Hd5 : jI → jL → Nat → Int32 → Int32 → Int32 → Int32 → Prop) (i : jI) (j : jL) (x0 : Nat) (x1 : Int32) (x2 : Int32) (x3 : Int32) (x4 : Int32) (x6 : Int32) (t0 : Int32) : Prop := ((¬ x6 = 0) → (J_X12_evenBy_L101 len r Q Hd5 i j x0 x1 x2 x3 x4 x6)) ∧ ((x6 = 0) → (((¬ t0 = 0) → (J_X12_evenBy_L101 len r Q Hd5 i j x0 x1 x2 x3 x4 x6)) ∧ ((t0 = 0) → (Q (-1 : Int32) i j))))
def J_X12_evenBy_L60 (len : Nat → Nat) (r : jR) (Q : Int32 → jI → jL → Prop) (Hd5 : jI → jL → Nat → Int32 → Int32 → Int32 → Int32 → Prop) (i : jI) (j : jL) (x0 : Nat) (x1 : Int32) (x2 : Int32) (x3 : Int32) (x4 : Int32) (x5 : Int32) (t0 : Int32) : Prop := ∃ a64, r x0 3 = some a64 ∧ (vp_in x4 (len a64) ∧ (J_X12_stepsBy len r (fun (q72 : Int32) (i72 : jI) (j72 : jL) => ((¬ (q72 - q72 / (2 : Int32) * (2 : Int32)) = x5) → (J_X12_evenBy_L87 len r Q Hd5 i72 j72 x0 x1 x2 x3 x4 t0 (0 : Int32))) ∧ (((q72 - q72 / (2 : Int32) * (2 : Int32)) = x5) → (J_X12_evenBy_L87 len r Q Hd5 i72 j72 x0 x1 x2 x3 x4 t0 (1 : Int32)))) i j x1 ((i a64 x4.toNatClampNeg) + (1 : Int32))))
def J_X12_evenBy_L5 (len : Nat → Nat) (r : jR) (Q : Int32 → jI → jL → Prop) : Nat → jI → jL → Nat → Int32 → Int32 → Int32 → Int32 → Prop
  | 0 => fun _ _ _ _ _ _ _ => False
  | g + 1 => fun i j x0 x1 x2 x3 x4 => (((i x0 0) ≤ x4) → (Q x3 i j)) ∧ ((¬ (i x0 0) ≤ x4) → (∃ a16, r x0 1 = some a16 ∧ (vp_in x4 (len a16) ∧ (∃ a25, r x0 2 = some a25 ∧ (vp_in x4 (len a25) ∧ (∀ v35 : Int32, v35 = ((x2 >>> ((i a16 x4.toNatClampNeg) &&& 31)) ^^^ (x2 >>> ((i a25 x4.toNatClampNeg) &&& 31))) &&& (1 : Int32) → (∃ a39, r x0 3 = some a39 ∧ (vp_in x4 (len a39) ∧ (J_X12_stepsBy len r (fun (q45 : Int32) (i45 : jI) (j45 : jL) => ((¬ (q45 - q45 / (2 : Int32) * (2 : Int32)) = v35) → (J_X12_evenBy_L60 len r Q (J_X12_evenBy_L5 len r Q g) i45 j45 x0 x1 x2 x3 x4 v35 (0 : Int32))) ∧ (((q45 - q45 / (2 : Int32) * (2 : Int32)) = v35) → (J_X12_evenBy_L60 len r Q (J_X12_evenBy_L5 len r Q g) i45 j45 x0 x1 x2 x3 x4 v35 (1 : Int32)))) i j x1 (i a39 x4.toNatClampNeg))))))))))
def J_X12_evenBy (len : Nat → Nat) (r : jR) (Q : Int32 → jI → jL → Prop) (i : jI) (j : jL) (x0 : Nat) (x1 : Int32) (x2 : Int32) : Prop := ∃ g0, J_X12_evenBy_L5 len r Q g0 i j x0 x1 x2 (0 : Int32) (0 : Int32)
abbrev rm_X12_evenBy : Room := { frames := 1, cells := 0, slots := 0, locals := 21 }
variable {p : Program} {l : Launch} {e : Env} {s : State} {m : MethodId} {args : Array Value} {below : List Frame} {meth : Method} {c : Code} {b tU n : Nat} {cy : Nat → ClassId} {D : va_G} {K len : Nat → Nat} {r : jR} {Q : Int32 → jI → jL → Prop}
theorem hiX12_X12_evenBy : ∀ w ∈ u_ws RX12 TX12 51, w ∈ wsX12_evenBy := by decide +kernel
set_option maxHeartbeats 4000000 in
set_option maxRecDepth 100000 in
theorem w_X12_evenBy_L115 (C0 : jCx p s m args c cX12_evenBy 8 wsX12_evenBy RX12 b cy D tU n K r) (hr : meth.sig.returnType = some .int) (hlk : meth.locks = false) {Hd5 : jI → jL → Nat → Int32 → Int32 → Int32 → Int32 → Prop} (k5 : ∀ {H : Heap} {locs : List Loc} {ls : Array Slot} {i : jI} {j : jL} {x0 : Nat} {x1 : Int32} {x2 : Int32} {x3 : Int32} {x4 : Int32} (w : jDy b cy D n K len r i j s H locs) (hx0 : x0 < n ∧ K x0 = 11) (hl : lv_has ls 8 [(0, .ref (b + x0)), (1, .int x1), (2, .int x2), (3, .int x3), (4, .int x4)]) (h : Hd5 i j x0 x1 x2 x3 x4), W p l e rm_X12_evenBy s m args below meth c H locs 0 0 (MQ below (jQi b cy D tU n K len r Q) args s 0 0 (jA b)) (F0 m 5 ls [])) {H : Heap} {locs : List Loc} {ls : Array Slot} {i : jI} {j : jL} {x0 : Nat} {x1 : Int32} {x2 : Int32} {x4 : Int32} {t0 : Int32} {t1 : Int32} (w : jDy b cy D n K len r i j s H locs) (hx0 : x0 < n ∧ K x0 = 11) (hl : lv_has ls 8 [(0, .ref (b + x0)), (1, .int x1), (2, .int x2), (4, .int x4)]) (h : J_X12_evenBy_L115 len r Q Hd5 i j x0 x1 x2 x4 t0 t1) : W p l e rm_X12_evenBy s m args below meth c H locs 0 0 (MQ below (jQi b cy D tU n K len r Q) args s 0 0 (jA b)) (F0 m 115 ls [.int t1, .int t0]) := by
  obtain ⟨hx, hb, hml, hown, hts, hst, hG⟩ := id C0
  have hiX12 : ∀ w ∈ u_ws RX12 TX12 51, w ∈ wsX12_evenBy := hiX12_X12_evenBy
  rw [J_X12_evenBy_L115] at h
  refine lv_ior hx hb dX12_evenBy_115 ?_
  refine lv_topi (fun v116 he => ?_)
  replace h := h v116 he
  clear he
  refine lv_istore_n (lv' := [(3, .int v116), (0, .ref (b + x0)), (1, .int x1), (2, .int x2), (4, .int x4)]) hx hb dX12_evenBy_116 rfl hl (by decide) rfl (fun ls hl => ?_)
  obtain ⟨v117, he⟩ : ∃ z : Int32, z = x4 + (1 : Int32) := ⟨_, rfl⟩
  replace h := h v117 he
  refine lv_iinc (v := v117) (lv' := [(4, .int v117), (3, .int v116), (0, .ref (b + x0)), (1, .int x1), (2, .int x2)]) hx hb dX12_evenBy_117 hl (k := 4) rfl (by rw [he]; rfl) (by decide) rfl (fun ls hl => ?_)
  clear he
  refine lv_goto (tgt := 5) hx hb dX12_evenBy_120 (by decide) ?_
  exact k5 w hx0 (lv_sub hl [2, 3, 4, 1, 0] rfl) h
set_option maxHeartbeats 4000000 in
set_option maxRecDepth 100000 in
theorem w_X12_evenBy_L101 (C0 : jCx p s m args c cX12_evenBy 8 wsX12_evenBy RX12 b cy D tU n K r) (hr : meth.sig.returnType = some .int) (hlk : meth.locks = false) {Hd5 : jI → jL → Nat → Int32 → Int32 → Int32 → Int32 → Prop} (k5 : ∀ {H : Heap} {locs : List Loc} {ls : Array Slot} {i : jI} {j : jL} {x0 : Nat} {x1 : Int32} {x2 : Int32} {x3 : Int32} {x4 : Int32} (w : jDy b cy D n K len r i j s H locs) (hx0 : x0 < n ∧ K x0 = 11) (hl : lv_has ls 8 [(0, .ref (b + x0)), (1, .int x1), (2, .int x2), (3, .int x3), (4, .int x4)]) (h : Hd5 i j x0 x1 x2 x3 x4), W p l e rm_X12_evenBy s m args below meth c H locs 0 0 (MQ below (jQi b cy D tU n K len r Q) args s 0 0 (jA b)) (F0 m 5 ls [])) {H : Heap} {locs : List Loc} {ls : Array Slot} {i : jI} {j : jL} {x0 : Nat} {x1 : Int32} {x2 : Int32} {x3 : Int32} {x4 : Int32} {x6 : Int32} (w : jDy b cy D n K len r i j s H locs) (hx0 : x0 < n ∧ K x0 = 11) (hl : lv_has ls 8 [(0, .ref (b + x0)), (1, .int x1), (2, .int x2), (3, .int x3), (4, .int x4), (6, .int x6)]) (h : J_X12_evenBy_L101 len r Q Hd5 i j x0 x1 x2 x3 x4 x6) : W p l e rm_X12_evenBy s m args below meth c H locs 0 0 (MQ below (jQi b cy D tU n K len r Q) args s 0 0 (jA b)) (F0 m 101 ls []) := by
  obtain ⟨hx, hb, hml, hown, hts, hst, hG⟩ := id C0
  have hiX12 : ∀ w ∈ u_ws RX12 TX12 51, w ∈ wsX12_evenBy := hiX12_X12_evenBy
  rw [J_X12_evenBy_L101] at h
  refine lv_iload_n hx hb dX12_evenBy_101 rfl (lv_at hl 3 rfl) ?_
  refine lv_iload hx hb dX12_evenBy_102 (lv_at hl 5 rfl) ?_
  refine lv_if_eq (tgt := 111) hx hb dX12_evenBy_104 (by decide) (fun hc => ?_) (fun hc => ?_)
  · replace h := h.1 hc
    clear hc
    refine lv_iconst (v := (1 : Int32)) hx hb dX12_evenBy_111 (by decide) ?_
    refine lv_iload hx hb dX12_evenBy_112 (lv_at hl 4 rfl) ?_
    refine lv_ishl hx hb dX12_evenBy_114 ?_
    exact w_X12_evenBy_L115 C0 hr hlk (fun w hx0 hl h => k5 w hx0 hl h) w hx0 (lv_sub hl [0, 1, 2, 4] rfl) h
  · replace h := h.2 hc
    clear hc
    refine lv_iconst (v := (0 : Int32)) hx hb dX12_evenBy_107 (by decide) ?_
    refine lv_goto (tgt := 115) hx hb dX12_evenBy_108 (by decide) ?_
    exact w_X12_evenBy_L115 C0 hr hlk (fun w hx0 hl h => k5 w hx0 hl h) w hx0 (lv_sub hl [0, 1, 2, 4] rfl) h
set_option maxHeartbeats 4000000 in
set_option maxRecDepth 100000 in
theorem w_X12_evenBy_L87 (C0 : jCx p s m args c cX12_evenBy 8 wsX12_evenBy RX12 b cy D tU n K r) (hr : meth.sig.returnType = some .int) (hlk : meth.locks = false) {Hd5 : jI → jL → Nat → Int32 → Int32 → Int32 → Int32 → Prop} (k5 : ∀ {H : Heap} {locs : List Loc} {ls : Array Slot} {i : jI} {j : jL} {x0 : Nat} {x1 : Int32} {x2 : Int32} {x3 : Int32} {x4 : Int32} (w : jDy b cy D n K len r i j s H locs) (hx0 : x0 < n ∧ K x0 = 11) (hl : lv_has ls 8 [(0, .ref (b + x0)), (1, .int x1), (2, .int x2), (3, .int x3), (4, .int x4)]) (h : Hd5 i j x0 x1 x2 x3 x4), W p l e rm_X12_evenBy s m args below meth c H locs 0 0 (MQ below (jQi b cy D tU n K len r Q) args s 0 0 (jA b)) (F0 m 5 ls [])) {H : Heap} {locs : List Loc} {ls : Array Slot} {i : jI} {j : jL} {x0 : Nat} {x1 : Int32} {x2 : Int32} {x3 : Int32} {x4 : Int32} {x6 : Int32} {t0 : Int32} (w : jDy b cy D n K len r i j s H locs) (hx0 : x0 < n ∧ K x0 = 11) (hl : lv_has ls 8 [(0, .ref (b + x0)), (1, .int x1), (2, .int x2), (3, .int x3), (4, .int x4), (6, .int x6)]) (h : J_X12_evenBy_L87 len r Q Hd5 i j x0 x1 x2 x3 x4 x6 t0) : W p l e rm_X12_evenBy s m args below meth c H locs 0 0 (MQ below (jQi b cy D tU n K len r Q) args s 0 0 (jA b)) (F0 m 87 ls [.int t0]) := by
  obtain ⟨hx, hb, hml, hown, hts, hst, hG⟩ := id C0
  have hiX12 : ∀ w ∈ u_ws RX12 TX12 51, w ∈ wsX12_evenBy := hiX12_X12_evenBy
  rw [J_X12_evenBy_L87] at h
  refine lv_istore (lv' := [(7, .int t0), (0, .ref (b + x0)), (1, .int x1), (2, .int x2), (3, .int x3), (4, .int x4), (6, .int x6)]) hx hb dX12_evenBy_87 hl (by decide) rfl (fun ls hl => ?_)
  refine lv_iload hx hb dX12_evenBy_89 (lv_at hl 6 rfl) ?_
  refine lv_if_ne (tgt := 101) hx hb dX12_evenBy_91 (by decide) (fun hc => ?_) (fun hc => ?_)
  · replace h := h.1 hc
    clear hc
    exact w_X12_evenBy_L101 C0 hr hlk (fun w hx0 hl h => k5 w hx0 hl h) w hx0 (lv_sub hl [1, 2, 3, 4, 5, 6] rfl) h
  · replace h := h.2 hc
    clear hc
    refine lv_iload hx hb dX12_evenBy_94 (lv_at hl 0 rfl) ?_
    refine lv_if_ne (tgt := 101) hx hb dX12_evenBy_96 (by decide) (fun hc => ?_) (fun hc => ?_)
    · replace h := h.1 hc
      clear hc
      exact w_X12_evenBy_L101 C0 hr hlk (fun w hx0 hl h => k5 w hx0 hl h) w hx0 (lv_sub hl [1, 2, 3, 4, 5, 6] rfl) h
    · replace h := h.2 hc
      clear hc
      refine lv_iconst (v := (-1 : Int32)) hx hb dX12_evenBy_99 (by decide) ?_
      exact jret_i hx hb hr hlk hst w h dX12_evenBy_100
set_option maxHeartbeats 4000000 in
set_option maxRecDepth 100000 in
theorem w_X12_evenBy_L60 (C0 : jCx p s m args c cX12_evenBy 8 wsX12_evenBy RX12 b cy D tU n K r) (hr : meth.sig.returnType = some .int) (hlk : meth.locks = false) {Hd5 : jI → jL → Nat → Int32 → Int32 → Int32 → Int32 → Prop} (k5 : ∀ {H : Heap} {locs : List Loc} {ls : Array Slot} {i : jI} {j : jL} {x0 : Nat} {x1 : Int32} {x2 : Int32} {x3 : Int32} {x4 : Int32} (w : jDy b cy D n K len r i j s H locs) (hx0 : x0 < n ∧ K x0 = 11) (hl : lv_has ls 8 [(0, .ref (b + x0)), (1, .int x1), (2, .int x2), (3, .int x3), (4, .int x4)]) (h : Hd5 i j x0 x1 x2 x3 x4), W p l e rm_X12_evenBy s m args below meth c H locs 0 0 (MQ below (jQi b cy D tU n K len r Q) args s 0 0 (jA b)) (F0 m 5 ls [])) {H : Heap} {locs : List Loc} {ls : Array Slot} {i : jI} {j : jL} {x0 : Nat} {x1 : Int32} {x2 : Int32} {x3 : Int32} {x4 : Int32} {x5 : Int32} {t0 : Int32} (w : jDy b cy D n K len r i j s H locs) (hx0 : x0 < n ∧ K x0 = 11) (hl : lv_has ls 8 [(0, .ref (b + x0)), (1, .int x1), (2, .int x2), (3, .int x3), (4, .int x4), (5, .int x5)]) (h : J_X12_evenBy_L60 len r Q Hd5 i j x0 x1 x2 x3 x4 x5 t0) : W p l e rm_X12_evenBy s m args below meth c H locs 0 0 (MQ below (jQi b cy D tU n K len r Q) args s 0 0 (jA b)) (F0 m 60 ls [.int t0]) := by
  obtain ⟨hx, hb, hml, hown, hts, hst, hG⟩ := id C0
  have hiX12 : ∀ w ∈ u_ws RX12 TX12 51, w ∈ wsX12_evenBy := hiX12_X12_evenBy
  rw [J_X12_evenBy_L60] at h
  refine lv_istore (lv' := [(6, .int t0), (0, .ref (b + x0)), (1, .int x1), (2, .int x2), (3, .int x3), (4, .int x4), (5, .int x5)]) hx hb dX12_evenBy_60 hl (by decide) rfl (fun ls hl => ?_)
  refine lv_iload_n hx hb dX12_evenBy_62 rfl (lv_at hl 2 rfl) ?_
  refine lv_aload_n hx hb dX12_evenBy_63 rfl (lv_at hl 1 rfl) ?_
  obtain ⟨a64, hr0, h⟩ := h
  refine jgr (f := 3) hx hb hts hown hst w hG hx0 hiX12 (rfl : vwCl[11]? = some (RX12, TX12, 51)) (hts (.fieldLink RX12 16 "FootByGateModel" "pacesOf" "[I") (by decide +kernel)) ⟨by decide, by decide, rfl⟩ (rfl : jrt 11 3 = 13) dX12_evenBy_64 hr0 (fun ha64 => ?_)
  clear hr0
  refine lv_iload hx hb dX12_evenBy_67 (lv_at hl 5 rfl) ?_
  obtain ⟨hn, h⟩ := h
  refine jaid hx hb hst w ha64 hn dX12_evenBy_69 ?_
  clear hn
  refine lv_iconst (v := (1 : Int32)) hx hb dX12_evenBy_70 (by decide) ?_
  refine lv_iadd hx hb dX12_evenBy_71 ?_
  refine jcS_i (As := [.int x1, .int ((i a64 x4.toNatClampNeg) + (1 : Int32))]) (rest := []) C0 w (c_X12_stepsBy hG h) (va_cwS 2 hts gX12_evenBy_X12_stepsBy rfl rfl rfl (by decide +kernel) ⟨Nat.le_of_ble_eq_true rfl, Nat.le_of_ble_eq_true rfl⟩) rfl hl.1 rfl (Nat.le_of_ble_eq_true rfl) dX12_evenBy_72 (fun q72 i72 j72 H locs h w => ?_) ⟨Nat.zero_le _, Nat.zero_le _⟩
  refine lv_iconst (v := (2 : Int32)) hx hb dX12_evenBy_75 (by decide) ?_
  refine lv_irem hx hb dX12_evenBy_76 (by decide) ?_
  refine lv_iload hx hb dX12_evenBy_77 (lv_at hl 6 rfl) ?_
  refine lv_icmp_ne (tgt := 86) hx hb dX12_evenBy_79 (by decide) (fun hc => ?_) (fun hc => ?_)
  · replace h := h.1 hc
    clear hc
    refine lv_iconst (v := (0 : Int32)) hx hb dX12_evenBy_86 (by decide) ?_
    exact w_X12_evenBy_L87 C0 hr hlk (fun w hx0 hl h => k5 w hx0 hl h) w hx0 (lv_sub hl [1, 2, 3, 4, 5, 0] rfl) h
  · replace h := h.2 hc
    clear hc
    refine lv_iconst (v := (1 : Int32)) hx hb dX12_evenBy_82 (by decide) ?_
    refine lv_goto (tgt := 87) hx hb dX12_evenBy_83 (by decide) ?_
    exact w_X12_evenBy_L87 C0 hr hlk (fun w hx0 hl h => k5 w hx0 hl h) w hx0 (lv_sub hl [1, 2, 3, 4, 5, 0] rfl) h
set_option maxHeartbeats 4000000 in
set_option maxRecDepth 100000 in
theorem w_X12_evenBy_L5 (C0 : jCx p s m args c cX12_evenBy 8 wsX12_evenBy RX12 b cy D tU n K r) (hr : meth.sig.returnType = some .int) (hlk : meth.locks = false) : ∀ (g : Nat) {H : Heap} {locs : List Loc} {ls : Array Slot} {i : jI} {j : jL} {x0 : Nat} {x1 : Int32} {x2 : Int32} {x3 : Int32} {x4 : Int32} (w : jDy b cy D n K len r i j s H locs) (hx0 : x0 < n ∧ K x0 = 11) (hl : lv_has ls 8 [(0, .ref (b + x0)), (1, .int x1), (2, .int x2), (3, .int x3), (4, .int x4)]) (h : J_X12_evenBy_L5 len r Q g i j x0 x1 x2 x3 x4), W p l e rm_X12_evenBy s m args below meth c H locs 0 0 (MQ below (jQi b cy D tU n K len r Q) args s 0 0 (jA b)) (F0 m 5 ls []) := by
  obtain ⟨hx, hb, hml, hown, hts, hst, hG⟩ := id C0
  have hiX12 : ∀ w ∈ u_ws RX12 TX12 51, w ∈ wsX12_evenBy := hiX12_X12_evenBy
  intro g
  induction g with
  | zero => intro H locs ls i j x0 x1 x2 x3 x4 w hx0 hl h; exact False.elim h
  | succ g ih =>
    intro H locs ls i j x0 x1 x2 x3 x4 w hx0 hl h
    rw [J_X12_evenBy_L5] at h
    refine lv_iload hx hb dX12_evenBy_5 (lv_at hl 4 rfl) ?_
    refine lv_aload_n hx hb dX12_evenBy_7 rfl (lv_at hl 0 rfl) ?_
    refine jgi (f := 0) hx hb hts hown hst w hx0 hiX12 (rfl : vwCl[11]? = some (RX12, TX12, 51)) (hts (.fieldLink RX12 126 "FootByGateModel" "streets" "I") (by decide +kernel)) ⟨by decide, by decide, rfl⟩ dX12_evenBy_8 ?_
    refine lv_icmp_ge (tgt := 123) hx hb dX12_evenBy_11 (by decide) (fun hc => ?_) (fun hc => ?_)
    · replace h := h.1 hc
      clear hc
      refine lv_iload_n hx hb dX12_evenBy_123 rfl (lv_at hl 3 rfl) ?_
      exact jret_i hx hb hr hlk hst w h dX12_evenBy_124
    · replace h := h.2 hc
      clear hc
      refine lv_iload_n hx hb dX12_evenBy_14 rfl (lv_at hl 2 rfl) ?_
      refine lv_aload_n hx hb dX12_evenBy_15 rfl (lv_at hl 0 rfl) ?_
      obtain ⟨a16, hr0, h⟩ := h
      refine jgr (f := 1) hx hb hts hown hst w hG hx0 hiX12 (rfl : vwCl[11]? = some (RX12, TX12, 51)) (hts (.fieldLink RX12 7 "FootByGateModel" "placeA" "[I") (by decide +kernel)) ⟨by decide, by decide, rfl⟩ (rfl : jrt 11 1 = 13) dX12_evenBy_16 hr0 (fun ha16 => ?_)
      clear hr0
      refine lv_iload hx hb dX12_evenBy_19 (lv_at hl 4 rfl) ?_
      obtain ⟨hn, h⟩ := h
      refine jaid hx hb hst w ha16 hn dX12_evenBy_21 ?_
      clear hn
      refine lv_ishr hx hb dX12_evenBy_22 ?_
      refine lv_iload_n hx hb dX12_evenBy_23 rfl (lv_at hl 2 rfl) ?_
      refine lv_aload_n hx hb dX12_evenBy_24 rfl (lv_at hl 0 rfl) ?_
      obtain ⟨a25, hr0, h⟩ := h
      refine jgr (f := 2) hx hb hts hown hst w hG hx0 hiX12 (rfl : vwCl[11]? = some (RX12, TX12, 51)) (hts (.fieldLink RX12 13 "FootByGateModel" "placeB" "[I") (by decide +kernel)) ⟨by decide, by decide, rfl⟩ (rfl : jrt 11 2 = 13) dX12_evenBy_25 hr0 (fun ha25 => ?_)
      clear hr0
      refine lv_iload hx hb dX12_evenBy_28 (lv_at hl 4 rfl) ?_
      obtain ⟨hn, h⟩ := h
      refine jaid hx hb hst w ha25 hn dX12_evenBy_30 ?_
      clear hn
      refine lv_ishr hx hb dX12_evenBy_31 ?_
      refine lv_ixor hx hb dX12_evenBy_32 ?_
      refine lv_iconst (v := (1 : Int32)) hx hb dX12_evenBy_33 (by decide) ?_
      refine lv_iand hx hb dX12_evenBy_34 ?_
      refine lv_topi (fun v35 he => ?_)
      replace h := h v35 he
      clear he
      refine lv_istore (lv' := [(5, .int v35), (0, .ref (b + x0)), (1, .int x1), (2, .int x2), (3, .int x3), (4, .int x4)]) hx hb dX12_evenBy_35 hl (by decide) rfl (fun ls hl => ?_)
      refine lv_iload_n hx hb dX12_evenBy_37 rfl (lv_at hl 2 rfl) ?_
      refine lv_aload_n hx hb dX12_evenBy_38 rfl (lv_at hl 1 rfl) ?_
      obtain ⟨a39, hr0, h⟩ := h
      refine jgr (f := 3) hx hb hts hown hst w hG hx0 hiX12 (rfl : vwCl[11]? = some (RX12, TX12, 51)) (hts (.fieldLink RX12 16 "FootByGateModel" "pacesOf" "[I") (by decide +kernel)) ⟨by decide, by decide, rfl⟩ (rfl : jrt 11 3 = 13) dX12_evenBy_39 hr0 (fun ha39 => ?_)
      clear hr0
      refine lv_iload hx hb dX12_evenBy_42 (lv_at hl 5 rfl) ?_
      obtain ⟨hn, h⟩ := h
      refine jaid hx hb hst w ha39 hn dX12_evenBy_44 ?_
      clear hn
      refine jcS_i (As := [.int x1, .int (i a39 x4.toNatClampNeg)]) (rest := []) C0 w (c_X12_stepsBy hG h) (va_cwS 2 hts gX12_evenBy_X12_stepsBy rfl rfl rfl (by decide +kernel) ⟨Nat.le_of_ble_eq_true rfl, Nat.le_of_ble_eq_true rfl⟩) rfl hl.1 rfl (Nat.le_of_ble_eq_true rfl) dX12_evenBy_45 (fun q45 i45 j45 H locs h w => ?_) ⟨Nat.zero_le _, Nat.zero_le _⟩
      refine lv_iconst (v := (2 : Int32)) hx hb dX12_evenBy_48 (by decide) ?_
      refine lv_irem hx hb dX12_evenBy_49 (by decide) ?_
      refine lv_iload hx hb dX12_evenBy_50 (lv_at hl 0 rfl) ?_
      refine lv_icmp_ne (tgt := 59) hx hb dX12_evenBy_52 (by decide) (fun hc => ?_) (fun hc => ?_)
      · replace h := h.1 hc
        clear hc
        refine lv_iconst (v := (0 : Int32)) hx hb dX12_evenBy_59 (by decide) ?_
        exact w_X12_evenBy_L60 C0 hr hlk (fun w hx0 hl h => ih w hx0 hl h) w hx0 (lv_sub hl [1, 2, 3, 4, 5, 0] rfl) h
      · replace h := h.2 hc
        clear hc
        refine lv_iconst (v := (1 : Int32)) hx hb dX12_evenBy_55 (by decide) ?_
        refine lv_goto (tgt := 60) hx hb dX12_evenBy_56 (by decide) ?_
        exact w_X12_evenBy_L60 C0 hr hlk (fun w hx0 hl h => ih w hx0 hl h) w hx0 (lv_sub hl [1, 2, 3, 4, 5, 0] rfl) h
set_option maxHeartbeats 4000000 in
set_option maxRecDepth 100000 in
theorem c_X12_evenBy (hG : jG n K r) {i : jI} {j : jL} {x0 : Nat} {x1 : Int32} {x2 : Int32} (hx0 : x0 < n ∧ K x0 = 11) (h : J_X12_evenBy len r Q i j x0 x1 x2) : Met l yX12_evenBy wsX12_evenBy rm_X12_evenBy (va_Pc [.ref (b + x0), .int x1, .int x2] (jPre b cy D tU n K len r i j)) (jQi b cy D tU n K len r Q) 0 0 (jA b) := by
  refine Met.ofW (cc := cX12_evenBy) (maxL := 8) (ret := (some .int)) (by decide) rfl ?_
  intro p e s m args below meth c s₁ B hml hv
  obtain ⟨rfl, hv⟩ := hv
  have C0 : jCx p s m _ c cX12_evenBy 8 wsX12_evenBy RX12 b cy D tU n K r := ⟨B.exec, B.bytes, hml, findClass_of_methodNamed B.named, atoms_spec (ws := wsX12_evenBy) B.pre, hv.2.2, hG⟩
  have hr := B.returns
  have hlk := B.notSynchronized
  obtain ⟨hx, hb, hml, hown, hts, hst, hG⟩ := id C0
  have hiX12 : ∀ w ∈ u_ws RX12 TX12 51, w ∈ wsX12_evenBy := hiX12_X12_evenBy
  have w := jDy.start hv
  have hl := lv_entry ([.ref (b + x0), .int x1, .int x2]) (n := 8) (Nat.le_of_ble_eq_true rfl)
  rw [lg_entry_eq]
  generalize (lg_sl ([.ref (b + x0), .int x1, .int x2]) ++ List.replicate (8 - (lg_sl ([.ref (b + x0), .int x1, .int x2])).length) Slot.unset).toArray = ls at hl ⊢
  replace hl : lv_has ls 8 [(0, .ref (b + x0)), (1, .int x1), (2, .int x2)] := hl
  show W p l e rm_X12_evenBy s m _ below meth c s.heap [] 0 0 _ (F0 m 0 ls [])
  rw [J_X12_evenBy] at h
  refine lv_iconst (v := (0 : Int32)) hx hb dX12_evenBy_0 (by decide) ?_
  refine lv_istore_n (lv' := [(3, .int (0 : Int32)), (0, .ref (b + x0)), (1, .int x1), (2, .int x2)]) hx hb dX12_evenBy_1 rfl hl (by decide) rfl (fun ls hl => ?_)
  refine lv_iconst (v := (0 : Int32)) hx hb dX12_evenBy_2 (by decide) ?_
  refine lv_istore (lv' := [(4, .int (0 : Int32)), (3, .int (0 : Int32)), (0, .ref (b + x0)), (1, .int x1), (2, .int x2)]) hx hb dX12_evenBy_3 hl (by decide) rfl (fun ls hl => ?_)
  obtain ⟨g0, h⟩ := h
  exact w_X12_evenBy_L5 C0 hr hlk g0 w hx0 (lv_sub hl [2, 3, 4, 1, 0] rfl) h
end S_X12_evenBy
section S_X12_size
def J_X12_size_L4 (len : Nat → Nat) (r : jR) (Q : Int32 → jI → jL → Prop) : Nat → jI → jL → Int32 → Int32 → Int32 → Prop
  | 0 => fun _ _ _ _ _ => False
  | g + 1 => fun i j x0 x1 x2 => (((10 : Int32) ≤ x2) → (Q x1 i j)) ∧ ((¬ (10 : Int32) ≤ x2) → (∀ v17 : Int32, v17 = x1 + ((x0 >>> (x2 &&& 31)) &&& (1 : Int32)) → (∀ v18 : Int32, v18 = x2 + (1 : Int32) → ((J_X12_size_L4 len r Q g) i j x0 v17 v18))))
def J_X12_size (len : Nat → Nat) (r : jR) (Q : Int32 → jI → jL → Prop) (i : jI) (j : jL) (x0 : Int32) : Prop := ∃ g0, J_X12_size_L4 len r Q g0 i j x0 (0 : Int32) (0 : Int32)
abbrev rm_X12_size : Room := { frames := 0, cells := 0, slots := 0, locals := 0 }
variable {p : Program} {l : Launch} {e : Env} {s : State} {m : MethodId} {args : Array Value} {below : List Frame} {meth : Method} {c : Code} {b tU n : Nat} {cy : Nat → ClassId} {D : va_G} {K len : Nat → Nat} {r : jR} {Q : Int32 → jI → jL → Prop}
set_option maxHeartbeats 4000000 in
set_option maxRecDepth 100000 in
theorem w_X12_size_L4 (C0 : jCx p s m args c cX12_size 3 wsX12_size RX12 b cy D tU n K r) (hr : meth.sig.returnType = some .int) (hlk : meth.locks = false) : ∀ (g : Nat) {H : Heap} {locs : List Loc} {ls : Array Slot} {i : jI} {j : jL} {x0 : Int32} {x1 : Int32} {x2 : Int32} (w : jDy b cy D n K len r i j s H locs) (hl : lv_has ls 3 [(0, .int x0), (1, .int x1), (2, .int x2)]) (h : J_X12_size_L4 len r Q g i j x0 x1 x2), W p l e rm_X12_size s m args below meth c H locs 0 0 (MQ below (jQi b cy D tU n K len r Q) args s 0 0 (jA b)) (F0 m 4 ls []) := by
  obtain ⟨hx, hb, hml, hown, hts, hst, hG⟩ := id C0
  intro g
  induction g with
  | zero => intro H locs ls i j x0 x1 x2 w hl h; exact False.elim h
  | succ g ih =>
    intro H locs ls i j x0 x1 x2 w hl h
    rw [J_X12_size_L4] at h
    refine lv_iload_n hx hb dX12_size_4 rfl (lv_at hl 2 rfl) ?_
    refine lv_bipush (v := (10 : Int32)) hx hb dX12_size_5 (by decide) ?_
    refine lv_icmp_ge (tgt := 24) hx hb dX12_size_7 (by decide) (fun hc => ?_) (fun hc => ?_)
    · replace h := h.1 hc
      clear hc
      refine lv_iload_n hx hb dX12_size_24 rfl (lv_at hl 1 rfl) ?_
      exact jret_i hx hb hr hlk hst w h dX12_size_25
    · replace h := h.2 hc
      clear hc
      refine lv_iload_n hx hb dX12_size_10 rfl (lv_at hl 1 rfl) ?_
      refine lv_iload_n hx hb dX12_size_11 rfl (lv_at hl 0 rfl) ?_
      refine lv_iload_n hx hb dX12_size_12 rfl (lv_at hl 2 rfl) ?_
      refine lv_ishr hx hb dX12_size_13 ?_
      refine lv_iconst (v := (1 : Int32)) hx hb dX12_size_14 (by decide) ?_
      refine lv_iand hx hb dX12_size_15 ?_
      refine lv_iadd hx hb dX12_size_16 ?_
      refine lv_topi (fun v17 he => ?_)
      replace h := h v17 he
      clear he
      refine lv_istore_n (lv' := [(1, .int v17), (0, .int x0), (2, .int x2)]) hx hb dX12_size_17 rfl hl (by decide) rfl (fun ls hl => ?_)
      obtain ⟨v18, he⟩ : ∃ z : Int32, z = x2 + (1 : Int32) := ⟨_, rfl⟩
      replace h := h v18 he
      refine lv_iinc (v := v18) (lv' := [(2, .int v18), (1, .int v17), (0, .int x0)]) hx hb dX12_size_18 hl (k := 2) rfl (by rw [he]; rfl) (by decide) rfl (fun ls hl => ?_)
      clear he
      refine lv_goto (tgt := 4) hx hb dX12_size_21 (by decide) ?_
      exact ih w (lv_sub hl [2, 1, 0] rfl) h
set_option maxHeartbeats 4000000 in
set_option maxRecDepth 100000 in
theorem c_X12_size (hG : jG n K r) {i : jI} {j : jL} {x0 : Int32} (h : J_X12_size len r Q i j x0) : Met l yX12_size wsX12_size rm_X12_size (va_Pc [.int x0] (jPre b cy D tU n K len r i j)) (jQi b cy D tU n K len r Q) 0 0 (jA b) := by
  refine Met.ofW (cc := cX12_size) (maxL := 3) (ret := (some .int)) (by decide) rfl ?_
  intro p e s m args below meth c s₁ B hml hv
  obtain ⟨rfl, hv⟩ := hv
  have C0 : jCx p s m _ c cX12_size 3 wsX12_size RX12 b cy D tU n K r := ⟨B.exec, B.bytes, hml, findClass_of_methodNamed B.named, atoms_spec (ws := wsX12_size) B.pre, hv.2.2, hG⟩
  have hr := B.returns
  have hlk := B.notSynchronized
  obtain ⟨hx, hb, hml, hown, hts, hst, hG⟩ := id C0
  have w := jDy.start hv
  have hl := lv_entry ([.int x0]) (n := 3) (Nat.le_of_ble_eq_true rfl)
  rw [lg_entry_eq]
  generalize (lg_sl ([.int x0]) ++ List.replicate (3 - (lg_sl ([.int x0])).length) Slot.unset).toArray = ls at hl ⊢
  replace hl : lv_has ls 3 [(0, .int x0)] := hl
  show W p l e rm_X12_size s m _ below meth c s.heap [] 0 0 _ (F0 m 0 ls [])
  rw [J_X12_size] at h
  refine lv_iconst (v := (0 : Int32)) hx hb dX12_size_0 (by decide) ?_
  refine lv_istore_n (lv' := [(1, .int (0 : Int32)), (0, .int x0)]) hx hb dX12_size_1 rfl hl (by decide) rfl (fun ls hl => ?_)
  refine lv_iconst (v := (0 : Int32)) hx hb dX12_size_2 (by decide) ?_
  refine lv_istore_n (lv' := [(2, .int (0 : Int32)), (1, .int (0 : Int32)), (0, .int x0)]) hx hb dX12_size_3 rfl hl (by decide) rfl (fun ls hl => ?_)
  obtain ⟨g0, h⟩ := h
  exact w_X12_size_L4 C0 hr hlk g0 w (lv_sub hl [2, 1, 0] rfl) h
end S_X12_size
section S_X12_evenNow
def J_X12_evenNow_L88 (len : Nat → Nat) (r : jR) (Q : Int32 → jI → jL → Prop) (i : jI) (j : jL) (x3 : Int32) : Prop := Q x3 i j
def J_X12_evenNow_L72 (len : Nat → Nat) (r : jR) (Q : Int32 → jI → jL → Prop) (Hd5 : jI → jL → Nat → Int32 → Int32 → Int32 → Int32 → Prop) (i : jI) (j : jL) (x0 : Nat) (x1 : Int32) (x2 : Int32) (x3 : Int32) (x4 : Int32) : Prop := ∀ v72 : Int32, v72 = x4 + (1 : Int32) → (Hd5 i j x0 x1 x2 x3 v72)
def J_X12_evenNow_L71 (len : Nat → Nat) (r : jR) (Q : Int32 → jI → jL → Prop) (Hd5 : jI → jL → Nat → Int32 → Int32 → Int32 → Int32 → Prop) (i : jI) (j : jL) (x0 : Nat) (x1 : Int32) (x2 : Int32) (x4 : Int32) (t0 : Int32) : Prop := J_X12_evenNow_L72 len r Q Hd5 i j x0 x1 x2 t0 x4
def J_X12_evenNow_L65 (len : Nat → Nat) (r : jR) (Q : Int32 → jI → jL → Prop) (Hd5 : jI → jL → Nat → Int32 → Int32 → Int32 → Int32 → Prop) (i : jI) (j : jL) (x0 : Nat) (x1 : Int32) (x2 : Int32) (x4 : Int32) (x5 : Int32) : Prop := J_X12_evenNow_L71 len r Q Hd5 i j x0 x1 x2 x4 x5
def J_X12_evenNow_L70 (len : Nat → Nat) (r : jR) (Q : Int32 → jI → jL → Prop) (Hd5 : jI → jL → Nat → Int32 → Int32 → Int32 → Int32 → Prop) (i : jI) (j : jL) (x0 : Nat) (x1 : Int32) (x2 : Int32) (x3 : Int32) (x4 : Int32) : Prop := J_X12_evenNow_L71 len r Q Hd5 i j x0 x1 x2 x4 x3
def J_X12_evenNow_L47 (len : Nat → Nat) (r : jR) (Q : Int32 → jI → jL → Prop) (Hd5 : jI → jL → Nat → Int32 → Int32 → Int32 → Int32 → Prop) (i : jI) (j : jL) (x0 : Nat) (x1 : Int32) (x2 : Int32) (x3 : Int32) (x4 : Int32) (x5 : Int32) (t0 : Int32) : Prop := ((0 < t0) → (J_X12_evenNow_L65 len r Q Hd5 i j x0 x1 x2 x4 x5)) ∧ ((¬ 0 < t0) → (((¬ t0 = 0) → (J_X12_evenNow_L70 len r Q Hd5 i j x0 x1 x2 x3 x4)) ∧ ((t0 = 0) → (((x3 ≤ x5) → (J_X12_evenNow_L70 len r Q Hd5 i j x0 x1 x2 x3 x4)) ∧ ((¬ x3 ≤ x5) → (J_X12_evenNow_L65 len r Q Hd5 i j x0 x1 x2 x4 x5))))))
def J_X12_evenNow_L5 (len : Nat → Nat) (r : jR) (Q : Int32 → jI → jL → Prop) : Nat → jI → jL → Nat → Int32 → Int32 → Int32 → Int32 → Prop
  | 0 => fun _ _ _ _ _ _ _ => False
  | g + 1 => fun i j x0 x1 x2 x3 x4 => (((128 : Int32) ≤ x4) → (((x3 = (-1 : Int32)) → (J_X12_evenNow_L88 len r Q i j x3)) ∧ ((¬ x3 = (-1 : Int32)) → (((¬ x2 = (1 : Int32)) → (J_X12_size len r (fun (q93 : Int32) (i93 : jI) (j93 : jL) => Q q93 i93 j93) i j x3)) ∧ ((x2 = (1 : Int32)) → (J_X12_evenNow_L88 len r Q i j x3)))))) ∧ ((¬ (128 : Int32) ≤ x4) → (J_X12_evenBy len r (fun (q17 : Int32) (i17 : jI) (j17 : jL) => ((q17 = (-1 : Int32)) → (J_X12_evenNow_L72 len r Q (J_X12_evenNow_L5 len r Q g) i17 j17 x0 x1 x2 x3 x4)) ∧ ((¬ q17 = (-1 : Int32)) → (((¬ x3 = (-1 : Int32)) → (J_X12_size len r (fun (q38 : Int32) (i38 : jI) (j38 : jL) => J_X12_size len r (fun (q43 : Int32) (i43 : jI) (j43 : jL) => J_X12_evenNow_L47 len r Q (J_X12_evenNow_L5 len r Q g) i43 j43 x0 x1 x2 x3 x4 q17 (q38 - q43)) i38 j38 q17) i17 j17 x3)) ∧ ((x3 = (-1 : Int32)) → (J_X12_evenNow_L47 len r Q (J_X12_evenNow_L5 len r Q g) i17 j17 x0 x1 x2 x3 x4 q17 (1 : Int32)))))) i j x0 x1 x4))
def J_X12_evenNow (len : Nat → Nat) (r : jR) (Q : Int32 → jI → jL → Prop) (i : jI) (j : jL) (x0 : Nat) (x1 : Int32) (x2 : Int32) : Prop := ∃ g0, J_X12_evenNow_L5 len r Q g0 i j x0 x1 x2 (-1 : Int32) (0 : Int32)
abbrev rm_X12_evenNow : Room := { frames := 2, cells := 0, slots := 0, locals := 48 }
variable {p : Program} {l : Launch} {e : Env} {s : State} {m : MethodId} {args : Array Value} {below : List Frame} {meth : Method} {c : Code} {b tU n : Nat} {cy : Nat → ClassId} {D : va_G} {K len : Nat → Nat} {r : jR} {Q : Int32 → jI → jL → Prop}
set_option maxHeartbeats 4000000 in
set_option maxRecDepth 100000 in
theorem w_X12_evenNow_L88 (C0 : jCx p s m args c cX12_evenNow 7 wsX12_evenNow RX12 b cy D tU n K r) (hr : meth.sig.returnType = some .int) (hlk : meth.locks = false) {H : Heap} {locs : List Loc} {ls : Array Slot} {i : jI} {j : jL} {x3 : Int32} (w : jDy b cy D n K len r i j s H locs) (hl : lv_has ls 7 [(3, .int x3)]) (h : J_X12_evenNow_L88 len r Q i j x3) : W p l e rm_X12_evenNow s m args below meth c H locs 0 0 (MQ below (jQi b cy D tU n K len r Q) args s 0 0 (jA b)) (F0 m 88 ls []) := by
  obtain ⟨hx, hb, hml, hown, hts, hst, hG⟩ := id C0
  rw [J_X12_evenNow_L88] at h
  refine lv_iload_n hx hb dX12_evenNow_88 rfl (lv_at hl 0 rfl) ?_
  refine lv_goto (tgt := 96) hx hb dX12_evenNow_89 (by decide) ?_
  exact jret_i hx hb hr hlk hst w h dX12_evenNow_96
set_option maxHeartbeats 4000000 in
set_option maxRecDepth 100000 in
theorem w_X12_evenNow_L72 (C0 : jCx p s m args c cX12_evenNow 7 wsX12_evenNow RX12 b cy D tU n K r) (hr : meth.sig.returnType = some .int) (hlk : meth.locks = false) {Hd5 : jI → jL → Nat → Int32 → Int32 → Int32 → Int32 → Prop} (k5 : ∀ {H : Heap} {locs : List Loc} {ls : Array Slot} {i : jI} {j : jL} {x0 : Nat} {x1 : Int32} {x2 : Int32} {x3 : Int32} {x4 : Int32} (w : jDy b cy D n K len r i j s H locs) (hx0 : x0 < n ∧ K x0 = 11) (hl : lv_has ls 7 [(0, .ref (b + x0)), (1, .int x1), (2, .int x2), (3, .int x3), (4, .int x4)]) (h : Hd5 i j x0 x1 x2 x3 x4), W p l e rm_X12_evenNow s m args below meth c H locs 0 0 (MQ below (jQi b cy D tU n K len r Q) args s 0 0 (jA b)) (F0 m 5 ls [])) {H : Heap} {locs : List Loc} {ls : Array Slot} {i : jI} {j : jL} {x0 : Nat} {x1 : Int32} {x2 : Int32} {x3 : Int32} {x4 : Int32} (w : jDy b cy D n K len r i j s H locs) (hx0 : x0 < n ∧ K x0 = 11) (hl : lv_has ls 7 [(0, .ref (b + x0)), (1, .int x1), (2, .int x2), (3, .int x3), (4, .int x4)]) (h : J_X12_evenNow_L72 len r Q Hd5 i j x0 x1 x2 x3 x4) : W p l e rm_X12_evenNow s m args below meth c H locs 0 0 (MQ below (jQi b cy D tU n K len r Q) args s 0 0 (jA b)) (F0 m 72 ls []) := by
  obtain ⟨hx, hb, hml, hown, hts, hst, hG⟩ := id C0
  rw [J_X12_evenNow_L72] at h
  obtain ⟨v72, he⟩ : ∃ z : Int32, z = x4 + (1 : Int32) := ⟨_, rfl⟩
  replace h := h v72 he
  refine lv_iinc (v := v72) (lv' := [(4, .int v72), (0, .ref (b + x0)), (1, .int x1), (2, .int x2), (3, .int x3)]) hx hb dX12_evenNow_72 hl (k := 4) rfl (by rw [he]; rfl) (by decide) rfl (fun ls hl => ?_)
  clear he
  refine lv_goto (tgt := 5) hx hb dX12_evenNow_75 (by decide) ?_
  exact k5 w hx0 (lv_sub hl [1, 2, 3, 4, 0] rfl) h
set_option maxHeartbeats 4000000 in
set_option maxRecDepth 100000 in
theorem w_X12_evenNow_L71 (C0 : jCx p s m args c cX12_evenNow 7 wsX12_evenNow RX12 b cy D tU n K r) (hr : meth.sig.returnType = some .int) (hlk : meth.locks = false) {Hd5 : jI → jL → Nat → Int32 → Int32 → Int32 → Int32 → Prop} (k5 : ∀ {H : Heap} {locs : List Loc} {ls : Array Slot} {i : jI} {j : jL} {x0 : Nat} {x1 : Int32} {x2 : Int32} {x3 : Int32} {x4 : Int32} (w : jDy b cy D n K len r i j s H locs) (hx0 : x0 < n ∧ K x0 = 11) (hl : lv_has ls 7 [(0, .ref (b + x0)), (1, .int x1), (2, .int x2), (3, .int x3), (4, .int x4)]) (h : Hd5 i j x0 x1 x2 x3 x4), W p l e rm_X12_evenNow s m args below meth c H locs 0 0 (MQ below (jQi b cy D tU n K len r Q) args s 0 0 (jA b)) (F0 m 5 ls [])) {H : Heap} {locs : List Loc} {ls : Array Slot} {i : jI} {j : jL} {x0 : Nat} {x1 : Int32} {x2 : Int32} {x4 : Int32} {t0 : Int32} (w : jDy b cy D n K len r i j s H locs) (hx0 : x0 < n ∧ K x0 = 11) (hl : lv_has ls 7 [(0, .ref (b + x0)), (1, .int x1), (2, .int x2), (4, .int x4)]) (h : J_X12_evenNow_L71 len r Q Hd5 i j x0 x1 x2 x4 t0) : W p l e rm_X12_evenNow s m args below meth c H locs 0 0 (MQ below (jQi b cy D tU n K len r Q) args s 0 0 (jA b)) (F0 m 71 ls [.int t0]) := by
  obtain ⟨hx, hb, hml, hown, hts, hst, hG⟩ := id C0
  rw [J_X12_evenNow_L71] at h
  refine lv_istore_n (lv' := [(3, .int t0), (0, .ref (b + x0)), (1, .int x1), (2, .int x2), (4, .int x4)]) hx hb dX12_evenNow_71 rfl hl (by decide) rfl (fun ls hl => ?_)
  exact w_X12_evenNow_L72 C0 hr hlk (fun w hx0 hl h => k5 w hx0 hl h) w hx0 (lv_sub hl [1, 2, 3, 0, 4] rfl) h
set_option maxHeartbeats 4000000 in
set_option maxRecDepth 100000 in
theorem w_X12_evenNow_L65 (C0 : jCx p s m args c cX12_evenNow 7 wsX12_evenNow RX12 b cy D tU n K r) (hr : meth.sig.returnType = some .int) (hlk : meth.locks = false) {Hd5 : jI → jL → Nat → Int32 → Int32 → Int32 → Int32 → Prop} (k5 : ∀ {H : Heap} {locs : List Loc} {ls : Array Slot} {i : jI} {j : jL} {x0 : Nat} {x1 : Int32} {x2 : Int32} {x3 : Int32} {x4 : Int32} (w : jDy b cy D n K len r i j s H locs) (hx0 : x0 < n ∧ K x0 = 11) (hl : lv_has ls 7 [(0, .ref (b + x0)), (1, .int x1), (2, .int x2), (3, .int x3), (4, .int x4)]) (h : Hd5 i j x0 x1 x2 x3 x4), W p l e rm_X12_evenNow s m args below meth c H locs 0 0 (MQ below (jQi b cy D tU n K len r Q) args s 0 0 (jA b)) (F0 m 5 ls [])) {H : Heap} {locs : List Loc} {ls : Array Slot} {i : jI} {j : jL} {x0 : Nat} {x1 : Int32} {x2 : Int32} {x4 : Int32} {x5 : Int32} (w : jDy b cy D n K len r i j s H locs) (hx0 : x0 < n ∧ K x0 = 11) (hl : lv_has ls 7 [(0, .ref (b + x0)), (1, .int x1), (2, .int x2), (4, .int x4), (5, .int x5)]) (h : J_X12_evenNow_L65 len r Q Hd5 i j x0 x1 x2 x4 x5) : W p l e rm_X12_evenNow s m args below meth c H locs 0 0 (MQ below (jQi b cy D tU n K len r Q) args s 0 0 (jA b)) (F0 m 65 ls []) := by
  obtain ⟨hx, hb, hml, hown, hts, hst, hG⟩ := id C0
  rw [J_X12_evenNow_L65] at h
  refine lv_iload hx hb dX12_evenNow_65 (lv_at hl 4 rfl) ?_
  refine lv_goto (tgt := 71) hx hb dX12_evenNow_67 (by decide) ?_
  exact w_X12_evenNow_L71 C0 hr hlk (fun w hx0 hl h => k5 w hx0 hl h) w hx0 (lv_sub hl [0, 1, 2, 3] rfl) h
set_option maxHeartbeats 4000000 in
set_option maxRecDepth 100000 in
theorem w_X12_evenNow_L70 (C0 : jCx p s m args c cX12_evenNow 7 wsX12_evenNow RX12 b cy D tU n K r) (hr : meth.sig.returnType = some .int) (hlk : meth.locks = false) {Hd5 : jI → jL → Nat → Int32 → Int32 → Int32 → Int32 → Prop} (k5 : ∀ {H : Heap} {locs : List Loc} {ls : Array Slot} {i : jI} {j : jL} {x0 : Nat} {x1 : Int32} {x2 : Int32} {x3 : Int32} {x4 : Int32} (w : jDy b cy D n K len r i j s H locs) (hx0 : x0 < n ∧ K x0 = 11) (hl : lv_has ls 7 [(0, .ref (b + x0)), (1, .int x1), (2, .int x2), (3, .int x3), (4, .int x4)]) (h : Hd5 i j x0 x1 x2 x3 x4), W p l e rm_X12_evenNow s m args below meth c H locs 0 0 (MQ below (jQi b cy D tU n K len r Q) args s 0 0 (jA b)) (F0 m 5 ls [])) {H : Heap} {locs : List Loc} {ls : Array Slot} {i : jI} {j : jL} {x0 : Nat} {x1 : Int32} {x2 : Int32} {x3 : Int32} {x4 : Int32} (w : jDy b cy D n K len r i j s H locs) (hx0 : x0 < n ∧ K x0 = 11) (hl : lv_has ls 7 [(0, .ref (b + x0)), (1, .int x1), (2, .int x2), (3, .int x3), (4, .int x4)]) (h : J_X12_evenNow_L70 len r Q Hd5 i j x0 x1 x2 x3 x4) : W p l e rm_X12_evenNow s m args below meth c H locs 0 0 (MQ below (jQi b cy D tU n K len r Q) args s 0 0 (jA b)) (F0 m 70 ls []) := by
  obtain ⟨hx, hb, hml, hown, hts, hst, hG⟩ := id C0
  rw [J_X12_evenNow_L70] at h
  refine lv_iload_n hx hb dX12_evenNow_70 rfl (lv_at hl 3 rfl) ?_
  exact w_X12_evenNow_L71 C0 hr hlk (fun w hx0 hl h => k5 w hx0 hl h) w hx0 (lv_sub hl [0, 1, 2, 4] rfl) h
set_option maxHeartbeats 4000000 in
set_option maxRecDepth 100000 in
theorem w_X12_evenNow_L47 (C0 : jCx p s m args c cX12_evenNow 7 wsX12_evenNow RX12 b cy D tU n K r) (hr : meth.sig.returnType = some .int) (hlk : meth.locks = false) {Hd5 : jI → jL → Nat → Int32 → Int32 → Int32 → Int32 → Prop} (k5 : ∀ {H : Heap} {locs : List Loc} {ls : Array Slot} {i : jI} {j : jL} {x0 : Nat} {x1 : Int32} {x2 : Int32} {x3 : Int32} {x4 : Int32} (w : jDy b cy D n K len r i j s H locs) (hx0 : x0 < n ∧ K x0 = 11) (hl : lv_has ls 7 [(0, .ref (b + x0)), (1, .int x1), (2, .int x2), (3, .int x3), (4, .int x4)]) (h : Hd5 i j x0 x1 x2 x3 x4), W p l e rm_X12_evenNow s m args below meth c H locs 0 0 (MQ below (jQi b cy D tU n K len r Q) args s 0 0 (jA b)) (F0 m 5 ls [])) {H : Heap} {locs : List Loc} {ls : Array Slot} {i : jI} {j : jL} {x0 : Nat} {x1 : Int32} {x2 : Int32} {x3 : Int32} {x4 : Int32} {x5 : Int32} {t0 : Int32} (w : jDy b cy D n K len r i j s H locs) (hx0 : x0 < n ∧ K x0 = 11) (hl : lv_has ls 7 [(0, .ref (b + x0)), (1, .int x1), (2, .int x2), (3, .int x3), (4, .int x4), (5, .int x5)]) (h : J_X12_evenNow_L47 len r Q Hd5 i j x0 x1 x2 x3 x4 x5 t0) : W p l e rm_X12_evenNow s m args below meth c H locs 0 0 (MQ below (jQi b cy D tU n K len r Q) args s 0 0 (jA b)) (F0 m 47 ls [.int t0]) := by
  obtain ⟨hx, hb, hml, hown, hts, hst, hG⟩ := id C0
  rw [J_X12_evenNow_L47] at h
  refine lv_istore (lv' := [(6, .int t0), (0, .ref (b + x0)), (1, .int x1), (2, .int x2), (3, .int x3), (4, .int x4), (5, .int x5)]) hx hb dX12_evenNow_47 hl (by decide) rfl (fun ls hl => ?_)
  refine lv_iload hx hb dX12_evenNow_49 (lv_at hl 0 rfl) ?_
  refine lv_if_gt (tgt := 65) hx hb dX12_evenNow_51 (by decide) (fun hc => ?_) (fun hc => ?_)
  · replace h := h.1 hc
    clear hc
    exact w_X12_evenNow_L65 C0 hr hlk (fun w hx0 hl h => k5 w hx0 hl h) w hx0 (lv_sub hl [1, 2, 3, 5, 6] rfl) h
  · replace h := h.2 hc
    clear hc
    refine lv_iload hx hb dX12_evenNow_54 (lv_at hl 0 rfl) ?_
    refine lv_if_ne (tgt := 70) hx hb dX12_evenNow_56 (by decide) (fun hc => ?_) (fun hc => ?_)
    · replace h := h.1 hc
      clear hc
      exact w_X12_evenNow_L70 C0 hr hlk (fun w hx0 hl h => k5 w hx0 hl h) w hx0 (lv_sub hl [1, 2, 3, 4, 5] rfl) h
    · replace h := h.2 hc
      clear hc
      refine lv_iload hx hb dX12_evenNow_59 (lv_at hl 6 rfl) ?_
      refine lv_iload_n hx hb dX12_evenNow_61 rfl (lv_at hl 4 rfl) ?_
      refine lv_icmp_ge (tgt := 70) hx hb dX12_evenNow_62 (by decide) (fun hc => ?_) (fun hc => ?_)
      · replace h := h.1 hc
        clear hc
        exact w_X12_evenNow_L70 C0 hr hlk (fun w hx0 hl h => k5 w hx0 hl h) w hx0 (lv_sub hl [1, 2, 3, 4, 5] rfl) h
      · replace h := h.2 hc
        clear hc
        exact w_X12_evenNow_L65 C0 hr hlk (fun w hx0 hl h => k5 w hx0 hl h) w hx0 (lv_sub hl [1, 2, 3, 5, 6] rfl) h
set_option maxHeartbeats 4000000 in
set_option maxRecDepth 100000 in
theorem w_X12_evenNow_L5 (C0 : jCx p s m args c cX12_evenNow 7 wsX12_evenNow RX12 b cy D tU n K r) (hr : meth.sig.returnType = some .int) (hlk : meth.locks = false) : ∀ (g : Nat) {H : Heap} {locs : List Loc} {ls : Array Slot} {i : jI} {j : jL} {x0 : Nat} {x1 : Int32} {x2 : Int32} {x3 : Int32} {x4 : Int32} (w : jDy b cy D n K len r i j s H locs) (hx0 : x0 < n ∧ K x0 = 11) (hl : lv_has ls 7 [(0, .ref (b + x0)), (1, .int x1), (2, .int x2), (3, .int x3), (4, .int x4)]) (h : J_X12_evenNow_L5 len r Q g i j x0 x1 x2 x3 x4), W p l e rm_X12_evenNow s m args below meth c H locs 0 0 (MQ below (jQi b cy D tU n K len r Q) args s 0 0 (jA b)) (F0 m 5 ls []) := by
  obtain ⟨hx, hb, hml, hown, hts, hst, hG⟩ := id C0
  intro g
  induction g with
  | zero => intro H locs ls i j x0 x1 x2 x3 x4 w hx0 hl h; exact False.elim h
  | succ g ih =>
    intro H locs ls i j x0 x1 x2 x3 x4 w hx0 hl h
    rw [J_X12_evenNow_L5] at h
    refine lv_iload hx hb dX12_evenNow_5 (lv_at hl 4 rfl) ?_
    refine lv_sipush (v := (128 : Int32)) hx hb dX12_evenNow_7 (by decide) ?_
    refine lv_icmp_ge (tgt := 78) hx hb dX12_evenNow_10 (by decide) (fun hc => ?_) (fun hc => ?_)
    · replace h := h.1 hc
      clear hc
      refine lv_iload_n hx hb dX12_evenNow_78 rfl (lv_at hl 3 rfl) ?_
      refine lv_iconst (v := (-1 : Int32)) hx hb dX12_evenNow_79 (by decide) ?_
      refine lv_icmp_eq (tgt := 88) hx hb dX12_evenNow_80 (by decide) (fun hc => ?_) (fun hc => ?_)
      · replace h := h.1 hc
        clear hc
        exact w_X12_evenNow_L88 C0 hr hlk w (lv_sub hl [3] rfl) h
      · replace h := h.2 hc
        clear hc
        refine lv_iload_n hx hb dX12_evenNow_83 rfl (lv_at hl 2 rfl) ?_
        refine lv_iconst (v := (1 : Int32)) hx hb dX12_evenNow_84 (by decide) ?_
        refine lv_icmp_ne (tgt := 92) hx hb dX12_evenNow_85 (by decide) (fun hc => ?_) (fun hc => ?_)
        · replace h := h.1 hc
          clear hc
          refine lv_iload_n hx hb dX12_evenNow_92 rfl (lv_at hl 3 rfl) ?_
          refine jcS_i (As := [.int x3]) (rest := []) C0 w (c_X12_size hG h) (va_cwS 1 hts gX12_evenNow_X12_size rfl rfl rfl (by decide +kernel) ⟨Nat.le_of_ble_eq_true rfl, Nat.le_of_ble_eq_true rfl⟩) rfl hl.1 rfl (Nat.le_of_ble_eq_true rfl) dX12_evenNow_93 (fun q93 i93 j93 H locs h w => ?_) ⟨Nat.zero_le _, Nat.zero_le _⟩
          exact jret_i hx hb hr hlk hst w h dX12_evenNow_96
        · replace h := h.2 hc
          clear hc
          exact w_X12_evenNow_L88 C0 hr hlk w (lv_sub hl [3] rfl) h
    · replace h := h.2 hc
      clear hc
      refine lv_aload_n hx hb dX12_evenNow_13 rfl (lv_at hl 0 rfl) ?_
      refine lv_iload_n hx hb dX12_evenNow_14 rfl (lv_at hl 1 rfl) ?_
      refine lv_iload hx hb dX12_evenNow_15 (lv_at hl 4 rfl) ?_
      refine jcV_i (k := x0) (As := [.int x1, .int x4]) (rest := []) C0 w (c_X12_evenBy hG hx0 h) (cwV 2 hts gX12_evenNow_X12_evenBy rfl rfl rfl (by decide +kernel) ⟨Nat.le_of_ble_eq_true rfl, Nat.le_of_ble_eq_true rfl⟩) hx0 (rfl : vwCl[11]? = some (RX12, TX12, 51)) (by decide) rfl hl.1 rfl (Nat.le_of_ble_eq_true rfl) dX12_evenNow_17 (fun q17 i17 j17 H locs h w => ?_) ⟨Nat.zero_le _, Nat.zero_le _⟩
      refine lv_istore (lv' := [(5, .int q17), (0, .ref (b + x0)), (1, .int x1), (2, .int x2), (3, .int x3), (4, .int x4)]) hx hb dX12_evenNow_20 hl (by decide) rfl (fun ls hl => ?_)
      refine lv_iload hx hb dX12_evenNow_22 (lv_at hl 0 rfl) ?_
      refine lv_iconst (v := (-1 : Int32)) hx hb dX12_evenNow_24 (by decide) ?_
      refine lv_icmp_eq (tgt := 72) hx hb dX12_evenNow_25 (by decide) (fun hc => ?_) (fun hc => ?_)
      · replace h := h.1 hc
        clear hc
        exact w_X12_evenNow_L72 C0 hr hlk (fun w hx0 hl h => ih w hx0 hl h) w hx0 (lv_sub hl [1, 2, 3, 4, 5] rfl) h
      · replace h := h.2 hc
        clear hc
        refine lv_iload_n hx hb dX12_evenNow_28 rfl (lv_at hl 4 rfl) ?_
        refine lv_iconst (v := (-1 : Int32)) hx hb dX12_evenNow_29 (by decide) ?_
        refine lv_icmp_ne (tgt := 37) hx hb dX12_evenNow_30 (by decide) (fun hc => ?_) (fun hc => ?_)
        · replace h := h.1 hc
          clear hc
          refine lv_iload_n hx hb dX12_evenNow_37 rfl (lv_at hl 4 rfl) ?_
          refine jcS_i (As := [.int x3]) (rest := []) C0 w (c_X12_size hG h) (va_cwS 1 hts gX12_evenNow_X12_size rfl rfl rfl (by decide +kernel) ⟨Nat.le_of_ble_eq_true rfl, Nat.le_of_ble_eq_true rfl⟩) rfl hl.1 rfl (Nat.le_of_ble_eq_true rfl) dX12_evenNow_38 (fun q38 i38 j38 H locs h w => ?_) ⟨Nat.zero_le _, Nat.zero_le _⟩
          refine lv_iload hx hb dX12_evenNow_41 (lv_at hl 0 rfl) ?_
          refine jcS_i (As := [.int q17]) (rest := [.int q38]) C0 w (c_X12_size hG h) (va_cwS 1 hts gX12_evenNow_X12_size rfl rfl rfl (by decide +kernel) ⟨Nat.le_of_ble_eq_true rfl, Nat.le_of_ble_eq_true rfl⟩) rfl hl.1 rfl (Nat.le_of_ble_eq_true rfl) dX12_evenNow_43 (fun q43 i43 j43 H locs h w => ?_) ⟨Nat.zero_le _, Nat.zero_le _⟩
          refine lv_isub hx hb dX12_evenNow_46 ?_
          exact w_X12_evenNow_L47 C0 hr hlk (fun w hx0 hl h => ih w hx0 hl h) w hx0 (lv_sub hl [1, 2, 3, 4, 5, 0] rfl) h
        · replace h := h.2 hc
          clear hc
          refine lv_iconst (v := (1 : Int32)) hx hb dX12_evenNow_33 (by decide) ?_
          refine lv_goto (tgt := 47) hx hb dX12_evenNow_34 (by decide) ?_
          exact w_X12_evenNow_L47 C0 hr hlk (fun w hx0 hl h => ih w hx0 hl h) w hx0 (lv_sub hl [1, 2, 3, 4, 5, 0] rfl) h
set_option maxHeartbeats 4000000 in
set_option maxRecDepth 100000 in
theorem c_X12_evenNow (hG : jG n K r) {i : jI} {j : jL} {x0 : Nat} {x1 : Int32} {x2 : Int32} (hx0 : x0 < n ∧ K x0 = 11) (h : J_X12_evenNow len r Q i j x0 x1 x2) : Met l yX12_evenNow wsX12_evenNow rm_X12_evenNow (va_Pc [.ref (b + x0), .int x1, .int x2] (jPre b cy D tU n K len r i j)) (jQi b cy D tU n K len r Q) 0 0 (jA b) := by
  refine Met.ofW (cc := cX12_evenNow) (maxL := 7) (ret := (some .int)) (by decide) rfl ?_
  intro p e s m args below meth c s₁ B hml hv
  obtain ⟨rfl, hv⟩ := hv
  have C0 : jCx p s m _ c cX12_evenNow 7 wsX12_evenNow RX12 b cy D tU n K r := ⟨B.exec, B.bytes, hml, findClass_of_methodNamed B.named, atoms_spec (ws := wsX12_evenNow) B.pre, hv.2.2, hG⟩
  have hr := B.returns
  have hlk := B.notSynchronized
  obtain ⟨hx, hb, hml, hown, hts, hst, hG⟩ := id C0
  have w := jDy.start hv
  have hl := lv_entry ([.ref (b + x0), .int x1, .int x2]) (n := 7) (Nat.le_of_ble_eq_true rfl)
  rw [lg_entry_eq]
  generalize (lg_sl ([.ref (b + x0), .int x1, .int x2]) ++ List.replicate (7 - (lg_sl ([.ref (b + x0), .int x1, .int x2])).length) Slot.unset).toArray = ls at hl ⊢
  replace hl : lv_has ls 7 [(0, .ref (b + x0)), (1, .int x1), (2, .int x2)] := hl
  show W p l e rm_X12_evenNow s m _ below meth c s.heap [] 0 0 _ (F0 m 0 ls [])
  rw [J_X12_evenNow] at h
  refine lv_iconst (v := (-1 : Int32)) hx hb dX12_evenNow_0 (by decide) ?_
  refine lv_istore_n (lv' := [(3, .int (-1 : Int32)), (0, .ref (b + x0)), (1, .int x1), (2, .int x2)]) hx hb dX12_evenNow_1 rfl hl (by decide) rfl (fun ls hl => ?_)
  refine lv_iconst (v := (0 : Int32)) hx hb dX12_evenNow_2 (by decide) ?_
  refine lv_istore (lv' := [(4, .int (0 : Int32)), (3, .int (-1 : Int32)), (0, .ref (b + x0)), (1, .int x1), (2, .int x2)]) hx hb dX12_evenNow_3 hl (by decide) rfl (fun ls hl => ?_)
  obtain ⟨g0, h⟩ := h
  exact w_X12_evenNow_L5 C0 hr hlk g0 w hx0 (lv_sub hl [2, 3, 4, 1, 0] rfl) h
end S_X12_evenNow
section S_X12_mix
def J_X12_mix (len : Nat → Nat) (r : jR) (Q : jI → jL → Prop) (i : jI) (j : jL) (x0 : Nat) (x1 : Int64) : Prop := ∀ j11 : jL, j11 = jul j x0 50 (((31 : Int64) * (j x0 50)) + x1) → (Q i j11)
abbrev rm_X12_mix : Room := { frames := 0, cells := 0, slots := 0, locals := 0 }
variable {p : Program} {l : Launch} {e : Env} {s : State} {m : MethodId} {args : Array Value} {below : List Frame} {meth : Method} {c : Code} {b tU n : Nat} {cy : Nat → ClassId} {D : va_G} {K len : Nat → Nat} {r : jR} {Q : jI → jL → Prop}
theorem hiX12_X12_mix : ∀ w ∈ u_ws RX12 TX12 51, w ∈ wsX12_mix := by decide +kernel
set_option maxHeartbeats 4000000 in
set_option maxRecDepth 100000 in
theorem c_X12_mix (hG : jG n K r) {i : jI} {j : jL} {x0 : Nat} {x1 : Int64} (hx0 : x0 < n ∧ K x0 = 11) (h : J_X12_mix len r Q i j x0 x1) : Met l yX12_mix wsX12_mix rm_X12_mix (va_Pc [.ref (b + x0), .long x1] (jPre b cy D tU n K len r i j)) (jQv b cy D tU n K len r Q) 0 0 (jA b) := by
  refine Met.ofW (cc := cX12_mix) (maxL := 3) (ret := none) (by decide) rfl ?_
  intro p e s m args below meth c s₁ B hml hv
  obtain ⟨rfl, hv⟩ := hv
  have C0 : jCx p s m _ c cX12_mix 3 wsX12_mix RX12 b cy D tU n K r := ⟨B.exec, B.bytes, hml, findClass_of_methodNamed B.named, atoms_spec (ws := wsX12_mix) B.pre, hv.2.2, hG⟩
  have hr := B.returns
  have hlk := B.notSynchronized
  obtain ⟨hx, hb, hml, hown, hts, hst, hG⟩ := id C0
  have hiX12 : ∀ w ∈ u_ws RX12 TX12 51, w ∈ wsX12_mix := hiX12_X12_mix
  have w := jDy.start hv
  have hl := lv_entry ([.ref (b + x0), .long x1]) (n := 3) (Nat.le_of_ble_eq_true rfl)
  rw [lg_entry_eq]
  generalize (lg_sl ([.ref (b + x0), .long x1]) ++ List.replicate (3 - (lg_sl ([.ref (b + x0), .long x1])).length) Slot.unset).toArray = ls at hl ⊢
  replace hl : lv_has ls 3 [(0, .ref (b + x0)), (1, .long x1)] := hl
  show W p l e rm_X12_mix s m _ below meth c s.heap [] 0 0 _ (F0 m 0 ls [])
  rw [J_X12_mix] at h
  refine lv_aload_n hx hb dX12_mix_0 rfl (lv_at hl 0 rfl) ?_
  refine lv_ldc2 hx hb hown (hts (.constantLong RX12 310 (31)) (by decide +kernel)) dX12_mix_1 ?_
  refine lv_aload_n hx hb dX12_mix_4 rfl (lv_at hl 0 rfl) ?_
  refine jgl (f := 50) hx hb hts hown hst w hx0 hiX12 (rfl : vwCl[11]? = some (RX12, TX12, 51)) (hts (.fieldLink RX12 312 "FootByGateModel" "h" "J") (by decide +kernel)) ⟨by decide, by decide, rfl⟩ dX12_mix_5 ?_
  refine lv_lmul hx hb dX12_mix_8 ?_
  refine lv_lload_n hx hb dX12_mix_9 rfl (lv_at hl 1 rfl) ?_
  refine lv_ladd hx hb dX12_mix_10 ?_
  refine jpl (f := 50) hx hb hts hown hst w hx0 hiX12 (rfl : vwCl[11]? = some (RX12, TX12, 51)) (hts (.fieldLink RX12 312 "FootByGateModel" "h" "J") (by decide +kernel)) ⟨by decide, by decide, rfl⟩ tyX12 tyX12_ok nmX12 rfl ⟨rfl, rfl⟩ dX12_mix_11 (fun j11 H locs he w => ?_)
  replace h := h j11 he
  clear he
  exact jret_v hx hb hr hlk hst w h dX12_mix_14
end S_X12_mix
section S_X12_fewestNow
def J_X12_fewestNow_L35 (len : Nat → Nat) (r : jR) (Q : Int32 → jI → jL → Prop) (i : jI) (j : jL) (x4 : Int32) : Prop := ((¬ x4 = (268435456 : Int32)) → (Q x4 i j)) ∧ ((x4 = (268435456 : Int32)) → (Q (-1 : Int32) i j))
def J_X12_fewestNow_L149 (len : Nat → Nat) (r : jR) (Q : Int32 → jI → jL → Prop) (i : jI) (j : jL) : Prop := Q (-1 : Int32) i j
def J_X12_fewestNow_L143 (len : Nat → Nat) (r : jR) (Q : Int32 → jI → jL → Prop) (Hd52 : jI → jL → Nat → Int32 → Int32 → Int32 → Int32 → Prop) (i : jI) (j : jL) (x0 : Nat) (x1 : Int32) (x2 : Int32) (x4 : Int32) (x5 : Int32) : Prop := ∀ v143 : Int32, v143 = x5 + (1 : Int32) → (Hd52 i j x0 x1 x2 x4 v143)
def J_X12_fewestNow_L52 (len : Nat → Nat) (r : jR) (Q : Int32 → jI → jL → Prop) : Nat → jI → jL → Nat → Int32 → Int32 → Int32 → Int32 → Prop
  | 0 => fun _ _ _ _ _ _ _ => False
  | g + 1 => fun i j x0 x1 x2 x4 x5 => (((i x0 0) ≤ x5) → (J_X12_fewestNow_L149 len r Q i j )) ∧ ((¬ (i x0 0) ≤ x5) → (∃ a62, r x0 10 = some a62 ∧ (vp_in x1 (len a62) ∧ (J_X12_placeIn len r (fun (q67 : Int32) (i67 : jI) (j67 : jL) => ((q67 = x2) → (J_X12_fewestNow_L149 len r Q i67 j67 )) ∧ ((¬ q67 = x2) → (∃ a76, r x0 9 = some a76 ∧ (vp_in x1 (len a76) ∧ (∃ a82, r x0 10 = some a82 ∧ (vp_in x1 (len a82) ∧ (J_X12_behind len r (fun (q89 : Int32) (i89 : jI) (j89 : jL) => ((q89 = (-1 : Int32)) → (J_X12_fewestNow_L143 len r Q (J_X12_fewestNow_L52 len r Q g) i89 j89 x0 x1 x2 x4 x5)) ∧ ((¬ q89 = (-1 : Int32)) → (∃ a102, r x0 9 = some a102 ∧ (vp_in x1 (len a102) ∧ (J_X12_layCosts len r (fun (i110 : jI) (j110 : jL) => ∃ a114, r x0 9 = some a114 ∧ (vp_in x1 (len a114) ∧ (∃ a120, r x0 3 = some a120 ∧ (vp_in x5 (len a120) ∧ (J_X12_stepsBy len r (fun (q126 : Int32) (i126 : jI) (j126 : jL) => J_X12_costTo len r (fun (q131 : Int32) (i131 : jI) (j131 : jL) => ((¬ (q126 + q131) = x4) → (J_X12_fewestNow_L143 len r Q (J_X12_fewestNow_L52 len r Q g) i131 j131 x0 x1 x2 x4 x5)) ∧ (((q126 + q131) = x4) → (Q x5 i131 j131))) i126 j126 x0 x2) i110 j110 (i110 a114 x1.toNatClampNeg) (i110 a120 x5.toNatClampNeg)))))) i89 j89 x0 (i89 a102 x1.toNatClampNeg) q89 (0 : Int32)))))) i67 j67 x0 (i67 a76 x1.toNatClampNeg) (i67 a82 x1.toNatClampNeg) x5))))))) i j (i a62 x1.toNatClampNeg)))))
def J_X12_fewestNow (len : Nat → Nat) (r : jR) (Q : Int32 → jI → jL → Prop) (i : jI) (j : jL) (x0 : Nat) (x1 : Int32) (x2 : Int32) (x3 : Int32) : Prop := ∃ a2, r x0 9 = some a2 ∧ (vp_in x1 (len a2) ∧ (∃ a8, r x0 10 = some a8 ∧ (vp_in x1 (len a8) ∧ (J_X12_layCosts len r (fun (i14 : jI) (j14 : jL) => J_X12_costTo len r (fun (q19 : Int32) (i19 : jI) (j19 : jL) => ((q19 = (268435456 : Int32)) → (J_X12_fewestNow_L35 len r Q i19 j19 q19)) ∧ ((¬ q19 = (268435456 : Int32)) → (((¬ x3 = 0) → (∃ g0, J_X12_fewestNow_L52 len r Q g0 i19 j19 x0 x1 x2 q19 (0 : Int32))) ∧ ((x3 = 0) → (J_X12_fewestNow_L35 len r Q i19 j19 q19))))) i14 j14 x0 x2) i j x0 (i a2 x1.toNatClampNeg) (i a8 x1.toNatClampNeg) (0 : Int32)))))
abbrev rm_X12_fewestNow : Room := { frames := 4, cells := 0, slots := 0, locals := 97 }
variable {p : Program} {l : Launch} {e : Env} {s : State} {m : MethodId} {args : Array Value} {below : List Frame} {meth : Method} {c : Code} {b tU n : Nat} {cy : Nat → ClassId} {D : va_G} {K len : Nat → Nat} {r : jR} {Q : Int32 → jI → jL → Prop}
theorem hiX12_X12_fewestNow : ∀ w ∈ u_ws RX12 TX12 51, w ∈ wsX12_fewestNow := by decide +kernel
set_option maxHeartbeats 4000000 in
set_option maxRecDepth 100000 in
theorem w_X12_fewestNow_L35 (C0 : jCx p s m args c cX12_fewestNow 7 wsX12_fewestNow RX12 b cy D tU n K r) (hr : meth.sig.returnType = some .int) (hlk : meth.locks = false) {H : Heap} {locs : List Loc} {ls : Array Slot} {i : jI} {j : jL} {x4 : Int32} (w : jDy b cy D n K len r i j s H locs) (hl : lv_has ls 7 [(4, .int x4)]) (h : J_X12_fewestNow_L35 len r Q i j x4) : W p l e rm_X12_fewestNow s m args below meth c H locs 0 0 (MQ below (jQi b cy D tU n K len r Q) args s 0 0 (jA b)) (F0 m 35 ls []) := by
  obtain ⟨hx, hb, hml, hown, hts, hst, hG⟩ := id C0
  have hiX12 : ∀ w ∈ u_ws RX12 TX12 51, w ∈ wsX12_fewestNow := hiX12_X12_fewestNow
  rw [J_X12_fewestNow_L35] at h
  refine lv_iload hx hb dX12_fewestNow_35 (lv_at hl 0 rfl) ?_
  refine lv_ldc hx hb hown (hts (.constant RX12 193 (268435456)) (by decide +kernel)) dX12_fewestNow_37 ?_
  refine lv_icmp_ne (tgt := 46) hx hb dX12_fewestNow_39 (by decide) (fun hc => ?_) (fun hc => ?_)
  · replace h := h.1 hc
    clear hc
    refine lv_iload hx hb dX12_fewestNow_46 (lv_at hl 0 rfl) ?_
    exact jret_i hx hb hr hlk hst w h dX12_fewestNow_48
  · replace h := h.2 hc
    clear hc
    refine lv_iconst (v := (-1 : Int32)) hx hb dX12_fewestNow_42 (by decide) ?_
    refine lv_goto (tgt := 48) hx hb dX12_fewestNow_43 (by decide) ?_
    exact jret_i hx hb hr hlk hst w h dX12_fewestNow_48
set_option maxHeartbeats 4000000 in
set_option maxRecDepth 100000 in
theorem w_X12_fewestNow_L149 (C0 : jCx p s m args c cX12_fewestNow 7 wsX12_fewestNow RX12 b cy D tU n K r) (hr : meth.sig.returnType = some .int) (hlk : meth.locks = false) {H : Heap} {locs : List Loc} {ls : Array Slot} {i : jI} {j : jL}  (w : jDy b cy D n K len r i j s H locs) (hl : lv_has ls 7 []) (h : J_X12_fewestNow_L149 len r Q i j) : W p l e rm_X12_fewestNow s m args below meth c H locs 0 0 (MQ below (jQi b cy D tU n K len r Q) args s 0 0 (jA b)) (F0 m 149 ls []) := by
  obtain ⟨hx, hb, hml, hown, hts, hst, hG⟩ := id C0
  have hiX12 : ∀ w ∈ u_ws RX12 TX12 51, w ∈ wsX12_fewestNow := hiX12_X12_fewestNow
  rw [J_X12_fewestNow_L149] at h
  refine lv_iconst (v := (-1 : Int32)) hx hb dX12_fewestNow_149 (by decide) ?_
  exact jret_i hx hb hr hlk hst w h dX12_fewestNow_150
set_option maxHeartbeats 4000000 in
set_option maxRecDepth 100000 in
theorem w_X12_fewestNow_L143 (C0 : jCx p s m args c cX12_fewestNow 7 wsX12_fewestNow RX12 b cy D tU n K r) (hr : meth.sig.returnType = some .int) (hlk : meth.locks = false) {Hd52 : jI → jL → Nat → Int32 → Int32 → Int32 → Int32 → Prop} (k52 : ∀ {H : Heap} {locs : List Loc} {ls : Array Slot} {i : jI} {j : jL} {x0 : Nat} {x1 : Int32} {x2 : Int32} {x4 : Int32} {x5 : Int32} (w : jDy b cy D n K len r i j s H locs) (hx0 : x0 < n ∧ K x0 = 11) (hl : lv_has ls 7 [(0, .ref (b + x0)), (1, .int x1), (2, .int x2), (4, .int x4), (5, .int x5)]) (h : Hd52 i j x0 x1 x2 x4 x5), W p l e rm_X12_fewestNow s m args below meth c H locs 0 0 (MQ below (jQi b cy D tU n K len r Q) args s 0 0 (jA b)) (F0 m 52 ls [])) {H : Heap} {locs : List Loc} {ls : Array Slot} {i : jI} {j : jL} {x0 : Nat} {x1 : Int32} {x2 : Int32} {x4 : Int32} {x5 : Int32} (w : jDy b cy D n K len r i j s H locs) (hx0 : x0 < n ∧ K x0 = 11) (hl : lv_has ls 7 [(0, .ref (b + x0)), (1, .int x1), (2, .int x2), (4, .int x4), (5, .int x5)]) (h : J_X12_fewestNow_L143 len r Q Hd52 i j x0 x1 x2 x4 x5) : W p l e rm_X12_fewestNow s m args below meth c H locs 0 0 (MQ below (jQi b cy D tU n K len r Q) args s 0 0 (jA b)) (F0 m 143 ls []) := by
  obtain ⟨hx, hb, hml, hown, hts, hst, hG⟩ := id C0
  have hiX12 : ∀ w ∈ u_ws RX12 TX12 51, w ∈ wsX12_fewestNow := hiX12_X12_fewestNow
  rw [J_X12_fewestNow_L143] at h
  obtain ⟨v143, he⟩ : ∃ z : Int32, z = x5 + (1 : Int32) := ⟨_, rfl⟩
  replace h := h v143 he
  refine lv_iinc (v := v143) (lv' := [(5, .int v143), (0, .ref (b + x0)), (1, .int x1), (2, .int x2), (4, .int x4)]) hx hb dX12_fewestNow_143 hl (k := 4) rfl (by rw [he]; rfl) (by decide) rfl (fun ls hl => ?_)
  clear he
  refine lv_goto (tgt := 52) hx hb dX12_fewestNow_146 (by decide) ?_
  exact k52 w hx0 (lv_sub hl [1, 2, 3, 4, 0] rfl) h
set_option maxHeartbeats 4000000 in
set_option maxRecDepth 100000 in
theorem w_X12_fewestNow_L52 (C0 : jCx p s m args c cX12_fewestNow 7 wsX12_fewestNow RX12 b cy D tU n K r) (hr : meth.sig.returnType = some .int) (hlk : meth.locks = false) : ∀ (g : Nat) {H : Heap} {locs : List Loc} {ls : Array Slot} {i : jI} {j : jL} {x0 : Nat} {x1 : Int32} {x2 : Int32} {x4 : Int32} {x5 : Int32} (w : jDy b cy D n K len r i j s H locs) (hx0 : x0 < n ∧ K x0 = 11) (hl : lv_has ls 7 [(0, .ref (b + x0)), (1, .int x1), (2, .int x2), (4, .int x4), (5, .int x5)]) (h : J_X12_fewestNow_L52 len r Q g i j x0 x1 x2 x4 x5), W p l e rm_X12_fewestNow s m args below meth c H locs 0 0 (MQ below (jQi b cy D tU n K len r Q) args s 0 0 (jA b)) (F0 m 52 ls []) := by
  obtain ⟨hx, hb, hml, hown, hts, hst, hG⟩ := id C0
  have hiX12 : ∀ w ∈ u_ws RX12 TX12 51, w ∈ wsX12_fewestNow := hiX12_X12_fewestNow
  intro g
  induction g with
  | zero => intro H locs ls i j x0 x1 x2 x4 x5 w hx0 hl h; exact False.elim h
  | succ g ih =>
    intro H locs ls i j x0 x1 x2 x4 x5 w hx0 hl h
    rw [J_X12_fewestNow_L52] at h
    refine lv_iload hx hb dX12_fewestNow_52 (lv_at hl 4 rfl) ?_
    refine lv_aload_n hx hb dX12_fewestNow_54 rfl (lv_at hl 0 rfl) ?_
    refine jgi (f := 0) hx hb hts hown hst w hx0 hiX12 (rfl : vwCl[11]? = some (RX12, TX12, 51)) (hts (.fieldLink RX12 126 "FootByGateModel" "streets" "I") (by decide +kernel)) ⟨by decide, by decide, rfl⟩ dX12_fewestNow_55 ?_
    refine lv_icmp_ge (tgt := 149) hx hb dX12_fewestNow_58 (by decide) (fun hc => ?_) (fun hc => ?_)
    · replace h := h.1 hc
      clear hc
      exact w_X12_fewestNow_L149 C0 hr hlk w (lv_sub hl [] rfl) h
    · replace h := h.2 hc
      clear hc
      refine lv_aload_n hx hb dX12_fewestNow_61 rfl (lv_at hl 0 rfl) ?_
      obtain ⟨a62, hr0, h⟩ := h
      refine jgr (f := 10) hx hb hts hown hst w hG hx0 hiX12 (rfl : vwCl[11]? = some (RX12, TX12, 51)) (hts (.fieldLink RX12 25 "FootByGateModel" "standsOf" "[I") (by decide +kernel)) ⟨by decide, by decide, rfl⟩ (rfl : jrt 11 10 = 13) dX12_fewestNow_62 hr0 (fun ha62 => ?_)
      clear hr0
      refine lv_iload_n hx hb dX12_fewestNow_65 rfl (lv_at hl 1 rfl) ?_
      obtain ⟨hn, h⟩ := h
      refine jaid hx hb hst w ha62 hn dX12_fewestNow_66 ?_
      clear hn
      refine jcS_i (As := [.int (i a62 x1.toNatClampNeg)]) (rest := []) C0 w (c_X12_placeIn hG h) (va_cwS 1 hts gX12_fewestNow_X12_placeIn rfl rfl rfl (by decide +kernel) ⟨Nat.le_of_ble_eq_true rfl, Nat.le_of_ble_eq_true rfl⟩) rfl hl.1 rfl (Nat.le_of_ble_eq_true rfl) dX12_fewestNow_67 (fun q67 i67 j67 H locs h w => ?_) ⟨Nat.zero_le _, Nat.zero_le _⟩
      refine lv_iload_n hx hb dX12_fewestNow_70 rfl (lv_at hl 2 rfl) ?_
      refine lv_icmp_eq (tgt := 149) hx hb dX12_fewestNow_71 (by decide) (fun hc => ?_) (fun hc => ?_)
      · replace h := h.1 hc
        clear hc
        exact w_X12_fewestNow_L149 C0 hr hlk w (lv_sub hl [] rfl) h
      · replace h := h.2 hc
        clear hc
        refine lv_aload_n hx hb dX12_fewestNow_74 rfl (lv_at hl 0 rfl) ?_
        refine lv_aload_n hx hb dX12_fewestNow_75 rfl (lv_at hl 0 rfl) ?_
        obtain ⟨a76, hr0, h⟩ := h
        refine jgr (f := 9) hx hb hts hown hst w hG hx0 hiX12 (rfl : vwCl[11]? = some (RX12, TX12, 51)) (hts (.fieldLink RX12 22 "FootByGateModel" "kindOf" "[I") (by decide +kernel)) ⟨by decide, by decide, rfl⟩ (rfl : jrt 11 9 = 13) dX12_fewestNow_76 hr0 (fun ha76 => ?_)
        clear hr0
        refine lv_iload_n hx hb dX12_fewestNow_79 rfl (lv_at hl 1 rfl) ?_
        obtain ⟨hn, h⟩ := h
        refine jaid hx hb hst w ha76 hn dX12_fewestNow_80 ?_
        clear hn
        refine lv_aload_n hx hb dX12_fewestNow_81 rfl (lv_at hl 0 rfl) ?_
        obtain ⟨a82, hr0, h⟩ := h
        refine jgr (f := 10) hx hb hts hown hst w hG hx0 hiX12 (rfl : vwCl[11]? = some (RX12, TX12, 51)) (hts (.fieldLink RX12 25 "FootByGateModel" "standsOf" "[I") (by decide +kernel)) ⟨by decide, by decide, rfl⟩ (rfl : jrt 11 10 = 13) dX12_fewestNow_82 hr0 (fun ha82 => ?_)
        clear hr0
        refine lv_iload_n hx hb dX12_fewestNow_85 rfl (lv_at hl 1 rfl) ?_
        obtain ⟨hn, h⟩ := h
        refine jaid hx hb hst w ha82 hn dX12_fewestNow_86 ?_
        clear hn
        refine lv_iload hx hb dX12_fewestNow_87 (lv_at hl 4 rfl) ?_
        refine jcV_i (k := x0) (As := [.int (i67 a76 x1.toNatClampNeg), .int (i67 a82 x1.toNatClampNeg), .int x5]) (rest := []) C0 w (c_X12_behind hG hx0 h) (cwV 3 hts gX12_fewestNow_X12_behind rfl rfl rfl (by decide +kernel) ⟨Nat.le_of_ble_eq_true rfl, Nat.le_of_ble_eq_true rfl⟩) hx0 (rfl : vwCl[11]? = some (RX12, TX12, 51)) (by decide) rfl hl.1 rfl (Nat.le_of_ble_eq_true rfl) dX12_fewestNow_89 (fun q89 i89 j89 H locs h w => ?_) ⟨Nat.zero_le _, Nat.zero_le _⟩
        refine lv_istore (lv' := [(6, .int q89), (0, .ref (b + x0)), (1, .int x1), (2, .int x2), (4, .int x4), (5, .int x5)]) hx hb dX12_fewestNow_92 hl (by decide) rfl (fun ls hl => ?_)
        refine lv_iload hx hb dX12_fewestNow_94 (lv_at hl 0 rfl) ?_
        refine lv_iconst (v := (-1 : Int32)) hx hb dX12_fewestNow_96 (by decide) ?_
        refine lv_icmp_eq (tgt := 143) hx hb dX12_fewestNow_97 (by decide) (fun hc => ?_) (fun hc => ?_)
        · replace h := h.1 hc
          clear hc
          exact w_X12_fewestNow_L143 C0 hr hlk (fun w hx0 hl h => ih w hx0 hl h) w hx0 (lv_sub hl [1, 2, 3, 4, 5] rfl) h
        · replace h := h.2 hc
          clear hc
          refine lv_aload_n hx hb dX12_fewestNow_100 rfl (lv_at hl 1 rfl) ?_
          refine lv_aload_n hx hb dX12_fewestNow_101 rfl (lv_at hl 1 rfl) ?_
          obtain ⟨a102, hr0, h⟩ := h
          refine jgr (f := 9) hx hb hts hown hst w hG hx0 hiX12 (rfl : vwCl[11]? = some (RX12, TX12, 51)) (hts (.fieldLink RX12 22 "FootByGateModel" "kindOf" "[I") (by decide +kernel)) ⟨by decide, by decide, rfl⟩ (rfl : jrt 11 9 = 13) dX12_fewestNow_102 hr0 (fun ha102 => ?_)
          clear hr0
          refine lv_iload_n hx hb dX12_fewestNow_105 rfl (lv_at hl 2 rfl) ?_
          obtain ⟨hn, h⟩ := h
          refine jaid hx hb hst w ha102 hn dX12_fewestNow_106 ?_
          clear hn
          refine lv_iload hx hb dX12_fewestNow_107 (lv_at hl 0 rfl) ?_
          refine lv_iconst (v := (0 : Int32)) hx hb dX12_fewestNow_109 (by decide) ?_
          refine jcV_v (k := x0) (As := [.int (i89 a102 x1.toNatClampNeg), .int q89, .int (0 : Int32)]) (rest := []) C0 w (c_X12_layCosts hG hx0 h) (cwV 3 hts gX12_fewestNow_X12_layCosts rfl rfl rfl (by decide +kernel) ⟨Nat.le_of_ble_eq_true rfl, Nat.le_of_ble_eq_true rfl⟩) hx0 (rfl : vwCl[11]? = some (RX12, TX12, 51)) (by decide) rfl hl.1 rfl (Nat.le_of_ble_eq_true rfl) dX12_fewestNow_110 (fun i110 j110 H locs h w => ?_) ⟨Nat.zero_le _, Nat.zero_le _⟩
          refine lv_aload_n hx hb dX12_fewestNow_113 rfl (lv_at hl 1 rfl) ?_
          obtain ⟨a114, hr0, h⟩ := h
          refine jgr (f := 9) hx hb hts hown hst w hG hx0 hiX12 (rfl : vwCl[11]? = some (RX12, TX12, 51)) (hts (.fieldLink RX12 22 "FootByGateModel" "kindOf" "[I") (by decide +kernel)) ⟨by decide, by decide, rfl⟩ (rfl : jrt 11 9 = 13) dX12_fewestNow_114 hr0 (fun ha114 => ?_)
          clear hr0
          refine lv_iload_n hx hb dX12_fewestNow_117 rfl (lv_at hl 2 rfl) ?_
          obtain ⟨hn, h⟩ := h
          refine jaid hx hb hst w ha114 hn dX12_fewestNow_118 ?_
          clear hn
          refine lv_aload_n hx hb dX12_fewestNow_119 rfl (lv_at hl 1 rfl) ?_
          obtain ⟨a120, hr0, h⟩ := h
          refine jgr (f := 3) hx hb hts hown hst w hG hx0 hiX12 (rfl : vwCl[11]? = some (RX12, TX12, 51)) (hts (.fieldLink RX12 16 "FootByGateModel" "pacesOf" "[I") (by decide +kernel)) ⟨by decide, by decide, rfl⟩ (rfl : jrt 11 3 = 13) dX12_fewestNow_120 hr0 (fun ha120 => ?_)
          clear hr0
          refine lv_iload hx hb dX12_fewestNow_123 (lv_at hl 5 rfl) ?_
          obtain ⟨hn, h⟩ := h
          refine jaid hx hb hst w ha120 hn dX12_fewestNow_125 ?_
          clear hn
          refine jcS_i (As := [.int (i110 a114 x1.toNatClampNeg), .int (i110 a120 x5.toNatClampNeg)]) (rest := []) C0 w (c_X12_stepsBy hG h) (va_cwS 2 hts gX12_fewestNow_X12_stepsBy rfl rfl rfl (by decide +kernel) ⟨Nat.le_of_ble_eq_true rfl, Nat.le_of_ble_eq_true rfl⟩) rfl hl.1 rfl (Nat.le_of_ble_eq_true rfl) dX12_fewestNow_126 (fun q126 i126 j126 H locs h w => ?_) ⟨Nat.zero_le _, Nat.zero_le _⟩
          refine lv_aload_n hx hb dX12_fewestNow_129 rfl (lv_at hl 1 rfl) ?_
          refine lv_iload_n hx hb dX12_fewestNow_130 rfl (lv_at hl 3 rfl) ?_
          refine jcV_i (k := x0) (As := [.int x2]) (rest := [.int q126]) C0 w (c_X12_costTo hG hx0 h) (cwV 1 hts gX12_fewestNow_X12_costTo rfl rfl rfl (by decide +kernel) ⟨Nat.le_of_ble_eq_true rfl, Nat.le_of_ble_eq_true rfl⟩) hx0 (rfl : vwCl[11]? = some (RX12, TX12, 51)) (by decide) rfl hl.1 rfl (Nat.le_of_ble_eq_true rfl) dX12_fewestNow_131 (fun q131 i131 j131 H locs h w => ?_) ⟨Nat.zero_le _, Nat.zero_le _⟩
          refine lv_iadd hx hb dX12_fewestNow_134 ?_
          refine lv_iload hx hb dX12_fewestNow_135 (lv_at hl 4 rfl) ?_
          refine lv_icmp_ne (tgt := 143) hx hb dX12_fewestNow_137 (by decide) (fun hc => ?_) (fun hc => ?_)
          · replace h := h.1 hc
            clear hc
            exact w_X12_fewestNow_L143 C0 hr hlk (fun w hx0 hl h => ih w hx0 hl h) w hx0 (lv_sub hl [1, 2, 3, 4, 5] rfl) h
          · replace h := h.2 hc
            clear hc
            refine lv_iload hx hb dX12_fewestNow_140 (lv_at hl 5 rfl) ?_
            exact jret_i hx hb hr hlk hst w h dX12_fewestNow_142
set_option maxHeartbeats 4000000 in
set_option maxRecDepth 100000 in
theorem c_X12_fewestNow (hG : jG n K r) {i : jI} {j : jL} {x0 : Nat} {x1 : Int32} {x2 : Int32} {x3 : Int32} (hx0 : x0 < n ∧ K x0 = 11) (h : J_X12_fewestNow len r Q i j x0 x1 x2 x3) : Met l yX12_fewestNow wsX12_fewestNow rm_X12_fewestNow (va_Pc [.ref (b + x0), .int x1, .int x2, .int x3] (jPre b cy D tU n K len r i j)) (jQi b cy D tU n K len r Q) 0 0 (jA b) := by
  refine Met.ofW (cc := cX12_fewestNow) (maxL := 7) (ret := (some .int)) (by decide) rfl ?_
  intro p e s m args below meth c s₁ B hml hv
  obtain ⟨rfl, hv⟩ := hv
  have C0 : jCx p s m _ c cX12_fewestNow 7 wsX12_fewestNow RX12 b cy D tU n K r := ⟨B.exec, B.bytes, hml, findClass_of_methodNamed B.named, atoms_spec (ws := wsX12_fewestNow) B.pre, hv.2.2, hG⟩
  have hr := B.returns
  have hlk := B.notSynchronized
  obtain ⟨hx, hb, hml, hown, hts, hst, hG⟩ := id C0
  have hiX12 : ∀ w ∈ u_ws RX12 TX12 51, w ∈ wsX12_fewestNow := hiX12_X12_fewestNow
  have w := jDy.start hv
  have hl := lv_entry ([.ref (b + x0), .int x1, .int x2, .int x3]) (n := 7) (Nat.le_of_ble_eq_true rfl)
  rw [lg_entry_eq]
  generalize (lg_sl ([.ref (b + x0), .int x1, .int x2, .int x3]) ++ List.replicate (7 - (lg_sl ([.ref (b + x0), .int x1, .int x2, .int x3])).length) Slot.unset).toArray = ls at hl ⊢
  replace hl : lv_has ls 7 [(0, .ref (b + x0)), (1, .int x1), (2, .int x2), (3, .int x3)] := hl
  show W p l e rm_X12_fewestNow s m _ below meth c s.heap [] 0 0 _ (F0 m 0 ls [])
  rw [J_X12_fewestNow] at h
  refine lv_aload_n hx hb dX12_fewestNow_0 rfl (lv_at hl 0 rfl) ?_
  refine lv_aload_n hx hb dX12_fewestNow_1 rfl (lv_at hl 0 rfl) ?_
  obtain ⟨a2, hr0, h⟩ := h
  refine jgr (f := 9) hx hb hts hown hst w hG hx0 hiX12 (rfl : vwCl[11]? = some (RX12, TX12, 51)) (hts (.fieldLink RX12 22 "FootByGateModel" "kindOf" "[I") (by decide +kernel)) ⟨by decide, by decide, rfl⟩ (rfl : jrt 11 9 = 13) dX12_fewestNow_2 hr0 (fun ha2 => ?_)
  clear hr0
  refine lv_iload_n hx hb dX12_fewestNow_5 rfl (lv_at hl 1 rfl) ?_
  obtain ⟨hn, h⟩ := h
  refine jaid hx hb hst w ha2 hn dX12_fewestNow_6 ?_
  clear hn
  refine lv_aload_n hx hb dX12_fewestNow_7 rfl (lv_at hl 0 rfl) ?_
  obtain ⟨a8, hr0, h⟩ := h
  refine jgr (f := 10) hx hb hts hown hst w hG hx0 hiX12 (rfl : vwCl[11]? = some (RX12, TX12, 51)) (hts (.fieldLink RX12 25 "FootByGateModel" "standsOf" "[I") (by decide +kernel)) ⟨by decide, by decide, rfl⟩ (rfl : jrt 11 10 = 13) dX12_fewestNow_8 hr0 (fun ha8 => ?_)
  clear hr0
  refine lv_iload_n hx hb dX12_fewestNow_11 rfl (lv_at hl 1 rfl) ?_
  obtain ⟨hn, h⟩ := h
  refine jaid hx hb hst w ha8 hn dX12_fewestNow_12 ?_
  clear hn
  refine lv_iconst (v := (0 : Int32)) hx hb dX12_fewestNow_13 (by decide) ?_
  refine jcV_v (k := x0) (As := [.int (i a2 x1.toNatClampNeg), .int (i a8 x1.toNatClampNeg), .int (0 : Int32)]) (rest := []) C0 w (c_X12_layCosts hG hx0 h) (cwV 3 hts gX12_fewestNow_X12_layCosts rfl rfl rfl (by decide +kernel) ⟨Nat.le_of_ble_eq_true rfl, Nat.le_of_ble_eq_true rfl⟩) hx0 (rfl : vwCl[11]? = some (RX12, TX12, 51)) (by decide) rfl hl.1 rfl (Nat.le_of_ble_eq_true rfl) dX12_fewestNow_14 (fun i14 j14 H locs h w => ?_) ⟨Nat.zero_le _, Nat.zero_le _⟩
  refine lv_aload_n hx hb dX12_fewestNow_17 rfl (lv_at hl 0 rfl) ?_
  refine lv_iload_n hx hb dX12_fewestNow_18 rfl (lv_at hl 2 rfl) ?_
  refine jcV_i (k := x0) (As := [.int x2]) (rest := []) C0 w (c_X12_costTo hG hx0 h) (cwV 1 hts gX12_fewestNow_X12_costTo rfl rfl rfl (by decide +kernel) ⟨Nat.le_of_ble_eq_true rfl, Nat.le_of_ble_eq_true rfl⟩) hx0 (rfl : vwCl[11]? = some (RX12, TX12, 51)) (by decide) rfl hl.1 rfl (Nat.le_of_ble_eq_true rfl) dX12_fewestNow_19 (fun q19 i19 j19 H locs h w => ?_) ⟨Nat.zero_le _, Nat.zero_le _⟩
  refine lv_istore (lv' := [(4, .int q19), (0, .ref (b + x0)), (1, .int x1), (2, .int x2), (3, .int x3)]) hx hb dX12_fewestNow_22 hl (by decide) rfl (fun ls hl => ?_)
  refine lv_iload hx hb dX12_fewestNow_24 (lv_at hl 0 rfl) ?_
  refine lv_ldc hx hb hown (hts (.constant RX12 193 (268435456)) (by decide +kernel)) dX12_fewestNow_26 ?_
  refine lv_icmp_eq (tgt := 35) hx hb dX12_fewestNow_28 (by decide) (fun hc => ?_) (fun hc => ?_)
  · replace h := h.1 hc
    clear hc
    exact w_X12_fewestNow_L35 C0 hr hlk w (lv_sub hl [0] rfl) h
  · replace h := h.2 hc
    clear hc
    refine lv_iload_n hx hb dX12_fewestNow_31 rfl (lv_at hl 4 rfl) ?_
    refine lv_if_ne (tgt := 49) hx hb dX12_fewestNow_32 (by decide) (fun hc => ?_) (fun hc => ?_)
    · replace h := h.1 hc
      clear hc
      refine lv_iconst (v := (0 : Int32)) hx hb dX12_fewestNow_49 (by decide) ?_
      refine lv_istore (lv' := [(5, .int (0 : Int32)), (4, .int q19), (0, .ref (b + x0)), (1, .int x1), (2, .int x2), (3, .int x3)]) hx hb dX12_fewestNow_50 hl (by decide) rfl (fun ls hl => ?_)
      obtain ⟨g0, h⟩ := h
      exact w_X12_fewestNow_L52 C0 hr hlk g0 w hx0 (lv_sub hl [2, 3, 4, 1, 0] rfl) h
    · replace h := h.2 hc
      clear hc
      exact w_X12_fewestNow_L35 C0 hr hlk w (lv_sub hl [0] rfl) h
end S_X12_fewestNow
section S_X12_skipsNow
def J_X12_skipsNow (len : Nat → Nat) (r : jR) (Q : Int32 → jI → jL → Prop) (i : jI) (j : jL) (x0 : Nat) (x1 : Int32) (x2 : Int32) (x3 : Int32) : Prop := ∃ a2, r x0 9 = some a2 ∧ (vp_in x1 (len a2) ∧ (∃ a8, r x0 10 = some a8 ∧ (vp_in x1 (len a8) ∧ (J_X12_layCosts len r (fun (i14 : jI) (j14 : jL) => J_X12_costTo len r (fun (q19 : Int32) (i19 : jI) (j19 : jL) => ((¬ q19 = (268435456 : Int32)) → (((¬ x3 = 0) → (Q (q19 - q19 / (10000 : Int32) * (10000 : Int32)) i19 j19)) ∧ ((x3 = 0) → (Q (q19 / (10000 : Int32)) i19 j19)))) ∧ ((q19 = (268435456 : Int32)) → (Q (-1 : Int32) i19 j19))) i14 j14 x0 x2) i j x0 (i a2 x1.toNatClampNeg) (i a8 x1.toNatClampNeg) (1 : Int32)))))
abbrev rm_X12_skipsNow : Room := { frames := 4, cells := 0, slots := 0, locals := 97 }
variable {p : Program} {l : Launch} {e : Env} {s : State} {m : MethodId} {args : Array Value} {below : List Frame} {meth : Method} {c : Code} {b tU n : Nat} {cy : Nat → ClassId} {D : va_G} {K len : Nat → Nat} {r : jR} {Q : Int32 → jI → jL → Prop}
theorem hiX12_X12_skipsNow : ∀ w ∈ u_ws RX12 TX12 51, w ∈ wsX12_skipsNow := by decide +kernel
set_option maxHeartbeats 4000000 in
set_option maxRecDepth 100000 in
theorem c_X12_skipsNow (hG : jG n K r) {i : jI} {j : jL} {x0 : Nat} {x1 : Int32} {x2 : Int32} {x3 : Int32} (hx0 : x0 < n ∧ K x0 = 11) (h : J_X12_skipsNow len r Q i j x0 x1 x2 x3) : Met l yX12_skipsNow wsX12_skipsNow rm_X12_skipsNow (va_Pc [.ref (b + x0), .int x1, .int x2, .int x3] (jPre b cy D tU n K len r i j)) (jQi b cy D tU n K len r Q) 0 0 (jA b) := by
  refine Met.ofW (cc := cX12_skipsNow) (maxL := 5) (ret := (some .int)) (by decide) rfl ?_
  intro p e s m args below meth c s₁ B hml hv
  obtain ⟨rfl, hv⟩ := hv
  have C0 : jCx p s m _ c cX12_skipsNow 5 wsX12_skipsNow RX12 b cy D tU n K r := ⟨B.exec, B.bytes, hml, findClass_of_methodNamed B.named, atoms_spec (ws := wsX12_skipsNow) B.pre, hv.2.2, hG⟩
  have hr := B.returns
  have hlk := B.notSynchronized
  obtain ⟨hx, hb, hml, hown, hts, hst, hG⟩ := id C0
  have hiX12 : ∀ w ∈ u_ws RX12 TX12 51, w ∈ wsX12_skipsNow := hiX12_X12_skipsNow
  have w := jDy.start hv
  have hl := lv_entry ([.ref (b + x0), .int x1, .int x2, .int x3]) (n := 5) (Nat.le_of_ble_eq_true rfl)
  rw [lg_entry_eq]
  generalize (lg_sl ([.ref (b + x0), .int x1, .int x2, .int x3]) ++ List.replicate (5 - (lg_sl ([.ref (b + x0), .int x1, .int x2, .int x3])).length) Slot.unset).toArray = ls at hl ⊢
  replace hl : lv_has ls 5 [(0, .ref (b + x0)), (1, .int x1), (2, .int x2), (3, .int x3)] := hl
  show W p l e rm_X12_skipsNow s m _ below meth c s.heap [] 0 0 _ (F0 m 0 ls [])
  rw [J_X12_skipsNow] at h
  refine lv_aload_n hx hb dX12_skipsNow_0 rfl (lv_at hl 0 rfl) ?_
  refine lv_aload_n hx hb dX12_skipsNow_1 rfl (lv_at hl 0 rfl) ?_
  obtain ⟨a2, hr0, h⟩ := h
  refine jgr (f := 9) hx hb hts hown hst w hG hx0 hiX12 (rfl : vwCl[11]? = some (RX12, TX12, 51)) (hts (.fieldLink RX12 22 "FootByGateModel" "kindOf" "[I") (by decide +kernel)) ⟨by decide, by decide, rfl⟩ (rfl : jrt 11 9 = 13) dX12_skipsNow_2 hr0 (fun ha2 => ?_)
  clear hr0
  refine lv_iload_n hx hb dX12_skipsNow_5 rfl (lv_at hl 1 rfl) ?_
  obtain ⟨hn, h⟩ := h
  refine jaid hx hb hst w ha2 hn dX12_skipsNow_6 ?_
  clear hn
  refine lv_aload_n hx hb dX12_skipsNow_7 rfl (lv_at hl 0 rfl) ?_
  obtain ⟨a8, hr0, h⟩ := h
  refine jgr (f := 10) hx hb hts hown hst w hG hx0 hiX12 (rfl : vwCl[11]? = some (RX12, TX12, 51)) (hts (.fieldLink RX12 25 "FootByGateModel" "standsOf" "[I") (by decide +kernel)) ⟨by decide, by decide, rfl⟩ (rfl : jrt 11 10 = 13) dX12_skipsNow_8 hr0 (fun ha8 => ?_)
  clear hr0
  refine lv_iload_n hx hb dX12_skipsNow_11 rfl (lv_at hl 1 rfl) ?_
  obtain ⟨hn, h⟩ := h
  refine jaid hx hb hst w ha8 hn dX12_skipsNow_12 ?_
  clear hn
  refine lv_iconst (v := (1 : Int32)) hx hb dX12_skipsNow_13 (by decide) ?_
  refine jcV_v (k := x0) (As := [.int (i a2 x1.toNatClampNeg), .int (i a8 x1.toNatClampNeg), .int (1 : Int32)]) (rest := []) C0 w (c_X12_layCosts hG hx0 h) (cwV 3 hts gX12_skipsNow_X12_layCosts rfl rfl rfl (by decide +kernel) ⟨Nat.le_of_ble_eq_true rfl, Nat.le_of_ble_eq_true rfl⟩) hx0 (rfl : vwCl[11]? = some (RX12, TX12, 51)) (by decide) rfl hl.1 rfl (Nat.le_of_ble_eq_true rfl) dX12_skipsNow_14 (fun i14 j14 H locs h w => ?_) ⟨Nat.zero_le _, Nat.zero_le _⟩
  refine lv_aload_n hx hb dX12_skipsNow_17 rfl (lv_at hl 0 rfl) ?_
  refine lv_iload_n hx hb dX12_skipsNow_18 rfl (lv_at hl 2 rfl) ?_
  refine jcV_i (k := x0) (As := [.int x2]) (rest := []) C0 w (c_X12_costTo hG hx0 h) (cwV 1 hts gX12_skipsNow_X12_costTo rfl rfl rfl (by decide +kernel) ⟨Nat.le_of_ble_eq_true rfl, Nat.le_of_ble_eq_true rfl⟩) hx0 (rfl : vwCl[11]? = some (RX12, TX12, 51)) (by decide) rfl hl.1 rfl (Nat.le_of_ble_eq_true rfl) dX12_skipsNow_19 (fun q19 i19 j19 H locs h w => ?_) ⟨Nat.zero_le _, Nat.zero_le _⟩
  refine lv_istore (lv' := [(4, .int q19), (0, .ref (b + x0)), (1, .int x1), (2, .int x2), (3, .int x3)]) hx hb dX12_skipsNow_22 hl (by decide) rfl (fun ls hl => ?_)
  refine lv_iload hx hb dX12_skipsNow_24 (lv_at hl 0 rfl) ?_
  refine lv_ldc hx hb hown (hts (.constant RX12 193 (268435456)) (by decide +kernel)) dX12_skipsNow_26 ?_
  refine lv_icmp_ne (tgt := 35) hx hb dX12_skipsNow_28 (by decide) (fun hc => ?_) (fun hc => ?_)
  · replace h := h.1 hc
    clear hc
    refine lv_iload_n hx hb dX12_skipsNow_35 rfl (lv_at hl 4 rfl) ?_
    refine lv_if_ne (tgt := 48) hx hb dX12_skipsNow_36 (by decide) (fun hc => ?_) (fun hc => ?_)
    · replace h := h.1 hc
      clear hc
      refine lv_iload hx hb dX12_skipsNow_48 (lv_at hl 0 rfl) ?_
      refine lv_sipush (v := (10000 : Int32)) hx hb dX12_skipsNow_50 (by decide) ?_
      refine lv_irem hx hb dX12_skipsNow_53 (by decide) ?_
      exact jret_i hx hb hr hlk hst w h dX12_skipsNow_54
    · replace h := h.2 hc
      clear hc
      refine lv_iload hx hb dX12_skipsNow_39 (lv_at hl 0 rfl) ?_
      refine lv_sipush (v := (10000 : Int32)) hx hb dX12_skipsNow_41 (by decide) ?_
      refine lv_idiv hx hb dX12_skipsNow_44 (by decide) ?_
      refine lv_goto (tgt := 54) hx hb dX12_skipsNow_45 (by decide) ?_
      exact jret_i hx hb hr hlk hst w h dX12_skipsNow_54
  · replace h := h.2 hc
    clear hc
    refine lv_iconst (v := (-1 : Int32)) hx hb dX12_skipsNow_31 (by decide) ?_
    refine lv_goto (tgt := 54) hx hb dX12_skipsNow_32 (by decide) ?_
    exact jret_i hx hb hr hlk hst w h dX12_skipsNow_54
end S_X12_skipsNow
section S_X12_mixWalker
def J_X12_mixWalker_L2 (len : Nat → Nat) (r : jR) (Q : jI → jL → Prop) : Nat → jI → jL → Nat → Int32 → Int32 → Prop
  | 0 => fun _ _ _ _ _ => False
  | g + 1 => fun i j x0 x1 x2 => (((7 : Int32) ≤ x2) → (J_X12_shutNow len r (fun (q28 : Int32) (i28 : jI) (j28 : jL) => J_X12_mix len r (fun (i32 : jI) (j32 : jL) => J_X12_fewestNow len r (fun (q41 : Int32) (i41 : jI) (j41 : jL) => J_X12_mix len r (fun (i45 : jI) (j45 : jL) => J_X12_fewestNow len r (fun (q54 : Int32) (i54 : jI) (j54 : jL) => J_X12_mix len r (fun (i58 : jI) (j58 : jL) => J_X12_skipsNow len r (fun (q67 : Int32) (i67 : jI) (j67 : jL) => J_X12_mix len r (fun (i71 : jI) (j71 : jL) => J_X12_skipsNow len r (fun (q80 : Int32) (i80 : jI) (j80 : jL) => J_X12_mix len r (fun (i84 : jI) (j84 : jL) => Q i84 j84) i80 j80 x0 q80.toInt64) i71 j71 x0 x1 (6 : Int32) (1 : Int32)) i67 j67 x0 q67.toInt64) i58 j58 x0 x1 (6 : Int32) (0 : Int32)) i54 j54 x0 q54.toInt64) i45 j45 x0 x1 (6 : Int32) (1 : Int32)) i41 j41 x0 q41.toInt64) i32 j32 x0 x1 (6 : Int32) (0 : Int32)) i28 j28 x0 q28.toInt64) i j x0 x1)) ∧ ((¬ (7 : Int32) ≤ x2) → (J_X12_walkerNow len r (fun (q12 : Int32) (i12 : jI) (j12 : jL) => J_X12_mix len r (fun (i16 : jI) (j16 : jL) => ∀ v19 : Int32, v19 = x2 + (1 : Int32) → ((J_X12_mixWalker_L2 len r Q g) i16 j16 x0 x1 v19)) i12 j12 x0 q12.toInt64) i j x0 x1 x2))
def J_X12_mixWalker (len : Nat → Nat) (r : jR) (Q : jI → jL → Prop) (i : jI) (j : jL) (x0 : Nat) (x1 : Int32) : Prop := ∃ g0, J_X12_mixWalker_L2 len r Q g0 i j x0 x1 (0 : Int32)
abbrev rm_X12_mixWalker : Room := { frames := 5, cells := 0, slots := 0, locals := 123 }
variable {p : Program} {l : Launch} {e : Env} {s : State} {m : MethodId} {args : Array Value} {below : List Frame} {meth : Method} {c : Code} {b tU n : Nat} {cy : Nat → ClassId} {D : va_G} {K len : Nat → Nat} {r : jR} {Q : jI → jL → Prop}
set_option maxHeartbeats 4000000 in
set_option maxRecDepth 100000 in
theorem w_X12_mixWalker_L2 (C0 : jCx p s m args c cX12_mixWalker 3 wsX12_mixWalker RX12 b cy D tU n K r) (hr : meth.sig.returnType = none) (hlk : meth.locks = false) : ∀ (g : Nat) {H : Heap} {locs : List Loc} {ls : Array Slot} {i : jI} {j : jL} {x0 : Nat} {x1 : Int32} {x2 : Int32} (w : jDy b cy D n K len r i j s H locs) (hx0 : x0 < n ∧ K x0 = 11) (hl : lv_has ls 3 [(0, .ref (b + x0)), (1, .int x1), (2, .int x2)]) (h : J_X12_mixWalker_L2 len r Q g i j x0 x1 x2), W p l e rm_X12_mixWalker s m args below meth c H locs 0 0 (MQ below (jQv b cy D tU n K len r Q) args s 0 0 (jA b)) (F0 m 2 ls []) := by
  obtain ⟨hx, hb, hml, hown, hts, hst, hG⟩ := id C0
  intro g
  induction g with
  | zero => intro H locs ls i j x0 x1 x2 w hx0 hl h; exact False.elim h
  | succ g ih =>
    intro H locs ls i j x0 x1 x2 w hx0 hl h
    rw [J_X12_mixWalker_L2] at h
    refine lv_iload_n hx hb dX12_mixWalker_2 rfl (lv_at hl 2 rfl) ?_
    refine lv_bipush (v := (7 : Int32)) hx hb dX12_mixWalker_3 (by decide) ?_
    refine lv_icmp_ge (tgt := 25) hx hb dX12_mixWalker_5 (by decide) (fun hc => ?_) (fun hc => ?_)
    · replace h := h.1 hc
      clear hc
      refine lv_aload_n hx hb dX12_mixWalker_25 rfl (lv_at hl 0 rfl) ?_
      refine lv_aload_n hx hb dX12_mixWalker_26 rfl (lv_at hl 0 rfl) ?_
      refine lv_iload_n hx hb dX12_mixWalker_27 rfl (lv_at hl 1 rfl) ?_
      refine jcV_i (k := x0) (As := [.int x1]) (rest := [.ref (b + x0)]) C0 w (c_X12_shutNow hG hx0 h) (cwV 1 hts gX12_mixWalker_X12_shutNow rfl rfl rfl (by decide +kernel) ⟨Nat.le_of_ble_eq_true rfl, Nat.le_of_ble_eq_true rfl⟩) hx0 (rfl : vwCl[11]? = some (RX12, TX12, 51)) (by decide) rfl hl.1 rfl (Nat.le_of_ble_eq_true rfl) dX12_mixWalker_28 (fun q28 i28 j28 H locs h w => ?_) ⟨Nat.zero_le _, Nat.zero_le _⟩
      refine lv_i2l hx hb dX12_mixWalker_31 rfl ?_
      refine jcV_v (k := x0) (As := [.long q28.toInt64]) (rest := []) C0 w (c_X12_mix hG hx0 h) (cwV 1 hts gX12_mixWalker_X12_mix rfl rfl rfl (by decide +kernel) ⟨Nat.le_of_ble_eq_true rfl, Nat.le_of_ble_eq_true rfl⟩) hx0 (rfl : vwCl[11]? = some (RX12, TX12, 51)) (by decide) rfl hl.1 rfl (Nat.le_of_ble_eq_true rfl) dX12_mixWalker_32 (fun i32 j32 H locs h w => ?_) ⟨Nat.zero_le _, Nat.zero_le _⟩
      refine lv_aload_n hx hb dX12_mixWalker_35 rfl (lv_at hl 0 rfl) ?_
      refine lv_aload_n hx hb dX12_mixWalker_36 rfl (lv_at hl 0 rfl) ?_
      refine lv_iload_n hx hb dX12_mixWalker_37 rfl (lv_at hl 1 rfl) ?_
      refine lv_bipush (v := (6 : Int32)) hx hb dX12_mixWalker_38 (by decide) ?_
      refine lv_iconst (v := (0 : Int32)) hx hb dX12_mixWalker_40 (by decide) ?_
      refine jcV_i (k := x0) (As := [.int x1, .int (6 : Int32), .int (0 : Int32)]) (rest := [.ref (b + x0)]) C0 w (c_X12_fewestNow hG hx0 h) (cwV 3 hts gX12_mixWalker_X12_fewestNow rfl rfl rfl (by decide +kernel) ⟨Nat.le_of_ble_eq_true rfl, Nat.le_of_ble_eq_true rfl⟩) hx0 (rfl : vwCl[11]? = some (RX12, TX12, 51)) (by decide) rfl hl.1 rfl (Nat.le_of_ble_eq_true rfl) dX12_mixWalker_41 (fun q41 i41 j41 H locs h w => ?_) ⟨Nat.zero_le _, Nat.zero_le _⟩
      refine lv_i2l hx hb dX12_mixWalker_44 rfl ?_
      refine jcV_v (k := x0) (As := [.long q41.toInt64]) (rest := []) C0 w (c_X12_mix hG hx0 h) (cwV 1 hts gX12_mixWalker_X12_mix rfl rfl rfl (by decide +kernel) ⟨Nat.le_of_ble_eq_true rfl, Nat.le_of_ble_eq_true rfl⟩) hx0 (rfl : vwCl[11]? = some (RX12, TX12, 51)) (by decide) rfl hl.1 rfl (Nat.le_of_ble_eq_true rfl) dX12_mixWalker_45 (fun i45 j45 H locs h w => ?_) ⟨Nat.zero_le _, Nat.zero_le _⟩
      refine lv_aload_n hx hb dX12_mixWalker_48 rfl (lv_at hl 0 rfl) ?_
      refine lv_aload_n hx hb dX12_mixWalker_49 rfl (lv_at hl 0 rfl) ?_
      refine lv_iload_n hx hb dX12_mixWalker_50 rfl (lv_at hl 1 rfl) ?_
      refine lv_bipush (v := (6 : Int32)) hx hb dX12_mixWalker_51 (by decide) ?_
      refine lv_iconst (v := (1 : Int32)) hx hb dX12_mixWalker_53 (by decide) ?_
      refine jcV_i (k := x0) (As := [.int x1, .int (6 : Int32), .int (1 : Int32)]) (rest := [.ref (b + x0)]) C0 w (c_X12_fewestNow hG hx0 h) (cwV 3 hts gX12_mixWalker_X12_fewestNow rfl rfl rfl (by decide +kernel) ⟨Nat.le_of_ble_eq_true rfl, Nat.le_of_ble_eq_true rfl⟩) hx0 (rfl : vwCl[11]? = some (RX12, TX12, 51)) (by decide) rfl hl.1 rfl (Nat.le_of_ble_eq_true rfl) dX12_mixWalker_54 (fun q54 i54 j54 H locs h w => ?_) ⟨Nat.zero_le _, Nat.zero_le _⟩
      refine lv_i2l hx hb dX12_mixWalker_57 rfl ?_
      refine jcV_v (k := x0) (As := [.long q54.toInt64]) (rest := []) C0 w (c_X12_mix hG hx0 h) (cwV 1 hts gX12_mixWalker_X12_mix rfl rfl rfl (by decide +kernel) ⟨Nat.le_of_ble_eq_true rfl, Nat.le_of_ble_eq_true rfl⟩) hx0 (rfl : vwCl[11]? = some (RX12, TX12, 51)) (by decide) rfl hl.1 rfl (Nat.le_of_ble_eq_true rfl) dX12_mixWalker_58 (fun i58 j58 H locs h w => ?_) ⟨Nat.zero_le _, Nat.zero_le _⟩
      refine lv_aload_n hx hb dX12_mixWalker_61 rfl (lv_at hl 0 rfl) ?_
      refine lv_aload_n hx hb dX12_mixWalker_62 rfl (lv_at hl 0 rfl) ?_
      refine lv_iload_n hx hb dX12_mixWalker_63 rfl (lv_at hl 1 rfl) ?_
      refine lv_bipush (v := (6 : Int32)) hx hb dX12_mixWalker_64 (by decide) ?_
      refine lv_iconst (v := (0 : Int32)) hx hb dX12_mixWalker_66 (by decide) ?_
      refine jcV_i (k := x0) (As := [.int x1, .int (6 : Int32), .int (0 : Int32)]) (rest := [.ref (b + x0)]) C0 w (c_X12_skipsNow hG hx0 h) (cwV 3 hts gX12_mixWalker_X12_skipsNow rfl rfl rfl (by decide +kernel) ⟨Nat.le_of_ble_eq_true rfl, Nat.le_of_ble_eq_true rfl⟩) hx0 (rfl : vwCl[11]? = some (RX12, TX12, 51)) (by decide) rfl hl.1 rfl (Nat.le_of_ble_eq_true rfl) dX12_mixWalker_67 (fun q67 i67 j67 H locs h w => ?_) ⟨Nat.zero_le _, Nat.zero_le _⟩
      refine lv_i2l hx hb dX12_mixWalker_70 rfl ?_
      refine jcV_v (k := x0) (As := [.long q67.toInt64]) (rest := []) C0 w (c_X12_mix hG hx0 h) (cwV 1 hts gX12_mixWalker_X12_mix rfl rfl rfl (by decide +kernel) ⟨Nat.le_of_ble_eq_true rfl, Nat.le_of_ble_eq_true rfl⟩) hx0 (rfl : vwCl[11]? = some (RX12, TX12, 51)) (by decide) rfl hl.1 rfl (Nat.le_of_ble_eq_true rfl) dX12_mixWalker_71 (fun i71 j71 H locs h w => ?_) ⟨Nat.zero_le _, Nat.zero_le _⟩
      refine lv_aload_n hx hb dX12_mixWalker_74 rfl (lv_at hl 0 rfl) ?_
      refine lv_aload_n hx hb dX12_mixWalker_75 rfl (lv_at hl 0 rfl) ?_
      refine lv_iload_n hx hb dX12_mixWalker_76 rfl (lv_at hl 1 rfl) ?_
      refine lv_bipush (v := (6 : Int32)) hx hb dX12_mixWalker_77 (by decide) ?_
      refine lv_iconst (v := (1 : Int32)) hx hb dX12_mixWalker_79 (by decide) ?_
      refine jcV_i (k := x0) (As := [.int x1, .int (6 : Int32), .int (1 : Int32)]) (rest := [.ref (b + x0)]) C0 w (c_X12_skipsNow hG hx0 h) (cwV 3 hts gX12_mixWalker_X12_skipsNow rfl rfl rfl (by decide +kernel) ⟨Nat.le_of_ble_eq_true rfl, Nat.le_of_ble_eq_true rfl⟩) hx0 (rfl : vwCl[11]? = some (RX12, TX12, 51)) (by decide) rfl hl.1 rfl (Nat.le_of_ble_eq_true rfl) dX12_mixWalker_80 (fun q80 i80 j80 H locs h w => ?_) ⟨Nat.zero_le _, Nat.zero_le _⟩
      refine lv_i2l hx hb dX12_mixWalker_83 rfl ?_
      refine jcV_v (k := x0) (As := [.long q80.toInt64]) (rest := []) C0 w (c_X12_mix hG hx0 h) (cwV 1 hts gX12_mixWalker_X12_mix rfl rfl rfl (by decide +kernel) ⟨Nat.le_of_ble_eq_true rfl, Nat.le_of_ble_eq_true rfl⟩) hx0 (rfl : vwCl[11]? = some (RX12, TX12, 51)) (by decide) rfl hl.1 rfl (Nat.le_of_ble_eq_true rfl) dX12_mixWalker_84 (fun i84 j84 H locs h w => ?_) ⟨Nat.zero_le _, Nat.zero_le _⟩
      exact jret_v hx hb hr hlk hst w h dX12_mixWalker_87
    · replace h := h.2 hc
      clear hc
      refine lv_aload_n hx hb dX12_mixWalker_8 rfl (lv_at hl 0 rfl) ?_
      refine lv_aload_n hx hb dX12_mixWalker_9 rfl (lv_at hl 0 rfl) ?_
      refine lv_iload_n hx hb dX12_mixWalker_10 rfl (lv_at hl 1 rfl) ?_
      refine lv_iload_n hx hb dX12_mixWalker_11 rfl (lv_at hl 2 rfl) ?_
      refine jcV_i (k := x0) (As := [.int x1, .int x2]) (rest := [.ref (b + x0)]) C0 w (c_X12_walkerNow hG hx0 h) (cwV 2 hts gX12_mixWalker_X12_walkerNow rfl rfl rfl (by decide +kernel) ⟨Nat.le_of_ble_eq_true rfl, Nat.le_of_ble_eq_true rfl⟩) hx0 (rfl : vwCl[11]? = some (RX12, TX12, 51)) (by decide) rfl hl.1 rfl (Nat.le_of_ble_eq_true rfl) dX12_mixWalker_12 (fun q12 i12 j12 H locs h w => ?_) ⟨Nat.zero_le _, Nat.zero_le _⟩
      refine lv_i2l hx hb dX12_mixWalker_15 rfl ?_
      refine jcV_v (k := x0) (As := [.long q12.toInt64]) (rest := []) C0 w (c_X12_mix hG hx0 h) (cwV 1 hts gX12_mixWalker_X12_mix rfl rfl rfl (by decide +kernel) ⟨Nat.le_of_ble_eq_true rfl, Nat.le_of_ble_eq_true rfl⟩) hx0 (rfl : vwCl[11]? = some (RX12, TX12, 51)) (by decide) rfl hl.1 rfl (Nat.le_of_ble_eq_true rfl) dX12_mixWalker_16 (fun i16 j16 H locs h w => ?_) ⟨Nat.zero_le _, Nat.zero_le _⟩
      obtain ⟨v19, he⟩ : ∃ z : Int32, z = x2 + (1 : Int32) := ⟨_, rfl⟩
      replace h := h v19 he
      refine lv_iinc (v := v19) (lv' := [(2, .int v19), (0, .ref (b + x0)), (1, .int x1)]) hx hb dX12_mixWalker_19 hl (k := 2) rfl (by rw [he]; rfl) (by decide) rfl (fun ls hl => ?_)
      clear he
      refine lv_goto (tgt := 2) hx hb dX12_mixWalker_22 (by decide) ?_
      exact ih w hx0 (lv_sub hl [1, 2, 0] rfl) h
set_option maxHeartbeats 4000000 in
set_option maxRecDepth 100000 in
theorem c_X12_mixWalker (hG : jG n K r) {i : jI} {j : jL} {x0 : Nat} {x1 : Int32} (hx0 : x0 < n ∧ K x0 = 11) (h : J_X12_mixWalker len r Q i j x0 x1) : Met l yX12_mixWalker wsX12_mixWalker rm_X12_mixWalker (va_Pc [.ref (b + x0), .int x1] (jPre b cy D tU n K len r i j)) (jQv b cy D tU n K len r Q) 0 0 (jA b) := by
  refine Met.ofW (cc := cX12_mixWalker) (maxL := 3) (ret := none) (by decide) rfl ?_
  intro p e s m args below meth c s₁ B hml hv
  obtain ⟨rfl, hv⟩ := hv
  have C0 : jCx p s m _ c cX12_mixWalker 3 wsX12_mixWalker RX12 b cy D tU n K r := ⟨B.exec, B.bytes, hml, findClass_of_methodNamed B.named, atoms_spec (ws := wsX12_mixWalker) B.pre, hv.2.2, hG⟩
  have hr := B.returns
  have hlk := B.notSynchronized
  obtain ⟨hx, hb, hml, hown, hts, hst, hG⟩ := id C0
  have w := jDy.start hv
  have hl := lv_entry ([.ref (b + x0), .int x1]) (n := 3) (Nat.le_of_ble_eq_true rfl)
  rw [lg_entry_eq]
  generalize (lg_sl ([.ref (b + x0), .int x1]) ++ List.replicate (3 - (lg_sl ([.ref (b + x0), .int x1])).length) Slot.unset).toArray = ls at hl ⊢
  replace hl : lv_has ls 3 [(0, .ref (b + x0)), (1, .int x1)] := hl
  show W p l e rm_X12_mixWalker s m _ below meth c s.heap [] 0 0 _ (F0 m 0 ls [])
  rw [J_X12_mixWalker] at h
  refine lv_iconst (v := (0 : Int32)) hx hb dX12_mixWalker_0 (by decide) ?_
  refine lv_istore_n (lv' := [(2, .int (0 : Int32)), (0, .ref (b + x0)), (1, .int x1)]) hx hb dX12_mixWalker_1 rfl hl (by decide) rfl (fun ls hl => ?_)
  obtain ⟨g0, h⟩ := h
  exact w_X12_mixWalker_L2 C0 hr hlk g0 w hx0 (lv_sub hl [1, 2, 0] rfl) h
end S_X12_mixWalker
section S_X12_streetNow
def J_X12_streetNow (len : Nat → Nat) (r : jR) (Q : Int32 → jI → jL → Prop) (i : jI) (j : jL) (x0 : Nat) (x1 : Int32) (x2 : Int32) : Prop := ((¬ x2 = 0) → (((¬ x2 = (1 : Int32)) → (((¬ x2 = (2 : Int32)) → (∃ a42, r x0 4 = some a42 ∧ (vp_in x1 (len a42) ∧ (Q (i a42 x1.toNatClampNeg) i j)))) ∧ ((x2 = (2 : Int32)) → (∃ a33, r x0 3 = some a33 ∧ (vp_in x1 (len a33) ∧ (Q (i a33 x1.toNatClampNeg) i j)))))) ∧ ((x2 = (1 : Int32)) → (∃ a19, r x0 2 = some a19 ∧ (vp_in x1 (len a19) ∧ (Q (i a19 x1.toNatClampNeg) i j)))))) ∧ ((x2 = 0) → (∃ a5, r x0 1 = some a5 ∧ (vp_in x1 (len a5) ∧ (Q (i a5 x1.toNatClampNeg) i j))))
abbrev rm_X12_streetNow : Room := { frames := 0, cells := 0, slots := 0, locals := 0 }
variable {p : Program} {l : Launch} {e : Env} {s : State} {m : MethodId} {args : Array Value} {below : List Frame} {meth : Method} {c : Code} {b tU n : Nat} {cy : Nat → ClassId} {D : va_G} {K len : Nat → Nat} {r : jR} {Q : Int32 → jI → jL → Prop}
theorem hiX12_X12_streetNow : ∀ w ∈ u_ws RX12 TX12 51, w ∈ wsX12_streetNow := by decide +kernel
set_option maxHeartbeats 4000000 in
set_option maxRecDepth 100000 in
theorem c_X12_streetNow (hG : jG n K r) {i : jI} {j : jL} {x0 : Nat} {x1 : Int32} {x2 : Int32} (hx0 : x0 < n ∧ K x0 = 11) (h : J_X12_streetNow len r Q i j x0 x1 x2) : Met l yX12_streetNow wsX12_streetNow rm_X12_streetNow (va_Pc [.ref (b + x0), .int x1, .int x2] (jPre b cy D tU n K len r i j)) (jQi b cy D tU n K len r Q) 0 0 (jA b) := by
  refine Met.ofW (cc := cX12_streetNow) (maxL := 3) (ret := (some .int)) (by decide) rfl ?_
  intro p e s m args below meth c s₁ B hml hv
  obtain ⟨rfl, hv⟩ := hv
  have C0 : jCx p s m _ c cX12_streetNow 3 wsX12_streetNow RX12 b cy D tU n K r := ⟨B.exec, B.bytes, hml, findClass_of_methodNamed B.named, atoms_spec (ws := wsX12_streetNow) B.pre, hv.2.2, hG⟩
  have hr := B.returns
  have hlk := B.notSynchronized
  obtain ⟨hx, hb, hml, hown, hts, hst, hG⟩ := id C0
  have hiX12 : ∀ w ∈ u_ws RX12 TX12 51, w ∈ wsX12_streetNow := hiX12_X12_streetNow
  have w := jDy.start hv
  have hl := lv_entry ([.ref (b + x0), .int x1, .int x2]) (n := 3) (Nat.le_of_ble_eq_true rfl)
  rw [lg_entry_eq]
  generalize (lg_sl ([.ref (b + x0), .int x1, .int x2]) ++ List.replicate (3 - (lg_sl ([.ref (b + x0), .int x1, .int x2])).length) Slot.unset).toArray = ls at hl ⊢
  replace hl : lv_has ls 3 [(0, .ref (b + x0)), (1, .int x1), (2, .int x2)] := hl
  show W p l e rm_X12_streetNow s m _ below meth c s.heap [] 0 0 _ (F0 m 0 ls [])
  rw [J_X12_streetNow] at h
  refine lv_iload_n hx hb dX12_streetNow_0 rfl (lv_at hl 2 rfl) ?_
  refine lv_if_ne (tgt := 13) hx hb dX12_streetNow_1 (by decide) (fun hc => ?_) (fun hc => ?_)
  · replace h := h.1 hc
    clear hc
    refine lv_iload_n hx hb dX12_streetNow_13 rfl (lv_at hl 2 rfl) ?_
    refine lv_iconst (v := (1 : Int32)) hx hb dX12_streetNow_14 (by decide) ?_
    refine lv_icmp_ne (tgt := 27) hx hb dX12_streetNow_15 (by decide) (fun hc => ?_) (fun hc => ?_)
    · replace h := h.1 hc
      clear hc
      refine lv_iload_n hx hb dX12_streetNow_27 rfl (lv_at hl 2 rfl) ?_
      refine lv_iconst (v := (2 : Int32)) hx hb dX12_streetNow_28 (by decide) ?_
      refine lv_icmp_ne (tgt := 41) hx hb dX12_streetNow_29 (by decide) (fun hc => ?_) (fun hc => ?_)
      · replace h := h.1 hc
        clear hc
        refine lv_aload_n hx hb dX12_streetNow_41 rfl (lv_at hl 0 rfl) ?_
        obtain ⟨a42, hr0, h⟩ := h
        refine jgr (f := 4) hx hb hts hown hst w hG hx0 hiX12 (rfl : vwCl[11]? = some (RX12, TX12, 51)) (hts (.fieldLink RX12 19 "FootByGateModel" "gateOf" "[I") (by decide +kernel)) ⟨by decide, by decide, rfl⟩ (rfl : jrt 11 4 = 13) dX12_streetNow_42 hr0 (fun ha42 => ?_)
        clear hr0
        refine lv_iload_n hx hb dX12_streetNow_45 rfl (lv_at hl 1 rfl) ?_
        obtain ⟨hn, h⟩ := h
        refine jaid hx hb hst w ha42 hn dX12_streetNow_46 ?_
        clear hn
        exact jret_i hx hb hr hlk hst w h dX12_streetNow_47
      · replace h := h.2 hc
        clear hc
        refine lv_aload_n hx hb dX12_streetNow_32 rfl (lv_at hl 0 rfl) ?_
        obtain ⟨a33, hr0, h⟩ := h
        refine jgr (f := 3) hx hb hts hown hst w hG hx0 hiX12 (rfl : vwCl[11]? = some (RX12, TX12, 51)) (hts (.fieldLink RX12 16 "FootByGateModel" "pacesOf" "[I") (by decide +kernel)) ⟨by decide, by decide, rfl⟩ (rfl : jrt 11 3 = 13) dX12_streetNow_33 hr0 (fun ha33 => ?_)
        clear hr0
        refine lv_iload_n hx hb dX12_streetNow_36 rfl (lv_at hl 1 rfl) ?_
        obtain ⟨hn, h⟩ := h
        refine jaid hx hb hst w ha33 hn dX12_streetNow_37 ?_
        clear hn
        refine lv_goto (tgt := 47) hx hb dX12_streetNow_38 (by decide) ?_
        exact jret_i hx hb hr hlk hst w h dX12_streetNow_47
    · replace h := h.2 hc
      clear hc
      refine lv_aload_n hx hb dX12_streetNow_18 rfl (lv_at hl 0 rfl) ?_
      obtain ⟨a19, hr0, h⟩ := h
      refine jgr (f := 2) hx hb hts hown hst w hG hx0 hiX12 (rfl : vwCl[11]? = some (RX12, TX12, 51)) (hts (.fieldLink RX12 13 "FootByGateModel" "placeB" "[I") (by decide +kernel)) ⟨by decide, by decide, rfl⟩ (rfl : jrt 11 2 = 13) dX12_streetNow_19 hr0 (fun ha19 => ?_)
      clear hr0
      refine lv_iload_n hx hb dX12_streetNow_22 rfl (lv_at hl 1 rfl) ?_
      obtain ⟨hn, h⟩ := h
      refine jaid hx hb hst w ha19 hn dX12_streetNow_23 ?_
      clear hn
      refine lv_goto (tgt := 47) hx hb dX12_streetNow_24 (by decide) ?_
      exact jret_i hx hb hr hlk hst w h dX12_streetNow_47
  · replace h := h.2 hc
    clear hc
    refine lv_aload_n hx hb dX12_streetNow_4 rfl (lv_at hl 0 rfl) ?_
    obtain ⟨a5, hr0, h⟩ := h
    refine jgr (f := 1) hx hb hts hown hst w hG hx0 hiX12 (rfl : vwCl[11]? = some (RX12, TX12, 51)) (hts (.fieldLink RX12 7 "FootByGateModel" "placeA" "[I") (by decide +kernel)) ⟨by decide, by decide, rfl⟩ (rfl : jrt 11 1 = 13) dX12_streetNow_5 hr0 (fun ha5 => ?_)
    clear hr0
    refine lv_iload_n hx hb dX12_streetNow_8 rfl (lv_at hl 1 rfl) ?_
    obtain ⟨hn, h⟩ := h
    refine jaid hx hb hst w ha5 hn dX12_streetNow_9 ?_
    clear hn
    refine lv_goto (tgt := 47) hx hb dX12_streetNow_10 (by decide) ?_
    exact jret_i hx hb hr hlk hst w h dX12_streetNow_47
end S_X12_streetNow
section S_X12_leaves
def J_X12_leaves_L255 (len : Nat → Nat) (r : jR) (Q : Int32 → jI → jL → Prop) (Hd50 : jI → jL → Nat → Int32 → Int32 → Int32 → Prop) (Hd93 : jI → jL → Nat → Int32 → Int32 → Int32 → Int32 → Int32 → Int32 → Prop) (i : jI) (j : jL) (x0 : Nat) (x1 : Int32) (x2 : Int32) (x3 : Int32) (x4 : Int32) (x5 : Int32) (x6 : Int32) : Prop := ∀ v255 : Int32, v255 = x6 + (1 : Int32) → (Hd93 i j x0 x1 x2 x3 x4 x5 v255)
def J_X12_leaves_L218 (len : Nat → Nat) (r : jR) (Q : Int32 → jI → jL → Prop) (Hd50 : jI → jL → Nat → Int32 → Int32 → Int32 → Prop) (Hd93 : jI → jL → Nat → Int32 → Int32 → Int32 → Int32 → Int32 → Int32 → Prop) (i : jI) (j : jL) (x0 : Nat) (x1 : Int32) (x2 : Int32) (x3 : Int32) (x4 : Int32) (x5 : Int32) (x6 : Int32) (t0 : Int32) : Prop := ((t0 = (-1 : Int32)) → (J_X12_leaves_L255 len r Q Hd50 Hd93 i j x0 x1 x2 x3 x4 x5 x6)) ∧ ((¬ t0 = (-1 : Int32)) → (∃ a227, r x0 39 = some a227 ∧ (vp_in t0 (len a227) ∧ (((¬ (i a227 t0.toNatClampNeg) = 0) → (J_X12_leaves_L255 len r Q Hd50 Hd93 i j x0 x1 x2 x3 x4 x5 x6)) ∧ (((i a227 t0.toNatClampNeg) = 0) → (∃ a237, r x0 39 = some a237 ∧ (vp_in t0 (len a237) ∧ ∀ i243 : jI, i243 = ju i a237 t0.toNatClampNeg (vp_nar .boolean (1 : Int32)) → (∃ a245, r x0 40 = some a245 ∧ (vp_in x2 (len a245) ∧ ∀ i251 : jI, i251 = ju i243 a245 x2.toNatClampNeg t0 → (∀ v252 : Int32, v252 = x2 + (1 : Int32) → (J_X12_leaves_L255 len r Q Hd50 Hd93 i251 j x0 x1 v252 x3 x4 x5 x6)))))))))))
def J_X12_leaves_L144 (len : Nat → Nat) (r : jR) (Q : Int32 → jI → jL → Prop) (Hd50 : jI → jL → Nat → Int32 → Int32 → Int32 → Prop) (Hd93 : jI → jL → Nat → Int32 → Int32 → Int32 → Int32 → Int32 → Int32 → Prop) (i : jI) (j : jL) (x0 : Nat) (x1 : Int32) (x2 : Int32) (x3 : Int32) (x4 : Int32) (x5 : Int32) (x6 : Int32) (x7 : Int32) (t0 : Int32) : Prop := ∃ a148, r x0 4 = some a148 ∧ (vp_in x6 (len a148) ∧ (J_X12_footIn len r (fun (q162 : Int32) (i162 : jI) (j162 : jL) => ∀ v166 : Int32, v166 = (((4 : Int32) * (i a148 x6.toNatClampNeg)) + ((2 : Int32) * t0)) + q162 → (∃ a169, r x0 4 = some a169 ∧ (vp_in x6 (len a169) ∧ (((¬ (i162 a169 x6.toNatClampNeg) = (-1 : Int32)) → (∃ a194, r x0 13 = some a194 ∧ (vp_in x4 (len a194) ∧ (((¬ v166 = (i162 a194 x4.toNatClampNeg)) → (J_X12_leaves_L218 len r Q Hd50 Hd93 i162 j162 x0 x1 x2 x3 x4 x5 x6 (-1 : Int32))) ∧ ((v166 = (i162 a194 x4.toNatClampNeg)) → (J_X12_leaves_L218 len r Q Hd50 Hd93 i162 j162 x0 x1 x2 x3 x4 x5 x6 (((378 : Int32) * (x4 + (1 : Int32))) + x7))))))) ∧ (((i162 a169 x6.toNatClampNeg) = (-1 : Int32)) → (J_X12_leaves_L218 len r Q Hd50 Hd93 i162 j162 x0 x1 x2 x3 x4 x5 x6 (((378 : Int32) * x4) + x7))))))) i j x7))
def J_X12_leaves_L93 (len : Nat → Nat) (r : jR) (Q : Int32 → jI → jL → Prop) (Hd50 : jI → jL → Nat → Int32 → Int32 → Int32 → Prop) : Nat → jI → jL → Nat → Int32 → Int32 → Int32 → Int32 → Int32 → Int32 → Prop
  | 0 => fun _ _ _ _ _ _ _ _ _ => False
  | g + 1 => fun i j x0 x1 x2 x3 x4 x5 x6 => (((i x0 0) ≤ x6) → (∀ v261 : Int32, v261 = x3 + (1 : Int32) → (Hd50 i j x0 x1 x2 v261))) ∧ ((¬ (i x0 0) ≤ x6) → (∃ a104, r x0 9 = some a104 ∧ (vp_in x1 (len a104) ∧ (J_X12_behind len r (fun (q113 : Int32) (i113 : jI) (j113 : jL) => ((q113 = (-1 : Int32)) → (J_X12_leaves_L255 len r Q Hd50 (J_X12_leaves_L93 len r Q Hd50 g) i113 j113 x0 x1 x2 x3 x4 x5 x6)) ∧ ((¬ q113 = (-1 : Int32)) → (∃ a125, r x0 1 = some a125 ∧ (vp_in x6 (len a125) ∧ (J_X12_placeIn len r (fun (q133 : Int32) (i133 : jI) (j133 : jL) => ((¬ (i113 a125 x6.toNatClampNeg) = q133) → (J_X12_leaves_L144 len r Q Hd50 (J_X12_leaves_L93 len r Q Hd50 g) i133 j133 x0 x1 x2 x3 x4 x5 x6 q113 (1 : Int32))) ∧ (((i113 a125 x6.toNatClampNeg) = q133) → (J_X12_leaves_L144 len r Q Hd50 (J_X12_leaves_L93 len r Q Hd50 g) i133 j133 x0 x1 x2 x3 x4 x5 x6 q113 (0 : Int32)))) i113 j113 x5))))) i j x0 (i a104 x1.toNatClampNeg) x5 x6))))
def J_X12_leaves_L50 (len : Nat → Nat) (r : jR) (Q : Int32 → jI → jL → Prop) : Nat → jI → jL → Nat → Int32 → Int32 → Int32 → Prop
  | 0 => fun _ _ _ _ _ _ => False
  | g + 1 => fun i j x0 x1 x2 x3 => ((x2 ≤ x3) → (Q (0 : Int32) i j)) ∧ ((¬ x2 ≤ x3) → (∃ a56, r x0 40 = some a56 ∧ (vp_in x3 (len a56) ∧ (∀ v65 : Int32, v65 = (i a56 x3.toNatClampNeg) / (378 : Int32) → (∃ a68, r x0 40 = some a68 ∧ (vp_in x3 (len a68) ∧ (∀ v77 : Int32, v77 = (i a68 x3.toNatClampNeg) - (i a68 x3.toNatClampNeg) / (378 : Int32) * (378 : Int32) → (((¬ v65 = (i x0 12)) → (∃ g0, J_X12_leaves_L93 len r Q (J_X12_leaves_L50 len r Q g) g0 i j x0 x1 x2 x3 v65 v77 (0 : Int32))) ∧ ((v65 = (i x0 12)) → (Q (1 : Int32) i j))))))))))
def J_X12_leaves_L2 (len : Nat → Nat) (r : jR) (Q : Int32 → jI → jL → Prop) : Nat → jI → jL → Nat → Int32 → Int32 → Prop
  | 0 => fun _ _ _ _ _ => False
  | g + 1 => fun i j x0 x1 x2 => (((2646 : Int32) ≤ x2) → (∃ a23, r x0 39 = some a23 ∧ (∃ a27, r x0 10 = some a27 ∧ (vp_in x1 (len a27) ∧ (vp_in (i a27 x1.toNatClampNeg) (len a23) ∧ ∀ i33 : jI, i33 = ju i a23 (i a27 x1.toNatClampNeg).toNatClampNeg (vp_nar .boolean (1 : Int32)) → (∃ a35, r x0 40 = some a35 ∧ (∃ a40, r x0 10 = some a40 ∧ (vp_in x1 (len a40) ∧ (vp_in (0 : Int32) (len a35) ∧ ∀ i45 : jI, i45 = ju i33 a35 (0 : Int32).toNatClampNeg (i33 a40 x1.toNatClampNeg) → (∃ g0, J_X12_leaves_L50 len r Q g0 i45 j x0 x1 (1 : Int32) (0 : Int32))))))))))) ∧ ((¬ (2646 : Int32) ≤ x2) → (∃ a10, r x0 39 = some a10 ∧ (vp_in x2 (len a10) ∧ ∀ i15 : jI, i15 = ju i a10 x2.toNatClampNeg (vp_nar .boolean (0 : Int32)) → (∀ v16 : Int32, v16 = x2 + (1 : Int32) → ((J_X12_leaves_L2 len r Q g) i15 j x0 x1 v16)))))
def J_X12_leaves (len : Nat → Nat) (r : jR) (Q : Int32 → jI → jL → Prop) (i : jI) (j : jL) (x0 : Nat) (x1 : Int32) : Prop := ∃ g0, J_X12_leaves_L2 len r Q g0 i j x0 x1 (0 : Int32)
abbrev rm_X12_leaves : Room := { frames := 3, cells := 0, slots := 0, locals := 71 }
variable {p : Program} {l : Launch} {e : Env} {s : State} {m : MethodId} {args : Array Value} {below : List Frame} {meth : Method} {c : Code} {b tU n : Nat} {cy : Nat → ClassId} {D : va_G} {K len : Nat → Nat} {r : jR} {Q : Int32 → jI → jL → Prop}
theorem hiX12_X12_leaves : ∀ w ∈ u_ws RX12 TX12 51, w ∈ wsX12_leaves := by decide +kernel
set_option maxHeartbeats 4000000 in
set_option maxRecDepth 100000 in
theorem w_X12_leaves_L255 (C0 : jCx p s m args c cX12_leaves 11 wsX12_leaves RX12 b cy D tU n K r) (hr : meth.sig.returnType = some .boolean) (hlk : meth.locks = false) {Hd50 : jI → jL → Nat → Int32 → Int32 → Int32 → Prop} (k50 : ∀ {H : Heap} {locs : List Loc} {ls : Array Slot} {i : jI} {j : jL} {x0 : Nat} {x1 : Int32} {x2 : Int32} {x3 : Int32} (w : jDy b cy D n K len r i j s H locs) (hx0 : x0 < n ∧ K x0 = 11) (hl : lv_has ls 11 [(0, .ref (b + x0)), (1, .int x1), (2, .int x2), (3, .int x3)]) (h : Hd50 i j x0 x1 x2 x3), W p l e rm_X12_leaves s m args below meth c H locs 0 0 (MQ below (jQi b cy D tU n K len r Q) args s 0 0 (jA b)) (F0 m 50 ls [])) {Hd93 : jI → jL → Nat → Int32 → Int32 → Int32 → Int32 → Int32 → Int32 → Prop} (k93 : ∀ {H : Heap} {locs : List Loc} {ls : Array Slot} {i : jI} {j : jL} {x0 : Nat} {x1 : Int32} {x2 : Int32} {x3 : Int32} {x4 : Int32} {x5 : Int32} {x6 : Int32} (w : jDy b cy D n K len r i j s H locs) (hx0 : x0 < n ∧ K x0 = 11) (hl : lv_has ls 11 [(0, .ref (b + x0)), (1, .int x1), (2, .int x2), (3, .int x3), (4, .int x4), (5, .int x5), (6, .int x6)]) (h : Hd93 i j x0 x1 x2 x3 x4 x5 x6), W p l e rm_X12_leaves s m args below meth c H locs 0 0 (MQ below (jQi b cy D tU n K len r Q) args s 0 0 (jA b)) (F0 m 93 ls [])) {H : Heap} {locs : List Loc} {ls : Array Slot} {i : jI} {j : jL} {x0 : Nat} {x1 : Int32} {x2 : Int32} {x3 : Int32} {x4 : Int32} {x5 : Int32} {x6 : Int32} (w : jDy b cy D n K len r i j s H locs) (hx0 : x0 < n ∧ K x0 = 11) (hl : lv_has ls 11 [(0, .ref (b + x0)), (1, .int x1), (2, .int x2), (3, .int x3), (4, .int x4), (5, .int x5), (6, .int x6)]) (h : J_X12_leaves_L255 len r Q Hd50 Hd93 i j x0 x1 x2 x3 x4 x5 x6) : W p l e rm_X12_leaves s m args below meth c H locs 0 0 (MQ below (jQi b cy D tU n K len r Q) args s 0 0 (jA b)) (F0 m 255 ls []) := by
  obtain ⟨hx, hb, hml, hown, hts, hst, hG⟩ := id C0
  have hiX12 : ∀ w ∈ u_ws RX12 TX12 51, w ∈ wsX12_leaves := hiX12_X12_leaves
  rw [J_X12_leaves_L255] at h
  obtain ⟨v255, he⟩ : ∃ z : Int32, z = x6 + (1 : Int32) := ⟨_, rfl⟩
  replace h := h v255 he
  refine lv_iinc (v := v255) (lv' := [(6, .int v255), (0, .ref (b + x0)), (1, .int x1), (2, .int x2), (3, .int x3), (4, .int x4), (5, .int x5)]) hx hb dX12_leaves_255 hl (k := 6) rfl (by rw [he]; rfl) (by decide) rfl (fun ls hl => ?_)
  clear he
  refine lv_goto (tgt := 93) hx hb dX12_leaves_258 (by decide) ?_
  exact k93 w hx0 (lv_sub hl [1, 2, 3, 4, 5, 6, 0] rfl) h
set_option maxHeartbeats 4000000 in
set_option maxRecDepth 100000 in
theorem w_X12_leaves_L218 (C0 : jCx p s m args c cX12_leaves 11 wsX12_leaves RX12 b cy D tU n K r) (hr : meth.sig.returnType = some .boolean) (hlk : meth.locks = false) {Hd50 : jI → jL → Nat → Int32 → Int32 → Int32 → Prop} (k50 : ∀ {H : Heap} {locs : List Loc} {ls : Array Slot} {i : jI} {j : jL} {x0 : Nat} {x1 : Int32} {x2 : Int32} {x3 : Int32} (w : jDy b cy D n K len r i j s H locs) (hx0 : x0 < n ∧ K x0 = 11) (hl : lv_has ls 11 [(0, .ref (b + x0)), (1, .int x1), (2, .int x2), (3, .int x3)]) (h : Hd50 i j x0 x1 x2 x3), W p l e rm_X12_leaves s m args below meth c H locs 0 0 (MQ below (jQi b cy D tU n K len r Q) args s 0 0 (jA b)) (F0 m 50 ls [])) {Hd93 : jI → jL → Nat → Int32 → Int32 → Int32 → Int32 → Int32 → Int32 → Prop} (k93 : ∀ {H : Heap} {locs : List Loc} {ls : Array Slot} {i : jI} {j : jL} {x0 : Nat} {x1 : Int32} {x2 : Int32} {x3 : Int32} {x4 : Int32} {x5 : Int32} {x6 : Int32} (w : jDy b cy D n K len r i j s H locs) (hx0 : x0 < n ∧ K x0 = 11) (hl : lv_has ls 11 [(0, .ref (b + x0)), (1, .int x1), (2, .int x2), (3, .int x3), (4, .int x4), (5, .int x5), (6, .int x6)]) (h : Hd93 i j x0 x1 x2 x3 x4 x5 x6), W p l e rm_X12_leaves s m args below meth c H locs 0 0 (MQ below (jQi b cy D tU n K len r Q) args s 0 0 (jA b)) (F0 m 93 ls [])) {H : Heap} {locs : List Loc} {ls : Array Slot} {i : jI} {j : jL} {x0 : Nat} {x1 : Int32} {x2 : Int32} {x3 : Int32} {x4 : Int32} {x5 : Int32} {x6 : Int32} {t0 : Int32} (w : jDy b cy D n K len r i j s H locs) (hx0 : x0 < n ∧ K x0 = 11) (hl : lv_has ls 11 [(0, .ref (b + x0)), (1, .int x1), (2, .int x2), (3, .int x3), (4, .int x4), (5, .int x5), (6, .int x6)]) (h : J_X12_leaves_L218 len r Q Hd50 Hd93 i j x0 x1 x2 x3 x4 x5 x6 t0) : W p l e rm_X12_leaves s m args below meth c H locs 0 0 (MQ below (jQi b cy D tU n K len r Q) args s 0 0 (jA b)) (F0 m 218 ls [.int t0]) := by
  obtain ⟨hx, hb, hml, hown, hts, hst, hG⟩ := id C0
  have hiX12 : ∀ w ∈ u_ws RX12 TX12 51, w ∈ wsX12_leaves := hiX12_X12_leaves
  rw [J_X12_leaves_L218] at h
  refine lv_istore (lv' := [(10, .int t0), (0, .ref (b + x0)), (1, .int x1), (2, .int x2), (3, .int x3), (4, .int x4), (5, .int x5), (6, .int x6)]) hx hb dX12_leaves_218 hl (by decide) rfl (fun ls hl => ?_)
  refine lv_iload hx hb dX12_leaves_220 (lv_at hl 0 rfl) ?_
  refine lv_iconst (v := (-1 : Int32)) hx hb dX12_leaves_222 (by decide) ?_
  refine lv_icmp_eq (tgt := 255) hx hb dX12_leaves_223 (by decide) (fun hc => ?_) (fun hc => ?_)
  · replace h := h.1 hc
    clear hc
    exact w_X12_leaves_L255 C0 hr hlk (fun w hx0 hl h => k50 w hx0 hl h) (fun w hx0 hl h => k93 w hx0 hl h) w hx0 (lv_sub hl [1, 2, 3, 4, 5, 6, 7] rfl) h
  · replace h := h.2 hc
    clear hc
    refine lv_aload_n hx hb dX12_leaves_226 rfl (lv_at hl 1 rfl) ?_
    obtain ⟨a227, hr0, h⟩ := h
    refine jgr (f := 39) hx hb hts hown hst w hG hx0 hiX12 (rfl : vwCl[11]? = some (RX12, TX12, 51)) (hts (.fieldLink RX12 75 "FootByGateModel" "canBe" "[Z") (by decide +kernel)) ⟨by decide, by decide, rfl⟩ (rfl : jrt 11 39 = 15) dX12_leaves_227 hr0 (fun ha227 => ?_)
    clear hr0
    refine lv_iload hx hb dX12_leaves_230 (lv_at hl 0 rfl) ?_
    obtain ⟨hn, h⟩ := h
    refine jazd hx hb hst w ha227 hn dX12_leaves_232 ?_
    clear hn
    refine lv_if_ne (tgt := 255) hx hb dX12_leaves_233 (by decide) (fun hc => ?_) (fun hc => ?_)
    · replace h := h.1 hc
      clear hc
      exact w_X12_leaves_L255 C0 hr hlk (fun w hx0 hl h => k50 w hx0 hl h) (fun w hx0 hl h => k93 w hx0 hl h) w hx0 (lv_sub hl [1, 2, 3, 4, 5, 6, 7] rfl) h
    · replace h := h.2 hc
      clear hc
      refine lv_aload_n hx hb dX12_leaves_236 rfl (lv_at hl 1 rfl) ?_
      obtain ⟨a237, hr0, h⟩ := h
      refine jgr (f := 39) hx hb hts hown hst w hG hx0 hiX12 (rfl : vwCl[11]? = some (RX12, TX12, 51)) (hts (.fieldLink RX12 75 "FootByGateModel" "canBe" "[Z") (by decide +kernel)) ⟨by decide, by decide, rfl⟩ (rfl : jrt 11 39 = 15) dX12_leaves_237 hr0 (fun ha237 => ?_)
      clear hr0
      refine lv_iload hx hb dX12_leaves_240 (lv_at hl 0 rfl) ?_
      refine lv_iconst (v := (1 : Int32)) hx hb dX12_leaves_242 (by decide) ?_
      obtain ⟨hn, h⟩ := h
      refine jazs hx hb hst w ha237 hn dX12_leaves_243 (fun i243 H locs he w => ?_)
      replace h := h i243 he
      clear he hn
      refine lv_aload_n hx hb dX12_leaves_244 rfl (lv_at hl 1 rfl) ?_
      obtain ⟨a245, hr0, h⟩ := h
      refine jgr (f := 40) hx hb hts hown hst w hG hx0 hiX12 (rfl : vwCl[11]? = some (RX12, TX12, 51)) (hts (.fieldLink RX12 78 "FootByGateModel" "canQueue" "[I") (by decide +kernel)) ⟨by decide, by decide, rfl⟩ (rfl : jrt 11 40 = 13) dX12_leaves_245 hr0 (fun ha245 => ?_)
      clear hr0
      refine lv_iload_n hx hb dX12_leaves_248 rfl (lv_at hl 3 rfl) ?_
      refine lv_iload hx hb dX12_leaves_249 (lv_at hl 0 rfl) ?_
      obtain ⟨hn, h⟩ := h
      refine jais hx hb hst w ha245 hn dX12_leaves_251 (fun i251 H locs he w => ?_)
      replace h := h i251 he
      clear he hn
      obtain ⟨v252, he⟩ : ∃ z : Int32, z = x2 + (1 : Int32) := ⟨_, rfl⟩
      replace h := h v252 he
      refine lv_iinc (v := v252) (lv' := [(2, .int v252), (10, .int t0), (0, .ref (b + x0)), (1, .int x1), (3, .int x3), (4, .int x4), (5, .int x5), (6, .int x6)]) hx hb dX12_leaves_252 hl (k := 3) rfl (by rw [he]; rfl) (by decide) rfl (fun ls hl => ?_)
      clear he
      exact w_X12_leaves_L255 C0 hr hlk (fun w hx0 hl h => k50 w hx0 hl h) (fun w hx0 hl h => k93 w hx0 hl h) w hx0 (lv_sub hl [2, 3, 0, 4, 5, 6, 7] rfl) h
set_option maxHeartbeats 4000000 in
set_option maxRecDepth 100000 in
theorem w_X12_leaves_L144 (C0 : jCx p s m args c cX12_leaves 11 wsX12_leaves RX12 b cy D tU n K r) (hr : meth.sig.returnType = some .boolean) (hlk : meth.locks = false) {Hd50 : jI → jL → Nat → Int32 → Int32 → Int32 → Prop} (k50 : ∀ {H : Heap} {locs : List Loc} {ls : Array Slot} {i : jI} {j : jL} {x0 : Nat} {x1 : Int32} {x2 : Int32} {x3 : Int32} (w : jDy b cy D n K len r i j s H locs) (hx0 : x0 < n ∧ K x0 = 11) (hl : lv_has ls 11 [(0, .ref (b + x0)), (1, .int x1), (2, .int x2), (3, .int x3)]) (h : Hd50 i j x0 x1 x2 x3), W p l e rm_X12_leaves s m args below meth c H locs 0 0 (MQ below (jQi b cy D tU n K len r Q) args s 0 0 (jA b)) (F0 m 50 ls [])) {Hd93 : jI → jL → Nat → Int32 → Int32 → Int32 → Int32 → Int32 → Int32 → Prop} (k93 : ∀ {H : Heap} {locs : List Loc} {ls : Array Slot} {i : jI} {j : jL} {x0 : Nat} {x1 : Int32} {x2 : Int32} {x3 : Int32} {x4 : Int32} {x5 : Int32} {x6 : Int32} (w : jDy b cy D n K len r i j s H locs) (hx0 : x0 < n ∧ K x0 = 11) (hl : lv_has ls 11 [(0, .ref (b + x0)), (1, .int x1), (2, .int x2), (3, .int x3), (4, .int x4), (5, .int x5), (6, .int x6)]) (h : Hd93 i j x0 x1 x2 x3 x4 x5 x6), W p l e rm_X12_leaves s m args below meth c H locs 0 0 (MQ below (jQi b cy D tU n K len r Q) args s 0 0 (jA b)) (F0 m 93 ls [])) {H : Heap} {locs : List Loc} {ls : Array Slot} {i : jI} {j : jL} {x0 : Nat} {x1 : Int32} {x2 : Int32} {x3 : Int32} {x4 : Int32} {x5 : Int32} {x6 : Int32} {x7 : Int32} {t0 : Int32} (w : jDy b cy D n K len r i j s H locs) (hx0 : x0 < n ∧ K x0 = 11) (hl : lv_has ls 11 [(0, .ref (b + x0)), (1, .int x1), (2, .int x2), (3, .int x3), (4, .int x4), (5, .int x5), (6, .int x6), (7, .int x7)]) (h : J_X12_leaves_L144 len r Q Hd50 Hd93 i j x0 x1 x2 x3 x4 x5 x6 x7 t0) : W p l e rm_X12_leaves s m args below meth c H locs 0 0 (MQ below (jQi b cy D tU n K len r Q) args s 0 0 (jA b)) (F0 m 144 ls [.int t0]) := by
  obtain ⟨hx, hb, hml, hown, hts, hst, hG⟩ := id C0
  have hiX12 : ∀ w ∈ u_ws RX12 TX12 51, w ∈ wsX12_leaves := hiX12_X12_leaves
  rw [J_X12_leaves_L144] at h
  refine lv_istore (lv' := [(8, .int t0), (0, .ref (b + x0)), (1, .int x1), (2, .int x2), (3, .int x3), (4, .int x4), (5, .int x5), (6, .int x6), (7, .int x7)]) hx hb dX12_leaves_144 hl (by decide) rfl (fun ls hl => ?_)
  refine lv_iconst (v := (4 : Int32)) hx hb dX12_leaves_146 (by decide) ?_
  refine lv_aload_n hx hb dX12_leaves_147 rfl (lv_at hl 1 rfl) ?_
  obtain ⟨a148, hr0, h⟩ := h
  refine jgr (f := 4) hx hb hts hown hst w hG hx0 hiX12 (rfl : vwCl[11]? = some (RX12, TX12, 51)) (hts (.fieldLink RX12 19 "FootByGateModel" "gateOf" "[I") (by decide +kernel)) ⟨by decide, by decide, rfl⟩ (rfl : jrt 11 4 = 13) dX12_leaves_148 hr0 (fun ha148 => ?_)
  clear hr0
  refine lv_iload hx hb dX12_leaves_151 (lv_at hl 7 rfl) ?_
  obtain ⟨hn, h⟩ := h
  refine jaid hx hb hst w ha148 hn dX12_leaves_153 ?_
  clear hn
  refine lv_imul hx hb dX12_leaves_154 ?_
  refine lv_iconst (v := (2 : Int32)) hx hb dX12_leaves_155 (by decide) ?_
  refine lv_iload hx hb dX12_leaves_156 (lv_at hl 0 rfl) ?_
  refine lv_imul hx hb dX12_leaves_158 ?_
  refine lv_iadd hx hb dX12_leaves_159 ?_
  refine lv_iload hx hb dX12_leaves_160 (lv_at hl 8 rfl) ?_
  refine jcS_i (As := [.int x7]) (rest := [.int (((4 : Int32) * (i a148 x6.toNatClampNeg)) + ((2 : Int32) * t0))]) C0 w (c_X12_footIn hG h) (va_cwS 1 hts gX12_leaves_X12_footIn rfl rfl rfl (by decide +kernel) ⟨Nat.le_of_ble_eq_true rfl, Nat.le_of_ble_eq_true rfl⟩) rfl hl.1 rfl (Nat.le_of_ble_eq_true rfl) dX12_leaves_162 (fun q162 i162 j162 H locs h w => ?_) ⟨Nat.zero_le _, Nat.zero_le _⟩
  refine lv_iadd hx hb dX12_leaves_165 ?_
  refine lv_topi (fun v166 he => ?_)
  replace h := h v166 he
  clear he
  refine lv_istore (lv' := [(9, .int v166), (8, .int t0), (0, .ref (b + x0)), (1, .int x1), (2, .int x2), (3, .int x3), (4, .int x4), (5, .int x5), (6, .int x6), (7, .int x7)]) hx hb dX12_leaves_166 hl (by decide) rfl (fun ls hl => ?_)
  refine lv_aload_n hx hb dX12_leaves_168 rfl (lv_at hl 2 rfl) ?_
  obtain ⟨a169, hr0, h⟩ := h
  refine jgr (f := 4) hx hb hts hown hst w hG hx0 hiX12 (rfl : vwCl[11]? = some (RX12, TX12, 51)) (hts (.fieldLink RX12 19 "FootByGateModel" "gateOf" "[I") (by decide +kernel)) ⟨by decide, by decide, rfl⟩ (rfl : jrt 11 4 = 13) dX12_leaves_169 hr0 (fun ha169 => ?_)
  clear hr0
  refine lv_iload hx hb dX12_leaves_172 (lv_at hl 8 rfl) ?_
  obtain ⟨hn, h⟩ := h
  refine jaid hx hb hst w ha169 hn dX12_leaves_174 ?_
  clear hn
  refine lv_iconst (v := (-1 : Int32)) hx hb dX12_leaves_175 (by decide) ?_
  refine lv_icmp_ne (tgt := 191) hx hb dX12_leaves_176 (by decide) (fun hc => ?_) (fun hc => ?_)
  · replace h := h.1 hc
    clear hc
    refine lv_iload hx hb dX12_leaves_191 (lv_at hl 0 rfl) ?_
    refine lv_aload_n hx hb dX12_leaves_193 rfl (lv_at hl 2 rfl) ?_
    obtain ⟨a194, hr0, h⟩ := h
    refine jgr (f := 13) hx hb hts hown hst w hG hx0 hiX12 (rfl : vwCl[11]? = some (RX12, TX12, 51)) (hts (.fieldLink RX12 31 "FootByGateModel" "printOf" "[I") (by decide +kernel)) ⟨by decide, by decide, rfl⟩ (rfl : jrt 11 13 = 13) dX12_leaves_194 hr0 (fun ha194 => ?_)
    clear hr0
    refine lv_iload hx hb dX12_leaves_197 (lv_at hl 6 rfl) ?_
    obtain ⟨hn, h⟩ := h
    refine jaid hx hb hst w ha194 hn dX12_leaves_199 ?_
    clear hn
    refine lv_icmp_ne (tgt := 217) hx hb dX12_leaves_200 (by decide) (fun hc => ?_) (fun hc => ?_)
    · replace h := h.1 hc
      clear hc
      refine lv_iconst (v := (-1 : Int32)) hx hb dX12_leaves_217 (by decide) ?_
      exact w_X12_leaves_L218 C0 hr hlk (fun w hx0 hl h => k50 w hx0 hl h) (fun w hx0 hl h => k93 w hx0 hl h) w hx0 (lv_sub hl [2, 3, 4, 5, 6, 7, 8] rfl) h
    · replace h := h.2 hc
      clear hc
      refine lv_sipush (v := (378 : Int32)) hx hb dX12_leaves_203 (by decide) ?_
      refine lv_iload hx hb dX12_leaves_206 (lv_at hl 6 rfl) ?_
      refine lv_iconst (v := (1 : Int32)) hx hb dX12_leaves_208 (by decide) ?_
      refine lv_iadd hx hb dX12_leaves_209 ?_
      refine lv_imul hx hb dX12_leaves_210 ?_
      refine lv_iload hx hb dX12_leaves_211 (lv_at hl 9 rfl) ?_
      refine lv_iadd hx hb dX12_leaves_213 ?_
      refine lv_goto (tgt := 218) hx hb dX12_leaves_214 (by decide) ?_
      exact w_X12_leaves_L218 C0 hr hlk (fun w hx0 hl h => k50 w hx0 hl h) (fun w hx0 hl h => k93 w hx0 hl h) w hx0 (lv_sub hl [2, 3, 4, 5, 6, 7, 8] rfl) h
  · replace h := h.2 hc
    clear hc
    refine lv_sipush (v := (378 : Int32)) hx hb dX12_leaves_179 (by decide) ?_
    refine lv_iload hx hb dX12_leaves_182 (lv_at hl 6 rfl) ?_
    refine lv_imul hx hb dX12_leaves_184 ?_
    refine lv_iload hx hb dX12_leaves_185 (lv_at hl 9 rfl) ?_
    refine lv_iadd hx hb dX12_leaves_187 ?_
    refine lv_goto (tgt := 218) hx hb dX12_leaves_188 (by decide) ?_
    exact w_X12_leaves_L218 C0 hr hlk (fun w hx0 hl h => k50 w hx0 hl h) (fun w hx0 hl h => k93 w hx0 hl h) w hx0 (lv_sub hl [2, 3, 4, 5, 6, 7, 8] rfl) h
set_option maxHeartbeats 4000000 in
set_option maxRecDepth 100000 in
theorem w_X12_leaves_L93 (C0 : jCx p s m args c cX12_leaves 11 wsX12_leaves RX12 b cy D tU n K r) (hr : meth.sig.returnType = some .boolean) (hlk : meth.locks = false) {Hd50 : jI → jL → Nat → Int32 → Int32 → Int32 → Prop} (k50 : ∀ {H : Heap} {locs : List Loc} {ls : Array Slot} {i : jI} {j : jL} {x0 : Nat} {x1 : Int32} {x2 : Int32} {x3 : Int32} (w : jDy b cy D n K len r i j s H locs) (hx0 : x0 < n ∧ K x0 = 11) (hl : lv_has ls 11 [(0, .ref (b + x0)), (1, .int x1), (2, .int x2), (3, .int x3)]) (h : Hd50 i j x0 x1 x2 x3), W p l e rm_X12_leaves s m args below meth c H locs 0 0 (MQ below (jQi b cy D tU n K len r Q) args s 0 0 (jA b)) (F0 m 50 ls [])) : ∀ (g : Nat) {H : Heap} {locs : List Loc} {ls : Array Slot} {i : jI} {j : jL} {x0 : Nat} {x1 : Int32} {x2 : Int32} {x3 : Int32} {x4 : Int32} {x5 : Int32} {x6 : Int32} (w : jDy b cy D n K len r i j s H locs) (hx0 : x0 < n ∧ K x0 = 11) (hl : lv_has ls 11 [(0, .ref (b + x0)), (1, .int x1), (2, .int x2), (3, .int x3), (4, .int x4), (5, .int x5), (6, .int x6)]) (h : J_X12_leaves_L93 len r Q Hd50 g i j x0 x1 x2 x3 x4 x5 x6), W p l e rm_X12_leaves s m args below meth c H locs 0 0 (MQ below (jQi b cy D tU n K len r Q) args s 0 0 (jA b)) (F0 m 93 ls []) := by
  obtain ⟨hx, hb, hml, hown, hts, hst, hG⟩ := id C0
  have hiX12 : ∀ w ∈ u_ws RX12 TX12 51, w ∈ wsX12_leaves := hiX12_X12_leaves
  intro g
  induction g with
  | zero => intro H locs ls i j x0 x1 x2 x3 x4 x5 x6 w hx0 hl h; exact False.elim h
  | succ g ih =>
    intro H locs ls i j x0 x1 x2 x3 x4 x5 x6 w hx0 hl h
    rw [J_X12_leaves_L93] at h
    refine lv_iload hx hb dX12_leaves_93 (lv_at hl 6 rfl) ?_
    refine lv_aload_n hx hb dX12_leaves_95 rfl (lv_at hl 0 rfl) ?_
    refine jgi (f := 0) hx hb hts hown hst w hx0 hiX12 (rfl : vwCl[11]? = some (RX12, TX12, 51)) (hts (.fieldLink RX12 126 "FootByGateModel" "streets" "I") (by decide +kernel)) ⟨by decide, by decide, rfl⟩ dX12_leaves_96 ?_
    refine lv_icmp_ge (tgt := 261) hx hb dX12_leaves_99 (by decide) (fun hc => ?_) (fun hc => ?_)
    · replace h := h.1 hc
      clear hc
      obtain ⟨v261, he⟩ : ∃ z : Int32, z = x3 + (1 : Int32) := ⟨_, rfl⟩
      replace h := h v261 he
      refine lv_iinc (v := v261) (lv' := [(3, .int v261), (0, .ref (b + x0)), (1, .int x1), (2, .int x2), (4, .int x4), (5, .int x5), (6, .int x6)]) hx hb dX12_leaves_261 hl (k := 3) rfl (by rw [he]; rfl) (by decide) rfl (fun ls hl => ?_)
      clear he
      refine lv_goto (tgt := 50) hx hb dX12_leaves_264 (by decide) ?_
      exact k50 w hx0 (lv_sub hl [1, 2, 3, 0] rfl) h
    · replace h := h.2 hc
      clear hc
      refine lv_aload_n hx hb dX12_leaves_102 rfl (lv_at hl 0 rfl) ?_
      refine lv_aload_n hx hb dX12_leaves_103 rfl (lv_at hl 0 rfl) ?_
      obtain ⟨a104, hr0, h⟩ := h
      refine jgr (f := 9) hx hb hts hown hst w hG hx0 hiX12 (rfl : vwCl[11]? = some (RX12, TX12, 51)) (hts (.fieldLink RX12 22 "FootByGateModel" "kindOf" "[I") (by decide +kernel)) ⟨by decide, by decide, rfl⟩ (rfl : jrt 11 9 = 13) dX12_leaves_104 hr0 (fun ha104 => ?_)
      clear hr0
      refine lv_iload_n hx hb dX12_leaves_107 rfl (lv_at hl 1 rfl) ?_
      obtain ⟨hn, h⟩ := h
      refine jaid hx hb hst w ha104 hn dX12_leaves_108 ?_
      clear hn
      refine lv_iload hx hb dX12_leaves_109 (lv_at hl 5 rfl) ?_
      refine lv_iload hx hb dX12_leaves_111 (lv_at hl 6 rfl) ?_
      refine jcV_i (k := x0) (As := [.int (i a104 x1.toNatClampNeg), .int x5, .int x6]) (rest := []) C0 w (c_X12_behind hG hx0 h) (cwV 3 hts gX12_leaves_X12_behind rfl rfl rfl (by decide +kernel) ⟨Nat.le_of_ble_eq_true rfl, Nat.le_of_ble_eq_true rfl⟩) hx0 (rfl : vwCl[11]? = some (RX12, TX12, 51)) (by decide) rfl hl.1 rfl (Nat.le_of_ble_eq_true rfl) dX12_leaves_113 (fun q113 i113 j113 H locs h w => ?_) ⟨Nat.zero_le _, Nat.zero_le _⟩
      refine lv_istore (lv' := [(7, .int q113), (0, .ref (b + x0)), (1, .int x1), (2, .int x2), (3, .int x3), (4, .int x4), (5, .int x5), (6, .int x6)]) hx hb dX12_leaves_116 hl (by decide) rfl (fun ls hl => ?_)
      refine lv_iload hx hb dX12_leaves_118 (lv_at hl 0 rfl) ?_
      refine lv_iconst (v := (-1 : Int32)) hx hb dX12_leaves_120 (by decide) ?_
      refine lv_icmp_eq (tgt := 255) hx hb dX12_leaves_121 (by decide) (fun hc => ?_) (fun hc => ?_)
      · replace h := h.1 hc
        clear hc
        exact w_X12_leaves_L255 C0 hr hlk (fun w hx0 hl h => k50 w hx0 hl h) (fun w hx0 hl h => ih w hx0 hl h) w hx0 (lv_sub hl [1, 2, 3, 4, 5, 6, 7] rfl) h
      · replace h := h.2 hc
        clear hc
        refine lv_aload_n hx hb dX12_leaves_124 rfl (lv_at hl 1 rfl) ?_
        obtain ⟨a125, hr0, h⟩ := h
        refine jgr (f := 1) hx hb hts hown hst w hG hx0 hiX12 (rfl : vwCl[11]? = some (RX12, TX12, 51)) (hts (.fieldLink RX12 7 "FootByGateModel" "placeA" "[I") (by decide +kernel)) ⟨by decide, by decide, rfl⟩ (rfl : jrt 11 1 = 13) dX12_leaves_125 hr0 (fun ha125 => ?_)
        clear hr0
        refine lv_iload hx hb dX12_leaves_128 (lv_at hl 7 rfl) ?_
        obtain ⟨hn, h⟩ := h
        refine jaid hx hb hst w ha125 hn dX12_leaves_130 ?_
        clear hn
        refine lv_iload hx hb dX12_leaves_131 (lv_at hl 6 rfl) ?_
        refine jcS_i (As := [.int x5]) (rest := [.int (i113 a125 x6.toNatClampNeg)]) C0 w (c_X12_placeIn hG h) (va_cwS 1 hts gX12_leaves_X12_placeIn rfl rfl rfl (by decide +kernel) ⟨Nat.le_of_ble_eq_true rfl, Nat.le_of_ble_eq_true rfl⟩) rfl hl.1 rfl (Nat.le_of_ble_eq_true rfl) dX12_leaves_133 (fun q133 i133 j133 H locs h w => ?_) ⟨Nat.zero_le _, Nat.zero_le _⟩
        refine lv_icmp_ne (tgt := 143) hx hb dX12_leaves_136 (by decide) (fun hc => ?_) (fun hc => ?_)
        · replace h := h.1 hc
          clear hc
          refine lv_iconst (v := (1 : Int32)) hx hb dX12_leaves_143 (by decide) ?_
          exact w_X12_leaves_L144 C0 hr hlk (fun w hx0 hl h => k50 w hx0 hl h) (fun w hx0 hl h => ih w hx0 hl h) w hx0 (lv_sub hl [1, 2, 3, 4, 5, 6, 7, 0] rfl) h
        · replace h := h.2 hc
          clear hc
          refine lv_iconst (v := (0 : Int32)) hx hb dX12_leaves_139 (by decide) ?_
          refine lv_goto (tgt := 144) hx hb dX12_leaves_140 (by decide) ?_
          exact w_X12_leaves_L144 C0 hr hlk (fun w hx0 hl h => k50 w hx0 hl h) (fun w hx0 hl h => ih w hx0 hl h) w hx0 (lv_sub hl [1, 2, 3, 4, 5, 6, 7, 0] rfl) h
set_option maxHeartbeats 4000000 in
set_option maxRecDepth 100000 in
theorem w_X12_leaves_L50 (C0 : jCx p s m args c cX12_leaves 11 wsX12_leaves RX12 b cy D tU n K r) (hr : meth.sig.returnType = some .boolean) (hlk : meth.locks = false) : ∀ (g : Nat) {H : Heap} {locs : List Loc} {ls : Array Slot} {i : jI} {j : jL} {x0 : Nat} {x1 : Int32} {x2 : Int32} {x3 : Int32} (w : jDy b cy D n K len r i j s H locs) (hx0 : x0 < n ∧ K x0 = 11) (hl : lv_has ls 11 [(0, .ref (b + x0)), (1, .int x1), (2, .int x2), (3, .int x3)]) (h : J_X12_leaves_L50 len r Q g i j x0 x1 x2 x3), W p l e rm_X12_leaves s m args below meth c H locs 0 0 (MQ below (jQi b cy D tU n K len r Q) args s 0 0 (jA b)) (F0 m 50 ls []) := by
  obtain ⟨hx, hb, hml, hown, hts, hst, hG⟩ := id C0
  have hiX12 : ∀ w ∈ u_ws RX12 TX12 51, w ∈ wsX12_leaves := hiX12_X12_leaves
  intro g
  induction g with
  | zero => intro H locs ls i j x0 x1 x2 x3 w hx0 hl h; exact False.elim h
  | succ g ih =>
    intro H locs ls i j x0 x1 x2 x3 w hx0 hl h
    rw [J_X12_leaves_L50] at h
    refine lv_iload_n hx hb dX12_leaves_50 rfl (lv_at hl 3 rfl) ?_
    refine lv_iload_n hx hb dX12_leaves_51 rfl (lv_at hl 2 rfl) ?_
    refine lv_icmp_ge (tgt := 267) hx hb dX12_leaves_52 (by decide) (fun hc => ?_) (fun hc => ?_)
    · replace h := h.1 hc
      clear hc
      refine lv_iconst (v := (0 : Int32)) hx hb dX12_leaves_267 (by decide) ?_
      exact jret_z hx hb hr hlk hst w (by decide) h dX12_leaves_268
    · replace h := h.2 hc
      clear hc
      refine lv_aload_n hx hb dX12_leaves_55 rfl (lv_at hl 0 rfl) ?_
      obtain ⟨a56, hr0, h⟩ := h
      refine jgr (f := 40) hx hb hts hown hst w hG hx0 hiX12 (rfl : vwCl[11]? = some (RX12, TX12, 51)) (hts (.fieldLink RX12 78 "FootByGateModel" "canQueue" "[I") (by decide +kernel)) ⟨by decide, by decide, rfl⟩ (rfl : jrt 11 40 = 13) dX12_leaves_56 hr0 (fun ha56 => ?_)
      clear hr0
      refine lv_iload_n hx hb dX12_leaves_59 rfl (lv_at hl 3 rfl) ?_
      obtain ⟨hn, h⟩ := h
      refine jaid hx hb hst w ha56 hn dX12_leaves_60 ?_
      clear hn
      refine lv_sipush (v := (378 : Int32)) hx hb dX12_leaves_61 (by decide) ?_
      refine lv_idiv hx hb dX12_leaves_64 (by decide) ?_
      refine lv_topi (fun v65 he => ?_)
      replace h := h v65 he
      clear he
      refine lv_istore (lv' := [(4, .int v65), (0, .ref (b + x0)), (1, .int x1), (2, .int x2), (3, .int x3)]) hx hb dX12_leaves_65 hl (by decide) rfl (fun ls hl => ?_)
      refine lv_aload_n hx hb dX12_leaves_67 rfl (lv_at hl 1 rfl) ?_
      obtain ⟨a68, hr0, h⟩ := h
      refine jgr (f := 40) hx hb hts hown hst w hG hx0 hiX12 (rfl : vwCl[11]? = some (RX12, TX12, 51)) (hts (.fieldLink RX12 78 "FootByGateModel" "canQueue" "[I") (by decide +kernel)) ⟨by decide, by decide, rfl⟩ (rfl : jrt 11 40 = 13) dX12_leaves_68 hr0 (fun ha68 => ?_)
      clear hr0
      refine lv_iload_n hx hb dX12_leaves_71 rfl (lv_at hl 4 rfl) ?_
      obtain ⟨hn, h⟩ := h
      refine jaid hx hb hst w ha68 hn dX12_leaves_72 ?_
      clear hn
      refine lv_sipush (v := (378 : Int32)) hx hb dX12_leaves_73 (by decide) ?_
      refine lv_irem hx hb dX12_leaves_76 (by decide) ?_
      refine lv_topi (fun v77 he => ?_)
      replace h := h v77 he
      clear he
      refine lv_istore (lv' := [(5, .int v77), (4, .int v65), (0, .ref (b + x0)), (1, .int x1), (2, .int x2), (3, .int x3)]) hx hb dX12_leaves_77 hl (by decide) rfl (fun ls hl => ?_)
      refine lv_iload hx hb dX12_leaves_79 (lv_at hl 1 rfl) ?_
      refine lv_aload_n hx hb dX12_leaves_81 rfl (lv_at hl 2 rfl) ?_
      refine jgi (f := 12) hx hb hts hown hst w hx0 hiX12 (rfl : vwCl[11]? = some (RX12, TX12, 51)) (hts (.fieldLink RX12 141 "FootByGateModel" "prints" "I") (by decide +kernel)) ⟨by decide, by decide, rfl⟩ dX12_leaves_82 ?_
      refine lv_icmp_ne (tgt := 90) hx hb dX12_leaves_85 (by decide) (fun hc => ?_) (fun hc => ?_)
      · replace h := h.1 hc
        clear hc
        refine lv_iconst (v := (0 : Int32)) hx hb dX12_leaves_90 (by decide) ?_
        refine lv_istore (lv' := [(6, .int (0 : Int32)), (5, .int v77), (4, .int v65), (0, .ref (b + x0)), (1, .int x1), (2, .int x2), (3, .int x3)]) hx hb dX12_leaves_91 hl (by decide) rfl (fun ls hl => ?_)
        obtain ⟨g0, h⟩ := h
        exact w_X12_leaves_L93 C0 hr hlk (fun w hx0 hl h => ih w hx0 hl h) g0 w hx0 (lv_sub hl [3, 4, 5, 6, 2, 1, 0] rfl) h
      · replace h := h.2 hc
        clear hc
        refine lv_iconst (v := (1 : Int32)) hx hb dX12_leaves_88 (by decide) ?_
        exact jret_z hx hb hr hlk hst w (by decide) h dX12_leaves_89
set_option maxHeartbeats 4000000 in
set_option maxRecDepth 100000 in
theorem w_X12_leaves_L2 (C0 : jCx p s m args c cX12_leaves 11 wsX12_leaves RX12 b cy D tU n K r) (hr : meth.sig.returnType = some .boolean) (hlk : meth.locks = false) : ∀ (g : Nat) {H : Heap} {locs : List Loc} {ls : Array Slot} {i : jI} {j : jL} {x0 : Nat} {x1 : Int32} {x2 : Int32} (w : jDy b cy D n K len r i j s H locs) (hx0 : x0 < n ∧ K x0 = 11) (hl : lv_has ls 11 [(0, .ref (b + x0)), (1, .int x1), (2, .int x2)]) (h : J_X12_leaves_L2 len r Q g i j x0 x1 x2), W p l e rm_X12_leaves s m args below meth c H locs 0 0 (MQ below (jQi b cy D tU n K len r Q) args s 0 0 (jA b)) (F0 m 2 ls []) := by
  obtain ⟨hx, hb, hml, hown, hts, hst, hG⟩ := id C0
  have hiX12 : ∀ w ∈ u_ws RX12 TX12 51, w ∈ wsX12_leaves := hiX12_X12_leaves
  intro g
  induction g with
  | zero => intro H locs ls i j x0 x1 x2 w hx0 hl h; exact False.elim h
  | succ g ih =>
    intro H locs ls i j x0 x1 x2 w hx0 hl h
    rw [J_X12_leaves_L2] at h
    refine lv_iload_n hx hb dX12_leaves_2 rfl (lv_at hl 2 rfl) ?_
    refine lv_sipush (v := (2646 : Int32)) hx hb dX12_leaves_3 (by decide) ?_
    refine lv_icmp_ge (tgt := 22) hx hb dX12_leaves_6 (by decide) (fun hc => ?_) (fun hc => ?_)
    · replace h := h.1 hc
      clear hc
      refine lv_aload_n hx hb dX12_leaves_22 rfl (lv_at hl 0 rfl) ?_
      obtain ⟨a23, hr0, h⟩ := h
      refine jgr (f := 39) hx hb hts hown hst w hG hx0 hiX12 (rfl : vwCl[11]? = some (RX12, TX12, 51)) (hts (.fieldLink RX12 75 "FootByGateModel" "canBe" "[Z") (by decide +kernel)) ⟨by decide, by decide, rfl⟩ (rfl : jrt 11 39 = 15) dX12_leaves_23 hr0 (fun ha23 => ?_)
      clear hr0
      refine lv_aload_n hx hb dX12_leaves_26 rfl (lv_at hl 0 rfl) ?_
      obtain ⟨a27, hr0, h⟩ := h
      refine jgr (f := 10) hx hb hts hown hst w hG hx0 hiX12 (rfl : vwCl[11]? = some (RX12, TX12, 51)) (hts (.fieldLink RX12 25 "FootByGateModel" "standsOf" "[I") (by decide +kernel)) ⟨by decide, by decide, rfl⟩ (rfl : jrt 11 10 = 13) dX12_leaves_27 hr0 (fun ha27 => ?_)
      clear hr0
      refine lv_iload_n hx hb dX12_leaves_30 rfl (lv_at hl 1 rfl) ?_
      obtain ⟨hn, h⟩ := h
      refine jaid hx hb hst w ha27 hn dX12_leaves_31 ?_
      clear hn
      refine lv_iconst (v := (1 : Int32)) hx hb dX12_leaves_32 (by decide) ?_
      obtain ⟨hn, h⟩ := h
      refine jazs hx hb hst w ha23 hn dX12_leaves_33 (fun i33 H locs he w => ?_)
      replace h := h i33 he
      clear he hn
      refine lv_aload_n hx hb dX12_leaves_34 rfl (lv_at hl 0 rfl) ?_
      obtain ⟨a35, hr0, h⟩ := h
      refine jgr (f := 40) hx hb hts hown hst w hG hx0 hiX12 (rfl : vwCl[11]? = some (RX12, TX12, 51)) (hts (.fieldLink RX12 78 "FootByGateModel" "canQueue" "[I") (by decide +kernel)) ⟨by decide, by decide, rfl⟩ (rfl : jrt 11 40 = 13) dX12_leaves_35 hr0 (fun ha35 => ?_)
      clear hr0
      refine lv_iconst (v := (0 : Int32)) hx hb dX12_leaves_38 (by decide) ?_
      refine lv_aload_n hx hb dX12_leaves_39 rfl (lv_at hl 0 rfl) ?_
      obtain ⟨a40, hr0, h⟩ := h
      refine jgr (f := 10) hx hb hts hown hst w hG hx0 hiX12 (rfl : vwCl[11]? = some (RX12, TX12, 51)) (hts (.fieldLink RX12 25 "FootByGateModel" "standsOf" "[I") (by decide +kernel)) ⟨by decide, by decide, rfl⟩ (rfl : jrt 11 10 = 13) dX12_leaves_40 hr0 (fun ha40 => ?_)
      clear hr0
      refine lv_iload_n hx hb dX12_leaves_43 rfl (lv_at hl 1 rfl) ?_
      obtain ⟨hn, h⟩ := h
      refine jaid hx hb hst w ha40 hn dX12_leaves_44 ?_
      clear hn
      obtain ⟨hn, h⟩ := h
      refine jais hx hb hst w ha35 hn dX12_leaves_45 (fun i45 H locs he w => ?_)
      replace h := h i45 he
      clear he hn
      refine lv_iconst (v := (1 : Int32)) hx hb dX12_leaves_46 (by decide) ?_
      refine lv_istore_n (lv' := [(2, .int (1 : Int32)), (0, .ref (b + x0)), (1, .int x1)]) hx hb dX12_leaves_47 rfl hl (by decide) rfl (fun ls hl => ?_)
      refine lv_iconst (v := (0 : Int32)) hx hb dX12_leaves_48 (by decide) ?_
      refine lv_istore_n (lv' := [(3, .int (0 : Int32)), (2, .int (1 : Int32)), (0, .ref (b + x0)), (1, .int x1)]) hx hb dX12_leaves_49 rfl hl (by decide) rfl (fun ls hl => ?_)
      obtain ⟨g0, h⟩ := h
      exact w_X12_leaves_L50 C0 hr hlk g0 w hx0 (lv_sub hl [2, 3, 1, 0] rfl) h
    · replace h := h.2 hc
      clear hc
      refine lv_aload_n hx hb dX12_leaves_9 rfl (lv_at hl 0 rfl) ?_
      obtain ⟨a10, hr0, h⟩ := h
      refine jgr (f := 39) hx hb hts hown hst w hG hx0 hiX12 (rfl : vwCl[11]? = some (RX12, TX12, 51)) (hts (.fieldLink RX12 75 "FootByGateModel" "canBe" "[Z") (by decide +kernel)) ⟨by decide, by decide, rfl⟩ (rfl : jrt 11 39 = 15) dX12_leaves_10 hr0 (fun ha10 => ?_)
      clear hr0
      refine lv_iload_n hx hb dX12_leaves_13 rfl (lv_at hl 2 rfl) ?_
      refine lv_iconst (v := (0 : Int32)) hx hb dX12_leaves_14 (by decide) ?_
      obtain ⟨hn, h⟩ := h
      refine jazs hx hb hst w ha10 hn dX12_leaves_15 (fun i15 H locs he w => ?_)
      replace h := h i15 he
      clear he hn
      obtain ⟨v16, he⟩ : ∃ z : Int32, z = x2 + (1 : Int32) := ⟨_, rfl⟩
      replace h := h v16 he
      refine lv_iinc (v := v16) (lv' := [(2, .int v16), (0, .ref (b + x0)), (1, .int x1)]) hx hb dX12_leaves_16 hl (k := 2) rfl (by rw [he]; rfl) (by decide) rfl (fun ls hl => ?_)
      clear he
      refine lv_goto (tgt := 2) hx hb dX12_leaves_19 (by decide) ?_
      exact ih w hx0 (lv_sub hl [1, 2, 0] rfl) h
set_option maxHeartbeats 4000000 in
set_option maxRecDepth 100000 in
theorem c_X12_leaves (hG : jG n K r) {i : jI} {j : jL} {x0 : Nat} {x1 : Int32} (hx0 : x0 < n ∧ K x0 = 11) (h : J_X12_leaves len r Q i j x0 x1) : Met l yX12_leaves wsX12_leaves rm_X12_leaves (va_Pc [.ref (b + x0), .int x1] (jPre b cy D tU n K len r i j)) (jQi b cy D tU n K len r Q) 0 0 (jA b) := by
  refine Met.ofW (cc := cX12_leaves) (maxL := 11) (ret := (some .boolean)) (by decide) rfl ?_
  intro p e s m args below meth c s₁ B hml hv
  obtain ⟨rfl, hv⟩ := hv
  have C0 : jCx p s m _ c cX12_leaves 11 wsX12_leaves RX12 b cy D tU n K r := ⟨B.exec, B.bytes, hml, findClass_of_methodNamed B.named, atoms_spec (ws := wsX12_leaves) B.pre, hv.2.2, hG⟩
  have hr := B.returns
  have hlk := B.notSynchronized
  obtain ⟨hx, hb, hml, hown, hts, hst, hG⟩ := id C0
  have hiX12 : ∀ w ∈ u_ws RX12 TX12 51, w ∈ wsX12_leaves := hiX12_X12_leaves
  have w := jDy.start hv
  have hl := lv_entry ([.ref (b + x0), .int x1]) (n := 11) (Nat.le_of_ble_eq_true rfl)
  rw [lg_entry_eq]
  generalize (lg_sl ([.ref (b + x0), .int x1]) ++ List.replicate (11 - (lg_sl ([.ref (b + x0), .int x1])).length) Slot.unset).toArray = ls at hl ⊢
  replace hl : lv_has ls 11 [(0, .ref (b + x0)), (1, .int x1)] := hl
  show W p l e rm_X12_leaves s m _ below meth c s.heap [] 0 0 _ (F0 m 0 ls [])
  rw [J_X12_leaves] at h
  refine lv_iconst (v := (0 : Int32)) hx hb dX12_leaves_0 (by decide) ?_
  refine lv_istore_n (lv' := [(2, .int (0 : Int32)), (0, .ref (b + x0)), (1, .int x1)]) hx hb dX12_leaves_1 rfl hl (by decide) rfl (fun ls hl => ?_)
  obtain ⟨g0, h⟩ := h
  exact w_X12_leaves_L2 C0 hr hlk g0 w hx0 (lv_sub hl [1, 2, 0] rfl) h
end S_X12_leaves
section S_X12_whoNow
def J_X12_whoNow_L28 (len : Nat → Nat) (r : jR) (Q : Int32 → jI → jL → Prop) (Hd4 : jI → jL → Nat → Int32 → Int32 → Prop) (i : jI) (j : jL) (x0 : Nat) (x2 : Int32) (t0 : Int32) (t1 : Int32) : Prop := ∀ v29 : Int32, v29 = t0 ||| t1 → (∀ v30 : Int32, v30 = x2 + (1 : Int32) → (Hd4 i j x0 v29 v30))
def J_X12_whoNow_L4 (len : Nat → Nat) (r : jR) (Q : Int32 → jI → jL → Prop) : Nat → jI → jL → Nat → Int32 → Int32 → Prop
  | 0 => fun _ _ _ _ _ => False
  | g + 1 => fun i j x0 x1 x2 => (((i x0 8) ≤ x2) → (Q x1 i j)) ∧ ((¬ (i x0 8) ≤ x2) → (J_X12_leaves len r (fun (q15 : Int32) (i15 : jI) (j15 : jL) => ((q15 = 0) → (J_X12_whoNow_L28 len r Q (J_X12_whoNow_L4 len r Q g) i15 j15 x0 x2 x1 (0 : Int32))) ∧ ((¬ q15 = 0) → (J_X12_whoNow_L28 len r Q (J_X12_whoNow_L4 len r Q g) i15 j15 x0 x2 x1 ((1 : Int32) <<< (x2 &&& 31))))) i j x0 x2))
def J_X12_whoNow (len : Nat → Nat) (r : jR) (Q : Int32 → jI → jL → Prop) (i : jI) (j : jL) (x0 : Nat) : Prop := ∃ g0, J_X12_whoNow_L4 len r Q g0 i j x0 (0 : Int32) (0 : Int32)
abbrev rm_X12_whoNow : Room := { frames := 4, cells := 0, slots := 0, locals := 101 }
variable {p : Program} {l : Launch} {e : Env} {s : State} {m : MethodId} {args : Array Value} {below : List Frame} {meth : Method} {c : Code} {b tU n : Nat} {cy : Nat → ClassId} {D : va_G} {K len : Nat → Nat} {r : jR} {Q : Int32 → jI → jL → Prop}
theorem hiX12_X12_whoNow : ∀ w ∈ u_ws RX12 TX12 51, w ∈ wsX12_whoNow := by decide +kernel
set_option maxHeartbeats 4000000 in
set_option maxRecDepth 100000 in
theorem w_X12_whoNow_L28 (C0 : jCx p s m args c cX12_whoNow 3 wsX12_whoNow RX12 b cy D tU n K r) (hr : meth.sig.returnType = some .int) (hlk : meth.locks = false) {Hd4 : jI → jL → Nat → Int32 → Int32 → Prop} (k4 : ∀ {H : Heap} {locs : List Loc} {ls : Array Slot} {i : jI} {j : jL} {x0 : Nat} {x1 : Int32} {x2 : Int32} (w : jDy b cy D n K len r i j s H locs) (hx0 : x0 < n ∧ K x0 = 11) (hl : lv_has ls 3 [(0, .ref (b + x0)), (1, .int x1), (2, .int x2)]) (h : Hd4 i j x0 x1 x2), W p l e rm_X12_whoNow s m args below meth c H locs 0 0 (MQ below (jQi b cy D tU n K len r Q) args s 0 0 (jA b)) (F0 m 4 ls [])) {H : Heap} {locs : List Loc} {ls : Array Slot} {i : jI} {j : jL} {x0 : Nat} {x2 : Int32} {t0 : Int32} {t1 : Int32} (w : jDy b cy D n K len r i j s H locs) (hx0 : x0 < n ∧ K x0 = 11) (hl : lv_has ls 3 [(0, .ref (b + x0)), (2, .int x2)]) (h : J_X12_whoNow_L28 len r Q Hd4 i j x0 x2 t0 t1) : W p l e rm_X12_whoNow s m args below meth c H locs 0 0 (MQ below (jQi b cy D tU n K len r Q) args s 0 0 (jA b)) (F0 m 28 ls [.int t1, .int t0]) := by
  obtain ⟨hx, hb, hml, hown, hts, hst, hG⟩ := id C0
  have hiX12 : ∀ w ∈ u_ws RX12 TX12 51, w ∈ wsX12_whoNow := hiX12_X12_whoNow
  rw [J_X12_whoNow_L28] at h
  refine lv_ior hx hb dX12_whoNow_28 ?_
  refine lv_topi (fun v29 he => ?_)
  replace h := h v29 he
  clear he
  refine lv_istore_n (lv' := [(1, .int v29), (0, .ref (b + x0)), (2, .int x2)]) hx hb dX12_whoNow_29 rfl hl (by decide) rfl (fun ls hl => ?_)
  obtain ⟨v30, he⟩ : ∃ z : Int32, z = x2 + (1 : Int32) := ⟨_, rfl⟩
  replace h := h v30 he
  refine lv_iinc (v := v30) (lv' := [(2, .int v30), (1, .int v29), (0, .ref (b + x0))]) hx hb dX12_whoNow_30 hl (k := 2) rfl (by rw [he]; rfl) (by decide) rfl (fun ls hl => ?_)
  clear he
  refine lv_goto (tgt := 4) hx hb dX12_whoNow_33 (by decide) ?_
  exact k4 w hx0 (lv_sub hl [2, 1, 0] rfl) h
set_option maxHeartbeats 4000000 in
set_option maxRecDepth 100000 in
theorem w_X12_whoNow_L4 (C0 : jCx p s m args c cX12_whoNow 3 wsX12_whoNow RX12 b cy D tU n K r) (hr : meth.sig.returnType = some .int) (hlk : meth.locks = false) : ∀ (g : Nat) {H : Heap} {locs : List Loc} {ls : Array Slot} {i : jI} {j : jL} {x0 : Nat} {x1 : Int32} {x2 : Int32} (w : jDy b cy D n K len r i j s H locs) (hx0 : x0 < n ∧ K x0 = 11) (hl : lv_has ls 3 [(0, .ref (b + x0)), (1, .int x1), (2, .int x2)]) (h : J_X12_whoNow_L4 len r Q g i j x0 x1 x2), W p l e rm_X12_whoNow s m args below meth c H locs 0 0 (MQ below (jQi b cy D tU n K len r Q) args s 0 0 (jA b)) (F0 m 4 ls []) := by
  obtain ⟨hx, hb, hml, hown, hts, hst, hG⟩ := id C0
  have hiX12 : ∀ w ∈ u_ws RX12 TX12 51, w ∈ wsX12_whoNow := hiX12_X12_whoNow
  intro g
  induction g with
  | zero => intro H locs ls i j x0 x1 x2 w hx0 hl h; exact False.elim h
  | succ g ih =>
    intro H locs ls i j x0 x1 x2 w hx0 hl h
    rw [J_X12_whoNow_L4] at h
    refine lv_iload_n hx hb dX12_whoNow_4 rfl (lv_at hl 2 rfl) ?_
    refine lv_aload_n hx hb dX12_whoNow_5 rfl (lv_at hl 0 rfl) ?_
    refine jgi (f := 8) hx hb hts hown hst w hx0 hiX12 (rfl : vwCl[11]? = some (RX12, TX12, 51)) (hts (.fieldLink RX12 138 "FootByGateModel" "walkers" "I") (by decide +kernel)) ⟨by decide, by decide, rfl⟩ dX12_whoNow_6 ?_
    refine lv_icmp_ge (tgt := 36) hx hb dX12_whoNow_9 (by decide) (fun hc => ?_) (fun hc => ?_)
    · replace h := h.1 hc
      clear hc
      refine lv_iload_n hx hb dX12_whoNow_36 rfl (lv_at hl 1 rfl) ?_
      exact jret_i hx hb hr hlk hst w h dX12_whoNow_37
    · replace h := h.2 hc
      clear hc
      refine lv_iload_n hx hb dX12_whoNow_12 rfl (lv_at hl 1 rfl) ?_
      refine lv_aload_n hx hb dX12_whoNow_13 rfl (lv_at hl 0 rfl) ?_
      refine lv_iload_n hx hb dX12_whoNow_14 rfl (lv_at hl 2 rfl) ?_
      refine jcV_i (k := x0) (As := [.int x2]) (rest := [.int x1]) C0 w (c_X12_leaves hG hx0 h) (cwV 1 hts gX12_whoNow_X12_leaves rfl rfl rfl (by decide +kernel) ⟨Nat.le_of_ble_eq_true rfl, Nat.le_of_ble_eq_true rfl⟩) hx0 (rfl : vwCl[11]? = some (RX12, TX12, 51)) (by decide) rfl hl.1 rfl (Nat.le_of_ble_eq_true rfl) dX12_whoNow_15 (fun q15 i15 j15 H locs h w => ?_) ⟨Nat.zero_le _, Nat.zero_le _⟩
      refine lv_if_eq (tgt := 27) hx hb dX12_whoNow_18 (by decide) (fun hc => ?_) (fun hc => ?_)
      · replace h := h.1 hc
        clear hc
        refine lv_iconst (v := (0 : Int32)) hx hb dX12_whoNow_27 (by decide) ?_
        exact w_X12_whoNow_L28 C0 hr hlk (fun w hx0 hl h => ih w hx0 hl h) w hx0 (lv_sub hl [0, 2] rfl) h
      · replace h := h.2 hc
        clear hc
        refine lv_iconst (v := (1 : Int32)) hx hb dX12_whoNow_21 (by decide) ?_
        refine lv_iload_n hx hb dX12_whoNow_22 rfl (lv_at hl 2 rfl) ?_
        refine lv_ishl hx hb dX12_whoNow_23 ?_
        refine lv_goto (tgt := 28) hx hb dX12_whoNow_24 (by decide) ?_
        exact w_X12_whoNow_L28 C0 hr hlk (fun w hx0 hl h => ih w hx0 hl h) w hx0 (lv_sub hl [0, 2] rfl) h
set_option maxHeartbeats 4000000 in
set_option maxRecDepth 100000 in
theorem c_X12_whoNow (hG : jG n K r) {i : jI} {j : jL} {x0 : Nat} (hx0 : x0 < n ∧ K x0 = 11) (h : J_X12_whoNow len r Q i j x0) : Met l yX12_whoNow wsX12_whoNow rm_X12_whoNow (va_Pc [.ref (b + x0)] (jPre b cy D tU n K len r i j)) (jQi b cy D tU n K len r Q) 0 0 (jA b) := by
  refine Met.ofW (cc := cX12_whoNow) (maxL := 3) (ret := (some .int)) (by decide) rfl ?_
  intro p e s m args below meth c s₁ B hml hv
  obtain ⟨rfl, hv⟩ := hv
  have C0 : jCx p s m _ c cX12_whoNow 3 wsX12_whoNow RX12 b cy D tU n K r := ⟨B.exec, B.bytes, hml, findClass_of_methodNamed B.named, atoms_spec (ws := wsX12_whoNow) B.pre, hv.2.2, hG⟩
  have hr := B.returns
  have hlk := B.notSynchronized
  obtain ⟨hx, hb, hml, hown, hts, hst, hG⟩ := id C0
  have hiX12 : ∀ w ∈ u_ws RX12 TX12 51, w ∈ wsX12_whoNow := hiX12_X12_whoNow
  have w := jDy.start hv
  have hl := lv_entry ([.ref (b + x0)]) (n := 3) (Nat.le_of_ble_eq_true rfl)
  rw [lg_entry_eq]
  generalize (lg_sl ([.ref (b + x0)]) ++ List.replicate (3 - (lg_sl ([.ref (b + x0)])).length) Slot.unset).toArray = ls at hl ⊢
  replace hl : lv_has ls 3 [(0, .ref (b + x0))] := hl
  show W p l e rm_X12_whoNow s m _ below meth c s.heap [] 0 0 _ (F0 m 0 ls [])
  rw [J_X12_whoNow] at h
  refine lv_iconst (v := (0 : Int32)) hx hb dX12_whoNow_0 (by decide) ?_
  refine lv_istore_n (lv' := [(1, .int (0 : Int32)), (0, .ref (b + x0))]) hx hb dX12_whoNow_1 rfl hl (by decide) rfl (fun ls hl => ?_)
  refine lv_iconst (v := (0 : Int32)) hx hb dX12_whoNow_2 (by decide) ?_
  refine lv_istore_n (lv' := [(2, .int (0 : Int32)), (1, .int (0 : Int32)), (0, .ref (b + x0))]) hx hb dX12_whoNow_3 rfl hl (by decide) rfl (fun ls hl => ?_)
  obtain ⟨g0, h⟩ := h
  exact w_X12_whoNow_L4 C0 hr hlk g0 w hx0 (lv_sub hl [2, 1, 0] rfl) h
end S_X12_whoNow
section S_X12_digest
def J_X12_digest_L192 (len : Nat → Nat) (r : jR) (Q : Int64 → jI → jL → Prop) : Nat → jI → jL → Nat → Int32 → Prop
  | 0 => fun _ _ _ _ => False
  | g + 1 => fun i j x0 x1 => (((8 : Int32) ≤ x1) → (Q (j x0 50) i j)) ∧ ((¬ (8 : Int32) ≤ x1) → (J_X12_howMany len r (fun (q201 : Int32) (i201 : jI) (j201 : jL) => J_X12_mix len r (fun (i205 : jI) (j205 : jL) => ∀ v208 : Int32, v208 = x1 + (1 : Int32) → ((J_X12_digest_L192 len r Q g) i205 j205 x0 v208)) i201 j201 x0 q201.toInt64) i j x0 x1))
def J_X12_digest_L165 (len : Nat → Nat) (r : jR) (Q : Int64 → jI → jL → Prop) : Nat → jI → jL → Nat → Int32 → Prop
  | 0 => fun _ _ _ _ => False
  | g + 1 => fun i j x0 x1 => (((i x0 15) ≤ x1) → (∃ g0, J_X12_digest_L192 len r Q g0 i j x0 (0 : Int32))) ∧ ((¬ (i x0 15) ≤ x1) → (∃ a175, r x0 16 = some a175 ∧ (vp_in x1 (len a175) ∧ (J_X12_mix len r (fun (i181 : jI) (j181 : jL) => ∀ v184 : Int32, v184 = x1 + (1 : Int32) → ((J_X12_digest_L165 len r Q g) i181 j181 x0 v184)) i j x0 ((i a175 x1.toNatClampNeg).toInt64)))))
def J_X12_digest_L99 (len : Nat → Nat) (r : jR) (Q : Int64 → jI → jL → Prop) : Nat → jI → jL → Nat → Int32 → Prop
  | 0 => fun _ _ _ _ => False
  | g + 1 => fun i j x0 x1 => (((i x0 12) ≤ x1) → (J_X12_whoNow len r (fun (q156 : Int32) (i156 : jI) (j156 : jL) => J_X12_mix len r (fun (i160 : jI) (j160 : jL) => ∃ g0, J_X12_digest_L165 len r Q g0 i160 j160 x0 (0 : Int32)) i156 j156 x0 q156.toInt64) i j x0)) ∧ ((¬ (i x0 12) ≤ x1) → (∃ a109, r x0 13 = some a109 ∧ (vp_in x1 (len a109) ∧ (J_X12_mix len r (fun (i117 : jI) (j117 : jL) => ∃ a122, r x0 13 = some a122 ∧ (vp_in x1 (len a122) ∧ (J_X12_mix len r (fun (i132 : jI) (j132 : jL) => ∃ a137, r x0 13 = some a137 ∧ (vp_in x1 (len a137) ∧ (J_X12_mix len r (fun (i145 : jI) (j145 : jL) => ∀ v148 : Int32, v148 = x1 + (1 : Int32) → ((J_X12_digest_L99 len r Q g) i145 j145 x0 v148)) i132 j132 x0 (((i132 a137 x1.toNatClampNeg) - (i132 a137 x1.toNatClampNeg) / (2 : Int32) * (2 : Int32)).toInt64)))) i117 j117 x0 ((((i117 a122 x1.toNatClampNeg) / (2 : Int32)) - ((i117 a122 x1.toNatClampNeg) / (2 : Int32)) / (2 : Int32) * (2 : Int32)).toInt64)))) i j x0 (((i a109 x1.toNatClampNeg) / (4 : Int32)).toInt64)))))
def J_X12_digest_L97 (len : Nat → Nat) (r : jR) (Q : Int64 → jI → jL → Prop) (i : jI) (j : jL) (x0 : Nat) : Prop := ∃ g0, J_X12_digest_L99 len r Q g0 i j x0 (0 : Int32)
def J_X12_digest_L49 (len : Nat → Nat) (r : jR) (Q : Int64 → jI → jL → Prop) : Nat → jI → jL → Nat → Int32 → Prop
  | 0 => fun _ _ _ _ => False
  | g + 1 => fun i j x0 x1 => (((i x0 8) ≤ x1) → ((((i x0 7) ≤ 0) → (J_X12_digest_L97 len r Q i j x0)) ∧ ((¬ (i x0 7) ≤ 0) → (J_X12_evenNow len r (fun (q79 : Int32) (i79 : jI) (j79 : jL) => J_X12_mix len r (fun (i83 : jI) (j83 : jL) => J_X12_evenNow len r (fun (q90 : Int32) (i90 : jI) (j90 : jL) => J_X12_mix len r (fun (i94 : jI) (j94 : jL) => J_X12_digest_L97 len r Q i94 j94 x0) i90 j90 x0 q90.toInt64) i83 j83 x0 (0 : Int32) (1 : Int32)) i79 j79 x0 q79.toInt64) i j x0 (0 : Int32) (0 : Int32))))) ∧ ((¬ (i x0 8) ≤ x1) → (J_X12_mixWalker len r (fun (i59 : jI) (j59 : jL) => ∀ v62 : Int32, v62 = x1 + (1 : Int32) → ((J_X12_digest_L49 len r Q g) i59 j59 x0 v62)) i j x0 x1))
def J_X12_digest_L19 (len : Nat → Nat) (r : jR) (Q : Int64 → jI → jL → Prop) (Hd9 : jI → jL → Nat → Int32 → Prop) : Nat → jI → jL → Nat → Int32 → Int32 → Prop
  | 0 => fun _ _ _ _ _ => False
  | g + 1 => fun i j x0 x1 x2 => (((4 : Int32) ≤ x2) → (∀ v41 : Int32, v41 = x1 + (1 : Int32) → (Hd9 i j x0 v41))) ∧ ((¬ (4 : Int32) ≤ x2) → (J_X12_streetNow len r (fun (q28 : Int32) (i28 : jI) (j28 : jL) => J_X12_mix len r (fun (i32 : jI) (j32 : jL) => ∀ v35 : Int32, v35 = x2 + (1 : Int32) → ((J_X12_digest_L19 len r Q Hd9 g) i32 j32 x0 x1 v35)) i28 j28 x0 q28.toInt64) i j x0 x1 x2))
def J_X12_digest_L9 (len : Nat → Nat) (r : jR) (Q : Int64 → jI → jL → Prop) : Nat → jI → jL → Nat → Int32 → Prop
  | 0 => fun _ _ _ _ => False
  | g + 1 => fun i j x0 x1 => (((i x0 0) ≤ x1) → (∃ g0, J_X12_digest_L49 len r Q g0 i j x0 (0 : Int32))) ∧ ((¬ (i x0 0) ≤ x1) → (∃ g0, J_X12_digest_L19 len r Q (J_X12_digest_L9 len r Q g) g0 i j x0 x1 (0 : Int32)))
def J_X12_digest (len : Nat → Nat) (r : jR) (Q : Int64 → jI → jL → Prop) (i : jI) (j : jL) (x0 : Nat) : Prop := ∀ j4 : jL, j4 = jul j x0 50 (619 : Int64) → (∃ g0, J_X12_digest_L9 len r Q g0 i j4 x0 (0 : Int32))
abbrev rm_X12_digest : Room := { frames := 6, cells := 0, slots := 0, locals := 145 }
variable {p : Program} {l : Launch} {e : Env} {s : State} {m : MethodId} {args : Array Value} {below : List Frame} {meth : Method} {c : Code} {b tU n : Nat} {cy : Nat → ClassId} {D : va_G} {K len : Nat → Nat} {r : jR} {Q : Int64 → jI → jL → Prop}
theorem hiX12_X12_digest : ∀ w ∈ u_ws RX12 TX12 51, w ∈ wsX12_digest := by decide +kernel
set_option maxHeartbeats 4000000 in
set_option maxRecDepth 100000 in
theorem w_X12_digest_L192 (C0 : jCx p s m args c cX12_digest 3 wsX12_digest RX12 b cy D tU n K r) (hr : meth.sig.returnType = some .long) (hlk : meth.locks = false) : ∀ (g : Nat) {H : Heap} {locs : List Loc} {ls : Array Slot} {i : jI} {j : jL} {x0 : Nat} {x1 : Int32} (w : jDy b cy D n K len r i j s H locs) (hx0 : x0 < n ∧ K x0 = 11) (hl : lv_has ls 3 [(0, .ref (b + x0)), (1, .int x1)]) (h : J_X12_digest_L192 len r Q g i j x0 x1), W p l e rm_X12_digest s m args below meth c H locs 0 0 (MQ below (jQl b cy D tU n K len r Q) args s 0 0 (jA b)) (F0 m 192 ls []) := by
  obtain ⟨hx, hb, hml, hown, hts, hst, hG⟩ := id C0
  have hiX12 : ∀ w ∈ u_ws RX12 TX12 51, w ∈ wsX12_digest := hiX12_X12_digest
  intro g
  induction g with
  | zero => intro H locs ls i j x0 x1 w hx0 hl h; exact False.elim h
  | succ g ih =>
    intro H locs ls i j x0 x1 w hx0 hl h
    rw [J_X12_digest_L192] at h
    refine lv_iload_n hx hb dX12_digest_192 rfl (lv_at hl 1 rfl) ?_
    refine lv_bipush (v := (8 : Int32)) hx hb dX12_digest_193 (by decide) ?_
    refine lv_icmp_ge (tgt := 214) hx hb dX12_digest_195 (by decide) (fun hc => ?_) (fun hc => ?_)
    · replace h := h.1 hc
      clear hc
      refine lv_aload_n hx hb dX12_digest_214 rfl (lv_at hl 0 rfl) ?_
      refine jgl (f := 50) hx hb hts hown hst w hx0 hiX12 (rfl : vwCl[11]? = some (RX12, TX12, 51)) (hts (.fieldLink RX12 312 "FootByGateModel" "h" "J") (by decide +kernel)) ⟨by decide, by decide, rfl⟩ dX12_digest_215 ?_
      exact jret_l hx hb hr hlk hst w h dX12_digest_218
    · replace h := h.2 hc
      clear hc
      refine lv_aload_n hx hb dX12_digest_198 rfl (lv_at hl 0 rfl) ?_
      refine lv_aload_n hx hb dX12_digest_199 rfl (lv_at hl 0 rfl) ?_
      refine lv_iload_n hx hb dX12_digest_200 rfl (lv_at hl 1 rfl) ?_
      refine jcV_i (k := x0) (As := [.int x1]) (rest := [.ref (b + x0)]) C0 w (c_X12_howMany hG hx0 h) (cwV 1 hts gX12_digest_X12_howMany rfl rfl rfl (by decide +kernel) ⟨Nat.le_of_ble_eq_true rfl, Nat.le_of_ble_eq_true rfl⟩) hx0 (rfl : vwCl[11]? = some (RX12, TX12, 51)) (by decide) rfl hl.1 rfl (Nat.le_of_ble_eq_true rfl) dX12_digest_201 (fun q201 i201 j201 H locs h w => ?_) ⟨Nat.zero_le _, Nat.zero_le _⟩
      refine lv_i2l hx hb dX12_digest_204 rfl ?_
      refine jcV_v (k := x0) (As := [.long q201.toInt64]) (rest := []) C0 w (c_X12_mix hG hx0 h) (cwV 1 hts gX12_digest_X12_mix rfl rfl rfl (by decide +kernel) ⟨Nat.le_of_ble_eq_true rfl, Nat.le_of_ble_eq_true rfl⟩) hx0 (rfl : vwCl[11]? = some (RX12, TX12, 51)) (by decide) rfl hl.1 rfl (Nat.le_of_ble_eq_true rfl) dX12_digest_205 (fun i205 j205 H locs h w => ?_) ⟨Nat.zero_le _, Nat.zero_le _⟩
      obtain ⟨v208, he⟩ : ∃ z : Int32, z = x1 + (1 : Int32) := ⟨_, rfl⟩
      replace h := h v208 he
      refine lv_iinc (v := v208) (lv' := [(1, .int v208), (0, .ref (b + x0))]) hx hb dX12_digest_208 hl (k := 1) rfl (by rw [he]; rfl) (by decide) rfl (fun ls hl => ?_)
      clear he
      refine lv_goto (tgt := 192) hx hb dX12_digest_211 (by decide) ?_
      exact ih w hx0 (lv_sub hl [1, 0] rfl) h
set_option maxHeartbeats 4000000 in
set_option maxRecDepth 100000 in
theorem w_X12_digest_L165 (C0 : jCx p s m args c cX12_digest 3 wsX12_digest RX12 b cy D tU n K r) (hr : meth.sig.returnType = some .long) (hlk : meth.locks = false) : ∀ (g : Nat) {H : Heap} {locs : List Loc} {ls : Array Slot} {i : jI} {j : jL} {x0 : Nat} {x1 : Int32} (w : jDy b cy D n K len r i j s H locs) (hx0 : x0 < n ∧ K x0 = 11) (hl : lv_has ls 3 [(0, .ref (b + x0)), (1, .int x1)]) (h : J_X12_digest_L165 len r Q g i j x0 x1), W p l e rm_X12_digest s m args below meth c H locs 0 0 (MQ below (jQl b cy D tU n K len r Q) args s 0 0 (jA b)) (F0 m 165 ls []) := by
  obtain ⟨hx, hb, hml, hown, hts, hst, hG⟩ := id C0
  have hiX12 : ∀ w ∈ u_ws RX12 TX12 51, w ∈ wsX12_digest := hiX12_X12_digest
  intro g
  induction g with
  | zero => intro H locs ls i j x0 x1 w hx0 hl h; exact False.elim h
  | succ g ih =>
    intro H locs ls i j x0 x1 w hx0 hl h
    rw [J_X12_digest_L165] at h
    refine lv_iload_n hx hb dX12_digest_165 rfl (lv_at hl 1 rfl) ?_
    refine lv_aload_n hx hb dX12_digest_166 rfl (lv_at hl 0 rfl) ?_
    refine jgi (f := 15) hx hb hts hown hst w hx0 hiX12 (rfl : vwCl[11]? = some (RX12, TX12, 51)) (hts (.fieldLink RX12 95 "FootByGateModel" "pageLength" "I") (by decide +kernel)) ⟨by decide, by decide, rfl⟩ dX12_digest_167 ?_
    refine lv_icmp_ge (tgt := 190) hx hb dX12_digest_170 (by decide) (fun hc => ?_) (fun hc => ?_)
    · replace h := h.1 hc
      clear hc
      refine lv_iconst (v := (0 : Int32)) hx hb dX12_digest_190 (by decide) ?_
      refine lv_istore_n (lv' := [(1, .int (0 : Int32)), (0, .ref (b + x0))]) hx hb dX12_digest_191 rfl hl (by decide) rfl (fun ls hl => ?_)
      obtain ⟨g0, h⟩ := h
      exact w_X12_digest_L192 C0 hr hlk g0 w hx0 (lv_sub hl [1, 0] rfl) h
    · replace h := h.2 hc
      clear hc
      refine lv_aload_n hx hb dX12_digest_173 rfl (lv_at hl 0 rfl) ?_
      refine lv_aload_n hx hb dX12_digest_174 rfl (lv_at hl 0 rfl) ?_
      obtain ⟨a175, hr0, h⟩ := h
      refine jgr (f := 16) hx hb hts hown hst w hG hx0 hiX12 (rfl : vwCl[11]? = some (RX12, TX12, 51)) (hts (.fieldLink RX12 34 "FootByGateModel" "page" "[B") (by decide +kernel)) ⟨by decide, by decide, rfl⟩ (rfl : jrt 11 16 = 12) dX12_digest_175 hr0 (fun ha175 => ?_)
      clear hr0
      refine lv_iload_n hx hb dX12_digest_178 rfl (lv_at hl 1 rfl) ?_
      obtain ⟨hn, h⟩ := h
      refine jabd hx hb hst w ha175 hn dX12_digest_179 ?_
      clear hn
      refine lv_i2l hx hb dX12_digest_180 rfl ?_
      refine jcV_v (k := x0) (As := [.long ((i a175 x1.toNatClampNeg).toInt64)]) (rest := []) C0 w (c_X12_mix hG hx0 h) (cwV 1 hts gX12_digest_X12_mix rfl rfl rfl (by decide +kernel) ⟨Nat.le_of_ble_eq_true rfl, Nat.le_of_ble_eq_true rfl⟩) hx0 (rfl : vwCl[11]? = some (RX12, TX12, 51)) (by decide) rfl hl.1 rfl (Nat.le_of_ble_eq_true rfl) dX12_digest_181 (fun i181 j181 H locs h w => ?_) ⟨Nat.zero_le _, Nat.zero_le _⟩
      obtain ⟨v184, he⟩ : ∃ z : Int32, z = x1 + (1 : Int32) := ⟨_, rfl⟩
      replace h := h v184 he
      refine lv_iinc (v := v184) (lv' := [(1, .int v184), (0, .ref (b + x0))]) hx hb dX12_digest_184 hl (k := 1) rfl (by rw [he]; rfl) (by decide) rfl (fun ls hl => ?_)
      clear he
      refine lv_goto (tgt := 165) hx hb dX12_digest_187 (by decide) ?_
      exact ih w hx0 (lv_sub hl [1, 0] rfl) h
set_option maxHeartbeats 4000000 in
set_option maxRecDepth 100000 in
theorem w_X12_digest_L99 (C0 : jCx p s m args c cX12_digest 3 wsX12_digest RX12 b cy D tU n K r) (hr : meth.sig.returnType = some .long) (hlk : meth.locks = false) : ∀ (g : Nat) {H : Heap} {locs : List Loc} {ls : Array Slot} {i : jI} {j : jL} {x0 : Nat} {x1 : Int32} (w : jDy b cy D n K len r i j s H locs) (hx0 : x0 < n ∧ K x0 = 11) (hl : lv_has ls 3 [(0, .ref (b + x0)), (1, .int x1)]) (h : J_X12_digest_L99 len r Q g i j x0 x1), W p l e rm_X12_digest s m args below meth c H locs 0 0 (MQ below (jQl b cy D tU n K len r Q) args s 0 0 (jA b)) (F0 m 99 ls []) := by
  obtain ⟨hx, hb, hml, hown, hts, hst, hG⟩ := id C0
  have hiX12 : ∀ w ∈ u_ws RX12 TX12 51, w ∈ wsX12_digest := hiX12_X12_digest
  intro g
  induction g with
  | zero => intro H locs ls i j x0 x1 w hx0 hl h; exact False.elim h
  | succ g ih =>
    intro H locs ls i j x0 x1 w hx0 hl h
    rw [J_X12_digest_L99] at h
    refine lv_iload_n hx hb dX12_digest_99 rfl (lv_at hl 1 rfl) ?_
    refine lv_aload_n hx hb dX12_digest_100 rfl (lv_at hl 0 rfl) ?_
    refine jgi (f := 12) hx hb hts hown hst w hx0 hiX12 (rfl : vwCl[11]? = some (RX12, TX12, 51)) (hts (.fieldLink RX12 141 "FootByGateModel" "prints" "I") (by decide +kernel)) ⟨by decide, by decide, rfl⟩ dX12_digest_101 ?_
    refine lv_icmp_ge (tgt := 154) hx hb dX12_digest_104 (by decide) (fun hc => ?_) (fun hc => ?_)
    · replace h := h.1 hc
      clear hc
      refine lv_aload_n hx hb dX12_digest_154 rfl (lv_at hl 0 rfl) ?_
      refine lv_aload_n hx hb dX12_digest_155 rfl (lv_at hl 0 rfl) ?_
      refine jcV_i (k := x0) (As := []) (rest := [.ref (b + x0)]) C0 w (c_X12_whoNow hG hx0 h) (cwV 0 hts gX12_digest_X12_whoNow rfl rfl rfl (by decide +kernel) ⟨Nat.le_of_ble_eq_true rfl, Nat.le_of_ble_eq_true rfl⟩) hx0 (rfl : vwCl[11]? = some (RX12, TX12, 51)) (by decide) rfl hl.1 rfl (Nat.le_of_ble_eq_true rfl) dX12_digest_156 (fun q156 i156 j156 H locs h w => ?_) ⟨Nat.zero_le _, Nat.zero_le _⟩
      refine lv_i2l hx hb dX12_digest_159 rfl ?_
      refine jcV_v (k := x0) (As := [.long q156.toInt64]) (rest := []) C0 w (c_X12_mix hG hx0 h) (cwV 1 hts gX12_digest_X12_mix rfl rfl rfl (by decide +kernel) ⟨Nat.le_of_ble_eq_true rfl, Nat.le_of_ble_eq_true rfl⟩) hx0 (rfl : vwCl[11]? = some (RX12, TX12, 51)) (by decide) rfl hl.1 rfl (Nat.le_of_ble_eq_true rfl) dX12_digest_160 (fun i160 j160 H locs h w => ?_) ⟨Nat.zero_le _, Nat.zero_le _⟩
      refine lv_iconst (v := (0 : Int32)) hx hb dX12_digest_163 (by decide) ?_
      refine lv_istore_n (lv' := [(1, .int (0 : Int32)), (0, .ref (b + x0))]) hx hb dX12_digest_164 rfl hl (by decide) rfl (fun ls hl => ?_)
      obtain ⟨g0, h⟩ := h
      exact w_X12_digest_L165 C0 hr hlk g0 w hx0 (lv_sub hl [1, 0] rfl) h
    · replace h := h.2 hc
      clear hc
      refine lv_aload_n hx hb dX12_digest_107 rfl (lv_at hl 0 rfl) ?_
      refine lv_aload_n hx hb dX12_digest_108 rfl (lv_at hl 0 rfl) ?_
      obtain ⟨a109, hr0, h⟩ := h
      refine jgr (f := 13) hx hb hts hown hst w hG hx0 hiX12 (rfl : vwCl[11]? = some (RX12, TX12, 51)) (hts (.fieldLink RX12 31 "FootByGateModel" "printOf" "[I") (by decide +kernel)) ⟨by decide, by decide, rfl⟩ (rfl : jrt 11 13 = 13) dX12_digest_109 hr0 (fun ha109 => ?_)
      clear hr0
      refine lv_iload_n hx hb dX12_digest_112 rfl (lv_at hl 1 rfl) ?_
      obtain ⟨hn, h⟩ := h
      refine jaid hx hb hst w ha109 hn dX12_digest_113 ?_
      clear hn
      refine lv_iconst (v := (4 : Int32)) hx hb dX12_digest_114 (by decide) ?_
      refine lv_idiv hx hb dX12_digest_115 (by decide) ?_
      refine lv_i2l hx hb dX12_digest_116 rfl ?_
      refine jcV_v (k := x0) (As := [.long (((i a109 x1.toNatClampNeg) / (4 : Int32)).toInt64)]) (rest := []) C0 w (c_X12_mix hG hx0 h) (cwV 1 hts gX12_digest_X12_mix rfl rfl rfl (by decide +kernel) ⟨Nat.le_of_ble_eq_true rfl, Nat.le_of_ble_eq_true rfl⟩) hx0 (rfl : vwCl[11]? = some (RX12, TX12, 51)) (by decide) rfl hl.1 rfl (Nat.le_of_ble_eq_true rfl) dX12_digest_117 (fun i117 j117 H locs h w => ?_) ⟨Nat.zero_le _, Nat.zero_le _⟩
      refine lv_aload_n hx hb dX12_digest_120 rfl (lv_at hl 0 rfl) ?_
      refine lv_aload_n hx hb dX12_digest_121 rfl (lv_at hl 0 rfl) ?_
      obtain ⟨a122, hr0, h⟩ := h
      refine jgr (f := 13) hx hb hts hown hst w hG hx0 hiX12 (rfl : vwCl[11]? = some (RX12, TX12, 51)) (hts (.fieldLink RX12 31 "FootByGateModel" "printOf" "[I") (by decide +kernel)) ⟨by decide, by decide, rfl⟩ (rfl : jrt 11 13 = 13) dX12_digest_122 hr0 (fun ha122 => ?_)
      clear hr0
      refine lv_iload_n hx hb dX12_digest_125 rfl (lv_at hl 1 rfl) ?_
      obtain ⟨hn, h⟩ := h
      refine jaid hx hb hst w ha122 hn dX12_digest_126 ?_
      clear hn
      refine lv_iconst (v := (2 : Int32)) hx hb dX12_digest_127 (by decide) ?_
      refine lv_idiv hx hb dX12_digest_128 (by decide) ?_
      refine lv_iconst (v := (2 : Int32)) hx hb dX12_digest_129 (by decide) ?_
      refine lv_irem hx hb dX12_digest_130 (by decide) ?_
      refine lv_i2l hx hb dX12_digest_131 rfl ?_
      refine jcV_v (k := x0) (As := [.long ((((i117 a122 x1.toNatClampNeg) / (2 : Int32)) - ((i117 a122 x1.toNatClampNeg) / (2 : Int32)) / (2 : Int32) * (2 : Int32)).toInt64)]) (rest := []) C0 w (c_X12_mix hG hx0 h) (cwV 1 hts gX12_digest_X12_mix rfl rfl rfl (by decide +kernel) ⟨Nat.le_of_ble_eq_true rfl, Nat.le_of_ble_eq_true rfl⟩) hx0 (rfl : vwCl[11]? = some (RX12, TX12, 51)) (by decide) rfl hl.1 rfl (Nat.le_of_ble_eq_true rfl) dX12_digest_132 (fun i132 j132 H locs h w => ?_) ⟨Nat.zero_le _, Nat.zero_le _⟩
      refine lv_aload_n hx hb dX12_digest_135 rfl (lv_at hl 0 rfl) ?_
      refine lv_aload_n hx hb dX12_digest_136 rfl (lv_at hl 0 rfl) ?_
      obtain ⟨a137, hr0, h⟩ := h
      refine jgr (f := 13) hx hb hts hown hst w hG hx0 hiX12 (rfl : vwCl[11]? = some (RX12, TX12, 51)) (hts (.fieldLink RX12 31 "FootByGateModel" "printOf" "[I") (by decide +kernel)) ⟨by decide, by decide, rfl⟩ (rfl : jrt 11 13 = 13) dX12_digest_137 hr0 (fun ha137 => ?_)
      clear hr0
      refine lv_iload_n hx hb dX12_digest_140 rfl (lv_at hl 1 rfl) ?_
      obtain ⟨hn, h⟩ := h
      refine jaid hx hb hst w ha137 hn dX12_digest_141 ?_
      clear hn
      refine lv_iconst (v := (2 : Int32)) hx hb dX12_digest_142 (by decide) ?_
      refine lv_irem hx hb dX12_digest_143 (by decide) ?_
      refine lv_i2l hx hb dX12_digest_144 rfl ?_
      refine jcV_v (k := x0) (As := [.long (((i132 a137 x1.toNatClampNeg) - (i132 a137 x1.toNatClampNeg) / (2 : Int32) * (2 : Int32)).toInt64)]) (rest := []) C0 w (c_X12_mix hG hx0 h) (cwV 1 hts gX12_digest_X12_mix rfl rfl rfl (by decide +kernel) ⟨Nat.le_of_ble_eq_true rfl, Nat.le_of_ble_eq_true rfl⟩) hx0 (rfl : vwCl[11]? = some (RX12, TX12, 51)) (by decide) rfl hl.1 rfl (Nat.le_of_ble_eq_true rfl) dX12_digest_145 (fun i145 j145 H locs h w => ?_) ⟨Nat.zero_le _, Nat.zero_le _⟩
      obtain ⟨v148, he⟩ : ∃ z : Int32, z = x1 + (1 : Int32) := ⟨_, rfl⟩
      replace h := h v148 he
      refine lv_iinc (v := v148) (lv' := [(1, .int v148), (0, .ref (b + x0))]) hx hb dX12_digest_148 hl (k := 1) rfl (by rw [he]; rfl) (by decide) rfl (fun ls hl => ?_)
      clear he
      refine lv_goto (tgt := 99) hx hb dX12_digest_151 (by decide) ?_
      exact ih w hx0 (lv_sub hl [1, 0] rfl) h
set_option maxHeartbeats 4000000 in
set_option maxRecDepth 100000 in
theorem w_X12_digest_L97 (C0 : jCx p s m args c cX12_digest 3 wsX12_digest RX12 b cy D tU n K r) (hr : meth.sig.returnType = some .long) (hlk : meth.locks = false) {H : Heap} {locs : List Loc} {ls : Array Slot} {i : jI} {j : jL} {x0 : Nat} (w : jDy b cy D n K len r i j s H locs) (hx0 : x0 < n ∧ K x0 = 11) (hl : lv_has ls 3 [(0, .ref (b + x0))]) (h : J_X12_digest_L97 len r Q i j x0) : W p l e rm_X12_digest s m args below meth c H locs 0 0 (MQ below (jQl b cy D tU n K len r Q) args s 0 0 (jA b)) (F0 m 97 ls []) := by
  obtain ⟨hx, hb, hml, hown, hts, hst, hG⟩ := id C0
  have hiX12 : ∀ w ∈ u_ws RX12 TX12 51, w ∈ wsX12_digest := hiX12_X12_digest
  rw [J_X12_digest_L97] at h
  refine lv_iconst (v := (0 : Int32)) hx hb dX12_digest_97 (by decide) ?_
  refine lv_istore_n (lv' := [(1, .int (0 : Int32)), (0, .ref (b + x0))]) hx hb dX12_digest_98 rfl hl (by decide) rfl (fun ls hl => ?_)
  obtain ⟨g0, h⟩ := h
  exact w_X12_digest_L99 C0 hr hlk g0 w hx0 (lv_sub hl [1, 0] rfl) h
set_option maxHeartbeats 4000000 in
set_option maxRecDepth 100000 in
theorem w_X12_digest_L49 (C0 : jCx p s m args c cX12_digest 3 wsX12_digest RX12 b cy D tU n K r) (hr : meth.sig.returnType = some .long) (hlk : meth.locks = false) : ∀ (g : Nat) {H : Heap} {locs : List Loc} {ls : Array Slot} {i : jI} {j : jL} {x0 : Nat} {x1 : Int32} (w : jDy b cy D n K len r i j s H locs) (hx0 : x0 < n ∧ K x0 = 11) (hl : lv_has ls 3 [(0, .ref (b + x0)), (1, .int x1)]) (h : J_X12_digest_L49 len r Q g i j x0 x1), W p l e rm_X12_digest s m args below meth c H locs 0 0 (MQ below (jQl b cy D tU n K len r Q) args s 0 0 (jA b)) (F0 m 49 ls []) := by
  obtain ⟨hx, hb, hml, hown, hts, hst, hG⟩ := id C0
  have hiX12 : ∀ w ∈ u_ws RX12 TX12 51, w ∈ wsX12_digest := hiX12_X12_digest
  intro g
  induction g with
  | zero => intro H locs ls i j x0 x1 w hx0 hl h; exact False.elim h
  | succ g ih =>
    intro H locs ls i j x0 x1 w hx0 hl h
    rw [J_X12_digest_L49] at h
    refine lv_iload_n hx hb dX12_digest_49 rfl (lv_at hl 1 rfl) ?_
    refine lv_aload_n hx hb dX12_digest_50 rfl (lv_at hl 0 rfl) ?_
    refine jgi (f := 8) hx hb hts hown hst w hx0 hiX12 (rfl : vwCl[11]? = some (RX12, TX12, 51)) (hts (.fieldLink RX12 138 "FootByGateModel" "walkers" "I") (by decide +kernel)) ⟨by decide, by decide, rfl⟩ dX12_digest_51 ?_
    refine lv_icmp_ge (tgt := 68) hx hb dX12_digest_54 (by decide) (fun hc => ?_) (fun hc => ?_)
    · replace h := h.1 hc
      clear hc
      refine lv_aload_n hx hb dX12_digest_68 rfl (lv_at hl 0 rfl) ?_
      refine jgi (f := 7) hx hb hts hown hst w hx0 hiX12 (rfl : vwCl[11]? = some (RX12, TX12, 51)) (hts (.fieldLink RX12 135 "FootByGateModel" "towns" "I") (by decide +kernel)) ⟨by decide, by decide, rfl⟩ dX12_digest_69 ?_
      refine lv_if_le (tgt := 97) hx hb dX12_digest_72 (by decide) (fun hc => ?_) (fun hc => ?_)
      · replace h := h.1 hc
        clear hc
        exact w_X12_digest_L97 C0 hr hlk w hx0 (lv_sub hl [0] rfl) h
      · replace h := h.2 hc
        clear hc
        refine lv_aload_n hx hb dX12_digest_75 rfl (lv_at hl 0 rfl) ?_
        refine lv_aload_n hx hb dX12_digest_76 rfl (lv_at hl 0 rfl) ?_
        refine lv_iconst (v := (0 : Int32)) hx hb dX12_digest_77 (by decide) ?_
        refine lv_iconst (v := (0 : Int32)) hx hb dX12_digest_78 (by decide) ?_
        refine jcV_i (k := x0) (As := [.int (0 : Int32), .int (0 : Int32)]) (rest := [.ref (b + x0)]) C0 w (c_X12_evenNow hG hx0 h) (cwV 2 hts gX12_digest_X12_evenNow rfl rfl rfl (by decide +kernel) ⟨Nat.le_of_ble_eq_true rfl, Nat.le_of_ble_eq_true rfl⟩) hx0 (rfl : vwCl[11]? = some (RX12, TX12, 51)) (by decide) rfl hl.1 rfl (Nat.le_of_ble_eq_true rfl) dX12_digest_79 (fun q79 i79 j79 H locs h w => ?_) ⟨Nat.zero_le _, Nat.zero_le _⟩
        refine lv_i2l hx hb dX12_digest_82 rfl ?_
        refine jcV_v (k := x0) (As := [.long q79.toInt64]) (rest := []) C0 w (c_X12_mix hG hx0 h) (cwV 1 hts gX12_digest_X12_mix rfl rfl rfl (by decide +kernel) ⟨Nat.le_of_ble_eq_true rfl, Nat.le_of_ble_eq_true rfl⟩) hx0 (rfl : vwCl[11]? = some (RX12, TX12, 51)) (by decide) rfl hl.1 rfl (Nat.le_of_ble_eq_true rfl) dX12_digest_83 (fun i83 j83 H locs h w => ?_) ⟨Nat.zero_le _, Nat.zero_le _⟩
        refine lv_aload_n hx hb dX12_digest_86 rfl (lv_at hl 0 rfl) ?_
        refine lv_aload_n hx hb dX12_digest_87 rfl (lv_at hl 0 rfl) ?_
        refine lv_iconst (v := (0 : Int32)) hx hb dX12_digest_88 (by decide) ?_
        refine lv_iconst (v := (1 : Int32)) hx hb dX12_digest_89 (by decide) ?_
        refine jcV_i (k := x0) (As := [.int (0 : Int32), .int (1 : Int32)]) (rest := [.ref (b + x0)]) C0 w (c_X12_evenNow hG hx0 h) (cwV 2 hts gX12_digest_X12_evenNow rfl rfl rfl (by decide +kernel) ⟨Nat.le_of_ble_eq_true rfl, Nat.le_of_ble_eq_true rfl⟩) hx0 (rfl : vwCl[11]? = some (RX12, TX12, 51)) (by decide) rfl hl.1 rfl (Nat.le_of_ble_eq_true rfl) dX12_digest_90 (fun q90 i90 j90 H locs h w => ?_) ⟨Nat.zero_le _, Nat.zero_le _⟩
        refine lv_i2l hx hb dX12_digest_93 rfl ?_
        refine jcV_v (k := x0) (As := [.long q90.toInt64]) (rest := []) C0 w (c_X12_mix hG hx0 h) (cwV 1 hts gX12_digest_X12_mix rfl rfl rfl (by decide +kernel) ⟨Nat.le_of_ble_eq_true rfl, Nat.le_of_ble_eq_true rfl⟩) hx0 (rfl : vwCl[11]? = some (RX12, TX12, 51)) (by decide) rfl hl.1 rfl (Nat.le_of_ble_eq_true rfl) dX12_digest_94 (fun i94 j94 H locs h w => ?_) ⟨Nat.zero_le _, Nat.zero_le _⟩
        exact w_X12_digest_L97 C0 hr hlk w hx0 (lv_sub hl [0] rfl) h
    · replace h := h.2 hc
      clear hc
      refine lv_aload_n hx hb dX12_digest_57 rfl (lv_at hl 0 rfl) ?_
      refine lv_iload_n hx hb dX12_digest_58 rfl (lv_at hl 1 rfl) ?_
      refine jcV_v (k := x0) (As := [.int x1]) (rest := []) C0 w (c_X12_mixWalker hG hx0 h) (cwV 1 hts gX12_digest_X12_mixWalker rfl rfl rfl (by decide +kernel) ⟨Nat.le_of_ble_eq_true rfl, Nat.le_of_ble_eq_true rfl⟩) hx0 (rfl : vwCl[11]? = some (RX12, TX12, 51)) (by decide) rfl hl.1 rfl (Nat.le_of_ble_eq_true rfl) dX12_digest_59 (fun i59 j59 H locs h w => ?_) ⟨Nat.zero_le _, Nat.zero_le _⟩
      obtain ⟨v62, he⟩ : ∃ z : Int32, z = x1 + (1 : Int32) := ⟨_, rfl⟩
      replace h := h v62 he
      refine lv_iinc (v := v62) (lv' := [(1, .int v62), (0, .ref (b + x0))]) hx hb dX12_digest_62 hl (k := 1) rfl (by rw [he]; rfl) (by decide) rfl (fun ls hl => ?_)
      clear he
      refine lv_goto (tgt := 49) hx hb dX12_digest_65 (by decide) ?_
      exact ih w hx0 (lv_sub hl [1, 0] rfl) h
set_option maxHeartbeats 4000000 in
set_option maxRecDepth 100000 in
theorem w_X12_digest_L19 (C0 : jCx p s m args c cX12_digest 3 wsX12_digest RX12 b cy D tU n K r) (hr : meth.sig.returnType = some .long) (hlk : meth.locks = false) {Hd9 : jI → jL → Nat → Int32 → Prop} (k9 : ∀ {H : Heap} {locs : List Loc} {ls : Array Slot} {i : jI} {j : jL} {x0 : Nat} {x1 : Int32} (w : jDy b cy D n K len r i j s H locs) (hx0 : x0 < n ∧ K x0 = 11) (hl : lv_has ls 3 [(0, .ref (b + x0)), (1, .int x1)]) (h : Hd9 i j x0 x1), W p l e rm_X12_digest s m args below meth c H locs 0 0 (MQ below (jQl b cy D tU n K len r Q) args s 0 0 (jA b)) (F0 m 9 ls [])) : ∀ (g : Nat) {H : Heap} {locs : List Loc} {ls : Array Slot} {i : jI} {j : jL} {x0 : Nat} {x1 : Int32} {x2 : Int32} (w : jDy b cy D n K len r i j s H locs) (hx0 : x0 < n ∧ K x0 = 11) (hl : lv_has ls 3 [(0, .ref (b + x0)), (1, .int x1), (2, .int x2)]) (h : J_X12_digest_L19 len r Q Hd9 g i j x0 x1 x2), W p l e rm_X12_digest s m args below meth c H locs 0 0 (MQ below (jQl b cy D tU n K len r Q) args s 0 0 (jA b)) (F0 m 19 ls []) := by
  obtain ⟨hx, hb, hml, hown, hts, hst, hG⟩ := id C0
  have hiX12 : ∀ w ∈ u_ws RX12 TX12 51, w ∈ wsX12_digest := hiX12_X12_digest
  intro g
  induction g with
  | zero => intro H locs ls i j x0 x1 x2 w hx0 hl h; exact False.elim h
  | succ g ih =>
    intro H locs ls i j x0 x1 x2 w hx0 hl h
    rw [J_X12_digest_L19] at h
    refine lv_iload_n hx hb dX12_digest_19 rfl (lv_at hl 2 rfl) ?_
    refine lv_iconst (v := (4 : Int32)) hx hb dX12_digest_20 (by decide) ?_
    refine lv_icmp_ge (tgt := 41) hx hb dX12_digest_21 (by decide) (fun hc => ?_) (fun hc => ?_)
    · replace h := h.1 hc
      clear hc
      obtain ⟨v41, he⟩ : ∃ z : Int32, z = x1 + (1 : Int32) := ⟨_, rfl⟩
      replace h := h v41 he
      refine lv_iinc (v := v41) (lv' := [(1, .int v41), (0, .ref (b + x0)), (2, .int x2)]) hx hb dX12_digest_41 hl (k := 1) rfl (by rw [he]; rfl) (by decide) rfl (fun ls hl => ?_)
      clear he
      refine lv_goto (tgt := 9) hx hb dX12_digest_44 (by decide) ?_
      exact k9 w hx0 (lv_sub hl [1, 0] rfl) h
    · replace h := h.2 hc
      clear hc
      refine lv_aload_n hx hb dX12_digest_24 rfl (lv_at hl 0 rfl) ?_
      refine lv_aload_n hx hb dX12_digest_25 rfl (lv_at hl 0 rfl) ?_
      refine lv_iload_n hx hb dX12_digest_26 rfl (lv_at hl 1 rfl) ?_
      refine lv_iload_n hx hb dX12_digest_27 rfl (lv_at hl 2 rfl) ?_
      refine jcV_i (k := x0) (As := [.int x1, .int x2]) (rest := [.ref (b + x0)]) C0 w (c_X12_streetNow hG hx0 h) (cwV 2 hts gX12_digest_X12_streetNow rfl rfl rfl (by decide +kernel) ⟨Nat.le_of_ble_eq_true rfl, Nat.le_of_ble_eq_true rfl⟩) hx0 (rfl : vwCl[11]? = some (RX12, TX12, 51)) (by decide) rfl hl.1 rfl (Nat.le_of_ble_eq_true rfl) dX12_digest_28 (fun q28 i28 j28 H locs h w => ?_) ⟨Nat.zero_le _, Nat.zero_le _⟩
      refine lv_i2l hx hb dX12_digest_31 rfl ?_
      refine jcV_v (k := x0) (As := [.long q28.toInt64]) (rest := []) C0 w (c_X12_mix hG hx0 h) (cwV 1 hts gX12_digest_X12_mix rfl rfl rfl (by decide +kernel) ⟨Nat.le_of_ble_eq_true rfl, Nat.le_of_ble_eq_true rfl⟩) hx0 (rfl : vwCl[11]? = some (RX12, TX12, 51)) (by decide) rfl hl.1 rfl (Nat.le_of_ble_eq_true rfl) dX12_digest_32 (fun i32 j32 H locs h w => ?_) ⟨Nat.zero_le _, Nat.zero_le _⟩
      obtain ⟨v35, he⟩ : ∃ z : Int32, z = x2 + (1 : Int32) := ⟨_, rfl⟩
      replace h := h v35 he
      refine lv_iinc (v := v35) (lv' := [(2, .int v35), (0, .ref (b + x0)), (1, .int x1)]) hx hb dX12_digest_35 hl (k := 2) rfl (by rw [he]; rfl) (by decide) rfl (fun ls hl => ?_)
      clear he
      refine lv_goto (tgt := 19) hx hb dX12_digest_38 (by decide) ?_
      exact ih w hx0 (lv_sub hl [1, 2, 0] rfl) h
set_option maxHeartbeats 4000000 in
set_option maxRecDepth 100000 in
theorem w_X12_digest_L9 (C0 : jCx p s m args c cX12_digest 3 wsX12_digest RX12 b cy D tU n K r) (hr : meth.sig.returnType = some .long) (hlk : meth.locks = false) : ∀ (g : Nat) {H : Heap} {locs : List Loc} {ls : Array Slot} {i : jI} {j : jL} {x0 : Nat} {x1 : Int32} (w : jDy b cy D n K len r i j s H locs) (hx0 : x0 < n ∧ K x0 = 11) (hl : lv_has ls 3 [(0, .ref (b + x0)), (1, .int x1)]) (h : J_X12_digest_L9 len r Q g i j x0 x1), W p l e rm_X12_digest s m args below meth c H locs 0 0 (MQ below (jQl b cy D tU n K len r Q) args s 0 0 (jA b)) (F0 m 9 ls []) := by
  obtain ⟨hx, hb, hml, hown, hts, hst, hG⟩ := id C0
  have hiX12 : ∀ w ∈ u_ws RX12 TX12 51, w ∈ wsX12_digest := hiX12_X12_digest
  intro g
  induction g with
  | zero => intro H locs ls i j x0 x1 w hx0 hl h; exact False.elim h
  | succ g ih =>
    intro H locs ls i j x0 x1 w hx0 hl h
    rw [J_X12_digest_L9] at h
    refine lv_iload_n hx hb dX12_digest_9 rfl (lv_at hl 1 rfl) ?_
    refine lv_aload_n hx hb dX12_digest_10 rfl (lv_at hl 0 rfl) ?_
    refine jgi (f := 0) hx hb hts hown hst w hx0 hiX12 (rfl : vwCl[11]? = some (RX12, TX12, 51)) (hts (.fieldLink RX12 126 "FootByGateModel" "streets" "I") (by decide +kernel)) ⟨by decide, by decide, rfl⟩ dX12_digest_11 ?_
    refine lv_icmp_ge (tgt := 47) hx hb dX12_digest_14 (by decide) (fun hc => ?_) (fun hc => ?_)
    · replace h := h.1 hc
      clear hc
      refine lv_iconst (v := (0 : Int32)) hx hb dX12_digest_47 (by decide) ?_
      refine lv_istore_n (lv' := [(1, .int (0 : Int32)), (0, .ref (b + x0))]) hx hb dX12_digest_48 rfl hl (by decide) rfl (fun ls hl => ?_)
      obtain ⟨g0, h⟩ := h
      exact w_X12_digest_L49 C0 hr hlk g0 w hx0 (lv_sub hl [1, 0] rfl) h
    · replace h := h.2 hc
      clear hc
      refine lv_iconst (v := (0 : Int32)) hx hb dX12_digest_17 (by decide) ?_
      refine lv_istore_n (lv' := [(2, .int (0 : Int32)), (0, .ref (b + x0)), (1, .int x1)]) hx hb dX12_digest_18 rfl hl (by decide) rfl (fun ls hl => ?_)
      obtain ⟨g0, h⟩ := h
      exact w_X12_digest_L19 C0 hr hlk (fun w hx0 hl h => ih w hx0 hl h) g0 w hx0 (lv_sub hl [1, 2, 0] rfl) h
set_option maxHeartbeats 4000000 in
set_option maxRecDepth 100000 in
theorem c_X12_digest (hG : jG n K r) {i : jI} {j : jL} {x0 : Nat} (hx0 : x0 < n ∧ K x0 = 11) (h : J_X12_digest len r Q i j x0) : Met l yX12_digest wsX12_digest rm_X12_digest (va_Pc [.ref (b + x0)] (jPre b cy D tU n K len r i j)) (jQl b cy D tU n K len r Q) 0 0 (jA b) := by
  refine Met.ofW (cc := cX12_digest) (maxL := 3) (ret := (some .long)) (by decide) rfl ?_
  intro p e s m args below meth c s₁ B hml hv
  obtain ⟨rfl, hv⟩ := hv
  have C0 : jCx p s m _ c cX12_digest 3 wsX12_digest RX12 b cy D tU n K r := ⟨B.exec, B.bytes, hml, findClass_of_methodNamed B.named, atoms_spec (ws := wsX12_digest) B.pre, hv.2.2, hG⟩
  have hr := B.returns
  have hlk := B.notSynchronized
  obtain ⟨hx, hb, hml, hown, hts, hst, hG⟩ := id C0
  have hiX12 : ∀ w ∈ u_ws RX12 TX12 51, w ∈ wsX12_digest := hiX12_X12_digest
  have w := jDy.start hv
  have hl := lv_entry ([.ref (b + x0)]) (n := 3) (Nat.le_of_ble_eq_true rfl)
  rw [lg_entry_eq]
  generalize (lg_sl ([.ref (b + x0)]) ++ List.replicate (3 - (lg_sl ([.ref (b + x0)])).length) Slot.unset).toArray = ls at hl ⊢
  replace hl : lv_has ls 3 [(0, .ref (b + x0))] := hl
  show W p l e rm_X12_digest s m _ below meth c s.heap [] 0 0 _ (F0 m 0 ls [])
  rw [J_X12_digest] at h
  refine lv_aload_n hx hb dX12_digest_0 rfl (lv_at hl 0 rfl) ?_
  refine lv_ldc2 hx hb hown (hts (.constantLong RX12 319 (619)) (by decide +kernel)) dX12_digest_1 ?_
  refine jpl (f := 50) hx hb hts hown hst w hx0 hiX12 (rfl : vwCl[11]? = some (RX12, TX12, 51)) (hts (.fieldLink RX12 312 "FootByGateModel" "h" "J") (by decide +kernel)) ⟨by decide, by decide, rfl⟩ tyX12 tyX12_ok nmX12 rfl ⟨rfl, rfl⟩ dX12_digest_4 (fun j4 H locs he w => ?_)
  replace h := h j4 he
  clear he
  refine lv_iconst (v := (0 : Int32)) hx hb dX12_digest_7 (by decide) ?_
  refine lv_istore_n (lv' := [(1, .int (0 : Int32)), (0, .ref (b + x0))]) hx hb dX12_digest_8 rfl hl (by decide) rfl (fun ls hl => ?_)
  obtain ⟨g0, h⟩ := h
  exact w_X12_digest_L9 C0 hr hlk g0 w hx0 (lv_sub hl [1, 0] rfl) h
end S_X12_digest
section S_X12_draw
def J_X12_draw (len : Nat → Nat) (r : jR) (Q : Int32 → jI → jL → Prop) (i : jI) (j : jL) (x0 : Nat) (x1 : Int32) : Prop := ∀ j17 : jL, j17 = jul j x0 41 ((((1103515245 : Int64) * (j x0 41)) + (12345 : Int64)) &&& (2147483647 : Int64)) → ((¬ x1.toInt64 = 0) ∧ (Q ((((j17 x0 41) / (65536 : Int64)) - ((j17 x0 41) / (65536 : Int64)) / x1.toInt64 * x1.toInt64).toInt32) i j17))
abbrev rm_X12_draw : Room := { frames := 0, cells := 0, slots := 0, locals := 0 }
variable {p : Program} {l : Launch} {e : Env} {s : State} {m : MethodId} {args : Array Value} {below : List Frame} {meth : Method} {c : Code} {b tU n : Nat} {cy : Nat → ClassId} {D : va_G} {K len : Nat → Nat} {r : jR} {Q : Int32 → jI → jL → Prop}
theorem hiX12_X12_draw : ∀ w ∈ u_ws RX12 TX12 51, w ∈ wsX12_draw := by decide +kernel
set_option maxHeartbeats 4000000 in
set_option maxRecDepth 100000 in
theorem c_X12_draw (hG : jG n K r) {i : jI} {j : jL} {x0 : Nat} {x1 : Int32} (hx0 : x0 < n ∧ K x0 = 11) (h : J_X12_draw len r Q i j x0 x1) : Met l yX12_draw wsX12_draw rm_X12_draw (va_Pc [.ref (b + x0), .int x1] (jPre b cy D tU n K len r i j)) (jQi b cy D tU n K len r Q) 0 0 (jA b) := by
  refine Met.ofW (cc := cX12_draw) (maxL := 2) (ret := (some .int)) (by decide) rfl ?_
  intro p e s m args below meth c s₁ B hml hv
  obtain ⟨rfl, hv⟩ := hv
  have C0 : jCx p s m _ c cX12_draw 2 wsX12_draw RX12 b cy D tU n K r := ⟨B.exec, B.bytes, hml, findClass_of_methodNamed B.named, atoms_spec (ws := wsX12_draw) B.pre, hv.2.2, hG⟩
  have hr := B.returns
  have hlk := B.notSynchronized
  obtain ⟨hx, hb, hml, hown, hts, hst, hG⟩ := id C0
  have hiX12 : ∀ w ∈ u_ws RX12 TX12 51, w ∈ wsX12_draw := hiX12_X12_draw
  have w := jDy.start hv
  have hl := lv_entry ([.ref (b + x0), .int x1]) (n := 2) (Nat.le_of_ble_eq_true rfl)
  rw [lg_entry_eq]
  generalize (lg_sl ([.ref (b + x0), .int x1]) ++ List.replicate (2 - (lg_sl ([.ref (b + x0), .int x1])).length) Slot.unset).toArray = ls at hl ⊢
  replace hl : lv_has ls 2 [(0, .ref (b + x0)), (1, .int x1)] := hl
  show W p l e rm_X12_draw s m _ below meth c s.heap [] 0 0 _ (F0 m 0 ls [])
  rw [J_X12_draw] at h
  refine lv_aload_n hx hb dX12_draw_0 rfl (lv_at hl 0 rfl) ?_
  refine lv_ldc2 hx hb hown (hts (.constantLong RX12 273 (1103515245)) (by decide +kernel)) dX12_draw_1 ?_
  refine lv_aload_n hx hb dX12_draw_4 rfl (lv_at hl 0 rfl) ?_
  refine jgl (f := 41) hx hb hts hown hst w hx0 hiX12 (rfl : vwCl[11]? = some (RX12, TX12, 51)) (hts (.fieldLink RX12 275 "FootByGateModel" "seedNow" "J") (by decide +kernel)) ⟨by decide, by decide, rfl⟩ dX12_draw_5 ?_
  refine lv_lmul hx hb dX12_draw_8 ?_
  refine lv_ldc2 hx hb hown (hts (.constantLong RX12 279 (12345)) (by decide +kernel)) dX12_draw_9 ?_
  refine lv_ladd hx hb dX12_draw_12 ?_
  refine lv_ldc2 hx hb hown (hts (.constantLong RX12 281 (2147483647)) (by decide +kernel)) dX12_draw_13 ?_
  refine lv_land hx hb dX12_draw_16 ?_
  refine jpl (f := 41) hx hb hts hown hst w hx0 hiX12 (rfl : vwCl[11]? = some (RX12, TX12, 51)) (hts (.fieldLink RX12 275 "FootByGateModel" "seedNow" "J") (by decide +kernel)) ⟨by decide, by decide, rfl⟩ tyX12 tyX12_ok nmX12 rfl ⟨rfl, rfl⟩ dX12_draw_17 (fun j17 H locs he w => ?_)
  replace h := h j17 he
  clear he
  refine lv_aload_n hx hb dX12_draw_20 rfl (lv_at hl 0 rfl) ?_
  refine jgl (f := 41) hx hb hts hown hst w hx0 hiX12 (rfl : vwCl[11]? = some (RX12, TX12, 51)) (hts (.fieldLink RX12 275 "FootByGateModel" "seedNow" "J") (by decide +kernel)) ⟨by decide, by decide, rfl⟩ dX12_draw_21 ?_
  refine lv_ldc2 hx hb hown (hts (.constantLong RX12 283 (65536)) (by decide +kernel)) dX12_draw_24 ?_
  refine lv_ldiv hx hb dX12_draw_27 (by decide) ?_
  refine lv_iload_n hx hb dX12_draw_28 rfl (lv_at hl 1 rfl) ?_
  refine lv_i2l hx hb dX12_draw_29 rfl ?_
  obtain ⟨hz, h⟩ := h
  refine lv_lrem hx hb dX12_draw_30 hz ?_
  refine lv_l2i hx hb dX12_draw_31 rfl ?_
  exact jret_i hx hb hr hlk hst w h dX12_draw_32
end S_X12_draw
section S_X12_drawStreet
def J_X12_drawStreet_L80 (len : Nat → Nat) (r : jR) (Q : Int32 → jI → jL → Prop) (Hd50 : jI → jL → Nat → Int32 → Int32 → Int32 → Prop) (i : jI) (j : jL) (x0 : Nat) (x1 : Int32) (x4 : Int32) (t0 : Int32) (t1 : Int32) : Prop := ∀ v81 : Int32, v81 = t0 - t1 → (∀ v82 : Int32, v82 = x4 + (1 : Int32) → (Hd50 i j x0 x1 v81 v82))
def J_X12_drawStreet_L64 (len : Nat → Nat) (r : jR) (Q : Int32 → jI → jL → Prop) (Hd50 : jI → jL → Nat → Int32 → Int32 → Int32 → Prop) (i : jI) (j : jL) (x0 : Nat) (x1 : Int32) (x3 : Int32) (x4 : Int32) : Prop := J_X12_isAt len r (fun (q69 : Int32) (i69 : jI) (j69 : jL) => ((q69 = 0) → (J_X12_drawStreet_L80 len r Q Hd50 i69 j69 x0 x1 x4 x3 (0 : Int32))) ∧ ((¬ q69 = 0) → (J_X12_drawStreet_L80 len r Q Hd50 i69 j69 x0 x1 x4 x3 (1 : Int32)))) i j x0 x1 x4
def J_X12_drawStreet_L50 (len : Nat → Nat) (r : jR) (Q : Int32 → jI → jL → Prop) : Nat → jI → jL → Nat → Int32 → Int32 → Int32 → Prop
  | 0 => fun _ _ _ _ _ _ => False
  | g + 1 => fun i j x0 x1 x3 x4 => J_X12_isAt len r (fun (q54 : Int32) (i54 : jI) (j54 : jL) => ((q54 = 0) → (J_X12_drawStreet_L64 len r Q (J_X12_drawStreet_L50 len r Q g) i54 j54 x0 x1 x3 x4)) ∧ ((¬ q54 = 0) → (((x3 ≤ 0) → (Q x4 i54 j54)) ∧ ((¬ x3 ≤ 0) → (J_X12_drawStreet_L64 len r Q (J_X12_drawStreet_L50 len r Q g) i54 j54 x0 x1 x3 x4))))) i j x0 x1 x4
def J_X12_drawStreet_L27 (len : Nat → Nat) (r : jR) (Q : Int32 → jI → jL → Prop) (Hd4 : jI → jL → Nat → Int32 → Int32 → Int32 → Prop) (i : jI) (j : jL) (x0 : Nat) (x1 : Int32) (x3 : Int32) (t0 : Int32) (t1 : Int32) : Prop := ∀ v28 : Int32, v28 = t0 + t1 → (∀ v29 : Int32, v29 = x3 + (1 : Int32) → (Hd4 i j x0 x1 v28 v29))
def J_X12_drawStreet_L4 (len : Nat → Nat) (r : jR) (Q : Int32 → jI → jL → Prop) : Nat → jI → jL → Nat → Int32 → Int32 → Int32 → Prop
  | 0 => fun _ _ _ _ _ _ => False
  | g + 1 => fun i j x0 x1 x2 x3 => (((i x0 0) ≤ x3) → (((¬ x2 = 0) → (J_X12_draw len r (fun (q43 : Int32) (i43 : jI) (j43 : jL) => ∃ g0, J_X12_drawStreet_L50 len r Q g0 i43 j43 x0 x1 q43 (0 : Int32)) i j x0 x2)) ∧ ((x2 = 0) → (Q (-1 : Int32) i j)))) ∧ ((¬ (i x0 0) ≤ x3) → (J_X12_isAt len r (fun (q16 : Int32) (i16 : jI) (j16 : jL) => ((q16 = 0) → (J_X12_drawStreet_L27 len r Q (J_X12_drawStreet_L4 len r Q g) i16 j16 x0 x1 x3 x2 (0 : Int32))) ∧ ((¬ q16 = 0) → (J_X12_drawStreet_L27 len r Q (J_X12_drawStreet_L4 len r Q g) i16 j16 x0 x1 x3 x2 (1 : Int32)))) i j x0 x1 x3))
def J_X12_drawStreet (len : Nat → Nat) (r : jR) (Q : Int32 → jI → jL → Prop) (i : jI) (j : jL) (x0 : Nat) (x1 : Int32) : Prop := ∃ g0, J_X12_drawStreet_L4 len r Q g0 i j x0 x1 (0 : Int32) (0 : Int32)
abbrev rm_X12_drawStreet : Room := { frames := 2, cells := 0, slots := 0, locals := 42 }
variable {p : Program} {l : Launch} {e : Env} {s : State} {m : MethodId} {args : Array Value} {below : List Frame} {meth : Method} {c : Code} {b tU n : Nat} {cy : Nat → ClassId} {D : va_G} {K len : Nat → Nat} {r : jR} {Q : Int32 → jI → jL → Prop}
theorem hiX12_X12_drawStreet : ∀ w ∈ u_ws RX12 TX12 51, w ∈ wsX12_drawStreet := by decide +kernel
set_option maxHeartbeats 4000000 in
set_option maxRecDepth 100000 in
theorem w_X12_drawStreet_L80 (C0 : jCx p s m args c cX12_drawStreet 5 wsX12_drawStreet RX12 b cy D tU n K r) (hr : meth.sig.returnType = some .int) (hlk : meth.locks = false) {Hd50 : jI → jL → Nat → Int32 → Int32 → Int32 → Prop} (k50 : ∀ {H : Heap} {locs : List Loc} {ls : Array Slot} {i : jI} {j : jL} {x0 : Nat} {x1 : Int32} {x3 : Int32} {x4 : Int32} (w : jDy b cy D n K len r i j s H locs) (hx0 : x0 < n ∧ K x0 = 11) (hl : lv_has ls 5 [(0, .ref (b + x0)), (1, .int x1), (3, .int x3), (4, .int x4)]) (h : Hd50 i j x0 x1 x3 x4), W p l e rm_X12_drawStreet s m args below meth c H locs 0 0 (MQ below (jQi b cy D tU n K len r Q) args s 0 0 (jA b)) (F0 m 50 ls [])) {H : Heap} {locs : List Loc} {ls : Array Slot} {i : jI} {j : jL} {x0 : Nat} {x1 : Int32} {x4 : Int32} {t0 : Int32} {t1 : Int32} (w : jDy b cy D n K len r i j s H locs) (hx0 : x0 < n ∧ K x0 = 11) (hl : lv_has ls 5 [(0, .ref (b + x0)), (1, .int x1), (4, .int x4)]) (h : J_X12_drawStreet_L80 len r Q Hd50 i j x0 x1 x4 t0 t1) : W p l e rm_X12_drawStreet s m args below meth c H locs 0 0 (MQ below (jQi b cy D tU n K len r Q) args s 0 0 (jA b)) (F0 m 80 ls [.int t1, .int t0]) := by
  obtain ⟨hx, hb, hml, hown, hts, hst, hG⟩ := id C0
  have hiX12 : ∀ w ∈ u_ws RX12 TX12 51, w ∈ wsX12_drawStreet := hiX12_X12_drawStreet
  rw [J_X12_drawStreet_L80] at h
  refine lv_isub hx hb dX12_drawStreet_80 ?_
  refine lv_topi (fun v81 he => ?_)
  replace h := h v81 he
  clear he
  refine lv_istore_n (lv' := [(3, .int v81), (0, .ref (b + x0)), (1, .int x1), (4, .int x4)]) hx hb dX12_drawStreet_81 rfl hl (by decide) rfl (fun ls hl => ?_)
  obtain ⟨v82, he⟩ : ∃ z : Int32, z = x4 + (1 : Int32) := ⟨_, rfl⟩
  replace h := h v82 he
  refine lv_iinc (v := v82) (lv' := [(4, .int v82), (3, .int v81), (0, .ref (b + x0)), (1, .int x1)]) hx hb dX12_drawStreet_82 hl (k := 3) rfl (by rw [he]; rfl) (by decide) rfl (fun ls hl => ?_)
  clear he
  refine lv_goto (tgt := 50) hx hb dX12_drawStreet_85 (by decide) ?_
  exact k50 w hx0 (lv_sub hl [2, 3, 1, 0] rfl) h
set_option maxHeartbeats 4000000 in
set_option maxRecDepth 100000 in
theorem w_X12_drawStreet_L64 (C0 : jCx p s m args c cX12_drawStreet 5 wsX12_drawStreet RX12 b cy D tU n K r) (hr : meth.sig.returnType = some .int) (hlk : meth.locks = false) {Hd50 : jI → jL → Nat → Int32 → Int32 → Int32 → Prop} (k50 : ∀ {H : Heap} {locs : List Loc} {ls : Array Slot} {i : jI} {j : jL} {x0 : Nat} {x1 : Int32} {x3 : Int32} {x4 : Int32} (w : jDy b cy D n K len r i j s H locs) (hx0 : x0 < n ∧ K x0 = 11) (hl : lv_has ls 5 [(0, .ref (b + x0)), (1, .int x1), (3, .int x3), (4, .int x4)]) (h : Hd50 i j x0 x1 x3 x4), W p l e rm_X12_drawStreet s m args below meth c H locs 0 0 (MQ below (jQi b cy D tU n K len r Q) args s 0 0 (jA b)) (F0 m 50 ls [])) {H : Heap} {locs : List Loc} {ls : Array Slot} {i : jI} {j : jL} {x0 : Nat} {x1 : Int32} {x3 : Int32} {x4 : Int32} (w : jDy b cy D n K len r i j s H locs) (hx0 : x0 < n ∧ K x0 = 11) (hl : lv_has ls 5 [(0, .ref (b + x0)), (1, .int x1), (3, .int x3), (4, .int x4)]) (h : J_X12_drawStreet_L64 len r Q Hd50 i j x0 x1 x3 x4) : W p l e rm_X12_drawStreet s m args below meth c H locs 0 0 (MQ below (jQi b cy D tU n K len r Q) args s 0 0 (jA b)) (F0 m 64 ls []) := by
  obtain ⟨hx, hb, hml, hown, hts, hst, hG⟩ := id C0
  have hiX12 : ∀ w ∈ u_ws RX12 TX12 51, w ∈ wsX12_drawStreet := hiX12_X12_drawStreet
  rw [J_X12_drawStreet_L64] at h
  refine lv_iload_n hx hb dX12_drawStreet_64 rfl (lv_at hl 2 rfl) ?_
  refine lv_aload_n hx hb dX12_drawStreet_65 rfl (lv_at hl 0 rfl) ?_
  refine lv_iload_n hx hb dX12_drawStreet_66 rfl (lv_at hl 1 rfl) ?_
  refine lv_iload hx hb dX12_drawStreet_67 (lv_at hl 3 rfl) ?_
  refine jcV_i (k := x0) (As := [.int x1, .int x4]) (rest := [.int x3]) C0 w (c_X12_isAt hG hx0 h) (cwV 2 hts gX12_drawStreet_X12_isAt rfl rfl rfl (by decide +kernel) ⟨Nat.le_of_ble_eq_true rfl, Nat.le_of_ble_eq_true rfl⟩) hx0 (rfl : vwCl[11]? = some (RX12, TX12, 51)) (by decide) rfl hl.1 rfl (Nat.le_of_ble_eq_true rfl) dX12_drawStreet_69 (fun q69 i69 j69 H locs h w => ?_) ⟨Nat.zero_le _, Nat.zero_le _⟩
  refine lv_if_eq (tgt := 79) hx hb dX12_drawStreet_72 (by decide) (fun hc => ?_) (fun hc => ?_)
  · replace h := h.1 hc
    clear hc
    refine lv_iconst (v := (0 : Int32)) hx hb dX12_drawStreet_79 (by decide) ?_
    exact w_X12_drawStreet_L80 C0 hr hlk (fun w hx0 hl h => k50 w hx0 hl h) w hx0 (lv_sub hl [0, 1, 3] rfl) h
  · replace h := h.2 hc
    clear hc
    refine lv_iconst (v := (1 : Int32)) hx hb dX12_drawStreet_75 (by decide) ?_
    refine lv_goto (tgt := 80) hx hb dX12_drawStreet_76 (by decide) ?_
    exact w_X12_drawStreet_L80 C0 hr hlk (fun w hx0 hl h => k50 w hx0 hl h) w hx0 (lv_sub hl [0, 1, 3] rfl) h
set_option maxHeartbeats 4000000 in
set_option maxRecDepth 100000 in
theorem w_X12_drawStreet_L50 (C0 : jCx p s m args c cX12_drawStreet 5 wsX12_drawStreet RX12 b cy D tU n K r) (hr : meth.sig.returnType = some .int) (hlk : meth.locks = false) : ∀ (g : Nat) {H : Heap} {locs : List Loc} {ls : Array Slot} {i : jI} {j : jL} {x0 : Nat} {x1 : Int32} {x3 : Int32} {x4 : Int32} (w : jDy b cy D n K len r i j s H locs) (hx0 : x0 < n ∧ K x0 = 11) (hl : lv_has ls 5 [(0, .ref (b + x0)), (1, .int x1), (3, .int x3), (4, .int x4)]) (h : J_X12_drawStreet_L50 len r Q g i j x0 x1 x3 x4), W p l e rm_X12_drawStreet s m args below meth c H locs 0 0 (MQ below (jQi b cy D tU n K len r Q) args s 0 0 (jA b)) (F0 m 50 ls []) := by
  obtain ⟨hx, hb, hml, hown, hts, hst, hG⟩ := id C0
  have hiX12 : ∀ w ∈ u_ws RX12 TX12 51, w ∈ wsX12_drawStreet := hiX12_X12_drawStreet
  intro g
  induction g with
  | zero => intro H locs ls i j x0 x1 x3 x4 w hx0 hl h; exact False.elim h
  | succ g ih =>
    intro H locs ls i j x0 x1 x3 x4 w hx0 hl h
    rw [J_X12_drawStreet_L50] at h
    refine lv_aload_n hx hb dX12_drawStreet_50 rfl (lv_at hl 0 rfl) ?_
    refine lv_iload_n hx hb dX12_drawStreet_51 rfl (lv_at hl 1 rfl) ?_
    refine lv_iload hx hb dX12_drawStreet_52 (lv_at hl 3 rfl) ?_
    refine jcV_i (k := x0) (As := [.int x1, .int x4]) (rest := []) C0 w (c_X12_isAt hG hx0 h) (cwV 2 hts gX12_drawStreet_X12_isAt rfl rfl rfl (by decide +kernel) ⟨Nat.le_of_ble_eq_true rfl, Nat.le_of_ble_eq_true rfl⟩) hx0 (rfl : vwCl[11]? = some (RX12, TX12, 51)) (by decide) rfl hl.1 rfl (Nat.le_of_ble_eq_true rfl) dX12_drawStreet_54 (fun q54 i54 j54 H locs h w => ?_) ⟨Nat.zero_le _, Nat.zero_le _⟩
    refine lv_if_eq (tgt := 64) hx hb dX12_drawStreet_57 (by decide) (fun hc => ?_) (fun hc => ?_)
    · replace h := h.1 hc
      clear hc
      exact w_X12_drawStreet_L64 C0 hr hlk (fun w hx0 hl h => ih w hx0 hl h) w hx0 (lv_sub hl [0, 1, 2, 3] rfl) h
    · replace h := h.2 hc
      clear hc
      refine lv_iload_n hx hb dX12_drawStreet_60 rfl (lv_at hl 2 rfl) ?_
      refine lv_if_le (tgt := 88) hx hb dX12_drawStreet_61 (by decide) (fun hc => ?_) (fun hc => ?_)
      · replace h := h.1 hc
        clear hc
        refine lv_iload hx hb dX12_drawStreet_88 (lv_at hl 3 rfl) ?_
        exact jret_i hx hb hr hlk hst w h dX12_drawStreet_90
      · replace h := h.2 hc
        clear hc
        exact w_X12_drawStreet_L64 C0 hr hlk (fun w hx0 hl h => ih w hx0 hl h) w hx0 (lv_sub hl [0, 1, 2, 3] rfl) h
set_option maxHeartbeats 4000000 in
set_option maxRecDepth 100000 in
theorem w_X12_drawStreet_L27 (C0 : jCx p s m args c cX12_drawStreet 5 wsX12_drawStreet RX12 b cy D tU n K r) (hr : meth.sig.returnType = some .int) (hlk : meth.locks = false) {Hd4 : jI → jL → Nat → Int32 → Int32 → Int32 → Prop} (k4 : ∀ {H : Heap} {locs : List Loc} {ls : Array Slot} {i : jI} {j : jL} {x0 : Nat} {x1 : Int32} {x2 : Int32} {x3 : Int32} (w : jDy b cy D n K len r i j s H locs) (hx0 : x0 < n ∧ K x0 = 11) (hl : lv_has ls 5 [(0, .ref (b + x0)), (1, .int x1), (2, .int x2), (3, .int x3)]) (h : Hd4 i j x0 x1 x2 x3), W p l e rm_X12_drawStreet s m args below meth c H locs 0 0 (MQ below (jQi b cy D tU n K len r Q) args s 0 0 (jA b)) (F0 m 4 ls [])) {H : Heap} {locs : List Loc} {ls : Array Slot} {i : jI} {j : jL} {x0 : Nat} {x1 : Int32} {x3 : Int32} {t0 : Int32} {t1 : Int32} (w : jDy b cy D n K len r i j s H locs) (hx0 : x0 < n ∧ K x0 = 11) (hl : lv_has ls 5 [(0, .ref (b + x0)), (1, .int x1), (3, .int x3)]) (h : J_X12_drawStreet_L27 len r Q Hd4 i j x0 x1 x3 t0 t1) : W p l e rm_X12_drawStreet s m args below meth c H locs 0 0 (MQ below (jQi b cy D tU n K len r Q) args s 0 0 (jA b)) (F0 m 27 ls [.int t1, .int t0]) := by
  obtain ⟨hx, hb, hml, hown, hts, hst, hG⟩ := id C0
  have hiX12 : ∀ w ∈ u_ws RX12 TX12 51, w ∈ wsX12_drawStreet := hiX12_X12_drawStreet
  rw [J_X12_drawStreet_L27] at h
  refine lv_iadd hx hb dX12_drawStreet_27 ?_
  refine lv_topi (fun v28 he => ?_)
  replace h := h v28 he
  clear he
  refine lv_istore_n (lv' := [(2, .int v28), (0, .ref (b + x0)), (1, .int x1), (3, .int x3)]) hx hb dX12_drawStreet_28 rfl hl (by decide) rfl (fun ls hl => ?_)
  obtain ⟨v29, he⟩ : ∃ z : Int32, z = x3 + (1 : Int32) := ⟨_, rfl⟩
  replace h := h v29 he
  refine lv_iinc (v := v29) (lv' := [(3, .int v29), (2, .int v28), (0, .ref (b + x0)), (1, .int x1)]) hx hb dX12_drawStreet_29 hl (k := 3) rfl (by rw [he]; rfl) (by decide) rfl (fun ls hl => ?_)
  clear he
  refine lv_goto (tgt := 4) hx hb dX12_drawStreet_32 (by decide) ?_
  exact k4 w hx0 (lv_sub hl [2, 3, 1, 0] rfl) h
set_option maxHeartbeats 4000000 in
set_option maxRecDepth 100000 in
theorem w_X12_drawStreet_L4 (C0 : jCx p s m args c cX12_drawStreet 5 wsX12_drawStreet RX12 b cy D tU n K r) (hr : meth.sig.returnType = some .int) (hlk : meth.locks = false) : ∀ (g : Nat) {H : Heap} {locs : List Loc} {ls : Array Slot} {i : jI} {j : jL} {x0 : Nat} {x1 : Int32} {x2 : Int32} {x3 : Int32} (w : jDy b cy D n K len r i j s H locs) (hx0 : x0 < n ∧ K x0 = 11) (hl : lv_has ls 5 [(0, .ref (b + x0)), (1, .int x1), (2, .int x2), (3, .int x3)]) (h : J_X12_drawStreet_L4 len r Q g i j x0 x1 x2 x3), W p l e rm_X12_drawStreet s m args below meth c H locs 0 0 (MQ below (jQi b cy D tU n K len r Q) args s 0 0 (jA b)) (F0 m 4 ls []) := by
  obtain ⟨hx, hb, hml, hown, hts, hst, hG⟩ := id C0
  have hiX12 : ∀ w ∈ u_ws RX12 TX12 51, w ∈ wsX12_drawStreet := hiX12_X12_drawStreet
  intro g
  induction g with
  | zero => intro H locs ls i j x0 x1 x2 x3 w hx0 hl h; exact False.elim h
  | succ g ih =>
    intro H locs ls i j x0 x1 x2 x3 w hx0 hl h
    rw [J_X12_drawStreet_L4] at h
    refine lv_iload_n hx hb dX12_drawStreet_4 rfl (lv_at hl 3 rfl) ?_
    refine lv_aload_n hx hb dX12_drawStreet_5 rfl (lv_at hl 0 rfl) ?_
    refine jgi (f := 0) hx hb hts hown hst w hx0 hiX12 (rfl : vwCl[11]? = some (RX12, TX12, 51)) (hts (.fieldLink RX12 126 "FootByGateModel" "streets" "I") (by decide +kernel)) ⟨by decide, by decide, rfl⟩ dX12_drawStreet_6 ?_
    refine lv_icmp_ge (tgt := 35) hx hb dX12_drawStreet_9 (by decide) (fun hc => ?_) (fun hc => ?_)
    · replace h := h.1 hc
      clear hc
      refine lv_iload_n hx hb dX12_drawStreet_35 rfl (lv_at hl 2 rfl) ?_
      refine lv_if_ne (tgt := 41) hx hb dX12_drawStreet_36 (by decide) (fun hc => ?_) (fun hc => ?_)
      · replace h := h.1 hc
        clear hc
        refine lv_aload_n hx hb dX12_drawStreet_41 rfl (lv_at hl 0 rfl) ?_
        refine lv_iload_n hx hb dX12_drawStreet_42 rfl (lv_at hl 2 rfl) ?_
        refine jcV_i (k := x0) (As := [.int x2]) (rest := []) C0 w (c_X12_draw hG hx0 h) (cwV 1 hts gX12_drawStreet_X12_draw rfl rfl rfl (by decide +kernel) ⟨Nat.le_of_ble_eq_true rfl, Nat.le_of_ble_eq_true rfl⟩) hx0 (rfl : vwCl[11]? = some (RX12, TX12, 51)) (by decide) rfl hl.1 rfl (Nat.le_of_ble_eq_true rfl) dX12_drawStreet_43 (fun q43 i43 j43 H locs h w => ?_) ⟨Nat.zero_le _, Nat.zero_le _⟩
        refine lv_istore_n (lv' := [(3, .int q43), (0, .ref (b + x0)), (1, .int x1), (2, .int x2)]) hx hb dX12_drawStreet_46 rfl hl (by decide) rfl (fun ls hl => ?_)
        refine lv_iconst (v := (0 : Int32)) hx hb dX12_drawStreet_47 (by decide) ?_
        refine lv_istore (lv' := [(4, .int (0 : Int32)), (3, .int q43), (0, .ref (b + x0)), (1, .int x1), (2, .int x2)]) hx hb dX12_drawStreet_48 hl (by decide) rfl (fun ls hl => ?_)
        obtain ⟨g0, h⟩ := h
        exact w_X12_drawStreet_L50 C0 hr hlk g0 w hx0 (lv_sub hl [2, 3, 1, 0] rfl) h
      · replace h := h.2 hc
        clear hc
        refine lv_iconst (v := (-1 : Int32)) hx hb dX12_drawStreet_39 (by decide) ?_
        exact jret_i hx hb hr hlk hst w h dX12_drawStreet_40
    · replace h := h.2 hc
      clear hc
      refine lv_iload_n hx hb dX12_drawStreet_12 rfl (lv_at hl 2 rfl) ?_
      refine lv_aload_n hx hb dX12_drawStreet_13 rfl (lv_at hl 0 rfl) ?_
      refine lv_iload_n hx hb dX12_drawStreet_14 rfl (lv_at hl 1 rfl) ?_
      refine lv_iload_n hx hb dX12_drawStreet_15 rfl (lv_at hl 3 rfl) ?_
      refine jcV_i (k := x0) (As := [.int x1, .int x3]) (rest := [.int x2]) C0 w (c_X12_isAt hG hx0 h) (cwV 2 hts gX12_drawStreet_X12_isAt rfl rfl rfl (by decide +kernel) ⟨Nat.le_of_ble_eq_true rfl, Nat.le_of_ble_eq_true rfl⟩) hx0 (rfl : vwCl[11]? = some (RX12, TX12, 51)) (by decide) rfl hl.1 rfl (Nat.le_of_ble_eq_true rfl) dX12_drawStreet_16 (fun q16 i16 j16 H locs h w => ?_) ⟨Nat.zero_le _, Nat.zero_le _⟩
      refine lv_if_eq (tgt := 26) hx hb dX12_drawStreet_19 (by decide) (fun hc => ?_) (fun hc => ?_)
      · replace h := h.1 hc
        clear hc
        refine lv_iconst (v := (0 : Int32)) hx hb dX12_drawStreet_26 (by decide) ?_
        exact w_X12_drawStreet_L27 C0 hr hlk (fun w hx0 hl h => ih w hx0 hl h) w hx0 (lv_sub hl [0, 1, 3] rfl) h
      · replace h := h.2 hc
        clear hc
        refine lv_iconst (v := (1 : Int32)) hx hb dX12_drawStreet_22 (by decide) ?_
        refine lv_goto (tgt := 27) hx hb dX12_drawStreet_23 (by decide) ?_
        exact w_X12_drawStreet_L27 C0 hr hlk (fun w hx0 hl h => ih w hx0 hl h) w hx0 (lv_sub hl [0, 1, 3] rfl) h
set_option maxHeartbeats 4000000 in
set_option maxRecDepth 100000 in
theorem c_X12_drawStreet (hG : jG n K r) {i : jI} {j : jL} {x0 : Nat} {x1 : Int32} (hx0 : x0 < n ∧ K x0 = 11) (h : J_X12_drawStreet len r Q i j x0 x1) : Met l yX12_drawStreet wsX12_drawStreet rm_X12_drawStreet (va_Pc [.ref (b + x0), .int x1] (jPre b cy D tU n K len r i j)) (jQi b cy D tU n K len r Q) 0 0 (jA b) := by
  refine Met.ofW (cc := cX12_drawStreet) (maxL := 5) (ret := (some .int)) (by decide) rfl ?_
  intro p e s m args below meth c s₁ B hml hv
  obtain ⟨rfl, hv⟩ := hv
  have C0 : jCx p s m _ c cX12_drawStreet 5 wsX12_drawStreet RX12 b cy D tU n K r := ⟨B.exec, B.bytes, hml, findClass_of_methodNamed B.named, atoms_spec (ws := wsX12_drawStreet) B.pre, hv.2.2, hG⟩
  have hr := B.returns
  have hlk := B.notSynchronized
  obtain ⟨hx, hb, hml, hown, hts, hst, hG⟩ := id C0
  have hiX12 : ∀ w ∈ u_ws RX12 TX12 51, w ∈ wsX12_drawStreet := hiX12_X12_drawStreet
  have w := jDy.start hv
  have hl := lv_entry ([.ref (b + x0), .int x1]) (n := 5) (Nat.le_of_ble_eq_true rfl)
  rw [lg_entry_eq]
  generalize (lg_sl ([.ref (b + x0), .int x1]) ++ List.replicate (5 - (lg_sl ([.ref (b + x0), .int x1])).length) Slot.unset).toArray = ls at hl ⊢
  replace hl : lv_has ls 5 [(0, .ref (b + x0)), (1, .int x1)] := hl
  show W p l e rm_X12_drawStreet s m _ below meth c s.heap [] 0 0 _ (F0 m 0 ls [])
  rw [J_X12_drawStreet] at h
  refine lv_iconst (v := (0 : Int32)) hx hb dX12_drawStreet_0 (by decide) ?_
  refine lv_istore_n (lv' := [(2, .int (0 : Int32)), (0, .ref (b + x0)), (1, .int x1)]) hx hb dX12_drawStreet_1 rfl hl (by decide) rfl (fun ls hl => ?_)
  refine lv_iconst (v := (0 : Int32)) hx hb dX12_drawStreet_2 (by decide) ?_
  refine lv_istore_n (lv' := [(3, .int (0 : Int32)), (2, .int (0 : Int32)), (0, .ref (b + x0)), (1, .int x1)]) hx hb dX12_drawStreet_3 rfl hl (by decide) rfl (fun ls hl => ?_)
  obtain ⟨g0, h⟩ := h
  exact w_X12_drawStreet_L4 C0 hr hlk g0 w hx0 (lv_sub hl [2, 3, 1, 0] rfl) h
end S_X12_drawStreet
section S_X12_even
def J_X12_even_L18 (len : Nat → Nat) (r : jR) (Q : Int32 → jI → jL → Prop) (i : jI) (j : jL) : Prop := Q (-102 : Int32) i j
def J_X12_even (len : Nat → Nat) (r : jR) (Q : Int32 → jI → jL → Prop) (i : jI) (j : jL) (x0 : Nat) (x1 : Int32) (x2 : Int32) : Prop := J_X12_within len r (fun (q3 : Int32) (i3 : jI) (j3 : jL) => ((q3 = 0) → (J_X12_even_L18 len r Q i3 j3 )) ∧ ((¬ q3 = 0) → (J_X12_within len r (fun (q12 : Int32) (i12 : jI) (j12 : jL) => ((¬ q12 = 0) → (((¬ (i12 x0 7) = 0) → (J_X12_evenNow len r (fun (q36 : Int32) (i36 : jI) (j36 : jL) => Q q36 i36 j36) i12 j12 x0 x1 x2)) ∧ (((i12 x0 7) = 0) → (Q (-103 : Int32) i12 j12)))) ∧ ((q12 = 0) → (J_X12_even_L18 len r Q i12 j12 ))) i3 j3 x2 (0 : Int32) (1 : Int32)))) i j x1 (0 : Int32) (4 : Int32)
abbrev rm_X12_even : Room := { frames := 3, cells := 0, slots := 0, locals := 74 }
variable {p : Program} {l : Launch} {e : Env} {s : State} {m : MethodId} {args : Array Value} {below : List Frame} {meth : Method} {c : Code} {b tU n : Nat} {cy : Nat → ClassId} {D : va_G} {K len : Nat → Nat} {r : jR} {Q : Int32 → jI → jL → Prop}
theorem hiX12_X12_even : ∀ w ∈ u_ws RX12 TX12 51, w ∈ wsX12_even := by decide +kernel
set_option maxHeartbeats 4000000 in
set_option maxRecDepth 100000 in
theorem w_X12_even_L18 (C0 : jCx p s m args c cX12_even 3 wsX12_even RX12 b cy D tU n K r) (hr : meth.sig.returnType = some .int) (hlk : meth.locks = false) {H : Heap} {locs : List Loc} {ls : Array Slot} {i : jI} {j : jL}  (w : jDy b cy D n K len r i j s H locs) (hl : lv_has ls 3 []) (h : J_X12_even_L18 len r Q i j) : W p l e rm_X12_even s m args below meth c H locs 0 0 (MQ below (jQi b cy D tU n K len r Q) args s 0 0 (jA b)) (F0 m 18 ls []) := by
  obtain ⟨hx, hb, hml, hown, hts, hst, hG⟩ := id C0
  have hiX12 : ∀ w ∈ u_ws RX12 TX12 51, w ∈ wsX12_even := hiX12_X12_even
  rw [J_X12_even_L18] at h
  refine lv_bipush (v := (-102 : Int32)) hx hb dX12_even_18 (by decide) ?_
  exact jret_i hx hb hr hlk hst w h dX12_even_20
set_option maxHeartbeats 4000000 in
set_option maxRecDepth 100000 in
theorem c_X12_even (hG : jG n K r) {i : jI} {j : jL} {x0 : Nat} {x1 : Int32} {x2 : Int32} (hx0 : x0 < n ∧ K x0 = 11) (h : J_X12_even len r Q i j x0 x1 x2) : Met l yX12_even wsX12_even rm_X12_even (va_Pc [.ref (b + x0), .int x1, .int x2] (jPre b cy D tU n K len r i j)) (jQi b cy D tU n K len r Q) 0 0 (jA b) := by
  refine Met.ofW (cc := cX12_even) (maxL := 3) (ret := (some .int)) (by decide) rfl ?_
  intro p e s m args below meth c s₁ B hml hv
  obtain ⟨rfl, hv⟩ := hv
  have C0 : jCx p s m _ c cX12_even 3 wsX12_even RX12 b cy D tU n K r := ⟨B.exec, B.bytes, hml, findClass_of_methodNamed B.named, atoms_spec (ws := wsX12_even) B.pre, hv.2.2, hG⟩
  have hr := B.returns
  have hlk := B.notSynchronized
  obtain ⟨hx, hb, hml, hown, hts, hst, hG⟩ := id C0
  have hiX12 : ∀ w ∈ u_ws RX12 TX12 51, w ∈ wsX12_even := hiX12_X12_even
  have w := jDy.start hv
  have hl := lv_entry ([.ref (b + x0), .int x1, .int x2]) (n := 3) (Nat.le_of_ble_eq_true rfl)
  rw [lg_entry_eq]
  generalize (lg_sl ([.ref (b + x0), .int x1, .int x2]) ++ List.replicate (3 - (lg_sl ([.ref (b + x0), .int x1, .int x2])).length) Slot.unset).toArray = ls at hl ⊢
  replace hl : lv_has ls 3 [(0, .ref (b + x0)), (1, .int x1), (2, .int x2)] := hl
  show W p l e rm_X12_even s m _ below meth c s.heap [] 0 0 _ (F0 m 0 ls [])
  rw [J_X12_even] at h
  refine lv_iload_n hx hb dX12_even_0 rfl (lv_at hl 1 rfl) ?_
  refine lv_iconst (v := (0 : Int32)) hx hb dX12_even_1 (by decide) ?_
  refine lv_iconst (v := (4 : Int32)) hx hb dX12_even_2 (by decide) ?_
  refine jcS_i (As := [.int x1, .int (0 : Int32), .int (4 : Int32)]) (rest := []) C0 w (c_X12_within hG h) (va_cwS 3 hts gX12_even_X12_within rfl rfl rfl (by decide +kernel) ⟨Nat.le_of_ble_eq_true rfl, Nat.le_of_ble_eq_true rfl⟩) rfl hl.1 rfl (Nat.le_of_ble_eq_true rfl) dX12_even_3 (fun q3 i3 j3 H locs h w => ?_) ⟨Nat.zero_le _, Nat.zero_le _⟩
  refine lv_if_eq (tgt := 18) hx hb dX12_even_6 (by decide) (fun hc => ?_) (fun hc => ?_)
  · replace h := h.1 hc
    clear hc
    exact w_X12_even_L18 C0 hr hlk w (lv_sub hl [] rfl) h
  · replace h := h.2 hc
    clear hc
    refine lv_iload_n hx hb dX12_even_9 rfl (lv_at hl 2 rfl) ?_
    refine lv_iconst (v := (0 : Int32)) hx hb dX12_even_10 (by decide) ?_
    refine lv_iconst (v := (1 : Int32)) hx hb dX12_even_11 (by decide) ?_
    refine jcS_i (As := [.int x2, .int (0 : Int32), .int (1 : Int32)]) (rest := []) C0 w (c_X12_within hG h) (va_cwS 3 hts gX12_even_X12_within rfl rfl rfl (by decide +kernel) ⟨Nat.le_of_ble_eq_true rfl, Nat.le_of_ble_eq_true rfl⟩) rfl hl.1 rfl (Nat.le_of_ble_eq_true rfl) dX12_even_12 (fun q12 i12 j12 H locs h w => ?_) ⟨Nat.zero_le _, Nat.zero_le _⟩
    refine lv_if_ne (tgt := 21) hx hb dX12_even_15 (by decide) (fun hc => ?_) (fun hc => ?_)
    · replace h := h.1 hc
      clear hc
      refine lv_aload_n hx hb dX12_even_21 rfl (lv_at hl 0 rfl) ?_
      refine jgi (f := 7) hx hb hts hown hst w hx0 hiX12 (rfl : vwCl[11]? = some (RX12, TX12, 51)) (hts (.fieldLink RX12 135 "FootByGateModel" "towns" "I") (by decide +kernel)) ⟨by decide, by decide, rfl⟩ dX12_even_22 ?_
      refine lv_if_ne (tgt := 33) hx hb dX12_even_25 (by decide) (fun hc => ?_) (fun hc => ?_)
      · replace h := h.1 hc
        clear hc
        refine lv_aload_n hx hb dX12_even_33 rfl (lv_at hl 0 rfl) ?_
        refine lv_iload_n hx hb dX12_even_34 rfl (lv_at hl 1 rfl) ?_
        refine lv_iload_n hx hb dX12_even_35 rfl (lv_at hl 2 rfl) ?_
        refine jcV_i (k := x0) (As := [.int x1, .int x2]) (rest := []) C0 w (c_X12_evenNow hG hx0 h) (cwV 2 hts gX12_even_X12_evenNow rfl rfl rfl (by decide +kernel) ⟨Nat.le_of_ble_eq_true rfl, Nat.le_of_ble_eq_true rfl⟩) hx0 (rfl : vwCl[11]? = some (RX12, TX12, 51)) (by decide) rfl hl.1 rfl (Nat.le_of_ble_eq_true rfl) dX12_even_36 (fun q36 i36 j36 H locs h w => ?_) ⟨Nat.zero_le _, Nat.zero_le _⟩
        exact jret_i hx hb hr hlk hst w h dX12_even_39
      · replace h := h.2 hc
        clear hc
        refine lv_bipush (v := (-103 : Int32)) hx hb dX12_even_28 (by decide) ?_
        refine lv_goto (tgt := 39) hx hb dX12_even_30 (by decide) ?_
        exact jret_i hx hb hr hlk hst w h dX12_even_39
    · replace h := h.2 hc
      clear hc
      exact w_X12_even_L18 C0 hr hlk w (lv_sub hl [] rfl) h
end S_X12_even
section S_X12_nextState
def J_X12_nextState_L111 (len : Nat → Nat) (r : jR) (Q : Int32 → jI → jL → Prop) (i : jI) (j : jL) : Prop := Q (-1 : Int32) i j
def J_X12_nextState_L153 (len : Nat → Nat) (r : jR) (Q : Int32 → jI → jL → Prop) (i : jI) (j : jL) (x3 : Int32) (t0 : Nat) (t1 : Int32) (t2 : Int32) : Prop := ∀ i154 : jI, i154 = ju i t0 19 (t1 + t2) → (J_X12_within len r (fun (q161 : Int32) (i161 : jI) (j161 : jL) => ((q161 = 0) → (Q (-1 : Int32) i161 j161)) ∧ ((¬ q161 = 0) → (Q (3 : Int32) i161 j161))) i154 j x3 (0 : Int32) (9 : Int32))
def J_X12_nextState_L269 (len : Nat → Nat) (r : jR) (Q : Int32 → jI → jL → Prop) (i : jI) (j : jL) (x2 : Int32) : Prop := ((¬ x2 = (59 : Int32)) → (Q (-1 : Int32) i j)) ∧ ((x2 = (59 : Int32)) → (Q (5 : Int32) i j))
def J_X12_nextState_L250 (len : Nat → Nat) (r : jR) (Q : Int32 → jI → jL → Prop) (i : jI) (j : jL) (x0 : Nat) (x2 : Int32) : Prop := ((¬ x2 = (44 : Int32)) → (J_X12_nextState_L269 len r Q i j x2)) ∧ ((x2 = (44 : Int32)) → ((((10 : Int32) ≤ (i x0 19)) → (J_X12_nextState_L269 len r Q i j x2)) ∧ ((¬ (10 : Int32) ≤ (i x0 19)) → (Q (0 : Int32) i j))))
def J_X12_nextState_L185 (len : Nat → Nat) (r : jR) (Q : Int32 → jI → jL → Prop) (i : jI) (j : jL) (x0 : Nat) (t0 : Nat) (t1 : Int32) : Prop := (t1 = 0 ∨ t1 = 1) ∧ ∀ i185 : jI, i185 = ju i t0 21 t1 → ((((i185 x0 21) = 0) → (Q (-1 : Int32) i185 j)) ∧ ((¬ (i185 x0 21) = 0) → (Q (6 : Int32) i185 j)))
def J_X12_nextState (len : Nat → Nat) (r : jR) (Q : Int32 → jI → jL → Prop) (i : jI) (j : jL) (x0 : Nat) (x1 : Int32) (x2 : Int32) : Prop := ∀ v4 : Int32, v4 = x2 - (48 : Int32) → (((x1 = (0 : Int32)) → (∃ a49, r x0 22 = some a49 ∧ (vp_in (i x0 19) (len a49) ∧ ∀ i57 : jI, i57 = ju i a49 (i x0 19).toNatClampNeg v4 → (J_X12_within len r (fun (q62 : Int32) (i62 : jI) (j62 : jL) => ((q62 = 0) → (Q (-1 : Int32) i62 j62)) ∧ ((¬ q62 = 0) → (Q (1 : Int32) i62 j62))) i57 j v4 (0 : Int32) (6 : Int32))))) ∧ (((x1 = (1 : Int32)) → (∃ a75, r x0 23 = some a75 ∧ (vp_in (i x0 19) (len a75) ∧ ∀ i83 : jI, i83 = ju i a75 (i x0 19).toNatClampNeg v4 → (J_X12_within len r (fun (q88 : Int32) (i88 : jI) (j88 : jL) => ((q88 = 0) → (J_X12_nextState_L111 len r Q i88 j88 )) ∧ ((¬ q88 = 0) → (∃ a96, r x0 22 = some a96 ∧ (vp_in (i88 x0 19) (len a96) ∧ (((v4 = (i88 a96 (i88 x0 19).toNatClampNeg)) → (J_X12_nextState_L111 len r Q i88 j88 )) ∧ ((¬ v4 = (i88 a96 (i88 x0 19).toNatClampNeg)) → (Q (2 : Int32) i88 j88))))))) i83 j v4 (0 : Int32) (6 : Int32))))) ∧ (((x1 = (2 : Int32)) → (∃ a114, r x0 24 = some a114 ∧ (vp_in (i x0 19) (len a114) ∧ ∀ i122 : jI, i122 = ju i a114 (i x0 19).toNatClampNeg v4 → (∃ a124, r x0 25 = some a124 ∧ (vp_in (i122 x0 19) (len a124) ∧ ∀ i132 : jI, i132 = ju i122 a124 (i122 x0 19).toNatClampNeg (-1 : Int32) → (J_X12_within len r (fun (q142 : Int32) (i142 : jI) (j142 : jL) => ((q142 = 0) → (J_X12_nextState_L153 len r Q i142 j142 v4 x0 (i132 x0 19) (0 : Int32))) ∧ ((¬ q142 = 0) → (J_X12_nextState_L153 len r Q i142 j142 v4 x0 (i132 x0 19) (1 : Int32)))) i132 j v4 (0 : Int32) (9 : Int32))))))) ∧ (((x1 = (3 : Int32)) → (((¬ x2 = (33 : Int32)) → (J_X12_nextState_L250 len r Q i j x0 x2)) ∧ ((x2 = (33 : Int32)) → (((¬ x1 = (3 : Int32)) → (J_X12_nextState_L250 len r Q i j x0 x2)) ∧ ((x1 = (3 : Int32)) → ((((3 : Int32) ≤ (i x0 20)) → (J_X12_nextState_L250 len r Q i j x0 x2)) ∧ ((¬ (3 : Int32) ≤ (i x0 20)) → (∃ a224, r x0 25 = some a224 ∧ (vp_in ((i x0 19) - (1 : Int32)) (len a224) ∧ ∀ i237 : jI, i237 = ju i a224 ((i x0 19) - (1 : Int32)).toNatClampNeg (i x0 20) → (∀ i245 : jI, i245 = ju i237 x0 20 ((i237 x0 20) + (1 : Int32)) → (Q (4 : Int32) i245 j))))))))))) ∧ (((x1 = (4 : Int32)) → (((¬ x2 = (33 : Int32)) → (J_X12_nextState_L250 len r Q i j x0 x2)) ∧ ((x2 = (33 : Int32)) → (((¬ x1 = (3 : Int32)) → (J_X12_nextState_L250 len r Q i j x0 x2)) ∧ ((x1 = (3 : Int32)) → ((((3 : Int32) ≤ (i x0 20)) → (J_X12_nextState_L250 len r Q i j x0 x2)) ∧ ((¬ (3 : Int32) ≤ (i x0 20)) → (∃ a224, r x0 25 = some a224 ∧ (vp_in ((i x0 19) - (1 : Int32)) (len a224) ∧ ∀ i237 : jI, i237 = ju i a224 ((i x0 19) - (1 : Int32)).toNatClampNeg (i x0 20) → (∀ i245 : jI, i245 = ju i237 x0 20 ((i237 x0 20) + (1 : Int32)) → (Q (4 : Int32) i245 j))))))))))) ∧ (((x1 = (5 : Int32)) → (((¬ x2 = (102 : Int32)) → (J_X12_nextState_L185 len r Q i j x0 x0 (0 : Int32))) ∧ ((x2 = (102 : Int32)) → (J_X12_nextState_L185 len r Q i j x0 x0 (1 : Int32))))) ∧ (((x1 = (6 : Int32)) → (Q (-1 : Int32) i j)) ∧ ((¬ x1 = (0 : Int32) → ¬ x1 = (1 : Int32) → ¬ x1 = (2 : Int32) → ¬ x1 = (3 : Int32) → ¬ x1 = (4 : Int32) → ¬ x1 = (5 : Int32) → ¬ x1 = (6 : Int32) → (((¬ x2 = (33 : Int32)) → (J_X12_nextState_L250 len r Q i j x0 x2)) ∧ ((x2 = (33 : Int32)) → (((¬ x1 = (3 : Int32)) → (J_X12_nextState_L250 len r Q i j x0 x2)) ∧ ((x1 = (3 : Int32)) → ((((3 : Int32) ≤ (i x0 20)) → (J_X12_nextState_L250 len r Q i j x0 x2)) ∧ ((¬ (3 : Int32) ≤ (i x0 20)) → (∃ a224, r x0 25 = some a224 ∧ (vp_in ((i x0 19) - (1 : Int32)) (len a224) ∧ ∀ i237 : jI, i237 = ju i a224 ((i x0 19) - (1 : Int32)).toNatClampNeg (i x0 20) → (∀ i245 : jI, i245 = ju i237 x0 20 ((i237 x0 20) + (1 : Int32)) → (Q (4 : Int32) i245 j)))))))))))))))))))
abbrev rm_X12_nextState : Room := { frames := 1, cells := 0, slots := 0, locals := 22 }
variable {p : Program} {l : Launch} {e : Env} {s : State} {m : MethodId} {args : Array Value} {below : List Frame} {meth : Method} {c : Code} {b tU n : Nat} {cy : Nat → ClassId} {D : va_G} {K len : Nat → Nat} {r : jR} {Q : Int32 → jI → jL → Prop}
theorem hiX12_X12_nextState : ∀ w ∈ u_ws RX12 TX12 51, w ∈ wsX12_nextState := by decide +kernel
set_option maxHeartbeats 4000000 in
set_option maxRecDepth 100000 in
theorem w_X12_nextState_L111 (C0 : jCx p s m args c cX12_nextState 4 wsX12_nextState RX12 b cy D tU n K r) (hr : meth.sig.returnType = some .int) (hlk : meth.locks = false) {H : Heap} {locs : List Loc} {ls : Array Slot} {i : jI} {j : jL}  (w : jDy b cy D n K len r i j s H locs) (hl : lv_has ls 4 []) (h : J_X12_nextState_L111 len r Q i j) : W p l e rm_X12_nextState s m args below meth c H locs 0 0 (MQ below (jQi b cy D tU n K len r Q) args s 0 0 (jA b)) (F0 m 111 ls []) := by
  obtain ⟨hx, hb, hml, hown, hts, hst, hG⟩ := id C0
  have hiX12 : ∀ w ∈ u_ws RX12 TX12 51, w ∈ wsX12_nextState := hiX12_X12_nextState
  rw [J_X12_nextState_L111] at h
  refine lv_iconst (v := (-1 : Int32)) hx hb dX12_nextState_111 (by decide) ?_
  exact jret_i hx hb hr hlk hst w h dX12_nextState_112
set_option maxHeartbeats 4000000 in
set_option maxRecDepth 100000 in
theorem w_X12_nextState_L153 (C0 : jCx p s m args c cX12_nextState 4 wsX12_nextState RX12 b cy D tU n K r) (hr : meth.sig.returnType = some .int) (hlk : meth.locks = false) {H : Heap} {locs : List Loc} {ls : Array Slot} {i : jI} {j : jL} {x3 : Int32} {t0 : Nat} {t1 : Int32} {t2 : Int32} (w : jDy b cy D n K len r i j s H locs) (ht0 : t0 < n ∧ K t0 = 11) (hl : lv_has ls 4 [(3, .int x3)]) (h : J_X12_nextState_L153 len r Q i j x3 t0 t1 t2) : W p l e rm_X12_nextState s m args below meth c H locs 0 0 (MQ below (jQi b cy D tU n K len r Q) args s 0 0 (jA b)) (F0 m 153 ls [.int t2, .int t1, .ref (b + t0)]) := by
  obtain ⟨hx, hb, hml, hown, hts, hst, hG⟩ := id C0
  have hiX12 : ∀ w ∈ u_ws RX12 TX12 51, w ∈ wsX12_nextState := hiX12_X12_nextState
  rw [J_X12_nextState_L153] at h
  refine lv_iadd hx hb dX12_nextState_153 ?_
  refine jpi (f := 19) hx hb hts hown hst w ht0 hiX12 (rfl : vwCl[11]? = some (RX12, TX12, 51)) (hts (.fieldLink RX12 99 "FootByGateModel" "newMany" "I") (by decide +kernel)) ⟨by decide, by decide, rfl⟩ tyX12 tyX12_ok nmX12 rfl ⟨rfl, rfl⟩ dX12_nextState_154 (fun i154 H locs he w => ?_)
  replace h := h i154 he
  clear he
  refine lv_iload_n hx hb dX12_nextState_157 rfl (lv_at hl 0 rfl) ?_
  refine lv_iconst (v := (0 : Int32)) hx hb dX12_nextState_158 (by decide) ?_
  refine lv_bipush (v := (9 : Int32)) hx hb dX12_nextState_159 (by decide) ?_
  refine jcS_i (As := [.int x3, .int (0 : Int32), .int (9 : Int32)]) (rest := []) C0 w (c_X12_within hG h) (va_cwS 3 hts gX12_nextState_X12_within rfl rfl rfl (by decide +kernel) ⟨Nat.le_of_ble_eq_true rfl, Nat.le_of_ble_eq_true rfl⟩) rfl hl.1 rfl (Nat.le_of_ble_eq_true rfl) dX12_nextState_161 (fun q161 i161 j161 H locs h w => ?_) ⟨Nat.zero_le _, Nat.zero_le _⟩
  refine lv_if_eq (tgt := 171) hx hb dX12_nextState_164 (by decide) (fun hc => ?_) (fun hc => ?_)
  · replace h := h.1 hc
    clear hc
    refine lv_iconst (v := (-1 : Int32)) hx hb dX12_nextState_171 (by decide) ?_
    exact jret_i hx hb hr hlk hst w h dX12_nextState_172
  · replace h := h.2 hc
    clear hc
    refine lv_iconst (v := (3 : Int32)) hx hb dX12_nextState_167 (by decide) ?_
    refine lv_goto (tgt := 172) hx hb dX12_nextState_168 (by decide) ?_
    exact jret_i hx hb hr hlk hst w h dX12_nextState_172
set_option maxHeartbeats 4000000 in
set_option maxRecDepth 100000 in
theorem w_X12_nextState_L269 (C0 : jCx p s m args c cX12_nextState 4 wsX12_nextState RX12 b cy D tU n K r) (hr : meth.sig.returnType = some .int) (hlk : meth.locks = false) {H : Heap} {locs : List Loc} {ls : Array Slot} {i : jI} {j : jL} {x2 : Int32} (w : jDy b cy D n K len r i j s H locs) (hl : lv_has ls 4 [(2, .int x2)]) (h : J_X12_nextState_L269 len r Q i j x2) : W p l e rm_X12_nextState s m args below meth c H locs 0 0 (MQ below (jQi b cy D tU n K len r Q) args s 0 0 (jA b)) (F0 m 269 ls []) := by
  obtain ⟨hx, hb, hml, hown, hts, hst, hG⟩ := id C0
  have hiX12 : ∀ w ∈ u_ws RX12 TX12 51, w ∈ wsX12_nextState := hiX12_X12_nextState
  rw [J_X12_nextState_L269] at h
  refine lv_iload_n hx hb dX12_nextState_269 rfl (lv_at hl 0 rfl) ?_
  refine lv_bipush (v := (59 : Int32)) hx hb dX12_nextState_270 (by decide) ?_
  refine lv_icmp_ne (tgt := 279) hx hb dX12_nextState_272 (by decide) (fun hc => ?_) (fun hc => ?_)
  · replace h := h.1 hc
    clear hc
    refine lv_iconst (v := (-1 : Int32)) hx hb dX12_nextState_279 (by decide) ?_
    exact jret_i hx hb hr hlk hst w h dX12_nextState_280
  · replace h := h.2 hc
    clear hc
    refine lv_iconst (v := (5 : Int32)) hx hb dX12_nextState_275 (by decide) ?_
    refine lv_goto (tgt := 280) hx hb dX12_nextState_276 (by decide) ?_
    exact jret_i hx hb hr hlk hst w h dX12_nextState_280
set_option maxHeartbeats 4000000 in
set_option maxRecDepth 100000 in
theorem w_X12_nextState_L250 (C0 : jCx p s m args c cX12_nextState 4 wsX12_nextState RX12 b cy D tU n K r) (hr : meth.sig.returnType = some .int) (hlk : meth.locks = false) {H : Heap} {locs : List Loc} {ls : Array Slot} {i : jI} {j : jL} {x0 : Nat} {x2 : Int32} (w : jDy b cy D n K len r i j s H locs) (hx0 : x0 < n ∧ K x0 = 11) (hl : lv_has ls 4 [(0, .ref (b + x0)), (2, .int x2)]) (h : J_X12_nextState_L250 len r Q i j x0 x2) : W p l e rm_X12_nextState s m args below meth c H locs 0 0 (MQ below (jQi b cy D tU n K len r Q) args s 0 0 (jA b)) (F0 m 250 ls []) := by
  obtain ⟨hx, hb, hml, hown, hts, hst, hG⟩ := id C0
  have hiX12 : ∀ w ∈ u_ws RX12 TX12 51, w ∈ wsX12_nextState := hiX12_X12_nextState
  rw [J_X12_nextState_L250] at h
  refine lv_iload_n hx hb dX12_nextState_250 rfl (lv_at hl 1 rfl) ?_
  refine lv_bipush (v := (44 : Int32)) hx hb dX12_nextState_251 (by decide) ?_
  refine lv_icmp_ne (tgt := 269) hx hb dX12_nextState_253 (by decide) (fun hc => ?_) (fun hc => ?_)
  · replace h := h.1 hc
    clear hc
    exact w_X12_nextState_L269 C0 hr hlk w (lv_sub hl [1] rfl) h
  · replace h := h.2 hc
    clear hc
    refine lv_aload_n hx hb dX12_nextState_256 rfl (lv_at hl 0 rfl) ?_
    refine jgi (f := 19) hx hb hts hown hst w hx0 hiX12 (rfl : vwCl[11]? = some (RX12, TX12, 51)) (hts (.fieldLink RX12 99 "FootByGateModel" "newMany" "I") (by decide +kernel)) ⟨by decide, by decide, rfl⟩ dX12_nextState_257 ?_
    refine lv_bipush (v := (10 : Int32)) hx hb dX12_nextState_260 (by decide) ?_
    refine lv_icmp_ge (tgt := 269) hx hb dX12_nextState_262 (by decide) (fun hc => ?_) (fun hc => ?_)
    · replace h := h.1 hc
      clear hc
      exact w_X12_nextState_L269 C0 hr hlk w (lv_sub hl [1] rfl) h
    · replace h := h.2 hc
      clear hc
      refine lv_iconst (v := (0 : Int32)) hx hb dX12_nextState_265 (by decide) ?_
      refine lv_goto (tgt := 280) hx hb dX12_nextState_266 (by decide) ?_
      exact jret_i hx hb hr hlk hst w h dX12_nextState_280
set_option maxHeartbeats 4000000 in
set_option maxRecDepth 100000 in
theorem w_X12_nextState_L185 (C0 : jCx p s m args c cX12_nextState 4 wsX12_nextState RX12 b cy D tU n K r) (hr : meth.sig.returnType = some .int) (hlk : meth.locks = false) {H : Heap} {locs : List Loc} {ls : Array Slot} {i : jI} {j : jL} {x0 : Nat} {t0 : Nat} {t1 : Int32} (w : jDy b cy D n K len r i j s H locs) (hx0 : x0 < n ∧ K x0 = 11) (ht0 : t0 < n ∧ K t0 = 11) (hl : lv_has ls 4 [(0, .ref (b + x0))]) (h : J_X12_nextState_L185 len r Q i j x0 t0 t1) : W p l e rm_X12_nextState s m args below meth c H locs 0 0 (MQ below (jQi b cy D tU n K len r Q) args s 0 0 (jA b)) (F0 m 185 ls [.int t1, .ref (b + t0)]) := by
  obtain ⟨hx, hb, hml, hown, hts, hst, hG⟩ := id C0
  have hiX12 : ∀ w ∈ u_ws RX12 TX12 51, w ∈ wsX12_nextState := hiX12_X12_nextState
  rw [J_X12_nextState_L185] at h
  obtain ⟨hz, h⟩ := h
  refine jpi (f := 21) hx hb hts hown hst w ht0 hiX12 (rfl : vwCl[11]? = some (RX12, TX12, 51)) (hts (.fieldLink RX12 106 "FootByGateModel" "newFree" "Z") (by decide +kernel)) ⟨by decide, by decide, rfl⟩ tyX12 tyX12_ok nmX12 rfl (jbool hz) dX12_nextState_185 (fun i185 H locs he w => ?_)
  replace h := h i185 he
  clear he
  refine lv_aload_n hx hb dX12_nextState_188 rfl (lv_at hl 0 rfl) ?_
  refine jgi (f := 21) hx hb hts hown hst w hx0 hiX12 (rfl : vwCl[11]? = some (RX12, TX12, 51)) (hts (.fieldLink RX12 106 "FootByGateModel" "newFree" "Z") (by decide +kernel)) ⟨by decide, by decide, rfl⟩ dX12_nextState_189 ?_
  refine lv_if_eq (tgt := 200) hx hb dX12_nextState_192 (by decide) (fun hc => ?_) (fun hc => ?_)
  · replace h := h.1 hc
    clear hc
    refine lv_iconst (v := (-1 : Int32)) hx hb dX12_nextState_200 (by decide) ?_
    exact jret_i hx hb hr hlk hst w h dX12_nextState_201
  · replace h := h.2 hc
    clear hc
    refine lv_bipush (v := (6 : Int32)) hx hb dX12_nextState_195 (by decide) ?_
    refine lv_goto (tgt := 201) hx hb dX12_nextState_197 (by decide) ?_
    exact jret_i hx hb hr hlk hst w h dX12_nextState_201
set_option maxHeartbeats 4000000 in
set_option maxRecDepth 100000 in
theorem c_X12_nextState (hG : jG n K r) {i : jI} {j : jL} {x0 : Nat} {x1 : Int32} {x2 : Int32} (hx0 : x0 < n ∧ K x0 = 11) (h : J_X12_nextState len r Q i j x0 x1 x2) : Met l yX12_nextState wsX12_nextState rm_X12_nextState (va_Pc [.ref (b + x0), .int x1, .int x2] (jPre b cy D tU n K len r i j)) (jQi b cy D tU n K len r Q) 0 0 (jA b) := by
  refine Met.ofW (cc := cX12_nextState) (maxL := 4) (ret := (some .int)) (by decide) rfl ?_
  intro p e s m args below meth c s₁ B hml hv
  obtain ⟨rfl, hv⟩ := hv
  have C0 : jCx p s m _ c cX12_nextState 4 wsX12_nextState RX12 b cy D tU n K r := ⟨B.exec, B.bytes, hml, findClass_of_methodNamed B.named, atoms_spec (ws := wsX12_nextState) B.pre, hv.2.2, hG⟩
  have hr := B.returns
  have hlk := B.notSynchronized
  obtain ⟨hx, hb, hml, hown, hts, hst, hG⟩ := id C0
  have hiX12 : ∀ w ∈ u_ws RX12 TX12 51, w ∈ wsX12_nextState := hiX12_X12_nextState
  have w := jDy.start hv
  have hl := lv_entry ([.ref (b + x0), .int x1, .int x2]) (n := 4) (Nat.le_of_ble_eq_true rfl)
  rw [lg_entry_eq]
  generalize (lg_sl ([.ref (b + x0), .int x1, .int x2]) ++ List.replicate (4 - (lg_sl ([.ref (b + x0), .int x1, .int x2])).length) Slot.unset).toArray = ls at hl ⊢
  replace hl : lv_has ls 4 [(0, .ref (b + x0)), (1, .int x1), (2, .int x2)] := hl
  show W p l e rm_X12_nextState s m _ below meth c s.heap [] 0 0 _ (F0 m 0 ls [])
  rw [J_X12_nextState] at h
  refine lv_iload_n hx hb dX12_nextState_0 rfl (lv_at hl 2 rfl) ?_
  refine lv_bipush (v := (48 : Int32)) hx hb dX12_nextState_1 (by decide) ?_
  refine lv_isub hx hb dX12_nextState_3 ?_
  refine lv_topi (fun v4 he => ?_)
  replace h := h v4 he
  clear he
  refine lv_istore_n (lv' := [(3, .int v4), (0, .ref (b + x0)), (1, .int x1), (2, .int x2)]) hx hb dX12_nextState_4 rfl hl (by decide) rfl (fun ls hl => ?_)
  refine lv_iload_n hx hb dX12_nextState_5 rfl (lv_at hl 2 rfl) ?_
  by_cases hc0 : x1 = (0 : Int32)
  · replace h := h.1 hc0
    refine lv_tableIn (off := 42) (tgt := 48) hx hb dX12_nextState_6 (by rw [hc0]; decide) (by rw [hc0]; decide) (by rw [hc0]; rfl) (by decide) ?_
    clear hc0
    refine lv_aload_n hx hb dX12_nextState_48 rfl (lv_at hl 1 rfl) ?_
    obtain ⟨a49, hr0, h⟩ := h
    refine jgr (f := 22) hx hb hts hown hst w hG hx0 hiX12 (rfl : vwCl[11]? = some (RX12, TX12, 51)) (hts (.fieldLink RX12 38 "FootByGateModel" "newA" "[I") (by decide +kernel)) ⟨by decide, by decide, rfl⟩ (rfl : jrt 11 22 = 13) dX12_nextState_49 hr0 (fun ha49 => ?_)
    clear hr0
    refine lv_aload_n hx hb dX12_nextState_52 rfl (lv_at hl 1 rfl) ?_
    refine jgi (f := 19) hx hb hts hown hst w hx0 hiX12 (rfl : vwCl[11]? = some (RX12, TX12, 51)) (hts (.fieldLink RX12 99 "FootByGateModel" "newMany" "I") (by decide +kernel)) ⟨by decide, by decide, rfl⟩ dX12_nextState_53 ?_
    refine lv_iload_n hx hb dX12_nextState_56 rfl (lv_at hl 0 rfl) ?_
    obtain ⟨hn, h⟩ := h
    refine jais hx hb hst w ha49 hn dX12_nextState_57 (fun i57 H locs he w => ?_)
    replace h := h i57 he
    clear he hn
    refine lv_iload_n hx hb dX12_nextState_58 rfl (lv_at hl 0 rfl) ?_
    refine lv_iconst (v := (0 : Int32)) hx hb dX12_nextState_59 (by decide) ?_
    refine lv_bipush (v := (6 : Int32)) hx hb dX12_nextState_60 (by decide) ?_
    refine jcS_i (As := [.int v4, .int (0 : Int32), .int (6 : Int32)]) (rest := []) C0 w (c_X12_within hG h) (va_cwS 3 hts gX12_nextState_X12_within rfl rfl rfl (by decide +kernel) ⟨Nat.le_of_ble_eq_true rfl, Nat.le_of_ble_eq_true rfl⟩) rfl hl.1 rfl (Nat.le_of_ble_eq_true rfl) dX12_nextState_62 (fun q62 i62 j62 H locs h w => ?_) ⟨Nat.zero_le _, Nat.zero_le _⟩
    refine lv_if_eq (tgt := 72) hx hb dX12_nextState_65 (by decide) (fun hc => ?_) (fun hc => ?_)
    · replace h := h.1 hc
      clear hc
      refine lv_iconst (v := (-1 : Int32)) hx hb dX12_nextState_72 (by decide) ?_
      exact jret_i hx hb hr hlk hst w h dX12_nextState_73
    · replace h := h.2 hc
      clear hc
      refine lv_iconst (v := (1 : Int32)) hx hb dX12_nextState_68 (by decide) ?_
      refine lv_goto (tgt := 73) hx hb dX12_nextState_69 (by decide) ?_
      exact jret_i hx hb hr hlk hst w h dX12_nextState_73
  replace h := h.2
  by_cases hc1 : x1 = (1 : Int32)
  · replace h := h.1 hc1
    refine lv_tableIn (off := 68) (tgt := 74) hx hb dX12_nextState_6 (by rw [hc1]; decide) (by rw [hc1]; decide) (by rw [hc1]; rfl) (by decide) ?_
    clear hc1
    refine lv_aload_n hx hb dX12_nextState_74 rfl (lv_at hl 1 rfl) ?_
    obtain ⟨a75, hr0, h⟩ := h
    refine jgr (f := 23) hx hb hts hown hst w hG hx0 hiX12 (rfl : vwCl[11]? = some (RX12, TX12, 51)) (hts (.fieldLink RX12 41 "FootByGateModel" "newB" "[I") (by decide +kernel)) ⟨by decide, by decide, rfl⟩ (rfl : jrt 11 23 = 13) dX12_nextState_75 hr0 (fun ha75 => ?_)
    clear hr0
    refine lv_aload_n hx hb dX12_nextState_78 rfl (lv_at hl 1 rfl) ?_
    refine jgi (f := 19) hx hb hts hown hst w hx0 hiX12 (rfl : vwCl[11]? = some (RX12, TX12, 51)) (hts (.fieldLink RX12 99 "FootByGateModel" "newMany" "I") (by decide +kernel)) ⟨by decide, by decide, rfl⟩ dX12_nextState_79 ?_
    refine lv_iload_n hx hb dX12_nextState_82 rfl (lv_at hl 0 rfl) ?_
    obtain ⟨hn, h⟩ := h
    refine jais hx hb hst w ha75 hn dX12_nextState_83 (fun i83 H locs he w => ?_)
    replace h := h i83 he
    clear he hn
    refine lv_iload_n hx hb dX12_nextState_84 rfl (lv_at hl 0 rfl) ?_
    refine lv_iconst (v := (0 : Int32)) hx hb dX12_nextState_85 (by decide) ?_
    refine lv_bipush (v := (6 : Int32)) hx hb dX12_nextState_86 (by decide) ?_
    refine jcS_i (As := [.int v4, .int (0 : Int32), .int (6 : Int32)]) (rest := []) C0 w (c_X12_within hG h) (va_cwS 3 hts gX12_nextState_X12_within rfl rfl rfl (by decide +kernel) ⟨Nat.le_of_ble_eq_true rfl, Nat.le_of_ble_eq_true rfl⟩) rfl hl.1 rfl (Nat.le_of_ble_eq_true rfl) dX12_nextState_88 (fun q88 i88 j88 H locs h w => ?_) ⟨Nat.zero_le _, Nat.zero_le _⟩
    refine lv_if_eq (tgt := 111) hx hb dX12_nextState_91 (by decide) (fun hc => ?_) (fun hc => ?_)
    · replace h := h.1 hc
      clear hc
      exact w_X12_nextState_L111 C0 hr hlk w (lv_sub hl [] rfl) h
    · replace h := h.2 hc
      clear hc
      refine lv_iload_n hx hb dX12_nextState_94 rfl (lv_at hl 0 rfl) ?_
      refine lv_aload_n hx hb dX12_nextState_95 rfl (lv_at hl 1 rfl) ?_
      obtain ⟨a96, hr0, h⟩ := h
      refine jgr (f := 22) hx hb hts hown hst w hG hx0 hiX12 (rfl : vwCl[11]? = some (RX12, TX12, 51)) (hts (.fieldLink RX12 38 "FootByGateModel" "newA" "[I") (by decide +kernel)) ⟨by decide, by decide, rfl⟩ (rfl : jrt 11 22 = 13) dX12_nextState_96 hr0 (fun ha96 => ?_)
      clear hr0
      refine lv_aload_n hx hb dX12_nextState_99 rfl (lv_at hl 1 rfl) ?_
      refine jgi (f := 19) hx hb hts hown hst w hx0 hiX12 (rfl : vwCl[11]? = some (RX12, TX12, 51)) (hts (.fieldLink RX12 99 "FootByGateModel" "newMany" "I") (by decide +kernel)) ⟨by decide, by decide, rfl⟩ dX12_nextState_100 ?_
      obtain ⟨hn, h⟩ := h
      refine jaid hx hb hst w ha96 hn dX12_nextState_103 ?_
      clear hn
      refine lv_icmp_eq (tgt := 111) hx hb dX12_nextState_104 (by decide) (fun hc => ?_) (fun hc => ?_)
      · replace h := h.1 hc
        clear hc
        exact w_X12_nextState_L111 C0 hr hlk w (lv_sub hl [] rfl) h
      · replace h := h.2 hc
        clear hc
        refine lv_iconst (v := (2 : Int32)) hx hb dX12_nextState_107 (by decide) ?_
        refine lv_goto (tgt := 112) hx hb dX12_nextState_108 (by decide) ?_
        exact jret_i hx hb hr hlk hst w h dX12_nextState_112
  replace h := h.2
  by_cases hc2 : x1 = (2 : Int32)
  · replace h := h.1 hc2
    refine lv_tableIn (off := 107) (tgt := 113) hx hb dX12_nextState_6 (by rw [hc2]; decide) (by rw [hc2]; decide) (by rw [hc2]; rfl) (by decide) ?_
    clear hc2
    refine lv_aload_n hx hb dX12_nextState_113 rfl (lv_at hl 1 rfl) ?_
    obtain ⟨a114, hr0, h⟩ := h
    refine jgr (f := 24) hx hb hts hown hst w hG hx0 hiX12 (rfl : vwCl[11]? = some (RX12, TX12, 51)) (hts (.fieldLink RX12 44 "FootByGateModel" "newPaces" "[I") (by decide +kernel)) ⟨by decide, by decide, rfl⟩ (rfl : jrt 11 24 = 13) dX12_nextState_114 hr0 (fun ha114 => ?_)
    clear hr0
    refine lv_aload_n hx hb dX12_nextState_117 rfl (lv_at hl 1 rfl) ?_
    refine jgi (f := 19) hx hb hts hown hst w hx0 hiX12 (rfl : vwCl[11]? = some (RX12, TX12, 51)) (hts (.fieldLink RX12 99 "FootByGateModel" "newMany" "I") (by decide +kernel)) ⟨by decide, by decide, rfl⟩ dX12_nextState_118 ?_
    refine lv_iload_n hx hb dX12_nextState_121 rfl (lv_at hl 0 rfl) ?_
    obtain ⟨hn, h⟩ := h
    refine jais hx hb hst w ha114 hn dX12_nextState_122 (fun i122 H locs he w => ?_)
    replace h := h i122 he
    clear he hn
    refine lv_aload_n hx hb dX12_nextState_123 rfl (lv_at hl 1 rfl) ?_
    obtain ⟨a124, hr0, h⟩ := h
    refine jgr (f := 25) hx hb hts hown hst w hG hx0 hiX12 (rfl : vwCl[11]? = some (RX12, TX12, 51)) (hts (.fieldLink RX12 47 "FootByGateModel" "newGate" "[I") (by decide +kernel)) ⟨by decide, by decide, rfl⟩ (rfl : jrt 11 25 = 13) dX12_nextState_124 hr0 (fun ha124 => ?_)
    clear hr0
    refine lv_aload_n hx hb dX12_nextState_127 rfl (lv_at hl 1 rfl) ?_
    refine jgi (f := 19) hx hb hts hown hst w hx0 hiX12 (rfl : vwCl[11]? = some (RX12, TX12, 51)) (hts (.fieldLink RX12 99 "FootByGateModel" "newMany" "I") (by decide +kernel)) ⟨by decide, by decide, rfl⟩ dX12_nextState_128 ?_
    refine lv_iconst (v := (-1 : Int32)) hx hb dX12_nextState_131 (by decide) ?_
    obtain ⟨hn, h⟩ := h
    refine jais hx hb hst w ha124 hn dX12_nextState_132 (fun i132 H locs he w => ?_)
    replace h := h i132 he
    clear he hn
    refine lv_aload_n hx hb dX12_nextState_133 rfl (lv_at hl 1 rfl) ?_
    refine lv_dup hx hb dX12_nextState_134 rfl ?_
    refine jgi (f := 19) hx hb hts hown hst w hx0 hiX12 (rfl : vwCl[11]? = some (RX12, TX12, 51)) (hts (.fieldLink RX12 99 "FootByGateModel" "newMany" "I") (by decide +kernel)) ⟨by decide, by decide, rfl⟩ dX12_nextState_135 ?_
    refine lv_iload_n hx hb dX12_nextState_138 rfl (lv_at hl 0 rfl) ?_
    refine lv_iconst (v := (0 : Int32)) hx hb dX12_nextState_139 (by decide) ?_
    refine lv_bipush (v := (9 : Int32)) hx hb dX12_nextState_140 (by decide) ?_
    refine jcS_i (As := [.int v4, .int (0 : Int32), .int (9 : Int32)]) (rest := [.int (i132 x0 19), .ref (b + x0)]) C0 w (c_X12_within hG h) (va_cwS 3 hts gX12_nextState_X12_within rfl rfl rfl (by decide +kernel) ⟨Nat.le_of_ble_eq_true rfl, Nat.le_of_ble_eq_true rfl⟩) rfl hl.1 rfl (Nat.le_of_ble_eq_true rfl) dX12_nextState_142 (fun q142 i142 j142 H locs h w => ?_) ⟨Nat.zero_le _, Nat.zero_le _⟩
    refine lv_if_eq (tgt := 152) hx hb dX12_nextState_145 (by decide) (fun hc => ?_) (fun hc => ?_)
    · replace h := h.1 hc
      clear hc
      refine lv_iconst (v := (0 : Int32)) hx hb dX12_nextState_152 (by decide) ?_
      exact w_X12_nextState_L153 C0 hr hlk w hx0 (lv_sub hl [0] rfl) h
    · replace h := h.2 hc
      clear hc
      refine lv_iconst (v := (1 : Int32)) hx hb dX12_nextState_148 (by decide) ?_
      refine lv_goto (tgt := 153) hx hb dX12_nextState_149 (by decide) ?_
      exact w_X12_nextState_L153 C0 hr hlk w hx0 (lv_sub hl [0] rfl) h
  replace h := h.2
  by_cases hc3 : x1 = (3 : Int32)
  · replace h := h.1 hc3
    refine lv_tableIn (off := 198) (tgt := 204) hx hb dX12_nextState_6 (by rw [hc3]; decide) (by rw [hc3]; decide) (by rw [hc3]; rfl) (by decide) ?_
    clear hc3
    refine lv_iload_n hx hb dX12_nextState_204 rfl (lv_at hl 3 rfl) ?_
    refine lv_bipush (v := (33 : Int32)) hx hb dX12_nextState_205 (by decide) ?_
    refine lv_icmp_ne (tgt := 250) hx hb dX12_nextState_207 (by decide) (fun hc => ?_) (fun hc => ?_)
    · replace h := h.1 hc
      clear hc
      exact w_X12_nextState_L250 C0 hr hlk w hx0 (lv_sub hl [1, 3] rfl) h
    · replace h := h.2 hc
      clear hc
      refine lv_iload_n hx hb dX12_nextState_210 rfl (lv_at hl 2 rfl) ?_
      refine lv_iconst (v := (3 : Int32)) hx hb dX12_nextState_211 (by decide) ?_
      refine lv_icmp_ne (tgt := 250) hx hb dX12_nextState_212 (by decide) (fun hc => ?_) (fun hc => ?_)
      · replace h := h.1 hc
        clear hc
        exact w_X12_nextState_L250 C0 hr hlk w hx0 (lv_sub hl [1, 3] rfl) h
      · replace h := h.2 hc
        clear hc
        refine lv_aload_n hx hb dX12_nextState_215 rfl (lv_at hl 1 rfl) ?_
        refine jgi (f := 20) hx hb hts hown hst w hx0 hiX12 (rfl : vwCl[11]? = some (RX12, TX12, 51)) (hts (.fieldLink RX12 110 "FootByGateModel" "newGates" "I") (by decide +kernel)) ⟨by decide, by decide, rfl⟩ dX12_nextState_216 ?_
        refine lv_iconst (v := (3 : Int32)) hx hb dX12_nextState_219 (by decide) ?_
        refine lv_icmp_ge (tgt := 250) hx hb dX12_nextState_220 (by decide) (fun hc => ?_) (fun hc => ?_)
        · replace h := h.1 hc
          clear hc
          exact w_X12_nextState_L250 C0 hr hlk w hx0 (lv_sub hl [1, 3] rfl) h
        · replace h := h.2 hc
          clear hc
          refine lv_aload_n hx hb dX12_nextState_223 rfl (lv_at hl 1 rfl) ?_
          obtain ⟨a224, hr0, h⟩ := h
          refine jgr (f := 25) hx hb hts hown hst w hG hx0 hiX12 (rfl : vwCl[11]? = some (RX12, TX12, 51)) (hts (.fieldLink RX12 47 "FootByGateModel" "newGate" "[I") (by decide +kernel)) ⟨by decide, by decide, rfl⟩ (rfl : jrt 11 25 = 13) dX12_nextState_224 hr0 (fun ha224 => ?_)
          clear hr0
          refine lv_aload_n hx hb dX12_nextState_227 rfl (lv_at hl 1 rfl) ?_
          refine jgi (f := 19) hx hb hts hown hst w hx0 hiX12 (rfl : vwCl[11]? = some (RX12, TX12, 51)) (hts (.fieldLink RX12 99 "FootByGateModel" "newMany" "I") (by decide +kernel)) ⟨by decide, by decide, rfl⟩ dX12_nextState_228 ?_
          refine lv_iconst (v := (1 : Int32)) hx hb dX12_nextState_231 (by decide) ?_
          refine lv_isub hx hb dX12_nextState_232 ?_
          refine lv_aload_n hx hb dX12_nextState_233 rfl (lv_at hl 1 rfl) ?_
          refine jgi (f := 20) hx hb hts hown hst w hx0 hiX12 (rfl : vwCl[11]? = some (RX12, TX12, 51)) (hts (.fieldLink RX12 110 "FootByGateModel" "newGates" "I") (by decide +kernel)) ⟨by decide, by decide, rfl⟩ dX12_nextState_234 ?_
          obtain ⟨hn, h⟩ := h
          refine jais hx hb hst w ha224 hn dX12_nextState_237 (fun i237 H locs he w => ?_)
          replace h := h i237 he
          clear he hn
          refine lv_aload_n hx hb dX12_nextState_238 rfl (lv_at hl 1 rfl) ?_
          refine lv_dup hx hb dX12_nextState_239 rfl ?_
          refine jgi (f := 20) hx hb hts hown hst w hx0 hiX12 (rfl : vwCl[11]? = some (RX12, TX12, 51)) (hts (.fieldLink RX12 110 "FootByGateModel" "newGates" "I") (by decide +kernel)) ⟨by decide, by decide, rfl⟩ dX12_nextState_240 ?_
          refine lv_iconst (v := (1 : Int32)) hx hb dX12_nextState_243 (by decide) ?_
          refine lv_iadd hx hb dX12_nextState_244 ?_
          refine jpi (f := 20) hx hb hts hown hst w hx0 hiX12 (rfl : vwCl[11]? = some (RX12, TX12, 51)) (hts (.fieldLink RX12 110 "FootByGateModel" "newGates" "I") (by decide +kernel)) ⟨by decide, by decide, rfl⟩ tyX12 tyX12_ok nmX12 rfl ⟨rfl, rfl⟩ dX12_nextState_245 (fun i245 H locs he w => ?_)
          replace h := h i245 he
          clear he
          refine lv_iconst (v := (4 : Int32)) hx hb dX12_nextState_248 (by decide) ?_
          exact jret_i hx hb hr hlk hst w h dX12_nextState_249
  replace h := h.2
  by_cases hc4 : x1 = (4 : Int32)
  · replace h := h.1 hc4
    refine lv_tableIn (off := 198) (tgt := 204) hx hb dX12_nextState_6 (by rw [hc4]; decide) (by rw [hc4]; decide) (by rw [hc4]; rfl) (by decide) ?_
    clear hc4
    refine lv_iload_n hx hb dX12_nextState_204 rfl (lv_at hl 3 rfl) ?_
    refine lv_bipush (v := (33 : Int32)) hx hb dX12_nextState_205 (by decide) ?_
    refine lv_icmp_ne (tgt := 250) hx hb dX12_nextState_207 (by decide) (fun hc => ?_) (fun hc => ?_)
    · replace h := h.1 hc
      clear hc
      exact w_X12_nextState_L250 C0 hr hlk w hx0 (lv_sub hl [1, 3] rfl) h
    · replace h := h.2 hc
      clear hc
      refine lv_iload_n hx hb dX12_nextState_210 rfl (lv_at hl 2 rfl) ?_
      refine lv_iconst (v := (3 : Int32)) hx hb dX12_nextState_211 (by decide) ?_
      refine lv_icmp_ne (tgt := 250) hx hb dX12_nextState_212 (by decide) (fun hc => ?_) (fun hc => ?_)
      · replace h := h.1 hc
        clear hc
        exact w_X12_nextState_L250 C0 hr hlk w hx0 (lv_sub hl [1, 3] rfl) h
      · replace h := h.2 hc
        clear hc
        refine lv_aload_n hx hb dX12_nextState_215 rfl (lv_at hl 1 rfl) ?_
        refine jgi (f := 20) hx hb hts hown hst w hx0 hiX12 (rfl : vwCl[11]? = some (RX12, TX12, 51)) (hts (.fieldLink RX12 110 "FootByGateModel" "newGates" "I") (by decide +kernel)) ⟨by decide, by decide, rfl⟩ dX12_nextState_216 ?_
        refine lv_iconst (v := (3 : Int32)) hx hb dX12_nextState_219 (by decide) ?_
        refine lv_icmp_ge (tgt := 250) hx hb dX12_nextState_220 (by decide) (fun hc => ?_) (fun hc => ?_)
        · replace h := h.1 hc
          clear hc
          exact w_X12_nextState_L250 C0 hr hlk w hx0 (lv_sub hl [1, 3] rfl) h
        · replace h := h.2 hc
          clear hc
          refine lv_aload_n hx hb dX12_nextState_223 rfl (lv_at hl 1 rfl) ?_
          obtain ⟨a224, hr0, h⟩ := h
          refine jgr (f := 25) hx hb hts hown hst w hG hx0 hiX12 (rfl : vwCl[11]? = some (RX12, TX12, 51)) (hts (.fieldLink RX12 47 "FootByGateModel" "newGate" "[I") (by decide +kernel)) ⟨by decide, by decide, rfl⟩ (rfl : jrt 11 25 = 13) dX12_nextState_224 hr0 (fun ha224 => ?_)
          clear hr0
          refine lv_aload_n hx hb dX12_nextState_227 rfl (lv_at hl 1 rfl) ?_
          refine jgi (f := 19) hx hb hts hown hst w hx0 hiX12 (rfl : vwCl[11]? = some (RX12, TX12, 51)) (hts (.fieldLink RX12 99 "FootByGateModel" "newMany" "I") (by decide +kernel)) ⟨by decide, by decide, rfl⟩ dX12_nextState_228 ?_
          refine lv_iconst (v := (1 : Int32)) hx hb dX12_nextState_231 (by decide) ?_
          refine lv_isub hx hb dX12_nextState_232 ?_
          refine lv_aload_n hx hb dX12_nextState_233 rfl (lv_at hl 1 rfl) ?_
          refine jgi (f := 20) hx hb hts hown hst w hx0 hiX12 (rfl : vwCl[11]? = some (RX12, TX12, 51)) (hts (.fieldLink RX12 110 "FootByGateModel" "newGates" "I") (by decide +kernel)) ⟨by decide, by decide, rfl⟩ dX12_nextState_234 ?_
          obtain ⟨hn, h⟩ := h
          refine jais hx hb hst w ha224 hn dX12_nextState_237 (fun i237 H locs he w => ?_)
          replace h := h i237 he
          clear he hn
          refine lv_aload_n hx hb dX12_nextState_238 rfl (lv_at hl 1 rfl) ?_
          refine lv_dup hx hb dX12_nextState_239 rfl ?_
          refine jgi (f := 20) hx hb hts hown hst w hx0 hiX12 (rfl : vwCl[11]? = some (RX12, TX12, 51)) (hts (.fieldLink RX12 110 "FootByGateModel" "newGates" "I") (by decide +kernel)) ⟨by decide, by decide, rfl⟩ dX12_nextState_240 ?_
          refine lv_iconst (v := (1 : Int32)) hx hb dX12_nextState_243 (by decide) ?_
          refine lv_iadd hx hb dX12_nextState_244 ?_
          refine jpi (f := 20) hx hb hts hown hst w hx0 hiX12 (rfl : vwCl[11]? = some (RX12, TX12, 51)) (hts (.fieldLink RX12 110 "FootByGateModel" "newGates" "I") (by decide +kernel)) ⟨by decide, by decide, rfl⟩ tyX12 tyX12_ok nmX12 rfl ⟨rfl, rfl⟩ dX12_nextState_245 (fun i245 H locs he w => ?_)
          replace h := h i245 he
          clear he
          refine lv_iconst (v := (4 : Int32)) hx hb dX12_nextState_248 (by decide) ?_
          exact jret_i hx hb hr hlk hst w h dX12_nextState_249
  replace h := h.2
  by_cases hc5 : x1 = (5 : Int32)
  · replace h := h.1 hc5
    refine lv_tableIn (off := 167) (tgt := 173) hx hb dX12_nextState_6 (by rw [hc5]; decide) (by rw [hc5]; decide) (by rw [hc5]; rfl) (by decide) ?_
    clear hc5
    refine lv_aload_n hx hb dX12_nextState_173 rfl (lv_at hl 1 rfl) ?_
    refine lv_iload_n hx hb dX12_nextState_174 rfl (lv_at hl 3 rfl) ?_
    refine lv_bipush (v := (102 : Int32)) hx hb dX12_nextState_175 (by decide) ?_
    refine lv_icmp_ne (tgt := 184) hx hb dX12_nextState_177 (by decide) (fun hc => ?_) (fun hc => ?_)
    · replace h := h.1 hc
      clear hc
      refine lv_iconst (v := (0 : Int32)) hx hb dX12_nextState_184 (by decide) ?_
      exact w_X12_nextState_L185 C0 hr hlk w hx0 hx0 (lv_sub hl [1] rfl) h
    · replace h := h.2 hc
      clear hc
      refine lv_iconst (v := (1 : Int32)) hx hb dX12_nextState_180 (by decide) ?_
      refine lv_goto (tgt := 185) hx hb dX12_nextState_181 (by decide) ?_
      exact w_X12_nextState_L185 C0 hr hlk w hx0 hx0 (lv_sub hl [1] rfl) h
  replace h := h.2
  by_cases hc6 : x1 = (6 : Int32)
  · replace h := h.1 hc6
    refine lv_tableIn (off := 196) (tgt := 202) hx hb dX12_nextState_6 (by rw [hc6]; decide) (by rw [hc6]; decide) (by rw [hc6]; rfl) (by decide) ?_
    clear hc6
    refine lv_iconst (v := (-1 : Int32)) hx hb dX12_nextState_202 (by decide) ?_
    exact jret_i hx hb hr hlk hst w h dX12_nextState_203
  replace h := h.2
  replace h := h hc0 hc1 hc2 hc3 hc4 hc5 hc6
  have hd : x1.toInt < 0 ∨ 6 < x1.toInt := by
    rcases Int.lt_or_le x1.toInt 0 with h1 | h1
    · exact Or.inl h1
    rcases Int.lt_or_le 6 x1.toInt with h2 | h2
    · exact Or.inr h2
    exfalso
    have h3 : x1.toInt = 0 ∨ x1.toInt = 1 ∨ x1.toInt = 2 ∨ x1.toInt = 3 ∨ x1.toInt = 4 ∨ x1.toInt = 5 ∨ x1.toInt = 6 := by omega
    rcases h3 with h3 | h3 | h3 | h3 | h3 | h3 | h3
    · exact hc0 (Int32.toInt_inj.mp (h3.trans (by decide)))
    · exact hc1 (Int32.toInt_inj.mp (h3.trans (by decide)))
    · exact hc2 (Int32.toInt_inj.mp (h3.trans (by decide)))
    · exact hc3 (Int32.toInt_inj.mp (h3.trans (by decide)))
    · exact hc4 (Int32.toInt_inj.mp (h3.trans (by decide)))
    · exact hc5 (Int32.toInt_inj.mp (h3.trans (by decide)))
    · exact hc6 (Int32.toInt_inj.mp (h3.trans (by decide)))
  refine lv_tableOut (tgt := 204) hx hb dX12_nextState_6 hd (by decide) ?_
  clear hd hc0 hc1 hc2 hc3 hc4 hc5 hc6
  refine lv_iload_n hx hb dX12_nextState_204 rfl (lv_at hl 3 rfl) ?_
  refine lv_bipush (v := (33 : Int32)) hx hb dX12_nextState_205 (by decide) ?_
  refine lv_icmp_ne (tgt := 250) hx hb dX12_nextState_207 (by decide) (fun hc => ?_) (fun hc => ?_)
  · replace h := h.1 hc
    clear hc
    exact w_X12_nextState_L250 C0 hr hlk w hx0 (lv_sub hl [1, 3] rfl) h
  · replace h := h.2 hc
    clear hc
    refine lv_iload_n hx hb dX12_nextState_210 rfl (lv_at hl 2 rfl) ?_
    refine lv_iconst (v := (3 : Int32)) hx hb dX12_nextState_211 (by decide) ?_
    refine lv_icmp_ne (tgt := 250) hx hb dX12_nextState_212 (by decide) (fun hc => ?_) (fun hc => ?_)
    · replace h := h.1 hc
      clear hc
      exact w_X12_nextState_L250 C0 hr hlk w hx0 (lv_sub hl [1, 3] rfl) h
    · replace h := h.2 hc
      clear hc
      refine lv_aload_n hx hb dX12_nextState_215 rfl (lv_at hl 1 rfl) ?_
      refine jgi (f := 20) hx hb hts hown hst w hx0 hiX12 (rfl : vwCl[11]? = some (RX12, TX12, 51)) (hts (.fieldLink RX12 110 "FootByGateModel" "newGates" "I") (by decide +kernel)) ⟨by decide, by decide, rfl⟩ dX12_nextState_216 ?_
      refine lv_iconst (v := (3 : Int32)) hx hb dX12_nextState_219 (by decide) ?_
      refine lv_icmp_ge (tgt := 250) hx hb dX12_nextState_220 (by decide) (fun hc => ?_) (fun hc => ?_)
      · replace h := h.1 hc
        clear hc
        exact w_X12_nextState_L250 C0 hr hlk w hx0 (lv_sub hl [1, 3] rfl) h
      · replace h := h.2 hc
        clear hc
        refine lv_aload_n hx hb dX12_nextState_223 rfl (lv_at hl 1 rfl) ?_
        obtain ⟨a224, hr0, h⟩ := h
        refine jgr (f := 25) hx hb hts hown hst w hG hx0 hiX12 (rfl : vwCl[11]? = some (RX12, TX12, 51)) (hts (.fieldLink RX12 47 "FootByGateModel" "newGate" "[I") (by decide +kernel)) ⟨by decide, by decide, rfl⟩ (rfl : jrt 11 25 = 13) dX12_nextState_224 hr0 (fun ha224 => ?_)
        clear hr0
        refine lv_aload_n hx hb dX12_nextState_227 rfl (lv_at hl 1 rfl) ?_
        refine jgi (f := 19) hx hb hts hown hst w hx0 hiX12 (rfl : vwCl[11]? = some (RX12, TX12, 51)) (hts (.fieldLink RX12 99 "FootByGateModel" "newMany" "I") (by decide +kernel)) ⟨by decide, by decide, rfl⟩ dX12_nextState_228 ?_
        refine lv_iconst (v := (1 : Int32)) hx hb dX12_nextState_231 (by decide) ?_
        refine lv_isub hx hb dX12_nextState_232 ?_
        refine lv_aload_n hx hb dX12_nextState_233 rfl (lv_at hl 1 rfl) ?_
        refine jgi (f := 20) hx hb hts hown hst w hx0 hiX12 (rfl : vwCl[11]? = some (RX12, TX12, 51)) (hts (.fieldLink RX12 110 "FootByGateModel" "newGates" "I") (by decide +kernel)) ⟨by decide, by decide, rfl⟩ dX12_nextState_234 ?_
        obtain ⟨hn, h⟩ := h
        refine jais hx hb hst w ha224 hn dX12_nextState_237 (fun i237 H locs he w => ?_)
        replace h := h i237 he
        clear he hn
        refine lv_aload_n hx hb dX12_nextState_238 rfl (lv_at hl 1 rfl) ?_
        refine lv_dup hx hb dX12_nextState_239 rfl ?_
        refine jgi (f := 20) hx hb hts hown hst w hx0 hiX12 (rfl : vwCl[11]? = some (RX12, TX12, 51)) (hts (.fieldLink RX12 110 "FootByGateModel" "newGates" "I") (by decide +kernel)) ⟨by decide, by decide, rfl⟩ dX12_nextState_240 ?_
        refine lv_iconst (v := (1 : Int32)) hx hb dX12_nextState_243 (by decide) ?_
        refine lv_iadd hx hb dX12_nextState_244 ?_
        refine jpi (f := 20) hx hb hts hown hst w hx0 hiX12 (rfl : vwCl[11]? = some (RX12, TX12, 51)) (hts (.fieldLink RX12 110 "FootByGateModel" "newGates" "I") (by decide +kernel)) ⟨by decide, by decide, rfl⟩ tyX12 tyX12_ok nmX12 rfl ⟨rfl, rfl⟩ dX12_nextState_245 (fun i245 H locs he w => ?_)
        replace h := h i245 he
        clear he
        refine lv_iconst (v := (4 : Int32)) hx hb dX12_nextState_248 (by decide) ?_
        exact jret_i hx hb hr hlk hst w h dX12_nextState_249
end S_X12_nextState
section S_X12_readTown
def J_X12_readTown_L119 (len : Nat → Nat) (r : jR) (Q : jI → jL → Prop) (i : jI) (j : jL) (t0 : Nat) (t1 : Int32) : Prop := (t1 = 0 ∨ t1 = 1) ∧ ∀ i119 : jI, i119 = ju i t0 18 t1 → (Q i119 j)
def J_X12_readTown_L118 (len : Nat → Nat) (r : jR) (Q : jI → jL → Prop) (i : jI) (j : jL) (t0 : Nat) : Prop := J_X12_readTown_L119 len r Q i j t0 (0 : Int32)
def J_X12_readTown_L114 (len : Nat → Nat) (r : jR) (Q : jI → jL → Prop) (i : jI) (j : jL) (t0 : Nat) : Prop := J_X12_readTown_L119 len r Q i j t0 (1 : Int32)
def J_X12_readTown_L84 (len : Nat → Nat) (r : jR) (Q : jI → jL → Prop) (i : jI) (j : jL) (x0 : Nat) (x1 : Int32) (x2 : Int32) : Prop := ∀ i86 : jI, i86 = ju i x0 17 x2 → (((¬ x2 = (i86 x0 15)) → (J_X12_readTown_L118 len r Q i86 j x0)) ∧ ((x2 = (i86 x0 15)) → (((x1 = (3 : Int32)) → (J_X12_readTown_L114 len r Q i86 j x0)) ∧ ((¬ x1 = (3 : Int32)) → (((x1 = (4 : Int32)) → (J_X12_readTown_L114 len r Q i86 j x0)) ∧ ((¬ x1 = (4 : Int32)) → (((¬ x1 = (6 : Int32)) → (J_X12_readTown_L118 len r Q i86 j x0)) ∧ ((x1 = (6 : Int32)) → (J_X12_readTown_L114 len r Q i86 j x0)))))))))
def J_X12_readTown_L79 (len : Nat → Nat) (r : jR) (Q : jI → jL → Prop) (Hd21 : jI → jL → Nat → Int32 → Int32 → Int32 → Prop) (i : jI) (j : jL) (x0 : Nat) (x1 : Int32) (x3 : Int32) (t0 : Int32) (t1 : Int32) : Prop := ∀ v80 : Int32, v80 = t0 + t1 → (Hd21 i j x0 x1 v80 x3)
def J_X12_readTown_L68 (len : Nat → Nat) (r : jR) (Q : jI → jL → Prop) (Hd21 : jI → jL → Nat → Int32 → Int32 → Int32 → Prop) (i : jI) (j : jL) (x0 : Nat) (x2 : Int32) (x3 : Int32) (t0 : Int32) : Prop := ((x3 = 0) → (J_X12_readTown_L79 len r Q Hd21 i j x0 t0 x3 x2 (0 : Int32))) ∧ ((¬ x3 = 0) → (J_X12_readTown_L79 len r Q Hd21 i j x0 t0 x3 x2 (1 : Int32)))
def J_X12_readTown_L57 (len : Nat → Nat) (r : jR) (Q : jI → jL → Prop) (Hd21 : jI → jL → Nat → Int32 → Int32 → Int32 → Prop) (i : jI) (j : jL) (x0 : Nat) (x1 : Int32) (x2 : Int32) (x4 : Int32) (t0 : Int32) : Prop := ((t0 = 0) → (J_X12_readTown_L68 len r Q Hd21 i j x0 x2 t0 x1)) ∧ ((¬ t0 = 0) → (J_X12_readTown_L68 len r Q Hd21 i j x0 x2 t0 x4))
def J_X12_readTown_L21 (len : Nat → Nat) (r : jR) (Q : jI → jL → Prop) : Nat → jI → jL → Nat → Int32 → Int32 → Int32 → Prop
  | 0 => fun _ _ _ _ _ _ => False
  | g + 1 => fun i j x0 x1 x2 x3 => (((i x0 15) ≤ x2) → (J_X12_readTown_L84 len r Q i j x0 x1 x2)) ∧ ((¬ (i x0 15) ≤ x2) → (((x3 = 0) → (J_X12_readTown_L84 len r Q i j x0 x1 x2)) ∧ ((¬ x3 = 0) → (∃ a36, r x0 16 = some a36 ∧ (vp_in x2 (len a36) ∧ (J_X12_nextState len r (fun (q41 : Int32) (i41 : jI) (j41 : jL) => ((q41 = (-1 : Int32)) → (J_X12_readTown_L57 len r Q (J_X12_readTown_L21 len r Q g) i41 j41 x0 x1 x2 q41 (0 : Int32))) ∧ ((¬ q41 = (-1 : Int32)) → (J_X12_readTown_L57 len r Q (J_X12_readTown_L21 len r Q g) i41 j41 x0 x1 x2 q41 (1 : Int32)))) i j x0 x1 (i a36 x2.toNatClampNeg)))))))
def J_X12_readTown (len : Nat → Nat) (r : jR) (Q : jI → jL → Prop) (i : jI) (j : jL) (x0 : Nat) : Prop := ∀ i2 : jI, i2 = ju i x0 19 (0 : Int32) → (∀ i7 : jI, i7 = ju i2 x0 20 (0 : Int32) → (∀ i12 : jI, i12 = ju i7 x0 21 (0 : Int32) → (∃ g0, J_X12_readTown_L21 len r Q g0 i12 j x0 (0 : Int32) (0 : Int32) (1 : Int32))))
abbrev rm_X12_readTown : Room := { frames := 2, cells := 0, slots := 0, locals := 45 }
variable {p : Program} {l : Launch} {e : Env} {s : State} {m : MethodId} {args : Array Value} {below : List Frame} {meth : Method} {c : Code} {b tU n : Nat} {cy : Nat → ClassId} {D : va_G} {K len : Nat → Nat} {r : jR} {Q : jI → jL → Prop}
theorem hiX12_X12_readTown : ∀ w ∈ u_ws RX12 TX12 51, w ∈ wsX12_readTown := by decide +kernel
set_option maxHeartbeats 4000000 in
set_option maxRecDepth 100000 in
theorem w_X12_readTown_L119 (C0 : jCx p s m args c cX12_readTown 5 wsX12_readTown RX12 b cy D tU n K r) (hr : meth.sig.returnType = none) (hlk : meth.locks = false) {H : Heap} {locs : List Loc} {ls : Array Slot} {i : jI} {j : jL} {t0 : Nat} {t1 : Int32} (w : jDy b cy D n K len r i j s H locs) (ht0 : t0 < n ∧ K t0 = 11) (hl : lv_has ls 5 []) (h : J_X12_readTown_L119 len r Q i j t0 t1) : W p l e rm_X12_readTown s m args below meth c H locs 0 0 (MQ below (jQv b cy D tU n K len r Q) args s 0 0 (jA b)) (F0 m 119 ls [.int t1, .ref (b + t0)]) := by
  obtain ⟨hx, hb, hml, hown, hts, hst, hG⟩ := id C0
  have hiX12 : ∀ w ∈ u_ws RX12 TX12 51, w ∈ wsX12_readTown := hiX12_X12_readTown
  rw [J_X12_readTown_L119] at h
  obtain ⟨hz, h⟩ := h
  refine jpi (f := 18) hx hb hts hown hst w ht0 hiX12 (rfl : vwCl[11]? = some (RX12, TX12, 51)) (hts (.fieldLink RX12 120 "FootByGateModel" "isWhole" "Z") (by decide +kernel)) ⟨by decide, by decide, rfl⟩ tyX12 tyX12_ok nmX12 rfl (jbool hz) dX12_readTown_119 (fun i119 H locs he w => ?_)
  replace h := h i119 he
  clear he
  exact jret_v hx hb hr hlk hst w h dX12_readTown_122
set_option maxHeartbeats 4000000 in
set_option maxRecDepth 100000 in
theorem w_X12_readTown_L118 (C0 : jCx p s m args c cX12_readTown 5 wsX12_readTown RX12 b cy D tU n K r) (hr : meth.sig.returnType = none) (hlk : meth.locks = false) {H : Heap} {locs : List Loc} {ls : Array Slot} {i : jI} {j : jL} {t0 : Nat} (w : jDy b cy D n K len r i j s H locs) (ht0 : t0 < n ∧ K t0 = 11) (hl : lv_has ls 5 []) (h : J_X12_readTown_L118 len r Q i j t0) : W p l e rm_X12_readTown s m args below meth c H locs 0 0 (MQ below (jQv b cy D tU n K len r Q) args s 0 0 (jA b)) (F0 m 118 ls [.ref (b + t0)]) := by
  obtain ⟨hx, hb, hml, hown, hts, hst, hG⟩ := id C0
  have hiX12 : ∀ w ∈ u_ws RX12 TX12 51, w ∈ wsX12_readTown := hiX12_X12_readTown
  rw [J_X12_readTown_L118] at h
  refine lv_iconst (v := (0 : Int32)) hx hb dX12_readTown_118 (by decide) ?_
  exact w_X12_readTown_L119 C0 hr hlk w ht0 (lv_sub hl [] rfl) h
set_option maxHeartbeats 4000000 in
set_option maxRecDepth 100000 in
theorem w_X12_readTown_L114 (C0 : jCx p s m args c cX12_readTown 5 wsX12_readTown RX12 b cy D tU n K r) (hr : meth.sig.returnType = none) (hlk : meth.locks = false) {H : Heap} {locs : List Loc} {ls : Array Slot} {i : jI} {j : jL} {t0 : Nat} (w : jDy b cy D n K len r i j s H locs) (ht0 : t0 < n ∧ K t0 = 11) (hl : lv_has ls 5 []) (h : J_X12_readTown_L114 len r Q i j t0) : W p l e rm_X12_readTown s m args below meth c H locs 0 0 (MQ below (jQv b cy D tU n K len r Q) args s 0 0 (jA b)) (F0 m 114 ls [.ref (b + t0)]) := by
  obtain ⟨hx, hb, hml, hown, hts, hst, hG⟩ := id C0
  have hiX12 : ∀ w ∈ u_ws RX12 TX12 51, w ∈ wsX12_readTown := hiX12_X12_readTown
  rw [J_X12_readTown_L114] at h
  refine lv_iconst (v := (1 : Int32)) hx hb dX12_readTown_114 (by decide) ?_
  refine lv_goto (tgt := 119) hx hb dX12_readTown_115 (by decide) ?_
  exact w_X12_readTown_L119 C0 hr hlk w ht0 (lv_sub hl [] rfl) h
set_option maxHeartbeats 4000000 in
set_option maxRecDepth 100000 in
theorem w_X12_readTown_L84 (C0 : jCx p s m args c cX12_readTown 5 wsX12_readTown RX12 b cy D tU n K r) (hr : meth.sig.returnType = none) (hlk : meth.locks = false) {H : Heap} {locs : List Loc} {ls : Array Slot} {i : jI} {j : jL} {x0 : Nat} {x1 : Int32} {x2 : Int32} (w : jDy b cy D n K len r i j s H locs) (hx0 : x0 < n ∧ K x0 = 11) (hl : lv_has ls 5 [(0, .ref (b + x0)), (1, .int x1), (2, .int x2)]) (h : J_X12_readTown_L84 len r Q i j x0 x1 x2) : W p l e rm_X12_readTown s m args below meth c H locs 0 0 (MQ below (jQv b cy D tU n K len r Q) args s 0 0 (jA b)) (F0 m 84 ls []) := by
  obtain ⟨hx, hb, hml, hown, hts, hst, hG⟩ := id C0
  have hiX12 : ∀ w ∈ u_ws RX12 TX12 51, w ∈ wsX12_readTown := hiX12_X12_readTown
  rw [J_X12_readTown_L84] at h
  refine lv_aload_n hx hb dX12_readTown_84 rfl (lv_at hl 0 rfl) ?_
  refine lv_iload_n hx hb dX12_readTown_85 rfl (lv_at hl 2 rfl) ?_
  refine jpi (f := 17) hx hb hts hown hst w hx0 hiX12 (rfl : vwCl[11]? = some (RX12, TX12, 51)) (hts (.fieldLink RX12 117 "FootByGateModel" "faultAt" "I") (by decide +kernel)) ⟨by decide, by decide, rfl⟩ tyX12 tyX12_ok nmX12 rfl ⟨rfl, rfl⟩ dX12_readTown_86 (fun i86 H locs he w => ?_)
  replace h := h i86 he
  clear he
  refine lv_aload_n hx hb dX12_readTown_89 rfl (lv_at hl 0 rfl) ?_
  refine lv_iload_n hx hb dX12_readTown_90 rfl (lv_at hl 2 rfl) ?_
  refine lv_aload_n hx hb dX12_readTown_91 rfl (lv_at hl 0 rfl) ?_
  refine jgi (f := 15) hx hb hts hown hst w hx0 hiX12 (rfl : vwCl[11]? = some (RX12, TX12, 51)) (hts (.fieldLink RX12 95 "FootByGateModel" "pageLength" "I") (by decide +kernel)) ⟨by decide, by decide, rfl⟩ dX12_readTown_92 ?_
  refine lv_icmp_ne (tgt := 118) hx hb dX12_readTown_95 (by decide) (fun hc => ?_) (fun hc => ?_)
  · replace h := h.1 hc
    clear hc
    exact w_X12_readTown_L118 C0 hr hlk w hx0 (lv_sub hl [] rfl) h
  · replace h := h.2 hc
    clear hc
    refine lv_iload_n hx hb dX12_readTown_98 rfl (lv_at hl 1 rfl) ?_
    refine lv_iconst (v := (3 : Int32)) hx hb dX12_readTown_99 (by decide) ?_
    refine lv_icmp_eq (tgt := 114) hx hb dX12_readTown_100 (by decide) (fun hc => ?_) (fun hc => ?_)
    · replace h := h.1 hc
      clear hc
      exact w_X12_readTown_L114 C0 hr hlk w hx0 (lv_sub hl [] rfl) h
    · replace h := h.2 hc
      clear hc
      refine lv_iload_n hx hb dX12_readTown_103 rfl (lv_at hl 1 rfl) ?_
      refine lv_iconst (v := (4 : Int32)) hx hb dX12_readTown_104 (by decide) ?_
      refine lv_icmp_eq (tgt := 114) hx hb dX12_readTown_105 (by decide) (fun hc => ?_) (fun hc => ?_)
      · replace h := h.1 hc
        clear hc
        exact w_X12_readTown_L114 C0 hr hlk w hx0 (lv_sub hl [] rfl) h
      · replace h := h.2 hc
        clear hc
        refine lv_iload_n hx hb dX12_readTown_108 rfl (lv_at hl 1 rfl) ?_
        refine lv_bipush (v := (6 : Int32)) hx hb dX12_readTown_109 (by decide) ?_
        refine lv_icmp_ne (tgt := 118) hx hb dX12_readTown_111 (by decide) (fun hc => ?_) (fun hc => ?_)
        · replace h := h.1 hc
          clear hc
          exact w_X12_readTown_L118 C0 hr hlk w hx0 (lv_sub hl [] rfl) h
        · replace h := h.2 hc
          clear hc
          exact w_X12_readTown_L114 C0 hr hlk w hx0 (lv_sub hl [] rfl) h
set_option maxHeartbeats 4000000 in
set_option maxRecDepth 100000 in
theorem w_X12_readTown_L79 (C0 : jCx p s m args c cX12_readTown 5 wsX12_readTown RX12 b cy D tU n K r) (hr : meth.sig.returnType = none) (hlk : meth.locks = false) {Hd21 : jI → jL → Nat → Int32 → Int32 → Int32 → Prop} (k21 : ∀ {H : Heap} {locs : List Loc} {ls : Array Slot} {i : jI} {j : jL} {x0 : Nat} {x1 : Int32} {x2 : Int32} {x3 : Int32} (w : jDy b cy D n K len r i j s H locs) (hx0 : x0 < n ∧ K x0 = 11) (hl : lv_has ls 5 [(0, .ref (b + x0)), (1, .int x1), (2, .int x2), (3, .int x3)]) (h : Hd21 i j x0 x1 x2 x3), W p l e rm_X12_readTown s m args below meth c H locs 0 0 (MQ below (jQv b cy D tU n K len r Q) args s 0 0 (jA b)) (F0 m 21 ls [])) {H : Heap} {locs : List Loc} {ls : Array Slot} {i : jI} {j : jL} {x0 : Nat} {x1 : Int32} {x3 : Int32} {t0 : Int32} {t1 : Int32} (w : jDy b cy D n K len r i j s H locs) (hx0 : x0 < n ∧ K x0 = 11) (hl : lv_has ls 5 [(0, .ref (b + x0)), (1, .int x1), (3, .int x3)]) (h : J_X12_readTown_L79 len r Q Hd21 i j x0 x1 x3 t0 t1) : W p l e rm_X12_readTown s m args below meth c H locs 0 0 (MQ below (jQv b cy D tU n K len r Q) args s 0 0 (jA b)) (F0 m 79 ls [.int t1, .int t0]) := by
  obtain ⟨hx, hb, hml, hown, hts, hst, hG⟩ := id C0
  have hiX12 : ∀ w ∈ u_ws RX12 TX12 51, w ∈ wsX12_readTown := hiX12_X12_readTown
  rw [J_X12_readTown_L79] at h
  refine lv_iadd hx hb dX12_readTown_79 ?_
  refine lv_topi (fun v80 he => ?_)
  replace h := h v80 he
  clear he
  refine lv_istore_n (lv' := [(2, .int v80), (0, .ref (b + x0)), (1, .int x1), (3, .int x3)]) hx hb dX12_readTown_80 rfl hl (by decide) rfl (fun ls hl => ?_)
  refine lv_goto (tgt := 21) hx hb dX12_readTown_81 (by decide) ?_
  exact k21 w hx0 (lv_sub hl [1, 2, 0, 3] rfl) h
set_option maxHeartbeats 4000000 in
set_option maxRecDepth 100000 in
theorem w_X12_readTown_L68 (C0 : jCx p s m args c cX12_readTown 5 wsX12_readTown RX12 b cy D tU n K r) (hr : meth.sig.returnType = none) (hlk : meth.locks = false) {Hd21 : jI → jL → Nat → Int32 → Int32 → Int32 → Prop} (k21 : ∀ {H : Heap} {locs : List Loc} {ls : Array Slot} {i : jI} {j : jL} {x0 : Nat} {x1 : Int32} {x2 : Int32} {x3 : Int32} (w : jDy b cy D n K len r i j s H locs) (hx0 : x0 < n ∧ K x0 = 11) (hl : lv_has ls 5 [(0, .ref (b + x0)), (1, .int x1), (2, .int x2), (3, .int x3)]) (h : Hd21 i j x0 x1 x2 x3), W p l e rm_X12_readTown s m args below meth c H locs 0 0 (MQ below (jQv b cy D tU n K len r Q) args s 0 0 (jA b)) (F0 m 21 ls [])) {H : Heap} {locs : List Loc} {ls : Array Slot} {i : jI} {j : jL} {x0 : Nat} {x2 : Int32} {x3 : Int32} {t0 : Int32} (w : jDy b cy D n K len r i j s H locs) (hx0 : x0 < n ∧ K x0 = 11) (hl : lv_has ls 5 [(0, .ref (b + x0)), (2, .int x2), (3, .int x3)]) (h : J_X12_readTown_L68 len r Q Hd21 i j x0 x2 x3 t0) : W p l e rm_X12_readTown s m args below meth c H locs 0 0 (MQ below (jQv b cy D tU n K len r Q) args s 0 0 (jA b)) (F0 m 68 ls [.int t0]) := by
  obtain ⟨hx, hb, hml, hown, hts, hst, hG⟩ := id C0
  have hiX12 : ∀ w ∈ u_ws RX12 TX12 51, w ∈ wsX12_readTown := hiX12_X12_readTown
  rw [J_X12_readTown_L68] at h
  refine lv_istore_n (lv' := [(1, .int t0), (0, .ref (b + x0)), (2, .int x2), (3, .int x3)]) hx hb dX12_readTown_68 rfl hl (by decide) rfl (fun ls hl => ?_)
  refine lv_iload_n hx hb dX12_readTown_69 rfl (lv_at hl 2 rfl) ?_
  refine lv_iload_n hx hb dX12_readTown_70 rfl (lv_at hl 3 rfl) ?_
  refine lv_if_eq (tgt := 78) hx hb dX12_readTown_71 (by decide) (fun hc => ?_) (fun hc => ?_)
  · replace h := h.1 hc
    clear hc
    refine lv_iconst (v := (0 : Int32)) hx hb dX12_readTown_78 (by decide) ?_
    exact w_X12_readTown_L79 C0 hr hlk (fun w hx0 hl h => k21 w hx0 hl h) w hx0 (lv_sub hl [1, 0, 3] rfl) h
  · replace h := h.2 hc
    clear hc
    refine lv_iconst (v := (1 : Int32)) hx hb dX12_readTown_74 (by decide) ?_
    refine lv_goto (tgt := 79) hx hb dX12_readTown_75 (by decide) ?_
    exact w_X12_readTown_L79 C0 hr hlk (fun w hx0 hl h => k21 w hx0 hl h) w hx0 (lv_sub hl [1, 0, 3] rfl) h
set_option maxHeartbeats 4000000 in
set_option maxRecDepth 100000 in
theorem w_X12_readTown_L57 (C0 : jCx p s m args c cX12_readTown 5 wsX12_readTown RX12 b cy D tU n K r) (hr : meth.sig.returnType = none) (hlk : meth.locks = false) {Hd21 : jI → jL → Nat → Int32 → Int32 → Int32 → Prop} (k21 : ∀ {H : Heap} {locs : List Loc} {ls : Array Slot} {i : jI} {j : jL} {x0 : Nat} {x1 : Int32} {x2 : Int32} {x3 : Int32} (w : jDy b cy D n K len r i j s H locs) (hx0 : x0 < n ∧ K x0 = 11) (hl : lv_has ls 5 [(0, .ref (b + x0)), (1, .int x1), (2, .int x2), (3, .int x3)]) (h : Hd21 i j x0 x1 x2 x3), W p l e rm_X12_readTown s m args below meth c H locs 0 0 (MQ below (jQv b cy D tU n K len r Q) args s 0 0 (jA b)) (F0 m 21 ls [])) {H : Heap} {locs : List Loc} {ls : Array Slot} {i : jI} {j : jL} {x0 : Nat} {x1 : Int32} {x2 : Int32} {x4 : Int32} {t0 : Int32} (w : jDy b cy D n K len r i j s H locs) (hx0 : x0 < n ∧ K x0 = 11) (hl : lv_has ls 5 [(0, .ref (b + x0)), (1, .int x1), (2, .int x2), (4, .int x4)]) (h : J_X12_readTown_L57 len r Q Hd21 i j x0 x1 x2 x4 t0) : W p l e rm_X12_readTown s m args below meth c H locs 0 0 (MQ below (jQv b cy D tU n K len r Q) args s 0 0 (jA b)) (F0 m 57 ls [.int t0]) := by
  obtain ⟨hx, hb, hml, hown, hts, hst, hG⟩ := id C0
  have hiX12 : ∀ w ∈ u_ws RX12 TX12 51, w ∈ wsX12_readTown := hiX12_X12_readTown
  rw [J_X12_readTown_L57] at h
  refine lv_istore_n (lv' := [(3, .int t0), (0, .ref (b + x0)), (1, .int x1), (2, .int x2), (4, .int x4)]) hx hb dX12_readTown_57 rfl hl (by decide) rfl (fun ls hl => ?_)
  refine lv_iload_n hx hb dX12_readTown_58 rfl (lv_at hl 0 rfl) ?_
  refine lv_if_eq (tgt := 67) hx hb dX12_readTown_59 (by decide) (fun hc => ?_) (fun hc => ?_)
  · replace h := h.1 hc
    clear hc
    refine lv_iload_n hx hb dX12_readTown_67 rfl (lv_at hl 2 rfl) ?_
    exact w_X12_readTown_L68 C0 hr hlk (fun w hx0 hl h => k21 w hx0 hl h) w hx0 (lv_sub hl [1, 3, 0] rfl) h
  · replace h := h.2 hc
    clear hc
    refine lv_iload hx hb dX12_readTown_62 (lv_at hl 4 rfl) ?_
    refine lv_goto (tgt := 68) hx hb dX12_readTown_64 (by decide) ?_
    exact w_X12_readTown_L68 C0 hr hlk (fun w hx0 hl h => k21 w hx0 hl h) w hx0 (lv_sub hl [1, 3, 0] rfl) h
set_option maxHeartbeats 4000000 in
set_option maxRecDepth 100000 in
theorem w_X12_readTown_L21 (C0 : jCx p s m args c cX12_readTown 5 wsX12_readTown RX12 b cy D tU n K r) (hr : meth.sig.returnType = none) (hlk : meth.locks = false) : ∀ (g : Nat) {H : Heap} {locs : List Loc} {ls : Array Slot} {i : jI} {j : jL} {x0 : Nat} {x1 : Int32} {x2 : Int32} {x3 : Int32} (w : jDy b cy D n K len r i j s H locs) (hx0 : x0 < n ∧ K x0 = 11) (hl : lv_has ls 5 [(0, .ref (b + x0)), (1, .int x1), (2, .int x2), (3, .int x3)]) (h : J_X12_readTown_L21 len r Q g i j x0 x1 x2 x3), W p l e rm_X12_readTown s m args below meth c H locs 0 0 (MQ below (jQv b cy D tU n K len r Q) args s 0 0 (jA b)) (F0 m 21 ls []) := by
  obtain ⟨hx, hb, hml, hown, hts, hst, hG⟩ := id C0
  have hiX12 : ∀ w ∈ u_ws RX12 TX12 51, w ∈ wsX12_readTown := hiX12_X12_readTown
  intro g
  induction g with
  | zero => intro H locs ls i j x0 x1 x2 x3 w hx0 hl h; exact False.elim h
  | succ g ih =>
    intro H locs ls i j x0 x1 x2 x3 w hx0 hl h
    rw [J_X12_readTown_L21] at h
    refine lv_iload_n hx hb dX12_readTown_21 rfl (lv_at hl 2 rfl) ?_
    refine lv_aload_n hx hb dX12_readTown_22 rfl (lv_at hl 0 rfl) ?_
    refine jgi (f := 15) hx hb hts hown hst w hx0 hiX12 (rfl : vwCl[11]? = some (RX12, TX12, 51)) (hts (.fieldLink RX12 95 "FootByGateModel" "pageLength" "I") (by decide +kernel)) ⟨by decide, by decide, rfl⟩ dX12_readTown_23 ?_
    refine lv_icmp_ge (tgt := 84) hx hb dX12_readTown_26 (by decide) (fun hc => ?_) (fun hc => ?_)
    · replace h := h.1 hc
      clear hc
      exact w_X12_readTown_L84 C0 hr hlk w hx0 (lv_sub hl [0, 1, 2] rfl) h
    · replace h := h.2 hc
      clear hc
      refine lv_iload_n hx hb dX12_readTown_29 rfl (lv_at hl 3 rfl) ?_
      refine lv_if_eq (tgt := 84) hx hb dX12_readTown_30 (by decide) (fun hc => ?_) (fun hc => ?_)
      · replace h := h.1 hc
        clear hc
        exact w_X12_readTown_L84 C0 hr hlk w hx0 (lv_sub hl [0, 1, 2] rfl) h
      · replace h := h.2 hc
        clear hc
        refine lv_aload_n hx hb dX12_readTown_33 rfl (lv_at hl 0 rfl) ?_
        refine lv_iload_n hx hb dX12_readTown_34 rfl (lv_at hl 1 rfl) ?_
        refine lv_aload_n hx hb dX12_readTown_35 rfl (lv_at hl 0 rfl) ?_
        obtain ⟨a36, hr0, h⟩ := h
        refine jgr (f := 16) hx hb hts hown hst w hG hx0 hiX12 (rfl : vwCl[11]? = some (RX12, TX12, 51)) (hts (.fieldLink RX12 34 "FootByGateModel" "page" "[B") (by decide +kernel)) ⟨by decide, by decide, rfl⟩ (rfl : jrt 11 16 = 12) dX12_readTown_36 hr0 (fun ha36 => ?_)
        clear hr0
        refine lv_iload_n hx hb dX12_readTown_39 rfl (lv_at hl 2 rfl) ?_
        obtain ⟨hn, h⟩ := h
        refine jabd hx hb hst w ha36 hn dX12_readTown_40 ?_
        clear hn
        refine jcV_i (k := x0) (As := [.int x1, .int (i a36 x2.toNatClampNeg)]) (rest := []) C0 w (c_X12_nextState hG hx0 h) (cwV 2 hts gX12_readTown_X12_nextState rfl rfl rfl (by decide +kernel) ⟨Nat.le_of_ble_eq_true rfl, Nat.le_of_ble_eq_true rfl⟩) hx0 (rfl : vwCl[11]? = some (RX12, TX12, 51)) (by decide) rfl hl.1 rfl (Nat.le_of_ble_eq_true rfl) dX12_readTown_41 (fun q41 i41 j41 H locs h w => ?_) ⟨Nat.zero_le _, Nat.zero_le _⟩
        refine lv_istore (lv' := [(4, .int q41), (0, .ref (b + x0)), (1, .int x1), (2, .int x2), (3, .int x3)]) hx hb dX12_readTown_44 hl (by decide) rfl (fun ls hl => ?_)
        refine lv_iload hx hb dX12_readTown_46 (lv_at hl 0 rfl) ?_
        refine lv_iconst (v := (-1 : Int32)) hx hb dX12_readTown_48 (by decide) ?_
        refine lv_icmp_eq (tgt := 56) hx hb dX12_readTown_49 (by decide) (fun hc => ?_) (fun hc => ?_)
        · replace h := h.1 hc
          clear hc
          refine lv_iconst (v := (0 : Int32)) hx hb dX12_readTown_56 (by decide) ?_
          exact w_X12_readTown_L57 C0 hr hlk (fun w hx0 hl h => ih w hx0 hl h) w hx0 (lv_sub hl [1, 2, 3, 0] rfl) h
        · replace h := h.2 hc
          clear hc
          refine lv_iconst (v := (1 : Int32)) hx hb dX12_readTown_52 (by decide) ?_
          refine lv_goto (tgt := 57) hx hb dX12_readTown_53 (by decide) ?_
          exact w_X12_readTown_L57 C0 hr hlk (fun w hx0 hl h => ih w hx0 hl h) w hx0 (lv_sub hl [1, 2, 3, 0] rfl) h
set_option maxHeartbeats 4000000 in
set_option maxRecDepth 100000 in
theorem c_X12_readTown (hG : jG n K r) {i : jI} {j : jL} {x0 : Nat} (hx0 : x0 < n ∧ K x0 = 11) (h : J_X12_readTown len r Q i j x0) : Met l yX12_readTown wsX12_readTown rm_X12_readTown (va_Pc [.ref (b + x0)] (jPre b cy D tU n K len r i j)) (jQv b cy D tU n K len r Q) 0 0 (jA b) := by
  refine Met.ofW (cc := cX12_readTown) (maxL := 5) (ret := none) (by decide) rfl ?_
  intro p e s m args below meth c s₁ B hml hv
  obtain ⟨rfl, hv⟩ := hv
  have C0 : jCx p s m _ c cX12_readTown 5 wsX12_readTown RX12 b cy D tU n K r := ⟨B.exec, B.bytes, hml, findClass_of_methodNamed B.named, atoms_spec (ws := wsX12_readTown) B.pre, hv.2.2, hG⟩
  have hr := B.returns
  have hlk := B.notSynchronized
  obtain ⟨hx, hb, hml, hown, hts, hst, hG⟩ := id C0
  have hiX12 : ∀ w ∈ u_ws RX12 TX12 51, w ∈ wsX12_readTown := hiX12_X12_readTown
  have w := jDy.start hv
  have hl := lv_entry ([.ref (b + x0)]) (n := 5) (Nat.le_of_ble_eq_true rfl)
  rw [lg_entry_eq]
  generalize (lg_sl ([.ref (b + x0)]) ++ List.replicate (5 - (lg_sl ([.ref (b + x0)])).length) Slot.unset).toArray = ls at hl ⊢
  replace hl : lv_has ls 5 [(0, .ref (b + x0))] := hl
  show W p l e rm_X12_readTown s m _ below meth c s.heap [] 0 0 _ (F0 m 0 ls [])
  rw [J_X12_readTown] at h
  refine lv_aload_n hx hb dX12_readTown_0 rfl (lv_at hl 0 rfl) ?_
  refine lv_iconst (v := (0 : Int32)) hx hb dX12_readTown_1 (by decide) ?_
  refine jpi (f := 19) hx hb hts hown hst w hx0 hiX12 (rfl : vwCl[11]? = some (RX12, TX12, 51)) (hts (.fieldLink RX12 99 "FootByGateModel" "newMany" "I") (by decide +kernel)) ⟨by decide, by decide, rfl⟩ tyX12 tyX12_ok nmX12 rfl ⟨rfl, rfl⟩ dX12_readTown_2 (fun i2 H locs he w => ?_)
  replace h := h i2 he
  clear he
  refine lv_aload_n hx hb dX12_readTown_5 rfl (lv_at hl 0 rfl) ?_
  refine lv_iconst (v := (0 : Int32)) hx hb dX12_readTown_6 (by decide) ?_
  refine jpi (f := 20) hx hb hts hown hst w hx0 hiX12 (rfl : vwCl[11]? = some (RX12, TX12, 51)) (hts (.fieldLink RX12 110 "FootByGateModel" "newGates" "I") (by decide +kernel)) ⟨by decide, by decide, rfl⟩ tyX12 tyX12_ok nmX12 rfl ⟨rfl, rfl⟩ dX12_readTown_7 (fun i7 H locs he w => ?_)
  replace h := h i7 he
  clear he
  refine lv_aload_n hx hb dX12_readTown_10 rfl (lv_at hl 0 rfl) ?_
  refine lv_iconst (v := (0 : Int32)) hx hb dX12_readTown_11 (by decide) ?_
  refine jpi (f := 21) hx hb hts hown hst w hx0 hiX12 (rfl : vwCl[11]? = some (RX12, TX12, 51)) (hts (.fieldLink RX12 106 "FootByGateModel" "newFree" "Z") (by decide +kernel)) ⟨by decide, by decide, rfl⟩ tyX12 tyX12_ok nmX12 rfl ⟨by decide, by decide⟩ dX12_readTown_12 (fun i12 H locs he w => ?_)
  replace h := h i12 he
  clear he
  refine lv_iconst (v := (0 : Int32)) hx hb dX12_readTown_15 (by decide) ?_
  refine lv_istore_n (lv' := [(1, .int (0 : Int32)), (0, .ref (b + x0))]) hx hb dX12_readTown_16 rfl hl (by decide) rfl (fun ls hl => ?_)
  refine lv_iconst (v := (0 : Int32)) hx hb dX12_readTown_17 (by decide) ?_
  refine lv_istore_n (lv' := [(2, .int (0 : Int32)), (1, .int (0 : Int32)), (0, .ref (b + x0))]) hx hb dX12_readTown_18 rfl hl (by decide) rfl (fun ls hl => ?_)
  refine lv_iconst (v := (1 : Int32)) hx hb dX12_readTown_19 (by decide) ?_
  refine lv_istore_n (lv' := [(3, .int (1 : Int32)), (2, .int (0 : Int32)), (1, .int (0 : Int32)), (0, .ref (b + x0))]) hx hb dX12_readTown_20 rfl hl (by decide) rfl (fun ls hl => ?_)
  obtain ⟨g0, h⟩ := h
  exact w_X12_readTown_L21 C0 hr hlk g0 w hx0 (lv_sub hl [3, 2, 1, 0] rfl) h
end S_X12_readTown
section S_X12_fault
def J_X12_fault (len : Nat → Nat) (r : jR) (Q : Int32 → jI → jL → Prop) (i : jI) (j : jL) (x0 : Nat) : Prop := J_X12_readTown len r (fun (i1 : jI) (j1 : jL) => Q (i1 x0 17) i1 j1) i j x0
abbrev rm_X12_fault : Room := { frames := 3, cells := 0, slots := 0, locals := 69 }
variable {p : Program} {l : Launch} {e : Env} {s : State} {m : MethodId} {args : Array Value} {below : List Frame} {meth : Method} {c : Code} {b tU n : Nat} {cy : Nat → ClassId} {D : va_G} {K len : Nat → Nat} {r : jR} {Q : Int32 → jI → jL → Prop}
theorem hiX12_X12_fault : ∀ w ∈ u_ws RX12 TX12 51, w ∈ wsX12_fault := by decide +kernel
set_option maxHeartbeats 4000000 in
set_option maxRecDepth 100000 in
theorem c_X12_fault (hG : jG n K r) {i : jI} {j : jL} {x0 : Nat} (hx0 : x0 < n ∧ K x0 = 11) (h : J_X12_fault len r Q i j x0) : Met l yX12_fault wsX12_fault rm_X12_fault (va_Pc [.ref (b + x0)] (jPre b cy D tU n K len r i j)) (jQi b cy D tU n K len r Q) 0 0 (jA b) := by
  refine Met.ofW (cc := cX12_fault) (maxL := 1) (ret := (some .int)) (by decide) rfl ?_
  intro p e s m args below meth c s₁ B hml hv
  obtain ⟨rfl, hv⟩ := hv
  have C0 : jCx p s m _ c cX12_fault 1 wsX12_fault RX12 b cy D tU n K r := ⟨B.exec, B.bytes, hml, findClass_of_methodNamed B.named, atoms_spec (ws := wsX12_fault) B.pre, hv.2.2, hG⟩
  have hr := B.returns
  have hlk := B.notSynchronized
  obtain ⟨hx, hb, hml, hown, hts, hst, hG⟩ := id C0
  have hiX12 : ∀ w ∈ u_ws RX12 TX12 51, w ∈ wsX12_fault := hiX12_X12_fault
  have w := jDy.start hv
  have hl := lv_entry ([.ref (b + x0)]) (n := 1) (Nat.le_of_ble_eq_true rfl)
  rw [lg_entry_eq]
  generalize (lg_sl ([.ref (b + x0)]) ++ List.replicate (1 - (lg_sl ([.ref (b + x0)])).length) Slot.unset).toArray = ls at hl ⊢
  replace hl : lv_has ls 1 [(0, .ref (b + x0))] := hl
  show W p l e rm_X12_fault s m _ below meth c s.heap [] 0 0 _ (F0 m 0 ls [])
  rw [J_X12_fault] at h
  refine lv_aload_n hx hb dX12_fault_0 rfl (lv_at hl 0 rfl) ?_
  refine jcV_v (k := x0) (As := []) (rest := []) C0 w (c_X12_readTown hG hx0 h) (cwV 0 hts gX12_fault_X12_readTown rfl rfl rfl (by decide +kernel) ⟨Nat.le_of_ble_eq_true rfl, Nat.le_of_ble_eq_true rfl⟩) hx0 (rfl : vwCl[11]? = some (RX12, TX12, 51)) (by decide) rfl hl.1 rfl (Nat.le_of_ble_eq_true rfl) dX12_fault_1 (fun i1 j1 H locs h w => ?_) ⟨Nat.zero_le _, Nat.zero_le _⟩
  refine lv_aload_n hx hb dX12_fault_4 rfl (lv_at hl 0 rfl) ?_
  refine jgi (f := 17) hx hb hts hown hst w hx0 hiX12 (rfl : vwCl[11]? = some (RX12, TX12, 51)) (hts (.fieldLink RX12 117 "FootByGateModel" "faultAt" "I") (by decide +kernel)) ⟨by decide, by decide, rfl⟩ dX12_fault_5 ?_
  exact jret_i hx hb hr hlk hst w h dX12_fault_8
end S_X12_fault
section S_X12_fewest
def J_X12_fewest_L15 (len : Nat → Nat) (r : jR) (Q : Int32 → jI → jL → Prop) (i : jI) (j : jL) : Prop := Q (-101 : Int32) i j
def J_X12_fewest (len : Nat → Nat) (r : jR) (Q : Int32 → jI → jL → Prop) (i : jI) (j : jL) (x0 : Nat) (x1 : Int32) (x2 : Int32) (x3 : Int32) : Prop := J_X12_isWalker len r (fun (q2 : Int32) (i2 : jI) (j2 : jL) => ((q2 = 0) → (J_X12_fewest_L15 len r Q i2 j2 )) ∧ ((¬ q2 = 0) → (J_X12_isPlace len r (fun (q9 : Int32) (i9 : jI) (j9 : jL) => ((¬ q9 = 0) → (J_X12_within len r (fun (q21 : Int32) (i21 : jI) (j21 : jL) => ((q21 = 0) → (Q (-102 : Int32) i21 j21)) ∧ ((¬ q21 = 0) → (J_X12_fewestNow len r (fun (q31 : Int32) (i31 : jI) (j31 : jL) => Q q31 i31 j31) i21 j21 x0 x1 x2 x3))) i9 j9 x3 (0 : Int32) (1 : Int32))) ∧ ((q9 = 0) → (J_X12_fewest_L15 len r Q i9 j9 ))) i2 j2 x2))) i j x0 x1
abbrev rm_X12_fewest : Room := { frames := 5, cells := 0, slots := 0, locals := 123 }
variable {p : Program} {l : Launch} {e : Env} {s : State} {m : MethodId} {args : Array Value} {below : List Frame} {meth : Method} {c : Code} {b tU n : Nat} {cy : Nat → ClassId} {D : va_G} {K len : Nat → Nat} {r : jR} {Q : Int32 → jI → jL → Prop}
set_option maxHeartbeats 4000000 in
set_option maxRecDepth 100000 in
theorem w_X12_fewest_L15 (C0 : jCx p s m args c cX12_fewest 4 wsX12_fewest RX12 b cy D tU n K r) (hr : meth.sig.returnType = some .int) (hlk : meth.locks = false) {H : Heap} {locs : List Loc} {ls : Array Slot} {i : jI} {j : jL}  (w : jDy b cy D n K len r i j s H locs) (hl : lv_has ls 4 []) (h : J_X12_fewest_L15 len r Q i j) : W p l e rm_X12_fewest s m args below meth c H locs 0 0 (MQ below (jQi b cy D tU n K len r Q) args s 0 0 (jA b)) (F0 m 15 ls []) := by
  obtain ⟨hx, hb, hml, hown, hts, hst, hG⟩ := id C0
  rw [J_X12_fewest_L15] at h
  refine lv_bipush (v := (-101 : Int32)) hx hb dX12_fewest_15 (by decide) ?_
  exact jret_i hx hb hr hlk hst w h dX12_fewest_17
set_option maxHeartbeats 4000000 in
set_option maxRecDepth 100000 in
theorem c_X12_fewest (hG : jG n K r) {i : jI} {j : jL} {x0 : Nat} {x1 : Int32} {x2 : Int32} {x3 : Int32} (hx0 : x0 < n ∧ K x0 = 11) (h : J_X12_fewest len r Q i j x0 x1 x2 x3) : Met l yX12_fewest wsX12_fewest rm_X12_fewest (va_Pc [.ref (b + x0), .int x1, .int x2, .int x3] (jPre b cy D tU n K len r i j)) (jQi b cy D tU n K len r Q) 0 0 (jA b) := by
  refine Met.ofW (cc := cX12_fewest) (maxL := 4) (ret := (some .int)) (by decide) rfl ?_
  intro p e s m args below meth c s₁ B hml hv
  obtain ⟨rfl, hv⟩ := hv
  have C0 : jCx p s m _ c cX12_fewest 4 wsX12_fewest RX12 b cy D tU n K r := ⟨B.exec, B.bytes, hml, findClass_of_methodNamed B.named, atoms_spec (ws := wsX12_fewest) B.pre, hv.2.2, hG⟩
  have hr := B.returns
  have hlk := B.notSynchronized
  obtain ⟨hx, hb, hml, hown, hts, hst, hG⟩ := id C0
  have w := jDy.start hv
  have hl := lv_entry ([.ref (b + x0), .int x1, .int x2, .int x3]) (n := 4) (Nat.le_of_ble_eq_true rfl)
  rw [lg_entry_eq]
  generalize (lg_sl ([.ref (b + x0), .int x1, .int x2, .int x3]) ++ List.replicate (4 - (lg_sl ([.ref (b + x0), .int x1, .int x2, .int x3])).length) Slot.unset).toArray = ls at hl ⊢
  replace hl : lv_has ls 4 [(0, .ref (b + x0)), (1, .int x1), (2, .int x2), (3, .int x3)] := hl
  show W p l e rm_X12_fewest s m _ below meth c s.heap [] 0 0 _ (F0 m 0 ls [])
  rw [J_X12_fewest] at h
  refine lv_aload_n hx hb dX12_fewest_0 rfl (lv_at hl 0 rfl) ?_
  refine lv_iload_n hx hb dX12_fewest_1 rfl (lv_at hl 1 rfl) ?_
  refine jcV_i (k := x0) (As := [.int x1]) (rest := []) C0 w (c_X12_isWalker hG hx0 h) (cwV 1 hts gX12_fewest_X12_isWalker rfl rfl rfl (by decide +kernel) ⟨Nat.le_of_ble_eq_true rfl, Nat.le_of_ble_eq_true rfl⟩) hx0 (rfl : vwCl[11]? = some (RX12, TX12, 51)) (by decide) rfl hl.1 rfl (Nat.le_of_ble_eq_true rfl) dX12_fewest_2 (fun q2 i2 j2 H locs h w => ?_) ⟨Nat.zero_le _, Nat.zero_le _⟩
  refine lv_if_eq (tgt := 15) hx hb dX12_fewest_5 (by decide) (fun hc => ?_) (fun hc => ?_)
  · replace h := h.1 hc
    clear hc
    exact w_X12_fewest_L15 C0 hr hlk w (lv_sub hl [] rfl) h
  · replace h := h.2 hc
    clear hc
    refine lv_iload_n hx hb dX12_fewest_8 rfl (lv_at hl 2 rfl) ?_
    refine jcS_i (As := [.int x2]) (rest := []) C0 w (c_X12_isPlace hG h) (va_cwS 1 hts gX12_fewest_X12_isPlace rfl rfl rfl (by decide +kernel) ⟨Nat.le_of_ble_eq_true rfl, Nat.le_of_ble_eq_true rfl⟩) rfl hl.1 rfl (Nat.le_of_ble_eq_true rfl) dX12_fewest_9 (fun q9 i9 j9 H locs h w => ?_) ⟨Nat.zero_le _, Nat.zero_le _⟩
    refine lv_if_ne (tgt := 18) hx hb dX12_fewest_12 (by decide) (fun hc => ?_) (fun hc => ?_)
    · replace h := h.1 hc
      clear hc
      refine lv_iload_n hx hb dX12_fewest_18 rfl (lv_at hl 3 rfl) ?_
      refine lv_iconst (v := (0 : Int32)) hx hb dX12_fewest_19 (by decide) ?_
      refine lv_iconst (v := (1 : Int32)) hx hb dX12_fewest_20 (by decide) ?_
      refine jcS_i (As := [.int x3, .int (0 : Int32), .int (1 : Int32)]) (rest := []) C0 w (c_X12_within hG h) (va_cwS 3 hts gX12_fewest_X12_within rfl rfl rfl (by decide +kernel) ⟨Nat.le_of_ble_eq_true rfl, Nat.le_of_ble_eq_true rfl⟩) rfl hl.1 rfl (Nat.le_of_ble_eq_true rfl) dX12_fewest_21 (fun q21 i21 j21 H locs h w => ?_) ⟨Nat.zero_le _, Nat.zero_le _⟩
      refine lv_if_eq (tgt := 37) hx hb dX12_fewest_24 (by decide) (fun hc => ?_) (fun hc => ?_)
      · replace h := h.1 hc
        clear hc
        refine lv_bipush (v := (-102 : Int32)) hx hb dX12_fewest_37 (by decide) ?_
        exact jret_i hx hb hr hlk hst w h dX12_fewest_39
      · replace h := h.2 hc
        clear hc
        refine lv_aload_n hx hb dX12_fewest_27 rfl (lv_at hl 0 rfl) ?_
        refine lv_iload_n hx hb dX12_fewest_28 rfl (lv_at hl 1 rfl) ?_
        refine lv_iload_n hx hb dX12_fewest_29 rfl (lv_at hl 2 rfl) ?_
        refine lv_iload_n hx hb dX12_fewest_30 rfl (lv_at hl 3 rfl) ?_
        refine jcV_i (k := x0) (As := [.int x1, .int x2, .int x3]) (rest := []) C0 w (c_X12_fewestNow hG hx0 h) (cwV 3 hts gX12_fewest_X12_fewestNow rfl rfl rfl (by decide +kernel) ⟨Nat.le_of_ble_eq_true rfl, Nat.le_of_ble_eq_true rfl⟩) hx0 (rfl : vwCl[11]? = some (RX12, TX12, 51)) (by decide) rfl hl.1 rfl (Nat.le_of_ble_eq_true rfl) dX12_fewest_31 (fun q31 i31 j31 H locs h w => ?_) ⟨Nat.zero_le _, Nat.zero_le _⟩
        refine lv_goto (tgt := 39) hx hb dX12_fewest_34 (by decide) ?_
        exact jret_i hx hb hr hlk hst w h dX12_fewest_39
    · replace h := h.2 hc
      clear hc
      exact w_X12_fewest_L15 C0 hr hlk w (lv_sub hl [] rfl) h
end S_X12_fewest
section S_X12_go
def J_X12_go_L16 (len : Nat → Nat) (r : jR) (Q : Int32 → jI → jL → Prop) (i : jI) (j : jL) : Prop := Q (-101 : Int32) i j
def J_X12_go (len : Nat → Nat) (r : jR) (Q : Int32 → jI → jL → Prop) (i : jI) (j : jL) (x0 : Nat) (x1 : Int32) (x2 : Int32) : Prop := J_X12_isWalker len r (fun (q2 : Int32) (i2 : jI) (j2 : jL) => ((q2 = 0) → (J_X12_go_L16 len r Q i2 j2 )) ∧ ((¬ q2 = 0) → (J_X12_isStreet len r (fun (q10 : Int32) (i10 : jI) (j10 : jL) => ((¬ q10 = 0) → (∃ a21, r x0 9 = some a21 ∧ (vp_in x1 (len a21) ∧ (∃ a27, r x0 10 = some a27 ∧ (vp_in x1 (len a27) ∧ (J_X12_behind len r (fun (q33 : Int32) (i33 : jI) (j33 : jL) => ((¬ q33 = (-1 : Int32)) → (∃ a46, r x0 10 = some a46 ∧ (vp_in x1 (len a46) ∧ ∀ i51 : jI, i51 = ju i33 a46 x1.toNatClampNeg q33 → (J_X12_placeIn len r (fun (q53 : Int32) (i53 : jI) (j53 : jL) => Q q53 i53 j53) i51 j33 q33)))) ∧ ((q33 = (-1 : Int32)) → (Q (-103 : Int32) i33 j33))) i10 j10 x0 (i10 a21 x1.toNatClampNeg) (i10 a27 x1.toNatClampNeg) x2)))))) ∧ ((q10 = 0) → (J_X12_go_L16 len r Q i10 j10 ))) i2 j2 x0 x2))) i j x0 x1
abbrev rm_X12_go : Room := { frames := 3, cells := 0, slots := 0, locals := 71 }
variable {p : Program} {l : Launch} {e : Env} {s : State} {m : MethodId} {args : Array Value} {below : List Frame} {meth : Method} {c : Code} {b tU n : Nat} {cy : Nat → ClassId} {D : va_G} {K len : Nat → Nat} {r : jR} {Q : Int32 → jI → jL → Prop}
theorem hiX12_X12_go : ∀ w ∈ u_ws RX12 TX12 51, w ∈ wsX12_go := by decide +kernel
set_option maxHeartbeats 4000000 in
set_option maxRecDepth 100000 in
theorem w_X12_go_L16 (C0 : jCx p s m args c cX12_go 4 wsX12_go RX12 b cy D tU n K r) (hr : meth.sig.returnType = some .int) (hlk : meth.locks = false) {H : Heap} {locs : List Loc} {ls : Array Slot} {i : jI} {j : jL}  (w : jDy b cy D n K len r i j s H locs) (hl : lv_has ls 4 []) (h : J_X12_go_L16 len r Q i j) : W p l e rm_X12_go s m args below meth c H locs 0 0 (MQ below (jQi b cy D tU n K len r Q) args s 0 0 (jA b)) (F0 m 16 ls []) := by
  obtain ⟨hx, hb, hml, hown, hts, hst, hG⟩ := id C0
  have hiX12 : ∀ w ∈ u_ws RX12 TX12 51, w ∈ wsX12_go := hiX12_X12_go
  rw [J_X12_go_L16] at h
  refine lv_bipush (v := (-101 : Int32)) hx hb dX12_go_16 (by decide) ?_
  exact jret_i hx hb hr hlk hst w h dX12_go_18
set_option maxHeartbeats 4000000 in
set_option maxRecDepth 100000 in
theorem c_X12_go (hG : jG n K r) {i : jI} {j : jL} {x0 : Nat} {x1 : Int32} {x2 : Int32} (hx0 : x0 < n ∧ K x0 = 11) (h : J_X12_go len r Q i j x0 x1 x2) : Met l yX12_go wsX12_go rm_X12_go (va_Pc [.ref (b + x0), .int x1, .int x2] (jPre b cy D tU n K len r i j)) (jQi b cy D tU n K len r Q) 0 0 (jA b) := by
  refine Met.ofW (cc := cX12_go) (maxL := 4) (ret := (some .int)) (by decide) rfl ?_
  intro p e s m args below meth c s₁ B hml hv
  obtain ⟨rfl, hv⟩ := hv
  have C0 : jCx p s m _ c cX12_go 4 wsX12_go RX12 b cy D tU n K r := ⟨B.exec, B.bytes, hml, findClass_of_methodNamed B.named, atoms_spec (ws := wsX12_go) B.pre, hv.2.2, hG⟩
  have hr := B.returns
  have hlk := B.notSynchronized
  obtain ⟨hx, hb, hml, hown, hts, hst, hG⟩ := id C0
  have hiX12 : ∀ w ∈ u_ws RX12 TX12 51, w ∈ wsX12_go := hiX12_X12_go
  have w := jDy.start hv
  have hl := lv_entry ([.ref (b + x0), .int x1, .int x2]) (n := 4) (Nat.le_of_ble_eq_true rfl)
  rw [lg_entry_eq]
  generalize (lg_sl ([.ref (b + x0), .int x1, .int x2]) ++ List.replicate (4 - (lg_sl ([.ref (b + x0), .int x1, .int x2])).length) Slot.unset).toArray = ls at hl ⊢
  replace hl : lv_has ls 4 [(0, .ref (b + x0)), (1, .int x1), (2, .int x2)] := hl
  show W p l e rm_X12_go s m _ below meth c s.heap [] 0 0 _ (F0 m 0 ls [])
  rw [J_X12_go] at h
  refine lv_aload_n hx hb dX12_go_0 rfl (lv_at hl 0 rfl) ?_
  refine lv_iload_n hx hb dX12_go_1 rfl (lv_at hl 1 rfl) ?_
  refine jcV_i (k := x0) (As := [.int x1]) (rest := []) C0 w (c_X12_isWalker hG hx0 h) (cwV 1 hts gX12_go_X12_isWalker rfl rfl rfl (by decide +kernel) ⟨Nat.le_of_ble_eq_true rfl, Nat.le_of_ble_eq_true rfl⟩) hx0 (rfl : vwCl[11]? = some (RX12, TX12, 51)) (by decide) rfl hl.1 rfl (Nat.le_of_ble_eq_true rfl) dX12_go_2 (fun q2 i2 j2 H locs h w => ?_) ⟨Nat.zero_le _, Nat.zero_le _⟩
  refine lv_if_eq (tgt := 16) hx hb dX12_go_5 (by decide) (fun hc => ?_) (fun hc => ?_)
  · replace h := h.1 hc
    clear hc
    exact w_X12_go_L16 C0 hr hlk w (lv_sub hl [] rfl) h
  · replace h := h.2 hc
    clear hc
    refine lv_aload_n hx hb dX12_go_8 rfl (lv_at hl 0 rfl) ?_
    refine lv_iload_n hx hb dX12_go_9 rfl (lv_at hl 2 rfl) ?_
    refine jcV_i (k := x0) (As := [.int x2]) (rest := []) C0 w (c_X12_isStreet hG hx0 h) (cwV 1 hts gX12_go_X12_isStreet rfl rfl rfl (by decide +kernel) ⟨Nat.le_of_ble_eq_true rfl, Nat.le_of_ble_eq_true rfl⟩) hx0 (rfl : vwCl[11]? = some (RX12, TX12, 51)) (by decide) rfl hl.1 rfl (Nat.le_of_ble_eq_true rfl) dX12_go_10 (fun q10 i10 j10 H locs h w => ?_) ⟨Nat.zero_le _, Nat.zero_le _⟩
    refine lv_if_ne (tgt := 19) hx hb dX12_go_13 (by decide) (fun hc => ?_) (fun hc => ?_)
    · replace h := h.1 hc
      clear hc
      refine lv_aload_n hx hb dX12_go_19 rfl (lv_at hl 0 rfl) ?_
      refine lv_aload_n hx hb dX12_go_20 rfl (lv_at hl 0 rfl) ?_
      obtain ⟨a21, hr0, h⟩ := h
      refine jgr (f := 9) hx hb hts hown hst w hG hx0 hiX12 (rfl : vwCl[11]? = some (RX12, TX12, 51)) (hts (.fieldLink RX12 22 "FootByGateModel" "kindOf" "[I") (by decide +kernel)) ⟨by decide, by decide, rfl⟩ (rfl : jrt 11 9 = 13) dX12_go_21 hr0 (fun ha21 => ?_)
      clear hr0
      refine lv_iload_n hx hb dX12_go_24 rfl (lv_at hl 1 rfl) ?_
      obtain ⟨hn, h⟩ := h
      refine jaid hx hb hst w ha21 hn dX12_go_25 ?_
      clear hn
      refine lv_aload_n hx hb dX12_go_26 rfl (lv_at hl 0 rfl) ?_
      obtain ⟨a27, hr0, h⟩ := h
      refine jgr (f := 10) hx hb hts hown hst w hG hx0 hiX12 (rfl : vwCl[11]? = some (RX12, TX12, 51)) (hts (.fieldLink RX12 25 "FootByGateModel" "standsOf" "[I") (by decide +kernel)) ⟨by decide, by decide, rfl⟩ (rfl : jrt 11 10 = 13) dX12_go_27 hr0 (fun ha27 => ?_)
      clear hr0
      refine lv_iload_n hx hb dX12_go_30 rfl (lv_at hl 1 rfl) ?_
      obtain ⟨hn, h⟩ := h
      refine jaid hx hb hst w ha27 hn dX12_go_31 ?_
      clear hn
      refine lv_iload_n hx hb dX12_go_32 rfl (lv_at hl 2 rfl) ?_
      refine jcV_i (k := x0) (As := [.int (i10 a21 x1.toNatClampNeg), .int (i10 a27 x1.toNatClampNeg), .int x2]) (rest := []) C0 w (c_X12_behind hG hx0 h) (cwV 3 hts gX12_go_X12_behind rfl rfl rfl (by decide +kernel) ⟨Nat.le_of_ble_eq_true rfl, Nat.le_of_ble_eq_true rfl⟩) hx0 (rfl : vwCl[11]? = some (RX12, TX12, 51)) (by decide) rfl hl.1 rfl (Nat.le_of_ble_eq_true rfl) dX12_go_33 (fun q33 i33 j33 H locs h w => ?_) ⟨Nat.zero_le _, Nat.zero_le _⟩
      refine lv_istore_n (lv' := [(3, .int q33), (0, .ref (b + x0)), (1, .int x1), (2, .int x2)]) hx hb dX12_go_36 rfl hl (by decide) rfl (fun ls hl => ?_)
      refine lv_iload_n hx hb dX12_go_37 rfl (lv_at hl 0 rfl) ?_
      refine lv_iconst (v := (-1 : Int32)) hx hb dX12_go_38 (by decide) ?_
      refine lv_icmp_ne (tgt := 45) hx hb dX12_go_39 (by decide) (fun hc => ?_) (fun hc => ?_)
      · replace h := h.1 hc
        clear hc
        refine lv_aload_n hx hb dX12_go_45 rfl (lv_at hl 1 rfl) ?_
        obtain ⟨a46, hr0, h⟩ := h
        refine jgr (f := 10) hx hb hts hown hst w hG hx0 hiX12 (rfl : vwCl[11]? = some (RX12, TX12, 51)) (hts (.fieldLink RX12 25 "FootByGateModel" "standsOf" "[I") (by decide +kernel)) ⟨by decide, by decide, rfl⟩ (rfl : jrt 11 10 = 13) dX12_go_46 hr0 (fun ha46 => ?_)
        clear hr0
        refine lv_iload_n hx hb dX12_go_49 rfl (lv_at hl 2 rfl) ?_
        refine lv_iload_n hx hb dX12_go_50 rfl (lv_at hl 0 rfl) ?_
        obtain ⟨hn, h⟩ := h
        refine jais hx hb hst w ha46 hn dX12_go_51 (fun i51 H locs he w => ?_)
        replace h := h i51 he
        clear he hn
        refine lv_iload_n hx hb dX12_go_52 rfl (lv_at hl 0 rfl) ?_
        refine jcS_i (As := [.int q33]) (rest := []) C0 w (c_X12_placeIn hG h) (va_cwS 1 hts gX12_go_X12_placeIn rfl rfl rfl (by decide +kernel) ⟨Nat.le_of_ble_eq_true rfl, Nat.le_of_ble_eq_true rfl⟩) rfl hl.1 rfl (Nat.le_of_ble_eq_true rfl) dX12_go_53 (fun q53 i53 j53 H locs h w => ?_) ⟨Nat.zero_le _, Nat.zero_le _⟩
        exact jret_i hx hb hr hlk hst w h dX12_go_56
      · replace h := h.2 hc
        clear hc
        refine lv_bipush (v := (-103 : Int32)) hx hb dX12_go_42 (by decide) ?_
        exact jret_i hx hb hr hlk hst w h dX12_go_44
    · replace h := h.2 hc
      clear hc
      exact w_X12_go_L16 C0 hr hlk w (lv_sub hl [] rfl) h
end S_X12_go
section S_X12_image
def J_X12_image_L104 (len : Nat → Nat) (r : jR) (Q : Int32 → jI → jL → Prop) : Nat → jI → jL → Nat → Int32 → Prop
  | 0 => fun _ _ _ _ => False
  | g + 1 => fun i j x0 x1 => (((6 : Int32) ≤ x1) → (Q (i x0 8) i j)) ∧ ((¬ (6 : Int32) ≤ x1) → (∃ a111, r x0 49 = some a111 ∧ (∃ a116, r x0 13 = some a116 ∧ (vp_in x1 (len a116) ∧ (vp_in x1 (len a111) ∧ ∀ i121 : jI, i121 = ju i a111 x1.toNatClampNeg (i a116 x1.toNatClampNeg) → (∀ v122 : Int32, v122 = x1 + (1 : Int32) → ((J_X12_image_L104 len r Q g) i121 j x0 v122)))))))
def J_X12_image_L78 (len : Nat → Nat) (r : jR) (Q : Int32 → jI → jL → Prop) : Nat → jI → jL → Nat → Int32 → Prop
  | 0 => fun _ _ _ _ => False
  | g + 1 => fun i j x0 x1 => (((10 : Int32) ≤ x1) → (∃ g0, J_X12_image_L104 len r Q g0 i j x0 (0 : Int32))) ∧ ((¬ (10 : Int32) ≤ x1) → (∃ a85, r x0 48 = some a85 ∧ (∃ a90, r x0 3 = some a90 ∧ (vp_in x1 (len a90) ∧ (vp_in x1 (len a85) ∧ ∀ i95 : jI, i95 = ju i a85 x1.toNatClampNeg (i a90 x1.toNatClampNeg) → (∀ v96 : Int32, v96 = x1 + (1 : Int32) → ((J_X12_image_L78 len r Q g) i95 j x0 v96)))))))
def J_X12_image_L41 (len : Nat → Nat) (r : jR) (Q : Int32 → jI → jL → Prop) : Nat → jI → jL → Nat → Int32 → Prop
  | 0 => fun _ _ _ _ => False
  | g + 1 => fun i j x0 x1 => (((5 : Int32) ≤ x1) → (∃ g0, J_X12_image_L78 len r Q g0 i j x0 (0 : Int32))) ∧ ((¬ (5 : Int32) ≤ x1) → (∃ a47, r x0 46 = some a47 ∧ (∃ a52, r x0 10 = some a52 ∧ (vp_in x1 (len a52) ∧ (vp_in x1 (len a47) ∧ ∀ i57 : jI, i57 = ju i a47 x1.toNatClampNeg (i a52 x1.toNatClampNeg) → (∃ a59, r x0 47 = some a59 ∧ (∃ a64, r x0 11 = some a64 ∧ (vp_in x1 (len a64) ∧ (vp_in x1 (len a59) ∧ ∀ i69 : jI, i69 = ju i57 a59 x1.toNatClampNeg (i57 a64 x1.toNatClampNeg) → (∀ v70 : Int32, v70 = x1 + (1 : Int32) → ((J_X12_image_L41 len r Q g) i69 j x0 v70)))))))))))
def J_X12_image (len : Nat → Nat) (r : jR) (Q : Int32 → jI → jL → Prop) (i : jI) (j : jL) (x0 : Nat) : Prop := ((¬ (i x0 7) = 0) → (∀ i12 : jI, i12 = ju i x0 42 (1 : Int32) → (∀ i20 : jI, i20 = ju i12 x0 43 (i12 x0 7) → (∀ i28 : jI, i28 = ju i20 x0 44 (i20 x0 8) → (∀ i36 : jI, i36 = ju i28 x0 45 (i28 x0 12) → (∃ g0, J_X12_image_L41 len r Q g0 i36 j x0 (0 : Int32))))))) ∧ (((i x0 7) = 0) → (Q (-103 : Int32) i j))
abbrev rm_X12_image : Room := { frames := 0, cells := 0, slots := 0, locals := 0 }
variable {p : Program} {l : Launch} {e : Env} {s : State} {m : MethodId} {args : Array Value} {below : List Frame} {meth : Method} {c : Code} {b tU n : Nat} {cy : Nat → ClassId} {D : va_G} {K len : Nat → Nat} {r : jR} {Q : Int32 → jI → jL → Prop}
theorem hiX12_X12_image : ∀ w ∈ u_ws RX12 TX12 51, w ∈ wsX12_image := by decide +kernel
set_option maxHeartbeats 4000000 in
set_option maxRecDepth 100000 in
theorem w_X12_image_L104 (C0 : jCx p s m args c cX12_image 2 wsX12_image RX12 b cy D tU n K r) (hr : meth.sig.returnType = some .int) (hlk : meth.locks = false) : ∀ (g : Nat) {H : Heap} {locs : List Loc} {ls : Array Slot} {i : jI} {j : jL} {x0 : Nat} {x1 : Int32} (w : jDy b cy D n K len r i j s H locs) (hx0 : x0 < n ∧ K x0 = 11) (hl : lv_has ls 2 [(0, .ref (b + x0)), (1, .int x1)]) (h : J_X12_image_L104 len r Q g i j x0 x1), W p l e rm_X12_image s m args below meth c H locs 0 0 (MQ below (jQi b cy D tU n K len r Q) args s 0 0 (jA b)) (F0 m 104 ls []) := by
  obtain ⟨hx, hb, hml, hown, hts, hst, hG⟩ := id C0
  have hiX12 : ∀ w ∈ u_ws RX12 TX12 51, w ∈ wsX12_image := hiX12_X12_image
  intro g
  induction g with
  | zero => intro H locs ls i j x0 x1 w hx0 hl h; exact False.elim h
  | succ g ih =>
    intro H locs ls i j x0 x1 w hx0 hl h
    rw [J_X12_image_L104] at h
    refine lv_iload_n hx hb dX12_image_104 rfl (lv_at hl 1 rfl) ?_
    refine lv_bipush (v := (6 : Int32)) hx hb dX12_image_105 (by decide) ?_
    refine lv_icmp_ge (tgt := 128) hx hb dX12_image_107 (by decide) (fun hc => ?_) (fun hc => ?_)
    · replace h := h.1 hc
      clear hc
      refine lv_aload_n hx hb dX12_image_128 rfl (lv_at hl 0 rfl) ?_
      refine jgi (f := 8) hx hb hts hown hst w hx0 hiX12 (rfl : vwCl[11]? = some (RX12, TX12, 51)) (hts (.fieldLink RX12 138 "FootByGateModel" "walkers" "I") (by decide +kernel)) ⟨by decide, by decide, rfl⟩ dX12_image_129 ?_
      exact jret_i hx hb hr hlk hst w h dX12_image_132
    · replace h := h.2 hc
      clear hc
      refine lv_aload_n hx hb dX12_image_110 rfl (lv_at hl 0 rfl) ?_
      obtain ⟨a111, hr0, h⟩ := h
      refine jgr (f := 49) hx hb hts hown hst w hG hx0 hiX12 (rfl : vwCl[11]? = some (RX12, TX12, 51)) (hts (.fieldLink RX12 90 "FootByGateModel" "keptPrint" "[I") (by decide +kernel)) ⟨by decide, by decide, rfl⟩ (rfl : jrt 11 49 = 13) dX12_image_111 hr0 (fun ha111 => ?_)
      clear hr0
      refine lv_iload_n hx hb dX12_image_114 rfl (lv_at hl 1 rfl) ?_
      refine lv_aload_n hx hb dX12_image_115 rfl (lv_at hl 0 rfl) ?_
      obtain ⟨a116, hr0, h⟩ := h
      refine jgr (f := 13) hx hb hts hown hst w hG hx0 hiX12 (rfl : vwCl[11]? = some (RX12, TX12, 51)) (hts (.fieldLink RX12 31 "FootByGateModel" "printOf" "[I") (by decide +kernel)) ⟨by decide, by decide, rfl⟩ (rfl : jrt 11 13 = 13) dX12_image_116 hr0 (fun ha116 => ?_)
      clear hr0
      refine lv_iload_n hx hb dX12_image_119 rfl (lv_at hl 1 rfl) ?_
      obtain ⟨hn, h⟩ := h
      refine jaid hx hb hst w ha116 hn dX12_image_120 ?_
      clear hn
      obtain ⟨hn, h⟩ := h
      refine jais hx hb hst w ha111 hn dX12_image_121 (fun i121 H locs he w => ?_)
      replace h := h i121 he
      clear he hn
      obtain ⟨v122, he⟩ : ∃ z : Int32, z = x1 + (1 : Int32) := ⟨_, rfl⟩
      replace h := h v122 he
      refine lv_iinc (v := v122) (lv' := [(1, .int v122), (0, .ref (b + x0))]) hx hb dX12_image_122 hl (k := 1) rfl (by rw [he]; rfl) (by decide) rfl (fun ls hl => ?_)
      clear he
      refine lv_goto (tgt := 104) hx hb dX12_image_125 (by decide) ?_
      exact ih w hx0 (lv_sub hl [1, 0] rfl) h
set_option maxHeartbeats 4000000 in
set_option maxRecDepth 100000 in
theorem w_X12_image_L78 (C0 : jCx p s m args c cX12_image 2 wsX12_image RX12 b cy D tU n K r) (hr : meth.sig.returnType = some .int) (hlk : meth.locks = false) : ∀ (g : Nat) {H : Heap} {locs : List Loc} {ls : Array Slot} {i : jI} {j : jL} {x0 : Nat} {x1 : Int32} (w : jDy b cy D n K len r i j s H locs) (hx0 : x0 < n ∧ K x0 = 11) (hl : lv_has ls 2 [(0, .ref (b + x0)), (1, .int x1)]) (h : J_X12_image_L78 len r Q g i j x0 x1), W p l e rm_X12_image s m args below meth c H locs 0 0 (MQ below (jQi b cy D tU n K len r Q) args s 0 0 (jA b)) (F0 m 78 ls []) := by
  obtain ⟨hx, hb, hml, hown, hts, hst, hG⟩ := id C0
  have hiX12 : ∀ w ∈ u_ws RX12 TX12 51, w ∈ wsX12_image := hiX12_X12_image
  intro g
  induction g with
  | zero => intro H locs ls i j x0 x1 w hx0 hl h; exact False.elim h
  | succ g ih =>
    intro H locs ls i j x0 x1 w hx0 hl h
    rw [J_X12_image_L78] at h
    refine lv_iload_n hx hb dX12_image_78 rfl (lv_at hl 1 rfl) ?_
    refine lv_bipush (v := (10 : Int32)) hx hb dX12_image_79 (by decide) ?_
    refine lv_icmp_ge (tgt := 102) hx hb dX12_image_81 (by decide) (fun hc => ?_) (fun hc => ?_)
    · replace h := h.1 hc
      clear hc
      refine lv_iconst (v := (0 : Int32)) hx hb dX12_image_102 (by decide) ?_
      refine lv_istore_n (lv' := [(1, .int (0 : Int32)), (0, .ref (b + x0))]) hx hb dX12_image_103 rfl hl (by decide) rfl (fun ls hl => ?_)
      obtain ⟨g0, h⟩ := h
      exact w_X12_image_L104 C0 hr hlk g0 w hx0 (lv_sub hl [1, 0] rfl) h
    · replace h := h.2 hc
      clear hc
      refine lv_aload_n hx hb dX12_image_84 rfl (lv_at hl 0 rfl) ?_
      obtain ⟨a85, hr0, h⟩ := h
      refine jgr (f := 48) hx hb hts hown hst w hG hx0 hiX12 (rfl : vwCl[11]? = some (RX12, TX12, 51)) (hts (.fieldLink RX12 87 "FootByGateModel" "keptPaces" "[I") (by decide +kernel)) ⟨by decide, by decide, rfl⟩ (rfl : jrt 11 48 = 13) dX12_image_85 hr0 (fun ha85 => ?_)
      clear hr0
      refine lv_iload_n hx hb dX12_image_88 rfl (lv_at hl 1 rfl) ?_
      refine lv_aload_n hx hb dX12_image_89 rfl (lv_at hl 0 rfl) ?_
      obtain ⟨a90, hr0, h⟩ := h
      refine jgr (f := 3) hx hb hts hown hst w hG hx0 hiX12 (rfl : vwCl[11]? = some (RX12, TX12, 51)) (hts (.fieldLink RX12 16 "FootByGateModel" "pacesOf" "[I") (by decide +kernel)) ⟨by decide, by decide, rfl⟩ (rfl : jrt 11 3 = 13) dX12_image_90 hr0 (fun ha90 => ?_)
      clear hr0
      refine lv_iload_n hx hb dX12_image_93 rfl (lv_at hl 1 rfl) ?_
      obtain ⟨hn, h⟩ := h
      refine jaid hx hb hst w ha90 hn dX12_image_94 ?_
      clear hn
      obtain ⟨hn, h⟩ := h
      refine jais hx hb hst w ha85 hn dX12_image_95 (fun i95 H locs he w => ?_)
      replace h := h i95 he
      clear he hn
      obtain ⟨v96, he⟩ : ∃ z : Int32, z = x1 + (1 : Int32) := ⟨_, rfl⟩
      replace h := h v96 he
      refine lv_iinc (v := v96) (lv' := [(1, .int v96), (0, .ref (b + x0))]) hx hb dX12_image_96 hl (k := 1) rfl (by rw [he]; rfl) (by decide) rfl (fun ls hl => ?_)
      clear he
      refine lv_goto (tgt := 78) hx hb dX12_image_99 (by decide) ?_
      exact ih w hx0 (lv_sub hl [1, 0] rfl) h
set_option maxHeartbeats 4000000 in
set_option maxRecDepth 100000 in
theorem w_X12_image_L41 (C0 : jCx p s m args c cX12_image 2 wsX12_image RX12 b cy D tU n K r) (hr : meth.sig.returnType = some .int) (hlk : meth.locks = false) : ∀ (g : Nat) {H : Heap} {locs : List Loc} {ls : Array Slot} {i : jI} {j : jL} {x0 : Nat} {x1 : Int32} (w : jDy b cy D n K len r i j s H locs) (hx0 : x0 < n ∧ K x0 = 11) (hl : lv_has ls 2 [(0, .ref (b + x0)), (1, .int x1)]) (h : J_X12_image_L41 len r Q g i j x0 x1), W p l e rm_X12_image s m args below meth c H locs 0 0 (MQ below (jQi b cy D tU n K len r Q) args s 0 0 (jA b)) (F0 m 41 ls []) := by
  obtain ⟨hx, hb, hml, hown, hts, hst, hG⟩ := id C0
  have hiX12 : ∀ w ∈ u_ws RX12 TX12 51, w ∈ wsX12_image := hiX12_X12_image
  intro g
  induction g with
  | zero => intro H locs ls i j x0 x1 w hx0 hl h; exact False.elim h
  | succ g ih =>
    intro H locs ls i j x0 x1 w hx0 hl h
    rw [J_X12_image_L41] at h
    refine lv_iload_n hx hb dX12_image_41 rfl (lv_at hl 1 rfl) ?_
    refine lv_iconst (v := (5 : Int32)) hx hb dX12_image_42 (by decide) ?_
    refine lv_icmp_ge (tgt := 76) hx hb dX12_image_43 (by decide) (fun hc => ?_) (fun hc => ?_)
    · replace h := h.1 hc
      clear hc
      refine lv_iconst (v := (0 : Int32)) hx hb dX12_image_76 (by decide) ?_
      refine lv_istore_n (lv' := [(1, .int (0 : Int32)), (0, .ref (b + x0))]) hx hb dX12_image_77 rfl hl (by decide) rfl (fun ls hl => ?_)
      obtain ⟨g0, h⟩ := h
      exact w_X12_image_L78 C0 hr hlk g0 w hx0 (lv_sub hl [1, 0] rfl) h
    · replace h := h.2 hc
      clear hc
      refine lv_aload_n hx hb dX12_image_46 rfl (lv_at hl 0 rfl) ?_
      obtain ⟨a47, hr0, h⟩ := h
      refine jgr (f := 46) hx hb hts hown hst w hG hx0 hiX12 (rfl : vwCl[11]? = some (RX12, TX12, 51)) (hts (.fieldLink RX12 81 "FootByGateModel" "keptStands" "[I") (by decide +kernel)) ⟨by decide, by decide, rfl⟩ (rfl : jrt 11 46 = 13) dX12_image_47 hr0 (fun ha47 => ?_)
      clear hr0
      refine lv_iload_n hx hb dX12_image_50 rfl (lv_at hl 1 rfl) ?_
      refine lv_aload_n hx hb dX12_image_51 rfl (lv_at hl 0 rfl) ?_
      obtain ⟨a52, hr0, h⟩ := h
      refine jgr (f := 10) hx hb hts hown hst w hG hx0 hiX12 (rfl : vwCl[11]? = some (RX12, TX12, 51)) (hts (.fieldLink RX12 25 "FootByGateModel" "standsOf" "[I") (by decide +kernel)) ⟨by decide, by decide, rfl⟩ (rfl : jrt 11 10 = 13) dX12_image_52 hr0 (fun ha52 => ?_)
      clear hr0
      refine lv_iload_n hx hb dX12_image_55 rfl (lv_at hl 1 rfl) ?_
      obtain ⟨hn, h⟩ := h
      refine jaid hx hb hst w ha52 hn dX12_image_56 ?_
      clear hn
      obtain ⟨hn, h⟩ := h
      refine jais hx hb hst w ha47 hn dX12_image_57 (fun i57 H locs he w => ?_)
      replace h := h i57 he
      clear he hn
      refine lv_aload_n hx hb dX12_image_58 rfl (lv_at hl 0 rfl) ?_
      obtain ⟨a59, hr0, h⟩ := h
      refine jgr (f := 47) hx hb hts hown hst w hG hx0 hiX12 (rfl : vwCl[11]? = some (RX12, TX12, 51)) (hts (.fieldLink RX12 84 "FootByGateModel" "keptSkipped" "[I") (by decide +kernel)) ⟨by decide, by decide, rfl⟩ (rfl : jrt 11 47 = 13) dX12_image_59 hr0 (fun ha59 => ?_)
      clear hr0
      refine lv_iload_n hx hb dX12_image_62 rfl (lv_at hl 1 rfl) ?_
      refine lv_aload_n hx hb dX12_image_63 rfl (lv_at hl 0 rfl) ?_
      obtain ⟨a64, hr0, h⟩ := h
      refine jgr (f := 11) hx hb hts hown hst w hG hx0 hiX12 (rfl : vwCl[11]? = some (RX12, TX12, 51)) (hts (.fieldLink RX12 28 "FootByGateModel" "skippedOf" "[I") (by decide +kernel)) ⟨by decide, by decide, rfl⟩ (rfl : jrt 11 11 = 13) dX12_image_64 hr0 (fun ha64 => ?_)
      clear hr0
      refine lv_iload_n hx hb dX12_image_67 rfl (lv_at hl 1 rfl) ?_
      obtain ⟨hn, h⟩ := h
      refine jaid hx hb hst w ha64 hn dX12_image_68 ?_
      clear hn
      obtain ⟨hn, h⟩ := h
      refine jais hx hb hst w ha59 hn dX12_image_69 (fun i69 H locs he w => ?_)
      replace h := h i69 he
      clear he hn
      obtain ⟨v70, he⟩ : ∃ z : Int32, z = x1 + (1 : Int32) := ⟨_, rfl⟩
      replace h := h v70 he
      refine lv_iinc (v := v70) (lv' := [(1, .int v70), (0, .ref (b + x0))]) hx hb dX12_image_70 hl (k := 1) rfl (by rw [he]; rfl) (by decide) rfl (fun ls hl => ?_)
      clear he
      refine lv_goto (tgt := 41) hx hb dX12_image_73 (by decide) ?_
      exact ih w hx0 (lv_sub hl [1, 0] rfl) h
set_option maxHeartbeats 4000000 in
set_option maxRecDepth 100000 in
theorem c_X12_image (hG : jG n K r) {i : jI} {j : jL} {x0 : Nat} (hx0 : x0 < n ∧ K x0 = 11) (h : J_X12_image len r Q i j x0) : Met l yX12_image wsX12_image rm_X12_image (va_Pc [.ref (b + x0)] (jPre b cy D tU n K len r i j)) (jQi b cy D tU n K len r Q) 0 0 (jA b) := by
  refine Met.ofW (cc := cX12_image) (maxL := 2) (ret := (some .int)) (by decide) rfl ?_
  intro p e s m args below meth c s₁ B hml hv
  obtain ⟨rfl, hv⟩ := hv
  have C0 : jCx p s m _ c cX12_image 2 wsX12_image RX12 b cy D tU n K r := ⟨B.exec, B.bytes, hml, findClass_of_methodNamed B.named, atoms_spec (ws := wsX12_image) B.pre, hv.2.2, hG⟩
  have hr := B.returns
  have hlk := B.notSynchronized
  obtain ⟨hx, hb, hml, hown, hts, hst, hG⟩ := id C0
  have hiX12 : ∀ w ∈ u_ws RX12 TX12 51, w ∈ wsX12_image := hiX12_X12_image
  have w := jDy.start hv
  have hl := lv_entry ([.ref (b + x0)]) (n := 2) (Nat.le_of_ble_eq_true rfl)
  rw [lg_entry_eq]
  generalize (lg_sl ([.ref (b + x0)]) ++ List.replicate (2 - (lg_sl ([.ref (b + x0)])).length) Slot.unset).toArray = ls at hl ⊢
  replace hl : lv_has ls 2 [(0, .ref (b + x0))] := hl
  show W p l e rm_X12_image s m _ below meth c s.heap [] 0 0 _ (F0 m 0 ls [])
  rw [J_X12_image] at h
  refine lv_aload_n hx hb dX12_image_0 rfl (lv_at hl 0 rfl) ?_
  refine jgi (f := 7) hx hb hts hown hst w hx0 hiX12 (rfl : vwCl[11]? = some (RX12, TX12, 51)) (hts (.fieldLink RX12 135 "FootByGateModel" "towns" "I") (by decide +kernel)) ⟨by decide, by decide, rfl⟩ dX12_image_1 ?_
  refine lv_if_ne (tgt := 10) hx hb dX12_image_4 (by decide) (fun hc => ?_) (fun hc => ?_)
  · replace h := h.1 hc
    clear hc
    refine lv_aload_n hx hb dX12_image_10 rfl (lv_at hl 0 rfl) ?_
    refine lv_iconst (v := (1 : Int32)) hx hb dX12_image_11 (by decide) ?_
    refine jpi (f := 42) hx hb hts hown hst w hx0 hiX12 (rfl : vwCl[11]? = some (RX12, TX12, 51)) (hts (.fieldLink RX12 295 "FootByGateModel" "isKept" "Z") (by decide +kernel)) ⟨by decide, by decide, rfl⟩ tyX12 tyX12_ok nmX12 rfl ⟨by decide, by decide⟩ dX12_image_12 (fun i12 H locs he w => ?_)
    replace h := h i12 he
    clear he
    refine lv_aload_n hx hb dX12_image_15 rfl (lv_at hl 0 rfl) ?_
    refine lv_aload_n hx hb dX12_image_16 rfl (lv_at hl 0 rfl) ?_
    refine jgi (f := 7) hx hb hts hown hst w hx0 hiX12 (rfl : vwCl[11]? = some (RX12, TX12, 51)) (hts (.fieldLink RX12 135 "FootByGateModel" "towns" "I") (by decide +kernel)) ⟨by decide, by decide, rfl⟩ dX12_image_17 ?_
    refine jpi (f := 43) hx hb hts hown hst w hx0 hiX12 (rfl : vwCl[11]? = some (RX12, TX12, 51)) (hts (.fieldLink RX12 298 "FootByGateModel" "keptTown" "I") (by decide +kernel)) ⟨by decide, by decide, rfl⟩ tyX12 tyX12_ok nmX12 rfl ⟨rfl, rfl⟩ dX12_image_20 (fun i20 H locs he w => ?_)
    replace h := h i20 he
    clear he
    refine lv_aload_n hx hb dX12_image_23 rfl (lv_at hl 0 rfl) ?_
    refine lv_aload_n hx hb dX12_image_24 rfl (lv_at hl 0 rfl) ?_
    refine jgi (f := 8) hx hb hts hown hst w hx0 hiX12 (rfl : vwCl[11]? = some (RX12, TX12, 51)) (hts (.fieldLink RX12 138 "FootByGateModel" "walkers" "I") (by decide +kernel)) ⟨by decide, by decide, rfl⟩ dX12_image_25 ?_
    refine jpi (f := 44) hx hb hts hown hst w hx0 hiX12 (rfl : vwCl[11]? = some (RX12, TX12, 51)) (hts (.fieldLink RX12 301 "FootByGateModel" "keptWalkers" "I") (by decide +kernel)) ⟨by decide, by decide, rfl⟩ tyX12 tyX12_ok nmX12 rfl ⟨rfl, rfl⟩ dX12_image_28 (fun i28 H locs he w => ?_)
    replace h := h i28 he
    clear he
    refine lv_aload_n hx hb dX12_image_31 rfl (lv_at hl 0 rfl) ?_
    refine lv_aload_n hx hb dX12_image_32 rfl (lv_at hl 0 rfl) ?_
    refine jgi (f := 12) hx hb hts hown hst w hx0 hiX12 (rfl : vwCl[11]? = some (RX12, TX12, 51)) (hts (.fieldLink RX12 141 "FootByGateModel" "prints" "I") (by decide +kernel)) ⟨by decide, by decide, rfl⟩ dX12_image_33 ?_
    refine jpi (f := 45) hx hb hts hown hst w hx0 hiX12 (rfl : vwCl[11]? = some (RX12, TX12, 51)) (hts (.fieldLink RX12 304 "FootByGateModel" "keptPrints" "I") (by decide +kernel)) ⟨by decide, by decide, rfl⟩ tyX12 tyX12_ok nmX12 rfl ⟨rfl, rfl⟩ dX12_image_36 (fun i36 H locs he w => ?_)
    replace h := h i36 he
    clear he
    refine lv_iconst (v := (0 : Int32)) hx hb dX12_image_39 (by decide) ?_
    refine lv_istore_n (lv' := [(1, .int (0 : Int32)), (0, .ref (b + x0))]) hx hb dX12_image_40 rfl hl (by decide) rfl (fun ls hl => ?_)
    obtain ⟨g0, h⟩ := h
    exact w_X12_image_L41 C0 hr hlk g0 w hx0 (lv_sub hl [1, 0] rfl) h
  · replace h := h.2 hc
    clear hc
    refine lv_bipush (v := (-103 : Int32)) hx hb dX12_image_7 (by decide) ?_
    exact jret_i hx hb hr hlk hst w h dX12_image_9
end S_X12_image
section S_X12_isEvenTown
def J_X12_isEvenTown_L4 (len : Nat → Nat) (r : jR) (Q : Int32 → jI → jL → Prop) : Nat → jI → jL → Nat → Int32 → Int32 → Prop
  | 0 => fun _ _ _ _ _ => False
  | g + 1 => fun i j x0 x1 x2 => (((i x0 0) ≤ x2) → (((¬ x1 = 0) → (Q (0 : Int32) i j)) ∧ ((x1 = 0) → (Q (1 : Int32) i j)))) ∧ ((¬ (i x0 0) ≤ x2) → (∃ a15, r x0 1 = some a15 ∧ (vp_in x2 (len a15) ∧ (∃ a23, r x0 2 = some a23 ∧ (vp_in x2 (len a23) ∧ (∀ v31 : Int32, v31 = x1 ^^^ (((1 : Int32) <<< ((i a15 x2.toNatClampNeg) &&& 31)) ^^^ ((1 : Int32) <<< ((i a23 x2.toNatClampNeg) &&& 31))) → (∀ v32 : Int32, v32 = x2 + (1 : Int32) → ((J_X12_isEvenTown_L4 len r Q g) i j x0 v31 v32))))))))
def J_X12_isEvenTown (len : Nat → Nat) (r : jR) (Q : Int32 → jI → jL → Prop) (i : jI) (j : jL) (x0 : Nat) : Prop := ∃ g0, J_X12_isEvenTown_L4 len r Q g0 i j x0 (0 : Int32) (0 : Int32)
abbrev rm_X12_isEvenTown : Room := { frames := 0, cells := 0, slots := 0, locals := 0 }
variable {p : Program} {l : Launch} {e : Env} {s : State} {m : MethodId} {args : Array Value} {below : List Frame} {meth : Method} {c : Code} {b tU n : Nat} {cy : Nat → ClassId} {D : va_G} {K len : Nat → Nat} {r : jR} {Q : Int32 → jI → jL → Prop}
theorem hiX12_X12_isEvenTown : ∀ w ∈ u_ws RX12 TX12 51, w ∈ wsX12_isEvenTown := by decide +kernel
set_option maxHeartbeats 4000000 in
set_option maxRecDepth 100000 in
theorem w_X12_isEvenTown_L4 (C0 : jCx p s m args c cX12_isEvenTown 3 wsX12_isEvenTown RX12 b cy D tU n K r) (hr : meth.sig.returnType = some .boolean) (hlk : meth.locks = false) : ∀ (g : Nat) {H : Heap} {locs : List Loc} {ls : Array Slot} {i : jI} {j : jL} {x0 : Nat} {x1 : Int32} {x2 : Int32} (w : jDy b cy D n K len r i j s H locs) (hx0 : x0 < n ∧ K x0 = 11) (hl : lv_has ls 3 [(0, .ref (b + x0)), (1, .int x1), (2, .int x2)]) (h : J_X12_isEvenTown_L4 len r Q g i j x0 x1 x2), W p l e rm_X12_isEvenTown s m args below meth c H locs 0 0 (MQ below (jQi b cy D tU n K len r Q) args s 0 0 (jA b)) (F0 m 4 ls []) := by
  obtain ⟨hx, hb, hml, hown, hts, hst, hG⟩ := id C0
  have hiX12 : ∀ w ∈ u_ws RX12 TX12 51, w ∈ wsX12_isEvenTown := hiX12_X12_isEvenTown
  intro g
  induction g with
  | zero => intro H locs ls i j x0 x1 x2 w hx0 hl h; exact False.elim h
  | succ g ih =>
    intro H locs ls i j x0 x1 x2 w hx0 hl h
    rw [J_X12_isEvenTown_L4] at h
    refine lv_iload_n hx hb dX12_isEvenTown_4 rfl (lv_at hl 2 rfl) ?_
    refine lv_aload_n hx hb dX12_isEvenTown_5 rfl (lv_at hl 0 rfl) ?_
    refine jgi (f := 0) hx hb hts hown hst w hx0 hiX12 (rfl : vwCl[11]? = some (RX12, TX12, 51)) (hts (.fieldLink RX12 126 "FootByGateModel" "streets" "I") (by decide +kernel)) ⟨by decide, by decide, rfl⟩ dX12_isEvenTown_6 ?_
    refine lv_icmp_ge (tgt := 38) hx hb dX12_isEvenTown_9 (by decide) (fun hc => ?_) (fun hc => ?_)
    · replace h := h.1 hc
      clear hc
      refine lv_iload_n hx hb dX12_isEvenTown_38 rfl (lv_at hl 1 rfl) ?_
      refine lv_if_ne (tgt := 46) hx hb dX12_isEvenTown_39 (by decide) (fun hc => ?_) (fun hc => ?_)
      · replace h := h.1 hc
        clear hc
        refine lv_iconst (v := (0 : Int32)) hx hb dX12_isEvenTown_46 (by decide) ?_
        exact jret_z hx hb hr hlk hst w (by decide) h dX12_isEvenTown_47
      · replace h := h.2 hc
        clear hc
        refine lv_iconst (v := (1 : Int32)) hx hb dX12_isEvenTown_42 (by decide) ?_
        refine lv_goto (tgt := 47) hx hb dX12_isEvenTown_43 (by decide) ?_
        exact jret_z hx hb hr hlk hst w (by decide) h dX12_isEvenTown_47
    · replace h := h.2 hc
      clear hc
      refine lv_iload_n hx hb dX12_isEvenTown_12 rfl (lv_at hl 1 rfl) ?_
      refine lv_iconst (v := (1 : Int32)) hx hb dX12_isEvenTown_13 (by decide) ?_
      refine lv_aload_n hx hb dX12_isEvenTown_14 rfl (lv_at hl 0 rfl) ?_
      obtain ⟨a15, hr0, h⟩ := h
      refine jgr (f := 1) hx hb hts hown hst w hG hx0 hiX12 (rfl : vwCl[11]? = some (RX12, TX12, 51)) (hts (.fieldLink RX12 7 "FootByGateModel" "placeA" "[I") (by decide +kernel)) ⟨by decide, by decide, rfl⟩ (rfl : jrt 11 1 = 13) dX12_isEvenTown_15 hr0 (fun ha15 => ?_)
      clear hr0
      refine lv_iload_n hx hb dX12_isEvenTown_18 rfl (lv_at hl 2 rfl) ?_
      obtain ⟨hn, h⟩ := h
      refine jaid hx hb hst w ha15 hn dX12_isEvenTown_19 ?_
      clear hn
      refine lv_ishl hx hb dX12_isEvenTown_20 ?_
      refine lv_iconst (v := (1 : Int32)) hx hb dX12_isEvenTown_21 (by decide) ?_
      refine lv_aload_n hx hb dX12_isEvenTown_22 rfl (lv_at hl 0 rfl) ?_
      obtain ⟨a23, hr0, h⟩ := h
      refine jgr (f := 2) hx hb hts hown hst w hG hx0 hiX12 (rfl : vwCl[11]? = some (RX12, TX12, 51)) (hts (.fieldLink RX12 13 "FootByGateModel" "placeB" "[I") (by decide +kernel)) ⟨by decide, by decide, rfl⟩ (rfl : jrt 11 2 = 13) dX12_isEvenTown_23 hr0 (fun ha23 => ?_)
      clear hr0
      refine lv_iload_n hx hb dX12_isEvenTown_26 rfl (lv_at hl 2 rfl) ?_
      obtain ⟨hn, h⟩ := h
      refine jaid hx hb hst w ha23 hn dX12_isEvenTown_27 ?_
      clear hn
      refine lv_ishl hx hb dX12_isEvenTown_28 ?_
      refine lv_ixor hx hb dX12_isEvenTown_29 ?_
      refine lv_ixor hx hb dX12_isEvenTown_30 ?_
      refine lv_topi (fun v31 he => ?_)
      replace h := h v31 he
      clear he
      refine lv_istore_n (lv' := [(1, .int v31), (0, .ref (b + x0)), (2, .int x2)]) hx hb dX12_isEvenTown_31 rfl hl (by decide) rfl (fun ls hl => ?_)
      obtain ⟨v32, he⟩ : ∃ z : Int32, z = x2 + (1 : Int32) := ⟨_, rfl⟩
      replace h := h v32 he
      refine lv_iinc (v := v32) (lv' := [(2, .int v32), (1, .int v31), (0, .ref (b + x0))]) hx hb dX12_isEvenTown_32 hl (k := 2) rfl (by rw [he]; rfl) (by decide) rfl (fun ls hl => ?_)
      clear he
      refine lv_goto (tgt := 4) hx hb dX12_isEvenTown_35 (by decide) ?_
      exact ih w hx0 (lv_sub hl [2, 1, 0] rfl) h
set_option maxHeartbeats 4000000 in
set_option maxRecDepth 100000 in
theorem c_X12_isEvenTown (hG : jG n K r) {i : jI} {j : jL} {x0 : Nat} (hx0 : x0 < n ∧ K x0 = 11) (h : J_X12_isEvenTown len r Q i j x0) : Met l yX12_isEvenTown wsX12_isEvenTown rm_X12_isEvenTown (va_Pc [.ref (b + x0)] (jPre b cy D tU n K len r i j)) (jQi b cy D tU n K len r Q) 0 0 (jA b) := by
  refine Met.ofW (cc := cX12_isEvenTown) (maxL := 3) (ret := (some .boolean)) (by decide) rfl ?_
  intro p e s m args below meth c s₁ B hml hv
  obtain ⟨rfl, hv⟩ := hv
  have C0 : jCx p s m _ c cX12_isEvenTown 3 wsX12_isEvenTown RX12 b cy D tU n K r := ⟨B.exec, B.bytes, hml, findClass_of_methodNamed B.named, atoms_spec (ws := wsX12_isEvenTown) B.pre, hv.2.2, hG⟩
  have hr := B.returns
  have hlk := B.notSynchronized
  obtain ⟨hx, hb, hml, hown, hts, hst, hG⟩ := id C0
  have hiX12 : ∀ w ∈ u_ws RX12 TX12 51, w ∈ wsX12_isEvenTown := hiX12_X12_isEvenTown
  have w := jDy.start hv
  have hl := lv_entry ([.ref (b + x0)]) (n := 3) (Nat.le_of_ble_eq_true rfl)
  rw [lg_entry_eq]
  generalize (lg_sl ([.ref (b + x0)]) ++ List.replicate (3 - (lg_sl ([.ref (b + x0)])).length) Slot.unset).toArray = ls at hl ⊢
  replace hl : lv_has ls 3 [(0, .ref (b + x0))] := hl
  show W p l e rm_X12_isEvenTown s m _ below meth c s.heap [] 0 0 _ (F0 m 0 ls [])
  rw [J_X12_isEvenTown] at h
  refine lv_iconst (v := (0 : Int32)) hx hb dX12_isEvenTown_0 (by decide) ?_
  refine lv_istore_n (lv' := [(1, .int (0 : Int32)), (0, .ref (b + x0))]) hx hb dX12_isEvenTown_1 rfl hl (by decide) rfl (fun ls hl => ?_)
  refine lv_iconst (v := (0 : Int32)) hx hb dX12_isEvenTown_2 (by decide) ?_
  refine lv_istore_n (lv' := [(2, .int (0 : Int32)), (1, .int (0 : Int32)), (0, .ref (b + x0))]) hx hb dX12_isEvenTown_3 rfl hl (by decide) rfl (fun ls hl => ?_)
  obtain ⟨g0, h⟩ := h
  exact w_X12_isEvenTown_L4 C0 hr hlk g0 w hx0 (lv_sub hl [2, 1, 0] rfl) h
end S_X12_isEvenTown
section S_X12_letters
def J_X12_letters_L102 (len : Nat → Nat) (r : jR) (Q : Int32 → jI → jL → Prop) : Nat → jI → jL → Nat → Int64 → Int32 → Int32 → Prop
  | 0 => fun _ _ _ _ _ _ => False
  | g + 1 => fun i j x0 x1 x3 x5 => ((x3 ≤ x5) → (∀ i142 : jI, i142 = ju i x0 15 ((i x0 15) + x3) → (Q (i142 x0 15) i142 j))) ∧ ((¬ x3 ≤ x5) → (∃ a109, r x0 16 = some a109 ∧ (vp_in ((i x0 15) + x5) (len a109) ∧ ∀ i128 : jI, i128 = ju i a109 ((i x0 15) + x5).toNatClampNeg (vp_nar .byte (((x1 >>> (((8 : Int32) * x5).toInt64 &&& 63)).toInt32).toInt8.toInt32)) → (∀ v129 : Int32, v129 = x5 + (1 : Int32) → ((J_X12_letters_L102 len r Q g) i128 j x0 x1 x3 v129)))))
def J_X12_letters_L46 (len : Nat → Nat) (r : jR) (Q : Int32 → jI → jL → Prop) (i : jI) (j : jL) : Prop := Q (-102 : Int32) i j
def J_X12_letters_L77 (len : Nat → Nat) (r : jR) (Q : Int32 → jI → jL → Prop) (Hd8 : jI → jL → Nat → Int64 → Int32 → Int32 → Int32 → Prop) (i : jI) (j : jL) (x0 : Nat) (x1 : Int64) (x4 : Int32) (x5 : Int32) (t0 : Int32) (t1 : Int32) : Prop := ∀ v78 : Int32, v78 = t0 + t1 → (∀ v79 : Int32, v79 = x5 + (1 : Int32) → (Hd8 i j x0 x1 v78 x4 v79))
def J_X12_letters_L64 (len : Nat → Nat) (r : jR) (Q : Int32 → jI → jL → Prop) (Hd8 : jI → jL → Nat → Int64 → Int32 → Int32 → Int32 → Prop) (i : jI) (j : jL) (x0 : Nat) (x1 : Int64) (x3 : Int32) (x5 : Int32) (x6 : Int32) (t0 : Int32) : Prop := ((¬ x6 = 0) → (J_X12_letters_L77 len r Q Hd8 i j x0 x1 t0 x5 x3 (1 : Int32))) ∧ ((x6 = 0) → (J_X12_letters_L77 len r Q Hd8 i j x0 x1 t0 x5 x3 (0 : Int32)))
def J_X12_letters_L59 (len : Nat → Nat) (r : jR) (Q : Int32 → jI → jL → Prop) (Hd8 : jI → jL → Nat → Int64 → Int32 → Int32 → Int32 → Prop) (i : jI) (j : jL) (x0 : Nat) (x1 : Int64) (x3 : Int32) (x5 : Int32) (x6 : Int32) : Prop := J_X12_letters_L64 len r Q Hd8 i j x0 x1 x3 x5 x6 (1 : Int32)
def J_X12_letters_L49 (len : Nat → Nat) (r : jR) (Q : Int32 → jI → jL → Prop) (Hd8 : jI → jL → Nat → Int64 → Int32 → Int32 → Int32 → Prop) (i : jI) (j : jL) (x0 : Nat) (x1 : Int64) (x3 : Int32) (x4 : Int32) (x5 : Int32) (x6 : Int32) : Prop := ((¬ x4 = 0) → (J_X12_letters_L59 len r Q Hd8 i j x0 x1 x3 x5 x6)) ∧ ((x4 = 0) → (((¬ x6 = 0) → (J_X12_letters_L64 len r Q Hd8 i j x0 x1 x3 x5 x6 (0 : Int32))) ∧ ((x6 = 0) → (J_X12_letters_L59 len r Q Hd8 i j x0 x1 x3 x5 x6))))
def J_X12_letters_L8 (len : Nat → Nat) (r : jR) (Q : Int32 → jI → jL → Prop) : Nat → jI → jL → Nat → Int64 → Int32 → Int32 → Int32 → Prop
  | 0 => fun _ _ _ _ _ _ _ => False
  | g + 1 => fun i j x0 x1 x3 x4 x5 => (((8 : Int32) ≤ x5) → (((((i x0 15) + x3) ≤ (50 : Int32)) → (∃ g0, J_X12_letters_L102 len r Q g0 i j x0 x1 x3 (0 : Int32))) ∧ ((¬ ((i x0 15) + x3) ≤ (50 : Int32)) → (Q (-104 : Int32) i j)))) ∧ ((¬ (8 : Int32) ≤ x5) → (∀ v27 : Int32, v27 = ((x1 >>> (((8 : Int32) * x5).toInt64 &&& 63)) &&& (255 : Int64)).toInt32 → ((((126 : Int32) < v27) → (J_X12_letters_L46 len r Q i j )) ∧ ((¬ (126 : Int32) < v27) → (((x4 = 0) → (J_X12_letters_L49 len r Q (J_X12_letters_L8 len r Q g) i j x0 x1 x3 x4 x5 v27)) ∧ ((¬ x4 = 0) → (((v27 = 0) → (J_X12_letters_L49 len r Q (J_X12_letters_L8 len r Q g) i j x0 x1 x3 x4 x5 v27)) ∧ ((¬ v27 = 0) → (J_X12_letters_L46 len r Q i j )))))))))
def J_X12_letters (len : Nat → Nat) (r : jR) (Q : Int32 → jI → jL → Prop) (i : jI) (j : jL) (x0 : Nat) (x1 : Int64) : Prop := ∃ g0, J_X12_letters_L8 len r Q g0 i j x0 x1 (0 : Int32) (0 : Int32) (0 : Int32)
abbrev rm_X12_letters : Room := { frames := 0, cells := 0, slots := 0, locals := 0 }
variable {p : Program} {l : Launch} {e : Env} {s : State} {m : MethodId} {args : Array Value} {below : List Frame} {meth : Method} {c : Code} {b tU n : Nat} {cy : Nat → ClassId} {D : va_G} {K len : Nat → Nat} {r : jR} {Q : Int32 → jI → jL → Prop}
theorem hiX12_X12_letters : ∀ w ∈ u_ws RX12 TX12 51, w ∈ wsX12_letters := by decide +kernel
set_option maxHeartbeats 4000000 in
set_option maxRecDepth 100000 in
theorem w_X12_letters_L102 (C0 : jCx p s m args c cX12_letters 7 wsX12_letters RX12 b cy D tU n K r) (hr : meth.sig.returnType = some .int) (hlk : meth.locks = false) : ∀ (g : Nat) {H : Heap} {locs : List Loc} {ls : Array Slot} {i : jI} {j : jL} {x0 : Nat} {x1 : Int64} {x3 : Int32} {x5 : Int32} (w : jDy b cy D n K len r i j s H locs) (hx0 : x0 < n ∧ K x0 = 11) (hl : lv_has ls 7 [(0, .ref (b + x0)), (1, .long x1), (3, .int x3), (5, .int x5)]) (h : J_X12_letters_L102 len r Q g i j x0 x1 x3 x5), W p l e rm_X12_letters s m args below meth c H locs 0 0 (MQ below (jQi b cy D tU n K len r Q) args s 0 0 (jA b)) (F0 m 102 ls []) := by
  obtain ⟨hx, hb, hml, hown, hts, hst, hG⟩ := id C0
  have hiX12 : ∀ w ∈ u_ws RX12 TX12 51, w ∈ wsX12_letters := hiX12_X12_letters
  intro g
  induction g with
  | zero => intro H locs ls i j x0 x1 x3 x5 w hx0 hl h; exact False.elim h
  | succ g ih =>
    intro H locs ls i j x0 x1 x3 x5 w hx0 hl h
    rw [J_X12_letters_L102] at h
    refine lv_iload hx hb dX12_letters_102 (lv_at hl 3 rfl) ?_
    refine lv_iload_n hx hb dX12_letters_104 rfl (lv_at hl 2 rfl) ?_
    refine lv_icmp_ge (tgt := 135) hx hb dX12_letters_105 (by decide) (fun hc => ?_) (fun hc => ?_)
    · replace h := h.1 hc
      clear hc
      refine lv_aload_n hx hb dX12_letters_135 rfl (lv_at hl 0 rfl) ?_
      refine lv_dup hx hb dX12_letters_136 rfl ?_
      refine jgi (f := 15) hx hb hts hown hst w hx0 hiX12 (rfl : vwCl[11]? = some (RX12, TX12, 51)) (hts (.fieldLink RX12 95 "FootByGateModel" "pageLength" "I") (by decide +kernel)) ⟨by decide, by decide, rfl⟩ dX12_letters_137 ?_
      refine lv_iload_n hx hb dX12_letters_140 rfl (lv_at hl 2 rfl) ?_
      refine lv_iadd hx hb dX12_letters_141 ?_
      refine jpi (f := 15) hx hb hts hown hst w hx0 hiX12 (rfl : vwCl[11]? = some (RX12, TX12, 51)) (hts (.fieldLink RX12 95 "FootByGateModel" "pageLength" "I") (by decide +kernel)) ⟨by decide, by decide, rfl⟩ tyX12 tyX12_ok nmX12 rfl ⟨rfl, rfl⟩ dX12_letters_142 (fun i142 H locs he w => ?_)
      replace h := h i142 he
      clear he
      refine lv_aload_n hx hb dX12_letters_145 rfl (lv_at hl 0 rfl) ?_
      refine jgi (f := 15) hx hb hts hown hst w hx0 hiX12 (rfl : vwCl[11]? = some (RX12, TX12, 51)) (hts (.fieldLink RX12 95 "FootByGateModel" "pageLength" "I") (by decide +kernel)) ⟨by decide, by decide, rfl⟩ dX12_letters_146 ?_
      exact jret_i hx hb hr hlk hst w h dX12_letters_149
    · replace h := h.2 hc
      clear hc
      refine lv_aload_n hx hb dX12_letters_108 rfl (lv_at hl 0 rfl) ?_
      obtain ⟨a109, hr0, h⟩ := h
      refine jgr (f := 16) hx hb hts hown hst w hG hx0 hiX12 (rfl : vwCl[11]? = some (RX12, TX12, 51)) (hts (.fieldLink RX12 34 "FootByGateModel" "page" "[B") (by decide +kernel)) ⟨by decide, by decide, rfl⟩ (rfl : jrt 11 16 = 12) dX12_letters_109 hr0 (fun ha109 => ?_)
      clear hr0
      refine lv_aload_n hx hb dX12_letters_112 rfl (lv_at hl 0 rfl) ?_
      refine jgi (f := 15) hx hb hts hown hst w hx0 hiX12 (rfl : vwCl[11]? = some (RX12, TX12, 51)) (hts (.fieldLink RX12 95 "FootByGateModel" "pageLength" "I") (by decide +kernel)) ⟨by decide, by decide, rfl⟩ dX12_letters_113 ?_
      refine lv_iload hx hb dX12_letters_116 (lv_at hl 3 rfl) ?_
      refine lv_iadd hx hb dX12_letters_118 ?_
      refine lv_lload_n hx hb dX12_letters_119 rfl (lv_at hl 1 rfl) ?_
      refine lv_bipush (v := (8 : Int32)) hx hb dX12_letters_120 (by decide) ?_
      refine lv_iload hx hb dX12_letters_122 (lv_at hl 3 rfl) ?_
      refine lv_imul hx hb dX12_letters_124 ?_
      refine lv_lshr hx hb dX12_letters_125 rfl ?_
      refine lv_l2i hx hb dX12_letters_126 rfl ?_
      refine lv_i2b hx hb dX12_letters_127 rfl ?_
      obtain ⟨hn, h⟩ := h
      refine jabs hx hb hst w ha109 hn dX12_letters_128 (fun i128 H locs he w => ?_)
      replace h := h i128 he
      clear he hn
      obtain ⟨v129, he⟩ : ∃ z : Int32, z = x5 + (1 : Int32) := ⟨_, rfl⟩
      replace h := h v129 he
      refine lv_iinc (v := v129) (lv' := [(5, .int v129), (0, .ref (b + x0)), (1, .long x1), (3, .int x3)]) hx hb dX12_letters_129 hl (k := 3) rfl (by rw [he]; rfl) (by decide) rfl (fun ls hl => ?_)
      clear he
      refine lv_goto (tgt := 102) hx hb dX12_letters_132 (by decide) ?_
      exact ih w hx0 (lv_sub hl [1, 2, 3, 0] rfl) h
set_option maxHeartbeats 4000000 in
set_option maxRecDepth 100000 in
theorem w_X12_letters_L46 (C0 : jCx p s m args c cX12_letters 7 wsX12_letters RX12 b cy D tU n K r) (hr : meth.sig.returnType = some .int) (hlk : meth.locks = false) {H : Heap} {locs : List Loc} {ls : Array Slot} {i : jI} {j : jL}  (w : jDy b cy D n K len r i j s H locs) (hl : lv_has ls 7 []) (h : J_X12_letters_L46 len r Q i j) : W p l e rm_X12_letters s m args below meth c H locs 0 0 (MQ below (jQi b cy D tU n K len r Q) args s 0 0 (jA b)) (F0 m 46 ls []) := by
  obtain ⟨hx, hb, hml, hown, hts, hst, hG⟩ := id C0
  have hiX12 : ∀ w ∈ u_ws RX12 TX12 51, w ∈ wsX12_letters := hiX12_X12_letters
  rw [J_X12_letters_L46] at h
  refine lv_bipush (v := (-102 : Int32)) hx hb dX12_letters_46 (by decide) ?_
  exact jret_i hx hb hr hlk hst w h dX12_letters_48
set_option maxHeartbeats 4000000 in
set_option maxRecDepth 100000 in
theorem w_X12_letters_L77 (C0 : jCx p s m args c cX12_letters 7 wsX12_letters RX12 b cy D tU n K r) (hr : meth.sig.returnType = some .int) (hlk : meth.locks = false) {Hd8 : jI → jL → Nat → Int64 → Int32 → Int32 → Int32 → Prop} (k8 : ∀ {H : Heap} {locs : List Loc} {ls : Array Slot} {i : jI} {j : jL} {x0 : Nat} {x1 : Int64} {x3 : Int32} {x4 : Int32} {x5 : Int32} (w : jDy b cy D n K len r i j s H locs) (hx0 : x0 < n ∧ K x0 = 11) (hl : lv_has ls 7 [(0, .ref (b + x0)), (1, .long x1), (3, .int x3), (4, .int x4), (5, .int x5)]) (h : Hd8 i j x0 x1 x3 x4 x5), W p l e rm_X12_letters s m args below meth c H locs 0 0 (MQ below (jQi b cy D tU n K len r Q) args s 0 0 (jA b)) (F0 m 8 ls [])) {H : Heap} {locs : List Loc} {ls : Array Slot} {i : jI} {j : jL} {x0 : Nat} {x1 : Int64} {x4 : Int32} {x5 : Int32} {t0 : Int32} {t1 : Int32} (w : jDy b cy D n K len r i j s H locs) (hx0 : x0 < n ∧ K x0 = 11) (hl : lv_has ls 7 [(0, .ref (b + x0)), (1, .long x1), (4, .int x4), (5, .int x5)]) (h : J_X12_letters_L77 len r Q Hd8 i j x0 x1 x4 x5 t0 t1) : W p l e rm_X12_letters s m args below meth c H locs 0 0 (MQ below (jQi b cy D tU n K len r Q) args s 0 0 (jA b)) (F0 m 77 ls [.int t1, .int t0]) := by
  obtain ⟨hx, hb, hml, hown, hts, hst, hG⟩ := id C0
  have hiX12 : ∀ w ∈ u_ws RX12 TX12 51, w ∈ wsX12_letters := hiX12_X12_letters
  rw [J_X12_letters_L77] at h
  refine lv_iadd hx hb dX12_letters_77 ?_
  refine lv_topi (fun v78 he => ?_)
  replace h := h v78 he
  clear he
  refine lv_istore_n (lv' := [(3, .int v78), (0, .ref (b + x0)), (1, .long x1), (4, .int x4), (5, .int x5)]) hx hb dX12_letters_78 rfl hl (by decide) rfl (fun ls hl => ?_)
  obtain ⟨v79, he⟩ : ∃ z : Int32, z = x5 + (1 : Int32) := ⟨_, rfl⟩
  replace h := h v79 he
  refine lv_iinc (v := v79) (lv' := [(5, .int v79), (3, .int v78), (0, .ref (b + x0)), (1, .long x1), (4, .int x4)]) hx hb dX12_letters_79 hl (k := 4) rfl (by rw [he]; rfl) (by decide) rfl (fun ls hl => ?_)
  clear he
  refine lv_goto (tgt := 8) hx hb dX12_letters_82 (by decide) ?_
  exact k8 w hx0 (lv_sub hl [2, 3, 1, 4, 0] rfl) h
set_option maxHeartbeats 4000000 in
set_option maxRecDepth 100000 in
theorem w_X12_letters_L64 (C0 : jCx p s m args c cX12_letters 7 wsX12_letters RX12 b cy D tU n K r) (hr : meth.sig.returnType = some .int) (hlk : meth.locks = false) {Hd8 : jI → jL → Nat → Int64 → Int32 → Int32 → Int32 → Prop} (k8 : ∀ {H : Heap} {locs : List Loc} {ls : Array Slot} {i : jI} {j : jL} {x0 : Nat} {x1 : Int64} {x3 : Int32} {x4 : Int32} {x5 : Int32} (w : jDy b cy D n K len r i j s H locs) (hx0 : x0 < n ∧ K x0 = 11) (hl : lv_has ls 7 [(0, .ref (b + x0)), (1, .long x1), (3, .int x3), (4, .int x4), (5, .int x5)]) (h : Hd8 i j x0 x1 x3 x4 x5), W p l e rm_X12_letters s m args below meth c H locs 0 0 (MQ below (jQi b cy D tU n K len r Q) args s 0 0 (jA b)) (F0 m 8 ls [])) {H : Heap} {locs : List Loc} {ls : Array Slot} {i : jI} {j : jL} {x0 : Nat} {x1 : Int64} {x3 : Int32} {x5 : Int32} {x6 : Int32} {t0 : Int32} (w : jDy b cy D n K len r i j s H locs) (hx0 : x0 < n ∧ K x0 = 11) (hl : lv_has ls 7 [(0, .ref (b + x0)), (1, .long x1), (3, .int x3), (5, .int x5), (6, .int x6)]) (h : J_X12_letters_L64 len r Q Hd8 i j x0 x1 x3 x5 x6 t0) : W p l e rm_X12_letters s m args below meth c H locs 0 0 (MQ below (jQi b cy D tU n K len r Q) args s 0 0 (jA b)) (F0 m 64 ls [.int t0]) := by
  obtain ⟨hx, hb, hml, hown, hts, hst, hG⟩ := id C0
  have hiX12 : ∀ w ∈ u_ws RX12 TX12 51, w ∈ wsX12_letters := hiX12_X12_letters
  rw [J_X12_letters_L64] at h
  refine lv_istore (lv' := [(4, .int t0), (0, .ref (b + x0)), (1, .long x1), (3, .int x3), (5, .int x5), (6, .int x6)]) hx hb dX12_letters_64 hl (by decide) rfl (fun ls hl => ?_)
  refine lv_iload_n hx hb dX12_letters_66 rfl (lv_at hl 3 rfl) ?_
  refine lv_iload hx hb dX12_letters_67 (lv_at hl 5 rfl) ?_
  refine lv_if_ne (tgt := 76) hx hb dX12_letters_69 (by decide) (fun hc => ?_) (fun hc => ?_)
  · replace h := h.1 hc
    clear hc
    refine lv_iconst (v := (1 : Int32)) hx hb dX12_letters_76 (by decide) ?_
    exact w_X12_letters_L77 C0 hr hlk (fun w hx0 hl h => k8 w hx0 hl h) w hx0 (lv_sub hl [1, 2, 0, 4] rfl) h
  · replace h := h.2 hc
    clear hc
    refine lv_iconst (v := (0 : Int32)) hx hb dX12_letters_72 (by decide) ?_
    refine lv_goto (tgt := 77) hx hb dX12_letters_73 (by decide) ?_
    exact w_X12_letters_L77 C0 hr hlk (fun w hx0 hl h => k8 w hx0 hl h) w hx0 (lv_sub hl [1, 2, 0, 4] rfl) h
set_option maxHeartbeats 4000000 in
set_option maxRecDepth 100000 in
theorem w_X12_letters_L59 (C0 : jCx p s m args c cX12_letters 7 wsX12_letters RX12 b cy D tU n K r) (hr : meth.sig.returnType = some .int) (hlk : meth.locks = false) {Hd8 : jI → jL → Nat → Int64 → Int32 → Int32 → Int32 → Prop} (k8 : ∀ {H : Heap} {locs : List Loc} {ls : Array Slot} {i : jI} {j : jL} {x0 : Nat} {x1 : Int64} {x3 : Int32} {x4 : Int32} {x5 : Int32} (w : jDy b cy D n K len r i j s H locs) (hx0 : x0 < n ∧ K x0 = 11) (hl : lv_has ls 7 [(0, .ref (b + x0)), (1, .long x1), (3, .int x3), (4, .int x4), (5, .int x5)]) (h : Hd8 i j x0 x1 x3 x4 x5), W p l e rm_X12_letters s m args below meth c H locs 0 0 (MQ below (jQi b cy D tU n K len r Q) args s 0 0 (jA b)) (F0 m 8 ls [])) {H : Heap} {locs : List Loc} {ls : Array Slot} {i : jI} {j : jL} {x0 : Nat} {x1 : Int64} {x3 : Int32} {x5 : Int32} {x6 : Int32} (w : jDy b cy D n K len r i j s H locs) (hx0 : x0 < n ∧ K x0 = 11) (hl : lv_has ls 7 [(0, .ref (b + x0)), (1, .long x1), (3, .int x3), (5, .int x5), (6, .int x6)]) (h : J_X12_letters_L59 len r Q Hd8 i j x0 x1 x3 x5 x6) : W p l e rm_X12_letters s m args below meth c H locs 0 0 (MQ below (jQi b cy D tU n K len r Q) args s 0 0 (jA b)) (F0 m 59 ls []) := by
  obtain ⟨hx, hb, hml, hown, hts, hst, hG⟩ := id C0
  have hiX12 : ∀ w ∈ u_ws RX12 TX12 51, w ∈ wsX12_letters := hiX12_X12_letters
  rw [J_X12_letters_L59] at h
  refine lv_iconst (v := (1 : Int32)) hx hb dX12_letters_59 (by decide) ?_
  refine lv_goto (tgt := 64) hx hb dX12_letters_60 (by decide) ?_
  exact w_X12_letters_L64 C0 hr hlk (fun w hx0 hl h => k8 w hx0 hl h) w hx0 (lv_sub hl [0, 1, 2, 3, 4] rfl) h
set_option maxHeartbeats 4000000 in
set_option maxRecDepth 100000 in
theorem w_X12_letters_L49 (C0 : jCx p s m args c cX12_letters 7 wsX12_letters RX12 b cy D tU n K r) (hr : meth.sig.returnType = some .int) (hlk : meth.locks = false) {Hd8 : jI → jL → Nat → Int64 → Int32 → Int32 → Int32 → Prop} (k8 : ∀ {H : Heap} {locs : List Loc} {ls : Array Slot} {i : jI} {j : jL} {x0 : Nat} {x1 : Int64} {x3 : Int32} {x4 : Int32} {x5 : Int32} (w : jDy b cy D n K len r i j s H locs) (hx0 : x0 < n ∧ K x0 = 11) (hl : lv_has ls 7 [(0, .ref (b + x0)), (1, .long x1), (3, .int x3), (4, .int x4), (5, .int x5)]) (h : Hd8 i j x0 x1 x3 x4 x5), W p l e rm_X12_letters s m args below meth c H locs 0 0 (MQ below (jQi b cy D tU n K len r Q) args s 0 0 (jA b)) (F0 m 8 ls [])) {H : Heap} {locs : List Loc} {ls : Array Slot} {i : jI} {j : jL} {x0 : Nat} {x1 : Int64} {x3 : Int32} {x4 : Int32} {x5 : Int32} {x6 : Int32} (w : jDy b cy D n K len r i j s H locs) (hx0 : x0 < n ∧ K x0 = 11) (hl : lv_has ls 7 [(0, .ref (b + x0)), (1, .long x1), (3, .int x3), (4, .int x4), (5, .int x5), (6, .int x6)]) (h : J_X12_letters_L49 len r Q Hd8 i j x0 x1 x3 x4 x5 x6) : W p l e rm_X12_letters s m args below meth c H locs 0 0 (MQ below (jQi b cy D tU n K len r Q) args s 0 0 (jA b)) (F0 m 49 ls []) := by
  obtain ⟨hx, hb, hml, hown, hts, hst, hG⟩ := id C0
  have hiX12 : ∀ w ∈ u_ws RX12 TX12 51, w ∈ wsX12_letters := hiX12_X12_letters
  rw [J_X12_letters_L49] at h
  refine lv_iload hx hb dX12_letters_49 (lv_at hl 3 rfl) ?_
  refine lv_if_ne (tgt := 59) hx hb dX12_letters_51 (by decide) (fun hc => ?_) (fun hc => ?_)
  · replace h := h.1 hc
    clear hc
    exact w_X12_letters_L59 C0 hr hlk (fun w hx0 hl h => k8 w hx0 hl h) w hx0 (lv_sub hl [0, 1, 2, 4, 5] rfl) h
  · replace h := h.2 hc
    clear hc
    refine lv_iload hx hb dX12_letters_54 (lv_at hl 5 rfl) ?_
    refine lv_if_ne (tgt := 63) hx hb dX12_letters_56 (by decide) (fun hc => ?_) (fun hc => ?_)
    · replace h := h.1 hc
      clear hc
      refine lv_iconst (v := (0 : Int32)) hx hb dX12_letters_63 (by decide) ?_
      exact w_X12_letters_L64 C0 hr hlk (fun w hx0 hl h => k8 w hx0 hl h) w hx0 (lv_sub hl [0, 1, 2, 4, 5] rfl) h
    · replace h := h.2 hc
      clear hc
      exact w_X12_letters_L59 C0 hr hlk (fun w hx0 hl h => k8 w hx0 hl h) w hx0 (lv_sub hl [0, 1, 2, 4, 5] rfl) h
set_option maxHeartbeats 4000000 in
set_option maxRecDepth 100000 in
theorem w_X12_letters_L8 (C0 : jCx p s m args c cX12_letters 7 wsX12_letters RX12 b cy D tU n K r) (hr : meth.sig.returnType = some .int) (hlk : meth.locks = false) : ∀ (g : Nat) {H : Heap} {locs : List Loc} {ls : Array Slot} {i : jI} {j : jL} {x0 : Nat} {x1 : Int64} {x3 : Int32} {x4 : Int32} {x5 : Int32} (w : jDy b cy D n K len r i j s H locs) (hx0 : x0 < n ∧ K x0 = 11) (hl : lv_has ls 7 [(0, .ref (b + x0)), (1, .long x1), (3, .int x3), (4, .int x4), (5, .int x5)]) (h : J_X12_letters_L8 len r Q g i j x0 x1 x3 x4 x5), W p l e rm_X12_letters s m args below meth c H locs 0 0 (MQ below (jQi b cy D tU n K len r Q) args s 0 0 (jA b)) (F0 m 8 ls []) := by
  obtain ⟨hx, hb, hml, hown, hts, hst, hG⟩ := id C0
  have hiX12 : ∀ w ∈ u_ws RX12 TX12 51, w ∈ wsX12_letters := hiX12_X12_letters
  intro g
  induction g with
  | zero => intro H locs ls i j x0 x1 x3 x4 x5 w hx0 hl h; exact False.elim h
  | succ g ih =>
    intro H locs ls i j x0 x1 x3 x4 x5 w hx0 hl h
    rw [J_X12_letters_L8] at h
    refine lv_iload hx hb dX12_letters_8 (lv_at hl 4 rfl) ?_
    refine lv_bipush (v := (8 : Int32)) hx hb dX12_letters_10 (by decide) ?_
    refine lv_icmp_ge (tgt := 85) hx hb dX12_letters_12 (by decide) (fun hc => ?_) (fun hc => ?_)
    · replace h := h.1 hc
      clear hc
      refine lv_aload_n hx hb dX12_letters_85 rfl (lv_at hl 0 rfl) ?_
      refine jgi (f := 15) hx hb hts hown hst w hx0 hiX12 (rfl : vwCl[11]? = some (RX12, TX12, 51)) (hts (.fieldLink RX12 95 "FootByGateModel" "pageLength" "I") (by decide +kernel)) ⟨by decide, by decide, rfl⟩ dX12_letters_86 ?_
      refine lv_iload_n hx hb dX12_letters_89 rfl (lv_at hl 2 rfl) ?_
      refine lv_iadd hx hb dX12_letters_90 ?_
      refine lv_bipush (v := (50 : Int32)) hx hb dX12_letters_91 (by decide) ?_
      refine lv_icmp_le (tgt := 99) hx hb dX12_letters_93 (by decide) (fun hc => ?_) (fun hc => ?_)
      · replace h := h.1 hc
        clear hc
        refine lv_iconst (v := (0 : Int32)) hx hb dX12_letters_99 (by decide) ?_
        refine lv_istore (lv' := [(5, .int (0 : Int32)), (0, .ref (b + x0)), (1, .long x1), (3, .int x3), (4, .int x4)]) hx hb dX12_letters_100 hl (by decide) rfl (fun ls hl => ?_)
        obtain ⟨g0, h⟩ := h
        exact w_X12_letters_L102 C0 hr hlk g0 w hx0 (lv_sub hl [1, 2, 3, 0] rfl) h
      · replace h := h.2 hc
        clear hc
        refine lv_bipush (v := (-104 : Int32)) hx hb dX12_letters_96 (by decide) ?_
        exact jret_i hx hb hr hlk hst w h dX12_letters_98
    · replace h := h.2 hc
      clear hc
      refine lv_lload_n hx hb dX12_letters_15 rfl (lv_at hl 1 rfl) ?_
      refine lv_bipush (v := (8 : Int32)) hx hb dX12_letters_16 (by decide) ?_
      refine lv_iload hx hb dX12_letters_18 (lv_at hl 4 rfl) ?_
      refine lv_imul hx hb dX12_letters_20 ?_
      refine lv_lshr hx hb dX12_letters_21 rfl ?_
      refine lv_ldc2 hx hb hown (hts (.constantLong RX12 93 (255)) (by decide +kernel)) dX12_letters_22 ?_
      refine lv_land hx hb dX12_letters_25 ?_
      refine lv_l2i hx hb dX12_letters_26 rfl ?_
      refine lv_topi (fun v27 he => ?_)
      replace h := h v27 he
      clear he
      refine lv_istore (lv' := [(6, .int v27), (0, .ref (b + x0)), (1, .long x1), (3, .int x3), (4, .int x4), (5, .int x5)]) hx hb dX12_letters_27 hl (by decide) rfl (fun ls hl => ?_)
      refine lv_iload hx hb dX12_letters_29 (lv_at hl 0 rfl) ?_
      refine lv_bipush (v := (126 : Int32)) hx hb dX12_letters_31 (by decide) ?_
      refine lv_icmp_gt (tgt := 46) hx hb dX12_letters_33 (by decide) (fun hc => ?_) (fun hc => ?_)
      · replace h := h.1 hc
        clear hc
        exact w_X12_letters_L46 C0 hr hlk w (lv_sub hl [] rfl) h
      · replace h := h.2 hc
        clear hc
        refine lv_iload hx hb dX12_letters_36 (lv_at hl 4 rfl) ?_
        refine lv_if_eq (tgt := 49) hx hb dX12_letters_38 (by decide) (fun hc => ?_) (fun hc => ?_)
        · replace h := h.1 hc
          clear hc
          exact w_X12_letters_L49 C0 hr hlk (fun w hx0 hl h => ih w hx0 hl h) w hx0 (lv_sub hl [1, 2, 3, 4, 5, 0] rfl) h
        · replace h := h.2 hc
          clear hc
          refine lv_iload hx hb dX12_letters_41 (lv_at hl 0 rfl) ?_
          refine lv_if_eq (tgt := 49) hx hb dX12_letters_43 (by decide) (fun hc => ?_) (fun hc => ?_)
          · replace h := h.1 hc
            clear hc
            exact w_X12_letters_L49 C0 hr hlk (fun w hx0 hl h => ih w hx0 hl h) w hx0 (lv_sub hl [1, 2, 3, 4, 5, 0] rfl) h
          · replace h := h.2 hc
            clear hc
            exact w_X12_letters_L46 C0 hr hlk w (lv_sub hl [] rfl) h
set_option maxHeartbeats 4000000 in
set_option maxRecDepth 100000 in
theorem c_X12_letters (hG : jG n K r) {i : jI} {j : jL} {x0 : Nat} {x1 : Int64} (hx0 : x0 < n ∧ K x0 = 11) (h : J_X12_letters len r Q i j x0 x1) : Met l yX12_letters wsX12_letters rm_X12_letters (va_Pc [.ref (b + x0), .long x1] (jPre b cy D tU n K len r i j)) (jQi b cy D tU n K len r Q) 0 0 (jA b) := by
  refine Met.ofW (cc := cX12_letters) (maxL := 7) (ret := (some .int)) (by decide) rfl ?_
  intro p e s m args below meth c s₁ B hml hv
  obtain ⟨rfl, hv⟩ := hv
  have C0 : jCx p s m _ c cX12_letters 7 wsX12_letters RX12 b cy D tU n K r := ⟨B.exec, B.bytes, hml, findClass_of_methodNamed B.named, atoms_spec (ws := wsX12_letters) B.pre, hv.2.2, hG⟩
  have hr := B.returns
  have hlk := B.notSynchronized
  obtain ⟨hx, hb, hml, hown, hts, hst, hG⟩ := id C0
  have hiX12 : ∀ w ∈ u_ws RX12 TX12 51, w ∈ wsX12_letters := hiX12_X12_letters
  have w := jDy.start hv
  have hl := lv_entry ([.ref (b + x0), .long x1]) (n := 7) (Nat.le_of_ble_eq_true rfl)
  rw [lg_entry_eq]
  generalize (lg_sl ([.ref (b + x0), .long x1]) ++ List.replicate (7 - (lg_sl ([.ref (b + x0), .long x1])).length) Slot.unset).toArray = ls at hl ⊢
  replace hl : lv_has ls 7 [(0, .ref (b + x0)), (1, .long x1)] := hl
  show W p l e rm_X12_letters s m _ below meth c s.heap [] 0 0 _ (F0 m 0 ls [])
  rw [J_X12_letters] at h
  refine lv_iconst (v := (0 : Int32)) hx hb dX12_letters_0 (by decide) ?_
  refine lv_istore_n (lv' := [(3, .int (0 : Int32)), (0, .ref (b + x0)), (1, .long x1)]) hx hb dX12_letters_1 rfl hl (by decide) rfl (fun ls hl => ?_)
  refine lv_iconst (v := (0 : Int32)) hx hb dX12_letters_2 (by decide) ?_
  refine lv_istore (lv' := [(4, .int (0 : Int32)), (3, .int (0 : Int32)), (0, .ref (b + x0)), (1, .long x1)]) hx hb dX12_letters_3 hl (by decide) rfl (fun ls hl => ?_)
  refine lv_iconst (v := (0 : Int32)) hx hb dX12_letters_5 (by decide) ?_
  refine lv_istore (lv' := [(5, .int (0 : Int32)), (4, .int (0 : Int32)), (3, .int (0 : Int32)), (0, .ref (b + x0)), (1, .long x1)]) hx hb dX12_letters_6 hl (by decide) rfl (fun ls hl => ?_)
  obtain ⟨g0, h⟩ := h
  exact w_X12_letters_L8 C0 hr hlk g0 w hx0 (lv_sub hl [3, 4, 2, 1, 0] rfl) h
end S_X12_letters
section S_X12_may
def J_X12_may_L16 (len : Nat → Nat) (r : jR) (Q : Int32 → jI → jL → Prop) (i : jI) (j : jL) : Prop := Q (-101 : Int32) i j
def J_X12_may (len : Nat → Nat) (r : jR) (Q : Int32 → jI → jL → Prop) (i : jI) (j : jL) (x0 : Nat) (x1 : Int32) (x2 : Int32) : Prop := J_X12_isWalker len r (fun (q2 : Int32) (i2 : jI) (j2 : jL) => ((q2 = 0) → (J_X12_may_L16 len r Q i2 j2 )) ∧ ((¬ q2 = 0) → (J_X12_isStreet len r (fun (q10 : Int32) (i10 : jI) (j10 : jL) => ((¬ q10 = 0) → (∃ a21, r x0 10 = some a21 ∧ (vp_in x1 (len a21) ∧ (J_X12_isAt len r (fun (q27 : Int32) (i27 : jI) (j27 : jL) => ((¬ q27 = 0) → (∃ a37, r x0 9 = some a37 ∧ (vp_in x1 (len a37) ∧ (∃ a43, r x0 10 = some a43 ∧ (vp_in x1 (len a43) ∧ (J_X12_behind len r (fun (q49 : Int32) (i49 : jI) (j49 : jL) => ((¬ q49 = (-1 : Int32)) → (Q (1 : Int32) i49 j49)) ∧ ((q49 = (-1 : Int32)) → (Q (0 : Int32) i49 j49))) i27 j27 x0 (i27 a37 x1.toNatClampNeg) (i27 a43 x1.toNatClampNeg) x2)))))) ∧ ((q27 = 0) → (Q (-1 : Int32) i27 j27))) i10 j10 x0 (i10 a21 x1.toNatClampNeg) x2)))) ∧ ((q10 = 0) → (J_X12_may_L16 len r Q i10 j10 ))) i2 j2 x0 x2))) i j x0 x1
abbrev rm_X12_may : Room := { frames := 3, cells := 0, slots := 0, locals := 71 }
variable {p : Program} {l : Launch} {e : Env} {s : State} {m : MethodId} {args : Array Value} {below : List Frame} {meth : Method} {c : Code} {b tU n : Nat} {cy : Nat → ClassId} {D : va_G} {K len : Nat → Nat} {r : jR} {Q : Int32 → jI → jL → Prop}
theorem hiX12_X12_may : ∀ w ∈ u_ws RX12 TX12 51, w ∈ wsX12_may := by decide +kernel
set_option maxHeartbeats 4000000 in
set_option maxRecDepth 100000 in
theorem w_X12_may_L16 (C0 : jCx p s m args c cX12_may 3 wsX12_may RX12 b cy D tU n K r) (hr : meth.sig.returnType = some .int) (hlk : meth.locks = false) {H : Heap} {locs : List Loc} {ls : Array Slot} {i : jI} {j : jL}  (w : jDy b cy D n K len r i j s H locs) (hl : lv_has ls 3 []) (h : J_X12_may_L16 len r Q i j) : W p l e rm_X12_may s m args below meth c H locs 0 0 (MQ below (jQi b cy D tU n K len r Q) args s 0 0 (jA b)) (F0 m 16 ls []) := by
  obtain ⟨hx, hb, hml, hown, hts, hst, hG⟩ := id C0
  have hiX12 : ∀ w ∈ u_ws RX12 TX12 51, w ∈ wsX12_may := hiX12_X12_may
  rw [J_X12_may_L16] at h
  refine lv_bipush (v := (-101 : Int32)) hx hb dX12_may_16 (by decide) ?_
  exact jret_i hx hb hr hlk hst w h dX12_may_18
set_option maxHeartbeats 4000000 in
set_option maxRecDepth 100000 in
theorem c_X12_may (hG : jG n K r) {i : jI} {j : jL} {x0 : Nat} {x1 : Int32} {x2 : Int32} (hx0 : x0 < n ∧ K x0 = 11) (h : J_X12_may len r Q i j x0 x1 x2) : Met l yX12_may wsX12_may rm_X12_may (va_Pc [.ref (b + x0), .int x1, .int x2] (jPre b cy D tU n K len r i j)) (jQi b cy D tU n K len r Q) 0 0 (jA b) := by
  refine Met.ofW (cc := cX12_may) (maxL := 3) (ret := (some .int)) (by decide) rfl ?_
  intro p e s m args below meth c s₁ B hml hv
  obtain ⟨rfl, hv⟩ := hv
  have C0 : jCx p s m _ c cX12_may 3 wsX12_may RX12 b cy D tU n K r := ⟨B.exec, B.bytes, hml, findClass_of_methodNamed B.named, atoms_spec (ws := wsX12_may) B.pre, hv.2.2, hG⟩
  have hr := B.returns
  have hlk := B.notSynchronized
  obtain ⟨hx, hb, hml, hown, hts, hst, hG⟩ := id C0
  have hiX12 : ∀ w ∈ u_ws RX12 TX12 51, w ∈ wsX12_may := hiX12_X12_may
  have w := jDy.start hv
  have hl := lv_entry ([.ref (b + x0), .int x1, .int x2]) (n := 3) (Nat.le_of_ble_eq_true rfl)
  rw [lg_entry_eq]
  generalize (lg_sl ([.ref (b + x0), .int x1, .int x2]) ++ List.replicate (3 - (lg_sl ([.ref (b + x0), .int x1, .int x2])).length) Slot.unset).toArray = ls at hl ⊢
  replace hl : lv_has ls 3 [(0, .ref (b + x0)), (1, .int x1), (2, .int x2)] := hl
  show W p l e rm_X12_may s m _ below meth c s.heap [] 0 0 _ (F0 m 0 ls [])
  rw [J_X12_may] at h
  refine lv_aload_n hx hb dX12_may_0 rfl (lv_at hl 0 rfl) ?_
  refine lv_iload_n hx hb dX12_may_1 rfl (lv_at hl 1 rfl) ?_
  refine jcV_i (k := x0) (As := [.int x1]) (rest := []) C0 w (c_X12_isWalker hG hx0 h) (cwV 1 hts gX12_may_X12_isWalker rfl rfl rfl (by decide +kernel) ⟨Nat.le_of_ble_eq_true rfl, Nat.le_of_ble_eq_true rfl⟩) hx0 (rfl : vwCl[11]? = some (RX12, TX12, 51)) (by decide) rfl hl.1 rfl (Nat.le_of_ble_eq_true rfl) dX12_may_2 (fun q2 i2 j2 H locs h w => ?_) ⟨Nat.zero_le _, Nat.zero_le _⟩
  refine lv_if_eq (tgt := 16) hx hb dX12_may_5 (by decide) (fun hc => ?_) (fun hc => ?_)
  · replace h := h.1 hc
    clear hc
    exact w_X12_may_L16 C0 hr hlk w (lv_sub hl [] rfl) h
  · replace h := h.2 hc
    clear hc
    refine lv_aload_n hx hb dX12_may_8 rfl (lv_at hl 0 rfl) ?_
    refine lv_iload_n hx hb dX12_may_9 rfl (lv_at hl 2 rfl) ?_
    refine jcV_i (k := x0) (As := [.int x2]) (rest := []) C0 w (c_X12_isStreet hG hx0 h) (cwV 1 hts gX12_may_X12_isStreet rfl rfl rfl (by decide +kernel) ⟨Nat.le_of_ble_eq_true rfl, Nat.le_of_ble_eq_true rfl⟩) hx0 (rfl : vwCl[11]? = some (RX12, TX12, 51)) (by decide) rfl hl.1 rfl (Nat.le_of_ble_eq_true rfl) dX12_may_10 (fun q10 i10 j10 H locs h w => ?_) ⟨Nat.zero_le _, Nat.zero_le _⟩
    refine lv_if_ne (tgt := 19) hx hb dX12_may_13 (by decide) (fun hc => ?_) (fun hc => ?_)
    · replace h := h.1 hc
      clear hc
      refine lv_aload_n hx hb dX12_may_19 rfl (lv_at hl 0 rfl) ?_
      refine lv_aload_n hx hb dX12_may_20 rfl (lv_at hl 0 rfl) ?_
      obtain ⟨a21, hr0, h⟩ := h
      refine jgr (f := 10) hx hb hts hown hst w hG hx0 hiX12 (rfl : vwCl[11]? = some (RX12, TX12, 51)) (hts (.fieldLink RX12 25 "FootByGateModel" "standsOf" "[I") (by decide +kernel)) ⟨by decide, by decide, rfl⟩ (rfl : jrt 11 10 = 13) dX12_may_21 hr0 (fun ha21 => ?_)
      clear hr0
      refine lv_iload_n hx hb dX12_may_24 rfl (lv_at hl 1 rfl) ?_
      obtain ⟨hn, h⟩ := h
      refine jaid hx hb hst w ha21 hn dX12_may_25 ?_
      clear hn
      refine lv_iload_n hx hb dX12_may_26 rfl (lv_at hl 2 rfl) ?_
      refine jcV_i (k := x0) (As := [.int (i10 a21 x1.toNatClampNeg), .int x2]) (rest := []) C0 w (c_X12_isAt hG hx0 h) (cwV 2 hts gX12_may_X12_isAt rfl rfl rfl (by decide +kernel) ⟨Nat.le_of_ble_eq_true rfl, Nat.le_of_ble_eq_true rfl⟩) hx0 (rfl : vwCl[11]? = some (RX12, TX12, 51)) (by decide) rfl hl.1 rfl (Nat.le_of_ble_eq_true rfl) dX12_may_27 (fun q27 i27 j27 H locs h w => ?_) ⟨Nat.zero_le _, Nat.zero_le _⟩
      refine lv_if_ne (tgt := 35) hx hb dX12_may_30 (by decide) (fun hc => ?_) (fun hc => ?_)
      · replace h := h.1 hc
        clear hc
        refine lv_aload_n hx hb dX12_may_35 rfl (lv_at hl 0 rfl) ?_
        refine lv_aload_n hx hb dX12_may_36 rfl (lv_at hl 0 rfl) ?_
        obtain ⟨a37, hr0, h⟩ := h
        refine jgr (f := 9) hx hb hts hown hst w hG hx0 hiX12 (rfl : vwCl[11]? = some (RX12, TX12, 51)) (hts (.fieldLink RX12 22 "FootByGateModel" "kindOf" "[I") (by decide +kernel)) ⟨by decide, by decide, rfl⟩ (rfl : jrt 11 9 = 13) dX12_may_37 hr0 (fun ha37 => ?_)
        clear hr0
        refine lv_iload_n hx hb dX12_may_40 rfl (lv_at hl 1 rfl) ?_
        obtain ⟨hn, h⟩ := h
        refine jaid hx hb hst w ha37 hn dX12_may_41 ?_
        clear hn
        refine lv_aload_n hx hb dX12_may_42 rfl (lv_at hl 0 rfl) ?_
        obtain ⟨a43, hr0, h⟩ := h
        refine jgr (f := 10) hx hb hts hown hst w hG hx0 hiX12 (rfl : vwCl[11]? = some (RX12, TX12, 51)) (hts (.fieldLink RX12 25 "FootByGateModel" "standsOf" "[I") (by decide +kernel)) ⟨by decide, by decide, rfl⟩ (rfl : jrt 11 10 = 13) dX12_may_43 hr0 (fun ha43 => ?_)
        clear hr0
        refine lv_iload_n hx hb dX12_may_46 rfl (lv_at hl 1 rfl) ?_
        obtain ⟨hn, h⟩ := h
        refine jaid hx hb hst w ha43 hn dX12_may_47 ?_
        clear hn
        refine lv_iload_n hx hb dX12_may_48 rfl (lv_at hl 2 rfl) ?_
        refine jcV_i (k := x0) (As := [.int (i27 a37 x1.toNatClampNeg), .int (i27 a43 x1.toNatClampNeg), .int x2]) (rest := []) C0 w (c_X12_behind hG hx0 h) (cwV 3 hts gX12_may_X12_behind rfl rfl rfl (by decide +kernel) ⟨Nat.le_of_ble_eq_true rfl, Nat.le_of_ble_eq_true rfl⟩) hx0 (rfl : vwCl[11]? = some (RX12, TX12, 51)) (by decide) rfl hl.1 rfl (Nat.le_of_ble_eq_true rfl) dX12_may_49 (fun q49 i49 j49 H locs h w => ?_) ⟨Nat.zero_le _, Nat.zero_le _⟩
        refine lv_iconst (v := (-1 : Int32)) hx hb dX12_may_52 (by decide) ?_
        refine lv_icmp_ne (tgt := 60) hx hb dX12_may_53 (by decide) (fun hc => ?_) (fun hc => ?_)
        · replace h := h.1 hc
          clear hc
          refine lv_iconst (v := (1 : Int32)) hx hb dX12_may_60 (by decide) ?_
          exact jret_i hx hb hr hlk hst w h dX12_may_61
        · replace h := h.2 hc
          clear hc
          refine lv_iconst (v := (0 : Int32)) hx hb dX12_may_56 (by decide) ?_
          refine lv_goto (tgt := 61) hx hb dX12_may_57 (by decide) ?_
          exact jret_i hx hb hr hlk hst w h dX12_may_61
      · replace h := h.2 hc
        clear hc
        refine lv_iconst (v := (-1 : Int32)) hx hb dX12_may_33 (by decide) ?_
        exact jret_i hx hb hr hlk hst w h dX12_may_34
    · replace h := h.2 hc
      clear hc
      exact w_X12_may_L16 C0 hr hlk w (lv_sub hl [] rfl) h
end S_X12_may
section S_X12_print
def J_X12_print_L35 (len : Nat → Nat) (r : jR) (Q : Int32 → jI → jL → Prop) (i : jI) (j : jL) : Prop := Q (-102 : Int32) i j
def J_X12_print (len : Nat → Nat) (r : jR) (Q : Int32 → jI → jL → Prop) (i : jI) (j : jL) (x0 : Nat) (x1 : Int32) (x2 : Int32) (x3 : Int32) : Prop := J_X12_within len r (fun (q8 : Int32) (i8 : jI) (j8 : jL) => ((¬ q8 = 0) → (J_X12_within len r (fun (q20 : Int32) (i20 : jI) (j20 : jL) => ((q20 = 0) → (J_X12_print_L35 len r Q i20 j20 )) ∧ ((¬ q20 = 0) → (J_X12_within len r (fun (q29 : Int32) (i29 : jI) (j29 : jL) => ((¬ q29 = 0) → (((¬ (i29 x0 12) = (6 : Int32)) → (∃ a51, r x0 13 = some a51 ∧ (vp_in (i29 x0 12) (len a51) ∧ ∀ i67 : jI, i67 = ju i29 a51 (i29 x0 12).toNatClampNeg ((((4 : Int32) * x1) + ((2 : Int32) * x2)) + x3) → (∀ i75 : jI, i75 = ju i67 x0 12 ((i67 x0 12) + (1 : Int32)) → (Q (i75 x0 12) i75 j29))))) ∧ (((i29 x0 12) = (6 : Int32)) → (Q (-104 : Int32) i29 j29)))) ∧ ((q29 = 0) → (J_X12_print_L35 len r Q i29 j29 ))) i20 j20 x3 (0 : Int32) (1 : Int32)))) i8 j8 x2 (0 : Int32) (1 : Int32))) ∧ ((q8 = 0) → (Q (-101 : Int32) i8 j8))) i j x1 (0 : Int32) ((i x0 5) - (1 : Int32))
abbrev rm_X12_print : Room := { frames := 1, cells := 0, slots := 0, locals := 22 }
variable {p : Program} {l : Launch} {e : Env} {s : State} {m : MethodId} {args : Array Value} {below : List Frame} {meth : Method} {c : Code} {b tU n : Nat} {cy : Nat → ClassId} {D : va_G} {K len : Nat → Nat} {r : jR} {Q : Int32 → jI → jL → Prop}
theorem hiX12_X12_print : ∀ w ∈ u_ws RX12 TX12 51, w ∈ wsX12_print := by decide +kernel
set_option maxHeartbeats 4000000 in
set_option maxRecDepth 100000 in
theorem w_X12_print_L35 (C0 : jCx p s m args c cX12_print 4 wsX12_print RX12 b cy D tU n K r) (hr : meth.sig.returnType = some .int) (hlk : meth.locks = false) {H : Heap} {locs : List Loc} {ls : Array Slot} {i : jI} {j : jL}  (w : jDy b cy D n K len r i j s H locs) (hl : lv_has ls 4 []) (h : J_X12_print_L35 len r Q i j) : W p l e rm_X12_print s m args below meth c H locs 0 0 (MQ below (jQi b cy D tU n K len r Q) args s 0 0 (jA b)) (F0 m 35 ls []) := by
  obtain ⟨hx, hb, hml, hown, hts, hst, hG⟩ := id C0
  have hiX12 : ∀ w ∈ u_ws RX12 TX12 51, w ∈ wsX12_print := hiX12_X12_print
  rw [J_X12_print_L35] at h
  refine lv_bipush (v := (-102 : Int32)) hx hb dX12_print_35 (by decide) ?_
  exact jret_i hx hb hr hlk hst w h dX12_print_37
set_option maxHeartbeats 4000000 in
set_option maxRecDepth 100000 in
theorem c_X12_print (hG : jG n K r) {i : jI} {j : jL} {x0 : Nat} {x1 : Int32} {x2 : Int32} {x3 : Int32} (hx0 : x0 < n ∧ K x0 = 11) (h : J_X12_print len r Q i j x0 x1 x2 x3) : Met l yX12_print wsX12_print rm_X12_print (va_Pc [.ref (b + x0), .int x1, .int x2, .int x3] (jPre b cy D tU n K len r i j)) (jQi b cy D tU n K len r Q) 0 0 (jA b) := by
  refine Met.ofW (cc := cX12_print) (maxL := 4) (ret := (some .int)) (by decide) rfl ?_
  intro p e s m args below meth c s₁ B hml hv
  obtain ⟨rfl, hv⟩ := hv
  have C0 : jCx p s m _ c cX12_print 4 wsX12_print RX12 b cy D tU n K r := ⟨B.exec, B.bytes, hml, findClass_of_methodNamed B.named, atoms_spec (ws := wsX12_print) B.pre, hv.2.2, hG⟩
  have hr := B.returns
  have hlk := B.notSynchronized
  obtain ⟨hx, hb, hml, hown, hts, hst, hG⟩ := id C0
  have hiX12 : ∀ w ∈ u_ws RX12 TX12 51, w ∈ wsX12_print := hiX12_X12_print
  have w := jDy.start hv
  have hl := lv_entry ([.ref (b + x0), .int x1, .int x2, .int x3]) (n := 4) (Nat.le_of_ble_eq_true rfl)
  rw [lg_entry_eq]
  generalize (lg_sl ([.ref (b + x0), .int x1, .int x2, .int x3]) ++ List.replicate (4 - (lg_sl ([.ref (b + x0), .int x1, .int x2, .int x3])).length) Slot.unset).toArray = ls at hl ⊢
  replace hl : lv_has ls 4 [(0, .ref (b + x0)), (1, .int x1), (2, .int x2), (3, .int x3)] := hl
  show W p l e rm_X12_print s m _ below meth c s.heap [] 0 0 _ (F0 m 0 ls [])
  rw [J_X12_print] at h
  refine lv_iload_n hx hb dX12_print_0 rfl (lv_at hl 1 rfl) ?_
  refine lv_iconst (v := (0 : Int32)) hx hb dX12_print_1 (by decide) ?_
  refine lv_aload_n hx hb dX12_print_2 rfl (lv_at hl 0 rfl) ?_
  refine jgi (f := 5) hx hb hts hown hst w hx0 hiX12 (rfl : vwCl[11]? = some (RX12, TX12, 51)) (hts (.fieldLink RX12 129 "FootByGateModel" "gates" "I") (by decide +kernel)) ⟨by decide, by decide, rfl⟩ dX12_print_3 ?_
  refine lv_iconst (v := (1 : Int32)) hx hb dX12_print_6 (by decide) ?_
  refine lv_isub hx hb dX12_print_7 ?_
  refine jcS_i (As := [.int x1, .int (0 : Int32), .int ((i x0 5) - (1 : Int32))]) (rest := []) C0 w (c_X12_within hG h) (va_cwS 3 hts gX12_print_X12_within rfl rfl rfl (by decide +kernel) ⟨Nat.le_of_ble_eq_true rfl, Nat.le_of_ble_eq_true rfl⟩) rfl hl.1 rfl (Nat.le_of_ble_eq_true rfl) dX12_print_8 (fun q8 i8 j8 H locs h w => ?_) ⟨Nat.zero_le _, Nat.zero_le _⟩
  refine lv_if_ne (tgt := 17) hx hb dX12_print_11 (by decide) (fun hc => ?_) (fun hc => ?_)
  · replace h := h.1 hc
    clear hc
    refine lv_iload_n hx hb dX12_print_17 rfl (lv_at hl 2 rfl) ?_
    refine lv_iconst (v := (0 : Int32)) hx hb dX12_print_18 (by decide) ?_
    refine lv_iconst (v := (1 : Int32)) hx hb dX12_print_19 (by decide) ?_
    refine jcS_i (As := [.int x2, .int (0 : Int32), .int (1 : Int32)]) (rest := []) C0 w (c_X12_within hG h) (va_cwS 3 hts gX12_print_X12_within rfl rfl rfl (by decide +kernel) ⟨Nat.le_of_ble_eq_true rfl, Nat.le_of_ble_eq_true rfl⟩) rfl hl.1 rfl (Nat.le_of_ble_eq_true rfl) dX12_print_20 (fun q20 i20 j20 H locs h w => ?_) ⟨Nat.zero_le _, Nat.zero_le _⟩
    refine lv_if_eq (tgt := 35) hx hb dX12_print_23 (by decide) (fun hc => ?_) (fun hc => ?_)
    · replace h := h.1 hc
      clear hc
      exact w_X12_print_L35 C0 hr hlk w (lv_sub hl [] rfl) h
    · replace h := h.2 hc
      clear hc
      refine lv_iload_n hx hb dX12_print_26 rfl (lv_at hl 3 rfl) ?_
      refine lv_iconst (v := (0 : Int32)) hx hb dX12_print_27 (by decide) ?_
      refine lv_iconst (v := (1 : Int32)) hx hb dX12_print_28 (by decide) ?_
      refine jcS_i (As := [.int x3, .int (0 : Int32), .int (1 : Int32)]) (rest := []) C0 w (c_X12_within hG h) (va_cwS 3 hts gX12_print_X12_within rfl rfl rfl (by decide +kernel) ⟨Nat.le_of_ble_eq_true rfl, Nat.le_of_ble_eq_true rfl⟩) rfl hl.1 rfl (Nat.le_of_ble_eq_true rfl) dX12_print_29 (fun q29 i29 j29 H locs h w => ?_) ⟨Nat.zero_le _, Nat.zero_le _⟩
      refine lv_if_ne (tgt := 38) hx hb dX12_print_32 (by decide) (fun hc => ?_) (fun hc => ?_)
      · replace h := h.1 hc
        clear hc
        refine lv_aload_n hx hb dX12_print_38 rfl (lv_at hl 0 rfl) ?_
        refine jgi (f := 12) hx hb hts hown hst w hx0 hiX12 (rfl : vwCl[11]? = some (RX12, TX12, 51)) (hts (.fieldLink RX12 141 "FootByGateModel" "prints" "I") (by decide +kernel)) ⟨by decide, by decide, rfl⟩ dX12_print_39 ?_
        refine lv_bipush (v := (6 : Int32)) hx hb dX12_print_42 (by decide) ?_
        refine lv_icmp_ne (tgt := 50) hx hb dX12_print_44 (by decide) (fun hc => ?_) (fun hc => ?_)
        · replace h := h.1 hc
          clear hc
          refine lv_aload_n hx hb dX12_print_50 rfl (lv_at hl 0 rfl) ?_
          obtain ⟨a51, hr0, h⟩ := h
          refine jgr (f := 13) hx hb hts hown hst w hG hx0 hiX12 (rfl : vwCl[11]? = some (RX12, TX12, 51)) (hts (.fieldLink RX12 31 "FootByGateModel" "printOf" "[I") (by decide +kernel)) ⟨by decide, by decide, rfl⟩ (rfl : jrt 11 13 = 13) dX12_print_51 hr0 (fun ha51 => ?_)
          clear hr0
          refine lv_aload_n hx hb dX12_print_54 rfl (lv_at hl 0 rfl) ?_
          refine jgi (f := 12) hx hb hts hown hst w hx0 hiX12 (rfl : vwCl[11]? = some (RX12, TX12, 51)) (hts (.fieldLink RX12 141 "FootByGateModel" "prints" "I") (by decide +kernel)) ⟨by decide, by decide, rfl⟩ dX12_print_55 ?_
          refine lv_iconst (v := (4 : Int32)) hx hb dX12_print_58 (by decide) ?_
          refine lv_iload_n hx hb dX12_print_59 rfl (lv_at hl 1 rfl) ?_
          refine lv_imul hx hb dX12_print_60 ?_
          refine lv_iconst (v := (2 : Int32)) hx hb dX12_print_61 (by decide) ?_
          refine lv_iload_n hx hb dX12_print_62 rfl (lv_at hl 2 rfl) ?_
          refine lv_imul hx hb dX12_print_63 ?_
          refine lv_iadd hx hb dX12_print_64 ?_
          refine lv_iload_n hx hb dX12_print_65 rfl (lv_at hl 3 rfl) ?_
          refine lv_iadd hx hb dX12_print_66 ?_
          obtain ⟨hn, h⟩ := h
          refine jais hx hb hst w ha51 hn dX12_print_67 (fun i67 H locs he w => ?_)
          replace h := h i67 he
          clear he hn
          refine lv_aload_n hx hb dX12_print_68 rfl (lv_at hl 0 rfl) ?_
          refine lv_dup hx hb dX12_print_69 rfl ?_
          refine jgi (f := 12) hx hb hts hown hst w hx0 hiX12 (rfl : vwCl[11]? = some (RX12, TX12, 51)) (hts (.fieldLink RX12 141 "FootByGateModel" "prints" "I") (by decide +kernel)) ⟨by decide, by decide, rfl⟩ dX12_print_70 ?_
          refine lv_iconst (v := (1 : Int32)) hx hb dX12_print_73 (by decide) ?_
          refine lv_iadd hx hb dX12_print_74 ?_
          refine jpi (f := 12) hx hb hts hown hst w hx0 hiX12 (rfl : vwCl[11]? = some (RX12, TX12, 51)) (hts (.fieldLink RX12 141 "FootByGateModel" "prints" "I") (by decide +kernel)) ⟨by decide, by decide, rfl⟩ tyX12 tyX12_ok nmX12 rfl ⟨rfl, rfl⟩ dX12_print_75 (fun i75 H locs he w => ?_)
          replace h := h i75 he
          clear he
          refine lv_aload_n hx hb dX12_print_78 rfl (lv_at hl 0 rfl) ?_
          refine jgi (f := 12) hx hb hts hown hst w hx0 hiX12 (rfl : vwCl[11]? = some (RX12, TX12, 51)) (hts (.fieldLink RX12 141 "FootByGateModel" "prints" "I") (by decide +kernel)) ⟨by decide, by decide, rfl⟩ dX12_print_79 ?_
          exact jret_i hx hb hr hlk hst w h dX12_print_82
        · replace h := h.2 hc
          clear hc
          refine lv_bipush (v := (-104 : Int32)) hx hb dX12_print_47 (by decide) ?_
          exact jret_i hx hb hr hlk hst w h dX12_print_49
      · replace h := h.2 hc
        clear hc
        exact w_X12_print_L35 C0 hr hlk w (lv_sub hl [] rfl) h
  · replace h := h.2 hc
    clear hc
    refine lv_bipush (v := (-101 : Int32)) hx hb dX12_print_14 (by decide) ?_
    exact jret_i hx hb hr hlk hst w h dX12_print_16
end S_X12_print
section S_X12_repave
def J_X12_repave (len : Nat → Nat) (r : jR) (Q : Int32 → jI → jL → Prop) (i : jI) (j : jL) (x0 : Nat) (x1 : Int32) (x2 : Int32) : Prop := J_X12_isStreet len r (fun (q2 : Int32) (i2 : jI) (j2 : jL) => ((¬ q2 = 0) → (J_X12_within len r (fun (q15 : Int32) (i15 : jI) (j15 : jL) => ((¬ q15 = 0) → (∃ a25, r x0 3 = some a25 ∧ (vp_in x1 (len a25) ∧ (∀ v30 : Int32, v30 = i15 a25 x1.toNatClampNeg → (∃ a32, r x0 3 = some a32 ∧ (vp_in x1 (len a32) ∧ ∀ i37 : jI, i37 = ju i15 a32 x1.toNatClampNeg x2 → (Q v30 i37 j15))))))) ∧ ((q15 = 0) → (Q (-102 : Int32) i15 j15))) i2 j2 x2 (0 : Int32) (9 : Int32))) ∧ ((q2 = 0) → (Q (-101 : Int32) i2 j2))) i j x0 x1
abbrev rm_X12_repave : Room := { frames := 2, cells := 0, slots := 0, locals := 43 }
variable {p : Program} {l : Launch} {e : Env} {s : State} {m : MethodId} {args : Array Value} {below : List Frame} {meth : Method} {c : Code} {b tU n : Nat} {cy : Nat → ClassId} {D : va_G} {K len : Nat → Nat} {r : jR} {Q : Int32 → jI → jL → Prop}
theorem hiX12_X12_repave : ∀ w ∈ u_ws RX12 TX12 51, w ∈ wsX12_repave := by decide +kernel
set_option maxHeartbeats 4000000 in
set_option maxRecDepth 100000 in
theorem c_X12_repave (hG : jG n K r) {i : jI} {j : jL} {x0 : Nat} {x1 : Int32} {x2 : Int32} (hx0 : x0 < n ∧ K x0 = 11) (h : J_X12_repave len r Q i j x0 x1 x2) : Met l yX12_repave wsX12_repave rm_X12_repave (va_Pc [.ref (b + x0), .int x1, .int x2] (jPre b cy D tU n K len r i j)) (jQi b cy D tU n K len r Q) 0 0 (jA b) := by
  refine Met.ofW (cc := cX12_repave) (maxL := 4) (ret := (some .int)) (by decide) rfl ?_
  intro p e s m args below meth c s₁ B hml hv
  obtain ⟨rfl, hv⟩ := hv
  have C0 : jCx p s m _ c cX12_repave 4 wsX12_repave RX12 b cy D tU n K r := ⟨B.exec, B.bytes, hml, findClass_of_methodNamed B.named, atoms_spec (ws := wsX12_repave) B.pre, hv.2.2, hG⟩
  have hr := B.returns
  have hlk := B.notSynchronized
  obtain ⟨hx, hb, hml, hown, hts, hst, hG⟩ := id C0
  have hiX12 : ∀ w ∈ u_ws RX12 TX12 51, w ∈ wsX12_repave := hiX12_X12_repave
  have w := jDy.start hv
  have hl := lv_entry ([.ref (b + x0), .int x1, .int x2]) (n := 4) (Nat.le_of_ble_eq_true rfl)
  rw [lg_entry_eq]
  generalize (lg_sl ([.ref (b + x0), .int x1, .int x2]) ++ List.replicate (4 - (lg_sl ([.ref (b + x0), .int x1, .int x2])).length) Slot.unset).toArray = ls at hl ⊢
  replace hl : lv_has ls 4 [(0, .ref (b + x0)), (1, .int x1), (2, .int x2)] := hl
  show W p l e rm_X12_repave s m _ below meth c s.heap [] 0 0 _ (F0 m 0 ls [])
  rw [J_X12_repave] at h
  refine lv_aload_n hx hb dX12_repave_0 rfl (lv_at hl 0 rfl) ?_
  refine lv_iload_n hx hb dX12_repave_1 rfl (lv_at hl 1 rfl) ?_
  refine jcV_i (k := x0) (As := [.int x1]) (rest := []) C0 w (c_X12_isStreet hG hx0 h) (cwV 1 hts gX12_repave_X12_isStreet rfl rfl rfl (by decide +kernel) ⟨Nat.le_of_ble_eq_true rfl, Nat.le_of_ble_eq_true rfl⟩) hx0 (rfl : vwCl[11]? = some (RX12, TX12, 51)) (by decide) rfl hl.1 rfl (Nat.le_of_ble_eq_true rfl) dX12_repave_2 (fun q2 i2 j2 H locs h w => ?_) ⟨Nat.zero_le _, Nat.zero_le _⟩
  refine lv_if_ne (tgt := 11) hx hb dX12_repave_5 (by decide) (fun hc => ?_) (fun hc => ?_)
  · replace h := h.1 hc
    clear hc
    refine lv_iload_n hx hb dX12_repave_11 rfl (lv_at hl 2 rfl) ?_
    refine lv_iconst (v := (0 : Int32)) hx hb dX12_repave_12 (by decide) ?_
    refine lv_bipush (v := (9 : Int32)) hx hb dX12_repave_13 (by decide) ?_
    refine jcS_i (As := [.int x2, .int (0 : Int32), .int (9 : Int32)]) (rest := []) C0 w (c_X12_within hG h) (va_cwS 3 hts gX12_repave_X12_within rfl rfl rfl (by decide +kernel) ⟨Nat.le_of_ble_eq_true rfl, Nat.le_of_ble_eq_true rfl⟩) rfl hl.1 rfl (Nat.le_of_ble_eq_true rfl) dX12_repave_15 (fun q15 i15 j15 H locs h w => ?_) ⟨Nat.zero_le _, Nat.zero_le _⟩
    refine lv_if_ne (tgt := 24) hx hb dX12_repave_18 (by decide) (fun hc => ?_) (fun hc => ?_)
    · replace h := h.1 hc
      clear hc
      refine lv_aload_n hx hb dX12_repave_24 rfl (lv_at hl 0 rfl) ?_
      obtain ⟨a25, hr0, h⟩ := h
      refine jgr (f := 3) hx hb hts hown hst w hG hx0 hiX12 (rfl : vwCl[11]? = some (RX12, TX12, 51)) (hts (.fieldLink RX12 16 "FootByGateModel" "pacesOf" "[I") (by decide +kernel)) ⟨by decide, by decide, rfl⟩ (rfl : jrt 11 3 = 13) dX12_repave_25 hr0 (fun ha25 => ?_)
      clear hr0
      refine lv_iload_n hx hb dX12_repave_28 rfl (lv_at hl 1 rfl) ?_
      obtain ⟨hn, h⟩ := h
      refine jaid hx hb hst w ha25 hn dX12_repave_29 ?_
      clear hn
      refine lv_topi (fun v30 he => ?_)
      replace h := h v30 he
      clear he
      refine lv_istore_n (lv' := [(3, .int v30), (0, .ref (b + x0)), (1, .int x1), (2, .int x2)]) hx hb dX12_repave_30 rfl hl (by decide) rfl (fun ls hl => ?_)
      refine lv_aload_n hx hb dX12_repave_31 rfl (lv_at hl 1 rfl) ?_
      obtain ⟨a32, hr0, h⟩ := h
      refine jgr (f := 3) hx hb hts hown hst w hG hx0 hiX12 (rfl : vwCl[11]? = some (RX12, TX12, 51)) (hts (.fieldLink RX12 16 "FootByGateModel" "pacesOf" "[I") (by decide +kernel)) ⟨by decide, by decide, rfl⟩ (rfl : jrt 11 3 = 13) dX12_repave_32 hr0 (fun ha32 => ?_)
      clear hr0
      refine lv_iload_n hx hb dX12_repave_35 rfl (lv_at hl 2 rfl) ?_
      refine lv_iload_n hx hb dX12_repave_36 rfl (lv_at hl 3 rfl) ?_
      obtain ⟨hn, h⟩ := h
      refine jais hx hb hst w ha32 hn dX12_repave_37 (fun i37 H locs he w => ?_)
      replace h := h i37 he
      clear he hn
      refine lv_iload_n hx hb dX12_repave_38 rfl (lv_at hl 0 rfl) ?_
      exact jret_i hx hb hr hlk hst w h dX12_repave_39
    · replace h := h.2 hc
      clear hc
      refine lv_bipush (v := (-102 : Int32)) hx hb dX12_repave_21 (by decide) ?_
      exact jret_i hx hb hr hlk hst w h dX12_repave_23
  · replace h := h.2 hc
    clear hc
    refine lv_bipush (v := (-101 : Int32)) hx hb dX12_repave_8 (by decide) ?_
    exact jret_i hx hb hr hlk hst w h dX12_repave_10
end S_X12_repave
section S_X12_restore
def J_X12_restore_L18 (len : Nat → Nat) (r : jR) (Q : Int32 → jI → jL → Prop) (i : jI) (j : jL) : Prop := Q (-103 : Int32) i j
def J_X12_restore_L102 (len : Nat → Nat) (r : jR) (Q : Int32 → jI → jL → Prop) : Nat → jI → jL → Nat → Int32 → Prop
  | 0 => fun _ _ _ _ => False
  | g + 1 => fun i j x0 x1 => (((6 : Int32) ≤ x1) → (Q (i x0 8) i j)) ∧ ((¬ (6 : Int32) ≤ x1) → (∃ a109, r x0 13 = some a109 ∧ (∃ a114, r x0 49 = some a114 ∧ (vp_in x1 (len a114) ∧ (vp_in x1 (len a109) ∧ ∀ i119 : jI, i119 = ju i a109 x1.toNatClampNeg (i a114 x1.toNatClampNeg) → (∀ v120 : Int32, v120 = x1 + (1 : Int32) → ((J_X12_restore_L102 len r Q g) i119 j x0 v120)))))))
def J_X12_restore_L76 (len : Nat → Nat) (r : jR) (Q : Int32 → jI → jL → Prop) : Nat → jI → jL → Nat → Int32 → Prop
  | 0 => fun _ _ _ _ => False
  | g + 1 => fun i j x0 x1 => (((10 : Int32) ≤ x1) → (∃ g0, J_X12_restore_L102 len r Q g0 i j x0 (0 : Int32))) ∧ ((¬ (10 : Int32) ≤ x1) → (∃ a83, r x0 3 = some a83 ∧ (∃ a88, r x0 48 = some a88 ∧ (vp_in x1 (len a88) ∧ (vp_in x1 (len a83) ∧ ∀ i93 : jI, i93 = ju i a83 x1.toNatClampNeg (i a88 x1.toNatClampNeg) → (∀ v94 : Int32, v94 = x1 + (1 : Int32) → ((J_X12_restore_L76 len r Q g) i93 j x0 v94)))))))
def J_X12_restore_L39 (len : Nat → Nat) (r : jR) (Q : Int32 → jI → jL → Prop) : Nat → jI → jL → Nat → Int32 → Prop
  | 0 => fun _ _ _ _ => False
  | g + 1 => fun i j x0 x1 => (((5 : Int32) ≤ x1) → (∃ g0, J_X12_restore_L76 len r Q g0 i j x0 (0 : Int32))) ∧ ((¬ (5 : Int32) ≤ x1) → (∃ a45, r x0 10 = some a45 ∧ (∃ a50, r x0 46 = some a50 ∧ (vp_in x1 (len a50) ∧ (vp_in x1 (len a45) ∧ ∀ i55 : jI, i55 = ju i a45 x1.toNatClampNeg (i a50 x1.toNatClampNeg) → (∃ a57, r x0 11 = some a57 ∧ (∃ a62, r x0 47 = some a62 ∧ (vp_in x1 (len a62) ∧ (vp_in x1 (len a57) ∧ ∀ i67 : jI, i67 = ju i55 a57 x1.toNatClampNeg (i55 a62 x1.toNatClampNeg) → (∀ v68 : Int32, v68 = x1 + (1 : Int32) → ((J_X12_restore_L39 len r Q g) i67 j x0 v68)))))))))))
def J_X12_restore (len : Nat → Nat) (r : jR) (Q : Int32 → jI → jL → Prop) (i : jI) (j : jL) (x0 : Nat) : Prop := (((i x0 42) = 0) → (J_X12_restore_L18 len r Q i j )) ∧ ((¬ (i x0 42) = 0) → ((((i x0 43) = (i x0 7)) → (∀ i26 : jI, i26 = ju i x0 8 (i x0 44) → (∀ i34 : jI, i34 = ju i26 x0 12 (i26 x0 45) → (∃ g0, J_X12_restore_L39 len r Q g0 i34 j x0 (0 : Int32))))) ∧ ((¬ (i x0 43) = (i x0 7)) → (J_X12_restore_L18 len r Q i j ))))
abbrev rm_X12_restore : Room := { frames := 0, cells := 0, slots := 0, locals := 0 }
variable {p : Program} {l : Launch} {e : Env} {s : State} {m : MethodId} {args : Array Value} {below : List Frame} {meth : Method} {c : Code} {b tU n : Nat} {cy : Nat → ClassId} {D : va_G} {K len : Nat → Nat} {r : jR} {Q : Int32 → jI → jL → Prop}
theorem hiX12_X12_restore : ∀ w ∈ u_ws RX12 TX12 51, w ∈ wsX12_restore := by decide +kernel
set_option maxHeartbeats 4000000 in
set_option maxRecDepth 100000 in
theorem w_X12_restore_L18 (C0 : jCx p s m args c cX12_restore 2 wsX12_restore RX12 b cy D tU n K r) (hr : meth.sig.returnType = some .int) (hlk : meth.locks = false) {H : Heap} {locs : List Loc} {ls : Array Slot} {i : jI} {j : jL}  (w : jDy b cy D n K len r i j s H locs) (hl : lv_has ls 2 []) (h : J_X12_restore_L18 len r Q i j) : W p l e rm_X12_restore s m args below meth c H locs 0 0 (MQ below (jQi b cy D tU n K len r Q) args s 0 0 (jA b)) (F0 m 18 ls []) := by
  obtain ⟨hx, hb, hml, hown, hts, hst, hG⟩ := id C0
  have hiX12 : ∀ w ∈ u_ws RX12 TX12 51, w ∈ wsX12_restore := hiX12_X12_restore
  rw [J_X12_restore_L18] at h
  refine lv_bipush (v := (-103 : Int32)) hx hb dX12_restore_18 (by decide) ?_
  exact jret_i hx hb hr hlk hst w h dX12_restore_20
set_option maxHeartbeats 4000000 in
set_option maxRecDepth 100000 in
theorem w_X12_restore_L102 (C0 : jCx p s m args c cX12_restore 2 wsX12_restore RX12 b cy D tU n K r) (hr : meth.sig.returnType = some .int) (hlk : meth.locks = false) : ∀ (g : Nat) {H : Heap} {locs : List Loc} {ls : Array Slot} {i : jI} {j : jL} {x0 : Nat} {x1 : Int32} (w : jDy b cy D n K len r i j s H locs) (hx0 : x0 < n ∧ K x0 = 11) (hl : lv_has ls 2 [(0, .ref (b + x0)), (1, .int x1)]) (h : J_X12_restore_L102 len r Q g i j x0 x1), W p l e rm_X12_restore s m args below meth c H locs 0 0 (MQ below (jQi b cy D tU n K len r Q) args s 0 0 (jA b)) (F0 m 102 ls []) := by
  obtain ⟨hx, hb, hml, hown, hts, hst, hG⟩ := id C0
  have hiX12 : ∀ w ∈ u_ws RX12 TX12 51, w ∈ wsX12_restore := hiX12_X12_restore
  intro g
  induction g with
  | zero => intro H locs ls i j x0 x1 w hx0 hl h; exact False.elim h
  | succ g ih =>
    intro H locs ls i j x0 x1 w hx0 hl h
    rw [J_X12_restore_L102] at h
    refine lv_iload_n hx hb dX12_restore_102 rfl (lv_at hl 1 rfl) ?_
    refine lv_bipush (v := (6 : Int32)) hx hb dX12_restore_103 (by decide) ?_
    refine lv_icmp_ge (tgt := 126) hx hb dX12_restore_105 (by decide) (fun hc => ?_) (fun hc => ?_)
    · replace h := h.1 hc
      clear hc
      refine lv_aload_n hx hb dX12_restore_126 rfl (lv_at hl 0 rfl) ?_
      refine jgi (f := 8) hx hb hts hown hst w hx0 hiX12 (rfl : vwCl[11]? = some (RX12, TX12, 51)) (hts (.fieldLink RX12 138 "FootByGateModel" "walkers" "I") (by decide +kernel)) ⟨by decide, by decide, rfl⟩ dX12_restore_127 ?_
      exact jret_i hx hb hr hlk hst w h dX12_restore_130
    · replace h := h.2 hc
      clear hc
      refine lv_aload_n hx hb dX12_restore_108 rfl (lv_at hl 0 rfl) ?_
      obtain ⟨a109, hr0, h⟩ := h
      refine jgr (f := 13) hx hb hts hown hst w hG hx0 hiX12 (rfl : vwCl[11]? = some (RX12, TX12, 51)) (hts (.fieldLink RX12 31 "FootByGateModel" "printOf" "[I") (by decide +kernel)) ⟨by decide, by decide, rfl⟩ (rfl : jrt 11 13 = 13) dX12_restore_109 hr0 (fun ha109 => ?_)
      clear hr0
      refine lv_iload_n hx hb dX12_restore_112 rfl (lv_at hl 1 rfl) ?_
      refine lv_aload_n hx hb dX12_restore_113 rfl (lv_at hl 0 rfl) ?_
      obtain ⟨a114, hr0, h⟩ := h
      refine jgr (f := 49) hx hb hts hown hst w hG hx0 hiX12 (rfl : vwCl[11]? = some (RX12, TX12, 51)) (hts (.fieldLink RX12 90 "FootByGateModel" "keptPrint" "[I") (by decide +kernel)) ⟨by decide, by decide, rfl⟩ (rfl : jrt 11 49 = 13) dX12_restore_114 hr0 (fun ha114 => ?_)
      clear hr0
      refine lv_iload_n hx hb dX12_restore_117 rfl (lv_at hl 1 rfl) ?_
      obtain ⟨hn, h⟩ := h
      refine jaid hx hb hst w ha114 hn dX12_restore_118 ?_
      clear hn
      obtain ⟨hn, h⟩ := h
      refine jais hx hb hst w ha109 hn dX12_restore_119 (fun i119 H locs he w => ?_)
      replace h := h i119 he
      clear he hn
      obtain ⟨v120, he⟩ : ∃ z : Int32, z = x1 + (1 : Int32) := ⟨_, rfl⟩
      replace h := h v120 he
      refine lv_iinc (v := v120) (lv' := [(1, .int v120), (0, .ref (b + x0))]) hx hb dX12_restore_120 hl (k := 1) rfl (by rw [he]; rfl) (by decide) rfl (fun ls hl => ?_)
      clear he
      refine lv_goto (tgt := 102) hx hb dX12_restore_123 (by decide) ?_
      exact ih w hx0 (lv_sub hl [1, 0] rfl) h
set_option maxHeartbeats 4000000 in
set_option maxRecDepth 100000 in
theorem w_X12_restore_L76 (C0 : jCx p s m args c cX12_restore 2 wsX12_restore RX12 b cy D tU n K r) (hr : meth.sig.returnType = some .int) (hlk : meth.locks = false) : ∀ (g : Nat) {H : Heap} {locs : List Loc} {ls : Array Slot} {i : jI} {j : jL} {x0 : Nat} {x1 : Int32} (w : jDy b cy D n K len r i j s H locs) (hx0 : x0 < n ∧ K x0 = 11) (hl : lv_has ls 2 [(0, .ref (b + x0)), (1, .int x1)]) (h : J_X12_restore_L76 len r Q g i j x0 x1), W p l e rm_X12_restore s m args below meth c H locs 0 0 (MQ below (jQi b cy D tU n K len r Q) args s 0 0 (jA b)) (F0 m 76 ls []) := by
  obtain ⟨hx, hb, hml, hown, hts, hst, hG⟩ := id C0
  have hiX12 : ∀ w ∈ u_ws RX12 TX12 51, w ∈ wsX12_restore := hiX12_X12_restore
  intro g
  induction g with
  | zero => intro H locs ls i j x0 x1 w hx0 hl h; exact False.elim h
  | succ g ih =>
    intro H locs ls i j x0 x1 w hx0 hl h
    rw [J_X12_restore_L76] at h
    refine lv_iload_n hx hb dX12_restore_76 rfl (lv_at hl 1 rfl) ?_
    refine lv_bipush (v := (10 : Int32)) hx hb dX12_restore_77 (by decide) ?_
    refine lv_icmp_ge (tgt := 100) hx hb dX12_restore_79 (by decide) (fun hc => ?_) (fun hc => ?_)
    · replace h := h.1 hc
      clear hc
      refine lv_iconst (v := (0 : Int32)) hx hb dX12_restore_100 (by decide) ?_
      refine lv_istore_n (lv' := [(1, .int (0 : Int32)), (0, .ref (b + x0))]) hx hb dX12_restore_101 rfl hl (by decide) rfl (fun ls hl => ?_)
      obtain ⟨g0, h⟩ := h
      exact w_X12_restore_L102 C0 hr hlk g0 w hx0 (lv_sub hl [1, 0] rfl) h
    · replace h := h.2 hc
      clear hc
      refine lv_aload_n hx hb dX12_restore_82 rfl (lv_at hl 0 rfl) ?_
      obtain ⟨a83, hr0, h⟩ := h
      refine jgr (f := 3) hx hb hts hown hst w hG hx0 hiX12 (rfl : vwCl[11]? = some (RX12, TX12, 51)) (hts (.fieldLink RX12 16 "FootByGateModel" "pacesOf" "[I") (by decide +kernel)) ⟨by decide, by decide, rfl⟩ (rfl : jrt 11 3 = 13) dX12_restore_83 hr0 (fun ha83 => ?_)
      clear hr0
      refine lv_iload_n hx hb dX12_restore_86 rfl (lv_at hl 1 rfl) ?_
      refine lv_aload_n hx hb dX12_restore_87 rfl (lv_at hl 0 rfl) ?_
      obtain ⟨a88, hr0, h⟩ := h
      refine jgr (f := 48) hx hb hts hown hst w hG hx0 hiX12 (rfl : vwCl[11]? = some (RX12, TX12, 51)) (hts (.fieldLink RX12 87 "FootByGateModel" "keptPaces" "[I") (by decide +kernel)) ⟨by decide, by decide, rfl⟩ (rfl : jrt 11 48 = 13) dX12_restore_88 hr0 (fun ha88 => ?_)
      clear hr0
      refine lv_iload_n hx hb dX12_restore_91 rfl (lv_at hl 1 rfl) ?_
      obtain ⟨hn, h⟩ := h
      refine jaid hx hb hst w ha88 hn dX12_restore_92 ?_
      clear hn
      obtain ⟨hn, h⟩ := h
      refine jais hx hb hst w ha83 hn dX12_restore_93 (fun i93 H locs he w => ?_)
      replace h := h i93 he
      clear he hn
      obtain ⟨v94, he⟩ : ∃ z : Int32, z = x1 + (1 : Int32) := ⟨_, rfl⟩
      replace h := h v94 he
      refine lv_iinc (v := v94) (lv' := [(1, .int v94), (0, .ref (b + x0))]) hx hb dX12_restore_94 hl (k := 1) rfl (by rw [he]; rfl) (by decide) rfl (fun ls hl => ?_)
      clear he
      refine lv_goto (tgt := 76) hx hb dX12_restore_97 (by decide) ?_
      exact ih w hx0 (lv_sub hl [1, 0] rfl) h
set_option maxHeartbeats 4000000 in
set_option maxRecDepth 100000 in
theorem w_X12_restore_L39 (C0 : jCx p s m args c cX12_restore 2 wsX12_restore RX12 b cy D tU n K r) (hr : meth.sig.returnType = some .int) (hlk : meth.locks = false) : ∀ (g : Nat) {H : Heap} {locs : List Loc} {ls : Array Slot} {i : jI} {j : jL} {x0 : Nat} {x1 : Int32} (w : jDy b cy D n K len r i j s H locs) (hx0 : x0 < n ∧ K x0 = 11) (hl : lv_has ls 2 [(0, .ref (b + x0)), (1, .int x1)]) (h : J_X12_restore_L39 len r Q g i j x0 x1), W p l e rm_X12_restore s m args below meth c H locs 0 0 (MQ below (jQi b cy D tU n K len r Q) args s 0 0 (jA b)) (F0 m 39 ls []) := by
  obtain ⟨hx, hb, hml, hown, hts, hst, hG⟩ := id C0
  have hiX12 : ∀ w ∈ u_ws RX12 TX12 51, w ∈ wsX12_restore := hiX12_X12_restore
  intro g
  induction g with
  | zero => intro H locs ls i j x0 x1 w hx0 hl h; exact False.elim h
  | succ g ih =>
    intro H locs ls i j x0 x1 w hx0 hl h
    rw [J_X12_restore_L39] at h
    refine lv_iload_n hx hb dX12_restore_39 rfl (lv_at hl 1 rfl) ?_
    refine lv_iconst (v := (5 : Int32)) hx hb dX12_restore_40 (by decide) ?_
    refine lv_icmp_ge (tgt := 74) hx hb dX12_restore_41 (by decide) (fun hc => ?_) (fun hc => ?_)
    · replace h := h.1 hc
      clear hc
      refine lv_iconst (v := (0 : Int32)) hx hb dX12_restore_74 (by decide) ?_
      refine lv_istore_n (lv' := [(1, .int (0 : Int32)), (0, .ref (b + x0))]) hx hb dX12_restore_75 rfl hl (by decide) rfl (fun ls hl => ?_)
      obtain ⟨g0, h⟩ := h
      exact w_X12_restore_L76 C0 hr hlk g0 w hx0 (lv_sub hl [1, 0] rfl) h
    · replace h := h.2 hc
      clear hc
      refine lv_aload_n hx hb dX12_restore_44 rfl (lv_at hl 0 rfl) ?_
      obtain ⟨a45, hr0, h⟩ := h
      refine jgr (f := 10) hx hb hts hown hst w hG hx0 hiX12 (rfl : vwCl[11]? = some (RX12, TX12, 51)) (hts (.fieldLink RX12 25 "FootByGateModel" "standsOf" "[I") (by decide +kernel)) ⟨by decide, by decide, rfl⟩ (rfl : jrt 11 10 = 13) dX12_restore_45 hr0 (fun ha45 => ?_)
      clear hr0
      refine lv_iload_n hx hb dX12_restore_48 rfl (lv_at hl 1 rfl) ?_
      refine lv_aload_n hx hb dX12_restore_49 rfl (lv_at hl 0 rfl) ?_
      obtain ⟨a50, hr0, h⟩ := h
      refine jgr (f := 46) hx hb hts hown hst w hG hx0 hiX12 (rfl : vwCl[11]? = some (RX12, TX12, 51)) (hts (.fieldLink RX12 81 "FootByGateModel" "keptStands" "[I") (by decide +kernel)) ⟨by decide, by decide, rfl⟩ (rfl : jrt 11 46 = 13) dX12_restore_50 hr0 (fun ha50 => ?_)
      clear hr0
      refine lv_iload_n hx hb dX12_restore_53 rfl (lv_at hl 1 rfl) ?_
      obtain ⟨hn, h⟩ := h
      refine jaid hx hb hst w ha50 hn dX12_restore_54 ?_
      clear hn
      obtain ⟨hn, h⟩ := h
      refine jais hx hb hst w ha45 hn dX12_restore_55 (fun i55 H locs he w => ?_)
      replace h := h i55 he
      clear he hn
      refine lv_aload_n hx hb dX12_restore_56 rfl (lv_at hl 0 rfl) ?_
      obtain ⟨a57, hr0, h⟩ := h
      refine jgr (f := 11) hx hb hts hown hst w hG hx0 hiX12 (rfl : vwCl[11]? = some (RX12, TX12, 51)) (hts (.fieldLink RX12 28 "FootByGateModel" "skippedOf" "[I") (by decide +kernel)) ⟨by decide, by decide, rfl⟩ (rfl : jrt 11 11 = 13) dX12_restore_57 hr0 (fun ha57 => ?_)
      clear hr0
      refine lv_iload_n hx hb dX12_restore_60 rfl (lv_at hl 1 rfl) ?_
      refine lv_aload_n hx hb dX12_restore_61 rfl (lv_at hl 0 rfl) ?_
      obtain ⟨a62, hr0, h⟩ := h
      refine jgr (f := 47) hx hb hts hown hst w hG hx0 hiX12 (rfl : vwCl[11]? = some (RX12, TX12, 51)) (hts (.fieldLink RX12 84 "FootByGateModel" "keptSkipped" "[I") (by decide +kernel)) ⟨by decide, by decide, rfl⟩ (rfl : jrt 11 47 = 13) dX12_restore_62 hr0 (fun ha62 => ?_)
      clear hr0
      refine lv_iload_n hx hb dX12_restore_65 rfl (lv_at hl 1 rfl) ?_
      obtain ⟨hn, h⟩ := h
      refine jaid hx hb hst w ha62 hn dX12_restore_66 ?_
      clear hn
      obtain ⟨hn, h⟩ := h
      refine jais hx hb hst w ha57 hn dX12_restore_67 (fun i67 H locs he w => ?_)
      replace h := h i67 he
      clear he hn
      obtain ⟨v68, he⟩ : ∃ z : Int32, z = x1 + (1 : Int32) := ⟨_, rfl⟩
      replace h := h v68 he
      refine lv_iinc (v := v68) (lv' := [(1, .int v68), (0, .ref (b + x0))]) hx hb dX12_restore_68 hl (k := 1) rfl (by rw [he]; rfl) (by decide) rfl (fun ls hl => ?_)
      clear he
      refine lv_goto (tgt := 39) hx hb dX12_restore_71 (by decide) ?_
      exact ih w hx0 (lv_sub hl [1, 0] rfl) h
set_option maxHeartbeats 4000000 in
set_option maxRecDepth 100000 in
theorem c_X12_restore (hG : jG n K r) {i : jI} {j : jL} {x0 : Nat} (hx0 : x0 < n ∧ K x0 = 11) (h : J_X12_restore len r Q i j x0) : Met l yX12_restore wsX12_restore rm_X12_restore (va_Pc [.ref (b + x0)] (jPre b cy D tU n K len r i j)) (jQi b cy D tU n K len r Q) 0 0 (jA b) := by
  refine Met.ofW (cc := cX12_restore) (maxL := 2) (ret := (some .int)) (by decide) rfl ?_
  intro p e s m args below meth c s₁ B hml hv
  obtain ⟨rfl, hv⟩ := hv
  have C0 : jCx p s m _ c cX12_restore 2 wsX12_restore RX12 b cy D tU n K r := ⟨B.exec, B.bytes, hml, findClass_of_methodNamed B.named, atoms_spec (ws := wsX12_restore) B.pre, hv.2.2, hG⟩
  have hr := B.returns
  have hlk := B.notSynchronized
  obtain ⟨hx, hb, hml, hown, hts, hst, hG⟩ := id C0
  have hiX12 : ∀ w ∈ u_ws RX12 TX12 51, w ∈ wsX12_restore := hiX12_X12_restore
  have w := jDy.start hv
  have hl := lv_entry ([.ref (b + x0)]) (n := 2) (Nat.le_of_ble_eq_true rfl)
  rw [lg_entry_eq]
  generalize (lg_sl ([.ref (b + x0)]) ++ List.replicate (2 - (lg_sl ([.ref (b + x0)])).length) Slot.unset).toArray = ls at hl ⊢
  replace hl : lv_has ls 2 [(0, .ref (b + x0))] := hl
  show W p l e rm_X12_restore s m _ below meth c s.heap [] 0 0 _ (F0 m 0 ls [])
  rw [J_X12_restore] at h
  refine lv_aload_n hx hb dX12_restore_0 rfl (lv_at hl 0 rfl) ?_
  refine jgi (f := 42) hx hb hts hown hst w hx0 hiX12 (rfl : vwCl[11]? = some (RX12, TX12, 51)) (hts (.fieldLink RX12 295 "FootByGateModel" "isKept" "Z") (by decide +kernel)) ⟨by decide, by decide, rfl⟩ dX12_restore_1 ?_
  refine lv_if_eq (tgt := 18) hx hb dX12_restore_4 (by decide) (fun hc => ?_) (fun hc => ?_)
  · replace h := h.1 hc
    clear hc
    exact w_X12_restore_L18 C0 hr hlk w (lv_sub hl [] rfl) h
  · replace h := h.2 hc
    clear hc
    refine lv_aload_n hx hb dX12_restore_7 rfl (lv_at hl 0 rfl) ?_
    refine jgi (f := 43) hx hb hts hown hst w hx0 hiX12 (rfl : vwCl[11]? = some (RX12, TX12, 51)) (hts (.fieldLink RX12 298 "FootByGateModel" "keptTown" "I") (by decide +kernel)) ⟨by decide, by decide, rfl⟩ dX12_restore_8 ?_
    refine lv_aload_n hx hb dX12_restore_11 rfl (lv_at hl 0 rfl) ?_
    refine jgi (f := 7) hx hb hts hown hst w hx0 hiX12 (rfl : vwCl[11]? = some (RX12, TX12, 51)) (hts (.fieldLink RX12 135 "FootByGateModel" "towns" "I") (by decide +kernel)) ⟨by decide, by decide, rfl⟩ dX12_restore_12 ?_
    refine lv_icmp_eq (tgt := 21) hx hb dX12_restore_15 (by decide) (fun hc => ?_) (fun hc => ?_)
    · replace h := h.1 hc
      clear hc
      refine lv_aload_n hx hb dX12_restore_21 rfl (lv_at hl 0 rfl) ?_
      refine lv_aload_n hx hb dX12_restore_22 rfl (lv_at hl 0 rfl) ?_
      refine jgi (f := 44) hx hb hts hown hst w hx0 hiX12 (rfl : vwCl[11]? = some (RX12, TX12, 51)) (hts (.fieldLink RX12 301 "FootByGateModel" "keptWalkers" "I") (by decide +kernel)) ⟨by decide, by decide, rfl⟩ dX12_restore_23 ?_
      refine jpi (f := 8) hx hb hts hown hst w hx0 hiX12 (rfl : vwCl[11]? = some (RX12, TX12, 51)) (hts (.fieldLink RX12 138 "FootByGateModel" "walkers" "I") (by decide +kernel)) ⟨by decide, by decide, rfl⟩ tyX12 tyX12_ok nmX12 rfl ⟨rfl, rfl⟩ dX12_restore_26 (fun i26 H locs he w => ?_)
      replace h := h i26 he
      clear he
      refine lv_aload_n hx hb dX12_restore_29 rfl (lv_at hl 0 rfl) ?_
      refine lv_aload_n hx hb dX12_restore_30 rfl (lv_at hl 0 rfl) ?_
      refine jgi (f := 45) hx hb hts hown hst w hx0 hiX12 (rfl : vwCl[11]? = some (RX12, TX12, 51)) (hts (.fieldLink RX12 304 "FootByGateModel" "keptPrints" "I") (by decide +kernel)) ⟨by decide, by decide, rfl⟩ dX12_restore_31 ?_
      refine jpi (f := 12) hx hb hts hown hst w hx0 hiX12 (rfl : vwCl[11]? = some (RX12, TX12, 51)) (hts (.fieldLink RX12 141 "FootByGateModel" "prints" "I") (by decide +kernel)) ⟨by decide, by decide, rfl⟩ tyX12 tyX12_ok nmX12 rfl ⟨rfl, rfl⟩ dX12_restore_34 (fun i34 H locs he w => ?_)
      replace h := h i34 he
      clear he
      refine lv_iconst (v := (0 : Int32)) hx hb dX12_restore_37 (by decide) ?_
      refine lv_istore_n (lv' := [(1, .int (0 : Int32)), (0, .ref (b + x0))]) hx hb dX12_restore_38 rfl hl (by decide) rfl (fun ls hl => ?_)
      obtain ⟨g0, h⟩ := h
      exact w_X12_restore_L39 C0 hr hlk g0 w hx0 (lv_sub hl [1, 0] rfl) h
    · replace h := h.2 hc
      clear hc
      exact w_X12_restore_L18 C0 hr hlk w (lv_sub hl [] rfl) h
end S_X12_restore
section S_X12_roundNow
def J_X12_roundNow_L202 (len : Nat → Nat) (r : jR) (Q : Int32 → jI → jL → Prop) (Hd43 : jI → jL → Nat → Int32 → Int32 → Int32 → Int32 → Prop) (i : jI) (j : jL) (x0 : Nat) (x1 : Int32) (x2 : Int32) (x3 : Int32) (x4 : Int32) : Prop := Hd43 i j x0 x1 x2 x3 x4
def J_X12_roundNow_L167 (len : Nat → Nat) (r : jR) (Q : Int32 → jI → jL → Prop) (Hd43 : jI → jL → Nat → Int32 → Int32 → Int32 → Int32 → Prop) (i : jI) (j : jL) (x0 : Nat) (x1 : Int32) (x2 : Int32) (x3 : Int32) (x4 : Int32) (x5 : Int32) (t0 : Int32) : Prop := ((t0 = (-1 : Int32)) → (J_X12_roundNow_L202 len r Q Hd43 i j x0 x1 x2 x3 x4)) ∧ ((¬ t0 = (-1 : Int32)) → (∀ v182 : Int32, v182 = x4 ||| ((1 : Int32) <<< (x5 &&& 31)) → (∀ v184 : Int32, v184 = x3 + (1 : Int32) → (∃ a188, r x0 31 = some a188 ∧ (vp_in v184 (len a188) ∧ ∀ i194 : jI, i194 = ju i a188 v184.toNatClampNeg t0 → (∃ a196, r x0 32 = some a196 ∧ (vp_in v184 (len a196) ∧ ∀ i201 : jI, i201 = ju i194 a196 v184.toNatClampNeg (0 : Int32) → (J_X12_roundNow_L202 len r Q Hd43 i201 j x0 x1 x2 v184 v182))))))))
def J_X12_roundNow_L120 (len : Nat → Nat) (r : jR) (Q : Int32 → jI → jL → Prop) (Hd43 : jI → jL → Nat → Int32 → Int32 → Int32 → Int32 → Prop) (i : jI) (j : jL) (x0 : Nat) (x1 : Int32) (x2 : Int32) (x3 : Int32) (t0 : Int32) : Prop := J_X12_roundNow_L202 len r Q Hd43 i j x0 x1 x2 x3 t0
def J_X12_roundNow_L77 (len : Nat → Nat) (r : jR) (Q : Int32 → jI → jL → Prop) (Hd43 : jI → jL → Nat → Int32 → Int32 → Int32 → Int32 → Prop) (i : jI) (j : jL) (x0 : Nat) (x1 : Int32) (x2 : Int32) (x3 : Int32) (x4 : Int32) : Prop := ∃ a78, r x0 32 = some a78 ∧ (vp_in x3 (len a78) ∧ (∀ v83 : Int32, v83 = i a78 x3.toNatClampNeg → (((v83 < (i x0 0)) → (∃ a126, r x0 32 = some a126 ∧ (vp_in x3 (len a126) ∧ (vp_in x3 (len a126) ∧ ∀ i134 : jI, i134 = ju i a126 x3.toNatClampNeg ((i a126 x3.toNatClampNeg) + (1 : Int32)) → (J_X12_has len r (fun (q139 : Int32) (i139 : jI) (j139 : jL) => ((q139 = 0) → (∃ a151, r x0 9 = some a151 ∧ (vp_in x1 (len a151) ∧ (∃ a157, r x0 31 = some a157 ∧ (vp_in x3 (len a157) ∧ (J_X12_behind len r (fun (q164 : Int32) (i164 : jI) (j164 : jL) => J_X12_roundNow_L167 len r Q Hd43 i164 j164 x0 x1 x2 x3 x4 v83 q164) i139 j139 x0 (i139 a151 x1.toNatClampNeg) (i139 a157 x3.toNatClampNeg) v83)))))) ∧ ((¬ q139 = 0) → (J_X12_roundNow_L167 len r Q Hd43 i139 j139 x0 x1 x2 x3 x4 v83 (-1 : Int32)))) i134 j x4 v83))))) ∧ ((¬ v83 < (i x0 0)) → (∀ v94 : Int32, v94 = x3 + (-1 : Int32) → (((v94 < 0) → (J_X12_roundNow_L120 len r Q Hd43 i j x0 x1 x2 v94 (0 : Int32))) ∧ ((¬ v94 < 0) → (∃ a105, r x0 32 = some a105 ∧ (vp_in v94 (len a105) ∧ (J_X12_roundNow_L120 len r Q Hd43 i j x0 x1 x2 v94 (x4 &&& (((1 : Int32) <<< (((i a105 v94.toNatClampNeg) - (1 : Int32)) &&& 31)) ^^^ (-1 : Int32)))))))))))))
def J_X12_roundNow_L43 (len : Nat → Nat) (r : jR) (Q : Int32 → jI → jL → Prop) : Nat → jI → jL → Nat → Int32 → Int32 → Int32 → Int32 → Prop
  | 0 => fun _ _ _ _ _ _ _ => False
  | g + 1 => fun i j x0 x1 x2 x3 x4 => ((x3 < 0) → (Q (-1 : Int32) i j)) ∧ ((¬ x3 < 0) → (((¬ x3 = (i x0 0)) → (J_X12_roundNow_L77 len r Q (J_X12_roundNow_L43 len r Q g) i j x0 x1 x2 x3 x4)) ∧ ((x3 = (i x0 0)) → (∃ a56, r x0 31 = some a56 ∧ (vp_in x3 (len a56) ∧ (J_X12_placeIn len r (fun (q61 : Int32) (i61 : jI) (j61 : jL) => ((¬ q61 = x2) → (J_X12_roundNow_L77 len r Q (J_X12_roundNow_L43 len r Q g) i61 j61 x0 x1 x2 x3 x4)) ∧ ((q61 = x2) → (∃ a69, r x0 32 = some a69 ∧ (vp_in (0 : Int32) (len a69) ∧ (Q ((i61 a69 (0 : Int32).toNatClampNeg) - (1 : Int32)) i61 j61))))) i j (i a56 x3.toNatClampNeg)))))))
def J_X12_roundNow (len : Nat → Nat) (r : jR) (Q : Int32 → jI → jL → Prop) (i : jI) (j : jL) (x0 : Nat) (x1 : Int32) : Prop := ∃ a1, r x0 10 = some a1 ∧ (vp_in x1 (len a1) ∧ (J_X12_placeIn len r (fun (q6 : Int32) (i6 : jI) (j6 : jL) => J_X12_isEvenTown len r (fun (q11 : Int32) (i11 : jI) (j11 : jL) => ((¬ q11 = 0) → (∃ a25, r x0 31 = some a25 ∧ (∃ a30, r x0 10 = some a30 ∧ (vp_in x1 (len a30) ∧ (vp_in (0 : Int32) (len a25) ∧ ∀ i35 : jI, i35 = ju i11 a25 (0 : Int32).toNatClampNeg (i11 a30 x1.toNatClampNeg) → (∃ a37, r x0 32 = some a37 ∧ (vp_in (0 : Int32) (len a37) ∧ ∀ i42 : jI, i42 = ju i35 a37 (0 : Int32).toNatClampNeg (0 : Int32) → (∃ g0, J_X12_roundNow_L43 len r Q g0 i42 j11 x0 x1 q6 (0 : Int32) (0 : Int32))))))))) ∧ ((q11 = 0) → (Q (-1 : Int32) i11 j11))) i6 j6 x0) i j (i a1 x1.toNatClampNeg)))
abbrev rm_X12_roundNow : Room := { frames := 3, cells := 0, slots := 0, locals := 71 }
variable {p : Program} {l : Launch} {e : Env} {s : State} {m : MethodId} {args : Array Value} {below : List Frame} {meth : Method} {c : Code} {b tU n : Nat} {cy : Nat → ClassId} {D : va_G} {K len : Nat → Nat} {r : jR} {Q : Int32 → jI → jL → Prop}
theorem hiX12_X12_roundNow : ∀ w ∈ u_ws RX12 TX12 51, w ∈ wsX12_roundNow := by decide +kernel
set_option maxHeartbeats 4000000 in
set_option maxRecDepth 100000 in
theorem w_X12_roundNow_L202 (C0 : jCx p s m args c cX12_roundNow 7 wsX12_roundNow RX12 b cy D tU n K r) (hr : meth.sig.returnType = some .int) (hlk : meth.locks = false) {Hd43 : jI → jL → Nat → Int32 → Int32 → Int32 → Int32 → Prop} (k43 : ∀ {H : Heap} {locs : List Loc} {ls : Array Slot} {i : jI} {j : jL} {x0 : Nat} {x1 : Int32} {x2 : Int32} {x3 : Int32} {x4 : Int32} (w : jDy b cy D n K len r i j s H locs) (hx0 : x0 < n ∧ K x0 = 11) (hl : lv_has ls 7 [(0, .ref (b + x0)), (1, .int x1), (2, .int x2), (3, .int x3), (4, .int x4)]) (h : Hd43 i j x0 x1 x2 x3 x4), W p l e rm_X12_roundNow s m args below meth c H locs 0 0 (MQ below (jQi b cy D tU n K len r Q) args s 0 0 (jA b)) (F0 m 43 ls [])) {H : Heap} {locs : List Loc} {ls : Array Slot} {i : jI} {j : jL} {x0 : Nat} {x1 : Int32} {x2 : Int32} {x3 : Int32} {x4 : Int32} (w : jDy b cy D n K len r i j s H locs) (hx0 : x0 < n ∧ K x0 = 11) (hl : lv_has ls 7 [(0, .ref (b + x0)), (1, .int x1), (2, .int x2), (3, .int x3), (4, .int x4)]) (h : J_X12_roundNow_L202 len r Q Hd43 i j x0 x1 x2 x3 x4) : W p l e rm_X12_roundNow s m args below meth c H locs 0 0 (MQ below (jQi b cy D tU n K len r Q) args s 0 0 (jA b)) (F0 m 202 ls []) := by
  obtain ⟨hx, hb, hml, hown, hts, hst, hG⟩ := id C0
  have hiX12 : ∀ w ∈ u_ws RX12 TX12 51, w ∈ wsX12_roundNow := hiX12_X12_roundNow
  rw [J_X12_roundNow_L202] at h
  refine lv_goto (tgt := 43) hx hb dX12_roundNow_202 (by decide) ?_
  exact k43 w hx0 (lv_sub hl [0, 1, 2, 3, 4] rfl) h
set_option maxHeartbeats 4000000 in
set_option maxRecDepth 100000 in
theorem w_X12_roundNow_L167 (C0 : jCx p s m args c cX12_roundNow 7 wsX12_roundNow RX12 b cy D tU n K r) (hr : meth.sig.returnType = some .int) (hlk : meth.locks = false) {Hd43 : jI → jL → Nat → Int32 → Int32 → Int32 → Int32 → Prop} (k43 : ∀ {H : Heap} {locs : List Loc} {ls : Array Slot} {i : jI} {j : jL} {x0 : Nat} {x1 : Int32} {x2 : Int32} {x3 : Int32} {x4 : Int32} (w : jDy b cy D n K len r i j s H locs) (hx0 : x0 < n ∧ K x0 = 11) (hl : lv_has ls 7 [(0, .ref (b + x0)), (1, .int x1), (2, .int x2), (3, .int x3), (4, .int x4)]) (h : Hd43 i j x0 x1 x2 x3 x4), W p l e rm_X12_roundNow s m args below meth c H locs 0 0 (MQ below (jQi b cy D tU n K len r Q) args s 0 0 (jA b)) (F0 m 43 ls [])) {H : Heap} {locs : List Loc} {ls : Array Slot} {i : jI} {j : jL} {x0 : Nat} {x1 : Int32} {x2 : Int32} {x3 : Int32} {x4 : Int32} {x5 : Int32} {t0 : Int32} (w : jDy b cy D n K len r i j s H locs) (hx0 : x0 < n ∧ K x0 = 11) (hl : lv_has ls 7 [(0, .ref (b + x0)), (1, .int x1), (2, .int x2), (3, .int x3), (4, .int x4), (5, .int x5)]) (h : J_X12_roundNow_L167 len r Q Hd43 i j x0 x1 x2 x3 x4 x5 t0) : W p l e rm_X12_roundNow s m args below meth c H locs 0 0 (MQ below (jQi b cy D tU n K len r Q) args s 0 0 (jA b)) (F0 m 167 ls [.int t0]) := by
  obtain ⟨hx, hb, hml, hown, hts, hst, hG⟩ := id C0
  have hiX12 : ∀ w ∈ u_ws RX12 TX12 51, w ∈ wsX12_roundNow := hiX12_X12_roundNow
  rw [J_X12_roundNow_L167] at h
  refine lv_istore (lv' := [(6, .int t0), (0, .ref (b + x0)), (1, .int x1), (2, .int x2), (3, .int x3), (4, .int x4), (5, .int x5)]) hx hb dX12_roundNow_167 hl (by decide) rfl (fun ls hl => ?_)
  refine lv_iload hx hb dX12_roundNow_169 (lv_at hl 0 rfl) ?_
  refine lv_iconst (v := (-1 : Int32)) hx hb dX12_roundNow_171 (by decide) ?_
  refine lv_icmp_eq (tgt := 202) hx hb dX12_roundNow_172 (by decide) (fun hc => ?_) (fun hc => ?_)
  · replace h := h.1 hc
    clear hc
    exact w_X12_roundNow_L202 C0 hr hlk (fun w hx0 hl h => k43 w hx0 hl h) w hx0 (lv_sub hl [1, 2, 3, 4, 5] rfl) h
  · replace h := h.2 hc
    clear hc
    refine lv_iload hx hb dX12_roundNow_175 (lv_at hl 5 rfl) ?_
    refine lv_iconst (v := (1 : Int32)) hx hb dX12_roundNow_177 (by decide) ?_
    refine lv_iload hx hb dX12_roundNow_178 (lv_at hl 6 rfl) ?_
    refine lv_ishl hx hb dX12_roundNow_180 ?_
    refine lv_ior hx hb dX12_roundNow_181 ?_
    refine lv_topi (fun v182 he => ?_)
    replace h := h v182 he
    clear he
    refine lv_istore (lv' := [(4, .int v182), (6, .int t0), (0, .ref (b + x0)), (1, .int x1), (2, .int x2), (3, .int x3), (5, .int x5)]) hx hb dX12_roundNow_182 hl (by decide) rfl (fun ls hl => ?_)
    obtain ⟨v184, he⟩ : ∃ z : Int32, z = x3 + (1 : Int32) := ⟨_, rfl⟩
    replace h := h v184 he
    refine lv_iinc (v := v184) (lv' := [(3, .int v184), (4, .int v182), (6, .int t0), (0, .ref (b + x0)), (1, .int x1), (2, .int x2), (5, .int x5)]) hx hb dX12_roundNow_184 hl (k := 5) rfl (by rw [he]; rfl) (by decide) rfl (fun ls hl => ?_)
    clear he
    refine lv_aload_n hx hb dX12_roundNow_187 rfl (lv_at hl 3 rfl) ?_
    obtain ⟨a188, hr0, h⟩ := h
    refine jgr (f := 31) hx hb hts hown hst w hG hx0 hiX12 (rfl : vwCl[11]? = some (RX12, TX12, 51)) (hts (.fieldLink RX12 60 "FootByGateModel" "roundStands" "[I") (by decide +kernel)) ⟨by decide, by decide, rfl⟩ (rfl : jrt 11 31 = 13) dX12_roundNow_188 hr0 (fun ha188 => ?_)
    clear hr0
    refine lv_iload_n hx hb dX12_roundNow_191 rfl (lv_at hl 0 rfl) ?_
    refine lv_iload hx hb dX12_roundNow_192 (lv_at hl 2 rfl) ?_
    obtain ⟨hn, h⟩ := h
    refine jais hx hb hst w ha188 hn dX12_roundNow_194 (fun i194 H locs he w => ?_)
    replace h := h i194 he
    clear he hn
    refine lv_aload_n hx hb dX12_roundNow_195 rfl (lv_at hl 3 rfl) ?_
    obtain ⟨a196, hr0, h⟩ := h
    refine jgr (f := 32) hx hb hts hown hst w hG hx0 hiX12 (rfl : vwCl[11]? = some (RX12, TX12, 51)) (hts (.fieldLink RX12 63 "FootByGateModel" "roundTry" "[I") (by decide +kernel)) ⟨by decide, by decide, rfl⟩ (rfl : jrt 11 32 = 13) dX12_roundNow_196 hr0 (fun ha196 => ?_)
    clear hr0
    refine lv_iload_n hx hb dX12_roundNow_199 rfl (lv_at hl 0 rfl) ?_
    refine lv_iconst (v := (0 : Int32)) hx hb dX12_roundNow_200 (by decide) ?_
    obtain ⟨hn, h⟩ := h
    refine jais hx hb hst w ha196 hn dX12_roundNow_201 (fun i201 H locs he w => ?_)
    replace h := h i201 he
    clear he hn
    exact w_X12_roundNow_L202 C0 hr hlk (fun w hx0 hl h => k43 w hx0 hl h) w hx0 (lv_sub hl [3, 4, 5, 0, 1] rfl) h
set_option maxHeartbeats 4000000 in
set_option maxRecDepth 100000 in
theorem w_X12_roundNow_L120 (C0 : jCx p s m args c cX12_roundNow 7 wsX12_roundNow RX12 b cy D tU n K r) (hr : meth.sig.returnType = some .int) (hlk : meth.locks = false) {Hd43 : jI → jL → Nat → Int32 → Int32 → Int32 → Int32 → Prop} (k43 : ∀ {H : Heap} {locs : List Loc} {ls : Array Slot} {i : jI} {j : jL} {x0 : Nat} {x1 : Int32} {x2 : Int32} {x3 : Int32} {x4 : Int32} (w : jDy b cy D n K len r i j s H locs) (hx0 : x0 < n ∧ K x0 = 11) (hl : lv_has ls 7 [(0, .ref (b + x0)), (1, .int x1), (2, .int x2), (3, .int x3), (4, .int x4)]) (h : Hd43 i j x0 x1 x2 x3 x4), W p l e rm_X12_roundNow s m args below meth c H locs 0 0 (MQ below (jQi b cy D tU n K len r Q) args s 0 0 (jA b)) (F0 m 43 ls [])) {H : Heap} {locs : List Loc} {ls : Array Slot} {i : jI} {j : jL} {x0 : Nat} {x1 : Int32} {x2 : Int32} {x3 : Int32} {t0 : Int32} (w : jDy b cy D n K len r i j s H locs) (hx0 : x0 < n ∧ K x0 = 11) (hl : lv_has ls 7 [(0, .ref (b + x0)), (1, .int x1), (2, .int x2), (3, .int x3)]) (h : J_X12_roundNow_L120 len r Q Hd43 i j x0 x1 x2 x3 t0) : W p l e rm_X12_roundNow s m args below meth c H locs 0 0 (MQ below (jQi b cy D tU n K len r Q) args s 0 0 (jA b)) (F0 m 120 ls [.int t0]) := by
  obtain ⟨hx, hb, hml, hown, hts, hst, hG⟩ := id C0
  have hiX12 : ∀ w ∈ u_ws RX12 TX12 51, w ∈ wsX12_roundNow := hiX12_X12_roundNow
  rw [J_X12_roundNow_L120] at h
  refine lv_istore (lv' := [(4, .int t0), (0, .ref (b + x0)), (1, .int x1), (2, .int x2), (3, .int x3)]) hx hb dX12_roundNow_120 hl (by decide) rfl (fun ls hl => ?_)
  refine lv_goto (tgt := 202) hx hb dX12_roundNow_122 (by decide) ?_
  exact w_X12_roundNow_L202 C0 hr hlk (fun w hx0 hl h => k43 w hx0 hl h) w hx0 (lv_sub hl [1, 2, 3, 4, 0] rfl) h
set_option maxHeartbeats 4000000 in
set_option maxRecDepth 100000 in
theorem w_X12_roundNow_L77 (C0 : jCx p s m args c cX12_roundNow 7 wsX12_roundNow RX12 b cy D tU n K r) (hr : meth.sig.returnType = some .int) (hlk : meth.locks = false) {Hd43 : jI → jL → Nat → Int32 → Int32 → Int32 → Int32 → Prop} (k43 : ∀ {H : Heap} {locs : List Loc} {ls : Array Slot} {i : jI} {j : jL} {x0 : Nat} {x1 : Int32} {x2 : Int32} {x3 : Int32} {x4 : Int32} (w : jDy b cy D n K len r i j s H locs) (hx0 : x0 < n ∧ K x0 = 11) (hl : lv_has ls 7 [(0, .ref (b + x0)), (1, .int x1), (2, .int x2), (3, .int x3), (4, .int x4)]) (h : Hd43 i j x0 x1 x2 x3 x4), W p l e rm_X12_roundNow s m args below meth c H locs 0 0 (MQ below (jQi b cy D tU n K len r Q) args s 0 0 (jA b)) (F0 m 43 ls [])) {H : Heap} {locs : List Loc} {ls : Array Slot} {i : jI} {j : jL} {x0 : Nat} {x1 : Int32} {x2 : Int32} {x3 : Int32} {x4 : Int32} (w : jDy b cy D n K len r i j s H locs) (hx0 : x0 < n ∧ K x0 = 11) (hl : lv_has ls 7 [(0, .ref (b + x0)), (1, .int x1), (2, .int x2), (3, .int x3), (4, .int x4)]) (h : J_X12_roundNow_L77 len r Q Hd43 i j x0 x1 x2 x3 x4) : W p l e rm_X12_roundNow s m args below meth c H locs 0 0 (MQ below (jQi b cy D tU n K len r Q) args s 0 0 (jA b)) (F0 m 77 ls []) := by
  obtain ⟨hx, hb, hml, hown, hts, hst, hG⟩ := id C0
  have hiX12 : ∀ w ∈ u_ws RX12 TX12 51, w ∈ wsX12_roundNow := hiX12_X12_roundNow
  rw [J_X12_roundNow_L77] at h
  refine lv_aload_n hx hb dX12_roundNow_77 rfl (lv_at hl 0 rfl) ?_
  obtain ⟨a78, hr0, h⟩ := h
  refine jgr (f := 32) hx hb hts hown hst w hG hx0 hiX12 (rfl : vwCl[11]? = some (RX12, TX12, 51)) (hts (.fieldLink RX12 63 "FootByGateModel" "roundTry" "[I") (by decide +kernel)) ⟨by decide, by decide, rfl⟩ (rfl : jrt 11 32 = 13) dX12_roundNow_78 hr0 (fun ha78 => ?_)
  clear hr0
  refine lv_iload_n hx hb dX12_roundNow_81 rfl (lv_at hl 3 rfl) ?_
  obtain ⟨hn, h⟩ := h
  refine jaid hx hb hst w ha78 hn dX12_roundNow_82 ?_
  clear hn
  refine lv_topi (fun v83 he => ?_)
  replace h := h v83 he
  clear he
  refine lv_istore (lv' := [(5, .int v83), (0, .ref (b + x0)), (1, .int x1), (2, .int x2), (3, .int x3), (4, .int x4)]) hx hb dX12_roundNow_83 hl (by decide) rfl (fun ls hl => ?_)
  refine lv_iload hx hb dX12_roundNow_85 (lv_at hl 0 rfl) ?_
  refine lv_aload_n hx hb dX12_roundNow_87 rfl (lv_at hl 1 rfl) ?_
  refine jgi (f := 0) hx hb hts hown hst w hx0 hiX12 (rfl : vwCl[11]? = some (RX12, TX12, 51)) (hts (.fieldLink RX12 126 "FootByGateModel" "streets" "I") (by decide +kernel)) ⟨by decide, by decide, rfl⟩ dX12_roundNow_88 ?_
  refine lv_icmp_lt (tgt := 125) hx hb dX12_roundNow_91 (by decide) (fun hc => ?_) (fun hc => ?_)
  · replace h := h.1 hc
    clear hc
    refine lv_aload_n hx hb dX12_roundNow_125 rfl (lv_at hl 1 rfl) ?_
    obtain ⟨a126, hr0, h⟩ := h
    refine jgr (f := 32) hx hb hts hown hst w hG hx0 hiX12 (rfl : vwCl[11]? = some (RX12, TX12, 51)) (hts (.fieldLink RX12 63 "FootByGateModel" "roundTry" "[I") (by decide +kernel)) ⟨by decide, by decide, rfl⟩ (rfl : jrt 11 32 = 13) dX12_roundNow_126 hr0 (fun ha126 => ?_)
    clear hr0
    refine lv_iload_n hx hb dX12_roundNow_129 rfl (lv_at hl 4 rfl) ?_
    refine lv_dup2_11 hx hb dX12_roundNow_130 rfl rfl ?_
    obtain ⟨hn, h⟩ := h
    refine jaid hx hb hst w ha126 hn dX12_roundNow_131 ?_
    clear hn
    refine lv_iconst (v := (1 : Int32)) hx hb dX12_roundNow_132 (by decide) ?_
    refine lv_iadd hx hb dX12_roundNow_133 ?_
    obtain ⟨hn, h⟩ := h
    refine jais hx hb hst w ha126 hn dX12_roundNow_134 (fun i134 H locs he w => ?_)
    replace h := h i134 he
    clear he hn
    refine lv_iload hx hb dX12_roundNow_135 (lv_at hl 5 rfl) ?_
    refine lv_iload hx hb dX12_roundNow_137 (lv_at hl 0 rfl) ?_
    refine jcS_i (As := [.int x4, .int v83]) (rest := []) C0 w (c_X12_has hG h) (va_cwS 2 hts gX12_roundNow_X12_has rfl rfl rfl (by decide +kernel) ⟨Nat.le_of_ble_eq_true rfl, Nat.le_of_ble_eq_true rfl⟩) rfl hl.1 rfl (Nat.le_of_ble_eq_true rfl) dX12_roundNow_139 (fun q139 i139 j139 H locs h w => ?_) ⟨Nat.zero_le _, Nat.zero_le _⟩
    refine lv_if_eq (tgt := 149) hx hb dX12_roundNow_142 (by decide) (fun hc => ?_) (fun hc => ?_)
    · replace h := h.1 hc
      clear hc
      refine lv_aload_n hx hb dX12_roundNow_149 rfl (lv_at hl 1 rfl) ?_
      refine lv_aload_n hx hb dX12_roundNow_150 rfl (lv_at hl 1 rfl) ?_
      obtain ⟨a151, hr0, h⟩ := h
      refine jgr (f := 9) hx hb hts hown hst w hG hx0 hiX12 (rfl : vwCl[11]? = some (RX12, TX12, 51)) (hts (.fieldLink RX12 22 "FootByGateModel" "kindOf" "[I") (by decide +kernel)) ⟨by decide, by decide, rfl⟩ (rfl : jrt 11 9 = 13) dX12_roundNow_151 hr0 (fun ha151 => ?_)
      clear hr0
      refine lv_iload_n hx hb dX12_roundNow_154 rfl (lv_at hl 2 rfl) ?_
      obtain ⟨hn, h⟩ := h
      refine jaid hx hb hst w ha151 hn dX12_roundNow_155 ?_
      clear hn
      refine lv_aload_n hx hb dX12_roundNow_156 rfl (lv_at hl 1 rfl) ?_
      obtain ⟨a157, hr0, h⟩ := h
      refine jgr (f := 31) hx hb hts hown hst w hG hx0 hiX12 (rfl : vwCl[11]? = some (RX12, TX12, 51)) (hts (.fieldLink RX12 60 "FootByGateModel" "roundStands" "[I") (by decide +kernel)) ⟨by decide, by decide, rfl⟩ (rfl : jrt 11 31 = 13) dX12_roundNow_157 hr0 (fun ha157 => ?_)
      clear hr0
      refine lv_iload_n hx hb dX12_roundNow_160 rfl (lv_at hl 4 rfl) ?_
      obtain ⟨hn, h⟩ := h
      refine jaid hx hb hst w ha157 hn dX12_roundNow_161 ?_
      clear hn
      refine lv_iload hx hb dX12_roundNow_162 (lv_at hl 0 rfl) ?_
      refine jcV_i (k := x0) (As := [.int (i139 a151 x1.toNatClampNeg), .int (i139 a157 x3.toNatClampNeg), .int v83]) (rest := []) C0 w (c_X12_behind hG hx0 h) (cwV 3 hts gX12_roundNow_X12_behind rfl rfl rfl (by decide +kernel) ⟨Nat.le_of_ble_eq_true rfl, Nat.le_of_ble_eq_true rfl⟩) hx0 (rfl : vwCl[11]? = some (RX12, TX12, 51)) (by decide) rfl hl.1 rfl (Nat.le_of_ble_eq_true rfl) dX12_roundNow_164 (fun q164 i164 j164 H locs h w => ?_) ⟨Nat.zero_le _, Nat.zero_le _⟩
      exact w_X12_roundNow_L167 C0 hr hlk (fun w hx0 hl h => k43 w hx0 hl h) w hx0 (lv_sub hl [1, 2, 3, 4, 5, 0] rfl) h
    · replace h := h.2 hc
      clear hc
      refine lv_iconst (v := (-1 : Int32)) hx hb dX12_roundNow_145 (by decide) ?_
      refine lv_goto (tgt := 167) hx hb dX12_roundNow_146 (by decide) ?_
      exact w_X12_roundNow_L167 C0 hr hlk (fun w hx0 hl h => k43 w hx0 hl h) w hx0 (lv_sub hl [1, 2, 3, 4, 5, 0] rfl) h
  · replace h := h.2 hc
    clear hc
    obtain ⟨v94, he⟩ : ∃ z : Int32, z = x3 + (-1 : Int32) := ⟨_, rfl⟩
    replace h := h v94 he
    refine lv_iinc (v := v94) (lv' := [(3, .int v94), (5, .int v83), (0, .ref (b + x0)), (1, .int x1), (2, .int x2), (4, .int x4)]) hx hb dX12_roundNow_94 hl (k := 4) rfl (by rw [he]; rfl) (by decide) rfl (fun ls hl => ?_)
    clear he
    refine lv_iload_n hx hb dX12_roundNow_97 rfl (lv_at hl 0 rfl) ?_
    refine lv_if_lt (tgt := 119) hx hb dX12_roundNow_98 (by decide) (fun hc => ?_) (fun hc => ?_)
    · replace h := h.1 hc
      clear hc
      refine lv_iconst (v := (0 : Int32)) hx hb dX12_roundNow_119 (by decide) ?_
      exact w_X12_roundNow_L120 C0 hr hlk (fun w hx0 hl h => k43 w hx0 hl h) w hx0 (lv_sub hl [2, 3, 4, 0] rfl) h
    · replace h := h.2 hc
      clear hc
      refine lv_iload hx hb dX12_roundNow_101 (lv_at hl 5 rfl) ?_
      refine lv_iconst (v := (1 : Int32)) hx hb dX12_roundNow_103 (by decide) ?_
      refine lv_aload_n hx hb dX12_roundNow_104 rfl (lv_at hl 2 rfl) ?_
      obtain ⟨a105, hr0, h⟩ := h
      refine jgr (f := 32) hx hb hts hown hst w hG hx0 hiX12 (rfl : vwCl[11]? = some (RX12, TX12, 51)) (hts (.fieldLink RX12 63 "FootByGateModel" "roundTry" "[I") (by decide +kernel)) ⟨by decide, by decide, rfl⟩ (rfl : jrt 11 32 = 13) dX12_roundNow_105 hr0 (fun ha105 => ?_)
      clear hr0
      refine lv_iload_n hx hb dX12_roundNow_108 rfl (lv_at hl 0 rfl) ?_
      obtain ⟨hn, h⟩ := h
      refine jaid hx hb hst w ha105 hn dX12_roundNow_109 ?_
      clear hn
      refine lv_iconst (v := (1 : Int32)) hx hb dX12_roundNow_110 (by decide) ?_
      refine lv_isub hx hb dX12_roundNow_111 ?_
      refine lv_ishl hx hb dX12_roundNow_112 ?_
      refine lv_iconst (v := (-1 : Int32)) hx hb dX12_roundNow_113 (by decide) ?_
      refine lv_ixor hx hb dX12_roundNow_114 ?_
      refine lv_iand hx hb dX12_roundNow_115 ?_
      refine lv_goto (tgt := 120) hx hb dX12_roundNow_116 (by decide) ?_
      exact w_X12_roundNow_L120 C0 hr hlk (fun w hx0 hl h => k43 w hx0 hl h) w hx0 (lv_sub hl [2, 3, 4, 0] rfl) h
set_option maxHeartbeats 4000000 in
set_option maxRecDepth 100000 in
theorem w_X12_roundNow_L43 (C0 : jCx p s m args c cX12_roundNow 7 wsX12_roundNow RX12 b cy D tU n K r) (hr : meth.sig.returnType = some .int) (hlk : meth.locks = false) : ∀ (g : Nat) {H : Heap} {locs : List Loc} {ls : Array Slot} {i : jI} {j : jL} {x0 : Nat} {x1 : Int32} {x2 : Int32} {x3 : Int32} {x4 : Int32} (w : jDy b cy D n K len r i j s H locs) (hx0 : x0 < n ∧ K x0 = 11) (hl : lv_has ls 7 [(0, .ref (b + x0)), (1, .int x1), (2, .int x2), (3, .int x3), (4, .int x4)]) (h : J_X12_roundNow_L43 len r Q g i j x0 x1 x2 x3 x4), W p l e rm_X12_roundNow s m args below meth c H locs 0 0 (MQ below (jQi b cy D tU n K len r Q) args s 0 0 (jA b)) (F0 m 43 ls []) := by
  obtain ⟨hx, hb, hml, hown, hts, hst, hG⟩ := id C0
  have hiX12 : ∀ w ∈ u_ws RX12 TX12 51, w ∈ wsX12_roundNow := hiX12_X12_roundNow
  intro g
  induction g with
  | zero => intro H locs ls i j x0 x1 x2 x3 x4 w hx0 hl h; exact False.elim h
  | succ g ih =>
    intro H locs ls i j x0 x1 x2 x3 x4 w hx0 hl h
    rw [J_X12_roundNow_L43] at h
    refine lv_iload_n hx hb dX12_roundNow_43 rfl (lv_at hl 3 rfl) ?_
    refine lv_if_lt (tgt := 205) hx hb dX12_roundNow_44 (by decide) (fun hc => ?_) (fun hc => ?_)
    · replace h := h.1 hc
      clear hc
      refine lv_iconst (v := (-1 : Int32)) hx hb dX12_roundNow_205 (by decide) ?_
      exact jret_i hx hb hr hlk hst w h dX12_roundNow_206
    · replace h := h.2 hc
      clear hc
      refine lv_iload_n hx hb dX12_roundNow_47 rfl (lv_at hl 3 rfl) ?_
      refine lv_aload_n hx hb dX12_roundNow_48 rfl (lv_at hl 0 rfl) ?_
      refine jgi (f := 0) hx hb hts hown hst w hx0 hiX12 (rfl : vwCl[11]? = some (RX12, TX12, 51)) (hts (.fieldLink RX12 126 "FootByGateModel" "streets" "I") (by decide +kernel)) ⟨by decide, by decide, rfl⟩ dX12_roundNow_49 ?_
      refine lv_icmp_ne (tgt := 77) hx hb dX12_roundNow_52 (by decide) (fun hc => ?_) (fun hc => ?_)
      · replace h := h.1 hc
        clear hc
        exact w_X12_roundNow_L77 C0 hr hlk (fun w hx0 hl h => ih w hx0 hl h) w hx0 (lv_sub hl [0, 1, 2, 3, 4] rfl) h
      · replace h := h.2 hc
        clear hc
        refine lv_aload_n hx hb dX12_roundNow_55 rfl (lv_at hl 0 rfl) ?_
        obtain ⟨a56, hr0, h⟩ := h
        refine jgr (f := 31) hx hb hts hown hst w hG hx0 hiX12 (rfl : vwCl[11]? = some (RX12, TX12, 51)) (hts (.fieldLink RX12 60 "FootByGateModel" "roundStands" "[I") (by decide +kernel)) ⟨by decide, by decide, rfl⟩ (rfl : jrt 11 31 = 13) dX12_roundNow_56 hr0 (fun ha56 => ?_)
        clear hr0
        refine lv_iload_n hx hb dX12_roundNow_59 rfl (lv_at hl 3 rfl) ?_
        obtain ⟨hn, h⟩ := h
        refine jaid hx hb hst w ha56 hn dX12_roundNow_60 ?_
        clear hn
        refine jcS_i (As := [.int (i a56 x3.toNatClampNeg)]) (rest := []) C0 w (c_X12_placeIn hG h) (va_cwS 1 hts gX12_roundNow_X12_placeIn rfl rfl rfl (by decide +kernel) ⟨Nat.le_of_ble_eq_true rfl, Nat.le_of_ble_eq_true rfl⟩) rfl hl.1 rfl (Nat.le_of_ble_eq_true rfl) dX12_roundNow_61 (fun q61 i61 j61 H locs h w => ?_) ⟨Nat.zero_le _, Nat.zero_le _⟩
        refine lv_iload_n hx hb dX12_roundNow_64 rfl (lv_at hl 2 rfl) ?_
        refine lv_icmp_ne (tgt := 77) hx hb dX12_roundNow_65 (by decide) (fun hc => ?_) (fun hc => ?_)
        · replace h := h.1 hc
          clear hc
          exact w_X12_roundNow_L77 C0 hr hlk (fun w hx0 hl h => ih w hx0 hl h) w hx0 (lv_sub hl [0, 1, 2, 3, 4] rfl) h
        · replace h := h.2 hc
          clear hc
          refine lv_aload_n hx hb dX12_roundNow_68 rfl (lv_at hl 0 rfl) ?_
          obtain ⟨a69, hr0, h⟩ := h
          refine jgr (f := 32) hx hb hts hown hst w hG hx0 hiX12 (rfl : vwCl[11]? = some (RX12, TX12, 51)) (hts (.fieldLink RX12 63 "FootByGateModel" "roundTry" "[I") (by decide +kernel)) ⟨by decide, by decide, rfl⟩ (rfl : jrt 11 32 = 13) dX12_roundNow_69 hr0 (fun ha69 => ?_)
          clear hr0
          refine lv_iconst (v := (0 : Int32)) hx hb dX12_roundNow_72 (by decide) ?_
          obtain ⟨hn, h⟩ := h
          refine jaid hx hb hst w ha69 hn dX12_roundNow_73 ?_
          clear hn
          refine lv_iconst (v := (1 : Int32)) hx hb dX12_roundNow_74 (by decide) ?_
          refine lv_isub hx hb dX12_roundNow_75 ?_
          exact jret_i hx hb hr hlk hst w h dX12_roundNow_76
set_option maxHeartbeats 4000000 in
set_option maxRecDepth 100000 in
theorem c_X12_roundNow (hG : jG n K r) {i : jI} {j : jL} {x0 : Nat} {x1 : Int32} (hx0 : x0 < n ∧ K x0 = 11) (h : J_X12_roundNow len r Q i j x0 x1) : Met l yX12_roundNow wsX12_roundNow rm_X12_roundNow (va_Pc [.ref (b + x0), .int x1] (jPre b cy D tU n K len r i j)) (jQi b cy D tU n K len r Q) 0 0 (jA b) := by
  refine Met.ofW (cc := cX12_roundNow) (maxL := 7) (ret := (some .int)) (by decide) rfl ?_
  intro p e s m args below meth c s₁ B hml hv
  obtain ⟨rfl, hv⟩ := hv
  have C0 : jCx p s m _ c cX12_roundNow 7 wsX12_roundNow RX12 b cy D tU n K r := ⟨B.exec, B.bytes, hml, findClass_of_methodNamed B.named, atoms_spec (ws := wsX12_roundNow) B.pre, hv.2.2, hG⟩
  have hr := B.returns
  have hlk := B.notSynchronized
  obtain ⟨hx, hb, hml, hown, hts, hst, hG⟩ := id C0
  have hiX12 : ∀ w ∈ u_ws RX12 TX12 51, w ∈ wsX12_roundNow := hiX12_X12_roundNow
  have w := jDy.start hv
  have hl := lv_entry ([.ref (b + x0), .int x1]) (n := 7) (Nat.le_of_ble_eq_true rfl)
  rw [lg_entry_eq]
  generalize (lg_sl ([.ref (b + x0), .int x1]) ++ List.replicate (7 - (lg_sl ([.ref (b + x0), .int x1])).length) Slot.unset).toArray = ls at hl ⊢
  replace hl : lv_has ls 7 [(0, .ref (b + x0)), (1, .int x1)] := hl
  show W p l e rm_X12_roundNow s m _ below meth c s.heap [] 0 0 _ (F0 m 0 ls [])
  rw [J_X12_roundNow] at h
  refine lv_aload_n hx hb dX12_roundNow_0 rfl (lv_at hl 0 rfl) ?_
  obtain ⟨a1, hr0, h⟩ := h
  refine jgr (f := 10) hx hb hts hown hst w hG hx0 hiX12 (rfl : vwCl[11]? = some (RX12, TX12, 51)) (hts (.fieldLink RX12 25 "FootByGateModel" "standsOf" "[I") (by decide +kernel)) ⟨by decide, by decide, rfl⟩ (rfl : jrt 11 10 = 13) dX12_roundNow_1 hr0 (fun ha1 => ?_)
  clear hr0
  refine lv_iload_n hx hb dX12_roundNow_4 rfl (lv_at hl 1 rfl) ?_
  obtain ⟨hn, h⟩ := h
  refine jaid hx hb hst w ha1 hn dX12_roundNow_5 ?_
  clear hn
  refine jcS_i (As := [.int (i a1 x1.toNatClampNeg)]) (rest := []) C0 w (c_X12_placeIn hG h) (va_cwS 1 hts gX12_roundNow_X12_placeIn rfl rfl rfl (by decide +kernel) ⟨Nat.le_of_ble_eq_true rfl, Nat.le_of_ble_eq_true rfl⟩) rfl hl.1 rfl (Nat.le_of_ble_eq_true rfl) dX12_roundNow_6 (fun q6 i6 j6 H locs h w => ?_) ⟨Nat.zero_le _, Nat.zero_le _⟩
  refine lv_istore_n (lv' := [(2, .int q6), (0, .ref (b + x0)), (1, .int x1)]) hx hb dX12_roundNow_9 rfl hl (by decide) rfl (fun ls hl => ?_)
  refine lv_aload_n hx hb dX12_roundNow_10 rfl (lv_at hl 1 rfl) ?_
  refine jcV_i (k := x0) (As := []) (rest := []) C0 w (c_X12_isEvenTown hG hx0 h) (cwV 0 hts gX12_roundNow_X12_isEvenTown rfl rfl rfl (by decide +kernel) ⟨Nat.le_of_ble_eq_true rfl, Nat.le_of_ble_eq_true rfl⟩) hx0 (rfl : vwCl[11]? = some (RX12, TX12, 51)) (by decide) rfl hl.1 rfl (Nat.le_of_ble_eq_true rfl) dX12_roundNow_11 (fun q11 i11 j11 H locs h w => ?_) ⟨Nat.zero_le _, Nat.zero_le _⟩
  refine lv_if_ne (tgt := 19) hx hb dX12_roundNow_14 (by decide) (fun hc => ?_) (fun hc => ?_)
  · replace h := h.1 hc
    clear hc
    refine lv_iconst (v := (0 : Int32)) hx hb dX12_roundNow_19 (by decide) ?_
    refine lv_istore_n (lv' := [(3, .int (0 : Int32)), (2, .int q6), (0, .ref (b + x0)), (1, .int x1)]) hx hb dX12_roundNow_20 rfl hl (by decide) rfl (fun ls hl => ?_)
    refine lv_iconst (v := (0 : Int32)) hx hb dX12_roundNow_21 (by decide) ?_
    refine lv_istore (lv' := [(4, .int (0 : Int32)), (3, .int (0 : Int32)), (2, .int q6), (0, .ref (b + x0)), (1, .int x1)]) hx hb dX12_roundNow_22 hl (by decide) rfl (fun ls hl => ?_)
    refine lv_aload_n hx hb dX12_roundNow_24 rfl (lv_at hl 3 rfl) ?_
    obtain ⟨a25, hr0, h⟩ := h
    refine jgr (f := 31) hx hb hts hown hst w hG hx0 hiX12 (rfl : vwCl[11]? = some (RX12, TX12, 51)) (hts (.fieldLink RX12 60 "FootByGateModel" "roundStands" "[I") (by decide +kernel)) ⟨by decide, by decide, rfl⟩ (rfl : jrt 11 31 = 13) dX12_roundNow_25 hr0 (fun ha25 => ?_)
    clear hr0
    refine lv_iconst (v := (0 : Int32)) hx hb dX12_roundNow_28 (by decide) ?_
    refine lv_aload_n hx hb dX12_roundNow_29 rfl (lv_at hl 3 rfl) ?_
    obtain ⟨a30, hr0, h⟩ := h
    refine jgr (f := 10) hx hb hts hown hst w hG hx0 hiX12 (rfl : vwCl[11]? = some (RX12, TX12, 51)) (hts (.fieldLink RX12 25 "FootByGateModel" "standsOf" "[I") (by decide +kernel)) ⟨by decide, by decide, rfl⟩ (rfl : jrt 11 10 = 13) dX12_roundNow_30 hr0 (fun ha30 => ?_)
    clear hr0
    refine lv_iload_n hx hb dX12_roundNow_33 rfl (lv_at hl 4 rfl) ?_
    obtain ⟨hn, h⟩ := h
    refine jaid hx hb hst w ha30 hn dX12_roundNow_34 ?_
    clear hn
    obtain ⟨hn, h⟩ := h
    refine jais hx hb hst w ha25 hn dX12_roundNow_35 (fun i35 H locs he w => ?_)
    replace h := h i35 he
    clear he hn
    refine lv_aload_n hx hb dX12_roundNow_36 rfl (lv_at hl 3 rfl) ?_
    obtain ⟨a37, hr0, h⟩ := h
    refine jgr (f := 32) hx hb hts hown hst w hG hx0 hiX12 (rfl : vwCl[11]? = some (RX12, TX12, 51)) (hts (.fieldLink RX12 63 "FootByGateModel" "roundTry" "[I") (by decide +kernel)) ⟨by decide, by decide, rfl⟩ (rfl : jrt 11 32 = 13) dX12_roundNow_37 hr0 (fun ha37 => ?_)
    clear hr0
    refine lv_iconst (v := (0 : Int32)) hx hb dX12_roundNow_40 (by decide) ?_
    refine lv_iconst (v := (0 : Int32)) hx hb dX12_roundNow_41 (by decide) ?_
    obtain ⟨hn, h⟩ := h
    refine jais hx hb hst w ha37 hn dX12_roundNow_42 (fun i42 H locs he w => ?_)
    replace h := h i42 he
    clear he hn
    obtain ⟨g0, h⟩ := h
    exact w_X12_roundNow_L43 C0 hr hlk g0 w hx0 (lv_sub hl [3, 4, 2, 1, 0] rfl) h
  · replace h := h.2 hc
    clear hc
    refine lv_iconst (v := (-1 : Int32)) hx hb dX12_roundNow_17 (by decide) ?_
    exact jret_i hx hb hr hlk hst w h dX12_roundNow_18
end S_X12_roundNow
section S_X12_round
def J_X12_round (len : Nat → Nat) (r : jR) (Q : Int32 → jI → jL → Prop) (i : jI) (j : jL) (x0 : Nat) (x1 : Int32) (x2 : Int32) : Prop := J_X12_isWalker len r (fun (q2 : Int32) (i2 : jI) (j2 : jL) => ((¬ q2 = 0) → (J_X12_within len r (fun (q14 : Int32) (i14 : jI) (j14 : jL) => ((¬ q14 = 0) → (((¬ (i14 x0 14) = (40 : Int32)) → (∀ i42 : jI, i42 = ju i14 x0 14 ((i14 x0 14) + (1 : Int32)) → (J_X12_roundNow len r (fun (q47 : Int32) (i47 : jI) (j47 : jL) => ((¬ x2 = (1 : Int32)) → (((¬ q47 = (-1 : Int32)) → (Q (1 : Int32) i47 j47)) ∧ ((q47 = (-1 : Int32)) → (Q (0 : Int32) i47 j47)))) ∧ ((x2 = (1 : Int32)) → (Q q47 i47 j47))) i42 j14 x0 x1))) ∧ (((i14 x0 14) = (40 : Int32)) → (Q (-103 : Int32) i14 j14)))) ∧ ((q14 = 0) → (Q (-102 : Int32) i14 j14))) i2 j2 x2 (0 : Int32) (1 : Int32))) ∧ ((q2 = 0) → (Q (-101 : Int32) i2 j2))) i j x0 x1
abbrev rm_X12_round : Room := { frames := 4, cells := 0, slots := 0, locals := 97 }
variable {p : Program} {l : Launch} {e : Env} {s : State} {m : MethodId} {args : Array Value} {below : List Frame} {meth : Method} {c : Code} {b tU n : Nat} {cy : Nat → ClassId} {D : va_G} {K len : Nat → Nat} {r : jR} {Q : Int32 → jI → jL → Prop}
theorem hiX12_X12_round : ∀ w ∈ u_ws RX12 TX12 51, w ∈ wsX12_round := by decide +kernel
set_option maxHeartbeats 4000000 in
set_option maxRecDepth 100000 in
theorem c_X12_round (hG : jG n K r) {i : jI} {j : jL} {x0 : Nat} {x1 : Int32} {x2 : Int32} (hx0 : x0 < n ∧ K x0 = 11) (h : J_X12_round len r Q i j x0 x1 x2) : Met l yX12_round wsX12_round rm_X12_round (va_Pc [.ref (b + x0), .int x1, .int x2] (jPre b cy D tU n K len r i j)) (jQi b cy D tU n K len r Q) 0 0 (jA b) := by
  refine Met.ofW (cc := cX12_round) (maxL := 4) (ret := (some .int)) (by decide) rfl ?_
  intro p e s m args below meth c s₁ B hml hv
  obtain ⟨rfl, hv⟩ := hv
  have C0 : jCx p s m _ c cX12_round 4 wsX12_round RX12 b cy D tU n K r := ⟨B.exec, B.bytes, hml, findClass_of_methodNamed B.named, atoms_spec (ws := wsX12_round) B.pre, hv.2.2, hG⟩
  have hr := B.returns
  have hlk := B.notSynchronized
  obtain ⟨hx, hb, hml, hown, hts, hst, hG⟩ := id C0
  have hiX12 : ∀ w ∈ u_ws RX12 TX12 51, w ∈ wsX12_round := hiX12_X12_round
  have w := jDy.start hv
  have hl := lv_entry ([.ref (b + x0), .int x1, .int x2]) (n := 4) (Nat.le_of_ble_eq_true rfl)
  rw [lg_entry_eq]
  generalize (lg_sl ([.ref (b + x0), .int x1, .int x2]) ++ List.replicate (4 - (lg_sl ([.ref (b + x0), .int x1, .int x2])).length) Slot.unset).toArray = ls at hl ⊢
  replace hl : lv_has ls 4 [(0, .ref (b + x0)), (1, .int x1), (2, .int x2)] := hl
  show W p l e rm_X12_round s m _ below meth c s.heap [] 0 0 _ (F0 m 0 ls [])
  rw [J_X12_round] at h
  refine lv_aload_n hx hb dX12_round_0 rfl (lv_at hl 0 rfl) ?_
  refine lv_iload_n hx hb dX12_round_1 rfl (lv_at hl 1 rfl) ?_
  refine jcV_i (k := x0) (As := [.int x1]) (rest := []) C0 w (c_X12_isWalker hG hx0 h) (cwV 1 hts gX12_round_X12_isWalker rfl rfl rfl (by decide +kernel) ⟨Nat.le_of_ble_eq_true rfl, Nat.le_of_ble_eq_true rfl⟩) hx0 (rfl : vwCl[11]? = some (RX12, TX12, 51)) (by decide) rfl hl.1 rfl (Nat.le_of_ble_eq_true rfl) dX12_round_2 (fun q2 i2 j2 H locs h w => ?_) ⟨Nat.zero_le _, Nat.zero_le _⟩
  refine lv_if_ne (tgt := 11) hx hb dX12_round_5 (by decide) (fun hc => ?_) (fun hc => ?_)
  · replace h := h.1 hc
    clear hc
    refine lv_iload_n hx hb dX12_round_11 rfl (lv_at hl 2 rfl) ?_
    refine lv_iconst (v := (0 : Int32)) hx hb dX12_round_12 (by decide) ?_
    refine lv_iconst (v := (1 : Int32)) hx hb dX12_round_13 (by decide) ?_
    refine jcS_i (As := [.int x2, .int (0 : Int32), .int (1 : Int32)]) (rest := []) C0 w (c_X12_within hG h) (va_cwS 3 hts gX12_round_X12_within rfl rfl rfl (by decide +kernel) ⟨Nat.le_of_ble_eq_true rfl, Nat.le_of_ble_eq_true rfl⟩) rfl hl.1 rfl (Nat.le_of_ble_eq_true rfl) dX12_round_14 (fun q14 i14 j14 H locs h w => ?_) ⟨Nat.zero_le _, Nat.zero_le _⟩
    refine lv_if_ne (tgt := 23) hx hb dX12_round_17 (by decide) (fun hc => ?_) (fun hc => ?_)
    · replace h := h.1 hc
      clear hc
      refine lv_aload_n hx hb dX12_round_23 rfl (lv_at hl 0 rfl) ?_
      refine jgi (f := 14) hx hb hts hown hst w hx0 hiX12 (rfl : vwCl[11]? = some (RX12, TX12, 51)) (hts (.fieldLink RX12 221 "FootByGateModel" "asks" "I") (by decide +kernel)) ⟨by decide, by decide, rfl⟩ dX12_round_24 ?_
      refine lv_bipush (v := (40 : Int32)) hx hb dX12_round_27 (by decide) ?_
      refine lv_icmp_ne (tgt := 35) hx hb dX12_round_29 (by decide) (fun hc => ?_) (fun hc => ?_)
      · replace h := h.1 hc
        clear hc
        refine lv_aload_n hx hb dX12_round_35 rfl (lv_at hl 0 rfl) ?_
        refine lv_dup hx hb dX12_round_36 rfl ?_
        refine jgi (f := 14) hx hb hts hown hst w hx0 hiX12 (rfl : vwCl[11]? = some (RX12, TX12, 51)) (hts (.fieldLink RX12 221 "FootByGateModel" "asks" "I") (by decide +kernel)) ⟨by decide, by decide, rfl⟩ dX12_round_37 ?_
        refine lv_iconst (v := (1 : Int32)) hx hb dX12_round_40 (by decide) ?_
        refine lv_iadd hx hb dX12_round_41 ?_
        refine jpi (f := 14) hx hb hts hown hst w hx0 hiX12 (rfl : vwCl[11]? = some (RX12, TX12, 51)) (hts (.fieldLink RX12 221 "FootByGateModel" "asks" "I") (by decide +kernel)) ⟨by decide, by decide, rfl⟩ tyX12 tyX12_ok nmX12 rfl ⟨rfl, rfl⟩ dX12_round_42 (fun i42 H locs he w => ?_)
        replace h := h i42 he
        clear he
        refine lv_aload_n hx hb dX12_round_45 rfl (lv_at hl 0 rfl) ?_
        refine lv_iload_n hx hb dX12_round_46 rfl (lv_at hl 1 rfl) ?_
        refine jcV_i (k := x0) (As := [.int x1]) (rest := []) C0 w (c_X12_roundNow hG hx0 h) (cwV 1 hts gX12_round_X12_roundNow rfl rfl rfl (by decide +kernel) ⟨Nat.le_of_ble_eq_true rfl, Nat.le_of_ble_eq_true rfl⟩) hx0 (rfl : vwCl[11]? = some (RX12, TX12, 51)) (by decide) rfl hl.1 rfl (Nat.le_of_ble_eq_true rfl) dX12_round_47 (fun q47 i47 j47 H locs h w => ?_) ⟨Nat.zero_le _, Nat.zero_le _⟩
        refine lv_istore_n (lv' := [(3, .int q47), (0, .ref (b + x0)), (1, .int x1), (2, .int x2)]) hx hb dX12_round_50 rfl hl (by decide) rfl (fun ls hl => ?_)
        refine lv_iload_n hx hb dX12_round_51 rfl (lv_at hl 3 rfl) ?_
        refine lv_iconst (v := (1 : Int32)) hx hb dX12_round_52 (by decide) ?_
        refine lv_icmp_ne (tgt := 60) hx hb dX12_round_53 (by decide) (fun hc => ?_) (fun hc => ?_)
        · replace h := h.1 hc
          clear hc
          refine lv_iload_n hx hb dX12_round_60 rfl (lv_at hl 0 rfl) ?_
          refine lv_iconst (v := (-1 : Int32)) hx hb dX12_round_61 (by decide) ?_
          refine lv_icmp_ne (tgt := 69) hx hb dX12_round_62 (by decide) (fun hc => ?_) (fun hc => ?_)
          · replace h := h.1 hc
            clear hc
            refine lv_iconst (v := (1 : Int32)) hx hb dX12_round_69 (by decide) ?_
            exact jret_i hx hb hr hlk hst w h dX12_round_70
          · replace h := h.2 hc
            clear hc
            refine lv_iconst (v := (0 : Int32)) hx hb dX12_round_65 (by decide) ?_
            refine lv_goto (tgt := 70) hx hb dX12_round_66 (by decide) ?_
            exact jret_i hx hb hr hlk hst w h dX12_round_70
        · replace h := h.2 hc
          clear hc
          refine lv_iload_n hx hb dX12_round_56 rfl (lv_at hl 0 rfl) ?_
          refine lv_goto (tgt := 70) hx hb dX12_round_57 (by decide) ?_
          exact jret_i hx hb hr hlk hst w h dX12_round_70
      · replace h := h.2 hc
        clear hc
        refine lv_bipush (v := (-103 : Int32)) hx hb dX12_round_32 (by decide) ?_
        exact jret_i hx hb hr hlk hst w h dX12_round_34
    · replace h := h.2 hc
      clear hc
      refine lv_bipush (v := (-102 : Int32)) hx hb dX12_round_20 (by decide) ?_
      exact jret_i hx hb hr hlk hst w h dX12_round_22
  · replace h := h.2 hc
    clear hc
    refine lv_bipush (v := (-101 : Int32)) hx hb dX12_round_8 (by decide) ?_
    exact jret_i hx hb hr hlk hst w h dX12_round_10
end S_X12_round
section S_X12_shut
def J_X12_shut (len : Nat → Nat) (r : jR) (Q : Int32 → jI → jL → Prop) (i : jI) (j : jL) (x0 : Nat) (x1 : Int32) : Prop := J_X12_isWalker len r (fun (q2 : Int32) (i2 : jI) (j2 : jL) => ((q2 = 0) → (Q (-101 : Int32) i2 j2)) ∧ ((¬ q2 = 0) → (J_X12_shutNow len r (fun (q10 : Int32) (i10 : jI) (j10 : jL) => Q q10 i10 j10) i2 j2 x0 x1))) i j x0 x1
abbrev rm_X12_shut : Room := { frames := 5, cells := 0, slots := 0, locals := 120 }
variable {p : Program} {l : Launch} {e : Env} {s : State} {m : MethodId} {args : Array Value} {below : List Frame} {meth : Method} {c : Code} {b tU n : Nat} {cy : Nat → ClassId} {D : va_G} {K len : Nat → Nat} {r : jR} {Q : Int32 → jI → jL → Prop}
set_option maxHeartbeats 4000000 in
set_option maxRecDepth 100000 in
theorem c_X12_shut (hG : jG n K r) {i : jI} {j : jL} {x0 : Nat} {x1 : Int32} (hx0 : x0 < n ∧ K x0 = 11) (h : J_X12_shut len r Q i j x0 x1) : Met l yX12_shut wsX12_shut rm_X12_shut (va_Pc [.ref (b + x0), .int x1] (jPre b cy D tU n K len r i j)) (jQi b cy D tU n K len r Q) 0 0 (jA b) := by
  refine Met.ofW (cc := cX12_shut) (maxL := 2) (ret := (some .int)) (by decide) rfl ?_
  intro p e s m args below meth c s₁ B hml hv
  obtain ⟨rfl, hv⟩ := hv
  have C0 : jCx p s m _ c cX12_shut 2 wsX12_shut RX12 b cy D tU n K r := ⟨B.exec, B.bytes, hml, findClass_of_methodNamed B.named, atoms_spec (ws := wsX12_shut) B.pre, hv.2.2, hG⟩
  have hr := B.returns
  have hlk := B.notSynchronized
  obtain ⟨hx, hb, hml, hown, hts, hst, hG⟩ := id C0
  have w := jDy.start hv
  have hl := lv_entry ([.ref (b + x0), .int x1]) (n := 2) (Nat.le_of_ble_eq_true rfl)
  rw [lg_entry_eq]
  generalize (lg_sl ([.ref (b + x0), .int x1]) ++ List.replicate (2 - (lg_sl ([.ref (b + x0), .int x1])).length) Slot.unset).toArray = ls at hl ⊢
  replace hl : lv_has ls 2 [(0, .ref (b + x0)), (1, .int x1)] := hl
  show W p l e rm_X12_shut s m _ below meth c s.heap [] 0 0 _ (F0 m 0 ls [])
  rw [J_X12_shut] at h
  refine lv_aload_n hx hb dX12_shut_0 rfl (lv_at hl 0 rfl) ?_
  refine lv_iload_n hx hb dX12_shut_1 rfl (lv_at hl 1 rfl) ?_
  refine jcV_i (k := x0) (As := [.int x1]) (rest := []) C0 w (c_X12_isWalker hG hx0 h) (cwV 1 hts gX12_shut_X12_isWalker rfl rfl rfl (by decide +kernel) ⟨Nat.le_of_ble_eq_true rfl, Nat.le_of_ble_eq_true rfl⟩) hx0 (rfl : vwCl[11]? = some (RX12, TX12, 51)) (by decide) rfl hl.1 rfl (Nat.le_of_ble_eq_true rfl) dX12_shut_2 (fun q2 i2 j2 H locs h w => ?_) ⟨Nat.zero_le _, Nat.zero_le _⟩
  refine lv_if_eq (tgt := 16) hx hb dX12_shut_5 (by decide) (fun hc => ?_) (fun hc => ?_)
  · replace h := h.1 hc
    clear hc
    refine lv_bipush (v := (-101 : Int32)) hx hb dX12_shut_16 (by decide) ?_
    exact jret_i hx hb hr hlk hst w h dX12_shut_18
  · replace h := h.2 hc
    clear hc
    refine lv_aload_n hx hb dX12_shut_8 rfl (lv_at hl 0 rfl) ?_
    refine lv_iload_n hx hb dX12_shut_9 rfl (lv_at hl 1 rfl) ?_
    refine jcV_i (k := x0) (As := [.int x1]) (rest := []) C0 w (c_X12_shutNow hG hx0 h) (cwV 1 hts gX12_shut_X12_shutNow rfl rfl rfl (by decide +kernel) ⟨Nat.le_of_ble_eq_true rfl, Nat.le_of_ble_eq_true rfl⟩) hx0 (rfl : vwCl[11]? = some (RX12, TX12, 51)) (by decide) rfl hl.1 rfl (Nat.le_of_ble_eq_true rfl) dX12_shut_10 (fun q10 i10 j10 H locs h w => ?_) ⟨Nat.zero_le _, Nat.zero_le _⟩
    refine lv_goto (tgt := 18) hx hb dX12_shut_13 (by decide) ?_
    exact jret_i hx hb hr hlk hst w h dX12_shut_18
end S_X12_shut
section S_X12_skip
def J_X12_skip (len : Nat → Nat) (r : jR) (Q : Int32 → jI → jL → Prop) (i : jI) (j : jL) (x0 : Nat) (x1 : Int32) : Prop := J_X12_isWalker len r (fun (q2 : Int32) (i2 : jI) (j2 : jL) => ((¬ q2 = 0) → (∃ a12, r x0 9 = some a12 ∧ (vp_in x1 (len a12) ∧ (((¬ (i2 a12 x1.toNatClampNeg) = (3 : Int32)) → (∃ a25, r x0 10 = some a25 ∧ (∃ a30, r x0 10 = some a30 ∧ (vp_in x1 (len a30) ∧ (J_X12_turned len r (fun (q35 : Int32) (i35 : jI) (j35 : jL) => vp_in x1 (len a25) ∧ ∀ i38 : jI, i38 = ju i35 a25 x1.toNatClampNeg q35 → (∃ a40, r x0 11 = some a40 ∧ (vp_in x1 (len a40) ∧ (vp_in x1 (len a40) ∧ ∀ i48 : jI, i48 = ju i38 a40 x1.toNatClampNeg ((i38 a40 x1.toNatClampNeg) + (1 : Int32)) → (∃ a50, r x0 10 = some a50 ∧ (vp_in x1 (len a50) ∧ (J_X12_footIn len r (fun (q55 : Int32) (i55 : jI) (j55 : jL) => Q q55 i55 j55) i48 j35 (i48 a50 x1.toNatClampNeg)))))))) i2 j2 (i2 a30 x1.toNatClampNeg)))))) ∧ (((i2 a12 x1.toNatClampNeg) = (3 : Int32)) → (Q (-103 : Int32) i2 j2)))))) ∧ ((q2 = 0) → (Q (-101 : Int32) i2 j2))) i j x0 x1
abbrev rm_X12_skip : Room := { frames := 2, cells := 0, slots := 0, locals := 43 }
variable {p : Program} {l : Launch} {e : Env} {s : State} {m : MethodId} {args : Array Value} {below : List Frame} {meth : Method} {c : Code} {b tU n : Nat} {cy : Nat → ClassId} {D : va_G} {K len : Nat → Nat} {r : jR} {Q : Int32 → jI → jL → Prop}
theorem hiX12_X12_skip : ∀ w ∈ u_ws RX12 TX12 51, w ∈ wsX12_skip := by decide +kernel
set_option maxHeartbeats 4000000 in
set_option maxRecDepth 100000 in
theorem c_X12_skip (hG : jG n K r) {i : jI} {j : jL} {x0 : Nat} {x1 : Int32} (hx0 : x0 < n ∧ K x0 = 11) (h : J_X12_skip len r Q i j x0 x1) : Met l yX12_skip wsX12_skip rm_X12_skip (va_Pc [.ref (b + x0), .int x1] (jPre b cy D tU n K len r i j)) (jQi b cy D tU n K len r Q) 0 0 (jA b) := by
  refine Met.ofW (cc := cX12_skip) (maxL := 2) (ret := (some .int)) (by decide) rfl ?_
  intro p e s m args below meth c s₁ B hml hv
  obtain ⟨rfl, hv⟩ := hv
  have C0 : jCx p s m _ c cX12_skip 2 wsX12_skip RX12 b cy D tU n K r := ⟨B.exec, B.bytes, hml, findClass_of_methodNamed B.named, atoms_spec (ws := wsX12_skip) B.pre, hv.2.2, hG⟩
  have hr := B.returns
  have hlk := B.notSynchronized
  obtain ⟨hx, hb, hml, hown, hts, hst, hG⟩ := id C0
  have hiX12 : ∀ w ∈ u_ws RX12 TX12 51, w ∈ wsX12_skip := hiX12_X12_skip
  have w := jDy.start hv
  have hl := lv_entry ([.ref (b + x0), .int x1]) (n := 2) (Nat.le_of_ble_eq_true rfl)
  rw [lg_entry_eq]
  generalize (lg_sl ([.ref (b + x0), .int x1]) ++ List.replicate (2 - (lg_sl ([.ref (b + x0), .int x1])).length) Slot.unset).toArray = ls at hl ⊢
  replace hl : lv_has ls 2 [(0, .ref (b + x0)), (1, .int x1)] := hl
  show W p l e rm_X12_skip s m _ below meth c s.heap [] 0 0 _ (F0 m 0 ls [])
  rw [J_X12_skip] at h
  refine lv_aload_n hx hb dX12_skip_0 rfl (lv_at hl 0 rfl) ?_
  refine lv_iload_n hx hb dX12_skip_1 rfl (lv_at hl 1 rfl) ?_
  refine jcV_i (k := x0) (As := [.int x1]) (rest := []) C0 w (c_X12_isWalker hG hx0 h) (cwV 1 hts gX12_skip_X12_isWalker rfl rfl rfl (by decide +kernel) ⟨Nat.le_of_ble_eq_true rfl, Nat.le_of_ble_eq_true rfl⟩) hx0 (rfl : vwCl[11]? = some (RX12, TX12, 51)) (by decide) rfl hl.1 rfl (Nat.le_of_ble_eq_true rfl) dX12_skip_2 (fun q2 i2 j2 H locs h w => ?_) ⟨Nat.zero_le _, Nat.zero_le _⟩
  refine lv_if_ne (tgt := 11) hx hb dX12_skip_5 (by decide) (fun hc => ?_) (fun hc => ?_)
  · replace h := h.1 hc
    clear hc
    refine lv_aload_n hx hb dX12_skip_11 rfl (lv_at hl 0 rfl) ?_
    obtain ⟨a12, hr0, h⟩ := h
    refine jgr (f := 9) hx hb hts hown hst w hG hx0 hiX12 (rfl : vwCl[11]? = some (RX12, TX12, 51)) (hts (.fieldLink RX12 22 "FootByGateModel" "kindOf" "[I") (by decide +kernel)) ⟨by decide, by decide, rfl⟩ (rfl : jrt 11 9 = 13) dX12_skip_12 hr0 (fun ha12 => ?_)
    clear hr0
    refine lv_iload_n hx hb dX12_skip_15 rfl (lv_at hl 1 rfl) ?_
    obtain ⟨hn, h⟩ := h
    refine jaid hx hb hst w ha12 hn dX12_skip_16 ?_
    clear hn
    refine lv_iconst (v := (3 : Int32)) hx hb dX12_skip_17 (by decide) ?_
    refine lv_icmp_ne (tgt := 24) hx hb dX12_skip_18 (by decide) (fun hc => ?_) (fun hc => ?_)
    · replace h := h.1 hc
      clear hc
      refine lv_aload_n hx hb dX12_skip_24 rfl (lv_at hl 0 rfl) ?_
      obtain ⟨a25, hr0, h⟩ := h
      refine jgr (f := 10) hx hb hts hown hst w hG hx0 hiX12 (rfl : vwCl[11]? = some (RX12, TX12, 51)) (hts (.fieldLink RX12 25 "FootByGateModel" "standsOf" "[I") (by decide +kernel)) ⟨by decide, by decide, rfl⟩ (rfl : jrt 11 10 = 13) dX12_skip_25 hr0 (fun ha25 => ?_)
      clear hr0
      refine lv_iload_n hx hb dX12_skip_28 rfl (lv_at hl 1 rfl) ?_
      refine lv_aload_n hx hb dX12_skip_29 rfl (lv_at hl 0 rfl) ?_
      obtain ⟨a30, hr0, h⟩ := h
      refine jgr (f := 10) hx hb hts hown hst w hG hx0 hiX12 (rfl : vwCl[11]? = some (RX12, TX12, 51)) (hts (.fieldLink RX12 25 "FootByGateModel" "standsOf" "[I") (by decide +kernel)) ⟨by decide, by decide, rfl⟩ (rfl : jrt 11 10 = 13) dX12_skip_30 hr0 (fun ha30 => ?_)
      clear hr0
      refine lv_iload_n hx hb dX12_skip_33 rfl (lv_at hl 1 rfl) ?_
      obtain ⟨hn, h⟩ := h
      refine jaid hx hb hst w ha30 hn dX12_skip_34 ?_
      clear hn
      refine jcS_i (As := [.int (i2 a30 x1.toNatClampNeg)]) (rest := [.int x1, .ref (b + a25)]) C0 w (c_X12_turned hG h) (va_cwS 1 hts gX12_skip_X12_turned rfl rfl rfl (by decide +kernel) ⟨Nat.le_of_ble_eq_true rfl, Nat.le_of_ble_eq_true rfl⟩) rfl hl.1 rfl (Nat.le_of_ble_eq_true rfl) dX12_skip_35 (fun q35 i35 j35 H locs h w => ?_) ⟨Nat.zero_le _, Nat.zero_le _⟩
      obtain ⟨hn, h⟩ := h
      refine jais hx hb hst w ha25 hn dX12_skip_38 (fun i38 H locs he w => ?_)
      replace h := h i38 he
      clear he hn
      refine lv_aload_n hx hb dX12_skip_39 rfl (lv_at hl 0 rfl) ?_
      obtain ⟨a40, hr0, h⟩ := h
      refine jgr (f := 11) hx hb hts hown hst w hG hx0 hiX12 (rfl : vwCl[11]? = some (RX12, TX12, 51)) (hts (.fieldLink RX12 28 "FootByGateModel" "skippedOf" "[I") (by decide +kernel)) ⟨by decide, by decide, rfl⟩ (rfl : jrt 11 11 = 13) dX12_skip_40 hr0 (fun ha40 => ?_)
      clear hr0
      refine lv_iload_n hx hb dX12_skip_43 rfl (lv_at hl 1 rfl) ?_
      refine lv_dup2_11 hx hb dX12_skip_44 rfl rfl ?_
      obtain ⟨hn, h⟩ := h
      refine jaid hx hb hst w ha40 hn dX12_skip_45 ?_
      clear hn
      refine lv_iconst (v := (1 : Int32)) hx hb dX12_skip_46 (by decide) ?_
      refine lv_iadd hx hb dX12_skip_47 ?_
      obtain ⟨hn, h⟩ := h
      refine jais hx hb hst w ha40 hn dX12_skip_48 (fun i48 H locs he w => ?_)
      replace h := h i48 he
      clear he hn
      refine lv_aload_n hx hb dX12_skip_49 rfl (lv_at hl 0 rfl) ?_
      obtain ⟨a50, hr0, h⟩ := h
      refine jgr (f := 10) hx hb hts hown hst w hG hx0 hiX12 (rfl : vwCl[11]? = some (RX12, TX12, 51)) (hts (.fieldLink RX12 25 "FootByGateModel" "standsOf" "[I") (by decide +kernel)) ⟨by decide, by decide, rfl⟩ (rfl : jrt 11 10 = 13) dX12_skip_50 hr0 (fun ha50 => ?_)
      clear hr0
      refine lv_iload_n hx hb dX12_skip_53 rfl (lv_at hl 1 rfl) ?_
      obtain ⟨hn, h⟩ := h
      refine jaid hx hb hst w ha50 hn dX12_skip_54 ?_
      clear hn
      refine jcS_i (As := [.int (i48 a50 x1.toNatClampNeg)]) (rest := []) C0 w (c_X12_footIn hG h) (va_cwS 1 hts gX12_skip_X12_footIn rfl rfl rfl (by decide +kernel) ⟨Nat.le_of_ble_eq_true rfl, Nat.le_of_ble_eq_true rfl⟩) rfl hl.1 rfl (Nat.le_of_ble_eq_true rfl) dX12_skip_55 (fun q55 i55 j55 H locs h w => ?_) ⟨Nat.zero_le _, Nat.zero_le _⟩
      exact jret_i hx hb hr hlk hst w h dX12_skip_58
    · replace h := h.2 hc
      clear hc
      refine lv_bipush (v := (-103 : Int32)) hx hb dX12_skip_21 (by decide) ?_
      exact jret_i hx hb hr hlk hst w h dX12_skip_23
  · replace h := h.2 hc
    clear hc
    refine lv_bipush (v := (-101 : Int32)) hx hb dX12_skip_8 (by decide) ?_
    exact jret_i hx hb hr hlk hst w h dX12_skip_10
end S_X12_skip
section S_X12_skips
def J_X12_skips_L15 (len : Nat → Nat) (r : jR) (Q : Int32 → jI → jL → Prop) (i : jI) (j : jL) : Prop := Q (-101 : Int32) i j
def J_X12_skips (len : Nat → Nat) (r : jR) (Q : Int32 → jI → jL → Prop) (i : jI) (j : jL) (x0 : Nat) (x1 : Int32) (x2 : Int32) (x3 : Int32) : Prop := J_X12_isWalker len r (fun (q2 : Int32) (i2 : jI) (j2 : jL) => ((q2 = 0) → (J_X12_skips_L15 len r Q i2 j2 )) ∧ ((¬ q2 = 0) → (J_X12_isPlace len r (fun (q9 : Int32) (i9 : jI) (j9 : jL) => ((¬ q9 = 0) → (J_X12_within len r (fun (q21 : Int32) (i21 : jI) (j21 : jL) => ((q21 = 0) → (Q (-102 : Int32) i21 j21)) ∧ ((¬ q21 = 0) → (J_X12_skipsNow len r (fun (q31 : Int32) (i31 : jI) (j31 : jL) => Q q31 i31 j31) i21 j21 x0 x1 x2 x3))) i9 j9 x3 (0 : Int32) (1 : Int32))) ∧ ((q9 = 0) → (J_X12_skips_L15 len r Q i9 j9 ))) i2 j2 x2))) i j x0 x1
abbrev rm_X12_skips : Room := { frames := 5, cells := 0, slots := 0, locals := 121 }
variable {p : Program} {l : Launch} {e : Env} {s : State} {m : MethodId} {args : Array Value} {below : List Frame} {meth : Method} {c : Code} {b tU n : Nat} {cy : Nat → ClassId} {D : va_G} {K len : Nat → Nat} {r : jR} {Q : Int32 → jI → jL → Prop}
set_option maxHeartbeats 4000000 in
set_option maxRecDepth 100000 in
theorem w_X12_skips_L15 (C0 : jCx p s m args c cX12_skips 4 wsX12_skips RX12 b cy D tU n K r) (hr : meth.sig.returnType = some .int) (hlk : meth.locks = false) {H : Heap} {locs : List Loc} {ls : Array Slot} {i : jI} {j : jL}  (w : jDy b cy D n K len r i j s H locs) (hl : lv_has ls 4 []) (h : J_X12_skips_L15 len r Q i j) : W p l e rm_X12_skips s m args below meth c H locs 0 0 (MQ below (jQi b cy D tU n K len r Q) args s 0 0 (jA b)) (F0 m 15 ls []) := by
  obtain ⟨hx, hb, hml, hown, hts, hst, hG⟩ := id C0
  rw [J_X12_skips_L15] at h
  refine lv_bipush (v := (-101 : Int32)) hx hb dX12_skips_15 (by decide) ?_
  exact jret_i hx hb hr hlk hst w h dX12_skips_17
set_option maxHeartbeats 4000000 in
set_option maxRecDepth 100000 in
theorem c_X12_skips (hG : jG n K r) {i : jI} {j : jL} {x0 : Nat} {x1 : Int32} {x2 : Int32} {x3 : Int32} (hx0 : x0 < n ∧ K x0 = 11) (h : J_X12_skips len r Q i j x0 x1 x2 x3) : Met l yX12_skips wsX12_skips rm_X12_skips (va_Pc [.ref (b + x0), .int x1, .int x2, .int x3] (jPre b cy D tU n K len r i j)) (jQi b cy D tU n K len r Q) 0 0 (jA b) := by
  refine Met.ofW (cc := cX12_skips) (maxL := 4) (ret := (some .int)) (by decide) rfl ?_
  intro p e s m args below meth c s₁ B hml hv
  obtain ⟨rfl, hv⟩ := hv
  have C0 : jCx p s m _ c cX12_skips 4 wsX12_skips RX12 b cy D tU n K r := ⟨B.exec, B.bytes, hml, findClass_of_methodNamed B.named, atoms_spec (ws := wsX12_skips) B.pre, hv.2.2, hG⟩
  have hr := B.returns
  have hlk := B.notSynchronized
  obtain ⟨hx, hb, hml, hown, hts, hst, hG⟩ := id C0
  have w := jDy.start hv
  have hl := lv_entry ([.ref (b + x0), .int x1, .int x2, .int x3]) (n := 4) (Nat.le_of_ble_eq_true rfl)
  rw [lg_entry_eq]
  generalize (lg_sl ([.ref (b + x0), .int x1, .int x2, .int x3]) ++ List.replicate (4 - (lg_sl ([.ref (b + x0), .int x1, .int x2, .int x3])).length) Slot.unset).toArray = ls at hl ⊢
  replace hl : lv_has ls 4 [(0, .ref (b + x0)), (1, .int x1), (2, .int x2), (3, .int x3)] := hl
  show W p l e rm_X12_skips s m _ below meth c s.heap [] 0 0 _ (F0 m 0 ls [])
  rw [J_X12_skips] at h
  refine lv_aload_n hx hb dX12_skips_0 rfl (lv_at hl 0 rfl) ?_
  refine lv_iload_n hx hb dX12_skips_1 rfl (lv_at hl 1 rfl) ?_
  refine jcV_i (k := x0) (As := [.int x1]) (rest := []) C0 w (c_X12_isWalker hG hx0 h) (cwV 1 hts gX12_skips_X12_isWalker rfl rfl rfl (by decide +kernel) ⟨Nat.le_of_ble_eq_true rfl, Nat.le_of_ble_eq_true rfl⟩) hx0 (rfl : vwCl[11]? = some (RX12, TX12, 51)) (by decide) rfl hl.1 rfl (Nat.le_of_ble_eq_true rfl) dX12_skips_2 (fun q2 i2 j2 H locs h w => ?_) ⟨Nat.zero_le _, Nat.zero_le _⟩
  refine lv_if_eq (tgt := 15) hx hb dX12_skips_5 (by decide) (fun hc => ?_) (fun hc => ?_)
  · replace h := h.1 hc
    clear hc
    exact w_X12_skips_L15 C0 hr hlk w (lv_sub hl [] rfl) h
  · replace h := h.2 hc
    clear hc
    refine lv_iload_n hx hb dX12_skips_8 rfl (lv_at hl 2 rfl) ?_
    refine jcS_i (As := [.int x2]) (rest := []) C0 w (c_X12_isPlace hG h) (va_cwS 1 hts gX12_skips_X12_isPlace rfl rfl rfl (by decide +kernel) ⟨Nat.le_of_ble_eq_true rfl, Nat.le_of_ble_eq_true rfl⟩) rfl hl.1 rfl (Nat.le_of_ble_eq_true rfl) dX12_skips_9 (fun q9 i9 j9 H locs h w => ?_) ⟨Nat.zero_le _, Nat.zero_le _⟩
    refine lv_if_ne (tgt := 18) hx hb dX12_skips_12 (by decide) (fun hc => ?_) (fun hc => ?_)
    · replace h := h.1 hc
      clear hc
      refine lv_iload_n hx hb dX12_skips_18 rfl (lv_at hl 3 rfl) ?_
      refine lv_iconst (v := (0 : Int32)) hx hb dX12_skips_19 (by decide) ?_
      refine lv_iconst (v := (1 : Int32)) hx hb dX12_skips_20 (by decide) ?_
      refine jcS_i (As := [.int x3, .int (0 : Int32), .int (1 : Int32)]) (rest := []) C0 w (c_X12_within hG h) (va_cwS 3 hts gX12_skips_X12_within rfl rfl rfl (by decide +kernel) ⟨Nat.le_of_ble_eq_true rfl, Nat.le_of_ble_eq_true rfl⟩) rfl hl.1 rfl (Nat.le_of_ble_eq_true rfl) dX12_skips_21 (fun q21 i21 j21 H locs h w => ?_) ⟨Nat.zero_le _, Nat.zero_le _⟩
      refine lv_if_eq (tgt := 37) hx hb dX12_skips_24 (by decide) (fun hc => ?_) (fun hc => ?_)
      · replace h := h.1 hc
        clear hc
        refine lv_bipush (v := (-102 : Int32)) hx hb dX12_skips_37 (by decide) ?_
        exact jret_i hx hb hr hlk hst w h dX12_skips_39
      · replace h := h.2 hc
        clear hc
        refine lv_aload_n hx hb dX12_skips_27 rfl (lv_at hl 0 rfl) ?_
        refine lv_iload_n hx hb dX12_skips_28 rfl (lv_at hl 1 rfl) ?_
        refine lv_iload_n hx hb dX12_skips_29 rfl (lv_at hl 2 rfl) ?_
        refine lv_iload_n hx hb dX12_skips_30 rfl (lv_at hl 3 rfl) ?_
        refine jcV_i (k := x0) (As := [.int x1, .int x2, .int x3]) (rest := []) C0 w (c_X12_skipsNow hG hx0 h) (cwV 3 hts gX12_skips_X12_skipsNow rfl rfl rfl (by decide +kernel) ⟨Nat.le_of_ble_eq_true rfl, Nat.le_of_ble_eq_true rfl⟩) hx0 (rfl : vwCl[11]? = some (RX12, TX12, 51)) (by decide) rfl hl.1 rfl (Nat.le_of_ble_eq_true rfl) dX12_skips_31 (fun q31 i31 j31 H locs h w => ?_) ⟨Nat.zero_le _, Nat.zero_le _⟩
        refine lv_goto (tgt := 39) hx hb dX12_skips_34 (by decide) ?_
        exact jret_i hx hb hr hlk hst w h dX12_skips_39
    · replace h := h.2 hc
      clear hc
      exact w_X12_skips_L15 C0 hr hlk w (lv_sub hl [] rfl) h
end S_X12_skips
section S_X12_steps
def J_X12_steps_L34 (len : Nat → Nat) (r : jR) (Q : Int32 → jI → jL → Prop) (i : jI) (j : jL) : Prop := Q (-101 : Int32) i j
def J_X12_steps (len : Nat → Nat) (r : jR) (Q : Int32 → jI → jL → Prop) (i : jI) (j : jL) (x0 : Nat) (x1 : Int32) (x2 : Int32) : Prop := J_X12_isWalker len r (fun (q2 : Int32) (i2 : jI) (j2 : jL) => ((q2 = 0) → (J_X12_steps_L34 len r Q i2 j2 )) ∧ ((¬ q2 = 0) → (J_X12_isStreet len r (fun (q10 : Int32) (i10 : jI) (j10 : jL) => ((q10 = 0) → (J_X12_steps_L34 len r Q i10 j10 )) ∧ ((¬ q10 = 0) → (∃ a17, r x0 9 = some a17 ∧ (vp_in x1 (len a17) ∧ (∃ a23, r x0 3 = some a23 ∧ (vp_in x2 (len a23) ∧ (J_X12_stepsBy len r (fun (q28 : Int32) (i28 : jI) (j28 : jL) => Q q28 i28 j28) i10 j10 (i10 a17 x1.toNatClampNeg) (i10 a23 x2.toNatClampNeg)))))))) i2 j2 x0 x2))) i j x0 x1
abbrev rm_X12_steps : Room := { frames := 2, cells := 0, slots := 0, locals := 43 }
variable {p : Program} {l : Launch} {e : Env} {s : State} {m : MethodId} {args : Array Value} {below : List Frame} {meth : Method} {c : Code} {b tU n : Nat} {cy : Nat → ClassId} {D : va_G} {K len : Nat → Nat} {r : jR} {Q : Int32 → jI → jL → Prop}
theorem hiX12_X12_steps : ∀ w ∈ u_ws RX12 TX12 51, w ∈ wsX12_steps := by decide +kernel
set_option maxHeartbeats 4000000 in
set_option maxRecDepth 100000 in
theorem w_X12_steps_L34 (C0 : jCx p s m args c cX12_steps 3 wsX12_steps RX12 b cy D tU n K r) (hr : meth.sig.returnType = some .int) (hlk : meth.locks = false) {H : Heap} {locs : List Loc} {ls : Array Slot} {i : jI} {j : jL}  (w : jDy b cy D n K len r i j s H locs) (hl : lv_has ls 3 []) (h : J_X12_steps_L34 len r Q i j) : W p l e rm_X12_steps s m args below meth c H locs 0 0 (MQ below (jQi b cy D tU n K len r Q) args s 0 0 (jA b)) (F0 m 34 ls []) := by
  obtain ⟨hx, hb, hml, hown, hts, hst, hG⟩ := id C0
  have hiX12 : ∀ w ∈ u_ws RX12 TX12 51, w ∈ wsX12_steps := hiX12_X12_steps
  rw [J_X12_steps_L34] at h
  refine lv_bipush (v := (-101 : Int32)) hx hb dX12_steps_34 (by decide) ?_
  exact jret_i hx hb hr hlk hst w h dX12_steps_36
set_option maxHeartbeats 4000000 in
set_option maxRecDepth 100000 in
theorem c_X12_steps (hG : jG n K r) {i : jI} {j : jL} {x0 : Nat} {x1 : Int32} {x2 : Int32} (hx0 : x0 < n ∧ K x0 = 11) (h : J_X12_steps len r Q i j x0 x1 x2) : Met l yX12_steps wsX12_steps rm_X12_steps (va_Pc [.ref (b + x0), .int x1, .int x2] (jPre b cy D tU n K len r i j)) (jQi b cy D tU n K len r Q) 0 0 (jA b) := by
  refine Met.ofW (cc := cX12_steps) (maxL := 3) (ret := (some .int)) (by decide) rfl ?_
  intro p e s m args below meth c s₁ B hml hv
  obtain ⟨rfl, hv⟩ := hv
  have C0 : jCx p s m _ c cX12_steps 3 wsX12_steps RX12 b cy D tU n K r := ⟨B.exec, B.bytes, hml, findClass_of_methodNamed B.named, atoms_spec (ws := wsX12_steps) B.pre, hv.2.2, hG⟩
  have hr := B.returns
  have hlk := B.notSynchronized
  obtain ⟨hx, hb, hml, hown, hts, hst, hG⟩ := id C0
  have hiX12 : ∀ w ∈ u_ws RX12 TX12 51, w ∈ wsX12_steps := hiX12_X12_steps
  have w := jDy.start hv
  have hl := lv_entry ([.ref (b + x0), .int x1, .int x2]) (n := 3) (Nat.le_of_ble_eq_true rfl)
  rw [lg_entry_eq]
  generalize (lg_sl ([.ref (b + x0), .int x1, .int x2]) ++ List.replicate (3 - (lg_sl ([.ref (b + x0), .int x1, .int x2])).length) Slot.unset).toArray = ls at hl ⊢
  replace hl : lv_has ls 3 [(0, .ref (b + x0)), (1, .int x1), (2, .int x2)] := hl
  show W p l e rm_X12_steps s m _ below meth c s.heap [] 0 0 _ (F0 m 0 ls [])
  rw [J_X12_steps] at h
  refine lv_aload_n hx hb dX12_steps_0 rfl (lv_at hl 0 rfl) ?_
  refine lv_iload_n hx hb dX12_steps_1 rfl (lv_at hl 1 rfl) ?_
  refine jcV_i (k := x0) (As := [.int x1]) (rest := []) C0 w (c_X12_isWalker hG hx0 h) (cwV 1 hts gX12_steps_X12_isWalker rfl rfl rfl (by decide +kernel) ⟨Nat.le_of_ble_eq_true rfl, Nat.le_of_ble_eq_true rfl⟩) hx0 (rfl : vwCl[11]? = some (RX12, TX12, 51)) (by decide) rfl hl.1 rfl (Nat.le_of_ble_eq_true rfl) dX12_steps_2 (fun q2 i2 j2 H locs h w => ?_) ⟨Nat.zero_le _, Nat.zero_le _⟩
  refine lv_if_eq (tgt := 34) hx hb dX12_steps_5 (by decide) (fun hc => ?_) (fun hc => ?_)
  · replace h := h.1 hc
    clear hc
    exact w_X12_steps_L34 C0 hr hlk w (lv_sub hl [] rfl) h
  · replace h := h.2 hc
    clear hc
    refine lv_aload_n hx hb dX12_steps_8 rfl (lv_at hl 0 rfl) ?_
    refine lv_iload_n hx hb dX12_steps_9 rfl (lv_at hl 2 rfl) ?_
    refine jcV_i (k := x0) (As := [.int x2]) (rest := []) C0 w (c_X12_isStreet hG hx0 h) (cwV 1 hts gX12_steps_X12_isStreet rfl rfl rfl (by decide +kernel) ⟨Nat.le_of_ble_eq_true rfl, Nat.le_of_ble_eq_true rfl⟩) hx0 (rfl : vwCl[11]? = some (RX12, TX12, 51)) (by decide) rfl hl.1 rfl (Nat.le_of_ble_eq_true rfl) dX12_steps_10 (fun q10 i10 j10 H locs h w => ?_) ⟨Nat.zero_le _, Nat.zero_le _⟩
    refine lv_if_eq (tgt := 34) hx hb dX12_steps_13 (by decide) (fun hc => ?_) (fun hc => ?_)
    · replace h := h.1 hc
      clear hc
      exact w_X12_steps_L34 C0 hr hlk w (lv_sub hl [] rfl) h
    · replace h := h.2 hc
      clear hc
      refine lv_aload_n hx hb dX12_steps_16 rfl (lv_at hl 0 rfl) ?_
      obtain ⟨a17, hr0, h⟩ := h
      refine jgr (f := 9) hx hb hts hown hst w hG hx0 hiX12 (rfl : vwCl[11]? = some (RX12, TX12, 51)) (hts (.fieldLink RX12 22 "FootByGateModel" "kindOf" "[I") (by decide +kernel)) ⟨by decide, by decide, rfl⟩ (rfl : jrt 11 9 = 13) dX12_steps_17 hr0 (fun ha17 => ?_)
      clear hr0
      refine lv_iload_n hx hb dX12_steps_20 rfl (lv_at hl 1 rfl) ?_
      obtain ⟨hn, h⟩ := h
      refine jaid hx hb hst w ha17 hn dX12_steps_21 ?_
      clear hn
      refine lv_aload_n hx hb dX12_steps_22 rfl (lv_at hl 0 rfl) ?_
      obtain ⟨a23, hr0, h⟩ := h
      refine jgr (f := 3) hx hb hts hown hst w hG hx0 hiX12 (rfl : vwCl[11]? = some (RX12, TX12, 51)) (hts (.fieldLink RX12 16 "FootByGateModel" "pacesOf" "[I") (by decide +kernel)) ⟨by decide, by decide, rfl⟩ (rfl : jrt 11 3 = 13) dX12_steps_23 hr0 (fun ha23 => ?_)
      clear hr0
      refine lv_iload_n hx hb dX12_steps_26 rfl (lv_at hl 2 rfl) ?_
      obtain ⟨hn, h⟩ := h
      refine jaid hx hb hst w ha23 hn dX12_steps_27 ?_
      clear hn
      refine jcS_i (As := [.int (i10 a17 x1.toNatClampNeg), .int (i10 a23 x2.toNatClampNeg)]) (rest := []) C0 w (c_X12_stepsBy hG h) (va_cwS 2 hts gX12_steps_X12_stepsBy rfl rfl rfl (by decide +kernel) ⟨Nat.le_of_ble_eq_true rfl, Nat.le_of_ble_eq_true rfl⟩) rfl hl.1 rfl (Nat.le_of_ble_eq_true rfl) dX12_steps_28 (fun q28 i28 j28 H locs h w => ?_) ⟨Nat.zero_le _, Nat.zero_le _⟩
      refine lv_goto (tgt := 36) hx hb dX12_steps_31 (by decide) ?_
      exact jret_i hx hb hr hlk hst w h dX12_steps_36
end S_X12_steps
section S_X12_stonesOf
def J_X12_stonesOf_L47 (len : Nat → Nat) (r : jR) (Q : Int32 → jI → jL → Prop) (Hd2 : jI → jL → Nat → Int32 → Int32 → Int32 → Prop) (Hd13 : jI → jL → Nat → Int32 → Int32 → Int32 → Int32 → Prop) (i : jI) (j : jL) (x0 : Nat) (x1 : Int32) (x2 : Int32) (x3 : Int32) (x4 : Int32) : Prop := ∀ v47 : Int32, v47 = x4 + (1 : Int32) → (Hd13 i j x0 x1 x2 x3 v47)
def J_X12_stonesOf_L13 (len : Nat → Nat) (r : jR) (Q : Int32 → jI → jL → Prop) (Hd2 : jI → jL → Nat → Int32 → Int32 → Int32 → Prop) : Nat → jI → jL → Nat → Int32 → Int32 → Int32 → Int32 → Prop
  | 0 => fun _ _ _ _ _ _ _ => False
  | g + 1 => fun i j x0 x1 x2 x3 x4 => ((((1 : Int32) <<< ((i x0 0) &&& 31)) ≤ x4) → (∀ v53 : Int32, v53 = x3 + (1 : Int32) → (Hd2 i j x0 x1 x2 v53))) ∧ ((¬ ((1 : Int32) <<< ((i x0 0) &&& 31)) ≤ x4) → (J_X12_size len r (fun (q26 : Int32) (i26 : jI) (j26 : jL) => ((¬ q26 = x3) → (J_X12_stonesOf_L47 len r Q Hd2 (J_X12_stonesOf_L13 len r Q Hd2 g) i26 j26 x0 x1 x2 x3 x4)) ∧ ((q26 = x3) → (J_X12_comesBy len r (fun (q38 : Int32) (i38 : jI) (j38 : jL) => ((q38 = 0) → (J_X12_stonesOf_L47 len r Q Hd2 (J_X12_stonesOf_L13 len r Q Hd2 g) i38 j38 x0 x1 x2 x3 x4)) ∧ ((¬ q38 = 0) → (Q x4 i38 j38))) i26 j26 x0 x1 x2 x4))) i j x4))
def J_X12_stonesOf_L2 (len : Nat → Nat) (r : jR) (Q : Int32 → jI → jL → Prop) : Nat → jI → jL → Nat → Int32 → Int32 → Int32 → Prop
  | 0 => fun _ _ _ _ _ _ => False
  | g + 1 => fun i j x0 x1 x2 x3 => (((i x0 0) < x3) → (Q (-1 : Int32) i j)) ∧ ((¬ (i x0 0) < x3) → (∃ g0, J_X12_stonesOf_L13 len r Q (J_X12_stonesOf_L2 len r Q g) g0 i j x0 x1 x2 x3 (0 : Int32)))
def J_X12_stonesOf (len : Nat → Nat) (r : jR) (Q : Int32 → jI → jL → Prop) (i : jI) (j : jL) (x0 : Nat) (x1 : Int32) (x2 : Int32) : Prop := ∃ g0, J_X12_stonesOf_L2 len r Q g0 i j x0 x1 x2 (0 : Int32)
abbrev rm_X12_stonesOf : Room := { frames := 5, cells := 0, slots := 0, locals := 120 }
variable {p : Program} {l : Launch} {e : Env} {s : State} {m : MethodId} {args : Array Value} {below : List Frame} {meth : Method} {c : Code} {b tU n : Nat} {cy : Nat → ClassId} {D : va_G} {K len : Nat → Nat} {r : jR} {Q : Int32 → jI → jL → Prop}
theorem hiX12_X12_stonesOf : ∀ w ∈ u_ws RX12 TX12 51, w ∈ wsX12_stonesOf := by decide +kernel
set_option maxHeartbeats 4000000 in
set_option maxRecDepth 100000 in
theorem w_X12_stonesOf_L47 (C0 : jCx p s m args c cX12_stonesOf 5 wsX12_stonesOf RX12 b cy D tU n K r) (hr : meth.sig.returnType = some .int) (hlk : meth.locks = false) {Hd2 : jI → jL → Nat → Int32 → Int32 → Int32 → Prop} (k2 : ∀ {H : Heap} {locs : List Loc} {ls : Array Slot} {i : jI} {j : jL} {x0 : Nat} {x1 : Int32} {x2 : Int32} {x3 : Int32} (w : jDy b cy D n K len r i j s H locs) (hx0 : x0 < n ∧ K x0 = 11) (hl : lv_has ls 5 [(0, .ref (b + x0)), (1, .int x1), (2, .int x2), (3, .int x3)]) (h : Hd2 i j x0 x1 x2 x3), W p l e rm_X12_stonesOf s m args below meth c H locs 0 0 (MQ below (jQi b cy D tU n K len r Q) args s 0 0 (jA b)) (F0 m 2 ls [])) {Hd13 : jI → jL → Nat → Int32 → Int32 → Int32 → Int32 → Prop} (k13 : ∀ {H : Heap} {locs : List Loc} {ls : Array Slot} {i : jI} {j : jL} {x0 : Nat} {x1 : Int32} {x2 : Int32} {x3 : Int32} {x4 : Int32} (w : jDy b cy D n K len r i j s H locs) (hx0 : x0 < n ∧ K x0 = 11) (hl : lv_has ls 5 [(0, .ref (b + x0)), (1, .int x1), (2, .int x2), (3, .int x3), (4, .int x4)]) (h : Hd13 i j x0 x1 x2 x3 x4), W p l e rm_X12_stonesOf s m args below meth c H locs 0 0 (MQ below (jQi b cy D tU n K len r Q) args s 0 0 (jA b)) (F0 m 13 ls [])) {H : Heap} {locs : List Loc} {ls : Array Slot} {i : jI} {j : jL} {x0 : Nat} {x1 : Int32} {x2 : Int32} {x3 : Int32} {x4 : Int32} (w : jDy b cy D n K len r i j s H locs) (hx0 : x0 < n ∧ K x0 = 11) (hl : lv_has ls 5 [(0, .ref (b + x0)), (1, .int x1), (2, .int x2), (3, .int x3), (4, .int x4)]) (h : J_X12_stonesOf_L47 len r Q Hd2 Hd13 i j x0 x1 x2 x3 x4) : W p l e rm_X12_stonesOf s m args below meth c H locs 0 0 (MQ below (jQi b cy D tU n K len r Q) args s 0 0 (jA b)) (F0 m 47 ls []) := by
  obtain ⟨hx, hb, hml, hown, hts, hst, hG⟩ := id C0
  have hiX12 : ∀ w ∈ u_ws RX12 TX12 51, w ∈ wsX12_stonesOf := hiX12_X12_stonesOf
  rw [J_X12_stonesOf_L47] at h
  obtain ⟨v47, he⟩ : ∃ z : Int32, z = x4 + (1 : Int32) := ⟨_, rfl⟩
  replace h := h v47 he
  refine lv_iinc (v := v47) (lv' := [(4, .int v47), (0, .ref (b + x0)), (1, .int x1), (2, .int x2), (3, .int x3)]) hx hb dX12_stonesOf_47 hl (k := 4) rfl (by rw [he]; rfl) (by decide) rfl (fun ls hl => ?_)
  clear he
  refine lv_goto (tgt := 13) hx hb dX12_stonesOf_50 (by decide) ?_
  exact k13 w hx0 (lv_sub hl [1, 2, 3, 4, 0] rfl) h
set_option maxHeartbeats 4000000 in
set_option maxRecDepth 100000 in
theorem w_X12_stonesOf_L13 (C0 : jCx p s m args c cX12_stonesOf 5 wsX12_stonesOf RX12 b cy D tU n K r) (hr : meth.sig.returnType = some .int) (hlk : meth.locks = false) {Hd2 : jI → jL → Nat → Int32 → Int32 → Int32 → Prop} (k2 : ∀ {H : Heap} {locs : List Loc} {ls : Array Slot} {i : jI} {j : jL} {x0 : Nat} {x1 : Int32} {x2 : Int32} {x3 : Int32} (w : jDy b cy D n K len r i j s H locs) (hx0 : x0 < n ∧ K x0 = 11) (hl : lv_has ls 5 [(0, .ref (b + x0)), (1, .int x1), (2, .int x2), (3, .int x3)]) (h : Hd2 i j x0 x1 x2 x3), W p l e rm_X12_stonesOf s m args below meth c H locs 0 0 (MQ below (jQi b cy D tU n K len r Q) args s 0 0 (jA b)) (F0 m 2 ls [])) : ∀ (g : Nat) {H : Heap} {locs : List Loc} {ls : Array Slot} {i : jI} {j : jL} {x0 : Nat} {x1 : Int32} {x2 : Int32} {x3 : Int32} {x4 : Int32} (w : jDy b cy D n K len r i j s H locs) (hx0 : x0 < n ∧ K x0 = 11) (hl : lv_has ls 5 [(0, .ref (b + x0)), (1, .int x1), (2, .int x2), (3, .int x3), (4, .int x4)]) (h : J_X12_stonesOf_L13 len r Q Hd2 g i j x0 x1 x2 x3 x4), W p l e rm_X12_stonesOf s m args below meth c H locs 0 0 (MQ below (jQi b cy D tU n K len r Q) args s 0 0 (jA b)) (F0 m 13 ls []) := by
  obtain ⟨hx, hb, hml, hown, hts, hst, hG⟩ := id C0
  have hiX12 : ∀ w ∈ u_ws RX12 TX12 51, w ∈ wsX12_stonesOf := hiX12_X12_stonesOf
  intro g
  induction g with
  | zero => intro H locs ls i j x0 x1 x2 x3 x4 w hx0 hl h; exact False.elim h
  | succ g ih =>
    intro H locs ls i j x0 x1 x2 x3 x4 w hx0 hl h
    rw [J_X12_stonesOf_L13] at h
    refine lv_iload hx hb dX12_stonesOf_13 (lv_at hl 4 rfl) ?_
    refine lv_iconst (v := (1 : Int32)) hx hb dX12_stonesOf_15 (by decide) ?_
    refine lv_aload_n hx hb dX12_stonesOf_16 rfl (lv_at hl 0 rfl) ?_
    refine jgi (f := 0) hx hb hts hown hst w hx0 hiX12 (rfl : vwCl[11]? = some (RX12, TX12, 51)) (hts (.fieldLink RX12 126 "FootByGateModel" "streets" "I") (by decide +kernel)) ⟨by decide, by decide, rfl⟩ dX12_stonesOf_17 ?_
    refine lv_ishl hx hb dX12_stonesOf_20 ?_
    refine lv_icmp_ge (tgt := 53) hx hb dX12_stonesOf_21 (by decide) (fun hc => ?_) (fun hc => ?_)
    · replace h := h.1 hc
      clear hc
      obtain ⟨v53, he⟩ : ∃ z : Int32, z = x3 + (1 : Int32) := ⟨_, rfl⟩
      replace h := h v53 he
      refine lv_iinc (v := v53) (lv' := [(3, .int v53), (0, .ref (b + x0)), (1, .int x1), (2, .int x2), (4, .int x4)]) hx hb dX12_stonesOf_53 hl (k := 3) rfl (by rw [he]; rfl) (by decide) rfl (fun ls hl => ?_)
      clear he
      refine lv_goto (tgt := 2) hx hb dX12_stonesOf_56 (by decide) ?_
      exact k2 w hx0 (lv_sub hl [1, 2, 3, 0] rfl) h
    · replace h := h.2 hc
      clear hc
      refine lv_iload hx hb dX12_stonesOf_24 (lv_at hl 4 rfl) ?_
      refine jcS_i (As := [.int x4]) (rest := []) C0 w (c_X12_size hG h) (va_cwS 1 hts gX12_stonesOf_X12_size rfl rfl rfl (by decide +kernel) ⟨Nat.le_of_ble_eq_true rfl, Nat.le_of_ble_eq_true rfl⟩) rfl hl.1 rfl (Nat.le_of_ble_eq_true rfl) dX12_stonesOf_26 (fun q26 i26 j26 H locs h w => ?_) ⟨Nat.zero_le _, Nat.zero_le _⟩
      refine lv_iload_n hx hb dX12_stonesOf_29 rfl (lv_at hl 3 rfl) ?_
      refine lv_icmp_ne (tgt := 47) hx hb dX12_stonesOf_30 (by decide) (fun hc => ?_) (fun hc => ?_)
      · replace h := h.1 hc
        clear hc
        exact w_X12_stonesOf_L47 C0 hr hlk (fun w hx0 hl h => k2 w hx0 hl h) (fun w hx0 hl h => ih w hx0 hl h) w hx0 (lv_sub hl [0, 1, 2, 3, 4] rfl) h
      · replace h := h.2 hc
        clear hc
        refine lv_aload_n hx hb dX12_stonesOf_33 rfl (lv_at hl 0 rfl) ?_
        refine lv_iload_n hx hb dX12_stonesOf_34 rfl (lv_at hl 1 rfl) ?_
        refine lv_iload_n hx hb dX12_stonesOf_35 rfl (lv_at hl 2 rfl) ?_
        refine lv_iload hx hb dX12_stonesOf_36 (lv_at hl 4 rfl) ?_
        refine jcV_i (k := x0) (As := [.int x1, .int x2, .int x4]) (rest := []) C0 w (c_X12_comesBy hG hx0 h) (cwV 3 hts gX12_stonesOf_X12_comesBy rfl rfl rfl (by decide +kernel) ⟨Nat.le_of_ble_eq_true rfl, Nat.le_of_ble_eq_true rfl⟩) hx0 (rfl : vwCl[11]? = some (RX12, TX12, 51)) (by decide) rfl hl.1 rfl (Nat.le_of_ble_eq_true rfl) dX12_stonesOf_38 (fun q38 i38 j38 H locs h w => ?_) ⟨Nat.zero_le _, Nat.zero_le _⟩
        refine lv_if_eq (tgt := 47) hx hb dX12_stonesOf_41 (by decide) (fun hc => ?_) (fun hc => ?_)
        · replace h := h.1 hc
          clear hc
          exact w_X12_stonesOf_L47 C0 hr hlk (fun w hx0 hl h => k2 w hx0 hl h) (fun w hx0 hl h => ih w hx0 hl h) w hx0 (lv_sub hl [0, 1, 2, 3, 4] rfl) h
        · replace h := h.2 hc
          clear hc
          refine lv_iload hx hb dX12_stonesOf_44 (lv_at hl 4 rfl) ?_
          exact jret_i hx hb hr hlk hst w h dX12_stonesOf_46
set_option maxHeartbeats 4000000 in
set_option maxRecDepth 100000 in
theorem w_X12_stonesOf_L2 (C0 : jCx p s m args c cX12_stonesOf 5 wsX12_stonesOf RX12 b cy D tU n K r) (hr : meth.sig.returnType = some .int) (hlk : meth.locks = false) : ∀ (g : Nat) {H : Heap} {locs : List Loc} {ls : Array Slot} {i : jI} {j : jL} {x0 : Nat} {x1 : Int32} {x2 : Int32} {x3 : Int32} (w : jDy b cy D n K len r i j s H locs) (hx0 : x0 < n ∧ K x0 = 11) (hl : lv_has ls 5 [(0, .ref (b + x0)), (1, .int x1), (2, .int x2), (3, .int x3)]) (h : J_X12_stonesOf_L2 len r Q g i j x0 x1 x2 x3), W p l e rm_X12_stonesOf s m args below meth c H locs 0 0 (MQ below (jQi b cy D tU n K len r Q) args s 0 0 (jA b)) (F0 m 2 ls []) := by
  obtain ⟨hx, hb, hml, hown, hts, hst, hG⟩ := id C0
  have hiX12 : ∀ w ∈ u_ws RX12 TX12 51, w ∈ wsX12_stonesOf := hiX12_X12_stonesOf
  intro g
  induction g with
  | zero => intro H locs ls i j x0 x1 x2 x3 w hx0 hl h; exact False.elim h
  | succ g ih =>
    intro H locs ls i j x0 x1 x2 x3 w hx0 hl h
    rw [J_X12_stonesOf_L2] at h
    refine lv_iload_n hx hb dX12_stonesOf_2 rfl (lv_at hl 3 rfl) ?_
    refine lv_aload_n hx hb dX12_stonesOf_3 rfl (lv_at hl 0 rfl) ?_
    refine jgi (f := 0) hx hb hts hown hst w hx0 hiX12 (rfl : vwCl[11]? = some (RX12, TX12, 51)) (hts (.fieldLink RX12 126 "FootByGateModel" "streets" "I") (by decide +kernel)) ⟨by decide, by decide, rfl⟩ dX12_stonesOf_4 ?_
    refine lv_icmp_gt (tgt := 59) hx hb dX12_stonesOf_7 (by decide) (fun hc => ?_) (fun hc => ?_)
    · replace h := h.1 hc
      clear hc
      refine lv_iconst (v := (-1 : Int32)) hx hb dX12_stonesOf_59 (by decide) ?_
      exact jret_i hx hb hr hlk hst w h dX12_stonesOf_60
    · replace h := h.2 hc
      clear hc
      refine lv_iconst (v := (0 : Int32)) hx hb dX12_stonesOf_10 (by decide) ?_
      refine lv_istore (lv' := [(4, .int (0 : Int32)), (0, .ref (b + x0)), (1, .int x1), (2, .int x2), (3, .int x3)]) hx hb dX12_stonesOf_11 hl (by decide) rfl (fun ls hl => ?_)
      obtain ⟨g0, h⟩ := h
      exact w_X12_stonesOf_L13 C0 hr hlk (fun w hx0 hl h => ih w hx0 hl h) g0 w hx0 (lv_sub hl [1, 2, 3, 4, 0] rfl) h
set_option maxHeartbeats 4000000 in
set_option maxRecDepth 100000 in
theorem c_X12_stonesOf (hG : jG n K r) {i : jI} {j : jL} {x0 : Nat} {x1 : Int32} {x2 : Int32} (hx0 : x0 < n ∧ K x0 = 11) (h : J_X12_stonesOf len r Q i j x0 x1 x2) : Met l yX12_stonesOf wsX12_stonesOf rm_X12_stonesOf (va_Pc [.ref (b + x0), .int x1, .int x2] (jPre b cy D tU n K len r i j)) (jQi b cy D tU n K len r Q) 0 0 (jA b) := by
  refine Met.ofW (cc := cX12_stonesOf) (maxL := 5) (ret := (some .int)) (by decide) rfl ?_
  intro p e s m args below meth c s₁ B hml hv
  obtain ⟨rfl, hv⟩ := hv
  have C0 : jCx p s m _ c cX12_stonesOf 5 wsX12_stonesOf RX12 b cy D tU n K r := ⟨B.exec, B.bytes, hml, findClass_of_methodNamed B.named, atoms_spec (ws := wsX12_stonesOf) B.pre, hv.2.2, hG⟩
  have hr := B.returns
  have hlk := B.notSynchronized
  obtain ⟨hx, hb, hml, hown, hts, hst, hG⟩ := id C0
  have hiX12 : ∀ w ∈ u_ws RX12 TX12 51, w ∈ wsX12_stonesOf := hiX12_X12_stonesOf
  have w := jDy.start hv
  have hl := lv_entry ([.ref (b + x0), .int x1, .int x2]) (n := 5) (Nat.le_of_ble_eq_true rfl)
  rw [lg_entry_eq]
  generalize (lg_sl ([.ref (b + x0), .int x1, .int x2]) ++ List.replicate (5 - (lg_sl ([.ref (b + x0), .int x1, .int x2])).length) Slot.unset).toArray = ls at hl ⊢
  replace hl : lv_has ls 5 [(0, .ref (b + x0)), (1, .int x1), (2, .int x2)] := hl
  show W p l e rm_X12_stonesOf s m _ below meth c s.heap [] 0 0 _ (F0 m 0 ls [])
  rw [J_X12_stonesOf] at h
  refine lv_iconst (v := (0 : Int32)) hx hb dX12_stonesOf_0 (by decide) ?_
  refine lv_istore_n (lv' := [(3, .int (0 : Int32)), (0, .ref (b + x0)), (1, .int x1), (2, .int x2)]) hx hb dX12_stonesOf_1 rfl hl (by decide) rfl (fun ls hl => ?_)
  obtain ⟨g0, h⟩ := h
  exact w_X12_stonesOf_L2 C0 hr hlk g0 w hx0 (lv_sub hl [1, 2, 3, 0] rfl) h
end S_X12_stonesOf
section S_X12_stones
def J_X12_stones_L15 (len : Nat → Nat) (r : jR) (Q : Int32 → jI → jL → Prop) (i : jI) (j : jL) : Prop := Q (-101 : Int32) i j
def J_X12_stones_L71 (len : Nat → Nat) (r : jR) (Q : Int32 → jI → jL → Prop) (i : jI) (j : jL) (x4 : Int32) : Prop := Q x4 i j
def J_X12_stones (len : Nat → Nat) (r : jR) (Q : Int32 → jI → jL → Prop) (i : jI) (j : jL) (x0 : Nat) (x1 : Int32) (x2 : Int32) (x3 : Int32) : Prop := J_X12_isWalker len r (fun (q2 : Int32) (i2 : jI) (j2 : jL) => ((q2 = 0) → (J_X12_stones_L15 len r Q i2 j2 )) ∧ ((¬ q2 = 0) → (J_X12_isPlace len r (fun (q9 : Int32) (i9 : jI) (j9 : jL) => ((¬ q9 = 0) → (J_X12_within len r (fun (q21 : Int32) (i21 : jI) (j21 : jL) => ((¬ q21 = 0) → (((¬ (i21 x0 14) = (40 : Int32)) → (∀ i49 : jI, i49 = ju i21 x0 14 ((i21 x0 14) + (1 : Int32)) → (J_X12_stonesOf len r (fun (q55 : Int32) (i55 : jI) (j55 : jL) => ((q55 = (-1 : Int32)) → (J_X12_stones_L71 len r Q i55 j55 q55)) ∧ ((¬ q55 = (-1 : Int32)) → (((¬ x3 = (1 : Int32)) → (J_X12_size len r (fun (q78 : Int32) (i78 : jI) (j78 : jL) => Q q78 i78 j78) i55 j55 q55)) ∧ ((x3 = (1 : Int32)) → (J_X12_stones_L71 len r Q i55 j55 q55))))) i49 j21 x0 x1 x2))) ∧ (((i21 x0 14) = (40 : Int32)) → (Q (-103 : Int32) i21 j21)))) ∧ ((q21 = 0) → (Q (-102 : Int32) i21 j21))) i9 j9 x3 (0 : Int32) (1 : Int32))) ∧ ((q9 = 0) → (J_X12_stones_L15 len r Q i9 j9 ))) i2 j2 x2))) i j x0 x1
abbrev rm_X12_stones : Room := { frames := 6, cells := 0, slots := 0, locals := 144 }
variable {p : Program} {l : Launch} {e : Env} {s : State} {m : MethodId} {args : Array Value} {below : List Frame} {meth : Method} {c : Code} {b tU n : Nat} {cy : Nat → ClassId} {D : va_G} {K len : Nat → Nat} {r : jR} {Q : Int32 → jI → jL → Prop}
theorem hiX12_X12_stones : ∀ w ∈ u_ws RX12 TX12 51, w ∈ wsX12_stones := by decide +kernel
set_option maxHeartbeats 4000000 in
set_option maxRecDepth 100000 in
theorem w_X12_stones_L15 (C0 : jCx p s m args c cX12_stones 5 wsX12_stones RX12 b cy D tU n K r) (hr : meth.sig.returnType = some .int) (hlk : meth.locks = false) {H : Heap} {locs : List Loc} {ls : Array Slot} {i : jI} {j : jL}  (w : jDy b cy D n K len r i j s H locs) (hl : lv_has ls 5 []) (h : J_X12_stones_L15 len r Q i j) : W p l e rm_X12_stones s m args below meth c H locs 0 0 (MQ below (jQi b cy D tU n K len r Q) args s 0 0 (jA b)) (F0 m 15 ls []) := by
  obtain ⟨hx, hb, hml, hown, hts, hst, hG⟩ := id C0
  have hiX12 : ∀ w ∈ u_ws RX12 TX12 51, w ∈ wsX12_stones := hiX12_X12_stones
  rw [J_X12_stones_L15] at h
  refine lv_bipush (v := (-101 : Int32)) hx hb dX12_stones_15 (by decide) ?_
  exact jret_i hx hb hr hlk hst w h dX12_stones_17
set_option maxHeartbeats 4000000 in
set_option maxRecDepth 100000 in
theorem w_X12_stones_L71 (C0 : jCx p s m args c cX12_stones 5 wsX12_stones RX12 b cy D tU n K r) (hr : meth.sig.returnType = some .int) (hlk : meth.locks = false) {H : Heap} {locs : List Loc} {ls : Array Slot} {i : jI} {j : jL} {x4 : Int32} (w : jDy b cy D n K len r i j s H locs) (hl : lv_has ls 5 [(4, .int x4)]) (h : J_X12_stones_L71 len r Q i j x4) : W p l e rm_X12_stones s m args below meth c H locs 0 0 (MQ below (jQi b cy D tU n K len r Q) args s 0 0 (jA b)) (F0 m 71 ls []) := by
  obtain ⟨hx, hb, hml, hown, hts, hst, hG⟩ := id C0
  have hiX12 : ∀ w ∈ u_ws RX12 TX12 51, w ∈ wsX12_stones := hiX12_X12_stones
  rw [J_X12_stones_L71] at h
  refine lv_iload hx hb dX12_stones_71 (lv_at hl 0 rfl) ?_
  refine lv_goto (tgt := 81) hx hb dX12_stones_73 (by decide) ?_
  exact jret_i hx hb hr hlk hst w h dX12_stones_81
set_option maxHeartbeats 4000000 in
set_option maxRecDepth 100000 in
theorem c_X12_stones (hG : jG n K r) {i : jI} {j : jL} {x0 : Nat} {x1 : Int32} {x2 : Int32} {x3 : Int32} (hx0 : x0 < n ∧ K x0 = 11) (h : J_X12_stones len r Q i j x0 x1 x2 x3) : Met l yX12_stones wsX12_stones rm_X12_stones (va_Pc [.ref (b + x0), .int x1, .int x2, .int x3] (jPre b cy D tU n K len r i j)) (jQi b cy D tU n K len r Q) 0 0 (jA b) := by
  refine Met.ofW (cc := cX12_stones) (maxL := 5) (ret := (some .int)) (by decide) rfl ?_
  intro p e s m args below meth c s₁ B hml hv
  obtain ⟨rfl, hv⟩ := hv
  have C0 : jCx p s m _ c cX12_stones 5 wsX12_stones RX12 b cy D tU n K r := ⟨B.exec, B.bytes, hml, findClass_of_methodNamed B.named, atoms_spec (ws := wsX12_stones) B.pre, hv.2.2, hG⟩
  have hr := B.returns
  have hlk := B.notSynchronized
  obtain ⟨hx, hb, hml, hown, hts, hst, hG⟩ := id C0
  have hiX12 : ∀ w ∈ u_ws RX12 TX12 51, w ∈ wsX12_stones := hiX12_X12_stones
  have w := jDy.start hv
  have hl := lv_entry ([.ref (b + x0), .int x1, .int x2, .int x3]) (n := 5) (Nat.le_of_ble_eq_true rfl)
  rw [lg_entry_eq]
  generalize (lg_sl ([.ref (b + x0), .int x1, .int x2, .int x3]) ++ List.replicate (5 - (lg_sl ([.ref (b + x0), .int x1, .int x2, .int x3])).length) Slot.unset).toArray = ls at hl ⊢
  replace hl : lv_has ls 5 [(0, .ref (b + x0)), (1, .int x1), (2, .int x2), (3, .int x3)] := hl
  show W p l e rm_X12_stones s m _ below meth c s.heap [] 0 0 _ (F0 m 0 ls [])
  rw [J_X12_stones] at h
  refine lv_aload_n hx hb dX12_stones_0 rfl (lv_at hl 0 rfl) ?_
  refine lv_iload_n hx hb dX12_stones_1 rfl (lv_at hl 1 rfl) ?_
  refine jcV_i (k := x0) (As := [.int x1]) (rest := []) C0 w (c_X12_isWalker hG hx0 h) (cwV 1 hts gX12_stones_X12_isWalker rfl rfl rfl (by decide +kernel) ⟨Nat.le_of_ble_eq_true rfl, Nat.le_of_ble_eq_true rfl⟩) hx0 (rfl : vwCl[11]? = some (RX12, TX12, 51)) (by decide) rfl hl.1 rfl (Nat.le_of_ble_eq_true rfl) dX12_stones_2 (fun q2 i2 j2 H locs h w => ?_) ⟨Nat.zero_le _, Nat.zero_le _⟩
  refine lv_if_eq (tgt := 15) hx hb dX12_stones_5 (by decide) (fun hc => ?_) (fun hc => ?_)
  · replace h := h.1 hc
    clear hc
    exact w_X12_stones_L15 C0 hr hlk w (lv_sub hl [] rfl) h
  · replace h := h.2 hc
    clear hc
    refine lv_iload_n hx hb dX12_stones_8 rfl (lv_at hl 2 rfl) ?_
    refine jcS_i (As := [.int x2]) (rest := []) C0 w (c_X12_isPlace hG h) (va_cwS 1 hts gX12_stones_X12_isPlace rfl rfl rfl (by decide +kernel) ⟨Nat.le_of_ble_eq_true rfl, Nat.le_of_ble_eq_true rfl⟩) rfl hl.1 rfl (Nat.le_of_ble_eq_true rfl) dX12_stones_9 (fun q9 i9 j9 H locs h w => ?_) ⟨Nat.zero_le _, Nat.zero_le _⟩
    refine lv_if_ne (tgt := 18) hx hb dX12_stones_12 (by decide) (fun hc => ?_) (fun hc => ?_)
    · replace h := h.1 hc
      clear hc
      refine lv_iload_n hx hb dX12_stones_18 rfl (lv_at hl 3 rfl) ?_
      refine lv_iconst (v := (0 : Int32)) hx hb dX12_stones_19 (by decide) ?_
      refine lv_iconst (v := (1 : Int32)) hx hb dX12_stones_20 (by decide) ?_
      refine jcS_i (As := [.int x3, .int (0 : Int32), .int (1 : Int32)]) (rest := []) C0 w (c_X12_within hG h) (va_cwS 3 hts gX12_stones_X12_within rfl rfl rfl (by decide +kernel) ⟨Nat.le_of_ble_eq_true rfl, Nat.le_of_ble_eq_true rfl⟩) rfl hl.1 rfl (Nat.le_of_ble_eq_true rfl) dX12_stones_21 (fun q21 i21 j21 H locs h w => ?_) ⟨Nat.zero_le _, Nat.zero_le _⟩
      refine lv_if_ne (tgt := 30) hx hb dX12_stones_24 (by decide) (fun hc => ?_) (fun hc => ?_)
      · replace h := h.1 hc
        clear hc
        refine lv_aload_n hx hb dX12_stones_30 rfl (lv_at hl 0 rfl) ?_
        refine jgi (f := 14) hx hb hts hown hst w hx0 hiX12 (rfl : vwCl[11]? = some (RX12, TX12, 51)) (hts (.fieldLink RX12 221 "FootByGateModel" "asks" "I") (by decide +kernel)) ⟨by decide, by decide, rfl⟩ dX12_stones_31 ?_
        refine lv_bipush (v := (40 : Int32)) hx hb dX12_stones_34 (by decide) ?_
        refine lv_icmp_ne (tgt := 42) hx hb dX12_stones_36 (by decide) (fun hc => ?_) (fun hc => ?_)
        · replace h := h.1 hc
          clear hc
          refine lv_aload_n hx hb dX12_stones_42 rfl (lv_at hl 0 rfl) ?_
          refine lv_dup hx hb dX12_stones_43 rfl ?_
          refine jgi (f := 14) hx hb hts hown hst w hx0 hiX12 (rfl : vwCl[11]? = some (RX12, TX12, 51)) (hts (.fieldLink RX12 221 "FootByGateModel" "asks" "I") (by decide +kernel)) ⟨by decide, by decide, rfl⟩ dX12_stones_44 ?_
          refine lv_iconst (v := (1 : Int32)) hx hb dX12_stones_47 (by decide) ?_
          refine lv_iadd hx hb dX12_stones_48 ?_
          refine jpi (f := 14) hx hb hts hown hst w hx0 hiX12 (rfl : vwCl[11]? = some (RX12, TX12, 51)) (hts (.fieldLink RX12 221 "FootByGateModel" "asks" "I") (by decide +kernel)) ⟨by decide, by decide, rfl⟩ tyX12 tyX12_ok nmX12 rfl ⟨rfl, rfl⟩ dX12_stones_49 (fun i49 H locs he w => ?_)
          replace h := h i49 he
          clear he
          refine lv_aload_n hx hb dX12_stones_52 rfl (lv_at hl 0 rfl) ?_
          refine lv_iload_n hx hb dX12_stones_53 rfl (lv_at hl 1 rfl) ?_
          refine lv_iload_n hx hb dX12_stones_54 rfl (lv_at hl 2 rfl) ?_
          refine jcV_i (k := x0) (As := [.int x1, .int x2]) (rest := []) C0 w (c_X12_stonesOf hG hx0 h) (cwV 2 hts gX12_stones_X12_stonesOf rfl rfl rfl (by decide +kernel) ⟨Nat.le_of_ble_eq_true rfl, Nat.le_of_ble_eq_true rfl⟩) hx0 (rfl : vwCl[11]? = some (RX12, TX12, 51)) (by decide) rfl hl.1 rfl (Nat.le_of_ble_eq_true rfl) dX12_stones_55 (fun q55 i55 j55 H locs h w => ?_) ⟨Nat.zero_le _, Nat.zero_le _⟩
          refine lv_istore (lv' := [(4, .int q55), (0, .ref (b + x0)), (1, .int x1), (2, .int x2), (3, .int x3)]) hx hb dX12_stones_58 hl (by decide) rfl (fun ls hl => ?_)
          refine lv_iload hx hb dX12_stones_60 (lv_at hl 0 rfl) ?_
          refine lv_iconst (v := (-1 : Int32)) hx hb dX12_stones_62 (by decide) ?_
          refine lv_icmp_eq (tgt := 71) hx hb dX12_stones_63 (by decide) (fun hc => ?_) (fun hc => ?_)
          · replace h := h.1 hc
            clear hc
            exact w_X12_stones_L71 C0 hr hlk w (lv_sub hl [0] rfl) h
          · replace h := h.2 hc
            clear hc
            refine lv_iload_n hx hb dX12_stones_66 rfl (lv_at hl 4 rfl) ?_
            refine lv_iconst (v := (1 : Int32)) hx hb dX12_stones_67 (by decide) ?_
            refine lv_icmp_ne (tgt := 76) hx hb dX12_stones_68 (by decide) (fun hc => ?_) (fun hc => ?_)
            · replace h := h.1 hc
              clear hc
              refine lv_iload hx hb dX12_stones_76 (lv_at hl 0 rfl) ?_
              refine jcS_i (As := [.int q55]) (rest := []) C0 w (c_X12_size hG h) (va_cwS 1 hts gX12_stones_X12_size rfl rfl rfl (by decide +kernel) ⟨Nat.le_of_ble_eq_true rfl, Nat.le_of_ble_eq_true rfl⟩) rfl hl.1 rfl (Nat.le_of_ble_eq_true rfl) dX12_stones_78 (fun q78 i78 j78 H locs h w => ?_) ⟨Nat.zero_le _, Nat.zero_le _⟩
              exact jret_i hx hb hr hlk hst w h dX12_stones_81
            · replace h := h.2 hc
              clear hc
              exact w_X12_stones_L71 C0 hr hlk w (lv_sub hl [0] rfl) h
        · replace h := h.2 hc
          clear hc
          refine lv_bipush (v := (-103 : Int32)) hx hb dX12_stones_39 (by decide) ?_
          exact jret_i hx hb hr hlk hst w h dX12_stones_41
      · replace h := h.2 hc
        clear hc
        refine lv_bipush (v := (-102 : Int32)) hx hb dX12_stones_27 (by decide) ?_
        exact jret_i hx hb hr hlk hst w h dX12_stones_29
    · replace h := h.2 hc
      clear hc
      exact w_X12_stones_L15 C0 hr hlk w (lv_sub hl [] rfl) h
end S_X12_stones
section S_X12_street
def J_X12_street (len : Nat → Nat) (r : jR) (Q : Int32 → jI → jL → Prop) (i : jI) (j : jL) (x0 : Nat) (x1 : Int32) (x2 : Int32) : Prop := J_X12_isStreet len r (fun (q2 : Int32) (i2 : jI) (j2 : jL) => ((¬ q2 = 0) → (J_X12_within len r (fun (q16 : Int32) (i16 : jI) (j16 : jL) => ((q16 = 0) → (Q (-102 : Int32) i16 j16)) ∧ ((¬ q16 = 0) → (J_X12_streetNow len r (fun (q25 : Int32) (i25 : jI) (j25 : jL) => Q q25 i25 j25) i16 j16 x0 x1 x2))) i2 j2 x2 (0 : Int32) (3 : Int32))) ∧ ((q2 = 0) → (Q (-101 : Int32) i2 j2))) i j x0 x1
abbrev rm_X12_street : Room := { frames := 2, cells := 0, slots := 0, locals := 43 }
variable {p : Program} {l : Launch} {e : Env} {s : State} {m : MethodId} {args : Array Value} {below : List Frame} {meth : Method} {c : Code} {b tU n : Nat} {cy : Nat → ClassId} {D : va_G} {K len : Nat → Nat} {r : jR} {Q : Int32 → jI → jL → Prop}
set_option maxHeartbeats 4000000 in
set_option maxRecDepth 100000 in
theorem c_X12_street (hG : jG n K r) {i : jI} {j : jL} {x0 : Nat} {x1 : Int32} {x2 : Int32} (hx0 : x0 < n ∧ K x0 = 11) (h : J_X12_street len r Q i j x0 x1 x2) : Met l yX12_street wsX12_street rm_X12_street (va_Pc [.ref (b + x0), .int x1, .int x2] (jPre b cy D tU n K len r i j)) (jQi b cy D tU n K len r Q) 0 0 (jA b) := by
  refine Met.ofW (cc := cX12_street) (maxL := 3) (ret := (some .int)) (by decide) rfl ?_
  intro p e s m args below meth c s₁ B hml hv
  obtain ⟨rfl, hv⟩ := hv
  have C0 : jCx p s m _ c cX12_street 3 wsX12_street RX12 b cy D tU n K r := ⟨B.exec, B.bytes, hml, findClass_of_methodNamed B.named, atoms_spec (ws := wsX12_street) B.pre, hv.2.2, hG⟩
  have hr := B.returns
  have hlk := B.notSynchronized
  obtain ⟨hx, hb, hml, hown, hts, hst, hG⟩ := id C0
  have w := jDy.start hv
  have hl := lv_entry ([.ref (b + x0), .int x1, .int x2]) (n := 3) (Nat.le_of_ble_eq_true rfl)
  rw [lg_entry_eq]
  generalize (lg_sl ([.ref (b + x0), .int x1, .int x2]) ++ List.replicate (3 - (lg_sl ([.ref (b + x0), .int x1, .int x2])).length) Slot.unset).toArray = ls at hl ⊢
  replace hl : lv_has ls 3 [(0, .ref (b + x0)), (1, .int x1), (2, .int x2)] := hl
  show W p l e rm_X12_street s m _ below meth c s.heap [] 0 0 _ (F0 m 0 ls [])
  rw [J_X12_street] at h
  refine lv_aload_n hx hb dX12_street_0 rfl (lv_at hl 0 rfl) ?_
  refine lv_iload_n hx hb dX12_street_1 rfl (lv_at hl 1 rfl) ?_
  refine jcV_i (k := x0) (As := [.int x1]) (rest := []) C0 w (c_X12_isStreet hG hx0 h) (cwV 1 hts gX12_street_X12_isStreet rfl rfl rfl (by decide +kernel) ⟨Nat.le_of_ble_eq_true rfl, Nat.le_of_ble_eq_true rfl⟩) hx0 (rfl : vwCl[11]? = some (RX12, TX12, 51)) (by decide) rfl hl.1 rfl (Nat.le_of_ble_eq_true rfl) dX12_street_2 (fun q2 i2 j2 H locs h w => ?_) ⟨Nat.zero_le _, Nat.zero_le _⟩
  refine lv_if_ne (tgt := 13) hx hb dX12_street_5 (by decide) (fun hc => ?_) (fun hc => ?_)
  · replace h := h.1 hc
    clear hc
    refine lv_iload_n hx hb dX12_street_13 rfl (lv_at hl 2 rfl) ?_
    refine lv_iconst (v := (0 : Int32)) hx hb dX12_street_14 (by decide) ?_
    refine lv_iconst (v := (3 : Int32)) hx hb dX12_street_15 (by decide) ?_
    refine jcS_i (As := [.int x2, .int (0 : Int32), .int (3 : Int32)]) (rest := []) C0 w (c_X12_within hG h) (va_cwS 3 hts gX12_street_X12_within rfl rfl rfl (by decide +kernel) ⟨Nat.le_of_ble_eq_true rfl, Nat.le_of_ble_eq_true rfl⟩) rfl hl.1 rfl (Nat.le_of_ble_eq_true rfl) dX12_street_16 (fun q16 i16 j16 H locs h w => ?_) ⟨Nat.zero_le _, Nat.zero_le _⟩
    refine lv_if_eq (tgt := 31) hx hb dX12_street_19 (by decide) (fun hc => ?_) (fun hc => ?_)
    · replace h := h.1 hc
      clear hc
      refine lv_bipush (v := (-102 : Int32)) hx hb dX12_street_31 (by decide) ?_
      exact jret_i hx hb hr hlk hst w h dX12_street_33
    · replace h := h.2 hc
      clear hc
      refine lv_aload_n hx hb dX12_street_22 rfl (lv_at hl 0 rfl) ?_
      refine lv_iload_n hx hb dX12_street_23 rfl (lv_at hl 1 rfl) ?_
      refine lv_iload_n hx hb dX12_street_24 rfl (lv_at hl 2 rfl) ?_
      refine jcV_i (k := x0) (As := [.int x1, .int x2]) (rest := []) C0 w (c_X12_streetNow hG hx0 h) (cwV 2 hts gX12_street_X12_streetNow rfl rfl rfl (by decide +kernel) ⟨Nat.le_of_ble_eq_true rfl, Nat.le_of_ble_eq_true rfl⟩) hx0 (rfl : vwCl[11]? = some (RX12, TX12, 51)) (by decide) rfl hl.1 rfl (Nat.le_of_ble_eq_true rfl) dX12_street_25 (fun q25 i25 j25 H locs h w => ?_) ⟨Nat.zero_le _, Nat.zero_le _⟩
      refine lv_goto (tgt := 33) hx hb dX12_street_28 (by decide) ?_
      exact jret_i hx hb hr hlk hst w h dX12_street_33
  · replace h := h.2 hc
    clear hc
    refine lv_bipush (v := (-101 : Int32)) hx hb dX12_street_8 (by decide) ?_
    refine lv_goto (tgt := 33) hx hb dX12_street_10 (by decide) ?_
    exact jret_i hx hb hr hlk hst w h dX12_street_33
end S_X12_street
section S_X12_town
def J_X12_town_L40 (len : Nat → Nat) (r : jR) (Q : Int32 → jI → jL → Prop) : Nat → jI → jL → Nat → Int32 → Prop
  | 0 => fun _ _ _ _ => False
  | g + 1 => fun i j x0 x1 => (((i x0 0) ≤ x1) → (∀ i109 : jI, i109 = ju i x0 7 ((i x0 7) + (1 : Int32)) → (∀ i114 : jI, i114 = ju i109 x0 8 (0 : Int32) → (∀ i119 : jI, i119 = ju i114 x0 12 (0 : Int32) → (∀ i124 : jI, i124 = ju i119 x0 15 (0 : Int32) → (Q (i124 x0 0) i124 j)))))) ∧ ((¬ (i x0 0) ≤ x1) → (∃ a49, r x0 1 = some a49 ∧ (∃ a54, r x0 22 = some a54 ∧ (vp_in x1 (len a54) ∧ (vp_in x1 (len a49) ∧ ∀ i59 : jI, i59 = ju i a49 x1.toNatClampNeg (i a54 x1.toNatClampNeg) → (∃ a61, r x0 2 = some a61 ∧ (∃ a66, r x0 23 = some a66 ∧ (vp_in x1 (len a66) ∧ (vp_in x1 (len a61) ∧ ∀ i71 : jI, i71 = ju i59 a61 x1.toNatClampNeg (i59 a66 x1.toNatClampNeg) → (∃ a73, r x0 3 = some a73 ∧ (∃ a78, r x0 24 = some a78 ∧ (vp_in x1 (len a78) ∧ (vp_in x1 (len a73) ∧ ∀ i83 : jI, i83 = ju i71 a73 x1.toNatClampNeg (i71 a78 x1.toNatClampNeg) → (∃ a85, r x0 4 = some a85 ∧ (∃ a90, r x0 25 = some a90 ∧ (vp_in x1 (len a90) ∧ (vp_in x1 (len a85) ∧ ∀ i95 : jI, i95 = ju i83 a85 x1.toNatClampNeg (i83 a90 x1.toNatClampNeg) → (∀ v96 : Int32, v96 = x1 + (1 : Int32) → ((J_X12_town_L40 len r Q g) i95 j x0 v96)))))))))))))))))))
def J_X12_town (len : Nat → Nat) (r : jR) (Q : Int32 → jI → jL → Prop) (i : jI) (j : jL) (x0 : Nat) : Prop := J_X12_readTown len r (fun (i1 : jI) (j1 : jL) => ((¬ (i1 x0 18) = 0) → (∀ i19 : jI, i19 = ju i1 x0 0 (i1 x0 19) → (∀ i27 : jI, i27 = ju i19 x0 5 (i19 x0 20) → (((i27 x0 21) = 0 ∨ (i27 x0 21) = 1) ∧ ∀ i35 : jI, i35 = ju i27 x0 6 (i27 x0 21) → (∃ g0, J_X12_town_L40 len r Q g0 i35 j1 x0 (0 : Int32)))))) ∧ (((i1 x0 18) = 0) → (Q (-103 : Int32) i1 j1))) i j x0
abbrev rm_X12_town : Room := { frames := 3, cells := 0, slots := 0, locals := 69 }
variable {p : Program} {l : Launch} {e : Env} {s : State} {m : MethodId} {args : Array Value} {below : List Frame} {meth : Method} {c : Code} {b tU n : Nat} {cy : Nat → ClassId} {D : va_G} {K len : Nat → Nat} {r : jR} {Q : Int32 → jI → jL → Prop}
theorem hiX12_X12_town : ∀ w ∈ u_ws RX12 TX12 51, w ∈ wsX12_town := by decide +kernel
set_option maxHeartbeats 4000000 in
set_option maxRecDepth 100000 in
theorem w_X12_town_L40 (C0 : jCx p s m args c cX12_town 2 wsX12_town RX12 b cy D tU n K r) (hr : meth.sig.returnType = some .int) (hlk : meth.locks = false) : ∀ (g : Nat) {H : Heap} {locs : List Loc} {ls : Array Slot} {i : jI} {j : jL} {x0 : Nat} {x1 : Int32} (w : jDy b cy D n K len r i j s H locs) (hx0 : x0 < n ∧ K x0 = 11) (hl : lv_has ls 2 [(0, .ref (b + x0)), (1, .int x1)]) (h : J_X12_town_L40 len r Q g i j x0 x1), W p l e rm_X12_town s m args below meth c H locs 0 0 (MQ below (jQi b cy D tU n K len r Q) args s 0 0 (jA b)) (F0 m 40 ls []) := by
  obtain ⟨hx, hb, hml, hown, hts, hst, hG⟩ := id C0
  have hiX12 : ∀ w ∈ u_ws RX12 TX12 51, w ∈ wsX12_town := hiX12_X12_town
  intro g
  induction g with
  | zero => intro H locs ls i j x0 x1 w hx0 hl h; exact False.elim h
  | succ g ih =>
    intro H locs ls i j x0 x1 w hx0 hl h
    rw [J_X12_town_L40] at h
    refine lv_iload_n hx hb dX12_town_40 rfl (lv_at hl 1 rfl) ?_
    refine lv_aload_n hx hb dX12_town_41 rfl (lv_at hl 0 rfl) ?_
    refine jgi (f := 0) hx hb hts hown hst w hx0 hiX12 (rfl : vwCl[11]? = some (RX12, TX12, 51)) (hts (.fieldLink RX12 126 "FootByGateModel" "streets" "I") (by decide +kernel)) ⟨by decide, by decide, rfl⟩ dX12_town_42 ?_
    refine lv_icmp_ge (tgt := 102) hx hb dX12_town_45 (by decide) (fun hc => ?_) (fun hc => ?_)
    · replace h := h.1 hc
      clear hc
      refine lv_aload_n hx hb dX12_town_102 rfl (lv_at hl 0 rfl) ?_
      refine lv_dup hx hb dX12_town_103 rfl ?_
      refine jgi (f := 7) hx hb hts hown hst w hx0 hiX12 (rfl : vwCl[11]? = some (RX12, TX12, 51)) (hts (.fieldLink RX12 135 "FootByGateModel" "towns" "I") (by decide +kernel)) ⟨by decide, by decide, rfl⟩ dX12_town_104 ?_
      refine lv_iconst (v := (1 : Int32)) hx hb dX12_town_107 (by decide) ?_
      refine lv_iadd hx hb dX12_town_108 ?_
      refine jpi (f := 7) hx hb hts hown hst w hx0 hiX12 (rfl : vwCl[11]? = some (RX12, TX12, 51)) (hts (.fieldLink RX12 135 "FootByGateModel" "towns" "I") (by decide +kernel)) ⟨by decide, by decide, rfl⟩ tyX12 tyX12_ok nmX12 rfl ⟨rfl, rfl⟩ dX12_town_109 (fun i109 H locs he w => ?_)
      replace h := h i109 he
      clear he
      refine lv_aload_n hx hb dX12_town_112 rfl (lv_at hl 0 rfl) ?_
      refine lv_iconst (v := (0 : Int32)) hx hb dX12_town_113 (by decide) ?_
      refine jpi (f := 8) hx hb hts hown hst w hx0 hiX12 (rfl : vwCl[11]? = some (RX12, TX12, 51)) (hts (.fieldLink RX12 138 "FootByGateModel" "walkers" "I") (by decide +kernel)) ⟨by decide, by decide, rfl⟩ tyX12 tyX12_ok nmX12 rfl ⟨rfl, rfl⟩ dX12_town_114 (fun i114 H locs he w => ?_)
      replace h := h i114 he
      clear he
      refine lv_aload_n hx hb dX12_town_117 rfl (lv_at hl 0 rfl) ?_
      refine lv_iconst (v := (0 : Int32)) hx hb dX12_town_118 (by decide) ?_
      refine jpi (f := 12) hx hb hts hown hst w hx0 hiX12 (rfl : vwCl[11]? = some (RX12, TX12, 51)) (hts (.fieldLink RX12 141 "FootByGateModel" "prints" "I") (by decide +kernel)) ⟨by decide, by decide, rfl⟩ tyX12 tyX12_ok nmX12 rfl ⟨rfl, rfl⟩ dX12_town_119 (fun i119 H locs he w => ?_)
      replace h := h i119 he
      clear he
      refine lv_aload_n hx hb dX12_town_122 rfl (lv_at hl 0 rfl) ?_
      refine lv_iconst (v := (0 : Int32)) hx hb dX12_town_123 (by decide) ?_
      refine jpi (f := 15) hx hb hts hown hst w hx0 hiX12 (rfl : vwCl[11]? = some (RX12, TX12, 51)) (hts (.fieldLink RX12 95 "FootByGateModel" "pageLength" "I") (by decide +kernel)) ⟨by decide, by decide, rfl⟩ tyX12 tyX12_ok nmX12 rfl ⟨rfl, rfl⟩ dX12_town_124 (fun i124 H locs he w => ?_)
      replace h := h i124 he
      clear he
      refine lv_aload_n hx hb dX12_town_127 rfl (lv_at hl 0 rfl) ?_
      refine jgi (f := 0) hx hb hts hown hst w hx0 hiX12 (rfl : vwCl[11]? = some (RX12, TX12, 51)) (hts (.fieldLink RX12 126 "FootByGateModel" "streets" "I") (by decide +kernel)) ⟨by decide, by decide, rfl⟩ dX12_town_128 ?_
      exact jret_i hx hb hr hlk hst w h dX12_town_131
    · replace h := h.2 hc
      clear hc
      refine lv_aload_n hx hb dX12_town_48 rfl (lv_at hl 0 rfl) ?_
      obtain ⟨a49, hr0, h⟩ := h
      refine jgr (f := 1) hx hb hts hown hst w hG hx0 hiX12 (rfl : vwCl[11]? = some (RX12, TX12, 51)) (hts (.fieldLink RX12 7 "FootByGateModel" "placeA" "[I") (by decide +kernel)) ⟨by decide, by decide, rfl⟩ (rfl : jrt 11 1 = 13) dX12_town_49 hr0 (fun ha49 => ?_)
      clear hr0
      refine lv_iload_n hx hb dX12_town_52 rfl (lv_at hl 1 rfl) ?_
      refine lv_aload_n hx hb dX12_town_53 rfl (lv_at hl 0 rfl) ?_
      obtain ⟨a54, hr0, h⟩ := h
      refine jgr (f := 22) hx hb hts hown hst w hG hx0 hiX12 (rfl : vwCl[11]? = some (RX12, TX12, 51)) (hts (.fieldLink RX12 38 "FootByGateModel" "newA" "[I") (by decide +kernel)) ⟨by decide, by decide, rfl⟩ (rfl : jrt 11 22 = 13) dX12_town_54 hr0 (fun ha54 => ?_)
      clear hr0
      refine lv_iload_n hx hb dX12_town_57 rfl (lv_at hl 1 rfl) ?_
      obtain ⟨hn, h⟩ := h
      refine jaid hx hb hst w ha54 hn dX12_town_58 ?_
      clear hn
      obtain ⟨hn, h⟩ := h
      refine jais hx hb hst w ha49 hn dX12_town_59 (fun i59 H locs he w => ?_)
      replace h := h i59 he
      clear he hn
      refine lv_aload_n hx hb dX12_town_60 rfl (lv_at hl 0 rfl) ?_
      obtain ⟨a61, hr0, h⟩ := h
      refine jgr (f := 2) hx hb hts hown hst w hG hx0 hiX12 (rfl : vwCl[11]? = some (RX12, TX12, 51)) (hts (.fieldLink RX12 13 "FootByGateModel" "placeB" "[I") (by decide +kernel)) ⟨by decide, by decide, rfl⟩ (rfl : jrt 11 2 = 13) dX12_town_61 hr0 (fun ha61 => ?_)
      clear hr0
      refine lv_iload_n hx hb dX12_town_64 rfl (lv_at hl 1 rfl) ?_
      refine lv_aload_n hx hb dX12_town_65 rfl (lv_at hl 0 rfl) ?_
      obtain ⟨a66, hr0, h⟩ := h
      refine jgr (f := 23) hx hb hts hown hst w hG hx0 hiX12 (rfl : vwCl[11]? = some (RX12, TX12, 51)) (hts (.fieldLink RX12 41 "FootByGateModel" "newB" "[I") (by decide +kernel)) ⟨by decide, by decide, rfl⟩ (rfl : jrt 11 23 = 13) dX12_town_66 hr0 (fun ha66 => ?_)
      clear hr0
      refine lv_iload_n hx hb dX12_town_69 rfl (lv_at hl 1 rfl) ?_
      obtain ⟨hn, h⟩ := h
      refine jaid hx hb hst w ha66 hn dX12_town_70 ?_
      clear hn
      obtain ⟨hn, h⟩ := h
      refine jais hx hb hst w ha61 hn dX12_town_71 (fun i71 H locs he w => ?_)
      replace h := h i71 he
      clear he hn
      refine lv_aload_n hx hb dX12_town_72 rfl (lv_at hl 0 rfl) ?_
      obtain ⟨a73, hr0, h⟩ := h
      refine jgr (f := 3) hx hb hts hown hst w hG hx0 hiX12 (rfl : vwCl[11]? = some (RX12, TX12, 51)) (hts (.fieldLink RX12 16 "FootByGateModel" "pacesOf" "[I") (by decide +kernel)) ⟨by decide, by decide, rfl⟩ (rfl : jrt 11 3 = 13) dX12_town_73 hr0 (fun ha73 => ?_)
      clear hr0
      refine lv_iload_n hx hb dX12_town_76 rfl (lv_at hl 1 rfl) ?_
      refine lv_aload_n hx hb dX12_town_77 rfl (lv_at hl 0 rfl) ?_
      obtain ⟨a78, hr0, h⟩ := h
      refine jgr (f := 24) hx hb hts hown hst w hG hx0 hiX12 (rfl : vwCl[11]? = some (RX12, TX12, 51)) (hts (.fieldLink RX12 44 "FootByGateModel" "newPaces" "[I") (by decide +kernel)) ⟨by decide, by decide, rfl⟩ (rfl : jrt 11 24 = 13) dX12_town_78 hr0 (fun ha78 => ?_)
      clear hr0
      refine lv_iload_n hx hb dX12_town_81 rfl (lv_at hl 1 rfl) ?_
      obtain ⟨hn, h⟩ := h
      refine jaid hx hb hst w ha78 hn dX12_town_82 ?_
      clear hn
      obtain ⟨hn, h⟩ := h
      refine jais hx hb hst w ha73 hn dX12_town_83 (fun i83 H locs he w => ?_)
      replace h := h i83 he
      clear he hn
      refine lv_aload_n hx hb dX12_town_84 rfl (lv_at hl 0 rfl) ?_
      obtain ⟨a85, hr0, h⟩ := h
      refine jgr (f := 4) hx hb hts hown hst w hG hx0 hiX12 (rfl : vwCl[11]? = some (RX12, TX12, 51)) (hts (.fieldLink RX12 19 "FootByGateModel" "gateOf" "[I") (by decide +kernel)) ⟨by decide, by decide, rfl⟩ (rfl : jrt 11 4 = 13) dX12_town_85 hr0 (fun ha85 => ?_)
      clear hr0
      refine lv_iload_n hx hb dX12_town_88 rfl (lv_at hl 1 rfl) ?_
      refine lv_aload_n hx hb dX12_town_89 rfl (lv_at hl 0 rfl) ?_
      obtain ⟨a90, hr0, h⟩ := h
      refine jgr (f := 25) hx hb hts hown hst w hG hx0 hiX12 (rfl : vwCl[11]? = some (RX12, TX12, 51)) (hts (.fieldLink RX12 47 "FootByGateModel" "newGate" "[I") (by decide +kernel)) ⟨by decide, by decide, rfl⟩ (rfl : jrt 11 25 = 13) dX12_town_90 hr0 (fun ha90 => ?_)
      clear hr0
      refine lv_iload_n hx hb dX12_town_93 rfl (lv_at hl 1 rfl) ?_
      obtain ⟨hn, h⟩ := h
      refine jaid hx hb hst w ha90 hn dX12_town_94 ?_
      clear hn
      obtain ⟨hn, h⟩ := h
      refine jais hx hb hst w ha85 hn dX12_town_95 (fun i95 H locs he w => ?_)
      replace h := h i95 he
      clear he hn
      obtain ⟨v96, he⟩ : ∃ z : Int32, z = x1 + (1 : Int32) := ⟨_, rfl⟩
      replace h := h v96 he
      refine lv_iinc (v := v96) (lv' := [(1, .int v96), (0, .ref (b + x0))]) hx hb dX12_town_96 hl (k := 1) rfl (by rw [he]; rfl) (by decide) rfl (fun ls hl => ?_)
      clear he
      refine lv_goto (tgt := 40) hx hb dX12_town_99 (by decide) ?_
      exact ih w hx0 (lv_sub hl [1, 0] rfl) h
set_option maxHeartbeats 4000000 in
set_option maxRecDepth 100000 in
theorem c_X12_town (hG : jG n K r) {i : jI} {j : jL} {x0 : Nat} (hx0 : x0 < n ∧ K x0 = 11) (h : J_X12_town len r Q i j x0) : Met l yX12_town wsX12_town rm_X12_town (va_Pc [.ref (b + x0)] (jPre b cy D tU n K len r i j)) (jQi b cy D tU n K len r Q) 0 0 (jA b) := by
  refine Met.ofW (cc := cX12_town) (maxL := 2) (ret := (some .int)) (by decide) rfl ?_
  intro p e s m args below meth c s₁ B hml hv
  obtain ⟨rfl, hv⟩ := hv
  have C0 : jCx p s m _ c cX12_town 2 wsX12_town RX12 b cy D tU n K r := ⟨B.exec, B.bytes, hml, findClass_of_methodNamed B.named, atoms_spec (ws := wsX12_town) B.pre, hv.2.2, hG⟩
  have hr := B.returns
  have hlk := B.notSynchronized
  obtain ⟨hx, hb, hml, hown, hts, hst, hG⟩ := id C0
  have hiX12 : ∀ w ∈ u_ws RX12 TX12 51, w ∈ wsX12_town := hiX12_X12_town
  have w := jDy.start hv
  have hl := lv_entry ([.ref (b + x0)]) (n := 2) (Nat.le_of_ble_eq_true rfl)
  rw [lg_entry_eq]
  generalize (lg_sl ([.ref (b + x0)]) ++ List.replicate (2 - (lg_sl ([.ref (b + x0)])).length) Slot.unset).toArray = ls at hl ⊢
  replace hl : lv_has ls 2 [(0, .ref (b + x0))] := hl
  show W p l e rm_X12_town s m _ below meth c s.heap [] 0 0 _ (F0 m 0 ls [])
  rw [J_X12_town] at h
  refine lv_aload_n hx hb dX12_town_0 rfl (lv_at hl 0 rfl) ?_
  refine jcV_v (k := x0) (As := []) (rest := []) C0 w (c_X12_readTown hG hx0 h) (cwV 0 hts gX12_town_X12_readTown rfl rfl rfl (by decide +kernel) ⟨Nat.le_of_ble_eq_true rfl, Nat.le_of_ble_eq_true rfl⟩) hx0 (rfl : vwCl[11]? = some (RX12, TX12, 51)) (by decide) rfl hl.1 rfl (Nat.le_of_ble_eq_true rfl) dX12_town_1 (fun i1 j1 H locs h w => ?_) ⟨Nat.zero_le _, Nat.zero_le _⟩
  refine lv_aload_n hx hb dX12_town_4 rfl (lv_at hl 0 rfl) ?_
  refine jgi (f := 18) hx hb hts hown hst w hx0 hiX12 (rfl : vwCl[11]? = some (RX12, TX12, 51)) (hts (.fieldLink RX12 120 "FootByGateModel" "isWhole" "Z") (by decide +kernel)) ⟨by decide, by decide, rfl⟩ dX12_town_5 ?_
  refine lv_if_ne (tgt := 14) hx hb dX12_town_8 (by decide) (fun hc => ?_) (fun hc => ?_)
  · replace h := h.1 hc
    clear hc
    refine lv_aload_n hx hb dX12_town_14 rfl (lv_at hl 0 rfl) ?_
    refine lv_aload_n hx hb dX12_town_15 rfl (lv_at hl 0 rfl) ?_
    refine jgi (f := 19) hx hb hts hown hst w hx0 hiX12 (rfl : vwCl[11]? = some (RX12, TX12, 51)) (hts (.fieldLink RX12 99 "FootByGateModel" "newMany" "I") (by decide +kernel)) ⟨by decide, by decide, rfl⟩ dX12_town_16 ?_
    refine jpi (f := 0) hx hb hts hown hst w hx0 hiX12 (rfl : vwCl[11]? = some (RX12, TX12, 51)) (hts (.fieldLink RX12 126 "FootByGateModel" "streets" "I") (by decide +kernel)) ⟨by decide, by decide, rfl⟩ tyX12 tyX12_ok nmX12 rfl ⟨rfl, rfl⟩ dX12_town_19 (fun i19 H locs he w => ?_)
    replace h := h i19 he
    clear he
    refine lv_aload_n hx hb dX12_town_22 rfl (lv_at hl 0 rfl) ?_
    refine lv_aload_n hx hb dX12_town_23 rfl (lv_at hl 0 rfl) ?_
    refine jgi (f := 20) hx hb hts hown hst w hx0 hiX12 (rfl : vwCl[11]? = some (RX12, TX12, 51)) (hts (.fieldLink RX12 110 "FootByGateModel" "newGates" "I") (by decide +kernel)) ⟨by decide, by decide, rfl⟩ dX12_town_24 ?_
    refine jpi (f := 5) hx hb hts hown hst w hx0 hiX12 (rfl : vwCl[11]? = some (RX12, TX12, 51)) (hts (.fieldLink RX12 129 "FootByGateModel" "gates" "I") (by decide +kernel)) ⟨by decide, by decide, rfl⟩ tyX12 tyX12_ok nmX12 rfl ⟨rfl, rfl⟩ dX12_town_27 (fun i27 H locs he w => ?_)
    replace h := h i27 he
    clear he
    refine lv_aload_n hx hb dX12_town_30 rfl (lv_at hl 0 rfl) ?_
    refine lv_aload_n hx hb dX12_town_31 rfl (lv_at hl 0 rfl) ?_
    refine jgi (f := 21) hx hb hts hown hst w hx0 hiX12 (rfl : vwCl[11]? = some (RX12, TX12, 51)) (hts (.fieldLink RX12 106 "FootByGateModel" "newFree" "Z") (by decide +kernel)) ⟨by decide, by decide, rfl⟩ dX12_town_32 ?_
    obtain ⟨hz, h⟩ := h
    refine jpi (f := 6) hx hb hts hown hst w hx0 hiX12 (rfl : vwCl[11]? = some (RX12, TX12, 51)) (hts (.fieldLink RX12 132 "FootByGateModel" "isFree" "Z") (by decide +kernel)) ⟨by decide, by decide, rfl⟩ tyX12 tyX12_ok nmX12 rfl (jbool hz) dX12_town_35 (fun i35 H locs he w => ?_)
    replace h := h i35 he
    clear he
    refine lv_iconst (v := (0 : Int32)) hx hb dX12_town_38 (by decide) ?_
    refine lv_istore_n (lv' := [(1, .int (0 : Int32)), (0, .ref (b + x0))]) hx hb dX12_town_39 rfl hl (by decide) rfl (fun ls hl => ?_)
    obtain ⟨g0, h⟩ := h
    exact w_X12_town_L40 C0 hr hlk g0 w hx0 (lv_sub hl [1, 0] rfl) h
  · replace h := h.2 hc
    clear hc
    refine lv_bipush (v := (-103 : Int32)) hx hb dX12_town_11 (by decide) ?_
    exact jret_i hx hb hr hlk hst w h dX12_town_13
end S_X12_town
section S_X12_walkNow
def J_X12_walkNow_L87 (len : Nat → Nat) (r : jR) (Q : Int32 → jI → jL → Prop) (Hd20 : jI → jL → Nat → Int32 → Int32 → Int32 → Int32 → Int32 → Int32 → Prop) (i : jI) (j : jL) (x0 : Nat) (x1 : Int32) (x2 : Int32) (x4 : Int32) (x5 : Int32) (x6 : Int32) (x7 : Int32) : Prop := ∀ v87 : Int32, v87 = x7 + (1 : Int32) → (Hd20 i j x0 x1 x2 x4 x5 x6 v87)
def J_X12_walkNow_L85 (len : Nat → Nat) (r : jR) (Q : Int32 → jI → jL → Prop) (Hd20 : jI → jL → Nat → Int32 → Int32 → Int32 → Int32 → Int32 → Int32 → Prop) (i : jI) (j : jL) (x0 : Nat) (x1 : Int32) (x2 : Int32) (x4 : Int32) (x6 : Int32) (x7 : Int32) (t0 : Int32) : Prop := J_X12_walkNow_L87 len r Q Hd20 i j x0 x1 x2 x4 t0 x6 x7
def J_X12_walkNow_L69 (len : Nat → Nat) (r : jR) (Q : Int32 → jI → jL → Prop) (Hd20 : jI → jL → Nat → Int32 → Int32 → Int32 → Int32 → Int32 → Int32 → Prop) (i : jI) (j : jL) (x0 : Nat) (x1 : Int32) (x2 : Int32) (x4 : Int32) (x5 : Int32) (x7 : Int32) (x9 : Int32) (t0 : Int32) (t1 : Int32) : Prop := ∀ v70 : Int32, v70 = t0 + t1 → (((¬ x9 = (-1 : Int32)) → (J_X12_walkNow_L85 len r Q Hd20 i j x0 x1 x2 x4 v70 x7 x9)) ∧ ((x9 = (-1 : Int32)) → (J_X12_walkNow_L85 len r Q Hd20 i j x0 x1 x2 x4 v70 x7 x5)))
def J_X12_walkNow_L20 (len : Nat → Nat) (r : jR) (Q : Int32 → jI → jL → Prop) : Nat → jI → jL → Nat → Int32 → Int32 → Int32 → Int32 → Int32 → Int32 → Prop
  | 0 => fun _ _ _ _ _ _ _ _ _ => False
  | g + 1 => fun i j x0 x1 x2 x4 x5 x6 x7 => ((x2 ≤ x7) → (((¬ x4 = 0) → (((¬ x4 = (1 : Int32)) → (((¬ x4 = (2 : Int32)) → (Q ((j x0 41).toInt32) i j)) ∧ ((x4 = (2 : Int32)) → (Q x6 i j)))) ∧ ((x4 = (1 : Int32)) → (J_X12_footIn len r (fun (q114 : Int32) (i114 : jI) (j114 : jL) => Q q114 i114 j114) i j x5)))) ∧ ((x4 = 0) → (J_X12_placeIn len r (fun (q100 : Int32) (i100 : jI) (j100 : jL) => Q q100 i100 j100) i j x5)))) ∧ ((¬ x2 ≤ x7) → (J_X12_drawStreet len r (fun (q29 : Int32) (i29 : jI) (j29 : jL) => ((q29 = (-1 : Int32)) → (J_X12_walkNow_L87 len r Q (J_X12_walkNow_L20 len r Q g) i29 j29 x0 x1 x2 x4 x5 x6 x7)) ∧ ((¬ q29 = (-1 : Int32)) → (∃ a42, r x0 9 = some a42 ∧ (vp_in x1 (len a42) ∧ (J_X12_behind len r (fun (q51 : Int32) (i51 : jI) (j51 : jL) => ((¬ q51 = (-1 : Int32)) → (J_X12_walkNow_L69 len r Q (J_X12_walkNow_L20 len r Q g) i51 j51 x0 x1 x2 x4 x5 x7 q51 x6 (0 : Int32))) ∧ ((q51 = (-1 : Int32)) → (J_X12_walkNow_L69 len r Q (J_X12_walkNow_L20 len r Q g) i51 j51 x0 x1 x2 x4 x5 x7 q51 x6 (1 : Int32)))) i29 j29 x0 (i29 a42 x1.toNatClampNeg) x5 q29))))) i j x0 x5))
def J_X12_walkNow (len : Nat → Nat) (r : jR) (Q : Int32 → jI → jL → Prop) (i : jI) (j : jL) (x0 : Nat) (x1 : Int32) (x2 : Int32) (x3 : Int32) (x4 : Int32) : Prop := ∀ j3 : jL, j3 = jul j x0 41 x3.toInt64 → (∃ a7, r x0 10 = some a7 ∧ (vp_in x1 (len a7) ∧ (∀ v12 : Int32, v12 = i a7 x1.toNatClampNeg → (∃ g0, J_X12_walkNow_L20 len r Q g0 i j3 x0 x1 x2 x4 v12 (0 : Int32) (0 : Int32)))))
abbrev rm_X12_walkNow : Room := { frames := 3, cells := 0, slots := 0, locals := 71 }
variable {p : Program} {l : Launch} {e : Env} {s : State} {m : MethodId} {args : Array Value} {below : List Frame} {meth : Method} {c : Code} {b tU n : Nat} {cy : Nat → ClassId} {D : va_G} {K len : Nat → Nat} {r : jR} {Q : Int32 → jI → jL → Prop}
theorem hiX12_X12_walkNow : ∀ w ∈ u_ws RX12 TX12 51, w ∈ wsX12_walkNow := by decide +kernel
set_option maxHeartbeats 4000000 in
set_option maxRecDepth 100000 in
theorem w_X12_walkNow_L87 (C0 : jCx p s m args c cX12_walkNow 10 wsX12_walkNow RX12 b cy D tU n K r) (hr : meth.sig.returnType = some .int) (hlk : meth.locks = false) {Hd20 : jI → jL → Nat → Int32 → Int32 → Int32 → Int32 → Int32 → Int32 → Prop} (k20 : ∀ {H : Heap} {locs : List Loc} {ls : Array Slot} {i : jI} {j : jL} {x0 : Nat} {x1 : Int32} {x2 : Int32} {x4 : Int32} {x5 : Int32} {x6 : Int32} {x7 : Int32} (w : jDy b cy D n K len r i j s H locs) (hx0 : x0 < n ∧ K x0 = 11) (hl : lv_has ls 10 [(0, .ref (b + x0)), (1, .int x1), (2, .int x2), (4, .int x4), (5, .int x5), (6, .int x6), (7, .int x7)]) (h : Hd20 i j x0 x1 x2 x4 x5 x6 x7), W p l e rm_X12_walkNow s m args below meth c H locs 0 0 (MQ below (jQi b cy D tU n K len r Q) args s 0 0 (jA b)) (F0 m 20 ls [])) {H : Heap} {locs : List Loc} {ls : Array Slot} {i : jI} {j : jL} {x0 : Nat} {x1 : Int32} {x2 : Int32} {x4 : Int32} {x5 : Int32} {x6 : Int32} {x7 : Int32} (w : jDy b cy D n K len r i j s H locs) (hx0 : x0 < n ∧ K x0 = 11) (hl : lv_has ls 10 [(0, .ref (b + x0)), (1, .int x1), (2, .int x2), (4, .int x4), (5, .int x5), (6, .int x6), (7, .int x7)]) (h : J_X12_walkNow_L87 len r Q Hd20 i j x0 x1 x2 x4 x5 x6 x7) : W p l e rm_X12_walkNow s m args below meth c H locs 0 0 (MQ below (jQi b cy D tU n K len r Q) args s 0 0 (jA b)) (F0 m 87 ls []) := by
  obtain ⟨hx, hb, hml, hown, hts, hst, hG⟩ := id C0
  have hiX12 : ∀ w ∈ u_ws RX12 TX12 51, w ∈ wsX12_walkNow := hiX12_X12_walkNow
  rw [J_X12_walkNow_L87] at h
  obtain ⟨v87, he⟩ : ∃ z : Int32, z = x7 + (1 : Int32) := ⟨_, rfl⟩
  replace h := h v87 he
  refine lv_iinc (v := v87) (lv' := [(7, .int v87), (0, .ref (b + x0)), (1, .int x1), (2, .int x2), (4, .int x4), (5, .int x5), (6, .int x6)]) hx hb dX12_walkNow_87 hl (k := 6) rfl (by rw [he]; rfl) (by decide) rfl (fun ls hl => ?_)
  clear he
  refine lv_goto (tgt := 20) hx hb dX12_walkNow_90 (by decide) ?_
  exact k20 w hx0 (lv_sub hl [1, 2, 3, 4, 5, 6, 0] rfl) h
set_option maxHeartbeats 4000000 in
set_option maxRecDepth 100000 in
theorem w_X12_walkNow_L85 (C0 : jCx p s m args c cX12_walkNow 10 wsX12_walkNow RX12 b cy D tU n K r) (hr : meth.sig.returnType = some .int) (hlk : meth.locks = false) {Hd20 : jI → jL → Nat → Int32 → Int32 → Int32 → Int32 → Int32 → Int32 → Prop} (k20 : ∀ {H : Heap} {locs : List Loc} {ls : Array Slot} {i : jI} {j : jL} {x0 : Nat} {x1 : Int32} {x2 : Int32} {x4 : Int32} {x5 : Int32} {x6 : Int32} {x7 : Int32} (w : jDy b cy D n K len r i j s H locs) (hx0 : x0 < n ∧ K x0 = 11) (hl : lv_has ls 10 [(0, .ref (b + x0)), (1, .int x1), (2, .int x2), (4, .int x4), (5, .int x5), (6, .int x6), (7, .int x7)]) (h : Hd20 i j x0 x1 x2 x4 x5 x6 x7), W p l e rm_X12_walkNow s m args below meth c H locs 0 0 (MQ below (jQi b cy D tU n K len r Q) args s 0 0 (jA b)) (F0 m 20 ls [])) {H : Heap} {locs : List Loc} {ls : Array Slot} {i : jI} {j : jL} {x0 : Nat} {x1 : Int32} {x2 : Int32} {x4 : Int32} {x6 : Int32} {x7 : Int32} {t0 : Int32} (w : jDy b cy D n K len r i j s H locs) (hx0 : x0 < n ∧ K x0 = 11) (hl : lv_has ls 10 [(0, .ref (b + x0)), (1, .int x1), (2, .int x2), (4, .int x4), (6, .int x6), (7, .int x7)]) (h : J_X12_walkNow_L85 len r Q Hd20 i j x0 x1 x2 x4 x6 x7 t0) : W p l e rm_X12_walkNow s m args below meth c H locs 0 0 (MQ below (jQi b cy D tU n K len r Q) args s 0 0 (jA b)) (F0 m 85 ls [.int t0]) := by
  obtain ⟨hx, hb, hml, hown, hts, hst, hG⟩ := id C0
  have hiX12 : ∀ w ∈ u_ws RX12 TX12 51, w ∈ wsX12_walkNow := hiX12_X12_walkNow
  rw [J_X12_walkNow_L85] at h
  refine lv_istore (lv' := [(5, .int t0), (0, .ref (b + x0)), (1, .int x1), (2, .int x2), (4, .int x4), (6, .int x6), (7, .int x7)]) hx hb dX12_walkNow_85 hl (by decide) rfl (fun ls hl => ?_)
  exact w_X12_walkNow_L87 C0 hr hlk (fun w hx0 hl h => k20 w hx0 hl h) w hx0 (lv_sub hl [1, 2, 3, 4, 0, 5, 6] rfl) h
set_option maxHeartbeats 4000000 in
set_option maxRecDepth 100000 in
theorem w_X12_walkNow_L69 (C0 : jCx p s m args c cX12_walkNow 10 wsX12_walkNow RX12 b cy D tU n K r) (hr : meth.sig.returnType = some .int) (hlk : meth.locks = false) {Hd20 : jI → jL → Nat → Int32 → Int32 → Int32 → Int32 → Int32 → Int32 → Prop} (k20 : ∀ {H : Heap} {locs : List Loc} {ls : Array Slot} {i : jI} {j : jL} {x0 : Nat} {x1 : Int32} {x2 : Int32} {x4 : Int32} {x5 : Int32} {x6 : Int32} {x7 : Int32} (w : jDy b cy D n K len r i j s H locs) (hx0 : x0 < n ∧ K x0 = 11) (hl : lv_has ls 10 [(0, .ref (b + x0)), (1, .int x1), (2, .int x2), (4, .int x4), (5, .int x5), (6, .int x6), (7, .int x7)]) (h : Hd20 i j x0 x1 x2 x4 x5 x6 x7), W p l e rm_X12_walkNow s m args below meth c H locs 0 0 (MQ below (jQi b cy D tU n K len r Q) args s 0 0 (jA b)) (F0 m 20 ls [])) {H : Heap} {locs : List Loc} {ls : Array Slot} {i : jI} {j : jL} {x0 : Nat} {x1 : Int32} {x2 : Int32} {x4 : Int32} {x5 : Int32} {x7 : Int32} {x9 : Int32} {t0 : Int32} {t1 : Int32} (w : jDy b cy D n K len r i j s H locs) (hx0 : x0 < n ∧ K x0 = 11) (hl : lv_has ls 10 [(0, .ref (b + x0)), (1, .int x1), (2, .int x2), (4, .int x4), (5, .int x5), (7, .int x7), (9, .int x9)]) (h : J_X12_walkNow_L69 len r Q Hd20 i j x0 x1 x2 x4 x5 x7 x9 t0 t1) : W p l e rm_X12_walkNow s m args below meth c H locs 0 0 (MQ below (jQi b cy D tU n K len r Q) args s 0 0 (jA b)) (F0 m 69 ls [.int t1, .int t0]) := by
  obtain ⟨hx, hb, hml, hown, hts, hst, hG⟩ := id C0
  have hiX12 : ∀ w ∈ u_ws RX12 TX12 51, w ∈ wsX12_walkNow := hiX12_X12_walkNow
  rw [J_X12_walkNow_L69] at h
  refine lv_iadd hx hb dX12_walkNow_69 ?_
  refine lv_topi (fun v70 he => ?_)
  replace h := h v70 he
  clear he
  refine lv_istore (lv' := [(6, .int v70), (0, .ref (b + x0)), (1, .int x1), (2, .int x2), (4, .int x4), (5, .int x5), (7, .int x7), (9, .int x9)]) hx hb dX12_walkNow_70 hl (by decide) rfl (fun ls hl => ?_)
  refine lv_iload hx hb dX12_walkNow_72 (lv_at hl 7 rfl) ?_
  refine lv_iconst (v := (-1 : Int32)) hx hb dX12_walkNow_74 (by decide) ?_
  refine lv_icmp_ne (tgt := 83) hx hb dX12_walkNow_75 (by decide) (fun hc => ?_) (fun hc => ?_)
  · replace h := h.1 hc
    clear hc
    refine lv_iload hx hb dX12_walkNow_83 (lv_at hl 7 rfl) ?_
    exact w_X12_walkNow_L85 C0 hr hlk (fun w hx0 hl h => k20 w hx0 hl h) w hx0 (lv_sub hl [1, 2, 3, 4, 0, 6] rfl) h
  · replace h := h.2 hc
    clear hc
    refine lv_iload hx hb dX12_walkNow_78 (lv_at hl 5 rfl) ?_
    refine lv_goto (tgt := 85) hx hb dX12_walkNow_80 (by decide) ?_
    exact w_X12_walkNow_L85 C0 hr hlk (fun w hx0 hl h => k20 w hx0 hl h) w hx0 (lv_sub hl [1, 2, 3, 4, 0, 6] rfl) h
set_option maxHeartbeats 4000000 in
set_option maxRecDepth 100000 in
theorem w_X12_walkNow_L20 (C0 : jCx p s m args c cX12_walkNow 10 wsX12_walkNow RX12 b cy D tU n K r) (hr : meth.sig.returnType = some .int) (hlk : meth.locks = false) : ∀ (g : Nat) {H : Heap} {locs : List Loc} {ls : Array Slot} {i : jI} {j : jL} {x0 : Nat} {x1 : Int32} {x2 : Int32} {x4 : Int32} {x5 : Int32} {x6 : Int32} {x7 : Int32} (w : jDy b cy D n K len r i j s H locs) (hx0 : x0 < n ∧ K x0 = 11) (hl : lv_has ls 10 [(0, .ref (b + x0)), (1, .int x1), (2, .int x2), (4, .int x4), (5, .int x5), (6, .int x6), (7, .int x7)]) (h : J_X12_walkNow_L20 len r Q g i j x0 x1 x2 x4 x5 x6 x7), W p l e rm_X12_walkNow s m args below meth c H locs 0 0 (MQ below (jQi b cy D tU n K len r Q) args s 0 0 (jA b)) (F0 m 20 ls []) := by
  obtain ⟨hx, hb, hml, hown, hts, hst, hG⟩ := id C0
  have hiX12 : ∀ w ∈ u_ws RX12 TX12 51, w ∈ wsX12_walkNow := hiX12_X12_walkNow
  intro g
  induction g with
  | zero => intro H locs ls i j x0 x1 x2 x4 x5 x6 x7 w hx0 hl h; exact False.elim h
  | succ g ih =>
    intro H locs ls i j x0 x1 x2 x4 x5 x6 x7 w hx0 hl h
    rw [J_X12_walkNow_L20] at h
    refine lv_iload hx hb dX12_walkNow_20 (lv_at hl 6 rfl) ?_
    refine lv_iload_n hx hb dX12_walkNow_22 rfl (lv_at hl 2 rfl) ?_
    refine lv_icmp_ge (tgt := 93) hx hb dX12_walkNow_23 (by decide) (fun hc => ?_) (fun hc => ?_)
    · replace h := h.1 hc
      clear hc
      refine lv_iload hx hb dX12_walkNow_93 (lv_at hl 3 rfl) ?_
      refine lv_if_ne (tgt := 106) hx hb dX12_walkNow_95 (by decide) (fun hc => ?_) (fun hc => ?_)
      · replace h := h.1 hc
        clear hc
        refine lv_iload hx hb dX12_walkNow_106 (lv_at hl 3 rfl) ?_
        refine lv_iconst (v := (1 : Int32)) hx hb dX12_walkNow_108 (by decide) ?_
        refine lv_icmp_ne (tgt := 120) hx hb dX12_walkNow_109 (by decide) (fun hc => ?_) (fun hc => ?_)
        · replace h := h.1 hc
          clear hc
          refine lv_iload hx hb dX12_walkNow_120 (lv_at hl 3 rfl) ?_
          refine lv_iconst (v := (2 : Int32)) hx hb dX12_walkNow_122 (by decide) ?_
          refine lv_icmp_ne (tgt := 131) hx hb dX12_walkNow_123 (by decide) (fun hc => ?_) (fun hc => ?_)
          · replace h := h.1 hc
            clear hc
            refine lv_aload_n hx hb dX12_walkNow_131 rfl (lv_at hl 0 rfl) ?_
            refine jgl (f := 41) hx hb hts hown hst w hx0 hiX12 (rfl : vwCl[11]? = some (RX12, TX12, 51)) (hts (.fieldLink RX12 275 "FootByGateModel" "seedNow" "J") (by decide +kernel)) ⟨by decide, by decide, rfl⟩ dX12_walkNow_132 ?_
            refine lv_l2i hx hb dX12_walkNow_135 rfl ?_
            exact jret_i hx hb hr hlk hst w h dX12_walkNow_136
          · replace h := h.2 hc
            clear hc
            refine lv_iload hx hb dX12_walkNow_126 (lv_at hl 5 rfl) ?_
            refine lv_goto (tgt := 136) hx hb dX12_walkNow_128 (by decide) ?_
            exact jret_i hx hb hr hlk hst w h dX12_walkNow_136
        · replace h := h.2 hc
          clear hc
          refine lv_iload hx hb dX12_walkNow_112 (lv_at hl 4 rfl) ?_
          refine jcS_i (As := [.int x5]) (rest := []) C0 w (c_X12_footIn hG h) (va_cwS 1 hts gX12_walkNow_X12_footIn rfl rfl rfl (by decide +kernel) ⟨Nat.le_of_ble_eq_true rfl, Nat.le_of_ble_eq_true rfl⟩) rfl hl.1 rfl (Nat.le_of_ble_eq_true rfl) dX12_walkNow_114 (fun q114 i114 j114 H locs h w => ?_) ⟨Nat.zero_le _, Nat.zero_le _⟩
          refine lv_goto (tgt := 136) hx hb dX12_walkNow_117 (by decide) ?_
          exact jret_i hx hb hr hlk hst w h dX12_walkNow_136
      · replace h := h.2 hc
        clear hc
        refine lv_iload hx hb dX12_walkNow_98 (lv_at hl 4 rfl) ?_
        refine jcS_i (As := [.int x5]) (rest := []) C0 w (c_X12_placeIn hG h) (va_cwS 1 hts gX12_walkNow_X12_placeIn rfl rfl rfl (by decide +kernel) ⟨Nat.le_of_ble_eq_true rfl, Nat.le_of_ble_eq_true rfl⟩) rfl hl.1 rfl (Nat.le_of_ble_eq_true rfl) dX12_walkNow_100 (fun q100 i100 j100 H locs h w => ?_) ⟨Nat.zero_le _, Nat.zero_le _⟩
        refine lv_goto (tgt := 136) hx hb dX12_walkNow_103 (by decide) ?_
        exact jret_i hx hb hr hlk hst w h dX12_walkNow_136
    · replace h := h.2 hc
      clear hc
      refine lv_aload_n hx hb dX12_walkNow_26 rfl (lv_at hl 0 rfl) ?_
      refine lv_iload hx hb dX12_walkNow_27 (lv_at hl 4 rfl) ?_
      refine jcV_i (k := x0) (As := [.int x5]) (rest := []) C0 w (c_X12_drawStreet hG hx0 h) (cwV 1 hts gX12_walkNow_X12_drawStreet rfl rfl rfl (by decide +kernel) ⟨Nat.le_of_ble_eq_true rfl, Nat.le_of_ble_eq_true rfl⟩) hx0 (rfl : vwCl[11]? = some (RX12, TX12, 51)) (by decide) rfl hl.1 rfl (Nat.le_of_ble_eq_true rfl) dX12_walkNow_29 (fun q29 i29 j29 H locs h w => ?_) ⟨Nat.zero_le _, Nat.zero_le _⟩
      refine lv_istore (lv' := [(8, .int q29), (0, .ref (b + x0)), (1, .int x1), (2, .int x2), (4, .int x4), (5, .int x5), (6, .int x6), (7, .int x7)]) hx hb dX12_walkNow_32 hl (by decide) rfl (fun ls hl => ?_)
      refine lv_iload hx hb dX12_walkNow_34 (lv_at hl 0 rfl) ?_
      refine lv_iconst (v := (-1 : Int32)) hx hb dX12_walkNow_36 (by decide) ?_
      refine lv_icmp_eq (tgt := 87) hx hb dX12_walkNow_37 (by decide) (fun hc => ?_) (fun hc => ?_)
      · replace h := h.1 hc
        clear hc
        exact w_X12_walkNow_L87 C0 hr hlk (fun w hx0 hl h => ih w hx0 hl h) w hx0 (lv_sub hl [1, 2, 3, 4, 5, 6, 7] rfl) h
      · replace h := h.2 hc
        clear hc
        refine lv_aload_n hx hb dX12_walkNow_40 rfl (lv_at hl 1 rfl) ?_
        refine lv_aload_n hx hb dX12_walkNow_41 rfl (lv_at hl 1 rfl) ?_
        obtain ⟨a42, hr0, h⟩ := h
        refine jgr (f := 9) hx hb hts hown hst w hG hx0 hiX12 (rfl : vwCl[11]? = some (RX12, TX12, 51)) (hts (.fieldLink RX12 22 "FootByGateModel" "kindOf" "[I") (by decide +kernel)) ⟨by decide, by decide, rfl⟩ (rfl : jrt 11 9 = 13) dX12_walkNow_42 hr0 (fun ha42 => ?_)
        clear hr0
        refine lv_iload_n hx hb dX12_walkNow_45 rfl (lv_at hl 2 rfl) ?_
        obtain ⟨hn, h⟩ := h
        refine jaid hx hb hst w ha42 hn dX12_walkNow_46 ?_
        clear hn
        refine lv_iload hx hb dX12_walkNow_47 (lv_at hl 5 rfl) ?_
        refine lv_iload hx hb dX12_walkNow_49 (lv_at hl 0 rfl) ?_
        refine jcV_i (k := x0) (As := [.int (i29 a42 x1.toNatClampNeg), .int x5, .int q29]) (rest := []) C0 w (c_X12_behind hG hx0 h) (cwV 3 hts gX12_walkNow_X12_behind rfl rfl rfl (by decide +kernel) ⟨Nat.le_of_ble_eq_true rfl, Nat.le_of_ble_eq_true rfl⟩) hx0 (rfl : vwCl[11]? = some (RX12, TX12, 51)) (by decide) rfl hl.1 rfl (Nat.le_of_ble_eq_true rfl) dX12_walkNow_51 (fun q51 i51 j51 H locs h w => ?_) ⟨Nat.zero_le _, Nat.zero_le _⟩
        refine lv_istore (lv' := [(9, .int q51), (8, .int q29), (0, .ref (b + x0)), (1, .int x1), (2, .int x2), (4, .int x4), (5, .int x5), (6, .int x6), (7, .int x7)]) hx hb dX12_walkNow_54 hl (by decide) rfl (fun ls hl => ?_)
        refine lv_iload hx hb dX12_walkNow_56 (lv_at hl 7 rfl) ?_
        refine lv_iload hx hb dX12_walkNow_58 (lv_at hl 0 rfl) ?_
        refine lv_iconst (v := (-1 : Int32)) hx hb dX12_walkNow_60 (by decide) ?_
        refine lv_icmp_ne (tgt := 68) hx hb dX12_walkNow_61 (by decide) (fun hc => ?_) (fun hc => ?_)
        · replace h := h.1 hc
          clear hc
          refine lv_iconst (v := (0 : Int32)) hx hb dX12_walkNow_68 (by decide) ?_
          exact w_X12_walkNow_L69 C0 hr hlk (fun w hx0 hl h => ih w hx0 hl h) w hx0 (lv_sub hl [2, 3, 4, 5, 6, 8, 0] rfl) h
        · replace h := h.2 hc
          clear hc
          refine lv_iconst (v := (1 : Int32)) hx hb dX12_walkNow_64 (by decide) ?_
          refine lv_goto (tgt := 69) hx hb dX12_walkNow_65 (by decide) ?_
          exact w_X12_walkNow_L69 C0 hr hlk (fun w hx0 hl h => ih w hx0 hl h) w hx0 (lv_sub hl [2, 3, 4, 5, 6, 8, 0] rfl) h
set_option maxHeartbeats 4000000 in
set_option maxRecDepth 100000 in
theorem c_X12_walkNow (hG : jG n K r) {i : jI} {j : jL} {x0 : Nat} {x1 : Int32} {x2 : Int32} {x3 : Int32} {x4 : Int32} (hx0 : x0 < n ∧ K x0 = 11) (h : J_X12_walkNow len r Q i j x0 x1 x2 x3 x4) : Met l yX12_walkNow wsX12_walkNow rm_X12_walkNow (va_Pc [.ref (b + x0), .int x1, .int x2, .int x3, .int x4] (jPre b cy D tU n K len r i j)) (jQi b cy D tU n K len r Q) 0 0 (jA b) := by
  refine Met.ofW (cc := cX12_walkNow) (maxL := 10) (ret := (some .int)) (by decide) rfl ?_
  intro p e s m args below meth c s₁ B hml hv
  obtain ⟨rfl, hv⟩ := hv
  have C0 : jCx p s m _ c cX12_walkNow 10 wsX12_walkNow RX12 b cy D tU n K r := ⟨B.exec, B.bytes, hml, findClass_of_methodNamed B.named, atoms_spec (ws := wsX12_walkNow) B.pre, hv.2.2, hG⟩
  have hr := B.returns
  have hlk := B.notSynchronized
  obtain ⟨hx, hb, hml, hown, hts, hst, hG⟩ := id C0
  have hiX12 : ∀ w ∈ u_ws RX12 TX12 51, w ∈ wsX12_walkNow := hiX12_X12_walkNow
  have w := jDy.start hv
  have hl := lv_entry ([.ref (b + x0), .int x1, .int x2, .int x3, .int x4]) (n := 10) (Nat.le_of_ble_eq_true rfl)
  rw [lg_entry_eq]
  generalize (lg_sl ([.ref (b + x0), .int x1, .int x2, .int x3, .int x4]) ++ List.replicate (10 - (lg_sl ([.ref (b + x0), .int x1, .int x2, .int x3, .int x4])).length) Slot.unset).toArray = ls at hl ⊢
  replace hl : lv_has ls 10 [(0, .ref (b + x0)), (1, .int x1), (2, .int x2), (3, .int x3), (4, .int x4)] := hl
  show W p l e rm_X12_walkNow s m _ below meth c s.heap [] 0 0 _ (F0 m 0 ls [])
  rw [J_X12_walkNow] at h
  refine lv_aload_n hx hb dX12_walkNow_0 rfl (lv_at hl 0 rfl) ?_
  refine lv_iload_n hx hb dX12_walkNow_1 rfl (lv_at hl 3 rfl) ?_
  refine lv_i2l hx hb dX12_walkNow_2 rfl ?_
  refine jpl (f := 41) hx hb hts hown hst w hx0 hiX12 (rfl : vwCl[11]? = some (RX12, TX12, 51)) (hts (.fieldLink RX12 275 "FootByGateModel" "seedNow" "J") (by decide +kernel)) ⟨by decide, by decide, rfl⟩ tyX12 tyX12_ok nmX12 rfl ⟨rfl, rfl⟩ dX12_walkNow_3 (fun j3 H locs he w => ?_)
  replace h := h j3 he
  clear he
  refine lv_aload_n hx hb dX12_walkNow_6 rfl (lv_at hl 0 rfl) ?_
  obtain ⟨a7, hr0, h⟩ := h
  refine jgr (f := 10) hx hb hts hown hst w hG hx0 hiX12 (rfl : vwCl[11]? = some (RX12, TX12, 51)) (hts (.fieldLink RX12 25 "FootByGateModel" "standsOf" "[I") (by decide +kernel)) ⟨by decide, by decide, rfl⟩ (rfl : jrt 11 10 = 13) dX12_walkNow_7 hr0 (fun ha7 => ?_)
  clear hr0
  refine lv_iload_n hx hb dX12_walkNow_10 rfl (lv_at hl 1 rfl) ?_
  obtain ⟨hn, h⟩ := h
  refine jaid hx hb hst w ha7 hn dX12_walkNow_11 ?_
  clear hn
  refine lv_topi (fun v12 he => ?_)
  replace h := h v12 he
  clear he
  refine lv_istore (lv' := [(5, .int v12), (0, .ref (b + x0)), (1, .int x1), (2, .int x2), (3, .int x3), (4, .int x4)]) hx hb dX12_walkNow_12 hl (by decide) rfl (fun ls hl => ?_)
  refine lv_iconst (v := (0 : Int32)) hx hb dX12_walkNow_14 (by decide) ?_
  refine lv_istore (lv' := [(6, .int (0 : Int32)), (5, .int v12), (0, .ref (b + x0)), (1, .int x1), (2, .int x2), (3, .int x3), (4, .int x4)]) hx hb dX12_walkNow_15 hl (by decide) rfl (fun ls hl => ?_)
  refine lv_iconst (v := (0 : Int32)) hx hb dX12_walkNow_17 (by decide) ?_
  refine lv_istore (lv' := [(7, .int (0 : Int32)), (6, .int (0 : Int32)), (5, .int v12), (0, .ref (b + x0)), (1, .int x1), (2, .int x2), (3, .int x3), (4, .int x4)]) hx hb dX12_walkNow_18 hl (by decide) rfl (fun ls hl => ?_)
  obtain ⟨g0, h⟩ := h
  exact w_X12_walkNow_L20 C0 hr hlk g0 w hx0 (lv_sub hl [3, 4, 5, 7, 2, 1, 0] rfl) h
end S_X12_walkNow
section S_X12_walk
def J_X12_walk_L35 (len : Nat → Nat) (r : jR) (Q : Int32 → jI → jL → Prop) (i : jI) (j : jL) : Prop := Q (-102 : Int32) i j
def J_X12_walk (len : Nat → Nat) (r : jR) (Q : Int32 → jI → jL → Prop) (i : jI) (j : jL) (x0 : Nat) (x1 : Int32) (x2 : Int32) (x3 : Int32) (x4 : Int32) : Prop := J_X12_isWalker len r (fun (q2 : Int32) (i2 : jI) (j2 : jL) => ((¬ q2 = 0) → (J_X12_within len r (fun (q15 : Int32) (i15 : jI) (j15 : jL) => ((q15 = 0) → (J_X12_walk_L35 len r Q i15 j15 )) ∧ ((¬ q15 = 0) → (((x3 < 0) → (J_X12_walk_L35 len r Q i15 j15 )) ∧ ((¬ x3 < 0) → (J_X12_within len r (fun (q29 : Int32) (i29 : jI) (j29 : jL) => ((¬ q29 = 0) → (J_X12_walkNow len r (fun (q44 : Int32) (i44 : jI) (j44 : jL) => Q q44 i44 j44) i29 j29 x0 x1 x2 x3 x4)) ∧ ((q29 = 0) → (J_X12_walk_L35 len r Q i29 j29 ))) i15 j15 x4 (0 : Int32) (3 : Int32)))))) i2 j2 x2 (1 : Int32) (60 : Int32))) ∧ ((q2 = 0) → (Q (-101 : Int32) i2 j2))) i j x0 x1
abbrev rm_X12_walk : Room := { frames := 4, cells := 0, slots := 0, locals := 100 }
variable {p : Program} {l : Launch} {e : Env} {s : State} {m : MethodId} {args : Array Value} {below : List Frame} {meth : Method} {c : Code} {b tU n : Nat} {cy : Nat → ClassId} {D : va_G} {K len : Nat → Nat} {r : jR} {Q : Int32 → jI → jL → Prop}
set_option maxHeartbeats 4000000 in
set_option maxRecDepth 100000 in
theorem w_X12_walk_L35 (C0 : jCx p s m args c cX12_walk 5 wsX12_walk RX12 b cy D tU n K r) (hr : meth.sig.returnType = some .int) (hlk : meth.locks = false) {H : Heap} {locs : List Loc} {ls : Array Slot} {i : jI} {j : jL}  (w : jDy b cy D n K len r i j s H locs) (hl : lv_has ls 5 []) (h : J_X12_walk_L35 len r Q i j) : W p l e rm_X12_walk s m args below meth c H locs 0 0 (MQ below (jQi b cy D tU n K len r Q) args s 0 0 (jA b)) (F0 m 35 ls []) := by
  obtain ⟨hx, hb, hml, hown, hts, hst, hG⟩ := id C0
  rw [J_X12_walk_L35] at h
  refine lv_bipush (v := (-102 : Int32)) hx hb dX12_walk_35 (by decide) ?_
  exact jret_i hx hb hr hlk hst w h dX12_walk_37
set_option maxHeartbeats 4000000 in
set_option maxRecDepth 100000 in
theorem c_X12_walk (hG : jG n K r) {i : jI} {j : jL} {x0 : Nat} {x1 : Int32} {x2 : Int32} {x3 : Int32} {x4 : Int32} (hx0 : x0 < n ∧ K x0 = 11) (h : J_X12_walk len r Q i j x0 x1 x2 x3 x4) : Met l yX12_walk wsX12_walk rm_X12_walk (va_Pc [.ref (b + x0), .int x1, .int x2, .int x3, .int x4] (jPre b cy D tU n K len r i j)) (jQi b cy D tU n K len r Q) 0 0 (jA b) := by
  refine Met.ofW (cc := cX12_walk) (maxL := 5) (ret := (some .int)) (by decide) rfl ?_
  intro p e s m args below meth c s₁ B hml hv
  obtain ⟨rfl, hv⟩ := hv
  have C0 : jCx p s m _ c cX12_walk 5 wsX12_walk RX12 b cy D tU n K r := ⟨B.exec, B.bytes, hml, findClass_of_methodNamed B.named, atoms_spec (ws := wsX12_walk) B.pre, hv.2.2, hG⟩
  have hr := B.returns
  have hlk := B.notSynchronized
  obtain ⟨hx, hb, hml, hown, hts, hst, hG⟩ := id C0
  have w := jDy.start hv
  have hl := lv_entry ([.ref (b + x0), .int x1, .int x2, .int x3, .int x4]) (n := 5) (Nat.le_of_ble_eq_true rfl)
  rw [lg_entry_eq]
  generalize (lg_sl ([.ref (b + x0), .int x1, .int x2, .int x3, .int x4]) ++ List.replicate (5 - (lg_sl ([.ref (b + x0), .int x1, .int x2, .int x3, .int x4])).length) Slot.unset).toArray = ls at hl ⊢
  replace hl : lv_has ls 5 [(0, .ref (b + x0)), (1, .int x1), (2, .int x2), (3, .int x3), (4, .int x4)] := hl
  show W p l e rm_X12_walk s m _ below meth c s.heap [] 0 0 _ (F0 m 0 ls [])
  rw [J_X12_walk] at h
  refine lv_aload_n hx hb dX12_walk_0 rfl (lv_at hl 0 rfl) ?_
  refine lv_iload_n hx hb dX12_walk_1 rfl (lv_at hl 1 rfl) ?_
  refine jcV_i (k := x0) (As := [.int x1]) (rest := []) C0 w (c_X12_isWalker hG hx0 h) (cwV 1 hts gX12_walk_X12_isWalker rfl rfl rfl (by decide +kernel) ⟨Nat.le_of_ble_eq_true rfl, Nat.le_of_ble_eq_true rfl⟩) hx0 (rfl : vwCl[11]? = some (RX12, TX12, 51)) (by decide) rfl hl.1 rfl (Nat.le_of_ble_eq_true rfl) dX12_walk_2 (fun q2 i2 j2 H locs h w => ?_) ⟨Nat.zero_le _, Nat.zero_le _⟩
  refine lv_if_ne (tgt := 11) hx hb dX12_walk_5 (by decide) (fun hc => ?_) (fun hc => ?_)
  · replace h := h.1 hc
    clear hc
    refine lv_iload_n hx hb dX12_walk_11 rfl (lv_at hl 2 rfl) ?_
    refine lv_iconst (v := (1 : Int32)) hx hb dX12_walk_12 (by decide) ?_
    refine lv_bipush (v := (60 : Int32)) hx hb dX12_walk_13 (by decide) ?_
    refine jcS_i (As := [.int x2, .int (1 : Int32), .int (60 : Int32)]) (rest := []) C0 w (c_X12_within hG h) (va_cwS 3 hts gX12_walk_X12_within rfl rfl rfl (by decide +kernel) ⟨Nat.le_of_ble_eq_true rfl, Nat.le_of_ble_eq_true rfl⟩) rfl hl.1 rfl (Nat.le_of_ble_eq_true rfl) dX12_walk_15 (fun q15 i15 j15 H locs h w => ?_) ⟨Nat.zero_le _, Nat.zero_le _⟩
    refine lv_if_eq (tgt := 35) hx hb dX12_walk_18 (by decide) (fun hc => ?_) (fun hc => ?_)
    · replace h := h.1 hc
      clear hc
      exact w_X12_walk_L35 C0 hr hlk w (lv_sub hl [] rfl) h
    · replace h := h.2 hc
      clear hc
      refine lv_iload_n hx hb dX12_walk_21 rfl (lv_at hl 3 rfl) ?_
      refine lv_if_lt (tgt := 35) hx hb dX12_walk_22 (by decide) (fun hc => ?_) (fun hc => ?_)
      · replace h := h.1 hc
        clear hc
        exact w_X12_walk_L35 C0 hr hlk w (lv_sub hl [] rfl) h
      · replace h := h.2 hc
        clear hc
        refine lv_iload hx hb dX12_walk_25 (lv_at hl 4 rfl) ?_
        refine lv_iconst (v := (0 : Int32)) hx hb dX12_walk_27 (by decide) ?_
        refine lv_iconst (v := (3 : Int32)) hx hb dX12_walk_28 (by decide) ?_
        refine jcS_i (As := [.int x4, .int (0 : Int32), .int (3 : Int32)]) (rest := []) C0 w (c_X12_within hG h) (va_cwS 3 hts gX12_walk_X12_within rfl rfl rfl (by decide +kernel) ⟨Nat.le_of_ble_eq_true rfl, Nat.le_of_ble_eq_true rfl⟩) rfl hl.1 rfl (Nat.le_of_ble_eq_true rfl) dX12_walk_29 (fun q29 i29 j29 H locs h w => ?_) ⟨Nat.zero_le _, Nat.zero_le _⟩
        refine lv_if_ne (tgt := 38) hx hb dX12_walk_32 (by decide) (fun hc => ?_) (fun hc => ?_)
        · replace h := h.1 hc
          clear hc
          refine lv_aload_n hx hb dX12_walk_38 rfl (lv_at hl 0 rfl) ?_
          refine lv_iload_n hx hb dX12_walk_39 rfl (lv_at hl 1 rfl) ?_
          refine lv_iload_n hx hb dX12_walk_40 rfl (lv_at hl 2 rfl) ?_
          refine lv_iload_n hx hb dX12_walk_41 rfl (lv_at hl 3 rfl) ?_
          refine lv_iload hx hb dX12_walk_42 (lv_at hl 4 rfl) ?_
          refine jcV_i (k := x0) (As := [.int x1, .int x2, .int x3, .int x4]) (rest := []) C0 w (c_X12_walkNow hG hx0 h) (cwV 4 hts gX12_walk_X12_walkNow rfl rfl rfl (by decide +kernel) ⟨Nat.le_of_ble_eq_true rfl, Nat.le_of_ble_eq_true rfl⟩) hx0 (rfl : vwCl[11]? = some (RX12, TX12, 51)) (by decide) rfl hl.1 rfl (Nat.le_of_ble_eq_true rfl) dX12_walk_44 (fun q44 i44 j44 H locs h w => ?_) ⟨Nat.zero_le _, Nat.zero_le _⟩
          exact jret_i hx hb hr hlk hst w h dX12_walk_47
        · replace h := h.2 hc
          clear hc
          exact w_X12_walk_L35 C0 hr hlk w (lv_sub hl [] rfl) h
  · replace h := h.2 hc
    clear hc
    refine lv_bipush (v := (-101 : Int32)) hx hb dX12_walk_8 (by decide) ?_
    exact jret_i hx hb hr hlk hst w h dX12_walk_10
end S_X12_walk
section S_X12_walker
def J_X12_walker_L28 (len : Nat → Nat) (r : jR) (Q : Int32 → jI → jL → Prop) (i : jI) (j : jL) : Prop := Q (-102 : Int32) i j
def J_X12_walker (len : Nat → Nat) (r : jR) (Q : Int32 → jI → jL → Prop) (i : jI) (j : jL) (x0 : Nat) (x1 : Int32) (x2 : Int32) (x3 : Int32) : Prop := J_X12_isPlace len r (fun (q1 : Int32) (i1 : jI) (j1 : jL) => ((¬ q1 = 0) → (J_X12_within len r (fun (q13 : Int32) (i13 : jI) (j13 : jL) => ((q13 = 0) → (J_X12_walker_L28 len r Q i13 j13 )) ∧ ((¬ q13 = 0) → (J_X12_within len r (fun (q22 : Int32) (i22 : jI) (j22 : jL) => ((¬ q22 = 0) → (((¬ (i22 x0 7) = 0) → (((¬ (i22 x0 8) = (5 : Int32)) → (∃ a53, r x0 9 = some a53 ∧ (vp_in (i22 x0 8) (len a53) ∧ ∀ i61 : jI, i61 = ju i22 a53 (i22 x0 8).toNatClampNeg x1 → (∃ a63, r x0 10 = some a63 ∧ (vp_in (i61 x0 8) (len a63) ∧ ∀ i76 : jI, i76 = ju i61 a63 (i61 x0 8).toNatClampNeg (x2 + ((7 : Int32) * x3)) → (∃ a78, r x0 11 = some a78 ∧ (vp_in (i76 x0 8) (len a78) ∧ ∀ i86 : jI, i86 = ju i76 a78 (i76 x0 8).toNatClampNeg (0 : Int32) → (∀ i94 : jI, i94 = ju i86 x0 8 ((i86 x0 8) + (1 : Int32)) → (Q ((i94 x0 8) - (1 : Int32)) i94 j22))))))))) ∧ (((i22 x0 8) = (5 : Int32)) → (Q (-104 : Int32) i22 j22)))) ∧ (((i22 x0 7) = 0) → (Q (-103 : Int32) i22 j22)))) ∧ ((q22 = 0) → (J_X12_walker_L28 len r Q i22 j22 ))) i13 j13 x3 (0 : Int32) (1 : Int32)))) i1 j1 x1 (0 : Int32) (4 : Int32))) ∧ ((q1 = 0) → (Q (-101 : Int32) i1 j1))) i j x2
abbrev rm_X12_walker : Room := { frames := 2, cells := 0, slots := 0, locals := 42 }
variable {p : Program} {l : Launch} {e : Env} {s : State} {m : MethodId} {args : Array Value} {below : List Frame} {meth : Method} {c : Code} {b tU n : Nat} {cy : Nat → ClassId} {D : va_G} {K len : Nat → Nat} {r : jR} {Q : Int32 → jI → jL → Prop}
theorem hiX12_X12_walker : ∀ w ∈ u_ws RX12 TX12 51, w ∈ wsX12_walker := by decide +kernel
set_option maxHeartbeats 4000000 in
set_option maxRecDepth 100000 in
theorem w_X12_walker_L28 (C0 : jCx p s m args c cX12_walker 4 wsX12_walker RX12 b cy D tU n K r) (hr : meth.sig.returnType = some .int) (hlk : meth.locks = false) {H : Heap} {locs : List Loc} {ls : Array Slot} {i : jI} {j : jL}  (w : jDy b cy D n K len r i j s H locs) (hl : lv_has ls 4 []) (h : J_X12_walker_L28 len r Q i j) : W p l e rm_X12_walker s m args below meth c H locs 0 0 (MQ below (jQi b cy D tU n K len r Q) args s 0 0 (jA b)) (F0 m 28 ls []) := by
  obtain ⟨hx, hb, hml, hown, hts, hst, hG⟩ := id C0
  have hiX12 : ∀ w ∈ u_ws RX12 TX12 51, w ∈ wsX12_walker := hiX12_X12_walker
  rw [J_X12_walker_L28] at h
  refine lv_bipush (v := (-102 : Int32)) hx hb dX12_walker_28 (by decide) ?_
  exact jret_i hx hb hr hlk hst w h dX12_walker_30
set_option maxHeartbeats 4000000 in
set_option maxRecDepth 100000 in
theorem c_X12_walker (hG : jG n K r) {i : jI} {j : jL} {x0 : Nat} {x1 : Int32} {x2 : Int32} {x3 : Int32} (hx0 : x0 < n ∧ K x0 = 11) (h : J_X12_walker len r Q i j x0 x1 x2 x3) : Met l yX12_walker wsX12_walker rm_X12_walker (va_Pc [.ref (b + x0), .int x1, .int x2, .int x3] (jPre b cy D tU n K len r i j)) (jQi b cy D tU n K len r Q) 0 0 (jA b) := by
  refine Met.ofW (cc := cX12_walker) (maxL := 4) (ret := (some .int)) (by decide) rfl ?_
  intro p e s m args below meth c s₁ B hml hv
  obtain ⟨rfl, hv⟩ := hv
  have C0 : jCx p s m _ c cX12_walker 4 wsX12_walker RX12 b cy D tU n K r := ⟨B.exec, B.bytes, hml, findClass_of_methodNamed B.named, atoms_spec (ws := wsX12_walker) B.pre, hv.2.2, hG⟩
  have hr := B.returns
  have hlk := B.notSynchronized
  obtain ⟨hx, hb, hml, hown, hts, hst, hG⟩ := id C0
  have hiX12 : ∀ w ∈ u_ws RX12 TX12 51, w ∈ wsX12_walker := hiX12_X12_walker
  have w := jDy.start hv
  have hl := lv_entry ([.ref (b + x0), .int x1, .int x2, .int x3]) (n := 4) (Nat.le_of_ble_eq_true rfl)
  rw [lg_entry_eq]
  generalize (lg_sl ([.ref (b + x0), .int x1, .int x2, .int x3]) ++ List.replicate (4 - (lg_sl ([.ref (b + x0), .int x1, .int x2, .int x3])).length) Slot.unset).toArray = ls at hl ⊢
  replace hl : lv_has ls 4 [(0, .ref (b + x0)), (1, .int x1), (2, .int x2), (3, .int x3)] := hl
  show W p l e rm_X12_walker s m _ below meth c s.heap [] 0 0 _ (F0 m 0 ls [])
  rw [J_X12_walker] at h
  refine lv_iload_n hx hb dX12_walker_0 rfl (lv_at hl 2 rfl) ?_
  refine jcS_i (As := [.int x2]) (rest := []) C0 w (c_X12_isPlace hG h) (va_cwS 1 hts gX12_walker_X12_isPlace rfl rfl rfl (by decide +kernel) ⟨Nat.le_of_ble_eq_true rfl, Nat.le_of_ble_eq_true rfl⟩) rfl hl.1 rfl (Nat.le_of_ble_eq_true rfl) dX12_walker_1 (fun q1 i1 j1 H locs h w => ?_) ⟨Nat.zero_le _, Nat.zero_le _⟩
  refine lv_if_ne (tgt := 10) hx hb dX12_walker_4 (by decide) (fun hc => ?_) (fun hc => ?_)
  · replace h := h.1 hc
    clear hc
    refine lv_iload_n hx hb dX12_walker_10 rfl (lv_at hl 1 rfl) ?_
    refine lv_iconst (v := (0 : Int32)) hx hb dX12_walker_11 (by decide) ?_
    refine lv_iconst (v := (4 : Int32)) hx hb dX12_walker_12 (by decide) ?_
    refine jcS_i (As := [.int x1, .int (0 : Int32), .int (4 : Int32)]) (rest := []) C0 w (c_X12_within hG h) (va_cwS 3 hts gX12_walker_X12_within rfl rfl rfl (by decide +kernel) ⟨Nat.le_of_ble_eq_true rfl, Nat.le_of_ble_eq_true rfl⟩) rfl hl.1 rfl (Nat.le_of_ble_eq_true rfl) dX12_walker_13 (fun q13 i13 j13 H locs h w => ?_) ⟨Nat.zero_le _, Nat.zero_le _⟩
    refine lv_if_eq (tgt := 28) hx hb dX12_walker_16 (by decide) (fun hc => ?_) (fun hc => ?_)
    · replace h := h.1 hc
      clear hc
      exact w_X12_walker_L28 C0 hr hlk w (lv_sub hl [] rfl) h
    · replace h := h.2 hc
      clear hc
      refine lv_iload_n hx hb dX12_walker_19 rfl (lv_at hl 3 rfl) ?_
      refine lv_iconst (v := (0 : Int32)) hx hb dX12_walker_20 (by decide) ?_
      refine lv_iconst (v := (1 : Int32)) hx hb dX12_walker_21 (by decide) ?_
      refine jcS_i (As := [.int x3, .int (0 : Int32), .int (1 : Int32)]) (rest := []) C0 w (c_X12_within hG h) (va_cwS 3 hts gX12_walker_X12_within rfl rfl rfl (by decide +kernel) ⟨Nat.le_of_ble_eq_true rfl, Nat.le_of_ble_eq_true rfl⟩) rfl hl.1 rfl (Nat.le_of_ble_eq_true rfl) dX12_walker_22 (fun q22 i22 j22 H locs h w => ?_) ⟨Nat.zero_le _, Nat.zero_le _⟩
      refine lv_if_ne (tgt := 31) hx hb dX12_walker_25 (by decide) (fun hc => ?_) (fun hc => ?_)
      · replace h := h.1 hc
        clear hc
        refine lv_aload_n hx hb dX12_walker_31 rfl (lv_at hl 0 rfl) ?_
        refine jgi (f := 7) hx hb hts hown hst w hx0 hiX12 (rfl : vwCl[11]? = some (RX12, TX12, 51)) (hts (.fieldLink RX12 135 "FootByGateModel" "towns" "I") (by decide +kernel)) ⟨by decide, by decide, rfl⟩ dX12_walker_32 ?_
        refine lv_if_ne (tgt := 41) hx hb dX12_walker_35 (by decide) (fun hc => ?_) (fun hc => ?_)
        · replace h := h.1 hc
          clear hc
          refine lv_aload_n hx hb dX12_walker_41 rfl (lv_at hl 0 rfl) ?_
          refine jgi (f := 8) hx hb hts hown hst w hx0 hiX12 (rfl : vwCl[11]? = some (RX12, TX12, 51)) (hts (.fieldLink RX12 138 "FootByGateModel" "walkers" "I") (by decide +kernel)) ⟨by decide, by decide, rfl⟩ dX12_walker_42 ?_
          refine lv_iconst (v := (5 : Int32)) hx hb dX12_walker_45 (by decide) ?_
          refine lv_icmp_ne (tgt := 52) hx hb dX12_walker_46 (by decide) (fun hc => ?_) (fun hc => ?_)
          · replace h := h.1 hc
            clear hc
            refine lv_aload_n hx hb dX12_walker_52 rfl (lv_at hl 0 rfl) ?_
            obtain ⟨a53, hr0, h⟩ := h
            refine jgr (f := 9) hx hb hts hown hst w hG hx0 hiX12 (rfl : vwCl[11]? = some (RX12, TX12, 51)) (hts (.fieldLink RX12 22 "FootByGateModel" "kindOf" "[I") (by decide +kernel)) ⟨by decide, by decide, rfl⟩ (rfl : jrt 11 9 = 13) dX12_walker_53 hr0 (fun ha53 => ?_)
            clear hr0
            refine lv_aload_n hx hb dX12_walker_56 rfl (lv_at hl 0 rfl) ?_
            refine jgi (f := 8) hx hb hts hown hst w hx0 hiX12 (rfl : vwCl[11]? = some (RX12, TX12, 51)) (hts (.fieldLink RX12 138 "FootByGateModel" "walkers" "I") (by decide +kernel)) ⟨by decide, by decide, rfl⟩ dX12_walker_57 ?_
            refine lv_iload_n hx hb dX12_walker_60 rfl (lv_at hl 1 rfl) ?_
            obtain ⟨hn, h⟩ := h
            refine jais hx hb hst w ha53 hn dX12_walker_61 (fun i61 H locs he w => ?_)
            replace h := h i61 he
            clear he hn
            refine lv_aload_n hx hb dX12_walker_62 rfl (lv_at hl 0 rfl) ?_
            obtain ⟨a63, hr0, h⟩ := h
            refine jgr (f := 10) hx hb hts hown hst w hG hx0 hiX12 (rfl : vwCl[11]? = some (RX12, TX12, 51)) (hts (.fieldLink RX12 25 "FootByGateModel" "standsOf" "[I") (by decide +kernel)) ⟨by decide, by decide, rfl⟩ (rfl : jrt 11 10 = 13) dX12_walker_63 hr0 (fun ha63 => ?_)
            clear hr0
            refine lv_aload_n hx hb dX12_walker_66 rfl (lv_at hl 0 rfl) ?_
            refine jgi (f := 8) hx hb hts hown hst w hx0 hiX12 (rfl : vwCl[11]? = some (RX12, TX12, 51)) (hts (.fieldLink RX12 138 "FootByGateModel" "walkers" "I") (by decide +kernel)) ⟨by decide, by decide, rfl⟩ dX12_walker_67 ?_
            refine lv_iload_n hx hb dX12_walker_70 rfl (lv_at hl 2 rfl) ?_
            refine lv_bipush (v := (7 : Int32)) hx hb dX12_walker_71 (by decide) ?_
            refine lv_iload_n hx hb dX12_walker_73 rfl (lv_at hl 3 rfl) ?_
            refine lv_imul hx hb dX12_walker_74 ?_
            refine lv_iadd hx hb dX12_walker_75 ?_
            obtain ⟨hn, h⟩ := h
            refine jais hx hb hst w ha63 hn dX12_walker_76 (fun i76 H locs he w => ?_)
            replace h := h i76 he
            clear he hn
            refine lv_aload_n hx hb dX12_walker_77 rfl (lv_at hl 0 rfl) ?_
            obtain ⟨a78, hr0, h⟩ := h
            refine jgr (f := 11) hx hb hts hown hst w hG hx0 hiX12 (rfl : vwCl[11]? = some (RX12, TX12, 51)) (hts (.fieldLink RX12 28 "FootByGateModel" "skippedOf" "[I") (by decide +kernel)) ⟨by decide, by decide, rfl⟩ (rfl : jrt 11 11 = 13) dX12_walker_78 hr0 (fun ha78 => ?_)
            clear hr0
            refine lv_aload_n hx hb dX12_walker_81 rfl (lv_at hl 0 rfl) ?_
            refine jgi (f := 8) hx hb hts hown hst w hx0 hiX12 (rfl : vwCl[11]? = some (RX12, TX12, 51)) (hts (.fieldLink RX12 138 "FootByGateModel" "walkers" "I") (by decide +kernel)) ⟨by decide, by decide, rfl⟩ dX12_walker_82 ?_
            refine lv_iconst (v := (0 : Int32)) hx hb dX12_walker_85 (by decide) ?_
            obtain ⟨hn, h⟩ := h
            refine jais hx hb hst w ha78 hn dX12_walker_86 (fun i86 H locs he w => ?_)
            replace h := h i86 he
            clear he hn
            refine lv_aload_n hx hb dX12_walker_87 rfl (lv_at hl 0 rfl) ?_
            refine lv_dup hx hb dX12_walker_88 rfl ?_
            refine jgi (f := 8) hx hb hts hown hst w hx0 hiX12 (rfl : vwCl[11]? = some (RX12, TX12, 51)) (hts (.fieldLink RX12 138 "FootByGateModel" "walkers" "I") (by decide +kernel)) ⟨by decide, by decide, rfl⟩ dX12_walker_89 ?_
            refine lv_iconst (v := (1 : Int32)) hx hb dX12_walker_92 (by decide) ?_
            refine lv_iadd hx hb dX12_walker_93 ?_
            refine jpi (f := 8) hx hb hts hown hst w hx0 hiX12 (rfl : vwCl[11]? = some (RX12, TX12, 51)) (hts (.fieldLink RX12 138 "FootByGateModel" "walkers" "I") (by decide +kernel)) ⟨by decide, by decide, rfl⟩ tyX12 tyX12_ok nmX12 rfl ⟨rfl, rfl⟩ dX12_walker_94 (fun i94 H locs he w => ?_)
            replace h := h i94 he
            clear he
            refine lv_aload_n hx hb dX12_walker_97 rfl (lv_at hl 0 rfl) ?_
            refine jgi (f := 8) hx hb hts hown hst w hx0 hiX12 (rfl : vwCl[11]? = some (RX12, TX12, 51)) (hts (.fieldLink RX12 138 "FootByGateModel" "walkers" "I") (by decide +kernel)) ⟨by decide, by decide, rfl⟩ dX12_walker_98 ?_
            refine lv_iconst (v := (1 : Int32)) hx hb dX12_walker_101 (by decide) ?_
            refine lv_isub hx hb dX12_walker_102 ?_
            exact jret_i hx hb hr hlk hst w h dX12_walker_103
          · replace h := h.2 hc
            clear hc
            refine lv_bipush (v := (-104 : Int32)) hx hb dX12_walker_49 (by decide) ?_
            exact jret_i hx hb hr hlk hst w h dX12_walker_51
        · replace h := h.2 hc
          clear hc
          refine lv_bipush (v := (-103 : Int32)) hx hb dX12_walker_38 (by decide) ?_
          exact jret_i hx hb hr hlk hst w h dX12_walker_40
      · replace h := h.2 hc
        clear hc
        exact w_X12_walker_L28 C0 hr hlk w (lv_sub hl [] rfl) h
  · replace h := h.2 hc
    clear hc
    refine lv_bipush (v := (-101 : Int32)) hx hb dX12_walker_7 (by decide) ?_
    exact jret_i hx hb hr hlk hst w h dX12_walker_9
end S_X12_walker
section S_X12_who
def J_X12_who (len : Nat → Nat) (r : jR) (Q : Int32 → jI → jL → Prop) (i : jI) (j : jL) (x0 : Nat) : Prop := J_X12_whoNow len r (fun (q1 : Int32) (i1 : jI) (j1 : jL) => Q q1 i1 j1) i j x0
abbrev rm_X12_who : Room := { frames := 5, cells := 0, slots := 0, locals := 123 }
variable {p : Program} {l : Launch} {e : Env} {s : State} {m : MethodId} {args : Array Value} {below : List Frame} {meth : Method} {c : Code} {b tU n : Nat} {cy : Nat → ClassId} {D : va_G} {K len : Nat → Nat} {r : jR} {Q : Int32 → jI → jL → Prop}
set_option maxHeartbeats 4000000 in
set_option maxRecDepth 100000 in
theorem c_X12_who (hG : jG n K r) {i : jI} {j : jL} {x0 : Nat} (hx0 : x0 < n ∧ K x0 = 11) (h : J_X12_who len r Q i j x0) : Met l yX12_who wsX12_who rm_X12_who (va_Pc [.ref (b + x0)] (jPre b cy D tU n K len r i j)) (jQi b cy D tU n K len r Q) 0 0 (jA b) := by
  refine Met.ofW (cc := cX12_who) (maxL := 1) (ret := (some .int)) (by decide) rfl ?_
  intro p e s m args below meth c s₁ B hml hv
  obtain ⟨rfl, hv⟩ := hv
  have C0 : jCx p s m _ c cX12_who 1 wsX12_who RX12 b cy D tU n K r := ⟨B.exec, B.bytes, hml, findClass_of_methodNamed B.named, atoms_spec (ws := wsX12_who) B.pre, hv.2.2, hG⟩
  have hr := B.returns
  have hlk := B.notSynchronized
  obtain ⟨hx, hb, hml, hown, hts, hst, hG⟩ := id C0
  have w := jDy.start hv
  have hl := lv_entry ([.ref (b + x0)]) (n := 1) (Nat.le_of_ble_eq_true rfl)
  rw [lg_entry_eq]
  generalize (lg_sl ([.ref (b + x0)]) ++ List.replicate (1 - (lg_sl ([.ref (b + x0)])).length) Slot.unset).toArray = ls at hl ⊢
  replace hl : lv_has ls 1 [(0, .ref (b + x0))] := hl
  show W p l e rm_X12_who s m _ below meth c s.heap [] 0 0 _ (F0 m 0 ls [])
  rw [J_X12_who] at h
  refine lv_aload_n hx hb dX12_who_0 rfl (lv_at hl 0 rfl) ?_
  refine jcV_i (k := x0) (As := []) (rest := []) C0 w (c_X12_whoNow hG hx0 h) (cwV 0 hts gX12_who_X12_whoNow rfl rfl rfl (by decide +kernel) ⟨Nat.le_of_ble_eq_true rfl, Nat.le_of_ble_eq_true rfl⟩) hx0 (rfl : vwCl[11]? = some (RX12, TX12, 51)) (by decide) rfl hl.1 rfl (Nat.le_of_ble_eq_true rfl) dX12_who_1 (fun q1 i1 j1 H locs h w => ?_) ⟨Nat.zero_le _, Nat.zero_le _⟩
  exact jret_i hx hb hr hlk hst w h dX12_who_4
end S_X12_who
section S_X12_wipe
def J_X12_wipe (len : Nat → Nat) (r : jR) (Q : Int32 → jI → jL → Prop) (i : jI) (j : jL) (x0 : Nat) : Prop := ∀ v4 : Int32, v4 = i x0 12 → (∀ i7 : jI, i7 = ju i x0 12 (0 : Int32) → (Q v4 i7 j))
abbrev rm_X12_wipe : Room := { frames := 0, cells := 0, slots := 0, locals := 0 }
variable {p : Program} {l : Launch} {e : Env} {s : State} {m : MethodId} {args : Array Value} {below : List Frame} {meth : Method} {c : Code} {b tU n : Nat} {cy : Nat → ClassId} {D : va_G} {K len : Nat → Nat} {r : jR} {Q : Int32 → jI → jL → Prop}
theorem hiX12_X12_wipe : ∀ w ∈ u_ws RX12 TX12 51, w ∈ wsX12_wipe := by decide +kernel
set_option maxHeartbeats 4000000 in
set_option maxRecDepth 100000 in
theorem c_X12_wipe (hG : jG n K r) {i : jI} {j : jL} {x0 : Nat} (hx0 : x0 < n ∧ K x0 = 11) (h : J_X12_wipe len r Q i j x0) : Met l yX12_wipe wsX12_wipe rm_X12_wipe (va_Pc [.ref (b + x0)] (jPre b cy D tU n K len r i j)) (jQi b cy D tU n K len r Q) 0 0 (jA b) := by
  refine Met.ofW (cc := cX12_wipe) (maxL := 2) (ret := (some .int)) (by decide) rfl ?_
  intro p e s m args below meth c s₁ B hml hv
  obtain ⟨rfl, hv⟩ := hv
  have C0 : jCx p s m _ c cX12_wipe 2 wsX12_wipe RX12 b cy D tU n K r := ⟨B.exec, B.bytes, hml, findClass_of_methodNamed B.named, atoms_spec (ws := wsX12_wipe) B.pre, hv.2.2, hG⟩
  have hr := B.returns
  have hlk := B.notSynchronized
  obtain ⟨hx, hb, hml, hown, hts, hst, hG⟩ := id C0
  have hiX12 : ∀ w ∈ u_ws RX12 TX12 51, w ∈ wsX12_wipe := hiX12_X12_wipe
  have w := jDy.start hv
  have hl := lv_entry ([.ref (b + x0)]) (n := 2) (Nat.le_of_ble_eq_true rfl)
  rw [lg_entry_eq]
  generalize (lg_sl ([.ref (b + x0)]) ++ List.replicate (2 - (lg_sl ([.ref (b + x0)])).length) Slot.unset).toArray = ls at hl ⊢
  replace hl : lv_has ls 2 [(0, .ref (b + x0))] := hl
  show W p l e rm_X12_wipe s m _ below meth c s.heap [] 0 0 _ (F0 m 0 ls [])
  rw [J_X12_wipe] at h
  refine lv_aload_n hx hb dX12_wipe_0 rfl (lv_at hl 0 rfl) ?_
  refine jgi (f := 12) hx hb hts hown hst w hx0 hiX12 (rfl : vwCl[11]? = some (RX12, TX12, 51)) (hts (.fieldLink RX12 141 "FootByGateModel" "prints" "I") (by decide +kernel)) ⟨by decide, by decide, rfl⟩ dX12_wipe_1 ?_
  refine lv_topi (fun v4 he => ?_)
  replace h := h v4 he
  clear he
  refine lv_istore_n (lv' := [(1, .int v4), (0, .ref (b + x0))]) hx hb dX12_wipe_4 rfl hl (by decide) rfl (fun ls hl => ?_)
  refine lv_aload_n hx hb dX12_wipe_5 rfl (lv_at hl 1 rfl) ?_
  refine lv_iconst (v := (0 : Int32)) hx hb dX12_wipe_6 (by decide) ?_
  refine jpi (f := 12) hx hb hts hown hst w hx0 hiX12 (rfl : vwCl[11]? = some (RX12, TX12, 51)) (hts (.fieldLink RX12 141 "FootByGateModel" "prints" "I") (by decide +kernel)) ⟨by decide, by decide, rfl⟩ tyX12 tyX12_ok nmX12 rfl ⟨rfl, rfl⟩ dX12_wipe_7 (fun i7 H locs he w => ?_)
  replace h := h i7 he
  clear he
  refine lv_iload_n hx hb dX12_wipe_10 rfl (lv_at hl 0 rfl) ?_
  exact jret_i hx hb hr hlk hst w h dX12_wipe_11
end S_X12_wipe
