section S_J6_bitCount_0f7a4
def J_J6_bitCount_0f7a4 (len : Nat → Nat) (r : jR) (Q : Int32 → jI → jL → Prop) (i : jI) (j : jL) (x0 : Int32) : Prop := ∀ v9 : Int32, v9 = x0 - (((x0.toUInt32 >>> ((1 : Int32).toUInt32 &&& Int32.toUInt32 31)).toInt32) &&& (1431655765 : Int32)) → (∀ v23 : Int32, v23 = (v9 &&& (858993459 : Int32)) + (((v9.toUInt32 >>> ((2 : Int32).toUInt32 &&& Int32.toUInt32 31)).toInt32) &&& (858993459 : Int32)) → (∀ v33 : Int32, v33 = (v23 + ((v23.toUInt32 >>> ((4 : Int32).toUInt32 &&& Int32.toUInt32 31)).toInt32)) &&& (252645135 : Int32) → (∀ v40 : Int32, v40 = v33 + ((v33.toUInt32 >>> ((8 : Int32).toUInt32 &&& Int32.toUInt32 31)).toInt32) → (∀ v47 : Int32, v47 = v40 + ((v40.toUInt32 >>> ((16 : Int32).toUInt32 &&& Int32.toUInt32 31)).toInt32) → (Q (v47 &&& (63 : Int32)) i j)))))
abbrev rm_J6_bitCount_0f7a4 : Room := { frames := 0, cells := 0, slots := 0, locals := 0 }
variable {p : Program} {l : Launch} {e : Env} {s : State} {m : MethodId} {args : Array Value} {below : List Frame} {meth : Method} {c : Code} {b tU n : Nat} {cy : Nat → ClassId} {D : va_G} {K len : Nat → Nat} {r : jR} {Q : Int32 → jI → jL → Prop}
set_option maxHeartbeats 4000000 in
set_option maxRecDepth 100000 in
theorem c_J6_bitCount_0f7a4 (hG : jG n K r) {i : jI} {j : jL} {x0 : Int32} (h : J_J6_bitCount_0f7a4 len r Q i j x0) : Met l yJ6_bitCount_0f7a4 wsJ6_bitCount_0f7a4 rm_J6_bitCount_0f7a4 (va_Pc [.int x0] (jPre b cy D tU n K len r i j)) (jQi b cy D tU n K len r Q) 0 0 (jA b) := by
  refine Met.ofW (cc := cJ6_bitCount_0f7a4) (maxL := 1) (ret := (some .int)) (by decide) rfl ?_
  intro p e s m args below meth c s₁ B hml hv
  obtain ⟨rfl, hv⟩ := hv
  have C0 : jCx p s m _ c cJ6_bitCount_0f7a4 1 wsJ6_bitCount_0f7a4 RJ6 b cy D tU n K r := ⟨B.exec, B.bytes, hml, findClass_of_methodNamed B.named, atoms_spec (ws := wsJ6_bitCount_0f7a4) B.pre, hv.2.2, hG⟩
  have hr := B.returns
  have hlk := B.notSynchronized
  obtain ⟨hx, hb, hml, hown, hts, hst, hG⟩ := id C0
  have w := jDy.start hv
  have hl := lv_entry ([.int x0]) (n := 1) (Nat.le_of_ble_eq_true rfl)
  rw [lg_entry_eq]
  generalize (lg_sl ([.int x0]) ++ List.replicate (1 - (lg_sl ([.int x0])).length) Slot.unset).toArray = ls at hl ⊢
  replace hl : lv_has ls 1 [(0, .int x0)] := hl
  show W p l e rm_J6_bitCount_0f7a4 s m _ below meth c s.heap [] 0 0 _ (F0 m 0 ls [])
  rw [J_J6_bitCount_0f7a4] at h
  refine lv_iload_n hx hb dJ6_bitCount_0f7a4_0 rfl (lv_at hl 0 rfl) ?_
  refine lv_iload_n hx hb dJ6_bitCount_0f7a4_1 rfl (lv_at hl 0 rfl) ?_
  refine lv_iconst (v := (1 : Int32)) hx hb dJ6_bitCount_0f7a4_2 (by decide) ?_
  refine lv_iushr hx hb dJ6_bitCount_0f7a4_3 rfl ?_
  refine lv_ldcw hx hb hown (hts (.constant RJ6 265 (1431655765)) (by decide +kernel)) dJ6_bitCount_0f7a4_4 ?_
  refine lv_iand hx hb dJ6_bitCount_0f7a4_7 ?_
  refine lv_isub hx hb dJ6_bitCount_0f7a4_8 ?_
  refine lv_topi (fun v9 he => ?_)
  replace h := h v9 he
  clear he
  refine lv_istore_n (lv' := [(0, .int v9)]) hx hb dJ6_bitCount_0f7a4_9 rfl hl (by decide) rfl (fun ls hl => ?_)
  refine lv_iload_n hx hb dJ6_bitCount_0f7a4_10 rfl (lv_at hl 0 rfl) ?_
  refine lv_ldcw hx hb hown (hts (.constant RJ6 266 (858993459)) (by decide +kernel)) dJ6_bitCount_0f7a4_11 ?_
  refine lv_iand hx hb dJ6_bitCount_0f7a4_14 ?_
  refine lv_iload_n hx hb dJ6_bitCount_0f7a4_15 rfl (lv_at hl 0 rfl) ?_
  refine lv_iconst (v := (2 : Int32)) hx hb dJ6_bitCount_0f7a4_16 (by decide) ?_
  refine lv_iushr hx hb dJ6_bitCount_0f7a4_17 rfl ?_
  refine lv_ldcw hx hb hown (hts (.constant RJ6 266 (858993459)) (by decide +kernel)) dJ6_bitCount_0f7a4_18 ?_
  refine lv_iand hx hb dJ6_bitCount_0f7a4_21 ?_
  refine lv_iadd hx hb dJ6_bitCount_0f7a4_22 ?_
  refine lv_topi (fun v23 he => ?_)
  replace h := h v23 he
  clear he
  refine lv_istore_n (lv' := [(0, .int v23)]) hx hb dJ6_bitCount_0f7a4_23 rfl hl (by decide) rfl (fun ls hl => ?_)
  refine lv_iload_n hx hb dJ6_bitCount_0f7a4_24 rfl (lv_at hl 0 rfl) ?_
  refine lv_iload_n hx hb dJ6_bitCount_0f7a4_25 rfl (lv_at hl 0 rfl) ?_
  refine lv_iconst (v := (4 : Int32)) hx hb dJ6_bitCount_0f7a4_26 (by decide) ?_
  refine lv_iushr hx hb dJ6_bitCount_0f7a4_27 rfl ?_
  refine lv_iadd hx hb dJ6_bitCount_0f7a4_28 ?_
  refine lv_ldcw hx hb hown (hts (.constant RJ6 267 (252645135)) (by decide +kernel)) dJ6_bitCount_0f7a4_29 ?_
  refine lv_iand hx hb dJ6_bitCount_0f7a4_32 ?_
  refine lv_topi (fun v33 he => ?_)
  replace h := h v33 he
  clear he
  refine lv_istore_n (lv' := [(0, .int v33)]) hx hb dJ6_bitCount_0f7a4_33 rfl hl (by decide) rfl (fun ls hl => ?_)
  refine lv_iload_n hx hb dJ6_bitCount_0f7a4_34 rfl (lv_at hl 0 rfl) ?_
  refine lv_iload_n hx hb dJ6_bitCount_0f7a4_35 rfl (lv_at hl 0 rfl) ?_
  refine lv_bipush (v := (8 : Int32)) hx hb dJ6_bitCount_0f7a4_36 (by decide) ?_
  refine lv_iushr hx hb dJ6_bitCount_0f7a4_38 rfl ?_
  refine lv_iadd hx hb dJ6_bitCount_0f7a4_39 ?_
  refine lv_topi (fun v40 he => ?_)
  replace h := h v40 he
  clear he
  refine lv_istore_n (lv' := [(0, .int v40)]) hx hb dJ6_bitCount_0f7a4_40 rfl hl (by decide) rfl (fun ls hl => ?_)
  refine lv_iload_n hx hb dJ6_bitCount_0f7a4_41 rfl (lv_at hl 0 rfl) ?_
  refine lv_iload_n hx hb dJ6_bitCount_0f7a4_42 rfl (lv_at hl 0 rfl) ?_
  refine lv_bipush (v := (16 : Int32)) hx hb dJ6_bitCount_0f7a4_43 (by decide) ?_
  refine lv_iushr hx hb dJ6_bitCount_0f7a4_45 rfl ?_
  refine lv_iadd hx hb dJ6_bitCount_0f7a4_46 ?_
  refine lv_topi (fun v47 he => ?_)
  replace h := h v47 he
  clear he
  refine lv_istore_n (lv' := [(0, .int v47)]) hx hb dJ6_bitCount_0f7a4_47 rfl hl (by decide) rfl (fun ls hl => ?_)
  refine lv_iload_n hx hb dJ6_bitCount_0f7a4_48 rfl (lv_at hl 0 rfl) ?_
  refine lv_bipush (v := (63 : Int32)) hx hb dJ6_bitCount_0f7a4_49 (by decide) ?_
  refine lv_iand hx hb dJ6_bitCount_0f7a4_51 ?_
  exact jret_i hx hb hr hlk hst w h dJ6_bitCount_0f7a4_52
end S_J6_bitCount_0f7a4
section S_J7_fill_53178
def J_J7_fill_53178_L5 (len : Nat → Nat) (r : jR) (Q : jI → jL → Prop) : Nat → jI → jL → Nat → Int32 → Int32 → Int32 → Prop
  | 0 => fun _ _ _ _ _ _ => False
  | g + 1 => fun i j x0 x1 x2 x3 => ((x3 ≤ x2) → (Q i j)) ∧ ((¬ x3 ≤ x2) → (vp_in x2 (len x0) ∧ ∀ i13 : jI, i13 = ju i x0 x2.toNatClampNeg x1 → (∀ v14 : Int32, v14 = x2 + (1 : Int32) → ((J_J7_fill_53178_L5 len r Q g) i13 j x0 x1 v14 x3))))
def J_J7_fill_53178 (len : Nat → Nat) (r : jR) (Q : jI → jL → Prop) (i : jI) (j : jL) (x0 : Nat) (x1 : Int32) : Prop := ∀ v4 : Int32, v4 = Int32.ofNat (len x0) → (∃ g0, J_J7_fill_53178_L5 len r Q g0 i j x0 x1 (0 : Int32) v4)
abbrev rm_J7_fill_53178 : Room := { frames := 0, cells := 0, slots := 0, locals := 0 }
variable {p : Program} {l : Launch} {e : Env} {s : State} {m : MethodId} {args : Array Value} {below : List Frame} {meth : Method} {c : Code} {b tU n : Nat} {cy : Nat → ClassId} {D : va_G} {K len : Nat → Nat} {r : jR} {Q : jI → jL → Prop}
set_option maxHeartbeats 4000000 in
set_option maxRecDepth 100000 in
theorem w_J7_fill_53178_L5 (C0 : jCx p s m args c cJ7_fill_53178 4 wsJ7_fill_53178 RJ7 b cy D tU n K r) (hr : meth.sig.returnType = none) (hlk : meth.locks = false) : ∀ (g : Nat) {H : Heap} {locs : List Loc} {ls : Array Slot} {i : jI} {j : jL} {x0 : Nat} {x1 : Int32} {x2 : Int32} {x3 : Int32} (w : jDy b cy D n K len r i j s H locs) (hx0 : x0 < n ∧ K x0 = 13) (hl : lv_has ls 4 [(0, .ref (b + x0)), (1, .int x1), (2, .int x2), (3, .int x3)]) (h : J_J7_fill_53178_L5 len r Q g i j x0 x1 x2 x3), W p l e rm_J7_fill_53178 s m args below meth c H locs 0 0 (MQ below (jQv b cy D tU n K len r Q) args s 0 0 (jA b)) (F0 m 5 ls []) := by
  obtain ⟨hx, hb, hml, hown, hts, hst, hG⟩ := id C0
  intro g
  induction g with
  | zero => intro H locs ls i j x0 x1 x2 x3 w hx0 hl h; exact False.elim h
  | succ g ih =>
    intro H locs ls i j x0 x1 x2 x3 w hx0 hl h
    rw [J_J7_fill_53178_L5] at h
    refine lv_iload_n hx hb dJ7_fill_53178_5 rfl (lv_at hl 2 rfl) ?_
    refine lv_iload_n hx hb dJ7_fill_53178_6 rfl (lv_at hl 3 rfl) ?_
    refine lv_icmp_ge (tgt := 20) hx hb dJ7_fill_53178_7 (by decide) (fun hc => ?_) (fun hc => ?_)
    · replace h := h.1 hc
      clear hc
      exact jret_v hx hb hr hlk hst w h dJ7_fill_53178_20
    · replace h := h.2 hc
      clear hc
      refine lv_aload_n hx hb dJ7_fill_53178_10 rfl (lv_at hl 0 rfl) ?_
      refine lv_iload_n hx hb dJ7_fill_53178_11 rfl (lv_at hl 2 rfl) ?_
      refine lv_iload_n hx hb dJ7_fill_53178_12 rfl (lv_at hl 1 rfl) ?_
      obtain ⟨hn, h⟩ := h
      refine jais hx hb hst w hx0 hn dJ7_fill_53178_13 (fun i13 H locs he w => ?_)
      replace h := h i13 he
      clear he hn
      obtain ⟨v14, he⟩ : ∃ z : Int32, z = x2 + (1 : Int32) := ⟨_, rfl⟩
      replace h := h v14 he
      refine lv_iinc (v := v14) (lv' := [(2, .int v14), (0, .ref (b + x0)), (1, .int x1), (3, .int x3)]) hx hb dJ7_fill_53178_14 hl (k := 2) rfl (by rw [he]; rfl) (by decide) rfl (fun ls hl => ?_)
      clear he
      refine lv_goto (tgt := 5) hx hb dJ7_fill_53178_17 (by decide) ?_
      exact ih w hx0 (lv_sub hl [1, 2, 0, 3] rfl) h
set_option maxHeartbeats 4000000 in
set_option maxRecDepth 100000 in
theorem c_J7_fill_53178 (hG : jG n K r) {i : jI} {j : jL} {x0 : Nat} {x1 : Int32} (hx0 : x0 < n ∧ K x0 = 13) (h : J_J7_fill_53178 len r Q i j x0 x1) : Met l yJ7_fill_53178 wsJ7_fill_53178 rm_J7_fill_53178 (va_Pc [.ref (b + x0), .int x1] (jPre b cy D tU n K len r i j)) (jQv b cy D tU n K len r Q) 0 0 (jA b) := by
  refine Met.ofW (cc := cJ7_fill_53178) (maxL := 4) (ret := none) (by decide) rfl ?_
  intro p e s m args below meth c s₁ B hml hv
  obtain ⟨rfl, hv⟩ := hv
  have C0 : jCx p s m _ c cJ7_fill_53178 4 wsJ7_fill_53178 RJ7 b cy D tU n K r := ⟨B.exec, B.bytes, hml, findClass_of_methodNamed B.named, atoms_spec (ws := wsJ7_fill_53178) B.pre, hv.2.2, hG⟩
  have hr := B.returns
  have hlk := B.notSynchronized
  obtain ⟨hx, hb, hml, hown, hts, hst, hG⟩ := id C0
  have w := jDy.start hv
  have hl := lv_entry ([.ref (b + x0), .int x1]) (n := 4) (Nat.le_of_ble_eq_true rfl)
  rw [lg_entry_eq]
  generalize (lg_sl ([.ref (b + x0), .int x1]) ++ List.replicate (4 - (lg_sl ([.ref (b + x0), .int x1])).length) Slot.unset).toArray = ls at hl ⊢
  replace hl : lv_has ls 4 [(0, .ref (b + x0)), (1, .int x1)] := hl
  show W p l e rm_J7_fill_53178 s m _ below meth c s.heap [] 0 0 _ (F0 m 0 ls [])
  rw [J_J7_fill_53178] at h
  refine lv_iconst (v := (0 : Int32)) hx hb dJ7_fill_53178_0 (by decide) ?_
  refine lv_istore_n (lv' := [(2, .int (0 : Int32)), (0, .ref (b + x0)), (1, .int x1)]) hx hb dJ7_fill_53178_1 rfl hl (by decide) rfl (fun ls hl => ?_)
  refine lv_aload_n hx hb dJ7_fill_53178_2 rfl (lv_at hl 1 rfl) ?_
  refine jlen hx hb hst w ⟨hx0.1, Or.inl hx0.2⟩ dJ7_fill_53178_3 ?_
  refine lv_topi (fun v4 he => ?_)
  replace h := h v4 he
  clear he
  refine lv_istore_n (lv' := [(3, .int v4), (2, .int (0 : Int32)), (0, .ref (b + x0)), (1, .int x1)]) hx hb dJ7_fill_53178_4 rfl hl (by decide) rfl (fun ls hl => ?_)
  obtain ⟨g0, h⟩ := h
  exact w_J7_fill_53178_L5 C0 hr hlk g0 w hx0 (lv_sub hl [2, 3, 1, 0] rfl) h
end S_J7_fill_53178
section S_J7_fill_d0a16
def J_J7_fill_d0a16_L6 (len : Nat → Nat) (r : jR) (Q : jI → jL → Prop) : Nat → jI → jL → Nat → Int64 → Int32 → Int32 → Prop
  | 0 => fun _ _ _ _ _ _ => False
  | g + 1 => fun i j x0 x1 x3 x4 => ((x4 ≤ x3) → (Q i j)) ∧ ((¬ x4 ≤ x3) → (vp_in x3 (len x0) ∧ ∀ j15 : jL, j15 = jul j x0 x3.toNatClampNeg x1 → (∀ v16 : Int32, v16 = x3 + (1 : Int32) → ((J_J7_fill_d0a16_L6 len r Q g) i j15 x0 x1 v16 x4))))
def J_J7_fill_d0a16 (len : Nat → Nat) (r : jR) (Q : jI → jL → Prop) (i : jI) (j : jL) (x0 : Nat) (x1 : Int64) : Prop := ∀ v4 : Int32, v4 = Int32.ofNat (len x0) → (∃ g0, J_J7_fill_d0a16_L6 len r Q g0 i j x0 x1 (0 : Int32) v4)
abbrev rm_J7_fill_d0a16 : Room := { frames := 0, cells := 0, slots := 0, locals := 0 }
variable {p : Program} {l : Launch} {e : Env} {s : State} {m : MethodId} {args : Array Value} {below : List Frame} {meth : Method} {c : Code} {b tU n : Nat} {cy : Nat → ClassId} {D : va_G} {K len : Nat → Nat} {r : jR} {Q : jI → jL → Prop}
set_option maxHeartbeats 4000000 in
set_option maxRecDepth 100000 in
theorem w_J7_fill_d0a16_L6 (C0 : jCx p s m args c cJ7_fill_d0a16 5 wsJ7_fill_d0a16 RJ7 b cy D tU n K r) (hr : meth.sig.returnType = none) (hlk : meth.locks = false) : ∀ (g : Nat) {H : Heap} {locs : List Loc} {ls : Array Slot} {i : jI} {j : jL} {x0 : Nat} {x1 : Int64} {x3 : Int32} {x4 : Int32} (w : jDy b cy D n K len r i j s H locs) (hx0 : x0 < n ∧ K x0 = 14) (hl : lv_has ls 5 [(0, .ref (b + x0)), (1, .long x1), (3, .int x3), (4, .int x4)]) (h : J_J7_fill_d0a16_L6 len r Q g i j x0 x1 x3 x4), W p l e rm_J7_fill_d0a16 s m args below meth c H locs 0 0 (MQ below (jQv b cy D tU n K len r Q) args s 0 0 (jA b)) (F0 m 6 ls []) := by
  obtain ⟨hx, hb, hml, hown, hts, hst, hG⟩ := id C0
  intro g
  induction g with
  | zero => intro H locs ls i j x0 x1 x3 x4 w hx0 hl h; exact False.elim h
  | succ g ih =>
    intro H locs ls i j x0 x1 x3 x4 w hx0 hl h
    rw [J_J7_fill_d0a16_L6] at h
    refine lv_iload_n hx hb dJ7_fill_d0a16_6 rfl (lv_at hl 2 rfl) ?_
    refine lv_iload hx hb dJ7_fill_d0a16_7 (lv_at hl 3 rfl) ?_
    refine lv_icmp_ge (tgt := 22) hx hb dJ7_fill_d0a16_9 (by decide) (fun hc => ?_) (fun hc => ?_)
    · replace h := h.1 hc
      clear hc
      exact jret_v hx hb hr hlk hst w h dJ7_fill_d0a16_22
    · replace h := h.2 hc
      clear hc
      refine lv_aload_n hx hb dJ7_fill_d0a16_12 rfl (lv_at hl 0 rfl) ?_
      refine lv_iload_n hx hb dJ7_fill_d0a16_13 rfl (lv_at hl 2 rfl) ?_
      refine lv_lload_n hx hb dJ7_fill_d0a16_14 rfl (lv_at hl 1 rfl) ?_
      obtain ⟨hn, h⟩ := h
      refine jast hx hb hst w hx0 hn dJ7_fill_d0a16_15 (fun j15 H locs he w => ?_)
      replace h := h j15 he
      clear he hn
      obtain ⟨v16, he⟩ : ∃ z : Int32, z = x3 + (1 : Int32) := ⟨_, rfl⟩
      replace h := h v16 he
      refine lv_iinc (v := v16) (lv' := [(3, .int v16), (0, .ref (b + x0)), (1, .long x1), (4, .int x4)]) hx hb dJ7_fill_d0a16_16 hl (k := 2) rfl (by rw [he]; rfl) (by decide) rfl (fun ls hl => ?_)
      clear he
      refine lv_goto (tgt := 6) hx hb dJ7_fill_d0a16_19 (by decide) ?_
      exact ih w hx0 (lv_sub hl [1, 2, 0, 3] rfl) h
set_option maxHeartbeats 4000000 in
set_option maxRecDepth 100000 in
theorem c_J7_fill_d0a16 (hG : jG n K r) {i : jI} {j : jL} {x0 : Nat} {x1 : Int64} (hx0 : x0 < n ∧ K x0 = 14) (h : J_J7_fill_d0a16 len r Q i j x0 x1) : Met l yJ7_fill_d0a16 wsJ7_fill_d0a16 rm_J7_fill_d0a16 (va_Pc [.ref (b + x0), .long x1] (jPre b cy D tU n K len r i j)) (jQv b cy D tU n K len r Q) 0 0 (jA b) := by
  refine Met.ofW (cc := cJ7_fill_d0a16) (maxL := 5) (ret := none) (by decide) rfl ?_
  intro p e s m args below meth c s₁ B hml hv
  obtain ⟨rfl, hv⟩ := hv
  have C0 : jCx p s m _ c cJ7_fill_d0a16 5 wsJ7_fill_d0a16 RJ7 b cy D tU n K r := ⟨B.exec, B.bytes, hml, findClass_of_methodNamed B.named, atoms_spec (ws := wsJ7_fill_d0a16) B.pre, hv.2.2, hG⟩
  have hr := B.returns
  have hlk := B.notSynchronized
  obtain ⟨hx, hb, hml, hown, hts, hst, hG⟩ := id C0
  have w := jDy.start hv
  have hl := lv_entry ([.ref (b + x0), .long x1]) (n := 5) (Nat.le_of_ble_eq_true rfl)
  rw [lg_entry_eq]
  generalize (lg_sl ([.ref (b + x0), .long x1]) ++ List.replicate (5 - (lg_sl ([.ref (b + x0), .long x1])).length) Slot.unset).toArray = ls at hl ⊢
  replace hl : lv_has ls 5 [(0, .ref (b + x0)), (1, .long x1)] := hl
  show W p l e rm_J7_fill_d0a16 s m _ below meth c s.heap [] 0 0 _ (F0 m 0 ls [])
  rw [J_J7_fill_d0a16] at h
  refine lv_iconst (v := (0 : Int32)) hx hb dJ7_fill_d0a16_0 (by decide) ?_
  refine lv_istore_n (lv' := [(3, .int (0 : Int32)), (0, .ref (b + x0)), (1, .long x1)]) hx hb dJ7_fill_d0a16_1 rfl hl (by decide) rfl (fun ls hl => ?_)
  refine lv_aload_n hx hb dJ7_fill_d0a16_2 rfl (lv_at hl 1 rfl) ?_
  refine jlen hx hb hst w ⟨hx0.1, Or.inr hx0.2⟩ dJ7_fill_d0a16_3 ?_
  refine lv_topi (fun v4 he => ?_)
  replace h := h v4 he
  clear he
  refine lv_istore (lv' := [(4, .int v4), (3, .int (0 : Int32)), (0, .ref (b + x0)), (1, .long x1)]) hx hb dJ7_fill_d0a16_4 hl (by decide) rfl (fun ls hl => ?_)
  obtain ⟨g0, h⟩ := h
  exact w_J7_fill_d0a16_L6 C0 hr hlk g0 w hx0 (lv_sub hl [2, 3, 1, 0] rfl) h
end S_J7_fill_d0a16
section S_X7_footOf
def J_X7_footOf (len : Nat → Nat) (r : jR) (Q : Int32 → jI → jL → Prop) (i : jI) (j : jL) (x0 : Int32) : Prop := Q ((x0 / (64 : Int32)) &&& (1 : Int32)) i j
abbrev rm_X7_footOf : Room := { frames := 0, cells := 0, slots := 0, locals := 0 }
variable {p : Program} {l : Launch} {e : Env} {s : State} {m : MethodId} {args : Array Value} {below : List Frame} {meth : Method} {c : Code} {b tU n : Nat} {cy : Nat → ClassId} {D : va_G} {K len : Nat → Nat} {r : jR} {Q : Int32 → jI → jL → Prop}
set_option maxHeartbeats 4000000 in
set_option maxRecDepth 100000 in
theorem c_X7_footOf (hG : jG n K r) {i : jI} {j : jL} {x0 : Int32} (h : J_X7_footOf len r Q i j x0) : Met l yX7_footOf wsX7_footOf rm_X7_footOf (va_Pc [.int x0] (jPre b cy D tU n K len r i j)) (jQi b cy D tU n K len r Q) 0 0 (jA b) := by
  refine Met.ofW (cc := cX7_footOf) (maxL := 1) (ret := (some .int)) (by decide) rfl ?_
  intro p e s m args below meth c s₁ B hml hv
  obtain ⟨rfl, hv⟩ := hv
  have C0 : jCx p s m _ c cX7_footOf 1 wsX7_footOf RX7 b cy D tU n K r := ⟨B.exec, B.bytes, hml, findClass_of_methodNamed B.named, atoms_spec (ws := wsX7_footOf) B.pre, hv.2.2, hG⟩
  have hr := B.returns
  have hlk := B.notSynchronized
  obtain ⟨hx, hb, hml, hown, hts, hst, hG⟩ := id C0
  have w := jDy.start hv
  have hl := lv_entry ([.int x0]) (n := 1) (Nat.le_of_ble_eq_true rfl)
  rw [lg_entry_eq]
  generalize (lg_sl ([.int x0]) ++ List.replicate (1 - (lg_sl ([.int x0])).length) Slot.unset).toArray = ls at hl ⊢
  replace hl : lv_has ls 1 [(0, .int x0)] := hl
  show W p l e rm_X7_footOf s m _ below meth c s.heap [] 0 0 _ (F0 m 0 ls [])
  rw [J_X7_footOf] at h
  refine lv_iload_n hx hb dX7_footOf_0 rfl (lv_at hl 0 rfl) ?_
  refine lv_bipush (v := (64 : Int32)) hx hb dX7_footOf_1 (by decide) ?_
  refine lv_idiv hx hb dX7_footOf_3 (by decide) ?_
  refine lv_iconst (v := (1 : Int32)) hx hb dX7_footOf_4 (by decide) ?_
  refine lv_iand hx hb dX7_footOf_5 ?_
  exact jret_i hx hb hr hlk hst w h dX7_footOf_6
end S_X7_footOf
section S_X7_markOf
def J_X7_markOf (len : Nat → Nat) (r : jR) (Q : Int32 → jI → jL → Prop) (i : jI) (j : jL) (x0 : Int32) (x1 : Int32) : Prop := Q (((x0 >>> (((2 : Int32) * x1) &&& 31)) &&& (3 : Int32)) - (1 : Int32)) i j
abbrev rm_X7_markOf : Room := { frames := 0, cells := 0, slots := 0, locals := 0 }
variable {p : Program} {l : Launch} {e : Env} {s : State} {m : MethodId} {args : Array Value} {below : List Frame} {meth : Method} {c : Code} {b tU n : Nat} {cy : Nat → ClassId} {D : va_G} {K len : Nat → Nat} {r : jR} {Q : Int32 → jI → jL → Prop}
set_option maxHeartbeats 4000000 in
set_option maxRecDepth 100000 in
theorem c_X7_markOf (hG : jG n K r) {i : jI} {j : jL} {x0 : Int32} {x1 : Int32} (h : J_X7_markOf len r Q i j x0 x1) : Met l yX7_markOf wsX7_markOf rm_X7_markOf (va_Pc [.int x0, .int x1] (jPre b cy D tU n K len r i j)) (jQi b cy D tU n K len r Q) 0 0 (jA b) := by
  refine Met.ofW (cc := cX7_markOf) (maxL := 2) (ret := (some .int)) (by decide) rfl ?_
  intro p e s m args below meth c s₁ B hml hv
  obtain ⟨rfl, hv⟩ := hv
  have C0 : jCx p s m _ c cX7_markOf 2 wsX7_markOf RX7 b cy D tU n K r := ⟨B.exec, B.bytes, hml, findClass_of_methodNamed B.named, atoms_spec (ws := wsX7_markOf) B.pre, hv.2.2, hG⟩
  have hr := B.returns
  have hlk := B.notSynchronized
  obtain ⟨hx, hb, hml, hown, hts, hst, hG⟩ := id C0
  have w := jDy.start hv
  have hl := lv_entry ([.int x0, .int x1]) (n := 2) (Nat.le_of_ble_eq_true rfl)
  rw [lg_entry_eq]
  generalize (lg_sl ([.int x0, .int x1]) ++ List.replicate (2 - (lg_sl ([.int x0, .int x1])).length) Slot.unset).toArray = ls at hl ⊢
  replace hl : lv_has ls 2 [(0, .int x0), (1, .int x1)] := hl
  show W p l e rm_X7_markOf s m _ below meth c s.heap [] 0 0 _ (F0 m 0 ls [])
  rw [J_X7_markOf] at h
  refine lv_iload_n hx hb dX7_markOf_0 rfl (lv_at hl 0 rfl) ?_
  refine lv_iconst (v := (2 : Int32)) hx hb dX7_markOf_1 (by decide) ?_
  refine lv_iload_n hx hb dX7_markOf_2 rfl (lv_at hl 1 rfl) ?_
  refine lv_imul hx hb dX7_markOf_3 ?_
  refine lv_ishr hx hb dX7_markOf_4 ?_
  refine lv_iconst (v := (3 : Int32)) hx hb dX7_markOf_5 (by decide) ?_
  refine lv_iand hx hb dX7_markOf_6 ?_
  refine lv_iconst (v := (1 : Int32)) hx hb dX7_markOf_7 (by decide) ?_
  refine lv_isub hx hb dX7_markOf_8 ?_
  exact jret_i hx hb hr hlk hst w h dX7_markOf_9
end S_X7_markOf
section S_X7_placeOf
def J_X7_placeOf (len : Nat → Nat) (r : jR) (Q : Int32 → jI → jL → Prop) (i : jI) (j : jL) (x0 : Int32) : Prop := Q (x0 / (128 : Int32)) i j
abbrev rm_X7_placeOf : Room := { frames := 0, cells := 0, slots := 0, locals := 0 }
variable {p : Program} {l : Launch} {e : Env} {s : State} {m : MethodId} {args : Array Value} {below : List Frame} {meth : Method} {c : Code} {b tU n : Nat} {cy : Nat → ClassId} {D : va_G} {K len : Nat → Nat} {r : jR} {Q : Int32 → jI → jL → Prop}
set_option maxHeartbeats 4000000 in
set_option maxRecDepth 100000 in
theorem c_X7_placeOf (hG : jG n K r) {i : jI} {j : jL} {x0 : Int32} (h : J_X7_placeOf len r Q i j x0) : Met l yX7_placeOf wsX7_placeOf rm_X7_placeOf (va_Pc [.int x0] (jPre b cy D tU n K len r i j)) (jQi b cy D tU n K len r Q) 0 0 (jA b) := by
  refine Met.ofW (cc := cX7_placeOf) (maxL := 1) (ret := (some .int)) (by decide) rfl ?_
  intro p e s m args below meth c s₁ B hml hv
  obtain ⟨rfl, hv⟩ := hv
  have C0 : jCx p s m _ c cX7_placeOf 1 wsX7_placeOf RX7 b cy D tU n K r := ⟨B.exec, B.bytes, hml, findClass_of_methodNamed B.named, atoms_spec (ws := wsX7_placeOf) B.pre, hv.2.2, hG⟩
  have hr := B.returns
  have hlk := B.notSynchronized
  obtain ⟨hx, hb, hml, hown, hts, hst, hG⟩ := id C0
  have w := jDy.start hv
  have hl := lv_entry ([.int x0]) (n := 1) (Nat.le_of_ble_eq_true rfl)
  rw [lg_entry_eq]
  generalize (lg_sl ([.int x0]) ++ List.replicate (1 - (lg_sl ([.int x0])).length) Slot.unset).toArray = ls at hl ⊢
  replace hl : lv_has ls 1 [(0, .int x0)] := hl
  show W p l e rm_X7_placeOf s m _ below meth c s.heap [] 0 0 _ (F0 m 0 ls [])
  rw [J_X7_placeOf] at h
  refine lv_iload_n hx hb dX7_placeOf_0 rfl (lv_at hl 0 rfl) ?_
  refine lv_sipush (v := (128 : Int32)) hx hb dX7_placeOf_1 (by decide) ?_
  refine lv_idiv hx hb dX7_placeOf_4 (by decide) ?_
  exact jret_i hx hb hr hlk hst w h dX7_placeOf_5
end S_X7_placeOf
section S_X0_numberOf
def J_X0_numberOf_L80 (len : Nat → Nat) (r : jR) (Q : Int32 → jI → jL → Prop) (Hd21 : jI → jL → Int32 → Int32 → Int32 → Int32 → Prop) (i : jI) (j : jL) (x0 : Int32) (x1 : Int32) (x3 : Int32) (t0 : Int32) (t1 : Int32) : Prop := ∀ v81 : Int32, v81 = t0 + t1 → (∀ v82 : Int32, v82 = x3 + (1 : Int32) → (Hd21 i j x0 x1 v81 v82))
def J_X0_numberOf_L57 (len : Nat → Nat) (r : jR) (Q : Int32 → jI → jL → Prop) (Hd21 : jI → jL → Int32 → Int32 → Int32 → Int32 → Prop) (i : jI) (j : jL) (x0 : Int32) (x1 : Int32) (x2 : Int32) (x3 : Int32) (x4 : Int32) (x5 : Int32) (t0 : Int32) : Prop := ((t0 = 0) → (J_X0_numberOf_L80 len r Q Hd21 i j x0 x1 x3 (x2 * (5 : Int32)) (((1 : Int32) + x4) + ((2 : Int32) * x5)))) ∧ ((¬ t0 = 0) → (J_X0_numberOf_L80 len r Q Hd21 i j x0 x1 x3 (x2 * (5 : Int32)) (0 : Int32)))
def J_X0_numberOf_L52 (len : Nat → Nat) (r : jR) (Q : Int32 → jI → jL → Prop) (Hd21 : jI → jL → Int32 → Int32 → Int32 → Int32 → Prop) (i : jI) (j : jL) (x0 : Int32) (x1 : Int32) (x2 : Int32) (x3 : Int32) (x4 : Int32) (x5 : Int32) : Prop := J_X0_numberOf_L57 len r Q Hd21 i j x0 x1 x2 x3 x4 x5 (1 : Int32)
def J_X0_numberOf_L21 (len : Nat → Nat) (r : jR) (Q : Int32 → jI → jL → Prop) : Nat → jI → jL → Int32 → Int32 → Int32 → Int32 → Prop
  | 0 => fun _ _ _ _ _ _ => False
  | g + 1 => fun i j x0 x1 x2 x3 => (((3 : Int32) ≤ x3) → (Q x2 i j)) ∧ ((¬ (3 : Int32) ≤ x3) → (J_X7_markOf len r (fun (q28 : Int32) (i28 : jI) (j28 : jL) => J_X7_markOf len r (fun (q35 : Int32) (i35 : jI) (j35 : jL) => ((q28 = (-1 : Int32)) → (J_X0_numberOf_L52 len r Q (J_X0_numberOf_L21 len r Q g) i35 j35 x0 x1 x2 x3 q28 q35)) ∧ ((¬ q28 = (-1 : Int32)) → (((¬ q35 = (-1 : Int32)) → (J_X0_numberOf_L57 len r Q (J_X0_numberOf_L21 len r Q g) i35 j35 x0 x1 x2 x3 q28 q35 (0 : Int32))) ∧ ((q35 = (-1 : Int32)) → (J_X0_numberOf_L52 len r Q (J_X0_numberOf_L21 len r Q g) i35 j35 x0 x1 x2 x3 q28 q35))))) i28 j28 x1 x3) i j x0 x3))
def J_X0_numberOf (len : Nat → Nat) (r : jR) (Q : Int32 → jI → jL → Prop) (i : jI) (j : jL) (x0 : Int32) (x1 : Int32) : Prop := J_X7_placeOf len r (fun (q1 : Int32) (i1 : jI) (j1 : jL) => J_X7_footOf len r (fun (q7 : Int32) (i7 : jI) (j7 : jL) => J_X7_footOf len r (fun (q14 : Int32) (i14 : jI) (j14 : jL) => ∀ v18 : Int32, v18 = ((q1 * (4 : Int32)) + (q7 * (2 : Int32))) + q14 → (∃ g0, J_X0_numberOf_L21 len r Q g0 i14 j14 x0 x1 v18 (0 : Int32))) i7 j7 x1) i1 j1 x0) i j x0
abbrev rm_X0_numberOf : Room := { frames := 1, cells := 0, slots := 0, locals := 21 }
variable {p : Program} {l : Launch} {e : Env} {s : State} {m : MethodId} {args : Array Value} {below : List Frame} {meth : Method} {c : Code} {b tU n : Nat} {cy : Nat → ClassId} {D : va_G} {K len : Nat → Nat} {r : jR} {Q : Int32 → jI → jL → Prop}
set_option maxHeartbeats 4000000 in
set_option maxRecDepth 100000 in
theorem w_X0_numberOf_L80 (C0 : jCx p s m args c cX0_numberOf 7 wsX0_numberOf RX0 b cy D tU n K r) (hr : meth.sig.returnType = some .int) (hlk : meth.locks = false) {Hd21 : jI → jL → Int32 → Int32 → Int32 → Int32 → Prop} (k21 : ∀ {H : Heap} {locs : List Loc} {ls : Array Slot} {i : jI} {j : jL} {x0 : Int32} {x1 : Int32} {x2 : Int32} {x3 : Int32} (w : jDy b cy D n K len r i j s H locs) (hl : lv_has ls 7 [(0, .int x0), (1, .int x1), (2, .int x2), (3, .int x3)]) (h : Hd21 i j x0 x1 x2 x3), W p l e rm_X0_numberOf s m args below meth c H locs 0 0 (MQ below (jQi b cy D tU n K len r Q) args s 0 0 (jA b)) (F0 m 21 ls [])) {H : Heap} {locs : List Loc} {ls : Array Slot} {i : jI} {j : jL} {x0 : Int32} {x1 : Int32} {x3 : Int32} {t0 : Int32} {t1 : Int32} (w : jDy b cy D n K len r i j s H locs) (hl : lv_has ls 7 [(0, .int x0), (1, .int x1), (3, .int x3)]) (h : J_X0_numberOf_L80 len r Q Hd21 i j x0 x1 x3 t0 t1) : W p l e rm_X0_numberOf s m args below meth c H locs 0 0 (MQ below (jQi b cy D tU n K len r Q) args s 0 0 (jA b)) (F0 m 80 ls [.int t1, .int t0]) := by
  obtain ⟨hx, hb, hml, hown, hts, hst, hG⟩ := id C0
  rw [J_X0_numberOf_L80] at h
  refine lv_iadd hx hb dX0_numberOf_80 ?_
  refine lv_topi (fun v81 he => ?_)
  replace h := h v81 he
  clear he
  refine lv_istore_n (lv' := [(2, .int v81), (0, .int x0), (1, .int x1), (3, .int x3)]) hx hb dX0_numberOf_81 rfl hl (by decide) rfl (fun ls hl => ?_)
  obtain ⟨v82, he⟩ : ∃ z : Int32, z = x3 + (1 : Int32) := ⟨_, rfl⟩
  replace h := h v82 he
  refine lv_iinc (v := v82) (lv' := [(3, .int v82), (2, .int v81), (0, .int x0), (1, .int x1)]) hx hb dX0_numberOf_82 hl (k := 3) rfl (by rw [he]; rfl) (by decide) rfl (fun ls hl => ?_)
  clear he
  refine lv_goto (tgt := 21) hx hb dX0_numberOf_85 (by decide) ?_
  exact k21 w (lv_sub hl [2, 3, 1, 0] rfl) h
set_option maxHeartbeats 4000000 in
set_option maxRecDepth 100000 in
theorem w_X0_numberOf_L57 (C0 : jCx p s m args c cX0_numberOf 7 wsX0_numberOf RX0 b cy D tU n K r) (hr : meth.sig.returnType = some .int) (hlk : meth.locks = false) {Hd21 : jI → jL → Int32 → Int32 → Int32 → Int32 → Prop} (k21 : ∀ {H : Heap} {locs : List Loc} {ls : Array Slot} {i : jI} {j : jL} {x0 : Int32} {x1 : Int32} {x2 : Int32} {x3 : Int32} (w : jDy b cy D n K len r i j s H locs) (hl : lv_has ls 7 [(0, .int x0), (1, .int x1), (2, .int x2), (3, .int x3)]) (h : Hd21 i j x0 x1 x2 x3), W p l e rm_X0_numberOf s m args below meth c H locs 0 0 (MQ below (jQi b cy D tU n K len r Q) args s 0 0 (jA b)) (F0 m 21 ls [])) {H : Heap} {locs : List Loc} {ls : Array Slot} {i : jI} {j : jL} {x0 : Int32} {x1 : Int32} {x2 : Int32} {x3 : Int32} {x4 : Int32} {x5 : Int32} {t0 : Int32} (w : jDy b cy D n K len r i j s H locs) (hl : lv_has ls 7 [(0, .int x0), (1, .int x1), (2, .int x2), (3, .int x3), (4, .int x4), (5, .int x5)]) (h : J_X0_numberOf_L57 len r Q Hd21 i j x0 x1 x2 x3 x4 x5 t0) : W p l e rm_X0_numberOf s m args below meth c H locs 0 0 (MQ below (jQi b cy D tU n K len r Q) args s 0 0 (jA b)) (F0 m 57 ls [.int t0]) := by
  obtain ⟨hx, hb, hml, hown, hts, hst, hG⟩ := id C0
  rw [J_X0_numberOf_L57] at h
  refine lv_istore (lv' := [(6, .int t0), (0, .int x0), (1, .int x1), (2, .int x2), (3, .int x3), (4, .int x4), (5, .int x5)]) hx hb dX0_numberOf_57 hl (by decide) rfl (fun ls hl => ?_)
  refine lv_iload_n hx hb dX0_numberOf_59 rfl (lv_at hl 3 rfl) ?_
  refine lv_iconst (v := (5 : Int32)) hx hb dX0_numberOf_60 (by decide) ?_
  refine lv_imul hx hb dX0_numberOf_61 ?_
  refine lv_iload hx hb dX0_numberOf_62 (lv_at hl 0 rfl) ?_
  refine lv_if_eq (tgt := 71) hx hb dX0_numberOf_64 (by decide) (fun hc => ?_) (fun hc => ?_)
  · replace h := h.1 hc
    clear hc
    refine lv_iconst (v := (1 : Int32)) hx hb dX0_numberOf_71 (by decide) ?_
    refine lv_iload hx hb dX0_numberOf_72 (lv_at hl 5 rfl) ?_
    refine lv_iadd hx hb dX0_numberOf_74 ?_
    refine lv_iconst (v := (2 : Int32)) hx hb dX0_numberOf_75 (by decide) ?_
    refine lv_iload hx hb dX0_numberOf_76 (lv_at hl 6 rfl) ?_
    refine lv_imul hx hb dX0_numberOf_78 ?_
    refine lv_iadd hx hb dX0_numberOf_79 ?_
    exact w_X0_numberOf_L80 C0 hr hlk (fun w hl h => k21 w hl h) w (lv_sub hl [1, 2, 4] rfl) h
  · replace h := h.2 hc
    clear hc
    refine lv_iconst (v := (0 : Int32)) hx hb dX0_numberOf_67 (by decide) ?_
    refine lv_goto (tgt := 80) hx hb dX0_numberOf_68 (by decide) ?_
    exact w_X0_numberOf_L80 C0 hr hlk (fun w hl h => k21 w hl h) w (lv_sub hl [1, 2, 4] rfl) h
set_option maxHeartbeats 4000000 in
set_option maxRecDepth 100000 in
theorem w_X0_numberOf_L52 (C0 : jCx p s m args c cX0_numberOf 7 wsX0_numberOf RX0 b cy D tU n K r) (hr : meth.sig.returnType = some .int) (hlk : meth.locks = false) {Hd21 : jI → jL → Int32 → Int32 → Int32 → Int32 → Prop} (k21 : ∀ {H : Heap} {locs : List Loc} {ls : Array Slot} {i : jI} {j : jL} {x0 : Int32} {x1 : Int32} {x2 : Int32} {x3 : Int32} (w : jDy b cy D n K len r i j s H locs) (hl : lv_has ls 7 [(0, .int x0), (1, .int x1), (2, .int x2), (3, .int x3)]) (h : Hd21 i j x0 x1 x2 x3), W p l e rm_X0_numberOf s m args below meth c H locs 0 0 (MQ below (jQi b cy D tU n K len r Q) args s 0 0 (jA b)) (F0 m 21 ls [])) {H : Heap} {locs : List Loc} {ls : Array Slot} {i : jI} {j : jL} {x0 : Int32} {x1 : Int32} {x2 : Int32} {x3 : Int32} {x4 : Int32} {x5 : Int32} (w : jDy b cy D n K len r i j s H locs) (hl : lv_has ls 7 [(0, .int x0), (1, .int x1), (2, .int x2), (3, .int x3), (4, .int x4), (5, .int x5)]) (h : J_X0_numberOf_L52 len r Q Hd21 i j x0 x1 x2 x3 x4 x5) : W p l e rm_X0_numberOf s m args below meth c H locs 0 0 (MQ below (jQi b cy D tU n K len r Q) args s 0 0 (jA b)) (F0 m 52 ls []) := by
  obtain ⟨hx, hb, hml, hown, hts, hst, hG⟩ := id C0
  rw [J_X0_numberOf_L52] at h
  refine lv_iconst (v := (1 : Int32)) hx hb dX0_numberOf_52 (by decide) ?_
  refine lv_goto (tgt := 57) hx hb dX0_numberOf_53 (by decide) ?_
  exact w_X0_numberOf_L57 C0 hr hlk (fun w hl h => k21 w hl h) w (lv_sub hl [0, 1, 2, 3, 4, 5] rfl) h
set_option maxHeartbeats 4000000 in
set_option maxRecDepth 100000 in
theorem w_X0_numberOf_L21 (C0 : jCx p s m args c cX0_numberOf 7 wsX0_numberOf RX0 b cy D tU n K r) (hr : meth.sig.returnType = some .int) (hlk : meth.locks = false) : ∀ (g : Nat) {H : Heap} {locs : List Loc} {ls : Array Slot} {i : jI} {j : jL} {x0 : Int32} {x1 : Int32} {x2 : Int32} {x3 : Int32} (w : jDy b cy D n K len r i j s H locs) (hl : lv_has ls 7 [(0, .int x0), (1, .int x1), (2, .int x2), (3, .int x3)]) (h : J_X0_numberOf_L21 len r Q g i j x0 x1 x2 x3), W p l e rm_X0_numberOf s m args below meth c H locs 0 0 (MQ below (jQi b cy D tU n K len r Q) args s 0 0 (jA b)) (F0 m 21 ls []) := by
  obtain ⟨hx, hb, hml, hown, hts, hst, hG⟩ := id C0
  intro g
  induction g with
  | zero => intro H locs ls i j x0 x1 x2 x3 w hl h; exact False.elim h
  | succ g ih =>
    intro H locs ls i j x0 x1 x2 x3 w hl h
    rw [J_X0_numberOf_L21] at h
    refine lv_iload_n hx hb dX0_numberOf_21 rfl (lv_at hl 3 rfl) ?_
    refine lv_iconst (v := (3 : Int32)) hx hb dX0_numberOf_22 (by decide) ?_
    refine lv_icmp_ge (tgt := 88) hx hb dX0_numberOf_23 (by decide) (fun hc => ?_) (fun hc => ?_)
    · replace h := h.1 hc
      clear hc
      refine lv_iload_n hx hb dX0_numberOf_88 rfl (lv_at hl 2 rfl) ?_
      exact jret_i hx hb hr hlk hst w h dX0_numberOf_89
    · replace h := h.2 hc
      clear hc
      refine lv_iload_n hx hb dX0_numberOf_26 rfl (lv_at hl 0 rfl) ?_
      refine lv_iload_n hx hb dX0_numberOf_27 rfl (lv_at hl 3 rfl) ?_
      refine jcS_i (As := [.int x0, .int x3]) (rest := []) C0 w (c_X7_markOf hG h) (va_cwS 2 hts gX0_numberOf_X7_markOf rfl rfl rfl (by decide +kernel) ⟨Nat.le_of_ble_eq_true rfl, Nat.le_of_ble_eq_true rfl⟩) rfl hl.1 rfl (Nat.le_of_ble_eq_true rfl) dX0_numberOf_28 (fun q28 i28 j28 H locs h w => ?_) ⟨Nat.zero_le _, Nat.zero_le _⟩
      refine lv_istore (lv' := [(4, .int q28), (0, .int x0), (1, .int x1), (2, .int x2), (3, .int x3)]) hx hb dX0_numberOf_31 hl (by decide) rfl (fun ls hl => ?_)
      refine lv_iload_n hx hb dX0_numberOf_33 rfl (lv_at hl 2 rfl) ?_
      refine lv_iload_n hx hb dX0_numberOf_34 rfl (lv_at hl 4 rfl) ?_
      refine jcS_i (As := [.int x1, .int x3]) (rest := []) C0 w (c_X7_markOf hG h) (va_cwS 2 hts gX0_numberOf_X7_markOf rfl rfl rfl (by decide +kernel) ⟨Nat.le_of_ble_eq_true rfl, Nat.le_of_ble_eq_true rfl⟩) rfl hl.1 rfl (Nat.le_of_ble_eq_true rfl) dX0_numberOf_35 (fun q35 i35 j35 H locs h w => ?_) ⟨Nat.zero_le _, Nat.zero_le _⟩
      refine lv_istore (lv' := [(5, .int q35), (4, .int q28), (0, .int x0), (1, .int x1), (2, .int x2), (3, .int x3)]) hx hb dX0_numberOf_38 hl (by decide) rfl (fun ls hl => ?_)
      refine lv_iload hx hb dX0_numberOf_40 (lv_at hl 1 rfl) ?_
      refine lv_iconst (v := (-1 : Int32)) hx hb dX0_numberOf_42 (by decide) ?_
      refine lv_icmp_eq (tgt := 52) hx hb dX0_numberOf_43 (by decide) (fun hc => ?_) (fun hc => ?_)
      · replace h := h.1 hc
        clear hc
        exact w_X0_numberOf_L52 C0 hr hlk (fun w hl h => ih w hl h) w (lv_sub hl [2, 3, 4, 5, 1, 0] rfl) h
      · replace h := h.2 hc
        clear hc
        refine lv_iload hx hb dX0_numberOf_46 (lv_at hl 0 rfl) ?_
        refine lv_iconst (v := (-1 : Int32)) hx hb dX0_numberOf_48 (by decide) ?_
        refine lv_icmp_ne (tgt := 56) hx hb dX0_numberOf_49 (by decide) (fun hc => ?_) (fun hc => ?_)
        · replace h := h.1 hc
          clear hc
          refine lv_iconst (v := (0 : Int32)) hx hb dX0_numberOf_56 (by decide) ?_
          exact w_X0_numberOf_L57 C0 hr hlk (fun w hl h => ih w hl h) w (lv_sub hl [2, 3, 4, 5, 1, 0] rfl) h
        · replace h := h.2 hc
          clear hc
          exact w_X0_numberOf_L52 C0 hr hlk (fun w hl h => ih w hl h) w (lv_sub hl [2, 3, 4, 5, 1, 0] rfl) h
set_option maxHeartbeats 4000000 in
set_option maxRecDepth 100000 in
theorem c_X0_numberOf (hG : jG n K r) {i : jI} {j : jL} {x0 : Int32} {x1 : Int32} (h : J_X0_numberOf len r Q i j x0 x1) : Met l yX0_numberOf wsX0_numberOf rm_X0_numberOf (va_Pc [.int x0, .int x1] (jPre b cy D tU n K len r i j)) (jQi b cy D tU n K len r Q) 0 0 (jA b) := by
  refine Met.ofW (cc := cX0_numberOf) (maxL := 7) (ret := (some .int)) (by decide) rfl ?_
  intro p e s m args below meth c s₁ B hml hv
  obtain ⟨rfl, hv⟩ := hv
  have C0 : jCx p s m _ c cX0_numberOf 7 wsX0_numberOf RX0 b cy D tU n K r := ⟨B.exec, B.bytes, hml, findClass_of_methodNamed B.named, atoms_spec (ws := wsX0_numberOf) B.pre, hv.2.2, hG⟩
  have hr := B.returns
  have hlk := B.notSynchronized
  obtain ⟨hx, hb, hml, hown, hts, hst, hG⟩ := id C0
  have w := jDy.start hv
  have hl := lv_entry ([.int x0, .int x1]) (n := 7) (Nat.le_of_ble_eq_true rfl)
  rw [lg_entry_eq]
  generalize (lg_sl ([.int x0, .int x1]) ++ List.replicate (7 - (lg_sl ([.int x0, .int x1])).length) Slot.unset).toArray = ls at hl ⊢
  replace hl : lv_has ls 7 [(0, .int x0), (1, .int x1)] := hl
  show W p l e rm_X0_numberOf s m _ below meth c s.heap [] 0 0 _ (F0 m 0 ls [])
  rw [J_X0_numberOf] at h
  refine lv_iload_n hx hb dX0_numberOf_0 rfl (lv_at hl 0 rfl) ?_
  refine jcS_i (As := [.int x0]) (rest := []) C0 w (c_X7_placeOf hG h) (va_cwS 1 hts gX0_numberOf_X7_placeOf rfl rfl rfl (by decide +kernel) ⟨Nat.le_of_ble_eq_true rfl, Nat.le_of_ble_eq_true rfl⟩) rfl hl.1 rfl (Nat.le_of_ble_eq_true rfl) dX0_numberOf_1 (fun q1 i1 j1 H locs h w => ?_) ⟨Nat.zero_le _, Nat.zero_le _⟩
  refine lv_iconst (v := (4 : Int32)) hx hb dX0_numberOf_4 (by decide) ?_
  refine lv_imul hx hb dX0_numberOf_5 ?_
  refine lv_iload_n hx hb dX0_numberOf_6 rfl (lv_at hl 0 rfl) ?_
  refine jcS_i (As := [.int x0]) (rest := [.int (q1 * (4 : Int32))]) C0 w (c_X7_footOf hG h) (va_cwS 1 hts gX0_numberOf_X7_footOf rfl rfl rfl (by decide +kernel) ⟨Nat.le_of_ble_eq_true rfl, Nat.le_of_ble_eq_true rfl⟩) rfl hl.1 rfl (Nat.le_of_ble_eq_true rfl) dX0_numberOf_7 (fun q7 i7 j7 H locs h w => ?_) ⟨Nat.zero_le _, Nat.zero_le _⟩
  refine lv_iconst (v := (2 : Int32)) hx hb dX0_numberOf_10 (by decide) ?_
  refine lv_imul hx hb dX0_numberOf_11 ?_
  refine lv_iadd hx hb dX0_numberOf_12 ?_
  refine lv_iload_n hx hb dX0_numberOf_13 rfl (lv_at hl 1 rfl) ?_
  refine jcS_i (As := [.int x1]) (rest := [.int ((q1 * (4 : Int32)) + (q7 * (2 : Int32)))]) C0 w (c_X7_footOf hG h) (va_cwS 1 hts gX0_numberOf_X7_footOf rfl rfl rfl (by decide +kernel) ⟨Nat.le_of_ble_eq_true rfl, Nat.le_of_ble_eq_true rfl⟩) rfl hl.1 rfl (Nat.le_of_ble_eq_true rfl) dX0_numberOf_14 (fun q14 i14 j14 H locs h w => ?_) ⟨Nat.zero_le _, Nat.zero_le _⟩
  refine lv_iadd hx hb dX0_numberOf_17 ?_
  refine lv_topi (fun v18 he => ?_)
  replace h := h v18 he
  clear he
  refine lv_istore_n (lv' := [(2, .int v18), (0, .int x0), (1, .int x1)]) hx hb dX0_numberOf_18 rfl hl (by decide) rfl (fun ls hl => ?_)
  refine lv_iconst (v := (0 : Int32)) hx hb dX0_numberOf_19 (by decide) ?_
  refine lv_istore_n (lv' := [(3, .int (0 : Int32)), (2, .int v18), (0, .int x0), (1, .int x1)]) hx hb dX0_numberOf_20 rfl hl (by decide) rfl (fun ls hl => ?_)
  obtain ⟨g0, h⟩ := h
  exact w_X0_numberOf_L21 C0 hr hlk g0 w (lv_sub hl [2, 3, 1, 0] rfl) h
end S_X0_numberOf
section S_X3_sit
def J_X3_sit (len : Nat → Nat) (r : jR) (Q : jI → jL → Prop) (i : jI) (j : jL) (x0 : Nat) (x1 : Int32) (x2 : Int32) : Prop := ∃ a1, r x0 1 = some a1 ∧ (vp_in x2 (len a1) ∧ ∀ i6 : jI, i6 = ju i a1 x2.toNatClampNeg x1 → (∃ a8, r x0 2 = some a8 ∧ (vp_in x1 (len a8) ∧ ∀ i13 : jI, i13 = ju i6 a8 x1.toNatClampNeg x2 → (Q i13 j))))
abbrev rm_X3_sit : Room := { frames := 0, cells := 0, slots := 0, locals := 0 }
variable {p : Program} {l : Launch} {e : Env} {s : State} {m : MethodId} {args : Array Value} {below : List Frame} {meth : Method} {c : Code} {b tU n : Nat} {cy : Nat → ClassId} {D : va_G} {K len : Nat → Nat} {r : jR} {Q : jI → jL → Prop}
theorem hiX3_X3_sit : ∀ w ∈ u_ws RX3 TX3 4, w ∈ wsX3_sit := by decide +kernel
set_option maxHeartbeats 4000000 in
set_option maxRecDepth 100000 in
theorem c_X3_sit (hG : jG n K r) {i : jI} {j : jL} {x0 : Nat} {x1 : Int32} {x2 : Int32} (hx0 : x0 < n ∧ K x0 = 3) (h : J_X3_sit len r Q i j x0 x1 x2) : Met l yX3_sit wsX3_sit rm_X3_sit (va_Pc [.ref (b + x0), .int x1, .int x2] (jPre b cy D tU n K len r i j)) (jQv b cy D tU n K len r Q) 0 0 (jA b) := by
  refine Met.ofW (cc := cX3_sit) (maxL := 3) (ret := none) (by decide) rfl ?_
  intro p e s m args below meth c s₁ B hml hv
  obtain ⟨rfl, hv⟩ := hv
  have C0 : jCx p s m _ c cX3_sit 3 wsX3_sit RX3 b cy D tU n K r := ⟨B.exec, B.bytes, hml, findClass_of_methodNamed B.named, atoms_spec (ws := wsX3_sit) B.pre, hv.2.2, hG⟩
  have hr := B.returns
  have hlk := B.notSynchronized
  obtain ⟨hx, hb, hml, hown, hts, hst, hG⟩ := id C0
  have hiX3 : ∀ w ∈ u_ws RX3 TX3 4, w ∈ wsX3_sit := hiX3_X3_sit
  have w := jDy.start hv
  have hl := lv_entry ([.ref (b + x0), .int x1, .int x2]) (n := 3) (Nat.le_of_ble_eq_true rfl)
  rw [lg_entry_eq]
  generalize (lg_sl ([.ref (b + x0), .int x1, .int x2]) ++ List.replicate (3 - (lg_sl ([.ref (b + x0), .int x1, .int x2])).length) Slot.unset).toArray = ls at hl ⊢
  replace hl : lv_has ls 3 [(0, .ref (b + x0)), (1, .int x1), (2, .int x2)] := hl
  show W p l e rm_X3_sit s m _ below meth c s.heap [] 0 0 _ (F0 m 0 ls [])
  rw [J_X3_sit] at h
  refine lv_aload_n hx hb dX3_sit_0 rfl (lv_at hl 0 rfl) ?_
  obtain ⟨a1, hr0, h⟩ := h
  refine jgr (f := 1) hx hb hts hown hst w hG hx0 hiX3 (rfl : vwCl[3]? = some (RX3, TX3, 4)) (hts (.fieldLink RX3 15 "FootByGate$Heap" "heap" "[I") (by decide +kernel)) ⟨by decide, by decide, rfl⟩ (rfl : jrt 3 1 = 13) dX3_sit_1 hr0 (fun ha1 => ?_)
  clear hr0
  refine lv_iload_n hx hb dX3_sit_4 rfl (lv_at hl 2 rfl) ?_
  refine lv_iload_n hx hb dX3_sit_5 rfl (lv_at hl 1 rfl) ?_
  obtain ⟨hn, h⟩ := h
  refine jais hx hb hst w ha1 hn dX3_sit_6 (fun i6 H locs he w => ?_)
  replace h := h i6 he
  clear he hn
  refine lv_aload_n hx hb dX3_sit_7 rfl (lv_at hl 0 rfl) ?_
  obtain ⟨a8, hr0, h⟩ := h
  refine jgr (f := 2) hx hb hts hown hst w hG hx0 hiX3 (rfl : vwCl[3]? = some (RX3, TX3, 4)) (hts (.fieldLink RX3 18 "FootByGate$Heap" "seat" "[I") (by decide +kernel)) ⟨by decide, by decide, rfl⟩ (rfl : jrt 3 2 = 13) dX3_sit_8 hr0 (fun ha8 => ?_)
  clear hr0
  refine lv_iload_n hx hb dX3_sit_11 rfl (lv_at hl 1 rfl) ?_
  refine lv_iload_n hx hb dX3_sit_12 rfl (lv_at hl 2 rfl) ?_
  obtain ⟨hn, h⟩ := h
  refine jais hx hb hst w ha8 hn dX3_sit_13 (fun i13 H locs he w => ?_)
  replace h := h i13 he
  clear he hn
  exact jret_v hx hb hr hlk hst w h dX3_sit_14
end S_X3_sit
section S_X3_offer
def J_X3_offer_L92 (len : Nat → Nat) (r : jR) (Q : jI → jL → Prop) (i : jI) (j : jL) (x0 : Nat) (x1 : Int32) (x3 : Int32) : Prop := J_X3_sit len r (fun (i95 : jI) (j95 : jL) => Q i95 j95) i j x0 x1 x3
def J_X3_offer_L45 (len : Nat → Nat) (r : jR) (Q : jI → jL → Prop) : Nat → jI → jL → Nat → Int32 → Int32 → Int32 → Prop
  | 0 => fun _ _ _ _ _ _ => False
  | g + 1 => fun i j x0 x1 x2 x3 => ((x3 ≤ 0) → (J_X3_offer_L92 len r Q i j x0 x1 x3)) ∧ ((¬ x3 ≤ 0) → (∃ a50, r x0 0 = some a50 ∧ (∃ a54, r x0 1 = some a54 ∧ (vp_in ((x3 - (1 : Int32)) / (2 : Int32)) (len a54) ∧ (vp_in (i a54 ((x3 - (1 : Int32)) / (2 : Int32)).toNatClampNeg) (len a50) ∧ ((((i a50 (i a54 ((x3 - (1 : Int32)) / (2 : Int32)).toNatClampNeg).toNatClampNeg) ≤ x2) → (J_X3_offer_L92 len r Q i j x0 x1 x3)) ∧ ((¬ (i a50 (i a54 ((x3 - (1 : Int32)) / (2 : Int32)).toNatClampNeg).toNatClampNeg) ≤ x2) → (∃ a70, r x0 1 = some a70 ∧ (vp_in ((x3 - (1 : Int32)) / (2 : Int32)) (len a70) ∧ (J_X3_sit len r (fun (i80 : jI) (j80 : jL) => ∀ v88 : Int32, v88 = (x3 - (1 : Int32)) / (2 : Int32) → ((J_X3_offer_L45 len r Q g) i80 j80 x0 x1 x2 v88)) i j x0 (i a70 ((x3 - (1 : Int32)) / (2 : Int32)).toNatClampNeg) x3))))))))))
def J_X3_offer (len : Nat → Nat) (r : jR) (Q : jI → jL → Prop) (i : jI) (j : jL) (x0 : Nat) (x1 : Int32) (x2 : Int32) : Prop := ∃ a2, r x0 0 = some a2 ∧ (vp_in x1 (len a2) ∧ (((x2 < (i a2 x1.toNatClampNeg)) → (∃ a12, r x0 0 = some a12 ∧ (vp_in x1 (len a12) ∧ ∀ i17 : jI, i17 = ju i a12 x1.toNatClampNeg x2 → (∃ a19, r x0 2 = some a19 ∧ (vp_in x1 (len a19) ∧ (∀ v24 : Int32, v24 = i17 a19 x1.toNatClampNeg → (((¬ v24 = (-1 : Int32)) → (∃ g0, J_X3_offer_L45 len r Q g0 i17 j x0 x1 x2 v24)) ∧ ((v24 = (-1 : Int32)) → (∀ v34 : Int32, v34 = i17 x0 3 → (∀ i42 : jI, i42 = ju i17 x0 3 ((i17 x0 3) + (1 : Int32)) → (∃ g0, J_X3_offer_L45 len r Q g0 i42 j x0 x1 x2 v34))))))))))) ∧ ((¬ x2 < (i a2 x1.toNatClampNeg)) → (Q i j))))
abbrev rm_X3_offer : Room := { frames := 1, cells := 0, slots := 0, locals := 22 }
variable {p : Program} {l : Launch} {e : Env} {s : State} {m : MethodId} {args : Array Value} {below : List Frame} {meth : Method} {c : Code} {b tU n : Nat} {cy : Nat → ClassId} {D : va_G} {K len : Nat → Nat} {r : jR} {Q : jI → jL → Prop}
theorem hiX3_X3_offer : ∀ w ∈ u_ws RX3 TX3 4, w ∈ wsX3_offer := by decide +kernel
set_option maxHeartbeats 4000000 in
set_option maxRecDepth 100000 in
theorem w_X3_offer_L92 (C0 : jCx p s m args c cX3_offer 4 wsX3_offer RX3 b cy D tU n K r) (hr : meth.sig.returnType = none) (hlk : meth.locks = false) {H : Heap} {locs : List Loc} {ls : Array Slot} {i : jI} {j : jL} {x0 : Nat} {x1 : Int32} {x3 : Int32} (w : jDy b cy D n K len r i j s H locs) (hx0 : x0 < n ∧ K x0 = 3) (hl : lv_has ls 4 [(0, .ref (b + x0)), (1, .int x1), (3, .int x3)]) (h : J_X3_offer_L92 len r Q i j x0 x1 x3) : W p l e rm_X3_offer s m args below meth c H locs 0 0 (MQ below (jQv b cy D tU n K len r Q) args s 0 0 (jA b)) (F0 m 92 ls []) := by
  obtain ⟨hx, hb, hml, hown, hts, hst, hG⟩ := id C0
  have hiX3 : ∀ w ∈ u_ws RX3 TX3 4, w ∈ wsX3_offer := hiX3_X3_offer
  rw [J_X3_offer_L92] at h
  refine lv_aload_n hx hb dX3_offer_92 rfl (lv_at hl 0 rfl) ?_
  refine lv_iload_n hx hb dX3_offer_93 rfl (lv_at hl 1 rfl) ?_
  refine lv_iload_n hx hb dX3_offer_94 rfl (lv_at hl 2 rfl) ?_
  refine jcV_v (k := x0) (As := [.int x1, .int x3]) (rest := []) C0 w (c_X3_sit hG hx0 h) (cwV 2 hts gX3_offer_X3_sit rfl rfl rfl (by decide +kernel) ⟨Nat.le_of_ble_eq_true rfl, Nat.le_of_ble_eq_true rfl⟩) hx0 (rfl : vwCl[3]? = some (RX3, TX3, 4)) (by decide) rfl hl.1 rfl (Nat.le_of_ble_eq_true rfl) dX3_offer_95 (fun i95 j95 H locs h w => ?_) ⟨Nat.zero_le _, Nat.zero_le _⟩
  exact jret_v hx hb hr hlk hst w h dX3_offer_98
set_option maxHeartbeats 4000000 in
set_option maxRecDepth 100000 in
theorem w_X3_offer_L45 (C0 : jCx p s m args c cX3_offer 4 wsX3_offer RX3 b cy D tU n K r) (hr : meth.sig.returnType = none) (hlk : meth.locks = false) : ∀ (g : Nat) {H : Heap} {locs : List Loc} {ls : Array Slot} {i : jI} {j : jL} {x0 : Nat} {x1 : Int32} {x2 : Int32} {x3 : Int32} (w : jDy b cy D n K len r i j s H locs) (hx0 : x0 < n ∧ K x0 = 3) (hl : lv_has ls 4 [(0, .ref (b + x0)), (1, .int x1), (2, .int x2), (3, .int x3)]) (h : J_X3_offer_L45 len r Q g i j x0 x1 x2 x3), W p l e rm_X3_offer s m args below meth c H locs 0 0 (MQ below (jQv b cy D tU n K len r Q) args s 0 0 (jA b)) (F0 m 45 ls []) := by
  obtain ⟨hx, hb, hml, hown, hts, hst, hG⟩ := id C0
  have hiX3 : ∀ w ∈ u_ws RX3 TX3 4, w ∈ wsX3_offer := hiX3_X3_offer
  intro g
  induction g with
  | zero => intro H locs ls i j x0 x1 x2 x3 w hx0 hl h; exact False.elim h
  | succ g ih =>
    intro H locs ls i j x0 x1 x2 x3 w hx0 hl h
    rw [J_X3_offer_L45] at h
    refine lv_iload_n hx hb dX3_offer_45 rfl (lv_at hl 3 rfl) ?_
    refine lv_if_le (tgt := 92) hx hb dX3_offer_46 (by decide) (fun hc => ?_) (fun hc => ?_)
    · replace h := h.1 hc
      clear hc
      exact w_X3_offer_L92 C0 hr hlk w hx0 (lv_sub hl [0, 1, 3] rfl) h
    · replace h := h.2 hc
      clear hc
      refine lv_aload_n hx hb dX3_offer_49 rfl (lv_at hl 0 rfl) ?_
      obtain ⟨a50, hr0, h⟩ := h
      refine jgr (f := 0) hx hb hts hown hst w hG hx0 hiX3 (rfl : vwCl[3]? = some (RX3, TX3, 4)) (hts (.fieldLink RX3 9 "FootByGate$Heap" "least" "[I") (by decide +kernel)) ⟨by decide, by decide, rfl⟩ (rfl : jrt 3 0 = 13) dX3_offer_50 hr0 (fun ha50 => ?_)
      clear hr0
      refine lv_aload_n hx hb dX3_offer_53 rfl (lv_at hl 0 rfl) ?_
      obtain ⟨a54, hr0, h⟩ := h
      refine jgr (f := 1) hx hb hts hown hst w hG hx0 hiX3 (rfl : vwCl[3]? = some (RX3, TX3, 4)) (hts (.fieldLink RX3 15 "FootByGate$Heap" "heap" "[I") (by decide +kernel)) ⟨by decide, by decide, rfl⟩ (rfl : jrt 3 1 = 13) dX3_offer_54 hr0 (fun ha54 => ?_)
      clear hr0
      refine lv_iload_n hx hb dX3_offer_57 rfl (lv_at hl 3 rfl) ?_
      refine lv_iconst (v := (1 : Int32)) hx hb dX3_offer_58 (by decide) ?_
      refine lv_isub hx hb dX3_offer_59 ?_
      refine lv_iconst (v := (2 : Int32)) hx hb dX3_offer_60 (by decide) ?_
      refine lv_idiv hx hb dX3_offer_61 (by decide) ?_
      obtain ⟨hn, h⟩ := h
      refine jaid hx hb hst w ha54 hn dX3_offer_62 ?_
      clear hn
      obtain ⟨hn, h⟩ := h
      refine jaid hx hb hst w ha50 hn dX3_offer_63 ?_
      clear hn
      refine lv_iload_n hx hb dX3_offer_64 rfl (lv_at hl 2 rfl) ?_
      refine lv_icmp_le (tgt := 92) hx hb dX3_offer_65 (by decide) (fun hc => ?_) (fun hc => ?_)
      · replace h := h.1 hc
        clear hc
        exact w_X3_offer_L92 C0 hr hlk w hx0 (lv_sub hl [0, 1, 3] rfl) h
      · replace h := h.2 hc
        clear hc
        refine lv_aload_n hx hb dX3_offer_68 rfl (lv_at hl 0 rfl) ?_
        refine lv_aload_n hx hb dX3_offer_69 rfl (lv_at hl 0 rfl) ?_
        obtain ⟨a70, hr0, h⟩ := h
        refine jgr (f := 1) hx hb hts hown hst w hG hx0 hiX3 (rfl : vwCl[3]? = some (RX3, TX3, 4)) (hts (.fieldLink RX3 15 "FootByGate$Heap" "heap" "[I") (by decide +kernel)) ⟨by decide, by decide, rfl⟩ (rfl : jrt 3 1 = 13) dX3_offer_70 hr0 (fun ha70 => ?_)
        clear hr0
        refine lv_iload_n hx hb dX3_offer_73 rfl (lv_at hl 3 rfl) ?_
        refine lv_iconst (v := (1 : Int32)) hx hb dX3_offer_74 (by decide) ?_
        refine lv_isub hx hb dX3_offer_75 ?_
        refine lv_iconst (v := (2 : Int32)) hx hb dX3_offer_76 (by decide) ?_
        refine lv_idiv hx hb dX3_offer_77 (by decide) ?_
        obtain ⟨hn, h⟩ := h
        refine jaid hx hb hst w ha70 hn dX3_offer_78 ?_
        clear hn
        refine lv_iload_n hx hb dX3_offer_79 rfl (lv_at hl 3 rfl) ?_
        refine jcV_v (k := x0) (As := [.int (i a70 ((x3 - (1 : Int32)) / (2 : Int32)).toNatClampNeg), .int x3]) (rest := []) C0 w (c_X3_sit hG hx0 h) (cwV 2 hts gX3_offer_X3_sit rfl rfl rfl (by decide +kernel) ⟨Nat.le_of_ble_eq_true rfl, Nat.le_of_ble_eq_true rfl⟩) hx0 (rfl : vwCl[3]? = some (RX3, TX3, 4)) (by decide) rfl hl.1 rfl (Nat.le_of_ble_eq_true rfl) dX3_offer_80 (fun i80 j80 H locs h w => ?_) ⟨Nat.zero_le _, Nat.zero_le _⟩
        refine lv_iload_n hx hb dX3_offer_83 rfl (lv_at hl 3 rfl) ?_
        refine lv_iconst (v := (1 : Int32)) hx hb dX3_offer_84 (by decide) ?_
        refine lv_isub hx hb dX3_offer_85 ?_
        refine lv_iconst (v := (2 : Int32)) hx hb dX3_offer_86 (by decide) ?_
        refine lv_idiv hx hb dX3_offer_87 (by decide) ?_
        refine lv_topi (fun v88 he => ?_)
        replace h := h v88 he
        clear he
        refine lv_istore_n (lv' := [(3, .int v88), (0, .ref (b + x0)), (1, .int x1), (2, .int x2)]) hx hb dX3_offer_88 rfl hl (by decide) rfl (fun ls hl => ?_)
        refine lv_goto (tgt := 45) hx hb dX3_offer_89 (by decide) ?_
        exact ih w hx0 (lv_sub hl [1, 2, 3, 0] rfl) h
set_option maxHeartbeats 4000000 in
set_option maxRecDepth 100000 in
theorem c_X3_offer (hG : jG n K r) {i : jI} {j : jL} {x0 : Nat} {x1 : Int32} {x2 : Int32} (hx0 : x0 < n ∧ K x0 = 3) (h : J_X3_offer len r Q i j x0 x1 x2) : Met l yX3_offer wsX3_offer rm_X3_offer (va_Pc [.ref (b + x0), .int x1, .int x2] (jPre b cy D tU n K len r i j)) (jQv b cy D tU n K len r Q) 0 0 (jA b) := by
  refine Met.ofW (cc := cX3_offer) (maxL := 4) (ret := none) (by decide) rfl ?_
  intro p e s m args below meth c s₁ B hml hv
  obtain ⟨rfl, hv⟩ := hv
  have C0 : jCx p s m _ c cX3_offer 4 wsX3_offer RX3 b cy D tU n K r := ⟨B.exec, B.bytes, hml, findClass_of_methodNamed B.named, atoms_spec (ws := wsX3_offer) B.pre, hv.2.2, hG⟩
  have hr := B.returns
  have hlk := B.notSynchronized
  obtain ⟨hx, hb, hml, hown, hts, hst, hG⟩ := id C0
  have hiX3 : ∀ w ∈ u_ws RX3 TX3 4, w ∈ wsX3_offer := hiX3_X3_offer
  have w := jDy.start hv
  have hl := lv_entry ([.ref (b + x0), .int x1, .int x2]) (n := 4) (Nat.le_of_ble_eq_true rfl)
  rw [lg_entry_eq]
  generalize (lg_sl ([.ref (b + x0), .int x1, .int x2]) ++ List.replicate (4 - (lg_sl ([.ref (b + x0), .int x1, .int x2])).length) Slot.unset).toArray = ls at hl ⊢
  replace hl : lv_has ls 4 [(0, .ref (b + x0)), (1, .int x1), (2, .int x2)] := hl
  show W p l e rm_X3_offer s m _ below meth c s.heap [] 0 0 _ (F0 m 0 ls [])
  rw [J_X3_offer] at h
  refine lv_iload_n hx hb dX3_offer_0 rfl (lv_at hl 2 rfl) ?_
  refine lv_aload_n hx hb dX3_offer_1 rfl (lv_at hl 0 rfl) ?_
  obtain ⟨a2, hr0, h⟩ := h
  refine jgr (f := 0) hx hb hts hown hst w hG hx0 hiX3 (rfl : vwCl[3]? = some (RX3, TX3, 4)) (hts (.fieldLink RX3 9 "FootByGate$Heap" "least" "[I") (by decide +kernel)) ⟨by decide, by decide, rfl⟩ (rfl : jrt 3 0 = 13) dX3_offer_2 hr0 (fun ha2 => ?_)
  clear hr0
  refine lv_iload_n hx hb dX3_offer_5 rfl (lv_at hl 1 rfl) ?_
  obtain ⟨hn, h⟩ := h
  refine jaid hx hb hst w ha2 hn dX3_offer_6 ?_
  clear hn
  refine lv_icmp_lt (tgt := 11) hx hb dX3_offer_7 (by decide) (fun hc => ?_) (fun hc => ?_)
  · replace h := h.1 hc
    clear hc
    refine lv_aload_n hx hb dX3_offer_11 rfl (lv_at hl 0 rfl) ?_
    obtain ⟨a12, hr0, h⟩ := h
    refine jgr (f := 0) hx hb hts hown hst w hG hx0 hiX3 (rfl : vwCl[3]? = some (RX3, TX3, 4)) (hts (.fieldLink RX3 9 "FootByGate$Heap" "least" "[I") (by decide +kernel)) ⟨by decide, by decide, rfl⟩ (rfl : jrt 3 0 = 13) dX3_offer_12 hr0 (fun ha12 => ?_)
    clear hr0
    refine lv_iload_n hx hb dX3_offer_15 rfl (lv_at hl 1 rfl) ?_
    refine lv_iload_n hx hb dX3_offer_16 rfl (lv_at hl 2 rfl) ?_
    obtain ⟨hn, h⟩ := h
    refine jais hx hb hst w ha12 hn dX3_offer_17 (fun i17 H locs he w => ?_)
    replace h := h i17 he
    clear he hn
    refine lv_aload_n hx hb dX3_offer_18 rfl (lv_at hl 0 rfl) ?_
    obtain ⟨a19, hr0, h⟩ := h
    refine jgr (f := 2) hx hb hts hown hst w hG hx0 hiX3 (rfl : vwCl[3]? = some (RX3, TX3, 4)) (hts (.fieldLink RX3 18 "FootByGate$Heap" "seat" "[I") (by decide +kernel)) ⟨by decide, by decide, rfl⟩ (rfl : jrt 3 2 = 13) dX3_offer_19 hr0 (fun ha19 => ?_)
    clear hr0
    refine lv_iload_n hx hb dX3_offer_22 rfl (lv_at hl 1 rfl) ?_
    obtain ⟨hn, h⟩ := h
    refine jaid hx hb hst w ha19 hn dX3_offer_23 ?_
    clear hn
    refine lv_topi (fun v24 he => ?_)
    replace h := h v24 he
    clear he
    refine lv_istore_n (lv' := [(3, .int v24), (0, .ref (b + x0)), (1, .int x1), (2, .int x2)]) hx hb dX3_offer_24 rfl hl (by decide) rfl (fun ls hl => ?_)
    refine lv_iload_n hx hb dX3_offer_25 rfl (lv_at hl 0 rfl) ?_
    refine lv_iconst (v := (-1 : Int32)) hx hb dX3_offer_26 (by decide) ?_
    refine lv_icmp_ne (tgt := 45) hx hb dX3_offer_27 (by decide) (fun hc => ?_) (fun hc => ?_)
    · replace h := h.1 hc
      clear hc
      obtain ⟨g0, h⟩ := h
      exact w_X3_offer_L45 C0 hr hlk g0 w hx0 (lv_sub hl [1, 2, 3, 0] rfl) h
    · replace h := h.2 hc
      clear hc
      refine lv_aload_n hx hb dX3_offer_30 rfl (lv_at hl 1 rfl) ?_
      refine jgi (f := 3) hx hb hts hown hst w hx0 hiX3 (rfl : vwCl[3]? = some (RX3, TX3, 4)) (hts (.fieldLink RX3 28 "FootByGate$Heap" "size" "I") (by decide +kernel)) ⟨by decide, by decide, rfl⟩ dX3_offer_31 ?_
      refine lv_topi (fun v34 he => ?_)
      replace h := h v34 he
      clear he
      refine lv_istore_n (lv' := [(3, .int v34), (0, .ref (b + x0)), (1, .int x1), (2, .int x2)]) hx hb dX3_offer_34 rfl hl (by decide) rfl (fun ls hl => ?_)
      refine lv_aload_n hx hb dX3_offer_35 rfl (lv_at hl 1 rfl) ?_
      refine lv_dup hx hb dX3_offer_36 rfl ?_
      refine jgi (f := 3) hx hb hts hown hst w hx0 hiX3 (rfl : vwCl[3]? = some (RX3, TX3, 4)) (hts (.fieldLink RX3 28 "FootByGate$Heap" "size" "I") (by decide +kernel)) ⟨by decide, by decide, rfl⟩ dX3_offer_37 ?_
      refine lv_iconst (v := (1 : Int32)) hx hb dX3_offer_40 (by decide) ?_
      refine lv_iadd hx hb dX3_offer_41 ?_
      refine jpi (f := 3) hx hb hts hown hst w hx0 hiX3 (rfl : vwCl[3]? = some (RX3, TX3, 4)) (hts (.fieldLink RX3 28 "FootByGate$Heap" "size" "I") (by decide +kernel)) ⟨by decide, by decide, rfl⟩ tyX3 tyX3_ok nmX3 rfl ⟨rfl, rfl⟩ dX3_offer_42 (fun i42 H locs he w => ?_)
      replace h := h i42 he
      clear he
      obtain ⟨g0, h⟩ := h
      exact w_X3_offer_L45 C0 hr hlk g0 w hx0 (lv_sub hl [1, 2, 3, 0] rfl) h
  · replace h := h.2 hc
    clear hc
    exact jret_v hx hb hr hlk hst w h dX3_offer_10
end S_X3_offer
section S_X0_offer
def J_X0_offer (len : Nat → Nat) (r : jR) (Q : jI → jL → Prop) (i : jI) (j : jL) (x0 : Nat) (x1 : Int32) (x2 : Int32) (x3 : Int32) : Prop := J_X0_numberOf len r (fun (q2 : Int32) (i2 : jI) (j2 : jL) => ∃ a8, r x0 1 = some a8 ∧ (vp_in q2 (len a8) ∧ ∀ i20 : jI, i20 = ju i2 a8 q2.toNatClampNeg ((x1 * (896 : Int32)) + x2) → (∃ a22, r x0 0 = some a22 ∧ (J_X3_offer len r (fun (i28 : jI) (j28 : jL) => Q i28 j28) i20 j2 a22 q2 x3)))) i j x1 x2
abbrev rm_X0_offer : Room := { frames := 2, cells := 0, slots := 0, locals := 47 }
variable {p : Program} {l : Launch} {e : Env} {s : State} {m : MethodId} {args : Array Value} {below : List Frame} {meth : Method} {c : Code} {b tU n : Nat} {cy : Nat → ClassId} {D : va_G} {K len : Nat → Nat} {r : jR} {Q : jI → jL → Prop}
theorem hiX0_X0_offer : ∀ w ∈ u_ws RX0 TX0 2, w ∈ wsX0_offer := by decide +kernel
set_option maxHeartbeats 4000000 in
set_option maxRecDepth 100000 in
theorem c_X0_offer (hG : jG n K r) {i : jI} {j : jL} {x0 : Nat} {x1 : Int32} {x2 : Int32} {x3 : Int32} (hx0 : x0 < n ∧ K x0 = 0) (h : J_X0_offer len r Q i j x0 x1 x2 x3) : Met l yX0_offer wsX0_offer rm_X0_offer (va_Pc [.ref (b + x0), .int x1, .int x2, .int x3] (jPre b cy D tU n K len r i j)) (jQv b cy D tU n K len r Q) 0 0 (jA b) := by
  refine Met.ofW (cc := cX0_offer) (maxL := 5) (ret := none) (by decide) rfl ?_
  intro p e s m args below meth c s₁ B hml hv
  obtain ⟨rfl, hv⟩ := hv
  have C0 : jCx p s m _ c cX0_offer 5 wsX0_offer RX0 b cy D tU n K r := ⟨B.exec, B.bytes, hml, findClass_of_methodNamed B.named, atoms_spec (ws := wsX0_offer) B.pre, hv.2.2, hG⟩
  have hr := B.returns
  have hlk := B.notSynchronized
  obtain ⟨hx, hb, hml, hown, hts, hst, hG⟩ := id C0
  have hiX0 : ∀ w ∈ u_ws RX0 TX0 2, w ∈ wsX0_offer := hiX0_X0_offer
  have w := jDy.start hv
  have hl := lv_entry ([.ref (b + x0), .int x1, .int x2, .int x3]) (n := 5) (Nat.le_of_ble_eq_true rfl)
  rw [lg_entry_eq]
  generalize (lg_sl ([.ref (b + x0), .int x1, .int x2, .int x3]) ++ List.replicate (5 - (lg_sl ([.ref (b + x0), .int x1, .int x2, .int x3])).length) Slot.unset).toArray = ls at hl ⊢
  replace hl : lv_has ls 5 [(0, .ref (b + x0)), (1, .int x1), (2, .int x2), (3, .int x3)] := hl
  show W p l e rm_X0_offer s m _ below meth c s.heap [] 0 0 _ (F0 m 0 ls [])
  rw [J_X0_offer] at h
  refine lv_iload_n hx hb dX0_offer_0 rfl (lv_at hl 1 rfl) ?_
  refine lv_iload_n hx hb dX0_offer_1 rfl (lv_at hl 2 rfl) ?_
  refine jcS_i (As := [.int x1, .int x2]) (rest := []) C0 w (c_X0_numberOf hG h) (va_cwS 2 hts gX0_offer_X0_numberOf rfl rfl rfl (by decide +kernel) ⟨Nat.le_of_ble_eq_true rfl, Nat.le_of_ble_eq_true rfl⟩) rfl hl.1 rfl (Nat.le_of_ble_eq_true rfl) dX0_offer_2 (fun q2 i2 j2 H locs h w => ?_) ⟨Nat.zero_le _, Nat.zero_le _⟩
  refine lv_istore (lv' := [(4, .int q2), (0, .ref (b + x0)), (1, .int x1), (2, .int x2), (3, .int x3)]) hx hb dX0_offer_5 hl (by decide) rfl (fun ls hl => ?_)
  refine lv_aload_n hx hb dX0_offer_7 rfl (lv_at hl 1 rfl) ?_
  obtain ⟨a8, hr0, h⟩ := h
  refine jgr (f := 1) hx hb hts hown hst w hG hx0 hiX0 (rfl : vwCl[0]? = some (RX0, TX0, 2)) (hts (.fieldLink RX0 20 "FootByGate$Arms" "stands" "[I") (by decide +kernel)) ⟨by decide, by decide, rfl⟩ (rfl : jrt 0 1 = 13) dX0_offer_8 hr0 (fun ha8 => ?_)
  clear hr0
  refine lv_iload hx hb dX0_offer_11 (lv_at hl 0 rfl) ?_
  refine lv_iload_n hx hb dX0_offer_13 rfl (lv_at hl 2 rfl) ?_
  refine lv_sipush (v := (896 : Int32)) hx hb dX0_offer_14 (by decide) ?_
  refine lv_imul hx hb dX0_offer_17 ?_
  refine lv_iload_n hx hb dX0_offer_18 rfl (lv_at hl 3 rfl) ?_
  refine lv_iadd hx hb dX0_offer_19 ?_
  obtain ⟨hn, h⟩ := h
  refine jais hx hb hst w ha8 hn dX0_offer_20 (fun i20 H locs he w => ?_)
  replace h := h i20 he
  clear he hn
  refine lv_aload_n hx hb dX0_offer_21 rfl (lv_at hl 1 rfl) ?_
  obtain ⟨a22, hr0, h⟩ := h
  refine jgr (f := 0) hx hb hts hown hst w hG hx0 hiX0 (rfl : vwCl[0]? = some (RX0, TX0, 2)) (hts (.fieldLink RX0 16 "FootByGate$Arms" "heap" "LFootByGate$Heap;") (by decide +kernel)) ⟨by decide, by decide, rfl⟩ (rfl : jrt 0 0 = 3) dX0_offer_22 hr0 (fun ha22 => ?_)
  clear hr0
  refine lv_iload hx hb dX0_offer_25 (lv_at hl 0 rfl) ?_
  refine lv_iload_n hx hb dX0_offer_27 rfl (lv_at hl 4 rfl) ?_
  refine jcV_v (k := a22) (As := [.int q2, .int x3]) (rest := []) C0 w (c_X3_offer hG ha22 h) (cwV 2 hts gX0_offer_X3_offer rfl rfl rfl (by decide +kernel) ⟨Nat.le_of_ble_eq_true rfl, Nat.le_of_ble_eq_true rfl⟩) ha22 (rfl : vwCl[3]? = some (RX3, TX3, 4)) (by decide) rfl hl.1 rfl (Nat.le_of_ble_eq_true rfl) dX0_offer_28 (fun i28 j28 H locs h w => ?_) ⟨Nat.zero_le _, Nat.zero_le _⟩
  exact jret_v hx hb hr hlk hst w h dX0_offer_31
end S_X0_offer
section S_X3_costOf
def J_X3_costOf (len : Nat → Nat) (r : jR) (Q : Int32 → jI → jL → Prop) (i : jI) (j : jL) (x0 : Nat) (x1 : Int32) : Prop := ∃ a1, r x0 0 = some a1 ∧ (vp_in x1 (len a1) ∧ (Q (i a1 x1.toNatClampNeg) i j))
abbrev rm_X3_costOf : Room := { frames := 0, cells := 0, slots := 0, locals := 0 }
variable {p : Program} {l : Launch} {e : Env} {s : State} {m : MethodId} {args : Array Value} {below : List Frame} {meth : Method} {c : Code} {b tU n : Nat} {cy : Nat → ClassId} {D : va_G} {K len : Nat → Nat} {r : jR} {Q : Int32 → jI → jL → Prop}
theorem hiX3_X3_costOf : ∀ w ∈ u_ws RX3 TX3 4, w ∈ wsX3_costOf := by decide +kernel
set_option maxHeartbeats 4000000 in
set_option maxRecDepth 100000 in
theorem c_X3_costOf (hG : jG n K r) {i : jI} {j : jL} {x0 : Nat} {x1 : Int32} (hx0 : x0 < n ∧ K x0 = 3) (h : J_X3_costOf len r Q i j x0 x1) : Met l yX3_costOf wsX3_costOf rm_X3_costOf (va_Pc [.ref (b + x0), .int x1] (jPre b cy D tU n K len r i j)) (jQi b cy D tU n K len r Q) 0 0 (jA b) := by
  refine Met.ofW (cc := cX3_costOf) (maxL := 2) (ret := (some .int)) (by decide) rfl ?_
  intro p e s m args below meth c s₁ B hml hv
  obtain ⟨rfl, hv⟩ := hv
  have C0 : jCx p s m _ c cX3_costOf 2 wsX3_costOf RX3 b cy D tU n K r := ⟨B.exec, B.bytes, hml, findClass_of_methodNamed B.named, atoms_spec (ws := wsX3_costOf) B.pre, hv.2.2, hG⟩
  have hr := B.returns
  have hlk := B.notSynchronized
  obtain ⟨hx, hb, hml, hown, hts, hst, hG⟩ := id C0
  have hiX3 : ∀ w ∈ u_ws RX3 TX3 4, w ∈ wsX3_costOf := hiX3_X3_costOf
  have w := jDy.start hv
  have hl := lv_entry ([.ref (b + x0), .int x1]) (n := 2) (Nat.le_of_ble_eq_true rfl)
  rw [lg_entry_eq]
  generalize (lg_sl ([.ref (b + x0), .int x1]) ++ List.replicate (2 - (lg_sl ([.ref (b + x0), .int x1])).length) Slot.unset).toArray = ls at hl ⊢
  replace hl : lv_has ls 2 [(0, .ref (b + x0)), (1, .int x1)] := hl
  show W p l e rm_X3_costOf s m _ below meth c s.heap [] 0 0 _ (F0 m 0 ls [])
  rw [J_X3_costOf] at h
  refine lv_aload_n hx hb dX3_costOf_0 rfl (lv_at hl 0 rfl) ?_
  obtain ⟨a1, hr0, h⟩ := h
  refine jgr (f := 0) hx hb hts hown hst w hG hx0 hiX3 (rfl : vwCl[3]? = some (RX3, TX3, 4)) (hts (.fieldLink RX3 9 "FootByGate$Heap" "least" "[I") (by decide +kernel)) ⟨by decide, by decide, rfl⟩ (rfl : jrt 3 0 = 13) dX3_costOf_1 hr0 (fun ha1 => ?_)
  clear hr0
  refine lv_iload_n hx hb dX3_costOf_4 rfl (lv_at hl 1 rfl) ?_
  obtain ⟨hn, h⟩ := h
  refine jaid hx hb hst w ha1 hn dX3_costOf_5 ?_
  clear hn
  exact jret_i hx hb hr hlk hst w h dX3_costOf_6
end S_X3_costOf
section S_X7_marked
def J_X7_marked (len : Nat → Nat) (r : jR) (Q : Int32 → jI → jL → Prop) (i : jI) (j : jL) (x0 : Int32) (x1 : Int32) (x2 : Int32) : Prop := Q ((x0 &&& (((3 : Int32) <<< (((2 : Int32) * x1) &&& 31)) ^^^ (-1 : Int32))) ||| ((x2 + (1 : Int32)) <<< (((2 : Int32) * x1) &&& 31))) i j
abbrev rm_X7_marked : Room := { frames := 0, cells := 0, slots := 0, locals := 0 }
variable {p : Program} {l : Launch} {e : Env} {s : State} {m : MethodId} {args : Array Value} {below : List Frame} {meth : Method} {c : Code} {b tU n : Nat} {cy : Nat → ClassId} {D : va_G} {K len : Nat → Nat} {r : jR} {Q : Int32 → jI → jL → Prop}
set_option maxHeartbeats 4000000 in
set_option maxRecDepth 100000 in
theorem c_X7_marked (hG : jG n K r) {i : jI} {j : jL} {x0 : Int32} {x1 : Int32} {x2 : Int32} (h : J_X7_marked len r Q i j x0 x1 x2) : Met l yX7_marked wsX7_marked rm_X7_marked (va_Pc [.int x0, .int x1, .int x2] (jPre b cy D tU n K len r i j)) (jQi b cy D tU n K len r Q) 0 0 (jA b) := by
  refine Met.ofW (cc := cX7_marked) (maxL := 3) (ret := (some .int)) (by decide) rfl ?_
  intro p e s m args below meth c s₁ B hml hv
  obtain ⟨rfl, hv⟩ := hv
  have C0 : jCx p s m _ c cX7_marked 3 wsX7_marked RX7 b cy D tU n K r := ⟨B.exec, B.bytes, hml, findClass_of_methodNamed B.named, atoms_spec (ws := wsX7_marked) B.pre, hv.2.2, hG⟩
  have hr := B.returns
  have hlk := B.notSynchronized
  obtain ⟨hx, hb, hml, hown, hts, hst, hG⟩ := id C0
  have w := jDy.start hv
  have hl := lv_entry ([.int x0, .int x1, .int x2]) (n := 3) (Nat.le_of_ble_eq_true rfl)
  rw [lg_entry_eq]
  generalize (lg_sl ([.int x0, .int x1, .int x2]) ++ List.replicate (3 - (lg_sl ([.int x0, .int x1, .int x2])).length) Slot.unset).toArray = ls at hl ⊢
  replace hl : lv_has ls 3 [(0, .int x0), (1, .int x1), (2, .int x2)] := hl
  show W p l e rm_X7_marked s m _ below meth c s.heap [] 0 0 _ (F0 m 0 ls [])
  rw [J_X7_marked] at h
  refine lv_iload_n hx hb dX7_marked_0 rfl (lv_at hl 0 rfl) ?_
  refine lv_iconst (v := (3 : Int32)) hx hb dX7_marked_1 (by decide) ?_
  refine lv_iconst (v := (2 : Int32)) hx hb dX7_marked_2 (by decide) ?_
  refine lv_iload_n hx hb dX7_marked_3 rfl (lv_at hl 1 rfl) ?_
  refine lv_imul hx hb dX7_marked_4 ?_
  refine lv_ishl hx hb dX7_marked_5 ?_
  refine lv_iconst (v := (-1 : Int32)) hx hb dX7_marked_6 (by decide) ?_
  refine lv_ixor hx hb dX7_marked_7 ?_
  refine lv_iand hx hb dX7_marked_8 ?_
  refine lv_iload_n hx hb dX7_marked_9 rfl (lv_at hl 2 rfl) ?_
  refine lv_iconst (v := (1 : Int32)) hx hb dX7_marked_10 (by decide) ?_
  refine lv_iadd hx hb dX7_marked_11 ?_
  refine lv_iconst (v := (2 : Int32)) hx hb dX7_marked_12 (by decide) ?_
  refine lv_iload_n hx hb dX7_marked_13 rfl (lv_at hl 1 rfl) ?_
  refine lv_imul hx hb dX7_marked_14 ?_
  refine lv_ishl hx hb dX7_marked_15 ?_
  refine lv_ior hx hb dX7_marked_16 ?_
  exact jret_i hx hb hr hlk hst w h dX7_marked_17
end S_X7_marked
section S_X7_marksOf
def J_X7_marksOf (len : Nat → Nat) (r : jR) (Q : Int32 → jI → jL → Prop) (i : jI) (j : jL) (x0 : Int32) : Prop := Q (x0 &&& (63 : Int32)) i j
abbrev rm_X7_marksOf : Room := { frames := 0, cells := 0, slots := 0, locals := 0 }
variable {p : Program} {l : Launch} {e : Env} {s : State} {m : MethodId} {args : Array Value} {below : List Frame} {meth : Method} {c : Code} {b tU n : Nat} {cy : Nat → ClassId} {D : va_G} {K len : Nat → Nat} {r : jR} {Q : Int32 → jI → jL → Prop}
set_option maxHeartbeats 4000000 in
set_option maxRecDepth 100000 in
theorem c_X7_marksOf (hG : jG n K r) {i : jI} {j : jL} {x0 : Int32} (h : J_X7_marksOf len r Q i j x0) : Met l yX7_marksOf wsX7_marksOf rm_X7_marksOf (va_Pc [.int x0] (jPre b cy D tU n K len r i j)) (jQi b cy D tU n K len r Q) 0 0 (jA b) := by
  refine Met.ofW (cc := cX7_marksOf) (maxL := 1) (ret := (some .int)) (by decide) rfl ?_
  intro p e s m args below meth c s₁ B hml hv
  obtain ⟨rfl, hv⟩ := hv
  have C0 : jCx p s m _ c cX7_marksOf 1 wsX7_marksOf RX7 b cy D tU n K r := ⟨B.exec, B.bytes, hml, findClass_of_methodNamed B.named, atoms_spec (ws := wsX7_marksOf) B.pre, hv.2.2, hG⟩
  have hr := B.returns
  have hlk := B.notSynchronized
  obtain ⟨hx, hb, hml, hown, hts, hst, hG⟩ := id C0
  have w := jDy.start hv
  have hl := lv_entry ([.int x0]) (n := 1) (Nat.le_of_ble_eq_true rfl)
  rw [lg_entry_eq]
  generalize (lg_sl ([.int x0]) ++ List.replicate (1 - (lg_sl ([.int x0])).length) Slot.unset).toArray = ls at hl ⊢
  replace hl : lv_has ls 1 [(0, .int x0)] := hl
  show W p l e rm_X7_marksOf s m _ below meth c s.heap [] 0 0 _ (F0 m 0 ls [])
  rw [J_X7_marksOf] at h
  refine lv_iload_n hx hb dX7_marksOf_0 rfl (lv_at hl 0 rfl) ?_
  refine lv_bipush (v := (63 : Int32)) hx hb dX7_marksOf_1 (by decide) ?_
  refine lv_iand hx hb dX7_marksOf_3 ?_
  exact jret_i hx hb hr hlk hst w h dX7_marksOf_4
end S_X7_marksOf
section S_X7_of
def J_X7_of (len : Nat → Nat) (r : jR) (Q : Int32 → jI → jL → Prop) (i : jI) (j : jL) (x0 : Int32) (x1 : Int32) (x2 : Int32) : Prop := Q ((((x0 * (2 : Int32)) + x1) * (64 : Int32)) + x2) i j
abbrev rm_X7_of : Room := { frames := 0, cells := 0, slots := 0, locals := 0 }
variable {p : Program} {l : Launch} {e : Env} {s : State} {m : MethodId} {args : Array Value} {below : List Frame} {meth : Method} {c : Code} {b tU n : Nat} {cy : Nat → ClassId} {D : va_G} {K len : Nat → Nat} {r : jR} {Q : Int32 → jI → jL → Prop}
set_option maxHeartbeats 4000000 in
set_option maxRecDepth 100000 in
theorem c_X7_of (hG : jG n K r) {i : jI} {j : jL} {x0 : Int32} {x1 : Int32} {x2 : Int32} (h : J_X7_of len r Q i j x0 x1 x2) : Met l yX7_of wsX7_of rm_X7_of (va_Pc [.int x0, .int x1, .int x2] (jPre b cy D tU n K len r i j)) (jQi b cy D tU n K len r Q) 0 0 (jA b) := by
  refine Met.ofW (cc := cX7_of) (maxL := 3) (ret := (some .int)) (by decide) rfl ?_
  intro p e s m args below meth c s₁ B hml hv
  obtain ⟨rfl, hv⟩ := hv
  have C0 : jCx p s m _ c cX7_of 3 wsX7_of RX7 b cy D tU n K r := ⟨B.exec, B.bytes, hml, findClass_of_methodNamed B.named, atoms_spec (ws := wsX7_of) B.pre, hv.2.2, hG⟩
  have hr := B.returns
  have hlk := B.notSynchronized
  obtain ⟨hx, hb, hml, hown, hts, hst, hG⟩ := id C0
  have w := jDy.start hv
  have hl := lv_entry ([.int x0, .int x1, .int x2]) (n := 3) (Nat.le_of_ble_eq_true rfl)
  rw [lg_entry_eq]
  generalize (lg_sl ([.int x0, .int x1, .int x2]) ++ List.replicate (3 - (lg_sl ([.int x0, .int x1, .int x2])).length) Slot.unset).toArray = ls at hl ⊢
  replace hl : lv_has ls 3 [(0, .int x0), (1, .int x1), (2, .int x2)] := hl
  show W p l e rm_X7_of s m _ below meth c s.heap [] 0 0 _ (F0 m 0 ls [])
  rw [J_X7_of] at h
  refine lv_iload_n hx hb dX7_of_0 rfl (lv_at hl 0 rfl) ?_
  refine lv_iconst (v := (2 : Int32)) hx hb dX7_of_1 (by decide) ?_
  refine lv_imul hx hb dX7_of_2 ?_
  refine lv_iload_n hx hb dX7_of_3 rfl (lv_at hl 1 rfl) ?_
  refine lv_iadd hx hb dX7_of_4 ?_
  refine lv_bipush (v := (64 : Int32)) hx hb dX7_of_5 (by decide) ?_
  refine lv_imul hx hb dX7_of_7 ?_
  refine lv_iload_n hx hb dX7_of_8 rfl (lv_at hl 2 rfl) ?_
  refine lv_iadd hx hb dX7_of_9 ?_
  exact jret_i hx hb hr hlk hst w h dX7_of_10
end S_X7_of
section S_X8_isAt
def J_X8_isAt_L20 (len : Nat → Nat) (r : jR) (Q : Int32 → jI → jL → Prop) (i : jI) (j : jL) : Prop := Q (1 : Int32) i j
def J_X8_isAt (len : Nat → Nat) (r : jR) (Q : Int32 → jI → jL → Prop) (i : jI) (j : jL) (x0 : Nat) (x1 : Int32) (x2 : Int32) : Prop := ∃ a1, r x0 3 = some a1 ∧ (vp_in x1 (len a1) ∧ ((((i a1 x1.toNatClampNeg) = x2) → (J_X8_isAt_L20 len r Q i j )) ∧ ((¬ (i a1 x1.toNatClampNeg) = x2) → (∃ a11, r x0 4 = some a11 ∧ (vp_in x1 (len a11) ∧ (((¬ (i a11 x1.toNatClampNeg) = x2) → (Q (0 : Int32) i j)) ∧ (((i a11 x1.toNatClampNeg) = x2) → (J_X8_isAt_L20 len r Q i j ))))))))
abbrev rm_X8_isAt : Room := { frames := 0, cells := 0, slots := 0, locals := 0 }
variable {p : Program} {l : Launch} {e : Env} {s : State} {m : MethodId} {args : Array Value} {below : List Frame} {meth : Method} {c : Code} {b tU n : Nat} {cy : Nat → ClassId} {D : va_G} {K len : Nat → Nat} {r : jR} {Q : Int32 → jI → jL → Prop}
theorem hiX8_X8_isAt : ∀ w ∈ u_ws RX8 TX8 8, w ∈ wsX8_isAt := by decide +kernel
set_option maxHeartbeats 4000000 in
set_option maxRecDepth 100000 in
theorem w_X8_isAt_L20 (C0 : jCx p s m args c cX8_isAt 3 wsX8_isAt RX8 b cy D tU n K r) (hr : meth.sig.returnType = some .boolean) (hlk : meth.locks = false) {H : Heap} {locs : List Loc} {ls : Array Slot} {i : jI} {j : jL}  (w : jDy b cy D n K len r i j s H locs) (hl : lv_has ls 3 []) (h : J_X8_isAt_L20 len r Q i j) : W p l e rm_X8_isAt s m args below meth c H locs 0 0 (MQ below (jQi b cy D tU n K len r Q) args s 0 0 (jA b)) (F0 m 20 ls []) := by
  obtain ⟨hx, hb, hml, hown, hts, hst, hG⟩ := id C0
  have hiX8 : ∀ w ∈ u_ws RX8 TX8 8, w ∈ wsX8_isAt := hiX8_X8_isAt
  rw [J_X8_isAt_L20] at h
  refine lv_iconst (v := (1 : Int32)) hx hb dX8_isAt_20 (by decide) ?_
  refine lv_goto (tgt := 25) hx hb dX8_isAt_21 (by decide) ?_
  exact jret_z hx hb hr hlk hst w (by decide) h dX8_isAt_25
set_option maxHeartbeats 4000000 in
set_option maxRecDepth 100000 in
theorem c_X8_isAt (hG : jG n K r) {i : jI} {j : jL} {x0 : Nat} {x1 : Int32} {x2 : Int32} (hx0 : x0 < n ∧ K x0 = 7) (h : J_X8_isAt len r Q i j x0 x1 x2) : Met l yX8_isAt wsX8_isAt rm_X8_isAt (va_Pc [.ref (b + x0), .int x1, .int x2] (jPre b cy D tU n K len r i j)) (jQi b cy D tU n K len r Q) 0 0 (jA b) := by
  refine Met.ofW (cc := cX8_isAt) (maxL := 3) (ret := (some .boolean)) (by decide) rfl ?_
  intro p e s m args below meth c s₁ B hml hv
  obtain ⟨rfl, hv⟩ := hv
  have C0 : jCx p s m _ c cX8_isAt 3 wsX8_isAt RX8 b cy D tU n K r := ⟨B.exec, B.bytes, hml, findClass_of_methodNamed B.named, atoms_spec (ws := wsX8_isAt) B.pre, hv.2.2, hG⟩
  have hr := B.returns
  have hlk := B.notSynchronized
  obtain ⟨hx, hb, hml, hown, hts, hst, hG⟩ := id C0
  have hiX8 : ∀ w ∈ u_ws RX8 TX8 8, w ∈ wsX8_isAt := hiX8_X8_isAt
  have w := jDy.start hv
  have hl := lv_entry ([.ref (b + x0), .int x1, .int x2]) (n := 3) (Nat.le_of_ble_eq_true rfl)
  rw [lg_entry_eq]
  generalize (lg_sl ([.ref (b + x0), .int x1, .int x2]) ++ List.replicate (3 - (lg_sl ([.ref (b + x0), .int x1, .int x2])).length) Slot.unset).toArray = ls at hl ⊢
  replace hl : lv_has ls 3 [(0, .ref (b + x0)), (1, .int x1), (2, .int x2)] := hl
  show W p l e rm_X8_isAt s m _ below meth c s.heap [] 0 0 _ (F0 m 0 ls [])
  rw [J_X8_isAt] at h
  refine lv_aload_n hx hb dX8_isAt_0 rfl (lv_at hl 0 rfl) ?_
  obtain ⟨a1, hr0, h⟩ := h
  refine jgr (f := 3) hx hb hts hown hst w hG hx0 hiX8 (rfl : vwCl[7]? = some (RX8, TX8, 8)) (hts (.fieldLink RX8 9 "FootByGate$Town" "first" "[I") (by decide +kernel)) ⟨by decide, by decide, rfl⟩ (rfl : jrt 7 3 = 13) dX8_isAt_1 hr0 (fun ha1 => ?_)
  clear hr0
  refine lv_iload_n hx hb dX8_isAt_4 rfl (lv_at hl 1 rfl) ?_
  obtain ⟨hn, h⟩ := h
  refine jaid hx hb hst w ha1 hn dX8_isAt_5 ?_
  clear hn
  refine lv_iload_n hx hb dX8_isAt_6 rfl (lv_at hl 2 rfl) ?_
  refine lv_icmp_eq (tgt := 20) hx hb dX8_isAt_7 (by decide) (fun hc => ?_) (fun hc => ?_)
  · replace h := h.1 hc
    clear hc
    exact w_X8_isAt_L20 C0 hr hlk w (lv_sub hl [] rfl) h
  · replace h := h.2 hc
    clear hc
    refine lv_aload_n hx hb dX8_isAt_10 rfl (lv_at hl 0 rfl) ?_
    obtain ⟨a11, hr0, h⟩ := h
    refine jgr (f := 4) hx hb hts hown hst w hG hx0 hiX8 (rfl : vwCl[7]? = some (RX8, TX8, 8)) (hts (.fieldLink RX8 15 "FootByGate$Town" "second" "[I") (by decide +kernel)) ⟨by decide, by decide, rfl⟩ (rfl : jrt 7 4 = 13) dX8_isAt_11 hr0 (fun ha11 => ?_)
    clear hr0
    refine lv_iload_n hx hb dX8_isAt_14 rfl (lv_at hl 1 rfl) ?_
    obtain ⟨hn, h⟩ := h
    refine jaid hx hb hst w ha11 hn dX8_isAt_15 ?_
    clear hn
    refine lv_iload_n hx hb dX8_isAt_16 rfl (lv_at hl 2 rfl) ?_
    refine lv_icmp_ne (tgt := 24) hx hb dX8_isAt_17 (by decide) (fun hc => ?_) (fun hc => ?_)
    · replace h := h.1 hc
      clear hc
      refine lv_iconst (v := (0 : Int32)) hx hb dX8_isAt_24 (by decide) ?_
      exact jret_z hx hb hr hlk hst w (by decide) h dX8_isAt_25
    · replace h := h.2 hc
      clear hc
      exact w_X8_isAt_L20 C0 hr hlk w (lv_sub hl [] rfl) h
end S_X8_isAt
section S_X8_isLetOut
def J_X8_isLetOut (len : Nat → Nat) (r : jR) (Q : Int32 → jI → jL → Prop) (i : jI) (j : jL) (x0 : Nat) (x1 : Int32) (x2 : Int32) : Prop := ((¬ x1 = (-1 : Int32)) → (((¬ x1 = x2) → (Q (0 : Int32) i j)) ∧ ((x1 = x2) → (Q (1 : Int32) i j)))) ∧ ((x1 = (-1 : Int32)) → (((i x0 2) = 0 ∨ (i x0 2) = 1) ∧ Q (i x0 2) i j))
abbrev rm_X8_isLetOut : Room := { frames := 0, cells := 0, slots := 0, locals := 0 }
variable {p : Program} {l : Launch} {e : Env} {s : State} {m : MethodId} {args : Array Value} {below : List Frame} {meth : Method} {c : Code} {b tU n : Nat} {cy : Nat → ClassId} {D : va_G} {K len : Nat → Nat} {r : jR} {Q : Int32 → jI → jL → Prop}
theorem hiX8_X8_isLetOut : ∀ w ∈ u_ws RX8 TX8 8, w ∈ wsX8_isLetOut := by decide +kernel
set_option maxHeartbeats 4000000 in
set_option maxRecDepth 100000 in
theorem c_X8_isLetOut (hG : jG n K r) {i : jI} {j : jL} {x0 : Nat} {x1 : Int32} {x2 : Int32} (hx0 : x0 < n ∧ K x0 = 7) (h : J_X8_isLetOut len r Q i j x0 x1 x2) : Met l yX8_isLetOut wsX8_isLetOut rm_X8_isLetOut (va_Pc [.ref (b + x0), .int x1, .int x2] (jPre b cy D tU n K len r i j)) (jQi b cy D tU n K len r Q) 0 0 (jA b) := by
  refine Met.ofW (cc := cX8_isLetOut) (maxL := 3) (ret := (some .boolean)) (by decide) rfl ?_
  intro p e s m args below meth c s₁ B hml hv
  obtain ⟨rfl, hv⟩ := hv
  have C0 : jCx p s m _ c cX8_isLetOut 3 wsX8_isLetOut RX8 b cy D tU n K r := ⟨B.exec, B.bytes, hml, findClass_of_methodNamed B.named, atoms_spec (ws := wsX8_isLetOut) B.pre, hv.2.2, hG⟩
  have hr := B.returns
  have hlk := B.notSynchronized
  obtain ⟨hx, hb, hml, hown, hts, hst, hG⟩ := id C0
  have hiX8 : ∀ w ∈ u_ws RX8 TX8 8, w ∈ wsX8_isLetOut := hiX8_X8_isLetOut
  have w := jDy.start hv
  have hl := lv_entry ([.ref (b + x0), .int x1, .int x2]) (n := 3) (Nat.le_of_ble_eq_true rfl)
  rw [lg_entry_eq]
  generalize (lg_sl ([.ref (b + x0), .int x1, .int x2]) ++ List.replicate (3 - (lg_sl ([.ref (b + x0), .int x1, .int x2])).length) Slot.unset).toArray = ls at hl ⊢
  replace hl : lv_has ls 3 [(0, .ref (b + x0)), (1, .int x1), (2, .int x2)] := hl
  show W p l e rm_X8_isLetOut s m _ below meth c s.heap [] 0 0 _ (F0 m 0 ls [])
  rw [J_X8_isLetOut] at h
  refine lv_iload_n hx hb dX8_isLetOut_0 rfl (lv_at hl 1 rfl) ?_
  refine lv_iconst (v := (-1 : Int32)) hx hb dX8_isLetOut_1 (by decide) ?_
  refine lv_icmp_ne (tgt := 12) hx hb dX8_isLetOut_2 (by decide) (fun hc => ?_) (fun hc => ?_)
  · replace h := h.1 hc
    clear hc
    refine lv_iload_n hx hb dX8_isLetOut_12 rfl (lv_at hl 1 rfl) ?_
    refine lv_iload_n hx hb dX8_isLetOut_13 rfl (lv_at hl 2 rfl) ?_
    refine lv_icmp_ne (tgt := 21) hx hb dX8_isLetOut_14 (by decide) (fun hc => ?_) (fun hc => ?_)
    · replace h := h.1 hc
      clear hc
      refine lv_iconst (v := (0 : Int32)) hx hb dX8_isLetOut_21 (by decide) ?_
      exact jret_z hx hb hr hlk hst w (by decide) h dX8_isLetOut_22
    · replace h := h.2 hc
      clear hc
      refine lv_iconst (v := (1 : Int32)) hx hb dX8_isLetOut_17 (by decide) ?_
      refine lv_goto (tgt := 22) hx hb dX8_isLetOut_18 (by decide) ?_
      exact jret_z hx hb hr hlk hst w (by decide) h dX8_isLetOut_22
  · replace h := h.2 hc
    clear hc
    refine lv_aload_n hx hb dX8_isLetOut_5 rfl (lv_at hl 0 rfl) ?_
    refine jgi (f := 2) hx hb hts hown hst w hx0 hiX8 (rfl : vwCl[7]? = some (RX8, TX8, 8)) (hts (.fieldLink RX8 47 "FootByGate$Town" "free" "Z") (by decide +kernel)) ⟨by decide, by decide, rfl⟩ dX8_isLetOut_6 ?_
    refine lv_goto (tgt := 22) hx hb dX8_isLetOut_9 (by decide) ?_
    exact jret_z hx hb hr hlk hst w h.1 h.2 dX8_isLetOut_22
end S_X8_isLetOut
section S_X8_behind
def J_X8_behind_L106 (len : Nat → Nat) (r : jR) (Q : Int32 → jI → jL → Prop) (i : jI) (j : jL) (x0 : Nat) (x2 : Int32) (x5 : Int32) (x6 : Int32) : Prop := ∃ a107, r x0 3 = some a107 ∧ (vp_in x2 (len a107) ∧ (J_X7_of len r (fun (q116 : Int32) (i116 : jI) (j116 : jL) => Q q116 i116 j116) i j (i a107 x2.toNatClampNeg) x5 x6))
def J_X8_behind_L79 (len : Nat → Nat) (r : jR) (Q : Int32 → jI → jL → Prop) (i : jI) (j : jL) (t0 : Int32) (t1 : Int32) (t2 : Int32) : Prop := J_X7_of len r (fun (q79 : Int32) (i79 : jI) (j79 : jL) => Q q79 i79 j79) i j t0 t1 t2
def J_X8_behind (len : Nat → Nat) (r : jR) (Q : Int32 → jI → jL → Prop) (i : jI) (j : jL) (x0 : Nat) (x1 : Int32) (x2 : Int32) (x3 : Int32) : Prop := J_X7_placeOf len r (fun (q1 : Int32) (i1 : jI) (j1 : jL) => J_X8_isAt len r (fun (q10 : Int32) (i10 : jI) (j10 : jL) => ((¬ q10 = 0) → (J_X7_footOf len r (fun (q19 : Int32) (i19 : jI) (j19 : jL) => ∀ v24 : Int32, v24 = q19 ^^^ x3 → (J_X7_marksOf len r (fun (q27 : Int32) (i27 : jI) (j27 : jL) => ∃ a33, r x0 6 = some a33 ∧ (vp_in x2 (len a33) ∧ (∀ v38 : Int32, v38 = i27 a33 x2.toNatClampNeg → (∃ a43, r x0 3 = some a43 ∧ (vp_in x2 (len a43) ∧ (((¬ q1 = (i27 a43 x2.toNatClampNeg)) → (((v38 = (-1 : Int32)) → (J_X8_behind_L106 len r Q i27 j27 x0 x2 v24 q27)) ∧ ((¬ v38 = (-1 : Int32)) → (J_X7_markOf len r (fun (q93 : Int32) (i93 : jI) (j93 : jL) => J_X8_isLetOut len r (fun (q98 : Int32) (i98 : jI) (j98 : jL) => ((¬ q98 = 0) → (J_X8_behind_L106 len r Q i98 j98 x0 x2 v24 q27)) ∧ ((q98 = 0) → (Q (-1 : Int32) i98 j98))) i93 j93 x0 q93 v24) i27 j27 x1 v38)))) ∧ ((q1 = (i27 a43 x2.toNatClampNeg)) → (∃ a52, r x0 4 = some a52 ∧ (vp_in x2 (len a52) ∧ (((¬ v38 = (-1 : Int32)) → (J_X7_marked len r (fun (q76 : Int32) (i76 : jI) (j76 : jL) => J_X8_behind_L79 len r Q i76 j76 (i27 a52 x2.toNatClampNeg) v24 q76) i27 j27 q27 v38 v24)) ∧ ((v38 = (-1 : Int32)) → (J_X8_behind_L79 len r Q i27 j27 (i27 a52 x2.toNatClampNeg) v24 q27)))))))))))) i19 j19 x1)) i10 j10 x1)) ∧ ((q10 = 0) → (Q (-1 : Int32) i10 j10))) i1 j1 x0 x2 q1) i j x1
abbrev rm_X8_behind : Room := { frames := 1, cells := 0, slots := 0, locals := 22 }
variable {p : Program} {l : Launch} {e : Env} {s : State} {m : MethodId} {args : Array Value} {below : List Frame} {meth : Method} {c : Code} {b tU n : Nat} {cy : Nat → ClassId} {D : va_G} {K len : Nat → Nat} {r : jR} {Q : Int32 → jI → jL → Prop}
theorem hiX8_X8_behind : ∀ w ∈ u_ws RX8 TX8 8, w ∈ wsX8_behind := by decide +kernel
set_option maxHeartbeats 4000000 in
set_option maxRecDepth 100000 in
theorem w_X8_behind_L106 (C0 : jCx p s m args c cX8_behind 8 wsX8_behind RX8 b cy D tU n K r) (hr : meth.sig.returnType = some .int) (hlk : meth.locks = false) {H : Heap} {locs : List Loc} {ls : Array Slot} {i : jI} {j : jL} {x0 : Nat} {x2 : Int32} {x5 : Int32} {x6 : Int32} (w : jDy b cy D n K len r i j s H locs) (hx0 : x0 < n ∧ K x0 = 7) (hl : lv_has ls 8 [(0, .ref (b + x0)), (2, .int x2), (5, .int x5), (6, .int x6)]) (h : J_X8_behind_L106 len r Q i j x0 x2 x5 x6) : W p l e rm_X8_behind s m args below meth c H locs 0 0 (MQ below (jQi b cy D tU n K len r Q) args s 0 0 (jA b)) (F0 m 106 ls []) := by
  obtain ⟨hx, hb, hml, hown, hts, hst, hG⟩ := id C0
  have hiX8 : ∀ w ∈ u_ws RX8 TX8 8, w ∈ wsX8_behind := hiX8_X8_behind
  rw [J_X8_behind_L106] at h
  refine lv_aload_n hx hb dX8_behind_106 rfl (lv_at hl 0 rfl) ?_
  obtain ⟨a107, hr0, h⟩ := h
  refine jgr (f := 3) hx hb hts hown hst w hG hx0 hiX8 (rfl : vwCl[7]? = some (RX8, TX8, 8)) (hts (.fieldLink RX8 9 "FootByGate$Town" "first" "[I") (by decide +kernel)) ⟨by decide, by decide, rfl⟩ (rfl : jrt 7 3 = 13) dX8_behind_107 hr0 (fun ha107 => ?_)
  clear hr0
  refine lv_iload_n hx hb dX8_behind_110 rfl (lv_at hl 1 rfl) ?_
  obtain ⟨hn, h⟩ := h
  refine jaid hx hb hst w ha107 hn dX8_behind_111 ?_
  clear hn
  refine lv_iload hx hb dX8_behind_112 (lv_at hl 2 rfl) ?_
  refine lv_iload hx hb dX8_behind_114 (lv_at hl 3 rfl) ?_
  refine jcS_i (As := [.int (i a107 x2.toNatClampNeg), .int x5, .int x6]) (rest := []) C0 w (c_X7_of hG h) (va_cwS 3 hts gX8_behind_X7_of rfl rfl rfl (by decide +kernel) ⟨Nat.le_of_ble_eq_true rfl, Nat.le_of_ble_eq_true rfl⟩) rfl hl.1 rfl (Nat.le_of_ble_eq_true rfl) dX8_behind_116 (fun q116 i116 j116 H locs h w => ?_) ⟨Nat.zero_le _, Nat.zero_le _⟩
  exact jret_i hx hb hr hlk hst w h dX8_behind_119
set_option maxHeartbeats 4000000 in
set_option maxRecDepth 100000 in
theorem w_X8_behind_L79 (C0 : jCx p s m args c cX8_behind 8 wsX8_behind RX8 b cy D tU n K r) (hr : meth.sig.returnType = some .int) (hlk : meth.locks = false) {H : Heap} {locs : List Loc} {ls : Array Slot} {i : jI} {j : jL} {t0 : Int32} {t1 : Int32} {t2 : Int32} (w : jDy b cy D n K len r i j s H locs) (hl : lv_has ls 8 []) (h : J_X8_behind_L79 len r Q i j t0 t1 t2) : W p l e rm_X8_behind s m args below meth c H locs 0 0 (MQ below (jQi b cy D tU n K len r Q) args s 0 0 (jA b)) (F0 m 79 ls [.int t2, .int t1, .int t0]) := by
  obtain ⟨hx, hb, hml, hown, hts, hst, hG⟩ := id C0
  have hiX8 : ∀ w ∈ u_ws RX8 TX8 8, w ∈ wsX8_behind := hiX8_X8_behind
  rw [J_X8_behind_L79] at h
  refine jcS_i (As := [.int t0, .int t1, .int t2]) (rest := []) C0 w (c_X7_of hG h) (va_cwS 3 hts gX8_behind_X7_of rfl rfl rfl (by decide +kernel) ⟨Nat.le_of_ble_eq_true rfl, Nat.le_of_ble_eq_true rfl⟩) rfl hl.1 rfl (Nat.le_of_ble_eq_true rfl) dX8_behind_79 (fun q79 i79 j79 H locs h w => ?_) ⟨Nat.zero_le _, Nat.zero_le _⟩
  exact jret_i hx hb hr hlk hst w h dX8_behind_82
set_option maxHeartbeats 4000000 in
set_option maxRecDepth 100000 in
theorem c_X8_behind (hG : jG n K r) {i : jI} {j : jL} {x0 : Nat} {x1 : Int32} {x2 : Int32} {x3 : Int32} (hx0 : x0 < n ∧ K x0 = 7) (h : J_X8_behind len r Q i j x0 x1 x2 x3) : Met l yX8_behind wsX8_behind rm_X8_behind (va_Pc [.ref (b + x0), .int x1, .int x2, .int x3] (jPre b cy D tU n K len r i j)) (jQi b cy D tU n K len r Q) 0 0 (jA b) := by
  refine Met.ofW (cc := cX8_behind) (maxL := 8) (ret := (some .int)) (by decide) rfl ?_
  intro p e s m args below meth c s₁ B hml hv
  obtain ⟨rfl, hv⟩ := hv
  have C0 : jCx p s m _ c cX8_behind 8 wsX8_behind RX8 b cy D tU n K r := ⟨B.exec, B.bytes, hml, findClass_of_methodNamed B.named, atoms_spec (ws := wsX8_behind) B.pre, hv.2.2, hG⟩
  have hr := B.returns
  have hlk := B.notSynchronized
  obtain ⟨hx, hb, hml, hown, hts, hst, hG⟩ := id C0
  have hiX8 : ∀ w ∈ u_ws RX8 TX8 8, w ∈ wsX8_behind := hiX8_X8_behind
  have w := jDy.start hv
  have hl := lv_entry ([.ref (b + x0), .int x1, .int x2, .int x3]) (n := 8) (Nat.le_of_ble_eq_true rfl)
  rw [lg_entry_eq]
  generalize (lg_sl ([.ref (b + x0), .int x1, .int x2, .int x3]) ++ List.replicate (8 - (lg_sl ([.ref (b + x0), .int x1, .int x2, .int x3])).length) Slot.unset).toArray = ls at hl ⊢
  replace hl : lv_has ls 8 [(0, .ref (b + x0)), (1, .int x1), (2, .int x2), (3, .int x3)] := hl
  show W p l e rm_X8_behind s m _ below meth c s.heap [] 0 0 _ (F0 m 0 ls [])
  rw [J_X8_behind] at h
  refine lv_iload_n hx hb dX8_behind_0 rfl (lv_at hl 1 rfl) ?_
  refine jcS_i (As := [.int x1]) (rest := []) C0 w (c_X7_placeOf hG h) (va_cwS 1 hts gX8_behind_X7_placeOf rfl rfl rfl (by decide +kernel) ⟨Nat.le_of_ble_eq_true rfl, Nat.le_of_ble_eq_true rfl⟩) rfl hl.1 rfl (Nat.le_of_ble_eq_true rfl) dX8_behind_1 (fun q1 i1 j1 H locs h w => ?_) ⟨Nat.zero_le _, Nat.zero_le _⟩
  refine lv_istore (lv' := [(4, .int q1), (0, .ref (b + x0)), (1, .int x1), (2, .int x2), (3, .int x3)]) hx hb dX8_behind_4 hl (by decide) rfl (fun ls hl => ?_)
  refine lv_aload_n hx hb dX8_behind_6 rfl (lv_at hl 1 rfl) ?_
  refine lv_iload_n hx hb dX8_behind_7 rfl (lv_at hl 3 rfl) ?_
  refine lv_iload hx hb dX8_behind_8 (lv_at hl 0 rfl) ?_
  refine jcV_i (k := x0) (As := [.int x2, .int q1]) (rest := []) C0 w (c_X8_isAt hG hx0 h) (cwV 2 hts gX8_behind_X8_isAt rfl rfl rfl (by decide +kernel) ⟨Nat.le_of_ble_eq_true rfl, Nat.le_of_ble_eq_true rfl⟩) hx0 (rfl : vwCl[7]? = some (RX8, TX8, 8)) (by decide) rfl hl.1 rfl (Nat.le_of_ble_eq_true rfl) dX8_behind_10 (fun q10 i10 j10 H locs h w => ?_) ⟨Nat.zero_le _, Nat.zero_le _⟩
  refine lv_if_ne (tgt := 18) hx hb dX8_behind_13 (by decide) (fun hc => ?_) (fun hc => ?_)
  · replace h := h.1 hc
    clear hc
    refine lv_iload_n hx hb dX8_behind_18 rfl (lv_at hl 2 rfl) ?_
    refine jcS_i (As := [.int x1]) (rest := []) C0 w (c_X7_footOf hG h) (va_cwS 1 hts gX8_behind_X7_footOf rfl rfl rfl (by decide +kernel) ⟨Nat.le_of_ble_eq_true rfl, Nat.le_of_ble_eq_true rfl⟩) rfl hl.1 rfl (Nat.le_of_ble_eq_true rfl) dX8_behind_19 (fun q19 i19 j19 H locs h w => ?_) ⟨Nat.zero_le _, Nat.zero_le _⟩
    refine lv_iload_n hx hb dX8_behind_22 rfl (lv_at hl 4 rfl) ?_
    refine lv_ixor hx hb dX8_behind_23 ?_
    refine lv_topi (fun v24 he => ?_)
    replace h := h v24 he
    clear he
    refine lv_istore (lv' := [(5, .int v24), (4, .int q1), (0, .ref (b + x0)), (1, .int x1), (2, .int x2), (3, .int x3)]) hx hb dX8_behind_24 hl (by decide) rfl (fun ls hl => ?_)
    refine lv_iload_n hx hb dX8_behind_26 rfl (lv_at hl 3 rfl) ?_
    refine jcS_i (As := [.int x1]) (rest := []) C0 w (c_X7_marksOf hG h) (va_cwS 1 hts gX8_behind_X7_marksOf rfl rfl rfl (by decide +kernel) ⟨Nat.le_of_ble_eq_true rfl, Nat.le_of_ble_eq_true rfl⟩) rfl hl.1 rfl (Nat.le_of_ble_eq_true rfl) dX8_behind_27 (fun q27 i27 j27 H locs h w => ?_) ⟨Nat.zero_le _, Nat.zero_le _⟩
    refine lv_istore (lv' := [(6, .int q27), (5, .int v24), (4, .int q1), (0, .ref (b + x0)), (1, .int x1), (2, .int x2), (3, .int x3)]) hx hb dX8_behind_30 hl (by decide) rfl (fun ls hl => ?_)
    refine lv_aload_n hx hb dX8_behind_32 rfl (lv_at hl 3 rfl) ?_
    obtain ⟨a33, hr0, h⟩ := h
    refine jgr (f := 6) hx hb hts hown hst w hG hx0 hiX8 (rfl : vwCl[7]? = some (RX8, TX8, 8)) (hts (.fieldLink RX8 21 "FootByGate$Town" "gate" "[I") (by decide +kernel)) ⟨by decide, by decide, rfl⟩ (rfl : jrt 7 6 = 13) dX8_behind_33 hr0 (fun ha33 => ?_)
    clear hr0
    refine lv_iload_n hx hb dX8_behind_36 rfl (lv_at hl 5 rfl) ?_
    obtain ⟨hn, h⟩ := h
    refine jaid hx hb hst w ha33 hn dX8_behind_37 ?_
    clear hn
    refine lv_topi (fun v38 he => ?_)
    replace h := h v38 he
    clear he
    refine lv_istore (lv' := [(7, .int v38), (6, .int q27), (5, .int v24), (4, .int q1), (0, .ref (b + x0)), (1, .int x1), (2, .int x2), (3, .int x3)]) hx hb dX8_behind_38 hl (by decide) rfl (fun ls hl => ?_)
    refine lv_iload hx hb dX8_behind_40 (lv_at hl 3 rfl) ?_
    refine lv_aload_n hx hb dX8_behind_42 rfl (lv_at hl 4 rfl) ?_
    obtain ⟨a43, hr0, h⟩ := h
    refine jgr (f := 3) hx hb hts hown hst w hG hx0 hiX8 (rfl : vwCl[7]? = some (RX8, TX8, 8)) (hts (.fieldLink RX8 9 "FootByGate$Town" "first" "[I") (by decide +kernel)) ⟨by decide, by decide, rfl⟩ (rfl : jrt 7 3 = 13) dX8_behind_43 hr0 (fun ha43 => ?_)
    clear hr0
    refine lv_iload_n hx hb dX8_behind_46 rfl (lv_at hl 6 rfl) ?_
    obtain ⟨hn, h⟩ := h
    refine jaid hx hb hst w ha43 hn dX8_behind_47 ?_
    clear hn
    refine lv_icmp_ne (tgt := 83) hx hb dX8_behind_48 (by decide) (fun hc => ?_) (fun hc => ?_)
    · replace h := h.1 hc
      clear hc
      refine lv_iload hx hb dX8_behind_83 (lv_at hl 0 rfl) ?_
      refine lv_iconst (v := (-1 : Int32)) hx hb dX8_behind_85 (by decide) ?_
      refine lv_icmp_eq (tgt := 106) hx hb dX8_behind_86 (by decide) (fun hc => ?_) (fun hc => ?_)
      · replace h := h.1 hc
        clear hc
        exact w_X8_behind_L106 C0 hr hlk w hx0 (lv_sub hl [4, 6, 2, 1] rfl) h
      · replace h := h.2 hc
        clear hc
        refine lv_aload_n hx hb dX8_behind_89 rfl (lv_at hl 4 rfl) ?_
        refine lv_iload_n hx hb dX8_behind_90 rfl (lv_at hl 5 rfl) ?_
        refine lv_iload hx hb dX8_behind_91 (lv_at hl 0 rfl) ?_
        refine jcS_i (As := [.int x1, .int v38]) (rest := [.ref (b + x0)]) C0 w (c_X7_markOf hG h) (va_cwS 2 hts gX8_behind_X7_markOf rfl rfl rfl (by decide +kernel) ⟨Nat.le_of_ble_eq_true rfl, Nat.le_of_ble_eq_true rfl⟩) rfl hl.1 rfl (Nat.le_of_ble_eq_true rfl) dX8_behind_93 (fun q93 i93 j93 H locs h w => ?_) ⟨Nat.zero_le _, Nat.zero_le _⟩
        refine lv_iload hx hb dX8_behind_96 (lv_at hl 2 rfl) ?_
        refine jcV_i (k := x0) (As := [.int q93, .int v24]) (rest := []) C0 w (c_X8_isLetOut hG hx0 h) (cwV 2 hts gX8_behind_X8_isLetOut rfl rfl rfl (by decide +kernel) ⟨Nat.le_of_ble_eq_true rfl, Nat.le_of_ble_eq_true rfl⟩) hx0 (rfl : vwCl[7]? = some (RX8, TX8, 8)) (by decide) rfl hl.1 rfl (Nat.le_of_ble_eq_true rfl) dX8_behind_98 (fun q98 i98 j98 H locs h w => ?_) ⟨Nat.zero_le _, Nat.zero_le _⟩
        refine lv_if_ne (tgt := 106) hx hb dX8_behind_101 (by decide) (fun hc => ?_) (fun hc => ?_)
        · replace h := h.1 hc
          clear hc
          exact w_X8_behind_L106 C0 hr hlk w hx0 (lv_sub hl [4, 6, 2, 1] rfl) h
        · replace h := h.2 hc
          clear hc
          refine lv_iconst (v := (-1 : Int32)) hx hb dX8_behind_104 (by decide) ?_
          exact jret_i hx hb hr hlk hst w h dX8_behind_105
    · replace h := h.2 hc
      clear hc
      refine lv_aload_n hx hb dX8_behind_51 rfl (lv_at hl 4 rfl) ?_
      obtain ⟨a52, hr0, h⟩ := h
      refine jgr (f := 4) hx hb hts hown hst w hG hx0 hiX8 (rfl : vwCl[7]? = some (RX8, TX8, 8)) (hts (.fieldLink RX8 15 "FootByGate$Town" "second" "[I") (by decide +kernel)) ⟨by decide, by decide, rfl⟩ (rfl : jrt 7 4 = 13) dX8_behind_52 hr0 (fun ha52 => ?_)
      clear hr0
      refine lv_iload_n hx hb dX8_behind_55 rfl (lv_at hl 6 rfl) ?_
      obtain ⟨hn, h⟩ := h
      refine jaid hx hb hst w ha52 hn dX8_behind_56 ?_
      clear hn
      refine lv_iload hx hb dX8_behind_57 (lv_at hl 2 rfl) ?_
      refine lv_iload hx hb dX8_behind_59 (lv_at hl 0 rfl) ?_
      refine lv_iconst (v := (-1 : Int32)) hx hb dX8_behind_61 (by decide) ?_
      refine lv_icmp_ne (tgt := 70) hx hb dX8_behind_62 (by decide) (fun hc => ?_) (fun hc => ?_)
      · replace h := h.1 hc
        clear hc
        refine lv_iload hx hb dX8_behind_70 (lv_at hl 1 rfl) ?_
        refine lv_iload hx hb dX8_behind_72 (lv_at hl 0 rfl) ?_
        refine lv_iload hx hb dX8_behind_74 (lv_at hl 2 rfl) ?_
        refine jcS_i (As := [.int q27, .int v38, .int v24]) (rest := [.int v24, .int (i27 a52 x2.toNatClampNeg)]) C0 w (c_X7_marked hG h) (va_cwS 3 hts gX8_behind_X7_marked rfl rfl rfl (by decide +kernel) ⟨Nat.le_of_ble_eq_true rfl, Nat.le_of_ble_eq_true rfl⟩) rfl hl.1 rfl (Nat.le_of_ble_eq_true rfl) dX8_behind_76 (fun q76 i76 j76 H locs h w => ?_) ⟨Nat.zero_le _, Nat.zero_le _⟩
        exact w_X8_behind_L79 C0 hr hlk w (lv_sub hl [] rfl) h
      · replace h := h.2 hc
        clear hc
        refine lv_iload hx hb dX8_behind_65 (lv_at hl 1 rfl) ?_
        refine lv_goto (tgt := 79) hx hb dX8_behind_67 (by decide) ?_
        exact w_X8_behind_L79 C0 hr hlk w (lv_sub hl [] rfl) h
  · replace h := h.2 hc
    clear hc
    refine lv_iconst (v := (-1 : Int32)) hx hb dX8_behind_16 (by decide) ?_
    exact jret_i hx hb hr hlk hst w h dX8_behind_17
end S_X8_behind
section S_X0_offerNext
def J_X0_offerNext_L121 (len : Nat → Nat) (r : jR) (Q : jI → jL → Prop) (Hd29 : jI → jL → Nat → Nat → Nat → Nat → Int32 → Int32 → Int32 → Int32 → Prop) (i : jI) (j : jL) (x0 : Nat) (x1 : Nat) (x2 : Nat) (x3 : Nat) (x4 : Int32) (x5 : Int32) (x6 : Int32) (x7 : Int32) : Prop := ∀ v121 : Int32, v121 = x7 + (1 : Int32) → (Hd29 i j x0 x1 x2 x3 x4 x5 x6 v121)
def J_X0_offerNext_L80 (len : Nat → Nat) (r : jR) (Q : jI → jL → Prop) (Hd29 : jI → jL → Nat → Nat → Nat → Nat → Int32 → Int32 → Int32 → Int32 → Prop) (i : jI) (j : jL) (x0 : Nat) (x1 : Nat) (x2 : Nat) (x3 : Nat) (x4 : Int32) (x5 : Int32) (x6 : Int32) (x7 : Int32) (x8 : Int32) (t0 : Int32) : Prop := ((t0 = (-1 : Int32)) → (J_X0_offerNext_L121 len r Q Hd29 i j x0 x1 x2 x3 x4 x5 x6 x7)) ∧ ((¬ t0 = (-1 : Int32)) → (∃ a94, r x0 0 = some a94 ∧ (J_X3_costOf len r (fun (q99 : Int32) (i99 : jI) (j99 : jL) => ∃ a103, r x2 0 = some a103 ∧ (vp_in x7 (len a103) ∧ (∃ a111, r x3 0 = some a111 ∧ (vp_in x7 (len a111) ∧ (J_X0_offer len r (fun (i118 : jI) (j118 : jL) => J_X0_offerNext_L121 len r Q Hd29 i118 j118 x0 x1 x2 x3 x4 x5 x6 x7) i99 j99 x0 x8 t0 ((q99 + (i99 a103 x7.toNatClampNeg)) + (i99 a111 x7.toNatClampNeg))))))) i j a94 x4)))
def J_X0_offerNext_L29 (len : Nat → Nat) (r : jR) (Q : jI → jL → Prop) : Nat → jI → jL → Nat → Nat → Nat → Nat → Int32 → Int32 → Int32 → Int32 → Prop
  | 0 => fun _ _ _ _ _ _ _ _ _ _ => False
  | g + 1 => fun i j x0 x1 x2 x3 x4 x5 x6 x7 => (((i x1 0) ≤ x7) → (Q i j)) ∧ ((¬ (i x1 0) ≤ x7) → (∃ a44, r x2 1 = some a44 ∧ (vp_in x7 (len a44) ∧ (J_X8_behind len r (fun (q50 : Int32) (i50 : jI) (j50 : jL) => ((¬ q50 = (-1 : Int32)) → (∃ a71, r x3 1 = some a71 ∧ (vp_in x7 (len a71) ∧ (J_X8_behind len r (fun (q77 : Int32) (i77 : jI) (j77 : jL) => J_X0_offerNext_L80 len r Q (J_X0_offerNext_L29 len r Q g) i77 j77 x0 x1 x2 x3 x4 x5 x6 x7 q50 q77) i50 j50 x1 x6 x7 (i50 a71 x7.toNatClampNeg))))) ∧ ((q50 = (-1 : Int32)) → (J_X0_offerNext_L80 len r Q (J_X0_offerNext_L29 len r Q g) i50 j50 x0 x1 x2 x3 x4 x5 x6 x7 q50 (-1 : Int32)))) i j x1 x5 x7 (i a44 x7.toNatClampNeg)))))
def J_X0_offerNext (len : Nat → Nat) (r : jR) (Q : jI → jL → Prop) (i : jI) (j : jL) (x0 : Nat) (x1 : Nat) (x2 : Nat) (x3 : Nat) (x4 : Int32) : Prop := ∃ a1, r x0 1 = some a1 ∧ (vp_in x4 (len a1) ∧ (∀ v11 : Int32, v11 = (i a1 x4.toNatClampNeg) / (896 : Int32) → (∃ a14, r x0 1 = some a14 ∧ (vp_in x4 (len a14) ∧ (∀ v24 : Int32, v24 = (i a14 x4.toNatClampNeg) - (i a14 x4.toNatClampNeg) / (896 : Int32) * (896 : Int32) → (∃ g0, J_X0_offerNext_L29 len r Q g0 i j x0 x1 x2 x3 x4 v11 v24 (0 : Int32)))))))
abbrev rm_X0_offerNext : Room := { frames := 3, cells := 0, slots := 0, locals := 71 }
variable {p : Program} {l : Launch} {e : Env} {s : State} {m : MethodId} {args : Array Value} {below : List Frame} {meth : Method} {c : Code} {b tU n : Nat} {cy : Nat → ClassId} {D : va_G} {K len : Nat → Nat} {r : jR} {Q : jI → jL → Prop}
theorem hiX0_X0_offerNext : ∀ w ∈ u_ws RX0 TX0 2, w ∈ wsX0_offerNext := by decide +kernel
theorem hiX2_X0_offerNext : ∀ w ∈ u_ws RX2 TX2 2, w ∈ wsX0_offerNext := by decide +kernel
theorem hiX8_X0_offerNext : ∀ w ∈ u_ws RX8 TX8 8, w ∈ wsX0_offerNext := by decide +kernel
set_option maxHeartbeats 4000000 in
set_option maxRecDepth 100000 in
theorem w_X0_offerNext_L121 (C0 : jCx p s m args c cX0_offerNext 10 wsX0_offerNext RX0 b cy D tU n K r) (hr : meth.sig.returnType = none) (hlk : meth.locks = false) {Hd29 : jI → jL → Nat → Nat → Nat → Nat → Int32 → Int32 → Int32 → Int32 → Prop} (k29 : ∀ {H : Heap} {locs : List Loc} {ls : Array Slot} {i : jI} {j : jL} {x0 : Nat} {x1 : Nat} {x2 : Nat} {x3 : Nat} {x4 : Int32} {x5 : Int32} {x6 : Int32} {x7 : Int32} (w : jDy b cy D n K len r i j s H locs) (hx0 : x0 < n ∧ K x0 = 0) (hx1 : x1 < n ∧ K x1 = 7) (hx2 : x2 < n ∧ K x2 = 2) (hx3 : x3 < n ∧ K x3 = 2) (hl : lv_has ls 10 [(0, .ref (b + x0)), (1, .ref (b + x1)), (2, .ref (b + x2)), (3, .ref (b + x3)), (4, .int x4), (5, .int x5), (6, .int x6), (7, .int x7)]) (h : Hd29 i j x0 x1 x2 x3 x4 x5 x6 x7), W p l e rm_X0_offerNext s m args below meth c H locs 0 0 (MQ below (jQv b cy D tU n K len r Q) args s 0 0 (jA b)) (F0 m 29 ls [])) {H : Heap} {locs : List Loc} {ls : Array Slot} {i : jI} {j : jL} {x0 : Nat} {x1 : Nat} {x2 : Nat} {x3 : Nat} {x4 : Int32} {x5 : Int32} {x6 : Int32} {x7 : Int32} (w : jDy b cy D n K len r i j s H locs) (hx0 : x0 < n ∧ K x0 = 0) (hx1 : x1 < n ∧ K x1 = 7) (hx2 : x2 < n ∧ K x2 = 2) (hx3 : x3 < n ∧ K x3 = 2) (hl : lv_has ls 10 [(0, .ref (b + x0)), (1, .ref (b + x1)), (2, .ref (b + x2)), (3, .ref (b + x3)), (4, .int x4), (5, .int x5), (6, .int x6), (7, .int x7)]) (h : J_X0_offerNext_L121 len r Q Hd29 i j x0 x1 x2 x3 x4 x5 x6 x7) : W p l e rm_X0_offerNext s m args below meth c H locs 0 0 (MQ below (jQv b cy D tU n K len r Q) args s 0 0 (jA b)) (F0 m 121 ls []) := by
  obtain ⟨hx, hb, hml, hown, hts, hst, hG⟩ := id C0
  have hiX0 : ∀ w ∈ u_ws RX0 TX0 2, w ∈ wsX0_offerNext := hiX0_X0_offerNext
  have hiX2 : ∀ w ∈ u_ws RX2 TX2 2, w ∈ wsX0_offerNext := hiX2_X0_offerNext
  have hiX8 : ∀ w ∈ u_ws RX8 TX8 8, w ∈ wsX0_offerNext := hiX8_X0_offerNext
  rw [J_X0_offerNext_L121] at h
  obtain ⟨v121, he⟩ : ∃ z : Int32, z = x7 + (1 : Int32) := ⟨_, rfl⟩
  replace h := h v121 he
  refine lv_iinc (v := v121) (lv' := [(7, .int v121), (0, .ref (b + x0)), (1, .ref (b + x1)), (2, .ref (b + x2)), (3, .ref (b + x3)), (4, .int x4), (5, .int x5), (6, .int x6)]) hx hb dX0_offerNext_121 hl (k := 7) rfl (by rw [he]; rfl) (by decide) rfl (fun ls hl => ?_)
  clear he
  refine lv_goto (tgt := 29) hx hb dX0_offerNext_124 (by decide) ?_
  exact k29 w hx0 hx1 hx2 hx3 (lv_sub hl [1, 2, 3, 4, 5, 6, 7, 0] rfl) h
set_option maxHeartbeats 4000000 in
set_option maxRecDepth 100000 in
theorem w_X0_offerNext_L80 (C0 : jCx p s m args c cX0_offerNext 10 wsX0_offerNext RX0 b cy D tU n K r) (hr : meth.sig.returnType = none) (hlk : meth.locks = false) {Hd29 : jI → jL → Nat → Nat → Nat → Nat → Int32 → Int32 → Int32 → Int32 → Prop} (k29 : ∀ {H : Heap} {locs : List Loc} {ls : Array Slot} {i : jI} {j : jL} {x0 : Nat} {x1 : Nat} {x2 : Nat} {x3 : Nat} {x4 : Int32} {x5 : Int32} {x6 : Int32} {x7 : Int32} (w : jDy b cy D n K len r i j s H locs) (hx0 : x0 < n ∧ K x0 = 0) (hx1 : x1 < n ∧ K x1 = 7) (hx2 : x2 < n ∧ K x2 = 2) (hx3 : x3 < n ∧ K x3 = 2) (hl : lv_has ls 10 [(0, .ref (b + x0)), (1, .ref (b + x1)), (2, .ref (b + x2)), (3, .ref (b + x3)), (4, .int x4), (5, .int x5), (6, .int x6), (7, .int x7)]) (h : Hd29 i j x0 x1 x2 x3 x4 x5 x6 x7), W p l e rm_X0_offerNext s m args below meth c H locs 0 0 (MQ below (jQv b cy D tU n K len r Q) args s 0 0 (jA b)) (F0 m 29 ls [])) {H : Heap} {locs : List Loc} {ls : Array Slot} {i : jI} {j : jL} {x0 : Nat} {x1 : Nat} {x2 : Nat} {x3 : Nat} {x4 : Int32} {x5 : Int32} {x6 : Int32} {x7 : Int32} {x8 : Int32} {t0 : Int32} (w : jDy b cy D n K len r i j s H locs) (hx0 : x0 < n ∧ K x0 = 0) (hx1 : x1 < n ∧ K x1 = 7) (hx2 : x2 < n ∧ K x2 = 2) (hx3 : x3 < n ∧ K x3 = 2) (hl : lv_has ls 10 [(0, .ref (b + x0)), (1, .ref (b + x1)), (2, .ref (b + x2)), (3, .ref (b + x3)), (4, .int x4), (5, .int x5), (6, .int x6), (7, .int x7), (8, .int x8)]) (h : J_X0_offerNext_L80 len r Q Hd29 i j x0 x1 x2 x3 x4 x5 x6 x7 x8 t0) : W p l e rm_X0_offerNext s m args below meth c H locs 0 0 (MQ below (jQv b cy D tU n K len r Q) args s 0 0 (jA b)) (F0 m 80 ls [.int t0]) := by
  obtain ⟨hx, hb, hml, hown, hts, hst, hG⟩ := id C0
  have hiX0 : ∀ w ∈ u_ws RX0 TX0 2, w ∈ wsX0_offerNext := hiX0_X0_offerNext
  have hiX2 : ∀ w ∈ u_ws RX2 TX2 2, w ∈ wsX0_offerNext := hiX2_X0_offerNext
  have hiX8 : ∀ w ∈ u_ws RX8 TX8 8, w ∈ wsX0_offerNext := hiX8_X0_offerNext
  rw [J_X0_offerNext_L80] at h
  refine lv_istore (lv' := [(9, .int t0), (0, .ref (b + x0)), (1, .ref (b + x1)), (2, .ref (b + x2)), (3, .ref (b + x3)), (4, .int x4), (5, .int x5), (6, .int x6), (7, .int x7), (8, .int x8)]) hx hb dX0_offerNext_80 hl (by decide) rfl (fun ls hl => ?_)
  refine lv_iload hx hb dX0_offerNext_82 (lv_at hl 0 rfl) ?_
  refine lv_iconst (v := (-1 : Int32)) hx hb dX0_offerNext_84 (by decide) ?_
  refine lv_icmp_eq (tgt := 121) hx hb dX0_offerNext_85 (by decide) (fun hc => ?_) (fun hc => ?_)
  · replace h := h.1 hc
    clear hc
    exact w_X0_offerNext_L121 C0 hr hlk (fun w hx0 hx1 hx2 hx3 hl h => k29 w hx0 hx1 hx2 hx3 hl h) w hx0 hx1 hx2 hx3 (lv_sub hl [1, 2, 3, 4, 5, 6, 7, 8] rfl) h
  · replace h := h.2 hc
    clear hc
    refine lv_aload_n hx hb dX0_offerNext_88 rfl (lv_at hl 1 rfl) ?_
    refine lv_iload hx hb dX0_offerNext_89 (lv_at hl 9 rfl) ?_
    refine lv_iload hx hb dX0_offerNext_91 (lv_at hl 0 rfl) ?_
    refine lv_aload_n hx hb dX0_offerNext_93 rfl (lv_at hl 1 rfl) ?_
    obtain ⟨a94, hr0, h⟩ := h
    refine jgr (f := 0) hx hb hts hown hst w hG hx0 hiX0 (rfl : vwCl[0]? = some (RX0, TX0, 2)) (hts (.fieldLink RX0 16 "FootByGate$Arms" "heap" "LFootByGate$Heap;") (by decide +kernel)) ⟨by decide, by decide, rfl⟩ (rfl : jrt 0 0 = 3) dX0_offerNext_94 hr0 (fun ha94 => ?_)
    clear hr0
    refine lv_iload hx hb dX0_offerNext_97 (lv_at hl 5 rfl) ?_
    refine jcV_i (k := a94) (As := [.int x4]) (rest := [.int t0, .int x8, .ref (b + x0)]) C0 w (c_X3_costOf hG ha94 h) (cwV 1 hts gX0_offerNext_X3_costOf rfl rfl rfl (by decide +kernel) ⟨Nat.le_of_ble_eq_true rfl, Nat.le_of_ble_eq_true rfl⟩) ha94 (rfl : vwCl[3]? = some (RX3, TX3, 4)) (by decide) rfl hl.1 rfl (Nat.le_of_ble_eq_true rfl) dX0_offerNext_99 (fun q99 i99 j99 H locs h w => ?_) ⟨Nat.zero_le _, Nat.zero_le _⟩
    refine lv_aload_n hx hb dX0_offerNext_102 rfl (lv_at hl 3 rfl) ?_
    obtain ⟨a103, hr0, h⟩ := h
    refine jgr (f := 0) hx hb hts hown hst w hG hx2 hiX2 (rfl : vwCl[2]? = some (RX2, TX2, 2)) (hts (.fieldLink RX0 63 "FootByGate$Gait" "steps" "[I") (by decide +kernel)) ⟨by decide, by decide, rfl⟩ (rfl : jrt 2 0 = 13) dX0_offerNext_103 hr0 (fun ha103 => ?_)
    clear hr0
    refine lv_iload hx hb dX0_offerNext_106 (lv_at hl 8 rfl) ?_
    obtain ⟨hn, h⟩ := h
    refine jaid hx hb hst w ha103 hn dX0_offerNext_108 ?_
    clear hn
    refine lv_iadd hx hb dX0_offerNext_109 ?_
    refine lv_aload_n hx hb dX0_offerNext_110 rfl (lv_at hl 4 rfl) ?_
    obtain ⟨a111, hr0, h⟩ := h
    refine jgr (f := 0) hx hb hts hown hst w hG hx3 hiX2 (rfl : vwCl[2]? = some (RX2, TX2, 2)) (hts (.fieldLink RX0 63 "FootByGate$Gait" "steps" "[I") (by decide +kernel)) ⟨by decide, by decide, rfl⟩ (rfl : jrt 2 0 = 13) dX0_offerNext_111 hr0 (fun ha111 => ?_)
    clear hr0
    refine lv_iload hx hb dX0_offerNext_114 (lv_at hl 8 rfl) ?_
    obtain ⟨hn, h⟩ := h
    refine jaid hx hb hst w ha111 hn dX0_offerNext_116 ?_
    clear hn
    refine lv_iadd hx hb dX0_offerNext_117 ?_
    refine jcV_v (k := x0) (As := [.int x8, .int t0, .int ((q99 + (i99 a103 x7.toNatClampNeg)) + (i99 a111 x7.toNatClampNeg))]) (rest := []) C0 w (c_X0_offer hG hx0 h) (cwV 3 hts gX0_offerNext_X0_offer rfl rfl rfl (by decide +kernel) ⟨Nat.le_of_ble_eq_true rfl, Nat.le_of_ble_eq_true rfl⟩) hx0 (rfl : vwCl[0]? = some (RX0, TX0, 2)) (by decide) rfl hl.1 rfl (Nat.le_of_ble_eq_true rfl) dX0_offerNext_118 (fun i118 j118 H locs h w => ?_) ⟨Nat.zero_le _, Nat.zero_le _⟩
    exact w_X0_offerNext_L121 C0 hr hlk (fun w hx0 hx1 hx2 hx3 hl h => k29 w hx0 hx1 hx2 hx3 hl h) w hx0 hx1 hx2 hx3 (lv_sub hl [1, 2, 3, 4, 5, 6, 7, 8] rfl) h
set_option maxHeartbeats 4000000 in
set_option maxRecDepth 100000 in
theorem w_X0_offerNext_L29 (C0 : jCx p s m args c cX0_offerNext 10 wsX0_offerNext RX0 b cy D tU n K r) (hr : meth.sig.returnType = none) (hlk : meth.locks = false) : ∀ (g : Nat) {H : Heap} {locs : List Loc} {ls : Array Slot} {i : jI} {j : jL} {x0 : Nat} {x1 : Nat} {x2 : Nat} {x3 : Nat} {x4 : Int32} {x5 : Int32} {x6 : Int32} {x7 : Int32} (w : jDy b cy D n K len r i j s H locs) (hx0 : x0 < n ∧ K x0 = 0) (hx1 : x1 < n ∧ K x1 = 7) (hx2 : x2 < n ∧ K x2 = 2) (hx3 : x3 < n ∧ K x3 = 2) (hl : lv_has ls 10 [(0, .ref (b + x0)), (1, .ref (b + x1)), (2, .ref (b + x2)), (3, .ref (b + x3)), (4, .int x4), (5, .int x5), (6, .int x6), (7, .int x7)]) (h : J_X0_offerNext_L29 len r Q g i j x0 x1 x2 x3 x4 x5 x6 x7), W p l e rm_X0_offerNext s m args below meth c H locs 0 0 (MQ below (jQv b cy D tU n K len r Q) args s 0 0 (jA b)) (F0 m 29 ls []) := by
  obtain ⟨hx, hb, hml, hown, hts, hst, hG⟩ := id C0
  have hiX0 : ∀ w ∈ u_ws RX0 TX0 2, w ∈ wsX0_offerNext := hiX0_X0_offerNext
  have hiX2 : ∀ w ∈ u_ws RX2 TX2 2, w ∈ wsX0_offerNext := hiX2_X0_offerNext
  have hiX8 : ∀ w ∈ u_ws RX8 TX8 8, w ∈ wsX0_offerNext := hiX8_X0_offerNext
  intro g
  induction g with
  | zero => intro H locs ls i j x0 x1 x2 x3 x4 x5 x6 x7 w hx0 hx1 hx2 hx3 hl h; exact False.elim h
  | succ g ih =>
    intro H locs ls i j x0 x1 x2 x3 x4 x5 x6 x7 w hx0 hx1 hx2 hx3 hl h
    rw [J_X0_offerNext_L29] at h
    refine lv_iload hx hb dX0_offerNext_29 (lv_at hl 7 rfl) ?_
    refine lv_aload_n hx hb dX0_offerNext_31 rfl (lv_at hl 1 rfl) ?_
    refine jgi (f := 0) hx hb hts hown hst w hx1 hiX8 (rfl : vwCl[7]? = some (RX8, TX8, 8)) (hts (.fieldLink RX0 48 "FootByGate$Town" "streets" "I") (by decide +kernel)) ⟨by decide, by decide, rfl⟩ dX0_offerNext_32 ?_
    refine lv_icmp_ge (tgt := 127) hx hb dX0_offerNext_35 (by decide) (fun hc => ?_) (fun hc => ?_)
    · replace h := h.1 hc
      clear hc
      exact jret_v hx hb hr hlk hst w h dX0_offerNext_127
    · replace h := h.2 hc
      clear hc
      refine lv_aload_n hx hb dX0_offerNext_38 rfl (lv_at hl 1 rfl) ?_
      refine lv_iload hx hb dX0_offerNext_39 (lv_at hl 5 rfl) ?_
      refine lv_iload hx hb dX0_offerNext_41 (lv_at hl 7 rfl) ?_
      refine lv_aload_n hx hb dX0_offerNext_43 rfl (lv_at hl 2 rfl) ?_
      obtain ⟨a44, hr0, h⟩ := h
      refine jgr (f := 1) hx hb hts hown hst w hG hx2 hiX2 (rfl : vwCl[2]? = some (RX2, TX2, 2)) (hts (.fieldLink RX0 54 "FootByGate$Gait" "turn" "[I") (by decide +kernel)) ⟨by decide, by decide, rfl⟩ (rfl : jrt 2 1 = 13) dX0_offerNext_44 hr0 (fun ha44 => ?_)
      clear hr0
      refine lv_iload hx hb dX0_offerNext_47 (lv_at hl 7 rfl) ?_
      obtain ⟨hn, h⟩ := h
      refine jaid hx hb hst w ha44 hn dX0_offerNext_49 ?_
      clear hn
      refine jcV_i (k := x1) (As := [.int x5, .int x7, .int (i a44 x7.toNatClampNeg)]) (rest := []) C0 w (c_X8_behind hG hx1 h) (cwV 3 hts gX0_offerNext_X8_behind rfl rfl rfl (by decide +kernel) ⟨Nat.le_of_ble_eq_true rfl, Nat.le_of_ble_eq_true rfl⟩) hx1 (rfl : vwCl[7]? = some (RX8, TX8, 8)) (by decide) rfl hl.1 rfl (Nat.le_of_ble_eq_true rfl) dX0_offerNext_50 (fun q50 i50 j50 H locs h w => ?_) ⟨Nat.zero_le _, Nat.zero_le _⟩
      refine lv_istore (lv' := [(8, .int q50), (0, .ref (b + x0)), (1, .ref (b + x1)), (2, .ref (b + x2)), (3, .ref (b + x3)), (4, .int x4), (5, .int x5), (6, .int x6), (7, .int x7)]) hx hb dX0_offerNext_53 hl (by decide) rfl (fun ls hl => ?_)
      refine lv_iload hx hb dX0_offerNext_55 (lv_at hl 0 rfl) ?_
      refine lv_iconst (v := (-1 : Int32)) hx hb dX0_offerNext_57 (by decide) ?_
      refine lv_icmp_ne (tgt := 65) hx hb dX0_offerNext_58 (by decide) (fun hc => ?_) (fun hc => ?_)
      · replace h := h.1 hc
        clear hc
        refine lv_aload_n hx hb dX0_offerNext_65 rfl (lv_at hl 2 rfl) ?_
        refine lv_iload hx hb dX0_offerNext_66 (lv_at hl 7 rfl) ?_
        refine lv_iload hx hb dX0_offerNext_68 (lv_at hl 8 rfl) ?_
        refine lv_aload_n hx hb dX0_offerNext_70 rfl (lv_at hl 4 rfl) ?_
        obtain ⟨a71, hr0, h⟩ := h
        refine jgr (f := 1) hx hb hts hown hst w hG hx3 hiX2 (rfl : vwCl[2]? = some (RX2, TX2, 2)) (hts (.fieldLink RX0 54 "FootByGate$Gait" "turn" "[I") (by decide +kernel)) ⟨by decide, by decide, rfl⟩ (rfl : jrt 2 1 = 13) dX0_offerNext_71 hr0 (fun ha71 => ?_)
        clear hr0
        refine lv_iload hx hb dX0_offerNext_74 (lv_at hl 8 rfl) ?_
        obtain ⟨hn, h⟩ := h
        refine jaid hx hb hst w ha71 hn dX0_offerNext_76 ?_
        clear hn
        refine jcV_i (k := x1) (As := [.int x6, .int x7, .int (i50 a71 x7.toNatClampNeg)]) (rest := []) C0 w (c_X8_behind hG hx1 h) (cwV 3 hts gX0_offerNext_X8_behind rfl rfl rfl (by decide +kernel) ⟨Nat.le_of_ble_eq_true rfl, Nat.le_of_ble_eq_true rfl⟩) hx1 (rfl : vwCl[7]? = some (RX8, TX8, 8)) (by decide) rfl hl.1 rfl (Nat.le_of_ble_eq_true rfl) dX0_offerNext_77 (fun q77 i77 j77 H locs h w => ?_) ⟨Nat.zero_le _, Nat.zero_le _⟩
        exact w_X0_offerNext_L80 C0 hr hlk (fun w hx0 hx1 hx2 hx3 hl h => ih w hx0 hx1 hx2 hx3 hl h) w hx0 hx1 hx2 hx3 (lv_sub hl [1, 2, 3, 4, 5, 6, 7, 8, 0] rfl) h
      · replace h := h.2 hc
        clear hc
        refine lv_iconst (v := (-1 : Int32)) hx hb dX0_offerNext_61 (by decide) ?_
        refine lv_goto (tgt := 80) hx hb dX0_offerNext_62 (by decide) ?_
        exact w_X0_offerNext_L80 C0 hr hlk (fun w hx0 hx1 hx2 hx3 hl h => ih w hx0 hx1 hx2 hx3 hl h) w hx0 hx1 hx2 hx3 (lv_sub hl [1, 2, 3, 4, 5, 6, 7, 8, 0] rfl) h
set_option maxHeartbeats 4000000 in
set_option maxRecDepth 100000 in
theorem c_X0_offerNext (hG : jG n K r) {i : jI} {j : jL} {x0 : Nat} {x1 : Nat} {x2 : Nat} {x3 : Nat} {x4 : Int32} (hx0 : x0 < n ∧ K x0 = 0) (hx1 : x1 < n ∧ K x1 = 7) (hx2 : x2 < n ∧ K x2 = 2) (hx3 : x3 < n ∧ K x3 = 2) (h : J_X0_offerNext len r Q i j x0 x1 x2 x3 x4) : Met l yX0_offerNext wsX0_offerNext rm_X0_offerNext (va_Pc [.ref (b + x0), .ref (b + x1), .ref (b + x2), .ref (b + x3), .int x4] (jPre b cy D tU n K len r i j)) (jQv b cy D tU n K len r Q) 0 0 (jA b) := by
  refine Met.ofW (cc := cX0_offerNext) (maxL := 10) (ret := none) (by decide) rfl ?_
  intro p e s m args below meth c s₁ B hml hv
  obtain ⟨rfl, hv⟩ := hv
  have C0 : jCx p s m _ c cX0_offerNext 10 wsX0_offerNext RX0 b cy D tU n K r := ⟨B.exec, B.bytes, hml, findClass_of_methodNamed B.named, atoms_spec (ws := wsX0_offerNext) B.pre, hv.2.2, hG⟩
  have hr := B.returns
  have hlk := B.notSynchronized
  obtain ⟨hx, hb, hml, hown, hts, hst, hG⟩ := id C0
  have hiX0 : ∀ w ∈ u_ws RX0 TX0 2, w ∈ wsX0_offerNext := hiX0_X0_offerNext
  have hiX2 : ∀ w ∈ u_ws RX2 TX2 2, w ∈ wsX0_offerNext := hiX2_X0_offerNext
  have hiX8 : ∀ w ∈ u_ws RX8 TX8 8, w ∈ wsX0_offerNext := hiX8_X0_offerNext
  have w := jDy.start hv
  have hl := lv_entry ([.ref (b + x0), .ref (b + x1), .ref (b + x2), .ref (b + x3), .int x4]) (n := 10) (Nat.le_of_ble_eq_true rfl)
  rw [lg_entry_eq]
  generalize (lg_sl ([.ref (b + x0), .ref (b + x1), .ref (b + x2), .ref (b + x3), .int x4]) ++ List.replicate (10 - (lg_sl ([.ref (b + x0), .ref (b + x1), .ref (b + x2), .ref (b + x3), .int x4])).length) Slot.unset).toArray = ls at hl ⊢
  replace hl : lv_has ls 10 [(0, .ref (b + x0)), (1, .ref (b + x1)), (2, .ref (b + x2)), (3, .ref (b + x3)), (4, .int x4)] := hl
  show W p l e rm_X0_offerNext s m _ below meth c s.heap [] 0 0 _ (F0 m 0 ls [])
  rw [J_X0_offerNext] at h
  refine lv_aload_n hx hb dX0_offerNext_0 rfl (lv_at hl 0 rfl) ?_
  obtain ⟨a1, hr0, h⟩ := h
  refine jgr (f := 1) hx hb hts hown hst w hG hx0 hiX0 (rfl : vwCl[0]? = some (RX0, TX0, 2)) (hts (.fieldLink RX0 20 "FootByGate$Arms" "stands" "[I") (by decide +kernel)) ⟨by decide, by decide, rfl⟩ (rfl : jrt 0 1 = 13) dX0_offerNext_1 hr0 (fun ha1 => ?_)
  clear hr0
  refine lv_iload hx hb dX0_offerNext_4 (lv_at hl 4 rfl) ?_
  obtain ⟨hn, h⟩ := h
  refine jaid hx hb hst w ha1 hn dX0_offerNext_6 ?_
  clear hn
  refine lv_sipush (v := (896 : Int32)) hx hb dX0_offerNext_7 (by decide) ?_
  refine lv_idiv hx hb dX0_offerNext_10 (by decide) ?_
  refine lv_topi (fun v11 he => ?_)
  replace h := h v11 he
  clear he
  refine lv_istore (lv' := [(5, .int v11), (0, .ref (b + x0)), (1, .ref (b + x1)), (2, .ref (b + x2)), (3, .ref (b + x3)), (4, .int x4)]) hx hb dX0_offerNext_11 hl (by decide) rfl (fun ls hl => ?_)
  refine lv_aload_n hx hb dX0_offerNext_13 rfl (lv_at hl 1 rfl) ?_
  obtain ⟨a14, hr0, h⟩ := h
  refine jgr (f := 1) hx hb hts hown hst w hG hx0 hiX0 (rfl : vwCl[0]? = some (RX0, TX0, 2)) (hts (.fieldLink RX0 20 "FootByGate$Arms" "stands" "[I") (by decide +kernel)) ⟨by decide, by decide, rfl⟩ (rfl : jrt 0 1 = 13) dX0_offerNext_14 hr0 (fun ha14 => ?_)
  clear hr0
  refine lv_iload hx hb dX0_offerNext_17 (lv_at hl 5 rfl) ?_
  obtain ⟨hn, h⟩ := h
  refine jaid hx hb hst w ha14 hn dX0_offerNext_19 ?_
  clear hn
  refine lv_sipush (v := (896 : Int32)) hx hb dX0_offerNext_20 (by decide) ?_
  refine lv_irem hx hb dX0_offerNext_23 (by decide) ?_
  refine lv_topi (fun v24 he => ?_)
  replace h := h v24 he
  clear he
  refine lv_istore (lv' := [(6, .int v24), (5, .int v11), (0, .ref (b + x0)), (1, .ref (b + x1)), (2, .ref (b + x2)), (3, .ref (b + x3)), (4, .int x4)]) hx hb dX0_offerNext_24 hl (by decide) rfl (fun ls hl => ?_)
  refine lv_iconst (v := (0 : Int32)) hx hb dX0_offerNext_26 (by decide) ?_
  refine lv_istore (lv' := [(7, .int (0 : Int32)), (6, .int v24), (5, .int v11), (0, .ref (b + x0)), (1, .ref (b + x1)), (2, .ref (b + x2)), (3, .ref (b + x3)), (4, .int x4)]) hx hb dX0_offerNext_27 hl (by decide) rfl (fun ls hl => ?_)
  obtain ⟨g0, h⟩ := h
  exact w_X0_offerNext_L29 C0 hr hlk g0 w hx0 hx1 hx2 hx3 (lv_sub hl [3, 4, 5, 6, 7, 2, 1, 0] rfl) h
end S_X0_offerNext
section S_X3_sink
def J_X3_sink_L97 (len : Nat → Nat) (r : jR) (Q : jI → jL → Prop) (i : jI) (j : jL) (x0 : Nat) (x1 : Int32) (x2 : Int32) : Prop := J_X3_sit len r (fun (i100 : jI) (j100 : jL) => Q i100 j100) i j x0 x1 x2
def J_X3_sink_L52 (len : Nat → Nat) (r : jR) (Q : jI → jL → Prop) (Hd4 : jI → jL → Nat → Int32 → Int32 → Int32 → Prop) (i : jI) (j : jL) (x0 : Nat) (x1 : Int32) (x2 : Int32) (x3 : Int32) : Prop := ∃ a53, r x0 0 = some a53 ∧ (∃ a57, r x0 1 = some a57 ∧ (vp_in x3 (len a57) ∧ (vp_in (i a57 x3.toNatClampNeg) (len a53) ∧ (∃ a64, r x0 0 = some a64 ∧ (vp_in x1 (len a64) ∧ ((((i a53 (i a57 x3.toNatClampNeg).toNatClampNeg) < (i a64 x1.toNatClampNeg)) → (∃ a77, r x0 1 = some a77 ∧ (vp_in x3 (len a77) ∧ (J_X3_sit len r (fun (i83 : jI) (j83 : jL) => ∀ v93 : Int32, v93 = ((2 : Int32) * x3) + (1 : Int32) → (Hd4 i83 j83 x0 x1 x3 v93)) i j x0 (i a77 x3.toNatClampNeg) x2)))) ∧ ((¬ (i a53 (i a57 x3.toNatClampNeg).toNatClampNeg) < (i a64 x1.toNatClampNeg)) → (J_X3_sink_L97 len r Q i j x0 x1 x2))))))))
def J_X3_sink_L4 (len : Nat → Nat) (r : jR) (Q : jI → jL → Prop) : Nat → jI → jL → Nat → Int32 → Int32 → Int32 → Prop
  | 0 => fun _ _ _ _ _ _ => False
  | g + 1 => fun i j x0 x1 x2 x3 => (((i x0 3) ≤ x3) → (J_X3_sink_L97 len r Q i j x0 x1 x2)) ∧ ((¬ (i x0 3) ≤ x3) → ((((i x0 3) ≤ (x3 + (1 : Int32))) → (J_X3_sink_L52 len r Q (J_X3_sink_L4 len r Q g) i j x0 x1 x2 x3)) ∧ ((¬ (i x0 3) ≤ (x3 + (1 : Int32))) → (∃ a23, r x0 0 = some a23 ∧ (∃ a27, r x0 1 = some a27 ∧ (vp_in (x3 + (1 : Int32)) (len a27) ∧ (vp_in (i a27 (x3 + (1 : Int32)).toNatClampNeg) (len a23) ∧ (∃ a36, r x0 0 = some a36 ∧ (∃ a40, r x0 1 = some a40 ∧ (vp_in x3 (len a40) ∧ (vp_in (i a40 x3.toNatClampNeg) (len a36) ∧ ((((i a36 (i a40 x3.toNatClampNeg).toNatClampNeg) ≤ (i a23 (i a27 (x3 + (1 : Int32)).toNatClampNeg).toNatClampNeg)) → (J_X3_sink_L52 len r Q (J_X3_sink_L4 len r Q g) i j x0 x1 x2 x3)) ∧ ((¬ (i a36 (i a40 x3.toNatClampNeg).toNatClampNeg) ≤ (i a23 (i a27 (x3 + (1 : Int32)).toNatClampNeg).toNatClampNeg)) → (∀ v49 : Int32, v49 = x3 + (1 : Int32) → (J_X3_sink_L52 len r Q (J_X3_sink_L4 len r Q g) i j x0 x1 x2 v49)))))))))))))))
def J_X3_sink (len : Nat → Nat) (r : jR) (Q : jI → jL → Prop) (i : jI) (j : jL) (x0 : Nat) (x1 : Int32) : Prop := ∃ g0, J_X3_sink_L4 len r Q g0 i j x0 x1 (0 : Int32) (1 : Int32)
abbrev rm_X3_sink : Room := { frames := 1, cells := 0, slots := 0, locals := 22 }
variable {p : Program} {l : Launch} {e : Env} {s : State} {m : MethodId} {args : Array Value} {below : List Frame} {meth : Method} {c : Code} {b tU n : Nat} {cy : Nat → ClassId} {D : va_G} {K len : Nat → Nat} {r : jR} {Q : jI → jL → Prop}
theorem hiX3_X3_sink : ∀ w ∈ u_ws RX3 TX3 4, w ∈ wsX3_sink := by decide +kernel
set_option maxHeartbeats 4000000 in
set_option maxRecDepth 100000 in
theorem w_X3_sink_L97 (C0 : jCx p s m args c cX3_sink 4 wsX3_sink RX3 b cy D tU n K r) (hr : meth.sig.returnType = none) (hlk : meth.locks = false) {H : Heap} {locs : List Loc} {ls : Array Slot} {i : jI} {j : jL} {x0 : Nat} {x1 : Int32} {x2 : Int32} (w : jDy b cy D n K len r i j s H locs) (hx0 : x0 < n ∧ K x0 = 3) (hl : lv_has ls 4 [(0, .ref (b + x0)), (1, .int x1), (2, .int x2)]) (h : J_X3_sink_L97 len r Q i j x0 x1 x2) : W p l e rm_X3_sink s m args below meth c H locs 0 0 (MQ below (jQv b cy D tU n K len r Q) args s 0 0 (jA b)) (F0 m 97 ls []) := by
  obtain ⟨hx, hb, hml, hown, hts, hst, hG⟩ := id C0
  have hiX3 : ∀ w ∈ u_ws RX3 TX3 4, w ∈ wsX3_sink := hiX3_X3_sink
  rw [J_X3_sink_L97] at h
  refine lv_aload_n hx hb dX3_sink_97 rfl (lv_at hl 0 rfl) ?_
  refine lv_iload_n hx hb dX3_sink_98 rfl (lv_at hl 1 rfl) ?_
  refine lv_iload_n hx hb dX3_sink_99 rfl (lv_at hl 2 rfl) ?_
  refine jcV_v (k := x0) (As := [.int x1, .int x2]) (rest := []) C0 w (c_X3_sit hG hx0 h) (cwV 2 hts gX3_sink_X3_sit rfl rfl rfl (by decide +kernel) ⟨Nat.le_of_ble_eq_true rfl, Nat.le_of_ble_eq_true rfl⟩) hx0 (rfl : vwCl[3]? = some (RX3, TX3, 4)) (by decide) rfl hl.1 rfl (Nat.le_of_ble_eq_true rfl) dX3_sink_100 (fun i100 j100 H locs h w => ?_) ⟨Nat.zero_le _, Nat.zero_le _⟩
  exact jret_v hx hb hr hlk hst w h dX3_sink_103
set_option maxHeartbeats 4000000 in
set_option maxRecDepth 100000 in
theorem w_X3_sink_L52 (C0 : jCx p s m args c cX3_sink 4 wsX3_sink RX3 b cy D tU n K r) (hr : meth.sig.returnType = none) (hlk : meth.locks = false) {Hd4 : jI → jL → Nat → Int32 → Int32 → Int32 → Prop} (k4 : ∀ {H : Heap} {locs : List Loc} {ls : Array Slot} {i : jI} {j : jL} {x0 : Nat} {x1 : Int32} {x2 : Int32} {x3 : Int32} (w : jDy b cy D n K len r i j s H locs) (hx0 : x0 < n ∧ K x0 = 3) (hl : lv_has ls 4 [(0, .ref (b + x0)), (1, .int x1), (2, .int x2), (3, .int x3)]) (h : Hd4 i j x0 x1 x2 x3), W p l e rm_X3_sink s m args below meth c H locs 0 0 (MQ below (jQv b cy D tU n K len r Q) args s 0 0 (jA b)) (F0 m 4 ls [])) {H : Heap} {locs : List Loc} {ls : Array Slot} {i : jI} {j : jL} {x0 : Nat} {x1 : Int32} {x2 : Int32} {x3 : Int32} (w : jDy b cy D n K len r i j s H locs) (hx0 : x0 < n ∧ K x0 = 3) (hl : lv_has ls 4 [(0, .ref (b + x0)), (1, .int x1), (2, .int x2), (3, .int x3)]) (h : J_X3_sink_L52 len r Q Hd4 i j x0 x1 x2 x3) : W p l e rm_X3_sink s m args below meth c H locs 0 0 (MQ below (jQv b cy D tU n K len r Q) args s 0 0 (jA b)) (F0 m 52 ls []) := by
  obtain ⟨hx, hb, hml, hown, hts, hst, hG⟩ := id C0
  have hiX3 : ∀ w ∈ u_ws RX3 TX3 4, w ∈ wsX3_sink := hiX3_X3_sink
  rw [J_X3_sink_L52] at h
  refine lv_aload_n hx hb dX3_sink_52 rfl (lv_at hl 0 rfl) ?_
  obtain ⟨a53, hr0, h⟩ := h
  refine jgr (f := 0) hx hb hts hown hst w hG hx0 hiX3 (rfl : vwCl[3]? = some (RX3, TX3, 4)) (hts (.fieldLink RX3 9 "FootByGate$Heap" "least" "[I") (by decide +kernel)) ⟨by decide, by decide, rfl⟩ (rfl : jrt 3 0 = 13) dX3_sink_53 hr0 (fun ha53 => ?_)
  clear hr0
  refine lv_aload_n hx hb dX3_sink_56 rfl (lv_at hl 0 rfl) ?_
  obtain ⟨a57, hr0, h⟩ := h
  refine jgr (f := 1) hx hb hts hown hst w hG hx0 hiX3 (rfl : vwCl[3]? = some (RX3, TX3, 4)) (hts (.fieldLink RX3 15 "FootByGate$Heap" "heap" "[I") (by decide +kernel)) ⟨by decide, by decide, rfl⟩ (rfl : jrt 3 1 = 13) dX3_sink_57 hr0 (fun ha57 => ?_)
  clear hr0
  refine lv_iload_n hx hb dX3_sink_60 rfl (lv_at hl 3 rfl) ?_
  obtain ⟨hn, h⟩ := h
  refine jaid hx hb hst w ha57 hn dX3_sink_61 ?_
  clear hn
  obtain ⟨hn, h⟩ := h
  refine jaid hx hb hst w ha53 hn dX3_sink_62 ?_
  clear hn
  refine lv_aload_n hx hb dX3_sink_63 rfl (lv_at hl 0 rfl) ?_
  obtain ⟨a64, hr0, h⟩ := h
  refine jgr (f := 0) hx hb hts hown hst w hG hx0 hiX3 (rfl : vwCl[3]? = some (RX3, TX3, 4)) (hts (.fieldLink RX3 9 "FootByGate$Heap" "least" "[I") (by decide +kernel)) ⟨by decide, by decide, rfl⟩ (rfl : jrt 3 0 = 13) dX3_sink_64 hr0 (fun ha64 => ?_)
  clear hr0
  refine lv_iload_n hx hb dX3_sink_67 rfl (lv_at hl 1 rfl) ?_
  obtain ⟨hn, h⟩ := h
  refine jaid hx hb hst w ha64 hn dX3_sink_68 ?_
  clear hn
  refine lv_icmp_lt (tgt := 75) hx hb dX3_sink_69 (by decide) (fun hc => ?_) (fun hc => ?_)
  · replace h := h.1 hc
    clear hc
    refine lv_aload_n hx hb dX3_sink_75 rfl (lv_at hl 0 rfl) ?_
    refine lv_aload_n hx hb dX3_sink_76 rfl (lv_at hl 0 rfl) ?_
    obtain ⟨a77, hr0, h⟩ := h
    refine jgr (f := 1) hx hb hts hown hst w hG hx0 hiX3 (rfl : vwCl[3]? = some (RX3, TX3, 4)) (hts (.fieldLink RX3 15 "FootByGate$Heap" "heap" "[I") (by decide +kernel)) ⟨by decide, by decide, rfl⟩ (rfl : jrt 3 1 = 13) dX3_sink_77 hr0 (fun ha77 => ?_)
    clear hr0
    refine lv_iload_n hx hb dX3_sink_80 rfl (lv_at hl 3 rfl) ?_
    obtain ⟨hn, h⟩ := h
    refine jaid hx hb hst w ha77 hn dX3_sink_81 ?_
    clear hn
    refine lv_iload_n hx hb dX3_sink_82 rfl (lv_at hl 2 rfl) ?_
    refine jcV_v (k := x0) (As := [.int (i a77 x3.toNatClampNeg), .int x2]) (rest := []) C0 w (c_X3_sit hG hx0 h) (cwV 2 hts gX3_sink_X3_sit rfl rfl rfl (by decide +kernel) ⟨Nat.le_of_ble_eq_true rfl, Nat.le_of_ble_eq_true rfl⟩) hx0 (rfl : vwCl[3]? = some (RX3, TX3, 4)) (by decide) rfl hl.1 rfl (Nat.le_of_ble_eq_true rfl) dX3_sink_83 (fun i83 j83 H locs h w => ?_) ⟨Nat.zero_le _, Nat.zero_le _⟩
    refine lv_iload_n hx hb dX3_sink_86 rfl (lv_at hl 3 rfl) ?_
    refine lv_istore_n (lv' := [(2, .int x3), (0, .ref (b + x0)), (1, .int x1), (3, .int x3)]) hx hb dX3_sink_87 rfl hl (by decide) rfl (fun ls hl => ?_)
    refine lv_iconst (v := (2 : Int32)) hx hb dX3_sink_88 (by decide) ?_
    refine lv_iload_n hx hb dX3_sink_89 rfl (lv_at hl 0 rfl) ?_
    refine lv_imul hx hb dX3_sink_90 ?_
    refine lv_iconst (v := (1 : Int32)) hx hb dX3_sink_91 (by decide) ?_
    refine lv_iadd hx hb dX3_sink_92 ?_
    refine lv_topi (fun v93 he => ?_)
    replace h := h v93 he
    clear he
    refine lv_istore_n (lv' := [(3, .int v93), (2, .int x3), (0, .ref (b + x0)), (1, .int x1)]) hx hb dX3_sink_93 rfl hl (by decide) rfl (fun ls hl => ?_)
    refine lv_goto (tgt := 4) hx hb dX3_sink_94 (by decide) ?_
    exact k4 w hx0 (lv_sub hl [2, 3, 1, 0] rfl) h
  · replace h := h.2 hc
    clear hc
    refine lv_goto (tgt := 97) hx hb dX3_sink_72 (by decide) ?_
    exact w_X3_sink_L97 C0 hr hlk w hx0 (lv_sub hl [0, 1, 2] rfl) h
set_option maxHeartbeats 4000000 in
set_option maxRecDepth 100000 in
theorem w_X3_sink_L4 (C0 : jCx p s m args c cX3_sink 4 wsX3_sink RX3 b cy D tU n K r) (hr : meth.sig.returnType = none) (hlk : meth.locks = false) : ∀ (g : Nat) {H : Heap} {locs : List Loc} {ls : Array Slot} {i : jI} {j : jL} {x0 : Nat} {x1 : Int32} {x2 : Int32} {x3 : Int32} (w : jDy b cy D n K len r i j s H locs) (hx0 : x0 < n ∧ K x0 = 3) (hl : lv_has ls 4 [(0, .ref (b + x0)), (1, .int x1), (2, .int x2), (3, .int x3)]) (h : J_X3_sink_L4 len r Q g i j x0 x1 x2 x3), W p l e rm_X3_sink s m args below meth c H locs 0 0 (MQ below (jQv b cy D tU n K len r Q) args s 0 0 (jA b)) (F0 m 4 ls []) := by
  obtain ⟨hx, hb, hml, hown, hts, hst, hG⟩ := id C0
  have hiX3 : ∀ w ∈ u_ws RX3 TX3 4, w ∈ wsX3_sink := hiX3_X3_sink
  intro g
  induction g with
  | zero => intro H locs ls i j x0 x1 x2 x3 w hx0 hl h; exact False.elim h
  | succ g ih =>
    intro H locs ls i j x0 x1 x2 x3 w hx0 hl h
    rw [J_X3_sink_L4] at h
    refine lv_iload_n hx hb dX3_sink_4 rfl (lv_at hl 3 rfl) ?_
    refine lv_aload_n hx hb dX3_sink_5 rfl (lv_at hl 0 rfl) ?_
    refine jgi (f := 3) hx hb hts hown hst w hx0 hiX3 (rfl : vwCl[3]? = some (RX3, TX3, 4)) (hts (.fieldLink RX3 28 "FootByGate$Heap" "size" "I") (by decide +kernel)) ⟨by decide, by decide, rfl⟩ dX3_sink_6 ?_
    refine lv_icmp_ge (tgt := 97) hx hb dX3_sink_9 (by decide) (fun hc => ?_) (fun hc => ?_)
    · replace h := h.1 hc
      clear hc
      exact w_X3_sink_L97 C0 hr hlk w hx0 (lv_sub hl [0, 1, 2] rfl) h
    · replace h := h.2 hc
      clear hc
      refine lv_iload_n hx hb dX3_sink_12 rfl (lv_at hl 3 rfl) ?_
      refine lv_iconst (v := (1 : Int32)) hx hb dX3_sink_13 (by decide) ?_
      refine lv_iadd hx hb dX3_sink_14 ?_
      refine lv_aload_n hx hb dX3_sink_15 rfl (lv_at hl 0 rfl) ?_
      refine jgi (f := 3) hx hb hts hown hst w hx0 hiX3 (rfl : vwCl[3]? = some (RX3, TX3, 4)) (hts (.fieldLink RX3 28 "FootByGate$Heap" "size" "I") (by decide +kernel)) ⟨by decide, by decide, rfl⟩ dX3_sink_16 ?_
      refine lv_icmp_ge (tgt := 52) hx hb dX3_sink_19 (by decide) (fun hc => ?_) (fun hc => ?_)
      · replace h := h.1 hc
        clear hc
        exact w_X3_sink_L52 C0 hr hlk (fun w hx0 hl h => ih w hx0 hl h) w hx0 (lv_sub hl [0, 1, 2, 3] rfl) h
      · replace h := h.2 hc
        clear hc
        refine lv_aload_n hx hb dX3_sink_22 rfl (lv_at hl 0 rfl) ?_
        obtain ⟨a23, hr0, h⟩ := h
        refine jgr (f := 0) hx hb hts hown hst w hG hx0 hiX3 (rfl : vwCl[3]? = some (RX3, TX3, 4)) (hts (.fieldLink RX3 9 "FootByGate$Heap" "least" "[I") (by decide +kernel)) ⟨by decide, by decide, rfl⟩ (rfl : jrt 3 0 = 13) dX3_sink_23 hr0 (fun ha23 => ?_)
        clear hr0
        refine lv_aload_n hx hb dX3_sink_26 rfl (lv_at hl 0 rfl) ?_
        obtain ⟨a27, hr0, h⟩ := h
        refine jgr (f := 1) hx hb hts hown hst w hG hx0 hiX3 (rfl : vwCl[3]? = some (RX3, TX3, 4)) (hts (.fieldLink RX3 15 "FootByGate$Heap" "heap" "[I") (by decide +kernel)) ⟨by decide, by decide, rfl⟩ (rfl : jrt 3 1 = 13) dX3_sink_27 hr0 (fun ha27 => ?_)
        clear hr0
        refine lv_iload_n hx hb dX3_sink_30 rfl (lv_at hl 3 rfl) ?_
        refine lv_iconst (v := (1 : Int32)) hx hb dX3_sink_31 (by decide) ?_
        refine lv_iadd hx hb dX3_sink_32 ?_
        obtain ⟨hn, h⟩ := h
        refine jaid hx hb hst w ha27 hn dX3_sink_33 ?_
        clear hn
        obtain ⟨hn, h⟩ := h
        refine jaid hx hb hst w ha23 hn dX3_sink_34 ?_
        clear hn
        refine lv_aload_n hx hb dX3_sink_35 rfl (lv_at hl 0 rfl) ?_
        obtain ⟨a36, hr0, h⟩ := h
        refine jgr (f := 0) hx hb hts hown hst w hG hx0 hiX3 (rfl : vwCl[3]? = some (RX3, TX3, 4)) (hts (.fieldLink RX3 9 "FootByGate$Heap" "least" "[I") (by decide +kernel)) ⟨by decide, by decide, rfl⟩ (rfl : jrt 3 0 = 13) dX3_sink_36 hr0 (fun ha36 => ?_)
        clear hr0
        refine lv_aload_n hx hb dX3_sink_39 rfl (lv_at hl 0 rfl) ?_
        obtain ⟨a40, hr0, h⟩ := h
        refine jgr (f := 1) hx hb hts hown hst w hG hx0 hiX3 (rfl : vwCl[3]? = some (RX3, TX3, 4)) (hts (.fieldLink RX3 15 "FootByGate$Heap" "heap" "[I") (by decide +kernel)) ⟨by decide, by decide, rfl⟩ (rfl : jrt 3 1 = 13) dX3_sink_40 hr0 (fun ha40 => ?_)
        clear hr0
        refine lv_iload_n hx hb dX3_sink_43 rfl (lv_at hl 3 rfl) ?_
        obtain ⟨hn, h⟩ := h
        refine jaid hx hb hst w ha40 hn dX3_sink_44 ?_
        clear hn
        obtain ⟨hn, h⟩ := h
        refine jaid hx hb hst w ha36 hn dX3_sink_45 ?_
        clear hn
        refine lv_icmp_ge (tgt := 52) hx hb dX3_sink_46 (by decide) (fun hc => ?_) (fun hc => ?_)
        · replace h := h.1 hc
          clear hc
          exact w_X3_sink_L52 C0 hr hlk (fun w hx0 hl h => ih w hx0 hl h) w hx0 (lv_sub hl [0, 1, 2, 3] rfl) h
        · replace h := h.2 hc
          clear hc
          obtain ⟨v49, he⟩ : ∃ z : Int32, z = x3 + (1 : Int32) := ⟨_, rfl⟩
          replace h := h v49 he
          refine lv_iinc (v := v49) (lv' := [(3, .int v49), (0, .ref (b + x0)), (1, .int x1), (2, .int x2)]) hx hb dX3_sink_49 hl (k := 3) rfl (by rw [he]; rfl) (by decide) rfl (fun ls hl => ?_)
          clear he
          exact w_X3_sink_L52 C0 hr hlk (fun w hx0 hl h => ih w hx0 hl h) w hx0 (lv_sub hl [1, 2, 3, 0] rfl) h
set_option maxHeartbeats 4000000 in
set_option maxRecDepth 100000 in
theorem c_X3_sink (hG : jG n K r) {i : jI} {j : jL} {x0 : Nat} {x1 : Int32} (hx0 : x0 < n ∧ K x0 = 3) (h : J_X3_sink len r Q i j x0 x1) : Met l yX3_sink wsX3_sink rm_X3_sink (va_Pc [.ref (b + x0), .int x1] (jPre b cy D tU n K len r i j)) (jQv b cy D tU n K len r Q) 0 0 (jA b) := by
  refine Met.ofW (cc := cX3_sink) (maxL := 4) (ret := none) (by decide) rfl ?_
  intro p e s m args below meth c s₁ B hml hv
  obtain ⟨rfl, hv⟩ := hv
  have C0 : jCx p s m _ c cX3_sink 4 wsX3_sink RX3 b cy D tU n K r := ⟨B.exec, B.bytes, hml, findClass_of_methodNamed B.named, atoms_spec (ws := wsX3_sink) B.pre, hv.2.2, hG⟩
  have hr := B.returns
  have hlk := B.notSynchronized
  obtain ⟨hx, hb, hml, hown, hts, hst, hG⟩ := id C0
  have hiX3 : ∀ w ∈ u_ws RX3 TX3 4, w ∈ wsX3_sink := hiX3_X3_sink
  have w := jDy.start hv
  have hl := lv_entry ([.ref (b + x0), .int x1]) (n := 4) (Nat.le_of_ble_eq_true rfl)
  rw [lg_entry_eq]
  generalize (lg_sl ([.ref (b + x0), .int x1]) ++ List.replicate (4 - (lg_sl ([.ref (b + x0), .int x1])).length) Slot.unset).toArray = ls at hl ⊢
  replace hl : lv_has ls 4 [(0, .ref (b + x0)), (1, .int x1)] := hl
  show W p l e rm_X3_sink s m _ below meth c s.heap [] 0 0 _ (F0 m 0 ls [])
  rw [J_X3_sink] at h
  refine lv_iconst (v := (0 : Int32)) hx hb dX3_sink_0 (by decide) ?_
  refine lv_istore_n (lv' := [(2, .int (0 : Int32)), (0, .ref (b + x0)), (1, .int x1)]) hx hb dX3_sink_1 rfl hl (by decide) rfl (fun ls hl => ?_)
  refine lv_iconst (v := (1 : Int32)) hx hb dX3_sink_2 (by decide) ?_
  refine lv_istore_n (lv' := [(3, .int (1 : Int32)), (2, .int (0 : Int32)), (0, .ref (b + x0)), (1, .int x1)]) hx hb dX3_sink_3 rfl hl (by decide) rfl (fun ls hl => ?_)
  obtain ⟨g0, h⟩ := h
  exact w_X3_sink_L4 C0 hr hlk g0 w hx0 (lv_sub hl [2, 3, 1, 0] rfl) h
end S_X3_sink
section S_X3_take
def J_X3_take_L53 (len : Nat → Nat) (r : jR) (Q : Int32 → jI → jL → Prop) (i : jI) (j : jL) (x1 : Int32) : Prop := Q x1 i j
def J_X3_take (len : Nat → Nat) (r : jR) (Q : Int32 → jI → jL → Prop) (i : jI) (j : jL) (x0 : Nat) : Prop := ((¬ (i x0 3) = 0) → (∃ a10, r x0 1 = some a10 ∧ (vp_in (0 : Int32) (len a10) ∧ (∀ v15 : Int32, v15 = i a10 (0 : Int32).toNatClampNeg → (∃ a17, r x0 2 = some a17 ∧ (vp_in v15 (len a17) ∧ ∀ i22 : jI, i22 = ju i a17 v15.toNatClampNeg (-1 : Int32) → (∀ i30 : jI, i30 = ju i22 x0 3 ((i22 x0 3) - (1 : Int32)) → ((((i30 x0 3) ≤ 0) → (J_X3_take_L53 len r Q i30 j v15)) ∧ ((¬ (i30 x0 3) ≤ 0) → (∃ a42, r x0 1 = some a42 ∧ (vp_in (i30 x0 3) (len a42) ∧ (J_X3_sink len r (fun (i50 : jI) (j50 : jL) => J_X3_take_L53 len r Q i50 j50 v15) i30 j x0 (i30 a42 (i30 x0 3).toNatClampNeg))))))))))))) ∧ (((i x0 3) = 0) → (Q (-1 : Int32) i j))
abbrev rm_X3_take : Room := { frames := 2, cells := 0, slots := 0, locals := 45 }
variable {p : Program} {l : Launch} {e : Env} {s : State} {m : MethodId} {args : Array Value} {below : List Frame} {meth : Method} {c : Code} {b tU n : Nat} {cy : Nat → ClassId} {D : va_G} {K len : Nat → Nat} {r : jR} {Q : Int32 → jI → jL → Prop}
theorem hiX3_X3_take : ∀ w ∈ u_ws RX3 TX3 4, w ∈ wsX3_take := by decide +kernel
set_option maxHeartbeats 4000000 in
set_option maxRecDepth 100000 in
theorem w_X3_take_L53 (C0 : jCx p s m args c cX3_take 2 wsX3_take RX3 b cy D tU n K r) (hr : meth.sig.returnType = some .int) (hlk : meth.locks = false) {H : Heap} {locs : List Loc} {ls : Array Slot} {i : jI} {j : jL} {x1 : Int32} (w : jDy b cy D n K len r i j s H locs) (hl : lv_has ls 2 [(1, .int x1)]) (h : J_X3_take_L53 len r Q i j x1) : W p l e rm_X3_take s m args below meth c H locs 0 0 (MQ below (jQi b cy D tU n K len r Q) args s 0 0 (jA b)) (F0 m 53 ls []) := by
  obtain ⟨hx, hb, hml, hown, hts, hst, hG⟩ := id C0
  have hiX3 : ∀ w ∈ u_ws RX3 TX3 4, w ∈ wsX3_take := hiX3_X3_take
  rw [J_X3_take_L53] at h
  refine lv_iload_n hx hb dX3_take_53 rfl (lv_at hl 0 rfl) ?_
  exact jret_i hx hb hr hlk hst w h dX3_take_54
set_option maxHeartbeats 4000000 in
set_option maxRecDepth 100000 in
theorem c_X3_take (hG : jG n K r) {i : jI} {j : jL} {x0 : Nat} (hx0 : x0 < n ∧ K x0 = 3) (h : J_X3_take len r Q i j x0) : Met l yX3_take wsX3_take rm_X3_take (va_Pc [.ref (b + x0)] (jPre b cy D tU n K len r i j)) (jQi b cy D tU n K len r Q) 0 0 (jA b) := by
  refine Met.ofW (cc := cX3_take) (maxL := 2) (ret := (some .int)) (by decide) rfl ?_
  intro p e s m args below meth c s₁ B hml hv
  obtain ⟨rfl, hv⟩ := hv
  have C0 : jCx p s m _ c cX3_take 2 wsX3_take RX3 b cy D tU n K r := ⟨B.exec, B.bytes, hml, findClass_of_methodNamed B.named, atoms_spec (ws := wsX3_take) B.pre, hv.2.2, hG⟩
  have hr := B.returns
  have hlk := B.notSynchronized
  obtain ⟨hx, hb, hml, hown, hts, hst, hG⟩ := id C0
  have hiX3 : ∀ w ∈ u_ws RX3 TX3 4, w ∈ wsX3_take := hiX3_X3_take
  have w := jDy.start hv
  have hl := lv_entry ([.ref (b + x0)]) (n := 2) (Nat.le_of_ble_eq_true rfl)
  rw [lg_entry_eq]
  generalize (lg_sl ([.ref (b + x0)]) ++ List.replicate (2 - (lg_sl ([.ref (b + x0)])).length) Slot.unset).toArray = ls at hl ⊢
  replace hl : lv_has ls 2 [(0, .ref (b + x0))] := hl
  show W p l e rm_X3_take s m _ below meth c s.heap [] 0 0 _ (F0 m 0 ls [])
  rw [J_X3_take] at h
  refine lv_aload_n hx hb dX3_take_0 rfl (lv_at hl 0 rfl) ?_
  refine jgi (f := 3) hx hb hts hown hst w hx0 hiX3 (rfl : vwCl[3]? = some (RX3, TX3, 4)) (hts (.fieldLink RX3 28 "FootByGate$Heap" "size" "I") (by decide +kernel)) ⟨by decide, by decide, rfl⟩ dX3_take_1 ?_
  refine lv_if_ne (tgt := 9) hx hb dX3_take_4 (by decide) (fun hc => ?_) (fun hc => ?_)
  · replace h := h.1 hc
    clear hc
    refine lv_aload_n hx hb dX3_take_9 rfl (lv_at hl 0 rfl) ?_
    obtain ⟨a10, hr0, h⟩ := h
    refine jgr (f := 1) hx hb hts hown hst w hG hx0 hiX3 (rfl : vwCl[3]? = some (RX3, TX3, 4)) (hts (.fieldLink RX3 15 "FootByGate$Heap" "heap" "[I") (by decide +kernel)) ⟨by decide, by decide, rfl⟩ (rfl : jrt 3 1 = 13) dX3_take_10 hr0 (fun ha10 => ?_)
    clear hr0
    refine lv_iconst (v := (0 : Int32)) hx hb dX3_take_13 (by decide) ?_
    obtain ⟨hn, h⟩ := h
    refine jaid hx hb hst w ha10 hn dX3_take_14 ?_
    clear hn
    refine lv_topi (fun v15 he => ?_)
    replace h := h v15 he
    clear he
    refine lv_istore_n (lv' := [(1, .int v15), (0, .ref (b + x0))]) hx hb dX3_take_15 rfl hl (by decide) rfl (fun ls hl => ?_)
    refine lv_aload_n hx hb dX3_take_16 rfl (lv_at hl 1 rfl) ?_
    obtain ⟨a17, hr0, h⟩ := h
    refine jgr (f := 2) hx hb hts hown hst w hG hx0 hiX3 (rfl : vwCl[3]? = some (RX3, TX3, 4)) (hts (.fieldLink RX3 18 "FootByGate$Heap" "seat" "[I") (by decide +kernel)) ⟨by decide, by decide, rfl⟩ (rfl : jrt 3 2 = 13) dX3_take_17 hr0 (fun ha17 => ?_)
    clear hr0
    refine lv_iload_n hx hb dX3_take_20 rfl (lv_at hl 0 rfl) ?_
    refine lv_iconst (v := (-1 : Int32)) hx hb dX3_take_21 (by decide) ?_
    obtain ⟨hn, h⟩ := h
    refine jais hx hb hst w ha17 hn dX3_take_22 (fun i22 H locs he w => ?_)
    replace h := h i22 he
    clear he hn
    refine lv_aload_n hx hb dX3_take_23 rfl (lv_at hl 1 rfl) ?_
    refine lv_dup hx hb dX3_take_24 rfl ?_
    refine jgi (f := 3) hx hb hts hown hst w hx0 hiX3 (rfl : vwCl[3]? = some (RX3, TX3, 4)) (hts (.fieldLink RX3 28 "FootByGate$Heap" "size" "I") (by decide +kernel)) ⟨by decide, by decide, rfl⟩ dX3_take_25 ?_
    refine lv_iconst (v := (1 : Int32)) hx hb dX3_take_28 (by decide) ?_
    refine lv_isub hx hb dX3_take_29 ?_
    refine jpi (f := 3) hx hb hts hown hst w hx0 hiX3 (rfl : vwCl[3]? = some (RX3, TX3, 4)) (hts (.fieldLink RX3 28 "FootByGate$Heap" "size" "I") (by decide +kernel)) ⟨by decide, by decide, rfl⟩ tyX3 tyX3_ok nmX3 rfl ⟨rfl, rfl⟩ dX3_take_30 (fun i30 H locs he w => ?_)
    replace h := h i30 he
    clear he
    refine lv_aload_n hx hb dX3_take_33 rfl (lv_at hl 1 rfl) ?_
    refine jgi (f := 3) hx hb hts hown hst w hx0 hiX3 (rfl : vwCl[3]? = some (RX3, TX3, 4)) (hts (.fieldLink RX3 28 "FootByGate$Heap" "size" "I") (by decide +kernel)) ⟨by decide, by decide, rfl⟩ dX3_take_34 ?_
    refine lv_if_le (tgt := 53) hx hb dX3_take_37 (by decide) (fun hc => ?_) (fun hc => ?_)
    · replace h := h.1 hc
      clear hc
      exact w_X3_take_L53 C0 hr hlk w (lv_sub hl [0] rfl) h
    · replace h := h.2 hc
      clear hc
      refine lv_aload_n hx hb dX3_take_40 rfl (lv_at hl 1 rfl) ?_
      refine lv_aload_n hx hb dX3_take_41 rfl (lv_at hl 1 rfl) ?_
      obtain ⟨a42, hr0, h⟩ := h
      refine jgr (f := 1) hx hb hts hown hst w hG hx0 hiX3 (rfl : vwCl[3]? = some (RX3, TX3, 4)) (hts (.fieldLink RX3 15 "FootByGate$Heap" "heap" "[I") (by decide +kernel)) ⟨by decide, by decide, rfl⟩ (rfl : jrt 3 1 = 13) dX3_take_42 hr0 (fun ha42 => ?_)
      clear hr0
      refine lv_aload_n hx hb dX3_take_45 rfl (lv_at hl 1 rfl) ?_
      refine jgi (f := 3) hx hb hts hown hst w hx0 hiX3 (rfl : vwCl[3]? = some (RX3, TX3, 4)) (hts (.fieldLink RX3 28 "FootByGate$Heap" "size" "I") (by decide +kernel)) ⟨by decide, by decide, rfl⟩ dX3_take_46 ?_
      obtain ⟨hn, h⟩ := h
      refine jaid hx hb hst w ha42 hn dX3_take_49 ?_
      clear hn
      refine jcV_v (k := x0) (As := [.int (i30 a42 (i30 x0 3).toNatClampNeg)]) (rest := []) C0 w (c_X3_sink hG hx0 h) (cwV 1 hts gX3_take_X3_sink rfl rfl rfl (by decide +kernel) ⟨Nat.le_of_ble_eq_true rfl, Nat.le_of_ble_eq_true rfl⟩) hx0 (rfl : vwCl[3]? = some (RX3, TX3, 4)) (by decide) rfl hl.1 rfl (Nat.le_of_ble_eq_true rfl) dX3_take_50 (fun i50 j50 H locs h w => ?_) ⟨Nat.zero_le _, Nat.zero_le _⟩
      exact w_X3_take_L53 C0 hr hlk w (lv_sub hl [0] rfl) h
  · replace h := h.2 hc
    clear hc
    refine lv_iconst (v := (-1 : Int32)) hx hb dX3_take_7 (by decide) ?_
    exact jret_i hx hb hr hlk hst w h dX3_take_8
end S_X3_take
section S_X0_leastTo
def J_X0_leastTo_L3 (len : Nat → Nat) (r : jR) (Q : Int32 → jI → jL → Prop) : Nat → jI → jL → Nat → Nat → Nat → Nat → Int32 → Int32 → Prop
  | 0 => fun _ _ _ _ _ _ _ _ => False
  | g + 1 => fun i j x0 x1 x2 x3 x4 x5 => (((3500 : Int32) ≤ x5) → (Q (-1 : Int32) i j)) ∧ ((¬ (3500 : Int32) ≤ x5) → (∃ a12, r x0 0 = some a12 ∧ (J_X3_take len r (fun (q15 : Int32) (i15 : jI) (j15 : jL) => ((¬ q15 = (-1 : Int32)) → (∃ a29, r x0 1 = some a29 ∧ (vp_in q15 (len a29) ∧ (J_X7_placeOf len r (fun (q39 : Int32) (i39 : jI) (j39 : jL) => ((¬ q39 = x4) → (J_X0_offerNext len r (fun (i63 : jI) (j63 : jL) => ∀ v66 : Int32, v66 = x5 + (1 : Int32) → ((J_X0_leastTo_L3 len r Q g) i63 j63 x0 x1 x2 x3 x4 v66)) i39 j39 x0 x1 x2 x3 q15)) ∧ ((q39 = x4) → (∃ a48, r x0 0 = some a48 ∧ (J_X3_costOf len r (fun (q53 : Int32) (i53 : jI) (j53 : jL) => Q q53 i53 j53) i39 j39 a48 q15)))) i15 j15 ((i15 a29 q15.toNatClampNeg) / (896 : Int32)))))) ∧ ((q15 = (-1 : Int32)) → (Q (-1 : Int32) i15 j15))) i j a12)))
def J_X0_leastTo (len : Nat → Nat) (r : jR) (Q : Int32 → jI → jL → Prop) (i : jI) (j : jL) (x0 : Nat) (x1 : Nat) (x2 : Nat) (x3 : Nat) (x4 : Int32) : Prop := ∃ g0, J_X0_leastTo_L3 len r Q g0 i j x0 x1 x2 x3 x4 (0 : Int32)
abbrev rm_X0_leastTo : Room := { frames := 4, cells := 0, slots := 0, locals := 100 }
variable {p : Program} {l : Launch} {e : Env} {s : State} {m : MethodId} {args : Array Value} {below : List Frame} {meth : Method} {c : Code} {b tU n : Nat} {cy : Nat → ClassId} {D : va_G} {K len : Nat → Nat} {r : jR} {Q : Int32 → jI → jL → Prop}
theorem hiX0_X0_leastTo : ∀ w ∈ u_ws RX0 TX0 2, w ∈ wsX0_leastTo := by decide +kernel
set_option maxHeartbeats 4000000 in
set_option maxRecDepth 100000 in
theorem w_X0_leastTo_L3 (C0 : jCx p s m args c cX0_leastTo 7 wsX0_leastTo RX0 b cy D tU n K r) (hr : meth.sig.returnType = some .int) (hlk : meth.locks = false) : ∀ (g : Nat) {H : Heap} {locs : List Loc} {ls : Array Slot} {i : jI} {j : jL} {x0 : Nat} {x1 : Nat} {x2 : Nat} {x3 : Nat} {x4 : Int32} {x5 : Int32} (w : jDy b cy D n K len r i j s H locs) (hx0 : x0 < n ∧ K x0 = 0) (hx1 : x1 < n ∧ K x1 = 7) (hx2 : x2 < n ∧ K x2 = 2) (hx3 : x3 < n ∧ K x3 = 2) (hl : lv_has ls 7 [(0, .ref (b + x0)), (1, .ref (b + x1)), (2, .ref (b + x2)), (3, .ref (b + x3)), (4, .int x4), (5, .int x5)]) (h : J_X0_leastTo_L3 len r Q g i j x0 x1 x2 x3 x4 x5), W p l e rm_X0_leastTo s m args below meth c H locs 0 0 (MQ below (jQi b cy D tU n K len r Q) args s 0 0 (jA b)) (F0 m 3 ls []) := by
  obtain ⟨hx, hb, hml, hown, hts, hst, hG⟩ := id C0
  have hiX0 : ∀ w ∈ u_ws RX0 TX0 2, w ∈ wsX0_leastTo := hiX0_X0_leastTo
  intro g
  induction g with
  | zero => intro H locs ls i j x0 x1 x2 x3 x4 x5 w hx0 hx1 hx2 hx3 hl h; exact False.elim h
  | succ g ih =>
    intro H locs ls i j x0 x1 x2 x3 x4 x5 w hx0 hx1 hx2 hx3 hl h
    rw [J_X0_leastTo_L3] at h
    refine lv_iload hx hb dX0_leastTo_3 (lv_at hl 5 rfl) ?_
    refine lv_sipush (v := (3500 : Int32)) hx hb dX0_leastTo_5 (by decide) ?_
    refine lv_icmp_ge (tgt := 72) hx hb dX0_leastTo_8 (by decide) (fun hc => ?_) (fun hc => ?_)
    · replace h := h.1 hc
      clear hc
      refine lv_iconst (v := (-1 : Int32)) hx hb dX0_leastTo_72 (by decide) ?_
      exact jret_i hx hb hr hlk hst w h dX0_leastTo_73
    · replace h := h.2 hc
      clear hc
      refine lv_aload_n hx hb dX0_leastTo_11 rfl (lv_at hl 0 rfl) ?_
      obtain ⟨a12, hr0, h⟩ := h
      refine jgr (f := 0) hx hb hts hown hst w hG hx0 hiX0 (rfl : vwCl[0]? = some (RX0, TX0, 2)) (hts (.fieldLink RX0 16 "FootByGate$Arms" "heap" "LFootByGate$Heap;") (by decide +kernel)) ⟨by decide, by decide, rfl⟩ (rfl : jrt 0 0 = 3) dX0_leastTo_12 hr0 (fun ha12 => ?_)
      clear hr0
      refine jcV_i (k := a12) (As := []) (rest := []) C0 w (c_X3_take hG ha12 h) (cwV 0 hts gX0_leastTo_X3_take rfl rfl rfl (by decide +kernel) ⟨Nat.le_of_ble_eq_true rfl, Nat.le_of_ble_eq_true rfl⟩) ha12 (rfl : vwCl[3]? = some (RX3, TX3, 4)) (by decide) rfl hl.1 rfl (Nat.le_of_ble_eq_true rfl) dX0_leastTo_15 (fun q15 i15 j15 H locs h w => ?_) ⟨Nat.zero_le _, Nat.zero_le _⟩
      refine lv_istore (lv' := [(6, .int q15), (0, .ref (b + x0)), (1, .ref (b + x1)), (2, .ref (b + x2)), (3, .ref (b + x3)), (4, .int x4), (5, .int x5)]) hx hb dX0_leastTo_18 hl (by decide) rfl (fun ls hl => ?_)
      refine lv_iload hx hb dX0_leastTo_20 (lv_at hl 0 rfl) ?_
      refine lv_iconst (v := (-1 : Int32)) hx hb dX0_leastTo_22 (by decide) ?_
      refine lv_icmp_ne (tgt := 28) hx hb dX0_leastTo_23 (by decide) (fun hc => ?_) (fun hc => ?_)
      · replace h := h.1 hc
        clear hc
        refine lv_aload_n hx hb dX0_leastTo_28 rfl (lv_at hl 1 rfl) ?_
        obtain ⟨a29, hr0, h⟩ := h
        refine jgr (f := 1) hx hb hts hown hst w hG hx0 hiX0 (rfl : vwCl[0]? = some (RX0, TX0, 2)) (hts (.fieldLink RX0 20 "FootByGate$Arms" "stands" "[I") (by decide +kernel)) ⟨by decide, by decide, rfl⟩ (rfl : jrt 0 1 = 13) dX0_leastTo_29 hr0 (fun ha29 => ?_)
        clear hr0
        refine lv_iload hx hb dX0_leastTo_32 (lv_at hl 0 rfl) ?_
        obtain ⟨hn, h⟩ := h
        refine jaid hx hb hst w ha29 hn dX0_leastTo_34 ?_
        clear hn
        refine lv_sipush (v := (896 : Int32)) hx hb dX0_leastTo_35 (by decide) ?_
        refine lv_idiv hx hb dX0_leastTo_38 (by decide) ?_
        refine jcS_i (As := [.int ((i15 a29 q15.toNatClampNeg) / (896 : Int32))]) (rest := []) C0 w (c_X7_placeOf hG h) (va_cwS 1 hts gX0_leastTo_X7_placeOf rfl rfl rfl (by decide +kernel) ⟨Nat.le_of_ble_eq_true rfl, Nat.le_of_ble_eq_true rfl⟩) rfl hl.1 rfl (Nat.le_of_ble_eq_true rfl) dX0_leastTo_39 (fun q39 i39 j39 H locs h w => ?_) ⟨Nat.zero_le _, Nat.zero_le _⟩
        refine lv_iload hx hb dX0_leastTo_42 (lv_at hl 5 rfl) ?_
        refine lv_icmp_ne (tgt := 57) hx hb dX0_leastTo_44 (by decide) (fun hc => ?_) (fun hc => ?_)
        · replace h := h.1 hc
          clear hc
          refine lv_aload_n hx hb dX0_leastTo_57 rfl (lv_at hl 1 rfl) ?_
          refine lv_aload_n hx hb dX0_leastTo_58 rfl (lv_at hl 2 rfl) ?_
          refine lv_aload_n hx hb dX0_leastTo_59 rfl (lv_at hl 3 rfl) ?_
          refine lv_aload_n hx hb dX0_leastTo_60 rfl (lv_at hl 4 rfl) ?_
          refine lv_iload hx hb dX0_leastTo_61 (lv_at hl 0 rfl) ?_
          refine jcV_v (k := x0) (As := [.ref (b + x1), .ref (b + x2), .ref (b + x3), .int q15]) (rest := []) C0 w (c_X0_offerNext hG hx0 hx1 hx2 hx3 h) (cwV 4 hts gX0_leastTo_X0_offerNext rfl rfl rfl (by decide +kernel) ⟨Nat.le_of_ble_eq_true rfl, Nat.le_of_ble_eq_true rfl⟩) hx0 (rfl : vwCl[0]? = some (RX0, TX0, 2)) (by decide) rfl hl.1 rfl (Nat.le_of_ble_eq_true rfl) dX0_leastTo_63 (fun i63 j63 H locs h w => ?_) ⟨Nat.zero_le _, Nat.zero_le _⟩
          obtain ⟨v66, he⟩ : ∃ z : Int32, z = x5 + (1 : Int32) := ⟨_, rfl⟩
          replace h := h v66 he
          refine lv_iinc (v := v66) (lv' := [(5, .int v66), (6, .int q15), (0, .ref (b + x0)), (1, .ref (b + x1)), (2, .ref (b + x2)), (3, .ref (b + x3)), (4, .int x4)]) hx hb dX0_leastTo_66 hl (k := 6) rfl (by rw [he]; rfl) (by decide) rfl (fun ls hl => ?_)
          clear he
          refine lv_goto (tgt := 3) hx hb dX0_leastTo_69 (by decide) ?_
          exact ih w hx0 hx1 hx2 hx3 (lv_sub hl [2, 3, 4, 5, 6, 0] rfl) h
        · replace h := h.2 hc
          clear hc
          refine lv_aload_n hx hb dX0_leastTo_47 rfl (lv_at hl 1 rfl) ?_
          obtain ⟨a48, hr0, h⟩ := h
          refine jgr (f := 0) hx hb hts hown hst w hG hx0 hiX0 (rfl : vwCl[0]? = some (RX0, TX0, 2)) (hts (.fieldLink RX0 16 "FootByGate$Arms" "heap" "LFootByGate$Heap;") (by decide +kernel)) ⟨by decide, by decide, rfl⟩ (rfl : jrt 0 0 = 3) dX0_leastTo_48 hr0 (fun ha48 => ?_)
          clear hr0
          refine lv_iload hx hb dX0_leastTo_51 (lv_at hl 0 rfl) ?_
          refine jcV_i (k := a48) (As := [.int q15]) (rest := []) C0 w (c_X3_costOf hG ha48 h) (cwV 1 hts gX0_leastTo_X3_costOf rfl rfl rfl (by decide +kernel) ⟨Nat.le_of_ble_eq_true rfl, Nat.le_of_ble_eq_true rfl⟩) ha48 (rfl : vwCl[3]? = some (RX3, TX3, 4)) (by decide) rfl hl.1 rfl (Nat.le_of_ble_eq_true rfl) dX0_leastTo_53 (fun q53 i53 j53 H locs h w => ?_) ⟨Nat.zero_le _, Nat.zero_le _⟩
          exact jret_i hx hb hr hlk hst w h dX0_leastTo_56
      · replace h := h.2 hc
        clear hc
        refine lv_iconst (v := (-1 : Int32)) hx hb dX0_leastTo_26 (by decide) ?_
        exact jret_i hx hb hr hlk hst w h dX0_leastTo_27
set_option maxHeartbeats 4000000 in
set_option maxRecDepth 100000 in
theorem c_X0_leastTo (hG : jG n K r) {i : jI} {j : jL} {x0 : Nat} {x1 : Nat} {x2 : Nat} {x3 : Nat} {x4 : Int32} (hx0 : x0 < n ∧ K x0 = 0) (hx1 : x1 < n ∧ K x1 = 7) (hx2 : x2 < n ∧ K x2 = 2) (hx3 : x3 < n ∧ K x3 = 2) (h : J_X0_leastTo len r Q i j x0 x1 x2 x3 x4) : Met l yX0_leastTo wsX0_leastTo rm_X0_leastTo (va_Pc [.ref (b + x0), .ref (b + x1), .ref (b + x2), .ref (b + x3), .int x4] (jPre b cy D tU n K len r i j)) (jQi b cy D tU n K len r Q) 0 0 (jA b) := by
  refine Met.ofW (cc := cX0_leastTo) (maxL := 7) (ret := (some .int)) (by decide) rfl ?_
  intro p e s m args below meth c s₁ B hml hv
  obtain ⟨rfl, hv⟩ := hv
  have C0 : jCx p s m _ c cX0_leastTo 7 wsX0_leastTo RX0 b cy D tU n K r := ⟨B.exec, B.bytes, hml, findClass_of_methodNamed B.named, atoms_spec (ws := wsX0_leastTo) B.pre, hv.2.2, hG⟩
  have hr := B.returns
  have hlk := B.notSynchronized
  obtain ⟨hx, hb, hml, hown, hts, hst, hG⟩ := id C0
  have hiX0 : ∀ w ∈ u_ws RX0 TX0 2, w ∈ wsX0_leastTo := hiX0_X0_leastTo
  have w := jDy.start hv
  have hl := lv_entry ([.ref (b + x0), .ref (b + x1), .ref (b + x2), .ref (b + x3), .int x4]) (n := 7) (Nat.le_of_ble_eq_true rfl)
  rw [lg_entry_eq]
  generalize (lg_sl ([.ref (b + x0), .ref (b + x1), .ref (b + x2), .ref (b + x3), .int x4]) ++ List.replicate (7 - (lg_sl ([.ref (b + x0), .ref (b + x1), .ref (b + x2), .ref (b + x3), .int x4])).length) Slot.unset).toArray = ls at hl ⊢
  replace hl : lv_has ls 7 [(0, .ref (b + x0)), (1, .ref (b + x1)), (2, .ref (b + x2)), (3, .ref (b + x3)), (4, .int x4)] := hl
  show W p l e rm_X0_leastTo s m _ below meth c s.heap [] 0 0 _ (F0 m 0 ls [])
  rw [J_X0_leastTo] at h
  refine lv_iconst (v := (0 : Int32)) hx hb dX0_leastTo_0 (by decide) ?_
  refine lv_istore (lv' := [(5, .int (0 : Int32)), (0, .ref (b + x0)), (1, .ref (b + x1)), (2, .ref (b + x2)), (3, .ref (b + x3)), (4, .int x4)]) hx hb dX0_leastTo_1 hl (by decide) rfl (fun ls hl => ?_)
  obtain ⟨g0, h⟩ := h
  exact w_X0_leastTo_L3 C0 hr hlk g0 w hx0 hx1 hx2 hx3 (lv_sub hl [1, 2, 3, 4, 5, 0] rfl) h
end S_X0_leastTo
section S_X3_clear
def J_X3_clear (len : Nat → Nat) (r : jR) (Q : jI → jL → Prop) (i : jI) (j : jL) (x0 : Nat) : Prop := ∃ a1, r x0 0 = some a1 ∧ (J_J7_fill_53178 len r (fun (i6 : jI) (j6 : jL) => ∃ a10, r x0 2 = some a10 ∧ (J_J7_fill_53178 len r (fun (i14 : jI) (j14 : jL) => ∀ i19 : jI, i19 = ju i14 x0 3 (0 : Int32) → (Q i19 j14)) i6 j6 a10 (-1 : Int32))) i j a1 (1073741824 : Int32))
abbrev rm_X3_clear : Room := { frames := 1, cells := 0, slots := 0, locals := 23 }
variable {p : Program} {l : Launch} {e : Env} {s : State} {m : MethodId} {args : Array Value} {below : List Frame} {meth : Method} {c : Code} {b tU n : Nat} {cy : Nat → ClassId} {D : va_G} {K len : Nat → Nat} {r : jR} {Q : jI → jL → Prop}
theorem hiX3_X3_clear : ∀ w ∈ u_ws RX3 TX3 4, w ∈ wsX3_clear := by decide +kernel
set_option maxHeartbeats 4000000 in
set_option maxRecDepth 100000 in
theorem c_X3_clear (hG : jG n K r) {i : jI} {j : jL} {x0 : Nat} (hx0 : x0 < n ∧ K x0 = 3) (h : J_X3_clear len r Q i j x0) : Met l yX3_clear wsX3_clear rm_X3_clear (va_Pc [.ref (b + x0)] (jPre b cy D tU n K len r i j)) (jQv b cy D tU n K len r Q) 0 0 (jA b) := by
  refine Met.ofW (cc := cX3_clear) (maxL := 1) (ret := none) (by decide) rfl ?_
  intro p e s m args below meth c s₁ B hml hv
  obtain ⟨rfl, hv⟩ := hv
  have C0 : jCx p s m _ c cX3_clear 1 wsX3_clear RX3 b cy D tU n K r := ⟨B.exec, B.bytes, hml, findClass_of_methodNamed B.named, atoms_spec (ws := wsX3_clear) B.pre, hv.2.2, hG⟩
  have hr := B.returns
  have hlk := B.notSynchronized
  obtain ⟨hx, hb, hml, hown, hts, hst, hG⟩ := id C0
  have hiX3 : ∀ w ∈ u_ws RX3 TX3 4, w ∈ wsX3_clear := hiX3_X3_clear
  have w := jDy.start hv
  have hl := lv_entry ([.ref (b + x0)]) (n := 1) (Nat.le_of_ble_eq_true rfl)
  rw [lg_entry_eq]
  generalize (lg_sl ([.ref (b + x0)]) ++ List.replicate (1 - (lg_sl ([.ref (b + x0)])).length) Slot.unset).toArray = ls at hl ⊢
  replace hl : lv_has ls 1 [(0, .ref (b + x0))] := hl
  show W p l e rm_X3_clear s m _ below meth c s.heap [] 0 0 _ (F0 m 0 ls [])
  rw [J_X3_clear] at h
  refine lv_aload_n hx hb dX3_clear_0 rfl (lv_at hl 0 rfl) ?_
  obtain ⟨a1, hr0, h⟩ := h
  refine jgr (f := 0) hx hb hts hown hst w hG hx0 hiX3 (rfl : vwCl[3]? = some (RX3, TX3, 4)) (hts (.fieldLink RX3 9 "FootByGate$Heap" "least" "[I") (by decide +kernel)) ⟨by decide, by decide, rfl⟩ (rfl : jrt 3 0 = 13) dX3_clear_1 hr0 (fun ha1 => ?_)
  clear hr0
  refine lv_ldc hx hb hown (hts (.constant RX3 21 (1073741824)) (by decide +kernel)) dX3_clear_4 ?_
  refine jcS_v (As := [.ref (b + a1), .int (1073741824 : Int32)]) (rest := []) C0 w (c_J7_fill_53178 hG ha1 h) (va_cwS 2 hts gX3_clear_J7_fill_53178 rfl rfl rfl (by decide +kernel) ⟨Nat.le_of_ble_eq_true rfl, Nat.le_of_ble_eq_true rfl⟩) rfl hl.1 rfl (Nat.le_of_ble_eq_true rfl) dX3_clear_6 (fun i6 j6 H locs h w => ?_) ⟨Nat.zero_le _, Nat.zero_le _⟩
  refine lv_aload_n hx hb dX3_clear_9 rfl (lv_at hl 0 rfl) ?_
  obtain ⟨a10, hr0, h⟩ := h
  refine jgr (f := 2) hx hb hts hown hst w hG hx0 hiX3 (rfl : vwCl[3]? = some (RX3, TX3, 4)) (hts (.fieldLink RX3 18 "FootByGate$Heap" "seat" "[I") (by decide +kernel)) ⟨by decide, by decide, rfl⟩ (rfl : jrt 3 2 = 13) dX3_clear_10 hr0 (fun ha10 => ?_)
  clear hr0
  refine lv_iconst (v := (-1 : Int32)) hx hb dX3_clear_13 (by decide) ?_
  refine jcS_v (As := [.ref (b + a10), .int (-1 : Int32)]) (rest := []) C0 w (c_J7_fill_53178 hG ha10 h) (va_cwS 2 hts gX3_clear_J7_fill_53178 rfl rfl rfl (by decide +kernel) ⟨Nat.le_of_ble_eq_true rfl, Nat.le_of_ble_eq_true rfl⟩) rfl hl.1 rfl (Nat.le_of_ble_eq_true rfl) dX3_clear_14 (fun i14 j14 H locs h w => ?_) ⟨Nat.zero_le _, Nat.zero_le _⟩
  refine lv_aload_n hx hb dX3_clear_17 rfl (lv_at hl 0 rfl) ?_
  refine lv_iconst (v := (0 : Int32)) hx hb dX3_clear_18 (by decide) ?_
  refine jpi (f := 3) hx hb hts hown hst w hx0 hiX3 (rfl : vwCl[3]? = some (RX3, TX3, 4)) (hts (.fieldLink RX3 28 "FootByGate$Heap" "size" "I") (by decide +kernel)) ⟨by decide, by decide, rfl⟩ tyX3 tyX3_ok nmX3 rfl ⟨rfl, rfl⟩ dX3_clear_19 (fun i19 H locs he w => ?_)
  replace h := h i19 he
  clear he
  exact jret_v hx hb hr hlk hst w h dX3_clear_22
end S_X3_clear
section S_X0_start
def J_X0_start (len : Nat → Nat) (r : jR) (Q : jI → jL → Prop) (i : jI) (j : jL) (x0 : Nat) (x1 : Int32) (x2 : Int32) : Prop := ∃ a1, r x0 0 = some a1 ∧ (J_X3_clear len r (fun (i4 : jI) (j4 : jL) => J_X0_offer len r (fun (i11 : jI) (j11 : jL) => Q i11 j11) i4 j4 x0 x1 x2 (0 : Int32)) i j a1)
abbrev rm_X0_start : Room := { frames := 3, cells := 0, slots := 0, locals := 71 }
variable {p : Program} {l : Launch} {e : Env} {s : State} {m : MethodId} {args : Array Value} {below : List Frame} {meth : Method} {c : Code} {b tU n : Nat} {cy : Nat → ClassId} {D : va_G} {K len : Nat → Nat} {r : jR} {Q : jI → jL → Prop}
theorem hiX0_X0_start : ∀ w ∈ u_ws RX0 TX0 2, w ∈ wsX0_start := by decide +kernel
set_option maxHeartbeats 4000000 in
set_option maxRecDepth 100000 in
theorem c_X0_start (hG : jG n K r) {i : jI} {j : jL} {x0 : Nat} {x1 : Int32} {x2 : Int32} (hx0 : x0 < n ∧ K x0 = 0) (h : J_X0_start len r Q i j x0 x1 x2) : Met l yX0_start wsX0_start rm_X0_start (va_Pc [.ref (b + x0), .int x1, .int x2] (jPre b cy D tU n K len r i j)) (jQv b cy D tU n K len r Q) 0 0 (jA b) := by
  refine Met.ofW (cc := cX0_start) (maxL := 3) (ret := none) (by decide) rfl ?_
  intro p e s m args below meth c s₁ B hml hv
  obtain ⟨rfl, hv⟩ := hv
  have C0 : jCx p s m _ c cX0_start 3 wsX0_start RX0 b cy D tU n K r := ⟨B.exec, B.bytes, hml, findClass_of_methodNamed B.named, atoms_spec (ws := wsX0_start) B.pre, hv.2.2, hG⟩
  have hr := B.returns
  have hlk := B.notSynchronized
  obtain ⟨hx, hb, hml, hown, hts, hst, hG⟩ := id C0
  have hiX0 : ∀ w ∈ u_ws RX0 TX0 2, w ∈ wsX0_start := hiX0_X0_start
  have w := jDy.start hv
  have hl := lv_entry ([.ref (b + x0), .int x1, .int x2]) (n := 3) (Nat.le_of_ble_eq_true rfl)
  rw [lg_entry_eq]
  generalize (lg_sl ([.ref (b + x0), .int x1, .int x2]) ++ List.replicate (3 - (lg_sl ([.ref (b + x0), .int x1, .int x2])).length) Slot.unset).toArray = ls at hl ⊢
  replace hl : lv_has ls 3 [(0, .ref (b + x0)), (1, .int x1), (2, .int x2)] := hl
  show W p l e rm_X0_start s m _ below meth c s.heap [] 0 0 _ (F0 m 0 ls [])
  rw [J_X0_start] at h
  refine lv_aload_n hx hb dX0_start_0 rfl (lv_at hl 0 rfl) ?_
  obtain ⟨a1, hr0, h⟩ := h
  refine jgr (f := 0) hx hb hts hown hst w hG hx0 hiX0 (rfl : vwCl[0]? = some (RX0, TX0, 2)) (hts (.fieldLink RX0 16 "FootByGate$Arms" "heap" "LFootByGate$Heap;") (by decide +kernel)) ⟨by decide, by decide, rfl⟩ (rfl : jrt 0 0 = 3) dX0_start_1 hr0 (fun ha1 => ?_)
  clear hr0
  refine jcV_v (k := a1) (As := []) (rest := []) C0 w (c_X3_clear hG ha1 h) (cwV 0 hts gX0_start_X3_clear rfl rfl rfl (by decide +kernel) ⟨Nat.le_of_ble_eq_true rfl, Nat.le_of_ble_eq_true rfl⟩) ha1 (rfl : vwCl[3]? = some (RX3, TX3, 4)) (by decide) rfl hl.1 rfl (Nat.le_of_ble_eq_true rfl) dX0_start_4 (fun i4 j4 H locs h w => ?_) ⟨Nat.zero_le _, Nat.zero_le _⟩
  refine lv_aload_n hx hb dX0_start_7 rfl (lv_at hl 0 rfl) ?_
  refine lv_iload_n hx hb dX0_start_8 rfl (lv_at hl 1 rfl) ?_
  refine lv_iload_n hx hb dX0_start_9 rfl (lv_at hl 2 rfl) ?_
  refine lv_iconst (v := (0 : Int32)) hx hb dX0_start_10 (by decide) ?_
  refine jcV_v (k := x0) (As := [.int x1, .int x2, .int (0 : Int32)]) (rest := []) C0 w (c_X0_offer hG hx0 h) (cwV 3 hts gX0_start_X0_offer rfl rfl rfl (by decide +kernel) ⟨Nat.le_of_ble_eq_true rfl, Nat.le_of_ble_eq_true rfl⟩) hx0 (rfl : vwCl[0]? = some (RX0, TX0, 2)) (by decide) rfl hl.1 rfl (Nat.le_of_ble_eq_true rfl) dX0_start_11 (fun i11 j11 H locs h w => ?_) ⟨Nat.zero_le _, Nat.zero_le _⟩
  exact jret_v hx hb hr hlk hst w h dX0_start_14
end S_X0_start
section S_X10_offerNext
def J_X10_offerNext_L59 (len : Nat → Nat) (r : jR) (Q : jI → jL → Prop) (Hd3 : jI → jL → Nat → Nat → Nat → Int32 → Int32 → Prop) (i : jI) (j : jL) (x0 : Nat) (x1 : Nat) (x2 : Nat) (x3 : Int32) (x4 : Int32) : Prop := ∀ v59 : Int32, v59 = x4 + (1 : Int32) → (Hd3 i j x0 x1 x2 x3 v59)
def J_X10_offerNext_L3 (len : Nat → Nat) (r : jR) (Q : jI → jL → Prop) : Nat → jI → jL → Nat → Nat → Nat → Int32 → Int32 → Prop
  | 0 => fun _ _ _ _ _ _ _ => False
  | g + 1 => fun i j x0 x1 x2 x3 x4 => (((i x1 0) ≤ x4) → (Q i j)) ∧ ((¬ (i x1 0) ≤ x4) → (∃ a17, r x2 1 = some a17 ∧ (vp_in x4 (len a17) ∧ (J_X8_behind len r (fun (q23 : Int32) (i23 : jI) (j23 : jL) => ((q23 = (-1 : Int32)) → (J_X10_offerNext_L59 len r Q (J_X10_offerNext_L3 len r Q g) i23 j23 x0 x1 x2 x3 x4)) ∧ ((¬ q23 = (-1 : Int32)) → (∃ a35, r x0 0 = some a35 ∧ (∃ a41, r x0 0 = some a41 ∧ (J_X3_costOf len r (fun (q45 : Int32) (i45 : jI) (j45 : jL) => ∃ a49, r x2 0 = some a49 ∧ (vp_in x4 (len a49) ∧ (J_X3_offer len r (fun (i56 : jI) (j56 : jL) => J_X10_offerNext_L59 len r Q (J_X10_offerNext_L3 len r Q g) i56 j56 x0 x1 x2 x3 x4) i45 j45 a35 q23 (q45 + (i45 a49 x4.toNatClampNeg))))) i23 j23 a41 x3))))) i j x1 x3 x4 (i a17 x4.toNatClampNeg)))))
def J_X10_offerNext (len : Nat → Nat) (r : jR) (Q : jI → jL → Prop) (i : jI) (j : jL) (x0 : Nat) (x1 : Nat) (x2 : Nat) (x3 : Int32) : Prop := ∃ g0, J_X10_offerNext_L3 len r Q g0 i j x0 x1 x2 x3 (0 : Int32)
abbrev rm_X10_offerNext : Room := { frames := 2, cells := 0, slots := 0, locals := 49 }
variable {p : Program} {l : Launch} {e : Env} {s : State} {m : MethodId} {args : Array Value} {below : List Frame} {meth : Method} {c : Code} {b tU n : Nat} {cy : Nat → ClassId} {D : va_G} {K len : Nat → Nat} {r : jR} {Q : jI → jL → Prop}
theorem hiX10_X10_offerNext : ∀ w ∈ u_ws RX10 TX10 1, w ∈ wsX10_offerNext := by decide +kernel
theorem hiX2_X10_offerNext : ∀ w ∈ u_ws RX2 TX2 2, w ∈ wsX10_offerNext := by decide +kernel
theorem hiX8_X10_offerNext : ∀ w ∈ u_ws RX8 TX8 8, w ∈ wsX10_offerNext := by decide +kernel
set_option maxHeartbeats 4000000 in
set_option maxRecDepth 100000 in
theorem w_X10_offerNext_L59 (C0 : jCx p s m args c cX10_offerNext 6 wsX10_offerNext RX10 b cy D tU n K r) (hr : meth.sig.returnType = none) (hlk : meth.locks = false) {Hd3 : jI → jL → Nat → Nat → Nat → Int32 → Int32 → Prop} (k3 : ∀ {H : Heap} {locs : List Loc} {ls : Array Slot} {i : jI} {j : jL} {x0 : Nat} {x1 : Nat} {x2 : Nat} {x3 : Int32} {x4 : Int32} (w : jDy b cy D n K len r i j s H locs) (hx0 : x0 < n ∧ K x0 = 9) (hx1 : x1 < n ∧ K x1 = 7) (hx2 : x2 < n ∧ K x2 = 2) (hl : lv_has ls 6 [(0, .ref (b + x0)), (1, .ref (b + x1)), (2, .ref (b + x2)), (3, .int x3), (4, .int x4)]) (h : Hd3 i j x0 x1 x2 x3 x4), W p l e rm_X10_offerNext s m args below meth c H locs 0 0 (MQ below (jQv b cy D tU n K len r Q) args s 0 0 (jA b)) (F0 m 3 ls [])) {H : Heap} {locs : List Loc} {ls : Array Slot} {i : jI} {j : jL} {x0 : Nat} {x1 : Nat} {x2 : Nat} {x3 : Int32} {x4 : Int32} (w : jDy b cy D n K len r i j s H locs) (hx0 : x0 < n ∧ K x0 = 9) (hx1 : x1 < n ∧ K x1 = 7) (hx2 : x2 < n ∧ K x2 = 2) (hl : lv_has ls 6 [(0, .ref (b + x0)), (1, .ref (b + x1)), (2, .ref (b + x2)), (3, .int x3), (4, .int x4)]) (h : J_X10_offerNext_L59 len r Q Hd3 i j x0 x1 x2 x3 x4) : W p l e rm_X10_offerNext s m args below meth c H locs 0 0 (MQ below (jQv b cy D tU n K len r Q) args s 0 0 (jA b)) (F0 m 59 ls []) := by
  obtain ⟨hx, hb, hml, hown, hts, hst, hG⟩ := id C0
  have hiX10 : ∀ w ∈ u_ws RX10 TX10 1, w ∈ wsX10_offerNext := hiX10_X10_offerNext
  have hiX2 : ∀ w ∈ u_ws RX2 TX2 2, w ∈ wsX10_offerNext := hiX2_X10_offerNext
  have hiX8 : ∀ w ∈ u_ws RX8 TX8 8, w ∈ wsX10_offerNext := hiX8_X10_offerNext
  rw [J_X10_offerNext_L59] at h
  obtain ⟨v59, he⟩ : ∃ z : Int32, z = x4 + (1 : Int32) := ⟨_, rfl⟩
  replace h := h v59 he
  refine lv_iinc (v := v59) (lv' := [(4, .int v59), (0, .ref (b + x0)), (1, .ref (b + x1)), (2, .ref (b + x2)), (3, .int x3)]) hx hb dX10_offerNext_59 hl (k := 4) rfl (by rw [he]; rfl) (by decide) rfl (fun ls hl => ?_)
  clear he
  refine lv_goto (tgt := 3) hx hb dX10_offerNext_62 (by decide) ?_
  exact k3 w hx0 hx1 hx2 (lv_sub hl [1, 2, 3, 4, 0] rfl) h
set_option maxHeartbeats 4000000 in
set_option maxRecDepth 100000 in
theorem w_X10_offerNext_L3 (C0 : jCx p s m args c cX10_offerNext 6 wsX10_offerNext RX10 b cy D tU n K r) (hr : meth.sig.returnType = none) (hlk : meth.locks = false) : ∀ (g : Nat) {H : Heap} {locs : List Loc} {ls : Array Slot} {i : jI} {j : jL} {x0 : Nat} {x1 : Nat} {x2 : Nat} {x3 : Int32} {x4 : Int32} (w : jDy b cy D n K len r i j s H locs) (hx0 : x0 < n ∧ K x0 = 9) (hx1 : x1 < n ∧ K x1 = 7) (hx2 : x2 < n ∧ K x2 = 2) (hl : lv_has ls 6 [(0, .ref (b + x0)), (1, .ref (b + x1)), (2, .ref (b + x2)), (3, .int x3), (4, .int x4)]) (h : J_X10_offerNext_L3 len r Q g i j x0 x1 x2 x3 x4), W p l e rm_X10_offerNext s m args below meth c H locs 0 0 (MQ below (jQv b cy D tU n K len r Q) args s 0 0 (jA b)) (F0 m 3 ls []) := by
  obtain ⟨hx, hb, hml, hown, hts, hst, hG⟩ := id C0
  have hiX10 : ∀ w ∈ u_ws RX10 TX10 1, w ∈ wsX10_offerNext := hiX10_X10_offerNext
  have hiX2 : ∀ w ∈ u_ws RX2 TX2 2, w ∈ wsX10_offerNext := hiX2_X10_offerNext
  have hiX8 : ∀ w ∈ u_ws RX8 TX8 8, w ∈ wsX10_offerNext := hiX8_X10_offerNext
  intro g
  induction g with
  | zero => intro H locs ls i j x0 x1 x2 x3 x4 w hx0 hx1 hx2 hl h; exact False.elim h
  | succ g ih =>
    intro H locs ls i j x0 x1 x2 x3 x4 w hx0 hx1 hx2 hl h
    rw [J_X10_offerNext_L3] at h
    refine lv_iload hx hb dX10_offerNext_3 (lv_at hl 4 rfl) ?_
    refine lv_aload_n hx hb dX10_offerNext_5 rfl (lv_at hl 1 rfl) ?_
    refine jgi (f := 0) hx hb hts hown hst w hx1 hiX8 (rfl : vwCl[7]? = some (RX8, TX8, 8)) (hts (.fieldLink RX10 47 "FootByGate$Town" "streets" "I") (by decide +kernel)) ⟨by decide, by decide, rfl⟩ dX10_offerNext_6 ?_
    refine lv_icmp_ge (tgt := 65) hx hb dX10_offerNext_9 (by decide) (fun hc => ?_) (fun hc => ?_)
    · replace h := h.1 hc
      clear hc
      exact jret_v hx hb hr hlk hst w h dX10_offerNext_65
    · replace h := h.2 hc
      clear hc
      refine lv_aload_n hx hb dX10_offerNext_12 rfl (lv_at hl 1 rfl) ?_
      refine lv_iload_n hx hb dX10_offerNext_13 rfl (lv_at hl 3 rfl) ?_
      refine lv_iload hx hb dX10_offerNext_14 (lv_at hl 4 rfl) ?_
      refine lv_aload_n hx hb dX10_offerNext_16 rfl (lv_at hl 2 rfl) ?_
      obtain ⟨a17, hr0, h⟩ := h
      refine jgr (f := 1) hx hb hts hown hst w hG hx2 hiX2 (rfl : vwCl[2]? = some (RX2, TX2, 2)) (hts (.fieldLink RX10 53 "FootByGate$Gait" "turn" "[I") (by decide +kernel)) ⟨by decide, by decide, rfl⟩ (rfl : jrt 2 1 = 13) dX10_offerNext_17 hr0 (fun ha17 => ?_)
      clear hr0
      refine lv_iload hx hb dX10_offerNext_20 (lv_at hl 4 rfl) ?_
      obtain ⟨hn, h⟩ := h
      refine jaid hx hb hst w ha17 hn dX10_offerNext_22 ?_
      clear hn
      refine jcV_i (k := x1) (As := [.int x3, .int x4, .int (i a17 x4.toNatClampNeg)]) (rest := []) C0 w (c_X8_behind hG hx1 h) (cwV 3 hts gX10_offerNext_X8_behind rfl rfl rfl (by decide +kernel) ⟨Nat.le_of_ble_eq_true rfl, Nat.le_of_ble_eq_true rfl⟩) hx1 (rfl : vwCl[7]? = some (RX8, TX8, 8)) (by decide) rfl hl.1 rfl (Nat.le_of_ble_eq_true rfl) dX10_offerNext_23 (fun q23 i23 j23 H locs h w => ?_) ⟨Nat.zero_le _, Nat.zero_le _⟩
      refine lv_istore (lv' := [(5, .int q23), (0, .ref (b + x0)), (1, .ref (b + x1)), (2, .ref (b + x2)), (3, .int x3), (4, .int x4)]) hx hb dX10_offerNext_26 hl (by decide) rfl (fun ls hl => ?_)
      refine lv_iload hx hb dX10_offerNext_28 (lv_at hl 0 rfl) ?_
      refine lv_iconst (v := (-1 : Int32)) hx hb dX10_offerNext_30 (by decide) ?_
      refine lv_icmp_eq (tgt := 59) hx hb dX10_offerNext_31 (by decide) (fun hc => ?_) (fun hc => ?_)
      · replace h := h.1 hc
        clear hc
        exact w_X10_offerNext_L59 C0 hr hlk (fun w hx0 hx1 hx2 hl h => ih w hx0 hx1 hx2 hl h) w hx0 hx1 hx2 (lv_sub hl [1, 2, 3, 4, 5] rfl) h
      · replace h := h.2 hc
        clear hc
        refine lv_aload_n hx hb dX10_offerNext_34 rfl (lv_at hl 1 rfl) ?_
        obtain ⟨a35, hr0, h⟩ := h
        refine jgr (f := 0) hx hb hts hown hst w hG hx0 hiX10 (rfl : vwCl[9]? = some (RX10, TX10, 1)) (hts (.fieldLink RX10 16 "FootByGate$Ways" "heap" "LFootByGate$Heap;") (by decide +kernel)) ⟨by decide, by decide, rfl⟩ (rfl : jrt 9 0 = 3) dX10_offerNext_35 hr0 (fun ha35 => ?_)
        clear hr0
        refine lv_iload hx hb dX10_offerNext_38 (lv_at hl 0 rfl) ?_
        refine lv_aload_n hx hb dX10_offerNext_40 rfl (lv_at hl 1 rfl) ?_
        obtain ⟨a41, hr0, h⟩ := h
        refine jgr (f := 0) hx hb hts hown hst w hG hx0 hiX10 (rfl : vwCl[9]? = some (RX10, TX10, 1)) (hts (.fieldLink RX10 16 "FootByGate$Ways" "heap" "LFootByGate$Heap;") (by decide +kernel)) ⟨by decide, by decide, rfl⟩ (rfl : jrt 9 0 = 3) dX10_offerNext_41 hr0 (fun ha41 => ?_)
        clear hr0
        refine lv_iload_n hx hb dX10_offerNext_44 rfl (lv_at hl 4 rfl) ?_
        refine jcV_i (k := a41) (As := [.int x3]) (rest := [.int q23, .ref (b + a35)]) C0 w (c_X3_costOf hG ha41 h) (cwV 1 hts gX10_offerNext_X3_costOf rfl rfl rfl (by decide +kernel) ⟨Nat.le_of_ble_eq_true rfl, Nat.le_of_ble_eq_true rfl⟩) ha41 (rfl : vwCl[3]? = some (RX3, TX3, 4)) (by decide) rfl hl.1 rfl (Nat.le_of_ble_eq_true rfl) dX10_offerNext_45 (fun q45 i45 j45 H locs h w => ?_) ⟨Nat.zero_le _, Nat.zero_le _⟩
        refine lv_aload_n hx hb dX10_offerNext_48 rfl (lv_at hl 3 rfl) ?_
        obtain ⟨a49, hr0, h⟩ := h
        refine jgr (f := 0) hx hb hts hown hst w hG hx2 hiX2 (rfl : vwCl[2]? = some (RX2, TX2, 2)) (hts (.fieldLink RX10 63 "FootByGate$Gait" "steps" "[I") (by decide +kernel)) ⟨by decide, by decide, rfl⟩ (rfl : jrt 2 0 = 13) dX10_offerNext_49 hr0 (fun ha49 => ?_)
        clear hr0
        refine lv_iload hx hb dX10_offerNext_52 (lv_at hl 5 rfl) ?_
        obtain ⟨hn, h⟩ := h
        refine jaid hx hb hst w ha49 hn dX10_offerNext_54 ?_
        clear hn
        refine lv_iadd hx hb dX10_offerNext_55 ?_
        refine jcV_v (k := a35) (As := [.int q23, .int (q45 + (i45 a49 x4.toNatClampNeg))]) (rest := []) C0 w (c_X3_offer hG ha35 h) (cwV 2 hts gX10_offerNext_X3_offer rfl rfl rfl (by decide +kernel) ⟨Nat.le_of_ble_eq_true rfl, Nat.le_of_ble_eq_true rfl⟩) ha35 (rfl : vwCl[3]? = some (RX3, TX3, 4)) (by decide) rfl hl.1 rfl (Nat.le_of_ble_eq_true rfl) dX10_offerNext_56 (fun i56 j56 H locs h w => ?_) ⟨Nat.zero_le _, Nat.zero_le _⟩
        exact w_X10_offerNext_L59 C0 hr hlk (fun w hx0 hx1 hx2 hl h => ih w hx0 hx1 hx2 hl h) w hx0 hx1 hx2 (lv_sub hl [1, 2, 3, 4, 5] rfl) h
set_option maxHeartbeats 4000000 in
set_option maxRecDepth 100000 in
theorem c_X10_offerNext (hG : jG n K r) {i : jI} {j : jL} {x0 : Nat} {x1 : Nat} {x2 : Nat} {x3 : Int32} (hx0 : x0 < n ∧ K x0 = 9) (hx1 : x1 < n ∧ K x1 = 7) (hx2 : x2 < n ∧ K x2 = 2) (h : J_X10_offerNext len r Q i j x0 x1 x2 x3) : Met l yX10_offerNext wsX10_offerNext rm_X10_offerNext (va_Pc [.ref (b + x0), .ref (b + x1), .ref (b + x2), .int x3] (jPre b cy D tU n K len r i j)) (jQv b cy D tU n K len r Q) 0 0 (jA b) := by
  refine Met.ofW (cc := cX10_offerNext) (maxL := 6) (ret := none) (by decide) rfl ?_
  intro p e s m args below meth c s₁ B hml hv
  obtain ⟨rfl, hv⟩ := hv
  have C0 : jCx p s m _ c cX10_offerNext 6 wsX10_offerNext RX10 b cy D tU n K r := ⟨B.exec, B.bytes, hml, findClass_of_methodNamed B.named, atoms_spec (ws := wsX10_offerNext) B.pre, hv.2.2, hG⟩
  have hr := B.returns
  have hlk := B.notSynchronized
  obtain ⟨hx, hb, hml, hown, hts, hst, hG⟩ := id C0
  have hiX10 : ∀ w ∈ u_ws RX10 TX10 1, w ∈ wsX10_offerNext := hiX10_X10_offerNext
  have hiX2 : ∀ w ∈ u_ws RX2 TX2 2, w ∈ wsX10_offerNext := hiX2_X10_offerNext
  have hiX8 : ∀ w ∈ u_ws RX8 TX8 8, w ∈ wsX10_offerNext := hiX8_X10_offerNext
  have w := jDy.start hv
  have hl := lv_entry ([.ref (b + x0), .ref (b + x1), .ref (b + x2), .int x3]) (n := 6) (Nat.le_of_ble_eq_true rfl)
  rw [lg_entry_eq]
  generalize (lg_sl ([.ref (b + x0), .ref (b + x1), .ref (b + x2), .int x3]) ++ List.replicate (6 - (lg_sl ([.ref (b + x0), .ref (b + x1), .ref (b + x2), .int x3])).length) Slot.unset).toArray = ls at hl ⊢
  replace hl : lv_has ls 6 [(0, .ref (b + x0)), (1, .ref (b + x1)), (2, .ref (b + x2)), (3, .int x3)] := hl
  show W p l e rm_X10_offerNext s m _ below meth c s.heap [] 0 0 _ (F0 m 0 ls [])
  rw [J_X10_offerNext] at h
  refine lv_iconst (v := (0 : Int32)) hx hb dX10_offerNext_0 (by decide) ?_
  refine lv_istore (lv' := [(4, .int (0 : Int32)), (0, .ref (b + x0)), (1, .ref (b + x1)), (2, .ref (b + x2)), (3, .int x3)]) hx hb dX10_offerNext_1 hl (by decide) rfl (fun ls hl => ?_)
  obtain ⟨g0, h⟩ := h
  exact w_X10_offerNext_L3 C0 hr hlk g0 w hx0 hx1 hx2 (lv_sub hl [1, 2, 3, 4, 0] rfl) h
end S_X10_offerNext
section S_X7_skipped
def J_X7_skipped (len : Nat → Nat) (r : jR) (Q : Int32 → jI → jL → Prop) (i : jI) (j : jL) (x0 : Int32) : Prop := Q (x0 ^^^ (64 : Int32)) i j
abbrev rm_X7_skipped : Room := { frames := 0, cells := 0, slots := 0, locals := 0 }
variable {p : Program} {l : Launch} {e : Env} {s : State} {m : MethodId} {args : Array Value} {below : List Frame} {meth : Method} {c : Code} {b tU n : Nat} {cy : Nat → ClassId} {D : va_G} {K len : Nat → Nat} {r : jR} {Q : Int32 → jI → jL → Prop}
set_option maxHeartbeats 4000000 in
set_option maxRecDepth 100000 in
theorem c_X7_skipped (hG : jG n K r) {i : jI} {j : jL} {x0 : Int32} (h : J_X7_skipped len r Q i j x0) : Met l yX7_skipped wsX7_skipped rm_X7_skipped (va_Pc [.int x0] (jPre b cy D tU n K len r i j)) (jQi b cy D tU n K len r Q) 0 0 (jA b) := by
  refine Met.ofW (cc := cX7_skipped) (maxL := 1) (ret := (some .int)) (by decide) rfl ?_
  intro p e s m args below meth c s₁ B hml hv
  obtain ⟨rfl, hv⟩ := hv
  have C0 : jCx p s m _ c cX7_skipped 1 wsX7_skipped RX7 b cy D tU n K r := ⟨B.exec, B.bytes, hml, findClass_of_methodNamed B.named, atoms_spec (ws := wsX7_skipped) B.pre, hv.2.2, hG⟩
  have hr := B.returns
  have hlk := B.notSynchronized
  obtain ⟨hx, hb, hml, hown, hts, hst, hG⟩ := id C0
  have w := jDy.start hv
  have hl := lv_entry ([.int x0]) (n := 1) (Nat.le_of_ble_eq_true rfl)
  rw [lg_entry_eq]
  generalize (lg_sl ([.int x0]) ++ List.replicate (1 - (lg_sl ([.int x0])).length) Slot.unset).toArray = ls at hl ⊢
  replace hl : lv_has ls 1 [(0, .int x0)] := hl
  show W p l e rm_X7_skipped s m _ below meth c s.heap [] 0 0 _ (F0 m 0 ls [])
  rw [J_X7_skipped] at h
  refine lv_iload_n hx hb dX7_skipped_0 rfl (lv_at hl 0 rfl) ?_
  refine lv_bipush (v := (64 : Int32)) hx hb dX7_skipped_1 (by decide) ?_
  refine lv_ixor hx hb dX7_skipped_3 ?_
  exact jret_i hx hb hr hlk hst w h dX7_skipped_4
end S_X7_skipped
section S_X10_leastTo
def J_X10_leastTo_L56 (len : Nat → Nat) (r : jR) (Q : Int32 → jI → jL → Prop) (i : jI) (j : jL) : Prop := Q (-1 : Int32) i j
def J_X10_leastTo_L116 (len : Nat → Nat) (r : jR) (Q : Int32 → jI → jL → Prop) (Hd19 : jI → jL → Nat → Nat → Nat → Int32 → Int32 → Int32 → Int32 → Prop) (i : jI) (j : jL) (x0 : Nat) (x1 : Nat) (x2 : Nat) (x4 : Int32) (x5 : Int32) (x6 : Int32) (x7 : Int32) : Prop := ∀ v116 : Int32, v116 = x7 + (1 : Int32) → (Hd19 i j x0 x1 x2 x4 x5 x6 v116)
def J_X10_leastTo_L19 (len : Nat → Nat) (r : jR) (Q : Int32 → jI → jL → Prop) : Nat → jI → jL → Nat → Nat → Nat → Int32 → Int32 → Int32 → Int32 → Prop
  | 0 => fun _ _ _ _ _ _ _ _ _ => False
  | g + 1 => fun i j x0 x1 x2 x4 x5 x6 x7 => (((896 : Int32) ≤ x7) → (Q (-1 : Int32) i j)) ∧ ((¬ (896 : Int32) ≤ x7) → (∃ a28, r x0 0 = some a28 ∧ (J_X3_take len r (fun (q31 : Int32) (i31 : jI) (j31 : jL) => ((q31 = (-1 : Int32)) → (J_X10_leastTo_L56 len r Q i31 j31 )) ∧ ((¬ q31 = (-1 : Int32)) → (∃ a43, r x0 0 = some a43 ∧ (J_X3_costOf len r (fun (q48 : Int32) (i48 : jI) (j48 : jL) => ((q48 ≤ x5) → (J_X7_placeOf len r (fun (q60 : Int32) (i60 : jI) (j60 : jL) => ((¬ q60 = x4) → (J_X10_offerNext len r (fun (i83 : jI) (j83 : jL) => ((x6 = 0) → (J_X10_leastTo_L116 len r Q (J_X10_leastTo_L19 len r Q g) i83 j83 x0 x1 x2 x4 x5 x6 x7)) ∧ ((¬ x6 = 0) → (∃ a92, r x0 0 = some a92 ∧ (J_X7_skipped len r (fun (q97 : Int32) (i97 : jI) (j97 : jL) => ∃ a101, r x0 0 = some a101 ∧ (J_X3_costOf len r (fun (q106 : Int32) (i106 : jI) (j106 : jL) => J_X3_offer len r (fun (i113 : jI) (j113 : jL) => J_X10_leastTo_L116 len r Q (J_X10_leastTo_L19 len r Q g) i113 j113 x0 x1 x2 x4 x5 x6 x7) i106 j106 a92 q97 (q106 + (16384 : Int32))) i97 j97 a101 q31)) i83 j83 q31)))) i60 j60 x0 x1 x2 q31)) ∧ ((q60 = x4) → (∃ a69, r x0 0 = some a69 ∧ (J_X3_costOf len r (fun (q74 : Int32) (i74 : jI) (j74 : jL) => Q q74 i74 j74) i60 j60 a69 q31)))) i48 j48 q31)) ∧ ((¬ q48 ≤ x5) → (J_X10_leastTo_L56 len r Q i48 j48 ))) i31 j31 a43 q31)))) i j a28)))
def J_X10_leastTo (len : Nat → Nat) (r : jR) (Q : Int32 → jI → jL → Prop) (i : jI) (j : jL) (x0 : Nat) (x1 : Nat) (x2 : Nat) (x3 : Int32) (x4 : Int32) (x5 : Int32) (x6 : Int32) : Prop := ∃ a1, r x0 0 = some a1 ∧ (J_X3_clear len r (fun (i4 : jI) (j4 : jL) => ∃ a8, r x0 0 = some a8 ∧ (J_X3_offer len r (fun (i13 : jI) (j13 : jL) => ∃ g0, J_X10_leastTo_L19 len r Q g0 i13 j13 x0 x1 x2 x4 x5 x6 (0 : Int32)) i4 j4 a8 x3 (0 : Int32))) i j a1)
abbrev rm_X10_leastTo : Room := { frames := 3, cells := 0, slots := 0, locals := 74 }
variable {p : Program} {l : Launch} {e : Env} {s : State} {m : MethodId} {args : Array Value} {below : List Frame} {meth : Method} {c : Code} {b tU n : Nat} {cy : Nat → ClassId} {D : va_G} {K len : Nat → Nat} {r : jR} {Q : Int32 → jI → jL → Prop}
theorem hiX10_X10_leastTo : ∀ w ∈ u_ws RX10 TX10 1, w ∈ wsX10_leastTo := by decide +kernel
set_option maxHeartbeats 4000000 in
set_option maxRecDepth 100000 in
theorem w_X10_leastTo_L56 (C0 : jCx p s m args c cX10_leastTo 9 wsX10_leastTo RX10 b cy D tU n K r) (hr : meth.sig.returnType = some .int) (hlk : meth.locks = false) {H : Heap} {locs : List Loc} {ls : Array Slot} {i : jI} {j : jL}  (w : jDy b cy D n K len r i j s H locs) (hl : lv_has ls 9 []) (h : J_X10_leastTo_L56 len r Q i j) : W p l e rm_X10_leastTo s m args below meth c H locs 0 0 (MQ below (jQi b cy D tU n K len r Q) args s 0 0 (jA b)) (F0 m 56 ls []) := by
  obtain ⟨hx, hb, hml, hown, hts, hst, hG⟩ := id C0
  have hiX10 : ∀ w ∈ u_ws RX10 TX10 1, w ∈ wsX10_leastTo := hiX10_X10_leastTo
  rw [J_X10_leastTo_L56] at h
  refine lv_iconst (v := (-1 : Int32)) hx hb dX10_leastTo_56 (by decide) ?_
  exact jret_i hx hb hr hlk hst w h dX10_leastTo_57
set_option maxHeartbeats 4000000 in
set_option maxRecDepth 100000 in
theorem w_X10_leastTo_L116 (C0 : jCx p s m args c cX10_leastTo 9 wsX10_leastTo RX10 b cy D tU n K r) (hr : meth.sig.returnType = some .int) (hlk : meth.locks = false) {Hd19 : jI → jL → Nat → Nat → Nat → Int32 → Int32 → Int32 → Int32 → Prop} (k19 : ∀ {H : Heap} {locs : List Loc} {ls : Array Slot} {i : jI} {j : jL} {x0 : Nat} {x1 : Nat} {x2 : Nat} {x4 : Int32} {x5 : Int32} {x6 : Int32} {x7 : Int32} (w : jDy b cy D n K len r i j s H locs) (hx0 : x0 < n ∧ K x0 = 9) (hx1 : x1 < n ∧ K x1 = 7) (hx2 : x2 < n ∧ K x2 = 2) (hl : lv_has ls 9 [(0, .ref (b + x0)), (1, .ref (b + x1)), (2, .ref (b + x2)), (4, .int x4), (5, .int x5), (6, .int x6), (7, .int x7)]) (h : Hd19 i j x0 x1 x2 x4 x5 x6 x7), W p l e rm_X10_leastTo s m args below meth c H locs 0 0 (MQ below (jQi b cy D tU n K len r Q) args s 0 0 (jA b)) (F0 m 19 ls [])) {H : Heap} {locs : List Loc} {ls : Array Slot} {i : jI} {j : jL} {x0 : Nat} {x1 : Nat} {x2 : Nat} {x4 : Int32} {x5 : Int32} {x6 : Int32} {x7 : Int32} (w : jDy b cy D n K len r i j s H locs) (hx0 : x0 < n ∧ K x0 = 9) (hx1 : x1 < n ∧ K x1 = 7) (hx2 : x2 < n ∧ K x2 = 2) (hl : lv_has ls 9 [(0, .ref (b + x0)), (1, .ref (b + x1)), (2, .ref (b + x2)), (4, .int x4), (5, .int x5), (6, .int x6), (7, .int x7)]) (h : J_X10_leastTo_L116 len r Q Hd19 i j x0 x1 x2 x4 x5 x6 x7) : W p l e rm_X10_leastTo s m args below meth c H locs 0 0 (MQ below (jQi b cy D tU n K len r Q) args s 0 0 (jA b)) (F0 m 116 ls []) := by
  obtain ⟨hx, hb, hml, hown, hts, hst, hG⟩ := id C0
  have hiX10 : ∀ w ∈ u_ws RX10 TX10 1, w ∈ wsX10_leastTo := hiX10_X10_leastTo
  rw [J_X10_leastTo_L116] at h
  obtain ⟨v116, he⟩ : ∃ z : Int32, z = x7 + (1 : Int32) := ⟨_, rfl⟩
  replace h := h v116 he
  refine lv_iinc (v := v116) (lv' := [(7, .int v116), (0, .ref (b + x0)), (1, .ref (b + x1)), (2, .ref (b + x2)), (4, .int x4), (5, .int x5), (6, .int x6)]) hx hb dX10_leastTo_116 hl (k := 6) rfl (by rw [he]; rfl) (by decide) rfl (fun ls hl => ?_)
  clear he
  refine lv_goto (tgt := 19) hx hb dX10_leastTo_119 (by decide) ?_
  exact k19 w hx0 hx1 hx2 (lv_sub hl [1, 2, 3, 4, 5, 6, 0] rfl) h
set_option maxHeartbeats 4000000 in
set_option maxRecDepth 100000 in
theorem w_X10_leastTo_L19 (C0 : jCx p s m args c cX10_leastTo 9 wsX10_leastTo RX10 b cy D tU n K r) (hr : meth.sig.returnType = some .int) (hlk : meth.locks = false) : ∀ (g : Nat) {H : Heap} {locs : List Loc} {ls : Array Slot} {i : jI} {j : jL} {x0 : Nat} {x1 : Nat} {x2 : Nat} {x4 : Int32} {x5 : Int32} {x6 : Int32} {x7 : Int32} (w : jDy b cy D n K len r i j s H locs) (hx0 : x0 < n ∧ K x0 = 9) (hx1 : x1 < n ∧ K x1 = 7) (hx2 : x2 < n ∧ K x2 = 2) (hl : lv_has ls 9 [(0, .ref (b + x0)), (1, .ref (b + x1)), (2, .ref (b + x2)), (4, .int x4), (5, .int x5), (6, .int x6), (7, .int x7)]) (h : J_X10_leastTo_L19 len r Q g i j x0 x1 x2 x4 x5 x6 x7), W p l e rm_X10_leastTo s m args below meth c H locs 0 0 (MQ below (jQi b cy D tU n K len r Q) args s 0 0 (jA b)) (F0 m 19 ls []) := by
  obtain ⟨hx, hb, hml, hown, hts, hst, hG⟩ := id C0
  have hiX10 : ∀ w ∈ u_ws RX10 TX10 1, w ∈ wsX10_leastTo := hiX10_X10_leastTo
  intro g
  induction g with
  | zero => intro H locs ls i j x0 x1 x2 x4 x5 x6 x7 w hx0 hx1 hx2 hl h; exact False.elim h
  | succ g ih =>
    intro H locs ls i j x0 x1 x2 x4 x5 x6 x7 w hx0 hx1 hx2 hl h
    rw [J_X10_leastTo_L19] at h
    refine lv_iload hx hb dX10_leastTo_19 (lv_at hl 6 rfl) ?_
    refine lv_sipush (v := (896 : Int32)) hx hb dX10_leastTo_21 (by decide) ?_
    refine lv_icmp_ge (tgt := 122) hx hb dX10_leastTo_24 (by decide) (fun hc => ?_) (fun hc => ?_)
    · replace h := h.1 hc
      clear hc
      refine lv_iconst (v := (-1 : Int32)) hx hb dX10_leastTo_122 (by decide) ?_
      exact jret_i hx hb hr hlk hst w h dX10_leastTo_123
    · replace h := h.2 hc
      clear hc
      refine lv_aload_n hx hb dX10_leastTo_27 rfl (lv_at hl 0 rfl) ?_
      obtain ⟨a28, hr0, h⟩ := h
      refine jgr (f := 0) hx hb hts hown hst w hG hx0 hiX10 (rfl : vwCl[9]? = some (RX10, TX10, 1)) (hts (.fieldLink RX10 16 "FootByGate$Ways" "heap" "LFootByGate$Heap;") (by decide +kernel)) ⟨by decide, by decide, rfl⟩ (rfl : jrt 9 0 = 3) dX10_leastTo_28 hr0 (fun ha28 => ?_)
      clear hr0
      refine jcV_i (k := a28) (As := []) (rest := []) C0 w (c_X3_take hG ha28 h) (cwV 0 hts gX10_leastTo_X3_take rfl rfl rfl (by decide +kernel) ⟨Nat.le_of_ble_eq_true rfl, Nat.le_of_ble_eq_true rfl⟩) ha28 (rfl : vwCl[3]? = some (RX3, TX3, 4)) (by decide) rfl hl.1 rfl (Nat.le_of_ble_eq_true rfl) dX10_leastTo_31 (fun q31 i31 j31 H locs h w => ?_) ⟨Nat.zero_le _, Nat.zero_le _⟩
      refine lv_istore (lv' := [(8, .int q31), (0, .ref (b + x0)), (1, .ref (b + x1)), (2, .ref (b + x2)), (4, .int x4), (5, .int x5), (6, .int x6), (7, .int x7)]) hx hb dX10_leastTo_34 hl (by decide) rfl (fun ls hl => ?_)
      refine lv_iload hx hb dX10_leastTo_36 (lv_at hl 0 rfl) ?_
      refine lv_iconst (v := (-1 : Int32)) hx hb dX10_leastTo_38 (by decide) ?_
      refine lv_icmp_eq (tgt := 56) hx hb dX10_leastTo_39 (by decide) (fun hc => ?_) (fun hc => ?_)
      · replace h := h.1 hc
        clear hc
        exact w_X10_leastTo_L56 C0 hr hlk w (lv_sub hl [] rfl) h
      · replace h := h.2 hc
        clear hc
        refine lv_aload_n hx hb dX10_leastTo_42 rfl (lv_at hl 1 rfl) ?_
        obtain ⟨a43, hr0, h⟩ := h
        refine jgr (f := 0) hx hb hts hown hst w hG hx0 hiX10 (rfl : vwCl[9]? = some (RX10, TX10, 1)) (hts (.fieldLink RX10 16 "FootByGate$Ways" "heap" "LFootByGate$Heap;") (by decide +kernel)) ⟨by decide, by decide, rfl⟩ (rfl : jrt 9 0 = 3) dX10_leastTo_43 hr0 (fun ha43 => ?_)
        clear hr0
        refine lv_iload hx hb dX10_leastTo_46 (lv_at hl 0 rfl) ?_
        refine jcV_i (k := a43) (As := [.int q31]) (rest := []) C0 w (c_X3_costOf hG ha43 h) (cwV 1 hts gX10_leastTo_X3_costOf rfl rfl rfl (by decide +kernel) ⟨Nat.le_of_ble_eq_true rfl, Nat.le_of_ble_eq_true rfl⟩) ha43 (rfl : vwCl[3]? = some (RX3, TX3, 4)) (by decide) rfl hl.1 rfl (Nat.le_of_ble_eq_true rfl) dX10_leastTo_48 (fun q48 i48 j48 H locs h w => ?_) ⟨Nat.zero_le _, Nat.zero_le _⟩
        refine lv_iload hx hb dX10_leastTo_51 (lv_at hl 5 rfl) ?_
        refine lv_icmp_le (tgt := 58) hx hb dX10_leastTo_53 (by decide) (fun hc => ?_) (fun hc => ?_)
        · replace h := h.1 hc
          clear hc
          refine lv_iload hx hb dX10_leastTo_58 (lv_at hl 0 rfl) ?_
          refine jcS_i (As := [.int q31]) (rest := []) C0 w (c_X7_placeOf hG h) (va_cwS 1 hts gX10_leastTo_X7_placeOf rfl rfl rfl (by decide +kernel) ⟨Nat.le_of_ble_eq_true rfl, Nat.le_of_ble_eq_true rfl⟩) rfl hl.1 rfl (Nat.le_of_ble_eq_true rfl) dX10_leastTo_60 (fun q60 i60 j60 H locs h w => ?_) ⟨Nat.zero_le _, Nat.zero_le _⟩
          refine lv_iload hx hb dX10_leastTo_63 (lv_at hl 4 rfl) ?_
          refine lv_icmp_ne (tgt := 78) hx hb dX10_leastTo_65 (by decide) (fun hc => ?_) (fun hc => ?_)
          · replace h := h.1 hc
            clear hc
            refine lv_aload_n hx hb dX10_leastTo_78 rfl (lv_at hl 1 rfl) ?_
            refine lv_aload_n hx hb dX10_leastTo_79 rfl (lv_at hl 2 rfl) ?_
            refine lv_aload_n hx hb dX10_leastTo_80 rfl (lv_at hl 3 rfl) ?_
            refine lv_iload hx hb dX10_leastTo_81 (lv_at hl 0 rfl) ?_
            refine jcV_v (k := x0) (As := [.ref (b + x1), .ref (b + x2), .int q31]) (rest := []) C0 w (c_X10_offerNext hG hx0 hx1 hx2 h) (cwV 3 hts gX10_leastTo_X10_offerNext rfl rfl rfl (by decide +kernel) ⟨Nat.le_of_ble_eq_true rfl, Nat.le_of_ble_eq_true rfl⟩) hx0 (rfl : vwCl[9]? = some (RX10, TX10, 1)) (by decide) rfl hl.1 rfl (Nat.le_of_ble_eq_true rfl) dX10_leastTo_83 (fun i83 j83 H locs h w => ?_) ⟨Nat.zero_le _, Nat.zero_le _⟩
            refine lv_iload hx hb dX10_leastTo_86 (lv_at hl 6 rfl) ?_
            refine lv_if_eq (tgt := 116) hx hb dX10_leastTo_88 (by decide) (fun hc => ?_) (fun hc => ?_)
            · replace h := h.1 hc
              clear hc
              exact w_X10_leastTo_L116 C0 hr hlk (fun w hx0 hx1 hx2 hl h => ih w hx0 hx1 hx2 hl h) w hx0 hx1 hx2 (lv_sub hl [1, 2, 3, 4, 5, 6, 7] rfl) h
            · replace h := h.2 hc
              clear hc
              refine lv_aload_n hx hb dX10_leastTo_91 rfl (lv_at hl 1 rfl) ?_
              obtain ⟨a92, hr0, h⟩ := h
              refine jgr (f := 0) hx hb hts hown hst w hG hx0 hiX10 (rfl : vwCl[9]? = some (RX10, TX10, 1)) (hts (.fieldLink RX10 16 "FootByGate$Ways" "heap" "LFootByGate$Heap;") (by decide +kernel)) ⟨by decide, by decide, rfl⟩ (rfl : jrt 9 0 = 3) dX10_leastTo_92 hr0 (fun ha92 => ?_)
              clear hr0
              refine lv_iload hx hb dX10_leastTo_95 (lv_at hl 0 rfl) ?_
              refine jcS_i (As := [.int q31]) (rest := [.ref (b + a92)]) C0 w (c_X7_skipped hG h) (va_cwS 1 hts gX10_leastTo_X7_skipped rfl rfl rfl (by decide +kernel) ⟨Nat.le_of_ble_eq_true rfl, Nat.le_of_ble_eq_true rfl⟩) rfl hl.1 rfl (Nat.le_of_ble_eq_true rfl) dX10_leastTo_97 (fun q97 i97 j97 H locs h w => ?_) ⟨Nat.zero_le _, Nat.zero_le _⟩
              refine lv_aload_n hx hb dX10_leastTo_100 rfl (lv_at hl 1 rfl) ?_
              obtain ⟨a101, hr0, h⟩ := h
              refine jgr (f := 0) hx hb hts hown hst w hG hx0 hiX10 (rfl : vwCl[9]? = some (RX10, TX10, 1)) (hts (.fieldLink RX10 16 "FootByGate$Ways" "heap" "LFootByGate$Heap;") (by decide +kernel)) ⟨by decide, by decide, rfl⟩ (rfl : jrt 9 0 = 3) dX10_leastTo_101 hr0 (fun ha101 => ?_)
              clear hr0
              refine lv_iload hx hb dX10_leastTo_104 (lv_at hl 0 rfl) ?_
              refine jcV_i (k := a101) (As := [.int q31]) (rest := [.int q97, .ref (b + a92)]) C0 w (c_X3_costOf hG ha101 h) (cwV 1 hts gX10_leastTo_X3_costOf rfl rfl rfl (by decide +kernel) ⟨Nat.le_of_ble_eq_true rfl, Nat.le_of_ble_eq_true rfl⟩) ha101 (rfl : vwCl[3]? = some (RX3, TX3, 4)) (by decide) rfl hl.1 rfl (Nat.le_of_ble_eq_true rfl) dX10_leastTo_106 (fun q106 i106 j106 H locs h w => ?_) ⟨Nat.zero_le _, Nat.zero_le _⟩
              refine lv_sipush (v := (16384 : Int32)) hx hb dX10_leastTo_109 (by decide) ?_
              refine lv_iadd hx hb dX10_leastTo_112 ?_
              refine jcV_v (k := a92) (As := [.int q97, .int (q106 + (16384 : Int32))]) (rest := []) C0 w (c_X3_offer hG ha92 h) (cwV 2 hts gX10_leastTo_X3_offer rfl rfl rfl (by decide +kernel) ⟨Nat.le_of_ble_eq_true rfl, Nat.le_of_ble_eq_true rfl⟩) ha92 (rfl : vwCl[3]? = some (RX3, TX3, 4)) (by decide) rfl hl.1 rfl (Nat.le_of_ble_eq_true rfl) dX10_leastTo_113 (fun i113 j113 H locs h w => ?_) ⟨Nat.zero_le _, Nat.zero_le _⟩
              exact w_X10_leastTo_L116 C0 hr hlk (fun w hx0 hx1 hx2 hl h => ih w hx0 hx1 hx2 hl h) w hx0 hx1 hx2 (lv_sub hl [1, 2, 3, 4, 5, 6, 7] rfl) h
          · replace h := h.2 hc
            clear hc
            refine lv_aload_n hx hb dX10_leastTo_68 rfl (lv_at hl 1 rfl) ?_
            obtain ⟨a69, hr0, h⟩ := h
            refine jgr (f := 0) hx hb hts hown hst w hG hx0 hiX10 (rfl : vwCl[9]? = some (RX10, TX10, 1)) (hts (.fieldLink RX10 16 "FootByGate$Ways" "heap" "LFootByGate$Heap;") (by decide +kernel)) ⟨by decide, by decide, rfl⟩ (rfl : jrt 9 0 = 3) dX10_leastTo_69 hr0 (fun ha69 => ?_)
            clear hr0
            refine lv_iload hx hb dX10_leastTo_72 (lv_at hl 0 rfl) ?_
            refine jcV_i (k := a69) (As := [.int q31]) (rest := []) C0 w (c_X3_costOf hG ha69 h) (cwV 1 hts gX10_leastTo_X3_costOf rfl rfl rfl (by decide +kernel) ⟨Nat.le_of_ble_eq_true rfl, Nat.le_of_ble_eq_true rfl⟩) ha69 (rfl : vwCl[3]? = some (RX3, TX3, 4)) (by decide) rfl hl.1 rfl (Nat.le_of_ble_eq_true rfl) dX10_leastTo_74 (fun q74 i74 j74 H locs h w => ?_) ⟨Nat.zero_le _, Nat.zero_le _⟩
            exact jret_i hx hb hr hlk hst w h dX10_leastTo_77
        · replace h := h.2 hc
          clear hc
          exact w_X10_leastTo_L56 C0 hr hlk w (lv_sub hl [] rfl) h
set_option maxHeartbeats 4000000 in
set_option maxRecDepth 100000 in
theorem c_X10_leastTo (hG : jG n K r) {i : jI} {j : jL} {x0 : Nat} {x1 : Nat} {x2 : Nat} {x3 : Int32} {x4 : Int32} {x5 : Int32} {x6 : Int32} (hx0 : x0 < n ∧ K x0 = 9) (hx1 : x1 < n ∧ K x1 = 7) (hx2 : x2 < n ∧ K x2 = 2) (h : J_X10_leastTo len r Q i j x0 x1 x2 x3 x4 x5 x6) : Met l yX10_leastTo wsX10_leastTo rm_X10_leastTo (va_Pc [.ref (b + x0), .ref (b + x1), .ref (b + x2), .int x3, .int x4, .int x5, .int x6] (jPre b cy D tU n K len r i j)) (jQi b cy D tU n K len r Q) 0 0 (jA b) := by
  refine Met.ofW (cc := cX10_leastTo) (maxL := 9) (ret := (some .int)) (by decide) rfl ?_
  intro p e s m args below meth c s₁ B hml hv
  obtain ⟨rfl, hv⟩ := hv
  have C0 : jCx p s m _ c cX10_leastTo 9 wsX10_leastTo RX10 b cy D tU n K r := ⟨B.exec, B.bytes, hml, findClass_of_methodNamed B.named, atoms_spec (ws := wsX10_leastTo) B.pre, hv.2.2, hG⟩
  have hr := B.returns
  have hlk := B.notSynchronized
  obtain ⟨hx, hb, hml, hown, hts, hst, hG⟩ := id C0
  have hiX10 : ∀ w ∈ u_ws RX10 TX10 1, w ∈ wsX10_leastTo := hiX10_X10_leastTo
  have w := jDy.start hv
  have hl := lv_entry ([.ref (b + x0), .ref (b + x1), .ref (b + x2), .int x3, .int x4, .int x5, .int x6]) (n := 9) (Nat.le_of_ble_eq_true rfl)
  rw [lg_entry_eq]
  generalize (lg_sl ([.ref (b + x0), .ref (b + x1), .ref (b + x2), .int x3, .int x4, .int x5, .int x6]) ++ List.replicate (9 - (lg_sl ([.ref (b + x0), .ref (b + x1), .ref (b + x2), .int x3, .int x4, .int x5, .int x6])).length) Slot.unset).toArray = ls at hl ⊢
  replace hl : lv_has ls 9 [(0, .ref (b + x0)), (1, .ref (b + x1)), (2, .ref (b + x2)), (3, .int x3), (4, .int x4), (5, .int x5), (6, .int x6)] := hl
  show W p l e rm_X10_leastTo s m _ below meth c s.heap [] 0 0 _ (F0 m 0 ls [])
  rw [J_X10_leastTo] at h
  refine lv_aload_n hx hb dX10_leastTo_0 rfl (lv_at hl 0 rfl) ?_
  obtain ⟨a1, hr0, h⟩ := h
  refine jgr (f := 0) hx hb hts hown hst w hG hx0 hiX10 (rfl : vwCl[9]? = some (RX10, TX10, 1)) (hts (.fieldLink RX10 16 "FootByGate$Ways" "heap" "LFootByGate$Heap;") (by decide +kernel)) ⟨by decide, by decide, rfl⟩ (rfl : jrt 9 0 = 3) dX10_leastTo_1 hr0 (fun ha1 => ?_)
  clear hr0
  refine jcV_v (k := a1) (As := []) (rest := []) C0 w (c_X3_clear hG ha1 h) (cwV 0 hts gX10_leastTo_X3_clear rfl rfl rfl (by decide +kernel) ⟨Nat.le_of_ble_eq_true rfl, Nat.le_of_ble_eq_true rfl⟩) ha1 (rfl : vwCl[3]? = some (RX3, TX3, 4)) (by decide) rfl hl.1 rfl (Nat.le_of_ble_eq_true rfl) dX10_leastTo_4 (fun i4 j4 H locs h w => ?_) ⟨Nat.zero_le _, Nat.zero_le _⟩
  refine lv_aload_n hx hb dX10_leastTo_7 rfl (lv_at hl 0 rfl) ?_
  obtain ⟨a8, hr0, h⟩ := h
  refine jgr (f := 0) hx hb hts hown hst w hG hx0 hiX10 (rfl : vwCl[9]? = some (RX10, TX10, 1)) (hts (.fieldLink RX10 16 "FootByGate$Ways" "heap" "LFootByGate$Heap;") (by decide +kernel)) ⟨by decide, by decide, rfl⟩ (rfl : jrt 9 0 = 3) dX10_leastTo_8 hr0 (fun ha8 => ?_)
  clear hr0
  refine lv_iload_n hx hb dX10_leastTo_11 rfl (lv_at hl 3 rfl) ?_
  refine lv_iconst (v := (0 : Int32)) hx hb dX10_leastTo_12 (by decide) ?_
  refine jcV_v (k := a8) (As := [.int x3, .int (0 : Int32)]) (rest := []) C0 w (c_X3_offer hG ha8 h) (cwV 2 hts gX10_leastTo_X3_offer rfl rfl rfl (by decide +kernel) ⟨Nat.le_of_ble_eq_true rfl, Nat.le_of_ble_eq_true rfl⟩) ha8 (rfl : vwCl[3]? = some (RX3, TX3, 4)) (by decide) rfl hl.1 rfl (Nat.le_of_ble_eq_true rfl) dX10_leastTo_13 (fun i13 j13 H locs h w => ?_) ⟨Nat.zero_le _, Nat.zero_le _⟩
  refine lv_iconst (v := (0 : Int32)) hx hb dX10_leastTo_16 (by decide) ?_
  refine lv_istore (lv' := [(7, .int (0 : Int32)), (0, .ref (b + x0)), (1, .ref (b + x1)), (2, .ref (b + x2)), (3, .int x3), (4, .int x4), (5, .int x5), (6, .int x6)]) hx hb dX10_leastTo_17 hl (by decide) rfl (fun ls hl => ?_)
  obtain ⟨g0, h⟩ := h
  exact w_X10_leastTo_L19 C0 hr hlk g0 w hx0 hx1 hx2 (lv_sub hl [1, 2, 3, 5, 6, 7, 0] rfl) h
end S_X10_leastTo
section S_X1_leadsHome
def J_X1_leadsHome_L106 (len : Nat → Nat) (r : jR) (Rc : (Int32 → jI → jL → Prop) → jI → jL → Nat → Nat → Nat → Int32 → Int32 → Int32 → Prop) (Q : Int32 → jI → jL → Prop) (Hd43 : jI → jL → Nat → Nat → Nat → Int32 → Int32 → Int32 → Int32 → Prop) (i : jI) (j : jL) (x0 : Nat) (x1 : Nat) (x2 : Nat) (x3 : Int32) (x4 : Int32) (x5 : Int32) (x6 : Int32) : Prop := ∀ v106 : Int32, v106 = x6 + (1 : Int32) → (Hd43 i j x0 x1 x2 x3 x4 x5 v106)
def J_X1_leadsHome_L43 (len : Nat → Nat) (r : jR) (Rc : (Int32 → jI → jL → Prop) → jI → jL → Nat → Nat → Nat → Int32 → Int32 → Int32 → Prop) (Q : Int32 → jI → jL → Prop) : Nat → jI → jL → Nat → Nat → Nat → Int32 → Int32 → Int32 → Int32 → Prop
  | 0 => fun _ _ _ _ _ _ _ _ _ => False
  | g + 1 => fun i j x0 x1 x2 x3 x4 x5 x6 => (((i x1 0) ≤ x6) → (Q (0 : Int32) i j)) ∧ ((¬ (i x1 0) ≤ x6) → (((((x4 >>> (x6 &&& 31)) &&& (1 : Int32)) = 0) → (J_X1_leadsHome_L106 len r Rc Q (J_X1_leadsHome_L43 len r Rc Q g) i j x0 x1 x2 x3 x4 x5 x6)) ∧ ((¬ ((x4 >>> (x6 &&& 31)) &&& (1 : Int32)) = 0) → (∃ a67, r x2 1 = some a67 ∧ (vp_in x6 (len a67) ∧ (J_X8_behind len r (fun (q73 : Int32) (i73 : jI) (j73 : jL) => ((q73 = (-1 : Int32)) → (J_X1_leadsHome_L106 len r Rc Q (J_X1_leadsHome_L43 len r Rc Q g) i73 j73 x0 x1 x2 x3 x4 x5 x6)) ∧ ((¬ q73 = (-1 : Int32)) → (Rc (fun (q98 : Int32) (i98 : jI) (j98 : jL) => ((q98 = 0) → (J_X1_leadsHome_L106 len r Rc Q (J_X1_leadsHome_L43 len r Rc Q g) i98 j98 x0 x1 x2 x3 x4 x5 x6)) ∧ ((¬ q98 = 0) → (Q (1 : Int32) i98 j98))) i73 j73 x0 x1 x2 q73 (x4 ^^^ ((1 : Int32) <<< (x6 &&& 31))) x5))) i j x1 x3 x6 (i a67 x6.toNatClampNeg)))))))
def J_X1_leadsHome_B (len : Nat → Nat) (r : jR) (Rc : (Int32 → jI → jL → Prop) → jI → jL → Nat → Nat → Nat → Int32 → Int32 → Int32 → Prop) (Q : Int32 → jI → jL → Prop) (i : jI) (j : jL) (x0 : Nat) (x1 : Nat) (x2 : Nat) (x3 : Int32) (x4 : Int32) (x5 : Int32) : Prop := ((¬ x4 = 0) → (∃ a21, r x0 0 = some a21 ∧ (vp_in x4 (len a21) ∧ ((((i a21 x4.toNatClampNeg) = 0) → (∃ a33, r x0 0 = some a33 ∧ (vp_in x4 (len a33) ∧ ∀ i39 : jI, i39 = ju i a33 x4.toNatClampNeg (1 : Int32) → (∃ g0, J_X1_leadsHome_L43 len r Rc Q g0 i39 j x0 x1 x2 x3 x4 x5 (0 : Int32))))) ∧ ((¬ (i a21 x4.toNatClampNeg) = 0) → (Q (0 : Int32) i j)))))) ∧ ((x4 = 0) → (J_X7_placeOf len r (fun (q6 : Int32) (i6 : jI) (j6 : jL) => ((¬ q6 = x5) → (Q (0 : Int32) i6 j6)) ∧ ((q6 = x5) → (Q (1 : Int32) i6 j6))) i j x3))
def J_X1_leadsHome (len : Nat → Nat) (r : jR) : Nat → (Int32 → jI → jL → Prop) → jI → jL → Nat → Nat → Nat → Int32 → Int32 → Int32 → Prop
  | 0 => fun _ _ _ _ _ _ _ _ _ => False
  | d + 1 => fun Q i j x0 x1 x2 x3 x4 x5 => J_X1_leadsHome_B len r (J_X1_leadsHome len r d) Q i j x0 x1 x2 x3 x4 x5
abbrev rm_X1_leadsHome (d : Nat) : Room := { frames := 2 + d, cells := 0, slots := 0, locals := 49 + d * 27 }
variable {p : Program} {l : Launch} {e : Env} {s : State} {m : MethodId} {args : Array Value} {below : List Frame} {meth : Method} {c : Code} {b tU n : Nat} {cy : Nat → ClassId} {D : va_G} {K len : Nat → Nat} {r : jR} {Q : Int32 → jI → jL → Prop} {d : Nat} {Rc : (Int32 → jI → jL → Prop) → jI → jL → Nat → Nat → Nat → Int32 → Int32 → Int32 → Prop}
theorem hiX1_X1_leadsHome : ∀ w ∈ u_ws RX1 TX1 1, w ∈ wsX1_leadsHome := by decide +kernel
theorem hiX2_X1_leadsHome : ∀ w ∈ u_ws RX2 TX2 2, w ∈ wsX1_leadsHome := by decide +kernel
theorem hiX8_X1_leadsHome : ∀ w ∈ u_ws RX8 TX8 8, w ∈ wsX1_leadsHome := by decide +kernel
set_option maxHeartbeats 4000000 in
set_option maxRecDepth 100000 in
theorem w_X1_leadsHome_L106 (C0 : jCx p s m args c cX1_leadsHome 8 wsX1_leadsHome RX1 b cy D tU n K r) (hr : meth.sig.returnType = some .boolean) (hlk : meth.locks = false) (hRc : ∀ {Q : Int32 → jI → jL → Prop} {i : jI} {j : jL} {x0 : Nat} {x1 : Nat} {x2 : Nat} {x3 : Int32} {x4 : Int32} {x5 : Int32} (hx0 : x0 < n ∧ K x0 = 1) (hx1 : x1 < n ∧ K x1 = 7) (hx2 : x2 < n ∧ K x2 = 2) (h : Rc Q i j x0 x1 x2 x3 x4 x5), Met l yX1_leadsHome wsX1_leadsHome (rm_X1_leadsHome d) (va_Pc [.ref (b + x0), .ref (b + x1), .ref (b + x2), .int x3, .int x4, .int x5] (jPre b cy D tU n K len r i j)) (jQi b cy D tU n K len r Q) 0 0 (jA b)) {Hd43 : jI → jL → Nat → Nat → Nat → Int32 → Int32 → Int32 → Int32 → Prop} (k43 : ∀ {H : Heap} {locs : List Loc} {ls : Array Slot} {i : jI} {j : jL} {x0 : Nat} {x1 : Nat} {x2 : Nat} {x3 : Int32} {x4 : Int32} {x5 : Int32} {x6 : Int32} (w : jDy b cy D n K len r i j s H locs) (hx0 : x0 < n ∧ K x0 = 1) (hx1 : x1 < n ∧ K x1 = 7) (hx2 : x2 < n ∧ K x2 = 2) (hl : lv_has ls 8 [(0, .ref (b + x0)), (1, .ref (b + x1)), (2, .ref (b + x2)), (3, .int x3), (4, .int x4), (5, .int x5), (6, .int x6)]) (h : Hd43 i j x0 x1 x2 x3 x4 x5 x6), W p l e (rm_X1_leadsHome (d + 1)) s m args below meth c H locs 0 0 (MQ below (jQi b cy D tU n K len r Q) args s 0 0 (jA b)) (F0 m 43 ls [])) {H : Heap} {locs : List Loc} {ls : Array Slot} {i : jI} {j : jL} {x0 : Nat} {x1 : Nat} {x2 : Nat} {x3 : Int32} {x4 : Int32} {x5 : Int32} {x6 : Int32} (w : jDy b cy D n K len r i j s H locs) (hx0 : x0 < n ∧ K x0 = 1) (hx1 : x1 < n ∧ K x1 = 7) (hx2 : x2 < n ∧ K x2 = 2) (hl : lv_has ls 8 [(0, .ref (b + x0)), (1, .ref (b + x1)), (2, .ref (b + x2)), (3, .int x3), (4, .int x4), (5, .int x5), (6, .int x6)]) (h : J_X1_leadsHome_L106 len r Rc Q Hd43 i j x0 x1 x2 x3 x4 x5 x6) : W p l e (rm_X1_leadsHome (d + 1)) s m args below meth c H locs 0 0 (MQ below (jQi b cy D tU n K len r Q) args s 0 0 (jA b)) (F0 m 106 ls []) := by
  obtain ⟨hx, hb, hml, hown, hts, hst, hG⟩ := id C0
  have hiX1 : ∀ w ∈ u_ws RX1 TX1 1, w ∈ wsX1_leadsHome := hiX1_X1_leadsHome
  have hiX2 : ∀ w ∈ u_ws RX2 TX2 2, w ∈ wsX1_leadsHome := hiX2_X1_leadsHome
  have hiX8 : ∀ w ∈ u_ws RX8 TX8 8, w ∈ wsX1_leadsHome := hiX8_X1_leadsHome
  rw [J_X1_leadsHome_L106] at h
  obtain ⟨v106, he⟩ : ∃ z : Int32, z = x6 + (1 : Int32) := ⟨_, rfl⟩
  replace h := h v106 he
  refine lv_iinc (v := v106) (lv' := [(6, .int v106), (0, .ref (b + x0)), (1, .ref (b + x1)), (2, .ref (b + x2)), (3, .int x3), (4, .int x4), (5, .int x5)]) hx hb dX1_leadsHome_106 hl (k := 6) rfl (by rw [he]; rfl) (by decide) rfl (fun ls hl => ?_)
  clear he
  refine lv_goto (tgt := 43) hx hb dX1_leadsHome_109 (by decide) ?_
  exact k43 w hx0 hx1 hx2 (lv_sub hl [1, 2, 3, 4, 5, 6, 0] rfl) h
set_option maxHeartbeats 4000000 in
set_option maxRecDepth 100000 in
theorem w_X1_leadsHome_L43 (C0 : jCx p s m args c cX1_leadsHome 8 wsX1_leadsHome RX1 b cy D tU n K r) (hr : meth.sig.returnType = some .boolean) (hlk : meth.locks = false) (hRc : ∀ {Q : Int32 → jI → jL → Prop} {i : jI} {j : jL} {x0 : Nat} {x1 : Nat} {x2 : Nat} {x3 : Int32} {x4 : Int32} {x5 : Int32} (hx0 : x0 < n ∧ K x0 = 1) (hx1 : x1 < n ∧ K x1 = 7) (hx2 : x2 < n ∧ K x2 = 2) (h : Rc Q i j x0 x1 x2 x3 x4 x5), Met l yX1_leadsHome wsX1_leadsHome (rm_X1_leadsHome d) (va_Pc [.ref (b + x0), .ref (b + x1), .ref (b + x2), .int x3, .int x4, .int x5] (jPre b cy D tU n K len r i j)) (jQi b cy D tU n K len r Q) 0 0 (jA b)) : ∀ (g : Nat) {H : Heap} {locs : List Loc} {ls : Array Slot} {i : jI} {j : jL} {x0 : Nat} {x1 : Nat} {x2 : Nat} {x3 : Int32} {x4 : Int32} {x5 : Int32} {x6 : Int32} (w : jDy b cy D n K len r i j s H locs) (hx0 : x0 < n ∧ K x0 = 1) (hx1 : x1 < n ∧ K x1 = 7) (hx2 : x2 < n ∧ K x2 = 2) (hl : lv_has ls 8 [(0, .ref (b + x0)), (1, .ref (b + x1)), (2, .ref (b + x2)), (3, .int x3), (4, .int x4), (5, .int x5), (6, .int x6)]) (h : J_X1_leadsHome_L43 len r Rc Q g i j x0 x1 x2 x3 x4 x5 x6), W p l e (rm_X1_leadsHome (d + 1)) s m args below meth c H locs 0 0 (MQ below (jQi b cy D tU n K len r Q) args s 0 0 (jA b)) (F0 m 43 ls []) := by
  obtain ⟨hx, hb, hml, hown, hts, hst, hG⟩ := id C0
  have hiX1 : ∀ w ∈ u_ws RX1 TX1 1, w ∈ wsX1_leadsHome := hiX1_X1_leadsHome
  have hiX2 : ∀ w ∈ u_ws RX2 TX2 2, w ∈ wsX1_leadsHome := hiX2_X1_leadsHome
  have hiX8 : ∀ w ∈ u_ws RX8 TX8 8, w ∈ wsX1_leadsHome := hiX8_X1_leadsHome
  intro g
  induction g with
  | zero => intro H locs ls i j x0 x1 x2 x3 x4 x5 x6 w hx0 hx1 hx2 hl h; exact False.elim h
  | succ g ih =>
    intro H locs ls i j x0 x1 x2 x3 x4 x5 x6 w hx0 hx1 hx2 hl h
    rw [J_X1_leadsHome_L43] at h
    refine lv_iload hx hb dX1_leadsHome_43 (lv_at hl 6 rfl) ?_
    refine lv_aload_n hx hb dX1_leadsHome_45 rfl (lv_at hl 1 rfl) ?_
    refine jgi (f := 0) hx hb hts hown hst w hx1 hiX8 (rfl : vwCl[7]? = some (RX8, TX8, 8)) (hts (.fieldLink RX1 21 "FootByGate$Town" "streets" "I") (by decide +kernel)) ⟨by decide, by decide, rfl⟩ dX1_leadsHome_46 ?_
    refine lv_icmp_ge (tgt := 112) hx hb dX1_leadsHome_49 (by decide) (fun hc => ?_) (fun hc => ?_)
    · replace h := h.1 hc
      clear hc
      refine lv_iconst (v := (0 : Int32)) hx hb dX1_leadsHome_112 (by decide) ?_
      exact jret_z hx hb hr hlk hst w (by decide) h dX1_leadsHome_113
    · replace h := h.2 hc
      clear hc
      refine lv_iload hx hb dX1_leadsHome_52 (lv_at hl 4 rfl) ?_
      refine lv_iload hx hb dX1_leadsHome_54 (lv_at hl 6 rfl) ?_
      refine lv_ishr hx hb dX1_leadsHome_56 ?_
      refine lv_iconst (v := (1 : Int32)) hx hb dX1_leadsHome_57 (by decide) ?_
      refine lv_iand hx hb dX1_leadsHome_58 ?_
      refine lv_if_eq (tgt := 106) hx hb dX1_leadsHome_59 (by decide) (fun hc => ?_) (fun hc => ?_)
      · replace h := h.1 hc
        clear hc
        exact w_X1_leadsHome_L106 C0 hr hlk hRc (fun w hx0 hx1 hx2 hl h => ih w hx0 hx1 hx2 hl h) w hx0 hx1 hx2 (lv_sub hl [0, 1, 2, 3, 4, 5, 6] rfl) h
      · replace h := h.2 hc
        clear hc
        refine lv_aload_n hx hb dX1_leadsHome_62 rfl (lv_at hl 1 rfl) ?_
        refine lv_iload_n hx hb dX1_leadsHome_63 rfl (lv_at hl 3 rfl) ?_
        refine lv_iload hx hb dX1_leadsHome_64 (lv_at hl 6 rfl) ?_
        refine lv_aload_n hx hb dX1_leadsHome_66 rfl (lv_at hl 2 rfl) ?_
        obtain ⟨a67, hr0, h⟩ := h
        refine jgr (f := 1) hx hb hts hown hst w hG hx2 hiX2 (rfl : vwCl[2]? = some (RX2, TX2, 2)) (hts (.fieldLink RX1 27 "FootByGate$Gait" "turn" "[I") (by decide +kernel)) ⟨by decide, by decide, rfl⟩ (rfl : jrt 2 1 = 13) dX1_leadsHome_67 hr0 (fun ha67 => ?_)
        clear hr0
        refine lv_iload hx hb dX1_leadsHome_70 (lv_at hl 6 rfl) ?_
        obtain ⟨hn, h⟩ := h
        refine jaid hx hb hst w ha67 hn dX1_leadsHome_72 ?_
        clear hn
        refine jcV_i (k := x1) (As := [.int x3, .int x6, .int (i a67 x6.toNatClampNeg)]) (rest := []) C0 w (c_X8_behind hG hx1 h) (cwV 3 hts gX1_leadsHome_X8_behind rfl rfl rfl (by decide +kernel) ⟨by show 2 ≤ 2 + (d + 1); omega, by show 49 ≤ 49 + (d + 1) * 27; omega⟩) hx1 (rfl : vwCl[7]? = some (RX8, TX8, 8)) (by decide) rfl hl.1 rfl (Nat.le_of_ble_eq_true rfl) dX1_leadsHome_73 (fun q73 i73 j73 H locs h w => ?_) ⟨Nat.zero_le _, Nat.zero_le _⟩
        refine lv_istore (lv' := [(7, .int q73), (0, .ref (b + x0)), (1, .ref (b + x1)), (2, .ref (b + x2)), (3, .int x3), (4, .int x4), (5, .int x5), (6, .int x6)]) hx hb dX1_leadsHome_76 hl (by decide) rfl (fun ls hl => ?_)
        refine lv_iload hx hb dX1_leadsHome_78 (lv_at hl 0 rfl) ?_
        refine lv_iconst (v := (-1 : Int32)) hx hb dX1_leadsHome_80 (by decide) ?_
        refine lv_icmp_eq (tgt := 106) hx hb dX1_leadsHome_81 (by decide) (fun hc => ?_) (fun hc => ?_)
        · replace h := h.1 hc
          clear hc
          exact w_X1_leadsHome_L106 C0 hr hlk hRc (fun w hx0 hx1 hx2 hl h => ih w hx0 hx1 hx2 hl h) w hx0 hx1 hx2 (lv_sub hl [1, 2, 3, 4, 5, 6, 7] rfl) h
        · replace h := h.2 hc
          clear hc
          refine lv_aload_n hx hb dX1_leadsHome_84 rfl (lv_at hl 1 rfl) ?_
          refine lv_aload_n hx hb dX1_leadsHome_85 rfl (lv_at hl 2 rfl) ?_
          refine lv_aload_n hx hb dX1_leadsHome_86 rfl (lv_at hl 3 rfl) ?_
          refine lv_iload hx hb dX1_leadsHome_87 (lv_at hl 0 rfl) ?_
          refine lv_iload hx hb dX1_leadsHome_89 (lv_at hl 5 rfl) ?_
          refine lv_iconst (v := (1 : Int32)) hx hb dX1_leadsHome_91 (by decide) ?_
          refine lv_iload hx hb dX1_leadsHome_92 (lv_at hl 7 rfl) ?_
          refine lv_ishl hx hb dX1_leadsHome_94 ?_
          refine lv_ixor hx hb dX1_leadsHome_95 ?_
          refine lv_iload hx hb dX1_leadsHome_96 (lv_at hl 6 rfl) ?_
          refine jcV_i (k := x0) (As := [.ref (b + x1), .ref (b + x2), .int q73, .int (x4 ^^^ ((1 : Int32) <<< (x6 &&& 31))), .int x5]) (rest := []) C0 w (hRc hx0 hx1 hx2 h) (cwV 5 hts gX1_leadsHome_X1_leadsHome rfl rfl rfl (by decide +kernel) ⟨by show 2 + d + 1 ≤ 2 + (d + 1); omega, by show 8 + (8 + 11) + (49 + d * 27) ≤ 49 + (d + 1) * 27; omega⟩) hx0 (rfl : vwCl[1]? = some (RX1, TX1, 1)) (by decide) rfl hl.1 rfl (Nat.le_of_ble_eq_true rfl) dX1_leadsHome_98 (fun q98 i98 j98 H locs h w => ?_) ⟨Nat.zero_le _, Nat.zero_le _⟩
          refine lv_if_eq (tgt := 106) hx hb dX1_leadsHome_101 (by decide) (fun hc => ?_) (fun hc => ?_)
          · replace h := h.1 hc
            clear hc
            exact w_X1_leadsHome_L106 C0 hr hlk hRc (fun w hx0 hx1 hx2 hl h => ih w hx0 hx1 hx2 hl h) w hx0 hx1 hx2 (lv_sub hl [1, 2, 3, 4, 5, 6, 7] rfl) h
          · replace h := h.2 hc
            clear hc
            refine lv_iconst (v := (1 : Int32)) hx hb dX1_leadsHome_104 (by decide) ?_
            exact jret_z hx hb hr hlk hst w (by decide) h dX1_leadsHome_105
set_option maxHeartbeats 4000000 in
set_option maxRecDepth 100000 in
theorem c_X1_leadsHome (hG : jG n K r) : ∀ (d : Nat) {Q : Int32 → jI → jL → Prop} {i : jI} {j : jL} {x0 : Nat} {x1 : Nat} {x2 : Nat} {x3 : Int32} {x4 : Int32} {x5 : Int32} (hx0 : x0 < n ∧ K x0 = 1) (hx1 : x1 < n ∧ K x1 = 7) (hx2 : x2 < n ∧ K x2 = 2) (h : J_X1_leadsHome len r d Q i j x0 x1 x2 x3 x4 x5), Met l yX1_leadsHome wsX1_leadsHome (rm_X1_leadsHome d) (va_Pc [.ref (b + x0), .ref (b + x1), .ref (b + x2), .int x3, .int x4, .int x5] (jPre b cy D tU n K len r i j)) (jQi b cy D tU n K len r Q) 0 0 (jA b) := by
  intro d
  induction d with
  | zero => intro Q i j x0 x1 x2 x3 x4 x5 hx0 hx1 hx2 h; exact False.elim h
  | succ d hRc =>
    intro Q i j x0 x1 x2 x3 x4 x5 hx0 hx1 hx2 h
    refine Met.ofW (cc := cX1_leadsHome) (maxL := 8) (ret := (some .boolean)) (by decide) rfl ?_
    intro p e s m args below meth c s₁ B hml hv
    obtain ⟨rfl, hv⟩ := hv
    have C0 : jCx p s m _ c cX1_leadsHome 8 wsX1_leadsHome RX1 b cy D tU n K r := ⟨B.exec, B.bytes, hml, findClass_of_methodNamed B.named, atoms_spec (ws := wsX1_leadsHome) B.pre, hv.2.2, hG⟩
    have hr := B.returns
    have hlk := B.notSynchronized
    obtain ⟨hx, hb, hml, hown, hts, hst, hG⟩ := id C0
    have hiX1 : ∀ w ∈ u_ws RX1 TX1 1, w ∈ wsX1_leadsHome := hiX1_X1_leadsHome
    have hiX2 : ∀ w ∈ u_ws RX2 TX2 2, w ∈ wsX1_leadsHome := hiX2_X1_leadsHome
    have hiX8 : ∀ w ∈ u_ws RX8 TX8 8, w ∈ wsX1_leadsHome := hiX8_X1_leadsHome
    have w := jDy.start hv
    have hl := lv_entry ([.ref (b + x0), .ref (b + x1), .ref (b + x2), .int x3, .int x4, .int x5]) (n := 8) (Nat.le_of_ble_eq_true rfl)
    rw [lg_entry_eq]
    generalize (lg_sl ([.ref (b + x0), .ref (b + x1), .ref (b + x2), .int x3, .int x4, .int x5]) ++ List.replicate (8 - (lg_sl ([.ref (b + x0), .ref (b + x1), .ref (b + x2), .int x3, .int x4, .int x5])).length) Slot.unset).toArray = ls at hl ⊢
    replace hl : lv_has ls 8 [(0, .ref (b + x0)), (1, .ref (b + x1)), (2, .ref (b + x2)), (3, .int x3), (4, .int x4), (5, .int x5)] := hl
    show W p l e (rm_X1_leadsHome (d + 1)) s m _ below meth c s.heap [] 0 0 _ (F0 m 0 ls [])
    replace h : J_X1_leadsHome_B len r (J_X1_leadsHome len r d) Q i j x0 x1 x2 x3 x4 x5 := h
    rw [J_X1_leadsHome_B] at h
    refine lv_iload hx hb dX1_leadsHome_0 (lv_at hl 4 rfl) ?_
    refine lv_if_ne (tgt := 20) hx hb dX1_leadsHome_2 (by decide) (fun hc => ?_) (fun hc => ?_)
    · replace h := h.1 hc
      clear hc
      refine lv_aload_n hx hb dX1_leadsHome_20 rfl (lv_at hl 0 rfl) ?_
      obtain ⟨a21, hr0, h⟩ := h
      refine jgr (f := 0) hx hb hts hown hst w hG hx0 hiX1 (rfl : vwCl[1]? = some (RX1, TX1, 1)) (hts (.fieldLink RX1 9 "FootByGate$Circuit" "tried" "[I") (by decide +kernel)) ⟨by decide, by decide, rfl⟩ (rfl : jrt 1 0 = 13) dX1_leadsHome_21 hr0 (fun ha21 => ?_)
      clear hr0
      refine lv_iload hx hb dX1_leadsHome_24 (lv_at hl 4 rfl) ?_
      obtain ⟨hn, h⟩ := h
      refine jaid hx hb hst w ha21 hn dX1_leadsHome_26 ?_
      clear hn
      refine lv_if_eq (tgt := 32) hx hb dX1_leadsHome_27 (by decide) (fun hc => ?_) (fun hc => ?_)
      · replace h := h.1 hc
        clear hc
        refine lv_aload_n hx hb dX1_leadsHome_32 rfl (lv_at hl 0 rfl) ?_
        obtain ⟨a33, hr0, h⟩ := h
        refine jgr (f := 0) hx hb hts hown hst w hG hx0 hiX1 (rfl : vwCl[1]? = some (RX1, TX1, 1)) (hts (.fieldLink RX1 9 "FootByGate$Circuit" "tried" "[I") (by decide +kernel)) ⟨by decide, by decide, rfl⟩ (rfl : jrt 1 0 = 13) dX1_leadsHome_33 hr0 (fun ha33 => ?_)
        clear hr0
        refine lv_iload hx hb dX1_leadsHome_36 (lv_at hl 4 rfl) ?_
        refine lv_iconst (v := (1 : Int32)) hx hb dX1_leadsHome_38 (by decide) ?_
        obtain ⟨hn, h⟩ := h
        refine jais hx hb hst w ha33 hn dX1_leadsHome_39 (fun i39 H locs he w => ?_)
        replace h := h i39 he
        clear he hn
        refine lv_iconst (v := (0 : Int32)) hx hb dX1_leadsHome_40 (by decide) ?_
        refine lv_istore (lv' := [(6, .int (0 : Int32)), (0, .ref (b + x0)), (1, .ref (b + x1)), (2, .ref (b + x2)), (3, .int x3), (4, .int x4), (5, .int x5)]) hx hb dX1_leadsHome_41 hl (by decide) rfl (fun ls hl => ?_)
        obtain ⟨g0, h⟩ := h
        exact w_X1_leadsHome_L43 C0 hr hlk hRc g0 w hx0 hx1 hx2 (lv_sub hl [1, 2, 3, 4, 5, 6, 0] rfl) h
      · replace h := h.2 hc
        clear hc
        refine lv_iconst (v := (0 : Int32)) hx hb dX1_leadsHome_30 (by decide) ?_
        exact jret_z hx hb hr hlk hst w (by decide) h dX1_leadsHome_31
    · replace h := h.2 hc
      clear hc
      refine lv_iload_n hx hb dX1_leadsHome_5 rfl (lv_at hl 3 rfl) ?_
      refine jcS_i (As := [.int x3]) (rest := []) C0 w (c_X7_placeOf hG h) (va_cwS 1 hts gX1_leadsHome_X7_placeOf rfl rfl rfl (by decide +kernel) ⟨by show 1 ≤ 2 + (d + 1); omega, by show 20 ≤ 49 + (d + 1) * 27; omega⟩) rfl hl.1 rfl (Nat.le_of_ble_eq_true rfl) dX1_leadsHome_6 (fun q6 i6 j6 H locs h w => ?_) ⟨Nat.zero_le _, Nat.zero_le _⟩
      refine lv_iload hx hb dX1_leadsHome_9 (lv_at hl 5 rfl) ?_
      refine lv_icmp_ne (tgt := 18) hx hb dX1_leadsHome_11 (by decide) (fun hc => ?_) (fun hc => ?_)
      · replace h := h.1 hc
        clear hc
        refine lv_iconst (v := (0 : Int32)) hx hb dX1_leadsHome_18 (by decide) ?_
        exact jret_z hx hb hr hlk hst w (by decide) h dX1_leadsHome_19
      · replace h := h.2 hc
        clear hc
        refine lv_iconst (v := (1 : Int32)) hx hb dX1_leadsHome_14 (by decide) ?_
        refine lv_goto (tgt := 19) hx hb dX1_leadsHome_15 (by decide) ?_
        exact jret_z hx hb hr hlk hst w (by decide) h dX1_leadsHome_19
end S_X1_leadsHome
section S_X1_firstStreet
def J_X1_firstStreet_L77 (len : Nat → Nat) (r : jR) (Q : Int32 → jI → jL → Prop) (Hd21 : jI → jL → Nat → Nat → Nat → Int32 → Int32 → Int32 → Prop) (i : jI) (j : jL) (x0 : Nat) (x1 : Nat) (x2 : Nat) (x3 : Int32) (x4 : Int32) (x5 : Int32) : Prop := ∀ v77 : Int32, v77 = x5 + (1 : Int32) → (Hd21 i j x0 x1 x2 x3 x4 v77)
def J_X1_firstStreet_L21 (len : Nat → Nat) (r : jR) (Q : Int32 → jI → jL → Prop) : Nat → jI → jL → Nat → Nat → Nat → Int32 → Int32 → Int32 → Prop
  | 0 => fun _ _ _ _ _ _ _ _ => False
  | g + 1 => fun i j x0 x1 x2 x3 x4 x5 => (((i x1 0) ≤ x5) → (Q (-1 : Int32) i j)) ∧ ((¬ (i x1 0) ≤ x5) → (∃ a35, r x2 1 = some a35 ∧ (vp_in x5 (len a35) ∧ (J_X8_behind len r (fun (q41 : Int32) (i41 : jI) (j41 : jL) => ((q41 = (-1 : Int32)) → (J_X1_firstStreet_L77 len r Q (J_X1_firstStreet_L21 len r Q g) i41 j41 x0 x1 x2 x3 x4 x5)) ∧ ((¬ q41 = (-1 : Int32)) → (J_X7_placeOf len r (fun (q65 : Int32) (i65 : jI) (j65 : jL) => J_X1_leadsHome len r 11 (fun (q68 : Int32) (i68 : jI) (j68 : jL) => ((q68 = 0) → (J_X1_firstStreet_L77 len r Q (J_X1_firstStreet_L21 len r Q g) i68 j68 x0 x1 x2 x3 x4 x5)) ∧ ((¬ q68 = 0) → (Q x5 i68 j68))) i65 j65 x0 x1 x2 q41 (x4 ^^^ ((1 : Int32) <<< (x5 &&& 31))) q65) i41 j41 x3))) i j x1 x3 x5 (i a35 x5.toNatClampNeg)))))
def J_X1_firstStreet (len : Nat → Nat) (r : jR) (Q : Int32 → jI → jL → Prop) (i : jI) (j : jL) (x0 : Nat) (x1 : Nat) (x2 : Nat) (x3 : Int32) : Prop := ∃ a1, r x0 0 = some a1 ∧ (J_J7_fill_53178 len r (fun (i5 : jI) (j5 : jL) => ∀ v16 : Int32, v16 = ((1 : Int32) <<< ((i5 x1 0) &&& 31)) - (1 : Int32) → (∃ g0, J_X1_firstStreet_L21 len r Q g0 i5 j5 x0 x1 x2 x3 v16 (0 : Int32))) i j a1 (0 : Int32))
abbrev rm_X1_firstStreet : Room := { frames := 14, cells := 0, slots := 0, locals := 373 }
variable {p : Program} {l : Launch} {e : Env} {s : State} {m : MethodId} {args : Array Value} {below : List Frame} {meth : Method} {c : Code} {b tU n : Nat} {cy : Nat → ClassId} {D : va_G} {K len : Nat → Nat} {r : jR} {Q : Int32 → jI → jL → Prop}
theorem hiX1_X1_firstStreet : ∀ w ∈ u_ws RX1 TX1 1, w ∈ wsX1_firstStreet := by decide +kernel
theorem hiX2_X1_firstStreet : ∀ w ∈ u_ws RX2 TX2 2, w ∈ wsX1_firstStreet := by decide +kernel
theorem hiX8_X1_firstStreet : ∀ w ∈ u_ws RX8 TX8 8, w ∈ wsX1_firstStreet := by decide +kernel
set_option maxHeartbeats 4000000 in
set_option maxRecDepth 100000 in
theorem w_X1_firstStreet_L77 (C0 : jCx p s m args c cX1_firstStreet 7 wsX1_firstStreet RX1 b cy D tU n K r) (hr : meth.sig.returnType = some .int) (hlk : meth.locks = false) {Hd21 : jI → jL → Nat → Nat → Nat → Int32 → Int32 → Int32 → Prop} (k21 : ∀ {H : Heap} {locs : List Loc} {ls : Array Slot} {i : jI} {j : jL} {x0 : Nat} {x1 : Nat} {x2 : Nat} {x3 : Int32} {x4 : Int32} {x5 : Int32} (w : jDy b cy D n K len r i j s H locs) (hx0 : x0 < n ∧ K x0 = 1) (hx1 : x1 < n ∧ K x1 = 7) (hx2 : x2 < n ∧ K x2 = 2) (hl : lv_has ls 7 [(0, .ref (b + x0)), (1, .ref (b + x1)), (2, .ref (b + x2)), (3, .int x3), (4, .int x4), (5, .int x5)]) (h : Hd21 i j x0 x1 x2 x3 x4 x5), W p l e rm_X1_firstStreet s m args below meth c H locs 0 0 (MQ below (jQi b cy D tU n K len r Q) args s 0 0 (jA b)) (F0 m 21 ls [])) {H : Heap} {locs : List Loc} {ls : Array Slot} {i : jI} {j : jL} {x0 : Nat} {x1 : Nat} {x2 : Nat} {x3 : Int32} {x4 : Int32} {x5 : Int32} (w : jDy b cy D n K len r i j s H locs) (hx0 : x0 < n ∧ K x0 = 1) (hx1 : x1 < n ∧ K x1 = 7) (hx2 : x2 < n ∧ K x2 = 2) (hl : lv_has ls 7 [(0, .ref (b + x0)), (1, .ref (b + x1)), (2, .ref (b + x2)), (3, .int x3), (4, .int x4), (5, .int x5)]) (h : J_X1_firstStreet_L77 len r Q Hd21 i j x0 x1 x2 x3 x4 x5) : W p l e rm_X1_firstStreet s m args below meth c H locs 0 0 (MQ below (jQi b cy D tU n K len r Q) args s 0 0 (jA b)) (F0 m 77 ls []) := by
  obtain ⟨hx, hb, hml, hown, hts, hst, hG⟩ := id C0
  have hiX1 : ∀ w ∈ u_ws RX1 TX1 1, w ∈ wsX1_firstStreet := hiX1_X1_firstStreet
  have hiX2 : ∀ w ∈ u_ws RX2 TX2 2, w ∈ wsX1_firstStreet := hiX2_X1_firstStreet
  have hiX8 : ∀ w ∈ u_ws RX8 TX8 8, w ∈ wsX1_firstStreet := hiX8_X1_firstStreet
  rw [J_X1_firstStreet_L77] at h
  obtain ⟨v77, he⟩ : ∃ z : Int32, z = x5 + (1 : Int32) := ⟨_, rfl⟩
  replace h := h v77 he
  refine lv_iinc (v := v77) (lv' := [(5, .int v77), (0, .ref (b + x0)), (1, .ref (b + x1)), (2, .ref (b + x2)), (3, .int x3), (4, .int x4)]) hx hb dX1_firstStreet_77 hl (k := 5) rfl (by rw [he]; rfl) (by decide) rfl (fun ls hl => ?_)
  clear he
  refine lv_goto (tgt := 21) hx hb dX1_firstStreet_80 (by decide) ?_
  exact k21 w hx0 hx1 hx2 (lv_sub hl [1, 2, 3, 4, 5, 0] rfl) h
set_option maxHeartbeats 4000000 in
set_option maxRecDepth 100000 in
theorem w_X1_firstStreet_L21 (C0 : jCx p s m args c cX1_firstStreet 7 wsX1_firstStreet RX1 b cy D tU n K r) (hr : meth.sig.returnType = some .int) (hlk : meth.locks = false) : ∀ (g : Nat) {H : Heap} {locs : List Loc} {ls : Array Slot} {i : jI} {j : jL} {x0 : Nat} {x1 : Nat} {x2 : Nat} {x3 : Int32} {x4 : Int32} {x5 : Int32} (w : jDy b cy D n K len r i j s H locs) (hx0 : x0 < n ∧ K x0 = 1) (hx1 : x1 < n ∧ K x1 = 7) (hx2 : x2 < n ∧ K x2 = 2) (hl : lv_has ls 7 [(0, .ref (b + x0)), (1, .ref (b + x1)), (2, .ref (b + x2)), (3, .int x3), (4, .int x4), (5, .int x5)]) (h : J_X1_firstStreet_L21 len r Q g i j x0 x1 x2 x3 x4 x5), W p l e rm_X1_firstStreet s m args below meth c H locs 0 0 (MQ below (jQi b cy D tU n K len r Q) args s 0 0 (jA b)) (F0 m 21 ls []) := by
  obtain ⟨hx, hb, hml, hown, hts, hst, hG⟩ := id C0
  have hiX1 : ∀ w ∈ u_ws RX1 TX1 1, w ∈ wsX1_firstStreet := hiX1_X1_firstStreet
  have hiX2 : ∀ w ∈ u_ws RX2 TX2 2, w ∈ wsX1_firstStreet := hiX2_X1_firstStreet
  have hiX8 : ∀ w ∈ u_ws RX8 TX8 8, w ∈ wsX1_firstStreet := hiX8_X1_firstStreet
  intro g
  induction g with
  | zero => intro H locs ls i j x0 x1 x2 x3 x4 x5 w hx0 hx1 hx2 hl h; exact False.elim h
  | succ g ih =>
    intro H locs ls i j x0 x1 x2 x3 x4 x5 w hx0 hx1 hx2 hl h
    rw [J_X1_firstStreet_L21] at h
    refine lv_iload hx hb dX1_firstStreet_21 (lv_at hl 5 rfl) ?_
    refine lv_aload_n hx hb dX1_firstStreet_23 rfl (lv_at hl 1 rfl) ?_
    refine jgi (f := 0) hx hb hts hown hst w hx1 hiX8 (rfl : vwCl[7]? = some (RX8, TX8, 8)) (hts (.fieldLink RX1 21 "FootByGate$Town" "streets" "I") (by decide +kernel)) ⟨by decide, by decide, rfl⟩ dX1_firstStreet_24 ?_
    refine lv_icmp_ge (tgt := 83) hx hb dX1_firstStreet_27 (by decide) (fun hc => ?_) (fun hc => ?_)
    · replace h := h.1 hc
      clear hc
      refine lv_iconst (v := (-1 : Int32)) hx hb dX1_firstStreet_83 (by decide) ?_
      exact jret_i hx hb hr hlk hst w h dX1_firstStreet_84
    · replace h := h.2 hc
      clear hc
      refine lv_aload_n hx hb dX1_firstStreet_30 rfl (lv_at hl 1 rfl) ?_
      refine lv_iload_n hx hb dX1_firstStreet_31 rfl (lv_at hl 3 rfl) ?_
      refine lv_iload hx hb dX1_firstStreet_32 (lv_at hl 5 rfl) ?_
      refine lv_aload_n hx hb dX1_firstStreet_34 rfl (lv_at hl 2 rfl) ?_
      obtain ⟨a35, hr0, h⟩ := h
      refine jgr (f := 1) hx hb hts hown hst w hG hx2 hiX2 (rfl : vwCl[2]? = some (RX2, TX2, 2)) (hts (.fieldLink RX1 27 "FootByGate$Gait" "turn" "[I") (by decide +kernel)) ⟨by decide, by decide, rfl⟩ (rfl : jrt 2 1 = 13) dX1_firstStreet_35 hr0 (fun ha35 => ?_)
      clear hr0
      refine lv_iload hx hb dX1_firstStreet_38 (lv_at hl 5 rfl) ?_
      obtain ⟨hn, h⟩ := h
      refine jaid hx hb hst w ha35 hn dX1_firstStreet_40 ?_
      clear hn
      refine jcV_i (k := x1) (As := [.int x3, .int x5, .int (i a35 x5.toNatClampNeg)]) (rest := []) C0 w (c_X8_behind hG hx1 h) (cwV 3 hts gX1_firstStreet_X8_behind rfl rfl rfl (by decide +kernel) ⟨Nat.le_of_ble_eq_true rfl, Nat.le_of_ble_eq_true rfl⟩) hx1 (rfl : vwCl[7]? = some (RX8, TX8, 8)) (by decide) rfl hl.1 rfl (Nat.le_of_ble_eq_true rfl) dX1_firstStreet_41 (fun q41 i41 j41 H locs h w => ?_) ⟨Nat.zero_le _, Nat.zero_le _⟩
      refine lv_istore (lv' := [(6, .int q41), (0, .ref (b + x0)), (1, .ref (b + x1)), (2, .ref (b + x2)), (3, .int x3), (4, .int x4), (5, .int x5)]) hx hb dX1_firstStreet_44 hl (by decide) rfl (fun ls hl => ?_)
      refine lv_iload hx hb dX1_firstStreet_46 (lv_at hl 0 rfl) ?_
      refine lv_iconst (v := (-1 : Int32)) hx hb dX1_firstStreet_48 (by decide) ?_
      refine lv_icmp_eq (tgt := 77) hx hb dX1_firstStreet_49 (by decide) (fun hc => ?_) (fun hc => ?_)
      · replace h := h.1 hc
        clear hc
        exact w_X1_firstStreet_L77 C0 hr hlk (fun w hx0 hx1 hx2 hl h => ih w hx0 hx1 hx2 hl h) w hx0 hx1 hx2 (lv_sub hl [1, 2, 3, 4, 5, 6] rfl) h
      · replace h := h.2 hc
        clear hc
        refine lv_aload_n hx hb dX1_firstStreet_52 rfl (lv_at hl 1 rfl) ?_
        refine lv_aload_n hx hb dX1_firstStreet_53 rfl (lv_at hl 2 rfl) ?_
        refine lv_aload_n hx hb dX1_firstStreet_54 rfl (lv_at hl 3 rfl) ?_
        refine lv_iload hx hb dX1_firstStreet_55 (lv_at hl 0 rfl) ?_
        refine lv_iload hx hb dX1_firstStreet_57 (lv_at hl 5 rfl) ?_
        refine lv_iconst (v := (1 : Int32)) hx hb dX1_firstStreet_59 (by decide) ?_
        refine lv_iload hx hb dX1_firstStreet_60 (lv_at hl 6 rfl) ?_
        refine lv_ishl hx hb dX1_firstStreet_62 ?_
        refine lv_ixor hx hb dX1_firstStreet_63 ?_
        refine lv_iload_n hx hb dX1_firstStreet_64 rfl (lv_at hl 4 rfl) ?_
        refine jcS_i (As := [.int x3]) (rest := [.int (x4 ^^^ ((1 : Int32) <<< (x5 &&& 31))), .int q41, .ref (b + x2), .ref (b + x1), .ref (b + x0)]) C0 w (c_X7_placeOf hG h) (va_cwS 1 hts gX1_firstStreet_X7_placeOf rfl rfl rfl (by decide +kernel) ⟨Nat.le_of_ble_eq_true rfl, Nat.le_of_ble_eq_true rfl⟩) rfl hl.1 rfl (Nat.le_of_ble_eq_true rfl) dX1_firstStreet_65 (fun q65 i65 j65 H locs h w => ?_) ⟨Nat.zero_le _, Nat.zero_le _⟩
        refine jcV_i (k := x0) (As := [.ref (b + x1), .ref (b + x2), .int q41, .int (x4 ^^^ ((1 : Int32) <<< (x5 &&& 31))), .int q65]) (rest := []) C0 w (c_X1_leadsHome hG 11 hx0 hx1 hx2 h) (cwV 5 hts gX1_firstStreet_X1_leadsHome rfl rfl rfl (by decide +kernel) ⟨Nat.le_of_ble_eq_true rfl, Nat.le_of_ble_eq_true rfl⟩) hx0 (rfl : vwCl[1]? = some (RX1, TX1, 1)) (by decide) rfl hl.1 rfl (Nat.le_of_ble_eq_true rfl) dX1_firstStreet_68 (fun q68 i68 j68 H locs h w => ?_) ⟨Nat.zero_le _, Nat.zero_le _⟩
        refine lv_if_eq (tgt := 77) hx hb dX1_firstStreet_71 (by decide) (fun hc => ?_) (fun hc => ?_)
        · replace h := h.1 hc
          clear hc
          exact w_X1_firstStreet_L77 C0 hr hlk (fun w hx0 hx1 hx2 hl h => ih w hx0 hx1 hx2 hl h) w hx0 hx1 hx2 (lv_sub hl [1, 2, 3, 4, 5, 6] rfl) h
        · replace h := h.2 hc
          clear hc
          refine lv_iload hx hb dX1_firstStreet_74 (lv_at hl 6 rfl) ?_
          exact jret_i hx hb hr hlk hst w h dX1_firstStreet_76
set_option maxHeartbeats 4000000 in
set_option maxRecDepth 100000 in
theorem c_X1_firstStreet (hG : jG n K r) {i : jI} {j : jL} {x0 : Nat} {x1 : Nat} {x2 : Nat} {x3 : Int32} (hx0 : x0 < n ∧ K x0 = 1) (hx1 : x1 < n ∧ K x1 = 7) (hx2 : x2 < n ∧ K x2 = 2) (h : J_X1_firstStreet len r Q i j x0 x1 x2 x3) : Met l yX1_firstStreet wsX1_firstStreet rm_X1_firstStreet (va_Pc [.ref (b + x0), .ref (b + x1), .ref (b + x2), .int x3] (jPre b cy D tU n K len r i j)) (jQi b cy D tU n K len r Q) 0 0 (jA b) := by
  refine Met.ofW (cc := cX1_firstStreet) (maxL := 7) (ret := (some .int)) (by decide) rfl ?_
  intro p e s m args below meth c s₁ B hml hv
  obtain ⟨rfl, hv⟩ := hv
  have C0 : jCx p s m _ c cX1_firstStreet 7 wsX1_firstStreet RX1 b cy D tU n K r := ⟨B.exec, B.bytes, hml, findClass_of_methodNamed B.named, atoms_spec (ws := wsX1_firstStreet) B.pre, hv.2.2, hG⟩
  have hr := B.returns
  have hlk := B.notSynchronized
  obtain ⟨hx, hb, hml, hown, hts, hst, hG⟩ := id C0
  have hiX1 : ∀ w ∈ u_ws RX1 TX1 1, w ∈ wsX1_firstStreet := hiX1_X1_firstStreet
  have hiX2 : ∀ w ∈ u_ws RX2 TX2 2, w ∈ wsX1_firstStreet := hiX2_X1_firstStreet
  have hiX8 : ∀ w ∈ u_ws RX8 TX8 8, w ∈ wsX1_firstStreet := hiX8_X1_firstStreet
  have w := jDy.start hv
  have hl := lv_entry ([.ref (b + x0), .ref (b + x1), .ref (b + x2), .int x3]) (n := 7) (Nat.le_of_ble_eq_true rfl)
  rw [lg_entry_eq]
  generalize (lg_sl ([.ref (b + x0), .ref (b + x1), .ref (b + x2), .int x3]) ++ List.replicate (7 - (lg_sl ([.ref (b + x0), .ref (b + x1), .ref (b + x2), .int x3])).length) Slot.unset).toArray = ls at hl ⊢
  replace hl : lv_has ls 7 [(0, .ref (b + x0)), (1, .ref (b + x1)), (2, .ref (b + x2)), (3, .int x3)] := hl
  show W p l e rm_X1_firstStreet s m _ below meth c s.heap [] 0 0 _ (F0 m 0 ls [])
  rw [J_X1_firstStreet] at h
  refine lv_aload_n hx hb dX1_firstStreet_0 rfl (lv_at hl 0 rfl) ?_
  obtain ⟨a1, hr0, h⟩ := h
  refine jgr (f := 0) hx hb hts hown hst w hG hx0 hiX1 (rfl : vwCl[1]? = some (RX1, TX1, 1)) (hts (.fieldLink RX1 9 "FootByGate$Circuit" "tried" "[I") (by decide +kernel)) ⟨by decide, by decide, rfl⟩ (rfl : jrt 1 0 = 13) dX1_firstStreet_1 hr0 (fun ha1 => ?_)
  clear hr0
  refine lv_iconst (v := (0 : Int32)) hx hb dX1_firstStreet_4 (by decide) ?_
  refine jcS_v (As := [.ref (b + a1), .int (0 : Int32)]) (rest := []) C0 w (c_J7_fill_53178 hG ha1 h) (va_cwS 2 hts gX1_firstStreet_J7_fill_53178 rfl rfl rfl (by decide +kernel) ⟨Nat.le_of_ble_eq_true rfl, Nat.le_of_ble_eq_true rfl⟩) rfl hl.1 rfl (Nat.le_of_ble_eq_true rfl) dX1_firstStreet_5 (fun i5 j5 H locs h w => ?_) ⟨Nat.zero_le _, Nat.zero_le _⟩
  refine lv_iconst (v := (1 : Int32)) hx hb dX1_firstStreet_8 (by decide) ?_
  refine lv_aload_n hx hb dX1_firstStreet_9 rfl (lv_at hl 1 rfl) ?_
  refine jgi (f := 0) hx hb hts hown hst w hx1 hiX8 (rfl : vwCl[7]? = some (RX8, TX8, 8)) (hts (.fieldLink RX1 21 "FootByGate$Town" "streets" "I") (by decide +kernel)) ⟨by decide, by decide, rfl⟩ dX1_firstStreet_10 ?_
  refine lv_ishl hx hb dX1_firstStreet_13 ?_
  refine lv_iconst (v := (1 : Int32)) hx hb dX1_firstStreet_14 (by decide) ?_
  refine lv_isub hx hb dX1_firstStreet_15 ?_
  refine lv_topi (fun v16 he => ?_)
  replace h := h v16 he
  clear he
  refine lv_istore (lv' := [(4, .int v16), (0, .ref (b + x0)), (1, .ref (b + x1)), (2, .ref (b + x2)), (3, .int x3)]) hx hb dX1_firstStreet_16 hl (by decide) rfl (fun ls hl => ?_)
  refine lv_iconst (v := (0 : Int32)) hx hb dX1_firstStreet_18 (by decide) ?_
  refine lv_istore (lv' := [(5, .int (0 : Int32)), (4, .int v16), (0, .ref (b + x0)), (1, .ref (b + x1)), (2, .ref (b + x2)), (3, .int x3)]) hx hb dX1_firstStreet_19 hl (by decide) rfl (fun ls hl => ?_)
  obtain ⟨g0, h⟩ := h
  exact w_X1_firstStreet_L21 C0 hr hlk g0 w hx0 hx1 hx2 (lv_sub hl [2, 3, 4, 5, 1, 0] rfl) h
end S_X1_firstStreet
section S_X9_stepsOf
def J_X9_stepsOf (len : Nat → Nat) (r : jR) (Q : Int32 → jI → jL → Prop) (i : jI) (j : jL) (x0 : Int32) (x1 : Int32) : Prop := ((x0 = (1 : Int32)) → (Q (x1 + (x1 / (2 : Int32))) i j)) ∧ (((x0 = (2 : Int32)) → (Q ((x1 + (1 : Int32)) / (2 : Int32)) i j)) ∧ (((x0 = (3 : Int32)) → (Q x1 i j)) ∧ (((x0 = (4 : Int32)) → (Q (((x1 + (1 : Int32)) / (2 : Int32)) + (1 : Int32)) i j)) ∧ ((¬ x0 = (1 : Int32) → ¬ x0 = (2 : Int32) → ¬ x0 = (3 : Int32) → ¬ x0 = (4 : Int32) → (Q x1 i j))))))
abbrev rm_X9_stepsOf : Room := { frames := 0, cells := 0, slots := 0, locals := 0 }
variable {p : Program} {l : Launch} {e : Env} {s : State} {m : MethodId} {args : Array Value} {below : List Frame} {meth : Method} {c : Code} {b tU n : Nat} {cy : Nat → ClassId} {D : va_G} {K len : Nat → Nat} {r : jR} {Q : Int32 → jI → jL → Prop}
set_option maxHeartbeats 4000000 in
set_option maxRecDepth 100000 in
theorem c_X9_stepsOf (hG : jG n K r) {i : jI} {j : jL} {x0 : Int32} {x1 : Int32} (h : J_X9_stepsOf len r Q i j x0 x1) : Met l yX9_stepsOf wsX9_stepsOf rm_X9_stepsOf (va_Pc [.int x0, .int x1] (jPre b cy D tU n K len r i j)) (jQi b cy D tU n K len r Q) 0 0 (jA b) := by
  refine Met.ofW (cc := cX9_stepsOf) (maxL := 2) (ret := (some .int)) (by decide) rfl ?_
  intro p e s m args below meth c s₁ B hml hv
  obtain ⟨rfl, hv⟩ := hv
  have C0 : jCx p s m _ c cX9_stepsOf 2 wsX9_stepsOf RX9 b cy D tU n K r := ⟨B.exec, B.bytes, hml, findClass_of_methodNamed B.named, atoms_spec (ws := wsX9_stepsOf) B.pre, hv.2.2, hG⟩
  have hr := B.returns
  have hlk := B.notSynchronized
  obtain ⟨hx, hb, hml, hown, hts, hst, hG⟩ := id C0
  have w := jDy.start hv
  have hl := lv_entry ([.int x0, .int x1]) (n := 2) (Nat.le_of_ble_eq_true rfl)
  rw [lg_entry_eq]
  generalize (lg_sl ([.int x0, .int x1]) ++ List.replicate (2 - (lg_sl ([.int x0, .int x1])).length) Slot.unset).toArray = ls at hl ⊢
  replace hl : lv_has ls 2 [(0, .int x0), (1, .int x1)] := hl
  show W p l e rm_X9_stepsOf s m _ below meth c s.heap [] 0 0 _ (F0 m 0 ls [])
  rw [J_X9_stepsOf] at h
  refine lv_iload_n hx hb dX9_stepsOf_0 rfl (lv_at hl 0 rfl) ?_
  by_cases hc0 : x0 = (1 : Int32)
  · replace h := h.1 hc0
    refine lv_tableIn (off := 31) (tgt := 32) hx hb dX9_stepsOf_1 (by rw [hc0]; decide) (by rw [hc0]; decide) (by rw [hc0]; rfl) (by decide) ?_
    clear hc0
    refine lv_iload_n hx hb dX9_stepsOf_32 rfl (lv_at hl 1 rfl) ?_
    refine lv_iload_n hx hb dX9_stepsOf_33 rfl (lv_at hl 1 rfl) ?_
    refine lv_iconst (v := (2 : Int32)) hx hb dX9_stepsOf_34 (by decide) ?_
    refine lv_idiv hx hb dX9_stepsOf_35 (by decide) ?_
    refine lv_iadd hx hb dX9_stepsOf_36 ?_
    exact jret_i hx hb hr hlk hst w h dX9_stepsOf_37
  replace h := h.2
  by_cases hc1 : x0 = (2 : Int32)
  · replace h := h.1 hc1
    refine lv_tableIn (off := 37) (tgt := 38) hx hb dX9_stepsOf_1 (by rw [hc1]; decide) (by rw [hc1]; decide) (by rw [hc1]; rfl) (by decide) ?_
    clear hc1
    refine lv_iload_n hx hb dX9_stepsOf_38 rfl (lv_at hl 1 rfl) ?_
    refine lv_iconst (v := (1 : Int32)) hx hb dX9_stepsOf_39 (by decide) ?_
    refine lv_iadd hx hb dX9_stepsOf_40 ?_
    refine lv_iconst (v := (2 : Int32)) hx hb dX9_stepsOf_41 (by decide) ?_
    refine lv_idiv hx hb dX9_stepsOf_42 (by decide) ?_
    exact jret_i hx hb hr hlk hst w h dX9_stepsOf_43
  replace h := h.2
  by_cases hc2 : x0 = (3 : Int32)
  · replace h := h.1 hc2
    refine lv_tableIn (off := 51) (tgt := 52) hx hb dX9_stepsOf_1 (by rw [hc2]; decide) (by rw [hc2]; decide) (by rw [hc2]; rfl) (by decide) ?_
    clear hc2
    refine lv_iload_n hx hb dX9_stepsOf_52 rfl (lv_at hl 1 rfl) ?_
    exact jret_i hx hb hr hlk hst w h dX9_stepsOf_53
  replace h := h.2
  by_cases hc3 : x0 = (4 : Int32)
  · replace h := h.1 hc3
    refine lv_tableIn (off := 43) (tgt := 44) hx hb dX9_stepsOf_1 (by rw [hc3]; decide) (by rw [hc3]; decide) (by rw [hc3]; rfl) (by decide) ?_
    clear hc3
    refine lv_iload_n hx hb dX9_stepsOf_44 rfl (lv_at hl 1 rfl) ?_
    refine lv_iconst (v := (1 : Int32)) hx hb dX9_stepsOf_45 (by decide) ?_
    refine lv_iadd hx hb dX9_stepsOf_46 ?_
    refine lv_iconst (v := (2 : Int32)) hx hb dX9_stepsOf_47 (by decide) ?_
    refine lv_idiv hx hb dX9_stepsOf_48 (by decide) ?_
    refine lv_iconst (v := (1 : Int32)) hx hb dX9_stepsOf_49 (by decide) ?_
    refine lv_iadd hx hb dX9_stepsOf_50 ?_
    exact jret_i hx hb hr hlk hst w h dX9_stepsOf_51
  replace h := h.2
  replace h := h hc0 hc1 hc2 hc3
  have hd : x0.toInt < 1 ∨ 4 < x0.toInt := by
    rcases Int.lt_or_le x0.toInt 1 with h1 | h1
    · exact Or.inl h1
    rcases Int.lt_or_le 4 x0.toInt with h2 | h2
    · exact Or.inr h2
    exfalso
    have h3 : x0.toInt = 1 ∨ x0.toInt = 2 ∨ x0.toInt = 3 ∨ x0.toInt = 4 := by omega
    rcases h3 with h3 | h3 | h3 | h3
    · exact hc0 (Int32.toInt_inj.mp (h3.trans (by decide)))
    · exact hc1 (Int32.toInt_inj.mp (h3.trans (by decide)))
    · exact hc2 (Int32.toInt_inj.mp (h3.trans (by decide)))
    · exact hc3 (Int32.toInt_inj.mp (h3.trans (by decide)))
  refine lv_tableOut (tgt := 52) hx hb dX9_stepsOf_1 hd (by decide) ?_
  clear hd hc0 hc1 hc2 hc3
  refine lv_iload_n hx hb dX9_stepsOf_52 rfl (lv_at hl 1 rfl) ?_
  exact jret_i hx hb hr hlk hst w h dX9_stepsOf_53
end S_X9_stepsOf
section S_X9_turnOf
def J_X9_turnOf (len : Nat → Nat) (r : jR) (Q : Int32 → jI → jL → Prop) (i : jI) (j : jL) (x0 : Int32) (x1 : Int32) : Prop := ((¬ x0 = (3 : Int32)) → (J_X9_stepsOf len r (fun (q11 : Int32) (i11 : jI) (j11 : jL) => Q (q11 &&& (1 : Int32)) i11 j11) i j x0 x1)) ∧ ((x0 = (3 : Int32)) → (Q (0 : Int32) i j))
abbrev rm_X9_turnOf : Room := { frames := 1, cells := 0, slots := 0, locals := 21 }
variable {p : Program} {l : Launch} {e : Env} {s : State} {m : MethodId} {args : Array Value} {below : List Frame} {meth : Method} {c : Code} {b tU n : Nat} {cy : Nat → ClassId} {D : va_G} {K len : Nat → Nat} {r : jR} {Q : Int32 → jI → jL → Prop}
set_option maxHeartbeats 4000000 in
set_option maxRecDepth 100000 in
theorem c_X9_turnOf (hG : jG n K r) {i : jI} {j : jL} {x0 : Int32} {x1 : Int32} (h : J_X9_turnOf len r Q i j x0 x1) : Met l yX9_turnOf wsX9_turnOf rm_X9_turnOf (va_Pc [.int x0, .int x1] (jPre b cy D tU n K len r i j)) (jQi b cy D tU n K len r Q) 0 0 (jA b) := by
  refine Met.ofW (cc := cX9_turnOf) (maxL := 2) (ret := (some .int)) (by decide) rfl ?_
  intro p e s m args below meth c s₁ B hml hv
  obtain ⟨rfl, hv⟩ := hv
  have C0 : jCx p s m _ c cX9_turnOf 2 wsX9_turnOf RX9 b cy D tU n K r := ⟨B.exec, B.bytes, hml, findClass_of_methodNamed B.named, atoms_spec (ws := wsX9_turnOf) B.pre, hv.2.2, hG⟩
  have hr := B.returns
  have hlk := B.notSynchronized
  obtain ⟨hx, hb, hml, hown, hts, hst, hG⟩ := id C0
  have w := jDy.start hv
  have hl := lv_entry ([.int x0, .int x1]) (n := 2) (Nat.le_of_ble_eq_true rfl)
  rw [lg_entry_eq]
  generalize (lg_sl ([.int x0, .int x1]) ++ List.replicate (2 - (lg_sl ([.int x0, .int x1])).length) Slot.unset).toArray = ls at hl ⊢
  replace hl : lv_has ls 2 [(0, .int x0), (1, .int x1)] := hl
  show W p l e rm_X9_turnOf s m _ below meth c s.heap [] 0 0 _ (F0 m 0 ls [])
  rw [J_X9_turnOf] at h
  refine lv_iload_n hx hb dX9_turnOf_0 rfl (lv_at hl 0 rfl) ?_
  refine lv_iconst (v := (3 : Int32)) hx hb dX9_turnOf_1 (by decide) ?_
  refine lv_icmp_ne (tgt := 9) hx hb dX9_turnOf_2 (by decide) (fun hc => ?_) (fun hc => ?_)
  · replace h := h.1 hc
    clear hc
    refine lv_iload_n hx hb dX9_turnOf_9 rfl (lv_at hl 0 rfl) ?_
    refine lv_iload_n hx hb dX9_turnOf_10 rfl (lv_at hl 1 rfl) ?_
    refine jcS_i (As := [.int x0, .int x1]) (rest := []) C0 w (c_X9_stepsOf hG h) (va_cwS 2 hts gX9_turnOf_X9_stepsOf rfl rfl rfl (by decide +kernel) ⟨Nat.le_of_ble_eq_true rfl, Nat.le_of_ble_eq_true rfl⟩) rfl hl.1 rfl (Nat.le_of_ble_eq_true rfl) dX9_turnOf_11 (fun q11 i11 j11 H locs h w => ?_) ⟨Nat.zero_le _, Nat.zero_le _⟩
    refine lv_iconst (v := (1 : Int32)) hx hb dX9_turnOf_14 (by decide) ?_
    refine lv_iand hx hb dX9_turnOf_15 ?_
    exact jret_i hx hb hr hlk hst w h dX9_turnOf_16
  · replace h := h.2 hc
    clear hc
    refine lv_iconst (v := (0 : Int32)) hx hb dX9_turnOf_5 (by decide) ?_
    refine lv_goto (tgt := 16) hx hb dX9_turnOf_6 (by decide) ?_
    exact jret_i hx hb hr hlk hst w h dX9_turnOf_16
end S_X9_turnOf
section S_X2_pave
def J_X2_pave (len : Nat → Nat) (r : jR) (Q : jI → jL → Prop) (i : jI) (j : jL) (x0 : Nat) (x1 : Int32) (x2 : Int32) (x3 : Int32) : Prop := ∃ a1, r x0 0 = some a1 ∧ (J_X9_stepsOf len r (fun (q7 : Int32) (i7 : jI) (j7 : jL) => vp_in x2 (len a1) ∧ ∀ i10 : jI, i10 = ju i7 a1 x2.toNatClampNeg q7 → (∃ a12, r x0 1 = some a12 ∧ (J_X9_turnOf len r (fun (q18 : Int32) (i18 : jI) (j18 : jL) => vp_in x2 (len a12) ∧ ∀ i21 : jI, i21 = ju i18 a12 x2.toNatClampNeg q18 → (Q i21 j18)) i10 j7 x1 x3))) i j x1 x3)
abbrev rm_X2_pave : Room := { frames := 2, cells := 0, slots := 0, locals := 42 }
variable {p : Program} {l : Launch} {e : Env} {s : State} {m : MethodId} {args : Array Value} {below : List Frame} {meth : Method} {c : Code} {b tU n : Nat} {cy : Nat → ClassId} {D : va_G} {K len : Nat → Nat} {r : jR} {Q : jI → jL → Prop}
theorem hiX2_X2_pave : ∀ w ∈ u_ws RX2 TX2 2, w ∈ wsX2_pave := by decide +kernel
set_option maxHeartbeats 4000000 in
set_option maxRecDepth 100000 in
theorem c_X2_pave (hG : jG n K r) {i : jI} {j : jL} {x0 : Nat} {x1 : Int32} {x2 : Int32} {x3 : Int32} (hx0 : x0 < n ∧ K x0 = 2) (h : J_X2_pave len r Q i j x0 x1 x2 x3) : Met l yX2_pave wsX2_pave rm_X2_pave (va_Pc [.ref (b + x0), .int x1, .int x2, .int x3] (jPre b cy D tU n K len r i j)) (jQv b cy D tU n K len r Q) 0 0 (jA b) := by
  refine Met.ofW (cc := cX2_pave) (maxL := 4) (ret := none) (by decide) rfl ?_
  intro p e s m args below meth c s₁ B hml hv
  obtain ⟨rfl, hv⟩ := hv
  have C0 : jCx p s m _ c cX2_pave 4 wsX2_pave RX2 b cy D tU n K r := ⟨B.exec, B.bytes, hml, findClass_of_methodNamed B.named, atoms_spec (ws := wsX2_pave) B.pre, hv.2.2, hG⟩
  have hr := B.returns
  have hlk := B.notSynchronized
  obtain ⟨hx, hb, hml, hown, hts, hst, hG⟩ := id C0
  have hiX2 : ∀ w ∈ u_ws RX2 TX2 2, w ∈ wsX2_pave := hiX2_X2_pave
  have w := jDy.start hv
  have hl := lv_entry ([.ref (b + x0), .int x1, .int x2, .int x3]) (n := 4) (Nat.le_of_ble_eq_true rfl)
  rw [lg_entry_eq]
  generalize (lg_sl ([.ref (b + x0), .int x1, .int x2, .int x3]) ++ List.replicate (4 - (lg_sl ([.ref (b + x0), .int x1, .int x2, .int x3])).length) Slot.unset).toArray = ls at hl ⊢
  replace hl : lv_has ls 4 [(0, .ref (b + x0)), (1, .int x1), (2, .int x2), (3, .int x3)] := hl
  show W p l e rm_X2_pave s m _ below meth c s.heap [] 0 0 _ (F0 m 0 ls [])
  rw [J_X2_pave] at h
  refine lv_aload_n hx hb dX2_pave_0 rfl (lv_at hl 0 rfl) ?_
  obtain ⟨a1, hr0, h⟩ := h
  refine jgr (f := 0) hx hb hts hown hst w hG hx0 hiX2 (rfl : vwCl[2]? = some (RX2, TX2, 2)) (hts (.fieldLink RX2 9 "FootByGate$Gait" "steps" "[I") (by decide +kernel)) ⟨by decide, by decide, rfl⟩ (rfl : jrt 2 0 = 13) dX2_pave_1 hr0 (fun ha1 => ?_)
  clear hr0
  refine lv_iload_n hx hb dX2_pave_4 rfl (lv_at hl 2 rfl) ?_
  refine lv_iload_n hx hb dX2_pave_5 rfl (lv_at hl 1 rfl) ?_
  refine lv_iload_n hx hb dX2_pave_6 rfl (lv_at hl 3 rfl) ?_
  refine jcS_i (As := [.int x1, .int x3]) (rest := [.int x2, .ref (b + a1)]) C0 w (c_X9_stepsOf hG h) (va_cwS 2 hts gX2_pave_X9_stepsOf rfl rfl rfl (by decide +kernel) ⟨Nat.le_of_ble_eq_true rfl, Nat.le_of_ble_eq_true rfl⟩) rfl hl.1 rfl (Nat.le_of_ble_eq_true rfl) dX2_pave_7 (fun q7 i7 j7 H locs h w => ?_) ⟨Nat.zero_le _, Nat.zero_le _⟩
  obtain ⟨hn, h⟩ := h
  refine jais hx hb hst w ha1 hn dX2_pave_10 (fun i10 H locs he w => ?_)
  replace h := h i10 he
  clear he hn
  refine lv_aload_n hx hb dX2_pave_11 rfl (lv_at hl 0 rfl) ?_
  obtain ⟨a12, hr0, h⟩ := h
  refine jgr (f := 1) hx hb hts hown hst w hG hx0 hiX2 (rfl : vwCl[2]? = some (RX2, TX2, 2)) (hts (.fieldLink RX2 15 "FootByGate$Gait" "turn" "[I") (by decide +kernel)) ⟨by decide, by decide, rfl⟩ (rfl : jrt 2 1 = 13) dX2_pave_12 hr0 (fun ha12 => ?_)
  clear hr0
  refine lv_iload_n hx hb dX2_pave_15 rfl (lv_at hl 2 rfl) ?_
  refine lv_iload_n hx hb dX2_pave_16 rfl (lv_at hl 1 rfl) ?_
  refine lv_iload_n hx hb dX2_pave_17 rfl (lv_at hl 3 rfl) ?_
  refine jcS_i (As := [.int x1, .int x3]) (rest := [.int x2, .ref (b + a12)]) C0 w (c_X9_turnOf hG h) (va_cwS 2 hts gX2_pave_X9_turnOf rfl rfl rfl (by decide +kernel) ⟨Nat.le_of_ble_eq_true rfl, Nat.le_of_ble_eq_true rfl⟩) rfl hl.1 rfl (Nat.le_of_ble_eq_true rfl) dX2_pave_18 (fun q18 i18 j18 H locs h w => ?_) ⟨Nat.zero_le _, Nat.zero_le _⟩
  obtain ⟨hn, h⟩ := h
  refine jais hx hb hst w ha12 hn dX2_pave_21 (fun i21 H locs he w => ?_)
  replace h := h i21 he
  clear he hn
  exact jret_v hx hb hr hlk hst w h dX2_pave_22
end S_X2_pave
section S_X2_take
def J_X2_take_L2 (len : Nat → Nat) (r : jR) (Q : jI → jL → Prop) : Nat → jI → jL → Nat → Int32 → Nat → Int32 → Prop
  | 0 => fun _ _ _ _ _ _ => False
  | g + 1 => fun i j x0 x1 x2 x3 => (((i x2 0) ≤ x3) → (Q i j)) ∧ ((¬ (i x2 0) ≤ x3) → (∃ a14, r x2 5 = some a14 ∧ (vp_in x3 (len a14) ∧ (J_X2_pave len r (fun (i19 : jI) (j19 : jL) => ∀ v22 : Int32, v22 = x3 + (1 : Int32) → ((J_X2_take_L2 len r Q g) i19 j19 x0 x1 x2 v22)) i j x0 x1 x3 (i a14 x3.toNatClampNeg)))))
def J_X2_take (len : Nat → Nat) (r : jR) (Q : jI → jL → Prop) (i : jI) (j : jL) (x0 : Nat) (x1 : Int32) (x2 : Nat) : Prop := ∃ g0, J_X2_take_L2 len r Q g0 i j x0 x1 x2 (0 : Int32)
abbrev rm_X2_take : Room := { frames := 3, cells := 0, slots := 0, locals := 65 }
variable {p : Program} {l : Launch} {e : Env} {s : State} {m : MethodId} {args : Array Value} {below : List Frame} {meth : Method} {c : Code} {b tU n : Nat} {cy : Nat → ClassId} {D : va_G} {K len : Nat → Nat} {r : jR} {Q : jI → jL → Prop}
theorem hiX8_X2_take : ∀ w ∈ u_ws RX8 TX8 8, w ∈ wsX2_take := by decide +kernel
set_option maxHeartbeats 4000000 in
set_option maxRecDepth 100000 in
theorem w_X2_take_L2 (C0 : jCx p s m args c cX2_take 4 wsX2_take RX2 b cy D tU n K r) (hr : meth.sig.returnType = none) (hlk : meth.locks = false) : ∀ (g : Nat) {H : Heap} {locs : List Loc} {ls : Array Slot} {i : jI} {j : jL} {x0 : Nat} {x1 : Int32} {x2 : Nat} {x3 : Int32} (w : jDy b cy D n K len r i j s H locs) (hx0 : x0 < n ∧ K x0 = 2) (hx2 : x2 < n ∧ K x2 = 7) (hl : lv_has ls 4 [(0, .ref (b + x0)), (1, .int x1), (2, .ref (b + x2)), (3, .int x3)]) (h : J_X2_take_L2 len r Q g i j x0 x1 x2 x3), W p l e rm_X2_take s m args below meth c H locs 0 0 (MQ below (jQv b cy D tU n K len r Q) args s 0 0 (jA b)) (F0 m 2 ls []) := by
  obtain ⟨hx, hb, hml, hown, hts, hst, hG⟩ := id C0
  have hiX8 : ∀ w ∈ u_ws RX8 TX8 8, w ∈ wsX2_take := hiX8_X2_take
  intro g
  induction g with
  | zero => intro H locs ls i j x0 x1 x2 x3 w hx0 hx2 hl h; exact False.elim h
  | succ g ih =>
    intro H locs ls i j x0 x1 x2 x3 w hx0 hx2 hl h
    rw [J_X2_take_L2] at h
    refine lv_iload_n hx hb dX2_take_2 rfl (lv_at hl 3 rfl) ?_
    refine lv_aload_n hx hb dX2_take_3 rfl (lv_at hl 2 rfl) ?_
    refine jgi (f := 0) hx hb hts hown hst w hx2 hiX8 (rfl : vwCl[7]? = some (RX8, TX8, 8)) (hts (.fieldLink RX2 18 "FootByGate$Town" "streets" "I") (by decide +kernel)) ⟨by decide, by decide, rfl⟩ dX2_take_4 ?_
    refine lv_icmp_ge (tgt := 28) hx hb dX2_take_7 (by decide) (fun hc => ?_) (fun hc => ?_)
    · replace h := h.1 hc
      clear hc
      exact jret_v hx hb hr hlk hst w h dX2_take_28
    · replace h := h.2 hc
      clear hc
      refine lv_aload_n hx hb dX2_take_10 rfl (lv_at hl 0 rfl) ?_
      refine lv_iload_n hx hb dX2_take_11 rfl (lv_at hl 1 rfl) ?_
      refine lv_iload_n hx hb dX2_take_12 rfl (lv_at hl 3 rfl) ?_
      refine lv_aload_n hx hb dX2_take_13 rfl (lv_at hl 2 rfl) ?_
      obtain ⟨a14, hr0, h⟩ := h
      refine jgr (f := 5) hx hb hts hown hst w hG hx2 hiX8 (rfl : vwCl[7]? = some (RX8, TX8, 8)) (hts (.fieldLink RX2 24 "FootByGate$Town" "paces" "[I") (by decide +kernel)) ⟨by decide, by decide, rfl⟩ (rfl : jrt 7 5 = 13) dX2_take_14 hr0 (fun ha14 => ?_)
      clear hr0
      refine lv_iload_n hx hb dX2_take_17 rfl (lv_at hl 3 rfl) ?_
      obtain ⟨hn, h⟩ := h
      refine jaid hx hb hst w ha14 hn dX2_take_18 ?_
      clear hn
      refine jcV_v (k := x0) (As := [.int x1, .int x3, .int (i a14 x3.toNatClampNeg)]) (rest := []) C0 w (c_X2_pave hG hx0 h) (cwV 3 hts gX2_take_X2_pave rfl rfl rfl (by decide +kernel) ⟨Nat.le_of_ble_eq_true rfl, Nat.le_of_ble_eq_true rfl⟩) hx0 (rfl : vwCl[2]? = some (RX2, TX2, 2)) (by decide) rfl hl.1 rfl (Nat.le_of_ble_eq_true rfl) dX2_take_19 (fun i19 j19 H locs h w => ?_) ⟨Nat.zero_le _, Nat.zero_le _⟩
      obtain ⟨v22, he⟩ : ∃ z : Int32, z = x3 + (1 : Int32) := ⟨_, rfl⟩
      replace h := h v22 he
      refine lv_iinc (v := v22) (lv' := [(3, .int v22), (0, .ref (b + x0)), (1, .int x1), (2, .ref (b + x2))]) hx hb dX2_take_22 hl (k := 3) rfl (by rw [he]; rfl) (by decide) rfl (fun ls hl => ?_)
      clear he
      refine lv_goto (tgt := 2) hx hb dX2_take_25 (by decide) ?_
      exact ih w hx0 hx2 (lv_sub hl [1, 2, 3, 0] rfl) h
set_option maxHeartbeats 4000000 in
set_option maxRecDepth 100000 in
theorem c_X2_take (hG : jG n K r) {i : jI} {j : jL} {x0 : Nat} {x1 : Int32} {x2 : Nat} (hx0 : x0 < n ∧ K x0 = 2) (hx2 : x2 < n ∧ K x2 = 7) (h : J_X2_take len r Q i j x0 x1 x2) : Met l yX2_take wsX2_take rm_X2_take (va_Pc [.ref (b + x0), .int x1, .ref (b + x2)] (jPre b cy D tU n K len r i j)) (jQv b cy D tU n K len r Q) 0 0 (jA b) := by
  refine Met.ofW (cc := cX2_take) (maxL := 4) (ret := none) (by decide) rfl ?_
  intro p e s m args below meth c s₁ B hml hv
  obtain ⟨rfl, hv⟩ := hv
  have C0 : jCx p s m _ c cX2_take 4 wsX2_take RX2 b cy D tU n K r := ⟨B.exec, B.bytes, hml, findClass_of_methodNamed B.named, atoms_spec (ws := wsX2_take) B.pre, hv.2.2, hG⟩
  have hr := B.returns
  have hlk := B.notSynchronized
  obtain ⟨hx, hb, hml, hown, hts, hst, hG⟩ := id C0
  have hiX8 : ∀ w ∈ u_ws RX8 TX8 8, w ∈ wsX2_take := hiX8_X2_take
  have w := jDy.start hv
  have hl := lv_entry ([.ref (b + x0), .int x1, .ref (b + x2)]) (n := 4) (Nat.le_of_ble_eq_true rfl)
  rw [lg_entry_eq]
  generalize (lg_sl ([.ref (b + x0), .int x1, .ref (b + x2)]) ++ List.replicate (4 - (lg_sl ([.ref (b + x0), .int x1, .ref (b + x2)])).length) Slot.unset).toArray = ls at hl ⊢
  replace hl : lv_has ls 4 [(0, .ref (b + x0)), (1, .int x1), (2, .ref (b + x2))] := hl
  show W p l e rm_X2_take s m _ below meth c s.heap [] 0 0 _ (F0 m 0 ls [])
  rw [J_X2_take] at h
  refine lv_iconst (v := (0 : Int32)) hx hb dX2_take_0 (by decide) ?_
  refine lv_istore_n (lv' := [(3, .int (0 : Int32)), (0, .ref (b + x0)), (1, .int x1), (2, .ref (b + x2))]) hx hb dX2_take_1 rfl hl (by decide) rfl (fun ls hl => ?_)
  obtain ⟨g0, h⟩ := h
  exact w_X2_take_L2 C0 hr hlk g0 w hx0 hx2 (lv_sub hl [1, 2, 3, 0] rfl) h
end S_X2_take
section S_X4_bringPaces
def J_X4_bringPaces (len : Nat → Nat) (r : jR) (Q : jI → jL → Prop) (i : jI) (j : jL) (x0 : Nat) (x1 : Nat) : Prop := ∃ a1, r x0 6 = some a1 ∧ (∃ a6, r x1 5 = some a6 ∧ (((¬ (0 : Int32) < 0 ∧ ¬ (0 : Int32) < 0 ∧ ¬ (10 : Int32) < 0) ∧ (0 : Int32).toNatClampNeg + (10 : Int32).toNatClampNeg ≤ len a1 ∧ (0 : Int32).toNatClampNeg + (10 : Int32).toNatClampNeg ≤ len a6) ∧ (∀ i12 : jI, i12 = jcp i a1 a6 (0 : Int32).toNatClampNeg (0 : Int32).toNatClampNeg (10 : Int32).toNatClampNeg → (Q i12 j))))
abbrev rm_X4_bringPaces : Room := { frames := 1, cells := 0, slots := 0, locals := 18 }
variable {p : Program} {l : Launch} {e : Env} {s : State} {m : MethodId} {args : Array Value} {below : List Frame} {meth : Method} {c : Code} {b tU n : Nat} {cy : Nat → ClassId} {D : va_G} {K len : Nat → Nat} {r : jR} {Q : jI → jL → Prop}
theorem hiX4_X4_bringPaces : ∀ w ∈ u_ws RX4 TX4 7, w ∈ wsX4_bringPaces := by decide +kernel
theorem hiX8_X4_bringPaces : ∀ w ∈ u_ws RX8 TX8 8, w ∈ wsX4_bringPaces := by decide +kernel
set_option maxHeartbeats 4000000 in
set_option maxRecDepth 100000 in
theorem c_X4_bringPaces (hG : jG n K r) {i : jI} {j : jL} {x0 : Nat} {x1 : Nat} (hx0 : x0 < n ∧ K x0 = 4) (hx1 : x1 < n ∧ K x1 = 7) (h : J_X4_bringPaces len r Q i j x0 x1) : Met l yX4_bringPaces wsX4_bringPaces rm_X4_bringPaces (va_Pc [.ref (b + x0), .ref (b + x1)] (jPre b cy D tU n K len r i j)) (jQv b cy D tU n K len r Q) 0 0 (jA b) := by
  refine Met.ofW (cc := cX4_bringPaces) (maxL := 2) (ret := none) (by decide) rfl ?_
  intro p e s m args below meth c s₁ B hml hv
  obtain ⟨rfl, hv⟩ := hv
  have C0 : jCx p s m _ c cX4_bringPaces 2 wsX4_bringPaces RX4 b cy D tU n K r := ⟨B.exec, B.bytes, hml, findClass_of_methodNamed B.named, atoms_spec (ws := wsX4_bringPaces) B.pre, hv.2.2, hG⟩
  have hr := B.returns
  have hlk := B.notSynchronized
  obtain ⟨hx, hb, hml, hown, hts, hst, hG⟩ := id C0
  have hiX4 : ∀ w ∈ u_ws RX4 TX4 7, w ∈ wsX4_bringPaces := hiX4_X4_bringPaces
  have hiX8 : ∀ w ∈ u_ws RX8 TX8 8, w ∈ wsX4_bringPaces := hiX8_X4_bringPaces
  have w := jDy.start hv
  have hl := lv_entry ([.ref (b + x0), .ref (b + x1)]) (n := 2) (Nat.le_of_ble_eq_true rfl)
  rw [lg_entry_eq]
  generalize (lg_sl ([.ref (b + x0), .ref (b + x1)]) ++ List.replicate (2 - (lg_sl ([.ref (b + x0), .ref (b + x1)])).length) Slot.unset).toArray = ls at hl ⊢
  replace hl : lv_has ls 2 [(0, .ref (b + x0)), (1, .ref (b + x1))] := hl
  show W p l e rm_X4_bringPaces s m _ below meth c s.heap [] 0 0 _ (F0 m 0 ls [])
  rw [J_X4_bringPaces] at h
  refine lv_aload_n hx hb dX4_bringPaces_0 rfl (lv_at hl 0 rfl) ?_
  obtain ⟨a1, hr0, h⟩ := h
  refine jgr (f := 6) hx hb hts hown hst w hG hx0 hiX4 (rfl : vwCl[4]? = some (RX4, TX4, 7)) (hts (.fieldLink RX4 21 "FootByGate$Image" "paces" "[I") (by decide +kernel)) ⟨by decide, by decide, rfl⟩ (rfl : jrt 4 6 = 13) dX4_bringPaces_1 hr0 (fun ha1 => ?_)
  clear hr0
  refine lv_iconst (v := (0 : Int32)) hx hb dX4_bringPaces_4 (by decide) ?_
  refine lv_aload_n hx hb dX4_bringPaces_5 rfl (lv_at hl 1 rfl) ?_
  obtain ⟨a6, hr0, h⟩ := h
  refine jgr (f := 5) hx hb hts hown hst w hG hx1 hiX8 (rfl : vwCl[7]? = some (RX8, TX8, 8)) (hts (.fieldLink RX4 47 "FootByGate$Town" "paces" "[I") (by decide +kernel)) ⟨by decide, by decide, rfl⟩ (rfl : jrt 7 5 = 13) dX4_bringPaces_6 hr0 (fun ha6 => ?_)
  clear hr0
  refine lv_iconst (v := (0 : Int32)) hx hb dX4_bringPaces_9 (by decide) ?_
  refine lv_bipush (v := (10 : Int32)) hx hb dX4_bringPaces_10 (by decide) ?_
  obtain ⟨hcp, h⟩ := h
  refine jcopy C0 w (hts (.methodLink RX4 41 arraycopyName) (by decide +kernel)) (hts (.native arraycopyName) (by decide +kernel)) (hts (.static arraycopyName) (by decide +kernel)) (hts (.initialized "java/lang/System") (by decide +kernel)) ha1 ha6 hl.1 hcp (by decide) (by decide) dX4_bringPaces_12 (fun i12 H locs he w => ?_)
  replace h := h i12 he
  clear he hcp
  exact jret_v hx hb hr hlk hst w h dX4_bringPaces_15
end S_X4_bringPaces
section S_X4_bringPrints
def J_X4_bringPrints (len : Nat → Nat) (r : jR) (Q : Int32 → jI → jL → Prop) (i : jI) (j : jL) (x0 : Nat) (x1 : Nat) : Prop := ∃ a1, r x0 5 = some a1 ∧ (((¬ (0 : Int32) < 0 ∧ ¬ (0 : Int32) < 0 ∧ ¬ (i x0 4) < 0) ∧ (0 : Int32).toNatClampNeg + (i x0 4).toNatClampNeg ≤ len a1 ∧ (0 : Int32).toNatClampNeg + (i x0 4).toNatClampNeg ≤ len x1) ∧ (∀ i11 : jI, i11 = jcp i a1 x1 (0 : Int32).toNatClampNeg (0 : Int32).toNatClampNeg (i x0 4).toNatClampNeg → (Q (i11 x0 4) i11 j)))
abbrev rm_X4_bringPrints : Room := { frames := 1, cells := 0, slots := 0, locals := 18 }
variable {p : Program} {l : Launch} {e : Env} {s : State} {m : MethodId} {args : Array Value} {below : List Frame} {meth : Method} {c : Code} {b tU n : Nat} {cy : Nat → ClassId} {D : va_G} {K len : Nat → Nat} {r : jR} {Q : Int32 → jI → jL → Prop}
theorem hiX4_X4_bringPrints : ∀ w ∈ u_ws RX4 TX4 7, w ∈ wsX4_bringPrints := by decide +kernel
set_option maxHeartbeats 4000000 in
set_option maxRecDepth 100000 in
theorem c_X4_bringPrints (hG : jG n K r) {i : jI} {j : jL} {x0 : Nat} {x1 : Nat} (hx0 : x0 < n ∧ K x0 = 4) (hx1 : x1 < n ∧ K x1 = 13) (h : J_X4_bringPrints len r Q i j x0 x1) : Met l yX4_bringPrints wsX4_bringPrints rm_X4_bringPrints (va_Pc [.ref (b + x0), .ref (b + x1)] (jPre b cy D tU n K len r i j)) (jQi b cy D tU n K len r Q) 0 0 (jA b) := by
  refine Met.ofW (cc := cX4_bringPrints) (maxL := 2) (ret := (some .int)) (by decide) rfl ?_
  intro p e s m args below meth c s₁ B hml hv
  obtain ⟨rfl, hv⟩ := hv
  have C0 : jCx p s m _ c cX4_bringPrints 2 wsX4_bringPrints RX4 b cy D tU n K r := ⟨B.exec, B.bytes, hml, findClass_of_methodNamed B.named, atoms_spec (ws := wsX4_bringPrints) B.pre, hv.2.2, hG⟩
  have hr := B.returns
  have hlk := B.notSynchronized
  obtain ⟨hx, hb, hml, hown, hts, hst, hG⟩ := id C0
  have hiX4 : ∀ w ∈ u_ws RX4 TX4 7, w ∈ wsX4_bringPrints := hiX4_X4_bringPrints
  have w := jDy.start hv
  have hl := lv_entry ([.ref (b + x0), .ref (b + x1)]) (n := 2) (Nat.le_of_ble_eq_true rfl)
  rw [lg_entry_eq]
  generalize (lg_sl ([.ref (b + x0), .ref (b + x1)]) ++ List.replicate (2 - (lg_sl ([.ref (b + x0), .ref (b + x1)])).length) Slot.unset).toArray = ls at hl ⊢
  replace hl : lv_has ls 2 [(0, .ref (b + x0)), (1, .ref (b + x1))] := hl
  show W p l e rm_X4_bringPrints s m _ below meth c s.heap [] 0 0 _ (F0 m 0 ls [])
  rw [J_X4_bringPrints] at h
  refine lv_aload_n hx hb dX4_bringPrints_0 rfl (lv_at hl 0 rfl) ?_
  obtain ⟨a1, hr0, h⟩ := h
  refine jgr (f := 5) hx hb hts hown hst w hG hx0 hiX4 (rfl : vwCl[4]? = some (RX4, TX4, 7)) (hts (.fieldLink RX4 18 "FootByGate$Image" "prints" "[I") (by decide +kernel)) ⟨by decide, by decide, rfl⟩ (rfl : jrt 4 5 = 13) dX4_bringPrints_1 hr0 (fun ha1 => ?_)
  clear hr0
  refine lv_iconst (v := (0 : Int32)) hx hb dX4_bringPrints_4 (by decide) ?_
  refine lv_aload_n hx hb dX4_bringPrints_5 rfl (lv_at hl 1 rfl) ?_
  refine lv_iconst (v := (0 : Int32)) hx hb dX4_bringPrints_6 (by decide) ?_
  refine lv_aload_n hx hb dX4_bringPrints_7 rfl (lv_at hl 0 rfl) ?_
  refine jgi (f := 4) hx hb hts hown hst w hx0 hiX4 (rfl : vwCl[4]? = some (RX4, TX4, 7)) (hts (.fieldLink RX4 38 "FootByGate$Image" "printCount" "I") (by decide +kernel)) ⟨by decide, by decide, rfl⟩ dX4_bringPrints_8 ?_
  obtain ⟨hcp, h⟩ := h
  refine jcopy C0 w (hts (.methodLink RX4 41 arraycopyName) (by decide +kernel)) (hts (.native arraycopyName) (by decide +kernel)) (hts (.static arraycopyName) (by decide +kernel)) (hts (.initialized "java/lang/System") (by decide +kernel)) ha1 hx1 hl.1 hcp (by decide) (by decide) dX4_bringPrints_11 (fun i11 H locs he w => ?_)
  replace h := h i11 he
  clear he hcp
  refine lv_aload_n hx hb dX4_bringPrints_14 rfl (lv_at hl 0 rfl) ?_
  refine jgi (f := 4) hx hb hts hown hst w hx0 hiX4 (rfl : vwCl[4]? = some (RX4, TX4, 7)) (hts (.fieldLink RX4 38 "FootByGate$Image" "printCount" "I") (by decide +kernel)) ⟨by decide, by decide, rfl⟩ dX4_bringPrints_15 ?_
  exact jret_i hx hb hr hlk hst w h dX4_bringPrints_18
end S_X4_bringPrints
section S_X4_bringWalkers
def J_X4_bringWalkers_L2 (len : Nat → Nat) (r : jR) (Q : Int32 → jI → jL → Prop) : Nat → jI → jL → Nat → Nat → Int32 → Prop
  | 0 => fun _ _ _ _ _ => False
  | g + 1 => fun i j x0 x1 x2 => (((i x0 1) ≤ x2) → (Q (i x0 1) i j)) ∧ ((¬ (i x0 1) ≤ x2) → (vp_in x2 (len x1) ∧ ∃ a12, r x1 x2.toNatClampNeg = some a12 ∧ (∃ a14, r x0 2 = some a14 ∧ (vp_in x2 (len a14) ∧ (∀ i19 : jI, i19 = ju i a12 1 (i a14 x2.toNatClampNeg) → (vp_in x2 (len x1) ∧ ∃ a24, r x1 x2.toNatClampNeg = some a24 ∧ (∃ a26, r x0 3 = some a26 ∧ (vp_in x2 (len a26) ∧ (∀ i31 : jI, i31 = ju i19 a24 2 (i19 a26 x2.toNatClampNeg) → (∀ v34 : Int32, v34 = x2 + (1 : Int32) → ((J_X4_bringWalkers_L2 len r Q g) i31 j x0 x1 v34)))))))))))
def J_X4_bringWalkers (len : Nat → Nat) (r : jR) (Q : Int32 → jI → jL → Prop) (i : jI) (j : jL) (x0 : Nat) (x1 : Nat) : Prop := ∃ g0, J_X4_bringWalkers_L2 len r Q g0 i j x0 x1 (0 : Int32)
abbrev rm_X4_bringWalkers : Room := { frames := 0, cells := 0, slots := 0, locals := 0 }
variable {p : Program} {l : Launch} {e : Env} {s : State} {m : MethodId} {args : Array Value} {below : List Frame} {meth : Method} {c : Code} {b tU n : Nat} {cy : Nat → ClassId} {D : va_G} {K len : Nat → Nat} {r : jR} {Q : Int32 → jI → jL → Prop}
theorem hiX4_X4_bringWalkers : ∀ w ∈ u_ws RX4 TX4 7, w ∈ wsX4_bringWalkers := by decide +kernel
theorem hiX9_X4_bringWalkers : ∀ w ∈ u_ws RX9 TX9 3, w ∈ wsX4_bringWalkers := by decide +kernel
set_option maxHeartbeats 4000000 in
set_option maxRecDepth 100000 in
theorem w_X4_bringWalkers_L2 (C0 : jCx p s m args c cX4_bringWalkers 3 wsX4_bringWalkers RX4 b cy D tU n K r) (hr : meth.sig.returnType = some .int) (hlk : meth.locks = false) : ∀ (g : Nat) {H : Heap} {locs : List Loc} {ls : Array Slot} {i : jI} {j : jL} {x0 : Nat} {x1 : Nat} {x2 : Int32} (w : jDy b cy D n K len r i j s H locs) (hx0 : x0 < n ∧ K x0 = 4) (hx1 : x1 < n ∧ K x1 = 16) (hl : lv_has ls 3 [(0, .ref (b + x0)), (1, .ref (b + x1)), (2, .int x2)]) (h : J_X4_bringWalkers_L2 len r Q g i j x0 x1 x2), W p l e rm_X4_bringWalkers s m args below meth c H locs 0 0 (MQ below (jQi b cy D tU n K len r Q) args s 0 0 (jA b)) (F0 m 2 ls []) := by
  obtain ⟨hx, hb, hml, hown, hts, hst, hG⟩ := id C0
  have hiX4 : ∀ w ∈ u_ws RX4 TX4 7, w ∈ wsX4_bringWalkers := hiX4_X4_bringWalkers
  have hiX9 : ∀ w ∈ u_ws RX9 TX9 3, w ∈ wsX4_bringWalkers := hiX9_X4_bringWalkers
  intro g
  induction g with
  | zero => intro H locs ls i j x0 x1 x2 w hx0 hx1 hl h; exact False.elim h
  | succ g ih =>
    intro H locs ls i j x0 x1 x2 w hx0 hx1 hl h
    rw [J_X4_bringWalkers_L2] at h
    refine lv_iload_n hx hb dX4_bringWalkers_2 rfl (lv_at hl 2 rfl) ?_
    refine lv_aload_n hx hb dX4_bringWalkers_3 rfl (lv_at hl 0 rfl) ?_
    refine jgi (f := 1) hx hb hts hown hst w hx0 hiX4 (rfl : vwCl[4]? = some (RX4, TX4, 7)) (hts (.fieldLink RX4 28 "FootByGate$Image" "walkerCount" "I") (by decide +kernel)) ⟨by decide, by decide, rfl⟩ dX4_bringWalkers_4 ?_
    refine lv_icmp_ge (tgt := 40) hx hb dX4_bringWalkers_7 (by decide) (fun hc => ?_) (fun hc => ?_)
    · replace h := h.1 hc
      clear hc
      refine lv_aload_n hx hb dX4_bringWalkers_40 rfl (lv_at hl 0 rfl) ?_
      refine jgi (f := 1) hx hb hts hown hst w hx0 hiX4 (rfl : vwCl[4]? = some (RX4, TX4, 7)) (hts (.fieldLink RX4 28 "FootByGate$Image" "walkerCount" "I") (by decide +kernel)) ⟨by decide, by decide, rfl⟩ dX4_bringWalkers_41 ?_
      exact jret_i hx hb hr hlk hst w h dX4_bringWalkers_44
    · replace h := h.2 hc
      clear hc
      refine lv_aload_n hx hb dX4_bringWalkers_10 rfl (lv_at hl 1 rfl) ?_
      refine lv_iload_n hx hb dX4_bringWalkers_11 rfl (lv_at hl 2 rfl) ?_
      obtain ⟨hn, h⟩ := h
      obtain ⟨a12, hr0, h⟩ := h
      refine jaar hx hb hst w hG hx1 hn dX4_bringWalkers_12 hr0 (fun ha12 => ?_)
      clear hn hr0
      refine lv_aload_n hx hb dX4_bringWalkers_13 rfl (lv_at hl 0 rfl) ?_
      obtain ⟨a14, hr0, h⟩ := h
      refine jgr (f := 2) hx hb hts hown hst w hG hx0 hiX4 (rfl : vwCl[4]? = some (RX4, TX4, 7)) (hts (.fieldLink RX4 9 "FootByGate$Image" "stands" "[I") (by decide +kernel)) ⟨by decide, by decide, rfl⟩ (rfl : jrt 4 2 = 13) dX4_bringWalkers_14 hr0 (fun ha14 => ?_)
      clear hr0
      refine lv_iload_n hx hb dX4_bringWalkers_17 rfl (lv_at hl 2 rfl) ?_
      obtain ⟨hn, h⟩ := h
      refine jaid hx hb hst w ha14 hn dX4_bringWalkers_18 ?_
      clear hn
      refine jpi (f := 1) hx hb hts hown hst w ha12 hiX9 (rfl : vwCl[8]? = some (RX9, TX9, 3)) (hts (.fieldLink RX4 31 "FootByGate$Walker" "stand" "I") (by decide +kernel)) ⟨by decide, by decide, rfl⟩ tyX9 tyX9_ok nmX9 rfl ⟨rfl, rfl⟩ dX4_bringWalkers_19 (fun i19 H locs he w => ?_)
      replace h := h i19 he
      clear he
      refine lv_aload_n hx hb dX4_bringWalkers_22 rfl (lv_at hl 1 rfl) ?_
      refine lv_iload_n hx hb dX4_bringWalkers_23 rfl (lv_at hl 2 rfl) ?_
      obtain ⟨hn, h⟩ := h
      obtain ⟨a24, hr0, h⟩ := h
      refine jaar hx hb hst w hG hx1 hn dX4_bringWalkers_24 hr0 (fun ha24 => ?_)
      clear hn hr0
      refine lv_aload_n hx hb dX4_bringWalkers_25 rfl (lv_at hl 0 rfl) ?_
      obtain ⟨a26, hr0, h⟩ := h
      refine jgr (f := 3) hx hb hts hown hst w hG hx0 hiX4 (rfl : vwCl[4]? = some (RX4, TX4, 7)) (hts (.fieldLink RX4 15 "FootByGate$Image" "skipped" "[I") (by decide +kernel)) ⟨by decide, by decide, rfl⟩ (rfl : jrt 4 3 = 13) dX4_bringWalkers_26 hr0 (fun ha26 => ?_)
      clear hr0
      refine lv_iload_n hx hb dX4_bringWalkers_29 rfl (lv_at hl 2 rfl) ?_
      obtain ⟨hn, h⟩ := h
      refine jaid hx hb hst w ha26 hn dX4_bringWalkers_30 ?_
      clear hn
      refine jpi (f := 2) hx hb hts hown hst w ha24 hiX9 (rfl : vwCl[8]? = some (RX9, TX9, 3)) (hts (.fieldLink RX4 36 "FootByGate$Walker" "skipped" "I") (by decide +kernel)) ⟨by decide, by decide, rfl⟩ tyX9 tyX9_ok nmX9 rfl ⟨rfl, rfl⟩ dX4_bringWalkers_31 (fun i31 H locs he w => ?_)
      replace h := h i31 he
      clear he
      obtain ⟨v34, he⟩ : ∃ z : Int32, z = x2 + (1 : Int32) := ⟨_, rfl⟩
      replace h := h v34 he
      refine lv_iinc (v := v34) (lv' := [(2, .int v34), (0, .ref (b + x0)), (1, .ref (b + x1))]) hx hb dX4_bringWalkers_34 hl (k := 2) rfl (by rw [he]; rfl) (by decide) rfl (fun ls hl => ?_)
      clear he
      refine lv_goto (tgt := 2) hx hb dX4_bringWalkers_37 (by decide) ?_
      exact ih w hx0 hx1 (lv_sub hl [1, 2, 0] rfl) h
set_option maxHeartbeats 4000000 in
set_option maxRecDepth 100000 in
theorem c_X4_bringWalkers (hG : jG n K r) {i : jI} {j : jL} {x0 : Nat} {x1 : Nat} (hx0 : x0 < n ∧ K x0 = 4) (hx1 : x1 < n ∧ K x1 = 16) (h : J_X4_bringWalkers len r Q i j x0 x1) : Met l yX4_bringWalkers wsX4_bringWalkers rm_X4_bringWalkers (va_Pc [.ref (b + x0), .ref (b + x1)] (jPre b cy D tU n K len r i j)) (jQi b cy D tU n K len r Q) 0 0 (jA b) := by
  refine Met.ofW (cc := cX4_bringWalkers) (maxL := 3) (ret := (some .int)) (by decide) rfl ?_
  intro p e s m args below meth c s₁ B hml hv
  obtain ⟨rfl, hv⟩ := hv
  have C0 : jCx p s m _ c cX4_bringWalkers 3 wsX4_bringWalkers RX4 b cy D tU n K r := ⟨B.exec, B.bytes, hml, findClass_of_methodNamed B.named, atoms_spec (ws := wsX4_bringWalkers) B.pre, hv.2.2, hG⟩
  have hr := B.returns
  have hlk := B.notSynchronized
  obtain ⟨hx, hb, hml, hown, hts, hst, hG⟩ := id C0
  have hiX4 : ∀ w ∈ u_ws RX4 TX4 7, w ∈ wsX4_bringWalkers := hiX4_X4_bringWalkers
  have hiX9 : ∀ w ∈ u_ws RX9 TX9 3, w ∈ wsX4_bringWalkers := hiX9_X4_bringWalkers
  have w := jDy.start hv
  have hl := lv_entry ([.ref (b + x0), .ref (b + x1)]) (n := 3) (Nat.le_of_ble_eq_true rfl)
  rw [lg_entry_eq]
  generalize (lg_sl ([.ref (b + x0), .ref (b + x1)]) ++ List.replicate (3 - (lg_sl ([.ref (b + x0), .ref (b + x1)])).length) Slot.unset).toArray = ls at hl ⊢
  replace hl : lv_has ls 3 [(0, .ref (b + x0)), (1, .ref (b + x1))] := hl
  show W p l e rm_X4_bringWalkers s m _ below meth c s.heap [] 0 0 _ (F0 m 0 ls [])
  rw [J_X4_bringWalkers] at h
  refine lv_iconst (v := (0 : Int32)) hx hb dX4_bringWalkers_0 (by decide) ?_
  refine lv_istore_n (lv' := [(2, .int (0 : Int32)), (0, .ref (b + x0)), (1, .ref (b + x1))]) hx hb dX4_bringWalkers_1 rfl hl (by decide) rfl (fun ls hl => ?_)
  obtain ⟨g0, h⟩ := h
  exact w_X4_bringWalkers_L2 C0 hr hlk g0 w hx0 hx1 (lv_sub hl [1, 2, 0] rfl) h
end S_X4_bringWalkers
section S_X4_isOf
def J_X4_isOf_L19 (len : Nat → Nat) (r : jR) (Q : Int32 → jI → jL → Prop) (i : jI) (j : jL) : Prop := Q (0 : Int32) i j
def J_X4_isOf (len : Nat → Nat) (r : jR) (Q : Int32 → jI → jL → Prop) (i : jI) (j : jL) (x0 : Nat) (x1 : Int32) : Prop := (((i x0 0) = 0) → (J_X4_isOf_L19 len r Q i j )) ∧ ((¬ (i x0 0) = 0) → (((¬ (i x0 0) = x1) → (J_X4_isOf_L19 len r Q i j )) ∧ (((i x0 0) = x1) → (Q (1 : Int32) i j))))
abbrev rm_X4_isOf : Room := { frames := 0, cells := 0, slots := 0, locals := 0 }
variable {p : Program} {l : Launch} {e : Env} {s : State} {m : MethodId} {args : Array Value} {below : List Frame} {meth : Method} {c : Code} {b tU n : Nat} {cy : Nat → ClassId} {D : va_G} {K len : Nat → Nat} {r : jR} {Q : Int32 → jI → jL → Prop}
theorem hiX4_X4_isOf : ∀ w ∈ u_ws RX4 TX4 7, w ∈ wsX4_isOf := by decide +kernel
set_option maxHeartbeats 4000000 in
set_option maxRecDepth 100000 in
theorem w_X4_isOf_L19 (C0 : jCx p s m args c cX4_isOf 2 wsX4_isOf RX4 b cy D tU n K r) (hr : meth.sig.returnType = some .boolean) (hlk : meth.locks = false) {H : Heap} {locs : List Loc} {ls : Array Slot} {i : jI} {j : jL}  (w : jDy b cy D n K len r i j s H locs) (hl : lv_has ls 2 []) (h : J_X4_isOf_L19 len r Q i j) : W p l e rm_X4_isOf s m args below meth c H locs 0 0 (MQ below (jQi b cy D tU n K len r Q) args s 0 0 (jA b)) (F0 m 19 ls []) := by
  obtain ⟨hx, hb, hml, hown, hts, hst, hG⟩ := id C0
  have hiX4 : ∀ w ∈ u_ws RX4 TX4 7, w ∈ wsX4_isOf := hiX4_X4_isOf
  rw [J_X4_isOf_L19] at h
  refine lv_iconst (v := (0 : Int32)) hx hb dX4_isOf_19 (by decide) ?_
  exact jret_z hx hb hr hlk hst w (by decide) h dX4_isOf_20
set_option maxHeartbeats 4000000 in
set_option maxRecDepth 100000 in
theorem c_X4_isOf (hG : jG n K r) {i : jI} {j : jL} {x0 : Nat} {x1 : Int32} (hx0 : x0 < n ∧ K x0 = 4) (h : J_X4_isOf len r Q i j x0 x1) : Met l yX4_isOf wsX4_isOf rm_X4_isOf (va_Pc [.ref (b + x0), .int x1] (jPre b cy D tU n K len r i j)) (jQi b cy D tU n K len r Q) 0 0 (jA b) := by
  refine Met.ofW (cc := cX4_isOf) (maxL := 2) (ret := (some .boolean)) (by decide) rfl ?_
  intro p e s m args below meth c s₁ B hml hv
  obtain ⟨rfl, hv⟩ := hv
  have C0 : jCx p s m _ c cX4_isOf 2 wsX4_isOf RX4 b cy D tU n K r := ⟨B.exec, B.bytes, hml, findClass_of_methodNamed B.named, atoms_spec (ws := wsX4_isOf) B.pre, hv.2.2, hG⟩
  have hr := B.returns
  have hlk := B.notSynchronized
  obtain ⟨hx, hb, hml, hown, hts, hst, hG⟩ := id C0
  have hiX4 : ∀ w ∈ u_ws RX4 TX4 7, w ∈ wsX4_isOf := hiX4_X4_isOf
  have w := jDy.start hv
  have hl := lv_entry ([.ref (b + x0), .int x1]) (n := 2) (Nat.le_of_ble_eq_true rfl)
  rw [lg_entry_eq]
  generalize (lg_sl ([.ref (b + x0), .int x1]) ++ List.replicate (2 - (lg_sl ([.ref (b + x0), .int x1])).length) Slot.unset).toArray = ls at hl ⊢
  replace hl : lv_has ls 2 [(0, .ref (b + x0)), (1, .int x1)] := hl
  show W p l e rm_X4_isOf s m _ below meth c s.heap [] 0 0 _ (F0 m 0 ls [])
  rw [J_X4_isOf] at h
  refine lv_aload_n hx hb dX4_isOf_0 rfl (lv_at hl 0 rfl) ?_
  refine jgi (f := 0) hx hb hts hown hst w hx0 hiX4 (rfl : vwCl[4]? = some (RX4, TX4, 7)) (hts (.fieldLink RX4 24 "FootByGate$Image" "townsRead" "I") (by decide +kernel)) ⟨by decide, by decide, rfl⟩ dX4_isOf_1 ?_
  refine lv_if_eq (tgt := 19) hx hb dX4_isOf_4 (by decide) (fun hc => ?_) (fun hc => ?_)
  · replace h := h.1 hc
    clear hc
    exact w_X4_isOf_L19 C0 hr hlk w (lv_sub hl [] rfl) h
  · replace h := h.2 hc
    clear hc
    refine lv_aload_n hx hb dX4_isOf_7 rfl (lv_at hl 0 rfl) ?_
    refine jgi (f := 0) hx hb hts hown hst w hx0 hiX4 (rfl : vwCl[4]? = some (RX4, TX4, 7)) (hts (.fieldLink RX4 24 "FootByGate$Image" "townsRead" "I") (by decide +kernel)) ⟨by decide, by decide, rfl⟩ dX4_isOf_8 ?_
    refine lv_iload_n hx hb dX4_isOf_11 rfl (lv_at hl 1 rfl) ?_
    refine lv_icmp_ne (tgt := 19) hx hb dX4_isOf_12 (by decide) (fun hc => ?_) (fun hc => ?_)
    · replace h := h.1 hc
      clear hc
      exact w_X4_isOf_L19 C0 hr hlk w (lv_sub hl [] rfl) h
    · replace h := h.2 hc
      clear hc
      refine lv_iconst (v := (1 : Int32)) hx hb dX4_isOf_15 (by decide) ?_
      refine lv_goto (tgt := 20) hx hb dX4_isOf_16 (by decide) ?_
      exact jret_z hx hb hr hlk hst w (by decide) h dX4_isOf_20
end S_X4_isOf
section S_X4_keepPaces
def J_X4_keepPaces (len : Nat → Nat) (r : jR) (Q : jI → jL → Prop) (i : jI) (j : jL) (x0 : Nat) (x1 : Nat) (x2 : Int32) : Prop := ∀ i2 : jI, i2 = ju i x0 0 x2 → (∃ a6, r x1 5 = some a6 ∧ (∃ a11, r x0 6 = some a11 ∧ (((¬ (0 : Int32) < 0 ∧ ¬ (0 : Int32) < 0 ∧ ¬ (10 : Int32) < 0) ∧ (0 : Int32).toNatClampNeg + (10 : Int32).toNatClampNeg ≤ len a6 ∧ (0 : Int32).toNatClampNeg + (10 : Int32).toNatClampNeg ≤ len a11) ∧ (∀ i17 : jI, i17 = jcp i2 a6 a11 (0 : Int32).toNatClampNeg (0 : Int32).toNatClampNeg (10 : Int32).toNatClampNeg → (Q i17 j)))))
abbrev rm_X4_keepPaces : Room := { frames := 1, cells := 0, slots := 0, locals := 18 }
variable {p : Program} {l : Launch} {e : Env} {s : State} {m : MethodId} {args : Array Value} {below : List Frame} {meth : Method} {c : Code} {b tU n : Nat} {cy : Nat → ClassId} {D : va_G} {K len : Nat → Nat} {r : jR} {Q : jI → jL → Prop}
theorem hiX4_X4_keepPaces : ∀ w ∈ u_ws RX4 TX4 7, w ∈ wsX4_keepPaces := by decide +kernel
theorem hiX8_X4_keepPaces : ∀ w ∈ u_ws RX8 TX8 8, w ∈ wsX4_keepPaces := by decide +kernel
set_option maxHeartbeats 4000000 in
set_option maxRecDepth 100000 in
theorem c_X4_keepPaces (hG : jG n K r) {i : jI} {j : jL} {x0 : Nat} {x1 : Nat} {x2 : Int32} (hx0 : x0 < n ∧ K x0 = 4) (hx1 : x1 < n ∧ K x1 = 7) (h : J_X4_keepPaces len r Q i j x0 x1 x2) : Met l yX4_keepPaces wsX4_keepPaces rm_X4_keepPaces (va_Pc [.ref (b + x0), .ref (b + x1), .int x2] (jPre b cy D tU n K len r i j)) (jQv b cy D tU n K len r Q) 0 0 (jA b) := by
  refine Met.ofW (cc := cX4_keepPaces) (maxL := 3) (ret := none) (by decide) rfl ?_
  intro p e s m args below meth c s₁ B hml hv
  obtain ⟨rfl, hv⟩ := hv
  have C0 : jCx p s m _ c cX4_keepPaces 3 wsX4_keepPaces RX4 b cy D tU n K r := ⟨B.exec, B.bytes, hml, findClass_of_methodNamed B.named, atoms_spec (ws := wsX4_keepPaces) B.pre, hv.2.2, hG⟩
  have hr := B.returns
  have hlk := B.notSynchronized
  obtain ⟨hx, hb, hml, hown, hts, hst, hG⟩ := id C0
  have hiX4 : ∀ w ∈ u_ws RX4 TX4 7, w ∈ wsX4_keepPaces := hiX4_X4_keepPaces
  have hiX8 : ∀ w ∈ u_ws RX8 TX8 8, w ∈ wsX4_keepPaces := hiX8_X4_keepPaces
  have w := jDy.start hv
  have hl := lv_entry ([.ref (b + x0), .ref (b + x1), .int x2]) (n := 3) (Nat.le_of_ble_eq_true rfl)
  rw [lg_entry_eq]
  generalize (lg_sl ([.ref (b + x0), .ref (b + x1), .int x2]) ++ List.replicate (3 - (lg_sl ([.ref (b + x0), .ref (b + x1), .int x2])).length) Slot.unset).toArray = ls at hl ⊢
  replace hl : lv_has ls 3 [(0, .ref (b + x0)), (1, .ref (b + x1)), (2, .int x2)] := hl
  show W p l e rm_X4_keepPaces s m _ below meth c s.heap [] 0 0 _ (F0 m 0 ls [])
  rw [J_X4_keepPaces] at h
  refine lv_aload_n hx hb dX4_keepPaces_0 rfl (lv_at hl 0 rfl) ?_
  refine lv_iload_n hx hb dX4_keepPaces_1 rfl (lv_at hl 2 rfl) ?_
  refine jpi (f := 0) hx hb hts hown hst w hx0 hiX4 (rfl : vwCl[4]? = some (RX4, TX4, 7)) (hts (.fieldLink RX4 24 "FootByGate$Image" "townsRead" "I") (by decide +kernel)) ⟨by decide, by decide, rfl⟩ tyX4 tyX4_ok nmX4 rfl ⟨rfl, rfl⟩ dX4_keepPaces_2 (fun i2 H locs he w => ?_)
  replace h := h i2 he
  clear he
  refine lv_aload_n hx hb dX4_keepPaces_5 rfl (lv_at hl 1 rfl) ?_
  obtain ⟨a6, hr0, h⟩ := h
  refine jgr (f := 5) hx hb hts hown hst w hG hx1 hiX8 (rfl : vwCl[7]? = some (RX8, TX8, 8)) (hts (.fieldLink RX4 47 "FootByGate$Town" "paces" "[I") (by decide +kernel)) ⟨by decide, by decide, rfl⟩ (rfl : jrt 7 5 = 13) dX4_keepPaces_6 hr0 (fun ha6 => ?_)
  clear hr0
  refine lv_iconst (v := (0 : Int32)) hx hb dX4_keepPaces_9 (by decide) ?_
  refine lv_aload_n hx hb dX4_keepPaces_10 rfl (lv_at hl 0 rfl) ?_
  obtain ⟨a11, hr0, h⟩ := h
  refine jgr (f := 6) hx hb hts hown hst w hG hx0 hiX4 (rfl : vwCl[4]? = some (RX4, TX4, 7)) (hts (.fieldLink RX4 21 "FootByGate$Image" "paces" "[I") (by decide +kernel)) ⟨by decide, by decide, rfl⟩ (rfl : jrt 4 6 = 13) dX4_keepPaces_11 hr0 (fun ha11 => ?_)
  clear hr0
  refine lv_iconst (v := (0 : Int32)) hx hb dX4_keepPaces_14 (by decide) ?_
  refine lv_bipush (v := (10 : Int32)) hx hb dX4_keepPaces_15 (by decide) ?_
  obtain ⟨hcp, h⟩ := h
  refine jcopy C0 w (hts (.methodLink RX4 41 arraycopyName) (by decide +kernel)) (hts (.native arraycopyName) (by decide +kernel)) (hts (.static arraycopyName) (by decide +kernel)) (hts (.initialized "java/lang/System") (by decide +kernel)) ha6 ha11 hl.1 hcp (by decide) (by decide) dX4_keepPaces_17 (fun i17 H locs he w => ?_)
  replace h := h i17 he
  clear he hcp
  exact jret_v hx hb hr hlk hst w h dX4_keepPaces_20
end S_X4_keepPaces
section S_X4_keepPrints
def J_X4_keepPrints (len : Nat → Nat) (r : jR) (Q : jI → jL → Prop) (i : jI) (j : jL) (x0 : Nat) (x1 : Nat) (x2 : Int32) : Prop := ∀ i2 : jI, i2 = ju i x0 4 x2 → (∃ a8, r x0 5 = some a8 ∧ (((¬ (0 : Int32) < 0 ∧ ¬ (0 : Int32) < 0 ∧ ¬ x2 < 0) ∧ (0 : Int32).toNatClampNeg + x2.toNatClampNeg ≤ len x1 ∧ (0 : Int32).toNatClampNeg + x2.toNatClampNeg ≤ len a8) ∧ (∀ i13 : jI, i13 = jcp i2 x1 a8 (0 : Int32).toNatClampNeg (0 : Int32).toNatClampNeg x2.toNatClampNeg → (Q i13 j))))
abbrev rm_X4_keepPrints : Room := { frames := 1, cells := 0, slots := 0, locals := 18 }
variable {p : Program} {l : Launch} {e : Env} {s : State} {m : MethodId} {args : Array Value} {below : List Frame} {meth : Method} {c : Code} {b tU n : Nat} {cy : Nat → ClassId} {D : va_G} {K len : Nat → Nat} {r : jR} {Q : jI → jL → Prop}
theorem hiX4_X4_keepPrints : ∀ w ∈ u_ws RX4 TX4 7, w ∈ wsX4_keepPrints := by decide +kernel
set_option maxHeartbeats 4000000 in
set_option maxRecDepth 100000 in
theorem c_X4_keepPrints (hG : jG n K r) {i : jI} {j : jL} {x0 : Nat} {x1 : Nat} {x2 : Int32} (hx0 : x0 < n ∧ K x0 = 4) (hx1 : x1 < n ∧ K x1 = 13) (h : J_X4_keepPrints len r Q i j x0 x1 x2) : Met l yX4_keepPrints wsX4_keepPrints rm_X4_keepPrints (va_Pc [.ref (b + x0), .ref (b + x1), .int x2] (jPre b cy D tU n K len r i j)) (jQv b cy D tU n K len r Q) 0 0 (jA b) := by
  refine Met.ofW (cc := cX4_keepPrints) (maxL := 3) (ret := none) (by decide) rfl ?_
  intro p e s m args below meth c s₁ B hml hv
  obtain ⟨rfl, hv⟩ := hv
  have C0 : jCx p s m _ c cX4_keepPrints 3 wsX4_keepPrints RX4 b cy D tU n K r := ⟨B.exec, B.bytes, hml, findClass_of_methodNamed B.named, atoms_spec (ws := wsX4_keepPrints) B.pre, hv.2.2, hG⟩
  have hr := B.returns
  have hlk := B.notSynchronized
  obtain ⟨hx, hb, hml, hown, hts, hst, hG⟩ := id C0
  have hiX4 : ∀ w ∈ u_ws RX4 TX4 7, w ∈ wsX4_keepPrints := hiX4_X4_keepPrints
  have w := jDy.start hv
  have hl := lv_entry ([.ref (b + x0), .ref (b + x1), .int x2]) (n := 3) (Nat.le_of_ble_eq_true rfl)
  rw [lg_entry_eq]
  generalize (lg_sl ([.ref (b + x0), .ref (b + x1), .int x2]) ++ List.replicate (3 - (lg_sl ([.ref (b + x0), .ref (b + x1), .int x2])).length) Slot.unset).toArray = ls at hl ⊢
  replace hl : lv_has ls 3 [(0, .ref (b + x0)), (1, .ref (b + x1)), (2, .int x2)] := hl
  show W p l e rm_X4_keepPrints s m _ below meth c s.heap [] 0 0 _ (F0 m 0 ls [])
  rw [J_X4_keepPrints] at h
  refine lv_aload_n hx hb dX4_keepPrints_0 rfl (lv_at hl 0 rfl) ?_
  refine lv_iload_n hx hb dX4_keepPrints_1 rfl (lv_at hl 2 rfl) ?_
  refine jpi (f := 4) hx hb hts hown hst w hx0 hiX4 (rfl : vwCl[4]? = some (RX4, TX4, 7)) (hts (.fieldLink RX4 38 "FootByGate$Image" "printCount" "I") (by decide +kernel)) ⟨by decide, by decide, rfl⟩ tyX4 tyX4_ok nmX4 rfl ⟨rfl, rfl⟩ dX4_keepPrints_2 (fun i2 H locs he w => ?_)
  replace h := h i2 he
  clear he
  refine lv_aload_n hx hb dX4_keepPrints_5 rfl (lv_at hl 1 rfl) ?_
  refine lv_iconst (v := (0 : Int32)) hx hb dX4_keepPrints_6 (by decide) ?_
  refine lv_aload_n hx hb dX4_keepPrints_7 rfl (lv_at hl 0 rfl) ?_
  obtain ⟨a8, hr0, h⟩ := h
  refine jgr (f := 5) hx hb hts hown hst w hG hx0 hiX4 (rfl : vwCl[4]? = some (RX4, TX4, 7)) (hts (.fieldLink RX4 18 "FootByGate$Image" "prints" "[I") (by decide +kernel)) ⟨by decide, by decide, rfl⟩ (rfl : jrt 4 5 = 13) dX4_keepPrints_8 hr0 (fun ha8 => ?_)
  clear hr0
  refine lv_iconst (v := (0 : Int32)) hx hb dX4_keepPrints_11 (by decide) ?_
  refine lv_iload_n hx hb dX4_keepPrints_12 rfl (lv_at hl 2 rfl) ?_
  obtain ⟨hcp, h⟩ := h
  refine jcopy C0 w (hts (.methodLink RX4 41 arraycopyName) (by decide +kernel)) (hts (.native arraycopyName) (by decide +kernel)) (hts (.static arraycopyName) (by decide +kernel)) (hts (.initialized "java/lang/System") (by decide +kernel)) hx1 ha8 hl.1 hcp (by decide) (by decide) dX4_keepPrints_13 (fun i13 H locs he w => ?_)
  replace h := h i13 he
  clear he hcp
  exact jret_v hx hb hr hlk hst w h dX4_keepPrints_16
end S_X4_keepPrints
section S_X4_keepWalkers
def J_X4_keepWalkers_L7 (len : Nat → Nat) (r : jR) (Q : jI → jL → Prop) : Nat → jI → jL → Nat → Nat → Int32 → Int32 → Prop
  | 0 => fun _ _ _ _ _ _ => False
  | g + 1 => fun i j x0 x1 x2 x3 => ((x2 ≤ x3) → (Q i j)) ∧ ((¬ x2 ≤ x3) → (∃ a13, r x0 2 = some a13 ∧ (vp_in x3 (len x1) ∧ ∃ a19, r x1 x3.toNatClampNeg = some a19 ∧ (vp_in x3 (len a13) ∧ ∀ i23 : jI, i23 = ju i a13 x3.toNatClampNeg (i a19 1) → (∃ a25, r x0 3 = some a25 ∧ (vp_in x3 (len x1) ∧ ∃ a31, r x1 x3.toNatClampNeg = some a31 ∧ (vp_in x3 (len a25) ∧ ∀ i35 : jI, i35 = ju i23 a25 x3.toNatClampNeg (i23 a31 2) → (∀ v36 : Int32, v36 = x3 + (1 : Int32) → ((J_X4_keepWalkers_L7 len r Q g) i35 j x0 x1 x2 v36)))))))))
def J_X4_keepWalkers (len : Nat → Nat) (r : jR) (Q : jI → jL → Prop) (i : jI) (j : jL) (x0 : Nat) (x1 : Nat) (x2 : Int32) : Prop := ∀ i2 : jI, i2 = ju i x0 1 x2 → (∃ g0, J_X4_keepWalkers_L7 len r Q g0 i2 j x0 x1 x2 (0 : Int32))
abbrev rm_X4_keepWalkers : Room := { frames := 0, cells := 0, slots := 0, locals := 0 }
variable {p : Program} {l : Launch} {e : Env} {s : State} {m : MethodId} {args : Array Value} {below : List Frame} {meth : Method} {c : Code} {b tU n : Nat} {cy : Nat → ClassId} {D : va_G} {K len : Nat → Nat} {r : jR} {Q : jI → jL → Prop}
theorem hiX4_X4_keepWalkers : ∀ w ∈ u_ws RX4 TX4 7, w ∈ wsX4_keepWalkers := by decide +kernel
theorem hiX9_X4_keepWalkers : ∀ w ∈ u_ws RX9 TX9 3, w ∈ wsX4_keepWalkers := by decide +kernel
set_option maxHeartbeats 4000000 in
set_option maxRecDepth 100000 in
theorem w_X4_keepWalkers_L7 (C0 : jCx p s m args c cX4_keepWalkers 4 wsX4_keepWalkers RX4 b cy D tU n K r) (hr : meth.sig.returnType = none) (hlk : meth.locks = false) : ∀ (g : Nat) {H : Heap} {locs : List Loc} {ls : Array Slot} {i : jI} {j : jL} {x0 : Nat} {x1 : Nat} {x2 : Int32} {x3 : Int32} (w : jDy b cy D n K len r i j s H locs) (hx0 : x0 < n ∧ K x0 = 4) (hx1 : x1 < n ∧ K x1 = 16) (hl : lv_has ls 4 [(0, .ref (b + x0)), (1, .ref (b + x1)), (2, .int x2), (3, .int x3)]) (h : J_X4_keepWalkers_L7 len r Q g i j x0 x1 x2 x3), W p l e rm_X4_keepWalkers s m args below meth c H locs 0 0 (MQ below (jQv b cy D tU n K len r Q) args s 0 0 (jA b)) (F0 m 7 ls []) := by
  obtain ⟨hx, hb, hml, hown, hts, hst, hG⟩ := id C0
  have hiX4 : ∀ w ∈ u_ws RX4 TX4 7, w ∈ wsX4_keepWalkers := hiX4_X4_keepWalkers
  have hiX9 : ∀ w ∈ u_ws RX9 TX9 3, w ∈ wsX4_keepWalkers := hiX9_X4_keepWalkers
  intro g
  induction g with
  | zero => intro H locs ls i j x0 x1 x2 x3 w hx0 hx1 hl h; exact False.elim h
  | succ g ih =>
    intro H locs ls i j x0 x1 x2 x3 w hx0 hx1 hl h
    rw [J_X4_keepWalkers_L7] at h
    refine lv_iload_n hx hb dX4_keepWalkers_7 rfl (lv_at hl 3 rfl) ?_
    refine lv_iload_n hx hb dX4_keepWalkers_8 rfl (lv_at hl 2 rfl) ?_
    refine lv_icmp_ge (tgt := 42) hx hb dX4_keepWalkers_9 (by decide) (fun hc => ?_) (fun hc => ?_)
    · replace h := h.1 hc
      clear hc
      exact jret_v hx hb hr hlk hst w h dX4_keepWalkers_42
    · replace h := h.2 hc
      clear hc
      refine lv_aload_n hx hb dX4_keepWalkers_12 rfl (lv_at hl 0 rfl) ?_
      obtain ⟨a13, hr0, h⟩ := h
      refine jgr (f := 2) hx hb hts hown hst w hG hx0 hiX4 (rfl : vwCl[4]? = some (RX4, TX4, 7)) (hts (.fieldLink RX4 9 "FootByGate$Image" "stands" "[I") (by decide +kernel)) ⟨by decide, by decide, rfl⟩ (rfl : jrt 4 2 = 13) dX4_keepWalkers_13 hr0 (fun ha13 => ?_)
      clear hr0
      refine lv_iload_n hx hb dX4_keepWalkers_16 rfl (lv_at hl 3 rfl) ?_
      refine lv_aload_n hx hb dX4_keepWalkers_17 rfl (lv_at hl 1 rfl) ?_
      refine lv_iload_n hx hb dX4_keepWalkers_18 rfl (lv_at hl 3 rfl) ?_
      obtain ⟨hn, h⟩ := h
      obtain ⟨a19, hr0, h⟩ := h
      refine jaar hx hb hst w hG hx1 hn dX4_keepWalkers_19 hr0 (fun ha19 => ?_)
      clear hn hr0
      refine jgi (f := 1) hx hb hts hown hst w ha19 hiX9 (rfl : vwCl[8]? = some (RX9, TX9, 3)) (hts (.fieldLink RX4 31 "FootByGate$Walker" "stand" "I") (by decide +kernel)) ⟨by decide, by decide, rfl⟩ dX4_keepWalkers_20 ?_
      obtain ⟨hn, h⟩ := h
      refine jais hx hb hst w ha13 hn dX4_keepWalkers_23 (fun i23 H locs he w => ?_)
      replace h := h i23 he
      clear he hn
      refine lv_aload_n hx hb dX4_keepWalkers_24 rfl (lv_at hl 0 rfl) ?_
      obtain ⟨a25, hr0, h⟩ := h
      refine jgr (f := 3) hx hb hts hown hst w hG hx0 hiX4 (rfl : vwCl[4]? = some (RX4, TX4, 7)) (hts (.fieldLink RX4 15 "FootByGate$Image" "skipped" "[I") (by decide +kernel)) ⟨by decide, by decide, rfl⟩ (rfl : jrt 4 3 = 13) dX4_keepWalkers_25 hr0 (fun ha25 => ?_)
      clear hr0
      refine lv_iload_n hx hb dX4_keepWalkers_28 rfl (lv_at hl 3 rfl) ?_
      refine lv_aload_n hx hb dX4_keepWalkers_29 rfl (lv_at hl 1 rfl) ?_
      refine lv_iload_n hx hb dX4_keepWalkers_30 rfl (lv_at hl 3 rfl) ?_
      obtain ⟨hn, h⟩ := h
      obtain ⟨a31, hr0, h⟩ := h
      refine jaar hx hb hst w hG hx1 hn dX4_keepWalkers_31 hr0 (fun ha31 => ?_)
      clear hn hr0
      refine jgi (f := 2) hx hb hts hown hst w ha31 hiX9 (rfl : vwCl[8]? = some (RX9, TX9, 3)) (hts (.fieldLink RX4 36 "FootByGate$Walker" "skipped" "I") (by decide +kernel)) ⟨by decide, by decide, rfl⟩ dX4_keepWalkers_32 ?_
      obtain ⟨hn, h⟩ := h
      refine jais hx hb hst w ha25 hn dX4_keepWalkers_35 (fun i35 H locs he w => ?_)
      replace h := h i35 he
      clear he hn
      obtain ⟨v36, he⟩ : ∃ z : Int32, z = x3 + (1 : Int32) := ⟨_, rfl⟩
      replace h := h v36 he
      refine lv_iinc (v := v36) (lv' := [(3, .int v36), (0, .ref (b + x0)), (1, .ref (b + x1)), (2, .int x2)]) hx hb dX4_keepWalkers_36 hl (k := 3) rfl (by rw [he]; rfl) (by decide) rfl (fun ls hl => ?_)
      clear he
      refine lv_goto (tgt := 7) hx hb dX4_keepWalkers_39 (by decide) ?_
      exact ih w hx0 hx1 (lv_sub hl [1, 2, 3, 0] rfl) h
set_option maxHeartbeats 4000000 in
set_option maxRecDepth 100000 in
theorem c_X4_keepWalkers (hG : jG n K r) {i : jI} {j : jL} {x0 : Nat} {x1 : Nat} {x2 : Int32} (hx0 : x0 < n ∧ K x0 = 4) (hx1 : x1 < n ∧ K x1 = 16) (h : J_X4_keepWalkers len r Q i j x0 x1 x2) : Met l yX4_keepWalkers wsX4_keepWalkers rm_X4_keepWalkers (va_Pc [.ref (b + x0), .ref (b + x1), .int x2] (jPre b cy D tU n K len r i j)) (jQv b cy D tU n K len r Q) 0 0 (jA b) := by
  refine Met.ofW (cc := cX4_keepWalkers) (maxL := 4) (ret := none) (by decide) rfl ?_
  intro p e s m args below meth c s₁ B hml hv
  obtain ⟨rfl, hv⟩ := hv
  have C0 : jCx p s m _ c cX4_keepWalkers 4 wsX4_keepWalkers RX4 b cy D tU n K r := ⟨B.exec, B.bytes, hml, findClass_of_methodNamed B.named, atoms_spec (ws := wsX4_keepWalkers) B.pre, hv.2.2, hG⟩
  have hr := B.returns
  have hlk := B.notSynchronized
  obtain ⟨hx, hb, hml, hown, hts, hst, hG⟩ := id C0
  have hiX4 : ∀ w ∈ u_ws RX4 TX4 7, w ∈ wsX4_keepWalkers := hiX4_X4_keepWalkers
  have hiX9 : ∀ w ∈ u_ws RX9 TX9 3, w ∈ wsX4_keepWalkers := hiX9_X4_keepWalkers
  have w := jDy.start hv
  have hl := lv_entry ([.ref (b + x0), .ref (b + x1), .int x2]) (n := 4) (Nat.le_of_ble_eq_true rfl)
  rw [lg_entry_eq]
  generalize (lg_sl ([.ref (b + x0), .ref (b + x1), .int x2]) ++ List.replicate (4 - (lg_sl ([.ref (b + x0), .ref (b + x1), .int x2])).length) Slot.unset).toArray = ls at hl ⊢
  replace hl : lv_has ls 4 [(0, .ref (b + x0)), (1, .ref (b + x1)), (2, .int x2)] := hl
  show W p l e rm_X4_keepWalkers s m _ below meth c s.heap [] 0 0 _ (F0 m 0 ls [])
  rw [J_X4_keepWalkers] at h
  refine lv_aload_n hx hb dX4_keepWalkers_0 rfl (lv_at hl 0 rfl) ?_
  refine lv_iload_n hx hb dX4_keepWalkers_1 rfl (lv_at hl 2 rfl) ?_
  refine jpi (f := 1) hx hb hts hown hst w hx0 hiX4 (rfl : vwCl[4]? = some (RX4, TX4, 7)) (hts (.fieldLink RX4 28 "FootByGate$Image" "walkerCount" "I") (by decide +kernel)) ⟨by decide, by decide, rfl⟩ tyX4 tyX4_ok nmX4 rfl ⟨rfl, rfl⟩ dX4_keepWalkers_2 (fun i2 H locs he w => ?_)
  replace h := h i2 he
  clear he
  refine lv_iconst (v := (0 : Int32)) hx hb dX4_keepWalkers_5 (by decide) ?_
  refine lv_istore_n (lv' := [(3, .int (0 : Int32)), (0, .ref (b + x0)), (1, .ref (b + x1)), (2, .int x2)]) hx hb dX4_keepWalkers_6 rfl hl (by decide) rfl (fun ls hl => ?_)
  obtain ⟨g0, h⟩ := h
  exact w_X4_keepWalkers_L7 C0 hr hlk g0 w hx0 hx1 (lv_sub hl [1, 2, 3, 0] rfl) h
end S_X4_keepWalkers
section S_X5_codeIn
def J_X5_codeIn (len : Nat → Nat) (r : jR) (Q : Int32 → jI → jL → Prop) (i : jI) (j : jL) (x0 : Int64) (x2 : Int32) : Prop := Q ((((x0.toUInt64 >>> (((8 : Int32) * x2).toInt64.toUInt64 &&& Int64.toUInt64 63)).toInt64) &&& (255 : Int64)).toInt32) i j
abbrev rm_X5_codeIn : Room := { frames := 0, cells := 0, slots := 0, locals := 0 }
variable {p : Program} {l : Launch} {e : Env} {s : State} {m : MethodId} {args : Array Value} {below : List Frame} {meth : Method} {c : Code} {b tU n : Nat} {cy : Nat → ClassId} {D : va_G} {K len : Nat → Nat} {r : jR} {Q : Int32 → jI → jL → Prop}
set_option maxHeartbeats 4000000 in
set_option maxRecDepth 100000 in
theorem c_X5_codeIn (hG : jG n K r) {i : jI} {j : jL} {x0 : Int64} {x2 : Int32} (h : J_X5_codeIn len r Q i j x0 x2) : Met l yX5_codeIn wsX5_codeIn rm_X5_codeIn (va_Pc [.long x0, .int x2] (jPre b cy D tU n K len r i j)) (jQi b cy D tU n K len r Q) 0 0 (jA b) := by
  refine Met.ofW (cc := cX5_codeIn) (maxL := 3) (ret := (some .int)) (by decide) rfl ?_
  intro p e s m args below meth c s₁ B hml hv
  obtain ⟨rfl, hv⟩ := hv
  have C0 : jCx p s m _ c cX5_codeIn 3 wsX5_codeIn RX5 b cy D tU n K r := ⟨B.exec, B.bytes, hml, findClass_of_methodNamed B.named, atoms_spec (ws := wsX5_codeIn) B.pre, hv.2.2, hG⟩
  have hr := B.returns
  have hlk := B.notSynchronized
  obtain ⟨hx, hb, hml, hown, hts, hst, hG⟩ := id C0
  have w := jDy.start hv
  have hl := lv_entry ([.long x0, .int x2]) (n := 3) (Nat.le_of_ble_eq_true rfl)
  rw [lg_entry_eq]
  generalize (lg_sl ([.long x0, .int x2]) ++ List.replicate (3 - (lg_sl ([.long x0, .int x2])).length) Slot.unset).toArray = ls at hl ⊢
  replace hl : lv_has ls 3 [(0, .long x0), (2, .int x2)] := hl
  show W p l e rm_X5_codeIn s m _ below meth c s.heap [] 0 0 _ (F0 m 0 ls [])
  rw [J_X5_codeIn] at h
  refine lv_lload_n hx hb dX5_codeIn_0 rfl (lv_at hl 0 rfl) ?_
  refine lv_bipush (v := (8 : Int32)) hx hb dX5_codeIn_1 (by decide) ?_
  refine lv_iload_n hx hb dX5_codeIn_3 rfl (lv_at hl 1 rfl) ?_
  refine lv_imul hx hb dX5_codeIn_4 ?_
  refine lv_lushr hx hb dX5_codeIn_5 rfl ?_
  refine lv_ldc2 hx hb hown (hts (.constantLong RX5 19 (255)) (by decide +kernel)) dX5_codeIn_6 ?_
  refine lv_land hx hb dX5_codeIn_9 ?_
  refine lv_l2i hx hb dX5_codeIn_10 rfl ?_
  exact jret_i hx hb hr hlk hst w h dX5_codeIn_11
end S_X5_codeIn
section S_X5_append
def J_X5_append_L3 (len : Nat → Nat) (r : jR) (Q : jI → jL → Prop) : Nat → jI → jL → Nat → Int64 → Int32 → Int32 → Prop
  | 0 => fun _ _ _ _ _ _ => False
  | g + 1 => fun i j x0 x1 x3 x4 => ((x3 ≤ x4) → (Q i j)) ∧ ((¬ x3 ≤ x4) → ((((50 : Int32) ≤ (i x0 1)) → (Q i j)) ∧ ((¬ (50 : Int32) ≤ (i x0 1)) → (∃ a19, r x0 0 = some a19 ∧ (J_X5_codeIn len r (fun (q29 : Int32) (i29 : jI) (j29 : jL) => vp_in (i x0 1) (len a19) ∧ ∀ i32 : jI, i32 = ju i29 a19 (i x0 1).toNatClampNeg q29 → (∀ i40 : jI, i40 = ju i32 x0 1 ((i32 x0 1) + (1 : Int32)) → (∀ v43 : Int32, v43 = x4 + (1 : Int32) → ((J_X5_append_L3 len r Q g) i40 j29 x0 x1 x3 v43)))) i j x1 x4)))))
def J_X5_append (len : Nat → Nat) (r : jR) (Q : jI → jL → Prop) (i : jI) (j : jL) (x0 : Nat) (x1 : Int64) (x3 : Int32) : Prop := ∃ g0, J_X5_append_L3 len r Q g0 i j x0 x1 x3 (0 : Int32)
abbrev rm_X5_append : Room := { frames := 1, cells := 0, slots := 0, locals := 22 }
variable {p : Program} {l : Launch} {e : Env} {s : State} {m : MethodId} {args : Array Value} {below : List Frame} {meth : Method} {c : Code} {b tU n : Nat} {cy : Nat → ClassId} {D : va_G} {K len : Nat → Nat} {r : jR} {Q : jI → jL → Prop}
theorem hiX5_X5_append : ∀ w ∈ u_ws RX5 TX5 5, w ∈ wsX5_append := by decide +kernel
set_option maxHeartbeats 4000000 in
set_option maxRecDepth 100000 in
theorem w_X5_append_L3 (C0 : jCx p s m args c cX5_append 5 wsX5_append RX5 b cy D tU n K r) (hr : meth.sig.returnType = none) (hlk : meth.locks = false) : ∀ (g : Nat) {H : Heap} {locs : List Loc} {ls : Array Slot} {i : jI} {j : jL} {x0 : Nat} {x1 : Int64} {x3 : Int32} {x4 : Int32} (w : jDy b cy D n K len r i j s H locs) (hx0 : x0 < n ∧ K x0 = 5) (hl : lv_has ls 5 [(0, .ref (b + x0)), (1, .long x1), (3, .int x3), (4, .int x4)]) (h : J_X5_append_L3 len r Q g i j x0 x1 x3 x4), W p l e rm_X5_append s m args below meth c H locs 0 0 (MQ below (jQv b cy D tU n K len r Q) args s 0 0 (jA b)) (F0 m 3 ls []) := by
  obtain ⟨hx, hb, hml, hown, hts, hst, hG⟩ := id C0
  have hiX5 : ∀ w ∈ u_ws RX5 TX5 5, w ∈ wsX5_append := hiX5_X5_append
  intro g
  induction g with
  | zero => intro H locs ls i j x0 x1 x3 x4 w hx0 hl h; exact False.elim h
  | succ g ih =>
    intro H locs ls i j x0 x1 x3 x4 w hx0 hl h
    rw [J_X5_append_L3] at h
    refine lv_iload hx hb dX5_append_3 (lv_at hl 3 rfl) ?_
    refine lv_iload_n hx hb dX5_append_5 rfl (lv_at hl 2 rfl) ?_
    refine lv_icmp_ge (tgt := 49) hx hb dX5_append_6 (by decide) (fun hc => ?_) (fun hc => ?_)
    · replace h := h.1 hc
      clear hc
      exact jret_v hx hb hr hlk hst w h dX5_append_49
    · replace h := h.2 hc
      clear hc
      refine lv_aload_n hx hb dX5_append_9 rfl (lv_at hl 0 rfl) ?_
      refine jgi (f := 1) hx hb hts hown hst w hx0 hiX5 (rfl : vwCl[5]? = some (RX5, TX5, 5)) (hts (.fieldLink RX5 21 "FootByGate$Page" "length" "I") (by decide +kernel)) ⟨by decide, by decide, rfl⟩ dX5_append_10 ?_
      refine lv_bipush (v := (50 : Int32)) hx hb dX5_append_13 (by decide) ?_
      refine lv_icmp_ge (tgt := 49) hx hb dX5_append_15 (by decide) (fun hc => ?_) (fun hc => ?_)
      · replace h := h.1 hc
        clear hc
        exact jret_v hx hb hr hlk hst w h dX5_append_49
      · replace h := h.2 hc
        clear hc
        refine lv_aload_n hx hb dX5_append_18 rfl (lv_at hl 0 rfl) ?_
        obtain ⟨a19, hr0, h⟩ := h
        refine jgr (f := 0) hx hb hts hown hst w hG hx0 hiX5 (rfl : vwCl[5]? = some (RX5, TX5, 5)) (hts (.fieldLink RX5 11 "FootByGate$Page" "letters" "[I") (by decide +kernel)) ⟨by decide, by decide, rfl⟩ (rfl : jrt 5 0 = 13) dX5_append_19 hr0 (fun ha19 => ?_)
        clear hr0
        refine lv_aload_n hx hb dX5_append_22 rfl (lv_at hl 0 rfl) ?_
        refine jgi (f := 1) hx hb hts hown hst w hx0 hiX5 (rfl : vwCl[5]? = some (RX5, TX5, 5)) (hts (.fieldLink RX5 21 "FootByGate$Page" "length" "I") (by decide +kernel)) ⟨by decide, by decide, rfl⟩ dX5_append_23 ?_
        refine lv_lload_n hx hb dX5_append_26 rfl (lv_at hl 1 rfl) ?_
        refine lv_iload hx hb dX5_append_27 (lv_at hl 3 rfl) ?_
        refine jcS_i (As := [.long x1, .int x4]) (rest := [.int (i x0 1), .ref (b + a19)]) C0 w (c_X5_codeIn hG h) (va_cwS 2 hts gX5_append_X5_codeIn rfl rfl rfl (by decide +kernel) ⟨Nat.le_of_ble_eq_true rfl, Nat.le_of_ble_eq_true rfl⟩) rfl hl.1 rfl (Nat.le_of_ble_eq_true rfl) dX5_append_29 (fun q29 i29 j29 H locs h w => ?_) ⟨Nat.zero_le _, Nat.zero_le _⟩
        obtain ⟨hn, h⟩ := h
        refine jais hx hb hst w ha19 hn dX5_append_32 (fun i32 H locs he w => ?_)
        replace h := h i32 he
        clear he hn
        refine lv_aload_n hx hb dX5_append_33 rfl (lv_at hl 0 rfl) ?_
        refine lv_dup hx hb dX5_append_34 rfl ?_
        refine jgi (f := 1) hx hb hts hown hst w hx0 hiX5 (rfl : vwCl[5]? = some (RX5, TX5, 5)) (hts (.fieldLink RX5 21 "FootByGate$Page" "length" "I") (by decide +kernel)) ⟨by decide, by decide, rfl⟩ dX5_append_35 ?_
        refine lv_iconst (v := (1 : Int32)) hx hb dX5_append_38 (by decide) ?_
        refine lv_iadd hx hb dX5_append_39 ?_
        refine jpi (f := 1) hx hb hts hown hst w hx0 hiX5 (rfl : vwCl[5]? = some (RX5, TX5, 5)) (hts (.fieldLink RX5 21 "FootByGate$Page" "length" "I") (by decide +kernel)) ⟨by decide, by decide, rfl⟩ tyX5 tyX5_ok nmX5 rfl ⟨rfl, rfl⟩ dX5_append_40 (fun i40 H locs he w => ?_)
        replace h := h i40 he
        clear he
        obtain ⟨v43, he⟩ : ∃ z : Int32, z = x4 + (1 : Int32) := ⟨_, rfl⟩
        replace h := h v43 he
        refine lv_iinc (v := v43) (lv' := [(4, .int v43), (0, .ref (b + x0)), (1, .long x1), (3, .int x3)]) hx hb dX5_append_43 hl (k := 3) rfl (by rw [he]; rfl) (by decide) rfl (fun ls hl => ?_)
        clear he
        refine lv_goto (tgt := 3) hx hb dX5_append_46 (by decide) ?_
        exact ih w hx0 (lv_sub hl [1, 2, 3, 0] rfl) h
set_option maxHeartbeats 4000000 in
set_option maxRecDepth 100000 in
theorem c_X5_append (hG : jG n K r) {i : jI} {j : jL} {x0 : Nat} {x1 : Int64} {x3 : Int32} (hx0 : x0 < n ∧ K x0 = 5) (h : J_X5_append len r Q i j x0 x1 x3) : Met l yX5_append wsX5_append rm_X5_append (va_Pc [.ref (b + x0), .long x1, .int x3] (jPre b cy D tU n K len r i j)) (jQv b cy D tU n K len r Q) 0 0 (jA b) := by
  refine Met.ofW (cc := cX5_append) (maxL := 5) (ret := none) (by decide) rfl ?_
  intro p e s m args below meth c s₁ B hml hv
  obtain ⟨rfl, hv⟩ := hv
  have C0 : jCx p s m _ c cX5_append 5 wsX5_append RX5 b cy D tU n K r := ⟨B.exec, B.bytes, hml, findClass_of_methodNamed B.named, atoms_spec (ws := wsX5_append) B.pre, hv.2.2, hG⟩
  have hr := B.returns
  have hlk := B.notSynchronized
  obtain ⟨hx, hb, hml, hown, hts, hst, hG⟩ := id C0
  have hiX5 : ∀ w ∈ u_ws RX5 TX5 5, w ∈ wsX5_append := hiX5_X5_append
  have w := jDy.start hv
  have hl := lv_entry ([.ref (b + x0), .long x1, .int x3]) (n := 5) (Nat.le_of_ble_eq_true rfl)
  rw [lg_entry_eq]
  generalize (lg_sl ([.ref (b + x0), .long x1, .int x3]) ++ List.replicate (5 - (lg_sl ([.ref (b + x0), .long x1, .int x3])).length) Slot.unset).toArray = ls at hl ⊢
  replace hl : lv_has ls 5 [(0, .ref (b + x0)), (1, .long x1), (3, .int x3)] := hl
  show W p l e rm_X5_append s m _ below meth c s.heap [] 0 0 _ (F0 m 0 ls [])
  rw [J_X5_append] at h
  refine lv_iconst (v := (0 : Int32)) hx hb dX5_append_0 (by decide) ?_
  refine lv_istore (lv' := [(4, .int (0 : Int32)), (0, .ref (b + x0)), (1, .long x1), (3, .int x3)]) hx hb dX5_append_1 hl (by decide) rfl (fun ls hl => ?_)
  obtain ⟨g0, h⟩ := h
  exact w_X5_append_L3 C0 hr hlk g0 w hx0 (lv_sub hl [1, 2, 3, 0] rfl) h
end S_X5_append
section S_X5_digitAt
def J_X5_digitAt (len : Nat → Nat) (r : jR) (Q : Int32 → jI → jL → Prop) (i : jI) (j : jL) (x0 : Nat) (x1 : Int32) : Prop := ∃ a1, r x0 0 = some a1 ∧ (vp_in x1 (len a1) ∧ (Q ((i a1 x1.toNatClampNeg) - (48 : Int32)) i j))
abbrev rm_X5_digitAt : Room := { frames := 0, cells := 0, slots := 0, locals := 0 }
variable {p : Program} {l : Launch} {e : Env} {s : State} {m : MethodId} {args : Array Value} {below : List Frame} {meth : Method} {c : Code} {b tU n : Nat} {cy : Nat → ClassId} {D : va_G} {K len : Nat → Nat} {r : jR} {Q : Int32 → jI → jL → Prop}
theorem hiX5_X5_digitAt : ∀ w ∈ u_ws RX5 TX5 5, w ∈ wsX5_digitAt := by decide +kernel
set_option maxHeartbeats 4000000 in
set_option maxRecDepth 100000 in
theorem c_X5_digitAt (hG : jG n K r) {i : jI} {j : jL} {x0 : Nat} {x1 : Int32} (hx0 : x0 < n ∧ K x0 = 5) (h : J_X5_digitAt len r Q i j x0 x1) : Met l yX5_digitAt wsX5_digitAt rm_X5_digitAt (va_Pc [.ref (b + x0), .int x1] (jPre b cy D tU n K len r i j)) (jQi b cy D tU n K len r Q) 0 0 (jA b) := by
  refine Met.ofW (cc := cX5_digitAt) (maxL := 2) (ret := (some .int)) (by decide) rfl ?_
  intro p e s m args below meth c s₁ B hml hv
  obtain ⟨rfl, hv⟩ := hv
  have C0 : jCx p s m _ c cX5_digitAt 2 wsX5_digitAt RX5 b cy D tU n K r := ⟨B.exec, B.bytes, hml, findClass_of_methodNamed B.named, atoms_spec (ws := wsX5_digitAt) B.pre, hv.2.2, hG⟩
  have hr := B.returns
  have hlk := B.notSynchronized
  obtain ⟨hx, hb, hml, hown, hts, hst, hG⟩ := id C0
  have hiX5 : ∀ w ∈ u_ws RX5 TX5 5, w ∈ wsX5_digitAt := hiX5_X5_digitAt
  have w := jDy.start hv
  have hl := lv_entry ([.ref (b + x0), .int x1]) (n := 2) (Nat.le_of_ble_eq_true rfl)
  rw [lg_entry_eq]
  generalize (lg_sl ([.ref (b + x0), .int x1]) ++ List.replicate (2 - (lg_sl ([.ref (b + x0), .int x1])).length) Slot.unset).toArray = ls at hl ⊢
  replace hl : lv_has ls 2 [(0, .ref (b + x0)), (1, .int x1)] := hl
  show W p l e rm_X5_digitAt s m _ below meth c s.heap [] 0 0 _ (F0 m 0 ls [])
  rw [J_X5_digitAt] at h
  refine lv_aload_n hx hb dX5_digitAt_0 rfl (lv_at hl 0 rfl) ?_
  obtain ⟨a1, hr0, h⟩ := h
  refine jgr (f := 0) hx hb hts hown hst w hG hx0 hiX5 (rfl : vwCl[5]? = some (RX5, TX5, 5)) (hts (.fieldLink RX5 11 "FootByGate$Page" "letters" "[I") (by decide +kernel)) ⟨by decide, by decide, rfl⟩ (rfl : jrt 5 0 = 13) dX5_digitAt_1 hr0 (fun ha1 => ?_)
  clear hr0
  refine lv_iload_n hx hb dX5_digitAt_4 rfl (lv_at hl 1 rfl) ?_
  obtain ⟨hn, h⟩ := h
  refine jaid hx hb hst w ha1 hn dX5_digitAt_5 ?_
  clear hn
  refine lv_bipush (v := (48 : Int32)) hx hb dX5_digitAt_6 (by decide) ?_
  refine lv_isub hx hb dX5_digitAt_8 ?_
  exact jret_i hx hb hr hlk hst w h dX5_digitAt_9
end S_X5_digitAt
section S_X5_hasAt
def J_X5_hasAt_L26 (len : Nat → Nat) (r : jR) (Q : Int32 → jI → jL → Prop) (i : jI) (j : jL) : Prop := Q (0 : Int32) i j
def J_X5_hasAt (len : Nat → Nat) (r : jR) (Q : Int32 → jI → jL → Prop) (i : jI) (j : jL) (x0 : Nat) (x1 : Int32) (x2 : Int32) : Prop := ((x1 < 0) → (J_X5_hasAt_L26 len r Q i j )) ∧ ((¬ x1 < 0) → ((((i x0 1) ≤ x1) → (J_X5_hasAt_L26 len r Q i j )) ∧ ((¬ (i x0 1) ≤ x1) → (∃ a13, r x0 0 = some a13 ∧ (vp_in x1 (len a13) ∧ (((¬ (i a13 x1.toNatClampNeg) = x2) → (J_X5_hasAt_L26 len r Q i j )) ∧ (((i a13 x1.toNatClampNeg) = x2) → (Q (1 : Int32) i j))))))))
abbrev rm_X5_hasAt : Room := { frames := 0, cells := 0, slots := 0, locals := 0 }
variable {p : Program} {l : Launch} {e : Env} {s : State} {m : MethodId} {args : Array Value} {below : List Frame} {meth : Method} {c : Code} {b tU n : Nat} {cy : Nat → ClassId} {D : va_G} {K len : Nat → Nat} {r : jR} {Q : Int32 → jI → jL → Prop}
theorem hiX5_X5_hasAt : ∀ w ∈ u_ws RX5 TX5 5, w ∈ wsX5_hasAt := by decide +kernel
set_option maxHeartbeats 4000000 in
set_option maxRecDepth 100000 in
theorem w_X5_hasAt_L26 (C0 : jCx p s m args c cX5_hasAt 3 wsX5_hasAt RX5 b cy D tU n K r) (hr : meth.sig.returnType = some .boolean) (hlk : meth.locks = false) {H : Heap} {locs : List Loc} {ls : Array Slot} {i : jI} {j : jL}  (w : jDy b cy D n K len r i j s H locs) (hl : lv_has ls 3 []) (h : J_X5_hasAt_L26 len r Q i j) : W p l e rm_X5_hasAt s m args below meth c H locs 0 0 (MQ below (jQi b cy D tU n K len r Q) args s 0 0 (jA b)) (F0 m 26 ls []) := by
  obtain ⟨hx, hb, hml, hown, hts, hst, hG⟩ := id C0
  have hiX5 : ∀ w ∈ u_ws RX5 TX5 5, w ∈ wsX5_hasAt := hiX5_X5_hasAt
  rw [J_X5_hasAt_L26] at h
  refine lv_iconst (v := (0 : Int32)) hx hb dX5_hasAt_26 (by decide) ?_
  exact jret_z hx hb hr hlk hst w (by decide) h dX5_hasAt_27
set_option maxHeartbeats 4000000 in
set_option maxRecDepth 100000 in
theorem c_X5_hasAt (hG : jG n K r) {i : jI} {j : jL} {x0 : Nat} {x1 : Int32} {x2 : Int32} (hx0 : x0 < n ∧ K x0 = 5) (h : J_X5_hasAt len r Q i j x0 x1 x2) : Met l yX5_hasAt wsX5_hasAt rm_X5_hasAt (va_Pc [.ref (b + x0), .int x1, .int x2] (jPre b cy D tU n K len r i j)) (jQi b cy D tU n K len r Q) 0 0 (jA b) := by
  refine Met.ofW (cc := cX5_hasAt) (maxL := 3) (ret := (some .boolean)) (by decide) rfl ?_
  intro p e s m args below meth c s₁ B hml hv
  obtain ⟨rfl, hv⟩ := hv
  have C0 : jCx p s m _ c cX5_hasAt 3 wsX5_hasAt RX5 b cy D tU n K r := ⟨B.exec, B.bytes, hml, findClass_of_methodNamed B.named, atoms_spec (ws := wsX5_hasAt) B.pre, hv.2.2, hG⟩
  have hr := B.returns
  have hlk := B.notSynchronized
  obtain ⟨hx, hb, hml, hown, hts, hst, hG⟩ := id C0
  have hiX5 : ∀ w ∈ u_ws RX5 TX5 5, w ∈ wsX5_hasAt := hiX5_X5_hasAt
  have w := jDy.start hv
  have hl := lv_entry ([.ref (b + x0), .int x1, .int x2]) (n := 3) (Nat.le_of_ble_eq_true rfl)
  rw [lg_entry_eq]
  generalize (lg_sl ([.ref (b + x0), .int x1, .int x2]) ++ List.replicate (3 - (lg_sl ([.ref (b + x0), .int x1, .int x2])).length) Slot.unset).toArray = ls at hl ⊢
  replace hl : lv_has ls 3 [(0, .ref (b + x0)), (1, .int x1), (2, .int x2)] := hl
  show W p l e rm_X5_hasAt s m _ below meth c s.heap [] 0 0 _ (F0 m 0 ls [])
  rw [J_X5_hasAt] at h
  refine lv_iload_n hx hb dX5_hasAt_0 rfl (lv_at hl 1 rfl) ?_
  refine lv_if_lt (tgt := 26) hx hb dX5_hasAt_1 (by decide) (fun hc => ?_) (fun hc => ?_)
  · replace h := h.1 hc
    clear hc
    exact w_X5_hasAt_L26 C0 hr hlk w (lv_sub hl [] rfl) h
  · replace h := h.2 hc
    clear hc
    refine lv_iload_n hx hb dX5_hasAt_4 rfl (lv_at hl 1 rfl) ?_
    refine lv_aload_n hx hb dX5_hasAt_5 rfl (lv_at hl 0 rfl) ?_
    refine jgi (f := 1) hx hb hts hown hst w hx0 hiX5 (rfl : vwCl[5]? = some (RX5, TX5, 5)) (hts (.fieldLink RX5 21 "FootByGate$Page" "length" "I") (by decide +kernel)) ⟨by decide, by decide, rfl⟩ dX5_hasAt_6 ?_
    refine lv_icmp_ge (tgt := 26) hx hb dX5_hasAt_9 (by decide) (fun hc => ?_) (fun hc => ?_)
    · replace h := h.1 hc
      clear hc
      exact w_X5_hasAt_L26 C0 hr hlk w (lv_sub hl [] rfl) h
    · replace h := h.2 hc
      clear hc
      refine lv_aload_n hx hb dX5_hasAt_12 rfl (lv_at hl 0 rfl) ?_
      obtain ⟨a13, hr0, h⟩ := h
      refine jgr (f := 0) hx hb hts hown hst w hG hx0 hiX5 (rfl : vwCl[5]? = some (RX5, TX5, 5)) (hts (.fieldLink RX5 11 "FootByGate$Page" "letters" "[I") (by decide +kernel)) ⟨by decide, by decide, rfl⟩ (rfl : jrt 5 0 = 13) dX5_hasAt_13 hr0 (fun ha13 => ?_)
      clear hr0
      refine lv_iload_n hx hb dX5_hasAt_16 rfl (lv_at hl 1 rfl) ?_
      obtain ⟨hn, h⟩ := h
      refine jaid hx hb hst w ha13 hn dX5_hasAt_17 ?_
      clear hn
      refine lv_iload_n hx hb dX5_hasAt_18 rfl (lv_at hl 2 rfl) ?_
      refine lv_icmp_ne (tgt := 26) hx hb dX5_hasAt_19 (by decide) (fun hc => ?_) (fun hc => ?_)
      · replace h := h.1 hc
        clear hc
        exact w_X5_hasAt_L26 C0 hr hlk w (lv_sub hl [] rfl) h
      · replace h := h.2 hc
        clear hc
        refine lv_iconst (v := (1 : Int32)) hx hb dX5_hasAt_22 (by decide) ?_
        refine lv_goto (tgt := 27) hx hb dX5_hasAt_23 (by decide) ?_
        exact jret_z hx hb hr hlk hst w (by decide) h dX5_hasAt_27
end S_X5_hasAt
section S_X5_isPlaceSign
def J_X5_isPlaceSign_L16 (len : Nat → Nat) (r : jR) (Q : Int32 → jI → jL → Prop) (i : jI) (j : jL) : Prop := Q (0 : Int32) i j
def J_X5_isPlaceSign (len : Nat → Nat) (r : jR) (Q : Int32 → jI → jL → Prop) (i : jI) (j : jL) (x0 : Int32) : Prop := ((x0 < (48 : Int32)) → (J_X5_isPlaceSign_L16 len r Q i j )) ∧ ((¬ x0 < (48 : Int32)) → ((((55 : Int32) ≤ x0) → (J_X5_isPlaceSign_L16 len r Q i j )) ∧ ((¬ (55 : Int32) ≤ x0) → (Q (1 : Int32) i j))))
abbrev rm_X5_isPlaceSign : Room := { frames := 0, cells := 0, slots := 0, locals := 0 }
variable {p : Program} {l : Launch} {e : Env} {s : State} {m : MethodId} {args : Array Value} {below : List Frame} {meth : Method} {c : Code} {b tU n : Nat} {cy : Nat → ClassId} {D : va_G} {K len : Nat → Nat} {r : jR} {Q : Int32 → jI → jL → Prop}
set_option maxHeartbeats 4000000 in
set_option maxRecDepth 100000 in
theorem w_X5_isPlaceSign_L16 (C0 : jCx p s m args c cX5_isPlaceSign 1 wsX5_isPlaceSign RX5 b cy D tU n K r) (hr : meth.sig.returnType = some .boolean) (hlk : meth.locks = false) {H : Heap} {locs : List Loc} {ls : Array Slot} {i : jI} {j : jL}  (w : jDy b cy D n K len r i j s H locs) (hl : lv_has ls 1 []) (h : J_X5_isPlaceSign_L16 len r Q i j) : W p l e rm_X5_isPlaceSign s m args below meth c H locs 0 0 (MQ below (jQi b cy D tU n K len r Q) args s 0 0 (jA b)) (F0 m 16 ls []) := by
  obtain ⟨hx, hb, hml, hown, hts, hst, hG⟩ := id C0
  rw [J_X5_isPlaceSign_L16] at h
  refine lv_iconst (v := (0 : Int32)) hx hb dX5_isPlaceSign_16 (by decide) ?_
  exact jret_z hx hb hr hlk hst w (by decide) h dX5_isPlaceSign_17
set_option maxHeartbeats 4000000 in
set_option maxRecDepth 100000 in
theorem c_X5_isPlaceSign (hG : jG n K r) {i : jI} {j : jL} {x0 : Int32} (h : J_X5_isPlaceSign len r Q i j x0) : Met l yX5_isPlaceSign wsX5_isPlaceSign rm_X5_isPlaceSign (va_Pc [.int x0] (jPre b cy D tU n K len r i j)) (jQi b cy D tU n K len r Q) 0 0 (jA b) := by
  refine Met.ofW (cc := cX5_isPlaceSign) (maxL := 1) (ret := (some .boolean)) (by decide) rfl ?_
  intro p e s m args below meth c s₁ B hml hv
  obtain ⟨rfl, hv⟩ := hv
  have C0 : jCx p s m _ c cX5_isPlaceSign 1 wsX5_isPlaceSign RX5 b cy D tU n K r := ⟨B.exec, B.bytes, hml, findClass_of_methodNamed B.named, atoms_spec (ws := wsX5_isPlaceSign) B.pre, hv.2.2, hG⟩
  have hr := B.returns
  have hlk := B.notSynchronized
  obtain ⟨hx, hb, hml, hown, hts, hst, hG⟩ := id C0
  have w := jDy.start hv
  have hl := lv_entry ([.int x0]) (n := 1) (Nat.le_of_ble_eq_true rfl)
  rw [lg_entry_eq]
  generalize (lg_sl ([.int x0]) ++ List.replicate (1 - (lg_sl ([.int x0])).length) Slot.unset).toArray = ls at hl ⊢
  replace hl : lv_has ls 1 [(0, .int x0)] := hl
  show W p l e rm_X5_isPlaceSign s m _ below meth c s.heap [] 0 0 _ (F0 m 0 ls [])
  rw [J_X5_isPlaceSign] at h
  refine lv_iload_n hx hb dX5_isPlaceSign_0 rfl (lv_at hl 0 rfl) ?_
  refine lv_bipush (v := (48 : Int32)) hx hb dX5_isPlaceSign_1 (by decide) ?_
  refine lv_icmp_lt (tgt := 16) hx hb dX5_isPlaceSign_3 (by decide) (fun hc => ?_) (fun hc => ?_)
  · replace h := h.1 hc
    clear hc
    exact w_X5_isPlaceSign_L16 C0 hr hlk w (lv_sub hl [] rfl) h
  · replace h := h.2 hc
    clear hc
    refine lv_iload_n hx hb dX5_isPlaceSign_6 rfl (lv_at hl 0 rfl) ?_
    refine lv_bipush (v := (55 : Int32)) hx hb dX5_isPlaceSign_7 (by decide) ?_
    refine lv_icmp_ge (tgt := 16) hx hb dX5_isPlaceSign_9 (by decide) (fun hc => ?_) (fun hc => ?_)
    · replace h := h.1 hc
      clear hc
      exact w_X5_isPlaceSign_L16 C0 hr hlk w (lv_sub hl [] rfl) h
    · replace h := h.2 hc
      clear hc
      refine lv_iconst (v := (1 : Int32)) hx hb dX5_isPlaceSign_12 (by decide) ?_
      refine lv_goto (tgt := 17) hx hb dX5_isPlaceSign_13 (by decide) ?_
      exact jret_z hx hb hr hlk hst w (by decide) h dX5_isPlaceSign_17
end S_X5_isPlaceSign
section S_X5_phaseBehindGate
def J_X5_phaseBehindGate (len : Nat → Nat) (r : jR) (Q : Int32 → jI → jL → Prop) (i : jI) (j : jL) (x0 : Nat) : Prop := ∀ i7 : jI, i7 = ju i x0 4 ((i x0 4) + (1 : Int32)) → ((((3 : Int32) < (i7 x0 4)) → (Q (7 : Int32) i7 j)) ∧ ((¬ (3 : Int32) < (i7 x0 4)) → (Q (4 : Int32) i7 j)))
abbrev rm_X5_phaseBehindGate : Room := { frames := 0, cells := 0, slots := 0, locals := 0 }
variable {p : Program} {l : Launch} {e : Env} {s : State} {m : MethodId} {args : Array Value} {below : List Frame} {meth : Method} {c : Code} {b tU n : Nat} {cy : Nat → ClassId} {D : va_G} {K len : Nat → Nat} {r : jR} {Q : Int32 → jI → jL → Prop}
theorem hiX5_X5_phaseBehindGate : ∀ w ∈ u_ws RX5 TX5 5, w ∈ wsX5_phaseBehindGate := by decide +kernel
set_option maxHeartbeats 4000000 in
set_option maxRecDepth 100000 in
theorem c_X5_phaseBehindGate (hG : jG n K r) {i : jI} {j : jL} {x0 : Nat} (hx0 : x0 < n ∧ K x0 = 5) (h : J_X5_phaseBehindGate len r Q i j x0) : Met l yX5_phaseBehindGate wsX5_phaseBehindGate rm_X5_phaseBehindGate (va_Pc [.ref (b + x0)] (jPre b cy D tU n K len r i j)) (jQi b cy D tU n K len r Q) 0 0 (jA b) := by
  refine Met.ofW (cc := cX5_phaseBehindGate) (maxL := 1) (ret := (some .int)) (by decide) rfl ?_
  intro p e s m args below meth c s₁ B hml hv
  obtain ⟨rfl, hv⟩ := hv
  have C0 : jCx p s m _ c cX5_phaseBehindGate 1 wsX5_phaseBehindGate RX5 b cy D tU n K r := ⟨B.exec, B.bytes, hml, findClass_of_methodNamed B.named, atoms_spec (ws := wsX5_phaseBehindGate) B.pre, hv.2.2, hG⟩
  have hr := B.returns
  have hlk := B.notSynchronized
  obtain ⟨hx, hb, hml, hown, hts, hst, hG⟩ := id C0
  have hiX5 : ∀ w ∈ u_ws RX5 TX5 5, w ∈ wsX5_phaseBehindGate := hiX5_X5_phaseBehindGate
  have w := jDy.start hv
  have hl := lv_entry ([.ref (b + x0)]) (n := 1) (Nat.le_of_ble_eq_true rfl)
  rw [lg_entry_eq]
  generalize (lg_sl ([.ref (b + x0)]) ++ List.replicate (1 - (lg_sl ([.ref (b + x0)])).length) Slot.unset).toArray = ls at hl ⊢
  replace hl : lv_has ls 1 [(0, .ref (b + x0))] := hl
  show W p l e rm_X5_phaseBehindGate s m _ below meth c s.heap [] 0 0 _ (F0 m 0 ls [])
  rw [J_X5_phaseBehindGate] at h
  refine lv_aload_n hx hb dX5_phaseBehindGate_0 rfl (lv_at hl 0 rfl) ?_
  refine lv_dup hx hb dX5_phaseBehindGate_1 rfl ?_
  refine jgi (f := 4) hx hb hts hown hst w hx0 hiX5 (rfl : vwCl[5]? = some (RX5, TX5, 5)) (hts (.fieldLink RX5 31 "FootByGate$Page" "gates" "I") (by decide +kernel)) ⟨by decide, by decide, rfl⟩ dX5_phaseBehindGate_2 ?_
  refine lv_iconst (v := (1 : Int32)) hx hb dX5_phaseBehindGate_5 (by decide) ?_
  refine lv_iadd hx hb dX5_phaseBehindGate_6 ?_
  refine jpi (f := 4) hx hb hts hown hst w hx0 hiX5 (rfl : vwCl[5]? = some (RX5, TX5, 5)) (hts (.fieldLink RX5 31 "FootByGate$Page" "gates" "I") (by decide +kernel)) ⟨by decide, by decide, rfl⟩ tyX5 tyX5_ok nmX5 rfl ⟨rfl, rfl⟩ dX5_phaseBehindGate_7 (fun i7 H locs he w => ?_)
  replace h := h i7 he
  clear he
  refine lv_aload_n hx hb dX5_phaseBehindGate_10 rfl (lv_at hl 0 rfl) ?_
  refine jgi (f := 4) hx hb hts hown hst w hx0 hiX5 (rfl : vwCl[5]? = some (RX5, TX5, 5)) (hts (.fieldLink RX5 31 "FootByGate$Page" "gates" "I") (by decide +kernel)) ⟨by decide, by decide, rfl⟩ dX5_phaseBehindGate_11 ?_
  refine lv_iconst (v := (3 : Int32)) hx hb dX5_phaseBehindGate_14 (by decide) ?_
  refine lv_icmp_gt (tgt := 22) hx hb dX5_phaseBehindGate_15 (by decide) (fun hc => ?_) (fun hc => ?_)
  · replace h := h.1 hc
    clear hc
    refine lv_bipush (v := (7 : Int32)) hx hb dX5_phaseBehindGate_22 (by decide) ?_
    exact jret_i hx hb hr hlk hst w h dX5_phaseBehindGate_24
  · replace h := h.2 hc
    clear hc
    refine lv_iconst (v := (4 : Int32)) hx hb dX5_phaseBehindGate_18 (by decide) ?_
    refine lv_goto (tgt := 24) hx hb dX5_phaseBehindGate_19 (by decide) ?_
    exact jret_i hx hb hr hlk hst w h dX5_phaseBehindGate_24
end S_X5_phaseBehindGate
section S_X5_phaseBehindStreet
def J_X5_phaseBehindStreet_L17 (len : Nat → Nat) (r : jR) (Q : Int32 → jI → jL → Prop) (i : jI) (j : jL) (x1 : Int32) : Prop := ((¬ x1 = (59 : Int32)) → (Q (7 : Int32) i j)) ∧ ((x1 = (59 : Int32)) → (Q (5 : Int32) i j))
def J_X5_phaseBehindStreet (len : Nat → Nat) (r : jR) (Q : Int32 → jI → jL → Prop) (i : jI) (j : jL) (x0 : Nat) (x1 : Int32) : Prop := ((¬ x1 = (44 : Int32)) → (J_X5_phaseBehindStreet_L17 len r Q i j x1)) ∧ ((x1 = (44 : Int32)) → ((((10 : Int32) ≤ (i x0 3)) → (J_X5_phaseBehindStreet_L17 len r Q i j x1)) ∧ ((¬ (10 : Int32) ≤ (i x0 3)) → (Q (0 : Int32) i j))))
abbrev rm_X5_phaseBehindStreet : Room := { frames := 0, cells := 0, slots := 0, locals := 0 }
variable {p : Program} {l : Launch} {e : Env} {s : State} {m : MethodId} {args : Array Value} {below : List Frame} {meth : Method} {c : Code} {b tU n : Nat} {cy : Nat → ClassId} {D : va_G} {K len : Nat → Nat} {r : jR} {Q : Int32 → jI → jL → Prop}
theorem hiX5_X5_phaseBehindStreet : ∀ w ∈ u_ws RX5 TX5 5, w ∈ wsX5_phaseBehindStreet := by decide +kernel
set_option maxHeartbeats 4000000 in
set_option maxRecDepth 100000 in
theorem w_X5_phaseBehindStreet_L17 (C0 : jCx p s m args c cX5_phaseBehindStreet 2 wsX5_phaseBehindStreet RX5 b cy D tU n K r) (hr : meth.sig.returnType = some .int) (hlk : meth.locks = false) {H : Heap} {locs : List Loc} {ls : Array Slot} {i : jI} {j : jL} {x1 : Int32} (w : jDy b cy D n K len r i j s H locs) (hl : lv_has ls 2 [(1, .int x1)]) (h : J_X5_phaseBehindStreet_L17 len r Q i j x1) : W p l e rm_X5_phaseBehindStreet s m args below meth c H locs 0 0 (MQ below (jQi b cy D tU n K len r Q) args s 0 0 (jA b)) (F0 m 17 ls []) := by
  obtain ⟨hx, hb, hml, hown, hts, hst, hG⟩ := id C0
  have hiX5 : ∀ w ∈ u_ws RX5 TX5 5, w ∈ wsX5_phaseBehindStreet := hiX5_X5_phaseBehindStreet
  rw [J_X5_phaseBehindStreet_L17] at h
  refine lv_iload_n hx hb dX5_phaseBehindStreet_17 rfl (lv_at hl 0 rfl) ?_
  refine lv_bipush (v := (59 : Int32)) hx hb dX5_phaseBehindStreet_18 (by decide) ?_
  refine lv_icmp_ne (tgt := 27) hx hb dX5_phaseBehindStreet_20 (by decide) (fun hc => ?_) (fun hc => ?_)
  · replace h := h.1 hc
    clear hc
    refine lv_bipush (v := (7 : Int32)) hx hb dX5_phaseBehindStreet_27 (by decide) ?_
    exact jret_i hx hb hr hlk hst w h dX5_phaseBehindStreet_29
  · replace h := h.2 hc
    clear hc
    refine lv_iconst (v := (5 : Int32)) hx hb dX5_phaseBehindStreet_23 (by decide) ?_
    refine lv_goto (tgt := 29) hx hb dX5_phaseBehindStreet_24 (by decide) ?_
    exact jret_i hx hb hr hlk hst w h dX5_phaseBehindStreet_29
set_option maxHeartbeats 4000000 in
set_option maxRecDepth 100000 in
theorem c_X5_phaseBehindStreet (hG : jG n K r) {i : jI} {j : jL} {x0 : Nat} {x1 : Int32} (hx0 : x0 < n ∧ K x0 = 5) (h : J_X5_phaseBehindStreet len r Q i j x0 x1) : Met l yX5_phaseBehindStreet wsX5_phaseBehindStreet rm_X5_phaseBehindStreet (va_Pc [.ref (b + x0), .int x1] (jPre b cy D tU n K len r i j)) (jQi b cy D tU n K len r Q) 0 0 (jA b) := by
  refine Met.ofW (cc := cX5_phaseBehindStreet) (maxL := 2) (ret := (some .int)) (by decide) rfl ?_
  intro p e s m args below meth c s₁ B hml hv
  obtain ⟨rfl, hv⟩ := hv
  have C0 : jCx p s m _ c cX5_phaseBehindStreet 2 wsX5_phaseBehindStreet RX5 b cy D tU n K r := ⟨B.exec, B.bytes, hml, findClass_of_methodNamed B.named, atoms_spec (ws := wsX5_phaseBehindStreet) B.pre, hv.2.2, hG⟩
  have hr := B.returns
  have hlk := B.notSynchronized
  obtain ⟨hx, hb, hml, hown, hts, hst, hG⟩ := id C0
  have hiX5 : ∀ w ∈ u_ws RX5 TX5 5, w ∈ wsX5_phaseBehindStreet := hiX5_X5_phaseBehindStreet
  have w := jDy.start hv
  have hl := lv_entry ([.ref (b + x0), .int x1]) (n := 2) (Nat.le_of_ble_eq_true rfl)
  rw [lg_entry_eq]
  generalize (lg_sl ([.ref (b + x0), .int x1]) ++ List.replicate (2 - (lg_sl ([.ref (b + x0), .int x1])).length) Slot.unset).toArray = ls at hl ⊢
  replace hl : lv_has ls 2 [(0, .ref (b + x0)), (1, .int x1)] := hl
  show W p l e rm_X5_phaseBehindStreet s m _ below meth c s.heap [] 0 0 _ (F0 m 0 ls [])
  rw [J_X5_phaseBehindStreet] at h
  refine lv_iload_n hx hb dX5_phaseBehindStreet_0 rfl (lv_at hl 1 rfl) ?_
  refine lv_bipush (v := (44 : Int32)) hx hb dX5_phaseBehindStreet_1 (by decide) ?_
  refine lv_icmp_ne (tgt := 17) hx hb dX5_phaseBehindStreet_3 (by decide) (fun hc => ?_) (fun hc => ?_)
  · replace h := h.1 hc
    clear hc
    exact w_X5_phaseBehindStreet_L17 C0 hr hlk w (lv_sub hl [1] rfl) h
  · replace h := h.2 hc
    clear hc
    refine lv_aload_n hx hb dX5_phaseBehindStreet_6 rfl (lv_at hl 0 rfl) ?_
    refine jgi (f := 3) hx hb hts hown hst w hx0 hiX5 (rfl : vwCl[5]? = some (RX5, TX5, 5)) (hts (.fieldLink RX5 28 "FootByGate$Page" "streets" "I") (by decide +kernel)) ⟨by decide, by decide, rfl⟩ dX5_phaseBehindStreet_7 ?_
    refine lv_bipush (v := (10 : Int32)) hx hb dX5_phaseBehindStreet_10 (by decide) ?_
    refine lv_icmp_ge (tgt := 17) hx hb dX5_phaseBehindStreet_12 (by decide) (fun hc => ?_) (fun hc => ?_)
    · replace h := h.1 hc
      clear hc
      exact w_X5_phaseBehindStreet_L17 C0 hr hlk w (lv_sub hl [1] rfl) h
    · replace h := h.2 hc
      clear hc
      refine lv_iconst (v := (0 : Int32)) hx hb dX5_phaseBehindStreet_15 (by decide) ?_
      exact jret_i hx hb hr hlk hst w h dX5_phaseBehindStreet_16
end S_X5_phaseBehindStreet
section S_X5_phaseBehind
def J_X5_phaseBehind_L89 (len : Nat → Nat) (r : jR) (Q : Int32 → jI → jL → Prop) (i : jI) (j : jL) : Prop := Q (7 : Int32) i j
def J_X5_phaseBehind_L118 (len : Nat → Nat) (r : jR) (Q : Int32 → jI → jL → Prop) (i : jI) (j : jL) : Prop := Q (7 : Int32) i j
def J_X5_phaseBehind (len : Nat → Nat) (r : jR) (Q : Int32 → jI → jL → Prop) (i : jI) (j : jL) (x0 : Nat) (x1 : Int32) : Prop := ∃ a1, r x0 0 = some a1 ∧ (vp_in x1 (len a1) ∧ (∀ v6 : Int32, v6 = i a1 x1.toNatClampNeg → ((((i x0 2) = (0 : Int32)) → (J_X5_isPlaceSign len r (fun (q49 : Int32) (i49 : jI) (j49 : jL) => ((q49 = 0) → (Q (7 : Int32) i49 j49)) ∧ ((¬ q49 = 0) → (Q (1 : Int32) i49 j49))) i j v6)) ∧ ((((i x0 2) = (1 : Int32)) → (((x1 ≤ 0) → (J_X5_phaseBehind_L89 len r Q i j )) ∧ ((¬ x1 ≤ 0) → (J_X5_isPlaceSign len r (fun (q67 : Int32) (i67 : jI) (j67 : jL) => ((q67 = 0) → (J_X5_phaseBehind_L89 len r Q i67 j67 )) ∧ ((¬ q67 = 0) → (∃ a75, r x0 0 = some a75 ∧ (vp_in (x1 - (1 : Int32)) (len a75) ∧ (((v6 = (i67 a75 (x1 - (1 : Int32)).toNatClampNeg)) → (J_X5_phaseBehind_L89 len r Q i67 j67 )) ∧ ((¬ v6 = (i67 a75 (x1 - (1 : Int32)).toNatClampNeg)) → (Q (2 : Int32) i67 j67))))))) i j v6)))) ∧ ((((i x0 2) = (2 : Int32)) → (∀ i99 : jI, i99 = ju i x0 3 ((i x0 3) + (1 : Int32)) → (((v6 < (48 : Int32)) → (J_X5_phaseBehind_L118 len r Q i99 j )) ∧ ((¬ v6 < (48 : Int32)) → ((((57 : Int32) < v6) → (J_X5_phaseBehind_L118 len r Q i99 j )) ∧ ((¬ (57 : Int32) < v6) → (Q (3 : Int32) i99 j))))))) ∧ ((((i x0 2) = (3 : Int32)) → (((¬ v6 = (33 : Int32)) → (J_X5_phaseBehindStreet len r (fun (q136 : Int32) (i136 : jI) (j136 : jL) => Q q136 i136 j136) i j x0 v6)) ∧ ((v6 = (33 : Int32)) → (J_X5_phaseBehindGate len r (fun (q128 : Int32) (i128 : jI) (j128 : jL) => Q q128 i128 j128) i j x0)))) ∧ ((((i x0 2) = (4 : Int32)) → (J_X5_phaseBehindStreet len r (fun (q142 : Int32) (i142 : jI) (j142 : jL) => Q q142 i142 j142) i j x0 v6)) ∧ ((((i x0 2) = (5 : Int32)) → (((¬ v6 = (102 : Int32)) → (Q (7 : Int32) i j)) ∧ ((v6 = (102 : Int32)) → (Q (6 : Int32) i j)))) ∧ ((¬ (i x0 2) = (0 : Int32) → ¬ (i x0 2) = (1 : Int32) → ¬ (i x0 2) = (2 : Int32) → ¬ (i x0 2) = (3 : Int32) → ¬ (i x0 2) = (4 : Int32) → ¬ (i x0 2) = (5 : Int32) → (Q (7 : Int32) i j)))))))))))
abbrev rm_X5_phaseBehind : Room := { frames := 1, cells := 0, slots := 0, locals := 21 }
variable {p : Program} {l : Launch} {e : Env} {s : State} {m : MethodId} {args : Array Value} {below : List Frame} {meth : Method} {c : Code} {b tU n : Nat} {cy : Nat → ClassId} {D : va_G} {K len : Nat → Nat} {r : jR} {Q : Int32 → jI → jL → Prop}
theorem hiX5_X5_phaseBehind : ∀ w ∈ u_ws RX5 TX5 5, w ∈ wsX5_phaseBehind := by decide +kernel
set_option maxHeartbeats 4000000 in
set_option maxRecDepth 100000 in
theorem w_X5_phaseBehind_L89 (C0 : jCx p s m args c cX5_phaseBehind 3 wsX5_phaseBehind RX5 b cy D tU n K r) (hr : meth.sig.returnType = some .int) (hlk : meth.locks = false) {H : Heap} {locs : List Loc} {ls : Array Slot} {i : jI} {j : jL}  (w : jDy b cy D n K len r i j s H locs) (hl : lv_has ls 3 []) (h : J_X5_phaseBehind_L89 len r Q i j) : W p l e rm_X5_phaseBehind s m args below meth c H locs 0 0 (MQ below (jQi b cy D tU n K len r Q) args s 0 0 (jA b)) (F0 m 89 ls []) := by
  obtain ⟨hx, hb, hml, hown, hts, hst, hG⟩ := id C0
  have hiX5 : ∀ w ∈ u_ws RX5 TX5 5, w ∈ wsX5_phaseBehind := hiX5_X5_phaseBehind
  rw [J_X5_phaseBehind_L89] at h
  refine lv_bipush (v := (7 : Int32)) hx hb dX5_phaseBehind_89 (by decide) ?_
  exact jret_i hx hb hr hlk hst w h dX5_phaseBehind_91
set_option maxHeartbeats 4000000 in
set_option maxRecDepth 100000 in
theorem w_X5_phaseBehind_L118 (C0 : jCx p s m args c cX5_phaseBehind 3 wsX5_phaseBehind RX5 b cy D tU n K r) (hr : meth.sig.returnType = some .int) (hlk : meth.locks = false) {H : Heap} {locs : List Loc} {ls : Array Slot} {i : jI} {j : jL}  (w : jDy b cy D n K len r i j s H locs) (hl : lv_has ls 3 []) (h : J_X5_phaseBehind_L118 len r Q i j) : W p l e rm_X5_phaseBehind s m args below meth c H locs 0 0 (MQ below (jQi b cy D tU n K len r Q) args s 0 0 (jA b)) (F0 m 118 ls []) := by
  obtain ⟨hx, hb, hml, hown, hts, hst, hG⟩ := id C0
  have hiX5 : ∀ w ∈ u_ws RX5 TX5 5, w ∈ wsX5_phaseBehind := hiX5_X5_phaseBehind
  rw [J_X5_phaseBehind_L118] at h
  refine lv_bipush (v := (7 : Int32)) hx hb dX5_phaseBehind_118 (by decide) ?_
  exact jret_i hx hb hr hlk hst w h dX5_phaseBehind_120
set_option maxHeartbeats 4000000 in
set_option maxRecDepth 100000 in
theorem c_X5_phaseBehind (hG : jG n K r) {i : jI} {j : jL} {x0 : Nat} {x1 : Int32} (hx0 : x0 < n ∧ K x0 = 5) (h : J_X5_phaseBehind len r Q i j x0 x1) : Met l yX5_phaseBehind wsX5_phaseBehind rm_X5_phaseBehind (va_Pc [.ref (b + x0), .int x1] (jPre b cy D tU n K len r i j)) (jQi b cy D tU n K len r Q) 0 0 (jA b) := by
  refine Met.ofW (cc := cX5_phaseBehind) (maxL := 3) (ret := (some .int)) (by decide) rfl ?_
  intro p e s m args below meth c s₁ B hml hv
  obtain ⟨rfl, hv⟩ := hv
  have C0 : jCx p s m _ c cX5_phaseBehind 3 wsX5_phaseBehind RX5 b cy D tU n K r := ⟨B.exec, B.bytes, hml, findClass_of_methodNamed B.named, atoms_spec (ws := wsX5_phaseBehind) B.pre, hv.2.2, hG⟩
  have hr := B.returns
  have hlk := B.notSynchronized
  obtain ⟨hx, hb, hml, hown, hts, hst, hG⟩ := id C0
  have hiX5 : ∀ w ∈ u_ws RX5 TX5 5, w ∈ wsX5_phaseBehind := hiX5_X5_phaseBehind
  have w := jDy.start hv
  have hl := lv_entry ([.ref (b + x0), .int x1]) (n := 3) (Nat.le_of_ble_eq_true rfl)
  rw [lg_entry_eq]
  generalize (lg_sl ([.ref (b + x0), .int x1]) ++ List.replicate (3 - (lg_sl ([.ref (b + x0), .int x1])).length) Slot.unset).toArray = ls at hl ⊢
  replace hl : lv_has ls 3 [(0, .ref (b + x0)), (1, .int x1)] := hl
  show W p l e rm_X5_phaseBehind s m _ below meth c s.heap [] 0 0 _ (F0 m 0 ls [])
  rw [J_X5_phaseBehind] at h
  refine lv_aload_n hx hb dX5_phaseBehind_0 rfl (lv_at hl 0 rfl) ?_
  obtain ⟨a1, hr0, h⟩ := h
  refine jgr (f := 0) hx hb hts hown hst w hG hx0 hiX5 (rfl : vwCl[5]? = some (RX5, TX5, 5)) (hts (.fieldLink RX5 11 "FootByGate$Page" "letters" "[I") (by decide +kernel)) ⟨by decide, by decide, rfl⟩ (rfl : jrt 5 0 = 13) dX5_phaseBehind_1 hr0 (fun ha1 => ?_)
  clear hr0
  refine lv_iload_n hx hb dX5_phaseBehind_4 rfl (lv_at hl 1 rfl) ?_
  obtain ⟨hn, h⟩ := h
  refine jaid hx hb hst w ha1 hn dX5_phaseBehind_5 ?_
  clear hn
  refine lv_topi (fun v6 he => ?_)
  replace h := h v6 he
  clear he
  refine lv_istore_n (lv' := [(2, .int v6), (0, .ref (b + x0)), (1, .int x1)]) hx hb dX5_phaseBehind_6 rfl hl (by decide) rfl (fun ls hl => ?_)
  refine lv_aload_n hx hb dX5_phaseBehind_7 rfl (lv_at hl 1 rfl) ?_
  refine jgi (f := 2) hx hb hts hown hst w hx0 hiX5 (rfl : vwCl[5]? = some (RX5, TX5, 5)) (hts (.fieldLink RX5 25 "FootByGate$Page" "phase" "I") (by decide +kernel)) ⟨by decide, by decide, rfl⟩ dX5_phaseBehind_8 ?_
  by_cases hc0 : (i x0 2) = (0 : Int32)
  · replace h := h.1 hc0
    refine lv_tableIn (off := 37) (tgt := 48) hx hb dX5_phaseBehind_11 (by rw [hc0]; decide) (by rw [hc0]; decide) (by rw [hc0]; rfl) (by decide) ?_
    clear hc0
    refine lv_iload_n hx hb dX5_phaseBehind_48 rfl (lv_at hl 0 rfl) ?_
    refine jcS_i (As := [.int v6]) (rest := []) C0 w (c_X5_isPlaceSign hG h) (va_cwS 1 hts gX5_phaseBehind_X5_isPlaceSign rfl rfl rfl (by decide +kernel) ⟨Nat.le_of_ble_eq_true rfl, Nat.le_of_ble_eq_true rfl⟩) rfl hl.1 rfl (Nat.le_of_ble_eq_true rfl) dX5_phaseBehind_49 (fun q49 i49 j49 H locs h w => ?_) ⟨Nat.zero_le _, Nat.zero_le _⟩
    refine lv_if_eq (tgt := 59) hx hb dX5_phaseBehind_52 (by decide) (fun hc => ?_) (fun hc => ?_)
    · replace h := h.1 hc
      clear hc
      refine lv_bipush (v := (7 : Int32)) hx hb dX5_phaseBehind_59 (by decide) ?_
      exact jret_i hx hb hr hlk hst w h dX5_phaseBehind_61
    · replace h := h.2 hc
      clear hc
      refine lv_iconst (v := (1 : Int32)) hx hb dX5_phaseBehind_55 (by decide) ?_
      refine lv_goto (tgt := 61) hx hb dX5_phaseBehind_56 (by decide) ?_
      exact jret_i hx hb hr hlk hst w h dX5_phaseBehind_61
  replace h := h.2
  by_cases hc1 : (i x0 2) = (1 : Int32)
  · replace h := h.1 hc1
    refine lv_tableIn (off := 51) (tgt := 62) hx hb dX5_phaseBehind_11 (by rw [hc1]; decide) (by rw [hc1]; decide) (by rw [hc1]; rfl) (by decide) ?_
    clear hc1
    refine lv_iload_n hx hb dX5_phaseBehind_62 rfl (lv_at hl 2 rfl) ?_
    refine lv_if_le (tgt := 89) hx hb dX5_phaseBehind_63 (by decide) (fun hc => ?_) (fun hc => ?_)
    · replace h := h.1 hc
      clear hc
      exact w_X5_phaseBehind_L89 C0 hr hlk w (lv_sub hl [] rfl) h
    · replace h := h.2 hc
      clear hc
      refine lv_iload_n hx hb dX5_phaseBehind_66 rfl (lv_at hl 0 rfl) ?_
      refine jcS_i (As := [.int v6]) (rest := []) C0 w (c_X5_isPlaceSign hG h) (va_cwS 1 hts gX5_phaseBehind_X5_isPlaceSign rfl rfl rfl (by decide +kernel) ⟨Nat.le_of_ble_eq_true rfl, Nat.le_of_ble_eq_true rfl⟩) rfl hl.1 rfl (Nat.le_of_ble_eq_true rfl) dX5_phaseBehind_67 (fun q67 i67 j67 H locs h w => ?_) ⟨Nat.zero_le _, Nat.zero_le _⟩
      refine lv_if_eq (tgt := 89) hx hb dX5_phaseBehind_70 (by decide) (fun hc => ?_) (fun hc => ?_)
      · replace h := h.1 hc
        clear hc
        exact w_X5_phaseBehind_L89 C0 hr hlk w (lv_sub hl [] rfl) h
      · replace h := h.2 hc
        clear hc
        refine lv_iload_n hx hb dX5_phaseBehind_73 rfl (lv_at hl 0 rfl) ?_
        refine lv_aload_n hx hb dX5_phaseBehind_74 rfl (lv_at hl 1 rfl) ?_
        obtain ⟨a75, hr0, h⟩ := h
        refine jgr (f := 0) hx hb hts hown hst w hG hx0 hiX5 (rfl : vwCl[5]? = some (RX5, TX5, 5)) (hts (.fieldLink RX5 11 "FootByGate$Page" "letters" "[I") (by decide +kernel)) ⟨by decide, by decide, rfl⟩ (rfl : jrt 5 0 = 13) dX5_phaseBehind_75 hr0 (fun ha75 => ?_)
        clear hr0
        refine lv_iload_n hx hb dX5_phaseBehind_78 rfl (lv_at hl 2 rfl) ?_
        refine lv_iconst (v := (1 : Int32)) hx hb dX5_phaseBehind_79 (by decide) ?_
        refine lv_isub hx hb dX5_phaseBehind_80 ?_
        obtain ⟨hn, h⟩ := h
        refine jaid hx hb hst w ha75 hn dX5_phaseBehind_81 ?_
        clear hn
        refine lv_icmp_eq (tgt := 89) hx hb dX5_phaseBehind_82 (by decide) (fun hc => ?_) (fun hc => ?_)
        · replace h := h.1 hc
          clear hc
          exact w_X5_phaseBehind_L89 C0 hr hlk w (lv_sub hl [] rfl) h
        · replace h := h.2 hc
          clear hc
          refine lv_iconst (v := (2 : Int32)) hx hb dX5_phaseBehind_85 (by decide) ?_
          refine lv_goto (tgt := 91) hx hb dX5_phaseBehind_86 (by decide) ?_
          exact jret_i hx hb hr hlk hst w h dX5_phaseBehind_91
  replace h := h.2
  by_cases hc2 : (i x0 2) = (2 : Int32)
  · replace h := h.1 hc2
    refine lv_tableIn (off := 81) (tgt := 92) hx hb dX5_phaseBehind_11 (by rw [hc2]; decide) (by rw [hc2]; decide) (by rw [hc2]; rfl) (by decide) ?_
    clear hc2
    refine lv_aload_n hx hb dX5_phaseBehind_92 rfl (lv_at hl 1 rfl) ?_
    refine lv_dup hx hb dX5_phaseBehind_93 rfl ?_
    refine jgi (f := 3) hx hb hts hown hst w hx0 hiX5 (rfl : vwCl[5]? = some (RX5, TX5, 5)) (hts (.fieldLink RX5 28 "FootByGate$Page" "streets" "I") (by decide +kernel)) ⟨by decide, by decide, rfl⟩ dX5_phaseBehind_94 ?_
    refine lv_iconst (v := (1 : Int32)) hx hb dX5_phaseBehind_97 (by decide) ?_
    refine lv_iadd hx hb dX5_phaseBehind_98 ?_
    refine jpi (f := 3) hx hb hts hown hst w hx0 hiX5 (rfl : vwCl[5]? = some (RX5, TX5, 5)) (hts (.fieldLink RX5 28 "FootByGate$Page" "streets" "I") (by decide +kernel)) ⟨by decide, by decide, rfl⟩ tyX5 tyX5_ok nmX5 rfl ⟨rfl, rfl⟩ dX5_phaseBehind_99 (fun i99 H locs he w => ?_)
    replace h := h i99 he
    clear he
    refine lv_iload_n hx hb dX5_phaseBehind_102 rfl (lv_at hl 0 rfl) ?_
    refine lv_bipush (v := (48 : Int32)) hx hb dX5_phaseBehind_103 (by decide) ?_
    refine lv_icmp_lt (tgt := 118) hx hb dX5_phaseBehind_105 (by decide) (fun hc => ?_) (fun hc => ?_)
    · replace h := h.1 hc
      clear hc
      exact w_X5_phaseBehind_L118 C0 hr hlk w (lv_sub hl [] rfl) h
    · replace h := h.2 hc
      clear hc
      refine lv_iload_n hx hb dX5_phaseBehind_108 rfl (lv_at hl 0 rfl) ?_
      refine lv_bipush (v := (57 : Int32)) hx hb dX5_phaseBehind_109 (by decide) ?_
      refine lv_icmp_gt (tgt := 118) hx hb dX5_phaseBehind_111 (by decide) (fun hc => ?_) (fun hc => ?_)
      · replace h := h.1 hc
        clear hc
        exact w_X5_phaseBehind_L118 C0 hr hlk w (lv_sub hl [] rfl) h
      · replace h := h.2 hc
        clear hc
        refine lv_iconst (v := (3 : Int32)) hx hb dX5_phaseBehind_114 (by decide) ?_
        refine lv_goto (tgt := 120) hx hb dX5_phaseBehind_115 (by decide) ?_
        exact jret_i hx hb hr hlk hst w h dX5_phaseBehind_120
  replace h := h.2
  by_cases hc3 : (i x0 2) = (3 : Int32)
  · replace h := h.1 hc3
    refine lv_tableIn (off := 110) (tgt := 121) hx hb dX5_phaseBehind_11 (by rw [hc3]; decide) (by rw [hc3]; decide) (by rw [hc3]; rfl) (by decide) ?_
    clear hc3
    refine lv_iload_n hx hb dX5_phaseBehind_121 rfl (lv_at hl 0 rfl) ?_
    refine lv_bipush (v := (33 : Int32)) hx hb dX5_phaseBehind_122 (by decide) ?_
    refine lv_icmp_ne (tgt := 134) hx hb dX5_phaseBehind_124 (by decide) (fun hc => ?_) (fun hc => ?_)
    · replace h := h.1 hc
      clear hc
      refine lv_aload_n hx hb dX5_phaseBehind_134 rfl (lv_at hl 1 rfl) ?_
      refine lv_iload_n hx hb dX5_phaseBehind_135 rfl (lv_at hl 0 rfl) ?_
      refine jcV_i (k := x0) (As := [.int v6]) (rest := []) C0 w (c_X5_phaseBehindStreet hG hx0 h) (cwV 1 hts gX5_phaseBehind_X5_phaseBehindStreet rfl rfl rfl (by decide +kernel) ⟨Nat.le_of_ble_eq_true rfl, Nat.le_of_ble_eq_true rfl⟩) hx0 (rfl : vwCl[5]? = some (RX5, TX5, 5)) (by decide) rfl hl.1 rfl (Nat.le_of_ble_eq_true rfl) dX5_phaseBehind_136 (fun q136 i136 j136 H locs h w => ?_) ⟨Nat.zero_le _, Nat.zero_le _⟩
      exact jret_i hx hb hr hlk hst w h dX5_phaseBehind_139
    · replace h := h.2 hc
      clear hc
      refine lv_aload_n hx hb dX5_phaseBehind_127 rfl (lv_at hl 1 rfl) ?_
      refine jcV_i (k := x0) (As := []) (rest := []) C0 w (c_X5_phaseBehindGate hG hx0 h) (cwV 0 hts gX5_phaseBehind_X5_phaseBehindGate rfl rfl rfl (by decide +kernel) ⟨Nat.le_of_ble_eq_true rfl, Nat.le_of_ble_eq_true rfl⟩) hx0 (rfl : vwCl[5]? = some (RX5, TX5, 5)) (by decide) rfl hl.1 rfl (Nat.le_of_ble_eq_true rfl) dX5_phaseBehind_128 (fun q128 i128 j128 H locs h w => ?_) ⟨Nat.zero_le _, Nat.zero_le _⟩
      refine lv_goto (tgt := 139) hx hb dX5_phaseBehind_131 (by decide) ?_
      exact jret_i hx hb hr hlk hst w h dX5_phaseBehind_139
  replace h := h.2
  by_cases hc4 : (i x0 2) = (4 : Int32)
  · replace h := h.1 hc4
    refine lv_tableIn (off := 129) (tgt := 140) hx hb dX5_phaseBehind_11 (by rw [hc4]; decide) (by rw [hc4]; decide) (by rw [hc4]; rfl) (by decide) ?_
    clear hc4
    refine lv_aload_n hx hb dX5_phaseBehind_140 rfl (lv_at hl 1 rfl) ?_
    refine lv_iload_n hx hb dX5_phaseBehind_141 rfl (lv_at hl 0 rfl) ?_
    refine jcV_i (k := x0) (As := [.int v6]) (rest := []) C0 w (c_X5_phaseBehindStreet hG hx0 h) (cwV 1 hts gX5_phaseBehind_X5_phaseBehindStreet rfl rfl rfl (by decide +kernel) ⟨Nat.le_of_ble_eq_true rfl, Nat.le_of_ble_eq_true rfl⟩) hx0 (rfl : vwCl[5]? = some (RX5, TX5, 5)) (by decide) rfl hl.1 rfl (Nat.le_of_ble_eq_true rfl) dX5_phaseBehind_142 (fun q142 i142 j142 H locs h w => ?_) ⟨Nat.zero_le _, Nat.zero_le _⟩
    exact jret_i hx hb hr hlk hst w h dX5_phaseBehind_145
  replace h := h.2
  by_cases hc5 : (i x0 2) = (5 : Int32)
  · replace h := h.1 hc5
    refine lv_tableIn (off := 135) (tgt := 146) hx hb dX5_phaseBehind_11 (by rw [hc5]; decide) (by rw [hc5]; decide) (by rw [hc5]; rfl) (by decide) ?_
    clear hc5
    refine lv_iload_n hx hb dX5_phaseBehind_146 rfl (lv_at hl 0 rfl) ?_
    refine lv_bipush (v := (102 : Int32)) hx hb dX5_phaseBehind_147 (by decide) ?_
    refine lv_icmp_ne (tgt := 157) hx hb dX5_phaseBehind_149 (by decide) (fun hc => ?_) (fun hc => ?_)
    · replace h := h.1 hc
      clear hc
      refine lv_bipush (v := (7 : Int32)) hx hb dX5_phaseBehind_157 (by decide) ?_
      exact jret_i hx hb hr hlk hst w h dX5_phaseBehind_159
    · replace h := h.2 hc
      clear hc
      refine lv_bipush (v := (6 : Int32)) hx hb dX5_phaseBehind_152 (by decide) ?_
      refine lv_goto (tgt := 159) hx hb dX5_phaseBehind_154 (by decide) ?_
      exact jret_i hx hb hr hlk hst w h dX5_phaseBehind_159
  replace h := h.2
  replace h := h hc0 hc1 hc2 hc3 hc4 hc5
  have hd : (i x0 2).toInt < 0 ∨ 5 < (i x0 2).toInt := by
    rcases Int.lt_or_le (i x0 2).toInt 0 with h1 | h1
    · exact Or.inl h1
    rcases Int.lt_or_le 5 (i x0 2).toInt with h2 | h2
    · exact Or.inr h2
    exfalso
    have h3 : (i x0 2).toInt = 0 ∨ (i x0 2).toInt = 1 ∨ (i x0 2).toInt = 2 ∨ (i x0 2).toInt = 3 ∨ (i x0 2).toInt = 4 ∨ (i x0 2).toInt = 5 := by omega
    rcases h3 with h3 | h3 | h3 | h3 | h3 | h3
    · exact hc0 (Int32.toInt_inj.mp (h3.trans (by decide)))
    · exact hc1 (Int32.toInt_inj.mp (h3.trans (by decide)))
    · exact hc2 (Int32.toInt_inj.mp (h3.trans (by decide)))
    · exact hc3 (Int32.toInt_inj.mp (h3.trans (by decide)))
    · exact hc4 (Int32.toInt_inj.mp (h3.trans (by decide)))
    · exact hc5 (Int32.toInt_inj.mp (h3.trans (by decide)))
  refine lv_tableOut (tgt := 160) hx hb dX5_phaseBehind_11 hd (by decide) ?_
  clear hd hc0 hc1 hc2 hc3 hc4 hc5
  refine lv_bipush (v := (7 : Int32)) hx hb dX5_phaseBehind_160 (by decide) ?_
  exact jret_i hx hb hr hlk hst w h dX5_phaseBehind_162
end S_X5_phaseBehind
section S_X5_readable
def J_X5_readable_L17 (len : Nat → Nat) (r : jR) (Q : Int32 → jI → jL → Prop) : Nat → jI → jL → Nat → Int32 → Prop
  | 0 => fun _ _ _ _ => False
  | g + 1 => fun i j x0 x1 => (((i x0 1) ≤ x1) → (Q (i x0 1) i j)) ∧ ((¬ (i x0 1) ≤ x1) → (J_X5_phaseBehind len r (fun (q28 : Int32) (i28 : jI) (j28 : jL) => ∀ i31 : jI, i31 = ju i28 x0 2 q28 → (((¬ (i31 x0 2) = (7 : Int32)) → (∀ v45 : Int32, v45 = x1 + (1 : Int32) → ((J_X5_readable_L17 len r Q g) i31 j28 x0 v45))) ∧ (((i31 x0 2) = (7 : Int32)) → (Q x1 i31 j28)))) i j x0 x1))
def J_X5_readable (len : Nat → Nat) (r : jR) (Q : Int32 → jI → jL → Prop) (i : jI) (j : jL) (x0 : Nat) : Prop := ∀ i2 : jI, i2 = ju i x0 2 (0 : Int32) → (∀ i7 : jI, i7 = ju i2 x0 3 (0 : Int32) → (∀ i12 : jI, i12 = ju i7 x0 4 (0 : Int32) → (∃ g0, J_X5_readable_L17 len r Q g0 i12 j x0 (0 : Int32))))
abbrev rm_X5_readable : Room := { frames := 2, cells := 0, slots := 0, locals := 43 }
variable {p : Program} {l : Launch} {e : Env} {s : State} {m : MethodId} {args : Array Value} {below : List Frame} {meth : Method} {c : Code} {b tU n : Nat} {cy : Nat → ClassId} {D : va_G} {K len : Nat → Nat} {r : jR} {Q : Int32 → jI → jL → Prop}
theorem hiX5_X5_readable : ∀ w ∈ u_ws RX5 TX5 5, w ∈ wsX5_readable := by decide +kernel
set_option maxHeartbeats 4000000 in
set_option maxRecDepth 100000 in
theorem w_X5_readable_L17 (C0 : jCx p s m args c cX5_readable 2 wsX5_readable RX5 b cy D tU n K r) (hr : meth.sig.returnType = some .int) (hlk : meth.locks = false) : ∀ (g : Nat) {H : Heap} {locs : List Loc} {ls : Array Slot} {i : jI} {j : jL} {x0 : Nat} {x1 : Int32} (w : jDy b cy D n K len r i j s H locs) (hx0 : x0 < n ∧ K x0 = 5) (hl : lv_has ls 2 [(0, .ref (b + x0)), (1, .int x1)]) (h : J_X5_readable_L17 len r Q g i j x0 x1), W p l e rm_X5_readable s m args below meth c H locs 0 0 (MQ below (jQi b cy D tU n K len r Q) args s 0 0 (jA b)) (F0 m 17 ls []) := by
  obtain ⟨hx, hb, hml, hown, hts, hst, hG⟩ := id C0
  have hiX5 : ∀ w ∈ u_ws RX5 TX5 5, w ∈ wsX5_readable := hiX5_X5_readable
  intro g
  induction g with
  | zero => intro H locs ls i j x0 x1 w hx0 hl h; exact False.elim h
  | succ g ih =>
    intro H locs ls i j x0 x1 w hx0 hl h
    rw [J_X5_readable_L17] at h
    refine lv_iload_n hx hb dX5_readable_17 rfl (lv_at hl 1 rfl) ?_
    refine lv_aload_n hx hb dX5_readable_18 rfl (lv_at hl 0 rfl) ?_
    refine jgi (f := 1) hx hb hts hown hst w hx0 hiX5 (rfl : vwCl[5]? = some (RX5, TX5, 5)) (hts (.fieldLink RX5 21 "FootByGate$Page" "length" "I") (by decide +kernel)) ⟨by decide, by decide, rfl⟩ dX5_readable_19 ?_
    refine lv_icmp_ge (tgt := 51) hx hb dX5_readable_22 (by decide) (fun hc => ?_) (fun hc => ?_)
    · replace h := h.1 hc
      clear hc
      refine lv_aload_n hx hb dX5_readable_51 rfl (lv_at hl 0 rfl) ?_
      refine jgi (f := 1) hx hb hts hown hst w hx0 hiX5 (rfl : vwCl[5]? = some (RX5, TX5, 5)) (hts (.fieldLink RX5 21 "FootByGate$Page" "length" "I") (by decide +kernel)) ⟨by decide, by decide, rfl⟩ dX5_readable_52 ?_
      exact jret_i hx hb hr hlk hst w h dX5_readable_55
    · replace h := h.2 hc
      clear hc
      refine lv_aload_n hx hb dX5_readable_25 rfl (lv_at hl 0 rfl) ?_
      refine lv_aload_n hx hb dX5_readable_26 rfl (lv_at hl 0 rfl) ?_
      refine lv_iload_n hx hb dX5_readable_27 rfl (lv_at hl 1 rfl) ?_
      refine jcV_i (k := x0) (As := [.int x1]) (rest := [.ref (b + x0)]) C0 w (c_X5_phaseBehind hG hx0 h) (cwV 1 hts gX5_readable_X5_phaseBehind rfl rfl rfl (by decide +kernel) ⟨Nat.le_of_ble_eq_true rfl, Nat.le_of_ble_eq_true rfl⟩) hx0 (rfl : vwCl[5]? = some (RX5, TX5, 5)) (by decide) rfl hl.1 rfl (Nat.le_of_ble_eq_true rfl) dX5_readable_28 (fun q28 i28 j28 H locs h w => ?_) ⟨Nat.zero_le _, Nat.zero_le _⟩
      refine jpi (f := 2) hx hb hts hown hst w hx0 hiX5 (rfl : vwCl[5]? = some (RX5, TX5, 5)) (hts (.fieldLink RX5 25 "FootByGate$Page" "phase" "I") (by decide +kernel)) ⟨by decide, by decide, rfl⟩ tyX5 tyX5_ok nmX5 rfl ⟨rfl, rfl⟩ dX5_readable_31 (fun i31 H locs he w => ?_)
      replace h := h i31 he
      clear he
      refine lv_aload_n hx hb dX5_readable_34 rfl (lv_at hl 0 rfl) ?_
      refine jgi (f := 2) hx hb hts hown hst w hx0 hiX5 (rfl : vwCl[5]? = some (RX5, TX5, 5)) (hts (.fieldLink RX5 25 "FootByGate$Page" "phase" "I") (by decide +kernel)) ⟨by decide, by decide, rfl⟩ dX5_readable_35 ?_
      refine lv_bipush (v := (7 : Int32)) hx hb dX5_readable_38 (by decide) ?_
      refine lv_icmp_ne (tgt := 45) hx hb dX5_readable_40 (by decide) (fun hc => ?_) (fun hc => ?_)
      · replace h := h.1 hc
        clear hc
        obtain ⟨v45, he⟩ : ∃ z : Int32, z = x1 + (1 : Int32) := ⟨_, rfl⟩
        replace h := h v45 he
        refine lv_iinc (v := v45) (lv' := [(1, .int v45), (0, .ref (b + x0))]) hx hb dX5_readable_45 hl (k := 1) rfl (by rw [he]; rfl) (by decide) rfl (fun ls hl => ?_)
        clear he
        refine lv_goto (tgt := 17) hx hb dX5_readable_48 (by decide) ?_
        exact ih w hx0 (lv_sub hl [1, 0] rfl) h
      · replace h := h.2 hc
        clear hc
        refine lv_iload_n hx hb dX5_readable_43 rfl (lv_at hl 1 rfl) ?_
        exact jret_i hx hb hr hlk hst w h dX5_readable_44
set_option maxHeartbeats 4000000 in
set_option maxRecDepth 100000 in
theorem c_X5_readable (hG : jG n K r) {i : jI} {j : jL} {x0 : Nat} (hx0 : x0 < n ∧ K x0 = 5) (h : J_X5_readable len r Q i j x0) : Met l yX5_readable wsX5_readable rm_X5_readable (va_Pc [.ref (b + x0)] (jPre b cy D tU n K len r i j)) (jQi b cy D tU n K len r Q) 0 0 (jA b) := by
  refine Met.ofW (cc := cX5_readable) (maxL := 2) (ret := (some .int)) (by decide) rfl ?_
  intro p e s m args below meth c s₁ B hml hv
  obtain ⟨rfl, hv⟩ := hv
  have C0 : jCx p s m _ c cX5_readable 2 wsX5_readable RX5 b cy D tU n K r := ⟨B.exec, B.bytes, hml, findClass_of_methodNamed B.named, atoms_spec (ws := wsX5_readable) B.pre, hv.2.2, hG⟩
  have hr := B.returns
  have hlk := B.notSynchronized
  obtain ⟨hx, hb, hml, hown, hts, hst, hG⟩ := id C0
  have hiX5 : ∀ w ∈ u_ws RX5 TX5 5, w ∈ wsX5_readable := hiX5_X5_readable
  have w := jDy.start hv
  have hl := lv_entry ([.ref (b + x0)]) (n := 2) (Nat.le_of_ble_eq_true rfl)
  rw [lg_entry_eq]
  generalize (lg_sl ([.ref (b + x0)]) ++ List.replicate (2 - (lg_sl ([.ref (b + x0)])).length) Slot.unset).toArray = ls at hl ⊢
  replace hl : lv_has ls 2 [(0, .ref (b + x0))] := hl
  show W p l e rm_X5_readable s m _ below meth c s.heap [] 0 0 _ (F0 m 0 ls [])
  rw [J_X5_readable] at h
  refine lv_aload_n hx hb dX5_readable_0 rfl (lv_at hl 0 rfl) ?_
  refine lv_iconst (v := (0 : Int32)) hx hb dX5_readable_1 (by decide) ?_
  refine jpi (f := 2) hx hb hts hown hst w hx0 hiX5 (rfl : vwCl[5]? = some (RX5, TX5, 5)) (hts (.fieldLink RX5 25 "FootByGate$Page" "phase" "I") (by decide +kernel)) ⟨by decide, by decide, rfl⟩ tyX5 tyX5_ok nmX5 rfl ⟨rfl, rfl⟩ dX5_readable_2 (fun i2 H locs he w => ?_)
  replace h := h i2 he
  clear he
  refine lv_aload_n hx hb dX5_readable_5 rfl (lv_at hl 0 rfl) ?_
  refine lv_iconst (v := (0 : Int32)) hx hb dX5_readable_6 (by decide) ?_
  refine jpi (f := 3) hx hb hts hown hst w hx0 hiX5 (rfl : vwCl[5]? = some (RX5, TX5, 5)) (hts (.fieldLink RX5 28 "FootByGate$Page" "streets" "I") (by decide +kernel)) ⟨by decide, by decide, rfl⟩ tyX5 tyX5_ok nmX5 rfl ⟨rfl, rfl⟩ dX5_readable_7 (fun i7 H locs he w => ?_)
  replace h := h i7 he
  clear he
  refine lv_aload_n hx hb dX5_readable_10 rfl (lv_at hl 0 rfl) ?_
  refine lv_iconst (v := (0 : Int32)) hx hb dX5_readable_11 (by decide) ?_
  refine jpi (f := 4) hx hb hts hown hst w hx0 hiX5 (rfl : vwCl[5]? = some (RX5, TX5, 5)) (hts (.fieldLink RX5 31 "FootByGate$Page" "gates" "I") (by decide +kernel)) ⟨by decide, by decide, rfl⟩ tyX5 tyX5_ok nmX5 rfl ⟨rfl, rfl⟩ dX5_readable_12 (fun i12 H locs he w => ?_)
  replace h := h i12 he
  clear he
  refine lv_iconst (v := (0 : Int32)) hx hb dX5_readable_15 (by decide) ?_
  refine lv_istore_n (lv' := [(1, .int (0 : Int32)), (0, .ref (b + x0))]) hx hb dX5_readable_16 rfl hl (by decide) rfl (fun ls hl => ?_)
  obtain ⟨g0, h⟩ := h
  exact w_X5_readable_L17 C0 hr hlk g0 w hx0 (lv_sub hl [1, 0] rfl) h
end S_X5_readable
section S_X5_isTown
def J_X5_isTown_L40 (len : Nat → Nat) (r : jR) (Q : Int32 → jI → jL → Prop) (i : jI) (j : jL) : Prop := Q (0 : Int32) i j
def J_X5_isTown_L36 (len : Nat → Nat) (r : jR) (Q : Int32 → jI → jL → Prop) (i : jI) (j : jL) : Prop := Q (1 : Int32) i j
def J_X5_isTown (len : Nat → Nat) (r : jR) (Q : Int32 → jI → jL → Prop) (i : jI) (j : jL) (x0 : Nat) : Prop := J_X5_readable len r (fun (q1 : Int32) (i1 : jI) (j1 : jL) => ((¬ q1 = (i1 x0 1)) → (J_X5_isTown_L40 len r Q i1 j1 )) ∧ ((q1 = (i1 x0 1)) → ((((i1 x0 2) = (3 : Int32)) → (J_X5_isTown_L36 len r Q i1 j1 )) ∧ ((¬ (i1 x0 2) = (3 : Int32)) → ((((i1 x0 2) = (4 : Int32)) → (J_X5_isTown_L36 len r Q i1 j1 )) ∧ ((¬ (i1 x0 2) = (4 : Int32)) → (((¬ (i1 x0 2) = (6 : Int32)) → (J_X5_isTown_L40 len r Q i1 j1 )) ∧ (((i1 x0 2) = (6 : Int32)) → (J_X5_isTown_L36 len r Q i1 j1 ))))))))) i j x0
abbrev rm_X5_isTown : Room := { frames := 3, cells := 0, slots := 0, locals := 64 }
variable {p : Program} {l : Launch} {e : Env} {s : State} {m : MethodId} {args : Array Value} {below : List Frame} {meth : Method} {c : Code} {b tU n : Nat} {cy : Nat → ClassId} {D : va_G} {K len : Nat → Nat} {r : jR} {Q : Int32 → jI → jL → Prop}
theorem hiX5_X5_isTown : ∀ w ∈ u_ws RX5 TX5 5, w ∈ wsX5_isTown := by decide +kernel
set_option maxHeartbeats 4000000 in
set_option maxRecDepth 100000 in
theorem w_X5_isTown_L40 (C0 : jCx p s m args c cX5_isTown 1 wsX5_isTown RX5 b cy D tU n K r) (hr : meth.sig.returnType = some .boolean) (hlk : meth.locks = false) {H : Heap} {locs : List Loc} {ls : Array Slot} {i : jI} {j : jL}  (w : jDy b cy D n K len r i j s H locs) (hl : lv_has ls 1 []) (h : J_X5_isTown_L40 len r Q i j) : W p l e rm_X5_isTown s m args below meth c H locs 0 0 (MQ below (jQi b cy D tU n K len r Q) args s 0 0 (jA b)) (F0 m 40 ls []) := by
  obtain ⟨hx, hb, hml, hown, hts, hst, hG⟩ := id C0
  have hiX5 : ∀ w ∈ u_ws RX5 TX5 5, w ∈ wsX5_isTown := hiX5_X5_isTown
  rw [J_X5_isTown_L40] at h
  refine lv_iconst (v := (0 : Int32)) hx hb dX5_isTown_40 (by decide) ?_
  exact jret_z hx hb hr hlk hst w (by decide) h dX5_isTown_41
set_option maxHeartbeats 4000000 in
set_option maxRecDepth 100000 in
theorem w_X5_isTown_L36 (C0 : jCx p s m args c cX5_isTown 1 wsX5_isTown RX5 b cy D tU n K r) (hr : meth.sig.returnType = some .boolean) (hlk : meth.locks = false) {H : Heap} {locs : List Loc} {ls : Array Slot} {i : jI} {j : jL}  (w : jDy b cy D n K len r i j s H locs) (hl : lv_has ls 1 []) (h : J_X5_isTown_L36 len r Q i j) : W p l e rm_X5_isTown s m args below meth c H locs 0 0 (MQ below (jQi b cy D tU n K len r Q) args s 0 0 (jA b)) (F0 m 36 ls []) := by
  obtain ⟨hx, hb, hml, hown, hts, hst, hG⟩ := id C0
  have hiX5 : ∀ w ∈ u_ws RX5 TX5 5, w ∈ wsX5_isTown := hiX5_X5_isTown
  rw [J_X5_isTown_L36] at h
  refine lv_iconst (v := (1 : Int32)) hx hb dX5_isTown_36 (by decide) ?_
  refine lv_goto (tgt := 41) hx hb dX5_isTown_37 (by decide) ?_
  exact jret_z hx hb hr hlk hst w (by decide) h dX5_isTown_41
set_option maxHeartbeats 4000000 in
set_option maxRecDepth 100000 in
theorem c_X5_isTown (hG : jG n K r) {i : jI} {j : jL} {x0 : Nat} (hx0 : x0 < n ∧ K x0 = 5) (h : J_X5_isTown len r Q i j x0) : Met l yX5_isTown wsX5_isTown rm_X5_isTown (va_Pc [.ref (b + x0)] (jPre b cy D tU n K len r i j)) (jQi b cy D tU n K len r Q) 0 0 (jA b) := by
  refine Met.ofW (cc := cX5_isTown) (maxL := 1) (ret := (some .boolean)) (by decide) rfl ?_
  intro p e s m args below meth c s₁ B hml hv
  obtain ⟨rfl, hv⟩ := hv
  have C0 : jCx p s m _ c cX5_isTown 1 wsX5_isTown RX5 b cy D tU n K r := ⟨B.exec, B.bytes, hml, findClass_of_methodNamed B.named, atoms_spec (ws := wsX5_isTown) B.pre, hv.2.2, hG⟩
  have hr := B.returns
  have hlk := B.notSynchronized
  obtain ⟨hx, hb, hml, hown, hts, hst, hG⟩ := id C0
  have hiX5 : ∀ w ∈ u_ws RX5 TX5 5, w ∈ wsX5_isTown := hiX5_X5_isTown
  have w := jDy.start hv
  have hl := lv_entry ([.ref (b + x0)]) (n := 1) (Nat.le_of_ble_eq_true rfl)
  rw [lg_entry_eq]
  generalize (lg_sl ([.ref (b + x0)]) ++ List.replicate (1 - (lg_sl ([.ref (b + x0)])).length) Slot.unset).toArray = ls at hl ⊢
  replace hl : lv_has ls 1 [(0, .ref (b + x0))] := hl
  show W p l e rm_X5_isTown s m _ below meth c s.heap [] 0 0 _ (F0 m 0 ls [])
  rw [J_X5_isTown] at h
  refine lv_aload_n hx hb dX5_isTown_0 rfl (lv_at hl 0 rfl) ?_
  refine jcV_i (k := x0) (As := []) (rest := []) C0 w (c_X5_readable hG hx0 h) (cwV 0 hts gX5_isTown_X5_readable rfl rfl rfl (by decide +kernel) ⟨Nat.le_of_ble_eq_true rfl, Nat.le_of_ble_eq_true rfl⟩) hx0 (rfl : vwCl[5]? = some (RX5, TX5, 5)) (by decide) rfl hl.1 rfl (Nat.le_of_ble_eq_true rfl) dX5_isTown_1 (fun q1 i1 j1 H locs h w => ?_) ⟨Nat.zero_le _, Nat.zero_le _⟩
  refine lv_aload_n hx hb dX5_isTown_4 rfl (lv_at hl 0 rfl) ?_
  refine jgi (f := 1) hx hb hts hown hst w hx0 hiX5 (rfl : vwCl[5]? = some (RX5, TX5, 5)) (hts (.fieldLink RX5 21 "FootByGate$Page" "length" "I") (by decide +kernel)) ⟨by decide, by decide, rfl⟩ dX5_isTown_5 ?_
  refine lv_icmp_ne (tgt := 40) hx hb dX5_isTown_8 (by decide) (fun hc => ?_) (fun hc => ?_)
  · replace h := h.1 hc
    clear hc
    exact w_X5_isTown_L40 C0 hr hlk w (lv_sub hl [] rfl) h
  · replace h := h.2 hc
    clear hc
    refine lv_aload_n hx hb dX5_isTown_11 rfl (lv_at hl 0 rfl) ?_
    refine jgi (f := 2) hx hb hts hown hst w hx0 hiX5 (rfl : vwCl[5]? = some (RX5, TX5, 5)) (hts (.fieldLink RX5 25 "FootByGate$Page" "phase" "I") (by decide +kernel)) ⟨by decide, by decide, rfl⟩ dX5_isTown_12 ?_
    refine lv_iconst (v := (3 : Int32)) hx hb dX5_isTown_15 (by decide) ?_
    refine lv_icmp_eq (tgt := 36) hx hb dX5_isTown_16 (by decide) (fun hc => ?_) (fun hc => ?_)
    · replace h := h.1 hc
      clear hc
      exact w_X5_isTown_L36 C0 hr hlk w (lv_sub hl [] rfl) h
    · replace h := h.2 hc
      clear hc
      refine lv_aload_n hx hb dX5_isTown_19 rfl (lv_at hl 0 rfl) ?_
      refine jgi (f := 2) hx hb hts hown hst w hx0 hiX5 (rfl : vwCl[5]? = some (RX5, TX5, 5)) (hts (.fieldLink RX5 25 "FootByGate$Page" "phase" "I") (by decide +kernel)) ⟨by decide, by decide, rfl⟩ dX5_isTown_20 ?_
      refine lv_iconst (v := (4 : Int32)) hx hb dX5_isTown_23 (by decide) ?_
      refine lv_icmp_eq (tgt := 36) hx hb dX5_isTown_24 (by decide) (fun hc => ?_) (fun hc => ?_)
      · replace h := h.1 hc
        clear hc
        exact w_X5_isTown_L36 C0 hr hlk w (lv_sub hl [] rfl) h
      · replace h := h.2 hc
        clear hc
        refine lv_aload_n hx hb dX5_isTown_27 rfl (lv_at hl 0 rfl) ?_
        refine jgi (f := 2) hx hb hts hown hst w hx0 hiX5 (rfl : vwCl[5]? = some (RX5, TX5, 5)) (hts (.fieldLink RX5 25 "FootByGate$Page" "phase" "I") (by decide +kernel)) ⟨by decide, by decide, rfl⟩ dX5_isTown_28 ?_
        refine lv_bipush (v := (6 : Int32)) hx hb dX5_isTown_31 (by decide) ?_
        refine lv_icmp_ne (tgt := 40) hx hb dX5_isTown_33 (by decide) (fun hc => ?_) (fun hc => ?_)
        · replace h := h.1 hc
          clear hc
          exact w_X5_isTown_L40 C0 hr hlk w (lv_sub hl [] rfl) h
        · replace h := h.2 hc
          clear hc
          exact w_X5_isTown_L36 C0 hr hlk w (lv_sub hl [] rfl) h
end S_X5_isTown
section S_X5_lettersIn
def J_X5_lettersIn_L34 (len : Nat → Nat) (r : jR) (Q : Int32 → jI → jL → Prop) (i : jI) (j : jL) : Prop := Q (-1 : Int32) i j
def J_X5_lettersIn_L44 (len : Nat → Nat) (r : jR) (Q : Int32 → jI → jL → Prop) (Hd4 : jI → jL → Int64 → Int32 → Int32 → Prop) (i : jI) (j : jL) (x0 : Int64) (x2 : Int32) (x3 : Int32) : Prop := ∀ v44 : Int32, v44 = x3 + (1 : Int32) → (Hd4 i j x0 x2 v44)
def J_X5_lettersIn_L36 (len : Nat → Nat) (r : jR) (Q : Int32 → jI → jL → Prop) (Hd4 : jI → jL → Int64 → Int32 → Int32 → Prop) (i : jI) (j : jL) (x0 : Int64) (x2 : Int32) (x3 : Int32) (x4 : Int32) : Prop := ((x4 = 0) → (J_X5_lettersIn_L44 len r Q Hd4 i j x0 x2 x3)) ∧ ((¬ x4 = 0) → (∀ v41 : Int32, v41 = x2 + (1 : Int32) → (J_X5_lettersIn_L44 len r Q Hd4 i j x0 v41 x3)))
def J_X5_lettersIn_L4 (len : Nat → Nat) (r : jR) (Q : Int32 → jI → jL → Prop) : Nat → jI → jL → Int64 → Int32 → Int32 → Prop
  | 0 => fun _ _ _ _ _ => False
  | g + 1 => fun i j x0 x2 x3 => (((8 : Int32) ≤ x3) → (Q x2 i j)) ∧ ((¬ (8 : Int32) ≤ x3) → (J_X5_codeIn len r (fun (q12 : Int32) (i12 : jI) (j12 : jL) => (((126 : Int32) < q12) → (J_X5_lettersIn_L34 len r Q i12 j12 )) ∧ ((¬ (126 : Int32) < q12) → (((q12 = 0) → (J_X5_lettersIn_L36 len r Q (J_X5_lettersIn_L4 len r Q g) i12 j12 x0 x2 x3 q12)) ∧ ((¬ q12 = 0) → (((x3 ≤ x2) → (J_X5_lettersIn_L36 len r Q (J_X5_lettersIn_L4 len r Q g) i12 j12 x0 x2 x3 q12)) ∧ ((¬ x3 ≤ x2) → (J_X5_lettersIn_L34 len r Q i12 j12 ))))))) i j x0 x3))
def J_X5_lettersIn (len : Nat → Nat) (r : jR) (Q : Int32 → jI → jL → Prop) (i : jI) (j : jL) (x0 : Int64) : Prop := ∃ g0, J_X5_lettersIn_L4 len r Q g0 i j x0 (0 : Int32) (0 : Int32)
abbrev rm_X5_lettersIn : Room := { frames := 1, cells := 0, slots := 0, locals := 22 }
variable {p : Program} {l : Launch} {e : Env} {s : State} {m : MethodId} {args : Array Value} {below : List Frame} {meth : Method} {c : Code} {b tU n : Nat} {cy : Nat → ClassId} {D : va_G} {K len : Nat → Nat} {r : jR} {Q : Int32 → jI → jL → Prop}
set_option maxHeartbeats 4000000 in
set_option maxRecDepth 100000 in
theorem w_X5_lettersIn_L34 (C0 : jCx p s m args c cX5_lettersIn 5 wsX5_lettersIn RX5 b cy D tU n K r) (hr : meth.sig.returnType = some .int) (hlk : meth.locks = false) {H : Heap} {locs : List Loc} {ls : Array Slot} {i : jI} {j : jL}  (w : jDy b cy D n K len r i j s H locs) (hl : lv_has ls 5 []) (h : J_X5_lettersIn_L34 len r Q i j) : W p l e rm_X5_lettersIn s m args below meth c H locs 0 0 (MQ below (jQi b cy D tU n K len r Q) args s 0 0 (jA b)) (F0 m 34 ls []) := by
  obtain ⟨hx, hb, hml, hown, hts, hst, hG⟩ := id C0
  rw [J_X5_lettersIn_L34] at h
  refine lv_iconst (v := (-1 : Int32)) hx hb dX5_lettersIn_34 (by decide) ?_
  exact jret_i hx hb hr hlk hst w h dX5_lettersIn_35
set_option maxHeartbeats 4000000 in
set_option maxRecDepth 100000 in
theorem w_X5_lettersIn_L44 (C0 : jCx p s m args c cX5_lettersIn 5 wsX5_lettersIn RX5 b cy D tU n K r) (hr : meth.sig.returnType = some .int) (hlk : meth.locks = false) {Hd4 : jI → jL → Int64 → Int32 → Int32 → Prop} (k4 : ∀ {H : Heap} {locs : List Loc} {ls : Array Slot} {i : jI} {j : jL} {x0 : Int64} {x2 : Int32} {x3 : Int32} (w : jDy b cy D n K len r i j s H locs) (hl : lv_has ls 5 [(0, .long x0), (2, .int x2), (3, .int x3)]) (h : Hd4 i j x0 x2 x3), W p l e rm_X5_lettersIn s m args below meth c H locs 0 0 (MQ below (jQi b cy D tU n K len r Q) args s 0 0 (jA b)) (F0 m 4 ls [])) {H : Heap} {locs : List Loc} {ls : Array Slot} {i : jI} {j : jL} {x0 : Int64} {x2 : Int32} {x3 : Int32} (w : jDy b cy D n K len r i j s H locs) (hl : lv_has ls 5 [(0, .long x0), (2, .int x2), (3, .int x3)]) (h : J_X5_lettersIn_L44 len r Q Hd4 i j x0 x2 x3) : W p l e rm_X5_lettersIn s m args below meth c H locs 0 0 (MQ below (jQi b cy D tU n K len r Q) args s 0 0 (jA b)) (F0 m 44 ls []) := by
  obtain ⟨hx, hb, hml, hown, hts, hst, hG⟩ := id C0
  rw [J_X5_lettersIn_L44] at h
  obtain ⟨v44, he⟩ : ∃ z : Int32, z = x3 + (1 : Int32) := ⟨_, rfl⟩
  replace h := h v44 he
  refine lv_iinc (v := v44) (lv' := [(3, .int v44), (0, .long x0), (2, .int x2)]) hx hb dX5_lettersIn_44 hl (k := 2) rfl (by rw [he]; rfl) (by decide) rfl (fun ls hl => ?_)
  clear he
  refine lv_goto (tgt := 4) hx hb dX5_lettersIn_47 (by decide) ?_
  exact k4 w (lv_sub hl [1, 2, 0] rfl) h
set_option maxHeartbeats 4000000 in
set_option maxRecDepth 100000 in
theorem w_X5_lettersIn_L36 (C0 : jCx p s m args c cX5_lettersIn 5 wsX5_lettersIn RX5 b cy D tU n K r) (hr : meth.sig.returnType = some .int) (hlk : meth.locks = false) {Hd4 : jI → jL → Int64 → Int32 → Int32 → Prop} (k4 : ∀ {H : Heap} {locs : List Loc} {ls : Array Slot} {i : jI} {j : jL} {x0 : Int64} {x2 : Int32} {x3 : Int32} (w : jDy b cy D n K len r i j s H locs) (hl : lv_has ls 5 [(0, .long x0), (2, .int x2), (3, .int x3)]) (h : Hd4 i j x0 x2 x3), W p l e rm_X5_lettersIn s m args below meth c H locs 0 0 (MQ below (jQi b cy D tU n K len r Q) args s 0 0 (jA b)) (F0 m 4 ls [])) {H : Heap} {locs : List Loc} {ls : Array Slot} {i : jI} {j : jL} {x0 : Int64} {x2 : Int32} {x3 : Int32} {x4 : Int32} (w : jDy b cy D n K len r i j s H locs) (hl : lv_has ls 5 [(0, .long x0), (2, .int x2), (3, .int x3), (4, .int x4)]) (h : J_X5_lettersIn_L36 len r Q Hd4 i j x0 x2 x3 x4) : W p l e rm_X5_lettersIn s m args below meth c H locs 0 0 (MQ below (jQi b cy D tU n K len r Q) args s 0 0 (jA b)) (F0 m 36 ls []) := by
  obtain ⟨hx, hb, hml, hown, hts, hst, hG⟩ := id C0
  rw [J_X5_lettersIn_L36] at h
  refine lv_iload hx hb dX5_lettersIn_36 (lv_at hl 3 rfl) ?_
  refine lv_if_eq (tgt := 44) hx hb dX5_lettersIn_38 (by decide) (fun hc => ?_) (fun hc => ?_)
  · replace h := h.1 hc
    clear hc
    exact w_X5_lettersIn_L44 C0 hr hlk (fun w hl h => k4 w hl h) w (lv_sub hl [0, 1, 2] rfl) h
  · replace h := h.2 hc
    clear hc
    obtain ⟨v41, he⟩ : ∃ z : Int32, z = x2 + (1 : Int32) := ⟨_, rfl⟩
    replace h := h v41 he
    refine lv_iinc (v := v41) (lv' := [(2, .int v41), (0, .long x0), (3, .int x3), (4, .int x4)]) hx hb dX5_lettersIn_41 hl (k := 1) rfl (by rw [he]; rfl) (by decide) rfl (fun ls hl => ?_)
    clear he
    exact w_X5_lettersIn_L44 C0 hr hlk (fun w hl h => k4 w hl h) w (lv_sub hl [1, 0, 2] rfl) h
set_option maxHeartbeats 4000000 in
set_option maxRecDepth 100000 in
theorem w_X5_lettersIn_L4 (C0 : jCx p s m args c cX5_lettersIn 5 wsX5_lettersIn RX5 b cy D tU n K r) (hr : meth.sig.returnType = some .int) (hlk : meth.locks = false) : ∀ (g : Nat) {H : Heap} {locs : List Loc} {ls : Array Slot} {i : jI} {j : jL} {x0 : Int64} {x2 : Int32} {x3 : Int32} (w : jDy b cy D n K len r i j s H locs) (hl : lv_has ls 5 [(0, .long x0), (2, .int x2), (3, .int x3)]) (h : J_X5_lettersIn_L4 len r Q g i j x0 x2 x3), W p l e rm_X5_lettersIn s m args below meth c H locs 0 0 (MQ below (jQi b cy D tU n K len r Q) args s 0 0 (jA b)) (F0 m 4 ls []) := by
  obtain ⟨hx, hb, hml, hown, hts, hst, hG⟩ := id C0
  intro g
  induction g with
  | zero => intro H locs ls i j x0 x2 x3 w hl h; exact False.elim h
  | succ g ih =>
    intro H locs ls i j x0 x2 x3 w hl h
    rw [J_X5_lettersIn_L4] at h
    refine lv_iload_n hx hb dX5_lettersIn_4 rfl (lv_at hl 2 rfl) ?_
    refine lv_bipush (v := (8 : Int32)) hx hb dX5_lettersIn_5 (by decide) ?_
    refine lv_icmp_ge (tgt := 50) hx hb dX5_lettersIn_7 (by decide) (fun hc => ?_) (fun hc => ?_)
    · replace h := h.1 hc
      clear hc
      refine lv_iload_n hx hb dX5_lettersIn_50 rfl (lv_at hl 1 rfl) ?_
      exact jret_i hx hb hr hlk hst w h dX5_lettersIn_51
    · replace h := h.2 hc
      clear hc
      refine lv_lload_n hx hb dX5_lettersIn_10 rfl (lv_at hl 0 rfl) ?_
      refine lv_iload_n hx hb dX5_lettersIn_11 rfl (lv_at hl 2 rfl) ?_
      refine jcS_i (As := [.long x0, .int x3]) (rest := []) C0 w (c_X5_codeIn hG h) (va_cwS 2 hts gX5_lettersIn_X5_codeIn rfl rfl rfl (by decide +kernel) ⟨Nat.le_of_ble_eq_true rfl, Nat.le_of_ble_eq_true rfl⟩) rfl hl.1 rfl (Nat.le_of_ble_eq_true rfl) dX5_lettersIn_12 (fun q12 i12 j12 H locs h w => ?_) ⟨Nat.zero_le _, Nat.zero_le _⟩
      refine lv_istore (lv' := [(4, .int q12), (0, .long x0), (2, .int x2), (3, .int x3)]) hx hb dX5_lettersIn_15 hl (by decide) rfl (fun ls hl => ?_)
      refine lv_iload hx hb dX5_lettersIn_17 (lv_at hl 0 rfl) ?_
      refine lv_bipush (v := (126 : Int32)) hx hb dX5_lettersIn_19 (by decide) ?_
      refine lv_icmp_gt (tgt := 34) hx hb dX5_lettersIn_21 (by decide) (fun hc => ?_) (fun hc => ?_)
      · replace h := h.1 hc
        clear hc
        exact w_X5_lettersIn_L34 C0 hr hlk w (lv_sub hl [] rfl) h
      · replace h := h.2 hc
        clear hc
        refine lv_iload hx hb dX5_lettersIn_24 (lv_at hl 0 rfl) ?_
        refine lv_if_eq (tgt := 36) hx hb dX5_lettersIn_26 (by decide) (fun hc => ?_) (fun hc => ?_)
        · replace h := h.1 hc
          clear hc
          exact w_X5_lettersIn_L36 C0 hr hlk (fun w hl h => ih w hl h) w (lv_sub hl [1, 2, 3, 0] rfl) h
        · replace h := h.2 hc
          clear hc
          refine lv_iload_n hx hb dX5_lettersIn_29 rfl (lv_at hl 2 rfl) ?_
          refine lv_iload_n hx hb dX5_lettersIn_30 rfl (lv_at hl 3 rfl) ?_
          refine lv_icmp_ge (tgt := 36) hx hb dX5_lettersIn_31 (by decide) (fun hc => ?_) (fun hc => ?_)
          · replace h := h.1 hc
            clear hc
            exact w_X5_lettersIn_L36 C0 hr hlk (fun w hl h => ih w hl h) w (lv_sub hl [1, 2, 3, 0] rfl) h
          · replace h := h.2 hc
            clear hc
            exact w_X5_lettersIn_L34 C0 hr hlk w (lv_sub hl [] rfl) h
set_option maxHeartbeats 4000000 in
set_option maxRecDepth 100000 in
theorem c_X5_lettersIn (hG : jG n K r) {i : jI} {j : jL} {x0 : Int64} (h : J_X5_lettersIn len r Q i j x0) : Met l yX5_lettersIn wsX5_lettersIn rm_X5_lettersIn (va_Pc [.long x0] (jPre b cy D tU n K len r i j)) (jQi b cy D tU n K len r Q) 0 0 (jA b) := by
  refine Met.ofW (cc := cX5_lettersIn) (maxL := 5) (ret := (some .int)) (by decide) rfl ?_
  intro p e s m args below meth c s₁ B hml hv
  obtain ⟨rfl, hv⟩ := hv
  have C0 : jCx p s m _ c cX5_lettersIn 5 wsX5_lettersIn RX5 b cy D tU n K r := ⟨B.exec, B.bytes, hml, findClass_of_methodNamed B.named, atoms_spec (ws := wsX5_lettersIn) B.pre, hv.2.2, hG⟩
  have hr := B.returns
  have hlk := B.notSynchronized
  obtain ⟨hx, hb, hml, hown, hts, hst, hG⟩ := id C0
  have w := jDy.start hv
  have hl := lv_entry ([.long x0]) (n := 5) (Nat.le_of_ble_eq_true rfl)
  rw [lg_entry_eq]
  generalize (lg_sl ([.long x0]) ++ List.replicate (5 - (lg_sl ([.long x0])).length) Slot.unset).toArray = ls at hl ⊢
  replace hl : lv_has ls 5 [(0, .long x0)] := hl
  show W p l e rm_X5_lettersIn s m _ below meth c s.heap [] 0 0 _ (F0 m 0 ls [])
  rw [J_X5_lettersIn] at h
  refine lv_iconst (v := (0 : Int32)) hx hb dX5_lettersIn_0 (by decide) ?_
  refine lv_istore_n (lv' := [(2, .int (0 : Int32)), (0, .long x0)]) hx hb dX5_lettersIn_1 rfl hl (by decide) rfl (fun ls hl => ?_)
  refine lv_iconst (v := (0 : Int32)) hx hb dX5_lettersIn_2 (by decide) ?_
  refine lv_istore_n (lv' := [(3, .int (0 : Int32)), (2, .int (0 : Int32)), (0, .long x0)]) hx hb dX5_lettersIn_3 rfl hl (by decide) rfl (fun ls hl => ?_)
  obtain ⟨g0, h⟩ := h
  exact w_X5_lettersIn_L4 C0 hr hlk g0 w (lv_sub hl [2, 1, 0] rfl) h
end S_X5_lettersIn
section S_X6_cameIn
def J_X6_cameIn (len : Nat → Nat) (r : jR) (Q : Int64 → jI → jL → Prop) (i : jI) (j : jL) (x0 : Int64) (x2 : Int32) (x3 : Int32) : Prop := ((¬ x2 = (-1 : Int32)) → (∀ v12 : Int32, v12 = (1 : Int32) <<< (((2 : Int32) * x2) &&& 31) → (vp_in x2 3 ∧ (∀ v33 : Int64, v33 = ((x0 ||| ((x0.toUInt64 >>> (v12.toInt64.toUInt64 &&& Int64.toUInt64 63)).toInt64)) ||| ((x0.toUInt64 >>> (((2 : Int32) * v12).toInt64.toUInt64 &&& Int64.toUInt64 63)).toInt64)) &&& (if (x2).toNatClampNeg = 0 then (1229782938247303441 : Int64) else if (x2).toNatClampNeg = 1 then (4222189076152335 : Int64) else (65535 : Int64)) → (Q (v33 <<< ((v12 * (x3 + (1 : Int32))).toInt64 &&& 63)) i j))))) ∧ ((x2 = (-1 : Int32)) → (Q x0 i j))
abbrev rm_X6_cameIn : Room := { frames := 0, cells := 0, slots := 0, locals := 0 }
variable {p : Program} {l : Launch} {e : Env} {s : State} {m : MethodId} {args : Array Value} {below : List Frame} {meth : Method} {c : Code} {b tU n : Nat} {cy : Nat → ClassId} {D : va_G} {K len : Nat → Nat} {r : jR} {Q : Int64 → jI → jL → Prop}
set_option maxHeartbeats 4000000 in
set_option maxRecDepth 100000 in
theorem c_X6_cameIn (hG : jG n K r) {i : jI} {j : jL} {x0 : Int64} {x2 : Int32} {x3 : Int32} (h : J_X6_cameIn len r Q i j x0 x2 x3) : Met l yX6_cameIn wsX6_cameIn rm_X6_cameIn (va_Pc [.long x0, .int x2, .int x3] (jPre b cy D tU n K len r i j)) (jQl b cy D tU n K len r Q) 0 0 (jA b) := by
  refine Met.ofW (cc := cX6_cameIn) (maxL := 7) (ret := (some .long)) (by decide) rfl ?_
  intro p e s m args below meth c s₁ B hml hv
  obtain ⟨rfl, hv⟩ := hv
  have C0 : jCx p s m _ c cX6_cameIn 7 wsX6_cameIn RX6 b cy D tU n K r := ⟨B.exec, B.bytes, hml, findClass_of_methodNamed B.named, atoms_spec (ws := wsX6_cameIn) B.pre, hv.2.2, hG⟩
  have hr := B.returns
  have hlk := B.notSynchronized
  obtain ⟨hx, hb, hml, hown, hts, hst, hG⟩ := id C0
  have w := jDy.start hv
  have hl := lv_entry ([.long x0, .int x2, .int x3]) (n := 7) (Nat.le_of_ble_eq_true rfl)
  rw [lg_entry_eq]
  generalize (lg_sl ([.long x0, .int x2, .int x3]) ++ List.replicate (7 - (lg_sl ([.long x0, .int x2, .int x3])).length) Slot.unset).toArray = ls at hl ⊢
  replace hl : lv_has ls 7 [(0, .long x0), (2, .int x2), (3, .int x3)] := hl
  show W p l e rm_X6_cameIn s m _ below meth c s.heap [] 0 0 _ (F0 m 0 ls [])
  rw [J_X6_cameIn] at h
  refine lv_iload_n hx hb dX6_cameIn_0 rfl (lv_at hl 1 rfl) ?_
  refine lv_iconst (v := (-1 : Int32)) hx hb dX6_cameIn_1 (by decide) ?_
  refine lv_icmp_ne (tgt := 7) hx hb dX6_cameIn_2 (by decide) (fun hc => ?_) (fun hc => ?_)
  · replace h := h.1 hc
    clear hc
    refine lv_iconst (v := (1 : Int32)) hx hb dX6_cameIn_7 (by decide) ?_
    refine lv_iconst (v := (2 : Int32)) hx hb dX6_cameIn_8 (by decide) ?_
    refine lv_iload_n hx hb dX6_cameIn_9 rfl (lv_at hl 1 rfl) ?_
    refine lv_imul hx hb dX6_cameIn_10 ?_
    refine lv_ishl hx hb dX6_cameIn_11 ?_
    refine lv_topi (fun v12 he => ?_)
    replace h := h v12 he
    clear he
    refine lv_istore (lv' := [(4, .int v12), (0, .long x0), (2, .int x2), (3, .int x3)]) hx hb dX6_cameIn_12 hl (by decide) rfl (fun ls hl => ?_)
    refine lv_lload_n hx hb dX6_cameIn_14 rfl (lv_at hl 1 rfl) ?_
    refine lv_lload_n hx hb dX6_cameIn_15 rfl (lv_at hl 1 rfl) ?_
    refine lv_iload hx hb dX6_cameIn_16 (lv_at hl 0 rfl) ?_
    refine lv_lushr hx hb dX6_cameIn_18 rfl ?_
    refine lv_lor hx hb dX6_cameIn_19 ?_
    refine lv_lload_n hx hb dX6_cameIn_20 rfl (lv_at hl 1 rfl) ?_
    refine lv_iconst (v := (2 : Int32)) hx hb dX6_cameIn_21 (by decide) ?_
    refine lv_iload hx hb dX6_cameIn_22 (lv_at hl 0 rfl) ?_
    refine lv_imul hx hb dX6_cameIn_24 ?_
    refine lv_lushr hx hb dX6_cameIn_25 rfl ?_
    refine lv_lor hx hb dX6_cameIn_26 ?_
    refine jgU hx hb hown hst w (hts (.fieldLink RX6 79 "FootByGate$Reach" "UNMARKED" "[J") (by decide +kernel)) dX6_cameIn_27 ?_
    refine lv_iload_n hx hb dX6_cameIn_30 rfl (lv_at hl 2 rfl) ?_
    obtain ⟨hn, h⟩ := h
    refine jlU hx hb hst w hn dX6_cameIn_31 ?_
    clear hn
    refine lv_land hx hb dX6_cameIn_32 ?_
    refine lv_topl (fun v33 he => ?_)
    replace h := h v33 he
    clear he
    refine lv_lstore (lv' := [(5, .long v33), (4, .int v12), (0, .long x0), (2, .int x2), (3, .int x3)]) hx hb dX6_cameIn_33 hl (by decide) rfl (fun ls hl => ?_)
    refine lv_lload hx hb dX6_cameIn_35 (lv_at hl 0 rfl) ?_
    refine lv_iload hx hb dX6_cameIn_37 (lv_at hl 1 rfl) ?_
    refine lv_iload_n hx hb dX6_cameIn_39 rfl (lv_at hl 4 rfl) ?_
    refine lv_iconst (v := (1 : Int32)) hx hb dX6_cameIn_40 (by decide) ?_
    refine lv_iadd hx hb dX6_cameIn_41 ?_
    refine lv_imul hx hb dX6_cameIn_42 ?_
    refine lv_lshl hx hb dX6_cameIn_43 rfl ?_
    exact jret_l hx hb hr hlk hst w h dX6_cameIn_44
  · replace h := h.2 hc
    clear hc
    refine lv_lload_n hx hb dX6_cameIn_5 rfl (lv_at hl 0 rfl) ?_
    exact jret_l hx hb hr hlk hst w h dX6_cameIn_6
end S_X6_cameIn
section S_X6_hasStand
def J_X6_hasStand (len : Nat → Nat) (r : jR) (Q : Int32 → jI → jL → Prop) (i : jI) (j : jL) (x0 : Nat) (x1 : Int32) (x2 : Int32) : Prop := ∃ a1, r x0 0 = some a1 ∧ (vp_in ((x1 * (2 : Int32)) + x2) (len a1) ∧ ((((lg_cmp (j a1 ((x1 * (2 : Int32)) + x2).toNatClampNeg) (0 : Int64)) = 0) → (Q (0 : Int32) i j)) ∧ ((¬ (lg_cmp (j a1 ((x1 * (2 : Int32)) + x2).toNatClampNeg) (0 : Int64)) = 0) → (Q (1 : Int32) i j))))
abbrev rm_X6_hasStand : Room := { frames := 0, cells := 0, slots := 0, locals := 0 }
variable {p : Program} {l : Launch} {e : Env} {s : State} {m : MethodId} {args : Array Value} {below : List Frame} {meth : Method} {c : Code} {b tU n : Nat} {cy : Nat → ClassId} {D : va_G} {K len : Nat → Nat} {r : jR} {Q : Int32 → jI → jL → Prop}
theorem hiX6_X6_hasStand : ∀ w ∈ u_ws RX6 TX6 2, w ∈ wsX6_hasStand := by decide +kernel
set_option maxHeartbeats 4000000 in
set_option maxRecDepth 100000 in
theorem c_X6_hasStand (hG : jG n K r) {i : jI} {j : jL} {x0 : Nat} {x1 : Int32} {x2 : Int32} (hx0 : x0 < n ∧ K x0 = 6) (h : J_X6_hasStand len r Q i j x0 x1 x2) : Met l yX6_hasStand wsX6_hasStand rm_X6_hasStand (va_Pc [.ref (b + x0), .int x1, .int x2] (jPre b cy D tU n K len r i j)) (jQi b cy D tU n K len r Q) 0 0 (jA b) := by
  refine Met.ofW (cc := cX6_hasStand) (maxL := 3) (ret := (some .boolean)) (by decide) rfl ?_
  intro p e s m args below meth c s₁ B hml hv
  obtain ⟨rfl, hv⟩ := hv
  have C0 : jCx p s m _ c cX6_hasStand 3 wsX6_hasStand RX6 b cy D tU n K r := ⟨B.exec, B.bytes, hml, findClass_of_methodNamed B.named, atoms_spec (ws := wsX6_hasStand) B.pre, hv.2.2, hG⟩
  have hr := B.returns
  have hlk := B.notSynchronized
  obtain ⟨hx, hb, hml, hown, hts, hst, hG⟩ := id C0
  have hiX6 : ∀ w ∈ u_ws RX6 TX6 2, w ∈ wsX6_hasStand := hiX6_X6_hasStand
  have w := jDy.start hv
  have hl := lv_entry ([.ref (b + x0), .int x1, .int x2]) (n := 3) (Nat.le_of_ble_eq_true rfl)
  rw [lg_entry_eq]
  generalize (lg_sl ([.ref (b + x0), .int x1, .int x2]) ++ List.replicate (3 - (lg_sl ([.ref (b + x0), .int x1, .int x2])).length) Slot.unset).toArray = ls at hl ⊢
  replace hl : lv_has ls 3 [(0, .ref (b + x0)), (1, .int x1), (2, .int x2)] := hl
  show W p l e rm_X6_hasStand s m _ below meth c s.heap [] 0 0 _ (F0 m 0 ls [])
  rw [J_X6_hasStand] at h
  refine lv_aload_n hx hb dX6_hasStand_0 rfl (lv_at hl 0 rfl) ?_
  obtain ⟨a1, hr0, h⟩ := h
  refine jgr (f := 0) hx hb hts hown hst w hG hx0 hiX6 (rfl : vwCl[6]? = some (RX6, TX6, 2)) (hts (.fieldLink RX6 9 "FootByGate$Reach" "marks" "[J") (by decide +kernel)) ⟨by decide, by decide, rfl⟩ (rfl : jrt 6 0 = 14) dX6_hasStand_1 hr0 (fun ha1 => ?_)
  clear hr0
  refine lv_iload_n hx hb dX6_hasStand_4 rfl (lv_at hl 1 rfl) ?_
  refine lv_iconst (v := (2 : Int32)) hx hb dX6_hasStand_5 (by decide) ?_
  refine lv_imul hx hb dX6_hasStand_6 ?_
  refine lv_iload_n hx hb dX6_hasStand_7 rfl (lv_at hl 2 rfl) ?_
  refine lv_iadd hx hb dX6_hasStand_8 ?_
  obtain ⟨hn, h⟩ := h
  refine jald hx hb hst w ha1 hn dX6_hasStand_9 ?_
  clear hn
  refine lv_lconst (v := (0 : Int64)) hx hb dX6_hasStand_10 (by decide) ?_
  refine W.lcmp hx hb dX6_hasStand_11 ?_
  refine lv_if_eq (tgt := 19) hx hb dX6_hasStand_12 (by decide) (fun hc => ?_) (fun hc => ?_)
  · replace h := h.1 hc
    clear hc
    refine lv_iconst (v := (0 : Int32)) hx hb dX6_hasStand_19 (by decide) ?_
    exact jret_z hx hb hr hlk hst w (by decide) h dX6_hasStand_20
  · replace h := h.2 hc
    clear hc
    refine lv_iconst (v := (1 : Int32)) hx hb dX6_hasStand_15 (by decide) ?_
    refine lv_goto (tgt := 20) hx hb dX6_hasStand_16 (by decide) ?_
    exact jret_z hx hb hr hlk hst w (by decide) h dX6_hasStand_20
end S_X6_hasStand
section S_X6_hasPlace
def J_X6_hasPlace_L18 (len : Nat → Nat) (r : jR) (Q : Int32 → jI → jL → Prop) (i : jI) (j : jL) : Prop := Q (1 : Int32) i j
def J_X6_hasPlace (len : Nat → Nat) (r : jR) (Q : Int32 → jI → jL → Prop) (i : jI) (j : jL) (x0 : Nat) (x1 : Int32) : Prop := J_X6_hasStand len r (fun (q3 : Int32) (i3 : jI) (j3 : jL) => ((¬ q3 = 0) → (J_X6_hasPlace_L18 len r Q i3 j3 )) ∧ ((q3 = 0) → (J_X6_hasStand len r (fun (q12 : Int32) (i12 : jI) (j12 : jL) => ((q12 = 0) → (Q (0 : Int32) i12 j12)) ∧ ((¬ q12 = 0) → (J_X6_hasPlace_L18 len r Q i12 j12 ))) i3 j3 x0 x1 (1 : Int32)))) i j x0 x1 (0 : Int32)
abbrev rm_X6_hasPlace : Room := { frames := 1, cells := 0, slots := 0, locals := 22 }
variable {p : Program} {l : Launch} {e : Env} {s : State} {m : MethodId} {args : Array Value} {below : List Frame} {meth : Method} {c : Code} {b tU n : Nat} {cy : Nat → ClassId} {D : va_G} {K len : Nat → Nat} {r : jR} {Q : Int32 → jI → jL → Prop}
set_option maxHeartbeats 4000000 in
set_option maxRecDepth 100000 in
theorem w_X6_hasPlace_L18 (C0 : jCx p s m args c cX6_hasPlace 2 wsX6_hasPlace RX6 b cy D tU n K r) (hr : meth.sig.returnType = some .boolean) (hlk : meth.locks = false) {H : Heap} {locs : List Loc} {ls : Array Slot} {i : jI} {j : jL}  (w : jDy b cy D n K len r i j s H locs) (hl : lv_has ls 2 []) (h : J_X6_hasPlace_L18 len r Q i j) : W p l e rm_X6_hasPlace s m args below meth c H locs 0 0 (MQ below (jQi b cy D tU n K len r Q) args s 0 0 (jA b)) (F0 m 18 ls []) := by
  obtain ⟨hx, hb, hml, hown, hts, hst, hG⟩ := id C0
  rw [J_X6_hasPlace_L18] at h
  refine lv_iconst (v := (1 : Int32)) hx hb dX6_hasPlace_18 (by decide) ?_
  refine lv_goto (tgt := 23) hx hb dX6_hasPlace_19 (by decide) ?_
  exact jret_z hx hb hr hlk hst w (by decide) h dX6_hasPlace_23
set_option maxHeartbeats 4000000 in
set_option maxRecDepth 100000 in
theorem c_X6_hasPlace (hG : jG n K r) {i : jI} {j : jL} {x0 : Nat} {x1 : Int32} (hx0 : x0 < n ∧ K x0 = 6) (h : J_X6_hasPlace len r Q i j x0 x1) : Met l yX6_hasPlace wsX6_hasPlace rm_X6_hasPlace (va_Pc [.ref (b + x0), .int x1] (jPre b cy D tU n K len r i j)) (jQi b cy D tU n K len r Q) 0 0 (jA b) := by
  refine Met.ofW (cc := cX6_hasPlace) (maxL := 2) (ret := (some .boolean)) (by decide) rfl ?_
  intro p e s m args below meth c s₁ B hml hv
  obtain ⟨rfl, hv⟩ := hv
  have C0 : jCx p s m _ c cX6_hasPlace 2 wsX6_hasPlace RX6 b cy D tU n K r := ⟨B.exec, B.bytes, hml, findClass_of_methodNamed B.named, atoms_spec (ws := wsX6_hasPlace) B.pre, hv.2.2, hG⟩
  have hr := B.returns
  have hlk := B.notSynchronized
  obtain ⟨hx, hb, hml, hown, hts, hst, hG⟩ := id C0
  have w := jDy.start hv
  have hl := lv_entry ([.ref (b + x0), .int x1]) (n := 2) (Nat.le_of_ble_eq_true rfl)
  rw [lg_entry_eq]
  generalize (lg_sl ([.ref (b + x0), .int x1]) ++ List.replicate (2 - (lg_sl ([.ref (b + x0), .int x1])).length) Slot.unset).toArray = ls at hl ⊢
  replace hl : lv_has ls 2 [(0, .ref (b + x0)), (1, .int x1)] := hl
  show W p l e rm_X6_hasPlace s m _ below meth c s.heap [] 0 0 _ (F0 m 0 ls [])
  rw [J_X6_hasPlace] at h
  refine lv_aload_n hx hb dX6_hasPlace_0 rfl (lv_at hl 0 rfl) ?_
  refine lv_iload_n hx hb dX6_hasPlace_1 rfl (lv_at hl 1 rfl) ?_
  refine lv_iconst (v := (0 : Int32)) hx hb dX6_hasPlace_2 (by decide) ?_
  refine jcV_i (k := x0) (As := [.int x1, .int (0 : Int32)]) (rest := []) C0 w (c_X6_hasStand hG hx0 h) (cwV 2 hts gX6_hasPlace_X6_hasStand rfl rfl rfl (by decide +kernel) ⟨Nat.le_of_ble_eq_true rfl, Nat.le_of_ble_eq_true rfl⟩) hx0 (rfl : vwCl[6]? = some (RX6, TX6, 2)) (by decide) rfl hl.1 rfl (Nat.le_of_ble_eq_true rfl) dX6_hasPlace_3 (fun q3 i3 j3 H locs h w => ?_) ⟨Nat.zero_le _, Nat.zero_le _⟩
  refine lv_if_ne (tgt := 18) hx hb dX6_hasPlace_6 (by decide) (fun hc => ?_) (fun hc => ?_)
  · replace h := h.1 hc
    clear hc
    exact w_X6_hasPlace_L18 C0 hr hlk w (lv_sub hl [] rfl) h
  · replace h := h.2 hc
    clear hc
    refine lv_aload_n hx hb dX6_hasPlace_9 rfl (lv_at hl 0 rfl) ?_
    refine lv_iload_n hx hb dX6_hasPlace_10 rfl (lv_at hl 1 rfl) ?_
    refine lv_iconst (v := (1 : Int32)) hx hb dX6_hasPlace_11 (by decide) ?_
    refine jcV_i (k := x0) (As := [.int x1, .int (1 : Int32)]) (rest := []) C0 w (c_X6_hasStand hG hx0 h) (cwV 2 hts gX6_hasPlace_X6_hasStand rfl rfl rfl (by decide +kernel) ⟨Nat.le_of_ble_eq_true rfl, Nat.le_of_ble_eq_true rfl⟩) hx0 (rfl : vwCl[6]? = some (RX6, TX6, 2)) (by decide) rfl hl.1 rfl (Nat.le_of_ble_eq_true rfl) dX6_hasPlace_12 (fun q12 i12 j12 H locs h w => ?_) ⟨Nat.zero_le _, Nat.zero_le _⟩
    refine lv_if_eq (tgt := 22) hx hb dX6_hasPlace_15 (by decide) (fun hc => ?_) (fun hc => ?_)
    · replace h := h.1 hc
      clear hc
      refine lv_iconst (v := (0 : Int32)) hx hb dX6_hasPlace_22 (by decide) ?_
      exact jret_z hx hb hr hlk hst w (by decide) h dX6_hasPlace_23
    · replace h := h.2 hc
      clear hc
      exact w_X6_hasPlace_L18 C0 hr hlk w (lv_sub hl [] rfl) h
end S_X6_hasPlace
section S_X6_join
def J_X6_join (len : Nat → Nat) (r : jR) (Q : Int32 → jI → jL → Prop) (i : jI) (j : jL) (x0 : Nat) (x1 : Int32) (x2 : Int64) : Prop := ∃ a1, r x0 0 = some a1 ∧ (vp_in x1 (len a1) ∧ (∀ v6 : Int64, v6 = j a1 x1.toNatClampNeg → (∃ a9, r x0 0 = some a9 ∧ (vp_in x1 (len a9) ∧ ∀ j17 : jL, j17 = jul j a9 x1.toNatClampNeg (v6 ||| x2) → (∃ a19, r x0 0 = some a19 ∧ (vp_in x1 (len a19) ∧ ((((lg_cmp (j17 a19 x1.toNatClampNeg) v6) = 0) → (Q (0 : Int32) i j17)) ∧ ((¬ (lg_cmp (j17 a19 x1.toNatClampNeg) v6) = 0) → (Q (1 : Int32) i j17)))))))))
abbrev rm_X6_join : Room := { frames := 0, cells := 0, slots := 0, locals := 0 }
variable {p : Program} {l : Launch} {e : Env} {s : State} {m : MethodId} {args : Array Value} {below : List Frame} {meth : Method} {c : Code} {b tU n : Nat} {cy : Nat → ClassId} {D : va_G} {K len : Nat → Nat} {r : jR} {Q : Int32 → jI → jL → Prop}
theorem hiX6_X6_join : ∀ w ∈ u_ws RX6 TX6 2, w ∈ wsX6_join := by decide +kernel
set_option maxHeartbeats 4000000 in
set_option maxRecDepth 100000 in
theorem c_X6_join (hG : jG n K r) {i : jI} {j : jL} {x0 : Nat} {x1 : Int32} {x2 : Int64} (hx0 : x0 < n ∧ K x0 = 6) (h : J_X6_join len r Q i j x0 x1 x2) : Met l yX6_join wsX6_join rm_X6_join (va_Pc [.ref (b + x0), .int x1, .long x2] (jPre b cy D tU n K len r i j)) (jQi b cy D tU n K len r Q) 0 0 (jA b) := by
  refine Met.ofW (cc := cX6_join) (maxL := 6) (ret := (some .boolean)) (by decide) rfl ?_
  intro p e s m args below meth c s₁ B hml hv
  obtain ⟨rfl, hv⟩ := hv
  have C0 : jCx p s m _ c cX6_join 6 wsX6_join RX6 b cy D tU n K r := ⟨B.exec, B.bytes, hml, findClass_of_methodNamed B.named, atoms_spec (ws := wsX6_join) B.pre, hv.2.2, hG⟩
  have hr := B.returns
  have hlk := B.notSynchronized
  obtain ⟨hx, hb, hml, hown, hts, hst, hG⟩ := id C0
  have hiX6 : ∀ w ∈ u_ws RX6 TX6 2, w ∈ wsX6_join := hiX6_X6_join
  have w := jDy.start hv
  have hl := lv_entry ([.ref (b + x0), .int x1, .long x2]) (n := 6) (Nat.le_of_ble_eq_true rfl)
  rw [lg_entry_eq]
  generalize (lg_sl ([.ref (b + x0), .int x1, .long x2]) ++ List.replicate (6 - (lg_sl ([.ref (b + x0), .int x1, .long x2])).length) Slot.unset).toArray = ls at hl ⊢
  replace hl : lv_has ls 6 [(0, .ref (b + x0)), (1, .int x1), (2, .long x2)] := hl
  show W p l e rm_X6_join s m _ below meth c s.heap [] 0 0 _ (F0 m 0 ls [])
  rw [J_X6_join] at h
  refine lv_aload_n hx hb dX6_join_0 rfl (lv_at hl 0 rfl) ?_
  obtain ⟨a1, hr0, h⟩ := h
  refine jgr (f := 0) hx hb hts hown hst w hG hx0 hiX6 (rfl : vwCl[6]? = some (RX6, TX6, 2)) (hts (.fieldLink RX6 9 "FootByGate$Reach" "marks" "[J") (by decide +kernel)) ⟨by decide, by decide, rfl⟩ (rfl : jrt 6 0 = 14) dX6_join_1 hr0 (fun ha1 => ?_)
  clear hr0
  refine lv_iload_n hx hb dX6_join_4 rfl (lv_at hl 1 rfl) ?_
  obtain ⟨hn, h⟩ := h
  refine jald hx hb hst w ha1 hn dX6_join_5 ?_
  clear hn
  refine lv_topl (fun v6 he => ?_)
  replace h := h v6 he
  clear he
  refine lv_lstore (lv' := [(4, .long v6), (0, .ref (b + x0)), (1, .int x1), (2, .long x2)]) hx hb dX6_join_6 hl (by decide) rfl (fun ls hl => ?_)
  refine lv_aload_n hx hb dX6_join_8 rfl (lv_at hl 1 rfl) ?_
  obtain ⟨a9, hr0, h⟩ := h
  refine jgr (f := 0) hx hb hts hown hst w hG hx0 hiX6 (rfl : vwCl[6]? = some (RX6, TX6, 2)) (hts (.fieldLink RX6 9 "FootByGate$Reach" "marks" "[J") (by decide +kernel)) ⟨by decide, by decide, rfl⟩ (rfl : jrt 6 0 = 14) dX6_join_9 hr0 (fun ha9 => ?_)
  clear hr0
  refine lv_iload_n hx hb dX6_join_12 rfl (lv_at hl 2 rfl) ?_
  refine lv_lload hx hb dX6_join_13 (lv_at hl 0 rfl) ?_
  refine lv_lload_n hx hb dX6_join_15 rfl (lv_at hl 3 rfl) ?_
  refine lv_lor hx hb dX6_join_16 ?_
  obtain ⟨hn, h⟩ := h
  refine jast hx hb hst w ha9 hn dX6_join_17 (fun j17 H locs he w => ?_)
  replace h := h j17 he
  clear he hn
  refine lv_aload_n hx hb dX6_join_18 rfl (lv_at hl 1 rfl) ?_
  obtain ⟨a19, hr0, h⟩ := h
  refine jgr (f := 0) hx hb hts hown hst w hG hx0 hiX6 (rfl : vwCl[6]? = some (RX6, TX6, 2)) (hts (.fieldLink RX6 9 "FootByGate$Reach" "marks" "[J") (by decide +kernel)) ⟨by decide, by decide, rfl⟩ (rfl : jrt 6 0 = 14) dX6_join_19 hr0 (fun ha19 => ?_)
  clear hr0
  refine lv_iload_n hx hb dX6_join_22 rfl (lv_at hl 2 rfl) ?_
  obtain ⟨hn, h⟩ := h
  refine jald hx hb hst w ha19 hn dX6_join_23 ?_
  clear hn
  refine lv_lload hx hb dX6_join_24 (lv_at hl 0 rfl) ?_
  refine W.lcmp hx hb dX6_join_26 ?_
  refine lv_if_eq (tgt := 34) hx hb dX6_join_27 (by decide) (fun hc => ?_) (fun hc => ?_)
  · replace h := h.1 hc
    clear hc
    refine lv_iconst (v := (0 : Int32)) hx hb dX6_join_34 (by decide) ?_
    exact jret_z hx hb hr hlk hst w (by decide) h dX6_join_35
  · replace h := h.2 hc
    clear hc
    refine lv_iconst (v := (1 : Int32)) hx hb dX6_join_30 (by decide) ?_
    refine lv_goto (tgt := 35) hx hb dX6_join_31 (by decide) ?_
    exact jret_z hx hb hr hlk hst w (by decide) h dX6_join_35
end S_X6_join
section S_X6_letOut
def J_X6_letOut_L47 (len : Nat → Nat) (r : jR) (Q : Int64 → jI → jL → Prop) (i : jI) (j : jL) (t0 : Int64) (t1 : Int64) : Prop := Q (t0 &&& t1) i j
def J_X6_letOut (len : Nat → Nat) (r : jR) (Q : Int64 → jI → jL → Prop) (i : jI) (j : jL) (x0 : Int64) (x2 : Int32) (x3 : Int32) (x4 : Int32) : Prop := ((¬ x2 = (-1 : Int32)) → (∀ v12 : Int32, v12 = (1 : Int32) <<< (((2 : Int32) * x2) &&& 31) → (vp_in x2 3 ∧ (∀ v26 : Int64, v26 = (if (x2).toNatClampNeg = 0 then (1229782938247303441 : Int64) else if (x2).toNatClampNeg = 1 then (4222189076152335 : Int64) else (65535 : Int64)) <<< ((v12 * (x3 + (1 : Int32))).toInt64 &&& 63) → (((x4 = 0) → (J_X6_letOut_L47 len r Q i j x0 v26)) ∧ ((¬ x4 = 0) → (vp_in x2 3 ∧ (J_X6_letOut_L47 len r Q i j x0 (v26 ||| (if (x2).toNatClampNeg = 0 then (1229782938247303441 : Int64) else if (x2).toNatClampNeg = 1 then (4222189076152335 : Int64) else (65535 : Int64))))))))))) ∧ ((x2 = (-1 : Int32)) → (Q x0 i j))
abbrev rm_X6_letOut : Room := { frames := 0, cells := 0, slots := 0, locals := 0 }
variable {p : Program} {l : Launch} {e : Env} {s : State} {m : MethodId} {args : Array Value} {below : List Frame} {meth : Method} {c : Code} {b tU n : Nat} {cy : Nat → ClassId} {D : va_G} {K len : Nat → Nat} {r : jR} {Q : Int64 → jI → jL → Prop}
set_option maxHeartbeats 4000000 in
set_option maxRecDepth 100000 in
theorem w_X6_letOut_L47 (C0 : jCx p s m args c cX6_letOut 8 wsX6_letOut RX6 b cy D tU n K r) (hr : meth.sig.returnType = some .long) (hlk : meth.locks = false) {H : Heap} {locs : List Loc} {ls : Array Slot} {i : jI} {j : jL} {t0 : Int64} {t1 : Int64} (w : jDy b cy D n K len r i j s H locs) (hl : lv_has ls 8 []) (h : J_X6_letOut_L47 len r Q i j t0 t1) : W p l e rm_X6_letOut s m args below meth c H locs 0 0 (MQ below (jQl b cy D tU n K len r Q) args s 0 0 (jA b)) (F0 m 47 ls [.long t1, .long t0]) := by
  obtain ⟨hx, hb, hml, hown, hts, hst, hG⟩ := id C0
  rw [J_X6_letOut_L47] at h
  refine lv_land hx hb dX6_letOut_47 ?_
  exact jret_l hx hb hr hlk hst w h dX6_letOut_48
set_option maxHeartbeats 4000000 in
set_option maxRecDepth 100000 in
theorem c_X6_letOut (hG : jG n K r) {i : jI} {j : jL} {x0 : Int64} {x2 : Int32} {x3 : Int32} {x4 : Int32} (h : J_X6_letOut len r Q i j x0 x2 x3 x4) : Met l yX6_letOut wsX6_letOut rm_X6_letOut (va_Pc [.long x0, .int x2, .int x3, .int x4] (jPre b cy D tU n K len r i j)) (jQl b cy D tU n K len r Q) 0 0 (jA b) := by
  refine Met.ofW (cc := cX6_letOut) (maxL := 8) (ret := (some .long)) (by decide) rfl ?_
  intro p e s m args below meth c s₁ B hml hv
  obtain ⟨rfl, hv⟩ := hv
  have C0 : jCx p s m _ c cX6_letOut 8 wsX6_letOut RX6 b cy D tU n K r := ⟨B.exec, B.bytes, hml, findClass_of_methodNamed B.named, atoms_spec (ws := wsX6_letOut) B.pre, hv.2.2, hG⟩
  have hr := B.returns
  have hlk := B.notSynchronized
  obtain ⟨hx, hb, hml, hown, hts, hst, hG⟩ := id C0
  have w := jDy.start hv
  have hl := lv_entry ([.long x0, .int x2, .int x3, .int x4]) (n := 8) (Nat.le_of_ble_eq_true rfl)
  rw [lg_entry_eq]
  generalize (lg_sl ([.long x0, .int x2, .int x3, .int x4]) ++ List.replicate (8 - (lg_sl ([.long x0, .int x2, .int x3, .int x4])).length) Slot.unset).toArray = ls at hl ⊢
  replace hl : lv_has ls 8 [(0, .long x0), (2, .int x2), (3, .int x3), (4, .int x4)] := hl
  show W p l e rm_X6_letOut s m _ below meth c s.heap [] 0 0 _ (F0 m 0 ls [])
  rw [J_X6_letOut] at h
  refine lv_iload_n hx hb dX6_letOut_0 rfl (lv_at hl 1 rfl) ?_
  refine lv_iconst (v := (-1 : Int32)) hx hb dX6_letOut_1 (by decide) ?_
  refine lv_icmp_ne (tgt := 7) hx hb dX6_letOut_2 (by decide) (fun hc => ?_) (fun hc => ?_)
  · replace h := h.1 hc
    clear hc
    refine lv_iconst (v := (1 : Int32)) hx hb dX6_letOut_7 (by decide) ?_
    refine lv_iconst (v := (2 : Int32)) hx hb dX6_letOut_8 (by decide) ?_
    refine lv_iload_n hx hb dX6_letOut_9 rfl (lv_at hl 1 rfl) ?_
    refine lv_imul hx hb dX6_letOut_10 ?_
    refine lv_ishl hx hb dX6_letOut_11 ?_
    refine lv_topi (fun v12 he => ?_)
    replace h := h v12 he
    clear he
    refine lv_istore (lv' := [(5, .int v12), (0, .long x0), (2, .int x2), (3, .int x3), (4, .int x4)]) hx hb dX6_letOut_12 hl (by decide) rfl (fun ls hl => ?_)
    refine jgU hx hb hown hst w (hts (.fieldLink RX6 79 "FootByGate$Reach" "UNMARKED" "[J") (by decide +kernel)) dX6_letOut_14 ?_
    refine lv_iload_n hx hb dX6_letOut_17 rfl (lv_at hl 2 rfl) ?_
    obtain ⟨hn, h⟩ := h
    refine jlU hx hb hst w hn dX6_letOut_18 ?_
    clear hn
    refine lv_iload hx hb dX6_letOut_19 (lv_at hl 0 rfl) ?_
    refine lv_iload_n hx hb dX6_letOut_21 rfl (lv_at hl 3 rfl) ?_
    refine lv_iconst (v := (1 : Int32)) hx hb dX6_letOut_22 (by decide) ?_
    refine lv_iadd hx hb dX6_letOut_23 ?_
    refine lv_imul hx hb dX6_letOut_24 ?_
    refine lv_lshl hx hb dX6_letOut_25 rfl ?_
    refine lv_topl (fun v26 he => ?_)
    replace h := h v26 he
    clear he
    refine lv_lstore (lv' := [(6, .long v26), (5, .int v12), (0, .long x0), (2, .int x2), (3, .int x3), (4, .int x4)]) hx hb dX6_letOut_26 hl (by decide) rfl (fun ls hl => ?_)
    refine lv_lload_n hx hb dX6_letOut_28 rfl (lv_at hl 2 rfl) ?_
    refine lv_iload hx hb dX6_letOut_29 (lv_at hl 5 rfl) ?_
    refine lv_if_eq (tgt := 45) hx hb dX6_letOut_31 (by decide) (fun hc => ?_) (fun hc => ?_)
    · replace h := h.1 hc
      clear hc
      refine lv_lload hx hb dX6_letOut_45 (lv_at hl 0 rfl) ?_
      exact w_X6_letOut_L47 C0 hr hlk w (lv_sub hl [] rfl) h
    · replace h := h.2 hc
      clear hc
      refine lv_lload hx hb dX6_letOut_34 (lv_at hl 0 rfl) ?_
      refine jgU hx hb hown hst w (hts (.fieldLink RX6 79 "FootByGate$Reach" "UNMARKED" "[J") (by decide +kernel)) dX6_letOut_36 ?_
      refine lv_iload_n hx hb dX6_letOut_39 rfl (lv_at hl 3 rfl) ?_
      obtain ⟨hn, h⟩ := h
      refine jlU hx hb hst w hn dX6_letOut_40 ?_
      clear hn
      refine lv_lor hx hb dX6_letOut_41 ?_
      refine lv_goto (tgt := 47) hx hb dX6_letOut_42 (by decide) ?_
      exact w_X6_letOut_L47 C0 hr hlk w (lv_sub hl [] rfl) h
  · replace h := h.2 hc
    clear hc
    refine lv_lload_n hx hb dX6_letOut_5 rfl (lv_at hl 0 rfl) ?_
    exact jret_l hx hb hr hlk hst w h dX6_letOut_6
end S_X6_letOut
section S_X6_loosen
def J_X6_loosen_L23 (len : Nat → Nat) (r : jR) (Q : jI → jL → Prop) (Hd2 : jI → jL → Nat → Int32 → Int32 → Prop) (i : jI) (j : jL) (x0 : Nat) (x1 : Int32) (x2 : Int32) : Prop := ∀ v23 : Int32, v23 = x2 + (1 : Int32) → (Hd2 i j x0 x1 v23)
def J_X6_loosen_L2 (len : Nat → Nat) (r : jR) (Q : jI → jL → Prop) : Nat → jI → jL → Nat → Int32 → Int32 → Prop
  | 0 => fun _ _ _ _ _ => False
  | g + 1 => fun i j x0 x1 x2 => (((10 : Int32) ≤ x2) → (Q i j)) ∧ ((¬ (10 : Int32) ≤ x2) → (((((x1 >>> (x2 &&& 31)) &&& (1 : Int32)) = 0) → (J_X6_loosen_L23 len r Q (J_X6_loosen_L2 len r Q g) i j x0 x1 x2)) ∧ ((¬ ((x1 >>> (x2 &&& 31)) &&& (1 : Int32)) = 0) → (∃ a17, r x0 1 = some a17 ∧ (vp_in x2 (len a17) ∧ ∀ i22 : jI, i22 = ju i a17 x2.toNatClampNeg (3 : Int32) → (J_X6_loosen_L23 len r Q (J_X6_loosen_L2 len r Q g) i22 j x0 x1 x2))))))
def J_X6_loosen (len : Nat → Nat) (r : jR) (Q : jI → jL → Prop) (i : jI) (j : jL) (x0 : Nat) (x1 : Int32) : Prop := ∃ g0, J_X6_loosen_L2 len r Q g0 i j x0 x1 (0 : Int32)
abbrev rm_X6_loosen : Room := { frames := 0, cells := 0, slots := 0, locals := 0 }
variable {p : Program} {l : Launch} {e : Env} {s : State} {m : MethodId} {args : Array Value} {below : List Frame} {meth : Method} {c : Code} {b tU n : Nat} {cy : Nat → ClassId} {D : va_G} {K len : Nat → Nat} {r : jR} {Q : jI → jL → Prop}
theorem hiX6_X6_loosen : ∀ w ∈ u_ws RX6 TX6 2, w ∈ wsX6_loosen := by decide +kernel
set_option maxHeartbeats 4000000 in
set_option maxRecDepth 100000 in
theorem w_X6_loosen_L23 (C0 : jCx p s m args c cX6_loosen 3 wsX6_loosen RX6 b cy D tU n K r) (hr : meth.sig.returnType = none) (hlk : meth.locks = false) {Hd2 : jI → jL → Nat → Int32 → Int32 → Prop} (k2 : ∀ {H : Heap} {locs : List Loc} {ls : Array Slot} {i : jI} {j : jL} {x0 : Nat} {x1 : Int32} {x2 : Int32} (w : jDy b cy D n K len r i j s H locs) (hx0 : x0 < n ∧ K x0 = 6) (hl : lv_has ls 3 [(0, .ref (b + x0)), (1, .int x1), (2, .int x2)]) (h : Hd2 i j x0 x1 x2), W p l e rm_X6_loosen s m args below meth c H locs 0 0 (MQ below (jQv b cy D tU n K len r Q) args s 0 0 (jA b)) (F0 m 2 ls [])) {H : Heap} {locs : List Loc} {ls : Array Slot} {i : jI} {j : jL} {x0 : Nat} {x1 : Int32} {x2 : Int32} (w : jDy b cy D n K len r i j s H locs) (hx0 : x0 < n ∧ K x0 = 6) (hl : lv_has ls 3 [(0, .ref (b + x0)), (1, .int x1), (2, .int x2)]) (h : J_X6_loosen_L23 len r Q Hd2 i j x0 x1 x2) : W p l e rm_X6_loosen s m args below meth c H locs 0 0 (MQ below (jQv b cy D tU n K len r Q) args s 0 0 (jA b)) (F0 m 23 ls []) := by
  obtain ⟨hx, hb, hml, hown, hts, hst, hG⟩ := id C0
  have hiX6 : ∀ w ∈ u_ws RX6 TX6 2, w ∈ wsX6_loosen := hiX6_X6_loosen
  rw [J_X6_loosen_L23] at h
  obtain ⟨v23, he⟩ : ∃ z : Int32, z = x2 + (1 : Int32) := ⟨_, rfl⟩
  replace h := h v23 he
  refine lv_iinc (v := v23) (lv' := [(2, .int v23), (0, .ref (b + x0)), (1, .int x1)]) hx hb dX6_loosen_23 hl (k := 2) rfl (by rw [he]; rfl) (by decide) rfl (fun ls hl => ?_)
  clear he
  refine lv_goto (tgt := 2) hx hb dX6_loosen_26 (by decide) ?_
  exact k2 w hx0 (lv_sub hl [1, 2, 0] rfl) h
set_option maxHeartbeats 4000000 in
set_option maxRecDepth 100000 in
theorem w_X6_loosen_L2 (C0 : jCx p s m args c cX6_loosen 3 wsX6_loosen RX6 b cy D tU n K r) (hr : meth.sig.returnType = none) (hlk : meth.locks = false) : ∀ (g : Nat) {H : Heap} {locs : List Loc} {ls : Array Slot} {i : jI} {j : jL} {x0 : Nat} {x1 : Int32} {x2 : Int32} (w : jDy b cy D n K len r i j s H locs) (hx0 : x0 < n ∧ K x0 = 6) (hl : lv_has ls 3 [(0, .ref (b + x0)), (1, .int x1), (2, .int x2)]) (h : J_X6_loosen_L2 len r Q g i j x0 x1 x2), W p l e rm_X6_loosen s m args below meth c H locs 0 0 (MQ below (jQv b cy D tU n K len r Q) args s 0 0 (jA b)) (F0 m 2 ls []) := by
  obtain ⟨hx, hb, hml, hown, hts, hst, hG⟩ := id C0
  have hiX6 : ∀ w ∈ u_ws RX6 TX6 2, w ∈ wsX6_loosen := hiX6_X6_loosen
  intro g
  induction g with
  | zero => intro H locs ls i j x0 x1 x2 w hx0 hl h; exact False.elim h
  | succ g ih =>
    intro H locs ls i j x0 x1 x2 w hx0 hl h
    rw [J_X6_loosen_L2] at h
    refine lv_iload_n hx hb dX6_loosen_2 rfl (lv_at hl 2 rfl) ?_
    refine lv_bipush (v := (10 : Int32)) hx hb dX6_loosen_3 (by decide) ?_
    refine lv_icmp_ge (tgt := 29) hx hb dX6_loosen_5 (by decide) (fun hc => ?_) (fun hc => ?_)
    · replace h := h.1 hc
      clear hc
      exact jret_v hx hb hr hlk hst w h dX6_loosen_29
    · replace h := h.2 hc
      clear hc
      refine lv_iload_n hx hb dX6_loosen_8 rfl (lv_at hl 1 rfl) ?_
      refine lv_iload_n hx hb dX6_loosen_9 rfl (lv_at hl 2 rfl) ?_
      refine lv_ishr hx hb dX6_loosen_10 ?_
      refine lv_iconst (v := (1 : Int32)) hx hb dX6_loosen_11 (by decide) ?_
      refine lv_iand hx hb dX6_loosen_12 ?_
      refine lv_if_eq (tgt := 23) hx hb dX6_loosen_13 (by decide) (fun hc => ?_) (fun hc => ?_)
      · replace h := h.1 hc
        clear hc
        exact w_X6_loosen_L23 C0 hr hlk (fun w hx0 hl h => ih w hx0 hl h) w hx0 (lv_sub hl [0, 1, 2] rfl) h
      · replace h := h.2 hc
        clear hc
        refine lv_aload_n hx hb dX6_loosen_16 rfl (lv_at hl 0 rfl) ?_
        obtain ⟨a17, hr0, h⟩ := h
        refine jgr (f := 1) hx hb hts hown hst w hG hx0 hiX6 (rfl : vwCl[6]? = some (RX6, TX6, 2)) (hts (.fieldLink RX6 15 "FootByGate$Reach" "turns" "[I") (by decide +kernel)) ⟨by decide, by decide, rfl⟩ (rfl : jrt 6 1 = 13) dX6_loosen_17 hr0 (fun ha17 => ?_)
        clear hr0
        refine lv_iload_n hx hb dX6_loosen_20 rfl (lv_at hl 2 rfl) ?_
        refine lv_iconst (v := (3 : Int32)) hx hb dX6_loosen_21 (by decide) ?_
        obtain ⟨hn, h⟩ := h
        refine jais hx hb hst w ha17 hn dX6_loosen_22 (fun i22 H locs he w => ?_)
        replace h := h i22 he
        clear he hn
        exact w_X6_loosen_L23 C0 hr hlk (fun w hx0 hl h => ih w hx0 hl h) w hx0 (lv_sub hl [0, 1, 2] rfl) h
set_option maxHeartbeats 4000000 in
set_option maxRecDepth 100000 in
theorem c_X6_loosen (hG : jG n K r) {i : jI} {j : jL} {x0 : Nat} {x1 : Int32} (hx0 : x0 < n ∧ K x0 = 6) (h : J_X6_loosen len r Q i j x0 x1) : Met l yX6_loosen wsX6_loosen rm_X6_loosen (va_Pc [.ref (b + x0), .int x1] (jPre b cy D tU n K len r i j)) (jQv b cy D tU n K len r Q) 0 0 (jA b) := by
  refine Met.ofW (cc := cX6_loosen) (maxL := 3) (ret := none) (by decide) rfl ?_
  intro p e s m args below meth c s₁ B hml hv
  obtain ⟨rfl, hv⟩ := hv
  have C0 : jCx p s m _ c cX6_loosen 3 wsX6_loosen RX6 b cy D tU n K r := ⟨B.exec, B.bytes, hml, findClass_of_methodNamed B.named, atoms_spec (ws := wsX6_loosen) B.pre, hv.2.2, hG⟩
  have hr := B.returns
  have hlk := B.notSynchronized
  obtain ⟨hx, hb, hml, hown, hts, hst, hG⟩ := id C0
  have hiX6 : ∀ w ∈ u_ws RX6 TX6 2, w ∈ wsX6_loosen := hiX6_X6_loosen
  have w := jDy.start hv
  have hl := lv_entry ([.ref (b + x0), .int x1]) (n := 3) (Nat.le_of_ble_eq_true rfl)
  rw [lg_entry_eq]
  generalize (lg_sl ([.ref (b + x0), .int x1]) ++ List.replicate (3 - (lg_sl ([.ref (b + x0), .int x1])).length) Slot.unset).toArray = ls at hl ⊢
  replace hl : lv_has ls 3 [(0, .ref (b + x0)), (1, .int x1)] := hl
  show W p l e rm_X6_loosen s m _ below meth c s.heap [] 0 0 _ (F0 m 0 ls [])
  rw [J_X6_loosen] at h
  refine lv_iconst (v := (0 : Int32)) hx hb dX6_loosen_0 (by decide) ?_
  refine lv_istore_n (lv' := [(2, .int (0 : Int32)), (0, .ref (b + x0)), (1, .int x1)]) hx hb dX6_loosen_1 rfl hl (by decide) rfl (fun ls hl => ?_)
  obtain ⟨g0, h⟩ := h
  exact w_X6_loosen_L2 C0 hr hlk g0 w hx0 (lv_sub hl [1, 2, 0] rfl) h
end S_X6_loosen
section S_X6_pass
def J_X6_pass_L124 (len : Nat → Nat) (r : jR) (Q : Int32 → jI → jL → Prop) (Hd34 : jI → jL → Nat → Nat → Int32 → Int32 → Int32 → Int32 → Int32 → Int32 → Int32 → Prop) (i : jI) (j : jL) (x0 : Nat) (x1 : Nat) (x2 : Int32) (x3 : Int32) (x4 : Int32) (x5 : Int32) (x6 : Int32) (x7 : Int32) (x8 : Int32) : Prop := ∀ v124 : Int32, v124 = x8 + (1 : Int32) → (Hd34 i j x0 x1 x2 x3 x4 x5 x6 x7 v124)
def J_X6_pass_L34 (len : Nat → Nat) (r : jR) (Q : Int32 → jI → jL → Prop) : Nat → jI → jL → Nat → Nat → Int32 → Int32 → Int32 → Int32 → Int32 → Int32 → Int32 → Prop
  | 0 => fun _ _ _ _ _ _ _ _ _ _ _ => False
  | g + 1 => fun i j x0 x1 x2 x3 x4 x5 x6 x7 x8 => (((1 : Int32) < x8) → ((x7 = 0 ∨ x7 = 1) ∧ Q x7 i j)) ∧ ((¬ (1 : Int32) < x8) → (∃ a41, r x0 1 = some a41 ∧ (vp_in x2 (len a41) ∧ ((((((i a41 x2.toNatClampNeg) >>> (x8 &&& 31)) &&& (1 : Int32)) = 0) → (J_X6_pass_L124 len r Q (J_X6_pass_L34 len r Q g) i j x0 x1 x2 x3 x4 x5 x6 x7 x8)) ∧ ((¬ (((i a41 x2.toNatClampNeg) >>> (x8 &&& 31)) &&& (1 : Int32)) = 0) → (∀ v58 : Int32, v58 = x3 ^^^ x8 → (∃ a69, r x0 0 = some a69 ∧ (vp_in (x4 + x3) (len a69) ∧ (J_X6_cameIn len r (fun (q81 : Int64) (i81 : jI) (j81 : jL) => J_X6_join len r (fun (q84 : Int32) (i84 : jI) (j84 : jL) => ∀ v88 : Int32, v88 = x7 ||| q84 → (∃ a99, r x0 0 = some a99 ∧ (vp_in (x5 + x3) (len a99) ∧ (J_X6_letOut len r (fun (q115 : Int64) (i115 : jI) (j115 : jL) => J_X6_join len r (fun (q118 : Int32) (i118 : jI) (j118 : jL) => ∀ v122 : Int32, v122 = v88 ||| q118 → (J_X6_pass_L124 len r Q (J_X6_pass_L34 len r Q g) i118 j118 x0 x1 x2 x3 x4 x5 x6 v122 x8)) i115 j115 x0 (x4 + v58) q115) i84 j84 (j84 a99 (x5 + x3).toNatClampNeg) x6 v58 (i84 x1 2))))) i81 j81 x0 (x5 + v58) q81) i j (j a69 (x4 + x3).toNatClampNeg) x6 v58)))))))))
def J_X6_pass (len : Nat → Nat) (r : jR) (Q : Int32 → jI → jL → Prop) (i : jI) (j : jL) (x0 : Nat) (x1 : Nat) (x2 : Int32) (x3 : Int32) : Prop := ∃ a1, r x1 3 = some a1 ∧ (vp_in x2 (len a1) ∧ (∀ v8 : Int32, v8 = (i a1 x2.toNatClampNeg) * (2 : Int32) → (∃ a11, r x1 4 = some a11 ∧ (vp_in x2 (len a11) ∧ (∀ v18 : Int32, v18 = (i a11 x2.toNatClampNeg) * (2 : Int32) → (∃ a21, r x1 6 = some a21 ∧ (vp_in x2 (len a21) ∧ (∀ v26 : Int32, v26 = i a21 x2.toNatClampNeg → (∃ g0, J_X6_pass_L34 len r Q g0 i j x0 x1 x2 x3 v8 v18 v26 (0 : Int32) (0 : Int32))))))))))
abbrev rm_X6_pass : Room := { frames := 1, cells := 0, slots := 0, locals := 27 }
variable {p : Program} {l : Launch} {e : Env} {s : State} {m : MethodId} {args : Array Value} {below : List Frame} {meth : Method} {c : Code} {b tU n : Nat} {cy : Nat → ClassId} {D : va_G} {K len : Nat → Nat} {r : jR} {Q : Int32 → jI → jL → Prop}
theorem hiX6_X6_pass : ∀ w ∈ u_ws RX6 TX6 2, w ∈ wsX6_pass := by decide +kernel
theorem hiX8_X6_pass : ∀ w ∈ u_ws RX8 TX8 8, w ∈ wsX6_pass := by decide +kernel
set_option maxHeartbeats 4000000 in
set_option maxRecDepth 100000 in
theorem w_X6_pass_L124 (C0 : jCx p s m args c cX6_pass 10 wsX6_pass RX6 b cy D tU n K r) (hr : meth.sig.returnType = some .boolean) (hlk : meth.locks = false) {Hd34 : jI → jL → Nat → Nat → Int32 → Int32 → Int32 → Int32 → Int32 → Int32 → Int32 → Prop} (k34 : ∀ {H : Heap} {locs : List Loc} {ls : Array Slot} {i : jI} {j : jL} {x0 : Nat} {x1 : Nat} {x2 : Int32} {x3 : Int32} {x4 : Int32} {x5 : Int32} {x6 : Int32} {x7 : Int32} {x8 : Int32} (w : jDy b cy D n K len r i j s H locs) (hx0 : x0 < n ∧ K x0 = 6) (hx1 : x1 < n ∧ K x1 = 7) (hl : lv_has ls 10 [(0, .ref (b + x0)), (1, .ref (b + x1)), (2, .int x2), (3, .int x3), (4, .int x4), (5, .int x5), (6, .int x6), (7, .int x7), (8, .int x8)]) (h : Hd34 i j x0 x1 x2 x3 x4 x5 x6 x7 x8), W p l e rm_X6_pass s m args below meth c H locs 0 0 (MQ below (jQi b cy D tU n K len r Q) args s 0 0 (jA b)) (F0 m 34 ls [])) {H : Heap} {locs : List Loc} {ls : Array Slot} {i : jI} {j : jL} {x0 : Nat} {x1 : Nat} {x2 : Int32} {x3 : Int32} {x4 : Int32} {x5 : Int32} {x6 : Int32} {x7 : Int32} {x8 : Int32} (w : jDy b cy D n K len r i j s H locs) (hx0 : x0 < n ∧ K x0 = 6) (hx1 : x1 < n ∧ K x1 = 7) (hl : lv_has ls 10 [(0, .ref (b + x0)), (1, .ref (b + x1)), (2, .int x2), (3, .int x3), (4, .int x4), (5, .int x5), (6, .int x6), (7, .int x7), (8, .int x8)]) (h : J_X6_pass_L124 len r Q Hd34 i j x0 x1 x2 x3 x4 x5 x6 x7 x8) : W p l e rm_X6_pass s m args below meth c H locs 0 0 (MQ below (jQi b cy D tU n K len r Q) args s 0 0 (jA b)) (F0 m 124 ls []) := by
  obtain ⟨hx, hb, hml, hown, hts, hst, hG⟩ := id C0
  have hiX6 : ∀ w ∈ u_ws RX6 TX6 2, w ∈ wsX6_pass := hiX6_X6_pass
  have hiX8 : ∀ w ∈ u_ws RX8 TX8 8, w ∈ wsX6_pass := hiX8_X6_pass
  rw [J_X6_pass_L124] at h
  obtain ⟨v124, he⟩ : ∃ z : Int32, z = x8 + (1 : Int32) := ⟨_, rfl⟩
  replace h := h v124 he
  refine lv_iinc (v := v124) (lv' := [(8, .int v124), (0, .ref (b + x0)), (1, .ref (b + x1)), (2, .int x2), (3, .int x3), (4, .int x4), (5, .int x5), (6, .int x6), (7, .int x7)]) hx hb dX6_pass_124 hl (k := 8) rfl (by rw [he]; rfl) (by decide) rfl (fun ls hl => ?_)
  clear he
  refine lv_goto (tgt := 34) hx hb dX6_pass_127 (by decide) ?_
  exact k34 w hx0 hx1 (lv_sub hl [1, 2, 3, 4, 5, 6, 7, 8, 0] rfl) h
set_option maxHeartbeats 4000000 in
set_option maxRecDepth 100000 in
theorem w_X6_pass_L34 (C0 : jCx p s m args c cX6_pass 10 wsX6_pass RX6 b cy D tU n K r) (hr : meth.sig.returnType = some .boolean) (hlk : meth.locks = false) : ∀ (g : Nat) {H : Heap} {locs : List Loc} {ls : Array Slot} {i : jI} {j : jL} {x0 : Nat} {x1 : Nat} {x2 : Int32} {x3 : Int32} {x4 : Int32} {x5 : Int32} {x6 : Int32} {x7 : Int32} {x8 : Int32} (w : jDy b cy D n K len r i j s H locs) (hx0 : x0 < n ∧ K x0 = 6) (hx1 : x1 < n ∧ K x1 = 7) (hl : lv_has ls 10 [(0, .ref (b + x0)), (1, .ref (b + x1)), (2, .int x2), (3, .int x3), (4, .int x4), (5, .int x5), (6, .int x6), (7, .int x7), (8, .int x8)]) (h : J_X6_pass_L34 len r Q g i j x0 x1 x2 x3 x4 x5 x6 x7 x8), W p l e rm_X6_pass s m args below meth c H locs 0 0 (MQ below (jQi b cy D tU n K len r Q) args s 0 0 (jA b)) (F0 m 34 ls []) := by
  obtain ⟨hx, hb, hml, hown, hts, hst, hG⟩ := id C0
  have hiX6 : ∀ w ∈ u_ws RX6 TX6 2, w ∈ wsX6_pass := hiX6_X6_pass
  have hiX8 : ∀ w ∈ u_ws RX8 TX8 8, w ∈ wsX6_pass := hiX8_X6_pass
  intro g
  induction g with
  | zero => intro H locs ls i j x0 x1 x2 x3 x4 x5 x6 x7 x8 w hx0 hx1 hl h; exact False.elim h
  | succ g ih =>
    intro H locs ls i j x0 x1 x2 x3 x4 x5 x6 x7 x8 w hx0 hx1 hl h
    rw [J_X6_pass_L34] at h
    refine lv_iload hx hb dX6_pass_34 (lv_at hl 8 rfl) ?_
    refine lv_iconst (v := (1 : Int32)) hx hb dX6_pass_36 (by decide) ?_
    refine lv_icmp_gt (tgt := 130) hx hb dX6_pass_37 (by decide) (fun hc => ?_) (fun hc => ?_)
    · replace h := h.1 hc
      clear hc
      refine lv_iload hx hb dX6_pass_130 (lv_at hl 7 rfl) ?_
      exact jret_z hx hb hr hlk hst w h.1 h.2 dX6_pass_132
    · replace h := h.2 hc
      clear hc
      refine lv_aload_n hx hb dX6_pass_40 rfl (lv_at hl 0 rfl) ?_
      obtain ⟨a41, hr0, h⟩ := h
      refine jgr (f := 1) hx hb hts hown hst w hG hx0 hiX6 (rfl : vwCl[6]? = some (RX6, TX6, 2)) (hts (.fieldLink RX6 15 "FootByGate$Reach" "turns" "[I") (by decide +kernel)) ⟨by decide, by decide, rfl⟩ (rfl : jrt 6 1 = 13) dX6_pass_41 hr0 (fun ha41 => ?_)
      clear hr0
      refine lv_iload_n hx hb dX6_pass_44 rfl (lv_at hl 2 rfl) ?_
      obtain ⟨hn, h⟩ := h
      refine jaid hx hb hst w ha41 hn dX6_pass_45 ?_
      clear hn
      refine lv_iload hx hb dX6_pass_46 (lv_at hl 8 rfl) ?_
      refine lv_ishr hx hb dX6_pass_48 ?_
      refine lv_iconst (v := (1 : Int32)) hx hb dX6_pass_49 (by decide) ?_
      refine lv_iand hx hb dX6_pass_50 ?_
      refine lv_if_eq (tgt := 124) hx hb dX6_pass_51 (by decide) (fun hc => ?_) (fun hc => ?_)
      · replace h := h.1 hc
        clear hc
        exact w_X6_pass_L124 C0 hr hlk (fun w hx0 hx1 hl h => ih w hx0 hx1 hl h) w hx0 hx1 (lv_sub hl [0, 1, 2, 3, 4, 5, 6, 7, 8] rfl) h
      · replace h := h.2 hc
        clear hc
        refine lv_iload_n hx hb dX6_pass_54 rfl (lv_at hl 3 rfl) ?_
        refine lv_iload hx hb dX6_pass_55 (lv_at hl 8 rfl) ?_
        refine lv_ixor hx hb dX6_pass_57 ?_
        refine lv_topi (fun v58 he => ?_)
        replace h := h v58 he
        clear he
        refine lv_istore (lv' := [(9, .int v58), (0, .ref (b + x0)), (1, .ref (b + x1)), (2, .int x2), (3, .int x3), (4, .int x4), (5, .int x5), (6, .int x6), (7, .int x7), (8, .int x8)]) hx hb dX6_pass_58 hl (by decide) rfl (fun ls hl => ?_)
        refine lv_iload hx hb dX6_pass_60 (lv_at hl 8 rfl) ?_
        refine lv_aload_n hx hb dX6_pass_62 rfl (lv_at hl 1 rfl) ?_
        refine lv_iload hx hb dX6_pass_63 (lv_at hl 6 rfl) ?_
        refine lv_iload hx hb dX6_pass_65 (lv_at hl 0 rfl) ?_
        refine lv_iadd hx hb dX6_pass_67 ?_
        refine lv_aload_n hx hb dX6_pass_68 rfl (lv_at hl 1 rfl) ?_
        obtain ⟨a69, hr0, h⟩ := h
        refine jgr (f := 0) hx hb hts hown hst w hG hx0 hiX6 (rfl : vwCl[6]? = some (RX6, TX6, 2)) (hts (.fieldLink RX6 9 "FootByGate$Reach" "marks" "[J") (by decide +kernel)) ⟨by decide, by decide, rfl⟩ (rfl : jrt 6 0 = 14) dX6_pass_69 hr0 (fun ha69 => ?_)
        clear hr0
        refine lv_iload hx hb dX6_pass_72 (lv_at hl 5 rfl) ?_
        refine lv_iload_n hx hb dX6_pass_74 rfl (lv_at hl 4 rfl) ?_
        refine lv_iadd hx hb dX6_pass_75 ?_
        obtain ⟨hn, h⟩ := h
        refine jald hx hb hst w ha69 hn dX6_pass_76 ?_
        clear hn
        refine lv_iload hx hb dX6_pass_77 (lv_at hl 7 rfl) ?_
        refine lv_iload hx hb dX6_pass_79 (lv_at hl 0 rfl) ?_
        refine jcS_l (As := [.long (j a69 (x4 + x3).toNatClampNeg), .int x6, .int v58]) (rest := [.int (x5 + v58), .ref (b + x0), .int x7]) C0 w (c_X6_cameIn hG h) (va_cwS 3 hts gX6_pass_X6_cameIn rfl rfl rfl (by decide +kernel) ⟨Nat.le_of_ble_eq_true rfl, Nat.le_of_ble_eq_true rfl⟩) rfl hl.1 rfl (Nat.le_of_ble_eq_true rfl) dX6_pass_81 (fun q81 i81 j81 H locs h w => ?_) ⟨Nat.zero_le _, Nat.zero_le _⟩
        refine jcV_i (k := x0) (As := [.int (x5 + v58), .long q81]) (rest := [.int x7]) C0 w (c_X6_join hG hx0 h) (cwV 2 hts gX6_pass_X6_join rfl rfl rfl (by decide +kernel) ⟨Nat.le_of_ble_eq_true rfl, Nat.le_of_ble_eq_true rfl⟩) hx0 (rfl : vwCl[6]? = some (RX6, TX6, 2)) (by decide) rfl hl.1 rfl (Nat.le_of_ble_eq_true rfl) dX6_pass_84 (fun q84 i84 j84 H locs h w => ?_) ⟨Nat.zero_le _, Nat.zero_le _⟩
        refine lv_ior hx hb dX6_pass_87 ?_
        refine lv_topi (fun v88 he => ?_)
        replace h := h v88 he
        clear he
        refine lv_istore (lv' := [(7, .int v88), (9, .int v58), (0, .ref (b + x0)), (1, .ref (b + x1)), (2, .int x2), (3, .int x3), (4, .int x4), (5, .int x5), (6, .int x6), (8, .int x8)]) hx hb dX6_pass_88 hl (by decide) rfl (fun ls hl => ?_)
        refine lv_iload hx hb dX6_pass_90 (lv_at hl 0 rfl) ?_
        refine lv_aload_n hx hb dX6_pass_92 rfl (lv_at hl 2 rfl) ?_
        refine lv_iload hx hb dX6_pass_93 (lv_at hl 6 rfl) ?_
        refine lv_iload hx hb dX6_pass_95 (lv_at hl 1 rfl) ?_
        refine lv_iadd hx hb dX6_pass_97 ?_
        refine lv_aload_n hx hb dX6_pass_98 rfl (lv_at hl 2 rfl) ?_
        obtain ⟨a99, hr0, h⟩ := h
        refine jgr (f := 0) hx hb hts hown hst w hG hx0 hiX6 (rfl : vwCl[6]? = some (RX6, TX6, 2)) (hts (.fieldLink RX6 9 "FootByGate$Reach" "marks" "[J") (by decide +kernel)) ⟨by decide, by decide, rfl⟩ (rfl : jrt 6 0 = 14) dX6_pass_99 hr0 (fun ha99 => ?_)
        clear hr0
        refine lv_iload hx hb dX6_pass_102 (lv_at hl 7 rfl) ?_
        refine lv_iload_n hx hb dX6_pass_104 rfl (lv_at hl 5 rfl) ?_
        refine lv_iadd hx hb dX6_pass_105 ?_
        obtain ⟨hn, h⟩ := h
        refine jald hx hb hst w ha99 hn dX6_pass_106 ?_
        clear hn
        refine lv_iload hx hb dX6_pass_107 (lv_at hl 8 rfl) ?_
        refine lv_iload hx hb dX6_pass_109 (lv_at hl 1 rfl) ?_
        refine lv_aload_n hx hb dX6_pass_111 rfl (lv_at hl 3 rfl) ?_
        refine jgi (f := 2) hx hb hts hown hst w hx1 hiX8 (rfl : vwCl[7]? = some (RX8, TX8, 8)) (hts (.fieldLink RX6 71 "FootByGate$Town" "free" "Z") (by decide +kernel)) ⟨by decide, by decide, rfl⟩ dX6_pass_112 ?_
        refine jcS_l (As := [.long (j84 a99 (x5 + x3).toNatClampNeg), .int x6, .int v58, .int (i84 x1 2)]) (rest := [.int (x4 + v58), .ref (b + x0), .int v88]) C0 w (c_X6_letOut hG h) (va_cwS 4 hts gX6_pass_X6_letOut rfl rfl rfl (by decide +kernel) ⟨Nat.le_of_ble_eq_true rfl, Nat.le_of_ble_eq_true rfl⟩) rfl hl.1 rfl (Nat.le_of_ble_eq_true rfl) dX6_pass_115 (fun q115 i115 j115 H locs h w => ?_) ⟨Nat.zero_le _, Nat.zero_le _⟩
        refine jcV_i (k := x0) (As := [.int (x4 + v58), .long q115]) (rest := [.int v88]) C0 w (c_X6_join hG hx0 h) (cwV 2 hts gX6_pass_X6_join rfl rfl rfl (by decide +kernel) ⟨Nat.le_of_ble_eq_true rfl, Nat.le_of_ble_eq_true rfl⟩) hx0 (rfl : vwCl[6]? = some (RX6, TX6, 2)) (by decide) rfl hl.1 rfl (Nat.le_of_ble_eq_true rfl) dX6_pass_118 (fun q118 i118 j118 H locs h w => ?_) ⟨Nat.zero_le _, Nat.zero_le _⟩
        refine lv_ior hx hb dX6_pass_121 ?_
        refine lv_topi (fun v122 he => ?_)
        replace h := h v122 he
        clear he
        refine lv_istore (lv' := [(7, .int v122), (9, .int v58), (0, .ref (b + x0)), (1, .ref (b + x1)), (2, .int x2), (3, .int x3), (4, .int x4), (5, .int x5), (6, .int x6), (8, .int x8)]) hx hb dX6_pass_122 hl (by decide) rfl (fun ls hl => ?_)
        exact w_X6_pass_L124 C0 hr hlk (fun w hx0 hx1 hl h => ih w hx0 hx1 hl h) w hx0 hx1 (lv_sub hl [2, 3, 4, 5, 6, 7, 8, 0, 9] rfl) h
set_option maxHeartbeats 4000000 in
set_option maxRecDepth 100000 in
theorem c_X6_pass (hG : jG n K r) {i : jI} {j : jL} {x0 : Nat} {x1 : Nat} {x2 : Int32} {x3 : Int32} (hx0 : x0 < n ∧ K x0 = 6) (hx1 : x1 < n ∧ K x1 = 7) (h : J_X6_pass len r Q i j x0 x1 x2 x3) : Met l yX6_pass wsX6_pass rm_X6_pass (va_Pc [.ref (b + x0), .ref (b + x1), .int x2, .int x3] (jPre b cy D tU n K len r i j)) (jQi b cy D tU n K len r Q) 0 0 (jA b) := by
  refine Met.ofW (cc := cX6_pass) (maxL := 10) (ret := (some .boolean)) (by decide) rfl ?_
  intro p e s m args below meth c s₁ B hml hv
  obtain ⟨rfl, hv⟩ := hv
  have C0 : jCx p s m _ c cX6_pass 10 wsX6_pass RX6 b cy D tU n K r := ⟨B.exec, B.bytes, hml, findClass_of_methodNamed B.named, atoms_spec (ws := wsX6_pass) B.pre, hv.2.2, hG⟩
  have hr := B.returns
  have hlk := B.notSynchronized
  obtain ⟨hx, hb, hml, hown, hts, hst, hG⟩ := id C0
  have hiX6 : ∀ w ∈ u_ws RX6 TX6 2, w ∈ wsX6_pass := hiX6_X6_pass
  have hiX8 : ∀ w ∈ u_ws RX8 TX8 8, w ∈ wsX6_pass := hiX8_X6_pass
  have w := jDy.start hv
  have hl := lv_entry ([.ref (b + x0), .ref (b + x1), .int x2, .int x3]) (n := 10) (Nat.le_of_ble_eq_true rfl)
  rw [lg_entry_eq]
  generalize (lg_sl ([.ref (b + x0), .ref (b + x1), .int x2, .int x3]) ++ List.replicate (10 - (lg_sl ([.ref (b + x0), .ref (b + x1), .int x2, .int x3])).length) Slot.unset).toArray = ls at hl ⊢
  replace hl : lv_has ls 10 [(0, .ref (b + x0)), (1, .ref (b + x1)), (2, .int x2), (3, .int x3)] := hl
  show W p l e rm_X6_pass s m _ below meth c s.heap [] 0 0 _ (F0 m 0 ls [])
  rw [J_X6_pass] at h
  refine lv_aload_n hx hb dX6_pass_0 rfl (lv_at hl 1 rfl) ?_
  obtain ⟨a1, hr0, h⟩ := h
  refine jgr (f := 3) hx hb hts hown hst w hG hx1 hiX8 (rfl : vwCl[7]? = some (RX8, TX8, 8)) (hts (.fieldLink RX6 57 "FootByGate$Town" "first" "[I") (by decide +kernel)) ⟨by decide, by decide, rfl⟩ (rfl : jrt 7 3 = 13) dX6_pass_1 hr0 (fun ha1 => ?_)
  clear hr0
  refine lv_iload_n hx hb dX6_pass_4 rfl (lv_at hl 2 rfl) ?_
  obtain ⟨hn, h⟩ := h
  refine jaid hx hb hst w ha1 hn dX6_pass_5 ?_
  clear hn
  refine lv_iconst (v := (2 : Int32)) hx hb dX6_pass_6 (by decide) ?_
  refine lv_imul hx hb dX6_pass_7 ?_
  refine lv_topi (fun v8 he => ?_)
  replace h := h v8 he
  clear he
  refine lv_istore (lv' := [(4, .int v8), (0, .ref (b + x0)), (1, .ref (b + x1)), (2, .int x2), (3, .int x3)]) hx hb dX6_pass_8 hl (by decide) rfl (fun ls hl => ?_)
  refine lv_aload_n hx hb dX6_pass_10 rfl (lv_at hl 2 rfl) ?_
  obtain ⟨a11, hr0, h⟩ := h
  refine jgr (f := 4) hx hb hts hown hst w hG hx1 hiX8 (rfl : vwCl[7]? = some (RX8, TX8, 8)) (hts (.fieldLink RX6 60 "FootByGate$Town" "second" "[I") (by decide +kernel)) ⟨by decide, by decide, rfl⟩ (rfl : jrt 7 4 = 13) dX6_pass_11 hr0 (fun ha11 => ?_)
  clear hr0
  refine lv_iload_n hx hb dX6_pass_14 rfl (lv_at hl 3 rfl) ?_
  obtain ⟨hn, h⟩ := h
  refine jaid hx hb hst w ha11 hn dX6_pass_15 ?_
  clear hn
  refine lv_iconst (v := (2 : Int32)) hx hb dX6_pass_16 (by decide) ?_
  refine lv_imul hx hb dX6_pass_17 ?_
  refine lv_topi (fun v18 he => ?_)
  replace h := h v18 he
  clear he
  refine lv_istore (lv' := [(5, .int v18), (4, .int v8), (0, .ref (b + x0)), (1, .ref (b + x1)), (2, .int x2), (3, .int x3)]) hx hb dX6_pass_18 hl (by decide) rfl (fun ls hl => ?_)
  refine lv_aload_n hx hb dX6_pass_20 rfl (lv_at hl 3 rfl) ?_
  obtain ⟨a21, hr0, h⟩ := h
  refine jgr (f := 6) hx hb hts hown hst w hG hx1 hiX8 (rfl : vwCl[7]? = some (RX8, TX8, 8)) (hts (.fieldLink RX6 42 "FootByGate$Town" "gate" "[I") (by decide +kernel)) ⟨by decide, by decide, rfl⟩ (rfl : jrt 7 6 = 13) dX6_pass_21 hr0 (fun ha21 => ?_)
  clear hr0
  refine lv_iload_n hx hb dX6_pass_24 rfl (lv_at hl 4 rfl) ?_
  obtain ⟨hn, h⟩ := h
  refine jaid hx hb hst w ha21 hn dX6_pass_25 ?_
  clear hn
  refine lv_topi (fun v26 he => ?_)
  replace h := h v26 he
  clear he
  refine lv_istore (lv' := [(6, .int v26), (5, .int v18), (4, .int v8), (0, .ref (b + x0)), (1, .ref (b + x1)), (2, .int x2), (3, .int x3)]) hx hb dX6_pass_26 hl (by decide) rfl (fun ls hl => ?_)
  refine lv_iconst (v := (0 : Int32)) hx hb dX6_pass_28 (by decide) ?_
  refine lv_istore (lv' := [(7, .int (0 : Int32)), (6, .int v26), (5, .int v18), (4, .int v8), (0, .ref (b + x0)), (1, .ref (b + x1)), (2, .int x2), (3, .int x3)]) hx hb dX6_pass_29 hl (by decide) rfl (fun ls hl => ?_)
  refine lv_iconst (v := (0 : Int32)) hx hb dX6_pass_31 (by decide) ?_
  refine lv_istore (lv' := [(8, .int (0 : Int32)), (7, .int (0 : Int32)), (6, .int v26), (5, .int v18), (4, .int v8), (0, .ref (b + x0)), (1, .ref (b + x1)), (2, .int x2), (3, .int x3)]) hx hb dX6_pass_32 hl (by decide) rfl (fun ls hl => ?_)
  obtain ⟨g0, h⟩ := h
  exact w_X6_pass_L34 C0 hr hlk g0 w hx0 hx1 (lv_sub hl [5, 6, 7, 8, 4, 3, 2, 1, 0] rfl) h
end S_X6_pass
section S_X6_placesMissed
def J_X6_placesMissed_L24 (len : Nat → Nat) (r : jR) (Q : Int32 → jI → jL → Prop) (Hd4 : jI → jL → Nat → Int32 → Int32 → Prop) (i : jI) (j : jL) (x0 : Nat) (x1 : Int32) (x2 : Int32) : Prop := ∀ v24 : Int32, v24 = x2 + (1 : Int32) → (Hd4 i j x0 x1 v24)
def J_X6_placesMissed_L4 (len : Nat → Nat) (r : jR) (Q : Int32 → jI → jL → Prop) : Nat → jI → jL → Nat → Int32 → Int32 → Prop
  | 0 => fun _ _ _ _ _ => False
  | g + 1 => fun i j x0 x1 x2 => (((7 : Int32) ≤ x2) → (Q x1 i j)) ∧ ((¬ (7 : Int32) ≤ x2) → (J_X6_hasPlace len r (fun (q12 : Int32) (i12 : jI) (j12 : jL) => ((¬ q12 = 0) → (J_X6_placesMissed_L24 len r Q (J_X6_placesMissed_L4 len r Q g) i12 j12 x0 x1 x2)) ∧ ((q12 = 0) → (∀ v23 : Int32, v23 = x1 ||| ((1 : Int32) <<< (x2 &&& 31)) → (J_X6_placesMissed_L24 len r Q (J_X6_placesMissed_L4 len r Q g) i12 j12 x0 v23 x2)))) i j x0 x2))
def J_X6_placesMissed (len : Nat → Nat) (r : jR) (Q : Int32 → jI → jL → Prop) (i : jI) (j : jL) (x0 : Nat) : Prop := ∃ g0, J_X6_placesMissed_L4 len r Q g0 i j x0 (0 : Int32) (0 : Int32)
abbrev rm_X6_placesMissed : Room := { frames := 2, cells := 0, slots := 0, locals := 43 }
variable {p : Program} {l : Launch} {e : Env} {s : State} {m : MethodId} {args : Array Value} {below : List Frame} {meth : Method} {c : Code} {b tU n : Nat} {cy : Nat → ClassId} {D : va_G} {K len : Nat → Nat} {r : jR} {Q : Int32 → jI → jL → Prop}
set_option maxHeartbeats 4000000 in
set_option maxRecDepth 100000 in
theorem w_X6_placesMissed_L24 (C0 : jCx p s m args c cX6_placesMissed 3 wsX6_placesMissed RX6 b cy D tU n K r) (hr : meth.sig.returnType = some .int) (hlk : meth.locks = false) {Hd4 : jI → jL → Nat → Int32 → Int32 → Prop} (k4 : ∀ {H : Heap} {locs : List Loc} {ls : Array Slot} {i : jI} {j : jL} {x0 : Nat} {x1 : Int32} {x2 : Int32} (w : jDy b cy D n K len r i j s H locs) (hx0 : x0 < n ∧ K x0 = 6) (hl : lv_has ls 3 [(0, .ref (b + x0)), (1, .int x1), (2, .int x2)]) (h : Hd4 i j x0 x1 x2), W p l e rm_X6_placesMissed s m args below meth c H locs 0 0 (MQ below (jQi b cy D tU n K len r Q) args s 0 0 (jA b)) (F0 m 4 ls [])) {H : Heap} {locs : List Loc} {ls : Array Slot} {i : jI} {j : jL} {x0 : Nat} {x1 : Int32} {x2 : Int32} (w : jDy b cy D n K len r i j s H locs) (hx0 : x0 < n ∧ K x0 = 6) (hl : lv_has ls 3 [(0, .ref (b + x0)), (1, .int x1), (2, .int x2)]) (h : J_X6_placesMissed_L24 len r Q Hd4 i j x0 x1 x2) : W p l e rm_X6_placesMissed s m args below meth c H locs 0 0 (MQ below (jQi b cy D tU n K len r Q) args s 0 0 (jA b)) (F0 m 24 ls []) := by
  obtain ⟨hx, hb, hml, hown, hts, hst, hG⟩ := id C0
  rw [J_X6_placesMissed_L24] at h
  obtain ⟨v24, he⟩ : ∃ z : Int32, z = x2 + (1 : Int32) := ⟨_, rfl⟩
  replace h := h v24 he
  refine lv_iinc (v := v24) (lv' := [(2, .int v24), (0, .ref (b + x0)), (1, .int x1)]) hx hb dX6_placesMissed_24 hl (k := 2) rfl (by rw [he]; rfl) (by decide) rfl (fun ls hl => ?_)
  clear he
  refine lv_goto (tgt := 4) hx hb dX6_placesMissed_27 (by decide) ?_
  exact k4 w hx0 (lv_sub hl [1, 2, 0] rfl) h
set_option maxHeartbeats 4000000 in
set_option maxRecDepth 100000 in
theorem w_X6_placesMissed_L4 (C0 : jCx p s m args c cX6_placesMissed 3 wsX6_placesMissed RX6 b cy D tU n K r) (hr : meth.sig.returnType = some .int) (hlk : meth.locks = false) : ∀ (g : Nat) {H : Heap} {locs : List Loc} {ls : Array Slot} {i : jI} {j : jL} {x0 : Nat} {x1 : Int32} {x2 : Int32} (w : jDy b cy D n K len r i j s H locs) (hx0 : x0 < n ∧ K x0 = 6) (hl : lv_has ls 3 [(0, .ref (b + x0)), (1, .int x1), (2, .int x2)]) (h : J_X6_placesMissed_L4 len r Q g i j x0 x1 x2), W p l e rm_X6_placesMissed s m args below meth c H locs 0 0 (MQ below (jQi b cy D tU n K len r Q) args s 0 0 (jA b)) (F0 m 4 ls []) := by
  obtain ⟨hx, hb, hml, hown, hts, hst, hG⟩ := id C0
  intro g
  induction g with
  | zero => intro H locs ls i j x0 x1 x2 w hx0 hl h; exact False.elim h
  | succ g ih =>
    intro H locs ls i j x0 x1 x2 w hx0 hl h
    rw [J_X6_placesMissed_L4] at h
    refine lv_iload_n hx hb dX6_placesMissed_4 rfl (lv_at hl 2 rfl) ?_
    refine lv_bipush (v := (7 : Int32)) hx hb dX6_placesMissed_5 (by decide) ?_
    refine lv_icmp_ge (tgt := 30) hx hb dX6_placesMissed_7 (by decide) (fun hc => ?_) (fun hc => ?_)
    · replace h := h.1 hc
      clear hc
      refine lv_iload_n hx hb dX6_placesMissed_30 rfl (lv_at hl 1 rfl) ?_
      exact jret_i hx hb hr hlk hst w h dX6_placesMissed_31
    · replace h := h.2 hc
      clear hc
      refine lv_aload_n hx hb dX6_placesMissed_10 rfl (lv_at hl 0 rfl) ?_
      refine lv_iload_n hx hb dX6_placesMissed_11 rfl (lv_at hl 2 rfl) ?_
      refine jcV_i (k := x0) (As := [.int x2]) (rest := []) C0 w (c_X6_hasPlace hG hx0 h) (cwV 1 hts gX6_placesMissed_X6_hasPlace rfl rfl rfl (by decide +kernel) ⟨Nat.le_of_ble_eq_true rfl, Nat.le_of_ble_eq_true rfl⟩) hx0 (rfl : vwCl[6]? = some (RX6, TX6, 2)) (by decide) rfl hl.1 rfl (Nat.le_of_ble_eq_true rfl) dX6_placesMissed_12 (fun q12 i12 j12 H locs h w => ?_) ⟨Nat.zero_le _, Nat.zero_le _⟩
      refine lv_if_ne (tgt := 24) hx hb dX6_placesMissed_15 (by decide) (fun hc => ?_) (fun hc => ?_)
      · replace h := h.1 hc
        clear hc
        exact w_X6_placesMissed_L24 C0 hr hlk (fun w hx0 hl h => ih w hx0 hl h) w hx0 (lv_sub hl [0, 1, 2] rfl) h
      · replace h := h.2 hc
        clear hc
        refine lv_iload_n hx hb dX6_placesMissed_18 rfl (lv_at hl 1 rfl) ?_
        refine lv_iconst (v := (1 : Int32)) hx hb dX6_placesMissed_19 (by decide) ?_
        refine lv_iload_n hx hb dX6_placesMissed_20 rfl (lv_at hl 2 rfl) ?_
        refine lv_ishl hx hb dX6_placesMissed_21 ?_
        refine lv_ior hx hb dX6_placesMissed_22 ?_
        refine lv_topi (fun v23 he => ?_)
        replace h := h v23 he
        clear he
        refine lv_istore_n (lv' := [(1, .int v23), (0, .ref (b + x0)), (2, .int x2)]) hx hb dX6_placesMissed_23 rfl hl (by decide) rfl (fun ls hl => ?_)
        exact w_X6_placesMissed_L24 C0 hr hlk (fun w hx0 hl h => ih w hx0 hl h) w hx0 (lv_sub hl [1, 0, 2] rfl) h
set_option maxHeartbeats 4000000 in
set_option maxRecDepth 100000 in
theorem c_X6_placesMissed (hG : jG n K r) {i : jI} {j : jL} {x0 : Nat} (hx0 : x0 < n ∧ K x0 = 6) (h : J_X6_placesMissed len r Q i j x0) : Met l yX6_placesMissed wsX6_placesMissed rm_X6_placesMissed (va_Pc [.ref (b + x0)] (jPre b cy D tU n K len r i j)) (jQi b cy D tU n K len r Q) 0 0 (jA b) := by
  refine Met.ofW (cc := cX6_placesMissed) (maxL := 3) (ret := (some .int)) (by decide) rfl ?_
  intro p e s m args below meth c s₁ B hml hv
  obtain ⟨rfl, hv⟩ := hv
  have C0 : jCx p s m _ c cX6_placesMissed 3 wsX6_placesMissed RX6 b cy D tU n K r := ⟨B.exec, B.bytes, hml, findClass_of_methodNamed B.named, atoms_spec (ws := wsX6_placesMissed) B.pre, hv.2.2, hG⟩
  have hr := B.returns
  have hlk := B.notSynchronized
  obtain ⟨hx, hb, hml, hown, hts, hst, hG⟩ := id C0
  have w := jDy.start hv
  have hl := lv_entry ([.ref (b + x0)]) (n := 3) (Nat.le_of_ble_eq_true rfl)
  rw [lg_entry_eq]
  generalize (lg_sl ([.ref (b + x0)]) ++ List.replicate (3 - (lg_sl ([.ref (b + x0)])).length) Slot.unset).toArray = ls at hl ⊢
  replace hl : lv_has ls 3 [(0, .ref (b + x0))] := hl
  show W p l e rm_X6_placesMissed s m _ below meth c s.heap [] 0 0 _ (F0 m 0 ls [])
  rw [J_X6_placesMissed] at h
  refine lv_iconst (v := (0 : Int32)) hx hb dX6_placesMissed_0 (by decide) ?_
  refine lv_istore_n (lv' := [(1, .int (0 : Int32)), (0, .ref (b + x0))]) hx hb dX6_placesMissed_1 rfl hl (by decide) rfl (fun ls hl => ?_)
  refine lv_iconst (v := (0 : Int32)) hx hb dX6_placesMissed_2 (by decide) ?_
  refine lv_istore_n (lv' := [(2, .int (0 : Int32)), (1, .int (0 : Int32)), (0, .ref (b + x0))]) hx hb dX6_placesMissed_3 rfl hl (by decide) rfl (fun ls hl => ?_)
  obtain ⟨g0, h⟩ := h
  exact w_X6_placesMissed_L4 C0 hr hlk g0 w hx0 (lv_sub hl [2, 1, 0] rfl) h
end S_X6_placesMissed
section S_X6_spread
def J_X6_spread_L98 (len : Nat → Nat) (r : jR) (Q : jI → jL → Prop) (Hd29 : jI → jL → Nat → Nat → Int32 → Int32 → Int32 → Prop) (Hd48 : jI → jL → Nat → Nat → Int32 → Int32 → Int32 → Int32 → Prop) (i : jI) (j : jL) (x0 : Nat) (x1 : Nat) (x3 : Int32) (x4 : Int32) (x5 : Int32) (x6 : Int32) : Prop := ∀ v98 : Int32, v98 = x6 + (1 : Int32) → (Hd48 i j x0 x1 x3 x4 x5 v98)
def J_X6_spread_L72 (len : Nat → Nat) (r : jR) (Q : jI → jL → Prop) (Hd29 : jI → jL → Nat → Nat → Int32 → Int32 → Int32 → Prop) (Hd48 : jI → jL → Nat → Nat → Int32 → Int32 → Int32 → Int32 → Prop) (i : jI) (j : jL) (x0 : Nat) (x1 : Nat) (x3 : Int32) (x4 : Int32) (x5 : Int32) (x6 : Int32) : Prop := J_X6_pass len r (fun (q79 : Int32) (i79 : jI) (j79 : jL) => ∀ v83 : Int32, v83 = x4 ||| q79 → (J_X6_pass len r (fun (q92 : Int32) (i92 : jI) (j92 : jL) => ∀ v96 : Int32, v96 = v83 ||| q92 → (J_X6_spread_L98 len r Q Hd29 Hd48 i92 j92 x0 x1 x3 v96 x5 x6)) i79 j79 x0 x1 x6 (1 : Int32))) i j x0 x1 x6 (0 : Int32)
def J_X6_spread_L48 (len : Nat → Nat) (r : jR) (Q : jI → jL → Prop) (Hd29 : jI → jL → Nat → Nat → Int32 → Int32 → Int32 → Prop) : Nat → jI → jL → Nat → Nat → Int32 → Int32 → Int32 → Int32 → Prop
  | 0 => fun _ _ _ _ _ _ _ _ => False
  | g + 1 => fun i j x0 x1 x3 x4 x5 x6 => (((i x1 0) ≤ x6) → (∀ v104 : Int32, v104 = x5 + (1 : Int32) → (Hd29 i j x0 x1 x3 x4 v104))) ∧ ((¬ (i x1 0) ≤ x6) → (((¬ x3 = 0) → (J_X6_spread_L72 len r Q Hd29 (J_X6_spread_L48 len r Q Hd29 g) i j x0 x1 x3 x4 x5 x6)) ∧ ((x3 = 0) → (∃ a62, r x1 6 = some a62 ∧ (vp_in x6 (len a62) ∧ (((¬ (i a62 x6.toNatClampNeg) = (-1 : Int32)) → (J_X6_spread_L98 len r Q Hd29 (J_X6_spread_L48 len r Q Hd29 g) i j x0 x1 x3 x4 x5 x6)) ∧ (((i a62 x6.toNatClampNeg) = (-1 : Int32)) → (J_X6_spread_L72 len r Q Hd29 (J_X6_spread_L48 len r Q Hd29 g) i j x0 x1 x3 x4 x5 x6))))))))
def J_X6_spread_L29 (len : Nat → Nat) (r : jR) (Q : jI → jL → Prop) : Nat → jI → jL → Nat → Nat → Int32 → Int32 → Int32 → Prop
  | 0 => fun _ _ _ _ _ _ _ => False
  | g + 1 => fun i j x0 x1 x3 x4 x5 => ((x4 = 0) → (Q i j)) ∧ ((¬ x4 = 0) → ((((896 : Int32) < x5) → (Q i j)) ∧ ((¬ (896 : Int32) < x5) → (∃ g0, J_X6_spread_L48 len r Q (J_X6_spread_L29 len r Q g) g0 i j x0 x1 x3 (0 : Int32) x5 (0 : Int32)))))
def J_X6_spread (len : Nat → Nat) (r : jR) (Q : jI → jL → Prop) (i : jI) (j : jL) (x0 : Nat) (x1 : Nat) (x2 : Int32) (x3 : Int32) : Prop := ∃ a1, r x0 0 = some a1 ∧ (J_J7_fill_d0a16 len r (fun (i5 : jI) (j5 : jL) => ∃ a9, r x0 0 = some a9 ∧ (J_X7_marksOf len r (fun (q18 : Int32) (i18 : jI) (j18 : jL) => vp_in (x2 / (64 : Int32)) (len a9) ∧ ∀ j22 : jL, j22 = jul j18 a9 (x2 / (64 : Int32)).toNatClampNeg ((1 : Int64) <<< (q18.toInt64 &&& 63)) → (∃ g0, J_X6_spread_L29 len r Q g0 i18 j22 x0 x1 x3 (1 : Int32) (0 : Int32))) i5 j5 x2)) i j a1 (0 : Int64))
abbrev rm_X6_spread : Room := { frames := 2, cells := 0, slots := 0, locals := 56 }
variable {p : Program} {l : Launch} {e : Env} {s : State} {m : MethodId} {args : Array Value} {below : List Frame} {meth : Method} {c : Code} {b tU n : Nat} {cy : Nat → ClassId} {D : va_G} {K len : Nat → Nat} {r : jR} {Q : jI → jL → Prop}
theorem hiX6_X6_spread : ∀ w ∈ u_ws RX6 TX6 2, w ∈ wsX6_spread := by decide +kernel
theorem hiX8_X6_spread : ∀ w ∈ u_ws RX8 TX8 8, w ∈ wsX6_spread := by decide +kernel
set_option maxHeartbeats 4000000 in
set_option maxRecDepth 100000 in
theorem w_X6_spread_L98 (C0 : jCx p s m args c cX6_spread 7 wsX6_spread RX6 b cy D tU n K r) (hr : meth.sig.returnType = none) (hlk : meth.locks = false) {Hd29 : jI → jL → Nat → Nat → Int32 → Int32 → Int32 → Prop} (k29 : ∀ {H : Heap} {locs : List Loc} {ls : Array Slot} {i : jI} {j : jL} {x0 : Nat} {x1 : Nat} {x3 : Int32} {x4 : Int32} {x5 : Int32} (w : jDy b cy D n K len r i j s H locs) (hx0 : x0 < n ∧ K x0 = 6) (hx1 : x1 < n ∧ K x1 = 7) (hl : lv_has ls 7 [(0, .ref (b + x0)), (1, .ref (b + x1)), (3, .int x3), (4, .int x4), (5, .int x5)]) (h : Hd29 i j x0 x1 x3 x4 x5), W p l e rm_X6_spread s m args below meth c H locs 0 0 (MQ below (jQv b cy D tU n K len r Q) args s 0 0 (jA b)) (F0 m 29 ls [])) {Hd48 : jI → jL → Nat → Nat → Int32 → Int32 → Int32 → Int32 → Prop} (k48 : ∀ {H : Heap} {locs : List Loc} {ls : Array Slot} {i : jI} {j : jL} {x0 : Nat} {x1 : Nat} {x3 : Int32} {x4 : Int32} {x5 : Int32} {x6 : Int32} (w : jDy b cy D n K len r i j s H locs) (hx0 : x0 < n ∧ K x0 = 6) (hx1 : x1 < n ∧ K x1 = 7) (hl : lv_has ls 7 [(0, .ref (b + x0)), (1, .ref (b + x1)), (3, .int x3), (4, .int x4), (5, .int x5), (6, .int x6)]) (h : Hd48 i j x0 x1 x3 x4 x5 x6), W p l e rm_X6_spread s m args below meth c H locs 0 0 (MQ below (jQv b cy D tU n K len r Q) args s 0 0 (jA b)) (F0 m 48 ls [])) {H : Heap} {locs : List Loc} {ls : Array Slot} {i : jI} {j : jL} {x0 : Nat} {x1 : Nat} {x3 : Int32} {x4 : Int32} {x5 : Int32} {x6 : Int32} (w : jDy b cy D n K len r i j s H locs) (hx0 : x0 < n ∧ K x0 = 6) (hx1 : x1 < n ∧ K x1 = 7) (hl : lv_has ls 7 [(0, .ref (b + x0)), (1, .ref (b + x1)), (3, .int x3), (4, .int x4), (5, .int x5), (6, .int x6)]) (h : J_X6_spread_L98 len r Q Hd29 Hd48 i j x0 x1 x3 x4 x5 x6) : W p l e rm_X6_spread s m args below meth c H locs 0 0 (MQ below (jQv b cy D tU n K len r Q) args s 0 0 (jA b)) (F0 m 98 ls []) := by
  obtain ⟨hx, hb, hml, hown, hts, hst, hG⟩ := id C0
  have hiX6 : ∀ w ∈ u_ws RX6 TX6 2, w ∈ wsX6_spread := hiX6_X6_spread
  have hiX8 : ∀ w ∈ u_ws RX8 TX8 8, w ∈ wsX6_spread := hiX8_X6_spread
  rw [J_X6_spread_L98] at h
  obtain ⟨v98, he⟩ : ∃ z : Int32, z = x6 + (1 : Int32) := ⟨_, rfl⟩
  replace h := h v98 he
  refine lv_iinc (v := v98) (lv' := [(6, .int v98), (0, .ref (b + x0)), (1, .ref (b + x1)), (3, .int x3), (4, .int x4), (5, .int x5)]) hx hb dX6_spread_98 hl (k := 5) rfl (by rw [he]; rfl) (by decide) rfl (fun ls hl => ?_)
  clear he
  refine lv_goto (tgt := 48) hx hb dX6_spread_101 (by decide) ?_
  exact k48 w hx0 hx1 (lv_sub hl [1, 2, 3, 4, 5, 0] rfl) h
set_option maxHeartbeats 4000000 in
set_option maxRecDepth 100000 in
theorem w_X6_spread_L72 (C0 : jCx p s m args c cX6_spread 7 wsX6_spread RX6 b cy D tU n K r) (hr : meth.sig.returnType = none) (hlk : meth.locks = false) {Hd29 : jI → jL → Nat → Nat → Int32 → Int32 → Int32 → Prop} (k29 : ∀ {H : Heap} {locs : List Loc} {ls : Array Slot} {i : jI} {j : jL} {x0 : Nat} {x1 : Nat} {x3 : Int32} {x4 : Int32} {x5 : Int32} (w : jDy b cy D n K len r i j s H locs) (hx0 : x0 < n ∧ K x0 = 6) (hx1 : x1 < n ∧ K x1 = 7) (hl : lv_has ls 7 [(0, .ref (b + x0)), (1, .ref (b + x1)), (3, .int x3), (4, .int x4), (5, .int x5)]) (h : Hd29 i j x0 x1 x3 x4 x5), W p l e rm_X6_spread s m args below meth c H locs 0 0 (MQ below (jQv b cy D tU n K len r Q) args s 0 0 (jA b)) (F0 m 29 ls [])) {Hd48 : jI → jL → Nat → Nat → Int32 → Int32 → Int32 → Int32 → Prop} (k48 : ∀ {H : Heap} {locs : List Loc} {ls : Array Slot} {i : jI} {j : jL} {x0 : Nat} {x1 : Nat} {x3 : Int32} {x4 : Int32} {x5 : Int32} {x6 : Int32} (w : jDy b cy D n K len r i j s H locs) (hx0 : x0 < n ∧ K x0 = 6) (hx1 : x1 < n ∧ K x1 = 7) (hl : lv_has ls 7 [(0, .ref (b + x0)), (1, .ref (b + x1)), (3, .int x3), (4, .int x4), (5, .int x5), (6, .int x6)]) (h : Hd48 i j x0 x1 x3 x4 x5 x6), W p l e rm_X6_spread s m args below meth c H locs 0 0 (MQ below (jQv b cy D tU n K len r Q) args s 0 0 (jA b)) (F0 m 48 ls [])) {H : Heap} {locs : List Loc} {ls : Array Slot} {i : jI} {j : jL} {x0 : Nat} {x1 : Nat} {x3 : Int32} {x4 : Int32} {x5 : Int32} {x6 : Int32} (w : jDy b cy D n K len r i j s H locs) (hx0 : x0 < n ∧ K x0 = 6) (hx1 : x1 < n ∧ K x1 = 7) (hl : lv_has ls 7 [(0, .ref (b + x0)), (1, .ref (b + x1)), (3, .int x3), (4, .int x4), (5, .int x5), (6, .int x6)]) (h : J_X6_spread_L72 len r Q Hd29 Hd48 i j x0 x1 x3 x4 x5 x6) : W p l e rm_X6_spread s m args below meth c H locs 0 0 (MQ below (jQv b cy D tU n K len r Q) args s 0 0 (jA b)) (F0 m 72 ls []) := by
  obtain ⟨hx, hb, hml, hown, hts, hst, hG⟩ := id C0
  have hiX6 : ∀ w ∈ u_ws RX6 TX6 2, w ∈ wsX6_spread := hiX6_X6_spread
  have hiX8 : ∀ w ∈ u_ws RX8 TX8 8, w ∈ wsX6_spread := hiX8_X6_spread
  rw [J_X6_spread_L72] at h
  refine lv_iload hx hb dX6_spread_72 (lv_at hl 3 rfl) ?_
  refine lv_aload_n hx hb dX6_spread_74 rfl (lv_at hl 0 rfl) ?_
  refine lv_aload_n hx hb dX6_spread_75 rfl (lv_at hl 1 rfl) ?_
  refine lv_iload hx hb dX6_spread_76 (lv_at hl 5 rfl) ?_
  refine lv_iconst (v := (0 : Int32)) hx hb dX6_spread_78 (by decide) ?_
  refine jcV_i (k := x0) (As := [.ref (b + x1), .int x6, .int (0 : Int32)]) (rest := [.int x4]) C0 w (c_X6_pass hG hx0 hx1 h) (cwV 3 hts gX6_spread_X6_pass rfl rfl rfl (by decide +kernel) ⟨Nat.le_of_ble_eq_true rfl, Nat.le_of_ble_eq_true rfl⟩) hx0 (rfl : vwCl[6]? = some (RX6, TX6, 2)) (by decide) rfl hl.1 rfl (Nat.le_of_ble_eq_true rfl) dX6_spread_79 (fun q79 i79 j79 H locs h w => ?_) ⟨Nat.zero_le _, Nat.zero_le _⟩
  refine lv_ior hx hb dX6_spread_82 ?_
  refine lv_topi (fun v83 he => ?_)
  replace h := h v83 he
  clear he
  refine lv_istore (lv' := [(4, .int v83), (0, .ref (b + x0)), (1, .ref (b + x1)), (3, .int x3), (5, .int x5), (6, .int x6)]) hx hb dX6_spread_83 hl (by decide) rfl (fun ls hl => ?_)
  refine lv_iload hx hb dX6_spread_85 (lv_at hl 0 rfl) ?_
  refine lv_aload_n hx hb dX6_spread_87 rfl (lv_at hl 1 rfl) ?_
  refine lv_aload_n hx hb dX6_spread_88 rfl (lv_at hl 2 rfl) ?_
  refine lv_iload hx hb dX6_spread_89 (lv_at hl 5 rfl) ?_
  refine lv_iconst (v := (1 : Int32)) hx hb dX6_spread_91 (by decide) ?_
  refine jcV_i (k := x0) (As := [.ref (b + x1), .int x6, .int (1 : Int32)]) (rest := [.int v83]) C0 w (c_X6_pass hG hx0 hx1 h) (cwV 3 hts gX6_spread_X6_pass rfl rfl rfl (by decide +kernel) ⟨Nat.le_of_ble_eq_true rfl, Nat.le_of_ble_eq_true rfl⟩) hx0 (rfl : vwCl[6]? = some (RX6, TX6, 2)) (by decide) rfl hl.1 rfl (Nat.le_of_ble_eq_true rfl) dX6_spread_92 (fun q92 i92 j92 H locs h w => ?_) ⟨Nat.zero_le _, Nat.zero_le _⟩
  refine lv_ior hx hb dX6_spread_95 ?_
  refine lv_topi (fun v96 he => ?_)
  replace h := h v96 he
  clear he
  refine lv_istore (lv' := [(4, .int v96), (0, .ref (b + x0)), (1, .ref (b + x1)), (3, .int x3), (5, .int x5), (6, .int x6)]) hx hb dX6_spread_96 hl (by decide) rfl (fun ls hl => ?_)
  exact w_X6_spread_L98 C0 hr hlk (fun w hx0 hx1 hl h => k29 w hx0 hx1 hl h) (fun w hx0 hx1 hl h => k48 w hx0 hx1 hl h) w hx0 hx1 (lv_sub hl [1, 2, 3, 0, 4, 5] rfl) h
set_option maxHeartbeats 4000000 in
set_option maxRecDepth 100000 in
theorem w_X6_spread_L48 (C0 : jCx p s m args c cX6_spread 7 wsX6_spread RX6 b cy D tU n K r) (hr : meth.sig.returnType = none) (hlk : meth.locks = false) {Hd29 : jI → jL → Nat → Nat → Int32 → Int32 → Int32 → Prop} (k29 : ∀ {H : Heap} {locs : List Loc} {ls : Array Slot} {i : jI} {j : jL} {x0 : Nat} {x1 : Nat} {x3 : Int32} {x4 : Int32} {x5 : Int32} (w : jDy b cy D n K len r i j s H locs) (hx0 : x0 < n ∧ K x0 = 6) (hx1 : x1 < n ∧ K x1 = 7) (hl : lv_has ls 7 [(0, .ref (b + x0)), (1, .ref (b + x1)), (3, .int x3), (4, .int x4), (5, .int x5)]) (h : Hd29 i j x0 x1 x3 x4 x5), W p l e rm_X6_spread s m args below meth c H locs 0 0 (MQ below (jQv b cy D tU n K len r Q) args s 0 0 (jA b)) (F0 m 29 ls [])) : ∀ (g : Nat) {H : Heap} {locs : List Loc} {ls : Array Slot} {i : jI} {j : jL} {x0 : Nat} {x1 : Nat} {x3 : Int32} {x4 : Int32} {x5 : Int32} {x6 : Int32} (w : jDy b cy D n K len r i j s H locs) (hx0 : x0 < n ∧ K x0 = 6) (hx1 : x1 < n ∧ K x1 = 7) (hl : lv_has ls 7 [(0, .ref (b + x0)), (1, .ref (b + x1)), (3, .int x3), (4, .int x4), (5, .int x5), (6, .int x6)]) (h : J_X6_spread_L48 len r Q Hd29 g i j x0 x1 x3 x4 x5 x6), W p l e rm_X6_spread s m args below meth c H locs 0 0 (MQ below (jQv b cy D tU n K len r Q) args s 0 0 (jA b)) (F0 m 48 ls []) := by
  obtain ⟨hx, hb, hml, hown, hts, hst, hG⟩ := id C0
  have hiX6 : ∀ w ∈ u_ws RX6 TX6 2, w ∈ wsX6_spread := hiX6_X6_spread
  have hiX8 : ∀ w ∈ u_ws RX8 TX8 8, w ∈ wsX6_spread := hiX8_X6_spread
  intro g
  induction g with
  | zero => intro H locs ls i j x0 x1 x3 x4 x5 x6 w hx0 hx1 hl h; exact False.elim h
  | succ g ih =>
    intro H locs ls i j x0 x1 x3 x4 x5 x6 w hx0 hx1 hl h
    rw [J_X6_spread_L48] at h
    refine lv_iload hx hb dX6_spread_48 (lv_at hl 5 rfl) ?_
    refine lv_aload_n hx hb dX6_spread_50 rfl (lv_at hl 1 rfl) ?_
    refine jgi (f := 0) hx hb hts hown hst w hx1 hiX8 (rfl : vwCl[7]? = some (RX8, TX8, 8)) (hts (.fieldLink RX6 36 "FootByGate$Town" "streets" "I") (by decide +kernel)) ⟨by decide, by decide, rfl⟩ dX6_spread_51 ?_
    refine lv_icmp_ge (tgt := 104) hx hb dX6_spread_54 (by decide) (fun hc => ?_) (fun hc => ?_)
    · replace h := h.1 hc
      clear hc
      obtain ⟨v104, he⟩ : ∃ z : Int32, z = x5 + (1 : Int32) := ⟨_, rfl⟩
      replace h := h v104 he
      refine lv_iinc (v := v104) (lv' := [(5, .int v104), (0, .ref (b + x0)), (1, .ref (b + x1)), (3, .int x3), (4, .int x4), (6, .int x6)]) hx hb dX6_spread_104 hl (k := 4) rfl (by rw [he]; rfl) (by decide) rfl (fun ls hl => ?_)
      clear he
      refine lv_goto (tgt := 29) hx hb dX6_spread_107 (by decide) ?_
      exact k29 w hx0 hx1 (lv_sub hl [1, 2, 3, 4, 0] rfl) h
    · replace h := h.2 hc
      clear hc
      refine lv_iload_n hx hb dX6_spread_57 rfl (lv_at hl 2 rfl) ?_
      refine lv_if_ne (tgt := 72) hx hb dX6_spread_58 (by decide) (fun hc => ?_) (fun hc => ?_)
      · replace h := h.1 hc
        clear hc
        exact w_X6_spread_L72 C0 hr hlk (fun w hx0 hx1 hl h => k29 w hx0 hx1 hl h) (fun w hx0 hx1 hl h => ih w hx0 hx1 hl h) w hx0 hx1 (lv_sub hl [0, 1, 2, 3, 4, 5] rfl) h
      · replace h := h.2 hc
        clear hc
        refine lv_aload_n hx hb dX6_spread_61 rfl (lv_at hl 1 rfl) ?_
        obtain ⟨a62, hr0, h⟩ := h
        refine jgr (f := 6) hx hb hts hown hst w hG hx1 hiX8 (rfl : vwCl[7]? = some (RX8, TX8, 8)) (hts (.fieldLink RX6 42 "FootByGate$Town" "gate" "[I") (by decide +kernel)) ⟨by decide, by decide, rfl⟩ (rfl : jrt 7 6 = 13) dX6_spread_62 hr0 (fun ha62 => ?_)
        clear hr0
        refine lv_iload hx hb dX6_spread_65 (lv_at hl 5 rfl) ?_
        obtain ⟨hn, h⟩ := h
        refine jaid hx hb hst w ha62 hn dX6_spread_67 ?_
        clear hn
        refine lv_iconst (v := (-1 : Int32)) hx hb dX6_spread_68 (by decide) ?_
        refine lv_icmp_ne (tgt := 98) hx hb dX6_spread_69 (by decide) (fun hc => ?_) (fun hc => ?_)
        · replace h := h.1 hc
          clear hc
          exact w_X6_spread_L98 C0 hr hlk (fun w hx0 hx1 hl h => k29 w hx0 hx1 hl h) (fun w hx0 hx1 hl h => ih w hx0 hx1 hl h) w hx0 hx1 (lv_sub hl [0, 1, 2, 3, 4, 5] rfl) h
        · replace h := h.2 hc
          clear hc
          exact w_X6_spread_L72 C0 hr hlk (fun w hx0 hx1 hl h => k29 w hx0 hx1 hl h) (fun w hx0 hx1 hl h => ih w hx0 hx1 hl h) w hx0 hx1 (lv_sub hl [0, 1, 2, 3, 4, 5] rfl) h
set_option maxHeartbeats 4000000 in
set_option maxRecDepth 100000 in
theorem w_X6_spread_L29 (C0 : jCx p s m args c cX6_spread 7 wsX6_spread RX6 b cy D tU n K r) (hr : meth.sig.returnType = none) (hlk : meth.locks = false) : ∀ (g : Nat) {H : Heap} {locs : List Loc} {ls : Array Slot} {i : jI} {j : jL} {x0 : Nat} {x1 : Nat} {x3 : Int32} {x4 : Int32} {x5 : Int32} (w : jDy b cy D n K len r i j s H locs) (hx0 : x0 < n ∧ K x0 = 6) (hx1 : x1 < n ∧ K x1 = 7) (hl : lv_has ls 7 [(0, .ref (b + x0)), (1, .ref (b + x1)), (3, .int x3), (4, .int x4), (5, .int x5)]) (h : J_X6_spread_L29 len r Q g i j x0 x1 x3 x4 x5), W p l e rm_X6_spread s m args below meth c H locs 0 0 (MQ below (jQv b cy D tU n K len r Q) args s 0 0 (jA b)) (F0 m 29 ls []) := by
  obtain ⟨hx, hb, hml, hown, hts, hst, hG⟩ := id C0
  have hiX6 : ∀ w ∈ u_ws RX6 TX6 2, w ∈ wsX6_spread := hiX6_X6_spread
  have hiX8 : ∀ w ∈ u_ws RX8 TX8 8, w ∈ wsX6_spread := hiX8_X6_spread
  intro g
  induction g with
  | zero => intro H locs ls i j x0 x1 x3 x4 x5 w hx0 hx1 hl h; exact False.elim h
  | succ g ih =>
    intro H locs ls i j x0 x1 x3 x4 x5 w hx0 hx1 hl h
    rw [J_X6_spread_L29] at h
    refine lv_iload hx hb dX6_spread_29 (lv_at hl 3 rfl) ?_
    refine lv_if_eq (tgt := 110) hx hb dX6_spread_31 (by decide) (fun hc => ?_) (fun hc => ?_)
    · replace h := h.1 hc
      clear hc
      exact jret_v hx hb hr hlk hst w h dX6_spread_110
    · replace h := h.2 hc
      clear hc
      refine lv_iload hx hb dX6_spread_34 (lv_at hl 4 rfl) ?_
      refine lv_sipush (v := (896 : Int32)) hx hb dX6_spread_36 (by decide) ?_
      refine lv_icmp_gt (tgt := 110) hx hb dX6_spread_39 (by decide) (fun hc => ?_) (fun hc => ?_)
      · replace h := h.1 hc
        clear hc
        exact jret_v hx hb hr hlk hst w h dX6_spread_110
      · replace h := h.2 hc
        clear hc
        refine lv_iconst (v := (0 : Int32)) hx hb dX6_spread_42 (by decide) ?_
        refine lv_istore (lv' := [(4, .int (0 : Int32)), (0, .ref (b + x0)), (1, .ref (b + x1)), (3, .int x3), (5, .int x5)]) hx hb dX6_spread_43 hl (by decide) rfl (fun ls hl => ?_)
        refine lv_iconst (v := (0 : Int32)) hx hb dX6_spread_45 (by decide) ?_
        refine lv_istore (lv' := [(6, .int (0 : Int32)), (4, .int (0 : Int32)), (0, .ref (b + x0)), (1, .ref (b + x1)), (3, .int x3), (5, .int x5)]) hx hb dX6_spread_46 hl (by decide) rfl (fun ls hl => ?_)
        obtain ⟨g0, h⟩ := h
        exact w_X6_spread_L48 C0 hr hlk (fun w hx0 hx1 hl h => ih w hx0 hx1 hl h) g0 w hx0 hx1 (lv_sub hl [2, 3, 4, 1, 5, 0] rfl) h
set_option maxHeartbeats 4000000 in
set_option maxRecDepth 100000 in
theorem c_X6_spread (hG : jG n K r) {i : jI} {j : jL} {x0 : Nat} {x1 : Nat} {x2 : Int32} {x3 : Int32} (hx0 : x0 < n ∧ K x0 = 6) (hx1 : x1 < n ∧ K x1 = 7) (h : J_X6_spread len r Q i j x0 x1 x2 x3) : Met l yX6_spread wsX6_spread rm_X6_spread (va_Pc [.ref (b + x0), .ref (b + x1), .int x2, .int x3] (jPre b cy D tU n K len r i j)) (jQv b cy D tU n K len r Q) 0 0 (jA b) := by
  refine Met.ofW (cc := cX6_spread) (maxL := 7) (ret := none) (by decide) rfl ?_
  intro p e s m args below meth c s₁ B hml hv
  obtain ⟨rfl, hv⟩ := hv
  have C0 : jCx p s m _ c cX6_spread 7 wsX6_spread RX6 b cy D tU n K r := ⟨B.exec, B.bytes, hml, findClass_of_methodNamed B.named, atoms_spec (ws := wsX6_spread) B.pre, hv.2.2, hG⟩
  have hr := B.returns
  have hlk := B.notSynchronized
  obtain ⟨hx, hb, hml, hown, hts, hst, hG⟩ := id C0
  have hiX6 : ∀ w ∈ u_ws RX6 TX6 2, w ∈ wsX6_spread := hiX6_X6_spread
  have hiX8 : ∀ w ∈ u_ws RX8 TX8 8, w ∈ wsX6_spread := hiX8_X6_spread
  have w := jDy.start hv
  have hl := lv_entry ([.ref (b + x0), .ref (b + x1), .int x2, .int x3]) (n := 7) (Nat.le_of_ble_eq_true rfl)
  rw [lg_entry_eq]
  generalize (lg_sl ([.ref (b + x0), .ref (b + x1), .int x2, .int x3]) ++ List.replicate (7 - (lg_sl ([.ref (b + x0), .ref (b + x1), .int x2, .int x3])).length) Slot.unset).toArray = ls at hl ⊢
  replace hl : lv_has ls 7 [(0, .ref (b + x0)), (1, .ref (b + x1)), (2, .int x2), (3, .int x3)] := hl
  show W p l e rm_X6_spread s m _ below meth c s.heap [] 0 0 _ (F0 m 0 ls [])
  rw [J_X6_spread] at h
  refine lv_aload_n hx hb dX6_spread_0 rfl (lv_at hl 0 rfl) ?_
  obtain ⟨a1, hr0, h⟩ := h
  refine jgr (f := 0) hx hb hts hown hst w hG hx0 hiX6 (rfl : vwCl[6]? = some (RX6, TX6, 2)) (hts (.fieldLink RX6 9 "FootByGate$Reach" "marks" "[J") (by decide +kernel)) ⟨by decide, by decide, rfl⟩ (rfl : jrt 6 0 = 14) dX6_spread_1 hr0 (fun ha1 => ?_)
  clear hr0
  refine lv_lconst (v := (0 : Int64)) hx hb dX6_spread_4 (by decide) ?_
  refine jcS_v (As := [.ref (b + a1), .long (0 : Int64)]) (rest := []) C0 w (c_J7_fill_d0a16 hG ha1 h) (va_cwS 2 hts gX6_spread_J7_fill_d0a16 rfl rfl rfl (by decide +kernel) ⟨Nat.le_of_ble_eq_true rfl, Nat.le_of_ble_eq_true rfl⟩) rfl hl.1 rfl (Nat.le_of_ble_eq_true rfl) dX6_spread_5 (fun i5 j5 H locs h w => ?_) ⟨Nat.zero_le _, Nat.zero_le _⟩
  refine lv_aload_n hx hb dX6_spread_8 rfl (lv_at hl 0 rfl) ?_
  obtain ⟨a9, hr0, h⟩ := h
  refine jgr (f := 0) hx hb hts hown hst w hG hx0 hiX6 (rfl : vwCl[6]? = some (RX6, TX6, 2)) (hts (.fieldLink RX6 9 "FootByGate$Reach" "marks" "[J") (by decide +kernel)) ⟨by decide, by decide, rfl⟩ (rfl : jrt 6 0 = 14) dX6_spread_9 hr0 (fun ha9 => ?_)
  clear hr0
  refine lv_iload_n hx hb dX6_spread_12 rfl (lv_at hl 2 rfl) ?_
  refine lv_bipush (v := (64 : Int32)) hx hb dX6_spread_13 (by decide) ?_
  refine lv_idiv hx hb dX6_spread_15 (by decide) ?_
  refine lv_lconst (v := (1 : Int64)) hx hb dX6_spread_16 (by decide) ?_
  refine lv_iload_n hx hb dX6_spread_17 rfl (lv_at hl 2 rfl) ?_
  refine jcS_i (As := [.int x2]) (rest := [.long (1 : Int64), .int (x2 / (64 : Int32)), .ref (b + a9)]) C0 w (c_X7_marksOf hG h) (va_cwS 1 hts gX6_spread_X7_marksOf rfl rfl rfl (by decide +kernel) ⟨Nat.le_of_ble_eq_true rfl, Nat.le_of_ble_eq_true rfl⟩) rfl hl.1 rfl (Nat.le_of_ble_eq_true rfl) dX6_spread_18 (fun q18 i18 j18 H locs h w => ?_) ⟨Nat.zero_le _, Nat.zero_le _⟩
  refine lv_lshl hx hb dX6_spread_21 rfl ?_
  obtain ⟨hn, h⟩ := h
  refine jast hx hb hst w ha9 hn dX6_spread_22 (fun j22 H locs he w => ?_)
  replace h := h j22 he
  clear he hn
  refine lv_iconst (v := (1 : Int32)) hx hb dX6_spread_23 (by decide) ?_
  refine lv_istore (lv' := [(4, .int (1 : Int32)), (0, .ref (b + x0)), (1, .ref (b + x1)), (2, .int x2), (3, .int x3)]) hx hb dX6_spread_24 hl (by decide) rfl (fun ls hl => ?_)
  refine lv_iconst (v := (0 : Int32)) hx hb dX6_spread_26 (by decide) ?_
  refine lv_istore (lv' := [(5, .int (0 : Int32)), (4, .int (1 : Int32)), (0, .ref (b + x0)), (1, .ref (b + x1)), (2, .int x2), (3, .int x3)]) hx hb dX6_spread_27 hl (by decide) rfl (fun ls hl => ?_)
  obtain ⟨g0, h⟩ := h
  exact w_X6_spread_L29 C0 hr hlk g0 w hx0 hx1 (lv_sub hl [2, 3, 5, 1, 0] rfl) h
end S_X6_spread
section S_X6_take
def J_X6_take_L2 (len : Nat → Nat) (r : jR) (Q : jI → jL → Prop) : Nat → jI → jL → Nat → Nat → Int32 → Int32 → Prop
  | 0 => fun _ _ _ _ _ _ => False
  | g + 1 => fun i j x0 x1 x2 x3 => ((x2 ≤ x3) → (Q i j)) ∧ ((¬ x2 ≤ x3) → (∃ a8, r x0 1 = some a8 ∧ (∃ a14, r x1 1 = some a14 ∧ (vp_in x3 (len a14) ∧ (vp_in x3 (len a8) ∧ ∀ i20 : jI, i20 = ju i a8 x3.toNatClampNeg ((1 : Int32) <<< ((i a14 x3.toNatClampNeg) &&& 31)) → (∀ v21 : Int32, v21 = x3 + (1 : Int32) → ((J_X6_take_L2 len r Q g) i20 j x0 x1 x2 v21)))))))
def J_X6_take (len : Nat → Nat) (r : jR) (Q : jI → jL → Prop) (i : jI) (j : jL) (x0 : Nat) (x1 : Nat) (x2 : Int32) : Prop := ∃ g0, J_X6_take_L2 len r Q g0 i j x0 x1 x2 (0 : Int32)
abbrev rm_X6_take : Room := { frames := 0, cells := 0, slots := 0, locals := 0 }
variable {p : Program} {l : Launch} {e : Env} {s : State} {m : MethodId} {args : Array Value} {below : List Frame} {meth : Method} {c : Code} {b tU n : Nat} {cy : Nat → ClassId} {D : va_G} {K len : Nat → Nat} {r : jR} {Q : jI → jL → Prop}
theorem hiX2_X6_take : ∀ w ∈ u_ws RX2 TX2 2, w ∈ wsX6_take := by decide +kernel
theorem hiX6_X6_take : ∀ w ∈ u_ws RX6 TX6 2, w ∈ wsX6_take := by decide +kernel
set_option maxHeartbeats 4000000 in
set_option maxRecDepth 100000 in
theorem w_X6_take_L2 (C0 : jCx p s m args c cX6_take 4 wsX6_take RX6 b cy D tU n K r) (hr : meth.sig.returnType = none) (hlk : meth.locks = false) : ∀ (g : Nat) {H : Heap} {locs : List Loc} {ls : Array Slot} {i : jI} {j : jL} {x0 : Nat} {x1 : Nat} {x2 : Int32} {x3 : Int32} (w : jDy b cy D n K len r i j s H locs) (hx0 : x0 < n ∧ K x0 = 6) (hx1 : x1 < n ∧ K x1 = 2) (hl : lv_has ls 4 [(0, .ref (b + x0)), (1, .ref (b + x1)), (2, .int x2), (3, .int x3)]) (h : J_X6_take_L2 len r Q g i j x0 x1 x2 x3), W p l e rm_X6_take s m args below meth c H locs 0 0 (MQ below (jQv b cy D tU n K len r Q) args s 0 0 (jA b)) (F0 m 2 ls []) := by
  obtain ⟨hx, hb, hml, hown, hts, hst, hG⟩ := id C0
  have hiX2 : ∀ w ∈ u_ws RX2 TX2 2, w ∈ wsX6_take := hiX2_X6_take
  have hiX6 : ∀ w ∈ u_ws RX6 TX6 2, w ∈ wsX6_take := hiX6_X6_take
  intro g
  induction g with
  | zero => intro H locs ls i j x0 x1 x2 x3 w hx0 hx1 hl h; exact False.elim h
  | succ g ih =>
    intro H locs ls i j x0 x1 x2 x3 w hx0 hx1 hl h
    rw [J_X6_take_L2] at h
    refine lv_iload_n hx hb dX6_take_2 rfl (lv_at hl 3 rfl) ?_
    refine lv_iload_n hx hb dX6_take_3 rfl (lv_at hl 2 rfl) ?_
    refine lv_icmp_ge (tgt := 27) hx hb dX6_take_4 (by decide) (fun hc => ?_) (fun hc => ?_)
    · replace h := h.1 hc
      clear hc
      exact jret_v hx hb hr hlk hst w h dX6_take_27
    · replace h := h.2 hc
      clear hc
      refine lv_aload_n hx hb dX6_take_7 rfl (lv_at hl 0 rfl) ?_
      obtain ⟨a8, hr0, h⟩ := h
      refine jgr (f := 1) hx hb hts hown hst w hG hx0 hiX6 (rfl : vwCl[6]? = some (RX6, TX6, 2)) (hts (.fieldLink RX6 15 "FootByGate$Reach" "turns" "[I") (by decide +kernel)) ⟨by decide, by decide, rfl⟩ (rfl : jrt 6 1 = 13) dX6_take_8 hr0 (fun ha8 => ?_)
      clear hr0
      refine lv_iload_n hx hb dX6_take_11 rfl (lv_at hl 3 rfl) ?_
      refine lv_iconst (v := (1 : Int32)) hx hb dX6_take_12 (by decide) ?_
      refine lv_aload_n hx hb dX6_take_13 rfl (lv_at hl 1 rfl) ?_
      obtain ⟨a14, hr0, h⟩ := h
      refine jgr (f := 1) hx hb hts hown hst w hG hx1 hiX2 (rfl : vwCl[2]? = some (RX2, TX2, 2)) (hts (.fieldLink RX6 19 "FootByGate$Gait" "turn" "[I") (by decide +kernel)) ⟨by decide, by decide, rfl⟩ (rfl : jrt 2 1 = 13) dX6_take_14 hr0 (fun ha14 => ?_)
      clear hr0
      refine lv_iload_n hx hb dX6_take_17 rfl (lv_at hl 3 rfl) ?_
      obtain ⟨hn, h⟩ := h
      refine jaid hx hb hst w ha14 hn dX6_take_18 ?_
      clear hn
      refine lv_ishl hx hb dX6_take_19 ?_
      obtain ⟨hn, h⟩ := h
      refine jais hx hb hst w ha8 hn dX6_take_20 (fun i20 H locs he w => ?_)
      replace h := h i20 he
      clear he hn
      obtain ⟨v21, he⟩ : ∃ z : Int32, z = x3 + (1 : Int32) := ⟨_, rfl⟩
      replace h := h v21 he
      refine lv_iinc (v := v21) (lv' := [(3, .int v21), (0, .ref (b + x0)), (1, .ref (b + x1)), (2, .int x2)]) hx hb dX6_take_21 hl (k := 3) rfl (by rw [he]; rfl) (by decide) rfl (fun ls hl => ?_)
      clear he
      refine lv_goto (tgt := 2) hx hb dX6_take_24 (by decide) ?_
      exact ih w hx0 hx1 (lv_sub hl [1, 2, 3, 0] rfl) h
set_option maxHeartbeats 4000000 in
set_option maxRecDepth 100000 in
theorem c_X6_take (hG : jG n K r) {i : jI} {j : jL} {x0 : Nat} {x1 : Nat} {x2 : Int32} (hx0 : x0 < n ∧ K x0 = 6) (hx1 : x1 < n ∧ K x1 = 2) (h : J_X6_take len r Q i j x0 x1 x2) : Met l yX6_take wsX6_take rm_X6_take (va_Pc [.ref (b + x0), .ref (b + x1), .int x2] (jPre b cy D tU n K len r i j)) (jQv b cy D tU n K len r Q) 0 0 (jA b) := by
  refine Met.ofW (cc := cX6_take) (maxL := 4) (ret := none) (by decide) rfl ?_
  intro p e s m args below meth c s₁ B hml hv
  obtain ⟨rfl, hv⟩ := hv
  have C0 : jCx p s m _ c cX6_take 4 wsX6_take RX6 b cy D tU n K r := ⟨B.exec, B.bytes, hml, findClass_of_methodNamed B.named, atoms_spec (ws := wsX6_take) B.pre, hv.2.2, hG⟩
  have hr := B.returns
  have hlk := B.notSynchronized
  obtain ⟨hx, hb, hml, hown, hts, hst, hG⟩ := id C0
  have hiX2 : ∀ w ∈ u_ws RX2 TX2 2, w ∈ wsX6_take := hiX2_X6_take
  have hiX6 : ∀ w ∈ u_ws RX6 TX6 2, w ∈ wsX6_take := hiX6_X6_take
  have w := jDy.start hv
  have hl := lv_entry ([.ref (b + x0), .ref (b + x1), .int x2]) (n := 4) (Nat.le_of_ble_eq_true rfl)
  rw [lg_entry_eq]
  generalize (lg_sl ([.ref (b + x0), .ref (b + x1), .int x2]) ++ List.replicate (4 - (lg_sl ([.ref (b + x0), .ref (b + x1), .int x2])).length) Slot.unset).toArray = ls at hl ⊢
  replace hl : lv_has ls 4 [(0, .ref (b + x0)), (1, .ref (b + x1)), (2, .int x2)] := hl
  show W p l e rm_X6_take s m _ below meth c s.heap [] 0 0 _ (F0 m 0 ls [])
  rw [J_X6_take] at h
  refine lv_iconst (v := (0 : Int32)) hx hb dX6_take_0 (by decide) ?_
  refine lv_istore_n (lv' := [(3, .int (0 : Int32)), (0, .ref (b + x0)), (1, .ref (b + x1)), (2, .int x2)]) hx hb dX6_take_1 rfl hl (by decide) rfl (fun ls hl => ?_)
  obtain ⟨g0, h⟩ := h
  exact w_X6_take_L2 C0 hr hlk g0 w hx0 hx1 (lv_sub hl [1, 2, 3, 0] rfl) h
end S_X6_take
section S_X6_turnAt
def J_X6_turnAt_L26 (len : Nat → Nat) (r : jR) (Q : jI → jL → Prop) (Hd2 : jI → jL → Nat → Int32 → Int32 → Prop) (i : jI) (j : jL) (x0 : Nat) (x1 : Int32) (x2 : Int32) : Prop := ∀ v26 : Int32, v26 = x2 + (1 : Int32) → (Hd2 i j x0 x1 v26)
def J_X6_turnAt_L2 (len : Nat → Nat) (r : jR) (Q : jI → jL → Prop) : Nat → jI → jL → Nat → Int32 → Int32 → Prop
  | 0 => fun _ _ _ _ _ => False
  | g + 1 => fun i j x0 x1 x2 => (((10 : Int32) ≤ x2) → (Q i j)) ∧ ((¬ (10 : Int32) ≤ x2) → (((((x1 >>> (x2 &&& 31)) &&& (1 : Int32)) = 0) → (J_X6_turnAt_L26 len r Q (J_X6_turnAt_L2 len r Q g) i j x0 x1 x2)) ∧ ((¬ ((x1 >>> (x2 &&& 31)) &&& (1 : Int32)) = 0) → (∃ a17, r x0 1 = some a17 ∧ (vp_in x2 (len a17) ∧ (vp_in x2 (len a17) ∧ ∀ i25 : jI, i25 = ju i a17 x2.toNatClampNeg ((i a17 x2.toNatClampNeg) ^^^ (3 : Int32)) → (J_X6_turnAt_L26 len r Q (J_X6_turnAt_L2 len r Q g) i25 j x0 x1 x2)))))))
def J_X6_turnAt (len : Nat → Nat) (r : jR) (Q : jI → jL → Prop) (i : jI) (j : jL) (x0 : Nat) (x1 : Int32) : Prop := ∃ g0, J_X6_turnAt_L2 len r Q g0 i j x0 x1 (0 : Int32)
abbrev rm_X6_turnAt : Room := { frames := 0, cells := 0, slots := 0, locals := 0 }
variable {p : Program} {l : Launch} {e : Env} {s : State} {m : MethodId} {args : Array Value} {below : List Frame} {meth : Method} {c : Code} {b tU n : Nat} {cy : Nat → ClassId} {D : va_G} {K len : Nat → Nat} {r : jR} {Q : jI → jL → Prop}
theorem hiX6_X6_turnAt : ∀ w ∈ u_ws RX6 TX6 2, w ∈ wsX6_turnAt := by decide +kernel
set_option maxHeartbeats 4000000 in
set_option maxRecDepth 100000 in
theorem w_X6_turnAt_L26 (C0 : jCx p s m args c cX6_turnAt 3 wsX6_turnAt RX6 b cy D tU n K r) (hr : meth.sig.returnType = none) (hlk : meth.locks = false) {Hd2 : jI → jL → Nat → Int32 → Int32 → Prop} (k2 : ∀ {H : Heap} {locs : List Loc} {ls : Array Slot} {i : jI} {j : jL} {x0 : Nat} {x1 : Int32} {x2 : Int32} (w : jDy b cy D n K len r i j s H locs) (hx0 : x0 < n ∧ K x0 = 6) (hl : lv_has ls 3 [(0, .ref (b + x0)), (1, .int x1), (2, .int x2)]) (h : Hd2 i j x0 x1 x2), W p l e rm_X6_turnAt s m args below meth c H locs 0 0 (MQ below (jQv b cy D tU n K len r Q) args s 0 0 (jA b)) (F0 m 2 ls [])) {H : Heap} {locs : List Loc} {ls : Array Slot} {i : jI} {j : jL} {x0 : Nat} {x1 : Int32} {x2 : Int32} (w : jDy b cy D n K len r i j s H locs) (hx0 : x0 < n ∧ K x0 = 6) (hl : lv_has ls 3 [(0, .ref (b + x0)), (1, .int x1), (2, .int x2)]) (h : J_X6_turnAt_L26 len r Q Hd2 i j x0 x1 x2) : W p l e rm_X6_turnAt s m args below meth c H locs 0 0 (MQ below (jQv b cy D tU n K len r Q) args s 0 0 (jA b)) (F0 m 26 ls []) := by
  obtain ⟨hx, hb, hml, hown, hts, hst, hG⟩ := id C0
  have hiX6 : ∀ w ∈ u_ws RX6 TX6 2, w ∈ wsX6_turnAt := hiX6_X6_turnAt
  rw [J_X6_turnAt_L26] at h
  obtain ⟨v26, he⟩ : ∃ z : Int32, z = x2 + (1 : Int32) := ⟨_, rfl⟩
  replace h := h v26 he
  refine lv_iinc (v := v26) (lv' := [(2, .int v26), (0, .ref (b + x0)), (1, .int x1)]) hx hb dX6_turnAt_26 hl (k := 2) rfl (by rw [he]; rfl) (by decide) rfl (fun ls hl => ?_)
  clear he
  refine lv_goto (tgt := 2) hx hb dX6_turnAt_29 (by decide) ?_
  exact k2 w hx0 (lv_sub hl [1, 2, 0] rfl) h
set_option maxHeartbeats 4000000 in
set_option maxRecDepth 100000 in
theorem w_X6_turnAt_L2 (C0 : jCx p s m args c cX6_turnAt 3 wsX6_turnAt RX6 b cy D tU n K r) (hr : meth.sig.returnType = none) (hlk : meth.locks = false) : ∀ (g : Nat) {H : Heap} {locs : List Loc} {ls : Array Slot} {i : jI} {j : jL} {x0 : Nat} {x1 : Int32} {x2 : Int32} (w : jDy b cy D n K len r i j s H locs) (hx0 : x0 < n ∧ K x0 = 6) (hl : lv_has ls 3 [(0, .ref (b + x0)), (1, .int x1), (2, .int x2)]) (h : J_X6_turnAt_L2 len r Q g i j x0 x1 x2), W p l e rm_X6_turnAt s m args below meth c H locs 0 0 (MQ below (jQv b cy D tU n K len r Q) args s 0 0 (jA b)) (F0 m 2 ls []) := by
  obtain ⟨hx, hb, hml, hown, hts, hst, hG⟩ := id C0
  have hiX6 : ∀ w ∈ u_ws RX6 TX6 2, w ∈ wsX6_turnAt := hiX6_X6_turnAt
  intro g
  induction g with
  | zero => intro H locs ls i j x0 x1 x2 w hx0 hl h; exact False.elim h
  | succ g ih =>
    intro H locs ls i j x0 x1 x2 w hx0 hl h
    rw [J_X6_turnAt_L2] at h
    refine lv_iload_n hx hb dX6_turnAt_2 rfl (lv_at hl 2 rfl) ?_
    refine lv_bipush (v := (10 : Int32)) hx hb dX6_turnAt_3 (by decide) ?_
    refine lv_icmp_ge (tgt := 32) hx hb dX6_turnAt_5 (by decide) (fun hc => ?_) (fun hc => ?_)
    · replace h := h.1 hc
      clear hc
      exact jret_v hx hb hr hlk hst w h dX6_turnAt_32
    · replace h := h.2 hc
      clear hc
      refine lv_iload_n hx hb dX6_turnAt_8 rfl (lv_at hl 1 rfl) ?_
      refine lv_iload_n hx hb dX6_turnAt_9 rfl (lv_at hl 2 rfl) ?_
      refine lv_ishr hx hb dX6_turnAt_10 ?_
      refine lv_iconst (v := (1 : Int32)) hx hb dX6_turnAt_11 (by decide) ?_
      refine lv_iand hx hb dX6_turnAt_12 ?_
      refine lv_if_eq (tgt := 26) hx hb dX6_turnAt_13 (by decide) (fun hc => ?_) (fun hc => ?_)
      · replace h := h.1 hc
        clear hc
        exact w_X6_turnAt_L26 C0 hr hlk (fun w hx0 hl h => ih w hx0 hl h) w hx0 (lv_sub hl [0, 1, 2] rfl) h
      · replace h := h.2 hc
        clear hc
        refine lv_aload_n hx hb dX6_turnAt_16 rfl (lv_at hl 0 rfl) ?_
        obtain ⟨a17, hr0, h⟩ := h
        refine jgr (f := 1) hx hb hts hown hst w hG hx0 hiX6 (rfl : vwCl[6]? = some (RX6, TX6, 2)) (hts (.fieldLink RX6 15 "FootByGate$Reach" "turns" "[I") (by decide +kernel)) ⟨by decide, by decide, rfl⟩ (rfl : jrt 6 1 = 13) dX6_turnAt_17 hr0 (fun ha17 => ?_)
        clear hr0
        refine lv_iload_n hx hb dX6_turnAt_20 rfl (lv_at hl 2 rfl) ?_
        refine lv_dup2_11 hx hb dX6_turnAt_21 rfl rfl ?_
        obtain ⟨hn, h⟩ := h
        refine jaid hx hb hst w ha17 hn dX6_turnAt_22 ?_
        clear hn
        refine lv_iconst (v := (3 : Int32)) hx hb dX6_turnAt_23 (by decide) ?_
        refine lv_ixor hx hb dX6_turnAt_24 ?_
        obtain ⟨hn, h⟩ := h
        refine jais hx hb hst w ha17 hn dX6_turnAt_25 (fun i25 H locs he w => ?_)
        replace h := h i25 he
        clear he hn
        exact w_X6_turnAt_L26 C0 hr hlk (fun w hx0 hl h => ih w hx0 hl h) w hx0 (lv_sub hl [0, 1, 2] rfl) h
set_option maxHeartbeats 4000000 in
set_option maxRecDepth 100000 in
theorem c_X6_turnAt (hG : jG n K r) {i : jI} {j : jL} {x0 : Nat} {x1 : Int32} (hx0 : x0 < n ∧ K x0 = 6) (h : J_X6_turnAt len r Q i j x0 x1) : Met l yX6_turnAt wsX6_turnAt rm_X6_turnAt (va_Pc [.ref (b + x0), .int x1] (jPre b cy D tU n K len r i j)) (jQv b cy D tU n K len r Q) 0 0 (jA b) := by
  refine Met.ofW (cc := cX6_turnAt) (maxL := 3) (ret := none) (by decide) rfl ?_
  intro p e s m args below meth c s₁ B hml hv
  obtain ⟨rfl, hv⟩ := hv
  have C0 : jCx p s m _ c cX6_turnAt 3 wsX6_turnAt RX6 b cy D tU n K r := ⟨B.exec, B.bytes, hml, findClass_of_methodNamed B.named, atoms_spec (ws := wsX6_turnAt) B.pre, hv.2.2, hG⟩
  have hr := B.returns
  have hlk := B.notSynchronized
  obtain ⟨hx, hb, hml, hown, hts, hst, hG⟩ := id C0
  have hiX6 : ∀ w ∈ u_ws RX6 TX6 2, w ∈ wsX6_turnAt := hiX6_X6_turnAt
  have w := jDy.start hv
  have hl := lv_entry ([.ref (b + x0), .int x1]) (n := 3) (Nat.le_of_ble_eq_true rfl)
  rw [lg_entry_eq]
  generalize (lg_sl ([.ref (b + x0), .int x1]) ++ List.replicate (3 - (lg_sl ([.ref (b + x0), .int x1])).length) Slot.unset).toArray = ls at hl ⊢
  replace hl : lv_has ls 3 [(0, .ref (b + x0)), (1, .int x1)] := hl
  show W p l e rm_X6_turnAt s m _ below meth c s.heap [] 0 0 _ (F0 m 0 ls [])
  rw [J_X6_turnAt] at h
  refine lv_iconst (v := (0 : Int32)) hx hb dX6_turnAt_0 (by decide) ?_
  refine lv_istore_n (lv' := [(2, .int (0 : Int32)), (0, .ref (b + x0)), (1, .int x1)]) hx hb dX6_turnAt_1 rfl hl (by decide) rfl (fun ls hl => ?_)
  obtain ⟨g0, h⟩ := h
  exact w_X6_turnAt_L2 C0 hr hlk g0 w hx0 (lv_sub hl [1, 2, 0] rfl) h
end S_X6_turnAt
section S_X8_read
def J_X8_read_L163 (len : Nat → Nat) (r : jR) (Q : jI → jL → Prop) (i : jI) (j : jL) (x0 : Nat) (x1 : Nat) : Prop := J_X5_hasAt len r (fun (q173 : Int32) (i173 : jI) (j173 : jL) => (q173 = 0 ∨ q173 = 1) ∧ ∀ i176 : jI, i176 = ju i173 x0 2 q173 → (Q i176 j173)) i j x1 ((i x1 1) - (1 : Int32)) (102 : Int32)
def J_X8_read_L147 (len : Nat → Nat) (r : jR) (Q : jI → jL → Prop) (Hd12 : jI → jL → Nat → Nat → Int32 → Prop) (i : jI) (j : jL) (x0 : Nat) (x1 : Nat) (x2 : Int32) : Prop := ∀ i154 : jI, i154 = ju i x0 0 ((i x0 0) + (1 : Int32)) → (∀ v157 : Int32, v157 = x2 + (1 : Int32) → (Hd12 i154 j x0 x1 v157))
def J_X8_read_L12 (len : Nat → Nat) (r : jR) (Q : jI → jL → Prop) : Nat → jI → jL → Nat → Nat → Int32 → Prop
  | 0 => fun _ _ _ _ _ => False
  | g + 1 => fun i j x0 x1 x2 => (((10 : Int32) ≤ (i x0 0)) → (J_X8_read_L163 len r Q i j x0 x1)) ∧ ((¬ (10 : Int32) ≤ (i x0 0)) → ((((i x1 1) ≤ (x2 + (2 : Int32))) → (J_X8_read_L163 len r Q i j x0 x1)) ∧ ((¬ (i x1 1) ≤ (x2 + (2 : Int32))) → (∃ a32, r x0 3 = some a32 ∧ (J_X5_digitAt len r (fun (q41 : Int32) (i41 : jI) (j41 : jL) => vp_in (i x0 0) (len a32) ∧ ∀ i44 : jI, i44 = ju i41 a32 (i x0 0).toNatClampNeg q41 → (∃ a46, r x0 4 = some a46 ∧ (J_X5_digitAt len r (fun (q57 : Int32) (i57 : jI) (j57 : jL) => vp_in (i44 x0 0) (len a46) ∧ ∀ i60 : jI, i60 = ju i57 a46 (i44 x0 0).toNatClampNeg q57 → (∃ a62, r x0 5 = some a62 ∧ (J_X5_digitAt len r (fun (q73 : Int32) (i73 : jI) (j73 : jL) => vp_in (i60 x0 0) (len a62) ∧ ∀ i76 : jI, i76 = ju i73 a62 (i60 x0 0).toNatClampNeg q73 → (∃ a78, r x0 6 = some a78 ∧ (vp_in (i76 x0 0) (len a78) ∧ ∀ i86 : jI, i86 = ju i76 a78 (i76 x0 0).toNatClampNeg (-1 : Int32) → (∀ v87 : Int32, v87 = x2 + (3 : Int32) → ((((3 : Int32) ≤ (i86 x0 1)) → (J_X8_read_L147 len r Q (J_X8_read_L12 len r Q g) i86 j73 x0 x1 v87)) ∧ ((¬ (3 : Int32) ≤ (i86 x0 1)) → (J_X5_hasAt len r (fun (q102 : Int32) (i102 : jI) (j102 : jL) => ((q102 = 0) → (J_X8_read_L147 len r Q (J_X8_read_L12 len r Q g) i102 j102 x0 x1 v87)) ∧ ((¬ q102 = 0) → (∃ a109, r x0 6 = some a109 ∧ (vp_in (i102 x0 0) (len a109) ∧ ∀ i120 : jI, i120 = ju i102 a109 (i102 x0 0).toNatClampNeg (i102 x0 1) → (∃ a122, r x0 7 = some a122 ∧ (vp_in (i120 x0 1) (len a122) ∧ ∀ i133 : jI, i133 = ju i120 a122 (i120 x0 1).toNatClampNeg (i120 x0 0) → (∀ i141 : jI, i141 = ju i133 x0 1 ((i133 x0 1) + (1 : Int32)) → (∀ v144 : Int32, v144 = v87 + (1 : Int32) → (J_X8_read_L147 len r Q (J_X8_read_L12 len r Q g) i141 j102 x0 x1 v144))))))))) i86 j73 x1 v87 (33 : Int32)))))))) i60 j57 x1 (x2 + (2 : Int32))))) i44 j41 x1 (x2 + (1 : Int32))))) i j x1 x2)))))
def J_X8_read (len : Nat → Nat) (r : jR) (Q : jI → jL → Prop) (i : jI) (j : jL) (x0 : Nat) (x1 : Nat) : Prop := ∀ i2 : jI, i2 = ju i x0 0 (0 : Int32) → (∀ i7 : jI, i7 = ju i2 x0 1 (0 : Int32) → (∃ g0, J_X8_read_L12 len r Q g0 i7 j x0 x1 (0 : Int32)))
abbrev rm_X8_read : Room := { frames := 1, cells := 0, slots := 0, locals := 22 }
variable {p : Program} {l : Launch} {e : Env} {s : State} {m : MethodId} {args : Array Value} {below : List Frame} {meth : Method} {c : Code} {b tU n : Nat} {cy : Nat → ClassId} {D : va_G} {K len : Nat → Nat} {r : jR} {Q : jI → jL → Prop}
theorem hiX5_X8_read : ∀ w ∈ u_ws RX5 TX5 5, w ∈ wsX8_read := by decide +kernel
theorem hiX8_X8_read : ∀ w ∈ u_ws RX8 TX8 8, w ∈ wsX8_read := by decide +kernel
set_option maxHeartbeats 4000000 in
set_option maxRecDepth 100000 in
theorem w_X8_read_L163 (C0 : jCx p s m args c cX8_read 3 wsX8_read RX8 b cy D tU n K r) (hr : meth.sig.returnType = none) (hlk : meth.locks = false) {H : Heap} {locs : List Loc} {ls : Array Slot} {i : jI} {j : jL} {x0 : Nat} {x1 : Nat} (w : jDy b cy D n K len r i j s H locs) (hx0 : x0 < n ∧ K x0 = 7) (hx1 : x1 < n ∧ K x1 = 5) (hl : lv_has ls 3 [(0, .ref (b + x0)), (1, .ref (b + x1))]) (h : J_X8_read_L163 len r Q i j x0 x1) : W p l e rm_X8_read s m args below meth c H locs 0 0 (MQ below (jQv b cy D tU n K len r Q) args s 0 0 (jA b)) (F0 m 163 ls []) := by
  obtain ⟨hx, hb, hml, hown, hts, hst, hG⟩ := id C0
  have hiX5 : ∀ w ∈ u_ws RX5 TX5 5, w ∈ wsX8_read := hiX5_X8_read
  have hiX8 : ∀ w ∈ u_ws RX8 TX8 8, w ∈ wsX8_read := hiX8_X8_read
  rw [J_X8_read_L163] at h
  refine lv_aload_n hx hb dX8_read_163 rfl (lv_at hl 0 rfl) ?_
  refine lv_aload_n hx hb dX8_read_164 rfl (lv_at hl 1 rfl) ?_
  refine lv_aload_n hx hb dX8_read_165 rfl (lv_at hl 1 rfl) ?_
  refine jgi (f := 1) hx hb hts hown hst w hx1 hiX5 (rfl : vwCl[5]? = some (RX5, TX5, 5)) (hts (.fieldLink RX8 34 "FootByGate$Page" "length" "I") (by decide +kernel)) ⟨by decide, by decide, rfl⟩ dX8_read_166 ?_
  refine lv_iconst (v := (1 : Int32)) hx hb dX8_read_169 (by decide) ?_
  refine lv_isub hx hb dX8_read_170 ?_
  refine lv_bipush (v := (102 : Int32)) hx hb dX8_read_171 (by decide) ?_
  refine jcV_i (k := x1) (As := [.int ((i x1 1) - (1 : Int32)), .int (102 : Int32)]) (rest := [.ref (b + x0)]) C0 w (c_X5_hasAt hG hx1 h) (cwV 2 hts gX8_read_X5_hasAt rfl rfl rfl (by decide +kernel) ⟨Nat.le_of_ble_eq_true rfl, Nat.le_of_ble_eq_true rfl⟩) hx1 (rfl : vwCl[5]? = some (RX5, TX5, 5)) (by decide) rfl hl.1 rfl (Nat.le_of_ble_eq_true rfl) dX8_read_173 (fun q173 i173 j173 H locs h w => ?_) ⟨Nat.zero_le _, Nat.zero_le _⟩
  obtain ⟨hz, h⟩ := h
  refine jpi (f := 2) hx hb hts hown hst w hx0 hiX8 (rfl : vwCl[7]? = some (RX8, TX8, 8)) (hts (.fieldLink RX8 47 "FootByGate$Town" "free" "Z") (by decide +kernel)) ⟨by decide, by decide, rfl⟩ tyX8 tyX8_ok nmX8 rfl (jbool hz) dX8_read_176 (fun i176 H locs he w => ?_)
  replace h := h i176 he
  clear he
  exact jret_v hx hb hr hlk hst w h dX8_read_179
set_option maxHeartbeats 4000000 in
set_option maxRecDepth 100000 in
theorem w_X8_read_L147 (C0 : jCx p s m args c cX8_read 3 wsX8_read RX8 b cy D tU n K r) (hr : meth.sig.returnType = none) (hlk : meth.locks = false) {Hd12 : jI → jL → Nat → Nat → Int32 → Prop} (k12 : ∀ {H : Heap} {locs : List Loc} {ls : Array Slot} {i : jI} {j : jL} {x0 : Nat} {x1 : Nat} {x2 : Int32} (w : jDy b cy D n K len r i j s H locs) (hx0 : x0 < n ∧ K x0 = 7) (hx1 : x1 < n ∧ K x1 = 5) (hl : lv_has ls 3 [(0, .ref (b + x0)), (1, .ref (b + x1)), (2, .int x2)]) (h : Hd12 i j x0 x1 x2), W p l e rm_X8_read s m args below meth c H locs 0 0 (MQ below (jQv b cy D tU n K len r Q) args s 0 0 (jA b)) (F0 m 12 ls [])) {H : Heap} {locs : List Loc} {ls : Array Slot} {i : jI} {j : jL} {x0 : Nat} {x1 : Nat} {x2 : Int32} (w : jDy b cy D n K len r i j s H locs) (hx0 : x0 < n ∧ K x0 = 7) (hx1 : x1 < n ∧ K x1 = 5) (hl : lv_has ls 3 [(0, .ref (b + x0)), (1, .ref (b + x1)), (2, .int x2)]) (h : J_X8_read_L147 len r Q Hd12 i j x0 x1 x2) : W p l e rm_X8_read s m args below meth c H locs 0 0 (MQ below (jQv b cy D tU n K len r Q) args s 0 0 (jA b)) (F0 m 147 ls []) := by
  obtain ⟨hx, hb, hml, hown, hts, hst, hG⟩ := id C0
  have hiX5 : ∀ w ∈ u_ws RX5 TX5 5, w ∈ wsX8_read := hiX5_X8_read
  have hiX8 : ∀ w ∈ u_ws RX8 TX8 8, w ∈ wsX8_read := hiX8_X8_read
  rw [J_X8_read_L147] at h
  refine lv_aload_n hx hb dX8_read_147 rfl (lv_at hl 0 rfl) ?_
  refine lv_dup hx hb dX8_read_148 rfl ?_
  refine jgi (f := 0) hx hb hts hown hst w hx0 hiX8 (rfl : vwCl[7]? = some (RX8, TX8, 8)) (hts (.fieldLink RX8 27 "FootByGate$Town" "streets" "I") (by decide +kernel)) ⟨by decide, by decide, rfl⟩ dX8_read_149 ?_
  refine lv_iconst (v := (1 : Int32)) hx hb dX8_read_152 (by decide) ?_
  refine lv_iadd hx hb dX8_read_153 ?_
  refine jpi (f := 0) hx hb hts hown hst w hx0 hiX8 (rfl : vwCl[7]? = some (RX8, TX8, 8)) (hts (.fieldLink RX8 27 "FootByGate$Town" "streets" "I") (by decide +kernel)) ⟨by decide, by decide, rfl⟩ tyX8 tyX8_ok nmX8 rfl ⟨rfl, rfl⟩ dX8_read_154 (fun i154 H locs he w => ?_)
  replace h := h i154 he
  clear he
  obtain ⟨v157, he⟩ : ∃ z : Int32, z = x2 + (1 : Int32) := ⟨_, rfl⟩
  replace h := h v157 he
  refine lv_iinc (v := v157) (lv' := [(2, .int v157), (0, .ref (b + x0)), (1, .ref (b + x1))]) hx hb dX8_read_157 hl (k := 2) rfl (by rw [he]; rfl) (by decide) rfl (fun ls hl => ?_)
  clear he
  refine lv_goto (tgt := 12) hx hb dX8_read_160 (by decide) ?_
  exact k12 w hx0 hx1 (lv_sub hl [1, 2, 0] rfl) h
set_option maxHeartbeats 4000000 in
set_option maxRecDepth 100000 in
theorem w_X8_read_L12 (C0 : jCx p s m args c cX8_read 3 wsX8_read RX8 b cy D tU n K r) (hr : meth.sig.returnType = none) (hlk : meth.locks = false) : ∀ (g : Nat) {H : Heap} {locs : List Loc} {ls : Array Slot} {i : jI} {j : jL} {x0 : Nat} {x1 : Nat} {x2 : Int32} (w : jDy b cy D n K len r i j s H locs) (hx0 : x0 < n ∧ K x0 = 7) (hx1 : x1 < n ∧ K x1 = 5) (hl : lv_has ls 3 [(0, .ref (b + x0)), (1, .ref (b + x1)), (2, .int x2)]) (h : J_X8_read_L12 len r Q g i j x0 x1 x2), W p l e rm_X8_read s m args below meth c H locs 0 0 (MQ below (jQv b cy D tU n K len r Q) args s 0 0 (jA b)) (F0 m 12 ls []) := by
  obtain ⟨hx, hb, hml, hown, hts, hst, hG⟩ := id C0
  have hiX5 : ∀ w ∈ u_ws RX5 TX5 5, w ∈ wsX8_read := hiX5_X8_read
  have hiX8 : ∀ w ∈ u_ws RX8 TX8 8, w ∈ wsX8_read := hiX8_X8_read
  intro g
  induction g with
  | zero => intro H locs ls i j x0 x1 x2 w hx0 hx1 hl h; exact False.elim h
  | succ g ih =>
    intro H locs ls i j x0 x1 x2 w hx0 hx1 hl h
    rw [J_X8_read_L12] at h
    refine lv_aload_n hx hb dX8_read_12 rfl (lv_at hl 0 rfl) ?_
    refine jgi (f := 0) hx hb hts hown hst w hx0 hiX8 (rfl : vwCl[7]? = some (RX8, TX8, 8)) (hts (.fieldLink RX8 27 "FootByGate$Town" "streets" "I") (by decide +kernel)) ⟨by decide, by decide, rfl⟩ dX8_read_13 ?_
    refine lv_bipush (v := (10 : Int32)) hx hb dX8_read_16 (by decide) ?_
    refine lv_icmp_ge (tgt := 163) hx hb dX8_read_18 (by decide) (fun hc => ?_) (fun hc => ?_)
    · replace h := h.1 hc
      clear hc
      exact w_X8_read_L163 C0 hr hlk w hx0 hx1 (lv_sub hl [0, 1] rfl) h
    · replace h := h.2 hc
      clear hc
      refine lv_iload_n hx hb dX8_read_21 rfl (lv_at hl 2 rfl) ?_
      refine lv_iconst (v := (2 : Int32)) hx hb dX8_read_22 (by decide) ?_
      refine lv_iadd hx hb dX8_read_23 ?_
      refine lv_aload_n hx hb dX8_read_24 rfl (lv_at hl 1 rfl) ?_
      refine jgi (f := 1) hx hb hts hown hst w hx1 hiX5 (rfl : vwCl[5]? = some (RX5, TX5, 5)) (hts (.fieldLink RX8 34 "FootByGate$Page" "length" "I") (by decide +kernel)) ⟨by decide, by decide, rfl⟩ dX8_read_25 ?_
      refine lv_icmp_ge (tgt := 163) hx hb dX8_read_28 (by decide) (fun hc => ?_) (fun hc => ?_)
      · replace h := h.1 hc
        clear hc
        exact w_X8_read_L163 C0 hr hlk w hx0 hx1 (lv_sub hl [0, 1] rfl) h
      · replace h := h.2 hc
        clear hc
        refine lv_aload_n hx hb dX8_read_31 rfl (lv_at hl 0 rfl) ?_
        obtain ⟨a32, hr0, h⟩ := h
        refine jgr (f := 3) hx hb hts hown hst w hG hx0 hiX8 (rfl : vwCl[7]? = some (RX8, TX8, 8)) (hts (.fieldLink RX8 9 "FootByGate$Town" "first" "[I") (by decide +kernel)) ⟨by decide, by decide, rfl⟩ (rfl : jrt 7 3 = 13) dX8_read_32 hr0 (fun ha32 => ?_)
        clear hr0
        refine lv_aload_n hx hb dX8_read_35 rfl (lv_at hl 0 rfl) ?_
        refine jgi (f := 0) hx hb hts hown hst w hx0 hiX8 (rfl : vwCl[7]? = some (RX8, TX8, 8)) (hts (.fieldLink RX8 27 "FootByGate$Town" "streets" "I") (by decide +kernel)) ⟨by decide, by decide, rfl⟩ dX8_read_36 ?_
        refine lv_aload_n hx hb dX8_read_39 rfl (lv_at hl 1 rfl) ?_
        refine lv_iload_n hx hb dX8_read_40 rfl (lv_at hl 2 rfl) ?_
        refine jcV_i (k := x1) (As := [.int x2]) (rest := [.int (i x0 0), .ref (b + a32)]) C0 w (c_X5_digitAt hG hx1 h) (cwV 1 hts gX8_read_X5_digitAt rfl rfl rfl (by decide +kernel) ⟨Nat.le_of_ble_eq_true rfl, Nat.le_of_ble_eq_true rfl⟩) hx1 (rfl : vwCl[5]? = some (RX5, TX5, 5)) (by decide) rfl hl.1 rfl (Nat.le_of_ble_eq_true rfl) dX8_read_41 (fun q41 i41 j41 H locs h w => ?_) ⟨Nat.zero_le _, Nat.zero_le _⟩
        obtain ⟨hn, h⟩ := h
        refine jais hx hb hst w ha32 hn dX8_read_44 (fun i44 H locs he w => ?_)
        replace h := h i44 he
        clear he hn
        refine lv_aload_n hx hb dX8_read_45 rfl (lv_at hl 0 rfl) ?_
        obtain ⟨a46, hr0, h⟩ := h
        refine jgr (f := 4) hx hb hts hown hst w hG hx0 hiX8 (rfl : vwCl[7]? = some (RX8, TX8, 8)) (hts (.fieldLink RX8 15 "FootByGate$Town" "second" "[I") (by decide +kernel)) ⟨by decide, by decide, rfl⟩ (rfl : jrt 7 4 = 13) dX8_read_46 hr0 (fun ha46 => ?_)
        clear hr0
        refine lv_aload_n hx hb dX8_read_49 rfl (lv_at hl 0 rfl) ?_
        refine jgi (f := 0) hx hb hts hown hst w hx0 hiX8 (rfl : vwCl[7]? = some (RX8, TX8, 8)) (hts (.fieldLink RX8 27 "FootByGate$Town" "streets" "I") (by decide +kernel)) ⟨by decide, by decide, rfl⟩ dX8_read_50 ?_
        refine lv_aload_n hx hb dX8_read_53 rfl (lv_at hl 1 rfl) ?_
        refine lv_iload_n hx hb dX8_read_54 rfl (lv_at hl 2 rfl) ?_
        refine lv_iconst (v := (1 : Int32)) hx hb dX8_read_55 (by decide) ?_
        refine lv_iadd hx hb dX8_read_56 ?_
        refine jcV_i (k := x1) (As := [.int (x2 + (1 : Int32))]) (rest := [.int (i44 x0 0), .ref (b + a46)]) C0 w (c_X5_digitAt hG hx1 h) (cwV 1 hts gX8_read_X5_digitAt rfl rfl rfl (by decide +kernel) ⟨Nat.le_of_ble_eq_true rfl, Nat.le_of_ble_eq_true rfl⟩) hx1 (rfl : vwCl[5]? = some (RX5, TX5, 5)) (by decide) rfl hl.1 rfl (Nat.le_of_ble_eq_true rfl) dX8_read_57 (fun q57 i57 j57 H locs h w => ?_) ⟨Nat.zero_le _, Nat.zero_le _⟩
        obtain ⟨hn, h⟩ := h
        refine jais hx hb hst w ha46 hn dX8_read_60 (fun i60 H locs he w => ?_)
        replace h := h i60 he
        clear he hn
        refine lv_aload_n hx hb dX8_read_61 rfl (lv_at hl 0 rfl) ?_
        obtain ⟨a62, hr0, h⟩ := h
        refine jgr (f := 5) hx hb hts hown hst w hG hx0 hiX8 (rfl : vwCl[7]? = some (RX8, TX8, 8)) (hts (.fieldLink RX8 18 "FootByGate$Town" "paces" "[I") (by decide +kernel)) ⟨by decide, by decide, rfl⟩ (rfl : jrt 7 5 = 13) dX8_read_62 hr0 (fun ha62 => ?_)
        clear hr0
        refine lv_aload_n hx hb dX8_read_65 rfl (lv_at hl 0 rfl) ?_
        refine jgi (f := 0) hx hb hts hown hst w hx0 hiX8 (rfl : vwCl[7]? = some (RX8, TX8, 8)) (hts (.fieldLink RX8 27 "FootByGate$Town" "streets" "I") (by decide +kernel)) ⟨by decide, by decide, rfl⟩ dX8_read_66 ?_
        refine lv_aload_n hx hb dX8_read_69 rfl (lv_at hl 1 rfl) ?_
        refine lv_iload_n hx hb dX8_read_70 rfl (lv_at hl 2 rfl) ?_
        refine lv_iconst (v := (2 : Int32)) hx hb dX8_read_71 (by decide) ?_
        refine lv_iadd hx hb dX8_read_72 ?_
        refine jcV_i (k := x1) (As := [.int (x2 + (2 : Int32))]) (rest := [.int (i60 x0 0), .ref (b + a62)]) C0 w (c_X5_digitAt hG hx1 h) (cwV 1 hts gX8_read_X5_digitAt rfl rfl rfl (by decide +kernel) ⟨Nat.le_of_ble_eq_true rfl, Nat.le_of_ble_eq_true rfl⟩) hx1 (rfl : vwCl[5]? = some (RX5, TX5, 5)) (by decide) rfl hl.1 rfl (Nat.le_of_ble_eq_true rfl) dX8_read_73 (fun q73 i73 j73 H locs h w => ?_) ⟨Nat.zero_le _, Nat.zero_le _⟩
        obtain ⟨hn, h⟩ := h
        refine jais hx hb hst w ha62 hn dX8_read_76 (fun i76 H locs he w => ?_)
        replace h := h i76 he
        clear he hn
        refine lv_aload_n hx hb dX8_read_77 rfl (lv_at hl 0 rfl) ?_
        obtain ⟨a78, hr0, h⟩ := h
        refine jgr (f := 6) hx hb hts hown hst w hG hx0 hiX8 (rfl : vwCl[7]? = some (RX8, TX8, 8)) (hts (.fieldLink RX8 21 "FootByGate$Town" "gate" "[I") (by decide +kernel)) ⟨by decide, by decide, rfl⟩ (rfl : jrt 7 6 = 13) dX8_read_78 hr0 (fun ha78 => ?_)
        clear hr0
        refine lv_aload_n hx hb dX8_read_81 rfl (lv_at hl 0 rfl) ?_
        refine jgi (f := 0) hx hb hts hown hst w hx0 hiX8 (rfl : vwCl[7]? = some (RX8, TX8, 8)) (hts (.fieldLink RX8 27 "FootByGate$Town" "streets" "I") (by decide +kernel)) ⟨by decide, by decide, rfl⟩ dX8_read_82 ?_
        refine lv_iconst (v := (-1 : Int32)) hx hb dX8_read_85 (by decide) ?_
        obtain ⟨hn, h⟩ := h
        refine jais hx hb hst w ha78 hn dX8_read_86 (fun i86 H locs he w => ?_)
        replace h := h i86 he
        clear he hn
        obtain ⟨v87, he⟩ : ∃ z : Int32, z = x2 + (3 : Int32) := ⟨_, rfl⟩
        replace h := h v87 he
        refine lv_iinc (v := v87) (lv' := [(2, .int v87), (0, .ref (b + x0)), (1, .ref (b + x1))]) hx hb dX8_read_87 hl (k := 2) rfl (by rw [he]; rfl) (by decide) rfl (fun ls hl => ?_)
        clear he
        refine lv_aload_n hx hb dX8_read_90 rfl (lv_at hl 1 rfl) ?_
        refine jgi (f := 1) hx hb hts hown hst w hx0 hiX8 (rfl : vwCl[7]? = some (RX8, TX8, 8)) (hts (.fieldLink RX8 31 "FootByGate$Town" "gates" "I") (by decide +kernel)) ⟨by decide, by decide, rfl⟩ dX8_read_91 ?_
        refine lv_iconst (v := (3 : Int32)) hx hb dX8_read_94 (by decide) ?_
        refine lv_icmp_ge (tgt := 147) hx hb dX8_read_95 (by decide) (fun hc => ?_) (fun hc => ?_)
        · replace h := h.1 hc
          clear hc
          exact w_X8_read_L147 C0 hr hlk (fun w hx0 hx1 hl h => ih w hx0 hx1 hl h) w hx0 hx1 (lv_sub hl [1, 2, 0] rfl) h
        · replace h := h.2 hc
          clear hc
          refine lv_aload_n hx hb dX8_read_98 rfl (lv_at hl 2 rfl) ?_
          refine lv_iload_n hx hb dX8_read_99 rfl (lv_at hl 0 rfl) ?_
          refine lv_bipush (v := (33 : Int32)) hx hb dX8_read_100 (by decide) ?_
          refine jcV_i (k := x1) (As := [.int v87, .int (33 : Int32)]) (rest := []) C0 w (c_X5_hasAt hG hx1 h) (cwV 2 hts gX8_read_X5_hasAt rfl rfl rfl (by decide +kernel) ⟨Nat.le_of_ble_eq_true rfl, Nat.le_of_ble_eq_true rfl⟩) hx1 (rfl : vwCl[5]? = some (RX5, TX5, 5)) (by decide) rfl hl.1 rfl (Nat.le_of_ble_eq_true rfl) dX8_read_102 (fun q102 i102 j102 H locs h w => ?_) ⟨Nat.zero_le _, Nat.zero_le _⟩
          refine lv_if_eq (tgt := 147) hx hb dX8_read_105 (by decide) (fun hc => ?_) (fun hc => ?_)
          · replace h := h.1 hc
            clear hc
            exact w_X8_read_L147 C0 hr hlk (fun w hx0 hx1 hl h => ih w hx0 hx1 hl h) w hx0 hx1 (lv_sub hl [1, 2, 0] rfl) h
          · replace h := h.2 hc
            clear hc
            refine lv_aload_n hx hb dX8_read_108 rfl (lv_at hl 1 rfl) ?_
            obtain ⟨a109, hr0, h⟩ := h
            refine jgr (f := 6) hx hb hts hown hst w hG hx0 hiX8 (rfl : vwCl[7]? = some (RX8, TX8, 8)) (hts (.fieldLink RX8 21 "FootByGate$Town" "gate" "[I") (by decide +kernel)) ⟨by decide, by decide, rfl⟩ (rfl : jrt 7 6 = 13) dX8_read_109 hr0 (fun ha109 => ?_)
            clear hr0
            refine lv_aload_n hx hb dX8_read_112 rfl (lv_at hl 1 rfl) ?_
            refine jgi (f := 0) hx hb hts hown hst w hx0 hiX8 (rfl : vwCl[7]? = some (RX8, TX8, 8)) (hts (.fieldLink RX8 27 "FootByGate$Town" "streets" "I") (by decide +kernel)) ⟨by decide, by decide, rfl⟩ dX8_read_113 ?_
            refine lv_aload_n hx hb dX8_read_116 rfl (lv_at hl 1 rfl) ?_
            refine jgi (f := 1) hx hb hts hown hst w hx0 hiX8 (rfl : vwCl[7]? = some (RX8, TX8, 8)) (hts (.fieldLink RX8 31 "FootByGate$Town" "gates" "I") (by decide +kernel)) ⟨by decide, by decide, rfl⟩ dX8_read_117 ?_
            obtain ⟨hn, h⟩ := h
            refine jais hx hb hst w ha109 hn dX8_read_120 (fun i120 H locs he w => ?_)
            replace h := h i120 he
            clear he hn
            refine lv_aload_n hx hb dX8_read_121 rfl (lv_at hl 1 rfl) ?_
            obtain ⟨a122, hr0, h⟩ := h
            refine jgr (f := 7) hx hb hts hown hst w hG hx0 hiX8 (rfl : vwCl[7]? = some (RX8, TX8, 8)) (hts (.fieldLink RX8 24 "FootByGate$Town" "streetOf" "[I") (by decide +kernel)) ⟨by decide, by decide, rfl⟩ (rfl : jrt 7 7 = 13) dX8_read_122 hr0 (fun ha122 => ?_)
            clear hr0
            refine lv_aload_n hx hb dX8_read_125 rfl (lv_at hl 1 rfl) ?_
            refine jgi (f := 1) hx hb hts hown hst w hx0 hiX8 (rfl : vwCl[7]? = some (RX8, TX8, 8)) (hts (.fieldLink RX8 31 "FootByGate$Town" "gates" "I") (by decide +kernel)) ⟨by decide, by decide, rfl⟩ dX8_read_126 ?_
            refine lv_aload_n hx hb dX8_read_129 rfl (lv_at hl 1 rfl) ?_
            refine jgi (f := 0) hx hb hts hown hst w hx0 hiX8 (rfl : vwCl[7]? = some (RX8, TX8, 8)) (hts (.fieldLink RX8 27 "FootByGate$Town" "streets" "I") (by decide +kernel)) ⟨by decide, by decide, rfl⟩ dX8_read_130 ?_
            obtain ⟨hn, h⟩ := h
            refine jais hx hb hst w ha122 hn dX8_read_133 (fun i133 H locs he w => ?_)
            replace h := h i133 he
            clear he hn
            refine lv_aload_n hx hb dX8_read_134 rfl (lv_at hl 1 rfl) ?_
            refine lv_dup hx hb dX8_read_135 rfl ?_
            refine jgi (f := 1) hx hb hts hown hst w hx0 hiX8 (rfl : vwCl[7]? = some (RX8, TX8, 8)) (hts (.fieldLink RX8 31 "FootByGate$Town" "gates" "I") (by decide +kernel)) ⟨by decide, by decide, rfl⟩ dX8_read_136 ?_
            refine lv_iconst (v := (1 : Int32)) hx hb dX8_read_139 (by decide) ?_
            refine lv_iadd hx hb dX8_read_140 ?_
            refine jpi (f := 1) hx hb hts hown hst w hx0 hiX8 (rfl : vwCl[7]? = some (RX8, TX8, 8)) (hts (.fieldLink RX8 31 "FootByGate$Town" "gates" "I") (by decide +kernel)) ⟨by decide, by decide, rfl⟩ tyX8 tyX8_ok nmX8 rfl ⟨rfl, rfl⟩ dX8_read_141 (fun i141 H locs he w => ?_)
            replace h := h i141 he
            clear he
            obtain ⟨v144, he⟩ : ∃ z : Int32, z = v87 + (1 : Int32) := ⟨_, rfl⟩
            replace h := h v144 he
            refine lv_iinc (v := v144) (lv' := [(2, .int v144), (0, .ref (b + x0)), (1, .ref (b + x1))]) hx hb dX8_read_144 hl (k := 0) rfl (by rw [he]; rfl) (by decide) rfl (fun ls hl => ?_)
            clear he
            exact w_X8_read_L147 C0 hr hlk (fun w hx0 hx1 hl h => ih w hx0 hx1 hl h) w hx0 hx1 (lv_sub hl [1, 2, 0] rfl) h
set_option maxHeartbeats 4000000 in
set_option maxRecDepth 100000 in
theorem c_X8_read (hG : jG n K r) {i : jI} {j : jL} {x0 : Nat} {x1 : Nat} (hx0 : x0 < n ∧ K x0 = 7) (hx1 : x1 < n ∧ K x1 = 5) (h : J_X8_read len r Q i j x0 x1) : Met l yX8_read wsX8_read rm_X8_read (va_Pc [.ref (b + x0), .ref (b + x1)] (jPre b cy D tU n K len r i j)) (jQv b cy D tU n K len r Q) 0 0 (jA b) := by
  refine Met.ofW (cc := cX8_read) (maxL := 3) (ret := none) (by decide) rfl ?_
  intro p e s m args below meth c s₁ B hml hv
  obtain ⟨rfl, hv⟩ := hv
  have C0 : jCx p s m _ c cX8_read 3 wsX8_read RX8 b cy D tU n K r := ⟨B.exec, B.bytes, hml, findClass_of_methodNamed B.named, atoms_spec (ws := wsX8_read) B.pre, hv.2.2, hG⟩
  have hr := B.returns
  have hlk := B.notSynchronized
  obtain ⟨hx, hb, hml, hown, hts, hst, hG⟩ := id C0
  have hiX5 : ∀ w ∈ u_ws RX5 TX5 5, w ∈ wsX8_read := hiX5_X8_read
  have hiX8 : ∀ w ∈ u_ws RX8 TX8 8, w ∈ wsX8_read := hiX8_X8_read
  have w := jDy.start hv
  have hl := lv_entry ([.ref (b + x0), .ref (b + x1)]) (n := 3) (Nat.le_of_ble_eq_true rfl)
  rw [lg_entry_eq]
  generalize (lg_sl ([.ref (b + x0), .ref (b + x1)]) ++ List.replicate (3 - (lg_sl ([.ref (b + x0), .ref (b + x1)])).length) Slot.unset).toArray = ls at hl ⊢
  replace hl : lv_has ls 3 [(0, .ref (b + x0)), (1, .ref (b + x1))] := hl
  show W p l e rm_X8_read s m _ below meth c s.heap [] 0 0 _ (F0 m 0 ls [])
  rw [J_X8_read] at h
  refine lv_aload_n hx hb dX8_read_0 rfl (lv_at hl 0 rfl) ?_
  refine lv_iconst (v := (0 : Int32)) hx hb dX8_read_1 (by decide) ?_
  refine jpi (f := 0) hx hb hts hown hst w hx0 hiX8 (rfl : vwCl[7]? = some (RX8, TX8, 8)) (hts (.fieldLink RX8 27 "FootByGate$Town" "streets" "I") (by decide +kernel)) ⟨by decide, by decide, rfl⟩ tyX8 tyX8_ok nmX8 rfl ⟨rfl, rfl⟩ dX8_read_2 (fun i2 H locs he w => ?_)
  replace h := h i2 he
  clear he
  refine lv_aload_n hx hb dX8_read_5 rfl (lv_at hl 0 rfl) ?_
  refine lv_iconst (v := (0 : Int32)) hx hb dX8_read_6 (by decide) ?_
  refine jpi (f := 1) hx hb hts hown hst w hx0 hiX8 (rfl : vwCl[7]? = some (RX8, TX8, 8)) (hts (.fieldLink RX8 31 "FootByGate$Town" "gates" "I") (by decide +kernel)) ⟨by decide, by decide, rfl⟩ tyX8 tyX8_ok nmX8 rfl ⟨rfl, rfl⟩ dX8_read_7 (fun i7 H locs he w => ?_)
  replace h := h i7 he
  clear he
  refine lv_iconst (v := (0 : Int32)) hx hb dX8_read_10 (by decide) ?_
  refine lv_istore_n (lv' := [(2, .int (0 : Int32)), (0, .ref (b + x0)), (1, .ref (b + x1))]) hx hb dX8_read_11 rfl hl (by decide) rfl (fun ls hl => ?_)
  obtain ⟨g0, h⟩ := h
  exact w_X8_read_L12 C0 hr hlk g0 w hx0 hx1 (lv_sub hl [1, 2, 0] rfl) h
end S_X8_read
section S_X8_streetAt
def J_X8_streetAt_L34 (len : Nat → Nat) (r : jR) (Q : Int32 → jI → jL → Prop) (Hd5 : jI → jL → Nat → Int32 → Int32 → Int32 → Prop) (i : jI) (j : jL) (x0 : Nat) (x1 : Int32) (x3 : Int32) (x4 : Int32) : Prop := ∀ v34 : Int32, v34 = x4 + (1 : Int32) → (Hd5 i j x0 x1 x3 v34)
def J_X8_streetAt_L5 (len : Nat → Nat) (r : jR) (Q : Int32 → jI → jL → Prop) : Nat → jI → jL → Nat → Int32 → Int32 → Int32 → Prop
  | 0 => fun _ _ _ _ _ _ => False
  | g + 1 => fun i j x0 x1 x3 x4 => (((i x0 0) ≤ x4) → (Q (0 : Int32) i j)) ∧ ((¬ (i x0 0) ≤ x4) → (J_X8_isAt len r (fun (q18 : Int32) (i18 : jI) (j18 : jL) => ((q18 = 0) → (J_X8_streetAt_L34 len r Q (J_X8_streetAt_L5 len r Q g) i18 j18 x0 x1 x3 x4)) ∧ ((¬ q18 = 0) → (((¬ x3 = 0) → (∀ v31 : Int32, v31 = x3 + (-1 : Int32) → (J_X8_streetAt_L34 len r Q (J_X8_streetAt_L5 len r Q g) i18 j18 x0 x1 v31 x4))) ∧ ((x3 = 0) → (Q x4 i18 j18))))) i j x0 x4 x1))
def J_X8_streetAt (len : Nat → Nat) (r : jR) (Q : Int32 → jI → jL → Prop) (i : jI) (j : jL) (x0 : Nat) (x1 : Int32) (x2 : Int32) : Prop := ∃ g0, J_X8_streetAt_L5 len r Q g0 i j x0 x1 x2 (0 : Int32)
abbrev rm_X8_streetAt : Room := { frames := 1, cells := 0, slots := 0, locals := 22 }
variable {p : Program} {l : Launch} {e : Env} {s : State} {m : MethodId} {args : Array Value} {below : List Frame} {meth : Method} {c : Code} {b tU n : Nat} {cy : Nat → ClassId} {D : va_G} {K len : Nat → Nat} {r : jR} {Q : Int32 → jI → jL → Prop}
theorem hiX8_X8_streetAt : ∀ w ∈ u_ws RX8 TX8 8, w ∈ wsX8_streetAt := by decide +kernel
set_option maxHeartbeats 4000000 in
set_option maxRecDepth 100000 in
theorem w_X8_streetAt_L34 (C0 : jCx p s m args c cX8_streetAt 5 wsX8_streetAt RX8 b cy D tU n K r) (hr : meth.sig.returnType = some .int) (hlk : meth.locks = false) {Hd5 : jI → jL → Nat → Int32 → Int32 → Int32 → Prop} (k5 : ∀ {H : Heap} {locs : List Loc} {ls : Array Slot} {i : jI} {j : jL} {x0 : Nat} {x1 : Int32} {x3 : Int32} {x4 : Int32} (w : jDy b cy D n K len r i j s H locs) (hx0 : x0 < n ∧ K x0 = 7) (hl : lv_has ls 5 [(0, .ref (b + x0)), (1, .int x1), (3, .int x3), (4, .int x4)]) (h : Hd5 i j x0 x1 x3 x4), W p l e rm_X8_streetAt s m args below meth c H locs 0 0 (MQ below (jQi b cy D tU n K len r Q) args s 0 0 (jA b)) (F0 m 5 ls [])) {H : Heap} {locs : List Loc} {ls : Array Slot} {i : jI} {j : jL} {x0 : Nat} {x1 : Int32} {x3 : Int32} {x4 : Int32} (w : jDy b cy D n K len r i j s H locs) (hx0 : x0 < n ∧ K x0 = 7) (hl : lv_has ls 5 [(0, .ref (b + x0)), (1, .int x1), (3, .int x3), (4, .int x4)]) (h : J_X8_streetAt_L34 len r Q Hd5 i j x0 x1 x3 x4) : W p l e rm_X8_streetAt s m args below meth c H locs 0 0 (MQ below (jQi b cy D tU n K len r Q) args s 0 0 (jA b)) (F0 m 34 ls []) := by
  obtain ⟨hx, hb, hml, hown, hts, hst, hG⟩ := id C0
  have hiX8 : ∀ w ∈ u_ws RX8 TX8 8, w ∈ wsX8_streetAt := hiX8_X8_streetAt
  rw [J_X8_streetAt_L34] at h
  obtain ⟨v34, he⟩ : ∃ z : Int32, z = x4 + (1 : Int32) := ⟨_, rfl⟩
  replace h := h v34 he
  refine lv_iinc (v := v34) (lv' := [(4, .int v34), (0, .ref (b + x0)), (1, .int x1), (3, .int x3)]) hx hb dX8_streetAt_34 hl (k := 3) rfl (by rw [he]; rfl) (by decide) rfl (fun ls hl => ?_)
  clear he
  refine lv_goto (tgt := 5) hx hb dX8_streetAt_37 (by decide) ?_
  exact k5 w hx0 (lv_sub hl [1, 2, 3, 0] rfl) h
set_option maxHeartbeats 4000000 in
set_option maxRecDepth 100000 in
theorem w_X8_streetAt_L5 (C0 : jCx p s m args c cX8_streetAt 5 wsX8_streetAt RX8 b cy D tU n K r) (hr : meth.sig.returnType = some .int) (hlk : meth.locks = false) : ∀ (g : Nat) {H : Heap} {locs : List Loc} {ls : Array Slot} {i : jI} {j : jL} {x0 : Nat} {x1 : Int32} {x3 : Int32} {x4 : Int32} (w : jDy b cy D n K len r i j s H locs) (hx0 : x0 < n ∧ K x0 = 7) (hl : lv_has ls 5 [(0, .ref (b + x0)), (1, .int x1), (3, .int x3), (4, .int x4)]) (h : J_X8_streetAt_L5 len r Q g i j x0 x1 x3 x4), W p l e rm_X8_streetAt s m args below meth c H locs 0 0 (MQ below (jQi b cy D tU n K len r Q) args s 0 0 (jA b)) (F0 m 5 ls []) := by
  obtain ⟨hx, hb, hml, hown, hts, hst, hG⟩ := id C0
  have hiX8 : ∀ w ∈ u_ws RX8 TX8 8, w ∈ wsX8_streetAt := hiX8_X8_streetAt
  intro g
  induction g with
  | zero => intro H locs ls i j x0 x1 x3 x4 w hx0 hl h; exact False.elim h
  | succ g ih =>
    intro H locs ls i j x0 x1 x3 x4 w hx0 hl h
    rw [J_X8_streetAt_L5] at h
    refine lv_iload hx hb dX8_streetAt_5 (lv_at hl 3 rfl) ?_
    refine lv_aload_n hx hb dX8_streetAt_7 rfl (lv_at hl 0 rfl) ?_
    refine jgi (f := 0) hx hb hts hown hst w hx0 hiX8 (rfl : vwCl[7]? = some (RX8, TX8, 8)) (hts (.fieldLink RX8 27 "FootByGate$Town" "streets" "I") (by decide +kernel)) ⟨by decide, by decide, rfl⟩ dX8_streetAt_8 ?_
    refine lv_icmp_ge (tgt := 40) hx hb dX8_streetAt_11 (by decide) (fun hc => ?_) (fun hc => ?_)
    · replace h := h.1 hc
      clear hc
      refine lv_iconst (v := (0 : Int32)) hx hb dX8_streetAt_40 (by decide) ?_
      exact jret_i hx hb hr hlk hst w h dX8_streetAt_41
    · replace h := h.2 hc
      clear hc
      refine lv_aload_n hx hb dX8_streetAt_14 rfl (lv_at hl 0 rfl) ?_
      refine lv_iload hx hb dX8_streetAt_15 (lv_at hl 3 rfl) ?_
      refine lv_iload_n hx hb dX8_streetAt_17 rfl (lv_at hl 1 rfl) ?_
      refine jcV_i (k := x0) (As := [.int x4, .int x1]) (rest := []) C0 w (c_X8_isAt hG hx0 h) (cwV 2 hts gX8_streetAt_X8_isAt rfl rfl rfl (by decide +kernel) ⟨Nat.le_of_ble_eq_true rfl, Nat.le_of_ble_eq_true rfl⟩) hx0 (rfl : vwCl[7]? = some (RX8, TX8, 8)) (by decide) rfl hl.1 rfl (Nat.le_of_ble_eq_true rfl) dX8_streetAt_18 (fun q18 i18 j18 H locs h w => ?_) ⟨Nat.zero_le _, Nat.zero_le _⟩
      refine lv_if_eq (tgt := 34) hx hb dX8_streetAt_21 (by decide) (fun hc => ?_) (fun hc => ?_)
      · replace h := h.1 hc
        clear hc
        exact w_X8_streetAt_L34 C0 hr hlk (fun w hx0 hl h => ih w hx0 hl h) w hx0 (lv_sub hl [0, 1, 2, 3] rfl) h
      · replace h := h.2 hc
        clear hc
        refine lv_iload_n hx hb dX8_streetAt_24 rfl (lv_at hl 2 rfl) ?_
        refine lv_if_ne (tgt := 31) hx hb dX8_streetAt_25 (by decide) (fun hc => ?_) (fun hc => ?_)
        · replace h := h.1 hc
          clear hc
          obtain ⟨v31, he⟩ : ∃ z : Int32, z = x3 + (-1 : Int32) := ⟨_, rfl⟩
          replace h := h v31 he
          refine lv_iinc (v := v31) (lv' := [(3, .int v31), (0, .ref (b + x0)), (1, .int x1), (4, .int x4)]) hx hb dX8_streetAt_31 hl (k := 2) rfl (by rw [he]; rfl) (by decide) rfl (fun ls hl => ?_)
          clear he
          exact w_X8_streetAt_L34 C0 hr hlk (fun w hx0 hl h => ih w hx0 hl h) w hx0 (lv_sub hl [1, 2, 0, 3] rfl) h
        · replace h := h.2 hc
          clear hc
          refine lv_iload hx hb dX8_streetAt_28 (lv_at hl 3 rfl) ?_
          exact jret_i hx hb hr hlk hst w h dX8_streetAt_30
set_option maxHeartbeats 4000000 in
set_option maxRecDepth 100000 in
theorem c_X8_streetAt (hG : jG n K r) {i : jI} {j : jL} {x0 : Nat} {x1 : Int32} {x2 : Int32} (hx0 : x0 < n ∧ K x0 = 7) (h : J_X8_streetAt len r Q i j x0 x1 x2) : Met l yX8_streetAt wsX8_streetAt rm_X8_streetAt (va_Pc [.ref (b + x0), .int x1, .int x2] (jPre b cy D tU n K len r i j)) (jQi b cy D tU n K len r Q) 0 0 (jA b) := by
  refine Met.ofW (cc := cX8_streetAt) (maxL := 5) (ret := (some .int)) (by decide) rfl ?_
  intro p e s m args below meth c s₁ B hml hv
  obtain ⟨rfl, hv⟩ := hv
  have C0 : jCx p s m _ c cX8_streetAt 5 wsX8_streetAt RX8 b cy D tU n K r := ⟨B.exec, B.bytes, hml, findClass_of_methodNamed B.named, atoms_spec (ws := wsX8_streetAt) B.pre, hv.2.2, hG⟩
  have hr := B.returns
  have hlk := B.notSynchronized
  obtain ⟨hx, hb, hml, hown, hts, hst, hG⟩ := id C0
  have hiX8 : ∀ w ∈ u_ws RX8 TX8 8, w ∈ wsX8_streetAt := hiX8_X8_streetAt
  have w := jDy.start hv
  have hl := lv_entry ([.ref (b + x0), .int x1, .int x2]) (n := 5) (Nat.le_of_ble_eq_true rfl)
  rw [lg_entry_eq]
  generalize (lg_sl ([.ref (b + x0), .int x1, .int x2]) ++ List.replicate (5 - (lg_sl ([.ref (b + x0), .int x1, .int x2])).length) Slot.unset).toArray = ls at hl ⊢
  replace hl : lv_has ls 5 [(0, .ref (b + x0)), (1, .int x1), (2, .int x2)] := hl
  show W p l e rm_X8_streetAt s m _ below meth c s.heap [] 0 0 _ (F0 m 0 ls [])
  rw [J_X8_streetAt] at h
  refine lv_iload_n hx hb dX8_streetAt_0 rfl (lv_at hl 2 rfl) ?_
  refine lv_istore_n (lv' := [(3, .int x2), (0, .ref (b + x0)), (1, .int x1), (2, .int x2)]) hx hb dX8_streetAt_1 rfl hl (by decide) rfl (fun ls hl => ?_)
  refine lv_iconst (v := (0 : Int32)) hx hb dX8_streetAt_2 (by decide) ?_
  refine lv_istore (lv' := [(4, .int (0 : Int32)), (3, .int x2), (0, .ref (b + x0)), (1, .int x1), (2, .int x2)]) hx hb dX8_streetAt_3 hl (by decide) rfl (fun ls hl => ?_)
  obtain ⟨g0, h⟩ := h
  exact w_X8_streetAt_L5 C0 hr hlk g0 w hx0 (lv_sub hl [2, 3, 1, 0] rfl) h
end S_X8_streetAt
section S_X8_streetsAt
def J_X8_streetsAt_L24 (len : Nat → Nat) (r : jR) (Q : Int32 → jI → jL → Prop) (Hd4 : jI → jL → Nat → Int32 → Int32 → Int32 → Prop) (i : jI) (j : jL) (x0 : Nat) (x1 : Int32) (x2 : Int32) (x3 : Int32) : Prop := ∀ v24 : Int32, v24 = x3 + (1 : Int32) → (Hd4 i j x0 x1 x2 v24)
def J_X8_streetsAt_L4 (len : Nat → Nat) (r : jR) (Q : Int32 → jI → jL → Prop) : Nat → jI → jL → Nat → Int32 → Int32 → Int32 → Prop
  | 0 => fun _ _ _ _ _ _ => False
  | g + 1 => fun i j x0 x1 x2 x3 => (((i x0 0) ≤ x3) → (Q x2 i j)) ∧ ((¬ (i x0 0) ≤ x3) → (J_X8_isAt len r (fun (q15 : Int32) (i15 : jI) (j15 : jL) => ((q15 = 0) → (J_X8_streetsAt_L24 len r Q (J_X8_streetsAt_L4 len r Q g) i15 j15 x0 x1 x2 x3)) ∧ ((¬ q15 = 0) → (∀ v21 : Int32, v21 = x2 + (1 : Int32) → (J_X8_streetsAt_L24 len r Q (J_X8_streetsAt_L4 len r Q g) i15 j15 x0 x1 v21 x3)))) i j x0 x3 x1))
def J_X8_streetsAt (len : Nat → Nat) (r : jR) (Q : Int32 → jI → jL → Prop) (i : jI) (j : jL) (x0 : Nat) (x1 : Int32) : Prop := ∃ g0, J_X8_streetsAt_L4 len r Q g0 i j x0 x1 (0 : Int32) (0 : Int32)
abbrev rm_X8_streetsAt : Room := { frames := 1, cells := 0, slots := 0, locals := 22 }
variable {p : Program} {l : Launch} {e : Env} {s : State} {m : MethodId} {args : Array Value} {below : List Frame} {meth : Method} {c : Code} {b tU n : Nat} {cy : Nat → ClassId} {D : va_G} {K len : Nat → Nat} {r : jR} {Q : Int32 → jI → jL → Prop}
theorem hiX8_X8_streetsAt : ∀ w ∈ u_ws RX8 TX8 8, w ∈ wsX8_streetsAt := by decide +kernel
set_option maxHeartbeats 4000000 in
set_option maxRecDepth 100000 in
theorem w_X8_streetsAt_L24 (C0 : jCx p s m args c cX8_streetsAt 4 wsX8_streetsAt RX8 b cy D tU n K r) (hr : meth.sig.returnType = some .int) (hlk : meth.locks = false) {Hd4 : jI → jL → Nat → Int32 → Int32 → Int32 → Prop} (k4 : ∀ {H : Heap} {locs : List Loc} {ls : Array Slot} {i : jI} {j : jL} {x0 : Nat} {x1 : Int32} {x2 : Int32} {x3 : Int32} (w : jDy b cy D n K len r i j s H locs) (hx0 : x0 < n ∧ K x0 = 7) (hl : lv_has ls 4 [(0, .ref (b + x0)), (1, .int x1), (2, .int x2), (3, .int x3)]) (h : Hd4 i j x0 x1 x2 x3), W p l e rm_X8_streetsAt s m args below meth c H locs 0 0 (MQ below (jQi b cy D tU n K len r Q) args s 0 0 (jA b)) (F0 m 4 ls [])) {H : Heap} {locs : List Loc} {ls : Array Slot} {i : jI} {j : jL} {x0 : Nat} {x1 : Int32} {x2 : Int32} {x3 : Int32} (w : jDy b cy D n K len r i j s H locs) (hx0 : x0 < n ∧ K x0 = 7) (hl : lv_has ls 4 [(0, .ref (b + x0)), (1, .int x1), (2, .int x2), (3, .int x3)]) (h : J_X8_streetsAt_L24 len r Q Hd4 i j x0 x1 x2 x3) : W p l e rm_X8_streetsAt s m args below meth c H locs 0 0 (MQ below (jQi b cy D tU n K len r Q) args s 0 0 (jA b)) (F0 m 24 ls []) := by
  obtain ⟨hx, hb, hml, hown, hts, hst, hG⟩ := id C0
  have hiX8 : ∀ w ∈ u_ws RX8 TX8 8, w ∈ wsX8_streetsAt := hiX8_X8_streetsAt
  rw [J_X8_streetsAt_L24] at h
  obtain ⟨v24, he⟩ : ∃ z : Int32, z = x3 + (1 : Int32) := ⟨_, rfl⟩
  replace h := h v24 he
  refine lv_iinc (v := v24) (lv' := [(3, .int v24), (0, .ref (b + x0)), (1, .int x1), (2, .int x2)]) hx hb dX8_streetsAt_24 hl (k := 3) rfl (by rw [he]; rfl) (by decide) rfl (fun ls hl => ?_)
  clear he
  refine lv_goto (tgt := 4) hx hb dX8_streetsAt_27 (by decide) ?_
  exact k4 w hx0 (lv_sub hl [1, 2, 3, 0] rfl) h
set_option maxHeartbeats 4000000 in
set_option maxRecDepth 100000 in
theorem w_X8_streetsAt_L4 (C0 : jCx p s m args c cX8_streetsAt 4 wsX8_streetsAt RX8 b cy D tU n K r) (hr : meth.sig.returnType = some .int) (hlk : meth.locks = false) : ∀ (g : Nat) {H : Heap} {locs : List Loc} {ls : Array Slot} {i : jI} {j : jL} {x0 : Nat} {x1 : Int32} {x2 : Int32} {x3 : Int32} (w : jDy b cy D n K len r i j s H locs) (hx0 : x0 < n ∧ K x0 = 7) (hl : lv_has ls 4 [(0, .ref (b + x0)), (1, .int x1), (2, .int x2), (3, .int x3)]) (h : J_X8_streetsAt_L4 len r Q g i j x0 x1 x2 x3), W p l e rm_X8_streetsAt s m args below meth c H locs 0 0 (MQ below (jQi b cy D tU n K len r Q) args s 0 0 (jA b)) (F0 m 4 ls []) := by
  obtain ⟨hx, hb, hml, hown, hts, hst, hG⟩ := id C0
  have hiX8 : ∀ w ∈ u_ws RX8 TX8 8, w ∈ wsX8_streetsAt := hiX8_X8_streetsAt
  intro g
  induction g with
  | zero => intro H locs ls i j x0 x1 x2 x3 w hx0 hl h; exact False.elim h
  | succ g ih =>
    intro H locs ls i j x0 x1 x2 x3 w hx0 hl h
    rw [J_X8_streetsAt_L4] at h
    refine lv_iload_n hx hb dX8_streetsAt_4 rfl (lv_at hl 3 rfl) ?_
    refine lv_aload_n hx hb dX8_streetsAt_5 rfl (lv_at hl 0 rfl) ?_
    refine jgi (f := 0) hx hb hts hown hst w hx0 hiX8 (rfl : vwCl[7]? = some (RX8, TX8, 8)) (hts (.fieldLink RX8 27 "FootByGate$Town" "streets" "I") (by decide +kernel)) ⟨by decide, by decide, rfl⟩ dX8_streetsAt_6 ?_
    refine lv_icmp_ge (tgt := 30) hx hb dX8_streetsAt_9 (by decide) (fun hc => ?_) (fun hc => ?_)
    · replace h := h.1 hc
      clear hc
      refine lv_iload_n hx hb dX8_streetsAt_30 rfl (lv_at hl 2 rfl) ?_
      exact jret_i hx hb hr hlk hst w h dX8_streetsAt_31
    · replace h := h.2 hc
      clear hc
      refine lv_aload_n hx hb dX8_streetsAt_12 rfl (lv_at hl 0 rfl) ?_
      refine lv_iload_n hx hb dX8_streetsAt_13 rfl (lv_at hl 3 rfl) ?_
      refine lv_iload_n hx hb dX8_streetsAt_14 rfl (lv_at hl 1 rfl) ?_
      refine jcV_i (k := x0) (As := [.int x3, .int x1]) (rest := []) C0 w (c_X8_isAt hG hx0 h) (cwV 2 hts gX8_streetsAt_X8_isAt rfl rfl rfl (by decide +kernel) ⟨Nat.le_of_ble_eq_true rfl, Nat.le_of_ble_eq_true rfl⟩) hx0 (rfl : vwCl[7]? = some (RX8, TX8, 8)) (by decide) rfl hl.1 rfl (Nat.le_of_ble_eq_true rfl) dX8_streetsAt_15 (fun q15 i15 j15 H locs h w => ?_) ⟨Nat.zero_le _, Nat.zero_le _⟩
      refine lv_if_eq (tgt := 24) hx hb dX8_streetsAt_18 (by decide) (fun hc => ?_) (fun hc => ?_)
      · replace h := h.1 hc
        clear hc
        exact w_X8_streetsAt_L24 C0 hr hlk (fun w hx0 hl h => ih w hx0 hl h) w hx0 (lv_sub hl [0, 1, 2, 3] rfl) h
      · replace h := h.2 hc
        clear hc
        obtain ⟨v21, he⟩ : ∃ z : Int32, z = x2 + (1 : Int32) := ⟨_, rfl⟩
        replace h := h v21 he
        refine lv_iinc (v := v21) (lv' := [(2, .int v21), (0, .ref (b + x0)), (1, .int x1), (3, .int x3)]) hx hb dX8_streetsAt_21 hl (k := 2) rfl (by rw [he]; rfl) (by decide) rfl (fun ls hl => ?_)
        clear he
        exact w_X8_streetsAt_L24 C0 hr hlk (fun w hx0 hl h => ih w hx0 hl h) w hx0 (lv_sub hl [1, 2, 0, 3] rfl) h
set_option maxHeartbeats 4000000 in
set_option maxRecDepth 100000 in
theorem c_X8_streetsAt (hG : jG n K r) {i : jI} {j : jL} {x0 : Nat} {x1 : Int32} (hx0 : x0 < n ∧ K x0 = 7) (h : J_X8_streetsAt len r Q i j x0 x1) : Met l yX8_streetsAt wsX8_streetsAt rm_X8_streetsAt (va_Pc [.ref (b + x0), .int x1] (jPre b cy D tU n K len r i j)) (jQi b cy D tU n K len r Q) 0 0 (jA b) := by
  refine Met.ofW (cc := cX8_streetsAt) (maxL := 4) (ret := (some .int)) (by decide) rfl ?_
  intro p e s m args below meth c s₁ B hml hv
  obtain ⟨rfl, hv⟩ := hv
  have C0 : jCx p s m _ c cX8_streetsAt 4 wsX8_streetsAt RX8 b cy D tU n K r := ⟨B.exec, B.bytes, hml, findClass_of_methodNamed B.named, atoms_spec (ws := wsX8_streetsAt) B.pre, hv.2.2, hG⟩
  have hr := B.returns
  have hlk := B.notSynchronized
  obtain ⟨hx, hb, hml, hown, hts, hst, hG⟩ := id C0
  have hiX8 : ∀ w ∈ u_ws RX8 TX8 8, w ∈ wsX8_streetsAt := hiX8_X8_streetsAt
  have w := jDy.start hv
  have hl := lv_entry ([.ref (b + x0), .int x1]) (n := 4) (Nat.le_of_ble_eq_true rfl)
  rw [lg_entry_eq]
  generalize (lg_sl ([.ref (b + x0), .int x1]) ++ List.replicate (4 - (lg_sl ([.ref (b + x0), .int x1])).length) Slot.unset).toArray = ls at hl ⊢
  replace hl : lv_has ls 4 [(0, .ref (b + x0)), (1, .int x1)] := hl
  show W p l e rm_X8_streetsAt s m _ below meth c s.heap [] 0 0 _ (F0 m 0 ls [])
  rw [J_X8_streetsAt] at h
  refine lv_iconst (v := (0 : Int32)) hx hb dX8_streetsAt_0 (by decide) ?_
  refine lv_istore_n (lv' := [(2, .int (0 : Int32)), (0, .ref (b + x0)), (1, .int x1)]) hx hb dX8_streetsAt_1 rfl hl (by decide) rfl (fun ls hl => ?_)
  refine lv_iconst (v := (0 : Int32)) hx hb dX8_streetsAt_2 (by decide) ?_
  refine lv_istore_n (lv' := [(3, .int (0 : Int32)), (2, .int (0 : Int32)), (0, .ref (b + x0)), (1, .int x1)]) hx hb dX8_streetsAt_3 rfl hl (by decide) rfl (fun ls hl => ?_)
  obtain ⟨g0, h⟩ := h
  exact w_X8_streetsAt_L4 C0 hr hlk g0 w hx0 (lv_sub hl [2, 3, 1, 0] rfl) h
end S_X8_streetsAt
section S_X9_isOf
def J_X9_isOf_L25 (len : Nat → Nat) (r : jR) (Q : Int32 → jI → jL → Prop) (i : jI) (j : jL) : Prop := Q (1 : Int32) i j
def J_X9_isOf_L29 (len : Nat → Nat) (r : jR) (Q : Int32 → jI → jL → Prop) (i : jI) (j : jL) : Prop := Q (0 : Int32) i j
def J_X9_isOf (len : Nat → Nat) (r : jR) (Q : Int32 → jI → jL → Prop) (i : jI) (j : jL) (x0 : Nat) (x1 : Int32) : Prop := ((x1 = 0) → (J_X9_isOf_L25 len r Q i j )) ∧ ((¬ x1 = 0) → (((x1 = (i x0 0)) → (J_X9_isOf_L25 len r Q i j )) ∧ ((¬ x1 = (i x0 0)) → (((¬ x1 = (2 : Int32)) → (J_X9_isOf_L29 len r Q i j )) ∧ ((x1 = (2 : Int32)) → (((¬ (i x0 0) = (4 : Int32)) → (J_X9_isOf_L29 len r Q i j )) ∧ (((i x0 0) = (4 : Int32)) → (J_X9_isOf_L25 len r Q i j ))))))))
abbrev rm_X9_isOf : Room := { frames := 0, cells := 0, slots := 0, locals := 0 }
variable {p : Program} {l : Launch} {e : Env} {s : State} {m : MethodId} {args : Array Value} {below : List Frame} {meth : Method} {c : Code} {b tU n : Nat} {cy : Nat → ClassId} {D : va_G} {K len : Nat → Nat} {r : jR} {Q : Int32 → jI → jL → Prop}
theorem hiX9_X9_isOf : ∀ w ∈ u_ws RX9 TX9 3, w ∈ wsX9_isOf := by decide +kernel
set_option maxHeartbeats 4000000 in
set_option maxRecDepth 100000 in
theorem w_X9_isOf_L25 (C0 : jCx p s m args c cX9_isOf 2 wsX9_isOf RX9 b cy D tU n K r) (hr : meth.sig.returnType = some .boolean) (hlk : meth.locks = false) {H : Heap} {locs : List Loc} {ls : Array Slot} {i : jI} {j : jL}  (w : jDy b cy D n K len r i j s H locs) (hl : lv_has ls 2 []) (h : J_X9_isOf_L25 len r Q i j) : W p l e rm_X9_isOf s m args below meth c H locs 0 0 (MQ below (jQi b cy D tU n K len r Q) args s 0 0 (jA b)) (F0 m 25 ls []) := by
  obtain ⟨hx, hb, hml, hown, hts, hst, hG⟩ := id C0
  have hiX9 : ∀ w ∈ u_ws RX9 TX9 3, w ∈ wsX9_isOf := hiX9_X9_isOf
  rw [J_X9_isOf_L25] at h
  refine lv_iconst (v := (1 : Int32)) hx hb dX9_isOf_25 (by decide) ?_
  refine lv_goto (tgt := 30) hx hb dX9_isOf_26 (by decide) ?_
  exact jret_z hx hb hr hlk hst w (by decide) h dX9_isOf_30
set_option maxHeartbeats 4000000 in
set_option maxRecDepth 100000 in
theorem w_X9_isOf_L29 (C0 : jCx p s m args c cX9_isOf 2 wsX9_isOf RX9 b cy D tU n K r) (hr : meth.sig.returnType = some .boolean) (hlk : meth.locks = false) {H : Heap} {locs : List Loc} {ls : Array Slot} {i : jI} {j : jL}  (w : jDy b cy D n K len r i j s H locs) (hl : lv_has ls 2 []) (h : J_X9_isOf_L29 len r Q i j) : W p l e rm_X9_isOf s m args below meth c H locs 0 0 (MQ below (jQi b cy D tU n K len r Q) args s 0 0 (jA b)) (F0 m 29 ls []) := by
  obtain ⟨hx, hb, hml, hown, hts, hst, hG⟩ := id C0
  have hiX9 : ∀ w ∈ u_ws RX9 TX9 3, w ∈ wsX9_isOf := hiX9_X9_isOf
  rw [J_X9_isOf_L29] at h
  refine lv_iconst (v := (0 : Int32)) hx hb dX9_isOf_29 (by decide) ?_
  exact jret_z hx hb hr hlk hst w (by decide) h dX9_isOf_30
set_option maxHeartbeats 4000000 in
set_option maxRecDepth 100000 in
theorem c_X9_isOf (hG : jG n K r) {i : jI} {j : jL} {x0 : Nat} {x1 : Int32} (hx0 : x0 < n ∧ K x0 = 8) (h : J_X9_isOf len r Q i j x0 x1) : Met l yX9_isOf wsX9_isOf rm_X9_isOf (va_Pc [.ref (b + x0), .int x1] (jPre b cy D tU n K len r i j)) (jQi b cy D tU n K len r Q) 0 0 (jA b) := by
  refine Met.ofW (cc := cX9_isOf) (maxL := 2) (ret := (some .boolean)) (by decide) rfl ?_
  intro p e s m args below meth c s₁ B hml hv
  obtain ⟨rfl, hv⟩ := hv
  have C0 : jCx p s m _ c cX9_isOf 2 wsX9_isOf RX9 b cy D tU n K r := ⟨B.exec, B.bytes, hml, findClass_of_methodNamed B.named, atoms_spec (ws := wsX9_isOf) B.pre, hv.2.2, hG⟩
  have hr := B.returns
  have hlk := B.notSynchronized
  obtain ⟨hx, hb, hml, hown, hts, hst, hG⟩ := id C0
  have hiX9 : ∀ w ∈ u_ws RX9 TX9 3, w ∈ wsX9_isOf := hiX9_X9_isOf
  have w := jDy.start hv
  have hl := lv_entry ([.ref (b + x0), .int x1]) (n := 2) (Nat.le_of_ble_eq_true rfl)
  rw [lg_entry_eq]
  generalize (lg_sl ([.ref (b + x0), .int x1]) ++ List.replicate (2 - (lg_sl ([.ref (b + x0), .int x1])).length) Slot.unset).toArray = ls at hl ⊢
  replace hl : lv_has ls 2 [(0, .ref (b + x0)), (1, .int x1)] := hl
  show W p l e rm_X9_isOf s m _ below meth c s.heap [] 0 0 _ (F0 m 0 ls [])
  rw [J_X9_isOf] at h
  refine lv_iload_n hx hb dX9_isOf_0 rfl (lv_at hl 1 rfl) ?_
  refine lv_if_eq (tgt := 25) hx hb dX9_isOf_1 (by decide) (fun hc => ?_) (fun hc => ?_)
  · replace h := h.1 hc
    clear hc
    exact w_X9_isOf_L25 C0 hr hlk w (lv_sub hl [] rfl) h
  · replace h := h.2 hc
    clear hc
    refine lv_iload_n hx hb dX9_isOf_4 rfl (lv_at hl 1 rfl) ?_
    refine lv_aload_n hx hb dX9_isOf_5 rfl (lv_at hl 0 rfl) ?_
    refine jgi (f := 0) hx hb hts hown hst w hx0 hiX9 (rfl : vwCl[8]? = some (RX9, TX9, 3)) (hts (.fieldLink RX9 9 "FootByGate$Walker" "kind" "I") (by decide +kernel)) ⟨by decide, by decide, rfl⟩ dX9_isOf_6 ?_
    refine lv_icmp_eq (tgt := 25) hx hb dX9_isOf_9 (by decide) (fun hc => ?_) (fun hc => ?_)
    · replace h := h.1 hc
      clear hc
      exact w_X9_isOf_L25 C0 hr hlk w (lv_sub hl [] rfl) h
    · replace h := h.2 hc
      clear hc
      refine lv_iload_n hx hb dX9_isOf_12 rfl (lv_at hl 1 rfl) ?_
      refine lv_iconst (v := (2 : Int32)) hx hb dX9_isOf_13 (by decide) ?_
      refine lv_icmp_ne (tgt := 29) hx hb dX9_isOf_14 (by decide) (fun hc => ?_) (fun hc => ?_)
      · replace h := h.1 hc
        clear hc
        exact w_X9_isOf_L29 C0 hr hlk w (lv_sub hl [] rfl) h
      · replace h := h.2 hc
        clear hc
        refine lv_aload_n hx hb dX9_isOf_17 rfl (lv_at hl 0 rfl) ?_
        refine jgi (f := 0) hx hb hts hown hst w hx0 hiX9 (rfl : vwCl[8]? = some (RX9, TX9, 3)) (hts (.fieldLink RX9 9 "FootByGate$Walker" "kind" "I") (by decide +kernel)) ⟨by decide, by decide, rfl⟩ dX9_isOf_18 ?_
        refine lv_iconst (v := (4 : Int32)) hx hb dX9_isOf_21 (by decide) ?_
        refine lv_icmp_ne (tgt := 29) hx hb dX9_isOf_22 (by decide) (fun hc => ?_) (fun hc => ?_)
        · replace h := h.1 hc
          clear hc
          exact w_X9_isOf_L29 C0 hr hlk w (lv_sub hl [] rfl) h
        · replace h := h.2 hc
          clear hc
          exact w_X9_isOf_L25 C0 hr hlk w (lv_sub hl [] rfl) h
end S_X9_isOf
