section S_X11_isWalker
def J_X11_isWalker_L16 (len : Nat → Nat) (r : jR) (Q : Int32 → jI → jL → Prop) (i : jI) (j : jL) : Prop := Q (0 : Int32) i j
def J_X11_isWalker (len : Nat → Nat) (r : jR) (Q : Int32 → jI → jL → Prop) (i : jI) (j : jL) (x0 : Nat) (x1 : Int32) : Prop := ((x1 < 0) → (J_X11_isWalker_L16 len r Q i j )) ∧ ((¬ x1 < 0) → ((((i x0 3) ≤ x1) → (J_X11_isWalker_L16 len r Q i j )) ∧ ((¬ (i x0 3) ≤ x1) → (Q (1 : Int32) i j))))
abbrev rm_X11_isWalker : Room := { frames := 0, cells := 0, slots := 0, locals := 0 }
variable {p : Program} {l : Launch} {e : Env} {s : State} {m : MethodId} {args : Array Value} {below : List Frame} {meth : Method} {c : Code} {b tU n : Nat} {cy : Nat → ClassId} {D : va_G} {K len : Nat → Nat} {r : jR} {Q : Int32 → jI → jL → Prop}
theorem hiX11_X11_isWalker : ∀ w ∈ u_ws RX11 TX11 15, w ∈ wsX11_isWalker := by decide +kernel
set_option maxHeartbeats 4000000 in
set_option maxRecDepth 100000 in
theorem w_X11_isWalker_L16 (C0 : jCx p s m args c cX11_isWalker 2 wsX11_isWalker RX11 b cy D tU n K r) (hr : meth.sig.returnType = some .boolean) (hlk : meth.locks = false) {H : Heap} {locs : List Loc} {ls : Array Slot} {i : jI} {j : jL}  (w : jDy b cy D n K len r i j s H locs) (hl : lv_has ls 2 []) (h : J_X11_isWalker_L16 len r Q i j) : W p l e rm_X11_isWalker s m args below meth c H locs 0 0 (MQ below (jQi b cy D tU n K len r Q) args s 0 0 (jA b)) (F0 m 16 ls []) := by
  obtain ⟨hx, hb, hml, hown, hts, hst, hG⟩ := id C0
  have hiX11 : ∀ w ∈ u_ws RX11 TX11 15, w ∈ wsX11_isWalker := hiX11_X11_isWalker
  rw [J_X11_isWalker_L16] at h
  refine lv_iconst (v := (0 : Int32)) hx hb dX11_isWalker_16 (by decide) ?_
  exact jret_z hx hb hr hlk hst w (by decide) h dX11_isWalker_17
set_option maxHeartbeats 4000000 in
set_option maxRecDepth 100000 in
theorem c_X11_isWalker (hG : jG n K r) {i : jI} {j : jL} {x0 : Nat} {x1 : Int32} (hx0 : x0 < n ∧ K x0 = 10) (h : J_X11_isWalker len r Q i j x0 x1) : Met l yX11_isWalker wsX11_isWalker rm_X11_isWalker (va_Pc [.ref (b + x0), .int x1] (jPre b cy D tU n K len r i j)) (jQi b cy D tU n K len r Q) 0 0 (jA b) := by
  refine Met.ofW (cc := cX11_isWalker) (maxL := 2) (ret := (some .boolean)) (by decide) rfl ?_
  intro p e s m args below meth c s₁ B hml hv
  obtain ⟨rfl, hv⟩ := hv
  have C0 : jCx p s m _ c cX11_isWalker 2 wsX11_isWalker RX11 b cy D tU n K r := ⟨B.exec, B.bytes, hml, findClass_of_methodNamed B.named, atoms_spec (ws := wsX11_isWalker) B.pre, hv.2.2, hG⟩
  have hr := B.returns
  have hlk := B.notSynchronized
  obtain ⟨hx, hb, hml, hown, hts, hst, hG⟩ := id C0
  have hiX11 : ∀ w ∈ u_ws RX11 TX11 15, w ∈ wsX11_isWalker := hiX11_X11_isWalker
  have w := jDy.start hv
  have hl := lv_entry ([.ref (b + x0), .int x1]) (n := 2) (Nat.le_of_ble_eq_true rfl)
  rw [lg_entry_eq]
  generalize (lg_sl ([.ref (b + x0), .int x1]) ++ List.replicate (2 - (lg_sl ([.ref (b + x0), .int x1])).length) Slot.unset).toArray = ls at hl ⊢
  replace hl : lv_has ls 2 [(0, .ref (b + x0)), (1, .int x1)] := hl
  show W p l e rm_X11_isWalker s m _ below meth c s.heap [] 0 0 _ (F0 m 0 ls [])
  rw [J_X11_isWalker] at h
  refine lv_iload_n hx hb dX11_isWalker_0 rfl (lv_at hl 1 rfl) ?_
  refine lv_if_lt (tgt := 16) hx hb dX11_isWalker_1 (by decide) (fun hc => ?_) (fun hc => ?_)
  · replace h := h.1 hc
    clear hc
    exact w_X11_isWalker_L16 C0 hr hlk w (lv_sub hl [] rfl) h
  · replace h := h.2 hc
    clear hc
    refine lv_iload_n hx hb dX11_isWalker_4 rfl (lv_at hl 1 rfl) ?_
    refine lv_aload_n hx hb dX11_isWalker_5 rfl (lv_at hl 0 rfl) ?_
    refine jgi (f := 3) hx hb hts hown hst w hx0 hiX11 (rfl : vwCl[10]? = some (RX11, TX11, 15)) (hts (.fieldLink RX11 96 "FootByGate" "walkerCount" "I") (by decide +kernel)) ⟨by decide, by decide, rfl⟩ dX11_isWalker_6 ?_
    refine lv_icmp_ge (tgt := 16) hx hb dX11_isWalker_9 (by decide) (fun hc => ?_) (fun hc => ?_)
    · replace h := h.1 hc
      clear hc
      exact w_X11_isWalker_L16 C0 hr hlk w (lv_sub hl [] rfl) h
    · replace h := h.2 hc
      clear hc
      refine lv_iconst (v := (1 : Int32)) hx hb dX11_isWalker_12 (by decide) ?_
      refine lv_goto (tgt := 17) hx hb dX11_isWalker_13 (by decide) ?_
      exact jret_z hx hb hr hlk hst w (by decide) h dX11_isWalker_17
end S_X11_isWalker
section S_X11_about
def J_X11_about (len : Nat → Nat) (r : jR) (Q : Int32 → jI → jL → Prop) (i : jI) (j : jL) (x0 : Nat) (x1 : Int32) (x2 : Int32) : Prop := J_X11_isWalker len r (fun (q2 : Int32) (i2 : jI) (j2 : jL) => ((¬ q2 = 0) → (∃ a12, r x0 2 = some a12 ∧ (vp_in x1 (len a12) ∧ ∃ a16, r a12 x1.toNatClampNeg = some a16 ∧ (((x2 = (0 : Int32)) → (Q (i2 a16 0) i2 j2)) ∧ (((x2 = (1 : Int32)) → (J_X7_placeOf len r (fun (q69 : Int32) (i69 : jI) (j69 : jL) => Q q69 i69 j69) i2 j2 (i2 a16 1))) ∧ (((x2 = (2 : Int32)) → (J_X7_footOf len r (fun (q77 : Int32) (i77 : jI) (j77 : jL) => Q q77 i77 j77) i2 j2 (i2 a16 1))) ∧ (((x2 = (3 : Int32)) → (Q (i2 a16 2) i2 j2)) ∧ (((x2 = (4 : Int32)) → (J_X7_markOf len r (fun (q91 : Int32) (i91 : jI) (j91 : jL) => Q q91 i91 j91) i2 j2 (i2 a16 1) (0 : Int32))) ∧ (((x2 = (5 : Int32)) → (J_X7_markOf len r (fun (q100 : Int32) (i100 : jI) (j100 : jL) => Q q100 i100 j100) i2 j2 (i2 a16 1) (1 : Int32))) ∧ (((x2 = (6 : Int32)) → (J_X7_markOf len r (fun (q109 : Int32) (i109 : jI) (j109 : jL) => Q q109 i109 j109) i2 j2 (i2 a16 1) (2 : Int32))) ∧ ((¬ x2 = (0 : Int32) → ¬ x2 = (1 : Int32) → ¬ x2 = (2 : Int32) → ¬ x2 = (3 : Int32) → ¬ x2 = (4 : Int32) → ¬ x2 = (5 : Int32) → ¬ x2 = (6 : Int32) → (Q (-102 : Int32) i2 j2))))))))))))) ∧ ((q2 = 0) → (Q (-101 : Int32) i2 j2))) i j x0 x1
abbrev rm_X11_about : Room := { frames := 1, cells := 0, slots := 0, locals := 21 }
variable {p : Program} {l : Launch} {e : Env} {s : State} {m : MethodId} {args : Array Value} {below : List Frame} {meth : Method} {c : Code} {b tU n : Nat} {cy : Nat → ClassId} {D : va_G} {K len : Nat → Nat} {r : jR} {Q : Int32 → jI → jL → Prop}
theorem hiX11_X11_about : ∀ w ∈ u_ws RX11 TX11 15, w ∈ wsX11_about := by decide +kernel
theorem hiX9_X11_about : ∀ w ∈ u_ws RX9 TX9 3, w ∈ wsX11_about := by decide +kernel
set_option maxHeartbeats 4000000 in
set_option maxRecDepth 100000 in
theorem c_X11_about (hG : jG n K r) {i : jI} {j : jL} {x0 : Nat} {x1 : Int32} {x2 : Int32} (hx0 : x0 < n ∧ K x0 = 10) (h : J_X11_about len r Q i j x0 x1 x2) : Met l yX11_about wsX11_about rm_X11_about (va_Pc [.ref (b + x0), .int x1, .int x2] (jPre b cy D tU n K len r i j)) (jQi b cy D tU n K len r Q) 0 0 (jA b) := by
  refine Met.ofW (cc := cX11_about) (maxL := 4) (ret := (some .int)) (by decide) rfl ?_
  intro p e s m args below meth c s₁ B hml hv
  obtain ⟨rfl, hv⟩ := hv
  have C0 : jCx p s m _ c cX11_about 4 wsX11_about RX11 b cy D tU n K r := ⟨B.exec, B.bytes, hml, findClass_of_methodNamed B.named, atoms_spec (ws := wsX11_about) B.pre, hv.2.2, hG⟩
  have hr := B.returns
  have hlk := B.notSynchronized
  obtain ⟨hx, hb, hml, hown, hts, hst, hG⟩ := id C0
  have hiX11 : ∀ w ∈ u_ws RX11 TX11 15, w ∈ wsX11_about := hiX11_X11_about
  have hiX9 : ∀ w ∈ u_ws RX9 TX9 3, w ∈ wsX11_about := hiX9_X11_about
  have w := jDy.start hv
  have hl := lv_entry ([.ref (b + x0), .int x1, .int x2]) (n := 4) (Nat.le_of_ble_eq_true rfl)
  rw [lg_entry_eq]
  generalize (lg_sl ([.ref (b + x0), .int x1, .int x2]) ++ List.replicate (4 - (lg_sl ([.ref (b + x0), .int x1, .int x2])).length) Slot.unset).toArray = ls at hl ⊢
  replace hl : lv_has ls 4 [(0, .ref (b + x0)), (1, .int x1), (2, .int x2)] := hl
  show W p l e rm_X11_about s m _ below meth c s.heap [] 0 0 _ (F0 m 0 ls [])
  rw [J_X11_about] at h
  refine lv_aload_n hx hb dX11_about_0 rfl (lv_at hl 0 rfl) ?_
  refine lv_iload_n hx hb dX11_about_1 rfl (lv_at hl 1 rfl) ?_
  refine jcV_i (k := x0) (As := [.int x1]) (rest := []) C0 w (c_X11_isWalker hG hx0 h) (cwV 1 hts gX11_about_X11_isWalker rfl rfl rfl (by decide +kernel) ⟨Nat.le_of_ble_eq_true rfl, Nat.le_of_ble_eq_true rfl⟩) hx0 (rfl : vwCl[10]? = some (RX11, TX11, 15)) (by decide) rfl hl.1 rfl (Nat.le_of_ble_eq_true rfl) dX11_about_2 (fun q2 i2 j2 H locs h w => ?_) ⟨Nat.zero_le _, Nat.zero_le _⟩
  refine lv_if_ne (tgt := 11) hx hb dX11_about_5 (by decide) (fun hc => ?_) (fun hc => ?_)
  · replace h := h.1 hc
    clear hc
    refine lv_aload_n hx hb dX11_about_11 rfl (lv_at hl 0 rfl) ?_
    obtain ⟨a12, hr0, h⟩ := h
    refine jgr (f := 2) hx hb hts hown hst w hG hx0 hiX11 (rfl : vwCl[10]? = some (RX11, TX11, 15)) (hts (.fieldLink RX11 25 "FootByGate" "walkers" "[LFootByGate$Walker;") (by decide +kernel)) ⟨by decide, by decide, rfl⟩ (rfl : jrt 10 2 = 16) dX11_about_12 hr0 (fun ha12 => ?_)
    clear hr0
    refine lv_iload_n hx hb dX11_about_15 rfl (lv_at hl 1 rfl) ?_
    obtain ⟨hn, h⟩ := h
    obtain ⟨a16, hr0, h⟩ := h
    refine jaar hx hb hst w hG ha12 hn dX11_about_16 hr0 (fun ha16 => ?_)
    clear hn hr0
    refine lv_astore_n (lv' := [(3, .ref (b + a16)), (0, .ref (b + x0)), (1, .int x1), (2, .int x2)]) hx hb dX11_about_17 rfl hl (by decide) rfl (fun ls hl => ?_)
    refine lv_iload_n hx hb dX11_about_18 rfl (lv_at hl 3 rfl) ?_
    by_cases hc0 : x2 = (0 : Int32)
    · replace h := h.1 hc0
      refine lv_tableIn (off := 41) (tgt := 60) hx hb dX11_about_19 (by rw [hc0]; decide) (by rw [hc0]; decide) (by rw [hc0]; rfl) (by decide) ?_
      clear hc0
      refine lv_aload_n hx hb dX11_about_60 rfl (lv_at hl 0 rfl) ?_
      refine jgi (f := 0) hx hb hts hown hst w ha16 hiX9 (rfl : vwCl[8]? = some (RX9, TX9, 3)) (hts (.fieldLink RX11 137 "FootByGate$Walker" "kind" "I") (by decide +kernel)) ⟨by decide, by decide, rfl⟩ dX11_about_61 ?_
      exact jret_i hx hb hr hlk hst w h dX11_about_64
    replace h := h.2
    by_cases hc1 : x2 = (1 : Int32)
    · replace h := h.1 hc1
      refine lv_tableIn (off := 46) (tgt := 65) hx hb dX11_about_19 (by rw [hc1]; decide) (by rw [hc1]; decide) (by rw [hc1]; rfl) (by decide) ?_
      clear hc1
      refine lv_aload_n hx hb dX11_about_65 rfl (lv_at hl 0 rfl) ?_
      refine jgi (f := 1) hx hb hts hown hst w ha16 hiX9 (rfl : vwCl[8]? = some (RX9, TX9, 3)) (hts (.fieldLink RX11 146 "FootByGate$Walker" "stand" "I") (by decide +kernel)) ⟨by decide, by decide, rfl⟩ dX11_about_66 ?_
      refine jcS_i (As := [.int (i2 a16 1)]) (rest := []) C0 w (c_X7_placeOf hG h) (va_cwS 1 hts gX11_about_X7_placeOf rfl rfl rfl (by decide +kernel) ⟨Nat.le_of_ble_eq_true rfl, Nat.le_of_ble_eq_true rfl⟩) rfl hl.1 rfl (Nat.le_of_ble_eq_true rfl) dX11_about_69 (fun q69 i69 j69 H locs h w => ?_) ⟨Nat.zero_le _, Nat.zero_le _⟩
      exact jret_i hx hb hr hlk hst w h dX11_about_72
    replace h := h.2
    by_cases hc2 : x2 = (2 : Int32)
    · replace h := h.1 hc2
      refine lv_tableIn (off := 54) (tgt := 73) hx hb dX11_about_19 (by rw [hc2]; decide) (by rw [hc2]; decide) (by rw [hc2]; rfl) (by decide) ?_
      clear hc2
      refine lv_aload_n hx hb dX11_about_73 rfl (lv_at hl 0 rfl) ?_
      refine jgi (f := 1) hx hb hts hown hst w ha16 hiX9 (rfl : vwCl[8]? = some (RX9, TX9, 3)) (hts (.fieldLink RX11 146 "FootByGate$Walker" "stand" "I") (by decide +kernel)) ⟨by decide, by decide, rfl⟩ dX11_about_74 ?_
      refine jcS_i (As := [.int (i2 a16 1)]) (rest := []) C0 w (c_X7_footOf hG h) (va_cwS 1 hts gX11_about_X7_footOf rfl rfl rfl (by decide +kernel) ⟨Nat.le_of_ble_eq_true rfl, Nat.le_of_ble_eq_true rfl⟩) rfl hl.1 rfl (Nat.le_of_ble_eq_true rfl) dX11_about_77 (fun q77 i77 j77 H locs h w => ?_) ⟨Nat.zero_le _, Nat.zero_le _⟩
      exact jret_i hx hb hr hlk hst w h dX11_about_80
    replace h := h.2
    by_cases hc3 : x2 = (3 : Int32)
    · replace h := h.1 hc3
      refine lv_tableIn (off := 62) (tgt := 81) hx hb dX11_about_19 (by rw [hc3]; decide) (by rw [hc3]; decide) (by rw [hc3]; rfl) (by decide) ?_
      clear hc3
      refine lv_aload_n hx hb dX11_about_81 rfl (lv_at hl 0 rfl) ?_
      refine jgi (f := 2) hx hb hts hown hst w ha16 hiX9 (rfl : vwCl[8]? = some (RX9, TX9, 3)) (hts (.fieldLink RX11 149 "FootByGate$Walker" "skipped" "I") (by decide +kernel)) ⟨by decide, by decide, rfl⟩ dX11_about_82 ?_
      exact jret_i hx hb hr hlk hst w h dX11_about_85
    replace h := h.2
    by_cases hc4 : x2 = (4 : Int32)
    · replace h := h.1 hc4
      refine lv_tableIn (off := 67) (tgt := 86) hx hb dX11_about_19 (by rw [hc4]; decide) (by rw [hc4]; decide) (by rw [hc4]; rfl) (by decide) ?_
      clear hc4
      refine lv_aload_n hx hb dX11_about_86 rfl (lv_at hl 0 rfl) ?_
      refine jgi (f := 1) hx hb hts hown hst w ha16 hiX9 (rfl : vwCl[8]? = some (RX9, TX9, 3)) (hts (.fieldLink RX11 146 "FootByGate$Walker" "stand" "I") (by decide +kernel)) ⟨by decide, by decide, rfl⟩ dX11_about_87 ?_
      refine lv_iconst (v := (0 : Int32)) hx hb dX11_about_90 (by decide) ?_
      refine jcS_i (As := [.int (i2 a16 1), .int (0 : Int32)]) (rest := []) C0 w (c_X7_markOf hG h) (va_cwS 2 hts gX11_about_X7_markOf rfl rfl rfl (by decide +kernel) ⟨Nat.le_of_ble_eq_true rfl, Nat.le_of_ble_eq_true rfl⟩) rfl hl.1 rfl (Nat.le_of_ble_eq_true rfl) dX11_about_91 (fun q91 i91 j91 H locs h w => ?_) ⟨Nat.zero_le _, Nat.zero_le _⟩
      exact jret_i hx hb hr hlk hst w h dX11_about_94
    replace h := h.2
    by_cases hc5 : x2 = (5 : Int32)
    · replace h := h.1 hc5
      refine lv_tableIn (off := 76) (tgt := 95) hx hb dX11_about_19 (by rw [hc5]; decide) (by rw [hc5]; decide) (by rw [hc5]; rfl) (by decide) ?_
      clear hc5
      refine lv_aload_n hx hb dX11_about_95 rfl (lv_at hl 0 rfl) ?_
      refine jgi (f := 1) hx hb hts hown hst w ha16 hiX9 (rfl : vwCl[8]? = some (RX9, TX9, 3)) (hts (.fieldLink RX11 146 "FootByGate$Walker" "stand" "I") (by decide +kernel)) ⟨by decide, by decide, rfl⟩ dX11_about_96 ?_
      refine lv_iconst (v := (1 : Int32)) hx hb dX11_about_99 (by decide) ?_
      refine jcS_i (As := [.int (i2 a16 1), .int (1 : Int32)]) (rest := []) C0 w (c_X7_markOf hG h) (va_cwS 2 hts gX11_about_X7_markOf rfl rfl rfl (by decide +kernel) ⟨Nat.le_of_ble_eq_true rfl, Nat.le_of_ble_eq_true rfl⟩) rfl hl.1 rfl (Nat.le_of_ble_eq_true rfl) dX11_about_100 (fun q100 i100 j100 H locs h w => ?_) ⟨Nat.zero_le _, Nat.zero_le _⟩
      exact jret_i hx hb hr hlk hst w h dX11_about_103
    replace h := h.2
    by_cases hc6 : x2 = (6 : Int32)
    · replace h := h.1 hc6
      refine lv_tableIn (off := 85) (tgt := 104) hx hb dX11_about_19 (by rw [hc6]; decide) (by rw [hc6]; decide) (by rw [hc6]; rfl) (by decide) ?_
      clear hc6
      refine lv_aload_n hx hb dX11_about_104 rfl (lv_at hl 0 rfl) ?_
      refine jgi (f := 1) hx hb hts hown hst w ha16 hiX9 (rfl : vwCl[8]? = some (RX9, TX9, 3)) (hts (.fieldLink RX11 146 "FootByGate$Walker" "stand" "I") (by decide +kernel)) ⟨by decide, by decide, rfl⟩ dX11_about_105 ?_
      refine lv_iconst (v := (2 : Int32)) hx hb dX11_about_108 (by decide) ?_
      refine jcS_i (As := [.int (i2 a16 1), .int (2 : Int32)]) (rest := []) C0 w (c_X7_markOf hG h) (va_cwS 2 hts gX11_about_X7_markOf rfl rfl rfl (by decide +kernel) ⟨Nat.le_of_ble_eq_true rfl, Nat.le_of_ble_eq_true rfl⟩) rfl hl.1 rfl (Nat.le_of_ble_eq_true rfl) dX11_about_109 (fun q109 i109 j109 H locs h w => ?_) ⟨Nat.zero_le _, Nat.zero_le _⟩
      exact jret_i hx hb hr hlk hst w h dX11_about_112
    replace h := h.2
    replace h := h hc0 hc1 hc2 hc3 hc4 hc5 hc6
    have hd : x2.toInt < 0 ∨ 6 < x2.toInt := by
      rcases Int.lt_or_le x2.toInt 0 with h1 | h1
      · exact Or.inl h1
      rcases Int.lt_or_le 6 x2.toInt with h2 | h2
      · exact Or.inr h2
      exfalso
      have h3 : x2.toInt = 0 ∨ x2.toInt = 1 ∨ x2.toInt = 2 ∨ x2.toInt = 3 ∨ x2.toInt = 4 ∨ x2.toInt = 5 ∨ x2.toInt = 6 := by omega
      rcases h3 with h3 | h3 | h3 | h3 | h3 | h3 | h3
      · exact hc0 (Int32.toInt_inj.mp (h3.trans (by decide)))
      · exact hc1 (Int32.toInt_inj.mp (h3.trans (by decide)))
      · exact hc2 (Int32.toInt_inj.mp (h3.trans (by decide)))
      · exact hc3 (Int32.toInt_inj.mp (h3.trans (by decide)))
      · exact hc4 (Int32.toInt_inj.mp (h3.trans (by decide)))
      · exact hc5 (Int32.toInt_inj.mp (h3.trans (by decide)))
      · exact hc6 (Int32.toInt_inj.mp (h3.trans (by decide)))
    refine lv_tableOut (tgt := 113) hx hb dX11_about_19 hd (by decide) ?_
    clear hd hc0 hc1 hc2 hc3 hc4 hc5 hc6
    refine lv_bipush (v := (-102 : Int32)) hx hb dX11_about_113 (by decide) ?_
    exact jret_i hx hb hr hlk hst w h dX11_about_115
  · replace h := h.2 hc
    clear hc
    refine lv_bipush (v := (-101 : Int32)) hx hb dX11_about_8 (by decide) ?_
    exact jret_i hx hb hr hlk hst w h dX11_about_10
end S_X11_about
section S_X11_isWithin
def J_X11_isWithin_L13 (len : Nat → Nat) (r : jR) (Q : Int32 → jI → jL → Prop) (i : jI) (j : jL) : Prop := Q (0 : Int32) i j
def J_X11_isWithin (len : Nat → Nat) (r : jR) (Q : Int32 → jI → jL → Prop) (i : jI) (j : jL) (x0 : Int32) (x1 : Int32) : Prop := ((x0 < 0) → (J_X11_isWithin_L13 len r Q i j )) ∧ ((¬ x0 < 0) → (((x1 < x0) → (J_X11_isWithin_L13 len r Q i j )) ∧ ((¬ x1 < x0) → (Q (1 : Int32) i j))))
abbrev rm_X11_isWithin : Room := { frames := 0, cells := 0, slots := 0, locals := 0 }
variable {p : Program} {l : Launch} {e : Env} {s : State} {m : MethodId} {args : Array Value} {below : List Frame} {meth : Method} {c : Code} {b tU n : Nat} {cy : Nat → ClassId} {D : va_G} {K len : Nat → Nat} {r : jR} {Q : Int32 → jI → jL → Prop}
set_option maxHeartbeats 4000000 in
set_option maxRecDepth 100000 in
theorem w_X11_isWithin_L13 (C0 : jCx p s m args c cX11_isWithin 2 wsX11_isWithin RX11 b cy D tU n K r) (hr : meth.sig.returnType = some .boolean) (hlk : meth.locks = false) {H : Heap} {locs : List Loc} {ls : Array Slot} {i : jI} {j : jL}  (w : jDy b cy D n K len r i j s H locs) (hl : lv_has ls 2 []) (h : J_X11_isWithin_L13 len r Q i j) : W p l e rm_X11_isWithin s m args below meth c H locs 0 0 (MQ below (jQi b cy D tU n K len r Q) args s 0 0 (jA b)) (F0 m 13 ls []) := by
  obtain ⟨hx, hb, hml, hown, hts, hst, hG⟩ := id C0
  rw [J_X11_isWithin_L13] at h
  refine lv_iconst (v := (0 : Int32)) hx hb dX11_isWithin_13 (by decide) ?_
  exact jret_z hx hb hr hlk hst w (by decide) h dX11_isWithin_14
set_option maxHeartbeats 4000000 in
set_option maxRecDepth 100000 in
theorem c_X11_isWithin (hG : jG n K r) {i : jI} {j : jL} {x0 : Int32} {x1 : Int32} (h : J_X11_isWithin len r Q i j x0 x1) : Met l yX11_isWithin wsX11_isWithin rm_X11_isWithin (va_Pc [.int x0, .int x1] (jPre b cy D tU n K len r i j)) (jQi b cy D tU n K len r Q) 0 0 (jA b) := by
  refine Met.ofW (cc := cX11_isWithin) (maxL := 2) (ret := (some .boolean)) (by decide) rfl ?_
  intro p e s m args below meth c s₁ B hml hv
  obtain ⟨rfl, hv⟩ := hv
  have C0 : jCx p s m _ c cX11_isWithin 2 wsX11_isWithin RX11 b cy D tU n K r := ⟨B.exec, B.bytes, hml, findClass_of_methodNamed B.named, atoms_spec (ws := wsX11_isWithin) B.pre, hv.2.2, hG⟩
  have hr := B.returns
  have hlk := B.notSynchronized
  obtain ⟨hx, hb, hml, hown, hts, hst, hG⟩ := id C0
  have w := jDy.start hv
  have hl := lv_entry ([.int x0, .int x1]) (n := 2) (Nat.le_of_ble_eq_true rfl)
  rw [lg_entry_eq]
  generalize (lg_sl ([.int x0, .int x1]) ++ List.replicate (2 - (lg_sl ([.int x0, .int x1])).length) Slot.unset).toArray = ls at hl ⊢
  replace hl : lv_has ls 2 [(0, .int x0), (1, .int x1)] := hl
  show W p l e rm_X11_isWithin s m _ below meth c s.heap [] 0 0 _ (F0 m 0 ls [])
  rw [J_X11_isWithin] at h
  refine lv_iload_n hx hb dX11_isWithin_0 rfl (lv_at hl 0 rfl) ?_
  refine lv_if_lt (tgt := 13) hx hb dX11_isWithin_1 (by decide) (fun hc => ?_) (fun hc => ?_)
  · replace h := h.1 hc
    clear hc
    exact w_X11_isWithin_L13 C0 hr hlk w (lv_sub hl [] rfl) h
  · replace h := h.2 hc
    clear hc
    refine lv_iload_n hx hb dX11_isWithin_4 rfl (lv_at hl 0 rfl) ?_
    refine lv_iload_n hx hb dX11_isWithin_5 rfl (lv_at hl 1 rfl) ?_
    refine lv_icmp_gt (tgt := 13) hx hb dX11_isWithin_6 (by decide) (fun hc => ?_) (fun hc => ?_)
    · replace h := h.1 hc
      clear hc
      exact w_X11_isWithin_L13 C0 hr hlk w (lv_sub hl [] rfl) h
    · replace h := h.2 hc
      clear hc
      refine lv_iconst (v := (1 : Int32)) hx hb dX11_isWithin_9 (by decide) ?_
      refine lv_goto (tgt := 14) hx hb dX11_isWithin_10 (by decide) ?_
      exact jret_z hx hb hr hlk hst w (by decide) h dX11_isWithin_14
end S_X11_isWithin
section S_X11_isKind
def J_X11_isKind (len : Nat → Nat) (r : jR) (Q : Int32 → jI → jL → Prop) (i : jI) (j : jL) (x0 : Int32) : Prop := J_X11_isWithin len r (fun (q2 : Int32) (i2 : jI) (j2 : jL) => (q2 = 0 ∨ q2 = 1) ∧ Q q2 i2 j2) i j x0 (4 : Int32)
abbrev rm_X11_isKind : Room := { frames := 1, cells := 0, slots := 0, locals := 21 }
variable {p : Program} {l : Launch} {e : Env} {s : State} {m : MethodId} {args : Array Value} {below : List Frame} {meth : Method} {c : Code} {b tU n : Nat} {cy : Nat → ClassId} {D : va_G} {K len : Nat → Nat} {r : jR} {Q : Int32 → jI → jL → Prop}
set_option maxHeartbeats 4000000 in
set_option maxRecDepth 100000 in
theorem c_X11_isKind (hG : jG n K r) {i : jI} {j : jL} {x0 : Int32} (h : J_X11_isKind len r Q i j x0) : Met l yX11_isKind wsX11_isKind rm_X11_isKind (va_Pc [.int x0] (jPre b cy D tU n K len r i j)) (jQi b cy D tU n K len r Q) 0 0 (jA b) := by
  refine Met.ofW (cc := cX11_isKind) (maxL := 1) (ret := (some .boolean)) (by decide) rfl ?_
  intro p e s m args below meth c s₁ B hml hv
  obtain ⟨rfl, hv⟩ := hv
  have C0 : jCx p s m _ c cX11_isKind 1 wsX11_isKind RX11 b cy D tU n K r := ⟨B.exec, B.bytes, hml, findClass_of_methodNamed B.named, atoms_spec (ws := wsX11_isKind) B.pre, hv.2.2, hG⟩
  have hr := B.returns
  have hlk := B.notSynchronized
  obtain ⟨hx, hb, hml, hown, hts, hst, hG⟩ := id C0
  have w := jDy.start hv
  have hl := lv_entry ([.int x0]) (n := 1) (Nat.le_of_ble_eq_true rfl)
  rw [lg_entry_eq]
  generalize (lg_sl ([.int x0]) ++ List.replicate (1 - (lg_sl ([.int x0])).length) Slot.unset).toArray = ls at hl ⊢
  replace hl : lv_has ls 1 [(0, .int x0)] := hl
  show W p l e rm_X11_isKind s m _ below meth c s.heap [] 0 0 _ (F0 m 0 ls [])
  rw [J_X11_isKind] at h
  refine lv_iload_n hx hb dX11_isKind_0 rfl (lv_at hl 0 rfl) ?_
  refine lv_iconst (v := (4 : Int32)) hx hb dX11_isKind_1 (by decide) ?_
  refine jcS_i (As := [.int x0, .int (4 : Int32)]) (rest := []) C0 w (c_X11_isWithin hG h) (va_cwS 2 hts gX11_isKind_X11_isWithin rfl rfl rfl (by decide +kernel) ⟨Nat.le_of_ble_eq_true rfl, Nat.le_of_ble_eq_true rfl⟩) rfl hl.1 rfl (Nat.le_of_ble_eq_true rfl) dX11_isKind_2 (fun q2 i2 j2 H locs h w => ?_) ⟨Nat.zero_le _, Nat.zero_le _⟩
  exact jret_z hx hb hr hlk hst w h.1 h.2 dX11_isKind_5
end S_X11_isKind
section S_X11_as
def J_X11_as (len : Nat → Nat) (r : jR) (Q : Int32 → jI → jL → Prop) (i : jI) (j : jL) (x0 : Nat) (x1 : Int32) (x2 : Int32) : Prop := J_X11_isWalker len r (fun (q2 : Int32) (i2 : jI) (j2 : jL) => ((¬ q2 = 0) → (J_X11_isKind len r (fun (q12 : Int32) (i12 : jI) (j12 : jL) => ((¬ q12 = 0) → (∃ a22, r x0 2 = some a22 ∧ (vp_in x1 (len a22) ∧ ∃ a26, r a22 x1.toNatClampNeg = some a26 ∧ (J_X9_isOf len r (fun (q28 : Int32) (i28 : jI) (j28 : jL) => ((q28 = 0) → (Q (-1 : Int32) i28 j28)) ∧ ((¬ q28 = 0) → (Q x1 i28 j28))) i12 j12 a26 x2)))) ∧ ((q12 = 0) → (Q (-102 : Int32) i12 j12))) i2 j2 x2)) ∧ ((q2 = 0) → (Q (-101 : Int32) i2 j2))) i j x0 x1
abbrev rm_X11_as : Room := { frames := 2, cells := 0, slots := 0, locals := 41 }
variable {p : Program} {l : Launch} {e : Env} {s : State} {m : MethodId} {args : Array Value} {below : List Frame} {meth : Method} {c : Code} {b tU n : Nat} {cy : Nat → ClassId} {D : va_G} {K len : Nat → Nat} {r : jR} {Q : Int32 → jI → jL → Prop}
theorem hiX11_X11_as : ∀ w ∈ u_ws RX11 TX11 15, w ∈ wsX11_as := by decide +kernel
set_option maxHeartbeats 4000000 in
set_option maxRecDepth 100000 in
theorem c_X11_as (hG : jG n K r) {i : jI} {j : jL} {x0 : Nat} {x1 : Int32} {x2 : Int32} (hx0 : x0 < n ∧ K x0 = 10) (h : J_X11_as len r Q i j x0 x1 x2) : Met l yX11_as wsX11_as rm_X11_as (va_Pc [.ref (b + x0), .int x1, .int x2] (jPre b cy D tU n K len r i j)) (jQi b cy D tU n K len r Q) 0 0 (jA b) := by
  refine Met.ofW (cc := cX11_as) (maxL := 3) (ret := (some .int)) (by decide) rfl ?_
  intro p e s m args below meth c s₁ B hml hv
  obtain ⟨rfl, hv⟩ := hv
  have C0 : jCx p s m _ c cX11_as 3 wsX11_as RX11 b cy D tU n K r := ⟨B.exec, B.bytes, hml, findClass_of_methodNamed B.named, atoms_spec (ws := wsX11_as) B.pre, hv.2.2, hG⟩
  have hr := B.returns
  have hlk := B.notSynchronized
  obtain ⟨hx, hb, hml, hown, hts, hst, hG⟩ := id C0
  have hiX11 : ∀ w ∈ u_ws RX11 TX11 15, w ∈ wsX11_as := hiX11_X11_as
  have w := jDy.start hv
  have hl := lv_entry ([.ref (b + x0), .int x1, .int x2]) (n := 3) (Nat.le_of_ble_eq_true rfl)
  rw [lg_entry_eq]
  generalize (lg_sl ([.ref (b + x0), .int x1, .int x2]) ++ List.replicate (3 - (lg_sl ([.ref (b + x0), .int x1, .int x2])).length) Slot.unset).toArray = ls at hl ⊢
  replace hl : lv_has ls 3 [(0, .ref (b + x0)), (1, .int x1), (2, .int x2)] := hl
  show W p l e rm_X11_as s m _ below meth c s.heap [] 0 0 _ (F0 m 0 ls [])
  rw [J_X11_as] at h
  refine lv_aload_n hx hb dX11_as_0 rfl (lv_at hl 0 rfl) ?_
  refine lv_iload_n hx hb dX11_as_1 rfl (lv_at hl 1 rfl) ?_
  refine jcV_i (k := x0) (As := [.int x1]) (rest := []) C0 w (c_X11_isWalker hG hx0 h) (cwV 1 hts gX11_as_X11_isWalker rfl rfl rfl (by decide +kernel) ⟨Nat.le_of_ble_eq_true rfl, Nat.le_of_ble_eq_true rfl⟩) hx0 (rfl : vwCl[10]? = some (RX11, TX11, 15)) (by decide) rfl hl.1 rfl (Nat.le_of_ble_eq_true rfl) dX11_as_2 (fun q2 i2 j2 H locs h w => ?_) ⟨Nat.zero_le _, Nat.zero_le _⟩
  refine lv_if_ne (tgt := 11) hx hb dX11_as_5 (by decide) (fun hc => ?_) (fun hc => ?_)
  · replace h := h.1 hc
    clear hc
    refine lv_iload_n hx hb dX11_as_11 rfl (lv_at hl 2 rfl) ?_
    refine jcS_i (As := [.int x2]) (rest := []) C0 w (c_X11_isKind hG h) (va_cwS 1 hts gX11_as_X11_isKind rfl rfl rfl (by decide +kernel) ⟨Nat.le_of_ble_eq_true rfl, Nat.le_of_ble_eq_true rfl⟩) rfl hl.1 rfl (Nat.le_of_ble_eq_true rfl) dX11_as_12 (fun q12 i12 j12 H locs h w => ?_) ⟨Nat.zero_le _, Nat.zero_le _⟩
    refine lv_if_ne (tgt := 21) hx hb dX11_as_15 (by decide) (fun hc => ?_) (fun hc => ?_)
    · replace h := h.1 hc
      clear hc
      refine lv_aload_n hx hb dX11_as_21 rfl (lv_at hl 0 rfl) ?_
      obtain ⟨a22, hr0, h⟩ := h
      refine jgr (f := 2) hx hb hts hown hst w hG hx0 hiX11 (rfl : vwCl[10]? = some (RX11, TX11, 15)) (hts (.fieldLink RX11 25 "FootByGate" "walkers" "[LFootByGate$Walker;") (by decide +kernel)) ⟨by decide, by decide, rfl⟩ (rfl : jrt 10 2 = 16) dX11_as_22 hr0 (fun ha22 => ?_)
      clear hr0
      refine lv_iload_n hx hb dX11_as_25 rfl (lv_at hl 1 rfl) ?_
      obtain ⟨hn, h⟩ := h
      obtain ⟨a26, hr0, h⟩ := h
      refine jaar hx hb hst w hG ha22 hn dX11_as_26 hr0 (fun ha26 => ?_)
      clear hn hr0
      refine lv_iload_n hx hb dX11_as_27 rfl (lv_at hl 2 rfl) ?_
      refine jcV_i (k := a26) (As := [.int x2]) (rest := []) C0 w (c_X9_isOf hG ha26 h) (cwV 1 hts gX11_as_X9_isOf rfl rfl rfl (by decide +kernel) ⟨Nat.le_of_ble_eq_true rfl, Nat.le_of_ble_eq_true rfl⟩) ha26 (rfl : vwCl[8]? = some (RX9, TX9, 3)) (by decide) rfl hl.1 rfl (Nat.le_of_ble_eq_true rfl) dX11_as_28 (fun q28 i28 j28 H locs h w => ?_) ⟨Nat.zero_le _, Nat.zero_le _⟩
      refine lv_if_eq (tgt := 38) hx hb dX11_as_31 (by decide) (fun hc => ?_) (fun hc => ?_)
      · replace h := h.1 hc
        clear hc
        refine lv_iconst (v := (-1 : Int32)) hx hb dX11_as_38 (by decide) ?_
        exact jret_i hx hb hr hlk hst w h dX11_as_39
      · replace h := h.2 hc
        clear hc
        refine lv_iload_n hx hb dX11_as_34 rfl (lv_at hl 1 rfl) ?_
        refine lv_goto (tgt := 39) hx hb dX11_as_35 (by decide) ?_
        exact jret_i hx hb hr hlk hst w h dX11_as_39
    · replace h := h.2 hc
      clear hc
      refine lv_bipush (v := (-102 : Int32)) hx hb dX11_as_18 (by decide) ?_
      exact jret_i hx hb hr hlk hst w h dX11_as_20
  · replace h := h.2 hc
    clear hc
    refine lv_bipush (v := (-101 : Int32)) hx hb dX11_as_8 (by decide) ?_
    exact jret_i hx hb hr hlk hst w h dX11_as_10
end S_X11_as
section S_X11_blank
def J_X11_blank (len : Nat → Nat) (r : jR) (Q : Int32 → jI → jL → Prop) (i : jI) (j : jL) (x0 : Nat) : Prop := ∃ a1, r x0 0 = some a1 ∧ (∀ v7 : Int32, v7 = i a1 1 → (∃ a9, r x0 0 = some a9 ∧ (∀ i13 : jI, i13 = ju i a9 1 (0 : Int32) → (Q v7 i13 j))))
abbrev rm_X11_blank : Room := { frames := 0, cells := 0, slots := 0, locals := 0 }
variable {p : Program} {l : Launch} {e : Env} {s : State} {m : MethodId} {args : Array Value} {below : List Frame} {meth : Method} {c : Code} {b tU n : Nat} {cy : Nat → ClassId} {D : va_G} {K len : Nat → Nat} {r : jR} {Q : Int32 → jI → jL → Prop}
theorem hiX11_X11_blank : ∀ w ∈ u_ws RX11 TX11 15, w ∈ wsX11_blank := by decide +kernel
theorem hiX5_X11_blank : ∀ w ∈ u_ws RX5 TX5 5, w ∈ wsX11_blank := by decide +kernel
set_option maxHeartbeats 4000000 in
set_option maxRecDepth 100000 in
theorem c_X11_blank (hG : jG n K r) {i : jI} {j : jL} {x0 : Nat} (hx0 : x0 < n ∧ K x0 = 10) (h : J_X11_blank len r Q i j x0) : Met l yX11_blank wsX11_blank rm_X11_blank (va_Pc [.ref (b + x0)] (jPre b cy D tU n K len r i j)) (jQi b cy D tU n K len r Q) 0 0 (jA b) := by
  refine Met.ofW (cc := cX11_blank) (maxL := 2) (ret := (some .int)) (by decide) rfl ?_
  intro p e s m args below meth c s₁ B hml hv
  obtain ⟨rfl, hv⟩ := hv
  have C0 : jCx p s m _ c cX11_blank 2 wsX11_blank RX11 b cy D tU n K r := ⟨B.exec, B.bytes, hml, findClass_of_methodNamed B.named, atoms_spec (ws := wsX11_blank) B.pre, hv.2.2, hG⟩
  have hr := B.returns
  have hlk := B.notSynchronized
  obtain ⟨hx, hb, hml, hown, hts, hst, hG⟩ := id C0
  have hiX11 : ∀ w ∈ u_ws RX11 TX11 15, w ∈ wsX11_blank := hiX11_X11_blank
  have hiX5 : ∀ w ∈ u_ws RX5 TX5 5, w ∈ wsX11_blank := hiX5_X11_blank
  have w := jDy.start hv
  have hl := lv_entry ([.ref (b + x0)]) (n := 2) (Nat.le_of_ble_eq_true rfl)
  rw [lg_entry_eq]
  generalize (lg_sl ([.ref (b + x0)]) ++ List.replicate (2 - (lg_sl ([.ref (b + x0)])).length) Slot.unset).toArray = ls at hl ⊢
  replace hl : lv_has ls 2 [(0, .ref (b + x0))] := hl
  show W p l e rm_X11_blank s m _ below meth c s.heap [] 0 0 _ (F0 m 0 ls [])
  rw [J_X11_blank] at h
  refine lv_aload_n hx hb dX11_blank_0 rfl (lv_at hl 0 rfl) ?_
  obtain ⟨a1, hr0, h⟩ := h
  refine jgr (f := 0) hx hb hts hown hst w hG hx0 hiX11 (rfl : vwCl[10]? = some (RX11, TX11, 15)) (hts (.fieldLink RX11 10 "FootByGate" "page" "LFootByGate$Page;") (by decide +kernel)) ⟨by decide, by decide, rfl⟩ (rfl : jrt 10 0 = 5) dX11_blank_1 hr0 (fun ha1 => ?_)
  clear hr0
  refine jgi (f := 1) hx hb hts hown hst w ha1 hiX5 (rfl : vwCl[5]? = some (RX5, TX5, 5)) (hts (.fieldLink RX11 76 "FootByGate$Page" "length" "I") (by decide +kernel)) ⟨by decide, by decide, rfl⟩ dX11_blank_4 ?_
  refine lv_topi (fun v7 he => ?_)
  replace h := h v7 he
  clear he
  refine lv_istore_n (lv' := [(1, .int v7), (0, .ref (b + x0))]) hx hb dX11_blank_7 rfl hl (by decide) rfl (fun ls hl => ?_)
  refine lv_aload_n hx hb dX11_blank_8 rfl (lv_at hl 1 rfl) ?_
  obtain ⟨a9, hr0, h⟩ := h
  refine jgr (f := 0) hx hb hts hown hst w hG hx0 hiX11 (rfl : vwCl[10]? = some (RX11, TX11, 15)) (hts (.fieldLink RX11 10 "FootByGate" "page" "LFootByGate$Page;") (by decide +kernel)) ⟨by decide, by decide, rfl⟩ (rfl : jrt 10 0 = 5) dX11_blank_9 hr0 (fun ha9 => ?_)
  clear hr0
  refine lv_iconst (v := (0 : Int32)) hx hb dX11_blank_12 (by decide) ?_
  refine jpi (f := 1) hx hb hts hown hst w ha9 hiX5 (rfl : vwCl[5]? = some (RX5, TX5, 5)) (hts (.fieldLink RX11 76 "FootByGate$Page" "length" "I") (by decide +kernel)) ⟨by decide, by decide, rfl⟩ tyX5 tyX5_ok nmX5 rfl ⟨rfl, rfl⟩ dX11_blank_13 (fun i13 H locs he w => ?_)
  replace h := h i13 he
  clear he
  refine lv_iload_n hx hb dX11_blank_16 rfl (lv_at hl 0 rfl) ?_
  exact jret_i hx hb hr hlk hst w h dX11_blank_17
end S_X11_blank
section S_X11_isPlace
def J_X11_isPlace (len : Nat → Nat) (r : jR) (Q : Int32 → jI → jL → Prop) (i : jI) (j : jL) (x0 : Int32) : Prop := J_X11_isWithin len r (fun (q3 : Int32) (i3 : jI) (j3 : jL) => (q3 = 0 ∨ q3 = 1) ∧ Q q3 i3 j3) i j x0 (6 : Int32)
abbrev rm_X11_isPlace : Room := { frames := 1, cells := 0, slots := 0, locals := 21 }
variable {p : Program} {l : Launch} {e : Env} {s : State} {m : MethodId} {args : Array Value} {below : List Frame} {meth : Method} {c : Code} {b tU n : Nat} {cy : Nat → ClassId} {D : va_G} {K len : Nat → Nat} {r : jR} {Q : Int32 → jI → jL → Prop}
set_option maxHeartbeats 4000000 in
set_option maxRecDepth 100000 in
theorem c_X11_isPlace (hG : jG n K r) {i : jI} {j : jL} {x0 : Int32} (h : J_X11_isPlace len r Q i j x0) : Met l yX11_isPlace wsX11_isPlace rm_X11_isPlace (va_Pc [.int x0] (jPre b cy D tU n K len r i j)) (jQi b cy D tU n K len r Q) 0 0 (jA b) := by
  refine Met.ofW (cc := cX11_isPlace) (maxL := 1) (ret := (some .boolean)) (by decide) rfl ?_
  intro p e s m args below meth c s₁ B hml hv
  obtain ⟨rfl, hv⟩ := hv
  have C0 : jCx p s m _ c cX11_isPlace 1 wsX11_isPlace RX11 b cy D tU n K r := ⟨B.exec, B.bytes, hml, findClass_of_methodNamed B.named, atoms_spec (ws := wsX11_isPlace) B.pre, hv.2.2, hG⟩
  have hr := B.returns
  have hlk := B.notSynchronized
  obtain ⟨hx, hb, hml, hown, hts, hst, hG⟩ := id C0
  have w := jDy.start hv
  have hl := lv_entry ([.int x0]) (n := 1) (Nat.le_of_ble_eq_true rfl)
  rw [lg_entry_eq]
  generalize (lg_sl ([.int x0]) ++ List.replicate (1 - (lg_sl ([.int x0])).length) Slot.unset).toArray = ls at hl ⊢
  replace hl : lv_has ls 1 [(0, .int x0)] := hl
  show W p l e rm_X11_isPlace s m _ below meth c s.heap [] 0 0 _ (F0 m 0 ls [])
  rw [J_X11_isPlace] at h
  refine lv_iload_n hx hb dX11_isPlace_0 rfl (lv_at hl 0 rfl) ?_
  refine lv_bipush (v := (6 : Int32)) hx hb dX11_isPlace_1 (by decide) ?_
  refine jcS_i (As := [.int x0, .int (6 : Int32)]) (rest := []) C0 w (c_X11_isWithin hG h) (va_cwS 2 hts gX11_isPlace_X11_isWithin rfl rfl rfl (by decide +kernel) ⟨Nat.le_of_ble_eq_true rfl, Nat.le_of_ble_eq_true rfl⟩) rfl hl.1 rfl (Nat.le_of_ble_eq_true rfl) dX11_isPlace_3 (fun q3 i3 j3 H locs h w => ?_) ⟨Nat.zero_le _, Nat.zero_le _⟩
  exact jret_z hx hb hr hlk hst w h.1 h.2 dX11_isPlace_6
end S_X11_isPlace
section S_X11_both
def J_X11_both_L28 (len : Nat → Nat) (r : jR) (Q : Int32 → jI → jL → Prop) (i : jI) (j : jL) : Prop := Q (-101 : Int32) i j
def J_X11_both_L119 (len : Nat → Nat) (r : jR) (Q : Int32 → jI → jL → Prop) (i : jI) (j : jL) (x0 : Nat) (x3 : Int32) (x4 : Nat) (x5 : Nat) : Prop := ∃ a120, r x0 14 = some a120 ∧ (J_X0_start len r (fun (i133 : jI) (j133 : jL) => ∃ a137, r x0 14 = some a137 ∧ (∃ a141, r x0 1 = some a141 ∧ (∃ a145, r x0 9 = some a145 ∧ (∃ a149, r x0 10 = some a149 ∧ (J_X0_leastTo len r (fun (q153 : Int32) (i153 : jI) (j153 : jL) => Q q153 i153 j153) i133 j133 a137 a141 a145 a149 x3))))) i j a120 (i x4 1) (i x5 1))
def J_X11_both (len : Nat → Nat) (r : jR) (Q : Int32 → jI → jL → Prop) (i : jI) (j : jL) (x0 : Nat) (x1 : Int32) (x2 : Int32) (x3 : Int32) : Prop := J_X11_isWalker len r (fun (q2 : Int32) (i2 : jI) (j2 : jL) => ((q2 = 0) → (J_X11_both_L28 len r Q i2 j2 )) ∧ ((¬ q2 = 0) → (J_X11_isWalker len r (fun (q10 : Int32) (i10 : jI) (j10 : jL) => ((q10 = 0) → (J_X11_both_L28 len r Q i10 j10 )) ∧ ((¬ q10 = 0) → (((x1 = x2) → (J_X11_both_L28 len r Q i10 j10 )) ∧ ((¬ x1 = x2) → (J_X11_isPlace len r (fun (q22 : Int32) (i22 : jI) (j22 : jL) => ((¬ q22 = 0) → (∃ a32, r x0 2 = some a32 ∧ (vp_in x1 (len a32) ∧ ∃ a36, r a32 x1.toNatClampNeg = some a36 ∧ (∃ a40, r x0 2 = some a40 ∧ (vp_in x2 (len a40) ∧ ∃ a44, r a40 x2.toNatClampNeg = some a44 ∧ (J_X7_placeOf len r (fun (q52 : Int32) (i52 : jI) (j52 : jL) => J_X7_placeOf len r (fun (q60 : Int32) (i60 : jI) (j60 : jL) => ((q52 = q60) → (∃ a70, r x0 9 = some a70 ∧ (∃ a79, r x0 1 = some a79 ∧ (J_X2_take len r (fun (i82 : jI) (j82 : jL) => ∃ a86, r x0 10 = some a86 ∧ (∃ a95, r x0 1 = some a95 ∧ (J_X2_take len r (fun (i98 : jI) (j98 : jL) => ∃ a102, r x0 14 = some a102 ∧ (J_X11_both_L119 len r Q i98 j98 x0 x3 a36 a44)) i82 j82 a86 (i82 a44 0) a95))) i60 j60 a70 (i60 a36 0) a79)))) ∧ ((¬ q52 = q60) → (Q (-103 : Int32) i60 j60))) i52 j52 (i52 a44 1)) i22 j22 (i22 a36 1))))))) ∧ ((q22 = 0) → (J_X11_both_L28 len r Q i22 j22 ))) i10 j10 x3))))) i2 j2 x0 x2))) i j x0 x1
abbrev rm_X11_both : Room := { frames := 5, cells := 0, slots := 0, locals := 126 }
variable {p : Program} {l : Launch} {e : Env} {s : State} {m : MethodId} {args : Array Value} {below : List Frame} {meth : Method} {c : Code} {b tU n : Nat} {cy : Nat → ClassId} {D : va_G} {K len : Nat → Nat} {r : jR} {Q : Int32 → jI → jL → Prop}
theorem hiX11_X11_both : ∀ w ∈ u_ws RX11 TX11 15, w ∈ wsX11_both := by decide +kernel
theorem hiX9_X11_both : ∀ w ∈ u_ws RX9 TX9 3, w ∈ wsX11_both := by decide +kernel
set_option maxHeartbeats 4000000 in
set_option maxRecDepth 100000 in
theorem w_X11_both_L28 (C0 : jCx p s m args c cX11_both 6 wsX11_both RX11 b cy D tU n K r) (hr : meth.sig.returnType = some .int) (hlk : meth.locks = false) {H : Heap} {locs : List Loc} {ls : Array Slot} {i : jI} {j : jL}  (w : jDy b cy D n K len r i j s H locs) (hl : lv_has ls 6 []) (h : J_X11_both_L28 len r Q i j) : W p l e rm_X11_both s m args below meth c H locs 0 0 (MQ below (jQi b cy D tU n K len r Q) args s 0 0 (jA b)) (F0 m 28 ls []) := by
  obtain ⟨hx, hb, hml, hown, hts, hst, hG⟩ := id C0
  have hiX11 : ∀ w ∈ u_ws RX11 TX11 15, w ∈ wsX11_both := hiX11_X11_both
  have hiX9 : ∀ w ∈ u_ws RX9 TX9 3, w ∈ wsX11_both := hiX9_X11_both
  rw [J_X11_both_L28] at h
  refine lv_bipush (v := (-101 : Int32)) hx hb dX11_both_28 (by decide) ?_
  exact jret_i hx hb hr hlk hst w h dX11_both_30
set_option maxHeartbeats 4000000 in
set_option maxRecDepth 100000 in
theorem w_X11_both_L119 (C0 : jCx p s m args c cX11_both 6 wsX11_both RX11 b cy D tU n K r) (hr : meth.sig.returnType = some .int) (hlk : meth.locks = false) {H : Heap} {locs : List Loc} {ls : Array Slot} {i : jI} {j : jL} {x0 : Nat} {x3 : Int32} {x4 : Nat} {x5 : Nat} (w : jDy b cy D n K len r i j s H locs) (hx0 : x0 < n ∧ K x0 = 10) (hx4 : x4 < n ∧ K x4 = 8) (hx5 : x5 < n ∧ K x5 = 8) (hl : lv_has ls 6 [(0, .ref (b + x0)), (3, .int x3), (4, .ref (b + x4)), (5, .ref (b + x5))]) (h : J_X11_both_L119 len r Q i j x0 x3 x4 x5) : W p l e rm_X11_both s m args below meth c H locs 0 0 (MQ below (jQi b cy D tU n K len r Q) args s 0 0 (jA b)) (F0 m 119 ls []) := by
  obtain ⟨hx, hb, hml, hown, hts, hst, hG⟩ := id C0
  have hiX11 : ∀ w ∈ u_ws RX11 TX11 15, w ∈ wsX11_both := hiX11_X11_both
  have hiX9 : ∀ w ∈ u_ws RX9 TX9 3, w ∈ wsX11_both := hiX9_X11_both
  rw [J_X11_both_L119] at h
  refine lv_aload_n hx hb dX11_both_119 rfl (lv_at hl 0 rfl) ?_
  obtain ⟨a120, hr0, h⟩ := h
  refine jgr (f := 14) hx hb hts hown hst w hG hx0 hiX11 (rfl : vwCl[10]? = some (RX11, TX11, 15)) (hts (.fieldLink RX11 217 "FootByGate" "arms" "LFootByGate$Arms;") (by decide +kernel)) ⟨by decide, by decide, rfl⟩ (rfl : jrt 10 14 = 0) dX11_both_120 hr0 (fun ha120 => ?_)
  clear hr0
  refine lv_aload hx hb dX11_both_123 (lv_at hl 2 rfl) ?_
  refine jgi (f := 1) hx hb hts hown hst w hx4 hiX9 (rfl : vwCl[8]? = some (RX9, TX9, 3)) (hts (.fieldLink RX11 146 "FootByGate$Walker" "stand" "I") (by decide +kernel)) ⟨by decide, by decide, rfl⟩ dX11_both_125 ?_
  refine lv_aload hx hb dX11_both_128 (lv_at hl 3 rfl) ?_
  refine jgi (f := 1) hx hb hts hown hst w hx5 hiX9 (rfl : vwCl[8]? = some (RX9, TX9, 3)) (hts (.fieldLink RX11 146 "FootByGate$Walker" "stand" "I") (by decide +kernel)) ⟨by decide, by decide, rfl⟩ dX11_both_130 ?_
  refine jcV_v (k := a120) (As := [.int (i x4 1), .int (i x5 1)]) (rest := []) C0 w (c_X0_start hG ha120 h) (cwV 2 hts gX11_both_X0_start rfl rfl rfl (by decide +kernel) ⟨Nat.le_of_ble_eq_true rfl, Nat.le_of_ble_eq_true rfl⟩) ha120 (rfl : vwCl[0]? = some (RX0, TX0, 2)) (by decide) rfl hl.1 rfl (Nat.le_of_ble_eq_true rfl) dX11_both_133 (fun i133 j133 H locs h w => ?_) ⟨Nat.zero_le _, Nat.zero_le _⟩
  refine lv_aload_n hx hb dX11_both_136 rfl (lv_at hl 0 rfl) ?_
  obtain ⟨a137, hr0, h⟩ := h
  refine jgr (f := 14) hx hb hts hown hst w hG hx0 hiX11 (rfl : vwCl[10]? = some (RX11, TX11, 15)) (hts (.fieldLink RX11 217 "FootByGate" "arms" "LFootByGate$Arms;") (by decide +kernel)) ⟨by decide, by decide, rfl⟩ (rfl : jrt 10 14 = 0) dX11_both_137 hr0 (fun ha137 => ?_)
  clear hr0
  refine lv_aload_n hx hb dX11_both_140 rfl (lv_at hl 0 rfl) ?_
  obtain ⟨a141, hr0, h⟩ := h
  refine jgr (f := 1) hx hb hts hown hst w hG hx0 hiX11 (rfl : vwCl[10]? = some (RX11, TX11, 15)) (hts (.fieldLink RX11 19 "FootByGate" "map" "LFootByGate$Town;") (by decide +kernel)) ⟨by decide, by decide, rfl⟩ (rfl : jrt 10 1 = 7) dX11_both_141 hr0 (fun ha141 => ?_)
  clear hr0
  refine lv_aload_n hx hb dX11_both_144 rfl (lv_at hl 0 rfl) ?_
  obtain ⟨a145, hr0, h⟩ := h
  refine jgr (f := 9) hx hb hts hown hst w hG hx0 hiX11 (rfl : vwCl[10]? = some (RX11, TX11, 15)) (hts (.fieldLink RX11 43 "FootByGate" "gait" "LFootByGate$Gait;") (by decide +kernel)) ⟨by decide, by decide, rfl⟩ (rfl : jrt 10 9 = 2) dX11_both_145 hr0 (fun ha145 => ?_)
  clear hr0
  refine lv_aload_n hx hb dX11_both_148 rfl (lv_at hl 0 rfl) ?_
  obtain ⟨a149, hr0, h⟩ := h
  refine jgr (f := 10) hx hb hts hown hst w hG hx0 hiX11 (rfl : vwCl[10]? = some (RX11, TX11, 15)) (hts (.fieldLink RX11 47 "FootByGate" "otherGait" "LFootByGate$Gait;") (by decide +kernel)) ⟨by decide, by decide, rfl⟩ (rfl : jrt 10 10 = 2) dX11_both_149 hr0 (fun ha149 => ?_)
  clear hr0
  refine lv_iload_n hx hb dX11_both_152 rfl (lv_at hl 1 rfl) ?_
  refine jcV_i (k := a137) (As := [.ref (b + a141), .ref (b + a145), .ref (b + a149), .int x3]) (rest := []) C0 w (c_X0_leastTo hG ha137 ha141 ha145 ha149 h) (cwV 4 hts gX11_both_X0_leastTo rfl rfl rfl (by decide +kernel) ⟨Nat.le_of_ble_eq_true rfl, Nat.le_of_ble_eq_true rfl⟩) ha137 (rfl : vwCl[0]? = some (RX0, TX0, 2)) (by decide) rfl hl.1 rfl (Nat.le_of_ble_eq_true rfl) dX11_both_153 (fun q153 i153 j153 H locs h w => ?_) ⟨Nat.zero_le _, Nat.zero_le _⟩
  exact jret_i hx hb hr hlk hst w h dX11_both_156
set_option maxHeartbeats 4000000 in
set_option maxRecDepth 100000 in
theorem c_X11_both (hG : jG n K r) {i : jI} {j : jL} {x0 : Nat} {x1 : Int32} {x2 : Int32} {x3 : Int32} (hx0 : x0 < n ∧ K x0 = 10) (h : J_X11_both len r Q i j x0 x1 x2 x3) : Met l yX11_both wsX11_both rm_X11_both (va_Pc [.ref (b + x0), .int x1, .int x2, .int x3] (jPre b cy D tU n K len r i j)) (jQi b cy D tU n K len r Q) 0 0 (jA b) := by
  refine Met.ofW (cc := cX11_both) (maxL := 6) (ret := (some .int)) (by decide) rfl ?_
  intro p e s m args below meth c s₁ B hml hv
  obtain ⟨rfl, hv⟩ := hv
  have C0 : jCx p s m _ c cX11_both 6 wsX11_both RX11 b cy D tU n K r := ⟨B.exec, B.bytes, hml, findClass_of_methodNamed B.named, atoms_spec (ws := wsX11_both) B.pre, hv.2.2, hG⟩
  have hr := B.returns
  have hlk := B.notSynchronized
  obtain ⟨hx, hb, hml, hown, hts, hst, hG⟩ := id C0
  have hiX11 : ∀ w ∈ u_ws RX11 TX11 15, w ∈ wsX11_both := hiX11_X11_both
  have hiX9 : ∀ w ∈ u_ws RX9 TX9 3, w ∈ wsX11_both := hiX9_X11_both
  have w := jDy.start hv
  have hl := lv_entry ([.ref (b + x0), .int x1, .int x2, .int x3]) (n := 6) (Nat.le_of_ble_eq_true rfl)
  rw [lg_entry_eq]
  generalize (lg_sl ([.ref (b + x0), .int x1, .int x2, .int x3]) ++ List.replicate (6 - (lg_sl ([.ref (b + x0), .int x1, .int x2, .int x3])).length) Slot.unset).toArray = ls at hl ⊢
  replace hl : lv_has ls 6 [(0, .ref (b + x0)), (1, .int x1), (2, .int x2), (3, .int x3)] := hl
  show W p l e rm_X11_both s m _ below meth c s.heap [] 0 0 _ (F0 m 0 ls [])
  rw [J_X11_both] at h
  refine lv_aload_n hx hb dX11_both_0 rfl (lv_at hl 0 rfl) ?_
  refine lv_iload_n hx hb dX11_both_1 rfl (lv_at hl 1 rfl) ?_
  refine jcV_i (k := x0) (As := [.int x1]) (rest := []) C0 w (c_X11_isWalker hG hx0 h) (cwV 1 hts gX11_both_X11_isWalker rfl rfl rfl (by decide +kernel) ⟨Nat.le_of_ble_eq_true rfl, Nat.le_of_ble_eq_true rfl⟩) hx0 (rfl : vwCl[10]? = some (RX11, TX11, 15)) (by decide) rfl hl.1 rfl (Nat.le_of_ble_eq_true rfl) dX11_both_2 (fun q2 i2 j2 H locs h w => ?_) ⟨Nat.zero_le _, Nat.zero_le _⟩
  refine lv_if_eq (tgt := 28) hx hb dX11_both_5 (by decide) (fun hc => ?_) (fun hc => ?_)
  · replace h := h.1 hc
    clear hc
    exact w_X11_both_L28 C0 hr hlk w (lv_sub hl [] rfl) h
  · replace h := h.2 hc
    clear hc
    refine lv_aload_n hx hb dX11_both_8 rfl (lv_at hl 0 rfl) ?_
    refine lv_iload_n hx hb dX11_both_9 rfl (lv_at hl 2 rfl) ?_
    refine jcV_i (k := x0) (As := [.int x2]) (rest := []) C0 w (c_X11_isWalker hG hx0 h) (cwV 1 hts gX11_both_X11_isWalker rfl rfl rfl (by decide +kernel) ⟨Nat.le_of_ble_eq_true rfl, Nat.le_of_ble_eq_true rfl⟩) hx0 (rfl : vwCl[10]? = some (RX11, TX11, 15)) (by decide) rfl hl.1 rfl (Nat.le_of_ble_eq_true rfl) dX11_both_10 (fun q10 i10 j10 H locs h w => ?_) ⟨Nat.zero_le _, Nat.zero_le _⟩
    refine lv_if_eq (tgt := 28) hx hb dX11_both_13 (by decide) (fun hc => ?_) (fun hc => ?_)
    · replace h := h.1 hc
      clear hc
      exact w_X11_both_L28 C0 hr hlk w (lv_sub hl [] rfl) h
    · replace h := h.2 hc
      clear hc
      refine lv_iload_n hx hb dX11_both_16 rfl (lv_at hl 1 rfl) ?_
      refine lv_iload_n hx hb dX11_both_17 rfl (lv_at hl 2 rfl) ?_
      refine lv_icmp_eq (tgt := 28) hx hb dX11_both_18 (by decide) (fun hc => ?_) (fun hc => ?_)
      · replace h := h.1 hc
        clear hc
        exact w_X11_both_L28 C0 hr hlk w (lv_sub hl [] rfl) h
      · replace h := h.2 hc
        clear hc
        refine lv_iload_n hx hb dX11_both_21 rfl (lv_at hl 3 rfl) ?_
        refine jcS_i (As := [.int x3]) (rest := []) C0 w (c_X11_isPlace hG h) (va_cwS 1 hts gX11_both_X11_isPlace rfl rfl rfl (by decide +kernel) ⟨Nat.le_of_ble_eq_true rfl, Nat.le_of_ble_eq_true rfl⟩) rfl hl.1 rfl (Nat.le_of_ble_eq_true rfl) dX11_both_22 (fun q22 i22 j22 H locs h w => ?_) ⟨Nat.zero_le _, Nat.zero_le _⟩
        refine lv_if_ne (tgt := 31) hx hb dX11_both_25 (by decide) (fun hc => ?_) (fun hc => ?_)
        · replace h := h.1 hc
          clear hc
          refine lv_aload_n hx hb dX11_both_31 rfl (lv_at hl 0 rfl) ?_
          obtain ⟨a32, hr0, h⟩ := h
          refine jgr (f := 2) hx hb hts hown hst w hG hx0 hiX11 (rfl : vwCl[10]? = some (RX11, TX11, 15)) (hts (.fieldLink RX11 25 "FootByGate" "walkers" "[LFootByGate$Walker;") (by decide +kernel)) ⟨by decide, by decide, rfl⟩ (rfl : jrt 10 2 = 16) dX11_both_32 hr0 (fun ha32 => ?_)
          clear hr0
          refine lv_iload_n hx hb dX11_both_35 rfl (lv_at hl 1 rfl) ?_
          obtain ⟨hn, h⟩ := h
          obtain ⟨a36, hr0, h⟩ := h
          refine jaar hx hb hst w hG ha32 hn dX11_both_36 hr0 (fun ha36 => ?_)
          clear hn hr0
          refine lv_astore (lv' := [(4, .ref (b + a36)), (0, .ref (b + x0)), (1, .int x1), (2, .int x2), (3, .int x3)]) hx hb dX11_both_37 hl (by decide) rfl (fun ls hl => ?_)
          refine lv_aload_n hx hb dX11_both_39 rfl (lv_at hl 1 rfl) ?_
          obtain ⟨a40, hr0, h⟩ := h
          refine jgr (f := 2) hx hb hts hown hst w hG hx0 hiX11 (rfl : vwCl[10]? = some (RX11, TX11, 15)) (hts (.fieldLink RX11 25 "FootByGate" "walkers" "[LFootByGate$Walker;") (by decide +kernel)) ⟨by decide, by decide, rfl⟩ (rfl : jrt 10 2 = 16) dX11_both_40 hr0 (fun ha40 => ?_)
          clear hr0
          refine lv_iload_n hx hb dX11_both_43 rfl (lv_at hl 3 rfl) ?_
          obtain ⟨hn, h⟩ := h
          obtain ⟨a44, hr0, h⟩ := h
          refine jaar hx hb hst w hG ha40 hn dX11_both_44 hr0 (fun ha44 => ?_)
          clear hn hr0
          refine lv_astore (lv' := [(5, .ref (b + a44)), (4, .ref (b + a36)), (0, .ref (b + x0)), (1, .int x1), (2, .int x2), (3, .int x3)]) hx hb dX11_both_45 hl (by decide) rfl (fun ls hl => ?_)
          refine lv_aload hx hb dX11_both_47 (lv_at hl 1 rfl) ?_
          refine jgi (f := 1) hx hb hts hown hst w ha36 hiX9 (rfl : vwCl[8]? = some (RX9, TX9, 3)) (hts (.fieldLink RX11 146 "FootByGate$Walker" "stand" "I") (by decide +kernel)) ⟨by decide, by decide, rfl⟩ dX11_both_49 ?_
          refine jcS_i (As := [.int (i22 a36 1)]) (rest := []) C0 w (c_X7_placeOf hG h) (va_cwS 1 hts gX11_both_X7_placeOf rfl rfl rfl (by decide +kernel) ⟨Nat.le_of_ble_eq_true rfl, Nat.le_of_ble_eq_true rfl⟩) rfl hl.1 rfl (Nat.le_of_ble_eq_true rfl) dX11_both_52 (fun q52 i52 j52 H locs h w => ?_) ⟨Nat.zero_le _, Nat.zero_le _⟩
          refine lv_aload hx hb dX11_both_55 (lv_at hl 0 rfl) ?_
          refine jgi (f := 1) hx hb hts hown hst w ha44 hiX9 (rfl : vwCl[8]? = some (RX9, TX9, 3)) (hts (.fieldLink RX11 146 "FootByGate$Walker" "stand" "I") (by decide +kernel)) ⟨by decide, by decide, rfl⟩ dX11_both_57 ?_
          refine jcS_i (As := [.int (i52 a44 1)]) (rest := [.int q52]) C0 w (c_X7_placeOf hG h) (va_cwS 1 hts gX11_both_X7_placeOf rfl rfl rfl (by decide +kernel) ⟨Nat.le_of_ble_eq_true rfl, Nat.le_of_ble_eq_true rfl⟩) rfl hl.1 rfl (Nat.le_of_ble_eq_true rfl) dX11_both_60 (fun q60 i60 j60 H locs h w => ?_) ⟨Nat.zero_le _, Nat.zero_le _⟩
          refine lv_icmp_eq (tgt := 69) hx hb dX11_both_63 (by decide) (fun hc => ?_) (fun hc => ?_)
          · replace h := h.1 hc
            clear hc
            refine lv_aload_n hx hb dX11_both_69 rfl (lv_at hl 2 rfl) ?_
            obtain ⟨a70, hr0, h⟩ := h
            refine jgr (f := 9) hx hb hts hown hst w hG hx0 hiX11 (rfl : vwCl[10]? = some (RX11, TX11, 15)) (hts (.fieldLink RX11 43 "FootByGate" "gait" "LFootByGate$Gait;") (by decide +kernel)) ⟨by decide, by decide, rfl⟩ (rfl : jrt 10 9 = 2) dX11_both_70 hr0 (fun ha70 => ?_)
            clear hr0
            refine lv_aload hx hb dX11_both_73 (lv_at hl 1 rfl) ?_
            refine jgi (f := 0) hx hb hts hown hst w ha36 hiX9 (rfl : vwCl[8]? = some (RX9, TX9, 3)) (hts (.fieldLink RX11 137 "FootByGate$Walker" "kind" "I") (by decide +kernel)) ⟨by decide, by decide, rfl⟩ dX11_both_75 ?_
            refine lv_aload_n hx hb dX11_both_78 rfl (lv_at hl 2 rfl) ?_
            obtain ⟨a79, hr0, h⟩ := h
            refine jgr (f := 1) hx hb hts hown hst w hG hx0 hiX11 (rfl : vwCl[10]? = some (RX11, TX11, 15)) (hts (.fieldLink RX11 19 "FootByGate" "map" "LFootByGate$Town;") (by decide +kernel)) ⟨by decide, by decide, rfl⟩ (rfl : jrt 10 1 = 7) dX11_both_79 hr0 (fun ha79 => ?_)
            clear hr0
            refine jcV_v (k := a70) (As := [.int (i60 a36 0), .ref (b + a79)]) (rest := []) C0 w (c_X2_take hG ha70 ha79 h) (cwV 2 hts gX11_both_X2_take rfl rfl rfl (by decide +kernel) ⟨Nat.le_of_ble_eq_true rfl, Nat.le_of_ble_eq_true rfl⟩) ha70 (rfl : vwCl[2]? = some (RX2, TX2, 2)) (by decide) rfl hl.1 rfl (Nat.le_of_ble_eq_true rfl) dX11_both_82 (fun i82 j82 H locs h w => ?_) ⟨Nat.zero_le _, Nat.zero_le _⟩
            refine lv_aload_n hx hb dX11_both_85 rfl (lv_at hl 2 rfl) ?_
            obtain ⟨a86, hr0, h⟩ := h
            refine jgr (f := 10) hx hb hts hown hst w hG hx0 hiX11 (rfl : vwCl[10]? = some (RX11, TX11, 15)) (hts (.fieldLink RX11 47 "FootByGate" "otherGait" "LFootByGate$Gait;") (by decide +kernel)) ⟨by decide, by decide, rfl⟩ (rfl : jrt 10 10 = 2) dX11_both_86 hr0 (fun ha86 => ?_)
            clear hr0
            refine lv_aload hx hb dX11_both_89 (lv_at hl 0 rfl) ?_
            refine jgi (f := 0) hx hb hts hown hst w ha44 hiX9 (rfl : vwCl[8]? = some (RX9, TX9, 3)) (hts (.fieldLink RX11 137 "FootByGate$Walker" "kind" "I") (by decide +kernel)) ⟨by decide, by decide, rfl⟩ dX11_both_91 ?_
            refine lv_aload_n hx hb dX11_both_94 rfl (lv_at hl 2 rfl) ?_
            obtain ⟨a95, hr0, h⟩ := h
            refine jgr (f := 1) hx hb hts hown hst w hG hx0 hiX11 (rfl : vwCl[10]? = some (RX11, TX11, 15)) (hts (.fieldLink RX11 19 "FootByGate" "map" "LFootByGate$Town;") (by decide +kernel)) ⟨by decide, by decide, rfl⟩ (rfl : jrt 10 1 = 7) dX11_both_95 hr0 (fun ha95 => ?_)
            clear hr0
            refine jcV_v (k := a86) (As := [.int (i82 a44 0), .ref (b + a95)]) (rest := []) C0 w (c_X2_take hG ha86 ha95 h) (cwV 2 hts gX11_both_X2_take rfl rfl rfl (by decide +kernel) ⟨Nat.le_of_ble_eq_true rfl, Nat.le_of_ble_eq_true rfl⟩) ha86 (rfl : vwCl[2]? = some (RX2, TX2, 2)) (by decide) rfl hl.1 rfl (Nat.le_of_ble_eq_true rfl) dX11_both_98 (fun i98 j98 H locs h w => ?_) ⟨Nat.zero_le _, Nat.zero_le _⟩
            refine lv_aload_n hx hb dX11_both_101 rfl (lv_at hl 2 rfl) ?_
            obtain ⟨a102, hr0, h⟩ := h
            refine jgr (f := 14) hx hb hts hown hst w hG hx0 hiX11 (rfl : vwCl[10]? = some (RX11, TX11, 15)) (hts (.fieldLink RX11 217 "FootByGate" "arms" "LFootByGate$Arms;") (by decide +kernel)) ⟨by decide, by decide, rfl⟩ (rfl : jrt 10 14 = 0) dX11_both_102 hr0 (fun ha102 => ?_)
            clear hr0
            refine lv_ifnonnull (tgt := 119) hx hb dX11_both_105 (by decide) ?_
            exact w_X11_both_L119 C0 hr hlk w hx0 ha36 ha44 (lv_sub hl [2, 5, 1, 0] rfl) h
          · replace h := h.2 hc
            clear hc
            refine lv_bipush (v := (-103 : Int32)) hx hb dX11_both_66 (by decide) ?_
            exact jret_i hx hb hr hlk hst w h dX11_both_68
        · replace h := h.2 hc
          clear hc
          exact w_X11_both_L28 C0 hr hlk w (lv_sub hl [] rfl) h
end S_X11_both
section S_X11_shutPlaces
def J_X11_shutPlaces (len : Nat → Nat) (r : jR) (Q : Int32 → jI → jL → Prop) (i : jI) (j : jL) (x0 : Nat) (x1 : Nat) : Prop := ∃ a1, r x0 12 = some a1 ∧ (∃ a5, r x0 9 = some a5 ∧ (∃ a9, r x0 1 = some a9 ∧ (J_X6_take len r (fun (i15 : jI) (j15 : jL) => ∃ a19, r x0 12 = some a19 ∧ (∃ a23, r x0 1 = some a23 ∧ (J_X6_spread len r (fun (i31 : jI) (j31 : jL) => ∃ a35, r x0 12 = some a35 ∧ (J_X6_placesMissed len r (fun (q38 : Int32) (i38 : jI) (j38 : jL) => Q q38 i38 j38) i31 j31 a35)) i15 j15 a19 a23 (i15 x1 1) (1 : Int32)))) i j a1 a5 (i a9 0))))
abbrev rm_X11_shutPlaces : Room := { frames := 3, cells := 0, slots := 0, locals := 82 }
variable {p : Program} {l : Launch} {e : Env} {s : State} {m : MethodId} {args : Array Value} {below : List Frame} {meth : Method} {c : Code} {b tU n : Nat} {cy : Nat → ClassId} {D : va_G} {K len : Nat → Nat} {r : jR} {Q : Int32 → jI → jL → Prop}
theorem hiX11_X11_shutPlaces : ∀ w ∈ u_ws RX11 TX11 15, w ∈ wsX11_shutPlaces := by decide +kernel
theorem hiX8_X11_shutPlaces : ∀ w ∈ u_ws RX8 TX8 8, w ∈ wsX11_shutPlaces := by decide +kernel
theorem hiX9_X11_shutPlaces : ∀ w ∈ u_ws RX9 TX9 3, w ∈ wsX11_shutPlaces := by decide +kernel
set_option maxHeartbeats 4000000 in
set_option maxRecDepth 100000 in
theorem c_X11_shutPlaces (hG : jG n K r) {i : jI} {j : jL} {x0 : Nat} {x1 : Nat} (hx0 : x0 < n ∧ K x0 = 10) (hx1 : x1 < n ∧ K x1 = 8) (h : J_X11_shutPlaces len r Q i j x0 x1) : Met l yX11_shutPlaces wsX11_shutPlaces rm_X11_shutPlaces (va_Pc [.ref (b + x0), .ref (b + x1)] (jPre b cy D tU n K len r i j)) (jQi b cy D tU n K len r Q) 0 0 (jA b) := by
  refine Met.ofW (cc := cX11_shutPlaces) (maxL := 2) (ret := (some .int)) (by decide) rfl ?_
  intro p e s m args below meth c s₁ B hml hv
  obtain ⟨rfl, hv⟩ := hv
  have C0 : jCx p s m _ c cX11_shutPlaces 2 wsX11_shutPlaces RX11 b cy D tU n K r := ⟨B.exec, B.bytes, hml, findClass_of_methodNamed B.named, atoms_spec (ws := wsX11_shutPlaces) B.pre, hv.2.2, hG⟩
  have hr := B.returns
  have hlk := B.notSynchronized
  obtain ⟨hx, hb, hml, hown, hts, hst, hG⟩ := id C0
  have hiX11 : ∀ w ∈ u_ws RX11 TX11 15, w ∈ wsX11_shutPlaces := hiX11_X11_shutPlaces
  have hiX8 : ∀ w ∈ u_ws RX8 TX8 8, w ∈ wsX11_shutPlaces := hiX8_X11_shutPlaces
  have hiX9 : ∀ w ∈ u_ws RX9 TX9 3, w ∈ wsX11_shutPlaces := hiX9_X11_shutPlaces
  have w := jDy.start hv
  have hl := lv_entry ([.ref (b + x0), .ref (b + x1)]) (n := 2) (Nat.le_of_ble_eq_true rfl)
  rw [lg_entry_eq]
  generalize (lg_sl ([.ref (b + x0), .ref (b + x1)]) ++ List.replicate (2 - (lg_sl ([.ref (b + x0), .ref (b + x1)])).length) Slot.unset).toArray = ls at hl ⊢
  replace hl : lv_has ls 2 [(0, .ref (b + x0)), (1, .ref (b + x1))] := hl
  show W p l e rm_X11_shutPlaces s m _ below meth c s.heap [] 0 0 _ (F0 m 0 ls [])
  rw [J_X11_shutPlaces] at h
  refine lv_aload_n hx hb dX11_shutPlaces_0 rfl (lv_at hl 0 rfl) ?_
  obtain ⟨a1, hr0, h⟩ := h
  refine jgr (f := 12) hx hb hts hown hst w hG hx0 hiX11 (rfl : vwCl[10]? = some (RX11, TX11, 15)) (hts (.fieldLink RX11 60 "FootByGate" "reach" "LFootByGate$Reach;") (by decide +kernel)) ⟨by decide, by decide, rfl⟩ (rfl : jrt 10 12 = 6) dX11_shutPlaces_1 hr0 (fun ha1 => ?_)
  clear hr0
  refine lv_aload_n hx hb dX11_shutPlaces_4 rfl (lv_at hl 0 rfl) ?_
  obtain ⟨a5, hr0, h⟩ := h
  refine jgr (f := 9) hx hb hts hown hst w hG hx0 hiX11 (rfl : vwCl[10]? = some (RX11, TX11, 15)) (hts (.fieldLink RX11 43 "FootByGate" "gait" "LFootByGate$Gait;") (by decide +kernel)) ⟨by decide, by decide, rfl⟩ (rfl : jrt 10 9 = 2) dX11_shutPlaces_5 hr0 (fun ha5 => ?_)
  clear hr0
  refine lv_aload_n hx hb dX11_shutPlaces_8 rfl (lv_at hl 0 rfl) ?_
  obtain ⟨a9, hr0, h⟩ := h
  refine jgr (f := 1) hx hb hts hown hst w hG hx0 hiX11 (rfl : vwCl[10]? = some (RX11, TX11, 15)) (hts (.fieldLink RX11 19 "FootByGate" "map" "LFootByGate$Town;") (by decide +kernel)) ⟨by decide, by decide, rfl⟩ (rfl : jrt 10 1 = 7) dX11_shutPlaces_9 hr0 (fun ha9 => ?_)
  clear hr0
  refine jgi (f := 0) hx hb hts hown hst w ha9 hiX8 (rfl : vwCl[7]? = some (RX8, TX8, 8)) (hts (.fieldLink RX11 105 "FootByGate$Town" "streets" "I") (by decide +kernel)) ⟨by decide, by decide, rfl⟩ dX11_shutPlaces_12 ?_
  refine jcV_v (k := a1) (As := [.ref (b + a5), .int (i a9 0)]) (rest := []) C0 w (c_X6_take hG ha1 ha5 h) (cwV 2 hts gX11_shutPlaces_X6_take rfl rfl rfl (by decide +kernel) ⟨Nat.le_of_ble_eq_true rfl, Nat.le_of_ble_eq_true rfl⟩) ha1 (rfl : vwCl[6]? = some (RX6, TX6, 2)) (by decide) rfl hl.1 rfl (Nat.le_of_ble_eq_true rfl) dX11_shutPlaces_15 (fun i15 j15 H locs h w => ?_) ⟨Nat.zero_le _, Nat.zero_le _⟩
  refine lv_aload_n hx hb dX11_shutPlaces_18 rfl (lv_at hl 0 rfl) ?_
  obtain ⟨a19, hr0, h⟩ := h
  refine jgr (f := 12) hx hb hts hown hst w hG hx0 hiX11 (rfl : vwCl[10]? = some (RX11, TX11, 15)) (hts (.fieldLink RX11 60 "FootByGate" "reach" "LFootByGate$Reach;") (by decide +kernel)) ⟨by decide, by decide, rfl⟩ (rfl : jrt 10 12 = 6) dX11_shutPlaces_19 hr0 (fun ha19 => ?_)
  clear hr0
  refine lv_aload_n hx hb dX11_shutPlaces_22 rfl (lv_at hl 0 rfl) ?_
  obtain ⟨a23, hr0, h⟩ := h
  refine jgr (f := 1) hx hb hts hown hst w hG hx0 hiX11 (rfl : vwCl[10]? = some (RX11, TX11, 15)) (hts (.fieldLink RX11 19 "FootByGate" "map" "LFootByGate$Town;") (by decide +kernel)) ⟨by decide, by decide, rfl⟩ (rfl : jrt 10 1 = 7) dX11_shutPlaces_23 hr0 (fun ha23 => ?_)
  clear hr0
  refine lv_aload_n hx hb dX11_shutPlaces_26 rfl (lv_at hl 1 rfl) ?_
  refine jgi (f := 1) hx hb hts hown hst w hx1 hiX9 (rfl : vwCl[8]? = some (RX9, TX9, 3)) (hts (.fieldLink RX11 146 "FootByGate$Walker" "stand" "I") (by decide +kernel)) ⟨by decide, by decide, rfl⟩ dX11_shutPlaces_27 ?_
  refine lv_iconst (v := (1 : Int32)) hx hb dX11_shutPlaces_30 (by decide) ?_
  refine jcV_v (k := a19) (As := [.ref (b + a23), .int (i15 x1 1), .int (1 : Int32)]) (rest := []) C0 w (c_X6_spread hG ha19 ha23 h) (cwV 3 hts gX11_shutPlaces_X6_spread rfl rfl rfl (by decide +kernel) ⟨Nat.le_of_ble_eq_true rfl, Nat.le_of_ble_eq_true rfl⟩) ha19 (rfl : vwCl[6]? = some (RX6, TX6, 2)) (by decide) rfl hl.1 rfl (Nat.le_of_ble_eq_true rfl) dX11_shutPlaces_31 (fun i31 j31 H locs h w => ?_) ⟨Nat.zero_le _, Nat.zero_le _⟩
  refine lv_aload_n hx hb dX11_shutPlaces_34 rfl (lv_at hl 0 rfl) ?_
  obtain ⟨a35, hr0, h⟩ := h
  refine jgr (f := 12) hx hb hts hown hst w hG hx0 hiX11 (rfl : vwCl[10]? = some (RX11, TX11, 15)) (hts (.fieldLink RX11 60 "FootByGate" "reach" "LFootByGate$Reach;") (by decide +kernel)) ⟨by decide, by decide, rfl⟩ (rfl : jrt 10 12 = 6) dX11_shutPlaces_35 hr0 (fun ha35 => ?_)
  clear hr0
  refine jcV_i (k := a35) (As := []) (rest := []) C0 w (c_X6_placesMissed hG ha35 h) (cwV 0 hts gX11_shutPlaces_X6_placesMissed rfl rfl rfl (by decide +kernel) ⟨Nat.le_of_ble_eq_true rfl, Nat.le_of_ble_eq_true rfl⟩) ha35 (rfl : vwCl[6]? = some (RX6, TX6, 2)) (by decide) rfl hl.1 rfl (Nat.le_of_ble_eq_true rfl) dX11_shutPlaces_38 (fun q38 i38 j38 H locs h w => ?_) ⟨Nat.zero_le _, Nat.zero_le _⟩
  exact jret_i hx hb hr hlk hst w h dX11_shutPlaces_41
end S_X11_shutPlaces
section S_X11_isShutOtherwise
def J_X11_isShutOtherwise (len : Nat → Nat) (r : jR) (Q : Int32 → jI → jL → Prop) (i : jI) (j : jL) (x0 : Nat) (x1 : Nat) (x2 : Int32) (x3 : Int32) : Prop := ∃ a1, r x0 9 = some a1 ∧ (∃ a9, r x0 1 = some a9 ∧ (J_X2_take len r (fun (i12 : jI) (j12 : jL) => J_X11_shutPlaces len r (fun (q17 : Int32) (i17 : jI) (j17 : jL) => ∃ a23, r x0 9 = some a23 ∧ (J_X2_pave len r (fun (i32 : jI) (j32 : jL) => J_X11_shutPlaces len r (fun (q37 : Int32) (i37 : jI) (j37 : jL) => ((q37 = q17) → (Q (0 : Int32) i37 j37)) ∧ ((¬ q37 = q17) → (Q (1 : Int32) i37 j37))) i32 j32 x0 x1) i17 j17 a23 (i17 x1 0) x2 x3)) i12 j12 x0 x1) i j a1 (i x1 0) a9))
abbrev rm_X11_isShutOtherwise : Room := { frames := 4, cells := 0, slots := 0, locals := 103 }
variable {p : Program} {l : Launch} {e : Env} {s : State} {m : MethodId} {args : Array Value} {below : List Frame} {meth : Method} {c : Code} {b tU n : Nat} {cy : Nat → ClassId} {D : va_G} {K len : Nat → Nat} {r : jR} {Q : Int32 → jI → jL → Prop}
theorem hiX11_X11_isShutOtherwise : ∀ w ∈ u_ws RX11 TX11 15, w ∈ wsX11_isShutOtherwise := by decide +kernel
theorem hiX9_X11_isShutOtherwise : ∀ w ∈ u_ws RX9 TX9 3, w ∈ wsX11_isShutOtherwise := by decide +kernel
set_option maxHeartbeats 4000000 in
set_option maxRecDepth 100000 in
theorem c_X11_isShutOtherwise (hG : jG n K r) {i : jI} {j : jL} {x0 : Nat} {x1 : Nat} {x2 : Int32} {x3 : Int32} (hx0 : x0 < n ∧ K x0 = 10) (hx1 : x1 < n ∧ K x1 = 8) (h : J_X11_isShutOtherwise len r Q i j x0 x1 x2 x3) : Met l yX11_isShutOtherwise wsX11_isShutOtherwise rm_X11_isShutOtherwise (va_Pc [.ref (b + x0), .ref (b + x1), .int x2, .int x3] (jPre b cy D tU n K len r i j)) (jQi b cy D tU n K len r Q) 0 0 (jA b) := by
  refine Met.ofW (cc := cX11_isShutOtherwise) (maxL := 5) (ret := (some .boolean)) (by decide) rfl ?_
  intro p e s m args below meth c s₁ B hml hv
  obtain ⟨rfl, hv⟩ := hv
  have C0 : jCx p s m _ c cX11_isShutOtherwise 5 wsX11_isShutOtherwise RX11 b cy D tU n K r := ⟨B.exec, B.bytes, hml, findClass_of_methodNamed B.named, atoms_spec (ws := wsX11_isShutOtherwise) B.pre, hv.2.2, hG⟩
  have hr := B.returns
  have hlk := B.notSynchronized
  obtain ⟨hx, hb, hml, hown, hts, hst, hG⟩ := id C0
  have hiX11 : ∀ w ∈ u_ws RX11 TX11 15, w ∈ wsX11_isShutOtherwise := hiX11_X11_isShutOtherwise
  have hiX9 : ∀ w ∈ u_ws RX9 TX9 3, w ∈ wsX11_isShutOtherwise := hiX9_X11_isShutOtherwise
  have w := jDy.start hv
  have hl := lv_entry ([.ref (b + x0), .ref (b + x1), .int x2, .int x3]) (n := 5) (Nat.le_of_ble_eq_true rfl)
  rw [lg_entry_eq]
  generalize (lg_sl ([.ref (b + x0), .ref (b + x1), .int x2, .int x3]) ++ List.replicate (5 - (lg_sl ([.ref (b + x0), .ref (b + x1), .int x2, .int x3])).length) Slot.unset).toArray = ls at hl ⊢
  replace hl : lv_has ls 5 [(0, .ref (b + x0)), (1, .ref (b + x1)), (2, .int x2), (3, .int x3)] := hl
  show W p l e rm_X11_isShutOtherwise s m _ below meth c s.heap [] 0 0 _ (F0 m 0 ls [])
  rw [J_X11_isShutOtherwise] at h
  refine lv_aload_n hx hb dX11_isShutOtherwise_0 rfl (lv_at hl 0 rfl) ?_
  obtain ⟨a1, hr0, h⟩ := h
  refine jgr (f := 9) hx hb hts hown hst w hG hx0 hiX11 (rfl : vwCl[10]? = some (RX11, TX11, 15)) (hts (.fieldLink RX11 43 "FootByGate" "gait" "LFootByGate$Gait;") (by decide +kernel)) ⟨by decide, by decide, rfl⟩ (rfl : jrt 10 9 = 2) dX11_isShutOtherwise_1 hr0 (fun ha1 => ?_)
  clear hr0
  refine lv_aload_n hx hb dX11_isShutOtherwise_4 rfl (lv_at hl 1 rfl) ?_
  refine jgi (f := 0) hx hb hts hown hst w hx1 hiX9 (rfl : vwCl[8]? = some (RX9, TX9, 3)) (hts (.fieldLink RX11 137 "FootByGate$Walker" "kind" "I") (by decide +kernel)) ⟨by decide, by decide, rfl⟩ dX11_isShutOtherwise_5 ?_
  refine lv_aload_n hx hb dX11_isShutOtherwise_8 rfl (lv_at hl 0 rfl) ?_
  obtain ⟨a9, hr0, h⟩ := h
  refine jgr (f := 1) hx hb hts hown hst w hG hx0 hiX11 (rfl : vwCl[10]? = some (RX11, TX11, 15)) (hts (.fieldLink RX11 19 "FootByGate" "map" "LFootByGate$Town;") (by decide +kernel)) ⟨by decide, by decide, rfl⟩ (rfl : jrt 10 1 = 7) dX11_isShutOtherwise_9 hr0 (fun ha9 => ?_)
  clear hr0
  refine jcV_v (k := a1) (As := [.int (i x1 0), .ref (b + a9)]) (rest := []) C0 w (c_X2_take hG ha1 ha9 h) (cwV 2 hts gX11_isShutOtherwise_X2_take rfl rfl rfl (by decide +kernel) ⟨Nat.le_of_ble_eq_true rfl, Nat.le_of_ble_eq_true rfl⟩) ha1 (rfl : vwCl[2]? = some (RX2, TX2, 2)) (by decide) rfl hl.1 rfl (Nat.le_of_ble_eq_true rfl) dX11_isShutOtherwise_12 (fun i12 j12 H locs h w => ?_) ⟨Nat.zero_le _, Nat.zero_le _⟩
  refine lv_aload_n hx hb dX11_isShutOtherwise_15 rfl (lv_at hl 0 rfl) ?_
  refine lv_aload_n hx hb dX11_isShutOtherwise_16 rfl (lv_at hl 1 rfl) ?_
  refine jcV_i (k := x0) (As := [.ref (b + x1)]) (rest := []) C0 w (c_X11_shutPlaces hG hx0 hx1 h) (cwV 1 hts gX11_isShutOtherwise_X11_shutPlaces rfl rfl rfl (by decide +kernel) ⟨Nat.le_of_ble_eq_true rfl, Nat.le_of_ble_eq_true rfl⟩) hx0 (rfl : vwCl[10]? = some (RX11, TX11, 15)) (by decide) rfl hl.1 rfl (Nat.le_of_ble_eq_true rfl) dX11_isShutOtherwise_17 (fun q17 i17 j17 H locs h w => ?_) ⟨Nat.zero_le _, Nat.zero_le _⟩
  refine lv_istore (lv' := [(4, .int q17), (0, .ref (b + x0)), (1, .ref (b + x1)), (2, .int x2), (3, .int x3)]) hx hb dX11_isShutOtherwise_20 hl (by decide) rfl (fun ls hl => ?_)
  refine lv_aload_n hx hb dX11_isShutOtherwise_22 rfl (lv_at hl 1 rfl) ?_
  obtain ⟨a23, hr0, h⟩ := h
  refine jgr (f := 9) hx hb hts hown hst w hG hx0 hiX11 (rfl : vwCl[10]? = some (RX11, TX11, 15)) (hts (.fieldLink RX11 43 "FootByGate" "gait" "LFootByGate$Gait;") (by decide +kernel)) ⟨by decide, by decide, rfl⟩ (rfl : jrt 10 9 = 2) dX11_isShutOtherwise_23 hr0 (fun ha23 => ?_)
  clear hr0
  refine lv_aload_n hx hb dX11_isShutOtherwise_26 rfl (lv_at hl 2 rfl) ?_
  refine jgi (f := 0) hx hb hts hown hst w hx1 hiX9 (rfl : vwCl[8]? = some (RX9, TX9, 3)) (hts (.fieldLink RX11 137 "FootByGate$Walker" "kind" "I") (by decide +kernel)) ⟨by decide, by decide, rfl⟩ dX11_isShutOtherwise_27 ?_
  refine lv_iload_n hx hb dX11_isShutOtherwise_30 rfl (lv_at hl 3 rfl) ?_
  refine lv_iload_n hx hb dX11_isShutOtherwise_31 rfl (lv_at hl 4 rfl) ?_
  refine jcV_v (k := a23) (As := [.int (i17 x1 0), .int x2, .int x3]) (rest := []) C0 w (c_X2_pave hG ha23 h) (cwV 3 hts gX11_isShutOtherwise_X2_pave rfl rfl rfl (by decide +kernel) ⟨Nat.le_of_ble_eq_true rfl, Nat.le_of_ble_eq_true rfl⟩) ha23 (rfl : vwCl[2]? = some (RX2, TX2, 2)) (by decide) rfl hl.1 rfl (Nat.le_of_ble_eq_true rfl) dX11_isShutOtherwise_32 (fun i32 j32 H locs h w => ?_) ⟨Nat.zero_le _, Nat.zero_le _⟩
  refine lv_aload_n hx hb dX11_isShutOtherwise_35 rfl (lv_at hl 1 rfl) ?_
  refine lv_aload_n hx hb dX11_isShutOtherwise_36 rfl (lv_at hl 2 rfl) ?_
  refine jcV_i (k := x0) (As := [.ref (b + x1)]) (rest := []) C0 w (c_X11_shutPlaces hG hx0 hx1 h) (cwV 1 hts gX11_isShutOtherwise_X11_shutPlaces rfl rfl rfl (by decide +kernel) ⟨Nat.le_of_ble_eq_true rfl, Nat.le_of_ble_eq_true rfl⟩) hx0 (rfl : vwCl[10]? = some (RX11, TX11, 15)) (by decide) rfl hl.1 rfl (Nat.le_of_ble_eq_true rfl) dX11_isShutOtherwise_37 (fun q37 i37 j37 H locs h w => ?_) ⟨Nat.zero_le _, Nat.zero_le _⟩
  refine lv_iload hx hb dX11_isShutOtherwise_40 (lv_at hl 0 rfl) ?_
  refine lv_icmp_eq (tgt := 49) hx hb dX11_isShutOtherwise_42 (by decide) (fun hc => ?_) (fun hc => ?_)
  · replace h := h.1 hc
    clear hc
    refine lv_iconst (v := (0 : Int32)) hx hb dX11_isShutOtherwise_49 (by decide) ?_
    exact jret_z hx hb hr hlk hst w (by decide) h dX11_isShutOtherwise_50
  · replace h := h.2 hc
    clear hc
    refine lv_iconst (v := (1 : Int32)) hx hb dX11_isShutOtherwise_45 (by decide) ?_
    refine lv_goto (tgt := 50) hx hb dX11_isShutOtherwise_46 (by decide) ?_
    exact jret_z hx hb hr hlk hst w (by decide) h dX11_isShutOtherwise_50
end S_X11_isShutOtherwise
section S_X11_isStreet
def J_X11_isStreet_L19 (len : Nat → Nat) (r : jR) (Q : Int32 → jI → jL → Prop) (i : jI) (j : jL) : Prop := Q (0 : Int32) i j
def J_X11_isStreet (len : Nat → Nat) (r : jR) (Q : Int32 → jI → jL → Prop) (i : jI) (j : jL) (x0 : Nat) (x1 : Int32) : Prop := ((x1 < 0) → (J_X11_isStreet_L19 len r Q i j )) ∧ ((¬ x1 < 0) → (∃ a6, r x0 1 = some a6 ∧ ((((i a6 0) ≤ x1) → (J_X11_isStreet_L19 len r Q i j )) ∧ ((¬ (i a6 0) ≤ x1) → (Q (1 : Int32) i j)))))
abbrev rm_X11_isStreet : Room := { frames := 0, cells := 0, slots := 0, locals := 0 }
variable {p : Program} {l : Launch} {e : Env} {s : State} {m : MethodId} {args : Array Value} {below : List Frame} {meth : Method} {c : Code} {b tU n : Nat} {cy : Nat → ClassId} {D : va_G} {K len : Nat → Nat} {r : jR} {Q : Int32 → jI → jL → Prop}
theorem hiX11_X11_isStreet : ∀ w ∈ u_ws RX11 TX11 15, w ∈ wsX11_isStreet := by decide +kernel
theorem hiX8_X11_isStreet : ∀ w ∈ u_ws RX8 TX8 8, w ∈ wsX11_isStreet := by decide +kernel
set_option maxHeartbeats 4000000 in
set_option maxRecDepth 100000 in
theorem w_X11_isStreet_L19 (C0 : jCx p s m args c cX11_isStreet 2 wsX11_isStreet RX11 b cy D tU n K r) (hr : meth.sig.returnType = some .boolean) (hlk : meth.locks = false) {H : Heap} {locs : List Loc} {ls : Array Slot} {i : jI} {j : jL}  (w : jDy b cy D n K len r i j s H locs) (hl : lv_has ls 2 []) (h : J_X11_isStreet_L19 len r Q i j) : W p l e rm_X11_isStreet s m args below meth c H locs 0 0 (MQ below (jQi b cy D tU n K len r Q) args s 0 0 (jA b)) (F0 m 19 ls []) := by
  obtain ⟨hx, hb, hml, hown, hts, hst, hG⟩ := id C0
  have hiX11 : ∀ w ∈ u_ws RX11 TX11 15, w ∈ wsX11_isStreet := hiX11_X11_isStreet
  have hiX8 : ∀ w ∈ u_ws RX8 TX8 8, w ∈ wsX11_isStreet := hiX8_X11_isStreet
  rw [J_X11_isStreet_L19] at h
  refine lv_iconst (v := (0 : Int32)) hx hb dX11_isStreet_19 (by decide) ?_
  exact jret_z hx hb hr hlk hst w (by decide) h dX11_isStreet_20
set_option maxHeartbeats 4000000 in
set_option maxRecDepth 100000 in
theorem c_X11_isStreet (hG : jG n K r) {i : jI} {j : jL} {x0 : Nat} {x1 : Int32} (hx0 : x0 < n ∧ K x0 = 10) (h : J_X11_isStreet len r Q i j x0 x1) : Met l yX11_isStreet wsX11_isStreet rm_X11_isStreet (va_Pc [.ref (b + x0), .int x1] (jPre b cy D tU n K len r i j)) (jQi b cy D tU n K len r Q) 0 0 (jA b) := by
  refine Met.ofW (cc := cX11_isStreet) (maxL := 2) (ret := (some .boolean)) (by decide) rfl ?_
  intro p e s m args below meth c s₁ B hml hv
  obtain ⟨rfl, hv⟩ := hv
  have C0 : jCx p s m _ c cX11_isStreet 2 wsX11_isStreet RX11 b cy D tU n K r := ⟨B.exec, B.bytes, hml, findClass_of_methodNamed B.named, atoms_spec (ws := wsX11_isStreet) B.pre, hv.2.2, hG⟩
  have hr := B.returns
  have hlk := B.notSynchronized
  obtain ⟨hx, hb, hml, hown, hts, hst, hG⟩ := id C0
  have hiX11 : ∀ w ∈ u_ws RX11 TX11 15, w ∈ wsX11_isStreet := hiX11_X11_isStreet
  have hiX8 : ∀ w ∈ u_ws RX8 TX8 8, w ∈ wsX11_isStreet := hiX8_X11_isStreet
  have w := jDy.start hv
  have hl := lv_entry ([.ref (b + x0), .int x1]) (n := 2) (Nat.le_of_ble_eq_true rfl)
  rw [lg_entry_eq]
  generalize (lg_sl ([.ref (b + x0), .int x1]) ++ List.replicate (2 - (lg_sl ([.ref (b + x0), .int x1])).length) Slot.unset).toArray = ls at hl ⊢
  replace hl : lv_has ls 2 [(0, .ref (b + x0)), (1, .int x1)] := hl
  show W p l e rm_X11_isStreet s m _ below meth c s.heap [] 0 0 _ (F0 m 0 ls [])
  rw [J_X11_isStreet] at h
  refine lv_iload_n hx hb dX11_isStreet_0 rfl (lv_at hl 1 rfl) ?_
  refine lv_if_lt (tgt := 19) hx hb dX11_isStreet_1 (by decide) (fun hc => ?_) (fun hc => ?_)
  · replace h := h.1 hc
    clear hc
    exact w_X11_isStreet_L19 C0 hr hlk w (lv_sub hl [] rfl) h
  · replace h := h.2 hc
    clear hc
    refine lv_iload_n hx hb dX11_isStreet_4 rfl (lv_at hl 1 rfl) ?_
    refine lv_aload_n hx hb dX11_isStreet_5 rfl (lv_at hl 0 rfl) ?_
    obtain ⟨a6, hr0, h⟩ := h
    refine jgr (f := 1) hx hb hts hown hst w hG hx0 hiX11 (rfl : vwCl[10]? = some (RX11, TX11, 15)) (hts (.fieldLink RX11 19 "FootByGate" "map" "LFootByGate$Town;") (by decide +kernel)) ⟨by decide, by decide, rfl⟩ (rfl : jrt 10 1 = 7) dX11_isStreet_6 hr0 (fun ha6 => ?_)
    clear hr0
    refine jgi (f := 0) hx hb hts hown hst w ha6 hiX8 (rfl : vwCl[7]? = some (RX8, TX8, 8)) (hts (.fieldLink RX11 105 "FootByGate$Town" "streets" "I") (by decide +kernel)) ⟨by decide, by decide, rfl⟩ dX11_isStreet_9 ?_
    refine lv_icmp_ge (tgt := 19) hx hb dX11_isStreet_12 (by decide) (fun hc => ?_) (fun hc => ?_)
    · replace h := h.1 hc
      clear hc
      exact w_X11_isStreet_L19 C0 hr hlk w (lv_sub hl [] rfl) h
    · replace h := h.2 hc
      clear hc
      refine lv_iconst (v := (1 : Int32)) hx hb dX11_isStreet_15 (by decide) ?_
      refine lv_goto (tgt := 20) hx hb dX11_isStreet_16 (by decide) ?_
      exact jret_z hx hb hr hlk hst w (by decide) h dX11_isStreet_20
end S_X11_isStreet
section S_X11_change
def J_X11_change_L60 (len : Nat → Nat) (r : jR) (Q : Int32 → jI → jL → Prop) (Hd28 : jI → jL → Nat → Int32 → Int32 → Int32 → Int32 → Prop) (i : jI) (j : jL) (x0 : Nat) (x1 : Int32) (x2 : Int32) (x3 : Int32) (x4 : Int32) : Prop := ∀ v60 : Int32, v60 = x4 + (1 : Int32) → (Hd28 i j x0 x1 x2 x3 v60)
def J_X11_change_L28 (len : Nat → Nat) (r : jR) (Q : Int32 → jI → jL → Prop) : Nat → jI → jL → Nat → Int32 → Int32 → Int32 → Int32 → Prop
  | 0 => fun _ _ _ _ _ _ _ => False
  | g + 1 => fun i j x0 x1 x2 x3 x4 => (((i x0 3) ≤ x4) → (Q x3 i j)) ∧ ((¬ (i x0 3) ≤ x4) → (∃ a39, r x0 2 = some a39 ∧ (vp_in x4 (len a39) ∧ ∃ a44, r a39 x4.toNatClampNeg = some a44 ∧ (J_X11_isShutOtherwise len r (fun (q47 : Int32) (i47 : jI) (j47 : jL) => ((q47 = 0) → (J_X11_change_L60 len r Q (J_X11_change_L28 len r Q g) i47 j47 x0 x1 x2 x3 x4)) ∧ ((¬ q47 = 0) → (∀ v59 : Int32, v59 = x3 ||| ((1 : Int32) <<< (x4 &&& 31)) → (J_X11_change_L60 len r Q (J_X11_change_L28 len r Q g) i47 j47 x0 x1 x2 v59 x4)))) i j x0 a44 x1 x2))))
def J_X11_change (len : Nat → Nat) (r : jR) (Q : Int32 → jI → jL → Prop) (i : jI) (j : jL) (x0 : Nat) (x1 : Int32) (x2 : Int32) : Prop := J_X11_isStreet len r (fun (q2 : Int32) (i2 : jI) (j2 : jL) => ((¬ q2 = 0) → (J_X11_isWithin len r (fun (q14 : Int32) (i14 : jI) (j14 : jL) => ((¬ q14 = 0) → (∃ g0, J_X11_change_L28 len r Q g0 i14 j14 x0 x1 x2 (0 : Int32) (0 : Int32))) ∧ ((q14 = 0) → (Q (-102 : Int32) i14 j14))) i2 j2 x2 (9 : Int32))) ∧ ((q2 = 0) → (Q (-101 : Int32) i2 j2))) i j x0 x1
abbrev rm_X11_change : Room := { frames := 5, cells := 0, slots := 0, locals := 127 }
variable {p : Program} {l : Launch} {e : Env} {s : State} {m : MethodId} {args : Array Value} {below : List Frame} {meth : Method} {c : Code} {b tU n : Nat} {cy : Nat → ClassId} {D : va_G} {K len : Nat → Nat} {r : jR} {Q : Int32 → jI → jL → Prop}
theorem hiX11_X11_change : ∀ w ∈ u_ws RX11 TX11 15, w ∈ wsX11_change := by decide +kernel
set_option maxHeartbeats 4000000 in
set_option maxRecDepth 100000 in
theorem w_X11_change_L60 (C0 : jCx p s m args c cX11_change 5 wsX11_change RX11 b cy D tU n K r) (hr : meth.sig.returnType = some .int) (hlk : meth.locks = false) {Hd28 : jI → jL → Nat → Int32 → Int32 → Int32 → Int32 → Prop} (k28 : ∀ {H : Heap} {locs : List Loc} {ls : Array Slot} {i : jI} {j : jL} {x0 : Nat} {x1 : Int32} {x2 : Int32} {x3 : Int32} {x4 : Int32} (w : jDy b cy D n K len r i j s H locs) (hx0 : x0 < n ∧ K x0 = 10) (hl : lv_has ls 5 [(0, .ref (b + x0)), (1, .int x1), (2, .int x2), (3, .int x3), (4, .int x4)]) (h : Hd28 i j x0 x1 x2 x3 x4), W p l e rm_X11_change s m args below meth c H locs 0 0 (MQ below (jQi b cy D tU n K len r Q) args s 0 0 (jA b)) (F0 m 28 ls [])) {H : Heap} {locs : List Loc} {ls : Array Slot} {i : jI} {j : jL} {x0 : Nat} {x1 : Int32} {x2 : Int32} {x3 : Int32} {x4 : Int32} (w : jDy b cy D n K len r i j s H locs) (hx0 : x0 < n ∧ K x0 = 10) (hl : lv_has ls 5 [(0, .ref (b + x0)), (1, .int x1), (2, .int x2), (3, .int x3), (4, .int x4)]) (h : J_X11_change_L60 len r Q Hd28 i j x0 x1 x2 x3 x4) : W p l e rm_X11_change s m args below meth c H locs 0 0 (MQ below (jQi b cy D tU n K len r Q) args s 0 0 (jA b)) (F0 m 60 ls []) := by
  obtain ⟨hx, hb, hml, hown, hts, hst, hG⟩ := id C0
  have hiX11 : ∀ w ∈ u_ws RX11 TX11 15, w ∈ wsX11_change := hiX11_X11_change
  rw [J_X11_change_L60] at h
  obtain ⟨v60, he⟩ : ∃ z : Int32, z = x4 + (1 : Int32) := ⟨_, rfl⟩
  replace h := h v60 he
  refine lv_iinc (v := v60) (lv' := [(4, .int v60), (0, .ref (b + x0)), (1, .int x1), (2, .int x2), (3, .int x3)]) hx hb dX11_change_60 hl (k := 4) rfl (by rw [he]; rfl) (by decide) rfl (fun ls hl => ?_)
  clear he
  refine lv_goto (tgt := 28) hx hb dX11_change_63 (by decide) ?_
  exact k28 w hx0 (lv_sub hl [1, 2, 3, 4, 0] rfl) h
set_option maxHeartbeats 4000000 in
set_option maxRecDepth 100000 in
theorem w_X11_change_L28 (C0 : jCx p s m args c cX11_change 5 wsX11_change RX11 b cy D tU n K r) (hr : meth.sig.returnType = some .int) (hlk : meth.locks = false) : ∀ (g : Nat) {H : Heap} {locs : List Loc} {ls : Array Slot} {i : jI} {j : jL} {x0 : Nat} {x1 : Int32} {x2 : Int32} {x3 : Int32} {x4 : Int32} (w : jDy b cy D n K len r i j s H locs) (hx0 : x0 < n ∧ K x0 = 10) (hl : lv_has ls 5 [(0, .ref (b + x0)), (1, .int x1), (2, .int x2), (3, .int x3), (4, .int x4)]) (h : J_X11_change_L28 len r Q g i j x0 x1 x2 x3 x4), W p l e rm_X11_change s m args below meth c H locs 0 0 (MQ below (jQi b cy D tU n K len r Q) args s 0 0 (jA b)) (F0 m 28 ls []) := by
  obtain ⟨hx, hb, hml, hown, hts, hst, hG⟩ := id C0
  have hiX11 : ∀ w ∈ u_ws RX11 TX11 15, w ∈ wsX11_change := hiX11_X11_change
  intro g
  induction g with
  | zero => intro H locs ls i j x0 x1 x2 x3 x4 w hx0 hl h; exact False.elim h
  | succ g ih =>
    intro H locs ls i j x0 x1 x2 x3 x4 w hx0 hl h
    rw [J_X11_change_L28] at h
    refine lv_iload hx hb dX11_change_28 (lv_at hl 4 rfl) ?_
    refine lv_aload_n hx hb dX11_change_30 rfl (lv_at hl 0 rfl) ?_
    refine jgi (f := 3) hx hb hts hown hst w hx0 hiX11 (rfl : vwCl[10]? = some (RX11, TX11, 15)) (hts (.fieldLink RX11 96 "FootByGate" "walkerCount" "I") (by decide +kernel)) ⟨by decide, by decide, rfl⟩ dX11_change_31 ?_
    refine lv_icmp_ge (tgt := 66) hx hb dX11_change_34 (by decide) (fun hc => ?_) (fun hc => ?_)
    · replace h := h.1 hc
      clear hc
      refine lv_iload_n hx hb dX11_change_66 rfl (lv_at hl 3 rfl) ?_
      exact jret_i hx hb hr hlk hst w h dX11_change_67
    · replace h := h.2 hc
      clear hc
      refine lv_aload_n hx hb dX11_change_37 rfl (lv_at hl 0 rfl) ?_
      refine lv_aload_n hx hb dX11_change_38 rfl (lv_at hl 0 rfl) ?_
      obtain ⟨a39, hr0, h⟩ := h
      refine jgr (f := 2) hx hb hts hown hst w hG hx0 hiX11 (rfl : vwCl[10]? = some (RX11, TX11, 15)) (hts (.fieldLink RX11 25 "FootByGate" "walkers" "[LFootByGate$Walker;") (by decide +kernel)) ⟨by decide, by decide, rfl⟩ (rfl : jrt 10 2 = 16) dX11_change_39 hr0 (fun ha39 => ?_)
      clear hr0
      refine lv_iload hx hb dX11_change_42 (lv_at hl 4 rfl) ?_
      obtain ⟨hn, h⟩ := h
      obtain ⟨a44, hr0, h⟩ := h
      refine jaar hx hb hst w hG ha39 hn dX11_change_44 hr0 (fun ha44 => ?_)
      clear hn hr0
      refine lv_iload_n hx hb dX11_change_45 rfl (lv_at hl 1 rfl) ?_
      refine lv_iload_n hx hb dX11_change_46 rfl (lv_at hl 2 rfl) ?_
      refine jcV_i (k := x0) (As := [.ref (b + a44), .int x1, .int x2]) (rest := []) C0 w (c_X11_isShutOtherwise hG hx0 ha44 h) (cwV 3 hts gX11_change_X11_isShutOtherwise rfl rfl rfl (by decide +kernel) ⟨Nat.le_of_ble_eq_true rfl, Nat.le_of_ble_eq_true rfl⟩) hx0 (rfl : vwCl[10]? = some (RX11, TX11, 15)) (by decide) rfl hl.1 rfl (Nat.le_of_ble_eq_true rfl) dX11_change_47 (fun q47 i47 j47 H locs h w => ?_) ⟨Nat.zero_le _, Nat.zero_le _⟩
      refine lv_if_eq (tgt := 60) hx hb dX11_change_50 (by decide) (fun hc => ?_) (fun hc => ?_)
      · replace h := h.1 hc
        clear hc
        exact w_X11_change_L60 C0 hr hlk (fun w hx0 hl h => ih w hx0 hl h) w hx0 (lv_sub hl [0, 1, 2, 3, 4] rfl) h
      · replace h := h.2 hc
        clear hc
        refine lv_iload_n hx hb dX11_change_53 rfl (lv_at hl 3 rfl) ?_
        refine lv_iconst (v := (1 : Int32)) hx hb dX11_change_54 (by decide) ?_
        refine lv_iload hx hb dX11_change_55 (lv_at hl 4 rfl) ?_
        refine lv_ishl hx hb dX11_change_57 ?_
        refine lv_ior hx hb dX11_change_58 ?_
        refine lv_topi (fun v59 he => ?_)
        replace h := h v59 he
        clear he
        refine lv_istore_n (lv' := [(3, .int v59), (0, .ref (b + x0)), (1, .int x1), (2, .int x2), (4, .int x4)]) hx hb dX11_change_59 rfl hl (by decide) rfl (fun ls hl => ?_)
        exact w_X11_change_L60 C0 hr hlk (fun w hx0 hl h => ih w hx0 hl h) w hx0 (lv_sub hl [1, 2, 3, 0, 4] rfl) h
set_option maxHeartbeats 4000000 in
set_option maxRecDepth 100000 in
theorem c_X11_change (hG : jG n K r) {i : jI} {j : jL} {x0 : Nat} {x1 : Int32} {x2 : Int32} (hx0 : x0 < n ∧ K x0 = 10) (h : J_X11_change len r Q i j x0 x1 x2) : Met l yX11_change wsX11_change rm_X11_change (va_Pc [.ref (b + x0), .int x1, .int x2] (jPre b cy D tU n K len r i j)) (jQi b cy D tU n K len r Q) 0 0 (jA b) := by
  refine Met.ofW (cc := cX11_change) (maxL := 5) (ret := (some .int)) (by decide) rfl ?_
  intro p e s m args below meth c s₁ B hml hv
  obtain ⟨rfl, hv⟩ := hv
  have C0 : jCx p s m _ c cX11_change 5 wsX11_change RX11 b cy D tU n K r := ⟨B.exec, B.bytes, hml, findClass_of_methodNamed B.named, atoms_spec (ws := wsX11_change) B.pre, hv.2.2, hG⟩
  have hr := B.returns
  have hlk := B.notSynchronized
  obtain ⟨hx, hb, hml, hown, hts, hst, hG⟩ := id C0
  have hiX11 : ∀ w ∈ u_ws RX11 TX11 15, w ∈ wsX11_change := hiX11_X11_change
  have w := jDy.start hv
  have hl := lv_entry ([.ref (b + x0), .int x1, .int x2]) (n := 5) (Nat.le_of_ble_eq_true rfl)
  rw [lg_entry_eq]
  generalize (lg_sl ([.ref (b + x0), .int x1, .int x2]) ++ List.replicate (5 - (lg_sl ([.ref (b + x0), .int x1, .int x2])).length) Slot.unset).toArray = ls at hl ⊢
  replace hl : lv_has ls 5 [(0, .ref (b + x0)), (1, .int x1), (2, .int x2)] := hl
  show W p l e rm_X11_change s m _ below meth c s.heap [] 0 0 _ (F0 m 0 ls [])
  rw [J_X11_change] at h
  refine lv_aload_n hx hb dX11_change_0 rfl (lv_at hl 0 rfl) ?_
  refine lv_iload_n hx hb dX11_change_1 rfl (lv_at hl 1 rfl) ?_
  refine jcV_i (k := x0) (As := [.int x1]) (rest := []) C0 w (c_X11_isStreet hG hx0 h) (cwV 1 hts gX11_change_X11_isStreet rfl rfl rfl (by decide +kernel) ⟨Nat.le_of_ble_eq_true rfl, Nat.le_of_ble_eq_true rfl⟩) hx0 (rfl : vwCl[10]? = some (RX11, TX11, 15)) (by decide) rfl hl.1 rfl (Nat.le_of_ble_eq_true rfl) dX11_change_2 (fun q2 i2 j2 H locs h w => ?_) ⟨Nat.zero_le _, Nat.zero_le _⟩
  refine lv_if_ne (tgt := 11) hx hb dX11_change_5 (by decide) (fun hc => ?_) (fun hc => ?_)
  · replace h := h.1 hc
    clear hc
    refine lv_iload_n hx hb dX11_change_11 rfl (lv_at hl 2 rfl) ?_
    refine lv_bipush (v := (9 : Int32)) hx hb dX11_change_12 (by decide) ?_
    refine jcS_i (As := [.int x2, .int (9 : Int32)]) (rest := []) C0 w (c_X11_isWithin hG h) (va_cwS 2 hts gX11_change_X11_isWithin rfl rfl rfl (by decide +kernel) ⟨Nat.le_of_ble_eq_true rfl, Nat.le_of_ble_eq_true rfl⟩) rfl hl.1 rfl (Nat.le_of_ble_eq_true rfl) dX11_change_14 (fun q14 i14 j14 H locs h w => ?_) ⟨Nat.zero_le _, Nat.zero_le _⟩
    refine lv_if_ne (tgt := 23) hx hb dX11_change_17 (by decide) (fun hc => ?_) (fun hc => ?_)
    · replace h := h.1 hc
      clear hc
      refine lv_iconst (v := (0 : Int32)) hx hb dX11_change_23 (by decide) ?_
      refine lv_istore_n (lv' := [(3, .int (0 : Int32)), (0, .ref (b + x0)), (1, .int x1), (2, .int x2)]) hx hb dX11_change_24 rfl hl (by decide) rfl (fun ls hl => ?_)
      refine lv_iconst (v := (0 : Int32)) hx hb dX11_change_25 (by decide) ?_
      refine lv_istore (lv' := [(4, .int (0 : Int32)), (3, .int (0 : Int32)), (0, .ref (b + x0)), (1, .int x1), (2, .int x2)]) hx hb dX11_change_26 hl (by decide) rfl (fun ls hl => ?_)
      obtain ⟨g0, h⟩ := h
      exact w_X11_change_L28 C0 hr hlk g0 w hx0 (lv_sub hl [2, 3, 4, 1, 0] rfl) h
    · replace h := h.2 hc
      clear hc
      refine lv_bipush (v := (-102 : Int32)) hx hb dX11_change_20 (by decide) ?_
      exact jret_i hx hb hr hlk hst w h dX11_change_22
  · replace h := h.2 hc
    clear hc
    refine lv_bipush (v := (-101 : Int32)) hx hb dX11_change_8 (by decide) ?_
    exact jret_i hx hb hr hlk hst w h dX11_change_10
end S_X11_change
section S_X11_comesByStones
def J_X11_comesByStones (len : Nat → Nat) (r : jR) (Q : Int32 → jI → jL → Prop) (i : jI) (j : jL) (x0 : Nat) (x1 : Nat) (x2 : Int32) (x3 : Int32) : Prop := ∃ a1, r x0 12 = some a1 ∧ (∃ a5, r x0 9 = some a5 ∧ (∃ a9, r x0 1 = some a9 ∧ (J_X6_take len r (fun (i15 : jI) (j15 : jL) => ∃ a19, r x0 12 = some a19 ∧ (J_X6_turnAt len r (fun (i23 : jI) (j23 : jL) => ∃ a27, r x0 12 = some a27 ∧ (∃ a31, r x0 1 = some a31 ∧ (J_X6_spread len r (fun (i39 : jI) (j39 : jL) => ∃ a43, r x0 12 = some a43 ∧ (J_X6_hasPlace len r (fun (q47 : Int32) (i47 : jI) (j47 : jL) => (q47 = 0 ∨ q47 = 1) ∧ Q q47 i47 j47) i39 j39 a43 x2)) i23 j23 a27 a31 (i23 x1 1) (1 : Int32)))) i15 j15 a19 x3)) i j a1 a5 (i a9 0))))
abbrev rm_X11_comesByStones : Room := { frames := 3, cells := 0, slots := 0, locals := 82 }
variable {p : Program} {l : Launch} {e : Env} {s : State} {m : MethodId} {args : Array Value} {below : List Frame} {meth : Method} {c : Code} {b tU n : Nat} {cy : Nat → ClassId} {D : va_G} {K len : Nat → Nat} {r : jR} {Q : Int32 → jI → jL → Prop}
theorem hiX11_X11_comesByStones : ∀ w ∈ u_ws RX11 TX11 15, w ∈ wsX11_comesByStones := by decide +kernel
theorem hiX8_X11_comesByStones : ∀ w ∈ u_ws RX8 TX8 8, w ∈ wsX11_comesByStones := by decide +kernel
theorem hiX9_X11_comesByStones : ∀ w ∈ u_ws RX9 TX9 3, w ∈ wsX11_comesByStones := by decide +kernel
set_option maxHeartbeats 4000000 in
set_option maxRecDepth 100000 in
theorem c_X11_comesByStones (hG : jG n K r) {i : jI} {j : jL} {x0 : Nat} {x1 : Nat} {x2 : Int32} {x3 : Int32} (hx0 : x0 < n ∧ K x0 = 10) (hx1 : x1 < n ∧ K x1 = 8) (h : J_X11_comesByStones len r Q i j x0 x1 x2 x3) : Met l yX11_comesByStones wsX11_comesByStones rm_X11_comesByStones (va_Pc [.ref (b + x0), .ref (b + x1), .int x2, .int x3] (jPre b cy D tU n K len r i j)) (jQi b cy D tU n K len r Q) 0 0 (jA b) := by
  refine Met.ofW (cc := cX11_comesByStones) (maxL := 4) (ret := (some .boolean)) (by decide) rfl ?_
  intro p e s m args below meth c s₁ B hml hv
  obtain ⟨rfl, hv⟩ := hv
  have C0 : jCx p s m _ c cX11_comesByStones 4 wsX11_comesByStones RX11 b cy D tU n K r := ⟨B.exec, B.bytes, hml, findClass_of_methodNamed B.named, atoms_spec (ws := wsX11_comesByStones) B.pre, hv.2.2, hG⟩
  have hr := B.returns
  have hlk := B.notSynchronized
  obtain ⟨hx, hb, hml, hown, hts, hst, hG⟩ := id C0
  have hiX11 : ∀ w ∈ u_ws RX11 TX11 15, w ∈ wsX11_comesByStones := hiX11_X11_comesByStones
  have hiX8 : ∀ w ∈ u_ws RX8 TX8 8, w ∈ wsX11_comesByStones := hiX8_X11_comesByStones
  have hiX9 : ∀ w ∈ u_ws RX9 TX9 3, w ∈ wsX11_comesByStones := hiX9_X11_comesByStones
  have w := jDy.start hv
  have hl := lv_entry ([.ref (b + x0), .ref (b + x1), .int x2, .int x3]) (n := 4) (Nat.le_of_ble_eq_true rfl)
  rw [lg_entry_eq]
  generalize (lg_sl ([.ref (b + x0), .ref (b + x1), .int x2, .int x3]) ++ List.replicate (4 - (lg_sl ([.ref (b + x0), .ref (b + x1), .int x2, .int x3])).length) Slot.unset).toArray = ls at hl ⊢
  replace hl : lv_has ls 4 [(0, .ref (b + x0)), (1, .ref (b + x1)), (2, .int x2), (3, .int x3)] := hl
  show W p l e rm_X11_comesByStones s m _ below meth c s.heap [] 0 0 _ (F0 m 0 ls [])
  rw [J_X11_comesByStones] at h
  refine lv_aload_n hx hb dX11_comesByStones_0 rfl (lv_at hl 0 rfl) ?_
  obtain ⟨a1, hr0, h⟩ := h
  refine jgr (f := 12) hx hb hts hown hst w hG hx0 hiX11 (rfl : vwCl[10]? = some (RX11, TX11, 15)) (hts (.fieldLink RX11 60 "FootByGate" "reach" "LFootByGate$Reach;") (by decide +kernel)) ⟨by decide, by decide, rfl⟩ (rfl : jrt 10 12 = 6) dX11_comesByStones_1 hr0 (fun ha1 => ?_)
  clear hr0
  refine lv_aload_n hx hb dX11_comesByStones_4 rfl (lv_at hl 0 rfl) ?_
  obtain ⟨a5, hr0, h⟩ := h
  refine jgr (f := 9) hx hb hts hown hst w hG hx0 hiX11 (rfl : vwCl[10]? = some (RX11, TX11, 15)) (hts (.fieldLink RX11 43 "FootByGate" "gait" "LFootByGate$Gait;") (by decide +kernel)) ⟨by decide, by decide, rfl⟩ (rfl : jrt 10 9 = 2) dX11_comesByStones_5 hr0 (fun ha5 => ?_)
  clear hr0
  refine lv_aload_n hx hb dX11_comesByStones_8 rfl (lv_at hl 0 rfl) ?_
  obtain ⟨a9, hr0, h⟩ := h
  refine jgr (f := 1) hx hb hts hown hst w hG hx0 hiX11 (rfl : vwCl[10]? = some (RX11, TX11, 15)) (hts (.fieldLink RX11 19 "FootByGate" "map" "LFootByGate$Town;") (by decide +kernel)) ⟨by decide, by decide, rfl⟩ (rfl : jrt 10 1 = 7) dX11_comesByStones_9 hr0 (fun ha9 => ?_)
  clear hr0
  refine jgi (f := 0) hx hb hts hown hst w ha9 hiX8 (rfl : vwCl[7]? = some (RX8, TX8, 8)) (hts (.fieldLink RX11 105 "FootByGate$Town" "streets" "I") (by decide +kernel)) ⟨by decide, by decide, rfl⟩ dX11_comesByStones_12 ?_
  refine jcV_v (k := a1) (As := [.ref (b + a5), .int (i a9 0)]) (rest := []) C0 w (c_X6_take hG ha1 ha5 h) (cwV 2 hts gX11_comesByStones_X6_take rfl rfl rfl (by decide +kernel) ⟨Nat.le_of_ble_eq_true rfl, Nat.le_of_ble_eq_true rfl⟩) ha1 (rfl : vwCl[6]? = some (RX6, TX6, 2)) (by decide) rfl hl.1 rfl (Nat.le_of_ble_eq_true rfl) dX11_comesByStones_15 (fun i15 j15 H locs h w => ?_) ⟨Nat.zero_le _, Nat.zero_le _⟩
  refine lv_aload_n hx hb dX11_comesByStones_18 rfl (lv_at hl 0 rfl) ?_
  obtain ⟨a19, hr0, h⟩ := h
  refine jgr (f := 12) hx hb hts hown hst w hG hx0 hiX11 (rfl : vwCl[10]? = some (RX11, TX11, 15)) (hts (.fieldLink RX11 60 "FootByGate" "reach" "LFootByGate$Reach;") (by decide +kernel)) ⟨by decide, by decide, rfl⟩ (rfl : jrt 10 12 = 6) dX11_comesByStones_19 hr0 (fun ha19 => ?_)
  clear hr0
  refine lv_iload_n hx hb dX11_comesByStones_22 rfl (lv_at hl 3 rfl) ?_
  refine jcV_v (k := a19) (As := [.int x3]) (rest := []) C0 w (c_X6_turnAt hG ha19 h) (cwV 1 hts gX11_comesByStones_X6_turnAt rfl rfl rfl (by decide +kernel) ⟨Nat.le_of_ble_eq_true rfl, Nat.le_of_ble_eq_true rfl⟩) ha19 (rfl : vwCl[6]? = some (RX6, TX6, 2)) (by decide) rfl hl.1 rfl (Nat.le_of_ble_eq_true rfl) dX11_comesByStones_23 (fun i23 j23 H locs h w => ?_) ⟨Nat.zero_le _, Nat.zero_le _⟩
  refine lv_aload_n hx hb dX11_comesByStones_26 rfl (lv_at hl 0 rfl) ?_
  obtain ⟨a27, hr0, h⟩ := h
  refine jgr (f := 12) hx hb hts hown hst w hG hx0 hiX11 (rfl : vwCl[10]? = some (RX11, TX11, 15)) (hts (.fieldLink RX11 60 "FootByGate" "reach" "LFootByGate$Reach;") (by decide +kernel)) ⟨by decide, by decide, rfl⟩ (rfl : jrt 10 12 = 6) dX11_comesByStones_27 hr0 (fun ha27 => ?_)
  clear hr0
  refine lv_aload_n hx hb dX11_comesByStones_30 rfl (lv_at hl 0 rfl) ?_
  obtain ⟨a31, hr0, h⟩ := h
  refine jgr (f := 1) hx hb hts hown hst w hG hx0 hiX11 (rfl : vwCl[10]? = some (RX11, TX11, 15)) (hts (.fieldLink RX11 19 "FootByGate" "map" "LFootByGate$Town;") (by decide +kernel)) ⟨by decide, by decide, rfl⟩ (rfl : jrt 10 1 = 7) dX11_comesByStones_31 hr0 (fun ha31 => ?_)
  clear hr0
  refine lv_aload_n hx hb dX11_comesByStones_34 rfl (lv_at hl 1 rfl) ?_
  refine jgi (f := 1) hx hb hts hown hst w hx1 hiX9 (rfl : vwCl[8]? = some (RX9, TX9, 3)) (hts (.fieldLink RX11 146 "FootByGate$Walker" "stand" "I") (by decide +kernel)) ⟨by decide, by decide, rfl⟩ dX11_comesByStones_35 ?_
  refine lv_iconst (v := (1 : Int32)) hx hb dX11_comesByStones_38 (by decide) ?_
  refine jcV_v (k := a27) (As := [.ref (b + a31), .int (i23 x1 1), .int (1 : Int32)]) (rest := []) C0 w (c_X6_spread hG ha27 ha31 h) (cwV 3 hts gX11_comesByStones_X6_spread rfl rfl rfl (by decide +kernel) ⟨Nat.le_of_ble_eq_true rfl, Nat.le_of_ble_eq_true rfl⟩) ha27 (rfl : vwCl[6]? = some (RX6, TX6, 2)) (by decide) rfl hl.1 rfl (Nat.le_of_ble_eq_true rfl) dX11_comesByStones_39 (fun i39 j39 H locs h w => ?_) ⟨Nat.zero_le _, Nat.zero_le _⟩
  refine lv_aload_n hx hb dX11_comesByStones_42 rfl (lv_at hl 0 rfl) ?_
  obtain ⟨a43, hr0, h⟩ := h
  refine jgr (f := 12) hx hb hts hown hst w hG hx0 hiX11 (rfl : vwCl[10]? = some (RX11, TX11, 15)) (hts (.fieldLink RX11 60 "FootByGate" "reach" "LFootByGate$Reach;") (by decide +kernel)) ⟨by decide, by decide, rfl⟩ (rfl : jrt 10 12 = 6) dX11_comesByStones_43 hr0 (fun ha43 => ?_)
  clear hr0
  refine lv_iload_n hx hb dX11_comesByStones_46 rfl (lv_at hl 2 rfl) ?_
  refine jcV_i (k := a43) (As := [.int x2]) (rest := []) C0 w (c_X6_hasPlace hG ha43 h) (cwV 1 hts gX11_comesByStones_X6_hasPlace rfl rfl rfl (by decide +kernel) ⟨Nat.le_of_ble_eq_true rfl, Nat.le_of_ble_eq_true rfl⟩) ha43 (rfl : vwCl[6]? = some (RX6, TX6, 2)) (by decide) rfl hl.1 rfl (Nat.le_of_ble_eq_true rfl) dX11_comesByStones_47 (fun q47 i47 j47 H locs h w => ?_) ⟨Nat.zero_le _, Nat.zero_le _⟩
  exact jret_z hx hb hr hlk hst w h.1 h.2 dX11_comesByStones_50
end S_X11_comesByStones
section S_X11_footOfPrint
def J_X11_footOfPrint (len : Nat → Nat) (r : jR) (Q : Int32 → jI → jL → Prop) (i : jI) (j : jL) (x0 : Int32) : Prop := Q (x0 &&& (1 : Int32)) i j
abbrev rm_X11_footOfPrint : Room := { frames := 0, cells := 0, slots := 0, locals := 0 }
variable {p : Program} {l : Launch} {e : Env} {s : State} {m : MethodId} {args : Array Value} {below : List Frame} {meth : Method} {c : Code} {b tU n : Nat} {cy : Nat → ClassId} {D : va_G} {K len : Nat → Nat} {r : jR} {Q : Int32 → jI → jL → Prop}
set_option maxHeartbeats 4000000 in
set_option maxRecDepth 100000 in
theorem c_X11_footOfPrint (hG : jG n K r) {i : jI} {j : jL} {x0 : Int32} (h : J_X11_footOfPrint len r Q i j x0) : Met l yX11_footOfPrint wsX11_footOfPrint rm_X11_footOfPrint (va_Pc [.int x0] (jPre b cy D tU n K len r i j)) (jQi b cy D tU n K len r Q) 0 0 (jA b) := by
  refine Met.ofW (cc := cX11_footOfPrint) (maxL := 1) (ret := (some .int)) (by decide) rfl ?_
  intro p e s m args below meth c s₁ B hml hv
  obtain ⟨rfl, hv⟩ := hv
  have C0 : jCx p s m _ c cX11_footOfPrint 1 wsX11_footOfPrint RX11 b cy D tU n K r := ⟨B.exec, B.bytes, hml, findClass_of_methodNamed B.named, atoms_spec (ws := wsX11_footOfPrint) B.pre, hv.2.2, hG⟩
  have hr := B.returns
  have hlk := B.notSynchronized
  obtain ⟨hx, hb, hml, hown, hts, hst, hG⟩ := id C0
  have w := jDy.start hv
  have hl := lv_entry ([.int x0]) (n := 1) (Nat.le_of_ble_eq_true rfl)
  rw [lg_entry_eq]
  generalize (lg_sl ([.int x0]) ++ List.replicate (1 - (lg_sl ([.int x0])).length) Slot.unset).toArray = ls at hl ⊢
  replace hl : lv_has ls 1 [(0, .int x0)] := hl
  show W p l e rm_X11_footOfPrint s m _ below meth c s.heap [] 0 0 _ (F0 m 0 ls [])
  rw [J_X11_footOfPrint] at h
  refine lv_iload_n hx hb dX11_footOfPrint_0 rfl (lv_at hl 0 rfl) ?_
  refine lv_iconst (v := (1 : Int32)) hx hb dX11_footOfPrint_1 (by decide) ?_
  refine lv_iand hx hb dX11_footOfPrint_2 ?_
  exact jret_i hx hb hr hlk hst w h dX11_footOfPrint_3
end S_X11_footOfPrint
section S_X11_gateOfPrint
def J_X11_gateOfPrint (len : Nat → Nat) (r : jR) (Q : Int32 → jI → jL → Prop) (i : jI) (j : jL) (x0 : Int32) : Prop := Q (x0 >>> ((2 : Int32) &&& 31)) i j
abbrev rm_X11_gateOfPrint : Room := { frames := 0, cells := 0, slots := 0, locals := 0 }
variable {p : Program} {l : Launch} {e : Env} {s : State} {m : MethodId} {args : Array Value} {below : List Frame} {meth : Method} {c : Code} {b tU n : Nat} {cy : Nat → ClassId} {D : va_G} {K len : Nat → Nat} {r : jR} {Q : Int32 → jI → jL → Prop}
set_option maxHeartbeats 4000000 in
set_option maxRecDepth 100000 in
theorem c_X11_gateOfPrint (hG : jG n K r) {i : jI} {j : jL} {x0 : Int32} (h : J_X11_gateOfPrint len r Q i j x0) : Met l yX11_gateOfPrint wsX11_gateOfPrint rm_X11_gateOfPrint (va_Pc [.int x0] (jPre b cy D tU n K len r i j)) (jQi b cy D tU n K len r Q) 0 0 (jA b) := by
  refine Met.ofW (cc := cX11_gateOfPrint) (maxL := 1) (ret := (some .int)) (by decide) rfl ?_
  intro p e s m args below meth c s₁ B hml hv
  obtain ⟨rfl, hv⟩ := hv
  have C0 : jCx p s m _ c cX11_gateOfPrint 1 wsX11_gateOfPrint RX11 b cy D tU n K r := ⟨B.exec, B.bytes, hml, findClass_of_methodNamed B.named, atoms_spec (ws := wsX11_gateOfPrint) B.pre, hv.2.2, hG⟩
  have hr := B.returns
  have hlk := B.notSynchronized
  obtain ⟨hx, hb, hml, hown, hts, hst, hG⟩ := id C0
  have w := jDy.start hv
  have hl := lv_entry ([.int x0]) (n := 1) (Nat.le_of_ble_eq_true rfl)
  rw [lg_entry_eq]
  generalize (lg_sl ([.int x0]) ++ List.replicate (1 - (lg_sl ([.int x0])).length) Slot.unset).toArray = ls at hl ⊢
  replace hl : lv_has ls 1 [(0, .int x0)] := hl
  show W p l e rm_X11_gateOfPrint s m _ below meth c s.heap [] 0 0 _ (F0 m 0 ls [])
  rw [J_X11_gateOfPrint] at h
  refine lv_iload_n hx hb dX11_gateOfPrint_0 rfl (lv_at hl 0 rfl) ?_
  refine lv_iconst (v := (2 : Int32)) hx hb dX11_gateOfPrint_1 (by decide) ?_
  refine lv_ishr hx hb dX11_gateOfPrint_2 ?_
  exact jret_i hx hb hr hlk hst w h dX11_gateOfPrint_3
end S_X11_gateOfPrint
section S_X11_wayOfPrint
def J_X11_wayOfPrint (len : Nat → Nat) (r : jR) (Q : Int32 → jI → jL → Prop) (i : jI) (j : jL) (x0 : Int32) : Prop := Q ((x0 >>> ((1 : Int32) &&& 31)) &&& (1 : Int32)) i j
abbrev rm_X11_wayOfPrint : Room := { frames := 0, cells := 0, slots := 0, locals := 0 }
variable {p : Program} {l : Launch} {e : Env} {s : State} {m : MethodId} {args : Array Value} {below : List Frame} {meth : Method} {c : Code} {b tU n : Nat} {cy : Nat → ClassId} {D : va_G} {K len : Nat → Nat} {r : jR} {Q : Int32 → jI → jL → Prop}
set_option maxHeartbeats 4000000 in
set_option maxRecDepth 100000 in
theorem c_X11_wayOfPrint (hG : jG n K r) {i : jI} {j : jL} {x0 : Int32} (h : J_X11_wayOfPrint len r Q i j x0) : Met l yX11_wayOfPrint wsX11_wayOfPrint rm_X11_wayOfPrint (va_Pc [.int x0] (jPre b cy D tU n K len r i j)) (jQi b cy D tU n K len r Q) 0 0 (jA b) := by
  refine Met.ofW (cc := cX11_wayOfPrint) (maxL := 1) (ret := (some .int)) (by decide) rfl ?_
  intro p e s m args below meth c s₁ B hml hv
  obtain ⟨rfl, hv⟩ := hv
  have C0 : jCx p s m _ c cX11_wayOfPrint 1 wsX11_wayOfPrint RX11 b cy D tU n K r := ⟨B.exec, B.bytes, hml, findClass_of_methodNamed B.named, atoms_spec (ws := wsX11_wayOfPrint) B.pre, hv.2.2, hG⟩
  have hr := B.returns
  have hlk := B.notSynchronized
  obtain ⟨hx, hb, hml, hown, hts, hst, hG⟩ := id C0
  have w := jDy.start hv
  have hl := lv_entry ([.int x0]) (n := 1) (Nat.le_of_ble_eq_true rfl)
  rw [lg_entry_eq]
  generalize (lg_sl ([.int x0]) ++ List.replicate (1 - (lg_sl ([.int x0])).length) Slot.unset).toArray = ls at hl ⊢
  replace hl : lv_has ls 1 [(0, .int x0)] := hl
  show W p l e rm_X11_wayOfPrint s m _ below meth c s.heap [] 0 0 _ (F0 m 0 ls [])
  rw [J_X11_wayOfPrint] at h
  refine lv_iload_n hx hb dX11_wayOfPrint_0 rfl (lv_at hl 0 rfl) ?_
  refine lv_iconst (v := (1 : Int32)) hx hb dX11_wayOfPrint_1 (by decide) ?_
  refine lv_ishr hx hb dX11_wayOfPrint_2 ?_
  refine lv_iconst (v := (1 : Int32)) hx hb dX11_wayOfPrint_3 (by decide) ?_
  refine lv_iand hx hb dX11_wayOfPrint_4 ?_
  exact jret_i hx hb hr hlk hst w h dX11_wayOfPrint_5
end S_X11_wayOfPrint
section S_X11_couldLeavePrints
def J_X11_couldLeavePrints_L102 (len : Nat → Nat) (r : jR) (Q : Int32 → jI → jL → Prop) (Hd40 : jI → jL → Nat → Int32 → Int32 → Prop) (i : jI) (j : jL) (x0 : Nat) (x2 : Int32) (x3 : Int32) (x4 : Int32) (t0 : Int32) : Prop := ∃ a105, r x0 4 = some a105 ∧ (vp_in x3 (len a105) ∧ (J_X11_footOfPrint len r (fun (q110 : Int32) (i110 : jI) (j110 : jL) => ∃ a114, r x0 9 = some a114 ∧ (∃ a117, r a114 1 = some a117 ∧ (vp_in x4 (len a117) ∧ (∀ v124 : Int32, v124 = q110 ^^^ (i110 a117 x4.toNatClampNeg) → (∃ a127, r x0 12 = some a127 ∧ (∃ a131, r x0 1 = some a131 ∧ (J_X6_spread len r (fun (i136 : jI) (j136 : jL) => ∃ a140, r x0 12 = some a140 ∧ (J_X6_hasStand len r (fun (q147 : Int32) (i147 : jI) (j147 : jL) => ((¬ q147 = 0) → (∃ a156, r x0 1 = some a156 ∧ (J_X7_marksOf len r (fun (q164 : Int32) (i164 : jI) (j164 : jL) => J_X7_of len r (fun (q167 : Int32) (i167 : jI) (j167 : jL) => ∃ a173, r x0 9 = some a173 ∧ (∃ a176, r a173 1 = some a176 ∧ (vp_in x4 (len a176) ∧ (J_X8_behind len r (fun (q182 : Int32) (i182 : jI) (j182 : jL) => ((¬ q182 = (-1 : Int32)) → (∀ v193 : Int32, v193 = x3 + (1 : Int32) → (Hd40 i182 j182 x0 q182 v193))) ∧ ((q182 = (-1 : Int32)) → (Q (0 : Int32) i182 j182))) i167 j167 a156 q167 x4 (i167 a176 x4.toNatClampNeg))))) i164 j164 t0 v124 q164) i147 j147 x2))) ∧ ((q147 = 0) → (Q (0 : Int32) i147 j147))) i136 j136 a140 t0 v124)) i110 j110 a127 a131 x2 (0 : Int32)))))))) i j (i a105 x3.toNatClampNeg)))
def J_X11_couldLeavePrints_L40 (len : Nat → Nat) (r : jR) (Q : Int32 → jI → jL → Prop) : Nat → jI → jL → Nat → Int32 → Int32 → Prop
  | 0 => fun _ _ _ _ _ => False
  | g + 1 => fun i j x0 x2 x3 => (((i x0 5) ≤ x3) → (Q (1 : Int32) i j)) ∧ ((¬ (i x0 5) ≤ x3) → (∃ a49, r x0 1 = some a49 ∧ (∃ a52, r a49 7 = some a52 ∧ (∃ a56, r x0 4 = some a56 ∧ (vp_in x3 (len a56) ∧ (J_X11_gateOfPrint len r (fun (q61 : Int32) (i61 : jI) (j61 : jL) => vp_in q61 (len a52) ∧ (∀ v65 : Int32, v65 = i61 a52 q61.toNatClampNeg → (∃ a68, r x0 4 = some a68 ∧ (vp_in x3 (len a68) ∧ (J_X11_wayOfPrint len r (fun (q73 : Int32) (i73 : jI) (j73 : jL) => ((¬ q73 = 0) → (∃ a93, r x0 1 = some a93 ∧ (∃ a96, r a93 4 = some a96 ∧ (vp_in v65 (len a96) ∧ (J_X11_couldLeavePrints_L102 len r Q (J_X11_couldLeavePrints_L40 len r Q g) i73 j73 x0 x2 x3 v65 (i73 a96 v65.toNatClampNeg)))))) ∧ ((q73 = 0) → (∃ a80, r x0 1 = some a80 ∧ (∃ a83, r a80 3 = some a83 ∧ (vp_in v65 (len a83) ∧ (J_X11_couldLeavePrints_L102 len r Q (J_X11_couldLeavePrints_L40 len r Q g) i73 j73 x0 x2 x3 v65 (i73 a83 v65.toNatClampNeg))))))) i61 j61 (i61 a68 x3.toNatClampNeg)))))) i j (i a56 x3.toNatClampNeg)))))))
def J_X11_couldLeavePrints (len : Nat → Nat) (r : jR) (Q : Int32 → jI → jL → Prop) (i : jI) (j : jL) (x0 : Nat) (x1 : Nat) : Prop := ∃ a1, r x0 9 = some a1 ∧ (∃ a9, r x0 1 = some a9 ∧ (J_X2_take len r (fun (i12 : jI) (j12 : jL) => ∃ a16, r x0 12 = some a16 ∧ (∃ a20, r x0 9 = some a20 ∧ (∃ a24, r x0 1 = some a24 ∧ (J_X6_take len r (fun (i30 : jI) (j30 : jL) => ∀ v37 : Int32, v37 = i30 x1 1 → (∃ g0, J_X11_couldLeavePrints_L40 len r Q g0 i30 j30 x0 v37 (0 : Int32))) i12 j12 a16 a20 (i12 a24 0))))) i j a1 (i x1 0) a9))
abbrev rm_X11_couldLeavePrints : Room := { frames := 4, cells := 0, slots := 0, locals := 88 }
variable {p : Program} {l : Launch} {e : Env} {s : State} {m : MethodId} {args : Array Value} {below : List Frame} {meth : Method} {c : Code} {b tU n : Nat} {cy : Nat → ClassId} {D : va_G} {K len : Nat → Nat} {r : jR} {Q : Int32 → jI → jL → Prop}
theorem hiX11_X11_couldLeavePrints : ∀ w ∈ u_ws RX11 TX11 15, w ∈ wsX11_couldLeavePrints := by decide +kernel
theorem hiX2_X11_couldLeavePrints : ∀ w ∈ u_ws RX2 TX2 2, w ∈ wsX11_couldLeavePrints := by decide +kernel
theorem hiX8_X11_couldLeavePrints : ∀ w ∈ u_ws RX8 TX8 8, w ∈ wsX11_couldLeavePrints := by decide +kernel
theorem hiX9_X11_couldLeavePrints : ∀ w ∈ u_ws RX9 TX9 3, w ∈ wsX11_couldLeavePrints := by decide +kernel
set_option maxHeartbeats 4000000 in
set_option maxRecDepth 100000 in
theorem w_X11_couldLeavePrints_L102 (C0 : jCx p s m args c cX11_couldLeavePrints 7 wsX11_couldLeavePrints RX11 b cy D tU n K r) (hr : meth.sig.returnType = some .boolean) (hlk : meth.locks = false) {Hd40 : jI → jL → Nat → Int32 → Int32 → Prop} (k40 : ∀ {H : Heap} {locs : List Loc} {ls : Array Slot} {i : jI} {j : jL} {x0 : Nat} {x2 : Int32} {x3 : Int32} (w : jDy b cy D n K len r i j s H locs) (hx0 : x0 < n ∧ K x0 = 10) (hl : lv_has ls 7 [(0, .ref (b + x0)), (2, .int x2), (3, .int x3)]) (h : Hd40 i j x0 x2 x3), W p l e rm_X11_couldLeavePrints s m args below meth c H locs 0 0 (MQ below (jQi b cy D tU n K len r Q) args s 0 0 (jA b)) (F0 m 40 ls [])) {H : Heap} {locs : List Loc} {ls : Array Slot} {i : jI} {j : jL} {x0 : Nat} {x2 : Int32} {x3 : Int32} {x4 : Int32} {t0 : Int32} (w : jDy b cy D n K len r i j s H locs) (hx0 : x0 < n ∧ K x0 = 10) (hl : lv_has ls 7 [(0, .ref (b + x0)), (2, .int x2), (3, .int x3), (4, .int x4)]) (h : J_X11_couldLeavePrints_L102 len r Q Hd40 i j x0 x2 x3 x4 t0) : W p l e rm_X11_couldLeavePrints s m args below meth c H locs 0 0 (MQ below (jQi b cy D tU n K len r Q) args s 0 0 (jA b)) (F0 m 102 ls [.int t0]) := by
  obtain ⟨hx, hb, hml, hown, hts, hst, hG⟩ := id C0
  have hiX11 : ∀ w ∈ u_ws RX11 TX11 15, w ∈ wsX11_couldLeavePrints := hiX11_X11_couldLeavePrints
  have hiX2 : ∀ w ∈ u_ws RX2 TX2 2, w ∈ wsX11_couldLeavePrints := hiX2_X11_couldLeavePrints
  have hiX8 : ∀ w ∈ u_ws RX8 TX8 8, w ∈ wsX11_couldLeavePrints := hiX8_X11_couldLeavePrints
  have hiX9 : ∀ w ∈ u_ws RX9 TX9 3, w ∈ wsX11_couldLeavePrints := hiX9_X11_couldLeavePrints
  rw [J_X11_couldLeavePrints_L102] at h
  refine lv_istore (lv' := [(5, .int t0), (0, .ref (b + x0)), (2, .int x2), (3, .int x3), (4, .int x4)]) hx hb dX11_couldLeavePrints_102 hl (by decide) rfl (fun ls hl => ?_)
  refine lv_aload_n hx hb dX11_couldLeavePrints_104 rfl (lv_at hl 1 rfl) ?_
  obtain ⟨a105, hr0, h⟩ := h
  refine jgr (f := 4) hx hb hts hown hst w hG hx0 hiX11 (rfl : vwCl[10]? = some (RX11, TX11, 15)) (hts (.fieldLink RX11 29 "FootByGate" "prints" "[I") (by decide +kernel)) ⟨by decide, by decide, rfl⟩ (rfl : jrt 10 4 = 13) dX11_couldLeavePrints_105 hr0 (fun ha105 => ?_)
  clear hr0
  refine lv_iload_n hx hb dX11_couldLeavePrints_108 rfl (lv_at hl 3 rfl) ?_
  obtain ⟨hn, h⟩ := h
  refine jaid hx hb hst w ha105 hn dX11_couldLeavePrints_109 ?_
  clear hn
  refine jcS_i (As := [.int (i a105 x3.toNatClampNeg)]) (rest := []) C0 w (c_X11_footOfPrint hG h) (va_cwS 1 hts gX11_couldLeavePrints_X11_footOfPrint rfl rfl rfl (by decide +kernel) ⟨Nat.le_of_ble_eq_true rfl, Nat.le_of_ble_eq_true rfl⟩) rfl hl.1 rfl (Nat.le_of_ble_eq_true rfl) dX11_couldLeavePrints_110 (fun q110 i110 j110 H locs h w => ?_) ⟨Nat.zero_le _, Nat.zero_le _⟩
  refine lv_aload_n hx hb dX11_couldLeavePrints_113 rfl (lv_at hl 1 rfl) ?_
  obtain ⟨a114, hr0, h⟩ := h
  refine jgr (f := 9) hx hb hts hown hst w hG hx0 hiX11 (rfl : vwCl[10]? = some (RX11, TX11, 15)) (hts (.fieldLink RX11 43 "FootByGate" "gait" "LFootByGate$Gait;") (by decide +kernel)) ⟨by decide, by decide, rfl⟩ (rfl : jrt 10 9 = 2) dX11_couldLeavePrints_114 hr0 (fun ha114 => ?_)
  clear hr0
  obtain ⟨a117, hr0, h⟩ := h
  refine jgr (f := 1) hx hb hts hown hst w hG ha114 hiX2 (rfl : vwCl[2]? = some (RX2, TX2, 2)) (hts (.fieldLink RX11 329 "FootByGate$Gait" "turn" "[I") (by decide +kernel)) ⟨by decide, by decide, rfl⟩ (rfl : jrt 2 1 = 13) dX11_couldLeavePrints_117 hr0 (fun ha117 => ?_)
  clear hr0
  refine lv_iload hx hb dX11_couldLeavePrints_120 (lv_at hl 4 rfl) ?_
  obtain ⟨hn, h⟩ := h
  refine jaid hx hb hst w ha117 hn dX11_couldLeavePrints_122 ?_
  clear hn
  refine lv_ixor hx hb dX11_couldLeavePrints_123 ?_
  refine lv_topi (fun v124 he => ?_)
  replace h := h v124 he
  clear he
  refine lv_istore (lv' := [(6, .int v124), (5, .int t0), (0, .ref (b + x0)), (2, .int x2), (3, .int x3), (4, .int x4)]) hx hb dX11_couldLeavePrints_124 hl (by decide) rfl (fun ls hl => ?_)
  refine lv_aload_n hx hb dX11_couldLeavePrints_126 rfl (lv_at hl 2 rfl) ?_
  obtain ⟨a127, hr0, h⟩ := h
  refine jgr (f := 12) hx hb hts hown hst w hG hx0 hiX11 (rfl : vwCl[10]? = some (RX11, TX11, 15)) (hts (.fieldLink RX11 60 "FootByGate" "reach" "LFootByGate$Reach;") (by decide +kernel)) ⟨by decide, by decide, rfl⟩ (rfl : jrt 10 12 = 6) dX11_couldLeavePrints_127 hr0 (fun ha127 => ?_)
  clear hr0
  refine lv_aload_n hx hb dX11_couldLeavePrints_130 rfl (lv_at hl 2 rfl) ?_
  obtain ⟨a131, hr0, h⟩ := h
  refine jgr (f := 1) hx hb hts hown hst w hG hx0 hiX11 (rfl : vwCl[10]? = some (RX11, TX11, 15)) (hts (.fieldLink RX11 19 "FootByGate" "map" "LFootByGate$Town;") (by decide +kernel)) ⟨by decide, by decide, rfl⟩ (rfl : jrt 10 1 = 7) dX11_couldLeavePrints_131 hr0 (fun ha131 => ?_)
  clear hr0
  refine lv_iload_n hx hb dX11_couldLeavePrints_134 rfl (lv_at hl 3 rfl) ?_
  refine lv_iconst (v := (0 : Int32)) hx hb dX11_couldLeavePrints_135 (by decide) ?_
  refine jcV_v (k := a127) (As := [.ref (b + a131), .int x2, .int (0 : Int32)]) (rest := []) C0 w (c_X6_spread hG ha127 ha131 h) (cwV 3 hts gX11_couldLeavePrints_X6_spread rfl rfl rfl (by decide +kernel) ⟨Nat.le_of_ble_eq_true rfl, Nat.le_of_ble_eq_true rfl⟩) ha127 (rfl : vwCl[6]? = some (RX6, TX6, 2)) (by decide) rfl hl.1 rfl (Nat.le_of_ble_eq_true rfl) dX11_couldLeavePrints_136 (fun i136 j136 H locs h w => ?_) ⟨Nat.zero_le _, Nat.zero_le _⟩
  refine lv_aload_n hx hb dX11_couldLeavePrints_139 rfl (lv_at hl 2 rfl) ?_
  obtain ⟨a140, hr0, h⟩ := h
  refine jgr (f := 12) hx hb hts hown hst w hG hx0 hiX11 (rfl : vwCl[10]? = some (RX11, TX11, 15)) (hts (.fieldLink RX11 60 "FootByGate" "reach" "LFootByGate$Reach;") (by decide +kernel)) ⟨by decide, by decide, rfl⟩ (rfl : jrt 10 12 = 6) dX11_couldLeavePrints_140 hr0 (fun ha140 => ?_)
  clear hr0
  refine lv_iload hx hb dX11_couldLeavePrints_143 (lv_at hl 1 rfl) ?_
  refine lv_iload hx hb dX11_couldLeavePrints_145 (lv_at hl 0 rfl) ?_
  refine jcV_i (k := a140) (As := [.int t0, .int v124]) (rest := []) C0 w (c_X6_hasStand hG ha140 h) (cwV 2 hts gX11_couldLeavePrints_X6_hasStand rfl rfl rfl (by decide +kernel) ⟨Nat.le_of_ble_eq_true rfl, Nat.le_of_ble_eq_true rfl⟩) ha140 (rfl : vwCl[6]? = some (RX6, TX6, 2)) (by decide) rfl hl.1 rfl (Nat.le_of_ble_eq_true rfl) dX11_couldLeavePrints_147 (fun q147 i147 j147 H locs h w => ?_) ⟨Nat.zero_le _, Nat.zero_le _⟩
  refine lv_if_ne (tgt := 155) hx hb dX11_couldLeavePrints_150 (by decide) (fun hc => ?_) (fun hc => ?_)
  · replace h := h.1 hc
    clear hc
    refine lv_aload_n hx hb dX11_couldLeavePrints_155 rfl (lv_at hl 2 rfl) ?_
    obtain ⟨a156, hr0, h⟩ := h
    refine jgr (f := 1) hx hb hts hown hst w hG hx0 hiX11 (rfl : vwCl[10]? = some (RX11, TX11, 15)) (hts (.fieldLink RX11 19 "FootByGate" "map" "LFootByGate$Town;") (by decide +kernel)) ⟨by decide, by decide, rfl⟩ (rfl : jrt 10 1 = 7) dX11_couldLeavePrints_156 hr0 (fun ha156 => ?_)
    clear hr0
    refine lv_iload hx hb dX11_couldLeavePrints_159 (lv_at hl 1 rfl) ?_
    refine lv_iload hx hb dX11_couldLeavePrints_161 (lv_at hl 0 rfl) ?_
    refine lv_iload_n hx hb dX11_couldLeavePrints_163 rfl (lv_at hl 3 rfl) ?_
    refine jcS_i (As := [.int x2]) (rest := [.int v124, .int t0, .ref (b + a156)]) C0 w (c_X7_marksOf hG h) (va_cwS 1 hts gX11_couldLeavePrints_X7_marksOf rfl rfl rfl (by decide +kernel) ⟨Nat.le_of_ble_eq_true rfl, Nat.le_of_ble_eq_true rfl⟩) rfl hl.1 rfl (Nat.le_of_ble_eq_true rfl) dX11_couldLeavePrints_164 (fun q164 i164 j164 H locs h w => ?_) ⟨Nat.zero_le _, Nat.zero_le _⟩
    refine jcS_i (As := [.int t0, .int v124, .int q164]) (rest := [.ref (b + a156)]) C0 w (c_X7_of hG h) (va_cwS 3 hts gX11_couldLeavePrints_X7_of rfl rfl rfl (by decide +kernel) ⟨Nat.le_of_ble_eq_true rfl, Nat.le_of_ble_eq_true rfl⟩) rfl hl.1 rfl (Nat.le_of_ble_eq_true rfl) dX11_couldLeavePrints_167 (fun q167 i167 j167 H locs h w => ?_) ⟨Nat.zero_le _, Nat.zero_le _⟩
    refine lv_iload hx hb dX11_couldLeavePrints_170 (lv_at hl 5 rfl) ?_
    refine lv_aload_n hx hb dX11_couldLeavePrints_172 rfl (lv_at hl 2 rfl) ?_
    obtain ⟨a173, hr0, h⟩ := h
    refine jgr (f := 9) hx hb hts hown hst w hG hx0 hiX11 (rfl : vwCl[10]? = some (RX11, TX11, 15)) (hts (.fieldLink RX11 43 "FootByGate" "gait" "LFootByGate$Gait;") (by decide +kernel)) ⟨by decide, by decide, rfl⟩ (rfl : jrt 10 9 = 2) dX11_couldLeavePrints_173 hr0 (fun ha173 => ?_)
    clear hr0
    obtain ⟨a176, hr0, h⟩ := h
    refine jgr (f := 1) hx hb hts hown hst w hG ha173 hiX2 (rfl : vwCl[2]? = some (RX2, TX2, 2)) (hts (.fieldLink RX11 329 "FootByGate$Gait" "turn" "[I") (by decide +kernel)) ⟨by decide, by decide, rfl⟩ (rfl : jrt 2 1 = 13) dX11_couldLeavePrints_176 hr0 (fun ha176 => ?_)
    clear hr0
    refine lv_iload hx hb dX11_couldLeavePrints_179 (lv_at hl 5 rfl) ?_
    obtain ⟨hn, h⟩ := h
    refine jaid hx hb hst w ha176 hn dX11_couldLeavePrints_181 ?_
    clear hn
    refine jcV_i (k := a156) (As := [.int q167, .int x4, .int (i167 a176 x4.toNatClampNeg)]) (rest := []) C0 w (c_X8_behind hG ha156 h) (cwV 3 hts gX11_couldLeavePrints_X8_behind rfl rfl rfl (by decide +kernel) ⟨Nat.le_of_ble_eq_true rfl, Nat.le_of_ble_eq_true rfl⟩) ha156 (rfl : vwCl[7]? = some (RX8, TX8, 8)) (by decide) rfl hl.1 rfl (Nat.le_of_ble_eq_true rfl) dX11_couldLeavePrints_182 (fun q182 i182 j182 H locs h w => ?_) ⟨Nat.zero_le _, Nat.zero_le _⟩
    refine lv_istore_n (lv' := [(2, .int q182), (6, .int v124), (5, .int t0), (0, .ref (b + x0)), (3, .int x3), (4, .int x4)]) hx hb dX11_couldLeavePrints_185 rfl hl (by decide) rfl (fun ls hl => ?_)
    refine lv_iload_n hx hb dX11_couldLeavePrints_186 rfl (lv_at hl 0 rfl) ?_
    refine lv_iconst (v := (-1 : Int32)) hx hb dX11_couldLeavePrints_187 (by decide) ?_
    refine lv_icmp_ne (tgt := 193) hx hb dX11_couldLeavePrints_188 (by decide) (fun hc => ?_) (fun hc => ?_)
    · replace h := h.1 hc
      clear hc
      obtain ⟨v193, he⟩ : ∃ z : Int32, z = x3 + (1 : Int32) := ⟨_, rfl⟩
      replace h := h v193 he
      refine lv_iinc (v := v193) (lv' := [(3, .int v193), (2, .int q182), (6, .int v124), (5, .int t0), (0, .ref (b + x0)), (4, .int x4)]) hx hb dX11_couldLeavePrints_193 hl (k := 4) rfl (by rw [he]; rfl) (by decide) rfl (fun ls hl => ?_)
      clear he
      refine lv_goto (tgt := 40) hx hb dX11_couldLeavePrints_196 (by decide) ?_
      exact k40 w hx0 (lv_sub hl [4, 1, 0] rfl) h
    · replace h := h.2 hc
      clear hc
      refine lv_iconst (v := (0 : Int32)) hx hb dX11_couldLeavePrints_191 (by decide) ?_
      exact jret_z hx hb hr hlk hst w (by decide) h dX11_couldLeavePrints_192
  · replace h := h.2 hc
    clear hc
    refine lv_iconst (v := (0 : Int32)) hx hb dX11_couldLeavePrints_153 (by decide) ?_
    exact jret_z hx hb hr hlk hst w (by decide) h dX11_couldLeavePrints_154
set_option maxHeartbeats 4000000 in
set_option maxRecDepth 100000 in
theorem w_X11_couldLeavePrints_L40 (C0 : jCx p s m args c cX11_couldLeavePrints 7 wsX11_couldLeavePrints RX11 b cy D tU n K r) (hr : meth.sig.returnType = some .boolean) (hlk : meth.locks = false) : ∀ (g : Nat) {H : Heap} {locs : List Loc} {ls : Array Slot} {i : jI} {j : jL} {x0 : Nat} {x2 : Int32} {x3 : Int32} (w : jDy b cy D n K len r i j s H locs) (hx0 : x0 < n ∧ K x0 = 10) (hl : lv_has ls 7 [(0, .ref (b + x0)), (2, .int x2), (3, .int x3)]) (h : J_X11_couldLeavePrints_L40 len r Q g i j x0 x2 x3), W p l e rm_X11_couldLeavePrints s m args below meth c H locs 0 0 (MQ below (jQi b cy D tU n K len r Q) args s 0 0 (jA b)) (F0 m 40 ls []) := by
  obtain ⟨hx, hb, hml, hown, hts, hst, hG⟩ := id C0
  have hiX11 : ∀ w ∈ u_ws RX11 TX11 15, w ∈ wsX11_couldLeavePrints := hiX11_X11_couldLeavePrints
  have hiX2 : ∀ w ∈ u_ws RX2 TX2 2, w ∈ wsX11_couldLeavePrints := hiX2_X11_couldLeavePrints
  have hiX8 : ∀ w ∈ u_ws RX8 TX8 8, w ∈ wsX11_couldLeavePrints := hiX8_X11_couldLeavePrints
  have hiX9 : ∀ w ∈ u_ws RX9 TX9 3, w ∈ wsX11_couldLeavePrints := hiX9_X11_couldLeavePrints
  intro g
  induction g with
  | zero => intro H locs ls i j x0 x2 x3 w hx0 hl h; exact False.elim h
  | succ g ih =>
    intro H locs ls i j x0 x2 x3 w hx0 hl h
    rw [J_X11_couldLeavePrints_L40] at h
    refine lv_iload_n hx hb dX11_couldLeavePrints_40 rfl (lv_at hl 2 rfl) ?_
    refine lv_aload_n hx hb dX11_couldLeavePrints_41 rfl (lv_at hl 0 rfl) ?_
    refine jgi (f := 5) hx hb hts hown hst w hx0 hiX11 (rfl : vwCl[10]? = some (RX11, TX11, 15)) (hts (.fieldLink RX11 99 "FootByGate" "printCount" "I") (by decide +kernel)) ⟨by decide, by decide, rfl⟩ dX11_couldLeavePrints_42 ?_
    refine lv_icmp_ge (tgt := 199) hx hb dX11_couldLeavePrints_45 (by decide) (fun hc => ?_) (fun hc => ?_)
    · replace h := h.1 hc
      clear hc
      refine lv_iconst (v := (1 : Int32)) hx hb dX11_couldLeavePrints_199 (by decide) ?_
      exact jret_z hx hb hr hlk hst w (by decide) h dX11_couldLeavePrints_200
    · replace h := h.2 hc
      clear hc
      refine lv_aload_n hx hb dX11_couldLeavePrints_48 rfl (lv_at hl 0 rfl) ?_
      obtain ⟨a49, hr0, h⟩ := h
      refine jgr (f := 1) hx hb hts hown hst w hG hx0 hiX11 (rfl : vwCl[10]? = some (RX11, TX11, 15)) (hts (.fieldLink RX11 19 "FootByGate" "map" "LFootByGate$Town;") (by decide +kernel)) ⟨by decide, by decide, rfl⟩ (rfl : jrt 10 1 = 7) dX11_couldLeavePrints_49 hr0 (fun ha49 => ?_)
      clear hr0
      obtain ⟨a52, hr0, h⟩ := h
      refine jgr (f := 7) hx hb hts hown hst w hG ha49 hiX8 (rfl : vwCl[7]? = some (RX8, TX8, 8)) (hts (.fieldLink RX11 376 "FootByGate$Town" "streetOf" "[I") (by decide +kernel)) ⟨by decide, by decide, rfl⟩ (rfl : jrt 7 7 = 13) dX11_couldLeavePrints_52 hr0 (fun ha52 => ?_)
      clear hr0
      refine lv_aload_n hx hb dX11_couldLeavePrints_55 rfl (lv_at hl 0 rfl) ?_
      obtain ⟨a56, hr0, h⟩ := h
      refine jgr (f := 4) hx hb hts hown hst w hG hx0 hiX11 (rfl : vwCl[10]? = some (RX11, TX11, 15)) (hts (.fieldLink RX11 29 "FootByGate" "prints" "[I") (by decide +kernel)) ⟨by decide, by decide, rfl⟩ (rfl : jrt 10 4 = 13) dX11_couldLeavePrints_56 hr0 (fun ha56 => ?_)
      clear hr0
      refine lv_iload_n hx hb dX11_couldLeavePrints_59 rfl (lv_at hl 2 rfl) ?_
      obtain ⟨hn, h⟩ := h
      refine jaid hx hb hst w ha56 hn dX11_couldLeavePrints_60 ?_
      clear hn
      refine jcS_i (As := [.int (i a56 x3.toNatClampNeg)]) (rest := [.ref (b + a52)]) C0 w (c_X11_gateOfPrint hG h) (va_cwS 1 hts gX11_couldLeavePrints_X11_gateOfPrint rfl rfl rfl (by decide +kernel) ⟨Nat.le_of_ble_eq_true rfl, Nat.le_of_ble_eq_true rfl⟩) rfl hl.1 rfl (Nat.le_of_ble_eq_true rfl) dX11_couldLeavePrints_61 (fun q61 i61 j61 H locs h w => ?_) ⟨Nat.zero_le _, Nat.zero_le _⟩
      obtain ⟨hn, h⟩ := h
      refine jaid hx hb hst w ha52 hn dX11_couldLeavePrints_64 ?_
      clear hn
      refine lv_topi (fun v65 he => ?_)
      replace h := h v65 he
      clear he
      refine lv_istore (lv' := [(4, .int v65), (0, .ref (b + x0)), (2, .int x2), (3, .int x3)]) hx hb dX11_couldLeavePrints_65 hl (by decide) rfl (fun ls hl => ?_)
      refine lv_aload_n hx hb dX11_couldLeavePrints_67 rfl (lv_at hl 1 rfl) ?_
      obtain ⟨a68, hr0, h⟩ := h
      refine jgr (f := 4) hx hb hts hown hst w hG hx0 hiX11 (rfl : vwCl[10]? = some (RX11, TX11, 15)) (hts (.fieldLink RX11 29 "FootByGate" "prints" "[I") (by decide +kernel)) ⟨by decide, by decide, rfl⟩ (rfl : jrt 10 4 = 13) dX11_couldLeavePrints_68 hr0 (fun ha68 => ?_)
      clear hr0
      refine lv_iload_n hx hb dX11_couldLeavePrints_71 rfl (lv_at hl 3 rfl) ?_
      obtain ⟨hn, h⟩ := h
      refine jaid hx hb hst w ha68 hn dX11_couldLeavePrints_72 ?_
      clear hn
      refine jcS_i (As := [.int (i61 a68 x3.toNatClampNeg)]) (rest := []) C0 w (c_X11_wayOfPrint hG h) (va_cwS 1 hts gX11_couldLeavePrints_X11_wayOfPrint rfl rfl rfl (by decide +kernel) ⟨Nat.le_of_ble_eq_true rfl, Nat.le_of_ble_eq_true rfl⟩) rfl hl.1 rfl (Nat.le_of_ble_eq_true rfl) dX11_couldLeavePrints_73 (fun q73 i73 j73 H locs h w => ?_) ⟨Nat.zero_le _, Nat.zero_le _⟩
      refine lv_if_ne (tgt := 92) hx hb dX11_couldLeavePrints_76 (by decide) (fun hc => ?_) (fun hc => ?_)
      · replace h := h.1 hc
        clear hc
        refine lv_aload_n hx hb dX11_couldLeavePrints_92 rfl (lv_at hl 1 rfl) ?_
        obtain ⟨a93, hr0, h⟩ := h
        refine jgr (f := 1) hx hb hts hown hst w hG hx0 hiX11 (rfl : vwCl[10]? = some (RX11, TX11, 15)) (hts (.fieldLink RX11 19 "FootByGate" "map" "LFootByGate$Town;") (by decide +kernel)) ⟨by decide, by decide, rfl⟩ (rfl : jrt 10 1 = 7) dX11_couldLeavePrints_93 hr0 (fun ha93 => ?_)
        clear hr0
        obtain ⟨a96, hr0, h⟩ := h
        refine jgr (f := 4) hx hb hts hown hst w hG ha93 hiX8 (rfl : vwCl[7]? = some (RX8, TX8, 8)) (hts (.fieldLink RX11 115 "FootByGate$Town" "second" "[I") (by decide +kernel)) ⟨by decide, by decide, rfl⟩ (rfl : jrt 7 4 = 13) dX11_couldLeavePrints_96 hr0 (fun ha96 => ?_)
        clear hr0
        refine lv_iload hx hb dX11_couldLeavePrints_99 (lv_at hl 0 rfl) ?_
        obtain ⟨hn, h⟩ := h
        refine jaid hx hb hst w ha96 hn dX11_couldLeavePrints_101 ?_
        clear hn
        exact w_X11_couldLeavePrints_L102 C0 hr hlk (fun w hx0 hl h => ih w hx0 hl h) w hx0 (lv_sub hl [1, 2, 3, 0] rfl) h
      · replace h := h.2 hc
        clear hc
        refine lv_aload_n hx hb dX11_couldLeavePrints_79 rfl (lv_at hl 1 rfl) ?_
        obtain ⟨a80, hr0, h⟩ := h
        refine jgr (f := 1) hx hb hts hown hst w hG hx0 hiX11 (rfl : vwCl[10]? = some (RX11, TX11, 15)) (hts (.fieldLink RX11 19 "FootByGate" "map" "LFootByGate$Town;") (by decide +kernel)) ⟨by decide, by decide, rfl⟩ (rfl : jrt 10 1 = 7) dX11_couldLeavePrints_80 hr0 (fun ha80 => ?_)
        clear hr0
        obtain ⟨a83, hr0, h⟩ := h
        refine jgr (f := 3) hx hb hts hown hst w hG ha80 hiX8 (rfl : vwCl[7]? = some (RX8, TX8, 8)) (hts (.fieldLink RX11 112 "FootByGate$Town" "first" "[I") (by decide +kernel)) ⟨by decide, by decide, rfl⟩ (rfl : jrt 7 3 = 13) dX11_couldLeavePrints_83 hr0 (fun ha83 => ?_)
        clear hr0
        refine lv_iload hx hb dX11_couldLeavePrints_86 (lv_at hl 0 rfl) ?_
        obtain ⟨hn, h⟩ := h
        refine jaid hx hb hst w ha83 hn dX11_couldLeavePrints_88 ?_
        clear hn
        refine lv_goto (tgt := 102) hx hb dX11_couldLeavePrints_89 (by decide) ?_
        exact w_X11_couldLeavePrints_L102 C0 hr hlk (fun w hx0 hl h => ih w hx0 hl h) w hx0 (lv_sub hl [1, 2, 3, 0] rfl) h
set_option maxHeartbeats 4000000 in
set_option maxRecDepth 100000 in
theorem c_X11_couldLeavePrints (hG : jG n K r) {i : jI} {j : jL} {x0 : Nat} {x1 : Nat} (hx0 : x0 < n ∧ K x0 = 10) (hx1 : x1 < n ∧ K x1 = 8) (h : J_X11_couldLeavePrints len r Q i j x0 x1) : Met l yX11_couldLeavePrints wsX11_couldLeavePrints rm_X11_couldLeavePrints (va_Pc [.ref (b + x0), .ref (b + x1)] (jPre b cy D tU n K len r i j)) (jQi b cy D tU n K len r Q) 0 0 (jA b) := by
  refine Met.ofW (cc := cX11_couldLeavePrints) (maxL := 7) (ret := (some .boolean)) (by decide) rfl ?_
  intro p e s m args below meth c s₁ B hml hv
  obtain ⟨rfl, hv⟩ := hv
  have C0 : jCx p s m _ c cX11_couldLeavePrints 7 wsX11_couldLeavePrints RX11 b cy D tU n K r := ⟨B.exec, B.bytes, hml, findClass_of_methodNamed B.named, atoms_spec (ws := wsX11_couldLeavePrints) B.pre, hv.2.2, hG⟩
  have hr := B.returns
  have hlk := B.notSynchronized
  obtain ⟨hx, hb, hml, hown, hts, hst, hG⟩ := id C0
  have hiX11 : ∀ w ∈ u_ws RX11 TX11 15, w ∈ wsX11_couldLeavePrints := hiX11_X11_couldLeavePrints
  have hiX2 : ∀ w ∈ u_ws RX2 TX2 2, w ∈ wsX11_couldLeavePrints := hiX2_X11_couldLeavePrints
  have hiX8 : ∀ w ∈ u_ws RX8 TX8 8, w ∈ wsX11_couldLeavePrints := hiX8_X11_couldLeavePrints
  have hiX9 : ∀ w ∈ u_ws RX9 TX9 3, w ∈ wsX11_couldLeavePrints := hiX9_X11_couldLeavePrints
  have w := jDy.start hv
  have hl := lv_entry ([.ref (b + x0), .ref (b + x1)]) (n := 7) (Nat.le_of_ble_eq_true rfl)
  rw [lg_entry_eq]
  generalize (lg_sl ([.ref (b + x0), .ref (b + x1)]) ++ List.replicate (7 - (lg_sl ([.ref (b + x0), .ref (b + x1)])).length) Slot.unset).toArray = ls at hl ⊢
  replace hl : lv_has ls 7 [(0, .ref (b + x0)), (1, .ref (b + x1))] := hl
  show W p l e rm_X11_couldLeavePrints s m _ below meth c s.heap [] 0 0 _ (F0 m 0 ls [])
  rw [J_X11_couldLeavePrints] at h
  refine lv_aload_n hx hb dX11_couldLeavePrints_0 rfl (lv_at hl 0 rfl) ?_
  obtain ⟨a1, hr0, h⟩ := h
  refine jgr (f := 9) hx hb hts hown hst w hG hx0 hiX11 (rfl : vwCl[10]? = some (RX11, TX11, 15)) (hts (.fieldLink RX11 43 "FootByGate" "gait" "LFootByGate$Gait;") (by decide +kernel)) ⟨by decide, by decide, rfl⟩ (rfl : jrt 10 9 = 2) dX11_couldLeavePrints_1 hr0 (fun ha1 => ?_)
  clear hr0
  refine lv_aload_n hx hb dX11_couldLeavePrints_4 rfl (lv_at hl 1 rfl) ?_
  refine jgi (f := 0) hx hb hts hown hst w hx1 hiX9 (rfl : vwCl[8]? = some (RX9, TX9, 3)) (hts (.fieldLink RX11 137 "FootByGate$Walker" "kind" "I") (by decide +kernel)) ⟨by decide, by decide, rfl⟩ dX11_couldLeavePrints_5 ?_
  refine lv_aload_n hx hb dX11_couldLeavePrints_8 rfl (lv_at hl 0 rfl) ?_
  obtain ⟨a9, hr0, h⟩ := h
  refine jgr (f := 1) hx hb hts hown hst w hG hx0 hiX11 (rfl : vwCl[10]? = some (RX11, TX11, 15)) (hts (.fieldLink RX11 19 "FootByGate" "map" "LFootByGate$Town;") (by decide +kernel)) ⟨by decide, by decide, rfl⟩ (rfl : jrt 10 1 = 7) dX11_couldLeavePrints_9 hr0 (fun ha9 => ?_)
  clear hr0
  refine jcV_v (k := a1) (As := [.int (i x1 0), .ref (b + a9)]) (rest := []) C0 w (c_X2_take hG ha1 ha9 h) (cwV 2 hts gX11_couldLeavePrints_X2_take rfl rfl rfl (by decide +kernel) ⟨Nat.le_of_ble_eq_true rfl, Nat.le_of_ble_eq_true rfl⟩) ha1 (rfl : vwCl[2]? = some (RX2, TX2, 2)) (by decide) rfl hl.1 rfl (Nat.le_of_ble_eq_true rfl) dX11_couldLeavePrints_12 (fun i12 j12 H locs h w => ?_) ⟨Nat.zero_le _, Nat.zero_le _⟩
  refine lv_aload_n hx hb dX11_couldLeavePrints_15 rfl (lv_at hl 0 rfl) ?_
  obtain ⟨a16, hr0, h⟩ := h
  refine jgr (f := 12) hx hb hts hown hst w hG hx0 hiX11 (rfl : vwCl[10]? = some (RX11, TX11, 15)) (hts (.fieldLink RX11 60 "FootByGate" "reach" "LFootByGate$Reach;") (by decide +kernel)) ⟨by decide, by decide, rfl⟩ (rfl : jrt 10 12 = 6) dX11_couldLeavePrints_16 hr0 (fun ha16 => ?_)
  clear hr0
  refine lv_aload_n hx hb dX11_couldLeavePrints_19 rfl (lv_at hl 0 rfl) ?_
  obtain ⟨a20, hr0, h⟩ := h
  refine jgr (f := 9) hx hb hts hown hst w hG hx0 hiX11 (rfl : vwCl[10]? = some (RX11, TX11, 15)) (hts (.fieldLink RX11 43 "FootByGate" "gait" "LFootByGate$Gait;") (by decide +kernel)) ⟨by decide, by decide, rfl⟩ (rfl : jrt 10 9 = 2) dX11_couldLeavePrints_20 hr0 (fun ha20 => ?_)
  clear hr0
  refine lv_aload_n hx hb dX11_couldLeavePrints_23 rfl (lv_at hl 0 rfl) ?_
  obtain ⟨a24, hr0, h⟩ := h
  refine jgr (f := 1) hx hb hts hown hst w hG hx0 hiX11 (rfl : vwCl[10]? = some (RX11, TX11, 15)) (hts (.fieldLink RX11 19 "FootByGate" "map" "LFootByGate$Town;") (by decide +kernel)) ⟨by decide, by decide, rfl⟩ (rfl : jrt 10 1 = 7) dX11_couldLeavePrints_24 hr0 (fun ha24 => ?_)
  clear hr0
  refine jgi (f := 0) hx hb hts hown hst w ha24 hiX8 (rfl : vwCl[7]? = some (RX8, TX8, 8)) (hts (.fieldLink RX11 105 "FootByGate$Town" "streets" "I") (by decide +kernel)) ⟨by decide, by decide, rfl⟩ dX11_couldLeavePrints_27 ?_
  refine jcV_v (k := a16) (As := [.ref (b + a20), .int (i12 a24 0)]) (rest := []) C0 w (c_X6_take hG ha16 ha20 h) (cwV 2 hts gX11_couldLeavePrints_X6_take rfl rfl rfl (by decide +kernel) ⟨Nat.le_of_ble_eq_true rfl, Nat.le_of_ble_eq_true rfl⟩) ha16 (rfl : vwCl[6]? = some (RX6, TX6, 2)) (by decide) rfl hl.1 rfl (Nat.le_of_ble_eq_true rfl) dX11_couldLeavePrints_30 (fun i30 j30 H locs h w => ?_) ⟨Nat.zero_le _, Nat.zero_le _⟩
  refine lv_aload_n hx hb dX11_couldLeavePrints_33 rfl (lv_at hl 1 rfl) ?_
  refine jgi (f := 1) hx hb hts hown hst w hx1 hiX9 (rfl : vwCl[8]? = some (RX9, TX9, 3)) (hts (.fieldLink RX11 146 "FootByGate$Walker" "stand" "I") (by decide +kernel)) ⟨by decide, by decide, rfl⟩ dX11_couldLeavePrints_34 ?_
  refine lv_topi (fun v37 he => ?_)
  replace h := h v37 he
  clear he
  refine lv_istore_n (lv' := [(2, .int v37), (0, .ref (b + x0)), (1, .ref (b + x1))]) hx hb dX11_couldLeavePrints_37 rfl hl (by decide) rfl (fun ls hl => ?_)
  refine lv_iconst (v := (0 : Int32)) hx hb dX11_couldLeavePrints_38 (by decide) ?_
  refine lv_istore_n (lv' := [(3, .int (0 : Int32)), (2, .int v37), (0, .ref (b + x0)), (1, .ref (b + x1))]) hx hb dX11_couldLeavePrints_39 rfl hl (by decide) rfl (fun ls hl => ?_)
  obtain ⟨g0, h⟩ := h
  exact w_X11_couldLeavePrints_L40 C0 hr hlk g0 w hx0 (lv_sub hl [2, 1, 0] rfl) h
end S_X11_couldLeavePrints
section S_X11_count
def J_X11_count (len : Nat → Nat) (r : jR) (Q : Int32 → jI → jL → Prop) (i : jI) (j : jL) (x0 : Nat) (x1 : Int32) : Prop := ((x1 = (0 : Int32)) → (∃ a49, r x0 1 = some a49 ∧ (Q (i a49 0) i j))) ∧ (((x1 = (1 : Int32)) → (∃ a57, r x0 1 = some a57 ∧ (Q (i a57 1) i j))) ∧ (((x1 = (2 : Int32)) → (Q (i x0 3) i j)) ∧ (((x1 = (3 : Int32)) → (Q (i x0 5) i j)) ∧ (((x1 = (4 : Int32)) → (∃ a75, r x0 1 = some a75 ∧ ((((i a75 2) = 0) → (Q (0 : Int32) i j)) ∧ ((¬ (i a75 2) = 0) → (Q (1 : Int32) i j))))) ∧ (((x1 = (5 : Int32)) → (∃ a91, r x0 0 = some a91 ∧ (Q (i a91 1) i j))) ∧ (((x1 = (6 : Int32)) → (Q (i x0 7) i j)) ∧ (((x1 = (7 : Int32)) → (Q (i x0 8) i j)) ∧ ((¬ x1 = (0 : Int32) → ¬ x1 = (1 : Int32) → ¬ x1 = (2 : Int32) → ¬ x1 = (3 : Int32) → ¬ x1 = (4 : Int32) → ¬ x1 = (5 : Int32) → ¬ x1 = (6 : Int32) → ¬ x1 = (7 : Int32) → (Q (-102 : Int32) i j))))))))))
abbrev rm_X11_count : Room := { frames := 0, cells := 0, slots := 0, locals := 0 }
variable {p : Program} {l : Launch} {e : Env} {s : State} {m : MethodId} {args : Array Value} {below : List Frame} {meth : Method} {c : Code} {b tU n : Nat} {cy : Nat → ClassId} {D : va_G} {K len : Nat → Nat} {r : jR} {Q : Int32 → jI → jL → Prop}
theorem hiX11_X11_count : ∀ w ∈ u_ws RX11 TX11 15, w ∈ wsX11_count := by decide +kernel
theorem hiX5_X11_count : ∀ w ∈ u_ws RX5 TX5 5, w ∈ wsX11_count := by decide +kernel
theorem hiX8_X11_count : ∀ w ∈ u_ws RX8 TX8 8, w ∈ wsX11_count := by decide +kernel
set_option maxHeartbeats 4000000 in
set_option maxRecDepth 100000 in
theorem c_X11_count (hG : jG n K r) {i : jI} {j : jL} {x0 : Nat} {x1 : Int32} (hx0 : x0 < n ∧ K x0 = 10) (h : J_X11_count len r Q i j x0 x1) : Met l yX11_count wsX11_count rm_X11_count (va_Pc [.ref (b + x0), .int x1] (jPre b cy D tU n K len r i j)) (jQi b cy D tU n K len r Q) 0 0 (jA b) := by
  refine Met.ofW (cc := cX11_count) (maxL := 2) (ret := (some .int)) (by decide) rfl ?_
  intro p e s m args below meth c s₁ B hml hv
  obtain ⟨rfl, hv⟩ := hv
  have C0 : jCx p s m _ c cX11_count 2 wsX11_count RX11 b cy D tU n K r := ⟨B.exec, B.bytes, hml, findClass_of_methodNamed B.named, atoms_spec (ws := wsX11_count) B.pre, hv.2.2, hG⟩
  have hr := B.returns
  have hlk := B.notSynchronized
  obtain ⟨hx, hb, hml, hown, hts, hst, hG⟩ := id C0
  have hiX11 : ∀ w ∈ u_ws RX11 TX11 15, w ∈ wsX11_count := hiX11_X11_count
  have hiX5 : ∀ w ∈ u_ws RX5 TX5 5, w ∈ wsX11_count := hiX5_X11_count
  have hiX8 : ∀ w ∈ u_ws RX8 TX8 8, w ∈ wsX11_count := hiX8_X11_count
  have w := jDy.start hv
  have hl := lv_entry ([.ref (b + x0), .int x1]) (n := 2) (Nat.le_of_ble_eq_true rfl)
  rw [lg_entry_eq]
  generalize (lg_sl ([.ref (b + x0), .int x1]) ++ List.replicate (2 - (lg_sl ([.ref (b + x0), .int x1])).length) Slot.unset).toArray = ls at hl ⊢
  replace hl : lv_has ls 2 [(0, .ref (b + x0)), (1, .int x1)] := hl
  show W p l e rm_X11_count s m _ below meth c s.heap [] 0 0 _ (F0 m 0 ls [])
  rw [J_X11_count] at h
  refine lv_iload_n hx hb dX11_count_0 rfl (lv_at hl 1 rfl) ?_
  by_cases hc0 : x1 = (0 : Int32)
  · replace h := h.1 hc0
    refine lv_tableIn (off := 47) (tgt := 48) hx hb dX11_count_1 (by rw [hc0]; decide) (by rw [hc0]; decide) (by rw [hc0]; rfl) (by decide) ?_
    clear hc0
    refine lv_aload_n hx hb dX11_count_48 rfl (lv_at hl 0 rfl) ?_
    obtain ⟨a49, hr0, h⟩ := h
    refine jgr (f := 1) hx hb hts hown hst w hG hx0 hiX11 (rfl : vwCl[10]? = some (RX11, TX11, 15)) (hts (.fieldLink RX11 19 "FootByGate" "map" "LFootByGate$Town;") (by decide +kernel)) ⟨by decide, by decide, rfl⟩ (rfl : jrt 10 1 = 7) dX11_count_49 hr0 (fun ha49 => ?_)
    clear hr0
    refine jgi (f := 0) hx hb hts hown hst w ha49 hiX8 (rfl : vwCl[7]? = some (RX8, TX8, 8)) (hts (.fieldLink RX11 105 "FootByGate$Town" "streets" "I") (by decide +kernel)) ⟨by decide, by decide, rfl⟩ dX11_count_52 ?_
    exact jret_i hx hb hr hlk hst w h dX11_count_55
  replace h := h.2
  by_cases hc1 : x1 = (1 : Int32)
  · replace h := h.1 hc1
    refine lv_tableIn (off := 55) (tgt := 56) hx hb dX11_count_1 (by rw [hc1]; decide) (by rw [hc1]; decide) (by rw [hc1]; rfl) (by decide) ?_
    clear hc1
    refine lv_aload_n hx hb dX11_count_56 rfl (lv_at hl 0 rfl) ?_
    obtain ⟨a57, hr0, h⟩ := h
    refine jgr (f := 1) hx hb hts hown hst w hG hx0 hiX11 (rfl : vwCl[10]? = some (RX11, TX11, 15)) (hts (.fieldLink RX11 19 "FootByGate" "map" "LFootByGate$Town;") (by decide +kernel)) ⟨by decide, by decide, rfl⟩ (rfl : jrt 10 1 = 7) dX11_count_57 hr0 (fun ha57 => ?_)
    clear hr0
    refine jgi (f := 1) hx hb hts hown hst w ha57 hiX8 (rfl : vwCl[7]? = some (RX8, TX8, 8)) (hts (.fieldLink RX11 236 "FootByGate$Town" "gates" "I") (by decide +kernel)) ⟨by decide, by decide, rfl⟩ dX11_count_60 ?_
    exact jret_i hx hb hr hlk hst w h dX11_count_63
  replace h := h.2
  by_cases hc2 : x1 = (2 : Int32)
  · replace h := h.1 hc2
    refine lv_tableIn (off := 63) (tgt := 64) hx hb dX11_count_1 (by rw [hc2]; decide) (by rw [hc2]; decide) (by rw [hc2]; rfl) (by decide) ?_
    clear hc2
    refine lv_aload_n hx hb dX11_count_64 rfl (lv_at hl 0 rfl) ?_
    refine jgi (f := 3) hx hb hts hown hst w hx0 hiX11 (rfl : vwCl[10]? = some (RX11, TX11, 15)) (hts (.fieldLink RX11 96 "FootByGate" "walkerCount" "I") (by decide +kernel)) ⟨by decide, by decide, rfl⟩ dX11_count_65 ?_
    exact jret_i hx hb hr hlk hst w h dX11_count_68
  replace h := h.2
  by_cases hc3 : x1 = (3 : Int32)
  · replace h := h.1 hc3
    refine lv_tableIn (off := 68) (tgt := 69) hx hb dX11_count_1 (by rw [hc3]; decide) (by rw [hc3]; decide) (by rw [hc3]; rfl) (by decide) ?_
    clear hc3
    refine lv_aload_n hx hb dX11_count_69 rfl (lv_at hl 0 rfl) ?_
    refine jgi (f := 5) hx hb hts hown hst w hx0 hiX11 (rfl : vwCl[10]? = some (RX11, TX11, 15)) (hts (.fieldLink RX11 99 "FootByGate" "printCount" "I") (by decide +kernel)) ⟨by decide, by decide, rfl⟩ dX11_count_70 ?_
    exact jret_i hx hb hr hlk hst w h dX11_count_73
  replace h := h.2
  by_cases hc4 : x1 = (4 : Int32)
  · replace h := h.1 hc4
    refine lv_tableIn (off := 73) (tgt := 74) hx hb dX11_count_1 (by rw [hc4]; decide) (by rw [hc4]; decide) (by rw [hc4]; rfl) (by decide) ?_
    clear hc4
    refine lv_aload_n hx hb dX11_count_74 rfl (lv_at hl 0 rfl) ?_
    obtain ⟨a75, hr0, h⟩ := h
    refine jgr (f := 1) hx hb hts hown hst w hG hx0 hiX11 (rfl : vwCl[10]? = some (RX11, TX11, 15)) (hts (.fieldLink RX11 19 "FootByGate" "map" "LFootByGate$Town;") (by decide +kernel)) ⟨by decide, by decide, rfl⟩ (rfl : jrt 10 1 = 7) dX11_count_75 hr0 (fun ha75 => ?_)
    clear hr0
    refine jgi (f := 2) hx hb hts hown hst w ha75 hiX8 (rfl : vwCl[7]? = some (RX8, TX8, 8)) (hts (.fieldLink RX11 286 "FootByGate$Town" "free" "Z") (by decide +kernel)) ⟨by decide, by decide, rfl⟩ dX11_count_78 ?_
    refine lv_if_eq (tgt := 88) hx hb dX11_count_81 (by decide) (fun hc => ?_) (fun hc => ?_)
    · replace h := h.1 hc
      clear hc
      refine lv_iconst (v := (0 : Int32)) hx hb dX11_count_88 (by decide) ?_
      exact jret_i hx hb hr hlk hst w h dX11_count_89
    · replace h := h.2 hc
      clear hc
      refine lv_iconst (v := (1 : Int32)) hx hb dX11_count_84 (by decide) ?_
      refine lv_goto (tgt := 89) hx hb dX11_count_85 (by decide) ?_
      exact jret_i hx hb hr hlk hst w h dX11_count_89
  replace h := h.2
  by_cases hc5 : x1 = (5 : Int32)
  · replace h := h.1 hc5
    refine lv_tableIn (off := 89) (tgt := 90) hx hb dX11_count_1 (by rw [hc5]; decide) (by rw [hc5]; decide) (by rw [hc5]; rfl) (by decide) ?_
    clear hc5
    refine lv_aload_n hx hb dX11_count_90 rfl (lv_at hl 0 rfl) ?_
    obtain ⟨a91, hr0, h⟩ := h
    refine jgr (f := 0) hx hb hts hown hst w hG hx0 hiX11 (rfl : vwCl[10]? = some (RX11, TX11, 15)) (hts (.fieldLink RX11 10 "FootByGate" "page" "LFootByGate$Page;") (by decide +kernel)) ⟨by decide, by decide, rfl⟩ (rfl : jrt 10 0 = 5) dX11_count_91 hr0 (fun ha91 => ?_)
    clear hr0
    refine jgi (f := 1) hx hb hts hown hst w ha91 hiX5 (rfl : vwCl[5]? = some (RX5, TX5, 5)) (hts (.fieldLink RX11 76 "FootByGate$Page" "length" "I") (by decide +kernel)) ⟨by decide, by decide, rfl⟩ dX11_count_94 ?_
    exact jret_i hx hb hr hlk hst w h dX11_count_97
  replace h := h.2
  by_cases hc6 : x1 = (6 : Int32)
  · replace h := h.1 hc6
    refine lv_tableIn (off := 97) (tgt := 98) hx hb dX11_count_1 (by rw [hc6]; decide) (by rw [hc6]; decide) (by rw [hc6]; rfl) (by decide) ?_
    clear hc6
    refine lv_aload_n hx hb dX11_count_98 rfl (lv_at hl 0 rfl) ?_
    refine jgi (f := 7) hx hb hts hown hst w hx0 hiX11 (rfl : vwCl[10]? = some (RX11, TX11, 15)) (hts (.fieldLink RX11 102 "FootByGate" "townsRead" "I") (by decide +kernel)) ⟨by decide, by decide, rfl⟩ dX11_count_99 ?_
    exact jret_i hx hb hr hlk hst w h dX11_count_102
  replace h := h.2
  by_cases hc7 : x1 = (7 : Int32)
  · replace h := h.1 hc7
    refine lv_tableIn (off := 102) (tgt := 103) hx hb dX11_count_1 (by rw [hc7]; decide) (by rw [hc7]; decide) (by rw [hc7]; rfl) (by decide) ?_
    clear hc7
    refine lv_aload_n hx hb dX11_count_103 rfl (lv_at hl 0 rfl) ?_
    refine jgi (f := 8) hx hb hts hown hst w hx0 hiX11 (rfl : vwCl[10]? = some (RX11, TX11, 15)) (hts (.fieldLink RX11 202 "FootByGate" "done" "I") (by decide +kernel)) ⟨by decide, by decide, rfl⟩ dX11_count_104 ?_
    exact jret_i hx hb hr hlk hst w h dX11_count_107
  replace h := h.2
  replace h := h hc0 hc1 hc2 hc3 hc4 hc5 hc6 hc7
  have hd : x1.toInt < 0 ∨ 7 < x1.toInt := by
    rcases Int.lt_or_le x1.toInt 0 with h1 | h1
    · exact Or.inl h1
    rcases Int.lt_or_le 7 x1.toInt with h2 | h2
    · exact Or.inr h2
    exfalso
    have h3 : x1.toInt = 0 ∨ x1.toInt = 1 ∨ x1.toInt = 2 ∨ x1.toInt = 3 ∨ x1.toInt = 4 ∨ x1.toInt = 5 ∨ x1.toInt = 6 ∨ x1.toInt = 7 := by omega
    rcases h3 with h3 | h3 | h3 | h3 | h3 | h3 | h3 | h3
    · exact hc0 (Int32.toInt_inj.mp (h3.trans (by decide)))
    · exact hc1 (Int32.toInt_inj.mp (h3.trans (by decide)))
    · exact hc2 (Int32.toInt_inj.mp (h3.trans (by decide)))
    · exact hc3 (Int32.toInt_inj.mp (h3.trans (by decide)))
    · exact hc4 (Int32.toInt_inj.mp (h3.trans (by decide)))
    · exact hc5 (Int32.toInt_inj.mp (h3.trans (by decide)))
    · exact hc6 (Int32.toInt_inj.mp (h3.trans (by decide)))
    · exact hc7 (Int32.toInt_inj.mp (h3.trans (by decide)))
  refine lv_tableOut (tgt := 108) hx hb dX11_count_1 hd (by decide) ?_
  clear hd hc0 hc1 hc2 hc3 hc4 hc5 hc6 hc7
  refine lv_bipush (v := (-102 : Int32)) hx hb dX11_count_108 (by decide) ?_
  exact jret_i hx hb hr hlk hst w h dX11_count_110
end S_X11_count
section S_X11_hasTown
def J_X11_hasTown (len : Nat → Nat) (r : jR) (Q : Int32 → jI → jL → Prop) (i : jI) (j : jL) (x0 : Nat) : Prop := ∃ a1, r x0 1 = some a1 ∧ ((((i a1 0) ≤ 0) → (Q (0 : Int32) i j)) ∧ ((¬ (i a1 0) ≤ 0) → (Q (1 : Int32) i j)))
abbrev rm_X11_hasTown : Room := { frames := 0, cells := 0, slots := 0, locals := 0 }
variable {p : Program} {l : Launch} {e : Env} {s : State} {m : MethodId} {args : Array Value} {below : List Frame} {meth : Method} {c : Code} {b tU n : Nat} {cy : Nat → ClassId} {D : va_G} {K len : Nat → Nat} {r : jR} {Q : Int32 → jI → jL → Prop}
theorem hiX11_X11_hasTown : ∀ w ∈ u_ws RX11 TX11 15, w ∈ wsX11_hasTown := by decide +kernel
theorem hiX8_X11_hasTown : ∀ w ∈ u_ws RX8 TX8 8, w ∈ wsX11_hasTown := by decide +kernel
set_option maxHeartbeats 4000000 in
set_option maxRecDepth 100000 in
theorem c_X11_hasTown (hG : jG n K r) {i : jI} {j : jL} {x0 : Nat} (hx0 : x0 < n ∧ K x0 = 10) (h : J_X11_hasTown len r Q i j x0) : Met l yX11_hasTown wsX11_hasTown rm_X11_hasTown (va_Pc [.ref (b + x0)] (jPre b cy D tU n K len r i j)) (jQi b cy D tU n K len r Q) 0 0 (jA b) := by
  refine Met.ofW (cc := cX11_hasTown) (maxL := 1) (ret := (some .boolean)) (by decide) rfl ?_
  intro p e s m args below meth c s₁ B hml hv
  obtain ⟨rfl, hv⟩ := hv
  have C0 : jCx p s m _ c cX11_hasTown 1 wsX11_hasTown RX11 b cy D tU n K r := ⟨B.exec, B.bytes, hml, findClass_of_methodNamed B.named, atoms_spec (ws := wsX11_hasTown) B.pre, hv.2.2, hG⟩
  have hr := B.returns
  have hlk := B.notSynchronized
  obtain ⟨hx, hb, hml, hown, hts, hst, hG⟩ := id C0
  have hiX11 : ∀ w ∈ u_ws RX11 TX11 15, w ∈ wsX11_hasTown := hiX11_X11_hasTown
  have hiX8 : ∀ w ∈ u_ws RX8 TX8 8, w ∈ wsX11_hasTown := hiX8_X11_hasTown
  have w := jDy.start hv
  have hl := lv_entry ([.ref (b + x0)]) (n := 1) (Nat.le_of_ble_eq_true rfl)
  rw [lg_entry_eq]
  generalize (lg_sl ([.ref (b + x0)]) ++ List.replicate (1 - (lg_sl ([.ref (b + x0)])).length) Slot.unset).toArray = ls at hl ⊢
  replace hl : lv_has ls 1 [(0, .ref (b + x0))] := hl
  show W p l e rm_X11_hasTown s m _ below meth c s.heap [] 0 0 _ (F0 m 0 ls [])
  rw [J_X11_hasTown] at h
  refine lv_aload_n hx hb dX11_hasTown_0 rfl (lv_at hl 0 rfl) ?_
  obtain ⟨a1, hr0, h⟩ := h
  refine jgr (f := 1) hx hb hts hown hst w hG hx0 hiX11 (rfl : vwCl[10]? = some (RX11, TX11, 15)) (hts (.fieldLink RX11 19 "FootByGate" "map" "LFootByGate$Town;") (by decide +kernel)) ⟨by decide, by decide, rfl⟩ (rfl : jrt 10 1 = 7) dX11_hasTown_1 hr0 (fun ha1 => ?_)
  clear hr0
  refine jgi (f := 0) hx hb hts hown hst w ha1 hiX8 (rfl : vwCl[7]? = some (RX8, TX8, 8)) (hts (.fieldLink RX11 105 "FootByGate$Town" "streets" "I") (by decide +kernel)) ⟨by decide, by decide, rfl⟩ dX11_hasTown_4 ?_
  refine lv_if_le (tgt := 14) hx hb dX11_hasTown_7 (by decide) (fun hc => ?_) (fun hc => ?_)
  · replace h := h.1 hc
    clear hc
    refine lv_iconst (v := (0 : Int32)) hx hb dX11_hasTown_14 (by decide) ?_
    exact jret_z hx hb hr hlk hst w (by decide) h dX11_hasTown_15
  · replace h := h.2 hc
    clear hc
    refine lv_iconst (v := (1 : Int32)) hx hb dX11_hasTown_10 (by decide) ?_
    refine lv_goto (tgt := 15) hx hb dX11_hasTown_11 (by decide) ?_
    exact jret_z hx hb hr hlk hst w (by decide) h dX11_hasTown_15
end S_X11_hasTown
section S_X11_isBetter
def J_X11_isBetter_L25 (len : Nat → Nat) (r : jR) (Q : Int32 → jI → jL → Prop) (i : jI) (j : jL) : Prop := Q (1 : Int32) i j
def J_X11_isBetter_L29 (len : Nat → Nat) (r : jR) (Q : Int32 → jI → jL → Prop) (i : jI) (j : jL) : Prop := Q (0 : Int32) i j
def J_X11_isBetter (len : Nat → Nat) (r : jR) (Q : Int32 → jI → jL → Prop) (i : jI) (j : jL) (x0 : Int32) (x1 : Int32) : Prop := J_J6_bitCount_0f7a4 len r (fun (q1 : Int32) (i1 : jI) (j1 : jL) => J_J6_bitCount_0f7a4 len r (fun (q6 : Int32) (i6 : jI) (j6 : jL) => ((q1 < q6) → (J_X11_isBetter_L25 len r Q i6 j6 )) ∧ ((¬ q1 < q6) → (((¬ q1 = q6) → (J_X11_isBetter_L29 len r Q i6 j6 )) ∧ ((q1 = q6) → (((x1 ≤ x0) → (J_X11_isBetter_L29 len r Q i6 j6 )) ∧ ((¬ x1 ≤ x0) → (J_X11_isBetter_L25 len r Q i6 j6 ))))))) i1 j1 x1) i j x0
abbrev rm_X11_isBetter : Room := { frames := 1, cells := 0, slots := 0, locals := 20 }
variable {p : Program} {l : Launch} {e : Env} {s : State} {m : MethodId} {args : Array Value} {below : List Frame} {meth : Method} {c : Code} {b tU n : Nat} {cy : Nat → ClassId} {D : va_G} {K len : Nat → Nat} {r : jR} {Q : Int32 → jI → jL → Prop}
set_option maxHeartbeats 4000000 in
set_option maxRecDepth 100000 in
theorem w_X11_isBetter_L25 (C0 : jCx p s m args c cX11_isBetter 4 wsX11_isBetter RX11 b cy D tU n K r) (hr : meth.sig.returnType = some .boolean) (hlk : meth.locks = false) {H : Heap} {locs : List Loc} {ls : Array Slot} {i : jI} {j : jL}  (w : jDy b cy D n K len r i j s H locs) (hl : lv_has ls 4 []) (h : J_X11_isBetter_L25 len r Q i j) : W p l e rm_X11_isBetter s m args below meth c H locs 0 0 (MQ below (jQi b cy D tU n K len r Q) args s 0 0 (jA b)) (F0 m 25 ls []) := by
  obtain ⟨hx, hb, hml, hown, hts, hst, hG⟩ := id C0
  rw [J_X11_isBetter_L25] at h
  refine lv_iconst (v := (1 : Int32)) hx hb dX11_isBetter_25 (by decide) ?_
  refine lv_goto (tgt := 30) hx hb dX11_isBetter_26 (by decide) ?_
  exact jret_z hx hb hr hlk hst w (by decide) h dX11_isBetter_30
set_option maxHeartbeats 4000000 in
set_option maxRecDepth 100000 in
theorem w_X11_isBetter_L29 (C0 : jCx p s m args c cX11_isBetter 4 wsX11_isBetter RX11 b cy D tU n K r) (hr : meth.sig.returnType = some .boolean) (hlk : meth.locks = false) {H : Heap} {locs : List Loc} {ls : Array Slot} {i : jI} {j : jL}  (w : jDy b cy D n K len r i j s H locs) (hl : lv_has ls 4 []) (h : J_X11_isBetter_L29 len r Q i j) : W p l e rm_X11_isBetter s m args below meth c H locs 0 0 (MQ below (jQi b cy D tU n K len r Q) args s 0 0 (jA b)) (F0 m 29 ls []) := by
  obtain ⟨hx, hb, hml, hown, hts, hst, hG⟩ := id C0
  rw [J_X11_isBetter_L29] at h
  refine lv_iconst (v := (0 : Int32)) hx hb dX11_isBetter_29 (by decide) ?_
  exact jret_z hx hb hr hlk hst w (by decide) h dX11_isBetter_30
set_option maxHeartbeats 4000000 in
set_option maxRecDepth 100000 in
theorem c_X11_isBetter (hG : jG n K r) {i : jI} {j : jL} {x0 : Int32} {x1 : Int32} (h : J_X11_isBetter len r Q i j x0 x1) : Met l yX11_isBetter wsX11_isBetter rm_X11_isBetter (va_Pc [.int x0, .int x1] (jPre b cy D tU n K len r i j)) (jQi b cy D tU n K len r Q) 0 0 (jA b) := by
  refine Met.ofW (cc := cX11_isBetter) (maxL := 4) (ret := (some .boolean)) (by decide) rfl ?_
  intro p e s m args below meth c s₁ B hml hv
  obtain ⟨rfl, hv⟩ := hv
  have C0 : jCx p s m _ c cX11_isBetter 4 wsX11_isBetter RX11 b cy D tU n K r := ⟨B.exec, B.bytes, hml, findClass_of_methodNamed B.named, atoms_spec (ws := wsX11_isBetter) B.pre, hv.2.2, hG⟩
  have hr := B.returns
  have hlk := B.notSynchronized
  obtain ⟨hx, hb, hml, hown, hts, hst, hG⟩ := id C0
  have w := jDy.start hv
  have hl := lv_entry ([.int x0, .int x1]) (n := 4) (Nat.le_of_ble_eq_true rfl)
  rw [lg_entry_eq]
  generalize (lg_sl ([.int x0, .int x1]) ++ List.replicate (4 - (lg_sl ([.int x0, .int x1])).length) Slot.unset).toArray = ls at hl ⊢
  replace hl : lv_has ls 4 [(0, .int x0), (1, .int x1)] := hl
  show W p l e rm_X11_isBetter s m _ below meth c s.heap [] 0 0 _ (F0 m 0 ls [])
  rw [J_X11_isBetter] at h
  refine lv_iload_n hx hb dX11_isBetter_0 rfl (lv_at hl 0 rfl) ?_
  refine jcS_i (As := [.int x0]) (rest := []) C0 w (c_J6_bitCount_0f7a4 hG h) (va_cwS 1 hts gX11_isBetter_J6_bitCount_0f7a4 rfl rfl rfl (by decide +kernel) ⟨Nat.le_of_ble_eq_true rfl, Nat.le_of_ble_eq_true rfl⟩) rfl hl.1 rfl (Nat.le_of_ble_eq_true rfl) dX11_isBetter_1 (fun q1 i1 j1 H locs h w => ?_) ⟨Nat.zero_le _, Nat.zero_le _⟩
  refine lv_istore_n (lv' := [(2, .int q1), (0, .int x0), (1, .int x1)]) hx hb dX11_isBetter_4 rfl hl (by decide) rfl (fun ls hl => ?_)
  refine lv_iload_n hx hb dX11_isBetter_5 rfl (lv_at hl 2 rfl) ?_
  refine jcS_i (As := [.int x1]) (rest := []) C0 w (c_J6_bitCount_0f7a4 hG h) (va_cwS 1 hts gX11_isBetter_J6_bitCount_0f7a4 rfl rfl rfl (by decide +kernel) ⟨Nat.le_of_ble_eq_true rfl, Nat.le_of_ble_eq_true rfl⟩) rfl hl.1 rfl (Nat.le_of_ble_eq_true rfl) dX11_isBetter_6 (fun q6 i6 j6 H locs h w => ?_) ⟨Nat.zero_le _, Nat.zero_le _⟩
  refine lv_istore_n (lv' := [(3, .int q6), (2, .int q1), (0, .int x0), (1, .int x1)]) hx hb dX11_isBetter_9 rfl hl (by decide) rfl (fun ls hl => ?_)
  refine lv_iload_n hx hb dX11_isBetter_10 rfl (lv_at hl 1 rfl) ?_
  refine lv_iload_n hx hb dX11_isBetter_11 rfl (lv_at hl 0 rfl) ?_
  refine lv_icmp_lt (tgt := 25) hx hb dX11_isBetter_12 (by decide) (fun hc => ?_) (fun hc => ?_)
  · replace h := h.1 hc
    clear hc
    exact w_X11_isBetter_L25 C0 hr hlk w (lv_sub hl [] rfl) h
  · replace h := h.2 hc
    clear hc
    refine lv_iload_n hx hb dX11_isBetter_15 rfl (lv_at hl 1 rfl) ?_
    refine lv_iload_n hx hb dX11_isBetter_16 rfl (lv_at hl 0 rfl) ?_
    refine lv_icmp_ne (tgt := 29) hx hb dX11_isBetter_17 (by decide) (fun hc => ?_) (fun hc => ?_)
    · replace h := h.1 hc
      clear hc
      exact w_X11_isBetter_L29 C0 hr hlk w (lv_sub hl [] rfl) h
    · replace h := h.2 hc
      clear hc
      refine lv_iload_n hx hb dX11_isBetter_20 rfl (lv_at hl 2 rfl) ?_
      refine lv_iload_n hx hb dX11_isBetter_21 rfl (lv_at hl 3 rfl) ?_
      refine lv_icmp_ge (tgt := 29) hx hb dX11_isBetter_22 (by decide) (fun hc => ?_) (fun hc => ?_)
      · replace h := h.1 hc
        clear hc
        exact w_X11_isBetter_L29 C0 hr hlk w (lv_sub hl [] rfl) h
      · replace h := h.2 hc
        clear hc
        exact w_X11_isBetter_L25 C0 hr hlk w (lv_sub hl [] rfl) h
end S_X11_isBetter
section S_X11_streetsAgainst
def J_X11_streetsAgainst_L72 (len : Nat → Nat) (r : jR) (Q : Int32 → jI → jL → Prop) (Hd5 : jI → jL → Nat → Int32 → Int32 → Int32 → Int32 → Prop) (i : jI) (j : jL) (x0 : Nat) (x1 : Int32) (x2 : Int32) (x3 : Int32) (x4 : Int32) : Prop := ∀ v72 : Int32, v72 = x4 + (1 : Int32) → (Hd5 i j x0 x1 x2 x3 v72)
def J_X11_streetsAgainst_L5 (len : Nat → Nat) (r : jR) (Q : Int32 → jI → jL → Prop) : Nat → jI → jL → Nat → Int32 → Int32 → Int32 → Int32 → Prop
  | 0 => fun _ _ _ _ _ _ _ => False
  | g + 1 => fun i j x0 x1 x2 x3 x4 => ∃ a8, r x0 1 = some a8 ∧ ((((i a8 0) ≤ x4) → (Q x3 i j)) ∧ ((¬ (i a8 0) ≤ x4) → (∃ a19, r x0 1 = some a19 ∧ (∃ a22, r a19 3 = some a22 ∧ (vp_in x4 (len a22) ∧ (∃ a31, r x0 1 = some a31 ∧ (∃ a34, r a31 4 = some a34 ∧ (vp_in x4 (len a34) ∧ (∀ v44 : Int32, v44 = ((x1 >>> ((i a22 x4.toNatClampNeg) &&& 31)) ^^^ (x1 >>> ((i a34 x4.toNatClampNeg) &&& 31))) &&& (1 : Int32) → (∃ a50, r x0 1 = some a50 ∧ (∃ a53, r a50 5 = some a53 ∧ (vp_in x4 (len a53) ∧ (J_X9_turnOf len r (fun (q59 : Int32) (i59 : jI) (j59 : jL) => ((v44 = q59) → (J_X11_streetsAgainst_L72 len r Q (J_X11_streetsAgainst_L5 len r Q g) i59 j59 x0 x1 x2 x3 x4)) ∧ ((¬ v44 = q59) → (∀ v71 : Int32, v71 = x3 ||| ((1 : Int32) <<< (x4 &&& 31)) → (J_X11_streetsAgainst_L72 len r Q (J_X11_streetsAgainst_L5 len r Q g) i59 j59 x0 x1 x2 v71 x4)))) i j x2 (i a53 x4.toNatClampNeg))))))))))))))
def J_X11_streetsAgainst (len : Nat → Nat) (r : jR) (Q : Int32 → jI → jL → Prop) (i : jI) (j : jL) (x0 : Nat) (x1 : Int32) (x2 : Int32) : Prop := ∃ g0, J_X11_streetsAgainst_L5 len r Q g0 i j x0 x1 x2 (0 : Int32) (0 : Int32)
abbrev rm_X11_streetsAgainst : Room := { frames := 2, cells := 0, slots := 0, locals := 42 }
variable {p : Program} {l : Launch} {e : Env} {s : State} {m : MethodId} {args : Array Value} {below : List Frame} {meth : Method} {c : Code} {b tU n : Nat} {cy : Nat → ClassId} {D : va_G} {K len : Nat → Nat} {r : jR} {Q : Int32 → jI → jL → Prop}
theorem hiX11_X11_streetsAgainst : ∀ w ∈ u_ws RX11 TX11 15, w ∈ wsX11_streetsAgainst := by decide +kernel
theorem hiX8_X11_streetsAgainst : ∀ w ∈ u_ws RX8 TX8 8, w ∈ wsX11_streetsAgainst := by decide +kernel
set_option maxHeartbeats 4000000 in
set_option maxRecDepth 100000 in
theorem w_X11_streetsAgainst_L72 (C0 : jCx p s m args c cX11_streetsAgainst 6 wsX11_streetsAgainst RX11 b cy D tU n K r) (hr : meth.sig.returnType = some .int) (hlk : meth.locks = false) {Hd5 : jI → jL → Nat → Int32 → Int32 → Int32 → Int32 → Prop} (k5 : ∀ {H : Heap} {locs : List Loc} {ls : Array Slot} {i : jI} {j : jL} {x0 : Nat} {x1 : Int32} {x2 : Int32} {x3 : Int32} {x4 : Int32} (w : jDy b cy D n K len r i j s H locs) (hx0 : x0 < n ∧ K x0 = 10) (hl : lv_has ls 6 [(0, .ref (b + x0)), (1, .int x1), (2, .int x2), (3, .int x3), (4, .int x4)]) (h : Hd5 i j x0 x1 x2 x3 x4), W p l e rm_X11_streetsAgainst s m args below meth c H locs 0 0 (MQ below (jQi b cy D tU n K len r Q) args s 0 0 (jA b)) (F0 m 5 ls [])) {H : Heap} {locs : List Loc} {ls : Array Slot} {i : jI} {j : jL} {x0 : Nat} {x1 : Int32} {x2 : Int32} {x3 : Int32} {x4 : Int32} (w : jDy b cy D n K len r i j s H locs) (hx0 : x0 < n ∧ K x0 = 10) (hl : lv_has ls 6 [(0, .ref (b + x0)), (1, .int x1), (2, .int x2), (3, .int x3), (4, .int x4)]) (h : J_X11_streetsAgainst_L72 len r Q Hd5 i j x0 x1 x2 x3 x4) : W p l e rm_X11_streetsAgainst s m args below meth c H locs 0 0 (MQ below (jQi b cy D tU n K len r Q) args s 0 0 (jA b)) (F0 m 72 ls []) := by
  obtain ⟨hx, hb, hml, hown, hts, hst, hG⟩ := id C0
  have hiX11 : ∀ w ∈ u_ws RX11 TX11 15, w ∈ wsX11_streetsAgainst := hiX11_X11_streetsAgainst
  have hiX8 : ∀ w ∈ u_ws RX8 TX8 8, w ∈ wsX11_streetsAgainst := hiX8_X11_streetsAgainst
  rw [J_X11_streetsAgainst_L72] at h
  obtain ⟨v72, he⟩ : ∃ z : Int32, z = x4 + (1 : Int32) := ⟨_, rfl⟩
  replace h := h v72 he
  refine lv_iinc (v := v72) (lv' := [(4, .int v72), (0, .ref (b + x0)), (1, .int x1), (2, .int x2), (3, .int x3)]) hx hb dX11_streetsAgainst_72 hl (k := 4) rfl (by rw [he]; rfl) (by decide) rfl (fun ls hl => ?_)
  clear he
  refine lv_goto (tgt := 5) hx hb dX11_streetsAgainst_75 (by decide) ?_
  exact k5 w hx0 (lv_sub hl [1, 2, 3, 4, 0] rfl) h
set_option maxHeartbeats 4000000 in
set_option maxRecDepth 100000 in
theorem w_X11_streetsAgainst_L5 (C0 : jCx p s m args c cX11_streetsAgainst 6 wsX11_streetsAgainst RX11 b cy D tU n K r) (hr : meth.sig.returnType = some .int) (hlk : meth.locks = false) : ∀ (g : Nat) {H : Heap} {locs : List Loc} {ls : Array Slot} {i : jI} {j : jL} {x0 : Nat} {x1 : Int32} {x2 : Int32} {x3 : Int32} {x4 : Int32} (w : jDy b cy D n K len r i j s H locs) (hx0 : x0 < n ∧ K x0 = 10) (hl : lv_has ls 6 [(0, .ref (b + x0)), (1, .int x1), (2, .int x2), (3, .int x3), (4, .int x4)]) (h : J_X11_streetsAgainst_L5 len r Q g i j x0 x1 x2 x3 x4), W p l e rm_X11_streetsAgainst s m args below meth c H locs 0 0 (MQ below (jQi b cy D tU n K len r Q) args s 0 0 (jA b)) (F0 m 5 ls []) := by
  obtain ⟨hx, hb, hml, hown, hts, hst, hG⟩ := id C0
  have hiX11 : ∀ w ∈ u_ws RX11 TX11 15, w ∈ wsX11_streetsAgainst := hiX11_X11_streetsAgainst
  have hiX8 : ∀ w ∈ u_ws RX8 TX8 8, w ∈ wsX11_streetsAgainst := hiX8_X11_streetsAgainst
  intro g
  induction g with
  | zero => intro H locs ls i j x0 x1 x2 x3 x4 w hx0 hl h; exact False.elim h
  | succ g ih =>
    intro H locs ls i j x0 x1 x2 x3 x4 w hx0 hl h
    rw [J_X11_streetsAgainst_L5] at h
    refine lv_iload hx hb dX11_streetsAgainst_5 (lv_at hl 4 rfl) ?_
    refine lv_aload_n hx hb dX11_streetsAgainst_7 rfl (lv_at hl 0 rfl) ?_
    obtain ⟨a8, hr0, h⟩ := h
    refine jgr (f := 1) hx hb hts hown hst w hG hx0 hiX11 (rfl : vwCl[10]? = some (RX11, TX11, 15)) (hts (.fieldLink RX11 19 "FootByGate" "map" "LFootByGate$Town;") (by decide +kernel)) ⟨by decide, by decide, rfl⟩ (rfl : jrt 10 1 = 7) dX11_streetsAgainst_8 hr0 (fun ha8 => ?_)
    clear hr0
    refine jgi (f := 0) hx hb hts hown hst w ha8 hiX8 (rfl : vwCl[7]? = some (RX8, TX8, 8)) (hts (.fieldLink RX11 105 "FootByGate$Town" "streets" "I") (by decide +kernel)) ⟨by decide, by decide, rfl⟩ dX11_streetsAgainst_11 ?_
    refine lv_icmp_ge (tgt := 78) hx hb dX11_streetsAgainst_14 (by decide) (fun hc => ?_) (fun hc => ?_)
    · replace h := h.1 hc
      clear hc
      refine lv_iload_n hx hb dX11_streetsAgainst_78 rfl (lv_at hl 3 rfl) ?_
      exact jret_i hx hb hr hlk hst w h dX11_streetsAgainst_79
    · replace h := h.2 hc
      clear hc
      refine lv_iload_n hx hb dX11_streetsAgainst_17 rfl (lv_at hl 1 rfl) ?_
      refine lv_aload_n hx hb dX11_streetsAgainst_18 rfl (lv_at hl 0 rfl) ?_
      obtain ⟨a19, hr0, h⟩ := h
      refine jgr (f := 1) hx hb hts hown hst w hG hx0 hiX11 (rfl : vwCl[10]? = some (RX11, TX11, 15)) (hts (.fieldLink RX11 19 "FootByGate" "map" "LFootByGate$Town;") (by decide +kernel)) ⟨by decide, by decide, rfl⟩ (rfl : jrt 10 1 = 7) dX11_streetsAgainst_19 hr0 (fun ha19 => ?_)
      clear hr0
      obtain ⟨a22, hr0, h⟩ := h
      refine jgr (f := 3) hx hb hts hown hst w hG ha19 hiX8 (rfl : vwCl[7]? = some (RX8, TX8, 8)) (hts (.fieldLink RX11 112 "FootByGate$Town" "first" "[I") (by decide +kernel)) ⟨by decide, by decide, rfl⟩ (rfl : jrt 7 3 = 13) dX11_streetsAgainst_22 hr0 (fun ha22 => ?_)
      clear hr0
      refine lv_iload hx hb dX11_streetsAgainst_25 (lv_at hl 4 rfl) ?_
      obtain ⟨hn, h⟩ := h
      refine jaid hx hb hst w ha22 hn dX11_streetsAgainst_27 ?_
      clear hn
      refine lv_ishr hx hb dX11_streetsAgainst_28 ?_
      refine lv_iload_n hx hb dX11_streetsAgainst_29 rfl (lv_at hl 1 rfl) ?_
      refine lv_aload_n hx hb dX11_streetsAgainst_30 rfl (lv_at hl 0 rfl) ?_
      obtain ⟨a31, hr0, h⟩ := h
      refine jgr (f := 1) hx hb hts hown hst w hG hx0 hiX11 (rfl : vwCl[10]? = some (RX11, TX11, 15)) (hts (.fieldLink RX11 19 "FootByGate" "map" "LFootByGate$Town;") (by decide +kernel)) ⟨by decide, by decide, rfl⟩ (rfl : jrt 10 1 = 7) dX11_streetsAgainst_31 hr0 (fun ha31 => ?_)
      clear hr0
      obtain ⟨a34, hr0, h⟩ := h
      refine jgr (f := 4) hx hb hts hown hst w hG ha31 hiX8 (rfl : vwCl[7]? = some (RX8, TX8, 8)) (hts (.fieldLink RX11 115 "FootByGate$Town" "second" "[I") (by decide +kernel)) ⟨by decide, by decide, rfl⟩ (rfl : jrt 7 4 = 13) dX11_streetsAgainst_34 hr0 (fun ha34 => ?_)
      clear hr0
      refine lv_iload hx hb dX11_streetsAgainst_37 (lv_at hl 4 rfl) ?_
      obtain ⟨hn, h⟩ := h
      refine jaid hx hb hst w ha34 hn dX11_streetsAgainst_39 ?_
      clear hn
      refine lv_ishr hx hb dX11_streetsAgainst_40 ?_
      refine lv_ixor hx hb dX11_streetsAgainst_41 ?_
      refine lv_iconst (v := (1 : Int32)) hx hb dX11_streetsAgainst_42 (by decide) ?_
      refine lv_iand hx hb dX11_streetsAgainst_43 ?_
      refine lv_topi (fun v44 he => ?_)
      replace h := h v44 he
      clear he
      refine lv_istore (lv' := [(5, .int v44), (0, .ref (b + x0)), (1, .int x1), (2, .int x2), (3, .int x3), (4, .int x4)]) hx hb dX11_streetsAgainst_44 hl (by decide) rfl (fun ls hl => ?_)
      refine lv_iload hx hb dX11_streetsAgainst_46 (lv_at hl 0 rfl) ?_
      refine lv_iload_n hx hb dX11_streetsAgainst_48 rfl (lv_at hl 3 rfl) ?_
      refine lv_aload_n hx hb dX11_streetsAgainst_49 rfl (lv_at hl 1 rfl) ?_
      obtain ⟨a50, hr0, h⟩ := h
      refine jgr (f := 1) hx hb hts hown hst w hG hx0 hiX11 (rfl : vwCl[10]? = some (RX11, TX11, 15)) (hts (.fieldLink RX11 19 "FootByGate" "map" "LFootByGate$Town;") (by decide +kernel)) ⟨by decide, by decide, rfl⟩ (rfl : jrt 10 1 = 7) dX11_streetsAgainst_50 hr0 (fun ha50 => ?_)
      clear hr0
      obtain ⟨a53, hr0, h⟩ := h
      refine jgr (f := 5) hx hb hts hown hst w hG ha50 hiX8 (rfl : vwCl[7]? = some (RX8, TX8, 8)) (hts (.fieldLink RX11 118 "FootByGate$Town" "paces" "[I") (by decide +kernel)) ⟨by decide, by decide, rfl⟩ (rfl : jrt 7 5 = 13) dX11_streetsAgainst_53 hr0 (fun ha53 => ?_)
      clear hr0
      refine lv_iload hx hb dX11_streetsAgainst_56 (lv_at hl 5 rfl) ?_
      obtain ⟨hn, h⟩ := h
      refine jaid hx hb hst w ha53 hn dX11_streetsAgainst_58 ?_
      clear hn
      refine jcS_i (As := [.int x2, .int (i a53 x4.toNatClampNeg)]) (rest := [.int v44]) C0 w (c_X9_turnOf hG h) (va_cwS 2 hts gX11_streetsAgainst_X9_turnOf rfl rfl rfl (by decide +kernel) ⟨Nat.le_of_ble_eq_true rfl, Nat.le_of_ble_eq_true rfl⟩) rfl hl.1 rfl (Nat.le_of_ble_eq_true rfl) dX11_streetsAgainst_59 (fun q59 i59 j59 H locs h w => ?_) ⟨Nat.zero_le _, Nat.zero_le _⟩
      refine lv_icmp_eq (tgt := 72) hx hb dX11_streetsAgainst_62 (by decide) (fun hc => ?_) (fun hc => ?_)
      · replace h := h.1 hc
        clear hc
        exact w_X11_streetsAgainst_L72 C0 hr hlk (fun w hx0 hl h => ih w hx0 hl h) w hx0 (lv_sub hl [1, 2, 3, 4, 5] rfl) h
      · replace h := h.2 hc
        clear hc
        refine lv_iload_n hx hb dX11_streetsAgainst_65 rfl (lv_at hl 4 rfl) ?_
        refine lv_iconst (v := (1 : Int32)) hx hb dX11_streetsAgainst_66 (by decide) ?_
        refine lv_iload hx hb dX11_streetsAgainst_67 (lv_at hl 5 rfl) ?_
        refine lv_ishl hx hb dX11_streetsAgainst_69 ?_
        refine lv_ior hx hb dX11_streetsAgainst_70 ?_
        refine lv_topi (fun v71 he => ?_)
        replace h := h v71 he
        clear he
        refine lv_istore_n (lv' := [(3, .int v71), (5, .int v44), (0, .ref (b + x0)), (1, .int x1), (2, .int x2), (4, .int x4)]) hx hb dX11_streetsAgainst_71 rfl hl (by decide) rfl (fun ls hl => ?_)
        exact w_X11_streetsAgainst_L72 C0 hr hlk (fun w hx0 hl h => ih w hx0 hl h) w hx0 (lv_sub hl [2, 3, 4, 0, 5] rfl) h
set_option maxHeartbeats 4000000 in
set_option maxRecDepth 100000 in
theorem c_X11_streetsAgainst (hG : jG n K r) {i : jI} {j : jL} {x0 : Nat} {x1 : Int32} {x2 : Int32} (hx0 : x0 < n ∧ K x0 = 10) (h : J_X11_streetsAgainst len r Q i j x0 x1 x2) : Met l yX11_streetsAgainst wsX11_streetsAgainst rm_X11_streetsAgainst (va_Pc [.ref (b + x0), .int x1, .int x2] (jPre b cy D tU n K len r i j)) (jQi b cy D tU n K len r Q) 0 0 (jA b) := by
  refine Met.ofW (cc := cX11_streetsAgainst) (maxL := 6) (ret := (some .int)) (by decide) rfl ?_
  intro p e s m args below meth c s₁ B hml hv
  obtain ⟨rfl, hv⟩ := hv
  have C0 : jCx p s m _ c cX11_streetsAgainst 6 wsX11_streetsAgainst RX11 b cy D tU n K r := ⟨B.exec, B.bytes, hml, findClass_of_methodNamed B.named, atoms_spec (ws := wsX11_streetsAgainst) B.pre, hv.2.2, hG⟩
  have hr := B.returns
  have hlk := B.notSynchronized
  obtain ⟨hx, hb, hml, hown, hts, hst, hG⟩ := id C0
  have hiX11 : ∀ w ∈ u_ws RX11 TX11 15, w ∈ wsX11_streetsAgainst := hiX11_X11_streetsAgainst
  have hiX8 : ∀ w ∈ u_ws RX8 TX8 8, w ∈ wsX11_streetsAgainst := hiX8_X11_streetsAgainst
  have w := jDy.start hv
  have hl := lv_entry ([.ref (b + x0), .int x1, .int x2]) (n := 6) (Nat.le_of_ble_eq_true rfl)
  rw [lg_entry_eq]
  generalize (lg_sl ([.ref (b + x0), .int x1, .int x2]) ++ List.replicate (6 - (lg_sl ([.ref (b + x0), .int x1, .int x2])).length) Slot.unset).toArray = ls at hl ⊢
  replace hl : lv_has ls 6 [(0, .ref (b + x0)), (1, .int x1), (2, .int x2)] := hl
  show W p l e rm_X11_streetsAgainst s m _ below meth c s.heap [] 0 0 _ (F0 m 0 ls [])
  rw [J_X11_streetsAgainst] at h
  refine lv_iconst (v := (0 : Int32)) hx hb dX11_streetsAgainst_0 (by decide) ?_
  refine lv_istore_n (lv' := [(3, .int (0 : Int32)), (0, .ref (b + x0)), (1, .int x1), (2, .int x2)]) hx hb dX11_streetsAgainst_1 rfl hl (by decide) rfl (fun ls hl => ?_)
  refine lv_iconst (v := (0 : Int32)) hx hb dX11_streetsAgainst_2 (by decide) ?_
  refine lv_istore (lv' := [(4, .int (0 : Int32)), (3, .int (0 : Int32)), (0, .ref (b + x0)), (1, .int x1), (2, .int x2)]) hx hb dX11_streetsAgainst_3 hl (by decide) rfl (fun ls hl => ?_)
  obtain ⟨g0, h⟩ := h
  exact w_X11_streetsAgainst_L5 C0 hr hlk g0 w hx0 (lv_sub hl [2, 3, 4, 1, 0] rfl) h
end S_X11_streetsAgainst
section S_X11_turnedByStone
def J_X11_turnedByStone_L49 (len : Nat → Nat) (r : jR) (Q : Int32 → jI → jL → Prop) (Hd4 : jI → jL → Nat → Int32 → Int32 → Int32 → Prop) (i : jI) (j : jL) (x0 : Nat) (x1 : Int32) (x2 : Int32) (x3 : Int32) : Prop := ∀ v49 : Int32, v49 = x3 + (1 : Int32) → (Hd4 i j x0 x1 x2 v49)
def J_X11_turnedByStone_L4 (len : Nat → Nat) (r : jR) (Q : Int32 → jI → jL → Prop) : Nat → jI → jL → Nat → Int32 → Int32 → Int32 → Prop
  | 0 => fun _ _ _ _ _ _ => False
  | g + 1 => fun i j x0 x1 x2 x3 => ∃ a6, r x0 1 = some a6 ∧ ((((i a6 0) ≤ x3) → (Q x2 i j)) ∧ ((¬ (i a6 0) ≤ x3) → (∃ a16, r x0 1 = some a16 ∧ (∃ a19, r a16 5 = some a19 ∧ (vp_in x3 (len a19) ∧ (∀ v24 : Int32, v24 = i a19 x3.toNatClampNeg → (J_X9_turnOf len r (fun (q29 : Int32) (i29 : jI) (j29 : jL) => J_X9_turnOf len r (fun (q37 : Int32) (i37 : jI) (j37 : jL) => ((q29 = q37) → (J_X11_turnedByStone_L49 len r Q (J_X11_turnedByStone_L4 len r Q g) i37 j37 x0 x1 x2 x3)) ∧ ((¬ q29 = q37) → (∀ v48 : Int32, v48 = x2 ||| ((1 : Int32) <<< (x3 &&& 31)) → (J_X11_turnedByStone_L49 len r Q (J_X11_turnedByStone_L4 len r Q g) i37 j37 x0 x1 v48 x3)))) i29 j29 x1 (v24 + (1 : Int32))) i j x1 v24)))))))
def J_X11_turnedByStone (len : Nat → Nat) (r : jR) (Q : Int32 → jI → jL → Prop) (i : jI) (j : jL) (x0 : Nat) (x1 : Int32) : Prop := ∃ g0, J_X11_turnedByStone_L4 len r Q g0 i j x0 x1 (0 : Int32) (0 : Int32)
abbrev rm_X11_turnedByStone : Room := { frames := 2, cells := 0, slots := 0, locals := 42 }
variable {p : Program} {l : Launch} {e : Env} {s : State} {m : MethodId} {args : Array Value} {below : List Frame} {meth : Method} {c : Code} {b tU n : Nat} {cy : Nat → ClassId} {D : va_G} {K len : Nat → Nat} {r : jR} {Q : Int32 → jI → jL → Prop}
theorem hiX11_X11_turnedByStone : ∀ w ∈ u_ws RX11 TX11 15, w ∈ wsX11_turnedByStone := by decide +kernel
theorem hiX8_X11_turnedByStone : ∀ w ∈ u_ws RX8 TX8 8, w ∈ wsX11_turnedByStone := by decide +kernel
set_option maxHeartbeats 4000000 in
set_option maxRecDepth 100000 in
theorem w_X11_turnedByStone_L49 (C0 : jCx p s m args c cX11_turnedByStone 5 wsX11_turnedByStone RX11 b cy D tU n K r) (hr : meth.sig.returnType = some .int) (hlk : meth.locks = false) {Hd4 : jI → jL → Nat → Int32 → Int32 → Int32 → Prop} (k4 : ∀ {H : Heap} {locs : List Loc} {ls : Array Slot} {i : jI} {j : jL} {x0 : Nat} {x1 : Int32} {x2 : Int32} {x3 : Int32} (w : jDy b cy D n K len r i j s H locs) (hx0 : x0 < n ∧ K x0 = 10) (hl : lv_has ls 5 [(0, .ref (b + x0)), (1, .int x1), (2, .int x2), (3, .int x3)]) (h : Hd4 i j x0 x1 x2 x3), W p l e rm_X11_turnedByStone s m args below meth c H locs 0 0 (MQ below (jQi b cy D tU n K len r Q) args s 0 0 (jA b)) (F0 m 4 ls [])) {H : Heap} {locs : List Loc} {ls : Array Slot} {i : jI} {j : jL} {x0 : Nat} {x1 : Int32} {x2 : Int32} {x3 : Int32} (w : jDy b cy D n K len r i j s H locs) (hx0 : x0 < n ∧ K x0 = 10) (hl : lv_has ls 5 [(0, .ref (b + x0)), (1, .int x1), (2, .int x2), (3, .int x3)]) (h : J_X11_turnedByStone_L49 len r Q Hd4 i j x0 x1 x2 x3) : W p l e rm_X11_turnedByStone s m args below meth c H locs 0 0 (MQ below (jQi b cy D tU n K len r Q) args s 0 0 (jA b)) (F0 m 49 ls []) := by
  obtain ⟨hx, hb, hml, hown, hts, hst, hG⟩ := id C0
  have hiX11 : ∀ w ∈ u_ws RX11 TX11 15, w ∈ wsX11_turnedByStone := hiX11_X11_turnedByStone
  have hiX8 : ∀ w ∈ u_ws RX8 TX8 8, w ∈ wsX11_turnedByStone := hiX8_X11_turnedByStone
  rw [J_X11_turnedByStone_L49] at h
  obtain ⟨v49, he⟩ : ∃ z : Int32, z = x3 + (1 : Int32) := ⟨_, rfl⟩
  replace h := h v49 he
  refine lv_iinc (v := v49) (lv' := [(3, .int v49), (0, .ref (b + x0)), (1, .int x1), (2, .int x2)]) hx hb dX11_turnedByStone_49 hl (k := 3) rfl (by rw [he]; rfl) (by decide) rfl (fun ls hl => ?_)
  clear he
  refine lv_goto (tgt := 4) hx hb dX11_turnedByStone_52 (by decide) ?_
  exact k4 w hx0 (lv_sub hl [1, 2, 3, 0] rfl) h
set_option maxHeartbeats 4000000 in
set_option maxRecDepth 100000 in
theorem w_X11_turnedByStone_L4 (C0 : jCx p s m args c cX11_turnedByStone 5 wsX11_turnedByStone RX11 b cy D tU n K r) (hr : meth.sig.returnType = some .int) (hlk : meth.locks = false) : ∀ (g : Nat) {H : Heap} {locs : List Loc} {ls : Array Slot} {i : jI} {j : jL} {x0 : Nat} {x1 : Int32} {x2 : Int32} {x3 : Int32} (w : jDy b cy D n K len r i j s H locs) (hx0 : x0 < n ∧ K x0 = 10) (hl : lv_has ls 5 [(0, .ref (b + x0)), (1, .int x1), (2, .int x2), (3, .int x3)]) (h : J_X11_turnedByStone_L4 len r Q g i j x0 x1 x2 x3), W p l e rm_X11_turnedByStone s m args below meth c H locs 0 0 (MQ below (jQi b cy D tU n K len r Q) args s 0 0 (jA b)) (F0 m 4 ls []) := by
  obtain ⟨hx, hb, hml, hown, hts, hst, hG⟩ := id C0
  have hiX11 : ∀ w ∈ u_ws RX11 TX11 15, w ∈ wsX11_turnedByStone := hiX11_X11_turnedByStone
  have hiX8 : ∀ w ∈ u_ws RX8 TX8 8, w ∈ wsX11_turnedByStone := hiX8_X11_turnedByStone
  intro g
  induction g with
  | zero => intro H locs ls i j x0 x1 x2 x3 w hx0 hl h; exact False.elim h
  | succ g ih =>
    intro H locs ls i j x0 x1 x2 x3 w hx0 hl h
    rw [J_X11_turnedByStone_L4] at h
    refine lv_iload_n hx hb dX11_turnedByStone_4 rfl (lv_at hl 3 rfl) ?_
    refine lv_aload_n hx hb dX11_turnedByStone_5 rfl (lv_at hl 0 rfl) ?_
    obtain ⟨a6, hr0, h⟩ := h
    refine jgr (f := 1) hx hb hts hown hst w hG hx0 hiX11 (rfl : vwCl[10]? = some (RX11, TX11, 15)) (hts (.fieldLink RX11 19 "FootByGate" "map" "LFootByGate$Town;") (by decide +kernel)) ⟨by decide, by decide, rfl⟩ (rfl : jrt 10 1 = 7) dX11_turnedByStone_6 hr0 (fun ha6 => ?_)
    clear hr0
    refine jgi (f := 0) hx hb hts hown hst w ha6 hiX8 (rfl : vwCl[7]? = some (RX8, TX8, 8)) (hts (.fieldLink RX11 105 "FootByGate$Town" "streets" "I") (by decide +kernel)) ⟨by decide, by decide, rfl⟩ dX11_turnedByStone_9 ?_
    refine lv_icmp_ge (tgt := 55) hx hb dX11_turnedByStone_12 (by decide) (fun hc => ?_) (fun hc => ?_)
    · replace h := h.1 hc
      clear hc
      refine lv_iload_n hx hb dX11_turnedByStone_55 rfl (lv_at hl 2 rfl) ?_
      exact jret_i hx hb hr hlk hst w h dX11_turnedByStone_56
    · replace h := h.2 hc
      clear hc
      refine lv_aload_n hx hb dX11_turnedByStone_15 rfl (lv_at hl 0 rfl) ?_
      obtain ⟨a16, hr0, h⟩ := h
      refine jgr (f := 1) hx hb hts hown hst w hG hx0 hiX11 (rfl : vwCl[10]? = some (RX11, TX11, 15)) (hts (.fieldLink RX11 19 "FootByGate" "map" "LFootByGate$Town;") (by decide +kernel)) ⟨by decide, by decide, rfl⟩ (rfl : jrt 10 1 = 7) dX11_turnedByStone_16 hr0 (fun ha16 => ?_)
      clear hr0
      obtain ⟨a19, hr0, h⟩ := h
      refine jgr (f := 5) hx hb hts hown hst w hG ha16 hiX8 (rfl : vwCl[7]? = some (RX8, TX8, 8)) (hts (.fieldLink RX11 118 "FootByGate$Town" "paces" "[I") (by decide +kernel)) ⟨by decide, by decide, rfl⟩ (rfl : jrt 7 5 = 13) dX11_turnedByStone_19 hr0 (fun ha19 => ?_)
      clear hr0
      refine lv_iload_n hx hb dX11_turnedByStone_22 rfl (lv_at hl 3 rfl) ?_
      obtain ⟨hn, h⟩ := h
      refine jaid hx hb hst w ha19 hn dX11_turnedByStone_23 ?_
      clear hn
      refine lv_topi (fun v24 he => ?_)
      replace h := h v24 he
      clear he
      refine lv_istore (lv' := [(4, .int v24), (0, .ref (b + x0)), (1, .int x1), (2, .int x2), (3, .int x3)]) hx hb dX11_turnedByStone_24 hl (by decide) rfl (fun ls hl => ?_)
      refine lv_iload_n hx hb dX11_turnedByStone_26 rfl (lv_at hl 2 rfl) ?_
      refine lv_iload hx hb dX11_turnedByStone_27 (lv_at hl 0 rfl) ?_
      refine jcS_i (As := [.int x1, .int v24]) (rest := []) C0 w (c_X9_turnOf hG h) (va_cwS 2 hts gX11_turnedByStone_X9_turnOf rfl rfl rfl (by decide +kernel) ⟨Nat.le_of_ble_eq_true rfl, Nat.le_of_ble_eq_true rfl⟩) rfl hl.1 rfl (Nat.le_of_ble_eq_true rfl) dX11_turnedByStone_29 (fun q29 i29 j29 H locs h w => ?_) ⟨Nat.zero_le _, Nat.zero_le _⟩
      refine lv_iload_n hx hb dX11_turnedByStone_32 rfl (lv_at hl 2 rfl) ?_
      refine lv_iload hx hb dX11_turnedByStone_33 (lv_at hl 0 rfl) ?_
      refine lv_iconst (v := (1 : Int32)) hx hb dX11_turnedByStone_35 (by decide) ?_
      refine lv_iadd hx hb dX11_turnedByStone_36 ?_
      refine jcS_i (As := [.int x1, .int (v24 + (1 : Int32))]) (rest := [.int q29]) C0 w (c_X9_turnOf hG h) (va_cwS 2 hts gX11_turnedByStone_X9_turnOf rfl rfl rfl (by decide +kernel) ⟨Nat.le_of_ble_eq_true rfl, Nat.le_of_ble_eq_true rfl⟩) rfl hl.1 rfl (Nat.le_of_ble_eq_true rfl) dX11_turnedByStone_37 (fun q37 i37 j37 H locs h w => ?_) ⟨Nat.zero_le _, Nat.zero_le _⟩
      refine lv_icmp_eq (tgt := 49) hx hb dX11_turnedByStone_40 (by decide) (fun hc => ?_) (fun hc => ?_)
      · replace h := h.1 hc
        clear hc
        exact w_X11_turnedByStone_L49 C0 hr hlk (fun w hx0 hl h => ih w hx0 hl h) w hx0 (lv_sub hl [1, 2, 3, 4] rfl) h
      · replace h := h.2 hc
        clear hc
        refine lv_iload_n hx hb dX11_turnedByStone_43 rfl (lv_at hl 3 rfl) ?_
        refine lv_iconst (v := (1 : Int32)) hx hb dX11_turnedByStone_44 (by decide) ?_
        refine lv_iload_n hx hb dX11_turnedByStone_45 rfl (lv_at hl 4 rfl) ?_
        refine lv_ishl hx hb dX11_turnedByStone_46 ?_
        refine lv_ior hx hb dX11_turnedByStone_47 ?_
        refine lv_topi (fun v48 he => ?_)
        replace h := h v48 he
        clear he
        refine lv_istore_n (lv' := [(2, .int v48), (4, .int v24), (0, .ref (b + x0)), (1, .int x1), (3, .int x3)]) hx hb dX11_turnedByStone_48 rfl hl (by decide) rfl (fun ls hl => ?_)
        exact w_X11_turnedByStone_L49 C0 hr hlk (fun w hx0 hl h => ih w hx0 hl h) w hx0 (lv_sub hl [2, 3, 0, 4] rfl) h
set_option maxHeartbeats 4000000 in
set_option maxRecDepth 100000 in
theorem c_X11_turnedByStone (hG : jG n K r) {i : jI} {j : jL} {x0 : Nat} {x1 : Int32} (hx0 : x0 < n ∧ K x0 = 10) (h : J_X11_turnedByStone len r Q i j x0 x1) : Met l yX11_turnedByStone wsX11_turnedByStone rm_X11_turnedByStone (va_Pc [.ref (b + x0), .int x1] (jPre b cy D tU n K len r i j)) (jQi b cy D tU n K len r Q) 0 0 (jA b) := by
  refine Met.ofW (cc := cX11_turnedByStone) (maxL := 5) (ret := (some .int)) (by decide) rfl ?_
  intro p e s m args below meth c s₁ B hml hv
  obtain ⟨rfl, hv⟩ := hv
  have C0 : jCx p s m _ c cX11_turnedByStone 5 wsX11_turnedByStone RX11 b cy D tU n K r := ⟨B.exec, B.bytes, hml, findClass_of_methodNamed B.named, atoms_spec (ws := wsX11_turnedByStone) B.pre, hv.2.2, hG⟩
  have hr := B.returns
  have hlk := B.notSynchronized
  obtain ⟨hx, hb, hml, hown, hts, hst, hG⟩ := id C0
  have hiX11 : ∀ w ∈ u_ws RX11 TX11 15, w ∈ wsX11_turnedByStone := hiX11_X11_turnedByStone
  have hiX8 : ∀ w ∈ u_ws RX8 TX8 8, w ∈ wsX11_turnedByStone := hiX8_X11_turnedByStone
  have w := jDy.start hv
  have hl := lv_entry ([.ref (b + x0), .int x1]) (n := 5) (Nat.le_of_ble_eq_true rfl)
  rw [lg_entry_eq]
  generalize (lg_sl ([.ref (b + x0), .int x1]) ++ List.replicate (5 - (lg_sl ([.ref (b + x0), .int x1])).length) Slot.unset).toArray = ls at hl ⊢
  replace hl : lv_has ls 5 [(0, .ref (b + x0)), (1, .int x1)] := hl
  show W p l e rm_X11_turnedByStone s m _ below meth c s.heap [] 0 0 _ (F0 m 0 ls [])
  rw [J_X11_turnedByStone] at h
  refine lv_iconst (v := (0 : Int32)) hx hb dX11_turnedByStone_0 (by decide) ?_
  refine lv_istore_n (lv' := [(2, .int (0 : Int32)), (0, .ref (b + x0)), (1, .int x1)]) hx hb dX11_turnedByStone_1 rfl hl (by decide) rfl (fun ls hl => ?_)
  refine lv_iconst (v := (0 : Int32)) hx hb dX11_turnedByStone_2 (by decide) ?_
  refine lv_istore_n (lv' := [(3, .int (0 : Int32)), (2, .int (0 : Int32)), (0, .ref (b + x0)), (1, .int x1)]) hx hb dX11_turnedByStone_3 rfl hl (by decide) rfl (fun ls hl => ?_)
  obtain ⟨g0, h⟩ := h
  exact w_X11_turnedByStone_L4 C0 hr hlk g0 w hx0 (lv_sub hl [2, 3, 1, 0] rfl) h
end S_X11_turnedByStone
section S_X11_stonesForEven
def J_X11_stonesForEven_L69 (len : Nat → Nat) (r : jR) (Q : Int32 → jI → jL → Prop) (Hd23 : jI → jL → Nat → Int32 → Int32 → Int32 → Int32 → Prop) (i : jI) (j : jL) (x0 : Nat) (x2 : Int32) (x3 : Int32) (x4 : Int32) (x5 : Int32) : Prop := ∀ v69 : Int32, v69 = x5 + (1 : Int32) → (Hd23 i j x0 x2 x3 x4 v69)
def J_X11_stonesForEven_L65 (len : Nat → Nat) (r : jR) (Q : Int32 → jI → jL → Prop) (Hd23 : jI → jL → Nat → Int32 → Int32 → Int32 → Int32 → Prop) (i : jI) (j : jL) (x0 : Nat) (x2 : Int32) (x3 : Int32) (x5 : Int32) (x6 : Int32) : Prop := J_X11_stonesForEven_L69 len r Q Hd23 i j x0 x2 x3 x6 x5
def J_X11_stonesForEven_L23 (len : Nat → Nat) (r : jR) (Q : Int32 → jI → jL → Prop) : Nat → jI → jL → Nat → Int32 → Int32 → Int32 → Int32 → Prop
  | 0 => fun _ _ _ _ _ _ _ => False
  | g + 1 => fun i j x0 x2 x3 x4 x5 => (((128 : Int32) ≤ x5) → (Q x4 i j)) ∧ ((¬ (128 : Int32) ≤ x5) → (J_X11_streetsAgainst len r (fun (q35 : Int32) (i35 : jI) (j35 : jL) => ((¬ (q35 &&& (x3 ^^^ (-1 : Int32))) = 0) → (J_X11_stonesForEven_L69 len r Q (J_X11_stonesForEven_L23 len r Q g) i35 j35 x0 x2 x3 x4 x5)) ∧ (((q35 &&& (x3 ^^^ (-1 : Int32))) = 0) → (((x4 = (-1 : Int32)) → (J_X11_stonesForEven_L65 len r Q (J_X11_stonesForEven_L23 len r Q g) i35 j35 x0 x2 x3 x5 q35)) ∧ ((¬ x4 = (-1 : Int32)) → (J_X11_isBetter len r (fun (q59 : Int32) (i59 : jI) (j59 : jL) => ((q59 = 0) → (J_X11_stonesForEven_L69 len r Q (J_X11_stonesForEven_L23 len r Q g) i59 j59 x0 x2 x3 x4 x5)) ∧ ((¬ q59 = 0) → (J_X11_stonesForEven_L65 len r Q (J_X11_stonesForEven_L23 len r Q g) i59 j59 x0 x2 x3 x5 q35))) i35 j35 q35 x4))))) i j x0 x5 x2))
def J_X11_stonesForEven_L10 (len : Nat → Nat) (r : jR) (Q : Int32 → jI → jL → Prop) (i : jI) (j : jL) (x0 : Nat) (t0 : Int32) : Prop := J_X11_turnedByStone len r (fun (q13 : Int32) (i13 : jI) (j13 : jL) => ∃ g0, J_X11_stonesForEven_L23 len r Q g0 i13 j13 x0 t0 q13 (-1 : Int32) (0 : Int32)) i j x0 t0
def J_X11_stonesForEven (len : Nat → Nat) (r : jR) (Q : Int32 → jI → jL → Prop) (i : jI) (j : jL) (x0 : Nat) (x1 : Int32) : Prop := ((¬ x1 = (3 : Int32)) → (J_X11_stonesForEven_L10 len r Q i j x0 x1)) ∧ ((x1 = (3 : Int32)) → (J_X11_stonesForEven_L10 len r Q i j x0 (0 : Int32)))
abbrev rm_X11_stonesForEven : Room := { frames := 3, cells := 0, slots := 0, locals := 67 }
variable {p : Program} {l : Launch} {e : Env} {s : State} {m : MethodId} {args : Array Value} {below : List Frame} {meth : Method} {c : Code} {b tU n : Nat} {cy : Nat → ClassId} {D : va_G} {K len : Nat → Nat} {r : jR} {Q : Int32 → jI → jL → Prop}
set_option maxHeartbeats 4000000 in
set_option maxRecDepth 100000 in
theorem w_X11_stonesForEven_L69 (C0 : jCx p s m args c cX11_stonesForEven 7 wsX11_stonesForEven RX11 b cy D tU n K r) (hr : meth.sig.returnType = some .int) (hlk : meth.locks = false) {Hd23 : jI → jL → Nat → Int32 → Int32 → Int32 → Int32 → Prop} (k23 : ∀ {H : Heap} {locs : List Loc} {ls : Array Slot} {i : jI} {j : jL} {x0 : Nat} {x2 : Int32} {x3 : Int32} {x4 : Int32} {x5 : Int32} (w : jDy b cy D n K len r i j s H locs) (hx0 : x0 < n ∧ K x0 = 10) (hl : lv_has ls 7 [(0, .ref (b + x0)), (2, .int x2), (3, .int x3), (4, .int x4), (5, .int x5)]) (h : Hd23 i j x0 x2 x3 x4 x5), W p l e rm_X11_stonesForEven s m args below meth c H locs 0 0 (MQ below (jQi b cy D tU n K len r Q) args s 0 0 (jA b)) (F0 m 23 ls [])) {H : Heap} {locs : List Loc} {ls : Array Slot} {i : jI} {j : jL} {x0 : Nat} {x2 : Int32} {x3 : Int32} {x4 : Int32} {x5 : Int32} (w : jDy b cy D n K len r i j s H locs) (hx0 : x0 < n ∧ K x0 = 10) (hl : lv_has ls 7 [(0, .ref (b + x0)), (2, .int x2), (3, .int x3), (4, .int x4), (5, .int x5)]) (h : J_X11_stonesForEven_L69 len r Q Hd23 i j x0 x2 x3 x4 x5) : W p l e rm_X11_stonesForEven s m args below meth c H locs 0 0 (MQ below (jQi b cy D tU n K len r Q) args s 0 0 (jA b)) (F0 m 69 ls []) := by
  obtain ⟨hx, hb, hml, hown, hts, hst, hG⟩ := id C0
  rw [J_X11_stonesForEven_L69] at h
  obtain ⟨v69, he⟩ : ∃ z : Int32, z = x5 + (1 : Int32) := ⟨_, rfl⟩
  replace h := h v69 he
  refine lv_iinc (v := v69) (lv' := [(5, .int v69), (0, .ref (b + x0)), (2, .int x2), (3, .int x3), (4, .int x4)]) hx hb dX11_stonesForEven_69 hl (k := 4) rfl (by rw [he]; rfl) (by decide) rfl (fun ls hl => ?_)
  clear he
  refine lv_goto (tgt := 23) hx hb dX11_stonesForEven_72 (by decide) ?_
  exact k23 w hx0 (lv_sub hl [1, 2, 3, 4, 0] rfl) h
set_option maxHeartbeats 4000000 in
set_option maxRecDepth 100000 in
theorem w_X11_stonesForEven_L65 (C0 : jCx p s m args c cX11_stonesForEven 7 wsX11_stonesForEven RX11 b cy D tU n K r) (hr : meth.sig.returnType = some .int) (hlk : meth.locks = false) {Hd23 : jI → jL → Nat → Int32 → Int32 → Int32 → Int32 → Prop} (k23 : ∀ {H : Heap} {locs : List Loc} {ls : Array Slot} {i : jI} {j : jL} {x0 : Nat} {x2 : Int32} {x3 : Int32} {x4 : Int32} {x5 : Int32} (w : jDy b cy D n K len r i j s H locs) (hx0 : x0 < n ∧ K x0 = 10) (hl : lv_has ls 7 [(0, .ref (b + x0)), (2, .int x2), (3, .int x3), (4, .int x4), (5, .int x5)]) (h : Hd23 i j x0 x2 x3 x4 x5), W p l e rm_X11_stonesForEven s m args below meth c H locs 0 0 (MQ below (jQi b cy D tU n K len r Q) args s 0 0 (jA b)) (F0 m 23 ls [])) {H : Heap} {locs : List Loc} {ls : Array Slot} {i : jI} {j : jL} {x0 : Nat} {x2 : Int32} {x3 : Int32} {x5 : Int32} {x6 : Int32} (w : jDy b cy D n K len r i j s H locs) (hx0 : x0 < n ∧ K x0 = 10) (hl : lv_has ls 7 [(0, .ref (b + x0)), (2, .int x2), (3, .int x3), (5, .int x5), (6, .int x6)]) (h : J_X11_stonesForEven_L65 len r Q Hd23 i j x0 x2 x3 x5 x6) : W p l e rm_X11_stonesForEven s m args below meth c H locs 0 0 (MQ below (jQi b cy D tU n K len r Q) args s 0 0 (jA b)) (F0 m 65 ls []) := by
  obtain ⟨hx, hb, hml, hown, hts, hst, hG⟩ := id C0
  rw [J_X11_stonesForEven_L65] at h
  refine lv_iload hx hb dX11_stonesForEven_65 (lv_at hl 4 rfl) ?_
  refine lv_istore (lv' := [(4, .int x6), (0, .ref (b + x0)), (2, .int x2), (3, .int x3), (5, .int x5), (6, .int x6)]) hx hb dX11_stonesForEven_67 hl (by decide) rfl (fun ls hl => ?_)
  exact w_X11_stonesForEven_L69 C0 hr hlk (fun w hx0 hl h => k23 w hx0 hl h) w hx0 (lv_sub hl [1, 2, 3, 0, 4] rfl) h
set_option maxHeartbeats 4000000 in
set_option maxRecDepth 100000 in
theorem w_X11_stonesForEven_L23 (C0 : jCx p s m args c cX11_stonesForEven 7 wsX11_stonesForEven RX11 b cy D tU n K r) (hr : meth.sig.returnType = some .int) (hlk : meth.locks = false) : ∀ (g : Nat) {H : Heap} {locs : List Loc} {ls : Array Slot} {i : jI} {j : jL} {x0 : Nat} {x2 : Int32} {x3 : Int32} {x4 : Int32} {x5 : Int32} (w : jDy b cy D n K len r i j s H locs) (hx0 : x0 < n ∧ K x0 = 10) (hl : lv_has ls 7 [(0, .ref (b + x0)), (2, .int x2), (3, .int x3), (4, .int x4), (5, .int x5)]) (h : J_X11_stonesForEven_L23 len r Q g i j x0 x2 x3 x4 x5), W p l e rm_X11_stonesForEven s m args below meth c H locs 0 0 (MQ below (jQi b cy D tU n K len r Q) args s 0 0 (jA b)) (F0 m 23 ls []) := by
  obtain ⟨hx, hb, hml, hown, hts, hst, hG⟩ := id C0
  intro g
  induction g with
  | zero => intro H locs ls i j x0 x2 x3 x4 x5 w hx0 hl h; exact False.elim h
  | succ g ih =>
    intro H locs ls i j x0 x2 x3 x4 x5 w hx0 hl h
    rw [J_X11_stonesForEven_L23] at h
    refine lv_iload hx hb dX11_stonesForEven_23 (lv_at hl 4 rfl) ?_
    refine lv_sipush (v := (128 : Int32)) hx hb dX11_stonesForEven_25 (by decide) ?_
    refine lv_icmp_ge (tgt := 75) hx hb dX11_stonesForEven_28 (by decide) (fun hc => ?_) (fun hc => ?_)
    · replace h := h.1 hc
      clear hc
      refine lv_iload hx hb dX11_stonesForEven_75 (lv_at hl 3 rfl) ?_
      exact jret_i hx hb hr hlk hst w h dX11_stonesForEven_77
    · replace h := h.2 hc
      clear hc
      refine lv_aload_n hx hb dX11_stonesForEven_31 rfl (lv_at hl 0 rfl) ?_
      refine lv_iload hx hb dX11_stonesForEven_32 (lv_at hl 4 rfl) ?_
      refine lv_iload_n hx hb dX11_stonesForEven_34 rfl (lv_at hl 1 rfl) ?_
      refine jcV_i (k := x0) (As := [.int x5, .int x2]) (rest := []) C0 w (c_X11_streetsAgainst hG hx0 h) (cwV 2 hts gX11_stonesForEven_X11_streetsAgainst rfl rfl rfl (by decide +kernel) ⟨Nat.le_of_ble_eq_true rfl, Nat.le_of_ble_eq_true rfl⟩) hx0 (rfl : vwCl[10]? = some (RX11, TX11, 15)) (by decide) rfl hl.1 rfl (Nat.le_of_ble_eq_true rfl) dX11_stonesForEven_35 (fun q35 i35 j35 H locs h w => ?_) ⟨Nat.zero_le _, Nat.zero_le _⟩
      refine lv_istore (lv' := [(6, .int q35), (0, .ref (b + x0)), (2, .int x2), (3, .int x3), (4, .int x4), (5, .int x5)]) hx hb dX11_stonesForEven_38 hl (by decide) rfl (fun ls hl => ?_)
      refine lv_iload hx hb dX11_stonesForEven_40 (lv_at hl 0 rfl) ?_
      refine lv_iload_n hx hb dX11_stonesForEven_42 rfl (lv_at hl 3 rfl) ?_
      refine lv_iconst (v := (-1 : Int32)) hx hb dX11_stonesForEven_43 (by decide) ?_
      refine lv_ixor hx hb dX11_stonesForEven_44 ?_
      refine lv_iand hx hb dX11_stonesForEven_45 ?_
      refine lv_if_ne (tgt := 69) hx hb dX11_stonesForEven_46 (by decide) (fun hc => ?_) (fun hc => ?_)
      · replace h := h.1 hc
        clear hc
        exact w_X11_stonesForEven_L69 C0 hr hlk (fun w hx0 hl h => ih w hx0 hl h) w hx0 (lv_sub hl [1, 2, 3, 4, 5] rfl) h
      · replace h := h.2 hc
        clear hc
        refine lv_iload hx hb dX11_stonesForEven_49 (lv_at hl 4 rfl) ?_
        refine lv_iconst (v := (-1 : Int32)) hx hb dX11_stonesForEven_51 (by decide) ?_
        refine lv_icmp_eq (tgt := 65) hx hb dX11_stonesForEven_52 (by decide) (fun hc => ?_) (fun hc => ?_)
        · replace h := h.1 hc
          clear hc
          exact w_X11_stonesForEven_L65 C0 hr hlk (fun w hx0 hl h => ih w hx0 hl h) w hx0 (lv_sub hl [1, 2, 3, 5, 0] rfl) h
        · replace h := h.2 hc
          clear hc
          refine lv_iload hx hb dX11_stonesForEven_55 (lv_at hl 0 rfl) ?_
          refine lv_iload hx hb dX11_stonesForEven_57 (lv_at hl 4 rfl) ?_
          refine jcS_i (As := [.int q35, .int x4]) (rest := []) C0 w (c_X11_isBetter hG h) (va_cwS 2 hts gX11_stonesForEven_X11_isBetter rfl rfl rfl (by decide +kernel) ⟨Nat.le_of_ble_eq_true rfl, Nat.le_of_ble_eq_true rfl⟩) rfl hl.1 rfl (Nat.le_of_ble_eq_true rfl) dX11_stonesForEven_59 (fun q59 i59 j59 H locs h w => ?_) ⟨Nat.zero_le _, Nat.zero_le _⟩
          refine lv_if_eq (tgt := 69) hx hb dX11_stonesForEven_62 (by decide) (fun hc => ?_) (fun hc => ?_)
          · replace h := h.1 hc
            clear hc
            exact w_X11_stonesForEven_L69 C0 hr hlk (fun w hx0 hl h => ih w hx0 hl h) w hx0 (lv_sub hl [1, 2, 3, 4, 5] rfl) h
          · replace h := h.2 hc
            clear hc
            exact w_X11_stonesForEven_L65 C0 hr hlk (fun w hx0 hl h => ih w hx0 hl h) w hx0 (lv_sub hl [1, 2, 3, 5, 0] rfl) h
set_option maxHeartbeats 4000000 in
set_option maxRecDepth 100000 in
theorem w_X11_stonesForEven_L10 (C0 : jCx p s m args c cX11_stonesForEven 7 wsX11_stonesForEven RX11 b cy D tU n K r) (hr : meth.sig.returnType = some .int) (hlk : meth.locks = false) {H : Heap} {locs : List Loc} {ls : Array Slot} {i : jI} {j : jL} {x0 : Nat} {t0 : Int32} (w : jDy b cy D n K len r i j s H locs) (hx0 : x0 < n ∧ K x0 = 10) (hl : lv_has ls 7 [(0, .ref (b + x0))]) (h : J_X11_stonesForEven_L10 len r Q i j x0 t0) : W p l e rm_X11_stonesForEven s m args below meth c H locs 0 0 (MQ below (jQi b cy D tU n K len r Q) args s 0 0 (jA b)) (F0 m 10 ls [.int t0]) := by
  obtain ⟨hx, hb, hml, hown, hts, hst, hG⟩ := id C0
  rw [J_X11_stonesForEven_L10] at h
  refine lv_istore_n (lv' := [(2, .int t0), (0, .ref (b + x0))]) hx hb dX11_stonesForEven_10 rfl hl (by decide) rfl (fun ls hl => ?_)
  refine lv_aload_n hx hb dX11_stonesForEven_11 rfl (lv_at hl 1 rfl) ?_
  refine lv_iload_n hx hb dX11_stonesForEven_12 rfl (lv_at hl 0 rfl) ?_
  refine jcV_i (k := x0) (As := [.int t0]) (rest := []) C0 w (c_X11_turnedByStone hG hx0 h) (cwV 1 hts gX11_stonesForEven_X11_turnedByStone rfl rfl rfl (by decide +kernel) ⟨Nat.le_of_ble_eq_true rfl, Nat.le_of_ble_eq_true rfl⟩) hx0 (rfl : vwCl[10]? = some (RX11, TX11, 15)) (by decide) rfl hl.1 rfl (Nat.le_of_ble_eq_true rfl) dX11_stonesForEven_13 (fun q13 i13 j13 H locs h w => ?_) ⟨Nat.zero_le _, Nat.zero_le _⟩
  refine lv_istore_n (lv' := [(3, .int q13), (2, .int t0), (0, .ref (b + x0))]) hx hb dX11_stonesForEven_16 rfl hl (by decide) rfl (fun ls hl => ?_)
  refine lv_iconst (v := (-1 : Int32)) hx hb dX11_stonesForEven_17 (by decide) ?_
  refine lv_istore (lv' := [(4, .int (-1 : Int32)), (3, .int q13), (2, .int t0), (0, .ref (b + x0))]) hx hb dX11_stonesForEven_18 hl (by decide) rfl (fun ls hl => ?_)
  refine lv_iconst (v := (0 : Int32)) hx hb dX11_stonesForEven_20 (by decide) ?_
  refine lv_istore (lv' := [(5, .int (0 : Int32)), (4, .int (-1 : Int32)), (3, .int q13), (2, .int t0), (0, .ref (b + x0))]) hx hb dX11_stonesForEven_21 hl (by decide) rfl (fun ls hl => ?_)
  obtain ⟨g0, h⟩ := h
  exact w_X11_stonesForEven_L23 C0 hr hlk g0 w hx0 (lv_sub hl [4, 3, 2, 1, 0] rfl) h
set_option maxHeartbeats 4000000 in
set_option maxRecDepth 100000 in
theorem c_X11_stonesForEven (hG : jG n K r) {i : jI} {j : jL} {x0 : Nat} {x1 : Int32} (hx0 : x0 < n ∧ K x0 = 10) (h : J_X11_stonesForEven len r Q i j x0 x1) : Met l yX11_stonesForEven wsX11_stonesForEven rm_X11_stonesForEven (va_Pc [.ref (b + x0), .int x1] (jPre b cy D tU n K len r i j)) (jQi b cy D tU n K len r Q) 0 0 (jA b) := by
  refine Met.ofW (cc := cX11_stonesForEven) (maxL := 7) (ret := (some .int)) (by decide) rfl ?_
  intro p e s m args below meth c s₁ B hml hv
  obtain ⟨rfl, hv⟩ := hv
  have C0 : jCx p s m _ c cX11_stonesForEven 7 wsX11_stonesForEven RX11 b cy D tU n K r := ⟨B.exec, B.bytes, hml, findClass_of_methodNamed B.named, atoms_spec (ws := wsX11_stonesForEven) B.pre, hv.2.2, hG⟩
  have hr := B.returns
  have hlk := B.notSynchronized
  obtain ⟨hx, hb, hml, hown, hts, hst, hG⟩ := id C0
  have w := jDy.start hv
  have hl := lv_entry ([.ref (b + x0), .int x1]) (n := 7) (Nat.le_of_ble_eq_true rfl)
  rw [lg_entry_eq]
  generalize (lg_sl ([.ref (b + x0), .int x1]) ++ List.replicate (7 - (lg_sl ([.ref (b + x0), .int x1])).length) Slot.unset).toArray = ls at hl ⊢
  replace hl : lv_has ls 7 [(0, .ref (b + x0)), (1, .int x1)] := hl
  show W p l e rm_X11_stonesForEven s m _ below meth c s.heap [] 0 0 _ (F0 m 0 ls [])
  rw [J_X11_stonesForEven] at h
  refine lv_iload_n hx hb dX11_stonesForEven_0 rfl (lv_at hl 1 rfl) ?_
  refine lv_iconst (v := (3 : Int32)) hx hb dX11_stonesForEven_1 (by decide) ?_
  refine lv_icmp_ne (tgt := 9) hx hb dX11_stonesForEven_2 (by decide) (fun hc => ?_) (fun hc => ?_)
  · replace h := h.1 hc
    clear hc
    refine lv_iload_n hx hb dX11_stonesForEven_9 rfl (lv_at hl 1 rfl) ?_
    exact w_X11_stonesForEven_L10 C0 hr hlk w hx0 (lv_sub hl [0] rfl) h
  · replace h := h.2 hc
    clear hc
    refine lv_iconst (v := (0 : Int32)) hx hb dX11_stonesForEven_5 (by decide) ?_
    refine lv_goto (tgt := 10) hx hb dX11_stonesForEven_6 (by decide) ?_
    exact w_X11_stonesForEven_L10 C0 hr hlk w hx0 (lv_sub hl [0] rfl) h
end S_X11_stonesForEven
section S_X11_street
def J_X11_street (len : Nat → Nat) (r : jR) (Q : Int32 → jI → jL → Prop) (i : jI) (j : jL) (x0 : Nat) (x1 : Int32) (x2 : Int32) : Prop := J_X11_isStreet len r (fun (q2 : Int32) (i2 : jI) (j2 : jL) => ((¬ q2 = 0) → (((x2 = (0 : Int32)) → (∃ a45, r x0 1 = some a45 ∧ (∃ a48, r a45 3 = some a48 ∧ (vp_in x1 (len a48) ∧ (Q (i2 a48 x1.toNatClampNeg) i2 j2))))) ∧ (((x2 = (1 : Int32)) → (∃ a55, r x0 1 = some a55 ∧ (∃ a58, r a55 4 = some a58 ∧ (vp_in x1 (len a58) ∧ (Q (i2 a58 x1.toNatClampNeg) i2 j2))))) ∧ (((x2 = (2 : Int32)) → (∃ a65, r x0 1 = some a65 ∧ (∃ a68, r a65 5 = some a68 ∧ (vp_in x1 (len a68) ∧ (Q (i2 a68 x1.toNatClampNeg) i2 j2))))) ∧ (((x2 = (3 : Int32)) → (∃ a75, r x0 1 = some a75 ∧ (∃ a78, r a75 6 = some a78 ∧ (vp_in x1 (len a78) ∧ (Q (i2 a78 x1.toNatClampNeg) i2 j2))))) ∧ ((¬ x2 = (0 : Int32) → ¬ x2 = (1 : Int32) → ¬ x2 = (2 : Int32) → ¬ x2 = (3 : Int32) → (Q (-102 : Int32) i2 j2)))))))) ∧ ((q2 = 0) → (Q (-101 : Int32) i2 j2))) i j x0 x1
abbrev rm_X11_street : Room := { frames := 1, cells := 0, slots := 0, locals := 21 }
variable {p : Program} {l : Launch} {e : Env} {s : State} {m : MethodId} {args : Array Value} {below : List Frame} {meth : Method} {c : Code} {b tU n : Nat} {cy : Nat → ClassId} {D : va_G} {K len : Nat → Nat} {r : jR} {Q : Int32 → jI → jL → Prop}
theorem hiX11_X11_street : ∀ w ∈ u_ws RX11 TX11 15, w ∈ wsX11_street := by decide +kernel
theorem hiX8_X11_street : ∀ w ∈ u_ws RX8 TX8 8, w ∈ wsX11_street := by decide +kernel
set_option maxHeartbeats 4000000 in
set_option maxRecDepth 100000 in
theorem c_X11_street (hG : jG n K r) {i : jI} {j : jL} {x0 : Nat} {x1 : Int32} {x2 : Int32} (hx0 : x0 < n ∧ K x0 = 10) (h : J_X11_street len r Q i j x0 x1 x2) : Met l yX11_street wsX11_street rm_X11_street (va_Pc [.ref (b + x0), .int x1, .int x2] (jPre b cy D tU n K len r i j)) (jQi b cy D tU n K len r Q) 0 0 (jA b) := by
  refine Met.ofW (cc := cX11_street) (maxL := 3) (ret := (some .int)) (by decide) rfl ?_
  intro p e s m args below meth c s₁ B hml hv
  obtain ⟨rfl, hv⟩ := hv
  have C0 : jCx p s m _ c cX11_street 3 wsX11_street RX11 b cy D tU n K r := ⟨B.exec, B.bytes, hml, findClass_of_methodNamed B.named, atoms_spec (ws := wsX11_street) B.pre, hv.2.2, hG⟩
  have hr := B.returns
  have hlk := B.notSynchronized
  obtain ⟨hx, hb, hml, hown, hts, hst, hG⟩ := id C0
  have hiX11 : ∀ w ∈ u_ws RX11 TX11 15, w ∈ wsX11_street := hiX11_X11_street
  have hiX8 : ∀ w ∈ u_ws RX8 TX8 8, w ∈ wsX11_street := hiX8_X11_street
  have w := jDy.start hv
  have hl := lv_entry ([.ref (b + x0), .int x1, .int x2]) (n := 3) (Nat.le_of_ble_eq_true rfl)
  rw [lg_entry_eq]
  generalize (lg_sl ([.ref (b + x0), .int x1, .int x2]) ++ List.replicate (3 - (lg_sl ([.ref (b + x0), .int x1, .int x2])).length) Slot.unset).toArray = ls at hl ⊢
  replace hl : lv_has ls 3 [(0, .ref (b + x0)), (1, .int x1), (2, .int x2)] := hl
  show W p l e rm_X11_street s m _ below meth c s.heap [] 0 0 _ (F0 m 0 ls [])
  rw [J_X11_street] at h
  refine lv_aload_n hx hb dX11_street_0 rfl (lv_at hl 0 rfl) ?_
  refine lv_iload_n hx hb dX11_street_1 rfl (lv_at hl 1 rfl) ?_
  refine jcV_i (k := x0) (As := [.int x1]) (rest := []) C0 w (c_X11_isStreet hG hx0 h) (cwV 1 hts gX11_street_X11_isStreet rfl rfl rfl (by decide +kernel) ⟨Nat.le_of_ble_eq_true rfl, Nat.le_of_ble_eq_true rfl⟩) hx0 (rfl : vwCl[10]? = some (RX11, TX11, 15)) (by decide) rfl hl.1 rfl (Nat.le_of_ble_eq_true rfl) dX11_street_2 (fun q2 i2 j2 H locs h w => ?_) ⟨Nat.zero_le _, Nat.zero_le _⟩
  refine lv_if_ne (tgt := 11) hx hb dX11_street_5 (by decide) (fun hc => ?_) (fun hc => ?_)
  · replace h := h.1 hc
    clear hc
    refine lv_iload_n hx hb dX11_street_11 rfl (lv_at hl 2 rfl) ?_
    by_cases hc0 : x2 = (0 : Int32)
    · replace h := h.1 hc0
      refine lv_tableIn (off := 32) (tgt := 44) hx hb dX11_street_12 (by rw [hc0]; decide) (by rw [hc0]; decide) (by rw [hc0]; rfl) (by decide) ?_
      clear hc0
      refine lv_aload_n hx hb dX11_street_44 rfl (lv_at hl 0 rfl) ?_
      obtain ⟨a45, hr0, h⟩ := h
      refine jgr (f := 1) hx hb hts hown hst w hG hx0 hiX11 (rfl : vwCl[10]? = some (RX11, TX11, 15)) (hts (.fieldLink RX11 19 "FootByGate" "map" "LFootByGate$Town;") (by decide +kernel)) ⟨by decide, by decide, rfl⟩ (rfl : jrt 10 1 = 7) dX11_street_45 hr0 (fun ha45 => ?_)
      clear hr0
      obtain ⟨a48, hr0, h⟩ := h
      refine jgr (f := 3) hx hb hts hown hst w hG ha45 hiX8 (rfl : vwCl[7]? = some (RX8, TX8, 8)) (hts (.fieldLink RX11 112 "FootByGate$Town" "first" "[I") (by decide +kernel)) ⟨by decide, by decide, rfl⟩ (rfl : jrt 7 3 = 13) dX11_street_48 hr0 (fun ha48 => ?_)
      clear hr0
      refine lv_iload_n hx hb dX11_street_51 rfl (lv_at hl 1 rfl) ?_
      obtain ⟨hn, h⟩ := h
      refine jaid hx hb hst w ha48 hn dX11_street_52 ?_
      clear hn
      exact jret_i hx hb hr hlk hst w h dX11_street_53
    replace h := h.2
    by_cases hc1 : x2 = (1 : Int32)
    · replace h := h.1 hc1
      refine lv_tableIn (off := 42) (tgt := 54) hx hb dX11_street_12 (by rw [hc1]; decide) (by rw [hc1]; decide) (by rw [hc1]; rfl) (by decide) ?_
      clear hc1
      refine lv_aload_n hx hb dX11_street_54 rfl (lv_at hl 0 rfl) ?_
      obtain ⟨a55, hr0, h⟩ := h
      refine jgr (f := 1) hx hb hts hown hst w hG hx0 hiX11 (rfl : vwCl[10]? = some (RX11, TX11, 15)) (hts (.fieldLink RX11 19 "FootByGate" "map" "LFootByGate$Town;") (by decide +kernel)) ⟨by decide, by decide, rfl⟩ (rfl : jrt 10 1 = 7) dX11_street_55 hr0 (fun ha55 => ?_)
      clear hr0
      obtain ⟨a58, hr0, h⟩ := h
      refine jgr (f := 4) hx hb hts hown hst w hG ha55 hiX8 (rfl : vwCl[7]? = some (RX8, TX8, 8)) (hts (.fieldLink RX11 115 "FootByGate$Town" "second" "[I") (by decide +kernel)) ⟨by decide, by decide, rfl⟩ (rfl : jrt 7 4 = 13) dX11_street_58 hr0 (fun ha58 => ?_)
      clear hr0
      refine lv_iload_n hx hb dX11_street_61 rfl (lv_at hl 1 rfl) ?_
      obtain ⟨hn, h⟩ := h
      refine jaid hx hb hst w ha58 hn dX11_street_62 ?_
      clear hn
      exact jret_i hx hb hr hlk hst w h dX11_street_63
    replace h := h.2
    by_cases hc2 : x2 = (2 : Int32)
    · replace h := h.1 hc2
      refine lv_tableIn (off := 52) (tgt := 64) hx hb dX11_street_12 (by rw [hc2]; decide) (by rw [hc2]; decide) (by rw [hc2]; rfl) (by decide) ?_
      clear hc2
      refine lv_aload_n hx hb dX11_street_64 rfl (lv_at hl 0 rfl) ?_
      obtain ⟨a65, hr0, h⟩ := h
      refine jgr (f := 1) hx hb hts hown hst w hG hx0 hiX11 (rfl : vwCl[10]? = some (RX11, TX11, 15)) (hts (.fieldLink RX11 19 "FootByGate" "map" "LFootByGate$Town;") (by decide +kernel)) ⟨by decide, by decide, rfl⟩ (rfl : jrt 10 1 = 7) dX11_street_65 hr0 (fun ha65 => ?_)
      clear hr0
      obtain ⟨a68, hr0, h⟩ := h
      refine jgr (f := 5) hx hb hts hown hst w hG ha65 hiX8 (rfl : vwCl[7]? = some (RX8, TX8, 8)) (hts (.fieldLink RX11 118 "FootByGate$Town" "paces" "[I") (by decide +kernel)) ⟨by decide, by decide, rfl⟩ (rfl : jrt 7 5 = 13) dX11_street_68 hr0 (fun ha68 => ?_)
      clear hr0
      refine lv_iload_n hx hb dX11_street_71 rfl (lv_at hl 1 rfl) ?_
      obtain ⟨hn, h⟩ := h
      refine jaid hx hb hst w ha68 hn dX11_street_72 ?_
      clear hn
      exact jret_i hx hb hr hlk hst w h dX11_street_73
    replace h := h.2
    by_cases hc3 : x2 = (3 : Int32)
    · replace h := h.1 hc3
      refine lv_tableIn (off := 62) (tgt := 74) hx hb dX11_street_12 (by rw [hc3]; decide) (by rw [hc3]; decide) (by rw [hc3]; rfl) (by decide) ?_
      clear hc3
      refine lv_aload_n hx hb dX11_street_74 rfl (lv_at hl 0 rfl) ?_
      obtain ⟨a75, hr0, h⟩ := h
      refine jgr (f := 1) hx hb hts hown hst w hG hx0 hiX11 (rfl : vwCl[10]? = some (RX11, TX11, 15)) (hts (.fieldLink RX11 19 "FootByGate" "map" "LFootByGate$Town;") (by decide +kernel)) ⟨by decide, by decide, rfl⟩ (rfl : jrt 10 1 = 7) dX11_street_75 hr0 (fun ha75 => ?_)
      clear hr0
      obtain ⟨a78, hr0, h⟩ := h
      refine jgr (f := 6) hx hb hts hown hst w hG ha75 hiX8 (rfl : vwCl[7]? = some (RX8, TX8, 8)) (hts (.fieldLink RX11 121 "FootByGate$Town" "gate" "[I") (by decide +kernel)) ⟨by decide, by decide, rfl⟩ (rfl : jrt 7 6 = 13) dX11_street_78 hr0 (fun ha78 => ?_)
      clear hr0
      refine lv_iload_n hx hb dX11_street_81 rfl (lv_at hl 1 rfl) ?_
      obtain ⟨hn, h⟩ := h
      refine jaid hx hb hst w ha78 hn dX11_street_82 ?_
      clear hn
      exact jret_i hx hb hr hlk hst w h dX11_street_83
    replace h := h.2
    replace h := h hc0 hc1 hc2 hc3
    have hd : x2.toInt < 0 ∨ 3 < x2.toInt := by
      rcases Int.lt_or_le x2.toInt 0 with h1 | h1
      · exact Or.inl h1
      rcases Int.lt_or_le 3 x2.toInt with h2 | h2
      · exact Or.inr h2
      exfalso
      have h3 : x2.toInt = 0 ∨ x2.toInt = 1 ∨ x2.toInt = 2 ∨ x2.toInt = 3 := by omega
      rcases h3 with h3 | h3 | h3 | h3
      · exact hc0 (Int32.toInt_inj.mp (h3.trans (by decide)))
      · exact hc1 (Int32.toInt_inj.mp (h3.trans (by decide)))
      · exact hc2 (Int32.toInt_inj.mp (h3.trans (by decide)))
      · exact hc3 (Int32.toInt_inj.mp (h3.trans (by decide)))
    refine lv_tableOut (tgt := 84) hx hb dX11_street_12 hd (by decide) ?_
    clear hd hc0 hc1 hc2 hc3
    refine lv_bipush (v := (-102 : Int32)) hx hb dX11_street_84 (by decide) ?_
    exact jret_i hx hb hr hlk hst w h dX11_street_86
  · replace h := h.2 hc
    clear hc
    refine lv_bipush (v := (-101 : Int32)) hx hb dX11_street_8 (by decide) ?_
    exact jret_i hx hb hr hlk hst w h dX11_street_10
end S_X11_street
section S_X11_streetsTold
def J_X11_streetsTold_L10 (len : Nat → Nat) (r : jR) (Q : Int32 → jI → jL → Prop) (i : jI) (j : jL) (x0 : Int32) : Prop := Q x0 i j
def J_X11_streetsTold (len : Nat → Nat) (r : jR) (Q : Int32 → jI → jL → Prop) (i : jI) (j : jL) (x0 : Int32) (x1 : Int32) : Prop := ((x0 = (-1 : Int32)) → (J_X11_streetsTold_L10 len r Q i j x0)) ∧ ((¬ x0 = (-1 : Int32)) → (((¬ x1 = (1 : Int32)) → (J_J6_bitCount_0f7a4 len r (fun (q15 : Int32) (i15 : jI) (j15 : jL) => Q q15 i15 j15) i j x0)) ∧ ((x1 = (1 : Int32)) → (J_X11_streetsTold_L10 len r Q i j x0))))
abbrev rm_X11_streetsTold : Room := { frames := 1, cells := 0, slots := 0, locals := 20 }
variable {p : Program} {l : Launch} {e : Env} {s : State} {m : MethodId} {args : Array Value} {below : List Frame} {meth : Method} {c : Code} {b tU n : Nat} {cy : Nat → ClassId} {D : va_G} {K len : Nat → Nat} {r : jR} {Q : Int32 → jI → jL → Prop}
set_option maxHeartbeats 4000000 in
set_option maxRecDepth 100000 in
theorem w_X11_streetsTold_L10 (C0 : jCx p s m args c cX11_streetsTold 2 wsX11_streetsTold RX11 b cy D tU n K r) (hr : meth.sig.returnType = some .int) (hlk : meth.locks = false) {H : Heap} {locs : List Loc} {ls : Array Slot} {i : jI} {j : jL} {x0 : Int32} (w : jDy b cy D n K len r i j s H locs) (hl : lv_has ls 2 [(0, .int x0)]) (h : J_X11_streetsTold_L10 len r Q i j x0) : W p l e rm_X11_streetsTold s m args below meth c H locs 0 0 (MQ below (jQi b cy D tU n K len r Q) args s 0 0 (jA b)) (F0 m 10 ls []) := by
  obtain ⟨hx, hb, hml, hown, hts, hst, hG⟩ := id C0
  rw [J_X11_streetsTold_L10] at h
  refine lv_iload_n hx hb dX11_streetsTold_10 rfl (lv_at hl 0 rfl) ?_
  refine lv_goto (tgt := 18) hx hb dX11_streetsTold_11 (by decide) ?_
  exact jret_i hx hb hr hlk hst w h dX11_streetsTold_18
set_option maxHeartbeats 4000000 in
set_option maxRecDepth 100000 in
theorem c_X11_streetsTold (hG : jG n K r) {i : jI} {j : jL} {x0 : Int32} {x1 : Int32} (h : J_X11_streetsTold len r Q i j x0 x1) : Met l yX11_streetsTold wsX11_streetsTold rm_X11_streetsTold (va_Pc [.int x0, .int x1] (jPre b cy D tU n K len r i j)) (jQi b cy D tU n K len r Q) 0 0 (jA b) := by
  refine Met.ofW (cc := cX11_streetsTold) (maxL := 2) (ret := (some .int)) (by decide) rfl ?_
  intro p e s m args below meth c s₁ B hml hv
  obtain ⟨rfl, hv⟩ := hv
  have C0 : jCx p s m _ c cX11_streetsTold 2 wsX11_streetsTold RX11 b cy D tU n K r := ⟨B.exec, B.bytes, hml, findClass_of_methodNamed B.named, atoms_spec (ws := wsX11_streetsTold) B.pre, hv.2.2, hG⟩
  have hr := B.returns
  have hlk := B.notSynchronized
  obtain ⟨hx, hb, hml, hown, hts, hst, hG⟩ := id C0
  have w := jDy.start hv
  have hl := lv_entry ([.int x0, .int x1]) (n := 2) (Nat.le_of_ble_eq_true rfl)
  rw [lg_entry_eq]
  generalize (lg_sl ([.int x0, .int x1]) ++ List.replicate (2 - (lg_sl ([.int x0, .int x1])).length) Slot.unset).toArray = ls at hl ⊢
  replace hl : lv_has ls 2 [(0, .int x0), (1, .int x1)] := hl
  show W p l e rm_X11_streetsTold s m _ below meth c s.heap [] 0 0 _ (F0 m 0 ls [])
  rw [J_X11_streetsTold] at h
  refine lv_iload_n hx hb dX11_streetsTold_0 rfl (lv_at hl 0 rfl) ?_
  refine lv_iconst (v := (-1 : Int32)) hx hb dX11_streetsTold_1 (by decide) ?_
  refine lv_icmp_eq (tgt := 10) hx hb dX11_streetsTold_2 (by decide) (fun hc => ?_) (fun hc => ?_)
  · replace h := h.1 hc
    clear hc
    exact w_X11_streetsTold_L10 C0 hr hlk w (lv_sub hl [0] rfl) h
  · replace h := h.2 hc
    clear hc
    refine lv_iload_n hx hb dX11_streetsTold_5 rfl (lv_at hl 1 rfl) ?_
    refine lv_iconst (v := (1 : Int32)) hx hb dX11_streetsTold_6 (by decide) ?_
    refine lv_icmp_ne (tgt := 14) hx hb dX11_streetsTold_7 (by decide) (fun hc => ?_) (fun hc => ?_)
    · replace h := h.1 hc
      clear hc
      refine lv_iload_n hx hb dX11_streetsTold_14 rfl (lv_at hl 0 rfl) ?_
      refine jcS_i (As := [.int x0]) (rest := []) C0 w (c_J6_bitCount_0f7a4 hG h) (va_cwS 1 hts gX11_streetsTold_J6_bitCount_0f7a4 rfl rfl rfl (by decide +kernel) ⟨Nat.le_of_ble_eq_true rfl, Nat.le_of_ble_eq_true rfl⟩) rfl hl.1 rfl (Nat.le_of_ble_eq_true rfl) dX11_streetsTold_15 (fun q15 i15 j15 H locs h w => ?_) ⟨Nat.zero_le _, Nat.zero_le _⟩
      exact jret_i hx hb hr hlk hst w h dX11_streetsTold_18
    · replace h := h.2 hc
      clear hc
      exact w_X11_streetsTold_L10 C0 hr hlk w (lv_sub hl [0] rfl) h
end S_X11_streetsTold
section S_X11_who
def J_X11_who_L31 (len : Nat → Nat) (r : jR) (Q : Int32 → jI → jL → Prop) (Hd4 : jI → jL → Nat → Int32 → Int32 → Prop) (i : jI) (j : jL) (x0 : Nat) (x1 : Int32) (x2 : Int32) : Prop := ∀ v31 : Int32, v31 = x2 + (1 : Int32) → (Hd4 i j x0 x1 v31)
def J_X11_who_L4 (len : Nat → Nat) (r : jR) (Q : Int32 → jI → jL → Prop) : Nat → jI → jL → Nat → Int32 → Int32 → Prop
  | 0 => fun _ _ _ _ _ => False
  | g + 1 => fun i j x0 x1 x2 => (((i x0 3) ≤ x2) → (Q x1 i j)) ∧ ((¬ (i x0 3) ≤ x2) → (∃ a14, r x0 2 = some a14 ∧ (vp_in x2 (len a14) ∧ ∃ a18, r a14 x2.toNatClampNeg = some a18 ∧ (J_X11_couldLeavePrints len r (fun (q19 : Int32) (i19 : jI) (j19 : jL) => ((q19 = 0) → (J_X11_who_L31 len r Q (J_X11_who_L4 len r Q g) i19 j19 x0 x1 x2)) ∧ ((¬ q19 = 0) → (∀ v30 : Int32, v30 = x1 ||| ((1 : Int32) <<< (x2 &&& 31)) → (J_X11_who_L31 len r Q (J_X11_who_L4 len r Q g) i19 j19 x0 v30 x2)))) i j x0 a18))))
def J_X11_who (len : Nat → Nat) (r : jR) (Q : Int32 → jI → jL → Prop) (i : jI) (j : jL) (x0 : Nat) : Prop := ∃ g0, J_X11_who_L4 len r Q g0 i j x0 (0 : Int32) (0 : Int32)
abbrev rm_X11_who : Room := { frames := 5, cells := 0, slots := 0, locals := 114 }
variable {p : Program} {l : Launch} {e : Env} {s : State} {m : MethodId} {args : Array Value} {below : List Frame} {meth : Method} {c : Code} {b tU n : Nat} {cy : Nat → ClassId} {D : va_G} {K len : Nat → Nat} {r : jR} {Q : Int32 → jI → jL → Prop}
theorem hiX11_X11_who : ∀ w ∈ u_ws RX11 TX11 15, w ∈ wsX11_who := by decide +kernel
set_option maxHeartbeats 4000000 in
set_option maxRecDepth 100000 in
theorem w_X11_who_L31 (C0 : jCx p s m args c cX11_who 3 wsX11_who RX11 b cy D tU n K r) (hr : meth.sig.returnType = some .int) (hlk : meth.locks = false) {Hd4 : jI → jL → Nat → Int32 → Int32 → Prop} (k4 : ∀ {H : Heap} {locs : List Loc} {ls : Array Slot} {i : jI} {j : jL} {x0 : Nat} {x1 : Int32} {x2 : Int32} (w : jDy b cy D n K len r i j s H locs) (hx0 : x0 < n ∧ K x0 = 10) (hl : lv_has ls 3 [(0, .ref (b + x0)), (1, .int x1), (2, .int x2)]) (h : Hd4 i j x0 x1 x2), W p l e rm_X11_who s m args below meth c H locs 0 0 (MQ below (jQi b cy D tU n K len r Q) args s 0 0 (jA b)) (F0 m 4 ls [])) {H : Heap} {locs : List Loc} {ls : Array Slot} {i : jI} {j : jL} {x0 : Nat} {x1 : Int32} {x2 : Int32} (w : jDy b cy D n K len r i j s H locs) (hx0 : x0 < n ∧ K x0 = 10) (hl : lv_has ls 3 [(0, .ref (b + x0)), (1, .int x1), (2, .int x2)]) (h : J_X11_who_L31 len r Q Hd4 i j x0 x1 x2) : W p l e rm_X11_who s m args below meth c H locs 0 0 (MQ below (jQi b cy D tU n K len r Q) args s 0 0 (jA b)) (F0 m 31 ls []) := by
  obtain ⟨hx, hb, hml, hown, hts, hst, hG⟩ := id C0
  have hiX11 : ∀ w ∈ u_ws RX11 TX11 15, w ∈ wsX11_who := hiX11_X11_who
  rw [J_X11_who_L31] at h
  obtain ⟨v31, he⟩ : ∃ z : Int32, z = x2 + (1 : Int32) := ⟨_, rfl⟩
  replace h := h v31 he
  refine lv_iinc (v := v31) (lv' := [(2, .int v31), (0, .ref (b + x0)), (1, .int x1)]) hx hb dX11_who_31 hl (k := 2) rfl (by rw [he]; rfl) (by decide) rfl (fun ls hl => ?_)
  clear he
  refine lv_goto (tgt := 4) hx hb dX11_who_34 (by decide) ?_
  exact k4 w hx0 (lv_sub hl [1, 2, 0] rfl) h
set_option maxHeartbeats 4000000 in
set_option maxRecDepth 100000 in
theorem w_X11_who_L4 (C0 : jCx p s m args c cX11_who 3 wsX11_who RX11 b cy D tU n K r) (hr : meth.sig.returnType = some .int) (hlk : meth.locks = false) : ∀ (g : Nat) {H : Heap} {locs : List Loc} {ls : Array Slot} {i : jI} {j : jL} {x0 : Nat} {x1 : Int32} {x2 : Int32} (w : jDy b cy D n K len r i j s H locs) (hx0 : x0 < n ∧ K x0 = 10) (hl : lv_has ls 3 [(0, .ref (b + x0)), (1, .int x1), (2, .int x2)]) (h : J_X11_who_L4 len r Q g i j x0 x1 x2), W p l e rm_X11_who s m args below meth c H locs 0 0 (MQ below (jQi b cy D tU n K len r Q) args s 0 0 (jA b)) (F0 m 4 ls []) := by
  obtain ⟨hx, hb, hml, hown, hts, hst, hG⟩ := id C0
  have hiX11 : ∀ w ∈ u_ws RX11 TX11 15, w ∈ wsX11_who := hiX11_X11_who
  intro g
  induction g with
  | zero => intro H locs ls i j x0 x1 x2 w hx0 hl h; exact False.elim h
  | succ g ih =>
    intro H locs ls i j x0 x1 x2 w hx0 hl h
    rw [J_X11_who_L4] at h
    refine lv_iload_n hx hb dX11_who_4 rfl (lv_at hl 2 rfl) ?_
    refine lv_aload_n hx hb dX11_who_5 rfl (lv_at hl 0 rfl) ?_
    refine jgi (f := 3) hx hb hts hown hst w hx0 hiX11 (rfl : vwCl[10]? = some (RX11, TX11, 15)) (hts (.fieldLink RX11 96 "FootByGate" "walkerCount" "I") (by decide +kernel)) ⟨by decide, by decide, rfl⟩ dX11_who_6 ?_
    refine lv_icmp_ge (tgt := 37) hx hb dX11_who_9 (by decide) (fun hc => ?_) (fun hc => ?_)
    · replace h := h.1 hc
      clear hc
      refine lv_iload_n hx hb dX11_who_37 rfl (lv_at hl 1 rfl) ?_
      exact jret_i hx hb hr hlk hst w h dX11_who_38
    · replace h := h.2 hc
      clear hc
      refine lv_aload_n hx hb dX11_who_12 rfl (lv_at hl 0 rfl) ?_
      refine lv_aload_n hx hb dX11_who_13 rfl (lv_at hl 0 rfl) ?_
      obtain ⟨a14, hr0, h⟩ := h
      refine jgr (f := 2) hx hb hts hown hst w hG hx0 hiX11 (rfl : vwCl[10]? = some (RX11, TX11, 15)) (hts (.fieldLink RX11 25 "FootByGate" "walkers" "[LFootByGate$Walker;") (by decide +kernel)) ⟨by decide, by decide, rfl⟩ (rfl : jrt 10 2 = 16) dX11_who_14 hr0 (fun ha14 => ?_)
      clear hr0
      refine lv_iload_n hx hb dX11_who_17 rfl (lv_at hl 2 rfl) ?_
      obtain ⟨hn, h⟩ := h
      obtain ⟨a18, hr0, h⟩ := h
      refine jaar hx hb hst w hG ha14 hn dX11_who_18 hr0 (fun ha18 => ?_)
      clear hn hr0
      refine jcV_i (k := x0) (As := [.ref (b + a18)]) (rest := []) C0 w (c_X11_couldLeavePrints hG hx0 ha18 h) (cwV 1 hts gX11_who_X11_couldLeavePrints rfl rfl rfl (by decide +kernel) ⟨Nat.le_of_ble_eq_true rfl, Nat.le_of_ble_eq_true rfl⟩) hx0 (rfl : vwCl[10]? = some (RX11, TX11, 15)) (by decide) rfl hl.1 rfl (Nat.le_of_ble_eq_true rfl) dX11_who_19 (fun q19 i19 j19 H locs h w => ?_) ⟨Nat.zero_le _, Nat.zero_le _⟩
      refine lv_if_eq (tgt := 31) hx hb dX11_who_22 (by decide) (fun hc => ?_) (fun hc => ?_)
      · replace h := h.1 hc
        clear hc
        exact w_X11_who_L31 C0 hr hlk (fun w hx0 hl h => ih w hx0 hl h) w hx0 (lv_sub hl [0, 1, 2] rfl) h
      · replace h := h.2 hc
        clear hc
        refine lv_iload_n hx hb dX11_who_25 rfl (lv_at hl 1 rfl) ?_
        refine lv_iconst (v := (1 : Int32)) hx hb dX11_who_26 (by decide) ?_
        refine lv_iload_n hx hb dX11_who_27 rfl (lv_at hl 2 rfl) ?_
        refine lv_ishl hx hb dX11_who_28 ?_
        refine lv_ior hx hb dX11_who_29 ?_
        refine lv_topi (fun v30 he => ?_)
        replace h := h v30 he
        clear he
        refine lv_istore_n (lv' := [(1, .int v30), (0, .ref (b + x0)), (2, .int x2)]) hx hb dX11_who_30 rfl hl (by decide) rfl (fun ls hl => ?_)
        exact w_X11_who_L31 C0 hr hlk (fun w hx0 hl h => ih w hx0 hl h) w hx0 (lv_sub hl [1, 0, 2] rfl) h
set_option maxHeartbeats 4000000 in
set_option maxRecDepth 100000 in
theorem c_X11_who (hG : jG n K r) {i : jI} {j : jL} {x0 : Nat} (hx0 : x0 < n ∧ K x0 = 10) (h : J_X11_who len r Q i j x0) : Met l yX11_who wsX11_who rm_X11_who (va_Pc [.ref (b + x0)] (jPre b cy D tU n K len r i j)) (jQi b cy D tU n K len r Q) 0 0 (jA b) := by
  refine Met.ofW (cc := cX11_who) (maxL := 3) (ret := (some .int)) (by decide) rfl ?_
  intro p e s m args below meth c s₁ B hml hv
  obtain ⟨rfl, hv⟩ := hv
  have C0 : jCx p s m _ c cX11_who 3 wsX11_who RX11 b cy D tU n K r := ⟨B.exec, B.bytes, hml, findClass_of_methodNamed B.named, atoms_spec (ws := wsX11_who) B.pre, hv.2.2, hG⟩
  have hr := B.returns
  have hlk := B.notSynchronized
  obtain ⟨hx, hb, hml, hown, hts, hst, hG⟩ := id C0
  have hiX11 : ∀ w ∈ u_ws RX11 TX11 15, w ∈ wsX11_who := hiX11_X11_who
  have w := jDy.start hv
  have hl := lv_entry ([.ref (b + x0)]) (n := 3) (Nat.le_of_ble_eq_true rfl)
  rw [lg_entry_eq]
  generalize (lg_sl ([.ref (b + x0)]) ++ List.replicate (3 - (lg_sl ([.ref (b + x0)])).length) Slot.unset).toArray = ls at hl ⊢
  replace hl : lv_has ls 3 [(0, .ref (b + x0))] := hl
  show W p l e rm_X11_who s m _ below meth c s.heap [] 0 0 _ (F0 m 0 ls [])
  rw [J_X11_who] at h
  refine lv_iconst (v := (0 : Int32)) hx hb dX11_who_0 (by decide) ?_
  refine lv_istore_n (lv' := [(1, .int (0 : Int32)), (0, .ref (b + x0))]) hx hb dX11_who_1 rfl hl (by decide) rfl (fun ls hl => ?_)
  refine lv_iconst (v := (0 : Int32)) hx hb dX11_who_2 (by decide) ?_
  refine lv_istore_n (lv' := [(2, .int (0 : Int32)), (1, .int (0 : Int32)), (0, .ref (b + x0))]) hx hb dX11_who_3 rfl hl (by decide) rfl (fun ls hl => ?_)
  obtain ⟨g0, h⟩ := h
  exact w_X11_who_L4 C0 hr hlk g0 w hx0 (lv_sub hl [2, 1, 0] rfl) h
end S_X11_who
section S_X11_fewestSkips
def J_X11_fewestSkips_L48 (len : Nat → Nat) (r : jR) (Q : Int32 → jI → jL → Prop) (i : jI) (j : jL) (t0 : Nat) (t1 : Nat) (t2 : Nat) (t3 : Int32) (t4 : Int32) (t5 : Int32) (t6 : Int32) : Prop := J_X10_leastTo len r (fun (q48 : Int32) (i48 : jI) (j48 : jL) => Q q48 i48 j48) i j t0 t1 t2 t3 t4 t5 t6
def J_X11_fewestSkips (len : Nat → Nat) (r : jR) (Q : Int32 → jI → jL → Prop) (i : jI) (j : jL) (x0 : Nat) (x1 : Nat) (x2 : Int32) : Prop := ∃ a1, r x0 9 = some a1 ∧ (∃ a9, r x0 1 = some a9 ∧ (J_X2_take len r (fun (i12 : jI) (j12 : jL) => ∃ a16, r x0 11 = some a16 ∧ (∃ a20, r x0 1 = some a20 ∧ (∃ a24, r x0 9 = some a24 ∧ ((((i12 x1 0) = (3 : Int32)) → (J_X11_fewestSkips_L48 len r Q i12 j12 a16 a20 a24 (i12 x1 1) x2 (1073741824 : Int32) (0 : Int32))) ∧ ((¬ (i12 x1 0) = (3 : Int32)) → (J_X11_fewestSkips_L48 len r Q i12 j12 a16 a20 a24 (i12 x1 1) x2 (1073741824 : Int32) (1 : Int32))))))) i j a1 (i x1 0) a9))
abbrev rm_X11_fewestSkips : Room := { frames := 4, cells := 0, slots := 0, locals := 102 }
variable {p : Program} {l : Launch} {e : Env} {s : State} {m : MethodId} {args : Array Value} {below : List Frame} {meth : Method} {c : Code} {b tU n : Nat} {cy : Nat → ClassId} {D : va_G} {K len : Nat → Nat} {r : jR} {Q : Int32 → jI → jL → Prop}
theorem hiX11_X11_fewestSkips : ∀ w ∈ u_ws RX11 TX11 15, w ∈ wsX11_fewestSkips := by decide +kernel
theorem hiX9_X11_fewestSkips : ∀ w ∈ u_ws RX9 TX9 3, w ∈ wsX11_fewestSkips := by decide +kernel
set_option maxHeartbeats 4000000 in
set_option maxRecDepth 100000 in
theorem w_X11_fewestSkips_L48 (C0 : jCx p s m args c cX11_fewestSkips 3 wsX11_fewestSkips RX11 b cy D tU n K r) (hr : meth.sig.returnType = some .int) (hlk : meth.locks = false) {H : Heap} {locs : List Loc} {ls : Array Slot} {i : jI} {j : jL} {t0 : Nat} {t1 : Nat} {t2 : Nat} {t3 : Int32} {t4 : Int32} {t5 : Int32} {t6 : Int32} (w : jDy b cy D n K len r i j s H locs) (ht0 : t0 < n ∧ K t0 = 9) (ht1 : t1 < n ∧ K t1 = 7) (ht2 : t2 < n ∧ K t2 = 2) (hl : lv_has ls 3 []) (h : J_X11_fewestSkips_L48 len r Q i j t0 t1 t2 t3 t4 t5 t6) : W p l e rm_X11_fewestSkips s m args below meth c H locs 0 0 (MQ below (jQi b cy D tU n K len r Q) args s 0 0 (jA b)) (F0 m 48 ls [.int t6, .int t5, .int t4, .int t3, .ref (b + t2), .ref (b + t1), .ref (b + t0)]) := by
  obtain ⟨hx, hb, hml, hown, hts, hst, hG⟩ := id C0
  have hiX11 : ∀ w ∈ u_ws RX11 TX11 15, w ∈ wsX11_fewestSkips := hiX11_X11_fewestSkips
  have hiX9 : ∀ w ∈ u_ws RX9 TX9 3, w ∈ wsX11_fewestSkips := hiX9_X11_fewestSkips
  rw [J_X11_fewestSkips_L48] at h
  refine jcV_i (k := t0) (As := [.ref (b + t1), .ref (b + t2), .int t3, .int t4, .int t5, .int t6]) (rest := []) C0 w (c_X10_leastTo hG ht0 ht1 ht2 h) (cwV 6 hts gX11_fewestSkips_X10_leastTo rfl rfl rfl (by decide +kernel) ⟨Nat.le_of_ble_eq_true rfl, Nat.le_of_ble_eq_true rfl⟩) ht0 (rfl : vwCl[9]? = some (RX10, TX10, 1)) (by decide) rfl hl.1 rfl (Nat.le_of_ble_eq_true rfl) dX11_fewestSkips_48 (fun q48 i48 j48 H locs h w => ?_) ⟨Nat.zero_le _, Nat.zero_le _⟩
  exact jret_i hx hb hr hlk hst w h dX11_fewestSkips_51
set_option maxHeartbeats 4000000 in
set_option maxRecDepth 100000 in
theorem c_X11_fewestSkips (hG : jG n K r) {i : jI} {j : jL} {x0 : Nat} {x1 : Nat} {x2 : Int32} (hx0 : x0 < n ∧ K x0 = 10) (hx1 : x1 < n ∧ K x1 = 8) (h : J_X11_fewestSkips len r Q i j x0 x1 x2) : Met l yX11_fewestSkips wsX11_fewestSkips rm_X11_fewestSkips (va_Pc [.ref (b + x0), .ref (b + x1), .int x2] (jPre b cy D tU n K len r i j)) (jQi b cy D tU n K len r Q) 0 0 (jA b) := by
  refine Met.ofW (cc := cX11_fewestSkips) (maxL := 3) (ret := (some .int)) (by decide) rfl ?_
  intro p e s m args below meth c s₁ B hml hv
  obtain ⟨rfl, hv⟩ := hv
  have C0 : jCx p s m _ c cX11_fewestSkips 3 wsX11_fewestSkips RX11 b cy D tU n K r := ⟨B.exec, B.bytes, hml, findClass_of_methodNamed B.named, atoms_spec (ws := wsX11_fewestSkips) B.pre, hv.2.2, hG⟩
  have hr := B.returns
  have hlk := B.notSynchronized
  obtain ⟨hx, hb, hml, hown, hts, hst, hG⟩ := id C0
  have hiX11 : ∀ w ∈ u_ws RX11 TX11 15, w ∈ wsX11_fewestSkips := hiX11_X11_fewestSkips
  have hiX9 : ∀ w ∈ u_ws RX9 TX9 3, w ∈ wsX11_fewestSkips := hiX9_X11_fewestSkips
  have w := jDy.start hv
  have hl := lv_entry ([.ref (b + x0), .ref (b + x1), .int x2]) (n := 3) (Nat.le_of_ble_eq_true rfl)
  rw [lg_entry_eq]
  generalize (lg_sl ([.ref (b + x0), .ref (b + x1), .int x2]) ++ List.replicate (3 - (lg_sl ([.ref (b + x0), .ref (b + x1), .int x2])).length) Slot.unset).toArray = ls at hl ⊢
  replace hl : lv_has ls 3 [(0, .ref (b + x0)), (1, .ref (b + x1)), (2, .int x2)] := hl
  show W p l e rm_X11_fewestSkips s m _ below meth c s.heap [] 0 0 _ (F0 m 0 ls [])
  rw [J_X11_fewestSkips] at h
  refine lv_aload_n hx hb dX11_fewestSkips_0 rfl (lv_at hl 0 rfl) ?_
  obtain ⟨a1, hr0, h⟩ := h
  refine jgr (f := 9) hx hb hts hown hst w hG hx0 hiX11 (rfl : vwCl[10]? = some (RX11, TX11, 15)) (hts (.fieldLink RX11 43 "FootByGate" "gait" "LFootByGate$Gait;") (by decide +kernel)) ⟨by decide, by decide, rfl⟩ (rfl : jrt 10 9 = 2) dX11_fewestSkips_1 hr0 (fun ha1 => ?_)
  clear hr0
  refine lv_aload_n hx hb dX11_fewestSkips_4 rfl (lv_at hl 1 rfl) ?_
  refine jgi (f := 0) hx hb hts hown hst w hx1 hiX9 (rfl : vwCl[8]? = some (RX9, TX9, 3)) (hts (.fieldLink RX11 137 "FootByGate$Walker" "kind" "I") (by decide +kernel)) ⟨by decide, by decide, rfl⟩ dX11_fewestSkips_5 ?_
  refine lv_aload_n hx hb dX11_fewestSkips_8 rfl (lv_at hl 0 rfl) ?_
  obtain ⟨a9, hr0, h⟩ := h
  refine jgr (f := 1) hx hb hts hown hst w hG hx0 hiX11 (rfl : vwCl[10]? = some (RX11, TX11, 15)) (hts (.fieldLink RX11 19 "FootByGate" "map" "LFootByGate$Town;") (by decide +kernel)) ⟨by decide, by decide, rfl⟩ (rfl : jrt 10 1 = 7) dX11_fewestSkips_9 hr0 (fun ha9 => ?_)
  clear hr0
  refine jcV_v (k := a1) (As := [.int (i x1 0), .ref (b + a9)]) (rest := []) C0 w (c_X2_take hG ha1 ha9 h) (cwV 2 hts gX11_fewestSkips_X2_take rfl rfl rfl (by decide +kernel) ⟨Nat.le_of_ble_eq_true rfl, Nat.le_of_ble_eq_true rfl⟩) ha1 (rfl : vwCl[2]? = some (RX2, TX2, 2)) (by decide) rfl hl.1 rfl (Nat.le_of_ble_eq_true rfl) dX11_fewestSkips_12 (fun i12 j12 H locs h w => ?_) ⟨Nat.zero_le _, Nat.zero_le _⟩
  refine lv_aload_n hx hb dX11_fewestSkips_15 rfl (lv_at hl 0 rfl) ?_
  obtain ⟨a16, hr0, h⟩ := h
  refine jgr (f := 11) hx hb hts hown hst w hG hx0 hiX11 (rfl : vwCl[10]? = some (RX11, TX11, 15)) (hts (.fieldLink RX11 53 "FootByGate" "ways" "LFootByGate$Ways;") (by decide +kernel)) ⟨by decide, by decide, rfl⟩ (rfl : jrt 10 11 = 9) dX11_fewestSkips_16 hr0 (fun ha16 => ?_)
  clear hr0
  refine lv_aload_n hx hb dX11_fewestSkips_19 rfl (lv_at hl 0 rfl) ?_
  obtain ⟨a20, hr0, h⟩ := h
  refine jgr (f := 1) hx hb hts hown hst w hG hx0 hiX11 (rfl : vwCl[10]? = some (RX11, TX11, 15)) (hts (.fieldLink RX11 19 "FootByGate" "map" "LFootByGate$Town;") (by decide +kernel)) ⟨by decide, by decide, rfl⟩ (rfl : jrt 10 1 = 7) dX11_fewestSkips_20 hr0 (fun ha20 => ?_)
  clear hr0
  refine lv_aload_n hx hb dX11_fewestSkips_23 rfl (lv_at hl 0 rfl) ?_
  obtain ⟨a24, hr0, h⟩ := h
  refine jgr (f := 9) hx hb hts hown hst w hG hx0 hiX11 (rfl : vwCl[10]? = some (RX11, TX11, 15)) (hts (.fieldLink RX11 43 "FootByGate" "gait" "LFootByGate$Gait;") (by decide +kernel)) ⟨by decide, by decide, rfl⟩ (rfl : jrt 10 9 = 2) dX11_fewestSkips_24 hr0 (fun ha24 => ?_)
  clear hr0
  refine lv_aload_n hx hb dX11_fewestSkips_27 rfl (lv_at hl 1 rfl) ?_
  refine jgi (f := 1) hx hb hts hown hst w hx1 hiX9 (rfl : vwCl[8]? = some (RX9, TX9, 3)) (hts (.fieldLink RX11 146 "FootByGate$Walker" "stand" "I") (by decide +kernel)) ⟨by decide, by decide, rfl⟩ dX11_fewestSkips_28 ?_
  refine lv_iload_n hx hb dX11_fewestSkips_31 rfl (lv_at hl 2 rfl) ?_
  refine lv_ldcw hx hb hown (hts (.constant RX11 325 (1073741824)) (by decide +kernel)) dX11_fewestSkips_32 ?_
  refine lv_aload_n hx hb dX11_fewestSkips_35 rfl (lv_at hl 1 rfl) ?_
  refine jgi (f := 0) hx hb hts hown hst w hx1 hiX9 (rfl : vwCl[8]? = some (RX9, TX9, 3)) (hts (.fieldLink RX11 137 "FootByGate$Walker" "kind" "I") (by decide +kernel)) ⟨by decide, by decide, rfl⟩ dX11_fewestSkips_36 ?_
  refine lv_iconst (v := (3 : Int32)) hx hb dX11_fewestSkips_39 (by decide) ?_
  refine lv_icmp_eq (tgt := 47) hx hb dX11_fewestSkips_40 (by decide) (fun hc => ?_) (fun hc => ?_)
  · replace h := h.1 hc
    clear hc
    refine lv_iconst (v := (0 : Int32)) hx hb dX11_fewestSkips_47 (by decide) ?_
    exact w_X11_fewestSkips_L48 C0 hr hlk w ha16 ha20 ha24 (lv_sub hl [] rfl) h
  · replace h := h.2 hc
    clear hc
    refine lv_iconst (v := (1 : Int32)) hx hb dX11_fewestSkips_43 (by decide) ?_
    refine lv_goto (tgt := 48) hx hb dX11_fewestSkips_44 (by decide) ?_
    exact w_X11_fewestSkips_L48 C0 hr hlk w ha16 ha20 ha24 (lv_sub hl [] rfl) h
end S_X11_fewestSkips
section S_X11_fewestSteps
def J_X11_fewestSteps (len : Nat → Nat) (r : jR) (Q : Int32 → jI → jL → Prop) (i : jI) (j : jL) (x0 : Nat) (x1 : Nat) (x2 : Int32) : Prop := ∃ a1, r x0 9 = some a1 ∧ (∃ a9, r x0 1 = some a9 ∧ (J_X2_take len r (fun (i12 : jI) (j12 : jL) => ∃ a16, r x0 11 = some a16 ∧ (∃ a20, r x0 1 = some a20 ∧ (∃ a24, r x0 9 = some a24 ∧ (J_X10_leastTo len r (fun (q36 : Int32) (i36 : jI) (j36 : jL) => Q q36 i36 j36) i12 j12 a16 a20 a24 (i12 x1 1) x2 (1073741824 : Int32) (0 : Int32))))) i j a1 (i x1 0) a9))
abbrev rm_X11_fewestSteps : Room := { frames := 4, cells := 0, slots := 0, locals := 102 }
variable {p : Program} {l : Launch} {e : Env} {s : State} {m : MethodId} {args : Array Value} {below : List Frame} {meth : Method} {c : Code} {b tU n : Nat} {cy : Nat → ClassId} {D : va_G} {K len : Nat → Nat} {r : jR} {Q : Int32 → jI → jL → Prop}
theorem hiX11_X11_fewestSteps : ∀ w ∈ u_ws RX11 TX11 15, w ∈ wsX11_fewestSteps := by decide +kernel
theorem hiX9_X11_fewestSteps : ∀ w ∈ u_ws RX9 TX9 3, w ∈ wsX11_fewestSteps := by decide +kernel
set_option maxHeartbeats 4000000 in
set_option maxRecDepth 100000 in
theorem c_X11_fewestSteps (hG : jG n K r) {i : jI} {j : jL} {x0 : Nat} {x1 : Nat} {x2 : Int32} (hx0 : x0 < n ∧ K x0 = 10) (hx1 : x1 < n ∧ K x1 = 8) (h : J_X11_fewestSteps len r Q i j x0 x1 x2) : Met l yX11_fewestSteps wsX11_fewestSteps rm_X11_fewestSteps (va_Pc [.ref (b + x0), .ref (b + x1), .int x2] (jPre b cy D tU n K len r i j)) (jQi b cy D tU n K len r Q) 0 0 (jA b) := by
  refine Met.ofW (cc := cX11_fewestSteps) (maxL := 3) (ret := (some .int)) (by decide) rfl ?_
  intro p e s m args below meth c s₁ B hml hv
  obtain ⟨rfl, hv⟩ := hv
  have C0 : jCx p s m _ c cX11_fewestSteps 3 wsX11_fewestSteps RX11 b cy D tU n K r := ⟨B.exec, B.bytes, hml, findClass_of_methodNamed B.named, atoms_spec (ws := wsX11_fewestSteps) B.pre, hv.2.2, hG⟩
  have hr := B.returns
  have hlk := B.notSynchronized
  obtain ⟨hx, hb, hml, hown, hts, hst, hG⟩ := id C0
  have hiX11 : ∀ w ∈ u_ws RX11 TX11 15, w ∈ wsX11_fewestSteps := hiX11_X11_fewestSteps
  have hiX9 : ∀ w ∈ u_ws RX9 TX9 3, w ∈ wsX11_fewestSteps := hiX9_X11_fewestSteps
  have w := jDy.start hv
  have hl := lv_entry ([.ref (b + x0), .ref (b + x1), .int x2]) (n := 3) (Nat.le_of_ble_eq_true rfl)
  rw [lg_entry_eq]
  generalize (lg_sl ([.ref (b + x0), .ref (b + x1), .int x2]) ++ List.replicate (3 - (lg_sl ([.ref (b + x0), .ref (b + x1), .int x2])).length) Slot.unset).toArray = ls at hl ⊢
  replace hl : lv_has ls 3 [(0, .ref (b + x0)), (1, .ref (b + x1)), (2, .int x2)] := hl
  show W p l e rm_X11_fewestSteps s m _ below meth c s.heap [] 0 0 _ (F0 m 0 ls [])
  rw [J_X11_fewestSteps] at h
  refine lv_aload_n hx hb dX11_fewestSteps_0 rfl (lv_at hl 0 rfl) ?_
  obtain ⟨a1, hr0, h⟩ := h
  refine jgr (f := 9) hx hb hts hown hst w hG hx0 hiX11 (rfl : vwCl[10]? = some (RX11, TX11, 15)) (hts (.fieldLink RX11 43 "FootByGate" "gait" "LFootByGate$Gait;") (by decide +kernel)) ⟨by decide, by decide, rfl⟩ (rfl : jrt 10 9 = 2) dX11_fewestSteps_1 hr0 (fun ha1 => ?_)
  clear hr0
  refine lv_aload_n hx hb dX11_fewestSteps_4 rfl (lv_at hl 1 rfl) ?_
  refine jgi (f := 0) hx hb hts hown hst w hx1 hiX9 (rfl : vwCl[8]? = some (RX9, TX9, 3)) (hts (.fieldLink RX11 137 "FootByGate$Walker" "kind" "I") (by decide +kernel)) ⟨by decide, by decide, rfl⟩ dX11_fewestSteps_5 ?_
  refine lv_aload_n hx hb dX11_fewestSteps_8 rfl (lv_at hl 0 rfl) ?_
  obtain ⟨a9, hr0, h⟩ := h
  refine jgr (f := 1) hx hb hts hown hst w hG hx0 hiX11 (rfl : vwCl[10]? = some (RX11, TX11, 15)) (hts (.fieldLink RX11 19 "FootByGate" "map" "LFootByGate$Town;") (by decide +kernel)) ⟨by decide, by decide, rfl⟩ (rfl : jrt 10 1 = 7) dX11_fewestSteps_9 hr0 (fun ha9 => ?_)
  clear hr0
  refine jcV_v (k := a1) (As := [.int (i x1 0), .ref (b + a9)]) (rest := []) C0 w (c_X2_take hG ha1 ha9 h) (cwV 2 hts gX11_fewestSteps_X2_take rfl rfl rfl (by decide +kernel) ⟨Nat.le_of_ble_eq_true rfl, Nat.le_of_ble_eq_true rfl⟩) ha1 (rfl : vwCl[2]? = some (RX2, TX2, 2)) (by decide) rfl hl.1 rfl (Nat.le_of_ble_eq_true rfl) dX11_fewestSteps_12 (fun i12 j12 H locs h w => ?_) ⟨Nat.zero_le _, Nat.zero_le _⟩
  refine lv_aload_n hx hb dX11_fewestSteps_15 rfl (lv_at hl 0 rfl) ?_
  obtain ⟨a16, hr0, h⟩ := h
  refine jgr (f := 11) hx hb hts hown hst w hG hx0 hiX11 (rfl : vwCl[10]? = some (RX11, TX11, 15)) (hts (.fieldLink RX11 53 "FootByGate" "ways" "LFootByGate$Ways;") (by decide +kernel)) ⟨by decide, by decide, rfl⟩ (rfl : jrt 10 11 = 9) dX11_fewestSteps_16 hr0 (fun ha16 => ?_)
  clear hr0
  refine lv_aload_n hx hb dX11_fewestSteps_19 rfl (lv_at hl 0 rfl) ?_
  obtain ⟨a20, hr0, h⟩ := h
  refine jgr (f := 1) hx hb hts hown hst w hG hx0 hiX11 (rfl : vwCl[10]? = some (RX11, TX11, 15)) (hts (.fieldLink RX11 19 "FootByGate" "map" "LFootByGate$Town;") (by decide +kernel)) ⟨by decide, by decide, rfl⟩ (rfl : jrt 10 1 = 7) dX11_fewestSteps_20 hr0 (fun ha20 => ?_)
  clear hr0
  refine lv_aload_n hx hb dX11_fewestSteps_23 rfl (lv_at hl 0 rfl) ?_
  obtain ⟨a24, hr0, h⟩ := h
  refine jgr (f := 9) hx hb hts hown hst w hG hx0 hiX11 (rfl : vwCl[10]? = some (RX11, TX11, 15)) (hts (.fieldLink RX11 43 "FootByGate" "gait" "LFootByGate$Gait;") (by decide +kernel)) ⟨by decide, by decide, rfl⟩ (rfl : jrt 10 9 = 2) dX11_fewestSteps_24 hr0 (fun ha24 => ?_)
  clear hr0
  refine lv_aload_n hx hb dX11_fewestSteps_27 rfl (lv_at hl 1 rfl) ?_
  refine jgi (f := 1) hx hb hts hown hst w hx1 hiX9 (rfl : vwCl[8]? = some (RX9, TX9, 3)) (hts (.fieldLink RX11 146 "FootByGate$Walker" "stand" "I") (by decide +kernel)) ⟨by decide, by decide, rfl⟩ dX11_fewestSteps_28 ?_
  refine lv_iload_n hx hb dX11_fewestSteps_31 rfl (lv_at hl 2 rfl) ?_
  refine lv_ldcw hx hb hown (hts (.constant RX11 325 (1073741824)) (by decide +kernel)) dX11_fewestSteps_32 ?_
  refine lv_iconst (v := (0 : Int32)) hx hb dX11_fewestSteps_35 (by decide) ?_
  refine jcV_i (k := a16) (As := [.ref (b + a20), .ref (b + a24), .int (i12 x1 1), .int x2, .int (1073741824 : Int32), .int (0 : Int32)]) (rest := []) C0 w (c_X10_leastTo hG ha16 ha20 ha24 h) (cwV 6 hts gX11_fewestSteps_X10_leastTo rfl rfl rfl (by decide +kernel) ⟨Nat.le_of_ble_eq_true rfl, Nat.le_of_ble_eq_true rfl⟩) ha16 (rfl : vwCl[9]? = some (RX10, TX10, 1)) (by decide) rfl hl.1 rfl (Nat.le_of_ble_eq_true rfl) dX11_fewestSteps_36 (fun q36 i36 j36 H locs h w => ?_) ⟨Nat.zero_le _, Nat.zero_le _⟩
  exact jret_i hx hb hr hlk hst w h dX11_fewestSteps_39
end S_X11_fewestSteps
section S_X11_firstStreet
def J_X11_firstStreet_L16 (len : Nat → Nat) (r : jR) (Q : Int32 → jI → jL → Prop) (i : jI) (j : jL) : Prop := Q (-1 : Int32) i j
def J_X11_firstStreet_L126 (len : Nat → Nat) (r : jR) (Q : Int32 → jI → jL → Prop) (Hd36 : jI → jL → Nat → Nat → Int32 → Int32 → Int32 → Prop) (i : jI) (j : jL) (x0 : Nat) (x1 : Nat) (x2 : Int32) (x3 : Int32) (x4 : Int32) : Prop := ∀ v126 : Int32, v126 = x4 + (1 : Int32) → (Hd36 i j x0 x1 x2 x3 v126)
def J_X11_firstStreet_L36 (len : Nat → Nat) (r : jR) (Q : Int32 → jI → jL → Prop) : Nat → jI → jL → Nat → Nat → Int32 → Int32 → Int32 → Prop
  | 0 => fun _ _ _ _ _ _ _ => False
  | g + 1 => fun i j x0 x1 x2 x3 x4 => ∃ a39, r x0 1 = some a39 ∧ ((((i a39 0) ≤ x4) → (Q (-1 : Int32) i j)) ∧ ((¬ (i a39 0) ≤ x4) → (∃ a49, r x0 1 = some a49 ∧ (∃ a59, r x0 9 = some a59 ∧ (∃ a62, r a59 1 = some a62 ∧ (vp_in x4 (len a62) ∧ (J_X8_behind len r (fun (q68 : Int32) (i68 : jI) (j68 : jL) => ∃ a75, r x0 9 = some a75 ∧ (∃ a78, r a75 0 = some a78 ∧ (vp_in x4 (len a78) ∧ (∀ v85 : Int32, v85 = x3 - (i68 a78 x4.toNatClampNeg) → (((q68 = (-1 : Int32)) → (J_X11_firstStreet_L126 len r Q (J_X11_firstStreet_L36 len r Q g) i68 j68 x0 x1 x2 x3 x4)) ∧ ((¬ q68 = (-1 : Int32)) → (((v85 < 0) → (J_X11_firstStreet_L126 len r Q (J_X11_firstStreet_L36 len r Q g) i68 j68 x0 x1 x2 x3 x4)) ∧ ((¬ v85 < 0) → (∃ a99, r x0 11 = some a99 ∧ (∃ a103, r x0 1 = some a103 ∧ (∃ a107, r x0 9 = some a107 ∧ (J_X10_leastTo len r (fun (q116 : Int32) (i116 : jI) (j116 : jL) => ((q116 = (-1 : Int32)) → (J_X11_firstStreet_L126 len r Q (J_X11_firstStreet_L36 len r Q g) i116 j116 x0 x1 x2 x3 x4)) ∧ ((¬ q116 = (-1 : Int32)) → (Q x4 i116 j116))) i68 j68 a99 a103 a107 q68 x2 v85 (0 : Int32))))))))))))) i j a49 (i x1 1) x4 (i a62 x4.toNatClampNeg))))))))
def J_X11_firstStreet (len : Nat → Nat) (r : jR) (Q : Int32 → jI → jL → Prop) (i : jI) (j : jL) (x0 : Nat) (x1 : Nat) (x2 : Int32) (x3 : Int32) : Prop := ((x3 = (-1 : Int32)) → (J_X11_firstStreet_L16 len r Q i j )) ∧ ((¬ x3 = (-1 : Int32)) → (J_X7_placeOf len r (fun (q9 : Int32) (i9 : jI) (j9 : jL) => ((¬ q9 = x2) → (∃ a19, r x0 9 = some a19 ∧ (∃ a27, r x0 1 = some a27 ∧ (J_X2_take len r (fun (i30 : jI) (j30 : jL) => ∃ g0, J_X11_firstStreet_L36 len r Q g0 i30 j30 x0 x1 x2 x3 (0 : Int32)) i9 j9 a19 (i9 x1 0) a27)))) ∧ ((q9 = x2) → (J_X11_firstStreet_L16 len r Q i9 j9 ))) i j (i x1 1)))
abbrev rm_X11_firstStreet : Room := { frames := 4, cells := 0, slots := 0, locals := 102 }
variable {p : Program} {l : Launch} {e : Env} {s : State} {m : MethodId} {args : Array Value} {below : List Frame} {meth : Method} {c : Code} {b tU n : Nat} {cy : Nat → ClassId} {D : va_G} {K len : Nat → Nat} {r : jR} {Q : Int32 → jI → jL → Prop}
theorem hiX11_X11_firstStreet : ∀ w ∈ u_ws RX11 TX11 15, w ∈ wsX11_firstStreet := by decide +kernel
theorem hiX2_X11_firstStreet : ∀ w ∈ u_ws RX2 TX2 2, w ∈ wsX11_firstStreet := by decide +kernel
theorem hiX8_X11_firstStreet : ∀ w ∈ u_ws RX8 TX8 8, w ∈ wsX11_firstStreet := by decide +kernel
theorem hiX9_X11_firstStreet : ∀ w ∈ u_ws RX9 TX9 3, w ∈ wsX11_firstStreet := by decide +kernel
set_option maxHeartbeats 4000000 in
set_option maxRecDepth 100000 in
theorem w_X11_firstStreet_L16 (C0 : jCx p s m args c cX11_firstStreet 7 wsX11_firstStreet RX11 b cy D tU n K r) (hr : meth.sig.returnType = some .int) (hlk : meth.locks = false) {H : Heap} {locs : List Loc} {ls : Array Slot} {i : jI} {j : jL}  (w : jDy b cy D n K len r i j s H locs) (hl : lv_has ls 7 []) (h : J_X11_firstStreet_L16 len r Q i j) : W p l e rm_X11_firstStreet s m args below meth c H locs 0 0 (MQ below (jQi b cy D tU n K len r Q) args s 0 0 (jA b)) (F0 m 16 ls []) := by
  obtain ⟨hx, hb, hml, hown, hts, hst, hG⟩ := id C0
  have hiX11 : ∀ w ∈ u_ws RX11 TX11 15, w ∈ wsX11_firstStreet := hiX11_X11_firstStreet
  have hiX2 : ∀ w ∈ u_ws RX2 TX2 2, w ∈ wsX11_firstStreet := hiX2_X11_firstStreet
  have hiX8 : ∀ w ∈ u_ws RX8 TX8 8, w ∈ wsX11_firstStreet := hiX8_X11_firstStreet
  have hiX9 : ∀ w ∈ u_ws RX9 TX9 3, w ∈ wsX11_firstStreet := hiX9_X11_firstStreet
  rw [J_X11_firstStreet_L16] at h
  refine lv_iconst (v := (-1 : Int32)) hx hb dX11_firstStreet_16 (by decide) ?_
  exact jret_i hx hb hr hlk hst w h dX11_firstStreet_17
set_option maxHeartbeats 4000000 in
set_option maxRecDepth 100000 in
theorem w_X11_firstStreet_L126 (C0 : jCx p s m args c cX11_firstStreet 7 wsX11_firstStreet RX11 b cy D tU n K r) (hr : meth.sig.returnType = some .int) (hlk : meth.locks = false) {Hd36 : jI → jL → Nat → Nat → Int32 → Int32 → Int32 → Prop} (k36 : ∀ {H : Heap} {locs : List Loc} {ls : Array Slot} {i : jI} {j : jL} {x0 : Nat} {x1 : Nat} {x2 : Int32} {x3 : Int32} {x4 : Int32} (w : jDy b cy D n K len r i j s H locs) (hx0 : x0 < n ∧ K x0 = 10) (hx1 : x1 < n ∧ K x1 = 8) (hl : lv_has ls 7 [(0, .ref (b + x0)), (1, .ref (b + x1)), (2, .int x2), (3, .int x3), (4, .int x4)]) (h : Hd36 i j x0 x1 x2 x3 x4), W p l e rm_X11_firstStreet s m args below meth c H locs 0 0 (MQ below (jQi b cy D tU n K len r Q) args s 0 0 (jA b)) (F0 m 36 ls [])) {H : Heap} {locs : List Loc} {ls : Array Slot} {i : jI} {j : jL} {x0 : Nat} {x1 : Nat} {x2 : Int32} {x3 : Int32} {x4 : Int32} (w : jDy b cy D n K len r i j s H locs) (hx0 : x0 < n ∧ K x0 = 10) (hx1 : x1 < n ∧ K x1 = 8) (hl : lv_has ls 7 [(0, .ref (b + x0)), (1, .ref (b + x1)), (2, .int x2), (3, .int x3), (4, .int x4)]) (h : J_X11_firstStreet_L126 len r Q Hd36 i j x0 x1 x2 x3 x4) : W p l e rm_X11_firstStreet s m args below meth c H locs 0 0 (MQ below (jQi b cy D tU n K len r Q) args s 0 0 (jA b)) (F0 m 126 ls []) := by
  obtain ⟨hx, hb, hml, hown, hts, hst, hG⟩ := id C0
  have hiX11 : ∀ w ∈ u_ws RX11 TX11 15, w ∈ wsX11_firstStreet := hiX11_X11_firstStreet
  have hiX2 : ∀ w ∈ u_ws RX2 TX2 2, w ∈ wsX11_firstStreet := hiX2_X11_firstStreet
  have hiX8 : ∀ w ∈ u_ws RX8 TX8 8, w ∈ wsX11_firstStreet := hiX8_X11_firstStreet
  have hiX9 : ∀ w ∈ u_ws RX9 TX9 3, w ∈ wsX11_firstStreet := hiX9_X11_firstStreet
  rw [J_X11_firstStreet_L126] at h
  obtain ⟨v126, he⟩ : ∃ z : Int32, z = x4 + (1 : Int32) := ⟨_, rfl⟩
  replace h := h v126 he
  refine lv_iinc (v := v126) (lv' := [(4, .int v126), (0, .ref (b + x0)), (1, .ref (b + x1)), (2, .int x2), (3, .int x3)]) hx hb dX11_firstStreet_126 hl (k := 4) rfl (by rw [he]; rfl) (by decide) rfl (fun ls hl => ?_)
  clear he
  refine lv_goto (tgt := 36) hx hb dX11_firstStreet_129 (by decide) ?_
  exact k36 w hx0 hx1 (lv_sub hl [1, 2, 3, 4, 0] rfl) h
set_option maxHeartbeats 4000000 in
set_option maxRecDepth 100000 in
theorem w_X11_firstStreet_L36 (C0 : jCx p s m args c cX11_firstStreet 7 wsX11_firstStreet RX11 b cy D tU n K r) (hr : meth.sig.returnType = some .int) (hlk : meth.locks = false) : ∀ (g : Nat) {H : Heap} {locs : List Loc} {ls : Array Slot} {i : jI} {j : jL} {x0 : Nat} {x1 : Nat} {x2 : Int32} {x3 : Int32} {x4 : Int32} (w : jDy b cy D n K len r i j s H locs) (hx0 : x0 < n ∧ K x0 = 10) (hx1 : x1 < n ∧ K x1 = 8) (hl : lv_has ls 7 [(0, .ref (b + x0)), (1, .ref (b + x1)), (2, .int x2), (3, .int x3), (4, .int x4)]) (h : J_X11_firstStreet_L36 len r Q g i j x0 x1 x2 x3 x4), W p l e rm_X11_firstStreet s m args below meth c H locs 0 0 (MQ below (jQi b cy D tU n K len r Q) args s 0 0 (jA b)) (F0 m 36 ls []) := by
  obtain ⟨hx, hb, hml, hown, hts, hst, hG⟩ := id C0
  have hiX11 : ∀ w ∈ u_ws RX11 TX11 15, w ∈ wsX11_firstStreet := hiX11_X11_firstStreet
  have hiX2 : ∀ w ∈ u_ws RX2 TX2 2, w ∈ wsX11_firstStreet := hiX2_X11_firstStreet
  have hiX8 : ∀ w ∈ u_ws RX8 TX8 8, w ∈ wsX11_firstStreet := hiX8_X11_firstStreet
  have hiX9 : ∀ w ∈ u_ws RX9 TX9 3, w ∈ wsX11_firstStreet := hiX9_X11_firstStreet
  intro g
  induction g with
  | zero => intro H locs ls i j x0 x1 x2 x3 x4 w hx0 hx1 hl h; exact False.elim h
  | succ g ih =>
    intro H locs ls i j x0 x1 x2 x3 x4 w hx0 hx1 hl h
    rw [J_X11_firstStreet_L36] at h
    refine lv_iload hx hb dX11_firstStreet_36 (lv_at hl 4 rfl) ?_
    refine lv_aload_n hx hb dX11_firstStreet_38 rfl (lv_at hl 0 rfl) ?_
    obtain ⟨a39, hr0, h⟩ := h
    refine jgr (f := 1) hx hb hts hown hst w hG hx0 hiX11 (rfl : vwCl[10]? = some (RX11, TX11, 15)) (hts (.fieldLink RX11 19 "FootByGate" "map" "LFootByGate$Town;") (by decide +kernel)) ⟨by decide, by decide, rfl⟩ (rfl : jrt 10 1 = 7) dX11_firstStreet_39 hr0 (fun ha39 => ?_)
    clear hr0
    refine jgi (f := 0) hx hb hts hown hst w ha39 hiX8 (rfl : vwCl[7]? = some (RX8, TX8, 8)) (hts (.fieldLink RX11 105 "FootByGate$Town" "streets" "I") (by decide +kernel)) ⟨by decide, by decide, rfl⟩ dX11_firstStreet_42 ?_
    refine lv_icmp_ge (tgt := 132) hx hb dX11_firstStreet_45 (by decide) (fun hc => ?_) (fun hc => ?_)
    · replace h := h.1 hc
      clear hc
      refine lv_iconst (v := (-1 : Int32)) hx hb dX11_firstStreet_132 (by decide) ?_
      exact jret_i hx hb hr hlk hst w h dX11_firstStreet_133
    · replace h := h.2 hc
      clear hc
      refine lv_aload_n hx hb dX11_firstStreet_48 rfl (lv_at hl 0 rfl) ?_
      obtain ⟨a49, hr0, h⟩ := h
      refine jgr (f := 1) hx hb hts hown hst w hG hx0 hiX11 (rfl : vwCl[10]? = some (RX11, TX11, 15)) (hts (.fieldLink RX11 19 "FootByGate" "map" "LFootByGate$Town;") (by decide +kernel)) ⟨by decide, by decide, rfl⟩ (rfl : jrt 10 1 = 7) dX11_firstStreet_49 hr0 (fun ha49 => ?_)
      clear hr0
      refine lv_aload_n hx hb dX11_firstStreet_52 rfl (lv_at hl 1 rfl) ?_
      refine jgi (f := 1) hx hb hts hown hst w hx1 hiX9 (rfl : vwCl[8]? = some (RX9, TX9, 3)) (hts (.fieldLink RX11 146 "FootByGate$Walker" "stand" "I") (by decide +kernel)) ⟨by decide, by decide, rfl⟩ dX11_firstStreet_53 ?_
      refine lv_iload hx hb dX11_firstStreet_56 (lv_at hl 4 rfl) ?_
      refine lv_aload_n hx hb dX11_firstStreet_58 rfl (lv_at hl 0 rfl) ?_
      obtain ⟨a59, hr0, h⟩ := h
      refine jgr (f := 9) hx hb hts hown hst w hG hx0 hiX11 (rfl : vwCl[10]? = some (RX11, TX11, 15)) (hts (.fieldLink RX11 43 "FootByGate" "gait" "LFootByGate$Gait;") (by decide +kernel)) ⟨by decide, by decide, rfl⟩ (rfl : jrt 10 9 = 2) dX11_firstStreet_59 hr0 (fun ha59 => ?_)
      clear hr0
      obtain ⟨a62, hr0, h⟩ := h
      refine jgr (f := 1) hx hb hts hown hst w hG ha59 hiX2 (rfl : vwCl[2]? = some (RX2, TX2, 2)) (hts (.fieldLink RX11 329 "FootByGate$Gait" "turn" "[I") (by decide +kernel)) ⟨by decide, by decide, rfl⟩ (rfl : jrt 2 1 = 13) dX11_firstStreet_62 hr0 (fun ha62 => ?_)
      clear hr0
      refine lv_iload hx hb dX11_firstStreet_65 (lv_at hl 4 rfl) ?_
      obtain ⟨hn, h⟩ := h
      refine jaid hx hb hst w ha62 hn dX11_firstStreet_67 ?_
      clear hn
      refine jcV_i (k := a49) (As := [.int (i x1 1), .int x4, .int (i a62 x4.toNatClampNeg)]) (rest := []) C0 w (c_X8_behind hG ha49 h) (cwV 3 hts gX11_firstStreet_X8_behind rfl rfl rfl (by decide +kernel) ⟨Nat.le_of_ble_eq_true rfl, Nat.le_of_ble_eq_true rfl⟩) ha49 (rfl : vwCl[7]? = some (RX8, TX8, 8)) (by decide) rfl hl.1 rfl (Nat.le_of_ble_eq_true rfl) dX11_firstStreet_68 (fun q68 i68 j68 H locs h w => ?_) ⟨Nat.zero_le _, Nat.zero_le _⟩
      refine lv_istore (lv' := [(5, .int q68), (0, .ref (b + x0)), (1, .ref (b + x1)), (2, .int x2), (3, .int x3), (4, .int x4)]) hx hb dX11_firstStreet_71 hl (by decide) rfl (fun ls hl => ?_)
      refine lv_iload_n hx hb dX11_firstStreet_73 rfl (lv_at hl 4 rfl) ?_
      refine lv_aload_n hx hb dX11_firstStreet_74 rfl (lv_at hl 1 rfl) ?_
      obtain ⟨a75, hr0, h⟩ := h
      refine jgr (f := 9) hx hb hts hown hst w hG hx0 hiX11 (rfl : vwCl[10]? = some (RX11, TX11, 15)) (hts (.fieldLink RX11 43 "FootByGate" "gait" "LFootByGate$Gait;") (by decide +kernel)) ⟨by decide, by decide, rfl⟩ (rfl : jrt 10 9 = 2) dX11_firstStreet_75 hr0 (fun ha75 => ?_)
      clear hr0
      obtain ⟨a78, hr0, h⟩ := h
      refine jgr (f := 0) hx hb hts hown hst w hG ha75 hiX2 (rfl : vwCl[2]? = some (RX2, TX2, 2)) (hts (.fieldLink RX11 332 "FootByGate$Gait" "steps" "[I") (by decide +kernel)) ⟨by decide, by decide, rfl⟩ (rfl : jrt 2 0 = 13) dX11_firstStreet_78 hr0 (fun ha78 => ?_)
      clear hr0
      refine lv_iload hx hb dX11_firstStreet_81 (lv_at hl 5 rfl) ?_
      obtain ⟨hn, h⟩ := h
      refine jaid hx hb hst w ha78 hn dX11_firstStreet_83 ?_
      clear hn
      refine lv_isub hx hb dX11_firstStreet_84 ?_
      refine lv_topi (fun v85 he => ?_)
      replace h := h v85 he
      clear he
      refine lv_istore (lv' := [(6, .int v85), (5, .int q68), (0, .ref (b + x0)), (1, .ref (b + x1)), (2, .int x2), (3, .int x3), (4, .int x4)]) hx hb dX11_firstStreet_85 hl (by decide) rfl (fun ls hl => ?_)
      refine lv_iload hx hb dX11_firstStreet_87 (lv_at hl 1 rfl) ?_
      refine lv_iconst (v := (-1 : Int32)) hx hb dX11_firstStreet_89 (by decide) ?_
      refine lv_icmp_eq (tgt := 126) hx hb dX11_firstStreet_90 (by decide) (fun hc => ?_) (fun hc => ?_)
      · replace h := h.1 hc
        clear hc
        exact w_X11_firstStreet_L126 C0 hr hlk (fun w hx0 hx1 hl h => ih w hx0 hx1 hl h) w hx0 hx1 (lv_sub hl [2, 3, 4, 5, 6] rfl) h
      · replace h := h.2 hc
        clear hc
        refine lv_iload hx hb dX11_firstStreet_93 (lv_at hl 0 rfl) ?_
        refine lv_if_lt (tgt := 126) hx hb dX11_firstStreet_95 (by decide) (fun hc => ?_) (fun hc => ?_)
        · replace h := h.1 hc
          clear hc
          exact w_X11_firstStreet_L126 C0 hr hlk (fun w hx0 hx1 hl h => ih w hx0 hx1 hl h) w hx0 hx1 (lv_sub hl [2, 3, 4, 5, 6] rfl) h
        · replace h := h.2 hc
          clear hc
          refine lv_aload_n hx hb dX11_firstStreet_98 rfl (lv_at hl 2 rfl) ?_
          obtain ⟨a99, hr0, h⟩ := h
          refine jgr (f := 11) hx hb hts hown hst w hG hx0 hiX11 (rfl : vwCl[10]? = some (RX11, TX11, 15)) (hts (.fieldLink RX11 53 "FootByGate" "ways" "LFootByGate$Ways;") (by decide +kernel)) ⟨by decide, by decide, rfl⟩ (rfl : jrt 10 11 = 9) dX11_firstStreet_99 hr0 (fun ha99 => ?_)
          clear hr0
          refine lv_aload_n hx hb dX11_firstStreet_102 rfl (lv_at hl 2 rfl) ?_
          obtain ⟨a103, hr0, h⟩ := h
          refine jgr (f := 1) hx hb hts hown hst w hG hx0 hiX11 (rfl : vwCl[10]? = some (RX11, TX11, 15)) (hts (.fieldLink RX11 19 "FootByGate" "map" "LFootByGate$Town;") (by decide +kernel)) ⟨by decide, by decide, rfl⟩ (rfl : jrt 10 1 = 7) dX11_firstStreet_103 hr0 (fun ha103 => ?_)
          clear hr0
          refine lv_aload_n hx hb dX11_firstStreet_106 rfl (lv_at hl 2 rfl) ?_
          obtain ⟨a107, hr0, h⟩ := h
          refine jgr (f := 9) hx hb hts hown hst w hG hx0 hiX11 (rfl : vwCl[10]? = some (RX11, TX11, 15)) (hts (.fieldLink RX11 43 "FootByGate" "gait" "LFootByGate$Gait;") (by decide +kernel)) ⟨by decide, by decide, rfl⟩ (rfl : jrt 10 9 = 2) dX11_firstStreet_107 hr0 (fun ha107 => ?_)
          clear hr0
          refine lv_iload hx hb dX11_firstStreet_110 (lv_at hl 1 rfl) ?_
          refine lv_iload_n hx hb dX11_firstStreet_112 rfl (lv_at hl 4 rfl) ?_
          refine lv_iload hx hb dX11_firstStreet_113 (lv_at hl 0 rfl) ?_
          refine lv_iconst (v := (0 : Int32)) hx hb dX11_firstStreet_115 (by decide) ?_
          refine jcV_i (k := a99) (As := [.ref (b + a103), .ref (b + a107), .int q68, .int x2, .int v85, .int (0 : Int32)]) (rest := []) C0 w (c_X10_leastTo hG ha99 ha103 ha107 h) (cwV 6 hts gX11_firstStreet_X10_leastTo rfl rfl rfl (by decide +kernel) ⟨Nat.le_of_ble_eq_true rfl, Nat.le_of_ble_eq_true rfl⟩) ha99 (rfl : vwCl[9]? = some (RX10, TX10, 1)) (by decide) rfl hl.1 rfl (Nat.le_of_ble_eq_true rfl) dX11_firstStreet_116 (fun q116 i116 j116 H locs h w => ?_) ⟨Nat.zero_le _, Nat.zero_le _⟩
          refine lv_iconst (v := (-1 : Int32)) hx hb dX11_firstStreet_119 (by decide) ?_
          refine lv_icmp_eq (tgt := 126) hx hb dX11_firstStreet_120 (by decide) (fun hc => ?_) (fun hc => ?_)
          · replace h := h.1 hc
            clear hc
            exact w_X11_firstStreet_L126 C0 hr hlk (fun w hx0 hx1 hl h => ih w hx0 hx1 hl h) w hx0 hx1 (lv_sub hl [2, 3, 4, 5, 6] rfl) h
          · replace h := h.2 hc
            clear hc
            refine lv_iload hx hb dX11_firstStreet_123 (lv_at hl 6 rfl) ?_
            exact jret_i hx hb hr hlk hst w h dX11_firstStreet_125
set_option maxHeartbeats 4000000 in
set_option maxRecDepth 100000 in
theorem c_X11_firstStreet (hG : jG n K r) {i : jI} {j : jL} {x0 : Nat} {x1 : Nat} {x2 : Int32} {x3 : Int32} (hx0 : x0 < n ∧ K x0 = 10) (hx1 : x1 < n ∧ K x1 = 8) (h : J_X11_firstStreet len r Q i j x0 x1 x2 x3) : Met l yX11_firstStreet wsX11_firstStreet rm_X11_firstStreet (va_Pc [.ref (b + x0), .ref (b + x1), .int x2, .int x3] (jPre b cy D tU n K len r i j)) (jQi b cy D tU n K len r Q) 0 0 (jA b) := by
  refine Met.ofW (cc := cX11_firstStreet) (maxL := 7) (ret := (some .int)) (by decide) rfl ?_
  intro p e s m args below meth c s₁ B hml hv
  obtain ⟨rfl, hv⟩ := hv
  have C0 : jCx p s m _ c cX11_firstStreet 7 wsX11_firstStreet RX11 b cy D tU n K r := ⟨B.exec, B.bytes, hml, findClass_of_methodNamed B.named, atoms_spec (ws := wsX11_firstStreet) B.pre, hv.2.2, hG⟩
  have hr := B.returns
  have hlk := B.notSynchronized
  obtain ⟨hx, hb, hml, hown, hts, hst, hG⟩ := id C0
  have hiX11 : ∀ w ∈ u_ws RX11 TX11 15, w ∈ wsX11_firstStreet := hiX11_X11_firstStreet
  have hiX2 : ∀ w ∈ u_ws RX2 TX2 2, w ∈ wsX11_firstStreet := hiX2_X11_firstStreet
  have hiX8 : ∀ w ∈ u_ws RX8 TX8 8, w ∈ wsX11_firstStreet := hiX8_X11_firstStreet
  have hiX9 : ∀ w ∈ u_ws RX9 TX9 3, w ∈ wsX11_firstStreet := hiX9_X11_firstStreet
  have w := jDy.start hv
  have hl := lv_entry ([.ref (b + x0), .ref (b + x1), .int x2, .int x3]) (n := 7) (Nat.le_of_ble_eq_true rfl)
  rw [lg_entry_eq]
  generalize (lg_sl ([.ref (b + x0), .ref (b + x1), .int x2, .int x3]) ++ List.replicate (7 - (lg_sl ([.ref (b + x0), .ref (b + x1), .int x2, .int x3])).length) Slot.unset).toArray = ls at hl ⊢
  replace hl : lv_has ls 7 [(0, .ref (b + x0)), (1, .ref (b + x1)), (2, .int x2), (3, .int x3)] := hl
  show W p l e rm_X11_firstStreet s m _ below meth c s.heap [] 0 0 _ (F0 m 0 ls [])
  rw [J_X11_firstStreet] at h
  refine lv_iload_n hx hb dX11_firstStreet_0 rfl (lv_at hl 3 rfl) ?_
  refine lv_iconst (v := (-1 : Int32)) hx hb dX11_firstStreet_1 (by decide) ?_
  refine lv_icmp_eq (tgt := 16) hx hb dX11_firstStreet_2 (by decide) (fun hc => ?_) (fun hc => ?_)
  · replace h := h.1 hc
    clear hc
    exact w_X11_firstStreet_L16 C0 hr hlk w (lv_sub hl [] rfl) h
  · replace h := h.2 hc
    clear hc
    refine lv_aload_n hx hb dX11_firstStreet_5 rfl (lv_at hl 1 rfl) ?_
    refine jgi (f := 1) hx hb hts hown hst w hx1 hiX9 (rfl : vwCl[8]? = some (RX9, TX9, 3)) (hts (.fieldLink RX11 146 "FootByGate$Walker" "stand" "I") (by decide +kernel)) ⟨by decide, by decide, rfl⟩ dX11_firstStreet_6 ?_
    refine jcS_i (As := [.int (i x1 1)]) (rest := []) C0 w (c_X7_placeOf hG h) (va_cwS 1 hts gX11_firstStreet_X7_placeOf rfl rfl rfl (by decide +kernel) ⟨Nat.le_of_ble_eq_true rfl, Nat.le_of_ble_eq_true rfl⟩) rfl hl.1 rfl (Nat.le_of_ble_eq_true rfl) dX11_firstStreet_9 (fun q9 i9 j9 H locs h w => ?_) ⟨Nat.zero_le _, Nat.zero_le _⟩
    refine lv_iload_n hx hb dX11_firstStreet_12 rfl (lv_at hl 2 rfl) ?_
    refine lv_icmp_ne (tgt := 18) hx hb dX11_firstStreet_13 (by decide) (fun hc => ?_) (fun hc => ?_)
    · replace h := h.1 hc
      clear hc
      refine lv_aload_n hx hb dX11_firstStreet_18 rfl (lv_at hl 0 rfl) ?_
      obtain ⟨a19, hr0, h⟩ := h
      refine jgr (f := 9) hx hb hts hown hst w hG hx0 hiX11 (rfl : vwCl[10]? = some (RX11, TX11, 15)) (hts (.fieldLink RX11 43 "FootByGate" "gait" "LFootByGate$Gait;") (by decide +kernel)) ⟨by decide, by decide, rfl⟩ (rfl : jrt 10 9 = 2) dX11_firstStreet_19 hr0 (fun ha19 => ?_)
      clear hr0
      refine lv_aload_n hx hb dX11_firstStreet_22 rfl (lv_at hl 1 rfl) ?_
      refine jgi (f := 0) hx hb hts hown hst w hx1 hiX9 (rfl : vwCl[8]? = some (RX9, TX9, 3)) (hts (.fieldLink RX11 137 "FootByGate$Walker" "kind" "I") (by decide +kernel)) ⟨by decide, by decide, rfl⟩ dX11_firstStreet_23 ?_
      refine lv_aload_n hx hb dX11_firstStreet_26 rfl (lv_at hl 0 rfl) ?_
      obtain ⟨a27, hr0, h⟩ := h
      refine jgr (f := 1) hx hb hts hown hst w hG hx0 hiX11 (rfl : vwCl[10]? = some (RX11, TX11, 15)) (hts (.fieldLink RX11 19 "FootByGate" "map" "LFootByGate$Town;") (by decide +kernel)) ⟨by decide, by decide, rfl⟩ (rfl : jrt 10 1 = 7) dX11_firstStreet_27 hr0 (fun ha27 => ?_)
      clear hr0
      refine jcV_v (k := a19) (As := [.int (i9 x1 0), .ref (b + a27)]) (rest := []) C0 w (c_X2_take hG ha19 ha27 h) (cwV 2 hts gX11_firstStreet_X2_take rfl rfl rfl (by decide +kernel) ⟨Nat.le_of_ble_eq_true rfl, Nat.le_of_ble_eq_true rfl⟩) ha19 (rfl : vwCl[2]? = some (RX2, TX2, 2)) (by decide) rfl hl.1 rfl (Nat.le_of_ble_eq_true rfl) dX11_firstStreet_30 (fun i30 j30 H locs h w => ?_) ⟨Nat.zero_le _, Nat.zero_le _⟩
      refine lv_iconst (v := (0 : Int32)) hx hb dX11_firstStreet_33 (by decide) ?_
      refine lv_istore (lv' := [(4, .int (0 : Int32)), (0, .ref (b + x0)), (1, .ref (b + x1)), (2, .int x2), (3, .int x3)]) hx hb dX11_firstStreet_34 hl (by decide) rfl (fun ls hl => ?_)
      obtain ⟨g0, h⟩ := h
      exact w_X11_firstStreet_L36 C0 hr hlk g0 w hx0 hx1 (lv_sub hl [1, 2, 3, 4, 0] rfl) h
    · replace h := h.2 hc
      clear hc
      exact w_X11_firstStreet_L16 C0 hr hlk w (lv_sub hl [] rfl) h
end S_X11_firstStreet
section S_X11_shut
def J_X11_shut (len : Nat → Nat) (r : jR) (Q : Int32 → jI → jL → Prop) (i : jI) (j : jL) (x0 : Nat) (x1 : Int32) : Prop := J_X11_isWalker len r (fun (q2 : Int32) (i2 : jI) (j2 : jL) => ((¬ q2 = 0) → (∃ a12, r x0 2 = some a12 ∧ (vp_in x1 (len a12) ∧ ∃ a16, r a12 x1.toNatClampNeg = some a16 ∧ (∃ a19, r x0 9 = some a19 ∧ (∃ a27, r x0 1 = some a27 ∧ (J_X2_take len r (fun (i30 : jI) (j30 : jL) => J_X11_shutPlaces len r (fun (q35 : Int32) (i35 : jI) (j35 : jL) => Q q35 i35 j35) i30 j30 x0 a16) i2 j2 a19 (i2 a16 0) a27)))))) ∧ ((q2 = 0) → (Q (-101 : Int32) i2 j2))) i j x0 x1
abbrev rm_X11_shut : Room := { frames := 4, cells := 0, slots := 0, locals := 103 }
variable {p : Program} {l : Launch} {e : Env} {s : State} {m : MethodId} {args : Array Value} {below : List Frame} {meth : Method} {c : Code} {b tU n : Nat} {cy : Nat → ClassId} {D : va_G} {K len : Nat → Nat} {r : jR} {Q : Int32 → jI → jL → Prop}
theorem hiX11_X11_shut : ∀ w ∈ u_ws RX11 TX11 15, w ∈ wsX11_shut := by decide +kernel
theorem hiX9_X11_shut : ∀ w ∈ u_ws RX9 TX9 3, w ∈ wsX11_shut := by decide +kernel
set_option maxHeartbeats 4000000 in
set_option maxRecDepth 100000 in
theorem c_X11_shut (hG : jG n K r) {i : jI} {j : jL} {x0 : Nat} {x1 : Int32} (hx0 : x0 < n ∧ K x0 = 10) (h : J_X11_shut len r Q i j x0 x1) : Met l yX11_shut wsX11_shut rm_X11_shut (va_Pc [.ref (b + x0), .int x1] (jPre b cy D tU n K len r i j)) (jQi b cy D tU n K len r Q) 0 0 (jA b) := by
  refine Met.ofW (cc := cX11_shut) (maxL := 3) (ret := (some .int)) (by decide) rfl ?_
  intro p e s m args below meth c s₁ B hml hv
  obtain ⟨rfl, hv⟩ := hv
  have C0 : jCx p s m _ c cX11_shut 3 wsX11_shut RX11 b cy D tU n K r := ⟨B.exec, B.bytes, hml, findClass_of_methodNamed B.named, atoms_spec (ws := wsX11_shut) B.pre, hv.2.2, hG⟩
  have hr := B.returns
  have hlk := B.notSynchronized
  obtain ⟨hx, hb, hml, hown, hts, hst, hG⟩ := id C0
  have hiX11 : ∀ w ∈ u_ws RX11 TX11 15, w ∈ wsX11_shut := hiX11_X11_shut
  have hiX9 : ∀ w ∈ u_ws RX9 TX9 3, w ∈ wsX11_shut := hiX9_X11_shut
  have w := jDy.start hv
  have hl := lv_entry ([.ref (b + x0), .int x1]) (n := 3) (Nat.le_of_ble_eq_true rfl)
  rw [lg_entry_eq]
  generalize (lg_sl ([.ref (b + x0), .int x1]) ++ List.replicate (3 - (lg_sl ([.ref (b + x0), .int x1])).length) Slot.unset).toArray = ls at hl ⊢
  replace hl : lv_has ls 3 [(0, .ref (b + x0)), (1, .int x1)] := hl
  show W p l e rm_X11_shut s m _ below meth c s.heap [] 0 0 _ (F0 m 0 ls [])
  rw [J_X11_shut] at h
  refine lv_aload_n hx hb dX11_shut_0 rfl (lv_at hl 0 rfl) ?_
  refine lv_iload_n hx hb dX11_shut_1 rfl (lv_at hl 1 rfl) ?_
  refine jcV_i (k := x0) (As := [.int x1]) (rest := []) C0 w (c_X11_isWalker hG hx0 h) (cwV 1 hts gX11_shut_X11_isWalker rfl rfl rfl (by decide +kernel) ⟨Nat.le_of_ble_eq_true rfl, Nat.le_of_ble_eq_true rfl⟩) hx0 (rfl : vwCl[10]? = some (RX11, TX11, 15)) (by decide) rfl hl.1 rfl (Nat.le_of_ble_eq_true rfl) dX11_shut_2 (fun q2 i2 j2 H locs h w => ?_) ⟨Nat.zero_le _, Nat.zero_le _⟩
  refine lv_if_ne (tgt := 11) hx hb dX11_shut_5 (by decide) (fun hc => ?_) (fun hc => ?_)
  · replace h := h.1 hc
    clear hc
    refine lv_aload_n hx hb dX11_shut_11 rfl (lv_at hl 0 rfl) ?_
    obtain ⟨a12, hr0, h⟩ := h
    refine jgr (f := 2) hx hb hts hown hst w hG hx0 hiX11 (rfl : vwCl[10]? = some (RX11, TX11, 15)) (hts (.fieldLink RX11 25 "FootByGate" "walkers" "[LFootByGate$Walker;") (by decide +kernel)) ⟨by decide, by decide, rfl⟩ (rfl : jrt 10 2 = 16) dX11_shut_12 hr0 (fun ha12 => ?_)
    clear hr0
    refine lv_iload_n hx hb dX11_shut_15 rfl (lv_at hl 1 rfl) ?_
    obtain ⟨hn, h⟩ := h
    obtain ⟨a16, hr0, h⟩ := h
    refine jaar hx hb hst w hG ha12 hn dX11_shut_16 hr0 (fun ha16 => ?_)
    clear hn hr0
    refine lv_astore_n (lv' := [(2, .ref (b + a16)), (0, .ref (b + x0)), (1, .int x1)]) hx hb dX11_shut_17 rfl hl (by decide) rfl (fun ls hl => ?_)
    refine lv_aload_n hx hb dX11_shut_18 rfl (lv_at hl 1 rfl) ?_
    obtain ⟨a19, hr0, h⟩ := h
    refine jgr (f := 9) hx hb hts hown hst w hG hx0 hiX11 (rfl : vwCl[10]? = some (RX11, TX11, 15)) (hts (.fieldLink RX11 43 "FootByGate" "gait" "LFootByGate$Gait;") (by decide +kernel)) ⟨by decide, by decide, rfl⟩ (rfl : jrt 10 9 = 2) dX11_shut_19 hr0 (fun ha19 => ?_)
    clear hr0
    refine lv_aload_n hx hb dX11_shut_22 rfl (lv_at hl 0 rfl) ?_
    refine jgi (f := 0) hx hb hts hown hst w ha16 hiX9 (rfl : vwCl[8]? = some (RX9, TX9, 3)) (hts (.fieldLink RX11 137 "FootByGate$Walker" "kind" "I") (by decide +kernel)) ⟨by decide, by decide, rfl⟩ dX11_shut_23 ?_
    refine lv_aload_n hx hb dX11_shut_26 rfl (lv_at hl 1 rfl) ?_
    obtain ⟨a27, hr0, h⟩ := h
    refine jgr (f := 1) hx hb hts hown hst w hG hx0 hiX11 (rfl : vwCl[10]? = some (RX11, TX11, 15)) (hts (.fieldLink RX11 19 "FootByGate" "map" "LFootByGate$Town;") (by decide +kernel)) ⟨by decide, by decide, rfl⟩ (rfl : jrt 10 1 = 7) dX11_shut_27 hr0 (fun ha27 => ?_)
    clear hr0
    refine jcV_v (k := a19) (As := [.int (i2 a16 0), .ref (b + a27)]) (rest := []) C0 w (c_X2_take hG ha19 ha27 h) (cwV 2 hts gX11_shut_X2_take rfl rfl rfl (by decide +kernel) ⟨Nat.le_of_ble_eq_true rfl, Nat.le_of_ble_eq_true rfl⟩) ha19 (rfl : vwCl[2]? = some (RX2, TX2, 2)) (by decide) rfl hl.1 rfl (Nat.le_of_ble_eq_true rfl) dX11_shut_30 (fun i30 j30 H locs h w => ?_) ⟨Nat.zero_le _, Nat.zero_le _⟩
    refine lv_aload_n hx hb dX11_shut_33 rfl (lv_at hl 1 rfl) ?_
    refine lv_aload_n hx hb dX11_shut_34 rfl (lv_at hl 0 rfl) ?_
    refine jcV_i (k := x0) (As := [.ref (b + a16)]) (rest := []) C0 w (c_X11_shutPlaces hG hx0 ha16 h) (cwV 1 hts gX11_shut_X11_shutPlaces rfl rfl rfl (by decide +kernel) ⟨Nat.le_of_ble_eq_true rfl, Nat.le_of_ble_eq_true rfl⟩) hx0 (rfl : vwCl[10]? = some (RX11, TX11, 15)) (by decide) rfl hl.1 rfl (Nat.le_of_ble_eq_true rfl) dX11_shut_35 (fun q35 i35 j35 H locs h w => ?_) ⟨Nat.zero_le _, Nat.zero_le _⟩
    exact jret_i hx hb hr hlk hst w h dX11_shut_38
  · replace h := h.2 hc
    clear hc
    refine lv_bipush (v := (-101 : Int32)) hx hb dX11_shut_8 (by decide) ?_
    exact jret_i hx hb hr hlk hst w h dX11_shut_10
end S_X11_shut
section S_X11_skipsTold
def J_X11_skipsTold (len : Nat → Nat) (r : jR) (Q : Int32 → jI → jL → Prop) (i : jI) (j : jL) (x0 : Int32) (x1 : Int32) : Prop := ((¬ x0 = (-1 : Int32)) → (((¬ x1 = 0) → (Q (x0 - x0 / (16384 : Int32) * (16384 : Int32)) i j)) ∧ ((x1 = 0) → (Q (x0 / (16384 : Int32)) i j)))) ∧ ((x0 = (-1 : Int32)) → (Q (-1 : Int32) i j))
abbrev rm_X11_skipsTold : Room := { frames := 0, cells := 0, slots := 0, locals := 0 }
variable {p : Program} {l : Launch} {e : Env} {s : State} {m : MethodId} {args : Array Value} {below : List Frame} {meth : Method} {c : Code} {b tU n : Nat} {cy : Nat → ClassId} {D : va_G} {K len : Nat → Nat} {r : jR} {Q : Int32 → jI → jL → Prop}
set_option maxHeartbeats 4000000 in
set_option maxRecDepth 100000 in
theorem c_X11_skipsTold (hG : jG n K r) {i : jI} {j : jL} {x0 : Int32} {x1 : Int32} (h : J_X11_skipsTold len r Q i j x0 x1) : Met l yX11_skipsTold wsX11_skipsTold rm_X11_skipsTold (va_Pc [.int x0, .int x1] (jPre b cy D tU n K len r i j)) (jQi b cy D tU n K len r Q) 0 0 (jA b) := by
  refine Met.ofW (cc := cX11_skipsTold) (maxL := 2) (ret := (some .int)) (by decide) rfl ?_
  intro p e s m args below meth c s₁ B hml hv
  obtain ⟨rfl, hv⟩ := hv
  have C0 : jCx p s m _ c cX11_skipsTold 2 wsX11_skipsTold RX11 b cy D tU n K r := ⟨B.exec, B.bytes, hml, findClass_of_methodNamed B.named, atoms_spec (ws := wsX11_skipsTold) B.pre, hv.2.2, hG⟩
  have hr := B.returns
  have hlk := B.notSynchronized
  obtain ⟨hx, hb, hml, hown, hts, hst, hG⟩ := id C0
  have w := jDy.start hv
  have hl := lv_entry ([.int x0, .int x1]) (n := 2) (Nat.le_of_ble_eq_true rfl)
  rw [lg_entry_eq]
  generalize (lg_sl ([.int x0, .int x1]) ++ List.replicate (2 - (lg_sl ([.int x0, .int x1])).length) Slot.unset).toArray = ls at hl ⊢
  replace hl : lv_has ls 2 [(0, .int x0), (1, .int x1)] := hl
  show W p l e rm_X11_skipsTold s m _ below meth c s.heap [] 0 0 _ (F0 m 0 ls [])
  rw [J_X11_skipsTold] at h
  refine lv_iload_n hx hb dX11_skipsTold_0 rfl (lv_at hl 0 rfl) ?_
  refine lv_iconst (v := (-1 : Int32)) hx hb dX11_skipsTold_1 (by decide) ?_
  refine lv_icmp_ne (tgt := 7) hx hb dX11_skipsTold_2 (by decide) (fun hc => ?_) (fun hc => ?_)
  · replace h := h.1 hc
    clear hc
    refine lv_iload_n hx hb dX11_skipsTold_7 rfl (lv_at hl 1 rfl) ?_
    refine lv_if_ne (tgt := 19) hx hb dX11_skipsTold_8 (by decide) (fun hc => ?_) (fun hc => ?_)
    · replace h := h.1 hc
      clear hc
      refine lv_iload_n hx hb dX11_skipsTold_19 rfl (lv_at hl 0 rfl) ?_
      refine lv_sipush (v := (16384 : Int32)) hx hb dX11_skipsTold_20 (by decide) ?_
      refine lv_irem hx hb dX11_skipsTold_23 (by decide) ?_
      exact jret_i hx hb hr hlk hst w h dX11_skipsTold_24
    · replace h := h.2 hc
      clear hc
      refine lv_iload_n hx hb dX11_skipsTold_11 rfl (lv_at hl 0 rfl) ?_
      refine lv_sipush (v := (16384 : Int32)) hx hb dX11_skipsTold_12 (by decide) ?_
      refine lv_idiv hx hb dX11_skipsTold_15 (by decide) ?_
      refine lv_goto (tgt := 24) hx hb dX11_skipsTold_16 (by decide) ?_
      exact jret_i hx hb hr hlk hst w h dX11_skipsTold_24
  · replace h := h.2 hc
    clear hc
    refine lv_iconst (v := (-1 : Int32)) hx hb dX11_skipsTold_5 (by decide) ?_
    exact jret_i hx hb hr hlk hst w h dX11_skipsTold_6
end S_X11_skipsTold
section S_X11_withWalker
def J_X11_withWalker_L6 (len : Nat → Nat) (r : jR) (Q : Int64 → jI → jL → Prop) : Nat → jI → jL → Nat → Int32 → Int64 → Int32 → Prop
  | 0 => fun _ _ _ _ _ _ => False
  | g + 1 => fun i j x0 x3 x4 x6 => (((6 : Int32) < x6) → (J_X11_shut len r (fun (q44 : Int32) (i44 : jI) (j44 : jL) => ∀ v49 : Int64, v49 = ((31 : Int64) * x4) + q44.toInt64 → (∃ a53, r x0 2 = some a53 ∧ (vp_in x3 (len a53) ∧ ∃ a57, r a53 x3.toNatClampNeg = some a57 ∧ (J_X11_fewestSteps len r (fun (q60 : Int32) (i60 : jI) (j60 : jL) => ∀ v75 : Int64, v75 = ((31 : Int64) * v49) + q60.toInt64 → (∃ a85, r x0 2 = some a85 ∧ (vp_in x3 (len a85) ∧ ∃ a89, r a85 x3.toNatClampNeg = some a89 ∧ (J_X11_firstStreet len r (fun (q94 : Int32) (i94 : jI) (j94 : jL) => ∀ v99 : Int64, v99 = ((31 : Int64) * v75) + q94.toInt64 → (∃ a103, r x0 2 = some a103 ∧ (vp_in x3 (len a103) ∧ ∃ a107, r a103 x3.toNatClampNeg = some a107 ∧ (J_X11_fewestSkips len r (fun (q110 : Int32) (i110 : jI) (j110 : jL) => J_X11_skipsTold len r (fun (q124 : Int32) (i124 : jI) (j124 : jL) => ∀ v129 : Int64, v129 = ((31 : Int64) * v99) + q124.toInt64 → (J_X11_skipsTold len r (fun (q140 : Int32) (i140 : jI) (j140 : jL) => ∀ v145 : Int64, v145 = ((31 : Int64) * v129) + q140.toInt64 → (Q v145 i140 j140)) i124 j124 q110 (1 : Int32))) i110 j110 q110 (0 : Int32)) i94 j94 x0 a107 (6 : Int32))))) i60 j60 x0 a89 (6 : Int32) q60)))) i44 j44 x0 a57 (6 : Int32))))) i j x0 x3)) ∧ ((¬ (6 : Int32) < x6) → (J_X11_about len r (fun (q23 : Int32) (i23 : jI) (j23 : jL) => ∀ v28 : Int64, v28 = ((31 : Int64) * x4) + q23.toInt64 → (∀ v30 : Int32, v30 = x6 + (1 : Int32) → ((J_X11_withWalker_L6 len r Q g) i23 j23 x0 x3 v28 v30))) i j x0 x3 x6))
def J_X11_withWalker (len : Nat → Nat) (r : jR) (Q : Int64 → jI → jL → Prop) (i : jI) (j : jL) (x0 : Nat) (x1 : Int64) (x3 : Int32) : Prop := ∃ g0, J_X11_withWalker_L6 len r Q g0 i j x0 x3 x1 (0 : Int32)
abbrev rm_X11_withWalker : Room := { frames := 5, cells := 0, slots := 0, locals := 128 }
variable {p : Program} {l : Launch} {e : Env} {s : State} {m : MethodId} {args : Array Value} {below : List Frame} {meth : Method} {c : Code} {b tU n : Nat} {cy : Nat → ClassId} {D : va_G} {K len : Nat → Nat} {r : jR} {Q : Int64 → jI → jL → Prop}
theorem hiX11_X11_withWalker : ∀ w ∈ u_ws RX11 TX11 15, w ∈ wsX11_withWalker := by decide +kernel
set_option maxHeartbeats 4000000 in
set_option maxRecDepth 100000 in
theorem w_X11_withWalker_L6 (C0 : jCx p s m args c cX11_withWalker 8 wsX11_withWalker RX11 b cy D tU n K r) (hr : meth.sig.returnType = some .long) (hlk : meth.locks = false) : ∀ (g : Nat) {H : Heap} {locs : List Loc} {ls : Array Slot} {i : jI} {j : jL} {x0 : Nat} {x3 : Int32} {x4 : Int64} {x6 : Int32} (w : jDy b cy D n K len r i j s H locs) (hx0 : x0 < n ∧ K x0 = 10) (hl : lv_has ls 8 [(0, .ref (b + x0)), (3, .int x3), (4, .long x4), (6, .int x6)]) (h : J_X11_withWalker_L6 len r Q g i j x0 x3 x4 x6), W p l e rm_X11_withWalker s m args below meth c H locs 0 0 (MQ below (jQl b cy D tU n K len r Q) args s 0 0 (jA b)) (F0 m 6 ls []) := by
  obtain ⟨hx, hb, hml, hown, hts, hst, hG⟩ := id C0
  have hiX11 : ∀ w ∈ u_ws RX11 TX11 15, w ∈ wsX11_withWalker := hiX11_X11_withWalker
  intro g
  induction g with
  | zero => intro H locs ls i j x0 x3 x4 x6 w hx0 hl h; exact False.elim h
  | succ g ih =>
    intro H locs ls i j x0 x3 x4 x6 w hx0 hl h
    rw [J_X11_withWalker_L6] at h
    refine lv_iload hx hb dX11_withWalker_6 (lv_at hl 3 rfl) ?_
    refine lv_bipush (v := (6 : Int32)) hx hb dX11_withWalker_8 (by decide) ?_
    refine lv_icmp_gt (tgt := 36) hx hb dX11_withWalker_10 (by decide) (fun hc => ?_) (fun hc => ?_)
    · replace h := h.1 hc
      clear hc
      refine lv_ldc2 hx hb hown (hts (.constantLong RX11 292 (31)) (by decide +kernel)) dX11_withWalker_36 ?_
      refine lv_lload hx hb dX11_withWalker_39 (lv_at hl 2 rfl) ?_
      refine lv_lmul hx hb dX11_withWalker_41 ?_
      refine lv_aload_n hx hb dX11_withWalker_42 rfl (lv_at hl 0 rfl) ?_
      refine lv_iload_n hx hb dX11_withWalker_43 rfl (lv_at hl 1 rfl) ?_
      refine jcV_i (k := x0) (As := [.int x3]) (rest := [.long ((31 : Int64) * x4)]) C0 w (c_X11_shut hG hx0 h) (cwV 1 hts gX11_withWalker_X11_shut rfl rfl rfl (by decide +kernel) ⟨Nat.le_of_ble_eq_true rfl, Nat.le_of_ble_eq_true rfl⟩) hx0 (rfl : vwCl[10]? = some (RX11, TX11, 15)) (by decide) rfl hl.1 rfl (Nat.le_of_ble_eq_true rfl) dX11_withWalker_44 (fun q44 i44 j44 H locs h w => ?_) ⟨Nat.zero_le _, Nat.zero_le _⟩
      refine lv_i2l hx hb dX11_withWalker_47 rfl ?_
      refine lv_ladd hx hb dX11_withWalker_48 ?_
      refine lv_topl (fun v49 he => ?_)
      replace h := h v49 he
      clear he
      refine lv_lstore (lv' := [(4, .long v49), (0, .ref (b + x0)), (3, .int x3), (6, .int x6)]) hx hb dX11_withWalker_49 hl (by decide) rfl (fun ls hl => ?_)
      refine lv_aload_n hx hb dX11_withWalker_51 rfl (lv_at hl 1 rfl) ?_
      refine lv_aload_n hx hb dX11_withWalker_52 rfl (lv_at hl 1 rfl) ?_
      obtain ⟨a53, hr0, h⟩ := h
      refine jgr (f := 2) hx hb hts hown hst w hG hx0 hiX11 (rfl : vwCl[10]? = some (RX11, TX11, 15)) (hts (.fieldLink RX11 25 "FootByGate" "walkers" "[LFootByGate$Walker;") (by decide +kernel)) ⟨by decide, by decide, rfl⟩ (rfl : jrt 10 2 = 16) dX11_withWalker_53 hr0 (fun ha53 => ?_)
      clear hr0
      refine lv_iload_n hx hb dX11_withWalker_56 rfl (lv_at hl 2 rfl) ?_
      obtain ⟨hn, h⟩ := h
      obtain ⟨a57, hr0, h⟩ := h
      refine jaar hx hb hst w hG ha53 hn dX11_withWalker_57 hr0 (fun ha57 => ?_)
      clear hn hr0
      refine lv_bipush (v := (6 : Int32)) hx hb dX11_withWalker_58 (by decide) ?_
      refine jcV_i (k := x0) (As := [.ref (b + a57), .int (6 : Int32)]) (rest := []) C0 w (c_X11_fewestSteps hG hx0 ha57 h) (cwV 2 hts gX11_withWalker_X11_fewestSteps rfl rfl rfl (by decide +kernel) ⟨Nat.le_of_ble_eq_true rfl, Nat.le_of_ble_eq_true rfl⟩) hx0 (rfl : vwCl[10]? = some (RX11, TX11, 15)) (by decide) rfl hl.1 rfl (Nat.le_of_ble_eq_true rfl) dX11_withWalker_60 (fun q60 i60 j60 H locs h w => ?_) ⟨Nat.zero_le _, Nat.zero_le _⟩
      refine lv_istore (lv' := [(6, .int q60), (4, .long v49), (0, .ref (b + x0)), (3, .int x3)]) hx hb dX11_withWalker_63 hl (by decide) rfl (fun ls hl => ?_)
      refine lv_ldc2 hx hb hown (hts (.constantLong RX11 292 (31)) (by decide +kernel)) dX11_withWalker_65 ?_
      refine lv_lload hx hb dX11_withWalker_68 (lv_at hl 1 rfl) ?_
      refine lv_lmul hx hb dX11_withWalker_70 ?_
      refine lv_iload hx hb dX11_withWalker_71 (lv_at hl 0 rfl) ?_
      refine lv_i2l hx hb dX11_withWalker_73 rfl ?_
      refine lv_ladd hx hb dX11_withWalker_74 ?_
      refine lv_topl (fun v75 he => ?_)
      replace h := h v75 he
      clear he
      refine lv_lstore (lv' := [(4, .long v75), (6, .int q60), (0, .ref (b + x0)), (3, .int x3)]) hx hb dX11_withWalker_75 hl (by decide) rfl (fun ls hl => ?_)
      refine lv_ldc2 hx hb hown (hts (.constantLong RX11 292 (31)) (by decide +kernel)) dX11_withWalker_77 ?_
      refine lv_lload hx hb dX11_withWalker_80 (lv_at hl 0 rfl) ?_
      refine lv_lmul hx hb dX11_withWalker_82 ?_
      refine lv_aload_n hx hb dX11_withWalker_83 rfl (lv_at hl 2 rfl) ?_
      refine lv_aload_n hx hb dX11_withWalker_84 rfl (lv_at hl 2 rfl) ?_
      obtain ⟨a85, hr0, h⟩ := h
      refine jgr (f := 2) hx hb hts hown hst w hG hx0 hiX11 (rfl : vwCl[10]? = some (RX11, TX11, 15)) (hts (.fieldLink RX11 25 "FootByGate" "walkers" "[LFootByGate$Walker;") (by decide +kernel)) ⟨by decide, by decide, rfl⟩ (rfl : jrt 10 2 = 16) dX11_withWalker_85 hr0 (fun ha85 => ?_)
      clear hr0
      refine lv_iload_n hx hb dX11_withWalker_88 rfl (lv_at hl 3 rfl) ?_
      obtain ⟨hn, h⟩ := h
      obtain ⟨a89, hr0, h⟩ := h
      refine jaar hx hb hst w hG ha85 hn dX11_withWalker_89 hr0 (fun ha89 => ?_)
      clear hn hr0
      refine lv_bipush (v := (6 : Int32)) hx hb dX11_withWalker_90 (by decide) ?_
      refine lv_iload hx hb dX11_withWalker_92 (lv_at hl 1 rfl) ?_
      refine jcV_i (k := x0) (As := [.ref (b + a89), .int (6 : Int32), .int q60]) (rest := [.long ((31 : Int64) * v75)]) C0 w (c_X11_firstStreet hG hx0 ha89 h) (cwV 3 hts gX11_withWalker_X11_firstStreet rfl rfl rfl (by decide +kernel) ⟨Nat.le_of_ble_eq_true rfl, Nat.le_of_ble_eq_true rfl⟩) hx0 (rfl : vwCl[10]? = some (RX11, TX11, 15)) (by decide) rfl hl.1 rfl (Nat.le_of_ble_eq_true rfl) dX11_withWalker_94 (fun q94 i94 j94 H locs h w => ?_) ⟨Nat.zero_le _, Nat.zero_le _⟩
      refine lv_i2l hx hb dX11_withWalker_97 rfl ?_
      refine lv_ladd hx hb dX11_withWalker_98 ?_
      refine lv_topl (fun v99 he => ?_)
      replace h := h v99 he
      clear he
      refine lv_lstore (lv' := [(4, .long v99), (6, .int q60), (0, .ref (b + x0)), (3, .int x3)]) hx hb dX11_withWalker_99 hl (by decide) rfl (fun ls hl => ?_)
      refine lv_aload_n hx hb dX11_withWalker_101 rfl (lv_at hl 2 rfl) ?_
      refine lv_aload_n hx hb dX11_withWalker_102 rfl (lv_at hl 2 rfl) ?_
      obtain ⟨a103, hr0, h⟩ := h
      refine jgr (f := 2) hx hb hts hown hst w hG hx0 hiX11 (rfl : vwCl[10]? = some (RX11, TX11, 15)) (hts (.fieldLink RX11 25 "FootByGate" "walkers" "[LFootByGate$Walker;") (by decide +kernel)) ⟨by decide, by decide, rfl⟩ (rfl : jrt 10 2 = 16) dX11_withWalker_103 hr0 (fun ha103 => ?_)
      clear hr0
      refine lv_iload_n hx hb dX11_withWalker_106 rfl (lv_at hl 3 rfl) ?_
      obtain ⟨hn, h⟩ := h
      obtain ⟨a107, hr0, h⟩ := h
      refine jaar hx hb hst w hG ha103 hn dX11_withWalker_107 hr0 (fun ha107 => ?_)
      clear hn hr0
      refine lv_bipush (v := (6 : Int32)) hx hb dX11_withWalker_108 (by decide) ?_
      refine jcV_i (k := x0) (As := [.ref (b + a107), .int (6 : Int32)]) (rest := []) C0 w (c_X11_fewestSkips hG hx0 ha107 h) (cwV 2 hts gX11_withWalker_X11_fewestSkips rfl rfl rfl (by decide +kernel) ⟨Nat.le_of_ble_eq_true rfl, Nat.le_of_ble_eq_true rfl⟩) hx0 (rfl : vwCl[10]? = some (RX11, TX11, 15)) (by decide) rfl hl.1 rfl (Nat.le_of_ble_eq_true rfl) dX11_withWalker_110 (fun q110 i110 j110 H locs h w => ?_) ⟨Nat.zero_le _, Nat.zero_le _⟩
      refine lv_istore (lv' := [(7, .int q110), (4, .long v99), (6, .int q60), (0, .ref (b + x0)), (3, .int x3)]) hx hb dX11_withWalker_113 hl (by decide) rfl (fun ls hl => ?_)
      refine lv_ldc2 hx hb hown (hts (.constantLong RX11 292 (31)) (by decide +kernel)) dX11_withWalker_115 ?_
      refine lv_lload hx hb dX11_withWalker_118 (lv_at hl 1 rfl) ?_
      refine lv_lmul hx hb dX11_withWalker_120 ?_
      refine lv_iload hx hb dX11_withWalker_121 (lv_at hl 0 rfl) ?_
      refine lv_iconst (v := (0 : Int32)) hx hb dX11_withWalker_123 (by decide) ?_
      refine jcS_i (As := [.int q110, .int (0 : Int32)]) (rest := [.long ((31 : Int64) * v99)]) C0 w (c_X11_skipsTold hG h) (va_cwS 2 hts gX11_withWalker_X11_skipsTold rfl rfl rfl (by decide +kernel) ⟨Nat.le_of_ble_eq_true rfl, Nat.le_of_ble_eq_true rfl⟩) rfl hl.1 rfl (Nat.le_of_ble_eq_true rfl) dX11_withWalker_124 (fun q124 i124 j124 H locs h w => ?_) ⟨Nat.zero_le _, Nat.zero_le _⟩
      refine lv_i2l hx hb dX11_withWalker_127 rfl ?_
      refine lv_ladd hx hb dX11_withWalker_128 ?_
      refine lv_topl (fun v129 he => ?_)
      replace h := h v129 he
      clear he
      refine lv_lstore (lv' := [(4, .long v129), (7, .int q110), (6, .int q60), (0, .ref (b + x0)), (3, .int x3)]) hx hb dX11_withWalker_129 hl (by decide) rfl (fun ls hl => ?_)
      refine lv_ldc2 hx hb hown (hts (.constantLong RX11 292 (31)) (by decide +kernel)) dX11_withWalker_131 ?_
      refine lv_lload hx hb dX11_withWalker_134 (lv_at hl 0 rfl) ?_
      refine lv_lmul hx hb dX11_withWalker_136 ?_
      refine lv_iload hx hb dX11_withWalker_137 (lv_at hl 1 rfl) ?_
      refine lv_iconst (v := (1 : Int32)) hx hb dX11_withWalker_139 (by decide) ?_
      refine jcS_i (As := [.int q110, .int (1 : Int32)]) (rest := [.long ((31 : Int64) * v129)]) C0 w (c_X11_skipsTold hG h) (va_cwS 2 hts gX11_withWalker_X11_skipsTold rfl rfl rfl (by decide +kernel) ⟨Nat.le_of_ble_eq_true rfl, Nat.le_of_ble_eq_true rfl⟩) rfl hl.1 rfl (Nat.le_of_ble_eq_true rfl) dX11_withWalker_140 (fun q140 i140 j140 H locs h w => ?_) ⟨Nat.zero_le _, Nat.zero_le _⟩
      refine lv_i2l hx hb dX11_withWalker_143 rfl ?_
      refine lv_ladd hx hb dX11_withWalker_144 ?_
      refine lv_topl (fun v145 he => ?_)
      replace h := h v145 he
      clear he
      refine lv_lstore (lv' := [(4, .long v145), (7, .int q110), (6, .int q60), (0, .ref (b + x0)), (3, .int x3)]) hx hb dX11_withWalker_145 hl (by decide) rfl (fun ls hl => ?_)
      refine lv_lload hx hb dX11_withWalker_147 (lv_at hl 0 rfl) ?_
      exact jret_l hx hb hr hlk hst w h dX11_withWalker_149
    · replace h := h.2 hc
      clear hc
      refine lv_ldc2 hx hb hown (hts (.constantLong RX11 292 (31)) (by decide +kernel)) dX11_withWalker_13 ?_
      refine lv_lload hx hb dX11_withWalker_16 (lv_at hl 2 rfl) ?_
      refine lv_lmul hx hb dX11_withWalker_18 ?_
      refine lv_aload_n hx hb dX11_withWalker_19 rfl (lv_at hl 0 rfl) ?_
      refine lv_iload_n hx hb dX11_withWalker_20 rfl (lv_at hl 1 rfl) ?_
      refine lv_iload hx hb dX11_withWalker_21 (lv_at hl 3 rfl) ?_
      refine jcV_i (k := x0) (As := [.int x3, .int x6]) (rest := [.long ((31 : Int64) * x4)]) C0 w (c_X11_about hG hx0 h) (cwV 2 hts gX11_withWalker_X11_about rfl rfl rfl (by decide +kernel) ⟨Nat.le_of_ble_eq_true rfl, Nat.le_of_ble_eq_true rfl⟩) hx0 (rfl : vwCl[10]? = some (RX11, TX11, 15)) (by decide) rfl hl.1 rfl (Nat.le_of_ble_eq_true rfl) dX11_withWalker_23 (fun q23 i23 j23 H locs h w => ?_) ⟨Nat.zero_le _, Nat.zero_le _⟩
      refine lv_i2l hx hb dX11_withWalker_26 rfl ?_
      refine lv_ladd hx hb dX11_withWalker_27 ?_
      refine lv_topl (fun v28 he => ?_)
      replace h := h v28 he
      clear he
      refine lv_lstore (lv' := [(4, .long v28), (0, .ref (b + x0)), (3, .int x3), (6, .int x6)]) hx hb dX11_withWalker_28 hl (by decide) rfl (fun ls hl => ?_)
      obtain ⟨v30, he⟩ : ∃ z : Int32, z = x6 + (1 : Int32) := ⟨_, rfl⟩
      replace h := h v30 he
      refine lv_iinc (v := v30) (lv' := [(6, .int v30), (4, .long v28), (0, .ref (b + x0)), (3, .int x3)]) hx hb dX11_withWalker_30 hl (k := 3) rfl (by rw [he]; rfl) (by decide) rfl (fun ls hl => ?_)
      clear he
      refine lv_goto (tgt := 6) hx hb dX11_withWalker_33 (by decide) ?_
      exact ih w hx0 (lv_sub hl [2, 3, 1, 0] rfl) h
set_option maxHeartbeats 4000000 in
set_option maxRecDepth 100000 in
theorem c_X11_withWalker (hG : jG n K r) {i : jI} {j : jL} {x0 : Nat} {x1 : Int64} {x3 : Int32} (hx0 : x0 < n ∧ K x0 = 10) (h : J_X11_withWalker len r Q i j x0 x1 x3) : Met l yX11_withWalker wsX11_withWalker rm_X11_withWalker (va_Pc [.ref (b + x0), .long x1, .int x3] (jPre b cy D tU n K len r i j)) (jQl b cy D tU n K len r Q) 0 0 (jA b) := by
  refine Met.ofW (cc := cX11_withWalker) (maxL := 8) (ret := (some .long)) (by decide) rfl ?_
  intro p e s m args below meth c s₁ B hml hv
  obtain ⟨rfl, hv⟩ := hv
  have C0 : jCx p s m _ c cX11_withWalker 8 wsX11_withWalker RX11 b cy D tU n K r := ⟨B.exec, B.bytes, hml, findClass_of_methodNamed B.named, atoms_spec (ws := wsX11_withWalker) B.pre, hv.2.2, hG⟩
  have hr := B.returns
  have hlk := B.notSynchronized
  obtain ⟨hx, hb, hml, hown, hts, hst, hG⟩ := id C0
  have hiX11 : ∀ w ∈ u_ws RX11 TX11 15, w ∈ wsX11_withWalker := hiX11_X11_withWalker
  have w := jDy.start hv
  have hl := lv_entry ([.ref (b + x0), .long x1, .int x3]) (n := 8) (Nat.le_of_ble_eq_true rfl)
  rw [lg_entry_eq]
  generalize (lg_sl ([.ref (b + x0), .long x1, .int x3]) ++ List.replicate (8 - (lg_sl ([.ref (b + x0), .long x1, .int x3])).length) Slot.unset).toArray = ls at hl ⊢
  replace hl : lv_has ls 8 [(0, .ref (b + x0)), (1, .long x1), (3, .int x3)] := hl
  show W p l e rm_X11_withWalker s m _ below meth c s.heap [] 0 0 _ (F0 m 0 ls [])
  rw [J_X11_withWalker] at h
  refine lv_lload_n hx hb dX11_withWalker_0 rfl (lv_at hl 1 rfl) ?_
  refine lv_lstore (lv' := [(4, .long x1), (0, .ref (b + x0)), (1, .long x1), (3, .int x3)]) hx hb dX11_withWalker_1 hl (by decide) rfl (fun ls hl => ?_)
  refine lv_iconst (v := (0 : Int32)) hx hb dX11_withWalker_3 (by decide) ?_
  refine lv_istore (lv' := [(6, .int (0 : Int32)), (4, .long x1), (0, .ref (b + x0)), (1, .long x1), (3, .int x3)]) hx hb dX11_withWalker_4 hl (by decide) rfl (fun ls hl => ?_)
  obtain ⟨g0, h⟩ := h
  exact w_X11_withWalker_L6 C0 hr hlk g0 w hx0 (lv_sub hl [2, 4, 1, 0] rfl) h
end S_X11_withWalker
section S_X11_digest
def J_X11_digest_L232 (len : Nat → Nat) (r : jR) (Q : Int64 → jI → jL → Prop) : Nat → jI → jL → Nat → Int64 → Int32 → Prop
  | 0 => fun _ _ _ _ _ => False
  | g + 1 => fun i j x0 x1 x3 => (((7 : Int32) < x3) → (Q x1 i j)) ∧ ((¬ (7 : Int32) < x3) → (J_X11_count len r (fun (q245 : Int32) (i245 : jI) (j245 : jL) => ∀ v250 : Int64, v250 = ((31 : Int64) * x1) + q245.toInt64 → (∀ v251 : Int32, v251 = x3 + (1 : Int32) → ((J_X11_digest_L232 len r Q g) i245 j245 x0 v250 v251))) i j x0 x3))
def J_X11_digest_L196 (len : Nat → Nat) (r : jR) (Q : Int64 → jI → jL → Prop) : Nat → jI → jL → Nat → Int64 → Int32 → Prop
  | 0 => fun _ _ _ _ _ => False
  | g + 1 => fun i j x0 x1 x3 => ∃ a198, r x0 0 = some a198 ∧ ((((i a198 1) ≤ x3) → (∃ g0, J_X11_digest_L232 len r Q g0 i j x0 x1 (0 : Int32))) ∧ ((¬ (i a198 1) ≤ x3) → (∃ a213, r x0 0 = some a213 ∧ (∃ a216, r a213 0 = some a216 ∧ (vp_in x3 (len a216) ∧ (∀ v223 : Int64, v223 = ((31 : Int64) * x1) + ((i a216 x3.toNatClampNeg).toInt64) → (∀ v224 : Int32, v224 = x3 + (1 : Int32) → ((J_X11_digest_L196 len r Q g) i j x0 v223 v224))))))))
def J_X11_digest_L117 (len : Nat → Nat) (r : jR) (Q : Int64 → jI → jL → Prop) : Nat → jI → jL → Nat → Int64 → Int32 → Prop
  | 0 => fun _ _ _ _ _ => False
  | g + 1 => fun i j x0 x1 x3 => (((i x0 5) ≤ x3) → (J_X11_who len r (fun (q188 : Int32) (i188 : jI) (j188 : jL) => ∀ v193 : Int64, v193 = ((31 : Int64) * x1) + q188.toInt64 → (∃ g0, J_X11_digest_L196 len r Q g0 i188 j188 x0 v193 (0 : Int32))) i j x0)) ∧ ((¬ (i x0 5) ≤ x3) → (∃ a131, r x0 4 = some a131 ∧ (vp_in x3 (len a131) ∧ (J_X11_gateOfPrint len r (fun (q136 : Int32) (i136 : jI) (j136 : jL) => ∀ v141 : Int64, v141 = ((31 : Int64) * x1) + q136.toInt64 → (∃ a148, r x0 4 = some a148 ∧ (vp_in x3 (len a148) ∧ (J_X11_wayOfPrint len r (fun (q153 : Int32) (i153 : jI) (j153 : jL) => ∀ v158 : Int64, v158 = ((31 : Int64) * v141) + q153.toInt64 → (∃ a165, r x0 4 = some a165 ∧ (vp_in x3 (len a165) ∧ (J_X11_footOfPrint len r (fun (q170 : Int32) (i170 : jI) (j170 : jL) => ∀ v175 : Int64, v175 = ((31 : Int64) * v158) + q170.toInt64 → (∀ v176 : Int32, v176 = x3 + (1 : Int32) → ((J_X11_digest_L117 len r Q g) i170 j170 x0 v175 v176))) i153 j153 (i153 a165 x3.toNatClampNeg))))) i136 j136 (i136 a148 x3.toNatClampNeg))))) i j (i a131 x3.toNatClampNeg)))))
def J_X11_digest_L115 (len : Nat → Nat) (r : jR) (Q : Int64 → jI → jL → Prop) (i : jI) (j : jL) (x0 : Nat) (x1 : Int64) : Prop := ∃ g0, J_X11_digest_L117 len r Q g0 i j x0 x1 (0 : Int32)
def J_X11_digest_L55 (len : Nat → Nat) (r : jR) (Q : Int64 → jI → jL → Prop) : Nat → jI → jL → Nat → Int64 → Int32 → Prop
  | 0 => fun _ _ _ _ _ => False
  | g + 1 => fun i j x0 x1 x3 => (((i x0 3) ≤ x3) → (J_X11_hasTown len r (fun (q77 : Int32) (i77 : jI) (j77 : jL) => ((q77 = 0) → (J_X11_digest_L115 len r Q i77 j77 x0 x1)) ∧ ((¬ q77 = 0) → (J_X11_stonesForEven len r (fun (q85 : Int32) (i85 : jI) (j85 : jL) => J_X11_streetsTold len r (fun (q96 : Int32) (i96 : jI) (j96 : jL) => ∀ v101 : Int64, v101 = ((31 : Int64) * x1) + q96.toInt64 → (J_X11_streetsTold len r (fun (q109 : Int32) (i109 : jI) (j109 : jL) => ∀ v114 : Int64, v114 = ((31 : Int64) * v101) + q109.toInt64 → (J_X11_digest_L115 len r Q i109 j109 x0 v114)) i96 j96 q85 (1 : Int32))) i85 j85 q85 (0 : Int32)) i77 j77 x0 (0 : Int32)))) i j x0)) ∧ ((¬ (i x0 3) ≤ x3) → (J_X11_withWalker len r (fun (q66 : Int64) (i66 : jI) (j66 : jL) => ∀ v70 : Int32, v70 = x3 + (1 : Int32) → ((J_X11_digest_L55 len r Q g) i66 j66 x0 q66 v70)) i j x0 x1 x3))
def J_X11_digest_L20 (len : Nat → Nat) (r : jR) (Q : Int64 → jI → jL → Prop) (Hd6 : jI → jL → Nat → Int64 → Int32 → Prop) : Nat → jI → jL → Nat → Int64 → Int32 → Int32 → Prop
  | 0 => fun _ _ _ _ _ _ => False
  | g + 1 => fun i j x0 x1 x3 x4 => (((3 : Int32) < x4) → (∀ v47 : Int32, v47 = x3 + (1 : Int32) → (Hd6 i j x0 x1 v47))) ∧ ((¬ (3 : Int32) < x4) → (J_X11_street len r (fun (q35 : Int32) (i35 : jI) (j35 : jL) => ∀ v40 : Int64, v40 = ((31 : Int64) * x1) + q35.toInt64 → (∀ v41 : Int32, v41 = x4 + (1 : Int32) → ((J_X11_digest_L20 len r Q Hd6 g) i35 j35 x0 v40 x3 v41))) i j x0 x3 x4))
def J_X11_digest_L6 (len : Nat → Nat) (r : jR) (Q : Int64 → jI → jL → Prop) : Nat → jI → jL → Nat → Int64 → Int32 → Prop
  | 0 => fun _ _ _ _ _ => False
  | g + 1 => fun i j x0 x1 x3 => ∃ a8, r x0 1 = some a8 ∧ ((((i a8 0) ≤ x3) → (∃ g0, J_X11_digest_L55 len r Q g0 i j x0 x1 (0 : Int32))) ∧ ((¬ (i a8 0) ≤ x3) → (∃ g0, J_X11_digest_L20 len r Q (J_X11_digest_L6 len r Q g) g0 i j x0 x1 x3 (0 : Int32))))
def J_X11_digest (len : Nat → Nat) (r : jR) (Q : Int64 → jI → jL → Prop) (i : jI) (j : jL) (x0 : Nat) : Prop := ∃ g0, J_X11_digest_L6 len r Q g0 i j x0 (619 : Int64) (0 : Int32)
abbrev rm_X11_digest : Room := { frames := 6, cells := 0, slots := 0, locals := 155 }
variable {p : Program} {l : Launch} {e : Env} {s : State} {m : MethodId} {args : Array Value} {below : List Frame} {meth : Method} {c : Code} {b tU n : Nat} {cy : Nat → ClassId} {D : va_G} {K len : Nat → Nat} {r : jR} {Q : Int64 → jI → jL → Prop}
theorem hiX11_X11_digest : ∀ w ∈ u_ws RX11 TX11 15, w ∈ wsX11_digest := by decide +kernel
theorem hiX5_X11_digest : ∀ w ∈ u_ws RX5 TX5 5, w ∈ wsX11_digest := by decide +kernel
theorem hiX8_X11_digest : ∀ w ∈ u_ws RX8 TX8 8, w ∈ wsX11_digest := by decide +kernel
set_option maxHeartbeats 4000000 in
set_option maxRecDepth 100000 in
theorem w_X11_digest_L232 (C0 : jCx p s m args c cX11_digest 5 wsX11_digest RX11 b cy D tU n K r) (hr : meth.sig.returnType = some .long) (hlk : meth.locks = false) : ∀ (g : Nat) {H : Heap} {locs : List Loc} {ls : Array Slot} {i : jI} {j : jL} {x0 : Nat} {x1 : Int64} {x3 : Int32} (w : jDy b cy D n K len r i j s H locs) (hx0 : x0 < n ∧ K x0 = 10) (hl : lv_has ls 5 [(0, .ref (b + x0)), (1, .long x1), (3, .int x3)]) (h : J_X11_digest_L232 len r Q g i j x0 x1 x3), W p l e rm_X11_digest s m args below meth c H locs 0 0 (MQ below (jQl b cy D tU n K len r Q) args s 0 0 (jA b)) (F0 m 232 ls []) := by
  obtain ⟨hx, hb, hml, hown, hts, hst, hG⟩ := id C0
  have hiX11 : ∀ w ∈ u_ws RX11 TX11 15, w ∈ wsX11_digest := hiX11_X11_digest
  have hiX5 : ∀ w ∈ u_ws RX5 TX5 5, w ∈ wsX11_digest := hiX5_X11_digest
  have hiX8 : ∀ w ∈ u_ws RX8 TX8 8, w ∈ wsX11_digest := hiX8_X11_digest
  intro g
  induction g with
  | zero => intro H locs ls i j x0 x1 x3 w hx0 hl h; exact False.elim h
  | succ g ih =>
    intro H locs ls i j x0 x1 x3 w hx0 hl h
    rw [J_X11_digest_L232] at h
    refine lv_iload_n hx hb dX11_digest_232 rfl (lv_at hl 2 rfl) ?_
    refine lv_bipush (v := (7 : Int32)) hx hb dX11_digest_233 (by decide) ?_
    refine lv_icmp_gt (tgt := 257) hx hb dX11_digest_235 (by decide) (fun hc => ?_) (fun hc => ?_)
    · replace h := h.1 hc
      clear hc
      refine lv_lload_n hx hb dX11_digest_257 rfl (lv_at hl 1 rfl) ?_
      exact jret_l hx hb hr hlk hst w h dX11_digest_258
    · replace h := h.2 hc
      clear hc
      refine lv_ldc2 hx hb hown (hts (.constantLong RX11 292 (31)) (by decide +kernel)) dX11_digest_238 ?_
      refine lv_lload_n hx hb dX11_digest_241 rfl (lv_at hl 1 rfl) ?_
      refine lv_lmul hx hb dX11_digest_242 ?_
      refine lv_aload_n hx hb dX11_digest_243 rfl (lv_at hl 0 rfl) ?_
      refine lv_iload_n hx hb dX11_digest_244 rfl (lv_at hl 2 rfl) ?_
      refine jcV_i (k := x0) (As := [.int x3]) (rest := [.long ((31 : Int64) * x1)]) C0 w (c_X11_count hG hx0 h) (cwV 1 hts gX11_digest_X11_count rfl rfl rfl (by decide +kernel) ⟨Nat.le_of_ble_eq_true rfl, Nat.le_of_ble_eq_true rfl⟩) hx0 (rfl : vwCl[10]? = some (RX11, TX11, 15)) (by decide) rfl hl.1 rfl (Nat.le_of_ble_eq_true rfl) dX11_digest_245 (fun q245 i245 j245 H locs h w => ?_) ⟨Nat.zero_le _, Nat.zero_le _⟩
      refine lv_i2l hx hb dX11_digest_248 rfl ?_
      refine lv_ladd hx hb dX11_digest_249 ?_
      refine lv_topl (fun v250 he => ?_)
      replace h := h v250 he
      clear he
      refine lv_lstore_n (lv' := [(1, .long v250), (0, .ref (b + x0)), (3, .int x3)]) hx hb dX11_digest_250 rfl hl (by decide) rfl (fun ls hl => ?_)
      obtain ⟨v251, he⟩ : ∃ z : Int32, z = x3 + (1 : Int32) := ⟨_, rfl⟩
      replace h := h v251 he
      refine lv_iinc (v := v251) (lv' := [(3, .int v251), (1, .long v250), (0, .ref (b + x0))]) hx hb dX11_digest_251 hl (k := 2) rfl (by rw [he]; rfl) (by decide) rfl (fun ls hl => ?_)
      clear he
      refine lv_goto (tgt := 232) hx hb dX11_digest_254 (by decide) ?_
      exact ih w hx0 (lv_sub hl [2, 1, 0] rfl) h
set_option maxHeartbeats 4000000 in
set_option maxRecDepth 100000 in
theorem w_X11_digest_L196 (C0 : jCx p s m args c cX11_digest 5 wsX11_digest RX11 b cy D tU n K r) (hr : meth.sig.returnType = some .long) (hlk : meth.locks = false) : ∀ (g : Nat) {H : Heap} {locs : List Loc} {ls : Array Slot} {i : jI} {j : jL} {x0 : Nat} {x1 : Int64} {x3 : Int32} (w : jDy b cy D n K len r i j s H locs) (hx0 : x0 < n ∧ K x0 = 10) (hl : lv_has ls 5 [(0, .ref (b + x0)), (1, .long x1), (3, .int x3)]) (h : J_X11_digest_L196 len r Q g i j x0 x1 x3), W p l e rm_X11_digest s m args below meth c H locs 0 0 (MQ below (jQl b cy D tU n K len r Q) args s 0 0 (jA b)) (F0 m 196 ls []) := by
  obtain ⟨hx, hb, hml, hown, hts, hst, hG⟩ := id C0
  have hiX11 : ∀ w ∈ u_ws RX11 TX11 15, w ∈ wsX11_digest := hiX11_X11_digest
  have hiX5 : ∀ w ∈ u_ws RX5 TX5 5, w ∈ wsX11_digest := hiX5_X11_digest
  have hiX8 : ∀ w ∈ u_ws RX8 TX8 8, w ∈ wsX11_digest := hiX8_X11_digest
  intro g
  induction g with
  | zero => intro H locs ls i j x0 x1 x3 w hx0 hl h; exact False.elim h
  | succ g ih =>
    intro H locs ls i j x0 x1 x3 w hx0 hl h
    rw [J_X11_digest_L196] at h
    refine lv_iload_n hx hb dX11_digest_196 rfl (lv_at hl 2 rfl) ?_
    refine lv_aload_n hx hb dX11_digest_197 rfl (lv_at hl 0 rfl) ?_
    obtain ⟨a198, hr0, h⟩ := h
    refine jgr (f := 0) hx hb hts hown hst w hG hx0 hiX11 (rfl : vwCl[10]? = some (RX11, TX11, 15)) (hts (.fieldLink RX11 10 "FootByGate" "page" "LFootByGate$Page;") (by decide +kernel)) ⟨by decide, by decide, rfl⟩ (rfl : jrt 10 0 = 5) dX11_digest_198 hr0 (fun ha198 => ?_)
    clear hr0
    refine jgi (f := 1) hx hb hts hown hst w ha198 hiX5 (rfl : vwCl[5]? = some (RX5, TX5, 5)) (hts (.fieldLink RX11 76 "FootByGate$Page" "length" "I") (by decide +kernel)) ⟨by decide, by decide, rfl⟩ dX11_digest_201 ?_
    refine lv_icmp_ge (tgt := 230) hx hb dX11_digest_204 (by decide) (fun hc => ?_) (fun hc => ?_)
    · replace h := h.1 hc
      clear hc
      refine lv_iconst (v := (0 : Int32)) hx hb dX11_digest_230 (by decide) ?_
      refine lv_istore_n (lv' := [(3, .int (0 : Int32)), (0, .ref (b + x0)), (1, .long x1)]) hx hb dX11_digest_231 rfl hl (by decide) rfl (fun ls hl => ?_)
      obtain ⟨g0, h⟩ := h
      exact w_X11_digest_L232 C0 hr hlk g0 w hx0 (lv_sub hl [1, 2, 0] rfl) h
    · replace h := h.2 hc
      clear hc
      refine lv_ldc2 hx hb hown (hts (.constantLong RX11 292 (31)) (by decide +kernel)) dX11_digest_207 ?_
      refine lv_lload_n hx hb dX11_digest_210 rfl (lv_at hl 1 rfl) ?_
      refine lv_lmul hx hb dX11_digest_211 ?_
      refine lv_aload_n hx hb dX11_digest_212 rfl (lv_at hl 0 rfl) ?_
      obtain ⟨a213, hr0, h⟩ := h
      refine jgr (f := 0) hx hb hts hown hst w hG hx0 hiX11 (rfl : vwCl[10]? = some (RX11, TX11, 15)) (hts (.fieldLink RX11 10 "FootByGate" "page" "LFootByGate$Page;") (by decide +kernel)) ⟨by decide, by decide, rfl⟩ (rfl : jrt 10 0 = 5) dX11_digest_213 hr0 (fun ha213 => ?_)
      clear hr0
      obtain ⟨a216, hr0, h⟩ := h
      refine jgr (f := 0) hx hb hts hown hst w hG ha213 hiX5 (rfl : vwCl[5]? = some (RX5, TX5, 5)) (hts (.fieldLink RX11 313 "FootByGate$Page" "letters" "[I") (by decide +kernel)) ⟨by decide, by decide, rfl⟩ (rfl : jrt 5 0 = 13) dX11_digest_216 hr0 (fun ha216 => ?_)
      clear hr0
      refine lv_iload_n hx hb dX11_digest_219 rfl (lv_at hl 2 rfl) ?_
      obtain ⟨hn, h⟩ := h
      refine jaid hx hb hst w ha216 hn dX11_digest_220 ?_
      clear hn
      refine lv_i2l hx hb dX11_digest_221 rfl ?_
      refine lv_ladd hx hb dX11_digest_222 ?_
      refine lv_topl (fun v223 he => ?_)
      replace h := h v223 he
      clear he
      refine lv_lstore_n (lv' := [(1, .long v223), (0, .ref (b + x0)), (3, .int x3)]) hx hb dX11_digest_223 rfl hl (by decide) rfl (fun ls hl => ?_)
      obtain ⟨v224, he⟩ : ∃ z : Int32, z = x3 + (1 : Int32) := ⟨_, rfl⟩
      replace h := h v224 he
      refine lv_iinc (v := v224) (lv' := [(3, .int v224), (1, .long v223), (0, .ref (b + x0))]) hx hb dX11_digest_224 hl (k := 2) rfl (by rw [he]; rfl) (by decide) rfl (fun ls hl => ?_)
      clear he
      refine lv_goto (tgt := 196) hx hb dX11_digest_227 (by decide) ?_
      exact ih w hx0 (lv_sub hl [2, 1, 0] rfl) h
set_option maxHeartbeats 4000000 in
set_option maxRecDepth 100000 in
theorem w_X11_digest_L117 (C0 : jCx p s m args c cX11_digest 5 wsX11_digest RX11 b cy D tU n K r) (hr : meth.sig.returnType = some .long) (hlk : meth.locks = false) : ∀ (g : Nat) {H : Heap} {locs : List Loc} {ls : Array Slot} {i : jI} {j : jL} {x0 : Nat} {x1 : Int64} {x3 : Int32} (w : jDy b cy D n K len r i j s H locs) (hx0 : x0 < n ∧ K x0 = 10) (hl : lv_has ls 5 [(0, .ref (b + x0)), (1, .long x1), (3, .int x3)]) (h : J_X11_digest_L117 len r Q g i j x0 x1 x3), W p l e rm_X11_digest s m args below meth c H locs 0 0 (MQ below (jQl b cy D tU n K len r Q) args s 0 0 (jA b)) (F0 m 117 ls []) := by
  obtain ⟨hx, hb, hml, hown, hts, hst, hG⟩ := id C0
  have hiX11 : ∀ w ∈ u_ws RX11 TX11 15, w ∈ wsX11_digest := hiX11_X11_digest
  have hiX5 : ∀ w ∈ u_ws RX5 TX5 5, w ∈ wsX11_digest := hiX5_X11_digest
  have hiX8 : ∀ w ∈ u_ws RX8 TX8 8, w ∈ wsX11_digest := hiX8_X11_digest
  intro g
  induction g with
  | zero => intro H locs ls i j x0 x1 x3 w hx0 hl h; exact False.elim h
  | succ g ih =>
    intro H locs ls i j x0 x1 x3 w hx0 hl h
    rw [J_X11_digest_L117] at h
    refine lv_iload_n hx hb dX11_digest_117 rfl (lv_at hl 2 rfl) ?_
    refine lv_aload_n hx hb dX11_digest_118 rfl (lv_at hl 0 rfl) ?_
    refine jgi (f := 5) hx hb hts hown hst w hx0 hiX11 (rfl : vwCl[10]? = some (RX11, TX11, 15)) (hts (.fieldLink RX11 99 "FootByGate" "printCount" "I") (by decide +kernel)) ⟨by decide, by decide, rfl⟩ dX11_digest_119 ?_
    refine lv_icmp_ge (tgt := 182) hx hb dX11_digest_122 (by decide) (fun hc => ?_) (fun hc => ?_)
    · replace h := h.1 hc
      clear hc
      refine lv_ldc2 hx hb hown (hts (.constantLong RX11 292 (31)) (by decide +kernel)) dX11_digest_182 ?_
      refine lv_lload_n hx hb dX11_digest_185 rfl (lv_at hl 1 rfl) ?_
      refine lv_lmul hx hb dX11_digest_186 ?_
      refine lv_aload_n hx hb dX11_digest_187 rfl (lv_at hl 0 rfl) ?_
      refine jcV_i (k := x0) (As := []) (rest := [.long ((31 : Int64) * x1)]) C0 w (c_X11_who hG hx0 h) (cwV 0 hts gX11_digest_X11_who rfl rfl rfl (by decide +kernel) ⟨Nat.le_of_ble_eq_true rfl, Nat.le_of_ble_eq_true rfl⟩) hx0 (rfl : vwCl[10]? = some (RX11, TX11, 15)) (by decide) rfl hl.1 rfl (Nat.le_of_ble_eq_true rfl) dX11_digest_188 (fun q188 i188 j188 H locs h w => ?_) ⟨Nat.zero_le _, Nat.zero_le _⟩
      refine lv_i2l hx hb dX11_digest_191 rfl ?_
      refine lv_ladd hx hb dX11_digest_192 ?_
      refine lv_topl (fun v193 he => ?_)
      replace h := h v193 he
      clear he
      refine lv_lstore_n (lv' := [(1, .long v193), (0, .ref (b + x0)), (3, .int x3)]) hx hb dX11_digest_193 rfl hl (by decide) rfl (fun ls hl => ?_)
      refine lv_iconst (v := (0 : Int32)) hx hb dX11_digest_194 (by decide) ?_
      refine lv_istore_n (lv' := [(3, .int (0 : Int32)), (1, .long v193), (0, .ref (b + x0))]) hx hb dX11_digest_195 rfl hl (by decide) rfl (fun ls hl => ?_)
      obtain ⟨g0, h⟩ := h
      exact w_X11_digest_L196 C0 hr hlk g0 w hx0 (lv_sub hl [2, 1, 0] rfl) h
    · replace h := h.2 hc
      clear hc
      refine lv_ldc2 hx hb hown (hts (.constantLong RX11 292 (31)) (by decide +kernel)) dX11_digest_125 ?_
      refine lv_lload_n hx hb dX11_digest_128 rfl (lv_at hl 1 rfl) ?_
      refine lv_lmul hx hb dX11_digest_129 ?_
      refine lv_aload_n hx hb dX11_digest_130 rfl (lv_at hl 0 rfl) ?_
      obtain ⟨a131, hr0, h⟩ := h
      refine jgr (f := 4) hx hb hts hown hst w hG hx0 hiX11 (rfl : vwCl[10]? = some (RX11, TX11, 15)) (hts (.fieldLink RX11 29 "FootByGate" "prints" "[I") (by decide +kernel)) ⟨by decide, by decide, rfl⟩ (rfl : jrt 10 4 = 13) dX11_digest_131 hr0 (fun ha131 => ?_)
      clear hr0
      refine lv_iload_n hx hb dX11_digest_134 rfl (lv_at hl 2 rfl) ?_
      obtain ⟨hn, h⟩ := h
      refine jaid hx hb hst w ha131 hn dX11_digest_135 ?_
      clear hn
      refine jcS_i (As := [.int (i a131 x3.toNatClampNeg)]) (rest := [.long ((31 : Int64) * x1)]) C0 w (c_X11_gateOfPrint hG h) (va_cwS 1 hts gX11_digest_X11_gateOfPrint rfl rfl rfl (by decide +kernel) ⟨Nat.le_of_ble_eq_true rfl, Nat.le_of_ble_eq_true rfl⟩) rfl hl.1 rfl (Nat.le_of_ble_eq_true rfl) dX11_digest_136 (fun q136 i136 j136 H locs h w => ?_) ⟨Nat.zero_le _, Nat.zero_le _⟩
      refine lv_i2l hx hb dX11_digest_139 rfl ?_
      refine lv_ladd hx hb dX11_digest_140 ?_
      refine lv_topl (fun v141 he => ?_)
      replace h := h v141 he
      clear he
      refine lv_lstore_n (lv' := [(1, .long v141), (0, .ref (b + x0)), (3, .int x3)]) hx hb dX11_digest_141 rfl hl (by decide) rfl (fun ls hl => ?_)
      refine lv_ldc2 hx hb hown (hts (.constantLong RX11 292 (31)) (by decide +kernel)) dX11_digest_142 ?_
      refine lv_lload_n hx hb dX11_digest_145 rfl (lv_at hl 0 rfl) ?_
      refine lv_lmul hx hb dX11_digest_146 ?_
      refine lv_aload_n hx hb dX11_digest_147 rfl (lv_at hl 1 rfl) ?_
      obtain ⟨a148, hr0, h⟩ := h
      refine jgr (f := 4) hx hb hts hown hst w hG hx0 hiX11 (rfl : vwCl[10]? = some (RX11, TX11, 15)) (hts (.fieldLink RX11 29 "FootByGate" "prints" "[I") (by decide +kernel)) ⟨by decide, by decide, rfl⟩ (rfl : jrt 10 4 = 13) dX11_digest_148 hr0 (fun ha148 => ?_)
      clear hr0
      refine lv_iload_n hx hb dX11_digest_151 rfl (lv_at hl 2 rfl) ?_
      obtain ⟨hn, h⟩ := h
      refine jaid hx hb hst w ha148 hn dX11_digest_152 ?_
      clear hn
      refine jcS_i (As := [.int (i136 a148 x3.toNatClampNeg)]) (rest := [.long ((31 : Int64) * v141)]) C0 w (c_X11_wayOfPrint hG h) (va_cwS 1 hts gX11_digest_X11_wayOfPrint rfl rfl rfl (by decide +kernel) ⟨Nat.le_of_ble_eq_true rfl, Nat.le_of_ble_eq_true rfl⟩) rfl hl.1 rfl (Nat.le_of_ble_eq_true rfl) dX11_digest_153 (fun q153 i153 j153 H locs h w => ?_) ⟨Nat.zero_le _, Nat.zero_le _⟩
      refine lv_i2l hx hb dX11_digest_156 rfl ?_
      refine lv_ladd hx hb dX11_digest_157 ?_
      refine lv_topl (fun v158 he => ?_)
      replace h := h v158 he
      clear he
      refine lv_lstore_n (lv' := [(1, .long v158), (0, .ref (b + x0)), (3, .int x3)]) hx hb dX11_digest_158 rfl hl (by decide) rfl (fun ls hl => ?_)
      refine lv_ldc2 hx hb hown (hts (.constantLong RX11 292 (31)) (by decide +kernel)) dX11_digest_159 ?_
      refine lv_lload_n hx hb dX11_digest_162 rfl (lv_at hl 0 rfl) ?_
      refine lv_lmul hx hb dX11_digest_163 ?_
      refine lv_aload_n hx hb dX11_digest_164 rfl (lv_at hl 1 rfl) ?_
      obtain ⟨a165, hr0, h⟩ := h
      refine jgr (f := 4) hx hb hts hown hst w hG hx0 hiX11 (rfl : vwCl[10]? = some (RX11, TX11, 15)) (hts (.fieldLink RX11 29 "FootByGate" "prints" "[I") (by decide +kernel)) ⟨by decide, by decide, rfl⟩ (rfl : jrt 10 4 = 13) dX11_digest_165 hr0 (fun ha165 => ?_)
      clear hr0
      refine lv_iload_n hx hb dX11_digest_168 rfl (lv_at hl 2 rfl) ?_
      obtain ⟨hn, h⟩ := h
      refine jaid hx hb hst w ha165 hn dX11_digest_169 ?_
      clear hn
      refine jcS_i (As := [.int (i153 a165 x3.toNatClampNeg)]) (rest := [.long ((31 : Int64) * v158)]) C0 w (c_X11_footOfPrint hG h) (va_cwS 1 hts gX11_digest_X11_footOfPrint rfl rfl rfl (by decide +kernel) ⟨Nat.le_of_ble_eq_true rfl, Nat.le_of_ble_eq_true rfl⟩) rfl hl.1 rfl (Nat.le_of_ble_eq_true rfl) dX11_digest_170 (fun q170 i170 j170 H locs h w => ?_) ⟨Nat.zero_le _, Nat.zero_le _⟩
      refine lv_i2l hx hb dX11_digest_173 rfl ?_
      refine lv_ladd hx hb dX11_digest_174 ?_
      refine lv_topl (fun v175 he => ?_)
      replace h := h v175 he
      clear he
      refine lv_lstore_n (lv' := [(1, .long v175), (0, .ref (b + x0)), (3, .int x3)]) hx hb dX11_digest_175 rfl hl (by decide) rfl (fun ls hl => ?_)
      obtain ⟨v176, he⟩ : ∃ z : Int32, z = x3 + (1 : Int32) := ⟨_, rfl⟩
      replace h := h v176 he
      refine lv_iinc (v := v176) (lv' := [(3, .int v176), (1, .long v175), (0, .ref (b + x0))]) hx hb dX11_digest_176 hl (k := 2) rfl (by rw [he]; rfl) (by decide) rfl (fun ls hl => ?_)
      clear he
      refine lv_goto (tgt := 117) hx hb dX11_digest_179 (by decide) ?_
      exact ih w hx0 (lv_sub hl [2, 1, 0] rfl) h
set_option maxHeartbeats 4000000 in
set_option maxRecDepth 100000 in
theorem w_X11_digest_L115 (C0 : jCx p s m args c cX11_digest 5 wsX11_digest RX11 b cy D tU n K r) (hr : meth.sig.returnType = some .long) (hlk : meth.locks = false) {H : Heap} {locs : List Loc} {ls : Array Slot} {i : jI} {j : jL} {x0 : Nat} {x1 : Int64} (w : jDy b cy D n K len r i j s H locs) (hx0 : x0 < n ∧ K x0 = 10) (hl : lv_has ls 5 [(0, .ref (b + x0)), (1, .long x1)]) (h : J_X11_digest_L115 len r Q i j x0 x1) : W p l e rm_X11_digest s m args below meth c H locs 0 0 (MQ below (jQl b cy D tU n K len r Q) args s 0 0 (jA b)) (F0 m 115 ls []) := by
  obtain ⟨hx, hb, hml, hown, hts, hst, hG⟩ := id C0
  have hiX11 : ∀ w ∈ u_ws RX11 TX11 15, w ∈ wsX11_digest := hiX11_X11_digest
  have hiX5 : ∀ w ∈ u_ws RX5 TX5 5, w ∈ wsX11_digest := hiX5_X11_digest
  have hiX8 : ∀ w ∈ u_ws RX8 TX8 8, w ∈ wsX11_digest := hiX8_X11_digest
  rw [J_X11_digest_L115] at h
  refine lv_iconst (v := (0 : Int32)) hx hb dX11_digest_115 (by decide) ?_
  refine lv_istore_n (lv' := [(3, .int (0 : Int32)), (0, .ref (b + x0)), (1, .long x1)]) hx hb dX11_digest_116 rfl hl (by decide) rfl (fun ls hl => ?_)
  obtain ⟨g0, h⟩ := h
  exact w_X11_digest_L117 C0 hr hlk g0 w hx0 (lv_sub hl [1, 2, 0] rfl) h
set_option maxHeartbeats 4000000 in
set_option maxRecDepth 100000 in
theorem w_X11_digest_L55 (C0 : jCx p s m args c cX11_digest 5 wsX11_digest RX11 b cy D tU n K r) (hr : meth.sig.returnType = some .long) (hlk : meth.locks = false) : ∀ (g : Nat) {H : Heap} {locs : List Loc} {ls : Array Slot} {i : jI} {j : jL} {x0 : Nat} {x1 : Int64} {x3 : Int32} (w : jDy b cy D n K len r i j s H locs) (hx0 : x0 < n ∧ K x0 = 10) (hl : lv_has ls 5 [(0, .ref (b + x0)), (1, .long x1), (3, .int x3)]) (h : J_X11_digest_L55 len r Q g i j x0 x1 x3), W p l e rm_X11_digest s m args below meth c H locs 0 0 (MQ below (jQl b cy D tU n K len r Q) args s 0 0 (jA b)) (F0 m 55 ls []) := by
  obtain ⟨hx, hb, hml, hown, hts, hst, hG⟩ := id C0
  have hiX11 : ∀ w ∈ u_ws RX11 TX11 15, w ∈ wsX11_digest := hiX11_X11_digest
  have hiX5 : ∀ w ∈ u_ws RX5 TX5 5, w ∈ wsX11_digest := hiX5_X11_digest
  have hiX8 : ∀ w ∈ u_ws RX8 TX8 8, w ∈ wsX11_digest := hiX8_X11_digest
  intro g
  induction g with
  | zero => intro H locs ls i j x0 x1 x3 w hx0 hl h; exact False.elim h
  | succ g ih =>
    intro H locs ls i j x0 x1 x3 w hx0 hl h
    rw [J_X11_digest_L55] at h
    refine lv_iload_n hx hb dX11_digest_55 rfl (lv_at hl 2 rfl) ?_
    refine lv_aload_n hx hb dX11_digest_56 rfl (lv_at hl 0 rfl) ?_
    refine jgi (f := 3) hx hb hts hown hst w hx0 hiX11 (rfl : vwCl[10]? = some (RX11, TX11, 15)) (hts (.fieldLink RX11 96 "FootByGate" "walkerCount" "I") (by decide +kernel)) ⟨by decide, by decide, rfl⟩ dX11_digest_57 ?_
    refine lv_icmp_ge (tgt := 76) hx hb dX11_digest_60 (by decide) (fun hc => ?_) (fun hc => ?_)
    · replace h := h.1 hc
      clear hc
      refine lv_aload_n hx hb dX11_digest_76 rfl (lv_at hl 0 rfl) ?_
      refine jcV_i (k := x0) (As := []) (rest := []) C0 w (c_X11_hasTown hG hx0 h) (cwV 0 hts gX11_digest_X11_hasTown rfl rfl rfl (by decide +kernel) ⟨Nat.le_of_ble_eq_true rfl, Nat.le_of_ble_eq_true rfl⟩) hx0 (rfl : vwCl[10]? = some (RX11, TX11, 15)) (by decide) rfl hl.1 rfl (Nat.le_of_ble_eq_true rfl) dX11_digest_77 (fun q77 i77 j77 H locs h w => ?_) ⟨Nat.zero_le _, Nat.zero_le _⟩
      refine lv_if_eq (tgt := 115) hx hb dX11_digest_80 (by decide) (fun hc => ?_) (fun hc => ?_)
      · replace h := h.1 hc
        clear hc
        exact w_X11_digest_L115 C0 hr hlk w hx0 (lv_sub hl [0, 1] rfl) h
      · replace h := h.2 hc
        clear hc
        refine lv_aload_n hx hb dX11_digest_83 rfl (lv_at hl 0 rfl) ?_
        refine lv_iconst (v := (0 : Int32)) hx hb dX11_digest_84 (by decide) ?_
        refine jcV_i (k := x0) (As := [.int (0 : Int32)]) (rest := []) C0 w (c_X11_stonesForEven hG hx0 h) (cwV 1 hts gX11_digest_X11_stonesForEven rfl rfl rfl (by decide +kernel) ⟨Nat.le_of_ble_eq_true rfl, Nat.le_of_ble_eq_true rfl⟩) hx0 (rfl : vwCl[10]? = some (RX11, TX11, 15)) (by decide) rfl hl.1 rfl (Nat.le_of_ble_eq_true rfl) dX11_digest_85 (fun q85 i85 j85 H locs h w => ?_) ⟨Nat.zero_le _, Nat.zero_le _⟩
        refine lv_istore_n (lv' := [(3, .int q85), (0, .ref (b + x0)), (1, .long x1)]) hx hb dX11_digest_88 rfl hl (by decide) rfl (fun ls hl => ?_)
        refine lv_ldc2 hx hb hown (hts (.constantLong RX11 292 (31)) (by decide +kernel)) dX11_digest_89 ?_
        refine lv_lload_n hx hb dX11_digest_92 rfl (lv_at hl 2 rfl) ?_
        refine lv_lmul hx hb dX11_digest_93 ?_
        refine lv_iload_n hx hb dX11_digest_94 rfl (lv_at hl 0 rfl) ?_
        refine lv_iconst (v := (0 : Int32)) hx hb dX11_digest_95 (by decide) ?_
        refine jcS_i (As := [.int q85, .int (0 : Int32)]) (rest := [.long ((31 : Int64) * x1)]) C0 w (c_X11_streetsTold hG h) (va_cwS 2 hts gX11_digest_X11_streetsTold rfl rfl rfl (by decide +kernel) ⟨Nat.le_of_ble_eq_true rfl, Nat.le_of_ble_eq_true rfl⟩) rfl hl.1 rfl (Nat.le_of_ble_eq_true rfl) dX11_digest_96 (fun q96 i96 j96 H locs h w => ?_) ⟨Nat.zero_le _, Nat.zero_le _⟩
        refine lv_i2l hx hb dX11_digest_99 rfl ?_
        refine lv_ladd hx hb dX11_digest_100 ?_
        refine lv_topl (fun v101 he => ?_)
        replace h := h v101 he
        clear he
        refine lv_lstore_n (lv' := [(1, .long v101), (3, .int q85), (0, .ref (b + x0))]) hx hb dX11_digest_101 rfl hl (by decide) rfl (fun ls hl => ?_)
        refine lv_ldc2 hx hb hown (hts (.constantLong RX11 292 (31)) (by decide +kernel)) dX11_digest_102 ?_
        refine lv_lload_n hx hb dX11_digest_105 rfl (lv_at hl 0 rfl) ?_
        refine lv_lmul hx hb dX11_digest_106 ?_
        refine lv_iload_n hx hb dX11_digest_107 rfl (lv_at hl 1 rfl) ?_
        refine lv_iconst (v := (1 : Int32)) hx hb dX11_digest_108 (by decide) ?_
        refine jcS_i (As := [.int q85, .int (1 : Int32)]) (rest := [.long ((31 : Int64) * v101)]) C0 w (c_X11_streetsTold hG h) (va_cwS 2 hts gX11_digest_X11_streetsTold rfl rfl rfl (by decide +kernel) ⟨Nat.le_of_ble_eq_true rfl, Nat.le_of_ble_eq_true rfl⟩) rfl hl.1 rfl (Nat.le_of_ble_eq_true rfl) dX11_digest_109 (fun q109 i109 j109 H locs h w => ?_) ⟨Nat.zero_le _, Nat.zero_le _⟩
        refine lv_i2l hx hb dX11_digest_112 rfl ?_
        refine lv_ladd hx hb dX11_digest_113 ?_
        refine lv_topl (fun v114 he => ?_)
        replace h := h v114 he
        clear he
        refine lv_lstore_n (lv' := [(1, .long v114), (3, .int q85), (0, .ref (b + x0))]) hx hb dX11_digest_114 rfl hl (by decide) rfl (fun ls hl => ?_)
        exact w_X11_digest_L115 C0 hr hlk w hx0 (lv_sub hl [2, 0] rfl) h
    · replace h := h.2 hc
      clear hc
      refine lv_aload_n hx hb dX11_digest_63 rfl (lv_at hl 0 rfl) ?_
      refine lv_lload_n hx hb dX11_digest_64 rfl (lv_at hl 1 rfl) ?_
      refine lv_iload_n hx hb dX11_digest_65 rfl (lv_at hl 2 rfl) ?_
      refine jcV_l (k := x0) (As := [.long x1, .int x3]) (rest := []) C0 w (c_X11_withWalker hG hx0 h) (cwV 2 hts gX11_digest_X11_withWalker rfl rfl rfl (by decide +kernel) ⟨Nat.le_of_ble_eq_true rfl, Nat.le_of_ble_eq_true rfl⟩) hx0 (rfl : vwCl[10]? = some (RX11, TX11, 15)) (by decide) rfl hl.1 rfl (Nat.le_of_ble_eq_true rfl) dX11_digest_66 (fun q66 i66 j66 H locs h w => ?_) ⟨Nat.zero_le _, Nat.zero_le _⟩
      refine lv_lstore_n (lv' := [(1, .long q66), (0, .ref (b + x0)), (3, .int x3)]) hx hb dX11_digest_69 rfl hl (by decide) rfl (fun ls hl => ?_)
      obtain ⟨v70, he⟩ : ∃ z : Int32, z = x3 + (1 : Int32) := ⟨_, rfl⟩
      replace h := h v70 he
      refine lv_iinc (v := v70) (lv' := [(3, .int v70), (1, .long q66), (0, .ref (b + x0))]) hx hb dX11_digest_70 hl (k := 2) rfl (by rw [he]; rfl) (by decide) rfl (fun ls hl => ?_)
      clear he
      refine lv_goto (tgt := 55) hx hb dX11_digest_73 (by decide) ?_
      exact ih w hx0 (lv_sub hl [2, 1, 0] rfl) h
set_option maxHeartbeats 4000000 in
set_option maxRecDepth 100000 in
theorem w_X11_digest_L20 (C0 : jCx p s m args c cX11_digest 5 wsX11_digest RX11 b cy D tU n K r) (hr : meth.sig.returnType = some .long) (hlk : meth.locks = false) {Hd6 : jI → jL → Nat → Int64 → Int32 → Prop} (k6 : ∀ {H : Heap} {locs : List Loc} {ls : Array Slot} {i : jI} {j : jL} {x0 : Nat} {x1 : Int64} {x3 : Int32} (w : jDy b cy D n K len r i j s H locs) (hx0 : x0 < n ∧ K x0 = 10) (hl : lv_has ls 5 [(0, .ref (b + x0)), (1, .long x1), (3, .int x3)]) (h : Hd6 i j x0 x1 x3), W p l e rm_X11_digest s m args below meth c H locs 0 0 (MQ below (jQl b cy D tU n K len r Q) args s 0 0 (jA b)) (F0 m 6 ls [])) : ∀ (g : Nat) {H : Heap} {locs : List Loc} {ls : Array Slot} {i : jI} {j : jL} {x0 : Nat} {x1 : Int64} {x3 : Int32} {x4 : Int32} (w : jDy b cy D n K len r i j s H locs) (hx0 : x0 < n ∧ K x0 = 10) (hl : lv_has ls 5 [(0, .ref (b + x0)), (1, .long x1), (3, .int x3), (4, .int x4)]) (h : J_X11_digest_L20 len r Q Hd6 g i j x0 x1 x3 x4), W p l e rm_X11_digest s m args below meth c H locs 0 0 (MQ below (jQl b cy D tU n K len r Q) args s 0 0 (jA b)) (F0 m 20 ls []) := by
  obtain ⟨hx, hb, hml, hown, hts, hst, hG⟩ := id C0
  have hiX11 : ∀ w ∈ u_ws RX11 TX11 15, w ∈ wsX11_digest := hiX11_X11_digest
  have hiX5 : ∀ w ∈ u_ws RX5 TX5 5, w ∈ wsX11_digest := hiX5_X11_digest
  have hiX8 : ∀ w ∈ u_ws RX8 TX8 8, w ∈ wsX11_digest := hiX8_X11_digest
  intro g
  induction g with
  | zero => intro H locs ls i j x0 x1 x3 x4 w hx0 hl h; exact False.elim h
  | succ g ih =>
    intro H locs ls i j x0 x1 x3 x4 w hx0 hl h
    rw [J_X11_digest_L20] at h
    refine lv_iload hx hb dX11_digest_20 (lv_at hl 3 rfl) ?_
    refine lv_iconst (v := (3 : Int32)) hx hb dX11_digest_22 (by decide) ?_
    refine lv_icmp_gt (tgt := 47) hx hb dX11_digest_23 (by decide) (fun hc => ?_) (fun hc => ?_)
    · replace h := h.1 hc
      clear hc
      obtain ⟨v47, he⟩ : ∃ z : Int32, z = x3 + (1 : Int32) := ⟨_, rfl⟩
      replace h := h v47 he
      refine lv_iinc (v := v47) (lv' := [(3, .int v47), (0, .ref (b + x0)), (1, .long x1), (4, .int x4)]) hx hb dX11_digest_47 hl (k := 2) rfl (by rw [he]; rfl) (by decide) rfl (fun ls hl => ?_)
      clear he
      refine lv_goto (tgt := 6) hx hb dX11_digest_50 (by decide) ?_
      exact k6 w hx0 (lv_sub hl [1, 2, 0] rfl) h
    · replace h := h.2 hc
      clear hc
      refine lv_ldc2 hx hb hown (hts (.constantLong RX11 292 (31)) (by decide +kernel)) dX11_digest_26 ?_
      refine lv_lload_n hx hb dX11_digest_29 rfl (lv_at hl 1 rfl) ?_
      refine lv_lmul hx hb dX11_digest_30 ?_
      refine lv_aload_n hx hb dX11_digest_31 rfl (lv_at hl 0 rfl) ?_
      refine lv_iload_n hx hb dX11_digest_32 rfl (lv_at hl 2 rfl) ?_
      refine lv_iload hx hb dX11_digest_33 (lv_at hl 3 rfl) ?_
      refine jcV_i (k := x0) (As := [.int x3, .int x4]) (rest := [.long ((31 : Int64) * x1)]) C0 w (c_X11_street hG hx0 h) (cwV 2 hts gX11_digest_X11_street rfl rfl rfl (by decide +kernel) ⟨Nat.le_of_ble_eq_true rfl, Nat.le_of_ble_eq_true rfl⟩) hx0 (rfl : vwCl[10]? = some (RX11, TX11, 15)) (by decide) rfl hl.1 rfl (Nat.le_of_ble_eq_true rfl) dX11_digest_35 (fun q35 i35 j35 H locs h w => ?_) ⟨Nat.zero_le _, Nat.zero_le _⟩
      refine lv_i2l hx hb dX11_digest_38 rfl ?_
      refine lv_ladd hx hb dX11_digest_39 ?_
      refine lv_topl (fun v40 he => ?_)
      replace h := h v40 he
      clear he
      refine lv_lstore_n (lv' := [(1, .long v40), (0, .ref (b + x0)), (3, .int x3), (4, .int x4)]) hx hb dX11_digest_40 rfl hl (by decide) rfl (fun ls hl => ?_)
      obtain ⟨v41, he⟩ : ∃ z : Int32, z = x4 + (1 : Int32) := ⟨_, rfl⟩
      replace h := h v41 he
      refine lv_iinc (v := v41) (lv' := [(4, .int v41), (1, .long v40), (0, .ref (b + x0)), (3, .int x3)]) hx hb dX11_digest_41 hl (k := 3) rfl (by rw [he]; rfl) (by decide) rfl (fun ls hl => ?_)
      clear he
      refine lv_goto (tgt := 20) hx hb dX11_digest_44 (by decide) ?_
      exact ih w hx0 (lv_sub hl [2, 1, 3, 0] rfl) h
set_option maxHeartbeats 4000000 in
set_option maxRecDepth 100000 in
theorem w_X11_digest_L6 (C0 : jCx p s m args c cX11_digest 5 wsX11_digest RX11 b cy D tU n K r) (hr : meth.sig.returnType = some .long) (hlk : meth.locks = false) : ∀ (g : Nat) {H : Heap} {locs : List Loc} {ls : Array Slot} {i : jI} {j : jL} {x0 : Nat} {x1 : Int64} {x3 : Int32} (w : jDy b cy D n K len r i j s H locs) (hx0 : x0 < n ∧ K x0 = 10) (hl : lv_has ls 5 [(0, .ref (b + x0)), (1, .long x1), (3, .int x3)]) (h : J_X11_digest_L6 len r Q g i j x0 x1 x3), W p l e rm_X11_digest s m args below meth c H locs 0 0 (MQ below (jQl b cy D tU n K len r Q) args s 0 0 (jA b)) (F0 m 6 ls []) := by
  obtain ⟨hx, hb, hml, hown, hts, hst, hG⟩ := id C0
  have hiX11 : ∀ w ∈ u_ws RX11 TX11 15, w ∈ wsX11_digest := hiX11_X11_digest
  have hiX5 : ∀ w ∈ u_ws RX5 TX5 5, w ∈ wsX11_digest := hiX5_X11_digest
  have hiX8 : ∀ w ∈ u_ws RX8 TX8 8, w ∈ wsX11_digest := hiX8_X11_digest
  intro g
  induction g with
  | zero => intro H locs ls i j x0 x1 x3 w hx0 hl h; exact False.elim h
  | succ g ih =>
    intro H locs ls i j x0 x1 x3 w hx0 hl h
    rw [J_X11_digest_L6] at h
    refine lv_iload_n hx hb dX11_digest_6 rfl (lv_at hl 2 rfl) ?_
    refine lv_aload_n hx hb dX11_digest_7 rfl (lv_at hl 0 rfl) ?_
    obtain ⟨a8, hr0, h⟩ := h
    refine jgr (f := 1) hx hb hts hown hst w hG hx0 hiX11 (rfl : vwCl[10]? = some (RX11, TX11, 15)) (hts (.fieldLink RX11 19 "FootByGate" "map" "LFootByGate$Town;") (by decide +kernel)) ⟨by decide, by decide, rfl⟩ (rfl : jrt 10 1 = 7) dX11_digest_8 hr0 (fun ha8 => ?_)
    clear hr0
    refine jgi (f := 0) hx hb hts hown hst w ha8 hiX8 (rfl : vwCl[7]? = some (RX8, TX8, 8)) (hts (.fieldLink RX11 105 "FootByGate$Town" "streets" "I") (by decide +kernel)) ⟨by decide, by decide, rfl⟩ dX11_digest_11 ?_
    refine lv_icmp_ge (tgt := 53) hx hb dX11_digest_14 (by decide) (fun hc => ?_) (fun hc => ?_)
    · replace h := h.1 hc
      clear hc
      refine lv_iconst (v := (0 : Int32)) hx hb dX11_digest_53 (by decide) ?_
      refine lv_istore_n (lv' := [(3, .int (0 : Int32)), (0, .ref (b + x0)), (1, .long x1)]) hx hb dX11_digest_54 rfl hl (by decide) rfl (fun ls hl => ?_)
      obtain ⟨g0, h⟩ := h
      exact w_X11_digest_L55 C0 hr hlk g0 w hx0 (lv_sub hl [1, 2, 0] rfl) h
    · replace h := h.2 hc
      clear hc
      refine lv_iconst (v := (0 : Int32)) hx hb dX11_digest_17 (by decide) ?_
      refine lv_istore (lv' := [(4, .int (0 : Int32)), (0, .ref (b + x0)), (1, .long x1), (3, .int x3)]) hx hb dX11_digest_18 hl (by decide) rfl (fun ls hl => ?_)
      obtain ⟨g0, h⟩ := h
      exact w_X11_digest_L20 C0 hr hlk (fun w hx0 hl h => ih w hx0 hl h) g0 w hx0 (lv_sub hl [1, 2, 3, 0] rfl) h
set_option maxHeartbeats 4000000 in
set_option maxRecDepth 100000 in
theorem c_X11_digest (hG : jG n K r) {i : jI} {j : jL} {x0 : Nat} (hx0 : x0 < n ∧ K x0 = 10) (h : J_X11_digest len r Q i j x0) : Met l yX11_digest wsX11_digest rm_X11_digest (va_Pc [.ref (b + x0)] (jPre b cy D tU n K len r i j)) (jQl b cy D tU n K len r Q) 0 0 (jA b) := by
  refine Met.ofW (cc := cX11_digest) (maxL := 5) (ret := (some .long)) (by decide) rfl ?_
  intro p e s m args below meth c s₁ B hml hv
  obtain ⟨rfl, hv⟩ := hv
  have C0 : jCx p s m _ c cX11_digest 5 wsX11_digest RX11 b cy D tU n K r := ⟨B.exec, B.bytes, hml, findClass_of_methodNamed B.named, atoms_spec (ws := wsX11_digest) B.pre, hv.2.2, hG⟩
  have hr := B.returns
  have hlk := B.notSynchronized
  obtain ⟨hx, hb, hml, hown, hts, hst, hG⟩ := id C0
  have hiX11 : ∀ w ∈ u_ws RX11 TX11 15, w ∈ wsX11_digest := hiX11_X11_digest
  have hiX5 : ∀ w ∈ u_ws RX5 TX5 5, w ∈ wsX11_digest := hiX5_X11_digest
  have hiX8 : ∀ w ∈ u_ws RX8 TX8 8, w ∈ wsX11_digest := hiX8_X11_digest
  have w := jDy.start hv
  have hl := lv_entry ([.ref (b + x0)]) (n := 5) (Nat.le_of_ble_eq_true rfl)
  rw [lg_entry_eq]
  generalize (lg_sl ([.ref (b + x0)]) ++ List.replicate (5 - (lg_sl ([.ref (b + x0)])).length) Slot.unset).toArray = ls at hl ⊢
  replace hl : lv_has ls 5 [(0, .ref (b + x0))] := hl
  show W p l e rm_X11_digest s m _ below meth c s.heap [] 0 0 _ (F0 m 0 ls [])
  rw [J_X11_digest] at h
  refine lv_ldc2 hx hb hown (hts (.constantLong RX11 290 (619)) (by decide +kernel)) dX11_digest_0 ?_
  refine lv_lstore_n (lv' := [(1, .long (619 : Int64)), (0, .ref (b + x0))]) hx hb dX11_digest_3 rfl hl (by decide) rfl (fun ls hl => ?_)
  refine lv_iconst (v := (0 : Int32)) hx hb dX11_digest_4 (by decide) ?_
  refine lv_istore_n (lv' := [(3, .int (0 : Int32)), (1, .long (619 : Int64)), (0, .ref (b + x0))]) hx hb dX11_digest_5 rfl hl (by decide) rfl (fun ls hl => ?_)
  obtain ⟨g0, h⟩ := h
  exact w_X11_digest_L6 C0 hr hlk g0 w hx0 (lv_sub hl [2, 1, 0] rfl) h
end S_X11_digest
section S_X11_even
def J_X11_even_L15 (len : Nat → Nat) (r : jR) (Q : Int32 → jI → jL → Prop) (i : jI) (j : jL) : Prop := Q (-102 : Int32) i j
def J_X11_even (len : Nat → Nat) (r : jR) (Q : Int32 → jI → jL → Prop) (i : jI) (j : jL) (x0 : Nat) (x1 : Int32) (x2 : Int32) : Prop := J_X11_isKind len r (fun (q1 : Int32) (i1 : jI) (j1 : jL) => ((q1 = 0) → (J_X11_even_L15 len r Q i1 j1 )) ∧ ((¬ q1 = 0) → (J_X11_isWithin len r (fun (q9 : Int32) (i9 : jI) (j9 : jL) => ((¬ q9 = 0) → (J_X11_hasTown len r (fun (q19 : Int32) (i19 : jI) (j19 : jL) => ((¬ q19 = 0) → (J_X11_stonesForEven len r (fun (q30 : Int32) (i30 : jI) (j30 : jL) => J_X11_streetsTold len r (fun (q34 : Int32) (i34 : jI) (j34 : jL) => Q q34 i34 j34) i30 j30 q30 x2) i19 j19 x0 x1)) ∧ ((q19 = 0) → (Q (-103 : Int32) i19 j19))) i9 j9 x0)) ∧ ((q9 = 0) → (J_X11_even_L15 len r Q i9 j9 ))) i1 j1 x2 (1 : Int32)))) i j x1
abbrev rm_X11_even : Room := { frames := 4, cells := 0, slots := 0, locals := 93 }
variable {p : Program} {l : Launch} {e : Env} {s : State} {m : MethodId} {args : Array Value} {below : List Frame} {meth : Method} {c : Code} {b tU n : Nat} {cy : Nat → ClassId} {D : va_G} {K len : Nat → Nat} {r : jR} {Q : Int32 → jI → jL → Prop}
set_option maxHeartbeats 4000000 in
set_option maxRecDepth 100000 in
theorem w_X11_even_L15 (C0 : jCx p s m args c cX11_even 3 wsX11_even RX11 b cy D tU n K r) (hr : meth.sig.returnType = some .int) (hlk : meth.locks = false) {H : Heap} {locs : List Loc} {ls : Array Slot} {i : jI} {j : jL}  (w : jDy b cy D n K len r i j s H locs) (hl : lv_has ls 3 []) (h : J_X11_even_L15 len r Q i j) : W p l e rm_X11_even s m args below meth c H locs 0 0 (MQ below (jQi b cy D tU n K len r Q) args s 0 0 (jA b)) (F0 m 15 ls []) := by
  obtain ⟨hx, hb, hml, hown, hts, hst, hG⟩ := id C0
  rw [J_X11_even_L15] at h
  refine lv_bipush (v := (-102 : Int32)) hx hb dX11_even_15 (by decide) ?_
  exact jret_i hx hb hr hlk hst w h dX11_even_17
set_option maxHeartbeats 4000000 in
set_option maxRecDepth 100000 in
theorem c_X11_even (hG : jG n K r) {i : jI} {j : jL} {x0 : Nat} {x1 : Int32} {x2 : Int32} (hx0 : x0 < n ∧ K x0 = 10) (h : J_X11_even len r Q i j x0 x1 x2) : Met l yX11_even wsX11_even rm_X11_even (va_Pc [.ref (b + x0), .int x1, .int x2] (jPre b cy D tU n K len r i j)) (jQi b cy D tU n K len r Q) 0 0 (jA b) := by
  refine Met.ofW (cc := cX11_even) (maxL := 3) (ret := (some .int)) (by decide) rfl ?_
  intro p e s m args below meth c s₁ B hml hv
  obtain ⟨rfl, hv⟩ := hv
  have C0 : jCx p s m _ c cX11_even 3 wsX11_even RX11 b cy D tU n K r := ⟨B.exec, B.bytes, hml, findClass_of_methodNamed B.named, atoms_spec (ws := wsX11_even) B.pre, hv.2.2, hG⟩
  have hr := B.returns
  have hlk := B.notSynchronized
  obtain ⟨hx, hb, hml, hown, hts, hst, hG⟩ := id C0
  have w := jDy.start hv
  have hl := lv_entry ([.ref (b + x0), .int x1, .int x2]) (n := 3) (Nat.le_of_ble_eq_true rfl)
  rw [lg_entry_eq]
  generalize (lg_sl ([.ref (b + x0), .int x1, .int x2]) ++ List.replicate (3 - (lg_sl ([.ref (b + x0), .int x1, .int x2])).length) Slot.unset).toArray = ls at hl ⊢
  replace hl : lv_has ls 3 [(0, .ref (b + x0)), (1, .int x1), (2, .int x2)] := hl
  show W p l e rm_X11_even s m _ below meth c s.heap [] 0 0 _ (F0 m 0 ls [])
  rw [J_X11_even] at h
  refine lv_iload_n hx hb dX11_even_0 rfl (lv_at hl 1 rfl) ?_
  refine jcS_i (As := [.int x1]) (rest := []) C0 w (c_X11_isKind hG h) (va_cwS 1 hts gX11_even_X11_isKind rfl rfl rfl (by decide +kernel) ⟨Nat.le_of_ble_eq_true rfl, Nat.le_of_ble_eq_true rfl⟩) rfl hl.1 rfl (Nat.le_of_ble_eq_true rfl) dX11_even_1 (fun q1 i1 j1 H locs h w => ?_) ⟨Nat.zero_le _, Nat.zero_le _⟩
  refine lv_if_eq (tgt := 15) hx hb dX11_even_4 (by decide) (fun hc => ?_) (fun hc => ?_)
  · replace h := h.1 hc
    clear hc
    exact w_X11_even_L15 C0 hr hlk w (lv_sub hl [] rfl) h
  · replace h := h.2 hc
    clear hc
    refine lv_iload_n hx hb dX11_even_7 rfl (lv_at hl 2 rfl) ?_
    refine lv_iconst (v := (1 : Int32)) hx hb dX11_even_8 (by decide) ?_
    refine jcS_i (As := [.int x2, .int (1 : Int32)]) (rest := []) C0 w (c_X11_isWithin hG h) (va_cwS 2 hts gX11_even_X11_isWithin rfl rfl rfl (by decide +kernel) ⟨Nat.le_of_ble_eq_true rfl, Nat.le_of_ble_eq_true rfl⟩) rfl hl.1 rfl (Nat.le_of_ble_eq_true rfl) dX11_even_9 (fun q9 i9 j9 H locs h w => ?_) ⟨Nat.zero_le _, Nat.zero_le _⟩
    refine lv_if_ne (tgt := 18) hx hb dX11_even_12 (by decide) (fun hc => ?_) (fun hc => ?_)
    · replace h := h.1 hc
      clear hc
      refine lv_aload_n hx hb dX11_even_18 rfl (lv_at hl 0 rfl) ?_
      refine jcV_i (k := x0) (As := []) (rest := []) C0 w (c_X11_hasTown hG hx0 h) (cwV 0 hts gX11_even_X11_hasTown rfl rfl rfl (by decide +kernel) ⟨Nat.le_of_ble_eq_true rfl, Nat.le_of_ble_eq_true rfl⟩) hx0 (rfl : vwCl[10]? = some (RX11, TX11, 15)) (by decide) rfl hl.1 rfl (Nat.le_of_ble_eq_true rfl) dX11_even_19 (fun q19 i19 j19 H locs h w => ?_) ⟨Nat.zero_le _, Nat.zero_le _⟩
      refine lv_if_ne (tgt := 28) hx hb dX11_even_22 (by decide) (fun hc => ?_) (fun hc => ?_)
      · replace h := h.1 hc
        clear hc
        refine lv_aload_n hx hb dX11_even_28 rfl (lv_at hl 0 rfl) ?_
        refine lv_iload_n hx hb dX11_even_29 rfl (lv_at hl 1 rfl) ?_
        refine jcV_i (k := x0) (As := [.int x1]) (rest := []) C0 w (c_X11_stonesForEven hG hx0 h) (cwV 1 hts gX11_even_X11_stonesForEven rfl rfl rfl (by decide +kernel) ⟨Nat.le_of_ble_eq_true rfl, Nat.le_of_ble_eq_true rfl⟩) hx0 (rfl : vwCl[10]? = some (RX11, TX11, 15)) (by decide) rfl hl.1 rfl (Nat.le_of_ble_eq_true rfl) dX11_even_30 (fun q30 i30 j30 H locs h w => ?_) ⟨Nat.zero_le _, Nat.zero_le _⟩
        refine lv_iload_n hx hb dX11_even_33 rfl (lv_at hl 2 rfl) ?_
        refine jcS_i (As := [.int q30, .int x2]) (rest := []) C0 w (c_X11_streetsTold hG h) (va_cwS 2 hts gX11_even_X11_streetsTold rfl rfl rfl (by decide +kernel) ⟨Nat.le_of_ble_eq_true rfl, Nat.le_of_ble_eq_true rfl⟩) rfl hl.1 rfl (Nat.le_of_ble_eq_true rfl) dX11_even_34 (fun q34 i34 j34 H locs h w => ?_) ⟨Nat.zero_le _, Nat.zero_le _⟩
        exact jret_i hx hb hr hlk hst w h dX11_even_37
      · replace h := h.2 hc
        clear hc
        refine lv_bipush (v := (-103 : Int32)) hx hb dX11_even_25 (by decide) ?_
        exact jret_i hx hb hr hlk hst w h dX11_even_27
    · replace h := h.2 hc
      clear hc
      exact w_X11_even_L15 C0 hr hlk w (lv_sub hl [] rfl) h
end S_X11_even
section S_X11_fault
def J_X11_fault (len : Nat → Nat) (r : jR) (Q : Int32 → jI → jL → Prop) (i : jI) (j : jL) (x0 : Nat) : Prop := ∃ a1, r x0 0 = some a1 ∧ (J_X5_readable len r (fun (q4 : Int32) (i4 : jI) (j4 : jL) => Q q4 i4 j4) i j a1)
abbrev rm_X11_fault : Room := { frames := 3, cells := 0, slots := 0, locals := 64 }
variable {p : Program} {l : Launch} {e : Env} {s : State} {m : MethodId} {args : Array Value} {below : List Frame} {meth : Method} {c : Code} {b tU n : Nat} {cy : Nat → ClassId} {D : va_G} {K len : Nat → Nat} {r : jR} {Q : Int32 → jI → jL → Prop}
theorem hiX11_X11_fault : ∀ w ∈ u_ws RX11 TX11 15, w ∈ wsX11_fault := by decide +kernel
set_option maxHeartbeats 4000000 in
set_option maxRecDepth 100000 in
theorem c_X11_fault (hG : jG n K r) {i : jI} {j : jL} {x0 : Nat} (hx0 : x0 < n ∧ K x0 = 10) (h : J_X11_fault len r Q i j x0) : Met l yX11_fault wsX11_fault rm_X11_fault (va_Pc [.ref (b + x0)] (jPre b cy D tU n K len r i j)) (jQi b cy D tU n K len r Q) 0 0 (jA b) := by
  refine Met.ofW (cc := cX11_fault) (maxL := 1) (ret := (some .int)) (by decide) rfl ?_
  intro p e s m args below meth c s₁ B hml hv
  obtain ⟨rfl, hv⟩ := hv
  have C0 : jCx p s m _ c cX11_fault 1 wsX11_fault RX11 b cy D tU n K r := ⟨B.exec, B.bytes, hml, findClass_of_methodNamed B.named, atoms_spec (ws := wsX11_fault) B.pre, hv.2.2, hG⟩
  have hr := B.returns
  have hlk := B.notSynchronized
  obtain ⟨hx, hb, hml, hown, hts, hst, hG⟩ := id C0
  have hiX11 : ∀ w ∈ u_ws RX11 TX11 15, w ∈ wsX11_fault := hiX11_X11_fault
  have w := jDy.start hv
  have hl := lv_entry ([.ref (b + x0)]) (n := 1) (Nat.le_of_ble_eq_true rfl)
  rw [lg_entry_eq]
  generalize (lg_sl ([.ref (b + x0)]) ++ List.replicate (1 - (lg_sl ([.ref (b + x0)])).length) Slot.unset).toArray = ls at hl ⊢
  replace hl : lv_has ls 1 [(0, .ref (b + x0))] := hl
  show W p l e rm_X11_fault s m _ below meth c s.heap [] 0 0 _ (F0 m 0 ls [])
  rw [J_X11_fault] at h
  refine lv_aload_n hx hb dX11_fault_0 rfl (lv_at hl 0 rfl) ?_
  obtain ⟨a1, hr0, h⟩ := h
  refine jgr (f := 0) hx hb hts hown hst w hG hx0 hiX11 (rfl : vwCl[10]? = some (RX11, TX11, 15)) (hts (.fieldLink RX11 10 "FootByGate" "page" "LFootByGate$Page;") (by decide +kernel)) ⟨by decide, by decide, rfl⟩ (rfl : jrt 10 0 = 5) dX11_fault_1 hr0 (fun ha1 => ?_)
  clear hr0
  refine jcV_i (k := a1) (As := []) (rest := []) C0 w (c_X5_readable hG ha1 h) (cwV 0 hts gX11_fault_X5_readable rfl rfl rfl (by decide +kernel) ⟨Nat.le_of_ble_eq_true rfl, Nat.le_of_ble_eq_true rfl⟩) ha1 (rfl : vwCl[5]? = some (RX5, TX5, 5)) (by decide) rfl hl.1 rfl (Nat.le_of_ble_eq_true rfl) dX11_fault_4 (fun q4 i4 j4 H locs h w => ?_) ⟨Nat.zero_le _, Nat.zero_le _⟩
  exact jret_i hx hb hr hlk hst w h dX11_fault_7
end S_X11_fault
section S_X11_fewest
def J_X11_fewest_L15 (len : Nat → Nat) (r : jR) (Q : Int32 → jI → jL → Prop) (i : jI) (j : jL) : Prop := Q (-101 : Int32) i j
def J_X11_fewest (len : Nat → Nat) (r : jR) (Q : Int32 → jI → jL → Prop) (i : jI) (j : jL) (x0 : Nat) (x1 : Int32) (x2 : Int32) (x3 : Int32) : Prop := J_X11_isWalker len r (fun (q2 : Int32) (i2 : jI) (j2 : jL) => ((q2 = 0) → (J_X11_fewest_L15 len r Q i2 j2 )) ∧ ((¬ q2 = 0) → (J_X11_isPlace len r (fun (q9 : Int32) (i9 : jI) (j9 : jL) => ((¬ q9 = 0) → (J_X11_isWithin len r (fun (q20 : Int32) (i20 : jI) (j20 : jL) => ((¬ q20 = 0) → (∃ a31, r x0 2 = some a31 ∧ (vp_in x1 (len a31) ∧ ∃ a35, r a31 x1.toNatClampNeg = some a35 ∧ (J_X11_fewestSteps len r (fun (q37 : Int32) (i37 : jI) (j37 : jL) => ((¬ x3 = 0) → (∃ a53, r x0 2 = some a53 ∧ (vp_in x1 (len a53) ∧ ∃ a57, r a53 x1.toNatClampNeg = some a57 ∧ (J_X11_firstStreet len r (fun (q61 : Int32) (i61 : jI) (j61 : jL) => Q q61 i61 j61) i37 j37 x0 a57 x2 q37)))) ∧ ((x3 = 0) → (Q q37 i37 j37))) i20 j20 x0 a35 x2)))) ∧ ((q20 = 0) → (Q (-102 : Int32) i20 j20))) i9 j9 x3 (1 : Int32))) ∧ ((q9 = 0) → (J_X11_fewest_L15 len r Q i9 j9 ))) i2 j2 x2))) i j x0 x1
abbrev rm_X11_fewest : Room := { frames := 5, cells := 0, slots := 0, locals := 128 }
variable {p : Program} {l : Launch} {e : Env} {s : State} {m : MethodId} {args : Array Value} {below : List Frame} {meth : Method} {c : Code} {b tU n : Nat} {cy : Nat → ClassId} {D : va_G} {K len : Nat → Nat} {r : jR} {Q : Int32 → jI → jL → Prop}
theorem hiX11_X11_fewest : ∀ w ∈ u_ws RX11 TX11 15, w ∈ wsX11_fewest := by decide +kernel
set_option maxHeartbeats 4000000 in
set_option maxRecDepth 100000 in
theorem w_X11_fewest_L15 (C0 : jCx p s m args c cX11_fewest 5 wsX11_fewest RX11 b cy D tU n K r) (hr : meth.sig.returnType = some .int) (hlk : meth.locks = false) {H : Heap} {locs : List Loc} {ls : Array Slot} {i : jI} {j : jL}  (w : jDy b cy D n K len r i j s H locs) (hl : lv_has ls 5 []) (h : J_X11_fewest_L15 len r Q i j) : W p l e rm_X11_fewest s m args below meth c H locs 0 0 (MQ below (jQi b cy D tU n K len r Q) args s 0 0 (jA b)) (F0 m 15 ls []) := by
  obtain ⟨hx, hb, hml, hown, hts, hst, hG⟩ := id C0
  have hiX11 : ∀ w ∈ u_ws RX11 TX11 15, w ∈ wsX11_fewest := hiX11_X11_fewest
  rw [J_X11_fewest_L15] at h
  refine lv_bipush (v := (-101 : Int32)) hx hb dX11_fewest_15 (by decide) ?_
  exact jret_i hx hb hr hlk hst w h dX11_fewest_17
set_option maxHeartbeats 4000000 in
set_option maxRecDepth 100000 in
theorem c_X11_fewest (hG : jG n K r) {i : jI} {j : jL} {x0 : Nat} {x1 : Int32} {x2 : Int32} {x3 : Int32} (hx0 : x0 < n ∧ K x0 = 10) (h : J_X11_fewest len r Q i j x0 x1 x2 x3) : Met l yX11_fewest wsX11_fewest rm_X11_fewest (va_Pc [.ref (b + x0), .int x1, .int x2, .int x3] (jPre b cy D tU n K len r i j)) (jQi b cy D tU n K len r Q) 0 0 (jA b) := by
  refine Met.ofW (cc := cX11_fewest) (maxL := 5) (ret := (some .int)) (by decide) rfl ?_
  intro p e s m args below meth c s₁ B hml hv
  obtain ⟨rfl, hv⟩ := hv
  have C0 : jCx p s m _ c cX11_fewest 5 wsX11_fewest RX11 b cy D tU n K r := ⟨B.exec, B.bytes, hml, findClass_of_methodNamed B.named, atoms_spec (ws := wsX11_fewest) B.pre, hv.2.2, hG⟩
  have hr := B.returns
  have hlk := B.notSynchronized
  obtain ⟨hx, hb, hml, hown, hts, hst, hG⟩ := id C0
  have hiX11 : ∀ w ∈ u_ws RX11 TX11 15, w ∈ wsX11_fewest := hiX11_X11_fewest
  have w := jDy.start hv
  have hl := lv_entry ([.ref (b + x0), .int x1, .int x2, .int x3]) (n := 5) (Nat.le_of_ble_eq_true rfl)
  rw [lg_entry_eq]
  generalize (lg_sl ([.ref (b + x0), .int x1, .int x2, .int x3]) ++ List.replicate (5 - (lg_sl ([.ref (b + x0), .int x1, .int x2, .int x3])).length) Slot.unset).toArray = ls at hl ⊢
  replace hl : lv_has ls 5 [(0, .ref (b + x0)), (1, .int x1), (2, .int x2), (3, .int x3)] := hl
  show W p l e rm_X11_fewest s m _ below meth c s.heap [] 0 0 _ (F0 m 0 ls [])
  rw [J_X11_fewest] at h
  refine lv_aload_n hx hb dX11_fewest_0 rfl (lv_at hl 0 rfl) ?_
  refine lv_iload_n hx hb dX11_fewest_1 rfl (lv_at hl 1 rfl) ?_
  refine jcV_i (k := x0) (As := [.int x1]) (rest := []) C0 w (c_X11_isWalker hG hx0 h) (cwV 1 hts gX11_fewest_X11_isWalker rfl rfl rfl (by decide +kernel) ⟨Nat.le_of_ble_eq_true rfl, Nat.le_of_ble_eq_true rfl⟩) hx0 (rfl : vwCl[10]? = some (RX11, TX11, 15)) (by decide) rfl hl.1 rfl (Nat.le_of_ble_eq_true rfl) dX11_fewest_2 (fun q2 i2 j2 H locs h w => ?_) ⟨Nat.zero_le _, Nat.zero_le _⟩
  refine lv_if_eq (tgt := 15) hx hb dX11_fewest_5 (by decide) (fun hc => ?_) (fun hc => ?_)
  · replace h := h.1 hc
    clear hc
    exact w_X11_fewest_L15 C0 hr hlk w (lv_sub hl [] rfl) h
  · replace h := h.2 hc
    clear hc
    refine lv_iload_n hx hb dX11_fewest_8 rfl (lv_at hl 2 rfl) ?_
    refine jcS_i (As := [.int x2]) (rest := []) C0 w (c_X11_isPlace hG h) (va_cwS 1 hts gX11_fewest_X11_isPlace rfl rfl rfl (by decide +kernel) ⟨Nat.le_of_ble_eq_true rfl, Nat.le_of_ble_eq_true rfl⟩) rfl hl.1 rfl (Nat.le_of_ble_eq_true rfl) dX11_fewest_9 (fun q9 i9 j9 H locs h w => ?_) ⟨Nat.zero_le _, Nat.zero_le _⟩
    refine lv_if_ne (tgt := 18) hx hb dX11_fewest_12 (by decide) (fun hc => ?_) (fun hc => ?_)
    · replace h := h.1 hc
      clear hc
      refine lv_iload_n hx hb dX11_fewest_18 rfl (lv_at hl 3 rfl) ?_
      refine lv_iconst (v := (1 : Int32)) hx hb dX11_fewest_19 (by decide) ?_
      refine jcS_i (As := [.int x3, .int (1 : Int32)]) (rest := []) C0 w (c_X11_isWithin hG h) (va_cwS 2 hts gX11_fewest_X11_isWithin rfl rfl rfl (by decide +kernel) ⟨Nat.le_of_ble_eq_true rfl, Nat.le_of_ble_eq_true rfl⟩) rfl hl.1 rfl (Nat.le_of_ble_eq_true rfl) dX11_fewest_20 (fun q20 i20 j20 H locs h w => ?_) ⟨Nat.zero_le _, Nat.zero_le _⟩
      refine lv_if_ne (tgt := 29) hx hb dX11_fewest_23 (by decide) (fun hc => ?_) (fun hc => ?_)
      · replace h := h.1 hc
        clear hc
        refine lv_aload_n hx hb dX11_fewest_29 rfl (lv_at hl 0 rfl) ?_
        refine lv_aload_n hx hb dX11_fewest_30 rfl (lv_at hl 0 rfl) ?_
        obtain ⟨a31, hr0, h⟩ := h
        refine jgr (f := 2) hx hb hts hown hst w hG hx0 hiX11 (rfl : vwCl[10]? = some (RX11, TX11, 15)) (hts (.fieldLink RX11 25 "FootByGate" "walkers" "[LFootByGate$Walker;") (by decide +kernel)) ⟨by decide, by decide, rfl⟩ (rfl : jrt 10 2 = 16) dX11_fewest_31 hr0 (fun ha31 => ?_)
        clear hr0
        refine lv_iload_n hx hb dX11_fewest_34 rfl (lv_at hl 1 rfl) ?_
        obtain ⟨hn, h⟩ := h
        obtain ⟨a35, hr0, h⟩ := h
        refine jaar hx hb hst w hG ha31 hn dX11_fewest_35 hr0 (fun ha35 => ?_)
        clear hn hr0
        refine lv_iload_n hx hb dX11_fewest_36 rfl (lv_at hl 2 rfl) ?_
        refine jcV_i (k := x0) (As := [.ref (b + a35), .int x2]) (rest := []) C0 w (c_X11_fewestSteps hG hx0 ha35 h) (cwV 2 hts gX11_fewest_X11_fewestSteps rfl rfl rfl (by decide +kernel) ⟨Nat.le_of_ble_eq_true rfl, Nat.le_of_ble_eq_true rfl⟩) hx0 (rfl : vwCl[10]? = some (RX11, TX11, 15)) (by decide) rfl hl.1 rfl (Nat.le_of_ble_eq_true rfl) dX11_fewest_37 (fun q37 i37 j37 H locs h w => ?_) ⟨Nat.zero_le _, Nat.zero_le _⟩
        refine lv_istore (lv' := [(4, .int q37), (0, .ref (b + x0)), (1, .int x1), (2, .int x2), (3, .int x3)]) hx hb dX11_fewest_40 hl (by decide) rfl (fun ls hl => ?_)
        refine lv_iload_n hx hb dX11_fewest_42 rfl (lv_at hl 4 rfl) ?_
        refine lv_if_ne (tgt := 51) hx hb dX11_fewest_43 (by decide) (fun hc => ?_) (fun hc => ?_)
        · replace h := h.1 hc
          clear hc
          refine lv_aload_n hx hb dX11_fewest_51 rfl (lv_at hl 1 rfl) ?_
          refine lv_aload_n hx hb dX11_fewest_52 rfl (lv_at hl 1 rfl) ?_
          obtain ⟨a53, hr0, h⟩ := h
          refine jgr (f := 2) hx hb hts hown hst w hG hx0 hiX11 (rfl : vwCl[10]? = some (RX11, TX11, 15)) (hts (.fieldLink RX11 25 "FootByGate" "walkers" "[LFootByGate$Walker;") (by decide +kernel)) ⟨by decide, by decide, rfl⟩ (rfl : jrt 10 2 = 16) dX11_fewest_53 hr0 (fun ha53 => ?_)
          clear hr0
          refine lv_iload_n hx hb dX11_fewest_56 rfl (lv_at hl 2 rfl) ?_
          obtain ⟨hn, h⟩ := h
          obtain ⟨a57, hr0, h⟩ := h
          refine jaar hx hb hst w hG ha53 hn dX11_fewest_57 hr0 (fun ha57 => ?_)
          clear hn hr0
          refine lv_iload_n hx hb dX11_fewest_58 rfl (lv_at hl 3 rfl) ?_
          refine lv_iload hx hb dX11_fewest_59 (lv_at hl 0 rfl) ?_
          refine jcV_i (k := x0) (As := [.ref (b + a57), .int x2, .int q37]) (rest := []) C0 w (c_X11_firstStreet hG hx0 ha57 h) (cwV 3 hts gX11_fewest_X11_firstStreet rfl rfl rfl (by decide +kernel) ⟨Nat.le_of_ble_eq_true rfl, Nat.le_of_ble_eq_true rfl⟩) hx0 (rfl : vwCl[10]? = some (RX11, TX11, 15)) (by decide) rfl hl.1 rfl (Nat.le_of_ble_eq_true rfl) dX11_fewest_61 (fun q61 i61 j61 H locs h w => ?_) ⟨Nat.zero_le _, Nat.zero_le _⟩
          exact jret_i hx hb hr hlk hst w h dX11_fewest_64
        · replace h := h.2 hc
          clear hc
          refine lv_iload hx hb dX11_fewest_46 (lv_at hl 0 rfl) ?_
          refine lv_goto (tgt := 64) hx hb dX11_fewest_48 (by decide) ?_
          exact jret_i hx hb hr hlk hst w h dX11_fewest_64
      · replace h := h.2 hc
        clear hc
        refine lv_bipush (v := (-102 : Int32)) hx hb dX11_fewest_26 (by decide) ?_
        exact jret_i hx hb hr hlk hst w h dX11_fewest_28
    · replace h := h.2 hc
      clear hc
      exact w_X11_fewest_L15 C0 hr hlk w (lv_sub hl [] rfl) h
end S_X11_fewest
section S_X11_standBehind
def J_X11_standBehind (len : Nat → Nat) (r : jR) (Q : Int32 → jI → jL → Prop) (i : jI) (j : jL) (x0 : Nat) (x1 : Nat) (x2 : Int32) : Prop := ∃ a1, r x0 1 = some a1 ∧ (∃ a14, r x0 1 = some a14 ∧ (∃ a17, r a14 5 = some a17 ∧ (vp_in x2 (len a17) ∧ (J_X9_turnOf len r (fun (q22 : Int32) (i22 : jI) (j22 : jL) => J_X8_behind len r (fun (q25 : Int32) (i25 : jI) (j25 : jL) => Q q25 i25 j25) i22 j22 a1 (i x1 1) x2 q22) i j (i x1 0) (i a17 x2.toNatClampNeg)))))
abbrev rm_X11_standBehind : Room := { frames := 2, cells := 0, slots := 0, locals := 49 }
variable {p : Program} {l : Launch} {e : Env} {s : State} {m : MethodId} {args : Array Value} {below : List Frame} {meth : Method} {c : Code} {b tU n : Nat} {cy : Nat → ClassId} {D : va_G} {K len : Nat → Nat} {r : jR} {Q : Int32 → jI → jL → Prop}
theorem hiX11_X11_standBehind : ∀ w ∈ u_ws RX11 TX11 15, w ∈ wsX11_standBehind := by decide +kernel
theorem hiX8_X11_standBehind : ∀ w ∈ u_ws RX8 TX8 8, w ∈ wsX11_standBehind := by decide +kernel
theorem hiX9_X11_standBehind : ∀ w ∈ u_ws RX9 TX9 3, w ∈ wsX11_standBehind := by decide +kernel
set_option maxHeartbeats 4000000 in
set_option maxRecDepth 100000 in
theorem c_X11_standBehind (hG : jG n K r) {i : jI} {j : jL} {x0 : Nat} {x1 : Nat} {x2 : Int32} (hx0 : x0 < n ∧ K x0 = 10) (hx1 : x1 < n ∧ K x1 = 8) (h : J_X11_standBehind len r Q i j x0 x1 x2) : Met l yX11_standBehind wsX11_standBehind rm_X11_standBehind (va_Pc [.ref (b + x0), .ref (b + x1), .int x2] (jPre b cy D tU n K len r i j)) (jQi b cy D tU n K len r Q) 0 0 (jA b) := by
  refine Met.ofW (cc := cX11_standBehind) (maxL := 3) (ret := (some .int)) (by decide) rfl ?_
  intro p e s m args below meth c s₁ B hml hv
  obtain ⟨rfl, hv⟩ := hv
  have C0 : jCx p s m _ c cX11_standBehind 3 wsX11_standBehind RX11 b cy D tU n K r := ⟨B.exec, B.bytes, hml, findClass_of_methodNamed B.named, atoms_spec (ws := wsX11_standBehind) B.pre, hv.2.2, hG⟩
  have hr := B.returns
  have hlk := B.notSynchronized
  obtain ⟨hx, hb, hml, hown, hts, hst, hG⟩ := id C0
  have hiX11 : ∀ w ∈ u_ws RX11 TX11 15, w ∈ wsX11_standBehind := hiX11_X11_standBehind
  have hiX8 : ∀ w ∈ u_ws RX8 TX8 8, w ∈ wsX11_standBehind := hiX8_X11_standBehind
  have hiX9 : ∀ w ∈ u_ws RX9 TX9 3, w ∈ wsX11_standBehind := hiX9_X11_standBehind
  have w := jDy.start hv
  have hl := lv_entry ([.ref (b + x0), .ref (b + x1), .int x2]) (n := 3) (Nat.le_of_ble_eq_true rfl)
  rw [lg_entry_eq]
  generalize (lg_sl ([.ref (b + x0), .ref (b + x1), .int x2]) ++ List.replicate (3 - (lg_sl ([.ref (b + x0), .ref (b + x1), .int x2])).length) Slot.unset).toArray = ls at hl ⊢
  replace hl : lv_has ls 3 [(0, .ref (b + x0)), (1, .ref (b + x1)), (2, .int x2)] := hl
  show W p l e rm_X11_standBehind s m _ below meth c s.heap [] 0 0 _ (F0 m 0 ls [])
  rw [J_X11_standBehind] at h
  refine lv_aload_n hx hb dX11_standBehind_0 rfl (lv_at hl 0 rfl) ?_
  obtain ⟨a1, hr0, h⟩ := h
  refine jgr (f := 1) hx hb hts hown hst w hG hx0 hiX11 (rfl : vwCl[10]? = some (RX11, TX11, 15)) (hts (.fieldLink RX11 19 "FootByGate" "map" "LFootByGate$Town;") (by decide +kernel)) ⟨by decide, by decide, rfl⟩ (rfl : jrt 10 1 = 7) dX11_standBehind_1 hr0 (fun ha1 => ?_)
  clear hr0
  refine lv_aload_n hx hb dX11_standBehind_4 rfl (lv_at hl 1 rfl) ?_
  refine jgi (f := 1) hx hb hts hown hst w hx1 hiX9 (rfl : vwCl[8]? = some (RX9, TX9, 3)) (hts (.fieldLink RX11 146 "FootByGate$Walker" "stand" "I") (by decide +kernel)) ⟨by decide, by decide, rfl⟩ dX11_standBehind_5 ?_
  refine lv_iload_n hx hb dX11_standBehind_8 rfl (lv_at hl 2 rfl) ?_
  refine lv_aload_n hx hb dX11_standBehind_9 rfl (lv_at hl 1 rfl) ?_
  refine jgi (f := 0) hx hb hts hown hst w hx1 hiX9 (rfl : vwCl[8]? = some (RX9, TX9, 3)) (hts (.fieldLink RX11 137 "FootByGate$Walker" "kind" "I") (by decide +kernel)) ⟨by decide, by decide, rfl⟩ dX11_standBehind_10 ?_
  refine lv_aload_n hx hb dX11_standBehind_13 rfl (lv_at hl 0 rfl) ?_
  obtain ⟨a14, hr0, h⟩ := h
  refine jgr (f := 1) hx hb hts hown hst w hG hx0 hiX11 (rfl : vwCl[10]? = some (RX11, TX11, 15)) (hts (.fieldLink RX11 19 "FootByGate" "map" "LFootByGate$Town;") (by decide +kernel)) ⟨by decide, by decide, rfl⟩ (rfl : jrt 10 1 = 7) dX11_standBehind_14 hr0 (fun ha14 => ?_)
  clear hr0
  obtain ⟨a17, hr0, h⟩ := h
  refine jgr (f := 5) hx hb hts hown hst w hG ha14 hiX8 (rfl : vwCl[7]? = some (RX8, TX8, 8)) (hts (.fieldLink RX11 118 "FootByGate$Town" "paces" "[I") (by decide +kernel)) ⟨by decide, by decide, rfl⟩ (rfl : jrt 7 5 = 13) dX11_standBehind_17 hr0 (fun ha17 => ?_)
  clear hr0
  refine lv_iload_n hx hb dX11_standBehind_20 rfl (lv_at hl 2 rfl) ?_
  obtain ⟨hn, h⟩ := h
  refine jaid hx hb hst w ha17 hn dX11_standBehind_21 ?_
  clear hn
  refine jcS_i (As := [.int (i x1 0), .int (i a17 x2.toNatClampNeg)]) (rest := [.int x2, .int (i x1 1), .ref (b + a1)]) C0 w (c_X9_turnOf hG h) (va_cwS 2 hts gX11_standBehind_X9_turnOf rfl rfl rfl (by decide +kernel) ⟨Nat.le_of_ble_eq_true rfl, Nat.le_of_ble_eq_true rfl⟩) rfl hl.1 rfl (Nat.le_of_ble_eq_true rfl) dX11_standBehind_22 (fun q22 i22 j22 H locs h w => ?_) ⟨Nat.zero_le _, Nat.zero_le _⟩
  refine jcV_i (k := a1) (As := [.int (i x1 1), .int x2, .int q22]) (rest := []) C0 w (c_X8_behind hG ha1 h) (cwV 3 hts gX11_standBehind_X8_behind rfl rfl rfl (by decide +kernel) ⟨Nat.le_of_ble_eq_true rfl, Nat.le_of_ble_eq_true rfl⟩) ha1 (rfl : vwCl[7]? = some (RX8, TX8, 8)) (by decide) rfl hl.1 rfl (Nat.le_of_ble_eq_true rfl) dX11_standBehind_25 (fun q25 i25 j25 H locs h w => ?_) ⟨Nat.zero_le _, Nat.zero_le _⟩
  exact jret_i hx hb hr hlk hst w h dX11_standBehind_28
end S_X11_standBehind
section S_X11_go
def J_X11_go_L16 (len : Nat → Nat) (r : jR) (Q : Int32 → jI → jL → Prop) (i : jI) (j : jL) : Prop := Q (-101 : Int32) i j
def J_X11_go (len : Nat → Nat) (r : jR) (Q : Int32 → jI → jL → Prop) (i : jI) (j : jL) (x0 : Nat) (x1 : Int32) (x2 : Int32) : Prop := J_X11_isWalker len r (fun (q2 : Int32) (i2 : jI) (j2 : jL) => ((q2 = 0) → (J_X11_go_L16 len r Q i2 j2 )) ∧ ((¬ q2 = 0) → (J_X11_isStreet len r (fun (q10 : Int32) (i10 : jI) (j10 : jL) => ((¬ q10 = 0) → (∃ a20, r x0 2 = some a20 ∧ (vp_in x1 (len a20) ∧ ∃ a24, r a20 x1.toNatClampNeg = some a24 ∧ (J_X11_standBehind len r (fun (q29 : Int32) (i29 : jI) (j29 : jL) => ((¬ q29 = (-1 : Int32)) → (∀ i46 : jI, i46 = ju i29 a24 1 q29 → (J_X7_placeOf len r (fun (q51 : Int32) (i51 : jI) (j51 : jL) => Q q51 i51 j51) i46 j29 q29))) ∧ ((q29 = (-1 : Int32)) → (Q (-103 : Int32) i29 j29))) i10 j10 x0 a24 x2)))) ∧ ((q10 = 0) → (J_X11_go_L16 len r Q i10 j10 ))) i2 j2 x0 x2))) i j x0 x1
abbrev rm_X11_go : Room := { frames := 3, cells := 0, slots := 0, locals := 71 }
variable {p : Program} {l : Launch} {e : Env} {s : State} {m : MethodId} {args : Array Value} {below : List Frame} {meth : Method} {c : Code} {b tU n : Nat} {cy : Nat → ClassId} {D : va_G} {K len : Nat → Nat} {r : jR} {Q : Int32 → jI → jL → Prop}
theorem hiX11_X11_go : ∀ w ∈ u_ws RX11 TX11 15, w ∈ wsX11_go := by decide +kernel
theorem hiX9_X11_go : ∀ w ∈ u_ws RX9 TX9 3, w ∈ wsX11_go := by decide +kernel
set_option maxHeartbeats 4000000 in
set_option maxRecDepth 100000 in
theorem w_X11_go_L16 (C0 : jCx p s m args c cX11_go 5 wsX11_go RX11 b cy D tU n K r) (hr : meth.sig.returnType = some .int) (hlk : meth.locks = false) {H : Heap} {locs : List Loc} {ls : Array Slot} {i : jI} {j : jL}  (w : jDy b cy D n K len r i j s H locs) (hl : lv_has ls 5 []) (h : J_X11_go_L16 len r Q i j) : W p l e rm_X11_go s m args below meth c H locs 0 0 (MQ below (jQi b cy D tU n K len r Q) args s 0 0 (jA b)) (F0 m 16 ls []) := by
  obtain ⟨hx, hb, hml, hown, hts, hst, hG⟩ := id C0
  have hiX11 : ∀ w ∈ u_ws RX11 TX11 15, w ∈ wsX11_go := hiX11_X11_go
  have hiX9 : ∀ w ∈ u_ws RX9 TX9 3, w ∈ wsX11_go := hiX9_X11_go
  rw [J_X11_go_L16] at h
  refine lv_bipush (v := (-101 : Int32)) hx hb dX11_go_16 (by decide) ?_
  exact jret_i hx hb hr hlk hst w h dX11_go_18
set_option maxHeartbeats 4000000 in
set_option maxRecDepth 100000 in
theorem c_X11_go (hG : jG n K r) {i : jI} {j : jL} {x0 : Nat} {x1 : Int32} {x2 : Int32} (hx0 : x0 < n ∧ K x0 = 10) (h : J_X11_go len r Q i j x0 x1 x2) : Met l yX11_go wsX11_go rm_X11_go (va_Pc [.ref (b + x0), .int x1, .int x2] (jPre b cy D tU n K len r i j)) (jQi b cy D tU n K len r Q) 0 0 (jA b) := by
  refine Met.ofW (cc := cX11_go) (maxL := 5) (ret := (some .int)) (by decide) rfl ?_
  intro p e s m args below meth c s₁ B hml hv
  obtain ⟨rfl, hv⟩ := hv
  have C0 : jCx p s m _ c cX11_go 5 wsX11_go RX11 b cy D tU n K r := ⟨B.exec, B.bytes, hml, findClass_of_methodNamed B.named, atoms_spec (ws := wsX11_go) B.pre, hv.2.2, hG⟩
  have hr := B.returns
  have hlk := B.notSynchronized
  obtain ⟨hx, hb, hml, hown, hts, hst, hG⟩ := id C0
  have hiX11 : ∀ w ∈ u_ws RX11 TX11 15, w ∈ wsX11_go := hiX11_X11_go
  have hiX9 : ∀ w ∈ u_ws RX9 TX9 3, w ∈ wsX11_go := hiX9_X11_go
  have w := jDy.start hv
  have hl := lv_entry ([.ref (b + x0), .int x1, .int x2]) (n := 5) (Nat.le_of_ble_eq_true rfl)
  rw [lg_entry_eq]
  generalize (lg_sl ([.ref (b + x0), .int x1, .int x2]) ++ List.replicate (5 - (lg_sl ([.ref (b + x0), .int x1, .int x2])).length) Slot.unset).toArray = ls at hl ⊢
  replace hl : lv_has ls 5 [(0, .ref (b + x0)), (1, .int x1), (2, .int x2)] := hl
  show W p l e rm_X11_go s m _ below meth c s.heap [] 0 0 _ (F0 m 0 ls [])
  rw [J_X11_go] at h
  refine lv_aload_n hx hb dX11_go_0 rfl (lv_at hl 0 rfl) ?_
  refine lv_iload_n hx hb dX11_go_1 rfl (lv_at hl 1 rfl) ?_
  refine jcV_i (k := x0) (As := [.int x1]) (rest := []) C0 w (c_X11_isWalker hG hx0 h) (cwV 1 hts gX11_go_X11_isWalker rfl rfl rfl (by decide +kernel) ⟨Nat.le_of_ble_eq_true rfl, Nat.le_of_ble_eq_true rfl⟩) hx0 (rfl : vwCl[10]? = some (RX11, TX11, 15)) (by decide) rfl hl.1 rfl (Nat.le_of_ble_eq_true rfl) dX11_go_2 (fun q2 i2 j2 H locs h w => ?_) ⟨Nat.zero_le _, Nat.zero_le _⟩
  refine lv_if_eq (tgt := 16) hx hb dX11_go_5 (by decide) (fun hc => ?_) (fun hc => ?_)
  · replace h := h.1 hc
    clear hc
    exact w_X11_go_L16 C0 hr hlk w (lv_sub hl [] rfl) h
  · replace h := h.2 hc
    clear hc
    refine lv_aload_n hx hb dX11_go_8 rfl (lv_at hl 0 rfl) ?_
    refine lv_iload_n hx hb dX11_go_9 rfl (lv_at hl 2 rfl) ?_
    refine jcV_i (k := x0) (As := [.int x2]) (rest := []) C0 w (c_X11_isStreet hG hx0 h) (cwV 1 hts gX11_go_X11_isStreet rfl rfl rfl (by decide +kernel) ⟨Nat.le_of_ble_eq_true rfl, Nat.le_of_ble_eq_true rfl⟩) hx0 (rfl : vwCl[10]? = some (RX11, TX11, 15)) (by decide) rfl hl.1 rfl (Nat.le_of_ble_eq_true rfl) dX11_go_10 (fun q10 i10 j10 H locs h w => ?_) ⟨Nat.zero_le _, Nat.zero_le _⟩
    refine lv_if_ne (tgt := 19) hx hb dX11_go_13 (by decide) (fun hc => ?_) (fun hc => ?_)
    · replace h := h.1 hc
      clear hc
      refine lv_aload_n hx hb dX11_go_19 rfl (lv_at hl 0 rfl) ?_
      obtain ⟨a20, hr0, h⟩ := h
      refine jgr (f := 2) hx hb hts hown hst w hG hx0 hiX11 (rfl : vwCl[10]? = some (RX11, TX11, 15)) (hts (.fieldLink RX11 25 "FootByGate" "walkers" "[LFootByGate$Walker;") (by decide +kernel)) ⟨by decide, by decide, rfl⟩ (rfl : jrt 10 2 = 16) dX11_go_20 hr0 (fun ha20 => ?_)
      clear hr0
      refine lv_iload_n hx hb dX11_go_23 rfl (lv_at hl 1 rfl) ?_
      obtain ⟨hn, h⟩ := h
      obtain ⟨a24, hr0, h⟩ := h
      refine jaar hx hb hst w hG ha20 hn dX11_go_24 hr0 (fun ha24 => ?_)
      clear hn hr0
      refine lv_astore_n (lv' := [(3, .ref (b + a24)), (0, .ref (b + x0)), (1, .int x1), (2, .int x2)]) hx hb dX11_go_25 rfl hl (by decide) rfl (fun ls hl => ?_)
      refine lv_aload_n hx hb dX11_go_26 rfl (lv_at hl 1 rfl) ?_
      refine lv_aload_n hx hb dX11_go_27 rfl (lv_at hl 0 rfl) ?_
      refine lv_iload_n hx hb dX11_go_28 rfl (lv_at hl 3 rfl) ?_
      refine jcV_i (k := x0) (As := [.ref (b + a24), .int x2]) (rest := []) C0 w (c_X11_standBehind hG hx0 ha24 h) (cwV 2 hts gX11_go_X11_standBehind rfl rfl rfl (by decide +kernel) ⟨Nat.le_of_ble_eq_true rfl, Nat.le_of_ble_eq_true rfl⟩) hx0 (rfl : vwCl[10]? = some (RX11, TX11, 15)) (by decide) rfl hl.1 rfl (Nat.le_of_ble_eq_true rfl) dX11_go_29 (fun q29 i29 j29 H locs h w => ?_) ⟨Nat.zero_le _, Nat.zero_le _⟩
      refine lv_istore (lv' := [(4, .int q29), (3, .ref (b + a24)), (0, .ref (b + x0)), (1, .int x1), (2, .int x2)]) hx hb dX11_go_32 hl (by decide) rfl (fun ls hl => ?_)
      refine lv_iload hx hb dX11_go_34 (lv_at hl 0 rfl) ?_
      refine lv_iconst (v := (-1 : Int32)) hx hb dX11_go_36 (by decide) ?_
      refine lv_icmp_ne (tgt := 43) hx hb dX11_go_37 (by decide) (fun hc => ?_) (fun hc => ?_)
      · replace h := h.1 hc
        clear hc
        refine lv_aload_n hx hb dX11_go_43 rfl (lv_at hl 1 rfl) ?_
        refine lv_iload hx hb dX11_go_44 (lv_at hl 0 rfl) ?_
        refine jpi (f := 1) hx hb hts hown hst w ha24 hiX9 (rfl : vwCl[8]? = some (RX9, TX9, 3)) (hts (.fieldLink RX11 146 "FootByGate$Walker" "stand" "I") (by decide +kernel)) ⟨by decide, by decide, rfl⟩ tyX9 tyX9_ok nmX9 rfl ⟨rfl, rfl⟩ dX11_go_46 (fun i46 H locs he w => ?_)
        replace h := h i46 he
        clear he
        refine lv_iload hx hb dX11_go_49 (lv_at hl 0 rfl) ?_
        refine jcS_i (As := [.int q29]) (rest := []) C0 w (c_X7_placeOf hG h) (va_cwS 1 hts gX11_go_X7_placeOf rfl rfl rfl (by decide +kernel) ⟨Nat.le_of_ble_eq_true rfl, Nat.le_of_ble_eq_true rfl⟩) rfl hl.1 rfl (Nat.le_of_ble_eq_true rfl) dX11_go_51 (fun q51 i51 j51 H locs h w => ?_) ⟨Nat.zero_le _, Nat.zero_le _⟩
        exact jret_i hx hb hr hlk hst w h dX11_go_54
      · replace h := h.2 hc
        clear hc
        refine lv_bipush (v := (-103 : Int32)) hx hb dX11_go_40 (by decide) ?_
        exact jret_i hx hb hr hlk hst w h dX11_go_42
    · replace h := h.2 hc
      clear hc
      exact w_X11_go_L16 C0 hr hlk w (lv_sub hl [] rfl) h
end S_X11_go
section S_X11_image
def J_X11_image (len : Nat → Nat) (r : jR) (Q : Int32 → jI → jL → Prop) (i : jI) (j : jL) (x0 : Nat) : Prop := J_X11_hasTown len r (fun (q1 : Int32) (i1 : jI) (j1 : jL) => ((¬ q1 = 0) → (∃ a11, r x0 6 = some a11 ∧ (∃ a15, r x0 2 = some a15 ∧ (J_X4_keepWalkers len r (fun (i22 : jI) (j22 : jL) => ∃ a26, r x0 6 = some a26 ∧ (∃ a30, r x0 4 = some a30 ∧ (J_X4_keepPrints len r (fun (i37 : jI) (j37 : jL) => ∃ a41, r x0 6 = some a41 ∧ (∃ a45, r x0 1 = some a45 ∧ (J_X4_keepPaces len r (fun (i52 : jI) (j52 : jL) => Q (i52 x0 3) i52 j52) i37 j37 a41 a45 (i37 x0 7)))) i22 j22 a26 a30 (i22 x0 5)))) i1 j1 a11 a15 (i1 x0 3))))) ∧ ((q1 = 0) → (Q (-103 : Int32) i1 j1))) i j x0
abbrev rm_X11_image : Room := { frames := 2, cells := 0, slots := 0, locals := 40 }
variable {p : Program} {l : Launch} {e : Env} {s : State} {m : MethodId} {args : Array Value} {below : List Frame} {meth : Method} {c : Code} {b tU n : Nat} {cy : Nat → ClassId} {D : va_G} {K len : Nat → Nat} {r : jR} {Q : Int32 → jI → jL → Prop}
theorem hiX11_X11_image : ∀ w ∈ u_ws RX11 TX11 15, w ∈ wsX11_image := by decide +kernel
set_option maxHeartbeats 4000000 in
set_option maxRecDepth 100000 in
theorem c_X11_image (hG : jG n K r) {i : jI} {j : jL} {x0 : Nat} (hx0 : x0 < n ∧ K x0 = 10) (h : J_X11_image len r Q i j x0) : Met l yX11_image wsX11_image rm_X11_image (va_Pc [.ref (b + x0)] (jPre b cy D tU n K len r i j)) (jQi b cy D tU n K len r Q) 0 0 (jA b) := by
  refine Met.ofW (cc := cX11_image) (maxL := 1) (ret := (some .int)) (by decide) rfl ?_
  intro p e s m args below meth c s₁ B hml hv
  obtain ⟨rfl, hv⟩ := hv
  have C0 : jCx p s m _ c cX11_image 1 wsX11_image RX11 b cy D tU n K r := ⟨B.exec, B.bytes, hml, findClass_of_methodNamed B.named, atoms_spec (ws := wsX11_image) B.pre, hv.2.2, hG⟩
  have hr := B.returns
  have hlk := B.notSynchronized
  obtain ⟨hx, hb, hml, hown, hts, hst, hG⟩ := id C0
  have hiX11 : ∀ w ∈ u_ws RX11 TX11 15, w ∈ wsX11_image := hiX11_X11_image
  have w := jDy.start hv
  have hl := lv_entry ([.ref (b + x0)]) (n := 1) (Nat.le_of_ble_eq_true rfl)
  rw [lg_entry_eq]
  generalize (lg_sl ([.ref (b + x0)]) ++ List.replicate (1 - (lg_sl ([.ref (b + x0)])).length) Slot.unset).toArray = ls at hl ⊢
  replace hl : lv_has ls 1 [(0, .ref (b + x0))] := hl
  show W p l e rm_X11_image s m _ below meth c s.heap [] 0 0 _ (F0 m 0 ls [])
  rw [J_X11_image] at h
  refine lv_aload_n hx hb dX11_image_0 rfl (lv_at hl 0 rfl) ?_
  refine jcV_i (k := x0) (As := []) (rest := []) C0 w (c_X11_hasTown hG hx0 h) (cwV 0 hts gX11_image_X11_hasTown rfl rfl rfl (by decide +kernel) ⟨Nat.le_of_ble_eq_true rfl, Nat.le_of_ble_eq_true rfl⟩) hx0 (rfl : vwCl[10]? = some (RX11, TX11, 15)) (by decide) rfl hl.1 rfl (Nat.le_of_ble_eq_true rfl) dX11_image_1 (fun q1 i1 j1 H locs h w => ?_) ⟨Nat.zero_le _, Nat.zero_le _⟩
  refine lv_if_ne (tgt := 10) hx hb dX11_image_4 (by decide) (fun hc => ?_) (fun hc => ?_)
  · replace h := h.1 hc
    clear hc
    refine lv_aload_n hx hb dX11_image_10 rfl (lv_at hl 0 rfl) ?_
    obtain ⟨a11, hr0, h⟩ := h
    refine jgr (f := 6) hx hb hts hown hst w hG hx0 hiX11 (rfl : vwCl[10]? = some (RX11, TX11, 15)) (hts (.fieldLink RX11 36 "FootByGate" "kept" "LFootByGate$Image;") (by decide +kernel)) ⟨by decide, by decide, rfl⟩ (rfl : jrt 10 6 = 4) dX11_image_11 hr0 (fun ha11 => ?_)
    clear hr0
    refine lv_aload_n hx hb dX11_image_14 rfl (lv_at hl 0 rfl) ?_
    obtain ⟨a15, hr0, h⟩ := h
    refine jgr (f := 2) hx hb hts hown hst w hG hx0 hiX11 (rfl : vwCl[10]? = some (RX11, TX11, 15)) (hts (.fieldLink RX11 25 "FootByGate" "walkers" "[LFootByGate$Walker;") (by decide +kernel)) ⟨by decide, by decide, rfl⟩ (rfl : jrt 10 2 = 16) dX11_image_15 hr0 (fun ha15 => ?_)
    clear hr0
    refine lv_aload_n hx hb dX11_image_18 rfl (lv_at hl 0 rfl) ?_
    refine jgi (f := 3) hx hb hts hown hst w hx0 hiX11 (rfl : vwCl[10]? = some (RX11, TX11, 15)) (hts (.fieldLink RX11 96 "FootByGate" "walkerCount" "I") (by decide +kernel)) ⟨by decide, by decide, rfl⟩ dX11_image_19 ?_
    refine jcV_v (k := a11) (As := [.ref (b + a15), .int (i1 x0 3)]) (rest := []) C0 w (c_X4_keepWalkers hG ha11 ha15 h) (cwV 2 hts gX11_image_X4_keepWalkers rfl rfl rfl (by decide +kernel) ⟨Nat.le_of_ble_eq_true rfl, Nat.le_of_ble_eq_true rfl⟩) ha11 (rfl : vwCl[4]? = some (RX4, TX4, 7)) (by decide) rfl hl.1 rfl (Nat.le_of_ble_eq_true rfl) dX11_image_22 (fun i22 j22 H locs h w => ?_) ⟨Nat.zero_le _, Nat.zero_le _⟩
    refine lv_aload_n hx hb dX11_image_25 rfl (lv_at hl 0 rfl) ?_
    obtain ⟨a26, hr0, h⟩ := h
    refine jgr (f := 6) hx hb hts hown hst w hG hx0 hiX11 (rfl : vwCl[10]? = some (RX11, TX11, 15)) (hts (.fieldLink RX11 36 "FootByGate" "kept" "LFootByGate$Image;") (by decide +kernel)) ⟨by decide, by decide, rfl⟩ (rfl : jrt 10 6 = 4) dX11_image_26 hr0 (fun ha26 => ?_)
    clear hr0
    refine lv_aload_n hx hb dX11_image_29 rfl (lv_at hl 0 rfl) ?_
    obtain ⟨a30, hr0, h⟩ := h
    refine jgr (f := 4) hx hb hts hown hst w hG hx0 hiX11 (rfl : vwCl[10]? = some (RX11, TX11, 15)) (hts (.fieldLink RX11 29 "FootByGate" "prints" "[I") (by decide +kernel)) ⟨by decide, by decide, rfl⟩ (rfl : jrt 10 4 = 13) dX11_image_30 hr0 (fun ha30 => ?_)
    clear hr0
    refine lv_aload_n hx hb dX11_image_33 rfl (lv_at hl 0 rfl) ?_
    refine jgi (f := 5) hx hb hts hown hst w hx0 hiX11 (rfl : vwCl[10]? = some (RX11, TX11, 15)) (hts (.fieldLink RX11 99 "FootByGate" "printCount" "I") (by decide +kernel)) ⟨by decide, by decide, rfl⟩ dX11_image_34 ?_
    refine jcV_v (k := a26) (As := [.ref (b + a30), .int (i22 x0 5)]) (rest := []) C0 w (c_X4_keepPrints hG ha26 ha30 h) (cwV 2 hts gX11_image_X4_keepPrints rfl rfl rfl (by decide +kernel) ⟨Nat.le_of_ble_eq_true rfl, Nat.le_of_ble_eq_true rfl⟩) ha26 (rfl : vwCl[4]? = some (RX4, TX4, 7)) (by decide) rfl hl.1 rfl (Nat.le_of_ble_eq_true rfl) dX11_image_37 (fun i37 j37 H locs h w => ?_) ⟨Nat.zero_le _, Nat.zero_le _⟩
    refine lv_aload_n hx hb dX11_image_40 rfl (lv_at hl 0 rfl) ?_
    obtain ⟨a41, hr0, h⟩ := h
    refine jgr (f := 6) hx hb hts hown hst w hG hx0 hiX11 (rfl : vwCl[10]? = some (RX11, TX11, 15)) (hts (.fieldLink RX11 36 "FootByGate" "kept" "LFootByGate$Image;") (by decide +kernel)) ⟨by decide, by decide, rfl⟩ (rfl : jrt 10 6 = 4) dX11_image_41 hr0 (fun ha41 => ?_)
    clear hr0
    refine lv_aload_n hx hb dX11_image_44 rfl (lv_at hl 0 rfl) ?_
    obtain ⟨a45, hr0, h⟩ := h
    refine jgr (f := 1) hx hb hts hown hst w hG hx0 hiX11 (rfl : vwCl[10]? = some (RX11, TX11, 15)) (hts (.fieldLink RX11 19 "FootByGate" "map" "LFootByGate$Town;") (by decide +kernel)) ⟨by decide, by decide, rfl⟩ (rfl : jrt 10 1 = 7) dX11_image_45 hr0 (fun ha45 => ?_)
    clear hr0
    refine lv_aload_n hx hb dX11_image_48 rfl (lv_at hl 0 rfl) ?_
    refine jgi (f := 7) hx hb hts hown hst w hx0 hiX11 (rfl : vwCl[10]? = some (RX11, TX11, 15)) (hts (.fieldLink RX11 102 "FootByGate" "townsRead" "I") (by decide +kernel)) ⟨by decide, by decide, rfl⟩ dX11_image_49 ?_
    refine jcV_v (k := a41) (As := [.ref (b + a45), .int (i37 x0 7)]) (rest := []) C0 w (c_X4_keepPaces hG ha41 ha45 h) (cwV 2 hts gX11_image_X4_keepPaces rfl rfl rfl (by decide +kernel) ⟨Nat.le_of_ble_eq_true rfl, Nat.le_of_ble_eq_true rfl⟩) ha41 (rfl : vwCl[4]? = some (RX4, TX4, 7)) (by decide) rfl hl.1 rfl (Nat.le_of_ble_eq_true rfl) dX11_image_52 (fun i52 j52 H locs h w => ?_) ⟨Nat.zero_le _, Nat.zero_le _⟩
    refine lv_aload_n hx hb dX11_image_55 rfl (lv_at hl 0 rfl) ?_
    refine jgi (f := 3) hx hb hts hown hst w hx0 hiX11 (rfl : vwCl[10]? = some (RX11, TX11, 15)) (hts (.fieldLink RX11 96 "FootByGate" "walkerCount" "I") (by decide +kernel)) ⟨by decide, by decide, rfl⟩ dX11_image_56 ?_
    exact jret_i hx hb hr hlk hst w h dX11_image_59
  · replace h := h.2 hc
    clear hc
    refine lv_bipush (v := (-103 : Int32)) hx hb dX11_image_7 (by decide) ?_
    exact jret_i hx hb hr hlk hst w h dX11_image_9
end S_X11_image
section S_X11_letters
def J_X11_letters (len : Nat → Nat) (r : jR) (Q : Int32 → jI → jL → Prop) (i : jI) (j : jL) (x0 : Nat) (x1 : Int64) : Prop := J_X5_lettersIn len r (fun (q1 : Int32) (i1 : jI) (j1 : jL) => ((¬ q1 = (-1 : Int32)) → (∃ a14, r x0 0 = some a14 ∧ (((((i1 a14 1) + q1) ≤ (50 : Int32)) → (∃ a31, r x0 0 = some a31 ∧ (J_X5_append len r (fun (i36 : jI) (j36 : jL) => ∃ a40, r x0 0 = some a40 ∧ (Q (i36 a40 1) i36 j36)) i1 j1 a31 x1 q1))) ∧ ((¬ ((i1 a14 1) + q1) ≤ (50 : Int32)) → (Q (-104 : Int32) i1 j1))))) ∧ ((q1 = (-1 : Int32)) → (Q (-102 : Int32) i1 j1))) i j x1
abbrev rm_X11_letters : Room := { frames := 2, cells := 0, slots := 0, locals := 46 }
variable {p : Program} {l : Launch} {e : Env} {s : State} {m : MethodId} {args : Array Value} {below : List Frame} {meth : Method} {c : Code} {b tU n : Nat} {cy : Nat → ClassId} {D : va_G} {K len : Nat → Nat} {r : jR} {Q : Int32 → jI → jL → Prop}
theorem hiX11_X11_letters : ∀ w ∈ u_ws RX11 TX11 15, w ∈ wsX11_letters := by decide +kernel
theorem hiX5_X11_letters : ∀ w ∈ u_ws RX5 TX5 5, w ∈ wsX11_letters := by decide +kernel
set_option maxHeartbeats 4000000 in
set_option maxRecDepth 100000 in
theorem c_X11_letters (hG : jG n K r) {i : jI} {j : jL} {x0 : Nat} {x1 : Int64} (hx0 : x0 < n ∧ K x0 = 10) (h : J_X11_letters len r Q i j x0 x1) : Met l yX11_letters wsX11_letters rm_X11_letters (va_Pc [.ref (b + x0), .long x1] (jPre b cy D tU n K len r i j)) (jQi b cy D tU n K len r Q) 0 0 (jA b) := by
  refine Met.ofW (cc := cX11_letters) (maxL := 4) (ret := (some .int)) (by decide) rfl ?_
  intro p e s m args below meth c s₁ B hml hv
  obtain ⟨rfl, hv⟩ := hv
  have C0 : jCx p s m _ c cX11_letters 4 wsX11_letters RX11 b cy D tU n K r := ⟨B.exec, B.bytes, hml, findClass_of_methodNamed B.named, atoms_spec (ws := wsX11_letters) B.pre, hv.2.2, hG⟩
  have hr := B.returns
  have hlk := B.notSynchronized
  obtain ⟨hx, hb, hml, hown, hts, hst, hG⟩ := id C0
  have hiX11 : ∀ w ∈ u_ws RX11 TX11 15, w ∈ wsX11_letters := hiX11_X11_letters
  have hiX5 : ∀ w ∈ u_ws RX5 TX5 5, w ∈ wsX11_letters := hiX5_X11_letters
  have w := jDy.start hv
  have hl := lv_entry ([.ref (b + x0), .long x1]) (n := 4) (Nat.le_of_ble_eq_true rfl)
  rw [lg_entry_eq]
  generalize (lg_sl ([.ref (b + x0), .long x1]) ++ List.replicate (4 - (lg_sl ([.ref (b + x0), .long x1])).length) Slot.unset).toArray = ls at hl ⊢
  replace hl : lv_has ls 4 [(0, .ref (b + x0)), (1, .long x1)] := hl
  show W p l e rm_X11_letters s m _ below meth c s.heap [] 0 0 _ (F0 m 0 ls [])
  rw [J_X11_letters] at h
  refine lv_lload_n hx hb dX11_letters_0 rfl (lv_at hl 1 rfl) ?_
  refine jcS_i (As := [.long x1]) (rest := []) C0 w (c_X5_lettersIn hG h) (va_cwS 1 hts gX11_letters_X5_lettersIn rfl rfl rfl (by decide +kernel) ⟨Nat.le_of_ble_eq_true rfl, Nat.le_of_ble_eq_true rfl⟩) rfl hl.1 rfl (Nat.le_of_ble_eq_true rfl) dX11_letters_1 (fun q1 i1 j1 H locs h w => ?_) ⟨Nat.zero_le _, Nat.zero_le _⟩
  refine lv_istore_n (lv' := [(3, .int q1), (0, .ref (b + x0)), (1, .long x1)]) hx hb dX11_letters_4 rfl hl (by decide) rfl (fun ls hl => ?_)
  refine lv_iload_n hx hb dX11_letters_5 rfl (lv_at hl 0 rfl) ?_
  refine lv_iconst (v := (-1 : Int32)) hx hb dX11_letters_6 (by decide) ?_
  refine lv_icmp_ne (tgt := 13) hx hb dX11_letters_7 (by decide) (fun hc => ?_) (fun hc => ?_)
  · replace h := h.1 hc
    clear hc
    refine lv_aload_n hx hb dX11_letters_13 rfl (lv_at hl 1 rfl) ?_
    obtain ⟨a14, hr0, h⟩ := h
    refine jgr (f := 0) hx hb hts hown hst w hG hx0 hiX11 (rfl : vwCl[10]? = some (RX11, TX11, 15)) (hts (.fieldLink RX11 10 "FootByGate" "page" "LFootByGate$Page;") (by decide +kernel)) ⟨by decide, by decide, rfl⟩ (rfl : jrt 10 0 = 5) dX11_letters_14 hr0 (fun ha14 => ?_)
    clear hr0
    refine jgi (f := 1) hx hb hts hown hst w ha14 hiX5 (rfl : vwCl[5]? = some (RX5, TX5, 5)) (hts (.fieldLink RX11 76 "FootByGate$Page" "length" "I") (by decide +kernel)) ⟨by decide, by decide, rfl⟩ dX11_letters_17 ?_
    refine lv_iload_n hx hb dX11_letters_20 rfl (lv_at hl 0 rfl) ?_
    refine lv_iadd hx hb dX11_letters_21 ?_
    refine lv_bipush (v := (50 : Int32)) hx hb dX11_letters_22 (by decide) ?_
    refine lv_icmp_le (tgt := 30) hx hb dX11_letters_24 (by decide) (fun hc => ?_) (fun hc => ?_)
    · replace h := h.1 hc
      clear hc
      refine lv_aload_n hx hb dX11_letters_30 rfl (lv_at hl 1 rfl) ?_
      obtain ⟨a31, hr0, h⟩ := h
      refine jgr (f := 0) hx hb hts hown hst w hG hx0 hiX11 (rfl : vwCl[10]? = some (RX11, TX11, 15)) (hts (.fieldLink RX11 10 "FootByGate" "page" "LFootByGate$Page;") (by decide +kernel)) ⟨by decide, by decide, rfl⟩ (rfl : jrt 10 0 = 5) dX11_letters_31 hr0 (fun ha31 => ?_)
      clear hr0
      refine lv_lload_n hx hb dX11_letters_34 rfl (lv_at hl 2 rfl) ?_
      refine lv_iload_n hx hb dX11_letters_35 rfl (lv_at hl 0 rfl) ?_
      refine jcV_v (k := a31) (As := [.long x1, .int q1]) (rest := []) C0 w (c_X5_append hG ha31 h) (cwV 2 hts gX11_letters_X5_append rfl rfl rfl (by decide +kernel) ⟨Nat.le_of_ble_eq_true rfl, Nat.le_of_ble_eq_true rfl⟩) ha31 (rfl : vwCl[5]? = some (RX5, TX5, 5)) (by decide) rfl hl.1 rfl (Nat.le_of_ble_eq_true rfl) dX11_letters_36 (fun i36 j36 H locs h w => ?_) ⟨Nat.zero_le _, Nat.zero_le _⟩
      refine lv_aload_n hx hb dX11_letters_39 rfl (lv_at hl 1 rfl) ?_
      obtain ⟨a40, hr0, h⟩ := h
      refine jgr (f := 0) hx hb hts hown hst w hG hx0 hiX11 (rfl : vwCl[10]? = some (RX11, TX11, 15)) (hts (.fieldLink RX11 10 "FootByGate" "page" "LFootByGate$Page;") (by decide +kernel)) ⟨by decide, by decide, rfl⟩ (rfl : jrt 10 0 = 5) dX11_letters_40 hr0 (fun ha40 => ?_)
      clear hr0
      refine jgi (f := 1) hx hb hts hown hst w ha40 hiX5 (rfl : vwCl[5]? = some (RX5, TX5, 5)) (hts (.fieldLink RX11 76 "FootByGate$Page" "length" "I") (by decide +kernel)) ⟨by decide, by decide, rfl⟩ dX11_letters_43 ?_
      exact jret_i hx hb hr hlk hst w h dX11_letters_46
    · replace h := h.2 hc
      clear hc
      refine lv_bipush (v := (-104 : Int32)) hx hb dX11_letters_27 (by decide) ?_
      exact jret_i hx hb hr hlk hst w h dX11_letters_29
  · replace h := h.2 hc
    clear hc
    refine lv_bipush (v := (-102 : Int32)) hx hb dX11_letters_10 (by decide) ?_
    exact jret_i hx hb hr hlk hst w h dX11_letters_12
end S_X11_letters
section S_X11_may
def J_X11_may_L16 (len : Nat → Nat) (r : jR) (Q : Int32 → jI → jL → Prop) (i : jI) (j : jL) : Prop := Q (-101 : Int32) i j
def J_X11_may (len : Nat → Nat) (r : jR) (Q : Int32 → jI → jL → Prop) (i : jI) (j : jL) (x0 : Nat) (x1 : Int32) (x2 : Int32) : Prop := J_X11_isWalker len r (fun (q2 : Int32) (i2 : jI) (j2 : jL) => ((q2 = 0) → (J_X11_may_L16 len r Q i2 j2 )) ∧ ((¬ q2 = 0) → (J_X11_isStreet len r (fun (q10 : Int32) (i10 : jI) (j10 : jL) => ((¬ q10 = 0) → (∃ a20, r x0 2 = some a20 ∧ (vp_in x1 (len a20) ∧ ∃ a24, r a20 x1.toNatClampNeg = some a24 ∧ (∃ a27, r x0 1 = some a27 ∧ (J_X7_placeOf len r (fun (q35 : Int32) (i35 : jI) (j35 : jL) => J_X8_isAt len r (fun (q38 : Int32) (i38 : jI) (j38 : jL) => ((¬ q38 = 0) → (J_X11_standBehind len r (fun (q49 : Int32) (i49 : jI) (j49 : jL) => ((¬ q49 = (-1 : Int32)) → (Q (1 : Int32) i49 j49)) ∧ ((q49 = (-1 : Int32)) → (Q (0 : Int32) i49 j49))) i38 j38 x0 a24 x2)) ∧ ((q38 = 0) → (Q (-1 : Int32) i38 j38))) i35 j35 a27 x2 q35) i10 j10 (i10 a24 1)))))) ∧ ((q10 = 0) → (J_X11_may_L16 len r Q i10 j10 ))) i2 j2 x0 x2))) i j x0 x1
abbrev rm_X11_may : Room := { frames := 3, cells := 0, slots := 0, locals := 71 }
variable {p : Program} {l : Launch} {e : Env} {s : State} {m : MethodId} {args : Array Value} {below : List Frame} {meth : Method} {c : Code} {b tU n : Nat} {cy : Nat → ClassId} {D : va_G} {K len : Nat → Nat} {r : jR} {Q : Int32 → jI → jL → Prop}
theorem hiX11_X11_may : ∀ w ∈ u_ws RX11 TX11 15, w ∈ wsX11_may := by decide +kernel
theorem hiX9_X11_may : ∀ w ∈ u_ws RX9 TX9 3, w ∈ wsX11_may := by decide +kernel
set_option maxHeartbeats 4000000 in
set_option maxRecDepth 100000 in
theorem w_X11_may_L16 (C0 : jCx p s m args c cX11_may 4 wsX11_may RX11 b cy D tU n K r) (hr : meth.sig.returnType = some .int) (hlk : meth.locks = false) {H : Heap} {locs : List Loc} {ls : Array Slot} {i : jI} {j : jL}  (w : jDy b cy D n K len r i j s H locs) (hl : lv_has ls 4 []) (h : J_X11_may_L16 len r Q i j) : W p l e rm_X11_may s m args below meth c H locs 0 0 (MQ below (jQi b cy D tU n K len r Q) args s 0 0 (jA b)) (F0 m 16 ls []) := by
  obtain ⟨hx, hb, hml, hown, hts, hst, hG⟩ := id C0
  have hiX11 : ∀ w ∈ u_ws RX11 TX11 15, w ∈ wsX11_may := hiX11_X11_may
  have hiX9 : ∀ w ∈ u_ws RX9 TX9 3, w ∈ wsX11_may := hiX9_X11_may
  rw [J_X11_may_L16] at h
  refine lv_bipush (v := (-101 : Int32)) hx hb dX11_may_16 (by decide) ?_
  exact jret_i hx hb hr hlk hst w h dX11_may_18
set_option maxHeartbeats 4000000 in
set_option maxRecDepth 100000 in
theorem c_X11_may (hG : jG n K r) {i : jI} {j : jL} {x0 : Nat} {x1 : Int32} {x2 : Int32} (hx0 : x0 < n ∧ K x0 = 10) (h : J_X11_may len r Q i j x0 x1 x2) : Met l yX11_may wsX11_may rm_X11_may (va_Pc [.ref (b + x0), .int x1, .int x2] (jPre b cy D tU n K len r i j)) (jQi b cy D tU n K len r Q) 0 0 (jA b) := by
  refine Met.ofW (cc := cX11_may) (maxL := 4) (ret := (some .int)) (by decide) rfl ?_
  intro p e s m args below meth c s₁ B hml hv
  obtain ⟨rfl, hv⟩ := hv
  have C0 : jCx p s m _ c cX11_may 4 wsX11_may RX11 b cy D tU n K r := ⟨B.exec, B.bytes, hml, findClass_of_methodNamed B.named, atoms_spec (ws := wsX11_may) B.pre, hv.2.2, hG⟩
  have hr := B.returns
  have hlk := B.notSynchronized
  obtain ⟨hx, hb, hml, hown, hts, hst, hG⟩ := id C0
  have hiX11 : ∀ w ∈ u_ws RX11 TX11 15, w ∈ wsX11_may := hiX11_X11_may
  have hiX9 : ∀ w ∈ u_ws RX9 TX9 3, w ∈ wsX11_may := hiX9_X11_may
  have w := jDy.start hv
  have hl := lv_entry ([.ref (b + x0), .int x1, .int x2]) (n := 4) (Nat.le_of_ble_eq_true rfl)
  rw [lg_entry_eq]
  generalize (lg_sl ([.ref (b + x0), .int x1, .int x2]) ++ List.replicate (4 - (lg_sl ([.ref (b + x0), .int x1, .int x2])).length) Slot.unset).toArray = ls at hl ⊢
  replace hl : lv_has ls 4 [(0, .ref (b + x0)), (1, .int x1), (2, .int x2)] := hl
  show W p l e rm_X11_may s m _ below meth c s.heap [] 0 0 _ (F0 m 0 ls [])
  rw [J_X11_may] at h
  refine lv_aload_n hx hb dX11_may_0 rfl (lv_at hl 0 rfl) ?_
  refine lv_iload_n hx hb dX11_may_1 rfl (lv_at hl 1 rfl) ?_
  refine jcV_i (k := x0) (As := [.int x1]) (rest := []) C0 w (c_X11_isWalker hG hx0 h) (cwV 1 hts gX11_may_X11_isWalker rfl rfl rfl (by decide +kernel) ⟨Nat.le_of_ble_eq_true rfl, Nat.le_of_ble_eq_true rfl⟩) hx0 (rfl : vwCl[10]? = some (RX11, TX11, 15)) (by decide) rfl hl.1 rfl (Nat.le_of_ble_eq_true rfl) dX11_may_2 (fun q2 i2 j2 H locs h w => ?_) ⟨Nat.zero_le _, Nat.zero_le _⟩
  refine lv_if_eq (tgt := 16) hx hb dX11_may_5 (by decide) (fun hc => ?_) (fun hc => ?_)
  · replace h := h.1 hc
    clear hc
    exact w_X11_may_L16 C0 hr hlk w (lv_sub hl [] rfl) h
  · replace h := h.2 hc
    clear hc
    refine lv_aload_n hx hb dX11_may_8 rfl (lv_at hl 0 rfl) ?_
    refine lv_iload_n hx hb dX11_may_9 rfl (lv_at hl 2 rfl) ?_
    refine jcV_i (k := x0) (As := [.int x2]) (rest := []) C0 w (c_X11_isStreet hG hx0 h) (cwV 1 hts gX11_may_X11_isStreet rfl rfl rfl (by decide +kernel) ⟨Nat.le_of_ble_eq_true rfl, Nat.le_of_ble_eq_true rfl⟩) hx0 (rfl : vwCl[10]? = some (RX11, TX11, 15)) (by decide) rfl hl.1 rfl (Nat.le_of_ble_eq_true rfl) dX11_may_10 (fun q10 i10 j10 H locs h w => ?_) ⟨Nat.zero_le _, Nat.zero_le _⟩
    refine lv_if_ne (tgt := 19) hx hb dX11_may_13 (by decide) (fun hc => ?_) (fun hc => ?_)
    · replace h := h.1 hc
      clear hc
      refine lv_aload_n hx hb dX11_may_19 rfl (lv_at hl 0 rfl) ?_
      obtain ⟨a20, hr0, h⟩ := h
      refine jgr (f := 2) hx hb hts hown hst w hG hx0 hiX11 (rfl : vwCl[10]? = some (RX11, TX11, 15)) (hts (.fieldLink RX11 25 "FootByGate" "walkers" "[LFootByGate$Walker;") (by decide +kernel)) ⟨by decide, by decide, rfl⟩ (rfl : jrt 10 2 = 16) dX11_may_20 hr0 (fun ha20 => ?_)
      clear hr0
      refine lv_iload_n hx hb dX11_may_23 rfl (lv_at hl 1 rfl) ?_
      obtain ⟨hn, h⟩ := h
      obtain ⟨a24, hr0, h⟩ := h
      refine jaar hx hb hst w hG ha20 hn dX11_may_24 hr0 (fun ha24 => ?_)
      clear hn hr0
      refine lv_astore_n (lv' := [(3, .ref (b + a24)), (0, .ref (b + x0)), (1, .int x1), (2, .int x2)]) hx hb dX11_may_25 rfl hl (by decide) rfl (fun ls hl => ?_)
      refine lv_aload_n hx hb dX11_may_26 rfl (lv_at hl 1 rfl) ?_
      obtain ⟨a27, hr0, h⟩ := h
      refine jgr (f := 1) hx hb hts hown hst w hG hx0 hiX11 (rfl : vwCl[10]? = some (RX11, TX11, 15)) (hts (.fieldLink RX11 19 "FootByGate" "map" "LFootByGate$Town;") (by decide +kernel)) ⟨by decide, by decide, rfl⟩ (rfl : jrt 10 1 = 7) dX11_may_27 hr0 (fun ha27 => ?_)
      clear hr0
      refine lv_iload_n hx hb dX11_may_30 rfl (lv_at hl 3 rfl) ?_
      refine lv_aload_n hx hb dX11_may_31 rfl (lv_at hl 0 rfl) ?_
      refine jgi (f := 1) hx hb hts hown hst w ha24 hiX9 (rfl : vwCl[8]? = some (RX9, TX9, 3)) (hts (.fieldLink RX11 146 "FootByGate$Walker" "stand" "I") (by decide +kernel)) ⟨by decide, by decide, rfl⟩ dX11_may_32 ?_
      refine jcS_i (As := [.int (i10 a24 1)]) (rest := [.int x2, .ref (b + a27)]) C0 w (c_X7_placeOf hG h) (va_cwS 1 hts gX11_may_X7_placeOf rfl rfl rfl (by decide +kernel) ⟨Nat.le_of_ble_eq_true rfl, Nat.le_of_ble_eq_true rfl⟩) rfl hl.1 rfl (Nat.le_of_ble_eq_true rfl) dX11_may_35 (fun q35 i35 j35 H locs h w => ?_) ⟨Nat.zero_le _, Nat.zero_le _⟩
      refine jcV_i (k := a27) (As := [.int x2, .int q35]) (rest := []) C0 w (c_X8_isAt hG ha27 h) (cwV 2 hts gX11_may_X8_isAt rfl rfl rfl (by decide +kernel) ⟨Nat.le_of_ble_eq_true rfl, Nat.le_of_ble_eq_true rfl⟩) ha27 (rfl : vwCl[7]? = some (RX8, TX8, 8)) (by decide) rfl hl.1 rfl (Nat.le_of_ble_eq_true rfl) dX11_may_38 (fun q38 i38 j38 H locs h w => ?_) ⟨Nat.zero_le _, Nat.zero_le _⟩
      refine lv_if_ne (tgt := 46) hx hb dX11_may_41 (by decide) (fun hc => ?_) (fun hc => ?_)
      · replace h := h.1 hc
        clear hc
        refine lv_aload_n hx hb dX11_may_46 rfl (lv_at hl 1 rfl) ?_
        refine lv_aload_n hx hb dX11_may_47 rfl (lv_at hl 0 rfl) ?_
        refine lv_iload_n hx hb dX11_may_48 rfl (lv_at hl 3 rfl) ?_
        refine jcV_i (k := x0) (As := [.ref (b + a24), .int x2]) (rest := []) C0 w (c_X11_standBehind hG hx0 ha24 h) (cwV 2 hts gX11_may_X11_standBehind rfl rfl rfl (by decide +kernel) ⟨Nat.le_of_ble_eq_true rfl, Nat.le_of_ble_eq_true rfl⟩) hx0 (rfl : vwCl[10]? = some (RX11, TX11, 15)) (by decide) rfl hl.1 rfl (Nat.le_of_ble_eq_true rfl) dX11_may_49 (fun q49 i49 j49 H locs h w => ?_) ⟨Nat.zero_le _, Nat.zero_le _⟩
        refine lv_iconst (v := (-1 : Int32)) hx hb dX11_may_52 (by decide) ?_
        refine lv_icmp_ne (tgt := 60) hx hb dX11_may_53 (by decide) (fun hc => ?_) (fun hc => ?_)
        · replace h := h.1 hc
          clear hc
          refine lv_iconst (v := (1 : Int32)) hx hb dX11_may_60 (by decide) ?_
          exact jret_i hx hb hr hlk hst w h dX11_may_61
        · replace h := h.2 hc
          clear hc
          refine lv_iconst (v := (0 : Int32)) hx hb dX11_may_56 (by decide) ?_
          refine lv_goto (tgt := 61) hx hb dX11_may_57 (by decide) ?_
          exact jret_i hx hb hr hlk hst w h dX11_may_61
      · replace h := h.2 hc
        clear hc
        refine lv_iconst (v := (-1 : Int32)) hx hb dX11_may_44 (by decide) ?_
        exact jret_i hx hb hr hlk hst w h dX11_may_45
    · replace h := h.2 hc
      clear hc
      exact w_X11_may_L16 C0 hr hlk w (lv_sub hl [] rfl) h
end S_X11_may
section S_X11_nextSeed
def J_X11_nextSeed (len : Nat → Nat) (r : jR) (Q : Int32 → jI → jL → Prop) (i : jI) (j : jL) (x0 : Int32) : Prop := Q (((((1103515245 : Int64) * x0.toInt64) + (12345 : Int64)) &&& (2147483647 : Int64)).toInt32) i j
abbrev rm_X11_nextSeed : Room := { frames := 0, cells := 0, slots := 0, locals := 0 }
variable {p : Program} {l : Launch} {e : Env} {s : State} {m : MethodId} {args : Array Value} {below : List Frame} {meth : Method} {c : Code} {b tU n : Nat} {cy : Nat → ClassId} {D : va_G} {K len : Nat → Nat} {r : jR} {Q : Int32 → jI → jL → Prop}
set_option maxHeartbeats 4000000 in
set_option maxRecDepth 100000 in
theorem c_X11_nextSeed (hG : jG n K r) {i : jI} {j : jL} {x0 : Int32} (h : J_X11_nextSeed len r Q i j x0) : Met l yX11_nextSeed wsX11_nextSeed rm_X11_nextSeed (va_Pc [.int x0] (jPre b cy D tU n K len r i j)) (jQi b cy D tU n K len r Q) 0 0 (jA b) := by
  refine Met.ofW (cc := cX11_nextSeed) (maxL := 1) (ret := (some .int)) (by decide) rfl ?_
  intro p e s m args below meth c s₁ B hml hv
  obtain ⟨rfl, hv⟩ := hv
  have C0 : jCx p s m _ c cX11_nextSeed 1 wsX11_nextSeed RX11 b cy D tU n K r := ⟨B.exec, B.bytes, hml, findClass_of_methodNamed B.named, atoms_spec (ws := wsX11_nextSeed) B.pre, hv.2.2, hG⟩
  have hr := B.returns
  have hlk := B.notSynchronized
  obtain ⟨hx, hb, hml, hown, hts, hst, hG⟩ := id C0
  have w := jDy.start hv
  have hl := lv_entry ([.int x0]) (n := 1) (Nat.le_of_ble_eq_true rfl)
  rw [lg_entry_eq]
  generalize (lg_sl ([.int x0]) ++ List.replicate (1 - (lg_sl ([.int x0])).length) Slot.unset).toArray = ls at hl ⊢
  replace hl : lv_has ls 1 [(0, .int x0)] := hl
  show W p l e rm_X11_nextSeed s m _ below meth c s.heap [] 0 0 _ (F0 m 0 ls [])
  rw [J_X11_nextSeed] at h
  refine lv_ldc2 hx hb hown (hts (.constantLong RX11 385 (1103515245)) (by decide +kernel)) dX11_nextSeed_0 ?_
  refine lv_iload_n hx hb dX11_nextSeed_3 rfl (lv_at hl 0 rfl) ?_
  refine lv_i2l hx hb dX11_nextSeed_4 rfl ?_
  refine lv_lmul hx hb dX11_nextSeed_5 ?_
  refine lv_ldc2 hx hb hown (hts (.constantLong RX11 387 (12345)) (by decide +kernel)) dX11_nextSeed_6 ?_
  refine lv_ladd hx hb dX11_nextSeed_9 ?_
  refine lv_ldc2 hx hb hown (hts (.constantLong RX11 389 (2147483647)) (by decide +kernel)) dX11_nextSeed_10 ?_
  refine lv_land hx hb dX11_nextSeed_13 ?_
  refine lv_l2i hx hb dX11_nextSeed_14 rfl ?_
  exact jret_i hx hb hr hlk hst w h dX11_nextSeed_15
end S_X11_nextSeed
section S_X11_printNumber
def J_X11_printNumber (len : Nat → Nat) (r : jR) (Q : Int32 → jI → jL → Prop) (i : jI) (j : jL) (x0 : Int32) (x1 : Int32) (x2 : Int32) : Prop := Q (((x0 * (4 : Int32)) + (x1 * (2 : Int32))) + x2) i j
abbrev rm_X11_printNumber : Room := { frames := 0, cells := 0, slots := 0, locals := 0 }
variable {p : Program} {l : Launch} {e : Env} {s : State} {m : MethodId} {args : Array Value} {below : List Frame} {meth : Method} {c : Code} {b tU n : Nat} {cy : Nat → ClassId} {D : va_G} {K len : Nat → Nat} {r : jR} {Q : Int32 → jI → jL → Prop}
set_option maxHeartbeats 4000000 in
set_option maxRecDepth 100000 in
theorem c_X11_printNumber (hG : jG n K r) {i : jI} {j : jL} {x0 : Int32} {x1 : Int32} {x2 : Int32} (h : J_X11_printNumber len r Q i j x0 x1 x2) : Met l yX11_printNumber wsX11_printNumber rm_X11_printNumber (va_Pc [.int x0, .int x1, .int x2] (jPre b cy D tU n K len r i j)) (jQi b cy D tU n K len r Q) 0 0 (jA b) := by
  refine Met.ofW (cc := cX11_printNumber) (maxL := 3) (ret := (some .int)) (by decide) rfl ?_
  intro p e s m args below meth c s₁ B hml hv
  obtain ⟨rfl, hv⟩ := hv
  have C0 : jCx p s m _ c cX11_printNumber 3 wsX11_printNumber RX11 b cy D tU n K r := ⟨B.exec, B.bytes, hml, findClass_of_methodNamed B.named, atoms_spec (ws := wsX11_printNumber) B.pre, hv.2.2, hG⟩
  have hr := B.returns
  have hlk := B.notSynchronized
  obtain ⟨hx, hb, hml, hown, hts, hst, hG⟩ := id C0
  have w := jDy.start hv
  have hl := lv_entry ([.int x0, .int x1, .int x2]) (n := 3) (Nat.le_of_ble_eq_true rfl)
  rw [lg_entry_eq]
  generalize (lg_sl ([.int x0, .int x1, .int x2]) ++ List.replicate (3 - (lg_sl ([.int x0, .int x1, .int x2])).length) Slot.unset).toArray = ls at hl ⊢
  replace hl : lv_has ls 3 [(0, .int x0), (1, .int x1), (2, .int x2)] := hl
  show W p l e rm_X11_printNumber s m _ below meth c s.heap [] 0 0 _ (F0 m 0 ls [])
  rw [J_X11_printNumber] at h
  refine lv_iload_n hx hb dX11_printNumber_0 rfl (lv_at hl 0 rfl) ?_
  refine lv_iconst (v := (4 : Int32)) hx hb dX11_printNumber_1 (by decide) ?_
  refine lv_imul hx hb dX11_printNumber_2 ?_
  refine lv_iload_n hx hb dX11_printNumber_3 rfl (lv_at hl 1 rfl) ?_
  refine lv_iconst (v := (2 : Int32)) hx hb dX11_printNumber_4 (by decide) ?_
  refine lv_imul hx hb dX11_printNumber_5 ?_
  refine lv_iadd hx hb dX11_printNumber_6 ?_
  refine lv_iload_n hx hb dX11_printNumber_7 rfl (lv_at hl 2 rfl) ?_
  refine lv_iadd hx hb dX11_printNumber_8 ?_
  exact jret_i hx hb hr hlk hst w h dX11_printNumber_9
end S_X11_printNumber
section S_X11_print
def J_X11_print_L15 (len : Nat → Nat) (r : jR) (Q : Int32 → jI → jL → Prop) (i : jI) (j : jL) : Prop := Q (-101 : Int32) i j
def J_X11_print_L34 (len : Nat → Nat) (r : jR) (Q : Int32 → jI → jL → Prop) (i : jI) (j : jL) : Prop := Q (-102 : Int32) i j
def J_X11_print (len : Nat → Nat) (r : jR) (Q : Int32 → jI → jL → Prop) (i : jI) (j : jL) (x0 : Nat) (x1 : Int32) (x2 : Int32) (x3 : Int32) : Prop := ((x1 < 0) → (J_X11_print_L15 len r Q i j )) ∧ ((¬ x1 < 0) → (∃ a6, r x0 1 = some a6 ∧ (((x1 < (i a6 1)) → (J_X11_isWithin len r (fun (q20 : Int32) (i20 : jI) (j20 : jL) => ((q20 = 0) → (J_X11_print_L34 len r Q i20 j20 )) ∧ ((¬ q20 = 0) → (J_X11_isWithin len r (fun (q28 : Int32) (i28 : jI) (j28 : jL) => ((¬ q28 = 0) → ((((i28 x0 5) < (6 : Int32)) → (∃ a50, r x0 4 = some a50 ∧ (J_X11_printNumber len r (fun (q60 : Int32) (i60 : jI) (j60 : jL) => vp_in (i28 x0 5) (len a50) ∧ ∀ i63 : jI, i63 = ju i60 a50 (i28 x0 5).toNatClampNeg q60 → (∀ i71 : jI, i71 = ju i63 x0 5 ((i63 x0 5) + (1 : Int32)) → (Q (i71 x0 5) i71 j60))) i28 j28 x1 x2 x3))) ∧ ((¬ (i28 x0 5) < (6 : Int32)) → (Q (-104 : Int32) i28 j28)))) ∧ ((q28 = 0) → (J_X11_print_L34 len r Q i28 j28 ))) i20 j20 x3 (1 : Int32)))) i j x2 (1 : Int32))) ∧ ((¬ x1 < (i a6 1)) → (J_X11_print_L15 len r Q i j )))))
abbrev rm_X11_print : Room := { frames := 1, cells := 0, slots := 0, locals := 22 }
variable {p : Program} {l : Launch} {e : Env} {s : State} {m : MethodId} {args : Array Value} {below : List Frame} {meth : Method} {c : Code} {b tU n : Nat} {cy : Nat → ClassId} {D : va_G} {K len : Nat → Nat} {r : jR} {Q : Int32 → jI → jL → Prop}
theorem hiX11_X11_print : ∀ w ∈ u_ws RX11 TX11 15, w ∈ wsX11_print := by decide +kernel
theorem hiX8_X11_print : ∀ w ∈ u_ws RX8 TX8 8, w ∈ wsX11_print := by decide +kernel
set_option maxHeartbeats 4000000 in
set_option maxRecDepth 100000 in
theorem w_X11_print_L15 (C0 : jCx p s m args c cX11_print 4 wsX11_print RX11 b cy D tU n K r) (hr : meth.sig.returnType = some .int) (hlk : meth.locks = false) {H : Heap} {locs : List Loc} {ls : Array Slot} {i : jI} {j : jL}  (w : jDy b cy D n K len r i j s H locs) (hl : lv_has ls 4 []) (h : J_X11_print_L15 len r Q i j) : W p l e rm_X11_print s m args below meth c H locs 0 0 (MQ below (jQi b cy D tU n K len r Q) args s 0 0 (jA b)) (F0 m 15 ls []) := by
  obtain ⟨hx, hb, hml, hown, hts, hst, hG⟩ := id C0
  have hiX11 : ∀ w ∈ u_ws RX11 TX11 15, w ∈ wsX11_print := hiX11_X11_print
  have hiX8 : ∀ w ∈ u_ws RX8 TX8 8, w ∈ wsX11_print := hiX8_X11_print
  rw [J_X11_print_L15] at h
  refine lv_bipush (v := (-101 : Int32)) hx hb dX11_print_15 (by decide) ?_
  exact jret_i hx hb hr hlk hst w h dX11_print_17
set_option maxHeartbeats 4000000 in
set_option maxRecDepth 100000 in
theorem w_X11_print_L34 (C0 : jCx p s m args c cX11_print 4 wsX11_print RX11 b cy D tU n K r) (hr : meth.sig.returnType = some .int) (hlk : meth.locks = false) {H : Heap} {locs : List Loc} {ls : Array Slot} {i : jI} {j : jL}  (w : jDy b cy D n K len r i j s H locs) (hl : lv_has ls 4 []) (h : J_X11_print_L34 len r Q i j) : W p l e rm_X11_print s m args below meth c H locs 0 0 (MQ below (jQi b cy D tU n K len r Q) args s 0 0 (jA b)) (F0 m 34 ls []) := by
  obtain ⟨hx, hb, hml, hown, hts, hst, hG⟩ := id C0
  have hiX11 : ∀ w ∈ u_ws RX11 TX11 15, w ∈ wsX11_print := hiX11_X11_print
  have hiX8 : ∀ w ∈ u_ws RX8 TX8 8, w ∈ wsX11_print := hiX8_X11_print
  rw [J_X11_print_L34] at h
  refine lv_bipush (v := (-102 : Int32)) hx hb dX11_print_34 (by decide) ?_
  exact jret_i hx hb hr hlk hst w h dX11_print_36
set_option maxHeartbeats 4000000 in
set_option maxRecDepth 100000 in
theorem c_X11_print (hG : jG n K r) {i : jI} {j : jL} {x0 : Nat} {x1 : Int32} {x2 : Int32} {x3 : Int32} (hx0 : x0 < n ∧ K x0 = 10) (h : J_X11_print len r Q i j x0 x1 x2 x3) : Met l yX11_print wsX11_print rm_X11_print (va_Pc [.ref (b + x0), .int x1, .int x2, .int x3] (jPre b cy D tU n K len r i j)) (jQi b cy D tU n K len r Q) 0 0 (jA b) := by
  refine Met.ofW (cc := cX11_print) (maxL := 4) (ret := (some .int)) (by decide) rfl ?_
  intro p e s m args below meth c s₁ B hml hv
  obtain ⟨rfl, hv⟩ := hv
  have C0 : jCx p s m _ c cX11_print 4 wsX11_print RX11 b cy D tU n K r := ⟨B.exec, B.bytes, hml, findClass_of_methodNamed B.named, atoms_spec (ws := wsX11_print) B.pre, hv.2.2, hG⟩
  have hr := B.returns
  have hlk := B.notSynchronized
  obtain ⟨hx, hb, hml, hown, hts, hst, hG⟩ := id C0
  have hiX11 : ∀ w ∈ u_ws RX11 TX11 15, w ∈ wsX11_print := hiX11_X11_print
  have hiX8 : ∀ w ∈ u_ws RX8 TX8 8, w ∈ wsX11_print := hiX8_X11_print
  have w := jDy.start hv
  have hl := lv_entry ([.ref (b + x0), .int x1, .int x2, .int x3]) (n := 4) (Nat.le_of_ble_eq_true rfl)
  rw [lg_entry_eq]
  generalize (lg_sl ([.ref (b + x0), .int x1, .int x2, .int x3]) ++ List.replicate (4 - (lg_sl ([.ref (b + x0), .int x1, .int x2, .int x3])).length) Slot.unset).toArray = ls at hl ⊢
  replace hl : lv_has ls 4 [(0, .ref (b + x0)), (1, .int x1), (2, .int x2), (3, .int x3)] := hl
  show W p l e rm_X11_print s m _ below meth c s.heap [] 0 0 _ (F0 m 0 ls [])
  rw [J_X11_print] at h
  refine lv_iload_n hx hb dX11_print_0 rfl (lv_at hl 1 rfl) ?_
  refine lv_if_lt (tgt := 15) hx hb dX11_print_1 (by decide) (fun hc => ?_) (fun hc => ?_)
  · replace h := h.1 hc
    clear hc
    exact w_X11_print_L15 C0 hr hlk w (lv_sub hl [] rfl) h
  · replace h := h.2 hc
    clear hc
    refine lv_iload_n hx hb dX11_print_4 rfl (lv_at hl 1 rfl) ?_
    refine lv_aload_n hx hb dX11_print_5 rfl (lv_at hl 0 rfl) ?_
    obtain ⟨a6, hr0, h⟩ := h
    refine jgr (f := 1) hx hb hts hown hst w hG hx0 hiX11 (rfl : vwCl[10]? = some (RX11, TX11, 15)) (hts (.fieldLink RX11 19 "FootByGate" "map" "LFootByGate$Town;") (by decide +kernel)) ⟨by decide, by decide, rfl⟩ (rfl : jrt 10 1 = 7) dX11_print_6 hr0 (fun ha6 => ?_)
    clear hr0
    refine jgi (f := 1) hx hb hts hown hst w ha6 hiX8 (rfl : vwCl[7]? = some (RX8, TX8, 8)) (hts (.fieldLink RX11 236 "FootByGate$Town" "gates" "I") (by decide +kernel)) ⟨by decide, by decide, rfl⟩ dX11_print_9 ?_
    refine lv_icmp_lt (tgt := 18) hx hb dX11_print_12 (by decide) (fun hc => ?_) (fun hc => ?_)
    · replace h := h.1 hc
      clear hc
      refine lv_iload_n hx hb dX11_print_18 rfl (lv_at hl 2 rfl) ?_
      refine lv_iconst (v := (1 : Int32)) hx hb dX11_print_19 (by decide) ?_
      refine jcS_i (As := [.int x2, .int (1 : Int32)]) (rest := []) C0 w (c_X11_isWithin hG h) (va_cwS 2 hts gX11_print_X11_isWithin rfl rfl rfl (by decide +kernel) ⟨Nat.le_of_ble_eq_true rfl, Nat.le_of_ble_eq_true rfl⟩) rfl hl.1 rfl (Nat.le_of_ble_eq_true rfl) dX11_print_20 (fun q20 i20 j20 H locs h w => ?_) ⟨Nat.zero_le _, Nat.zero_le _⟩
      refine lv_if_eq (tgt := 34) hx hb dX11_print_23 (by decide) (fun hc => ?_) (fun hc => ?_)
      · replace h := h.1 hc
        clear hc
        exact w_X11_print_L34 C0 hr hlk w (lv_sub hl [] rfl) h
      · replace h := h.2 hc
        clear hc
        refine lv_iload_n hx hb dX11_print_26 rfl (lv_at hl 3 rfl) ?_
        refine lv_iconst (v := (1 : Int32)) hx hb dX11_print_27 (by decide) ?_
        refine jcS_i (As := [.int x3, .int (1 : Int32)]) (rest := []) C0 w (c_X11_isWithin hG h) (va_cwS 2 hts gX11_print_X11_isWithin rfl rfl rfl (by decide +kernel) ⟨Nat.le_of_ble_eq_true rfl, Nat.le_of_ble_eq_true rfl⟩) rfl hl.1 rfl (Nat.le_of_ble_eq_true rfl) dX11_print_28 (fun q28 i28 j28 H locs h w => ?_) ⟨Nat.zero_le _, Nat.zero_le _⟩
        refine lv_if_ne (tgt := 37) hx hb dX11_print_31 (by decide) (fun hc => ?_) (fun hc => ?_)
        · replace h := h.1 hc
          clear hc
          refine lv_aload_n hx hb dX11_print_37 rfl (lv_at hl 0 rfl) ?_
          refine jgi (f := 5) hx hb hts hown hst w hx0 hiX11 (rfl : vwCl[10]? = some (RX11, TX11, 15)) (hts (.fieldLink RX11 99 "FootByGate" "printCount" "I") (by decide +kernel)) ⟨by decide, by decide, rfl⟩ dX11_print_38 ?_
          refine lv_bipush (v := (6 : Int32)) hx hb dX11_print_41 (by decide) ?_
          refine lv_icmp_lt (tgt := 49) hx hb dX11_print_43 (by decide) (fun hc => ?_) (fun hc => ?_)
          · replace h := h.1 hc
            clear hc
            refine lv_aload_n hx hb dX11_print_49 rfl (lv_at hl 0 rfl) ?_
            obtain ⟨a50, hr0, h⟩ := h
            refine jgr (f := 4) hx hb hts hown hst w hG hx0 hiX11 (rfl : vwCl[10]? = some (RX11, TX11, 15)) (hts (.fieldLink RX11 29 "FootByGate" "prints" "[I") (by decide +kernel)) ⟨by decide, by decide, rfl⟩ (rfl : jrt 10 4 = 13) dX11_print_50 hr0 (fun ha50 => ?_)
            clear hr0
            refine lv_aload_n hx hb dX11_print_53 rfl (lv_at hl 0 rfl) ?_
            refine jgi (f := 5) hx hb hts hown hst w hx0 hiX11 (rfl : vwCl[10]? = some (RX11, TX11, 15)) (hts (.fieldLink RX11 99 "FootByGate" "printCount" "I") (by decide +kernel)) ⟨by decide, by decide, rfl⟩ dX11_print_54 ?_
            refine lv_iload_n hx hb dX11_print_57 rfl (lv_at hl 1 rfl) ?_
            refine lv_iload_n hx hb dX11_print_58 rfl (lv_at hl 2 rfl) ?_
            refine lv_iload_n hx hb dX11_print_59 rfl (lv_at hl 3 rfl) ?_
            refine jcS_i (As := [.int x1, .int x2, .int x3]) (rest := [.int (i28 x0 5), .ref (b + a50)]) C0 w (c_X11_printNumber hG h) (va_cwS 3 hts gX11_print_X11_printNumber rfl rfl rfl (by decide +kernel) ⟨Nat.le_of_ble_eq_true rfl, Nat.le_of_ble_eq_true rfl⟩) rfl hl.1 rfl (Nat.le_of_ble_eq_true rfl) dX11_print_60 (fun q60 i60 j60 H locs h w => ?_) ⟨Nat.zero_le _, Nat.zero_le _⟩
            obtain ⟨hn, h⟩ := h
            refine jais hx hb hst w ha50 hn dX11_print_63 (fun i63 H locs he w => ?_)
            replace h := h i63 he
            clear he hn
            refine lv_aload_n hx hb dX11_print_64 rfl (lv_at hl 0 rfl) ?_
            refine lv_dup hx hb dX11_print_65 rfl ?_
            refine jgi (f := 5) hx hb hts hown hst w hx0 hiX11 (rfl : vwCl[10]? = some (RX11, TX11, 15)) (hts (.fieldLink RX11 99 "FootByGate" "printCount" "I") (by decide +kernel)) ⟨by decide, by decide, rfl⟩ dX11_print_66 ?_
            refine lv_iconst (v := (1 : Int32)) hx hb dX11_print_69 (by decide) ?_
            refine lv_iadd hx hb dX11_print_70 ?_
            refine jpi (f := 5) hx hb hts hown hst w hx0 hiX11 (rfl : vwCl[10]? = some (RX11, TX11, 15)) (hts (.fieldLink RX11 99 "FootByGate" "printCount" "I") (by decide +kernel)) ⟨by decide, by decide, rfl⟩ tyX11 tyX11_ok nmX11 rfl ⟨rfl, rfl⟩ dX11_print_71 (fun i71 H locs he w => ?_)
            replace h := h i71 he
            clear he
            refine lv_aload_n hx hb dX11_print_74 rfl (lv_at hl 0 rfl) ?_
            refine jgi (f := 5) hx hb hts hown hst w hx0 hiX11 (rfl : vwCl[10]? = some (RX11, TX11, 15)) (hts (.fieldLink RX11 99 "FootByGate" "printCount" "I") (by decide +kernel)) ⟨by decide, by decide, rfl⟩ dX11_print_75 ?_
            exact jret_i hx hb hr hlk hst w h dX11_print_78
          · replace h := h.2 hc
            clear hc
            refine lv_bipush (v := (-104 : Int32)) hx hb dX11_print_46 (by decide) ?_
            exact jret_i hx hb hr hlk hst w h dX11_print_48
        · replace h := h.2 hc
          clear hc
          exact w_X11_print_L34 C0 hr hlk w (lv_sub hl [] rfl) h
    · replace h := h.2 hc
      clear hc
      exact w_X11_print_L15 C0 hr hlk w (lv_sub hl [] rfl) h
end S_X11_print
section S_X11_repave
def J_X11_repave (len : Nat → Nat) (r : jR) (Q : Int32 → jI → jL → Prop) (i : jI) (j : jL) (x0 : Nat) (x1 : Int32) (x2 : Int32) : Prop := J_X11_isStreet len r (fun (q2 : Int32) (i2 : jI) (j2 : jL) => ((¬ q2 = 0) → (J_X11_isWithin len r (fun (q14 : Int32) (i14 : jI) (j14 : jL) => ((¬ q14 = 0) → (∃ a24, r x0 1 = some a24 ∧ (∃ a27, r a24 5 = some a27 ∧ (vp_in x1 (len a27) ∧ (∀ v32 : Int32, v32 = i14 a27 x1.toNatClampNeg → (∃ a34, r x0 1 = some a34 ∧ (∃ a37, r a34 5 = some a37 ∧ (vp_in x1 (len a37) ∧ ∀ i42 : jI, i42 = ju i14 a37 x1.toNatClampNeg x2 → (Q v32 i42 j14))))))))) ∧ ((q14 = 0) → (Q (-102 : Int32) i14 j14))) i2 j2 x2 (9 : Int32))) ∧ ((q2 = 0) → (Q (-101 : Int32) i2 j2))) i j x0 x1
abbrev rm_X11_repave : Room := { frames := 1, cells := 0, slots := 0, locals := 21 }
variable {p : Program} {l : Launch} {e : Env} {s : State} {m : MethodId} {args : Array Value} {below : List Frame} {meth : Method} {c : Code} {b tU n : Nat} {cy : Nat → ClassId} {D : va_G} {K len : Nat → Nat} {r : jR} {Q : Int32 → jI → jL → Prop}
theorem hiX11_X11_repave : ∀ w ∈ u_ws RX11 TX11 15, w ∈ wsX11_repave := by decide +kernel
theorem hiX8_X11_repave : ∀ w ∈ u_ws RX8 TX8 8, w ∈ wsX11_repave := by decide +kernel
set_option maxHeartbeats 4000000 in
set_option maxRecDepth 100000 in
theorem c_X11_repave (hG : jG n K r) {i : jI} {j : jL} {x0 : Nat} {x1 : Int32} {x2 : Int32} (hx0 : x0 < n ∧ K x0 = 10) (h : J_X11_repave len r Q i j x0 x1 x2) : Met l yX11_repave wsX11_repave rm_X11_repave (va_Pc [.ref (b + x0), .int x1, .int x2] (jPre b cy D tU n K len r i j)) (jQi b cy D tU n K len r Q) 0 0 (jA b) := by
  refine Met.ofW (cc := cX11_repave) (maxL := 4) (ret := (some .int)) (by decide) rfl ?_
  intro p e s m args below meth c s₁ B hml hv
  obtain ⟨rfl, hv⟩ := hv
  have C0 : jCx p s m _ c cX11_repave 4 wsX11_repave RX11 b cy D tU n K r := ⟨B.exec, B.bytes, hml, findClass_of_methodNamed B.named, atoms_spec (ws := wsX11_repave) B.pre, hv.2.2, hG⟩
  have hr := B.returns
  have hlk := B.notSynchronized
  obtain ⟨hx, hb, hml, hown, hts, hst, hG⟩ := id C0
  have hiX11 : ∀ w ∈ u_ws RX11 TX11 15, w ∈ wsX11_repave := hiX11_X11_repave
  have hiX8 : ∀ w ∈ u_ws RX8 TX8 8, w ∈ wsX11_repave := hiX8_X11_repave
  have w := jDy.start hv
  have hl := lv_entry ([.ref (b + x0), .int x1, .int x2]) (n := 4) (Nat.le_of_ble_eq_true rfl)
  rw [lg_entry_eq]
  generalize (lg_sl ([.ref (b + x0), .int x1, .int x2]) ++ List.replicate (4 - (lg_sl ([.ref (b + x0), .int x1, .int x2])).length) Slot.unset).toArray = ls at hl ⊢
  replace hl : lv_has ls 4 [(0, .ref (b + x0)), (1, .int x1), (2, .int x2)] := hl
  show W p l e rm_X11_repave s m _ below meth c s.heap [] 0 0 _ (F0 m 0 ls [])
  rw [J_X11_repave] at h
  refine lv_aload_n hx hb dX11_repave_0 rfl (lv_at hl 0 rfl) ?_
  refine lv_iload_n hx hb dX11_repave_1 rfl (lv_at hl 1 rfl) ?_
  refine jcV_i (k := x0) (As := [.int x1]) (rest := []) C0 w (c_X11_isStreet hG hx0 h) (cwV 1 hts gX11_repave_X11_isStreet rfl rfl rfl (by decide +kernel) ⟨Nat.le_of_ble_eq_true rfl, Nat.le_of_ble_eq_true rfl⟩) hx0 (rfl : vwCl[10]? = some (RX11, TX11, 15)) (by decide) rfl hl.1 rfl (Nat.le_of_ble_eq_true rfl) dX11_repave_2 (fun q2 i2 j2 H locs h w => ?_) ⟨Nat.zero_le _, Nat.zero_le _⟩
  refine lv_if_ne (tgt := 11) hx hb dX11_repave_5 (by decide) (fun hc => ?_) (fun hc => ?_)
  · replace h := h.1 hc
    clear hc
    refine lv_iload_n hx hb dX11_repave_11 rfl (lv_at hl 2 rfl) ?_
    refine lv_bipush (v := (9 : Int32)) hx hb dX11_repave_12 (by decide) ?_
    refine jcS_i (As := [.int x2, .int (9 : Int32)]) (rest := []) C0 w (c_X11_isWithin hG h) (va_cwS 2 hts gX11_repave_X11_isWithin rfl rfl rfl (by decide +kernel) ⟨Nat.le_of_ble_eq_true rfl, Nat.le_of_ble_eq_true rfl⟩) rfl hl.1 rfl (Nat.le_of_ble_eq_true rfl) dX11_repave_14 (fun q14 i14 j14 H locs h w => ?_) ⟨Nat.zero_le _, Nat.zero_le _⟩
    refine lv_if_ne (tgt := 23) hx hb dX11_repave_17 (by decide) (fun hc => ?_) (fun hc => ?_)
    · replace h := h.1 hc
      clear hc
      refine lv_aload_n hx hb dX11_repave_23 rfl (lv_at hl 0 rfl) ?_
      obtain ⟨a24, hr0, h⟩ := h
      refine jgr (f := 1) hx hb hts hown hst w hG hx0 hiX11 (rfl : vwCl[10]? = some (RX11, TX11, 15)) (hts (.fieldLink RX11 19 "FootByGate" "map" "LFootByGate$Town;") (by decide +kernel)) ⟨by decide, by decide, rfl⟩ (rfl : jrt 10 1 = 7) dX11_repave_24 hr0 (fun ha24 => ?_)
      clear hr0
      obtain ⟨a27, hr0, h⟩ := h
      refine jgr (f := 5) hx hb hts hown hst w hG ha24 hiX8 (rfl : vwCl[7]? = some (RX8, TX8, 8)) (hts (.fieldLink RX11 118 "FootByGate$Town" "paces" "[I") (by decide +kernel)) ⟨by decide, by decide, rfl⟩ (rfl : jrt 7 5 = 13) dX11_repave_27 hr0 (fun ha27 => ?_)
      clear hr0
      refine lv_iload_n hx hb dX11_repave_30 rfl (lv_at hl 1 rfl) ?_
      obtain ⟨hn, h⟩ := h
      refine jaid hx hb hst w ha27 hn dX11_repave_31 ?_
      clear hn
      refine lv_topi (fun v32 he => ?_)
      replace h := h v32 he
      clear he
      refine lv_istore_n (lv' := [(3, .int v32), (0, .ref (b + x0)), (1, .int x1), (2, .int x2)]) hx hb dX11_repave_32 rfl hl (by decide) rfl (fun ls hl => ?_)
      refine lv_aload_n hx hb dX11_repave_33 rfl (lv_at hl 1 rfl) ?_
      obtain ⟨a34, hr0, h⟩ := h
      refine jgr (f := 1) hx hb hts hown hst w hG hx0 hiX11 (rfl : vwCl[10]? = some (RX11, TX11, 15)) (hts (.fieldLink RX11 19 "FootByGate" "map" "LFootByGate$Town;") (by decide +kernel)) ⟨by decide, by decide, rfl⟩ (rfl : jrt 10 1 = 7) dX11_repave_34 hr0 (fun ha34 => ?_)
      clear hr0
      obtain ⟨a37, hr0, h⟩ := h
      refine jgr (f := 5) hx hb hts hown hst w hG ha34 hiX8 (rfl : vwCl[7]? = some (RX8, TX8, 8)) (hts (.fieldLink RX11 118 "FootByGate$Town" "paces" "[I") (by decide +kernel)) ⟨by decide, by decide, rfl⟩ (rfl : jrt 7 5 = 13) dX11_repave_37 hr0 (fun ha37 => ?_)
      clear hr0
      refine lv_iload_n hx hb dX11_repave_40 rfl (lv_at hl 2 rfl) ?_
      refine lv_iload_n hx hb dX11_repave_41 rfl (lv_at hl 3 rfl) ?_
      obtain ⟨hn, h⟩ := h
      refine jais hx hb hst w ha37 hn dX11_repave_42 (fun i42 H locs he w => ?_)
      replace h := h i42 he
      clear he hn
      refine lv_iload_n hx hb dX11_repave_43 rfl (lv_at hl 0 rfl) ?_
      exact jret_i hx hb hr hlk hst w h dX11_repave_44
    · replace h := h.2 hc
      clear hc
      refine lv_bipush (v := (-102 : Int32)) hx hb dX11_repave_20 (by decide) ?_
      exact jret_i hx hb hr hlk hst w h dX11_repave_22
  · replace h := h.2 hc
    clear hc
    refine lv_bipush (v := (-101 : Int32)) hx hb dX11_repave_8 (by decide) ?_
    exact jret_i hx hb hr hlk hst w h dX11_repave_10
end S_X11_repave
section S_X11_restore
def J_X11_restore (len : Nat → Nat) (r : jR) (Q : Int32 → jI → jL → Prop) (i : jI) (j : jL) (x0 : Nat) : Prop := ∃ a1, r x0 6 = some a1 ∧ (J_X4_isOf len r (fun (q8 : Int32) (i8 : jI) (j8 : jL) => ((¬ q8 = 0) → (∃ a19, r x0 6 = some a19 ∧ (∃ a23, r x0 2 = some a23 ∧ (J_X4_bringWalkers len r (fun (q26 : Int32) (i26 : jI) (j26 : jL) => ∀ i29 : jI, i29 = ju i26 x0 3 q26 → (∃ a34, r x0 6 = some a34 ∧ (∃ a38, r x0 4 = some a38 ∧ (J_X4_bringPrints len r (fun (q41 : Int32) (i41 : jI) (j41 : jL) => ∀ i44 : jI, i44 = ju i41 x0 5 q41 → (∃ a48, r x0 6 = some a48 ∧ (∃ a52, r x0 1 = some a52 ∧ (J_X4_bringPaces len r (fun (i55 : jI) (j55 : jL) => Q (i55 x0 3) i55 j55) i44 j41 a48 a52)))) i29 j26 a34 a38)))) i8 j8 a19 a23)))) ∧ ((q8 = 0) → (Q (-103 : Int32) i8 j8))) i j a1 (i x0 7))
abbrev rm_X11_restore : Room := { frames := 2, cells := 0, slots := 0, locals := 39 }
variable {p : Program} {l : Launch} {e : Env} {s : State} {m : MethodId} {args : Array Value} {below : List Frame} {meth : Method} {c : Code} {b tU n : Nat} {cy : Nat → ClassId} {D : va_G} {K len : Nat → Nat} {r : jR} {Q : Int32 → jI → jL → Prop}
theorem hiX11_X11_restore : ∀ w ∈ u_ws RX11 TX11 15, w ∈ wsX11_restore := by decide +kernel
set_option maxHeartbeats 4000000 in
set_option maxRecDepth 100000 in
theorem c_X11_restore (hG : jG n K r) {i : jI} {j : jL} {x0 : Nat} (hx0 : x0 < n ∧ K x0 = 10) (h : J_X11_restore len r Q i j x0) : Met l yX11_restore wsX11_restore rm_X11_restore (va_Pc [.ref (b + x0)] (jPre b cy D tU n K len r i j)) (jQi b cy D tU n K len r Q) 0 0 (jA b) := by
  refine Met.ofW (cc := cX11_restore) (maxL := 1) (ret := (some .int)) (by decide) rfl ?_
  intro p e s m args below meth c s₁ B hml hv
  obtain ⟨rfl, hv⟩ := hv
  have C0 : jCx p s m _ c cX11_restore 1 wsX11_restore RX11 b cy D tU n K r := ⟨B.exec, B.bytes, hml, findClass_of_methodNamed B.named, atoms_spec (ws := wsX11_restore) B.pre, hv.2.2, hG⟩
  have hr := B.returns
  have hlk := B.notSynchronized
  obtain ⟨hx, hb, hml, hown, hts, hst, hG⟩ := id C0
  have hiX11 : ∀ w ∈ u_ws RX11 TX11 15, w ∈ wsX11_restore := hiX11_X11_restore
  have w := jDy.start hv
  have hl := lv_entry ([.ref (b + x0)]) (n := 1) (Nat.le_of_ble_eq_true rfl)
  rw [lg_entry_eq]
  generalize (lg_sl ([.ref (b + x0)]) ++ List.replicate (1 - (lg_sl ([.ref (b + x0)])).length) Slot.unset).toArray = ls at hl ⊢
  replace hl : lv_has ls 1 [(0, .ref (b + x0))] := hl
  show W p l e rm_X11_restore s m _ below meth c s.heap [] 0 0 _ (F0 m 0 ls [])
  rw [J_X11_restore] at h
  refine lv_aload_n hx hb dX11_restore_0 rfl (lv_at hl 0 rfl) ?_
  obtain ⟨a1, hr0, h⟩ := h
  refine jgr (f := 6) hx hb hts hown hst w hG hx0 hiX11 (rfl : vwCl[10]? = some (RX11, TX11, 15)) (hts (.fieldLink RX11 36 "FootByGate" "kept" "LFootByGate$Image;") (by decide +kernel)) ⟨by decide, by decide, rfl⟩ (rfl : jrt 10 6 = 4) dX11_restore_1 hr0 (fun ha1 => ?_)
  clear hr0
  refine lv_aload_n hx hb dX11_restore_4 rfl (lv_at hl 0 rfl) ?_
  refine jgi (f := 7) hx hb hts hown hst w hx0 hiX11 (rfl : vwCl[10]? = some (RX11, TX11, 15)) (hts (.fieldLink RX11 102 "FootByGate" "townsRead" "I") (by decide +kernel)) ⟨by decide, by decide, rfl⟩ dX11_restore_5 ?_
  refine jcV_i (k := a1) (As := [.int (i x0 7)]) (rest := []) C0 w (c_X4_isOf hG ha1 h) (cwV 1 hts gX11_restore_X4_isOf rfl rfl rfl (by decide +kernel) ⟨Nat.le_of_ble_eq_true rfl, Nat.le_of_ble_eq_true rfl⟩) ha1 (rfl : vwCl[4]? = some (RX4, TX4, 7)) (by decide) rfl hl.1 rfl (Nat.le_of_ble_eq_true rfl) dX11_restore_8 (fun q8 i8 j8 H locs h w => ?_) ⟨Nat.zero_le _, Nat.zero_le _⟩
  refine lv_if_ne (tgt := 17) hx hb dX11_restore_11 (by decide) (fun hc => ?_) (fun hc => ?_)
  · replace h := h.1 hc
    clear hc
    refine lv_aload_n hx hb dX11_restore_17 rfl (lv_at hl 0 rfl) ?_
    refine lv_aload_n hx hb dX11_restore_18 rfl (lv_at hl 0 rfl) ?_
    obtain ⟨a19, hr0, h⟩ := h
    refine jgr (f := 6) hx hb hts hown hst w hG hx0 hiX11 (rfl : vwCl[10]? = some (RX11, TX11, 15)) (hts (.fieldLink RX11 36 "FootByGate" "kept" "LFootByGate$Image;") (by decide +kernel)) ⟨by decide, by decide, rfl⟩ (rfl : jrt 10 6 = 4) dX11_restore_19 hr0 (fun ha19 => ?_)
    clear hr0
    refine lv_aload_n hx hb dX11_restore_22 rfl (lv_at hl 0 rfl) ?_
    obtain ⟨a23, hr0, h⟩ := h
    refine jgr (f := 2) hx hb hts hown hst w hG hx0 hiX11 (rfl : vwCl[10]? = some (RX11, TX11, 15)) (hts (.fieldLink RX11 25 "FootByGate" "walkers" "[LFootByGate$Walker;") (by decide +kernel)) ⟨by decide, by decide, rfl⟩ (rfl : jrt 10 2 = 16) dX11_restore_23 hr0 (fun ha23 => ?_)
    clear hr0
    refine jcV_i (k := a19) (As := [.ref (b + a23)]) (rest := [.ref (b + x0)]) C0 w (c_X4_bringWalkers hG ha19 ha23 h) (cwV 1 hts gX11_restore_X4_bringWalkers rfl rfl rfl (by decide +kernel) ⟨Nat.le_of_ble_eq_true rfl, Nat.le_of_ble_eq_true rfl⟩) ha19 (rfl : vwCl[4]? = some (RX4, TX4, 7)) (by decide) rfl hl.1 rfl (Nat.le_of_ble_eq_true rfl) dX11_restore_26 (fun q26 i26 j26 H locs h w => ?_) ⟨Nat.zero_le _, Nat.zero_le _⟩
    refine jpi (f := 3) hx hb hts hown hst w hx0 hiX11 (rfl : vwCl[10]? = some (RX11, TX11, 15)) (hts (.fieldLink RX11 96 "FootByGate" "walkerCount" "I") (by decide +kernel)) ⟨by decide, by decide, rfl⟩ tyX11 tyX11_ok nmX11 rfl ⟨rfl, rfl⟩ dX11_restore_29 (fun i29 H locs he w => ?_)
    replace h := h i29 he
    clear he
    refine lv_aload_n hx hb dX11_restore_32 rfl (lv_at hl 0 rfl) ?_
    refine lv_aload_n hx hb dX11_restore_33 rfl (lv_at hl 0 rfl) ?_
    obtain ⟨a34, hr0, h⟩ := h
    refine jgr (f := 6) hx hb hts hown hst w hG hx0 hiX11 (rfl : vwCl[10]? = some (RX11, TX11, 15)) (hts (.fieldLink RX11 36 "FootByGate" "kept" "LFootByGate$Image;") (by decide +kernel)) ⟨by decide, by decide, rfl⟩ (rfl : jrt 10 6 = 4) dX11_restore_34 hr0 (fun ha34 => ?_)
    clear hr0
    refine lv_aload_n hx hb dX11_restore_37 rfl (lv_at hl 0 rfl) ?_
    obtain ⟨a38, hr0, h⟩ := h
    refine jgr (f := 4) hx hb hts hown hst w hG hx0 hiX11 (rfl : vwCl[10]? = some (RX11, TX11, 15)) (hts (.fieldLink RX11 29 "FootByGate" "prints" "[I") (by decide +kernel)) ⟨by decide, by decide, rfl⟩ (rfl : jrt 10 4 = 13) dX11_restore_38 hr0 (fun ha38 => ?_)
    clear hr0
    refine jcV_i (k := a34) (As := [.ref (b + a38)]) (rest := [.ref (b + x0)]) C0 w (c_X4_bringPrints hG ha34 ha38 h) (cwV 1 hts gX11_restore_X4_bringPrints rfl rfl rfl (by decide +kernel) ⟨Nat.le_of_ble_eq_true rfl, Nat.le_of_ble_eq_true rfl⟩) ha34 (rfl : vwCl[4]? = some (RX4, TX4, 7)) (by decide) rfl hl.1 rfl (Nat.le_of_ble_eq_true rfl) dX11_restore_41 (fun q41 i41 j41 H locs h w => ?_) ⟨Nat.zero_le _, Nat.zero_le _⟩
    refine jpi (f := 5) hx hb hts hown hst w hx0 hiX11 (rfl : vwCl[10]? = some (RX11, TX11, 15)) (hts (.fieldLink RX11 99 "FootByGate" "printCount" "I") (by decide +kernel)) ⟨by decide, by decide, rfl⟩ tyX11 tyX11_ok nmX11 rfl ⟨rfl, rfl⟩ dX11_restore_44 (fun i44 H locs he w => ?_)
    replace h := h i44 he
    clear he
    refine lv_aload_n hx hb dX11_restore_47 rfl (lv_at hl 0 rfl) ?_
    obtain ⟨a48, hr0, h⟩ := h
    refine jgr (f := 6) hx hb hts hown hst w hG hx0 hiX11 (rfl : vwCl[10]? = some (RX11, TX11, 15)) (hts (.fieldLink RX11 36 "FootByGate" "kept" "LFootByGate$Image;") (by decide +kernel)) ⟨by decide, by decide, rfl⟩ (rfl : jrt 10 6 = 4) dX11_restore_48 hr0 (fun ha48 => ?_)
    clear hr0
    refine lv_aload_n hx hb dX11_restore_51 rfl (lv_at hl 0 rfl) ?_
    obtain ⟨a52, hr0, h⟩ := h
    refine jgr (f := 1) hx hb hts hown hst w hG hx0 hiX11 (rfl : vwCl[10]? = some (RX11, TX11, 15)) (hts (.fieldLink RX11 19 "FootByGate" "map" "LFootByGate$Town;") (by decide +kernel)) ⟨by decide, by decide, rfl⟩ (rfl : jrt 10 1 = 7) dX11_restore_52 hr0 (fun ha52 => ?_)
    clear hr0
    refine jcV_v (k := a48) (As := [.ref (b + a52)]) (rest := []) C0 w (c_X4_bringPaces hG ha48 ha52 h) (cwV 1 hts gX11_restore_X4_bringPaces rfl rfl rfl (by decide +kernel) ⟨Nat.le_of_ble_eq_true rfl, Nat.le_of_ble_eq_true rfl⟩) ha48 (rfl : vwCl[4]? = some (RX4, TX4, 7)) (by decide) rfl hl.1 rfl (Nat.le_of_ble_eq_true rfl) dX11_restore_55 (fun i55 j55 H locs h w => ?_) ⟨Nat.zero_le _, Nat.zero_le _⟩
    refine lv_aload_n hx hb dX11_restore_58 rfl (lv_at hl 0 rfl) ?_
    refine jgi (f := 3) hx hb hts hown hst w hx0 hiX11 (rfl : vwCl[10]? = some (RX11, TX11, 15)) (hts (.fieldLink RX11 96 "FootByGate" "walkerCount" "I") (by decide +kernel)) ⟨by decide, by decide, rfl⟩ dX11_restore_59 ?_
    exact jret_i hx hb hr hlk hst w h dX11_restore_62
  · replace h := h.2 hc
    clear hc
    refine lv_bipush (v := (-103 : Int32)) hx hb dX11_restore_14 (by decide) ?_
    exact jret_i hx hb hr hlk hst w h dX11_restore_16
end S_X11_restore
section S_X11_round
def J_X11_round (len : Nat → Nat) (r : jR) (Q : Int32 → jI → jL → Prop) (i : jI) (j : jL) (x0 : Nat) (x1 : Int32) (x2 : Int32) : Prop := J_X11_isWalker len r (fun (q2 : Int32) (i2 : jI) (j2 : jL) => ((¬ q2 = 0) → (J_X11_isWithin len r (fun (q13 : Int32) (i13 : jI) (j13 : jL) => ((¬ q13 = 0) → ((((i13 x0 8) < (40 : Int32)) → (∀ i41 : jI, i41 = ju i13 x0 8 ((i13 x0 8) + (1 : Int32)) → (∃ a45, r x0 2 = some a45 ∧ (vp_in x1 (len a45) ∧ ∃ a49, r a45 x1.toNatClampNeg = some a49 ∧ (∃ a52, r x0 9 = some a52 ∧ (∃ a60, r x0 1 = some a60 ∧ (J_X2_take len r (fun (i63 : jI) (j63 : jL) => ∃ a67, r x0 13 = some a67 ∧ (∃ a71, r x0 1 = some a71 ∧ (∃ a75, r x0 9 = some a75 ∧ (J_X1_firstStreet len r (fun (q82 : Int32) (i82 : jI) (j82 : jL) => ((¬ x2 = (1 : Int32)) → (((¬ q82 = (-1 : Int32)) → (Q (1 : Int32) i82 j82)) ∧ ((q82 = (-1 : Int32)) → (Q (0 : Int32) i82 j82)))) ∧ ((x2 = (1 : Int32)) → (Q q82 i82 j82))) i63 j63 a67 a71 a75 (i63 a49 1))))) i41 j13 a52 (i41 a49 0) a60))))))) ∧ ((¬ (i13 x0 8) < (40 : Int32)) → (Q (-103 : Int32) i13 j13)))) ∧ ((q13 = 0) → (Q (-102 : Int32) i13 j13))) i2 j2 x2 (1 : Int32))) ∧ ((q2 = 0) → (Q (-101 : Int32) i2 j2))) i j x0 x1
abbrev rm_X11_round : Room := { frames := 15, cells := 0, slots := 0, locals := 399 }
variable {p : Program} {l : Launch} {e : Env} {s : State} {m : MethodId} {args : Array Value} {below : List Frame} {meth : Method} {c : Code} {b tU n : Nat} {cy : Nat → ClassId} {D : va_G} {K len : Nat → Nat} {r : jR} {Q : Int32 → jI → jL → Prop}
theorem hiX11_X11_round : ∀ w ∈ u_ws RX11 TX11 15, w ∈ wsX11_round := by decide +kernel
theorem hiX9_X11_round : ∀ w ∈ u_ws RX9 TX9 3, w ∈ wsX11_round := by decide +kernel
set_option maxHeartbeats 4000000 in
set_option maxRecDepth 100000 in
theorem c_X11_round (hG : jG n K r) {i : jI} {j : jL} {x0 : Nat} {x1 : Int32} {x2 : Int32} (hx0 : x0 < n ∧ K x0 = 10) (h : J_X11_round len r Q i j x0 x1 x2) : Met l yX11_round wsX11_round rm_X11_round (va_Pc [.ref (b + x0), .int x1, .int x2] (jPre b cy D tU n K len r i j)) (jQi b cy D tU n K len r Q) 0 0 (jA b) := by
  refine Met.ofW (cc := cX11_round) (maxL := 5) (ret := (some .int)) (by decide) rfl ?_
  intro p e s m args below meth c s₁ B hml hv
  obtain ⟨rfl, hv⟩ := hv
  have C0 : jCx p s m _ c cX11_round 5 wsX11_round RX11 b cy D tU n K r := ⟨B.exec, B.bytes, hml, findClass_of_methodNamed B.named, atoms_spec (ws := wsX11_round) B.pre, hv.2.2, hG⟩
  have hr := B.returns
  have hlk := B.notSynchronized
  obtain ⟨hx, hb, hml, hown, hts, hst, hG⟩ := id C0
  have hiX11 : ∀ w ∈ u_ws RX11 TX11 15, w ∈ wsX11_round := hiX11_X11_round
  have hiX9 : ∀ w ∈ u_ws RX9 TX9 3, w ∈ wsX11_round := hiX9_X11_round
  have w := jDy.start hv
  have hl := lv_entry ([.ref (b + x0), .int x1, .int x2]) (n := 5) (Nat.le_of_ble_eq_true rfl)
  rw [lg_entry_eq]
  generalize (lg_sl ([.ref (b + x0), .int x1, .int x2]) ++ List.replicate (5 - (lg_sl ([.ref (b + x0), .int x1, .int x2])).length) Slot.unset).toArray = ls at hl ⊢
  replace hl : lv_has ls 5 [(0, .ref (b + x0)), (1, .int x1), (2, .int x2)] := hl
  show W p l e rm_X11_round s m _ below meth c s.heap [] 0 0 _ (F0 m 0 ls [])
  rw [J_X11_round] at h
  refine lv_aload_n hx hb dX11_round_0 rfl (lv_at hl 0 rfl) ?_
  refine lv_iload_n hx hb dX11_round_1 rfl (lv_at hl 1 rfl) ?_
  refine jcV_i (k := x0) (As := [.int x1]) (rest := []) C0 w (c_X11_isWalker hG hx0 h) (cwV 1 hts gX11_round_X11_isWalker rfl rfl rfl (by decide +kernel) ⟨Nat.le_of_ble_eq_true rfl, Nat.le_of_ble_eq_true rfl⟩) hx0 (rfl : vwCl[10]? = some (RX11, TX11, 15)) (by decide) rfl hl.1 rfl (Nat.le_of_ble_eq_true rfl) dX11_round_2 (fun q2 i2 j2 H locs h w => ?_) ⟨Nat.zero_le _, Nat.zero_le _⟩
  refine lv_if_ne (tgt := 11) hx hb dX11_round_5 (by decide) (fun hc => ?_) (fun hc => ?_)
  · replace h := h.1 hc
    clear hc
    refine lv_iload_n hx hb dX11_round_11 rfl (lv_at hl 2 rfl) ?_
    refine lv_iconst (v := (1 : Int32)) hx hb dX11_round_12 (by decide) ?_
    refine jcS_i (As := [.int x2, .int (1 : Int32)]) (rest := []) C0 w (c_X11_isWithin hG h) (va_cwS 2 hts gX11_round_X11_isWithin rfl rfl rfl (by decide +kernel) ⟨Nat.le_of_ble_eq_true rfl, Nat.le_of_ble_eq_true rfl⟩) rfl hl.1 rfl (Nat.le_of_ble_eq_true rfl) dX11_round_13 (fun q13 i13 j13 H locs h w => ?_) ⟨Nat.zero_le _, Nat.zero_le _⟩
    refine lv_if_ne (tgt := 22) hx hb dX11_round_16 (by decide) (fun hc => ?_) (fun hc => ?_)
    · replace h := h.1 hc
      clear hc
      refine lv_aload_n hx hb dX11_round_22 rfl (lv_at hl 0 rfl) ?_
      refine jgi (f := 8) hx hb hts hown hst w hx0 hiX11 (rfl : vwCl[10]? = some (RX11, TX11, 15)) (hts (.fieldLink RX11 202 "FootByGate" "done" "I") (by decide +kernel)) ⟨by decide, by decide, rfl⟩ dX11_round_23 ?_
      refine lv_bipush (v := (40 : Int32)) hx hb dX11_round_26 (by decide) ?_
      refine lv_icmp_lt (tgt := 34) hx hb dX11_round_28 (by decide) (fun hc => ?_) (fun hc => ?_)
      · replace h := h.1 hc
        clear hc
        refine lv_aload_n hx hb dX11_round_34 rfl (lv_at hl 0 rfl) ?_
        refine lv_dup hx hb dX11_round_35 rfl ?_
        refine jgi (f := 8) hx hb hts hown hst w hx0 hiX11 (rfl : vwCl[10]? = some (RX11, TX11, 15)) (hts (.fieldLink RX11 202 "FootByGate" "done" "I") (by decide +kernel)) ⟨by decide, by decide, rfl⟩ dX11_round_36 ?_
        refine lv_iconst (v := (1 : Int32)) hx hb dX11_round_39 (by decide) ?_
        refine lv_iadd hx hb dX11_round_40 ?_
        refine jpi (f := 8) hx hb hts hown hst w hx0 hiX11 (rfl : vwCl[10]? = some (RX11, TX11, 15)) (hts (.fieldLink RX11 202 "FootByGate" "done" "I") (by decide +kernel)) ⟨by decide, by decide, rfl⟩ tyX11 tyX11_ok nmX11 rfl ⟨rfl, rfl⟩ dX11_round_41 (fun i41 H locs he w => ?_)
        replace h := h i41 he
        clear he
        refine lv_aload_n hx hb dX11_round_44 rfl (lv_at hl 0 rfl) ?_
        obtain ⟨a45, hr0, h⟩ := h
        refine jgr (f := 2) hx hb hts hown hst w hG hx0 hiX11 (rfl : vwCl[10]? = some (RX11, TX11, 15)) (hts (.fieldLink RX11 25 "FootByGate" "walkers" "[LFootByGate$Walker;") (by decide +kernel)) ⟨by decide, by decide, rfl⟩ (rfl : jrt 10 2 = 16) dX11_round_45 hr0 (fun ha45 => ?_)
        clear hr0
        refine lv_iload_n hx hb dX11_round_48 rfl (lv_at hl 1 rfl) ?_
        obtain ⟨hn, h⟩ := h
        obtain ⟨a49, hr0, h⟩ := h
        refine jaar hx hb hst w hG ha45 hn dX11_round_49 hr0 (fun ha49 => ?_)
        clear hn hr0
        refine lv_astore_n (lv' := [(3, .ref (b + a49)), (0, .ref (b + x0)), (1, .int x1), (2, .int x2)]) hx hb dX11_round_50 rfl hl (by decide) rfl (fun ls hl => ?_)
        refine lv_aload_n hx hb dX11_round_51 rfl (lv_at hl 1 rfl) ?_
        obtain ⟨a52, hr0, h⟩ := h
        refine jgr (f := 9) hx hb hts hown hst w hG hx0 hiX11 (rfl : vwCl[10]? = some (RX11, TX11, 15)) (hts (.fieldLink RX11 43 "FootByGate" "gait" "LFootByGate$Gait;") (by decide +kernel)) ⟨by decide, by decide, rfl⟩ (rfl : jrt 10 9 = 2) dX11_round_52 hr0 (fun ha52 => ?_)
        clear hr0
        refine lv_aload_n hx hb dX11_round_55 rfl (lv_at hl 0 rfl) ?_
        refine jgi (f := 0) hx hb hts hown hst w ha49 hiX9 (rfl : vwCl[8]? = some (RX9, TX9, 3)) (hts (.fieldLink RX11 137 "FootByGate$Walker" "kind" "I") (by decide +kernel)) ⟨by decide, by decide, rfl⟩ dX11_round_56 ?_
        refine lv_aload_n hx hb dX11_round_59 rfl (lv_at hl 1 rfl) ?_
        obtain ⟨a60, hr0, h⟩ := h
        refine jgr (f := 1) hx hb hts hown hst w hG hx0 hiX11 (rfl : vwCl[10]? = some (RX11, TX11, 15)) (hts (.fieldLink RX11 19 "FootByGate" "map" "LFootByGate$Town;") (by decide +kernel)) ⟨by decide, by decide, rfl⟩ (rfl : jrt 10 1 = 7) dX11_round_60 hr0 (fun ha60 => ?_)
        clear hr0
        refine jcV_v (k := a52) (As := [.int (i41 a49 0), .ref (b + a60)]) (rest := []) C0 w (c_X2_take hG ha52 ha60 h) (cwV 2 hts gX11_round_X2_take rfl rfl rfl (by decide +kernel) ⟨Nat.le_of_ble_eq_true rfl, Nat.le_of_ble_eq_true rfl⟩) ha52 (rfl : vwCl[2]? = some (RX2, TX2, 2)) (by decide) rfl hl.1 rfl (Nat.le_of_ble_eq_true rfl) dX11_round_63 (fun i63 j63 H locs h w => ?_) ⟨Nat.zero_le _, Nat.zero_le _⟩
        refine lv_aload_n hx hb dX11_round_66 rfl (lv_at hl 1 rfl) ?_
        obtain ⟨a67, hr0, h⟩ := h
        refine jgr (f := 13) hx hb hts hown hst w hG hx0 hiX11 (rfl : vwCl[10]? = some (RX11, TX11, 15)) (hts (.fieldLink RX11 67 "FootByGate" "circuit" "LFootByGate$Circuit;") (by decide +kernel)) ⟨by decide, by decide, rfl⟩ (rfl : jrt 10 13 = 1) dX11_round_67 hr0 (fun ha67 => ?_)
        clear hr0
        refine lv_aload_n hx hb dX11_round_70 rfl (lv_at hl 1 rfl) ?_
        obtain ⟨a71, hr0, h⟩ := h
        refine jgr (f := 1) hx hb hts hown hst w hG hx0 hiX11 (rfl : vwCl[10]? = some (RX11, TX11, 15)) (hts (.fieldLink RX11 19 "FootByGate" "map" "LFootByGate$Town;") (by decide +kernel)) ⟨by decide, by decide, rfl⟩ (rfl : jrt 10 1 = 7) dX11_round_71 hr0 (fun ha71 => ?_)
        clear hr0
        refine lv_aload_n hx hb dX11_round_74 rfl (lv_at hl 1 rfl) ?_
        obtain ⟨a75, hr0, h⟩ := h
        refine jgr (f := 9) hx hb hts hown hst w hG hx0 hiX11 (rfl : vwCl[10]? = some (RX11, TX11, 15)) (hts (.fieldLink RX11 43 "FootByGate" "gait" "LFootByGate$Gait;") (by decide +kernel)) ⟨by decide, by decide, rfl⟩ (rfl : jrt 10 9 = 2) dX11_round_75 hr0 (fun ha75 => ?_)
        clear hr0
        refine lv_aload_n hx hb dX11_round_78 rfl (lv_at hl 0 rfl) ?_
        refine jgi (f := 1) hx hb hts hown hst w ha49 hiX9 (rfl : vwCl[8]? = some (RX9, TX9, 3)) (hts (.fieldLink RX11 146 "FootByGate$Walker" "stand" "I") (by decide +kernel)) ⟨by decide, by decide, rfl⟩ dX11_round_79 ?_
        refine jcV_i (k := a67) (As := [.ref (b + a71), .ref (b + a75), .int (i63 a49 1)]) (rest := []) C0 w (c_X1_firstStreet hG ha67 ha71 ha75 h) (cwV 3 hts gX11_round_X1_firstStreet rfl rfl rfl (by decide +kernel) ⟨Nat.le_of_ble_eq_true rfl, Nat.le_of_ble_eq_true rfl⟩) ha67 (rfl : vwCl[1]? = some (RX1, TX1, 1)) (by decide) rfl hl.1 rfl (Nat.le_of_ble_eq_true rfl) dX11_round_82 (fun q82 i82 j82 H locs h w => ?_) ⟨Nat.zero_le _, Nat.zero_le _⟩
        refine lv_istore (lv' := [(4, .int q82), (3, .ref (b + a49)), (0, .ref (b + x0)), (1, .int x1), (2, .int x2)]) hx hb dX11_round_85 hl (by decide) rfl (fun ls hl => ?_)
        refine lv_iload_n hx hb dX11_round_87 rfl (lv_at hl 4 rfl) ?_
        refine lv_iconst (v := (1 : Int32)) hx hb dX11_round_88 (by decide) ?_
        refine lv_icmp_ne (tgt := 95) hx hb dX11_round_89 (by decide) (fun hc => ?_) (fun hc => ?_)
        · replace h := h.1 hc
          clear hc
          refine lv_iload hx hb dX11_round_95 (lv_at hl 0 rfl) ?_
          refine lv_iconst (v := (-1 : Int32)) hx hb dX11_round_97 (by decide) ?_
          refine lv_icmp_ne (tgt := 105) hx hb dX11_round_98 (by decide) (fun hc => ?_) (fun hc => ?_)
          · replace h := h.1 hc
            clear hc
            refine lv_iconst (v := (1 : Int32)) hx hb dX11_round_105 (by decide) ?_
            exact jret_i hx hb hr hlk hst w h dX11_round_106
          · replace h := h.2 hc
            clear hc
            refine lv_iconst (v := (0 : Int32)) hx hb dX11_round_101 (by decide) ?_
            refine lv_goto (tgt := 106) hx hb dX11_round_102 (by decide) ?_
            exact jret_i hx hb hr hlk hst w h dX11_round_106
        · replace h := h.2 hc
          clear hc
          refine lv_iload hx hb dX11_round_92 (lv_at hl 0 rfl) ?_
          exact jret_i hx hb hr hlk hst w h dX11_round_94
      · replace h := h.2 hc
        clear hc
        refine lv_bipush (v := (-103 : Int32)) hx hb dX11_round_31 (by decide) ?_
        exact jret_i hx hb hr hlk hst w h dX11_round_33
    · replace h := h.2 hc
      clear hc
      refine lv_bipush (v := (-102 : Int32)) hx hb dX11_round_19 (by decide) ?_
      exact jret_i hx hb hr hlk hst w h dX11_round_21
  · replace h := h.2 hc
    clear hc
    refine lv_bipush (v := (-101 : Int32)) hx hb dX11_round_8 (by decide) ?_
    exact jret_i hx hb hr hlk hst w h dX11_round_10
end S_X11_round
section S_X11_skip
def J_X11_skip (len : Nat → Nat) (r : jR) (Q : Int32 → jI → jL → Prop) (i : jI) (j : jL) (x0 : Nat) (x1 : Int32) : Prop := J_X11_isWalker len r (fun (q2 : Int32) (i2 : jI) (j2 : jL) => ((¬ q2 = 0) → (∃ a12, r x0 2 = some a12 ∧ (vp_in x1 (len a12) ∧ ∃ a16, r a12 x1.toNatClampNeg = some a16 ∧ (((¬ (i2 a16 0) = (3 : Int32)) → (J_X7_skipped len r (fun (q34 : Int32) (i34 : jI) (j34 : jL) => ∀ i37 : jI, i37 = ju i34 a16 1 q34 → (∀ i47 : jI, i47 = ju i37 a16 2 ((i37 a16 2) + (1 : Int32)) → (J_X7_footOf len r (fun (q54 : Int32) (i54 : jI) (j54 : jL) => Q q54 i54 j54) i47 j34 (i47 a16 1)))) i2 j2 (i2 a16 1))) ∧ (((i2 a16 0) = (3 : Int32)) → (Q (-103 : Int32) i2 j2)))))) ∧ ((q2 = 0) → (Q (-101 : Int32) i2 j2))) i j x0 x1
abbrev rm_X11_skip : Room := { frames := 1, cells := 0, slots := 0, locals := 21 }
variable {p : Program} {l : Launch} {e : Env} {s : State} {m : MethodId} {args : Array Value} {below : List Frame} {meth : Method} {c : Code} {b tU n : Nat} {cy : Nat → ClassId} {D : va_G} {K len : Nat → Nat} {r : jR} {Q : Int32 → jI → jL → Prop}
theorem hiX11_X11_skip : ∀ w ∈ u_ws RX11 TX11 15, w ∈ wsX11_skip := by decide +kernel
theorem hiX9_X11_skip : ∀ w ∈ u_ws RX9 TX9 3, w ∈ wsX11_skip := by decide +kernel
set_option maxHeartbeats 4000000 in
set_option maxRecDepth 100000 in
theorem c_X11_skip (hG : jG n K r) {i : jI} {j : jL} {x0 : Nat} {x1 : Int32} (hx0 : x0 < n ∧ K x0 = 10) (h : J_X11_skip len r Q i j x0 x1) : Met l yX11_skip wsX11_skip rm_X11_skip (va_Pc [.ref (b + x0), .int x1] (jPre b cy D tU n K len r i j)) (jQi b cy D tU n K len r Q) 0 0 (jA b) := by
  refine Met.ofW (cc := cX11_skip) (maxL := 3) (ret := (some .int)) (by decide) rfl ?_
  intro p e s m args below meth c s₁ B hml hv
  obtain ⟨rfl, hv⟩ := hv
  have C0 : jCx p s m _ c cX11_skip 3 wsX11_skip RX11 b cy D tU n K r := ⟨B.exec, B.bytes, hml, findClass_of_methodNamed B.named, atoms_spec (ws := wsX11_skip) B.pre, hv.2.2, hG⟩
  have hr := B.returns
  have hlk := B.notSynchronized
  obtain ⟨hx, hb, hml, hown, hts, hst, hG⟩ := id C0
  have hiX11 : ∀ w ∈ u_ws RX11 TX11 15, w ∈ wsX11_skip := hiX11_X11_skip
  have hiX9 : ∀ w ∈ u_ws RX9 TX9 3, w ∈ wsX11_skip := hiX9_X11_skip
  have w := jDy.start hv
  have hl := lv_entry ([.ref (b + x0), .int x1]) (n := 3) (Nat.le_of_ble_eq_true rfl)
  rw [lg_entry_eq]
  generalize (lg_sl ([.ref (b + x0), .int x1]) ++ List.replicate (3 - (lg_sl ([.ref (b + x0), .int x1])).length) Slot.unset).toArray = ls at hl ⊢
  replace hl : lv_has ls 3 [(0, .ref (b + x0)), (1, .int x1)] := hl
  show W p l e rm_X11_skip s m _ below meth c s.heap [] 0 0 _ (F0 m 0 ls [])
  rw [J_X11_skip] at h
  refine lv_aload_n hx hb dX11_skip_0 rfl (lv_at hl 0 rfl) ?_
  refine lv_iload_n hx hb dX11_skip_1 rfl (lv_at hl 1 rfl) ?_
  refine jcV_i (k := x0) (As := [.int x1]) (rest := []) C0 w (c_X11_isWalker hG hx0 h) (cwV 1 hts gX11_skip_X11_isWalker rfl rfl rfl (by decide +kernel) ⟨Nat.le_of_ble_eq_true rfl, Nat.le_of_ble_eq_true rfl⟩) hx0 (rfl : vwCl[10]? = some (RX11, TX11, 15)) (by decide) rfl hl.1 rfl (Nat.le_of_ble_eq_true rfl) dX11_skip_2 (fun q2 i2 j2 H locs h w => ?_) ⟨Nat.zero_le _, Nat.zero_le _⟩
  refine lv_if_ne (tgt := 11) hx hb dX11_skip_5 (by decide) (fun hc => ?_) (fun hc => ?_)
  · replace h := h.1 hc
    clear hc
    refine lv_aload_n hx hb dX11_skip_11 rfl (lv_at hl 0 rfl) ?_
    obtain ⟨a12, hr0, h⟩ := h
    refine jgr (f := 2) hx hb hts hown hst w hG hx0 hiX11 (rfl : vwCl[10]? = some (RX11, TX11, 15)) (hts (.fieldLink RX11 25 "FootByGate" "walkers" "[LFootByGate$Walker;") (by decide +kernel)) ⟨by decide, by decide, rfl⟩ (rfl : jrt 10 2 = 16) dX11_skip_12 hr0 (fun ha12 => ?_)
    clear hr0
    refine lv_iload_n hx hb dX11_skip_15 rfl (lv_at hl 1 rfl) ?_
    obtain ⟨hn, h⟩ := h
    obtain ⟨a16, hr0, h⟩ := h
    refine jaar hx hb hst w hG ha12 hn dX11_skip_16 hr0 (fun ha16 => ?_)
    clear hn hr0
    refine lv_astore_n (lv' := [(2, .ref (b + a16)), (0, .ref (b + x0)), (1, .int x1)]) hx hb dX11_skip_17 rfl hl (by decide) rfl (fun ls hl => ?_)
    refine lv_aload_n hx hb dX11_skip_18 rfl (lv_at hl 0 rfl) ?_
    refine jgi (f := 0) hx hb hts hown hst w ha16 hiX9 (rfl : vwCl[8]? = some (RX9, TX9, 3)) (hts (.fieldLink RX11 137 "FootByGate$Walker" "kind" "I") (by decide +kernel)) ⟨by decide, by decide, rfl⟩ dX11_skip_19 ?_
    refine lv_iconst (v := (3 : Int32)) hx hb dX11_skip_22 (by decide) ?_
    refine lv_icmp_ne (tgt := 29) hx hb dX11_skip_23 (by decide) (fun hc => ?_) (fun hc => ?_)
    · replace h := h.1 hc
      clear hc
      refine lv_aload_n hx hb dX11_skip_29 rfl (lv_at hl 0 rfl) ?_
      refine lv_aload_n hx hb dX11_skip_30 rfl (lv_at hl 0 rfl) ?_
      refine jgi (f := 1) hx hb hts hown hst w ha16 hiX9 (rfl : vwCl[8]? = some (RX9, TX9, 3)) (hts (.fieldLink RX11 146 "FootByGate$Walker" "stand" "I") (by decide +kernel)) ⟨by decide, by decide, rfl⟩ dX11_skip_31 ?_
      refine jcS_i (As := [.int (i2 a16 1)]) (rest := [.ref (b + a16)]) C0 w (c_X7_skipped hG h) (va_cwS 1 hts gX11_skip_X7_skipped rfl rfl rfl (by decide +kernel) ⟨Nat.le_of_ble_eq_true rfl, Nat.le_of_ble_eq_true rfl⟩) rfl hl.1 rfl (Nat.le_of_ble_eq_true rfl) dX11_skip_34 (fun q34 i34 j34 H locs h w => ?_) ⟨Nat.zero_le _, Nat.zero_le _⟩
      refine jpi (f := 1) hx hb hts hown hst w ha16 hiX9 (rfl : vwCl[8]? = some (RX9, TX9, 3)) (hts (.fieldLink RX11 146 "FootByGate$Walker" "stand" "I") (by decide +kernel)) ⟨by decide, by decide, rfl⟩ tyX9 tyX9_ok nmX9 rfl ⟨rfl, rfl⟩ dX11_skip_37 (fun i37 H locs he w => ?_)
      replace h := h i37 he
      clear he
      refine lv_aload_n hx hb dX11_skip_40 rfl (lv_at hl 0 rfl) ?_
      refine lv_dup hx hb dX11_skip_41 rfl ?_
      refine jgi (f := 2) hx hb hts hown hst w ha16 hiX9 (rfl : vwCl[8]? = some (RX9, TX9, 3)) (hts (.fieldLink RX11 149 "FootByGate$Walker" "skipped" "I") (by decide +kernel)) ⟨by decide, by decide, rfl⟩ dX11_skip_42 ?_
      refine lv_iconst (v := (1 : Int32)) hx hb dX11_skip_45 (by decide) ?_
      refine lv_iadd hx hb dX11_skip_46 ?_
      refine jpi (f := 2) hx hb hts hown hst w ha16 hiX9 (rfl : vwCl[8]? = some (RX9, TX9, 3)) (hts (.fieldLink RX11 149 "FootByGate$Walker" "skipped" "I") (by decide +kernel)) ⟨by decide, by decide, rfl⟩ tyX9 tyX9_ok nmX9 rfl ⟨rfl, rfl⟩ dX11_skip_47 (fun i47 H locs he w => ?_)
      replace h := h i47 he
      clear he
      refine lv_aload_n hx hb dX11_skip_50 rfl (lv_at hl 0 rfl) ?_
      refine jgi (f := 1) hx hb hts hown hst w ha16 hiX9 (rfl : vwCl[8]? = some (RX9, TX9, 3)) (hts (.fieldLink RX11 146 "FootByGate$Walker" "stand" "I") (by decide +kernel)) ⟨by decide, by decide, rfl⟩ dX11_skip_51 ?_
      refine jcS_i (As := [.int (i47 a16 1)]) (rest := []) C0 w (c_X7_footOf hG h) (va_cwS 1 hts gX11_skip_X7_footOf rfl rfl rfl (by decide +kernel) ⟨Nat.le_of_ble_eq_true rfl, Nat.le_of_ble_eq_true rfl⟩) rfl hl.1 rfl (Nat.le_of_ble_eq_true rfl) dX11_skip_54 (fun q54 i54 j54 H locs h w => ?_) ⟨Nat.zero_le _, Nat.zero_le _⟩
      exact jret_i hx hb hr hlk hst w h dX11_skip_57
    · replace h := h.2 hc
      clear hc
      refine lv_bipush (v := (-103 : Int32)) hx hb dX11_skip_26 (by decide) ?_
      exact jret_i hx hb hr hlk hst w h dX11_skip_28
  · replace h := h.2 hc
    clear hc
    refine lv_bipush (v := (-101 : Int32)) hx hb dX11_skip_8 (by decide) ?_
    exact jret_i hx hb hr hlk hst w h dX11_skip_10
end S_X11_skip
section S_X11_skips
def J_X11_skips_L15 (len : Nat → Nat) (r : jR) (Q : Int32 → jI → jL → Prop) (i : jI) (j : jL) : Prop := Q (-101 : Int32) i j
def J_X11_skips (len : Nat → Nat) (r : jR) (Q : Int32 → jI → jL → Prop) (i : jI) (j : jL) (x0 : Nat) (x1 : Int32) (x2 : Int32) (x3 : Int32) : Prop := J_X11_isWalker len r (fun (q2 : Int32) (i2 : jI) (j2 : jL) => ((q2 = 0) → (J_X11_skips_L15 len r Q i2 j2 )) ∧ ((¬ q2 = 0) → (J_X11_isPlace len r (fun (q9 : Int32) (i9 : jI) (j9 : jL) => ((¬ q9 = 0) → (J_X11_isWithin len r (fun (q20 : Int32) (i20 : jI) (j20 : jL) => ((¬ q20 = 0) → (∃ a31, r x0 2 = some a31 ∧ (vp_in x1 (len a31) ∧ ∃ a35, r a31 x1.toNatClampNeg = some a35 ∧ (J_X11_fewestSkips len r (fun (q37 : Int32) (i37 : jI) (j37 : jL) => J_X11_skipsTold len r (fun (q41 : Int32) (i41 : jI) (j41 : jL) => Q q41 i41 j41) i37 j37 q37 x3) i20 j20 x0 a35 x2)))) ∧ ((q20 = 0) → (Q (-102 : Int32) i20 j20))) i9 j9 x3 (1 : Int32))) ∧ ((q9 = 0) → (J_X11_skips_L15 len r Q i9 j9 ))) i2 j2 x2))) i j x0 x1
abbrev rm_X11_skips : Room := { frames := 5, cells := 0, slots := 0, locals := 124 }
variable {p : Program} {l : Launch} {e : Env} {s : State} {m : MethodId} {args : Array Value} {below : List Frame} {meth : Method} {c : Code} {b tU n : Nat} {cy : Nat → ClassId} {D : va_G} {K len : Nat → Nat} {r : jR} {Q : Int32 → jI → jL → Prop}
theorem hiX11_X11_skips : ∀ w ∈ u_ws RX11 TX11 15, w ∈ wsX11_skips := by decide +kernel
set_option maxHeartbeats 4000000 in
set_option maxRecDepth 100000 in
theorem w_X11_skips_L15 (C0 : jCx p s m args c cX11_skips 4 wsX11_skips RX11 b cy D tU n K r) (hr : meth.sig.returnType = some .int) (hlk : meth.locks = false) {H : Heap} {locs : List Loc} {ls : Array Slot} {i : jI} {j : jL}  (w : jDy b cy D n K len r i j s H locs) (hl : lv_has ls 4 []) (h : J_X11_skips_L15 len r Q i j) : W p l e rm_X11_skips s m args below meth c H locs 0 0 (MQ below (jQi b cy D tU n K len r Q) args s 0 0 (jA b)) (F0 m 15 ls []) := by
  obtain ⟨hx, hb, hml, hown, hts, hst, hG⟩ := id C0
  have hiX11 : ∀ w ∈ u_ws RX11 TX11 15, w ∈ wsX11_skips := hiX11_X11_skips
  rw [J_X11_skips_L15] at h
  refine lv_bipush (v := (-101 : Int32)) hx hb dX11_skips_15 (by decide) ?_
  exact jret_i hx hb hr hlk hst w h dX11_skips_17
set_option maxHeartbeats 4000000 in
set_option maxRecDepth 100000 in
theorem c_X11_skips (hG : jG n K r) {i : jI} {j : jL} {x0 : Nat} {x1 : Int32} {x2 : Int32} {x3 : Int32} (hx0 : x0 < n ∧ K x0 = 10) (h : J_X11_skips len r Q i j x0 x1 x2 x3) : Met l yX11_skips wsX11_skips rm_X11_skips (va_Pc [.ref (b + x0), .int x1, .int x2, .int x3] (jPre b cy D tU n K len r i j)) (jQi b cy D tU n K len r Q) 0 0 (jA b) := by
  refine Met.ofW (cc := cX11_skips) (maxL := 4) (ret := (some .int)) (by decide) rfl ?_
  intro p e s m args below meth c s₁ B hml hv
  obtain ⟨rfl, hv⟩ := hv
  have C0 : jCx p s m _ c cX11_skips 4 wsX11_skips RX11 b cy D tU n K r := ⟨B.exec, B.bytes, hml, findClass_of_methodNamed B.named, atoms_spec (ws := wsX11_skips) B.pre, hv.2.2, hG⟩
  have hr := B.returns
  have hlk := B.notSynchronized
  obtain ⟨hx, hb, hml, hown, hts, hst, hG⟩ := id C0
  have hiX11 : ∀ w ∈ u_ws RX11 TX11 15, w ∈ wsX11_skips := hiX11_X11_skips
  have w := jDy.start hv
  have hl := lv_entry ([.ref (b + x0), .int x1, .int x2, .int x3]) (n := 4) (Nat.le_of_ble_eq_true rfl)
  rw [lg_entry_eq]
  generalize (lg_sl ([.ref (b + x0), .int x1, .int x2, .int x3]) ++ List.replicate (4 - (lg_sl ([.ref (b + x0), .int x1, .int x2, .int x3])).length) Slot.unset).toArray = ls at hl ⊢
  replace hl : lv_has ls 4 [(0, .ref (b + x0)), (1, .int x1), (2, .int x2), (3, .int x3)] := hl
  show W p l e rm_X11_skips s m _ below meth c s.heap [] 0 0 _ (F0 m 0 ls [])
  rw [J_X11_skips] at h
  refine lv_aload_n hx hb dX11_skips_0 rfl (lv_at hl 0 rfl) ?_
  refine lv_iload_n hx hb dX11_skips_1 rfl (lv_at hl 1 rfl) ?_
  refine jcV_i (k := x0) (As := [.int x1]) (rest := []) C0 w (c_X11_isWalker hG hx0 h) (cwV 1 hts gX11_skips_X11_isWalker rfl rfl rfl (by decide +kernel) ⟨Nat.le_of_ble_eq_true rfl, Nat.le_of_ble_eq_true rfl⟩) hx0 (rfl : vwCl[10]? = some (RX11, TX11, 15)) (by decide) rfl hl.1 rfl (Nat.le_of_ble_eq_true rfl) dX11_skips_2 (fun q2 i2 j2 H locs h w => ?_) ⟨Nat.zero_le _, Nat.zero_le _⟩
  refine lv_if_eq (tgt := 15) hx hb dX11_skips_5 (by decide) (fun hc => ?_) (fun hc => ?_)
  · replace h := h.1 hc
    clear hc
    exact w_X11_skips_L15 C0 hr hlk w (lv_sub hl [] rfl) h
  · replace h := h.2 hc
    clear hc
    refine lv_iload_n hx hb dX11_skips_8 rfl (lv_at hl 2 rfl) ?_
    refine jcS_i (As := [.int x2]) (rest := []) C0 w (c_X11_isPlace hG h) (va_cwS 1 hts gX11_skips_X11_isPlace rfl rfl rfl (by decide +kernel) ⟨Nat.le_of_ble_eq_true rfl, Nat.le_of_ble_eq_true rfl⟩) rfl hl.1 rfl (Nat.le_of_ble_eq_true rfl) dX11_skips_9 (fun q9 i9 j9 H locs h w => ?_) ⟨Nat.zero_le _, Nat.zero_le _⟩
    refine lv_if_ne (tgt := 18) hx hb dX11_skips_12 (by decide) (fun hc => ?_) (fun hc => ?_)
    · replace h := h.1 hc
      clear hc
      refine lv_iload_n hx hb dX11_skips_18 rfl (lv_at hl 3 rfl) ?_
      refine lv_iconst (v := (1 : Int32)) hx hb dX11_skips_19 (by decide) ?_
      refine jcS_i (As := [.int x3, .int (1 : Int32)]) (rest := []) C0 w (c_X11_isWithin hG h) (va_cwS 2 hts gX11_skips_X11_isWithin rfl rfl rfl (by decide +kernel) ⟨Nat.le_of_ble_eq_true rfl, Nat.le_of_ble_eq_true rfl⟩) rfl hl.1 rfl (Nat.le_of_ble_eq_true rfl) dX11_skips_20 (fun q20 i20 j20 H locs h w => ?_) ⟨Nat.zero_le _, Nat.zero_le _⟩
      refine lv_if_ne (tgt := 29) hx hb dX11_skips_23 (by decide) (fun hc => ?_) (fun hc => ?_)
      · replace h := h.1 hc
        clear hc
        refine lv_aload_n hx hb dX11_skips_29 rfl (lv_at hl 0 rfl) ?_
        refine lv_aload_n hx hb dX11_skips_30 rfl (lv_at hl 0 rfl) ?_
        obtain ⟨a31, hr0, h⟩ := h
        refine jgr (f := 2) hx hb hts hown hst w hG hx0 hiX11 (rfl : vwCl[10]? = some (RX11, TX11, 15)) (hts (.fieldLink RX11 25 "FootByGate" "walkers" "[LFootByGate$Walker;") (by decide +kernel)) ⟨by decide, by decide, rfl⟩ (rfl : jrt 10 2 = 16) dX11_skips_31 hr0 (fun ha31 => ?_)
        clear hr0
        refine lv_iload_n hx hb dX11_skips_34 rfl (lv_at hl 1 rfl) ?_
        obtain ⟨hn, h⟩ := h
        obtain ⟨a35, hr0, h⟩ := h
        refine jaar hx hb hst w hG ha31 hn dX11_skips_35 hr0 (fun ha35 => ?_)
        clear hn hr0
        refine lv_iload_n hx hb dX11_skips_36 rfl (lv_at hl 2 rfl) ?_
        refine jcV_i (k := x0) (As := [.ref (b + a35), .int x2]) (rest := []) C0 w (c_X11_fewestSkips hG hx0 ha35 h) (cwV 2 hts gX11_skips_X11_fewestSkips rfl rfl rfl (by decide +kernel) ⟨Nat.le_of_ble_eq_true rfl, Nat.le_of_ble_eq_true rfl⟩) hx0 (rfl : vwCl[10]? = some (RX11, TX11, 15)) (by decide) rfl hl.1 rfl (Nat.le_of_ble_eq_true rfl) dX11_skips_37 (fun q37 i37 j37 H locs h w => ?_) ⟨Nat.zero_le _, Nat.zero_le _⟩
        refine lv_iload_n hx hb dX11_skips_40 rfl (lv_at hl 3 rfl) ?_
        refine jcS_i (As := [.int q37, .int x3]) (rest := []) C0 w (c_X11_skipsTold hG h) (va_cwS 2 hts gX11_skips_X11_skipsTold rfl rfl rfl (by decide +kernel) ⟨Nat.le_of_ble_eq_true rfl, Nat.le_of_ble_eq_true rfl⟩) rfl hl.1 rfl (Nat.le_of_ble_eq_true rfl) dX11_skips_41 (fun q41 i41 j41 H locs h w => ?_) ⟨Nat.zero_le _, Nat.zero_le _⟩
        exact jret_i hx hb hr hlk hst w h dX11_skips_44
      · replace h := h.2 hc
        clear hc
        refine lv_bipush (v := (-102 : Int32)) hx hb dX11_skips_26 (by decide) ?_
        exact jret_i hx hb hr hlk hst w h dX11_skips_28
    · replace h := h.2 hc
      clear hc
      exact w_X11_skips_L15 C0 hr hlk w (lv_sub hl [] rfl) h
end S_X11_skips
section S_X11_steps
def J_X11_steps_L16 (len : Nat → Nat) (r : jR) (Q : Int32 → jI → jL → Prop) (i : jI) (j : jL) : Prop := Q (-101 : Int32) i j
def J_X11_steps (len : Nat → Nat) (r : jR) (Q : Int32 → jI → jL → Prop) (i : jI) (j : jL) (x0 : Nat) (x1 : Int32) (x2 : Int32) : Prop := J_X11_isWalker len r (fun (q2 : Int32) (i2 : jI) (j2 : jL) => ((q2 = 0) → (J_X11_steps_L16 len r Q i2 j2 )) ∧ ((¬ q2 = 0) → (J_X11_isStreet len r (fun (q10 : Int32) (i10 : jI) (j10 : jL) => ((¬ q10 = 0) → (∃ a20, r x0 2 = some a20 ∧ (vp_in x1 (len a20) ∧ ∃ a24, r a20 x1.toNatClampNeg = some a24 ∧ (∃ a29, r x0 1 = some a29 ∧ (∃ a32, r a29 5 = some a32 ∧ (vp_in x2 (len a32) ∧ (J_X9_stepsOf len r (fun (q37 : Int32) (i37 : jI) (j37 : jL) => Q q37 i37 j37) i10 j10 (i10 a24 0) (i10 a32 x2.toNatClampNeg)))))))) ∧ ((q10 = 0) → (J_X11_steps_L16 len r Q i10 j10 ))) i2 j2 x0 x2))) i j x0 x1
abbrev rm_X11_steps : Room := { frames := 1, cells := 0, slots := 0, locals := 21 }
variable {p : Program} {l : Launch} {e : Env} {s : State} {m : MethodId} {args : Array Value} {below : List Frame} {meth : Method} {c : Code} {b tU n : Nat} {cy : Nat → ClassId} {D : va_G} {K len : Nat → Nat} {r : jR} {Q : Int32 → jI → jL → Prop}
theorem hiX11_X11_steps : ∀ w ∈ u_ws RX11 TX11 15, w ∈ wsX11_steps := by decide +kernel
theorem hiX8_X11_steps : ∀ w ∈ u_ws RX8 TX8 8, w ∈ wsX11_steps := by decide +kernel
theorem hiX9_X11_steps : ∀ w ∈ u_ws RX9 TX9 3, w ∈ wsX11_steps := by decide +kernel
set_option maxHeartbeats 4000000 in
set_option maxRecDepth 100000 in
theorem w_X11_steps_L16 (C0 : jCx p s m args c cX11_steps 3 wsX11_steps RX11 b cy D tU n K r) (hr : meth.sig.returnType = some .int) (hlk : meth.locks = false) {H : Heap} {locs : List Loc} {ls : Array Slot} {i : jI} {j : jL}  (w : jDy b cy D n K len r i j s H locs) (hl : lv_has ls 3 []) (h : J_X11_steps_L16 len r Q i j) : W p l e rm_X11_steps s m args below meth c H locs 0 0 (MQ below (jQi b cy D tU n K len r Q) args s 0 0 (jA b)) (F0 m 16 ls []) := by
  obtain ⟨hx, hb, hml, hown, hts, hst, hG⟩ := id C0
  have hiX11 : ∀ w ∈ u_ws RX11 TX11 15, w ∈ wsX11_steps := hiX11_X11_steps
  have hiX8 : ∀ w ∈ u_ws RX8 TX8 8, w ∈ wsX11_steps := hiX8_X11_steps
  have hiX9 : ∀ w ∈ u_ws RX9 TX9 3, w ∈ wsX11_steps := hiX9_X11_steps
  rw [J_X11_steps_L16] at h
  refine lv_bipush (v := (-101 : Int32)) hx hb dX11_steps_16 (by decide) ?_
  exact jret_i hx hb hr hlk hst w h dX11_steps_18
set_option maxHeartbeats 4000000 in
set_option maxRecDepth 100000 in
theorem c_X11_steps (hG : jG n K r) {i : jI} {j : jL} {x0 : Nat} {x1 : Int32} {x2 : Int32} (hx0 : x0 < n ∧ K x0 = 10) (h : J_X11_steps len r Q i j x0 x1 x2) : Met l yX11_steps wsX11_steps rm_X11_steps (va_Pc [.ref (b + x0), .int x1, .int x2] (jPre b cy D tU n K len r i j)) (jQi b cy D tU n K len r Q) 0 0 (jA b) := by
  refine Met.ofW (cc := cX11_steps) (maxL := 3) (ret := (some .int)) (by decide) rfl ?_
  intro p e s m args below meth c s₁ B hml hv
  obtain ⟨rfl, hv⟩ := hv
  have C0 : jCx p s m _ c cX11_steps 3 wsX11_steps RX11 b cy D tU n K r := ⟨B.exec, B.bytes, hml, findClass_of_methodNamed B.named, atoms_spec (ws := wsX11_steps) B.pre, hv.2.2, hG⟩
  have hr := B.returns
  have hlk := B.notSynchronized
  obtain ⟨hx, hb, hml, hown, hts, hst, hG⟩ := id C0
  have hiX11 : ∀ w ∈ u_ws RX11 TX11 15, w ∈ wsX11_steps := hiX11_X11_steps
  have hiX8 : ∀ w ∈ u_ws RX8 TX8 8, w ∈ wsX11_steps := hiX8_X11_steps
  have hiX9 : ∀ w ∈ u_ws RX9 TX9 3, w ∈ wsX11_steps := hiX9_X11_steps
  have w := jDy.start hv
  have hl := lv_entry ([.ref (b + x0), .int x1, .int x2]) (n := 3) (Nat.le_of_ble_eq_true rfl)
  rw [lg_entry_eq]
  generalize (lg_sl ([.ref (b + x0), .int x1, .int x2]) ++ List.replicate (3 - (lg_sl ([.ref (b + x0), .int x1, .int x2])).length) Slot.unset).toArray = ls at hl ⊢
  replace hl : lv_has ls 3 [(0, .ref (b + x0)), (1, .int x1), (2, .int x2)] := hl
  show W p l e rm_X11_steps s m _ below meth c s.heap [] 0 0 _ (F0 m 0 ls [])
  rw [J_X11_steps] at h
  refine lv_aload_n hx hb dX11_steps_0 rfl (lv_at hl 0 rfl) ?_
  refine lv_iload_n hx hb dX11_steps_1 rfl (lv_at hl 1 rfl) ?_
  refine jcV_i (k := x0) (As := [.int x1]) (rest := []) C0 w (c_X11_isWalker hG hx0 h) (cwV 1 hts gX11_steps_X11_isWalker rfl rfl rfl (by decide +kernel) ⟨Nat.le_of_ble_eq_true rfl, Nat.le_of_ble_eq_true rfl⟩) hx0 (rfl : vwCl[10]? = some (RX11, TX11, 15)) (by decide) rfl hl.1 rfl (Nat.le_of_ble_eq_true rfl) dX11_steps_2 (fun q2 i2 j2 H locs h w => ?_) ⟨Nat.zero_le _, Nat.zero_le _⟩
  refine lv_if_eq (tgt := 16) hx hb dX11_steps_5 (by decide) (fun hc => ?_) (fun hc => ?_)
  · replace h := h.1 hc
    clear hc
    exact w_X11_steps_L16 C0 hr hlk w (lv_sub hl [] rfl) h
  · replace h := h.2 hc
    clear hc
    refine lv_aload_n hx hb dX11_steps_8 rfl (lv_at hl 0 rfl) ?_
    refine lv_iload_n hx hb dX11_steps_9 rfl (lv_at hl 2 rfl) ?_
    refine jcV_i (k := x0) (As := [.int x2]) (rest := []) C0 w (c_X11_isStreet hG hx0 h) (cwV 1 hts gX11_steps_X11_isStreet rfl rfl rfl (by decide +kernel) ⟨Nat.le_of_ble_eq_true rfl, Nat.le_of_ble_eq_true rfl⟩) hx0 (rfl : vwCl[10]? = some (RX11, TX11, 15)) (by decide) rfl hl.1 rfl (Nat.le_of_ble_eq_true rfl) dX11_steps_10 (fun q10 i10 j10 H locs h w => ?_) ⟨Nat.zero_le _, Nat.zero_le _⟩
    refine lv_if_ne (tgt := 19) hx hb dX11_steps_13 (by decide) (fun hc => ?_) (fun hc => ?_)
    · replace h := h.1 hc
      clear hc
      refine lv_aload_n hx hb dX11_steps_19 rfl (lv_at hl 0 rfl) ?_
      obtain ⟨a20, hr0, h⟩ := h
      refine jgr (f := 2) hx hb hts hown hst w hG hx0 hiX11 (rfl : vwCl[10]? = some (RX11, TX11, 15)) (hts (.fieldLink RX11 25 "FootByGate" "walkers" "[LFootByGate$Walker;") (by decide +kernel)) ⟨by decide, by decide, rfl⟩ (rfl : jrt 10 2 = 16) dX11_steps_20 hr0 (fun ha20 => ?_)
      clear hr0
      refine lv_iload_n hx hb dX11_steps_23 rfl (lv_at hl 1 rfl) ?_
      obtain ⟨hn, h⟩ := h
      obtain ⟨a24, hr0, h⟩ := h
      refine jaar hx hb hst w hG ha20 hn dX11_steps_24 hr0 (fun ha24 => ?_)
      clear hn hr0
      refine jgi (f := 0) hx hb hts hown hst w ha24 hiX9 (rfl : vwCl[8]? = some (RX9, TX9, 3)) (hts (.fieldLink RX11 137 "FootByGate$Walker" "kind" "I") (by decide +kernel)) ⟨by decide, by decide, rfl⟩ dX11_steps_25 ?_
      refine lv_aload_n hx hb dX11_steps_28 rfl (lv_at hl 0 rfl) ?_
      obtain ⟨a29, hr0, h⟩ := h
      refine jgr (f := 1) hx hb hts hown hst w hG hx0 hiX11 (rfl : vwCl[10]? = some (RX11, TX11, 15)) (hts (.fieldLink RX11 19 "FootByGate" "map" "LFootByGate$Town;") (by decide +kernel)) ⟨by decide, by decide, rfl⟩ (rfl : jrt 10 1 = 7) dX11_steps_29 hr0 (fun ha29 => ?_)
      clear hr0
      obtain ⟨a32, hr0, h⟩ := h
      refine jgr (f := 5) hx hb hts hown hst w hG ha29 hiX8 (rfl : vwCl[7]? = some (RX8, TX8, 8)) (hts (.fieldLink RX11 118 "FootByGate$Town" "paces" "[I") (by decide +kernel)) ⟨by decide, by decide, rfl⟩ (rfl : jrt 7 5 = 13) dX11_steps_32 hr0 (fun ha32 => ?_)
      clear hr0
      refine lv_iload_n hx hb dX11_steps_35 rfl (lv_at hl 2 rfl) ?_
      obtain ⟨hn, h⟩ := h
      refine jaid hx hb hst w ha32 hn dX11_steps_36 ?_
      clear hn
      refine jcS_i (As := [.int (i10 a24 0), .int (i10 a32 x2.toNatClampNeg)]) (rest := []) C0 w (c_X9_stepsOf hG h) (va_cwS 2 hts gX11_steps_X9_stepsOf rfl rfl rfl (by decide +kernel) ⟨Nat.le_of_ble_eq_true rfl, Nat.le_of_ble_eq_true rfl⟩) rfl hl.1 rfl (Nat.le_of_ble_eq_true rfl) dX11_steps_37 (fun q37 i37 j37 H locs h w => ?_) ⟨Nat.zero_le _, Nat.zero_le _⟩
      exact jret_i hx hb hr hlk hst w h dX11_steps_40
    · replace h := h.2 hc
      clear hc
      exact w_X11_steps_L16 C0 hr hlk w (lv_sub hl [] rfl) h
end S_X11_steps
section S_X11_stonesTo
def J_X11_stonesTo_L144 (len : Nat → Nat) (r : jR) (Q : Int32 → jI → jL → Prop) (Hd82 : jI → jL → Nat → Nat → Int32 → Int32 → Int32 → Prop) (Hd97 : jI → jL → Nat → Nat → Int32 → Int32 → Int32 → Int32 → Prop) (i : jI) (j : jL) (x0 : Nat) (x1 : Nat) (x2 : Int32) (x3 : Int32) (x4 : Int32) (x5 : Int32) : Prop := ∀ v144 : Int32, v144 = x5 + (1 : Int32) → (Hd97 i j x0 x1 x2 x3 x4 v144)
def J_X11_stonesTo_L97 (len : Nat → Nat) (r : jR) (Q : Int32 → jI → jL → Prop) (Hd82 : jI → jL → Nat → Nat → Int32 → Int32 → Int32 → Prop) : Nat → jI → jL → Nat → Nat → Int32 → Int32 → Int32 → Int32 → Prop
  | 0 => fun _ _ _ _ _ _ _ _ => False
  | g + 1 => fun i j x0 x1 x2 x3 x4 x5 => ∃ a101, r x0 1 = some a101 ∧ (((((1 : Int32) <<< ((i a101 0) &&& 31)) ≤ x5) → (∀ v150 : Int32, v150 = x4 + (1 : Int32) → (Hd82 i j x0 x1 x2 x3 v150))) ∧ ((¬ ((1 : Int32) <<< ((i a101 0) &&& 31)) ≤ x5) → (J_J6_bitCount_0f7a4 len r (fun (q113 : Int32) (i113 : jI) (j113 : jL) => ((¬ q113 = x4) → (J_X11_stonesTo_L144 len r Q Hd82 (J_X11_stonesTo_L97 len r Q Hd82 g) i113 j113 x0 x1 x2 x3 x4 x5)) ∧ ((q113 = x4) → (((¬ (x5 &&& (x3 ^^^ (-1 : Int32))) = 0) → (J_X11_stonesTo_L144 len r Q Hd82 (J_X11_stonesTo_L97 len r Q Hd82 g) i113 j113 x0 x1 x2 x3 x4 x5)) ∧ (((x5 &&& (x3 ^^^ (-1 : Int32))) = 0) → (J_X11_comesByStones len r (fun (q135 : Int32) (i135 : jI) (j135 : jL) => ((q135 = 0) → (J_X11_stonesTo_L144 len r Q Hd82 (J_X11_stonesTo_L97 len r Q Hd82 g) i135 j135 x0 x1 x2 x3 x4 x5)) ∧ ((¬ q135 = 0) → (Q x5 i135 j135))) i113 j113 x0 x1 x2 x5))))) i j x5)))
def J_X11_stonesTo_L82 (len : Nat → Nat) (r : jR) (Q : Int32 → jI → jL → Prop) : Nat → jI → jL → Nat → Nat → Int32 → Int32 → Int32 → Prop
  | 0 => fun _ _ _ _ _ _ _ => False
  | g + 1 => fun i j x0 x1 x2 x3 x4 => ∃ a85, r x0 1 = some a85 ∧ ((((i a85 0) < x4) → (Q (-1 : Int32) i j)) ∧ ((¬ (i a85 0) < x4) → (∃ g0, J_X11_stonesTo_L97 len r Q (J_X11_stonesTo_L82 len r Q g) g0 i j x0 x1 x2 x3 x4 (0 : Int32))))
def J_X11_stonesTo (len : Nat → Nat) (r : jR) (Q : Int32 → jI → jL → Prop) (i : jI) (j : jL) (x0 : Nat) (x1 : Nat) (x2 : Int32) : Prop := ∃ a1, r x0 9 = some a1 ∧ (∃ a9, r x0 1 = some a9 ∧ (J_X2_take len r (fun (i12 : jI) (j12 : jL) => J_X11_turnedByStone len r (fun (q20 : Int32) (i20 : jI) (j20 : jL) => ∃ a25, r x0 12 = some a25 ∧ (∃ a29, r x0 9 = some a29 ∧ (∃ a33, r x0 1 = some a33 ∧ (J_X6_take len r (fun (i39 : jI) (j39 : jL) => ∃ a43, r x0 12 = some a43 ∧ (J_X6_loosen len r (fun (i47 : jI) (j47 : jL) => ∃ a51, r x0 12 = some a51 ∧ (∃ a55, r x0 1 = some a55 ∧ (J_X6_spread len r (fun (i63 : jI) (j63 : jL) => ∃ a67, r x0 12 = some a67 ∧ (J_X6_hasPlace len r (fun (q71 : Int32) (i71 : jI) (j71 : jL) => ((¬ q71 = 0) → (∃ g0, J_X11_stonesTo_L82 len r Q g0 i71 j71 x0 x1 x2 q20 (0 : Int32))) ∧ ((q71 = 0) → (Q (-1 : Int32) i71 j71))) i63 j63 a67 x2)) i47 j47 a51 a55 (i47 x1 1) (1 : Int32)))) i39 j39 a43 q20)) i20 j20 a25 a29 (i20 a33 0))))) i12 j12 x0 (i12 x1 0)) i j a1 (i x1 0) a9))
abbrev rm_X11_stonesTo : Room := { frames := 4, cells := 0, slots := 0, locals := 105 }
variable {p : Program} {l : Launch} {e : Env} {s : State} {m : MethodId} {args : Array Value} {below : List Frame} {meth : Method} {c : Code} {b tU n : Nat} {cy : Nat → ClassId} {D : va_G} {K len : Nat → Nat} {r : jR} {Q : Int32 → jI → jL → Prop}
theorem hiX11_X11_stonesTo : ∀ w ∈ u_ws RX11 TX11 15, w ∈ wsX11_stonesTo := by decide +kernel
theorem hiX8_X11_stonesTo : ∀ w ∈ u_ws RX8 TX8 8, w ∈ wsX11_stonesTo := by decide +kernel
theorem hiX9_X11_stonesTo : ∀ w ∈ u_ws RX9 TX9 3, w ∈ wsX11_stonesTo := by decide +kernel
set_option maxHeartbeats 4000000 in
set_option maxRecDepth 100000 in
theorem w_X11_stonesTo_L144 (C0 : jCx p s m args c cX11_stonesTo 6 wsX11_stonesTo RX11 b cy D tU n K r) (hr : meth.sig.returnType = some .int) (hlk : meth.locks = false) {Hd82 : jI → jL → Nat → Nat → Int32 → Int32 → Int32 → Prop} (k82 : ∀ {H : Heap} {locs : List Loc} {ls : Array Slot} {i : jI} {j : jL} {x0 : Nat} {x1 : Nat} {x2 : Int32} {x3 : Int32} {x4 : Int32} (w : jDy b cy D n K len r i j s H locs) (hx0 : x0 < n ∧ K x0 = 10) (hx1 : x1 < n ∧ K x1 = 8) (hl : lv_has ls 6 [(0, .ref (b + x0)), (1, .ref (b + x1)), (2, .int x2), (3, .int x3), (4, .int x4)]) (h : Hd82 i j x0 x1 x2 x3 x4), W p l e rm_X11_stonesTo s m args below meth c H locs 0 0 (MQ below (jQi b cy D tU n K len r Q) args s 0 0 (jA b)) (F0 m 82 ls [])) {Hd97 : jI → jL → Nat → Nat → Int32 → Int32 → Int32 → Int32 → Prop} (k97 : ∀ {H : Heap} {locs : List Loc} {ls : Array Slot} {i : jI} {j : jL} {x0 : Nat} {x1 : Nat} {x2 : Int32} {x3 : Int32} {x4 : Int32} {x5 : Int32} (w : jDy b cy D n K len r i j s H locs) (hx0 : x0 < n ∧ K x0 = 10) (hx1 : x1 < n ∧ K x1 = 8) (hl : lv_has ls 6 [(0, .ref (b + x0)), (1, .ref (b + x1)), (2, .int x2), (3, .int x3), (4, .int x4), (5, .int x5)]) (h : Hd97 i j x0 x1 x2 x3 x4 x5), W p l e rm_X11_stonesTo s m args below meth c H locs 0 0 (MQ below (jQi b cy D tU n K len r Q) args s 0 0 (jA b)) (F0 m 97 ls [])) {H : Heap} {locs : List Loc} {ls : Array Slot} {i : jI} {j : jL} {x0 : Nat} {x1 : Nat} {x2 : Int32} {x3 : Int32} {x4 : Int32} {x5 : Int32} (w : jDy b cy D n K len r i j s H locs) (hx0 : x0 < n ∧ K x0 = 10) (hx1 : x1 < n ∧ K x1 = 8) (hl : lv_has ls 6 [(0, .ref (b + x0)), (1, .ref (b + x1)), (2, .int x2), (3, .int x3), (4, .int x4), (5, .int x5)]) (h : J_X11_stonesTo_L144 len r Q Hd82 Hd97 i j x0 x1 x2 x3 x4 x5) : W p l e rm_X11_stonesTo s m args below meth c H locs 0 0 (MQ below (jQi b cy D tU n K len r Q) args s 0 0 (jA b)) (F0 m 144 ls []) := by
  obtain ⟨hx, hb, hml, hown, hts, hst, hG⟩ := id C0
  have hiX11 : ∀ w ∈ u_ws RX11 TX11 15, w ∈ wsX11_stonesTo := hiX11_X11_stonesTo
  have hiX8 : ∀ w ∈ u_ws RX8 TX8 8, w ∈ wsX11_stonesTo := hiX8_X11_stonesTo
  have hiX9 : ∀ w ∈ u_ws RX9 TX9 3, w ∈ wsX11_stonesTo := hiX9_X11_stonesTo
  rw [J_X11_stonesTo_L144] at h
  obtain ⟨v144, he⟩ : ∃ z : Int32, z = x5 + (1 : Int32) := ⟨_, rfl⟩
  replace h := h v144 he
  refine lv_iinc (v := v144) (lv' := [(5, .int v144), (0, .ref (b + x0)), (1, .ref (b + x1)), (2, .int x2), (3, .int x3), (4, .int x4)]) hx hb dX11_stonesTo_144 hl (k := 5) rfl (by rw [he]; rfl) (by decide) rfl (fun ls hl => ?_)
  clear he
  refine lv_goto (tgt := 97) hx hb dX11_stonesTo_147 (by decide) ?_
  exact k97 w hx0 hx1 (lv_sub hl [1, 2, 3, 4, 5, 0] rfl) h
set_option maxHeartbeats 4000000 in
set_option maxRecDepth 100000 in
theorem w_X11_stonesTo_L97 (C0 : jCx p s m args c cX11_stonesTo 6 wsX11_stonesTo RX11 b cy D tU n K r) (hr : meth.sig.returnType = some .int) (hlk : meth.locks = false) {Hd82 : jI → jL → Nat → Nat → Int32 → Int32 → Int32 → Prop} (k82 : ∀ {H : Heap} {locs : List Loc} {ls : Array Slot} {i : jI} {j : jL} {x0 : Nat} {x1 : Nat} {x2 : Int32} {x3 : Int32} {x4 : Int32} (w : jDy b cy D n K len r i j s H locs) (hx0 : x0 < n ∧ K x0 = 10) (hx1 : x1 < n ∧ K x1 = 8) (hl : lv_has ls 6 [(0, .ref (b + x0)), (1, .ref (b + x1)), (2, .int x2), (3, .int x3), (4, .int x4)]) (h : Hd82 i j x0 x1 x2 x3 x4), W p l e rm_X11_stonesTo s m args below meth c H locs 0 0 (MQ below (jQi b cy D tU n K len r Q) args s 0 0 (jA b)) (F0 m 82 ls [])) : ∀ (g : Nat) {H : Heap} {locs : List Loc} {ls : Array Slot} {i : jI} {j : jL} {x0 : Nat} {x1 : Nat} {x2 : Int32} {x3 : Int32} {x4 : Int32} {x5 : Int32} (w : jDy b cy D n K len r i j s H locs) (hx0 : x0 < n ∧ K x0 = 10) (hx1 : x1 < n ∧ K x1 = 8) (hl : lv_has ls 6 [(0, .ref (b + x0)), (1, .ref (b + x1)), (2, .int x2), (3, .int x3), (4, .int x4), (5, .int x5)]) (h : J_X11_stonesTo_L97 len r Q Hd82 g i j x0 x1 x2 x3 x4 x5), W p l e rm_X11_stonesTo s m args below meth c H locs 0 0 (MQ below (jQi b cy D tU n K len r Q) args s 0 0 (jA b)) (F0 m 97 ls []) := by
  obtain ⟨hx, hb, hml, hown, hts, hst, hG⟩ := id C0
  have hiX11 : ∀ w ∈ u_ws RX11 TX11 15, w ∈ wsX11_stonesTo := hiX11_X11_stonesTo
  have hiX8 : ∀ w ∈ u_ws RX8 TX8 8, w ∈ wsX11_stonesTo := hiX8_X11_stonesTo
  have hiX9 : ∀ w ∈ u_ws RX9 TX9 3, w ∈ wsX11_stonesTo := hiX9_X11_stonesTo
  intro g
  induction g with
  | zero => intro H locs ls i j x0 x1 x2 x3 x4 x5 w hx0 hx1 hl h; exact False.elim h
  | succ g ih =>
    intro H locs ls i j x0 x1 x2 x3 x4 x5 w hx0 hx1 hl h
    rw [J_X11_stonesTo_L97] at h
    refine lv_iload hx hb dX11_stonesTo_97 (lv_at hl 5 rfl) ?_
    refine lv_iconst (v := (1 : Int32)) hx hb dX11_stonesTo_99 (by decide) ?_
    refine lv_aload_n hx hb dX11_stonesTo_100 rfl (lv_at hl 0 rfl) ?_
    obtain ⟨a101, hr0, h⟩ := h
    refine jgr (f := 1) hx hb hts hown hst w hG hx0 hiX11 (rfl : vwCl[10]? = some (RX11, TX11, 15)) (hts (.fieldLink RX11 19 "FootByGate" "map" "LFootByGate$Town;") (by decide +kernel)) ⟨by decide, by decide, rfl⟩ (rfl : jrt 10 1 = 7) dX11_stonesTo_101 hr0 (fun ha101 => ?_)
    clear hr0
    refine jgi (f := 0) hx hb hts hown hst w ha101 hiX8 (rfl : vwCl[7]? = some (RX8, TX8, 8)) (hts (.fieldLink RX11 105 "FootByGate$Town" "streets" "I") (by decide +kernel)) ⟨by decide, by decide, rfl⟩ dX11_stonesTo_104 ?_
    refine lv_ishl hx hb dX11_stonesTo_107 ?_
    refine lv_icmp_ge (tgt := 150) hx hb dX11_stonesTo_108 (by decide) (fun hc => ?_) (fun hc => ?_)
    · replace h := h.1 hc
      clear hc
      obtain ⟨v150, he⟩ : ∃ z : Int32, z = x4 + (1 : Int32) := ⟨_, rfl⟩
      replace h := h v150 he
      refine lv_iinc (v := v150) (lv' := [(4, .int v150), (0, .ref (b + x0)), (1, .ref (b + x1)), (2, .int x2), (3, .int x3), (5, .int x5)]) hx hb dX11_stonesTo_150 hl (k := 4) rfl (by rw [he]; rfl) (by decide) rfl (fun ls hl => ?_)
      clear he
      refine lv_goto (tgt := 82) hx hb dX11_stonesTo_153 (by decide) ?_
      exact k82 w hx0 hx1 (lv_sub hl [1, 2, 3, 4, 0] rfl) h
    · replace h := h.2 hc
      clear hc
      refine lv_iload hx hb dX11_stonesTo_111 (lv_at hl 5 rfl) ?_
      refine jcS_i (As := [.int x5]) (rest := []) C0 w (c_J6_bitCount_0f7a4 hG h) (va_cwS 1 hts gX11_stonesTo_J6_bitCount_0f7a4 rfl rfl rfl (by decide +kernel) ⟨Nat.le_of_ble_eq_true rfl, Nat.le_of_ble_eq_true rfl⟩) rfl hl.1 rfl (Nat.le_of_ble_eq_true rfl) dX11_stonesTo_113 (fun q113 i113 j113 H locs h w => ?_) ⟨Nat.zero_le _, Nat.zero_le _⟩
      refine lv_iload hx hb dX11_stonesTo_116 (lv_at hl 4 rfl) ?_
      refine lv_icmp_ne (tgt := 144) hx hb dX11_stonesTo_118 (by decide) (fun hc => ?_) (fun hc => ?_)
      · replace h := h.1 hc
        clear hc
        exact w_X11_stonesTo_L144 C0 hr hlk (fun w hx0 hx1 hl h => k82 w hx0 hx1 hl h) (fun w hx0 hx1 hl h => ih w hx0 hx1 hl h) w hx0 hx1 (lv_sub hl [0, 1, 2, 3, 4, 5] rfl) h
      · replace h := h.2 hc
        clear hc
        refine lv_iload hx hb dX11_stonesTo_121 (lv_at hl 5 rfl) ?_
        refine lv_iload_n hx hb dX11_stonesTo_123 rfl (lv_at hl 3 rfl) ?_
        refine lv_iconst (v := (-1 : Int32)) hx hb dX11_stonesTo_124 (by decide) ?_
        refine lv_ixor hx hb dX11_stonesTo_125 ?_
        refine lv_iand hx hb dX11_stonesTo_126 ?_
        refine lv_if_ne (tgt := 144) hx hb dX11_stonesTo_127 (by decide) (fun hc => ?_) (fun hc => ?_)
        · replace h := h.1 hc
          clear hc
          exact w_X11_stonesTo_L144 C0 hr hlk (fun w hx0 hx1 hl h => k82 w hx0 hx1 hl h) (fun w hx0 hx1 hl h => ih w hx0 hx1 hl h) w hx0 hx1 (lv_sub hl [0, 1, 2, 3, 4, 5] rfl) h
        · replace h := h.2 hc
          clear hc
          refine lv_aload_n hx hb dX11_stonesTo_130 rfl (lv_at hl 0 rfl) ?_
          refine lv_aload_n hx hb dX11_stonesTo_131 rfl (lv_at hl 1 rfl) ?_
          refine lv_iload_n hx hb dX11_stonesTo_132 rfl (lv_at hl 2 rfl) ?_
          refine lv_iload hx hb dX11_stonesTo_133 (lv_at hl 5 rfl) ?_
          refine jcV_i (k := x0) (As := [.ref (b + x1), .int x2, .int x5]) (rest := []) C0 w (c_X11_comesByStones hG hx0 hx1 h) (cwV 3 hts gX11_stonesTo_X11_comesByStones rfl rfl rfl (by decide +kernel) ⟨Nat.le_of_ble_eq_true rfl, Nat.le_of_ble_eq_true rfl⟩) hx0 (rfl : vwCl[10]? = some (RX11, TX11, 15)) (by decide) rfl hl.1 rfl (Nat.le_of_ble_eq_true rfl) dX11_stonesTo_135 (fun q135 i135 j135 H locs h w => ?_) ⟨Nat.zero_le _, Nat.zero_le _⟩
          refine lv_if_eq (tgt := 144) hx hb dX11_stonesTo_138 (by decide) (fun hc => ?_) (fun hc => ?_)
          · replace h := h.1 hc
            clear hc
            exact w_X11_stonesTo_L144 C0 hr hlk (fun w hx0 hx1 hl h => k82 w hx0 hx1 hl h) (fun w hx0 hx1 hl h => ih w hx0 hx1 hl h) w hx0 hx1 (lv_sub hl [0, 1, 2, 3, 4, 5] rfl) h
          · replace h := h.2 hc
            clear hc
            refine lv_iload hx hb dX11_stonesTo_141 (lv_at hl 5 rfl) ?_
            exact jret_i hx hb hr hlk hst w h dX11_stonesTo_143
set_option maxHeartbeats 4000000 in
set_option maxRecDepth 100000 in
theorem w_X11_stonesTo_L82 (C0 : jCx p s m args c cX11_stonesTo 6 wsX11_stonesTo RX11 b cy D tU n K r) (hr : meth.sig.returnType = some .int) (hlk : meth.locks = false) : ∀ (g : Nat) {H : Heap} {locs : List Loc} {ls : Array Slot} {i : jI} {j : jL} {x0 : Nat} {x1 : Nat} {x2 : Int32} {x3 : Int32} {x4 : Int32} (w : jDy b cy D n K len r i j s H locs) (hx0 : x0 < n ∧ K x0 = 10) (hx1 : x1 < n ∧ K x1 = 8) (hl : lv_has ls 6 [(0, .ref (b + x0)), (1, .ref (b + x1)), (2, .int x2), (3, .int x3), (4, .int x4)]) (h : J_X11_stonesTo_L82 len r Q g i j x0 x1 x2 x3 x4), W p l e rm_X11_stonesTo s m args below meth c H locs 0 0 (MQ below (jQi b cy D tU n K len r Q) args s 0 0 (jA b)) (F0 m 82 ls []) := by
  obtain ⟨hx, hb, hml, hown, hts, hst, hG⟩ := id C0
  have hiX11 : ∀ w ∈ u_ws RX11 TX11 15, w ∈ wsX11_stonesTo := hiX11_X11_stonesTo
  have hiX8 : ∀ w ∈ u_ws RX8 TX8 8, w ∈ wsX11_stonesTo := hiX8_X11_stonesTo
  have hiX9 : ∀ w ∈ u_ws RX9 TX9 3, w ∈ wsX11_stonesTo := hiX9_X11_stonesTo
  intro g
  induction g with
  | zero => intro H locs ls i j x0 x1 x2 x3 x4 w hx0 hx1 hl h; exact False.elim h
  | succ g ih =>
    intro H locs ls i j x0 x1 x2 x3 x4 w hx0 hx1 hl h
    rw [J_X11_stonesTo_L82] at h
    refine lv_iload hx hb dX11_stonesTo_82 (lv_at hl 4 rfl) ?_
    refine lv_aload_n hx hb dX11_stonesTo_84 rfl (lv_at hl 0 rfl) ?_
    obtain ⟨a85, hr0, h⟩ := h
    refine jgr (f := 1) hx hb hts hown hst w hG hx0 hiX11 (rfl : vwCl[10]? = some (RX11, TX11, 15)) (hts (.fieldLink RX11 19 "FootByGate" "map" "LFootByGate$Town;") (by decide +kernel)) ⟨by decide, by decide, rfl⟩ (rfl : jrt 10 1 = 7) dX11_stonesTo_85 hr0 (fun ha85 => ?_)
    clear hr0
    refine jgi (f := 0) hx hb hts hown hst w ha85 hiX8 (rfl : vwCl[7]? = some (RX8, TX8, 8)) (hts (.fieldLink RX11 105 "FootByGate$Town" "streets" "I") (by decide +kernel)) ⟨by decide, by decide, rfl⟩ dX11_stonesTo_88 ?_
    refine lv_icmp_gt (tgt := 156) hx hb dX11_stonesTo_91 (by decide) (fun hc => ?_) (fun hc => ?_)
    · replace h := h.1 hc
      clear hc
      refine lv_iconst (v := (-1 : Int32)) hx hb dX11_stonesTo_156 (by decide) ?_
      exact jret_i hx hb hr hlk hst w h dX11_stonesTo_157
    · replace h := h.2 hc
      clear hc
      refine lv_iconst (v := (0 : Int32)) hx hb dX11_stonesTo_94 (by decide) ?_
      refine lv_istore (lv' := [(5, .int (0 : Int32)), (0, .ref (b + x0)), (1, .ref (b + x1)), (2, .int x2), (3, .int x3), (4, .int x4)]) hx hb dX11_stonesTo_95 hl (by decide) rfl (fun ls hl => ?_)
      obtain ⟨g0, h⟩ := h
      exact w_X11_stonesTo_L97 C0 hr hlk (fun w hx0 hx1 hl h => ih w hx0 hx1 hl h) g0 w hx0 hx1 (lv_sub hl [1, 2, 3, 4, 5, 0] rfl) h
set_option maxHeartbeats 4000000 in
set_option maxRecDepth 100000 in
theorem c_X11_stonesTo (hG : jG n K r) {i : jI} {j : jL} {x0 : Nat} {x1 : Nat} {x2 : Int32} (hx0 : x0 < n ∧ K x0 = 10) (hx1 : x1 < n ∧ K x1 = 8) (h : J_X11_stonesTo len r Q i j x0 x1 x2) : Met l yX11_stonesTo wsX11_stonesTo rm_X11_stonesTo (va_Pc [.ref (b + x0), .ref (b + x1), .int x2] (jPre b cy D tU n K len r i j)) (jQi b cy D tU n K len r Q) 0 0 (jA b) := by
  refine Met.ofW (cc := cX11_stonesTo) (maxL := 6) (ret := (some .int)) (by decide) rfl ?_
  intro p e s m args below meth c s₁ B hml hv
  obtain ⟨rfl, hv⟩ := hv
  have C0 : jCx p s m _ c cX11_stonesTo 6 wsX11_stonesTo RX11 b cy D tU n K r := ⟨B.exec, B.bytes, hml, findClass_of_methodNamed B.named, atoms_spec (ws := wsX11_stonesTo) B.pre, hv.2.2, hG⟩
  have hr := B.returns
  have hlk := B.notSynchronized
  obtain ⟨hx, hb, hml, hown, hts, hst, hG⟩ := id C0
  have hiX11 : ∀ w ∈ u_ws RX11 TX11 15, w ∈ wsX11_stonesTo := hiX11_X11_stonesTo
  have hiX8 : ∀ w ∈ u_ws RX8 TX8 8, w ∈ wsX11_stonesTo := hiX8_X11_stonesTo
  have hiX9 : ∀ w ∈ u_ws RX9 TX9 3, w ∈ wsX11_stonesTo := hiX9_X11_stonesTo
  have w := jDy.start hv
  have hl := lv_entry ([.ref (b + x0), .ref (b + x1), .int x2]) (n := 6) (Nat.le_of_ble_eq_true rfl)
  rw [lg_entry_eq]
  generalize (lg_sl ([.ref (b + x0), .ref (b + x1), .int x2]) ++ List.replicate (6 - (lg_sl ([.ref (b + x0), .ref (b + x1), .int x2])).length) Slot.unset).toArray = ls at hl ⊢
  replace hl : lv_has ls 6 [(0, .ref (b + x0)), (1, .ref (b + x1)), (2, .int x2)] := hl
  show W p l e rm_X11_stonesTo s m _ below meth c s.heap [] 0 0 _ (F0 m 0 ls [])
  rw [J_X11_stonesTo] at h
  refine lv_aload_n hx hb dX11_stonesTo_0 rfl (lv_at hl 0 rfl) ?_
  obtain ⟨a1, hr0, h⟩ := h
  refine jgr (f := 9) hx hb hts hown hst w hG hx0 hiX11 (rfl : vwCl[10]? = some (RX11, TX11, 15)) (hts (.fieldLink RX11 43 "FootByGate" "gait" "LFootByGate$Gait;") (by decide +kernel)) ⟨by decide, by decide, rfl⟩ (rfl : jrt 10 9 = 2) dX11_stonesTo_1 hr0 (fun ha1 => ?_)
  clear hr0
  refine lv_aload_n hx hb dX11_stonesTo_4 rfl (lv_at hl 1 rfl) ?_
  refine jgi (f := 0) hx hb hts hown hst w hx1 hiX9 (rfl : vwCl[8]? = some (RX9, TX9, 3)) (hts (.fieldLink RX11 137 "FootByGate$Walker" "kind" "I") (by decide +kernel)) ⟨by decide, by decide, rfl⟩ dX11_stonesTo_5 ?_
  refine lv_aload_n hx hb dX11_stonesTo_8 rfl (lv_at hl 0 rfl) ?_
  obtain ⟨a9, hr0, h⟩ := h
  refine jgr (f := 1) hx hb hts hown hst w hG hx0 hiX11 (rfl : vwCl[10]? = some (RX11, TX11, 15)) (hts (.fieldLink RX11 19 "FootByGate" "map" "LFootByGate$Town;") (by decide +kernel)) ⟨by decide, by decide, rfl⟩ (rfl : jrt 10 1 = 7) dX11_stonesTo_9 hr0 (fun ha9 => ?_)
  clear hr0
  refine jcV_v (k := a1) (As := [.int (i x1 0), .ref (b + a9)]) (rest := []) C0 w (c_X2_take hG ha1 ha9 h) (cwV 2 hts gX11_stonesTo_X2_take rfl rfl rfl (by decide +kernel) ⟨Nat.le_of_ble_eq_true rfl, Nat.le_of_ble_eq_true rfl⟩) ha1 (rfl : vwCl[2]? = some (RX2, TX2, 2)) (by decide) rfl hl.1 rfl (Nat.le_of_ble_eq_true rfl) dX11_stonesTo_12 (fun i12 j12 H locs h w => ?_) ⟨Nat.zero_le _, Nat.zero_le _⟩
  refine lv_aload_n hx hb dX11_stonesTo_15 rfl (lv_at hl 0 rfl) ?_
  refine lv_aload_n hx hb dX11_stonesTo_16 rfl (lv_at hl 1 rfl) ?_
  refine jgi (f := 0) hx hb hts hown hst w hx1 hiX9 (rfl : vwCl[8]? = some (RX9, TX9, 3)) (hts (.fieldLink RX11 137 "FootByGate$Walker" "kind" "I") (by decide +kernel)) ⟨by decide, by decide, rfl⟩ dX11_stonesTo_17 ?_
  refine jcV_i (k := x0) (As := [.int (i12 x1 0)]) (rest := []) C0 w (c_X11_turnedByStone hG hx0 h) (cwV 1 hts gX11_stonesTo_X11_turnedByStone rfl rfl rfl (by decide +kernel) ⟨Nat.le_of_ble_eq_true rfl, Nat.le_of_ble_eq_true rfl⟩) hx0 (rfl : vwCl[10]? = some (RX11, TX11, 15)) (by decide) rfl hl.1 rfl (Nat.le_of_ble_eq_true rfl) dX11_stonesTo_20 (fun q20 i20 j20 H locs h w => ?_) ⟨Nat.zero_le _, Nat.zero_le _⟩
  refine lv_istore_n (lv' := [(3, .int q20), (0, .ref (b + x0)), (1, .ref (b + x1)), (2, .int x2)]) hx hb dX11_stonesTo_23 rfl hl (by decide) rfl (fun ls hl => ?_)
  refine lv_aload_n hx hb dX11_stonesTo_24 rfl (lv_at hl 1 rfl) ?_
  obtain ⟨a25, hr0, h⟩ := h
  refine jgr (f := 12) hx hb hts hown hst w hG hx0 hiX11 (rfl : vwCl[10]? = some (RX11, TX11, 15)) (hts (.fieldLink RX11 60 "FootByGate" "reach" "LFootByGate$Reach;") (by decide +kernel)) ⟨by decide, by decide, rfl⟩ (rfl : jrt 10 12 = 6) dX11_stonesTo_25 hr0 (fun ha25 => ?_)
  clear hr0
  refine lv_aload_n hx hb dX11_stonesTo_28 rfl (lv_at hl 1 rfl) ?_
  obtain ⟨a29, hr0, h⟩ := h
  refine jgr (f := 9) hx hb hts hown hst w hG hx0 hiX11 (rfl : vwCl[10]? = some (RX11, TX11, 15)) (hts (.fieldLink RX11 43 "FootByGate" "gait" "LFootByGate$Gait;") (by decide +kernel)) ⟨by decide, by decide, rfl⟩ (rfl : jrt 10 9 = 2) dX11_stonesTo_29 hr0 (fun ha29 => ?_)
  clear hr0
  refine lv_aload_n hx hb dX11_stonesTo_32 rfl (lv_at hl 1 rfl) ?_
  obtain ⟨a33, hr0, h⟩ := h
  refine jgr (f := 1) hx hb hts hown hst w hG hx0 hiX11 (rfl : vwCl[10]? = some (RX11, TX11, 15)) (hts (.fieldLink RX11 19 "FootByGate" "map" "LFootByGate$Town;") (by decide +kernel)) ⟨by decide, by decide, rfl⟩ (rfl : jrt 10 1 = 7) dX11_stonesTo_33 hr0 (fun ha33 => ?_)
  clear hr0
  refine jgi (f := 0) hx hb hts hown hst w ha33 hiX8 (rfl : vwCl[7]? = some (RX8, TX8, 8)) (hts (.fieldLink RX11 105 "FootByGate$Town" "streets" "I") (by decide +kernel)) ⟨by decide, by decide, rfl⟩ dX11_stonesTo_36 ?_
  refine jcV_v (k := a25) (As := [.ref (b + a29), .int (i20 a33 0)]) (rest := []) C0 w (c_X6_take hG ha25 ha29 h) (cwV 2 hts gX11_stonesTo_X6_take rfl rfl rfl (by decide +kernel) ⟨Nat.le_of_ble_eq_true rfl, Nat.le_of_ble_eq_true rfl⟩) ha25 (rfl : vwCl[6]? = some (RX6, TX6, 2)) (by decide) rfl hl.1 rfl (Nat.le_of_ble_eq_true rfl) dX11_stonesTo_39 (fun i39 j39 H locs h w => ?_) ⟨Nat.zero_le _, Nat.zero_le _⟩
  refine lv_aload_n hx hb dX11_stonesTo_42 rfl (lv_at hl 1 rfl) ?_
  obtain ⟨a43, hr0, h⟩ := h
  refine jgr (f := 12) hx hb hts hown hst w hG hx0 hiX11 (rfl : vwCl[10]? = some (RX11, TX11, 15)) (hts (.fieldLink RX11 60 "FootByGate" "reach" "LFootByGate$Reach;") (by decide +kernel)) ⟨by decide, by decide, rfl⟩ (rfl : jrt 10 12 = 6) dX11_stonesTo_43 hr0 (fun ha43 => ?_)
  clear hr0
  refine lv_iload_n hx hb dX11_stonesTo_46 rfl (lv_at hl 0 rfl) ?_
  refine jcV_v (k := a43) (As := [.int q20]) (rest := []) C0 w (c_X6_loosen hG ha43 h) (cwV 1 hts gX11_stonesTo_X6_loosen rfl rfl rfl (by decide +kernel) ⟨Nat.le_of_ble_eq_true rfl, Nat.le_of_ble_eq_true rfl⟩) ha43 (rfl : vwCl[6]? = some (RX6, TX6, 2)) (by decide) rfl hl.1 rfl (Nat.le_of_ble_eq_true rfl) dX11_stonesTo_47 (fun i47 j47 H locs h w => ?_) ⟨Nat.zero_le _, Nat.zero_le _⟩
  refine lv_aload_n hx hb dX11_stonesTo_50 rfl (lv_at hl 1 rfl) ?_
  obtain ⟨a51, hr0, h⟩ := h
  refine jgr (f := 12) hx hb hts hown hst w hG hx0 hiX11 (rfl : vwCl[10]? = some (RX11, TX11, 15)) (hts (.fieldLink RX11 60 "FootByGate" "reach" "LFootByGate$Reach;") (by decide +kernel)) ⟨by decide, by decide, rfl⟩ (rfl : jrt 10 12 = 6) dX11_stonesTo_51 hr0 (fun ha51 => ?_)
  clear hr0
  refine lv_aload_n hx hb dX11_stonesTo_54 rfl (lv_at hl 1 rfl) ?_
  obtain ⟨a55, hr0, h⟩ := h
  refine jgr (f := 1) hx hb hts hown hst w hG hx0 hiX11 (rfl : vwCl[10]? = some (RX11, TX11, 15)) (hts (.fieldLink RX11 19 "FootByGate" "map" "LFootByGate$Town;") (by decide +kernel)) ⟨by decide, by decide, rfl⟩ (rfl : jrt 10 1 = 7) dX11_stonesTo_55 hr0 (fun ha55 => ?_)
  clear hr0
  refine lv_aload_n hx hb dX11_stonesTo_58 rfl (lv_at hl 2 rfl) ?_
  refine jgi (f := 1) hx hb hts hown hst w hx1 hiX9 (rfl : vwCl[8]? = some (RX9, TX9, 3)) (hts (.fieldLink RX11 146 "FootByGate$Walker" "stand" "I") (by decide +kernel)) ⟨by decide, by decide, rfl⟩ dX11_stonesTo_59 ?_
  refine lv_iconst (v := (1 : Int32)) hx hb dX11_stonesTo_62 (by decide) ?_
  refine jcV_v (k := a51) (As := [.ref (b + a55), .int (i47 x1 1), .int (1 : Int32)]) (rest := []) C0 w (c_X6_spread hG ha51 ha55 h) (cwV 3 hts gX11_stonesTo_X6_spread rfl rfl rfl (by decide +kernel) ⟨Nat.le_of_ble_eq_true rfl, Nat.le_of_ble_eq_true rfl⟩) ha51 (rfl : vwCl[6]? = some (RX6, TX6, 2)) (by decide) rfl hl.1 rfl (Nat.le_of_ble_eq_true rfl) dX11_stonesTo_63 (fun i63 j63 H locs h w => ?_) ⟨Nat.zero_le _, Nat.zero_le _⟩
  refine lv_aload_n hx hb dX11_stonesTo_66 rfl (lv_at hl 1 rfl) ?_
  obtain ⟨a67, hr0, h⟩ := h
  refine jgr (f := 12) hx hb hts hown hst w hG hx0 hiX11 (rfl : vwCl[10]? = some (RX11, TX11, 15)) (hts (.fieldLink RX11 60 "FootByGate" "reach" "LFootByGate$Reach;") (by decide +kernel)) ⟨by decide, by decide, rfl⟩ (rfl : jrt 10 12 = 6) dX11_stonesTo_67 hr0 (fun ha67 => ?_)
  clear hr0
  refine lv_iload_n hx hb dX11_stonesTo_70 rfl (lv_at hl 3 rfl) ?_
  refine jcV_i (k := a67) (As := [.int x2]) (rest := []) C0 w (c_X6_hasPlace hG ha67 h) (cwV 1 hts gX11_stonesTo_X6_hasPlace rfl rfl rfl (by decide +kernel) ⟨Nat.le_of_ble_eq_true rfl, Nat.le_of_ble_eq_true rfl⟩) ha67 (rfl : vwCl[6]? = some (RX6, TX6, 2)) (by decide) rfl hl.1 rfl (Nat.le_of_ble_eq_true rfl) dX11_stonesTo_71 (fun q71 i71 j71 H locs h w => ?_) ⟨Nat.zero_le _, Nat.zero_le _⟩
  refine lv_if_ne (tgt := 79) hx hb dX11_stonesTo_74 (by decide) (fun hc => ?_) (fun hc => ?_)
  · replace h := h.1 hc
    clear hc
    refine lv_iconst (v := (0 : Int32)) hx hb dX11_stonesTo_79 (by decide) ?_
    refine lv_istore (lv' := [(4, .int (0 : Int32)), (3, .int q20), (0, .ref (b + x0)), (1, .ref (b + x1)), (2, .int x2)]) hx hb dX11_stonesTo_80 hl (by decide) rfl (fun ls hl => ?_)
    obtain ⟨g0, h⟩ := h
    exact w_X11_stonesTo_L82 C0 hr hlk g0 w hx0 hx1 (lv_sub hl [2, 3, 4, 1, 0] rfl) h
  · replace h := h.2 hc
    clear hc
    refine lv_iconst (v := (-1 : Int32)) hx hb dX11_stonesTo_77 (by decide) ?_
    exact jret_i hx hb hr hlk hst w h dX11_stonesTo_78
end S_X11_stonesTo
section S_X11_stones
def J_X11_stones_L15 (len : Nat → Nat) (r : jR) (Q : Int32 → jI → jL → Prop) (i : jI) (j : jL) : Prop := Q (-101 : Int32) i j
def J_X11_stones (len : Nat → Nat) (r : jR) (Q : Int32 → jI → jL → Prop) (i : jI) (j : jL) (x0 : Nat) (x1 : Int32) (x2 : Int32) (x3 : Int32) : Prop := J_X11_isWalker len r (fun (q2 : Int32) (i2 : jI) (j2 : jL) => ((q2 = 0) → (J_X11_stones_L15 len r Q i2 j2 )) ∧ ((¬ q2 = 0) → (J_X11_isPlace len r (fun (q9 : Int32) (i9 : jI) (j9 : jL) => ((¬ q9 = 0) → (J_X11_isWithin len r (fun (q20 : Int32) (i20 : jI) (j20 : jL) => ((¬ q20 = 0) → ((((i20 x0 8) < (40 : Int32)) → (∀ i48 : jI, i48 = ju i20 x0 8 ((i20 x0 8) + (1 : Int32)) → (∃ a53, r x0 2 = some a53 ∧ (vp_in x1 (len a53) ∧ ∃ a57, r a53 x1.toNatClampNeg = some a57 ∧ (J_X11_stonesTo len r (fun (q59 : Int32) (i59 : jI) (j59 : jL) => J_X11_streetsTold len r (fun (q63 : Int32) (i63 : jI) (j63 : jL) => Q q63 i63 j63) i59 j59 q59 x3) i48 j20 x0 a57 x2))))) ∧ ((¬ (i20 x0 8) < (40 : Int32)) → (Q (-103 : Int32) i20 j20)))) ∧ ((q20 = 0) → (Q (-102 : Int32) i20 j20))) i9 j9 x3 (1 : Int32))) ∧ ((q9 = 0) → (J_X11_stones_L15 len r Q i9 j9 ))) i2 j2 x2))) i j x0 x1
abbrev rm_X11_stones : Room := { frames := 5, cells := 0, slots := 0, locals := 130 }
variable {p : Program} {l : Launch} {e : Env} {s : State} {m : MethodId} {args : Array Value} {below : List Frame} {meth : Method} {c : Code} {b tU n : Nat} {cy : Nat → ClassId} {D : va_G} {K len : Nat → Nat} {r : jR} {Q : Int32 → jI → jL → Prop}
theorem hiX11_X11_stones : ∀ w ∈ u_ws RX11 TX11 15, w ∈ wsX11_stones := by decide +kernel
set_option maxHeartbeats 4000000 in
set_option maxRecDepth 100000 in
theorem w_X11_stones_L15 (C0 : jCx p s m args c cX11_stones 4 wsX11_stones RX11 b cy D tU n K r) (hr : meth.sig.returnType = some .int) (hlk : meth.locks = false) {H : Heap} {locs : List Loc} {ls : Array Slot} {i : jI} {j : jL}  (w : jDy b cy D n K len r i j s H locs) (hl : lv_has ls 4 []) (h : J_X11_stones_L15 len r Q i j) : W p l e rm_X11_stones s m args below meth c H locs 0 0 (MQ below (jQi b cy D tU n K len r Q) args s 0 0 (jA b)) (F0 m 15 ls []) := by
  obtain ⟨hx, hb, hml, hown, hts, hst, hG⟩ := id C0
  have hiX11 : ∀ w ∈ u_ws RX11 TX11 15, w ∈ wsX11_stones := hiX11_X11_stones
  rw [J_X11_stones_L15] at h
  refine lv_bipush (v := (-101 : Int32)) hx hb dX11_stones_15 (by decide) ?_
  exact jret_i hx hb hr hlk hst w h dX11_stones_17
set_option maxHeartbeats 4000000 in
set_option maxRecDepth 100000 in
theorem c_X11_stones (hG : jG n K r) {i : jI} {j : jL} {x0 : Nat} {x1 : Int32} {x2 : Int32} {x3 : Int32} (hx0 : x0 < n ∧ K x0 = 10) (h : J_X11_stones len r Q i j x0 x1 x2 x3) : Met l yX11_stones wsX11_stones rm_X11_stones (va_Pc [.ref (b + x0), .int x1, .int x2, .int x3] (jPre b cy D tU n K len r i j)) (jQi b cy D tU n K len r Q) 0 0 (jA b) := by
  refine Met.ofW (cc := cX11_stones) (maxL := 4) (ret := (some .int)) (by decide) rfl ?_
  intro p e s m args below meth c s₁ B hml hv
  obtain ⟨rfl, hv⟩ := hv
  have C0 : jCx p s m _ c cX11_stones 4 wsX11_stones RX11 b cy D tU n K r := ⟨B.exec, B.bytes, hml, findClass_of_methodNamed B.named, atoms_spec (ws := wsX11_stones) B.pre, hv.2.2, hG⟩
  have hr := B.returns
  have hlk := B.notSynchronized
  obtain ⟨hx, hb, hml, hown, hts, hst, hG⟩ := id C0
  have hiX11 : ∀ w ∈ u_ws RX11 TX11 15, w ∈ wsX11_stones := hiX11_X11_stones
  have w := jDy.start hv
  have hl := lv_entry ([.ref (b + x0), .int x1, .int x2, .int x3]) (n := 4) (Nat.le_of_ble_eq_true rfl)
  rw [lg_entry_eq]
  generalize (lg_sl ([.ref (b + x0), .int x1, .int x2, .int x3]) ++ List.replicate (4 - (lg_sl ([.ref (b + x0), .int x1, .int x2, .int x3])).length) Slot.unset).toArray = ls at hl ⊢
  replace hl : lv_has ls 4 [(0, .ref (b + x0)), (1, .int x1), (2, .int x2), (3, .int x3)] := hl
  show W p l e rm_X11_stones s m _ below meth c s.heap [] 0 0 _ (F0 m 0 ls [])
  rw [J_X11_stones] at h
  refine lv_aload_n hx hb dX11_stones_0 rfl (lv_at hl 0 rfl) ?_
  refine lv_iload_n hx hb dX11_stones_1 rfl (lv_at hl 1 rfl) ?_
  refine jcV_i (k := x0) (As := [.int x1]) (rest := []) C0 w (c_X11_isWalker hG hx0 h) (cwV 1 hts gX11_stones_X11_isWalker rfl rfl rfl (by decide +kernel) ⟨Nat.le_of_ble_eq_true rfl, Nat.le_of_ble_eq_true rfl⟩) hx0 (rfl : vwCl[10]? = some (RX11, TX11, 15)) (by decide) rfl hl.1 rfl (Nat.le_of_ble_eq_true rfl) dX11_stones_2 (fun q2 i2 j2 H locs h w => ?_) ⟨Nat.zero_le _, Nat.zero_le _⟩
  refine lv_if_eq (tgt := 15) hx hb dX11_stones_5 (by decide) (fun hc => ?_) (fun hc => ?_)
  · replace h := h.1 hc
    clear hc
    exact w_X11_stones_L15 C0 hr hlk w (lv_sub hl [] rfl) h
  · replace h := h.2 hc
    clear hc
    refine lv_iload_n hx hb dX11_stones_8 rfl (lv_at hl 2 rfl) ?_
    refine jcS_i (As := [.int x2]) (rest := []) C0 w (c_X11_isPlace hG h) (va_cwS 1 hts gX11_stones_X11_isPlace rfl rfl rfl (by decide +kernel) ⟨Nat.le_of_ble_eq_true rfl, Nat.le_of_ble_eq_true rfl⟩) rfl hl.1 rfl (Nat.le_of_ble_eq_true rfl) dX11_stones_9 (fun q9 i9 j9 H locs h w => ?_) ⟨Nat.zero_le _, Nat.zero_le _⟩
    refine lv_if_ne (tgt := 18) hx hb dX11_stones_12 (by decide) (fun hc => ?_) (fun hc => ?_)
    · replace h := h.1 hc
      clear hc
      refine lv_iload_n hx hb dX11_stones_18 rfl (lv_at hl 3 rfl) ?_
      refine lv_iconst (v := (1 : Int32)) hx hb dX11_stones_19 (by decide) ?_
      refine jcS_i (As := [.int x3, .int (1 : Int32)]) (rest := []) C0 w (c_X11_isWithin hG h) (va_cwS 2 hts gX11_stones_X11_isWithin rfl rfl rfl (by decide +kernel) ⟨Nat.le_of_ble_eq_true rfl, Nat.le_of_ble_eq_true rfl⟩) rfl hl.1 rfl (Nat.le_of_ble_eq_true rfl) dX11_stones_20 (fun q20 i20 j20 H locs h w => ?_) ⟨Nat.zero_le _, Nat.zero_le _⟩
      refine lv_if_ne (tgt := 29) hx hb dX11_stones_23 (by decide) (fun hc => ?_) (fun hc => ?_)
      · replace h := h.1 hc
        clear hc
        refine lv_aload_n hx hb dX11_stones_29 rfl (lv_at hl 0 rfl) ?_
        refine jgi (f := 8) hx hb hts hown hst w hx0 hiX11 (rfl : vwCl[10]? = some (RX11, TX11, 15)) (hts (.fieldLink RX11 202 "FootByGate" "done" "I") (by decide +kernel)) ⟨by decide, by decide, rfl⟩ dX11_stones_30 ?_
        refine lv_bipush (v := (40 : Int32)) hx hb dX11_stones_33 (by decide) ?_
        refine lv_icmp_lt (tgt := 41) hx hb dX11_stones_35 (by decide) (fun hc => ?_) (fun hc => ?_)
        · replace h := h.1 hc
          clear hc
          refine lv_aload_n hx hb dX11_stones_41 rfl (lv_at hl 0 rfl) ?_
          refine lv_dup hx hb dX11_stones_42 rfl ?_
          refine jgi (f := 8) hx hb hts hown hst w hx0 hiX11 (rfl : vwCl[10]? = some (RX11, TX11, 15)) (hts (.fieldLink RX11 202 "FootByGate" "done" "I") (by decide +kernel)) ⟨by decide, by decide, rfl⟩ dX11_stones_43 ?_
          refine lv_iconst (v := (1 : Int32)) hx hb dX11_stones_46 (by decide) ?_
          refine lv_iadd hx hb dX11_stones_47 ?_
          refine jpi (f := 8) hx hb hts hown hst w hx0 hiX11 (rfl : vwCl[10]? = some (RX11, TX11, 15)) (hts (.fieldLink RX11 202 "FootByGate" "done" "I") (by decide +kernel)) ⟨by decide, by decide, rfl⟩ tyX11 tyX11_ok nmX11 rfl ⟨rfl, rfl⟩ dX11_stones_48 (fun i48 H locs he w => ?_)
          replace h := h i48 he
          clear he
          refine lv_aload_n hx hb dX11_stones_51 rfl (lv_at hl 0 rfl) ?_
          refine lv_aload_n hx hb dX11_stones_52 rfl (lv_at hl 0 rfl) ?_
          obtain ⟨a53, hr0, h⟩ := h
          refine jgr (f := 2) hx hb hts hown hst w hG hx0 hiX11 (rfl : vwCl[10]? = some (RX11, TX11, 15)) (hts (.fieldLink RX11 25 "FootByGate" "walkers" "[LFootByGate$Walker;") (by decide +kernel)) ⟨by decide, by decide, rfl⟩ (rfl : jrt 10 2 = 16) dX11_stones_53 hr0 (fun ha53 => ?_)
          clear hr0
          refine lv_iload_n hx hb dX11_stones_56 rfl (lv_at hl 1 rfl) ?_
          obtain ⟨hn, h⟩ := h
          obtain ⟨a57, hr0, h⟩ := h
          refine jaar hx hb hst w hG ha53 hn dX11_stones_57 hr0 (fun ha57 => ?_)
          clear hn hr0
          refine lv_iload_n hx hb dX11_stones_58 rfl (lv_at hl 2 rfl) ?_
          refine jcV_i (k := x0) (As := [.ref (b + a57), .int x2]) (rest := []) C0 w (c_X11_stonesTo hG hx0 ha57 h) (cwV 2 hts gX11_stones_X11_stonesTo rfl rfl rfl (by decide +kernel) ⟨Nat.le_of_ble_eq_true rfl, Nat.le_of_ble_eq_true rfl⟩) hx0 (rfl : vwCl[10]? = some (RX11, TX11, 15)) (by decide) rfl hl.1 rfl (Nat.le_of_ble_eq_true rfl) dX11_stones_59 (fun q59 i59 j59 H locs h w => ?_) ⟨Nat.zero_le _, Nat.zero_le _⟩
          refine lv_iload_n hx hb dX11_stones_62 rfl (lv_at hl 3 rfl) ?_
          refine jcS_i (As := [.int q59, .int x3]) (rest := []) C0 w (c_X11_streetsTold hG h) (va_cwS 2 hts gX11_stones_X11_streetsTold rfl rfl rfl (by decide +kernel) ⟨Nat.le_of_ble_eq_true rfl, Nat.le_of_ble_eq_true rfl⟩) rfl hl.1 rfl (Nat.le_of_ble_eq_true rfl) dX11_stones_63 (fun q63 i63 j63 H locs h w => ?_) ⟨Nat.zero_le _, Nat.zero_le _⟩
          exact jret_i hx hb hr hlk hst w h dX11_stones_66
        · replace h := h.2 hc
          clear hc
          refine lv_bipush (v := (-103 : Int32)) hx hb dX11_stones_38 (by decide) ?_
          exact jret_i hx hb hr hlk hst w h dX11_stones_40
      · replace h := h.2 hc
        clear hc
        refine lv_bipush (v := (-102 : Int32)) hx hb dX11_stones_26 (by decide) ?_
        exact jret_i hx hb hr hlk hst w h dX11_stones_28
    · replace h := h.2 hc
      clear hc
      exact w_X11_stones_L15 C0 hr hlk w (lv_sub hl [] rfl) h
end S_X11_stones
section S_X11_town
def J_X11_town (len : Nat → Nat) (r : jR) (Q : Int32 → jI → jL → Prop) (i : jI) (j : jL) (x0 : Nat) : Prop := ∃ a1, r x0 0 = some a1 ∧ (J_X5_isTown len r (fun (q4 : Int32) (i4 : jI) (j4 : jL) => ((¬ q4 = 0) → (∃ a14, r x0 1 = some a14 ∧ (∃ a18, r x0 0 = some a18 ∧ (J_X8_read len r (fun (i21 : jI) (j21 : jL) => ∃ a25, r x0 0 = some a25 ∧ (∀ i29 : jI, i29 = ju i21 a25 1 (0 : Int32) → (∀ i34 : jI, i34 = ju i29 x0 3 (0 : Int32) → (∀ i39 : jI, i39 = ju i34 x0 5 (0 : Int32) → (∀ i49 : jI, i49 = ju i39 x0 7 ((i39 x0 7) + (1 : Int32)) → (∃ a53, r x0 1 = some a53 ∧ (Q (i49 a53 0) i49 j21))))))) i4 j4 a14 a18)))) ∧ ((q4 = 0) → (Q (-103 : Int32) i4 j4))) i j a1)
abbrev rm_X11_town : Room := { frames := 4, cells := 0, slots := 0, locals := 84 }
variable {p : Program} {l : Launch} {e : Env} {s : State} {m : MethodId} {args : Array Value} {below : List Frame} {meth : Method} {c : Code} {b tU n : Nat} {cy : Nat → ClassId} {D : va_G} {K len : Nat → Nat} {r : jR} {Q : Int32 → jI → jL → Prop}
theorem hiX11_X11_town : ∀ w ∈ u_ws RX11 TX11 15, w ∈ wsX11_town := by decide +kernel
theorem hiX5_X11_town : ∀ w ∈ u_ws RX5 TX5 5, w ∈ wsX11_town := by decide +kernel
theorem hiX8_X11_town : ∀ w ∈ u_ws RX8 TX8 8, w ∈ wsX11_town := by decide +kernel
set_option maxHeartbeats 4000000 in
set_option maxRecDepth 100000 in
theorem c_X11_town (hG : jG n K r) {i : jI} {j : jL} {x0 : Nat} (hx0 : x0 < n ∧ K x0 = 10) (h : J_X11_town len r Q i j x0) : Met l yX11_town wsX11_town rm_X11_town (va_Pc [.ref (b + x0)] (jPre b cy D tU n K len r i j)) (jQi b cy D tU n K len r Q) 0 0 (jA b) := by
  refine Met.ofW (cc := cX11_town) (maxL := 1) (ret := (some .int)) (by decide) rfl ?_
  intro p e s m args below meth c s₁ B hml hv
  obtain ⟨rfl, hv⟩ := hv
  have C0 : jCx p s m _ c cX11_town 1 wsX11_town RX11 b cy D tU n K r := ⟨B.exec, B.bytes, hml, findClass_of_methodNamed B.named, atoms_spec (ws := wsX11_town) B.pre, hv.2.2, hG⟩
  have hr := B.returns
  have hlk := B.notSynchronized
  obtain ⟨hx, hb, hml, hown, hts, hst, hG⟩ := id C0
  have hiX11 : ∀ w ∈ u_ws RX11 TX11 15, w ∈ wsX11_town := hiX11_X11_town
  have hiX5 : ∀ w ∈ u_ws RX5 TX5 5, w ∈ wsX11_town := hiX5_X11_town
  have hiX8 : ∀ w ∈ u_ws RX8 TX8 8, w ∈ wsX11_town := hiX8_X11_town
  have w := jDy.start hv
  have hl := lv_entry ([.ref (b + x0)]) (n := 1) (Nat.le_of_ble_eq_true rfl)
  rw [lg_entry_eq]
  generalize (lg_sl ([.ref (b + x0)]) ++ List.replicate (1 - (lg_sl ([.ref (b + x0)])).length) Slot.unset).toArray = ls at hl ⊢
  replace hl : lv_has ls 1 [(0, .ref (b + x0))] := hl
  show W p l e rm_X11_town s m _ below meth c s.heap [] 0 0 _ (F0 m 0 ls [])
  rw [J_X11_town] at h
  refine lv_aload_n hx hb dX11_town_0 rfl (lv_at hl 0 rfl) ?_
  obtain ⟨a1, hr0, h⟩ := h
  refine jgr (f := 0) hx hb hts hown hst w hG hx0 hiX11 (rfl : vwCl[10]? = some (RX11, TX11, 15)) (hts (.fieldLink RX11 10 "FootByGate" "page" "LFootByGate$Page;") (by decide +kernel)) ⟨by decide, by decide, rfl⟩ (rfl : jrt 10 0 = 5) dX11_town_1 hr0 (fun ha1 => ?_)
  clear hr0
  refine jcV_i (k := a1) (As := []) (rest := []) C0 w (c_X5_isTown hG ha1 h) (cwV 0 hts gX11_town_X5_isTown rfl rfl rfl (by decide +kernel) ⟨Nat.le_of_ble_eq_true rfl, Nat.le_of_ble_eq_true rfl⟩) ha1 (rfl : vwCl[5]? = some (RX5, TX5, 5)) (by decide) rfl hl.1 rfl (Nat.le_of_ble_eq_true rfl) dX11_town_4 (fun q4 i4 j4 H locs h w => ?_) ⟨Nat.zero_le _, Nat.zero_le _⟩
  refine lv_if_ne (tgt := 13) hx hb dX11_town_7 (by decide) (fun hc => ?_) (fun hc => ?_)
  · replace h := h.1 hc
    clear hc
    refine lv_aload_n hx hb dX11_town_13 rfl (lv_at hl 0 rfl) ?_
    obtain ⟨a14, hr0, h⟩ := h
    refine jgr (f := 1) hx hb hts hown hst w hG hx0 hiX11 (rfl : vwCl[10]? = some (RX11, TX11, 15)) (hts (.fieldLink RX11 19 "FootByGate" "map" "LFootByGate$Town;") (by decide +kernel)) ⟨by decide, by decide, rfl⟩ (rfl : jrt 10 1 = 7) dX11_town_14 hr0 (fun ha14 => ?_)
    clear hr0
    refine lv_aload_n hx hb dX11_town_17 rfl (lv_at hl 0 rfl) ?_
    obtain ⟨a18, hr0, h⟩ := h
    refine jgr (f := 0) hx hb hts hown hst w hG hx0 hiX11 (rfl : vwCl[10]? = some (RX11, TX11, 15)) (hts (.fieldLink RX11 10 "FootByGate" "page" "LFootByGate$Page;") (by decide +kernel)) ⟨by decide, by decide, rfl⟩ (rfl : jrt 10 0 = 5) dX11_town_18 hr0 (fun ha18 => ?_)
    clear hr0
    refine jcV_v (k := a14) (As := [.ref (b + a18)]) (rest := []) C0 w (c_X8_read hG ha14 ha18 h) (cwV 1 hts gX11_town_X8_read rfl rfl rfl (by decide +kernel) ⟨Nat.le_of_ble_eq_true rfl, Nat.le_of_ble_eq_true rfl⟩) ha14 (rfl : vwCl[7]? = some (RX8, TX8, 8)) (by decide) rfl hl.1 rfl (Nat.le_of_ble_eq_true rfl) dX11_town_21 (fun i21 j21 H locs h w => ?_) ⟨Nat.zero_le _, Nat.zero_le _⟩
    refine lv_aload_n hx hb dX11_town_24 rfl (lv_at hl 0 rfl) ?_
    obtain ⟨a25, hr0, h⟩ := h
    refine jgr (f := 0) hx hb hts hown hst w hG hx0 hiX11 (rfl : vwCl[10]? = some (RX11, TX11, 15)) (hts (.fieldLink RX11 10 "FootByGate" "page" "LFootByGate$Page;") (by decide +kernel)) ⟨by decide, by decide, rfl⟩ (rfl : jrt 10 0 = 5) dX11_town_25 hr0 (fun ha25 => ?_)
    clear hr0
    refine lv_iconst (v := (0 : Int32)) hx hb dX11_town_28 (by decide) ?_
    refine jpi (f := 1) hx hb hts hown hst w ha25 hiX5 (rfl : vwCl[5]? = some (RX5, TX5, 5)) (hts (.fieldLink RX11 76 "FootByGate$Page" "length" "I") (by decide +kernel)) ⟨by decide, by decide, rfl⟩ tyX5 tyX5_ok nmX5 rfl ⟨rfl, rfl⟩ dX11_town_29 (fun i29 H locs he w => ?_)
    replace h := h i29 he
    clear he
    refine lv_aload_n hx hb dX11_town_32 rfl (lv_at hl 0 rfl) ?_
    refine lv_iconst (v := (0 : Int32)) hx hb dX11_town_33 (by decide) ?_
    refine jpi (f := 3) hx hb hts hown hst w hx0 hiX11 (rfl : vwCl[10]? = some (RX11, TX11, 15)) (hts (.fieldLink RX11 96 "FootByGate" "walkerCount" "I") (by decide +kernel)) ⟨by decide, by decide, rfl⟩ tyX11 tyX11_ok nmX11 rfl ⟨rfl, rfl⟩ dX11_town_34 (fun i34 H locs he w => ?_)
    replace h := h i34 he
    clear he
    refine lv_aload_n hx hb dX11_town_37 rfl (lv_at hl 0 rfl) ?_
    refine lv_iconst (v := (0 : Int32)) hx hb dX11_town_38 (by decide) ?_
    refine jpi (f := 5) hx hb hts hown hst w hx0 hiX11 (rfl : vwCl[10]? = some (RX11, TX11, 15)) (hts (.fieldLink RX11 99 "FootByGate" "printCount" "I") (by decide +kernel)) ⟨by decide, by decide, rfl⟩ tyX11 tyX11_ok nmX11 rfl ⟨rfl, rfl⟩ dX11_town_39 (fun i39 H locs he w => ?_)
    replace h := h i39 he
    clear he
    refine lv_aload_n hx hb dX11_town_42 rfl (lv_at hl 0 rfl) ?_
    refine lv_dup hx hb dX11_town_43 rfl ?_
    refine jgi (f := 7) hx hb hts hown hst w hx0 hiX11 (rfl : vwCl[10]? = some (RX11, TX11, 15)) (hts (.fieldLink RX11 102 "FootByGate" "townsRead" "I") (by decide +kernel)) ⟨by decide, by decide, rfl⟩ dX11_town_44 ?_
    refine lv_iconst (v := (1 : Int32)) hx hb dX11_town_47 (by decide) ?_
    refine lv_iadd hx hb dX11_town_48 ?_
    refine jpi (f := 7) hx hb hts hown hst w hx0 hiX11 (rfl : vwCl[10]? = some (RX11, TX11, 15)) (hts (.fieldLink RX11 102 "FootByGate" "townsRead" "I") (by decide +kernel)) ⟨by decide, by decide, rfl⟩ tyX11 tyX11_ok nmX11 rfl ⟨rfl, rfl⟩ dX11_town_49 (fun i49 H locs he w => ?_)
    replace h := h i49 he
    clear he
    refine lv_aload_n hx hb dX11_town_52 rfl (lv_at hl 0 rfl) ?_
    obtain ⟨a53, hr0, h⟩ := h
    refine jgr (f := 1) hx hb hts hown hst w hG hx0 hiX11 (rfl : vwCl[10]? = some (RX11, TX11, 15)) (hts (.fieldLink RX11 19 "FootByGate" "map" "LFootByGate$Town;") (by decide +kernel)) ⟨by decide, by decide, rfl⟩ (rfl : jrt 10 1 = 7) dX11_town_53 hr0 (fun ha53 => ?_)
    clear hr0
    refine jgi (f := 0) hx hb hts hown hst w ha53 hiX8 (rfl : vwCl[7]? = some (RX8, TX8, 8)) (hts (.fieldLink RX11 105 "FootByGate$Town" "streets" "I") (by decide +kernel)) ⟨by decide, by decide, rfl⟩ dX11_town_56 ?_
    exact jret_i hx hb hr hlk hst w h dX11_town_59
  · replace h := h.2 hc
    clear hc
    refine lv_bipush (v := (-103 : Int32)) hx hb dX11_town_10 (by decide) ?_
    exact jret_i hx hb hr hlk hst w h dX11_town_12
end S_X11_town
section S_X11_walk
def J_X11_walk_L35 (len : Nat → Nat) (r : jR) (Q : Int32 → jI → jL → Prop) (i : jI) (j : jL) : Prop := Q (-102 : Int32) i j
def J_X11_walk_L172 (len : Nat → Nat) (r : jR) (Q : Int32 → jI → jL → Prop) (i : jI) (j : jL) (x4 : Int32) (x6 : Int32) (x7 : Int32) (x8 : Int32) : Prop := ((x4 = (0 : Int32)) → (J_X7_placeOf len r (fun (q202 : Int32) (i202 : jI) (j202 : jL) => Q q202 i202 j202) i j x6)) ∧ (((x4 = (1 : Int32)) → (J_X7_footOf len r (fun (q208 : Int32) (i208 : jI) (j208 : jL) => Q q208 i208 j208) i j x6)) ∧ (((x4 = (2 : Int32)) → (Q x8 i j)) ∧ ((¬ x4 = (0 : Int32) → ¬ x4 = (1 : Int32) → ¬ x4 = (2 : Int32) → (Q x7 i j)))))
def J_X11_walk_L166 (len : Nat → Nat) (r : jR) (Q : Int32 → jI → jL → Prop) (Hd62 : jI → jL → Nat → Int32 → Int32 → Nat → Int32 → Int32 → Int32 → Int32 → Prop) (i : jI) (j : jL) (x0 : Nat) (x2 : Int32) (x4 : Int32) (x5 : Nat) (x6 : Int32) (x7 : Int32) (x8 : Int32) (x9 : Int32) : Prop := ∀ v166 : Int32, v166 = x9 + (1 : Int32) → (Hd62 i j x0 x2 x4 x5 x6 x7 x8 v166)
def J_X11_walk_L62 (len : Nat → Nat) (r : jR) (Q : Int32 → jI → jL → Prop) : Nat → jI → jL → Nat → Int32 → Int32 → Nat → Int32 → Int32 → Int32 → Int32 → Prop
  | 0 => fun _ _ _ _ _ _ _ _ _ _ => False
  | g + 1 => fun i j x0 x2 x4 x5 x6 x7 x8 x9 => ((x2 ≤ x9) → (J_X11_walk_L172 len r Q i j x4 x6 x7 x8)) ∧ ((¬ x2 ≤ x9) → (∃ a69, r x0 1 = some a69 ∧ (J_X7_placeOf len r (fun (q74 : Int32) (i74 : jI) (j74 : jL) => J_X8_streetsAt len r (fun (q77 : Int32) (i77 : jI) (j77 : jL) => ((¬ q77 = 0) → (J_X11_nextSeed len r (fun (q92 : Int32) (i92 : jI) (j92 : jL) => ∃ a98, r x0 1 = some a98 ∧ (J_X7_placeOf len r (fun (q103 : Int32) (i103 : jI) (j103 : jL) => (¬ q77 = 0) ∧ (J_X8_streetAt len r (fun (q114 : Int32) (i114 : jI) (j114 : jL) => ∃ a120, r x0 1 = some a120 ∧ (∃ a133, r x0 1 = some a133 ∧ (∃ a136, r a133 5 = some a136 ∧ (vp_in q114 (len a136) ∧ (J_X9_turnOf len r (fun (q142 : Int32) (i142 : jI) (j142 : jL) => J_X8_behind len r (fun (q145 : Int32) (i145 : jI) (j145 : jL) => ((¬ q145 = (-1 : Int32)) → (J_X11_walk_L166 len r Q (J_X11_walk_L62 len r Q g) i145 j145 x0 x2 x4 x5 q145 q92 x8 x9)) ∧ ((q145 = (-1 : Int32)) → (∀ v156 : Int32, v156 = x8 + (1 : Int32) → (J_X11_walk_L166 len r Q (J_X11_walk_L62 len r Q g) i145 j145 x0 x2 x4 x5 x6 q92 v156 x9)))) i142 j142 a120 x6 q114 q142) i114 j114 (i114 x5 0) (i114 a136 q114.toNatClampNeg)))))) i103 j103 a98 q103 ((q92 >>> ((16 : Int32) &&& 31)) - (q92 >>> ((16 : Int32) &&& 31)) / q77 * q77))) i92 j92 x6)) i77 j77 x7)) ∧ ((q77 = 0) → (J_X11_walk_L172 len r Q i77 j77 x4 x6 x7 x8))) i74 j74 a69 q74) i j x6)))
def J_X11_walk (len : Nat → Nat) (r : jR) (Q : Int32 → jI → jL → Prop) (i : jI) (j : jL) (x0 : Nat) (x1 : Int32) (x2 : Int32) (x3 : Int32) (x4 : Int32) : Prop := J_X11_isWalker len r (fun (q2 : Int32) (i2 : jI) (j2 : jL) => ((¬ q2 = 0) → (((x2 < (1 : Int32)) → (J_X11_walk_L35 len r Q i2 j2 )) ∧ ((¬ x2 < (1 : Int32)) → ((((60 : Int32) < x2) → (J_X11_walk_L35 len r Q i2 j2 )) ∧ ((¬ (60 : Int32) < x2) → (((x3 < 0) → (J_X11_walk_L35 len r Q i2 j2 )) ∧ ((¬ x3 < 0) → (J_X11_isWithin len r (fun (q29 : Int32) (i29 : jI) (j29 : jL) => ((¬ q29 = 0) → (∃ a39, r x0 2 = some a39 ∧ (vp_in x1 (len a39) ∧ ∃ a43, r a39 x1.toNatClampNeg = some a43 ∧ (∀ v51 : Int32, v51 = i29 a43 1 → (∃ g0, J_X11_walk_L62 len r Q g0 i29 j29 x0 x2 x4 a43 v51 x3 (0 : Int32) (0 : Int32)))))) ∧ ((q29 = 0) → (J_X11_walk_L35 len r Q i29 j29 ))) i2 j2 x4 (3 : Int32))))))))) ∧ ((q2 = 0) → (Q (-101 : Int32) i2 j2))) i j x0 x1
abbrev rm_X11_walk : Room := { frames := 2, cells := 0, slots := 0, locals := 49 }
variable {p : Program} {l : Launch} {e : Env} {s : State} {m : MethodId} {args : Array Value} {below : List Frame} {meth : Method} {c : Code} {b tU n : Nat} {cy : Nat → ClassId} {D : va_G} {K len : Nat → Nat} {r : jR} {Q : Int32 → jI → jL → Prop}
theorem hiX11_X11_walk : ∀ w ∈ u_ws RX11 TX11 15, w ∈ wsX11_walk := by decide +kernel
theorem hiX8_X11_walk : ∀ w ∈ u_ws RX8 TX8 8, w ∈ wsX11_walk := by decide +kernel
theorem hiX9_X11_walk : ∀ w ∈ u_ws RX9 TX9 3, w ∈ wsX11_walk := by decide +kernel
set_option maxHeartbeats 4000000 in
set_option maxRecDepth 100000 in
theorem w_X11_walk_L35 (C0 : jCx p s m args c cX11_walk 13 wsX11_walk RX11 b cy D tU n K r) (hr : meth.sig.returnType = some .int) (hlk : meth.locks = false) {H : Heap} {locs : List Loc} {ls : Array Slot} {i : jI} {j : jL}  (w : jDy b cy D n K len r i j s H locs) (hl : lv_has ls 13 []) (h : J_X11_walk_L35 len r Q i j) : W p l e rm_X11_walk s m args below meth c H locs 0 0 (MQ below (jQi b cy D tU n K len r Q) args s 0 0 (jA b)) (F0 m 35 ls []) := by
  obtain ⟨hx, hb, hml, hown, hts, hst, hG⟩ := id C0
  have hiX11 : ∀ w ∈ u_ws RX11 TX11 15, w ∈ wsX11_walk := hiX11_X11_walk
  have hiX8 : ∀ w ∈ u_ws RX8 TX8 8, w ∈ wsX11_walk := hiX8_X11_walk
  have hiX9 : ∀ w ∈ u_ws RX9 TX9 3, w ∈ wsX11_walk := hiX9_X11_walk
  rw [J_X11_walk_L35] at h
  refine lv_bipush (v := (-102 : Int32)) hx hb dX11_walk_35 (by decide) ?_
  exact jret_i hx hb hr hlk hst w h dX11_walk_37
set_option maxHeartbeats 4000000 in
set_option maxRecDepth 100000 in
theorem w_X11_walk_L172 (C0 : jCx p s m args c cX11_walk 13 wsX11_walk RX11 b cy D tU n K r) (hr : meth.sig.returnType = some .int) (hlk : meth.locks = false) {H : Heap} {locs : List Loc} {ls : Array Slot} {i : jI} {j : jL} {x4 : Int32} {x6 : Int32} {x7 : Int32} {x8 : Int32} (w : jDy b cy D n K len r i j s H locs) (hl : lv_has ls 13 [(4, .int x4), (6, .int x6), (7, .int x7), (8, .int x8)]) (h : J_X11_walk_L172 len r Q i j x4 x6 x7 x8) : W p l e rm_X11_walk s m args below meth c H locs 0 0 (MQ below (jQi b cy D tU n K len r Q) args s 0 0 (jA b)) (F0 m 172 ls []) := by
  obtain ⟨hx, hb, hml, hown, hts, hst, hG⟩ := id C0
  have hiX11 : ∀ w ∈ u_ws RX11 TX11 15, w ∈ wsX11_walk := hiX11_X11_walk
  have hiX8 : ∀ w ∈ u_ws RX8 TX8 8, w ∈ wsX11_walk := hiX8_X11_walk
  have hiX9 : ∀ w ∈ u_ws RX9 TX9 3, w ∈ wsX11_walk := hiX9_X11_walk
  rw [J_X11_walk_L172] at h
  refine lv_iload hx hb dX11_walk_172 (lv_at hl 0 rfl) ?_
  by_cases hc0 : x4 = (0 : Int32)
  · replace h := h.1 hc0
    refine lv_tableIn (off := 26) (tgt := 200) hx hb dX11_walk_174 (by rw [hc0]; decide) (by rw [hc0]; decide) (by rw [hc0]; rfl) (by decide) ?_
    clear hc0
    refine lv_iload hx hb dX11_walk_200 (lv_at hl 1 rfl) ?_
    refine jcS_i (As := [.int x6]) (rest := []) C0 w (c_X7_placeOf hG h) (va_cwS 1 hts gX11_walk_X7_placeOf rfl rfl rfl (by decide +kernel) ⟨Nat.le_of_ble_eq_true rfl, Nat.le_of_ble_eq_true rfl⟩) rfl hl.1 rfl (Nat.le_of_ble_eq_true rfl) dX11_walk_202 (fun q202 i202 j202 H locs h w => ?_) ⟨Nat.zero_le _, Nat.zero_le _⟩
    exact jret_i hx hb hr hlk hst w h dX11_walk_205
  replace h := h.2
  by_cases hc1 : x4 = (1 : Int32)
  · replace h := h.1 hc1
    refine lv_tableIn (off := 32) (tgt := 206) hx hb dX11_walk_174 (by rw [hc1]; decide) (by rw [hc1]; decide) (by rw [hc1]; rfl) (by decide) ?_
    clear hc1
    refine lv_iload hx hb dX11_walk_206 (lv_at hl 1 rfl) ?_
    refine jcS_i (As := [.int x6]) (rest := []) C0 w (c_X7_footOf hG h) (va_cwS 1 hts gX11_walk_X7_footOf rfl rfl rfl (by decide +kernel) ⟨Nat.le_of_ble_eq_true rfl, Nat.le_of_ble_eq_true rfl⟩) rfl hl.1 rfl (Nat.le_of_ble_eq_true rfl) dX11_walk_208 (fun q208 i208 j208 H locs h w => ?_) ⟨Nat.zero_le _, Nat.zero_le _⟩
    exact jret_i hx hb hr hlk hst w h dX11_walk_211
  replace h := h.2
  by_cases hc2 : x4 = (2 : Int32)
  · replace h := h.1 hc2
    refine lv_tableIn (off := 38) (tgt := 212) hx hb dX11_walk_174 (by rw [hc2]; decide) (by rw [hc2]; decide) (by rw [hc2]; rfl) (by decide) ?_
    clear hc2
    refine lv_iload hx hb dX11_walk_212 (lv_at hl 3 rfl) ?_
    exact jret_i hx hb hr hlk hst w h dX11_walk_214
  replace h := h.2
  replace h := h hc0 hc1 hc2
  have hd : x4.toInt < 0 ∨ 2 < x4.toInt := by
    rcases Int.lt_or_le x4.toInt 0 with h1 | h1
    · exact Or.inl h1
    rcases Int.lt_or_le 2 x4.toInt with h2 | h2
    · exact Or.inr h2
    exfalso
    have h3 : x4.toInt = 0 ∨ x4.toInt = 1 ∨ x4.toInt = 2 := by omega
    rcases h3 with h3 | h3 | h3
    · exact hc0 (Int32.toInt_inj.mp (h3.trans (by decide)))
    · exact hc1 (Int32.toInt_inj.mp (h3.trans (by decide)))
    · exact hc2 (Int32.toInt_inj.mp (h3.trans (by decide)))
  refine lv_tableOut (tgt := 215) hx hb dX11_walk_174 hd (by decide) ?_
  clear hd hc0 hc1 hc2
  refine lv_iload hx hb dX11_walk_215 (lv_at hl 2 rfl) ?_
  exact jret_i hx hb hr hlk hst w h dX11_walk_217
set_option maxHeartbeats 4000000 in
set_option maxRecDepth 100000 in
theorem w_X11_walk_L166 (C0 : jCx p s m args c cX11_walk 13 wsX11_walk RX11 b cy D tU n K r) (hr : meth.sig.returnType = some .int) (hlk : meth.locks = false) {Hd62 : jI → jL → Nat → Int32 → Int32 → Nat → Int32 → Int32 → Int32 → Int32 → Prop} (k62 : ∀ {H : Heap} {locs : List Loc} {ls : Array Slot} {i : jI} {j : jL} {x0 : Nat} {x2 : Int32} {x4 : Int32} {x5 : Nat} {x6 : Int32} {x7 : Int32} {x8 : Int32} {x9 : Int32} (w : jDy b cy D n K len r i j s H locs) (hx0 : x0 < n ∧ K x0 = 10) (hx5 : x5 < n ∧ K x5 = 8) (hl : lv_has ls 13 [(0, .ref (b + x0)), (2, .int x2), (4, .int x4), (5, .ref (b + x5)), (6, .int x6), (7, .int x7), (8, .int x8), (9, .int x9)]) (h : Hd62 i j x0 x2 x4 x5 x6 x7 x8 x9), W p l e rm_X11_walk s m args below meth c H locs 0 0 (MQ below (jQi b cy D tU n K len r Q) args s 0 0 (jA b)) (F0 m 62 ls [])) {H : Heap} {locs : List Loc} {ls : Array Slot} {i : jI} {j : jL} {x0 : Nat} {x2 : Int32} {x4 : Int32} {x5 : Nat} {x6 : Int32} {x7 : Int32} {x8 : Int32} {x9 : Int32} (w : jDy b cy D n K len r i j s H locs) (hx0 : x0 < n ∧ K x0 = 10) (hx5 : x5 < n ∧ K x5 = 8) (hl : lv_has ls 13 [(0, .ref (b + x0)), (2, .int x2), (4, .int x4), (5, .ref (b + x5)), (6, .int x6), (7, .int x7), (8, .int x8), (9, .int x9)]) (h : J_X11_walk_L166 len r Q Hd62 i j x0 x2 x4 x5 x6 x7 x8 x9) : W p l e rm_X11_walk s m args below meth c H locs 0 0 (MQ below (jQi b cy D tU n K len r Q) args s 0 0 (jA b)) (F0 m 166 ls []) := by
  obtain ⟨hx, hb, hml, hown, hts, hst, hG⟩ := id C0
  have hiX11 : ∀ w ∈ u_ws RX11 TX11 15, w ∈ wsX11_walk := hiX11_X11_walk
  have hiX8 : ∀ w ∈ u_ws RX8 TX8 8, w ∈ wsX11_walk := hiX8_X11_walk
  have hiX9 : ∀ w ∈ u_ws RX9 TX9 3, w ∈ wsX11_walk := hiX9_X11_walk
  rw [J_X11_walk_L166] at h
  obtain ⟨v166, he⟩ : ∃ z : Int32, z = x9 + (1 : Int32) := ⟨_, rfl⟩
  replace h := h v166 he
  refine lv_iinc (v := v166) (lv' := [(9, .int v166), (0, .ref (b + x0)), (2, .int x2), (4, .int x4), (5, .ref (b + x5)), (6, .int x6), (7, .int x7), (8, .int x8)]) hx hb dX11_walk_166 hl (k := 7) rfl (by rw [he]; rfl) (by decide) rfl (fun ls hl => ?_)
  clear he
  refine lv_goto (tgt := 62) hx hb dX11_walk_169 (by decide) ?_
  exact k62 w hx0 hx5 (lv_sub hl [1, 2, 3, 4, 5, 6, 7, 0] rfl) h
set_option maxHeartbeats 4000000 in
set_option maxRecDepth 100000 in
theorem w_X11_walk_L62 (C0 : jCx p s m args c cX11_walk 13 wsX11_walk RX11 b cy D tU n K r) (hr : meth.sig.returnType = some .int) (hlk : meth.locks = false) : ∀ (g : Nat) {H : Heap} {locs : List Loc} {ls : Array Slot} {i : jI} {j : jL} {x0 : Nat} {x2 : Int32} {x4 : Int32} {x5 : Nat} {x6 : Int32} {x7 : Int32} {x8 : Int32} {x9 : Int32} (w : jDy b cy D n K len r i j s H locs) (hx0 : x0 < n ∧ K x0 = 10) (hx5 : x5 < n ∧ K x5 = 8) (hl : lv_has ls 13 [(0, .ref (b + x0)), (2, .int x2), (4, .int x4), (5, .ref (b + x5)), (6, .int x6), (7, .int x7), (8, .int x8), (9, .int x9)]) (h : J_X11_walk_L62 len r Q g i j x0 x2 x4 x5 x6 x7 x8 x9), W p l e rm_X11_walk s m args below meth c H locs 0 0 (MQ below (jQi b cy D tU n K len r Q) args s 0 0 (jA b)) (F0 m 62 ls []) := by
  obtain ⟨hx, hb, hml, hown, hts, hst, hG⟩ := id C0
  have hiX11 : ∀ w ∈ u_ws RX11 TX11 15, w ∈ wsX11_walk := hiX11_X11_walk
  have hiX8 : ∀ w ∈ u_ws RX8 TX8 8, w ∈ wsX11_walk := hiX8_X11_walk
  have hiX9 : ∀ w ∈ u_ws RX9 TX9 3, w ∈ wsX11_walk := hiX9_X11_walk
  intro g
  induction g with
  | zero => intro H locs ls i j x0 x2 x4 x5 x6 x7 x8 x9 w hx0 hx5 hl h; exact False.elim h
  | succ g ih =>
    intro H locs ls i j x0 x2 x4 x5 x6 x7 x8 x9 w hx0 hx5 hl h
    rw [J_X11_walk_L62] at h
    refine lv_iload hx hb dX11_walk_62 (lv_at hl 7 rfl) ?_
    refine lv_iload_n hx hb dX11_walk_64 rfl (lv_at hl 1 rfl) ?_
    refine lv_icmp_ge (tgt := 172) hx hb dX11_walk_65 (by decide) (fun hc => ?_) (fun hc => ?_)
    · replace h := h.1 hc
      clear hc
      exact w_X11_walk_L172 C0 hr hlk w (lv_sub hl [2, 4, 5, 6] rfl) h
    · replace h := h.2 hc
      clear hc
      refine lv_aload_n hx hb dX11_walk_68 rfl (lv_at hl 0 rfl) ?_
      obtain ⟨a69, hr0, h⟩ := h
      refine jgr (f := 1) hx hb hts hown hst w hG hx0 hiX11 (rfl : vwCl[10]? = some (RX11, TX11, 15)) (hts (.fieldLink RX11 19 "FootByGate" "map" "LFootByGate$Town;") (by decide +kernel)) ⟨by decide, by decide, rfl⟩ (rfl : jrt 10 1 = 7) dX11_walk_69 hr0 (fun ha69 => ?_)
      clear hr0
      refine lv_iload hx hb dX11_walk_72 (lv_at hl 4 rfl) ?_
      refine jcS_i (As := [.int x6]) (rest := [.ref (b + a69)]) C0 w (c_X7_placeOf hG h) (va_cwS 1 hts gX11_walk_X7_placeOf rfl rfl rfl (by decide +kernel) ⟨Nat.le_of_ble_eq_true rfl, Nat.le_of_ble_eq_true rfl⟩) rfl hl.1 rfl (Nat.le_of_ble_eq_true rfl) dX11_walk_74 (fun q74 i74 j74 H locs h w => ?_) ⟨Nat.zero_le _, Nat.zero_le _⟩
      refine jcV_i (k := a69) (As := [.int q74]) (rest := []) C0 w (c_X8_streetsAt hG ha69 h) (cwV 1 hts gX11_walk_X8_streetsAt rfl rfl rfl (by decide +kernel) ⟨Nat.le_of_ble_eq_true rfl, Nat.le_of_ble_eq_true rfl⟩) ha69 (rfl : vwCl[7]? = some (RX8, TX8, 8)) (by decide) rfl hl.1 rfl (Nat.le_of_ble_eq_true rfl) dX11_walk_77 (fun q77 i77 j77 H locs h w => ?_) ⟨Nat.zero_le _, Nat.zero_le _⟩
      refine lv_istore (lv' := [(10, .int q77), (0, .ref (b + x0)), (2, .int x2), (4, .int x4), (5, .ref (b + x5)), (6, .int x6), (7, .int x7), (8, .int x8), (9, .int x9)]) hx hb dX11_walk_80 hl (by decide) rfl (fun ls hl => ?_)
      refine lv_iload hx hb dX11_walk_82 (lv_at hl 0 rfl) ?_
      refine lv_if_ne (tgt := 90) hx hb dX11_walk_84 (by decide) (fun hc => ?_) (fun hc => ?_)
      · replace h := h.1 hc
        clear hc
        refine lv_iload hx hb dX11_walk_90 (lv_at hl 6 rfl) ?_
        refine jcS_i (As := [.int x7]) (rest := []) C0 w (c_X11_nextSeed hG h) (va_cwS 1 hts gX11_walk_X11_nextSeed rfl rfl rfl (by decide +kernel) ⟨Nat.le_of_ble_eq_true rfl, Nat.le_of_ble_eq_true rfl⟩) rfl hl.1 rfl (Nat.le_of_ble_eq_true rfl) dX11_walk_92 (fun q92 i92 j92 H locs h w => ?_) ⟨Nat.zero_le _, Nat.zero_le _⟩
        refine lv_istore (lv' := [(7, .int q92), (10, .int q77), (0, .ref (b + x0)), (2, .int x2), (4, .int x4), (5, .ref (b + x5)), (6, .int x6), (8, .int x8), (9, .int x9)]) hx hb dX11_walk_95 hl (by decide) rfl (fun ls hl => ?_)
        refine lv_aload_n hx hb dX11_walk_97 rfl (lv_at hl 2 rfl) ?_
        obtain ⟨a98, hr0, h⟩ := h
        refine jgr (f := 1) hx hb hts hown hst w hG hx0 hiX11 (rfl : vwCl[10]? = some (RX11, TX11, 15)) (hts (.fieldLink RX11 19 "FootByGate" "map" "LFootByGate$Town;") (by decide +kernel)) ⟨by decide, by decide, rfl⟩ (rfl : jrt 10 1 = 7) dX11_walk_98 hr0 (fun ha98 => ?_)
        clear hr0
        refine lv_iload hx hb dX11_walk_101 (lv_at hl 6 rfl) ?_
        refine jcS_i (As := [.int x6]) (rest := [.ref (b + a98)]) C0 w (c_X7_placeOf hG h) (va_cwS 1 hts gX11_walk_X7_placeOf rfl rfl rfl (by decide +kernel) ⟨Nat.le_of_ble_eq_true rfl, Nat.le_of_ble_eq_true rfl⟩) rfl hl.1 rfl (Nat.le_of_ble_eq_true rfl) dX11_walk_103 (fun q103 i103 j103 H locs h w => ?_) ⟨Nat.zero_le _, Nat.zero_le _⟩
        refine lv_iload hx hb dX11_walk_106 (lv_at hl 0 rfl) ?_
        refine lv_bipush (v := (16 : Int32)) hx hb dX11_walk_108 (by decide) ?_
        refine lv_ishr hx hb dX11_walk_110 ?_
        refine lv_iload hx hb dX11_walk_111 (lv_at hl 1 rfl) ?_
        obtain ⟨hz, h⟩ := h
        refine lv_irem hx hb dX11_walk_113 hz ?_
        refine jcV_i (k := a98) (As := [.int q103, .int ((q92 >>> ((16 : Int32) &&& 31)) - (q92 >>> ((16 : Int32) &&& 31)) / q77 * q77)]) (rest := []) C0 w (c_X8_streetAt hG ha98 h) (cwV 2 hts gX11_walk_X8_streetAt rfl rfl rfl (by decide +kernel) ⟨Nat.le_of_ble_eq_true rfl, Nat.le_of_ble_eq_true rfl⟩) ha98 (rfl : vwCl[7]? = some (RX8, TX8, 8)) (by decide) rfl hl.1 rfl (Nat.le_of_ble_eq_true rfl) dX11_walk_114 (fun q114 i114 j114 H locs h w => ?_) ⟨Nat.zero_le _, Nat.zero_le _⟩
        refine lv_istore (lv' := [(11, .int q114), (7, .int q92), (10, .int q77), (0, .ref (b + x0)), (2, .int x2), (4, .int x4), (5, .ref (b + x5)), (6, .int x6), (8, .int x8), (9, .int x9)]) hx hb dX11_walk_117 hl (by decide) rfl (fun ls hl => ?_)
        refine lv_aload_n hx hb dX11_walk_119 rfl (lv_at hl 3 rfl) ?_
        obtain ⟨a120, hr0, h⟩ := h
        refine jgr (f := 1) hx hb hts hown hst w hG hx0 hiX11 (rfl : vwCl[10]? = some (RX11, TX11, 15)) (hts (.fieldLink RX11 19 "FootByGate" "map" "LFootByGate$Town;") (by decide +kernel)) ⟨by decide, by decide, rfl⟩ (rfl : jrt 10 1 = 7) dX11_walk_120 hr0 (fun ha120 => ?_)
        clear hr0
        refine lv_iload hx hb dX11_walk_123 (lv_at hl 7 rfl) ?_
        refine lv_iload hx hb dX11_walk_125 (lv_at hl 0 rfl) ?_
        refine lv_aload hx hb dX11_walk_127 (lv_at hl 6 rfl) ?_
        refine jgi (f := 0) hx hb hts hown hst w hx5 hiX9 (rfl : vwCl[8]? = some (RX9, TX9, 3)) (hts (.fieldLink RX11 137 "FootByGate$Walker" "kind" "I") (by decide +kernel)) ⟨by decide, by decide, rfl⟩ dX11_walk_129 ?_
        refine lv_aload_n hx hb dX11_walk_132 rfl (lv_at hl 3 rfl) ?_
        obtain ⟨a133, hr0, h⟩ := h
        refine jgr (f := 1) hx hb hts hown hst w hG hx0 hiX11 (rfl : vwCl[10]? = some (RX11, TX11, 15)) (hts (.fieldLink RX11 19 "FootByGate" "map" "LFootByGate$Town;") (by decide +kernel)) ⟨by decide, by decide, rfl⟩ (rfl : jrt 10 1 = 7) dX11_walk_133 hr0 (fun ha133 => ?_)
        clear hr0
        obtain ⟨a136, hr0, h⟩ := h
        refine jgr (f := 5) hx hb hts hown hst w hG ha133 hiX8 (rfl : vwCl[7]? = some (RX8, TX8, 8)) (hts (.fieldLink RX11 118 "FootByGate$Town" "paces" "[I") (by decide +kernel)) ⟨by decide, by decide, rfl⟩ (rfl : jrt 7 5 = 13) dX11_walk_136 hr0 (fun ha136 => ?_)
        clear hr0
        refine lv_iload hx hb dX11_walk_139 (lv_at hl 0 rfl) ?_
        obtain ⟨hn, h⟩ := h
        refine jaid hx hb hst w ha136 hn dX11_walk_141 ?_
        clear hn
        refine jcS_i (As := [.int (i114 x5 0), .int (i114 a136 q114.toNatClampNeg)]) (rest := [.int q114, .int x6, .ref (b + a120)]) C0 w (c_X9_turnOf hG h) (va_cwS 2 hts gX11_walk_X9_turnOf rfl rfl rfl (by decide +kernel) ⟨Nat.le_of_ble_eq_true rfl, Nat.le_of_ble_eq_true rfl⟩) rfl hl.1 rfl (Nat.le_of_ble_eq_true rfl) dX11_walk_142 (fun q142 i142 j142 H locs h w => ?_) ⟨Nat.zero_le _, Nat.zero_le _⟩
        refine jcV_i (k := a120) (As := [.int x6, .int q114, .int q142]) (rest := []) C0 w (c_X8_behind hG ha120 h) (cwV 3 hts gX11_walk_X8_behind rfl rfl rfl (by decide +kernel) ⟨Nat.le_of_ble_eq_true rfl, Nat.le_of_ble_eq_true rfl⟩) ha120 (rfl : vwCl[7]? = some (RX8, TX8, 8)) (by decide) rfl hl.1 rfl (Nat.le_of_ble_eq_true rfl) dX11_walk_145 (fun q145 i145 j145 H locs h w => ?_) ⟨Nat.zero_le _, Nat.zero_le _⟩
        refine lv_istore (lv' := [(12, .int q145), (11, .int q114), (7, .int q92), (10, .int q77), (0, .ref (b + x0)), (2, .int x2), (4, .int x4), (5, .ref (b + x5)), (6, .int x6), (8, .int x8), (9, .int x9)]) hx hb dX11_walk_148 hl (by decide) rfl (fun ls hl => ?_)
        refine lv_iload hx hb dX11_walk_150 (lv_at hl 0 rfl) ?_
        refine lv_iconst (v := (-1 : Int32)) hx hb dX11_walk_152 (by decide) ?_
        refine lv_icmp_ne (tgt := 162) hx hb dX11_walk_153 (by decide) (fun hc => ?_) (fun hc => ?_)
        · replace h := h.1 hc
          clear hc
          refine lv_iload hx hb dX11_walk_162 (lv_at hl 0 rfl) ?_
          refine lv_istore (lv' := [(6, .int q145), (12, .int q145), (11, .int q114), (7, .int q92), (10, .int q77), (0, .ref (b + x0)), (2, .int x2), (4, .int x4), (5, .ref (b + x5)), (8, .int x8), (9, .int x9)]) hx hb dX11_walk_164 hl (by decide) rfl (fun ls hl => ?_)
          exact w_X11_walk_L166 C0 hr hlk (fun w hx0 hx5 hl h => ih w hx0 hx5 hl h) w hx0 hx5 (lv_sub hl [5, 6, 7, 8, 0, 3, 9, 10] rfl) h
        · replace h := h.2 hc
          clear hc
          obtain ⟨v156, he⟩ : ∃ z : Int32, z = x8 + (1 : Int32) := ⟨_, rfl⟩
          replace h := h v156 he
          refine lv_iinc (v := v156) (lv' := [(8, .int v156), (12, .int q145), (11, .int q114), (7, .int q92), (10, .int q77), (0, .ref (b + x0)), (2, .int x2), (4, .int x4), (5, .ref (b + x5)), (6, .int x6), (9, .int x9)]) hx hb dX11_walk_156 hl (k := 9) rfl (by rw [he]; rfl) (by decide) rfl (fun ls hl => ?_)
          clear he
          refine lv_goto (tgt := 166) hx hb dX11_walk_159 (by decide) ?_
          exact w_X11_walk_L166 C0 hr hlk (fun w hx0 hx5 hl h => ih w hx0 hx5 hl h) w hx0 hx5 (lv_sub hl [5, 6, 7, 8, 9, 3, 0, 10] rfl) h
      · replace h := h.2 hc
        clear hc
        refine lv_goto (tgt := 172) hx hb dX11_walk_87 (by decide) ?_
        exact w_X11_walk_L172 C0 hr hlk w (lv_sub hl [3, 5, 6, 7] rfl) h
set_option maxHeartbeats 4000000 in
set_option maxRecDepth 100000 in
theorem c_X11_walk (hG : jG n K r) {i : jI} {j : jL} {x0 : Nat} {x1 : Int32} {x2 : Int32} {x3 : Int32} {x4 : Int32} (hx0 : x0 < n ∧ K x0 = 10) (h : J_X11_walk len r Q i j x0 x1 x2 x3 x4) : Met l yX11_walk wsX11_walk rm_X11_walk (va_Pc [.ref (b + x0), .int x1, .int x2, .int x3, .int x4] (jPre b cy D tU n K len r i j)) (jQi b cy D tU n K len r Q) 0 0 (jA b) := by
  refine Met.ofW (cc := cX11_walk) (maxL := 13) (ret := (some .int)) (by decide) rfl ?_
  intro p e s m args below meth c s₁ B hml hv
  obtain ⟨rfl, hv⟩ := hv
  have C0 : jCx p s m _ c cX11_walk 13 wsX11_walk RX11 b cy D tU n K r := ⟨B.exec, B.bytes, hml, findClass_of_methodNamed B.named, atoms_spec (ws := wsX11_walk) B.pre, hv.2.2, hG⟩
  have hr := B.returns
  have hlk := B.notSynchronized
  obtain ⟨hx, hb, hml, hown, hts, hst, hG⟩ := id C0
  have hiX11 : ∀ w ∈ u_ws RX11 TX11 15, w ∈ wsX11_walk := hiX11_X11_walk
  have hiX8 : ∀ w ∈ u_ws RX8 TX8 8, w ∈ wsX11_walk := hiX8_X11_walk
  have hiX9 : ∀ w ∈ u_ws RX9 TX9 3, w ∈ wsX11_walk := hiX9_X11_walk
  have w := jDy.start hv
  have hl := lv_entry ([.ref (b + x0), .int x1, .int x2, .int x3, .int x4]) (n := 13) (Nat.le_of_ble_eq_true rfl)
  rw [lg_entry_eq]
  generalize (lg_sl ([.ref (b + x0), .int x1, .int x2, .int x3, .int x4]) ++ List.replicate (13 - (lg_sl ([.ref (b + x0), .int x1, .int x2, .int x3, .int x4])).length) Slot.unset).toArray = ls at hl ⊢
  replace hl : lv_has ls 13 [(0, .ref (b + x0)), (1, .int x1), (2, .int x2), (3, .int x3), (4, .int x4)] := hl
  show W p l e rm_X11_walk s m _ below meth c s.heap [] 0 0 _ (F0 m 0 ls [])
  rw [J_X11_walk] at h
  refine lv_aload_n hx hb dX11_walk_0 rfl (lv_at hl 0 rfl) ?_
  refine lv_iload_n hx hb dX11_walk_1 rfl (lv_at hl 1 rfl) ?_
  refine jcV_i (k := x0) (As := [.int x1]) (rest := []) C0 w (c_X11_isWalker hG hx0 h) (cwV 1 hts gX11_walk_X11_isWalker rfl rfl rfl (by decide +kernel) ⟨Nat.le_of_ble_eq_true rfl, Nat.le_of_ble_eq_true rfl⟩) hx0 (rfl : vwCl[10]? = some (RX11, TX11, 15)) (by decide) rfl hl.1 rfl (Nat.le_of_ble_eq_true rfl) dX11_walk_2 (fun q2 i2 j2 H locs h w => ?_) ⟨Nat.zero_le _, Nat.zero_le _⟩
  refine lv_if_ne (tgt := 11) hx hb dX11_walk_5 (by decide) (fun hc => ?_) (fun hc => ?_)
  · replace h := h.1 hc
    clear hc
    refine lv_iload_n hx hb dX11_walk_11 rfl (lv_at hl 2 rfl) ?_
    refine lv_iconst (v := (1 : Int32)) hx hb dX11_walk_12 (by decide) ?_
    refine lv_icmp_lt (tgt := 35) hx hb dX11_walk_13 (by decide) (fun hc => ?_) (fun hc => ?_)
    · replace h := h.1 hc
      clear hc
      exact w_X11_walk_L35 C0 hr hlk w (lv_sub hl [] rfl) h
    · replace h := h.2 hc
      clear hc
      refine lv_iload_n hx hb dX11_walk_16 rfl (lv_at hl 2 rfl) ?_
      refine lv_bipush (v := (60 : Int32)) hx hb dX11_walk_17 (by decide) ?_
      refine lv_icmp_gt (tgt := 35) hx hb dX11_walk_19 (by decide) (fun hc => ?_) (fun hc => ?_)
      · replace h := h.1 hc
        clear hc
        exact w_X11_walk_L35 C0 hr hlk w (lv_sub hl [] rfl) h
      · replace h := h.2 hc
        clear hc
        refine lv_iload_n hx hb dX11_walk_22 rfl (lv_at hl 3 rfl) ?_
        refine lv_if_lt (tgt := 35) hx hb dX11_walk_23 (by decide) (fun hc => ?_) (fun hc => ?_)
        · replace h := h.1 hc
          clear hc
          exact w_X11_walk_L35 C0 hr hlk w (lv_sub hl [] rfl) h
        · replace h := h.2 hc
          clear hc
          refine lv_iload hx hb dX11_walk_26 (lv_at hl 4 rfl) ?_
          refine lv_iconst (v := (3 : Int32)) hx hb dX11_walk_28 (by decide) ?_
          refine jcS_i (As := [.int x4, .int (3 : Int32)]) (rest := []) C0 w (c_X11_isWithin hG h) (va_cwS 2 hts gX11_walk_X11_isWithin rfl rfl rfl (by decide +kernel) ⟨Nat.le_of_ble_eq_true rfl, Nat.le_of_ble_eq_true rfl⟩) rfl hl.1 rfl (Nat.le_of_ble_eq_true rfl) dX11_walk_29 (fun q29 i29 j29 H locs h w => ?_) ⟨Nat.zero_le _, Nat.zero_le _⟩
          refine lv_if_ne (tgt := 38) hx hb dX11_walk_32 (by decide) (fun hc => ?_) (fun hc => ?_)
          · replace h := h.1 hc
            clear hc
            refine lv_aload_n hx hb dX11_walk_38 rfl (lv_at hl 0 rfl) ?_
            obtain ⟨a39, hr0, h⟩ := h
            refine jgr (f := 2) hx hb hts hown hst w hG hx0 hiX11 (rfl : vwCl[10]? = some (RX11, TX11, 15)) (hts (.fieldLink RX11 25 "FootByGate" "walkers" "[LFootByGate$Walker;") (by decide +kernel)) ⟨by decide, by decide, rfl⟩ (rfl : jrt 10 2 = 16) dX11_walk_39 hr0 (fun ha39 => ?_)
            clear hr0
            refine lv_iload_n hx hb dX11_walk_42 rfl (lv_at hl 1 rfl) ?_
            obtain ⟨hn, h⟩ := h
            obtain ⟨a43, hr0, h⟩ := h
            refine jaar hx hb hst w hG ha39 hn dX11_walk_43 hr0 (fun ha43 => ?_)
            clear hn hr0
            refine lv_astore (lv' := [(5, .ref (b + a43)), (0, .ref (b + x0)), (1, .int x1), (2, .int x2), (3, .int x3), (4, .int x4)]) hx hb dX11_walk_44 hl (by decide) rfl (fun ls hl => ?_)
            refine lv_aload hx hb dX11_walk_46 (lv_at hl 0 rfl) ?_
            refine jgi (f := 1) hx hb hts hown hst w ha43 hiX9 (rfl : vwCl[8]? = some (RX9, TX9, 3)) (hts (.fieldLink RX11 146 "FootByGate$Walker" "stand" "I") (by decide +kernel)) ⟨by decide, by decide, rfl⟩ dX11_walk_48 ?_
            refine lv_topi (fun v51 he => ?_)
            replace h := h v51 he
            clear he
            refine lv_istore (lv' := [(6, .int v51), (5, .ref (b + a43)), (0, .ref (b + x0)), (1, .int x1), (2, .int x2), (3, .int x3), (4, .int x4)]) hx hb dX11_walk_51 hl (by decide) rfl (fun ls hl => ?_)
            refine lv_iload_n hx hb dX11_walk_53 rfl (lv_at hl 5 rfl) ?_
            refine lv_istore (lv' := [(7, .int x3), (6, .int v51), (5, .ref (b + a43)), (0, .ref (b + x0)), (1, .int x1), (2, .int x2), (3, .int x3), (4, .int x4)]) hx hb dX11_walk_54 hl (by decide) rfl (fun ls hl => ?_)
            refine lv_iconst (v := (0 : Int32)) hx hb dX11_walk_56 (by decide) ?_
            refine lv_istore (lv' := [(8, .int (0 : Int32)), (7, .int x3), (6, .int v51), (5, .ref (b + a43)), (0, .ref (b + x0)), (1, .int x1), (2, .int x2), (3, .int x3), (4, .int x4)]) hx hb dX11_walk_57 hl (by decide) rfl (fun ls hl => ?_)
            refine lv_iconst (v := (0 : Int32)) hx hb dX11_walk_59 (by decide) ?_
            refine lv_istore (lv' := [(9, .int (0 : Int32)), (8, .int (0 : Int32)), (7, .int x3), (6, .int v51), (5, .ref (b + a43)), (0, .ref (b + x0)), (1, .int x1), (2, .int x2), (3, .int x3), (4, .int x4)]) hx hb dX11_walk_60 hl (by decide) rfl (fun ls hl => ?_)
            obtain ⟨g0, h⟩ := h
            exact w_X11_walk_L62 C0 hr hlk g0 w hx0 ha43 (lv_sub hl [5, 7, 9, 4, 3, 2, 1, 0] rfl) h
          · replace h := h.2 hc
            clear hc
            exact w_X11_walk_L35 C0 hr hlk w (lv_sub hl [] rfl) h
  · replace h := h.2 hc
    clear hc
    refine lv_bipush (v := (-101 : Int32)) hx hb dX11_walk_8 (by decide) ?_
    exact jret_i hx hb hr hlk hst w h dX11_walk_10
end S_X11_walk
section S_X11_walker
def J_X11_walker_L25 (len : Nat → Nat) (r : jR) (Q : Int32 → jI → jL → Prop) (i : jI) (j : jL) : Prop := Q (-102 : Int32) i j
def J_X11_walker (len : Nat → Nat) (r : jR) (Q : Int32 → jI → jL → Prop) (i : jI) (j : jL) (x0 : Nat) (x1 : Int32) (x2 : Int32) (x3 : Int32) : Prop := J_X11_isPlace len r (fun (q1 : Int32) (i1 : jI) (j1 : jL) => ((¬ q1 = 0) → (J_X11_isKind len r (fun (q11 : Int32) (i11 : jI) (j11 : jL) => ((q11 = 0) → (J_X11_walker_L25 len r Q i11 j11 )) ∧ ((¬ q11 = 0) → (J_X11_isWithin len r (fun (q19 : Int32) (i19 : jI) (j19 : jL) => ((¬ q19 = 0) → (J_X11_hasTown len r (fun (q29 : Int32) (i29 : jI) (j29 : jL) => ((¬ q29 = 0) → ((((i29 x0 3) < (5 : Int32)) → (∃ a50, r x0 2 = some a50 ∧ (vp_in (i29 x0 3) (len a50) ∧ ∃ a57, r a50 (i29 x0 3).toNatClampNeg = some a57 ∧ (∀ i63 : jI, i63 = ju i29 a57 0 x1 → (J_X7_of len r (fun (q71 : Int32) (i71 : jI) (j71 : jL) => ∀ i74 : jI, i74 = ju i71 a57 1 q71 → (∀ i80 : jI, i80 = ju i74 a57 2 (0 : Int32) → (∀ i90 : jI, i90 = ju i80 x0 3 ((i80 x0 3) + (1 : Int32)) → (Q ((i90 x0 3) - (1 : Int32)) i90 j71)))) i63 j29 x2 x3 (0 : Int32)))))) ∧ ((¬ (i29 x0 3) < (5 : Int32)) → (Q (-104 : Int32) i29 j29)))) ∧ ((q29 = 0) → (Q (-103 : Int32) i29 j29))) i19 j19 x0)) ∧ ((q19 = 0) → (J_X11_walker_L25 len r Q i19 j19 ))) i11 j11 x3 (1 : Int32)))) i1 j1 x1)) ∧ ((q1 = 0) → (Q (-101 : Int32) i1 j1))) i j x2
abbrev rm_X11_walker : Room := { frames := 2, cells := 0, slots := 0, locals := 41 }
variable {p : Program} {l : Launch} {e : Env} {s : State} {m : MethodId} {args : Array Value} {below : List Frame} {meth : Method} {c : Code} {b tU n : Nat} {cy : Nat → ClassId} {D : va_G} {K len : Nat → Nat} {r : jR} {Q : Int32 → jI → jL → Prop}
theorem hiX11_X11_walker : ∀ w ∈ u_ws RX11 TX11 15, w ∈ wsX11_walker := by decide +kernel
theorem hiX9_X11_walker : ∀ w ∈ u_ws RX9 TX9 3, w ∈ wsX11_walker := by decide +kernel
set_option maxHeartbeats 4000000 in
set_option maxRecDepth 100000 in
theorem w_X11_walker_L25 (C0 : jCx p s m args c cX11_walker 5 wsX11_walker RX11 b cy D tU n K r) (hr : meth.sig.returnType = some .int) (hlk : meth.locks = false) {H : Heap} {locs : List Loc} {ls : Array Slot} {i : jI} {j : jL}  (w : jDy b cy D n K len r i j s H locs) (hl : lv_has ls 5 []) (h : J_X11_walker_L25 len r Q i j) : W p l e rm_X11_walker s m args below meth c H locs 0 0 (MQ below (jQi b cy D tU n K len r Q) args s 0 0 (jA b)) (F0 m 25 ls []) := by
  obtain ⟨hx, hb, hml, hown, hts, hst, hG⟩ := id C0
  have hiX11 : ∀ w ∈ u_ws RX11 TX11 15, w ∈ wsX11_walker := hiX11_X11_walker
  have hiX9 : ∀ w ∈ u_ws RX9 TX9 3, w ∈ wsX11_walker := hiX9_X11_walker
  rw [J_X11_walker_L25] at h
  refine lv_bipush (v := (-102 : Int32)) hx hb dX11_walker_25 (by decide) ?_
  exact jret_i hx hb hr hlk hst w h dX11_walker_27
set_option maxHeartbeats 4000000 in
set_option maxRecDepth 100000 in
theorem c_X11_walker (hG : jG n K r) {i : jI} {j : jL} {x0 : Nat} {x1 : Int32} {x2 : Int32} {x3 : Int32} (hx0 : x0 < n ∧ K x0 = 10) (h : J_X11_walker len r Q i j x0 x1 x2 x3) : Met l yX11_walker wsX11_walker rm_X11_walker (va_Pc [.ref (b + x0), .int x1, .int x2, .int x3] (jPre b cy D tU n K len r i j)) (jQi b cy D tU n K len r Q) 0 0 (jA b) := by
  refine Met.ofW (cc := cX11_walker) (maxL := 5) (ret := (some .int)) (by decide) rfl ?_
  intro p e s m args below meth c s₁ B hml hv
  obtain ⟨rfl, hv⟩ := hv
  have C0 : jCx p s m _ c cX11_walker 5 wsX11_walker RX11 b cy D tU n K r := ⟨B.exec, B.bytes, hml, findClass_of_methodNamed B.named, atoms_spec (ws := wsX11_walker) B.pre, hv.2.2, hG⟩
  have hr := B.returns
  have hlk := B.notSynchronized
  obtain ⟨hx, hb, hml, hown, hts, hst, hG⟩ := id C0
  have hiX11 : ∀ w ∈ u_ws RX11 TX11 15, w ∈ wsX11_walker := hiX11_X11_walker
  have hiX9 : ∀ w ∈ u_ws RX9 TX9 3, w ∈ wsX11_walker := hiX9_X11_walker
  have w := jDy.start hv
  have hl := lv_entry ([.ref (b + x0), .int x1, .int x2, .int x3]) (n := 5) (Nat.le_of_ble_eq_true rfl)
  rw [lg_entry_eq]
  generalize (lg_sl ([.ref (b + x0), .int x1, .int x2, .int x3]) ++ List.replicate (5 - (lg_sl ([.ref (b + x0), .int x1, .int x2, .int x3])).length) Slot.unset).toArray = ls at hl ⊢
  replace hl : lv_has ls 5 [(0, .ref (b + x0)), (1, .int x1), (2, .int x2), (3, .int x3)] := hl
  show W p l e rm_X11_walker s m _ below meth c s.heap [] 0 0 _ (F0 m 0 ls [])
  rw [J_X11_walker] at h
  refine lv_iload_n hx hb dX11_walker_0 rfl (lv_at hl 2 rfl) ?_
  refine jcS_i (As := [.int x2]) (rest := []) C0 w (c_X11_isPlace hG h) (va_cwS 1 hts gX11_walker_X11_isPlace rfl rfl rfl (by decide +kernel) ⟨Nat.le_of_ble_eq_true rfl, Nat.le_of_ble_eq_true rfl⟩) rfl hl.1 rfl (Nat.le_of_ble_eq_true rfl) dX11_walker_1 (fun q1 i1 j1 H locs h w => ?_) ⟨Nat.zero_le _, Nat.zero_le _⟩
  refine lv_if_ne (tgt := 10) hx hb dX11_walker_4 (by decide) (fun hc => ?_) (fun hc => ?_)
  · replace h := h.1 hc
    clear hc
    refine lv_iload_n hx hb dX11_walker_10 rfl (lv_at hl 1 rfl) ?_
    refine jcS_i (As := [.int x1]) (rest := []) C0 w (c_X11_isKind hG h) (va_cwS 1 hts gX11_walker_X11_isKind rfl rfl rfl (by decide +kernel) ⟨Nat.le_of_ble_eq_true rfl, Nat.le_of_ble_eq_true rfl⟩) rfl hl.1 rfl (Nat.le_of_ble_eq_true rfl) dX11_walker_11 (fun q11 i11 j11 H locs h w => ?_) ⟨Nat.zero_le _, Nat.zero_le _⟩
    refine lv_if_eq (tgt := 25) hx hb dX11_walker_14 (by decide) (fun hc => ?_) (fun hc => ?_)
    · replace h := h.1 hc
      clear hc
      exact w_X11_walker_L25 C0 hr hlk w (lv_sub hl [] rfl) h
    · replace h := h.2 hc
      clear hc
      refine lv_iload_n hx hb dX11_walker_17 rfl (lv_at hl 3 rfl) ?_
      refine lv_iconst (v := (1 : Int32)) hx hb dX11_walker_18 (by decide) ?_
      refine jcS_i (As := [.int x3, .int (1 : Int32)]) (rest := []) C0 w (c_X11_isWithin hG h) (va_cwS 2 hts gX11_walker_X11_isWithin rfl rfl rfl (by decide +kernel) ⟨Nat.le_of_ble_eq_true rfl, Nat.le_of_ble_eq_true rfl⟩) rfl hl.1 rfl (Nat.le_of_ble_eq_true rfl) dX11_walker_19 (fun q19 i19 j19 H locs h w => ?_) ⟨Nat.zero_le _, Nat.zero_le _⟩
      refine lv_if_ne (tgt := 28) hx hb dX11_walker_22 (by decide) (fun hc => ?_) (fun hc => ?_)
      · replace h := h.1 hc
        clear hc
        refine lv_aload_n hx hb dX11_walker_28 rfl (lv_at hl 0 rfl) ?_
        refine jcV_i (k := x0) (As := []) (rest := []) C0 w (c_X11_hasTown hG hx0 h) (cwV 0 hts gX11_walker_X11_hasTown rfl rfl rfl (by decide +kernel) ⟨Nat.le_of_ble_eq_true rfl, Nat.le_of_ble_eq_true rfl⟩) hx0 (rfl : vwCl[10]? = some (RX11, TX11, 15)) (by decide) rfl hl.1 rfl (Nat.le_of_ble_eq_true rfl) dX11_walker_29 (fun q29 i29 j29 H locs h w => ?_) ⟨Nat.zero_le _, Nat.zero_le _⟩
        refine lv_if_ne (tgt := 38) hx hb dX11_walker_32 (by decide) (fun hc => ?_) (fun hc => ?_)
        · replace h := h.1 hc
          clear hc
          refine lv_aload_n hx hb dX11_walker_38 rfl (lv_at hl 0 rfl) ?_
          refine jgi (f := 3) hx hb hts hown hst w hx0 hiX11 (rfl : vwCl[10]? = some (RX11, TX11, 15)) (hts (.fieldLink RX11 96 "FootByGate" "walkerCount" "I") (by decide +kernel)) ⟨by decide, by decide, rfl⟩ dX11_walker_39 ?_
          refine lv_iconst (v := (5 : Int32)) hx hb dX11_walker_42 (by decide) ?_
          refine lv_icmp_lt (tgt := 49) hx hb dX11_walker_43 (by decide) (fun hc => ?_) (fun hc => ?_)
          · replace h := h.1 hc
            clear hc
            refine lv_aload_n hx hb dX11_walker_49 rfl (lv_at hl 0 rfl) ?_
            obtain ⟨a50, hr0, h⟩ := h
            refine jgr (f := 2) hx hb hts hown hst w hG hx0 hiX11 (rfl : vwCl[10]? = some (RX11, TX11, 15)) (hts (.fieldLink RX11 25 "FootByGate" "walkers" "[LFootByGate$Walker;") (by decide +kernel)) ⟨by decide, by decide, rfl⟩ (rfl : jrt 10 2 = 16) dX11_walker_50 hr0 (fun ha50 => ?_)
            clear hr0
            refine lv_aload_n hx hb dX11_walker_53 rfl (lv_at hl 0 rfl) ?_
            refine jgi (f := 3) hx hb hts hown hst w hx0 hiX11 (rfl : vwCl[10]? = some (RX11, TX11, 15)) (hts (.fieldLink RX11 96 "FootByGate" "walkerCount" "I") (by decide +kernel)) ⟨by decide, by decide, rfl⟩ dX11_walker_54 ?_
            obtain ⟨hn, h⟩ := h
            obtain ⟨a57, hr0, h⟩ := h
            refine jaar hx hb hst w hG ha50 hn dX11_walker_57 hr0 (fun ha57 => ?_)
            clear hn hr0
            refine lv_astore (lv' := [(4, .ref (b + a57)), (0, .ref (b + x0)), (1, .int x1), (2, .int x2), (3, .int x3)]) hx hb dX11_walker_58 hl (by decide) rfl (fun ls hl => ?_)
            refine lv_aload hx hb dX11_walker_60 (lv_at hl 0 rfl) ?_
            refine lv_iload_n hx hb dX11_walker_62 rfl (lv_at hl 2 rfl) ?_
            refine jpi (f := 0) hx hb hts hown hst w ha57 hiX9 (rfl : vwCl[8]? = some (RX9, TX9, 3)) (hts (.fieldLink RX11 137 "FootByGate$Walker" "kind" "I") (by decide +kernel)) ⟨by decide, by decide, rfl⟩ tyX9 tyX9_ok nmX9 rfl ⟨rfl, rfl⟩ dX11_walker_63 (fun i63 H locs he w => ?_)
            replace h := h i63 he
            clear he
            refine lv_aload hx hb dX11_walker_66 (lv_at hl 0 rfl) ?_
            refine lv_iload_n hx hb dX11_walker_68 rfl (lv_at hl 3 rfl) ?_
            refine lv_iload_n hx hb dX11_walker_69 rfl (lv_at hl 4 rfl) ?_
            refine lv_iconst (v := (0 : Int32)) hx hb dX11_walker_70 (by decide) ?_
            refine jcS_i (As := [.int x2, .int x3, .int (0 : Int32)]) (rest := [.ref (b + a57)]) C0 w (c_X7_of hG h) (va_cwS 3 hts gX11_walker_X7_of rfl rfl rfl (by decide +kernel) ⟨Nat.le_of_ble_eq_true rfl, Nat.le_of_ble_eq_true rfl⟩) rfl hl.1 rfl (Nat.le_of_ble_eq_true rfl) dX11_walker_71 (fun q71 i71 j71 H locs h w => ?_) ⟨Nat.zero_le _, Nat.zero_le _⟩
            refine jpi (f := 1) hx hb hts hown hst w ha57 hiX9 (rfl : vwCl[8]? = some (RX9, TX9, 3)) (hts (.fieldLink RX11 146 "FootByGate$Walker" "stand" "I") (by decide +kernel)) ⟨by decide, by decide, rfl⟩ tyX9 tyX9_ok nmX9 rfl ⟨rfl, rfl⟩ dX11_walker_74 (fun i74 H locs he w => ?_)
            replace h := h i74 he
            clear he
            refine lv_aload hx hb dX11_walker_77 (lv_at hl 0 rfl) ?_
            refine lv_iconst (v := (0 : Int32)) hx hb dX11_walker_79 (by decide) ?_
            refine jpi (f := 2) hx hb hts hown hst w ha57 hiX9 (rfl : vwCl[8]? = some (RX9, TX9, 3)) (hts (.fieldLink RX11 149 "FootByGate$Walker" "skipped" "I") (by decide +kernel)) ⟨by decide, by decide, rfl⟩ tyX9 tyX9_ok nmX9 rfl ⟨rfl, rfl⟩ dX11_walker_80 (fun i80 H locs he w => ?_)
            replace h := h i80 he
            clear he
            refine lv_aload_n hx hb dX11_walker_83 rfl (lv_at hl 1 rfl) ?_
            refine lv_dup hx hb dX11_walker_84 rfl ?_
            refine jgi (f := 3) hx hb hts hown hst w hx0 hiX11 (rfl : vwCl[10]? = some (RX11, TX11, 15)) (hts (.fieldLink RX11 96 "FootByGate" "walkerCount" "I") (by decide +kernel)) ⟨by decide, by decide, rfl⟩ dX11_walker_85 ?_
            refine lv_iconst (v := (1 : Int32)) hx hb dX11_walker_88 (by decide) ?_
            refine lv_iadd hx hb dX11_walker_89 ?_
            refine jpi (f := 3) hx hb hts hown hst w hx0 hiX11 (rfl : vwCl[10]? = some (RX11, TX11, 15)) (hts (.fieldLink RX11 96 "FootByGate" "walkerCount" "I") (by decide +kernel)) ⟨by decide, by decide, rfl⟩ tyX11 tyX11_ok nmX11 rfl ⟨rfl, rfl⟩ dX11_walker_90 (fun i90 H locs he w => ?_)
            replace h := h i90 he
            clear he
            refine lv_aload_n hx hb dX11_walker_93 rfl (lv_at hl 1 rfl) ?_
            refine jgi (f := 3) hx hb hts hown hst w hx0 hiX11 (rfl : vwCl[10]? = some (RX11, TX11, 15)) (hts (.fieldLink RX11 96 "FootByGate" "walkerCount" "I") (by decide +kernel)) ⟨by decide, by decide, rfl⟩ dX11_walker_94 ?_
            refine lv_iconst (v := (1 : Int32)) hx hb dX11_walker_97 (by decide) ?_
            refine lv_isub hx hb dX11_walker_98 ?_
            exact jret_i hx hb hr hlk hst w h dX11_walker_99
          · replace h := h.2 hc
            clear hc
            refine lv_bipush (v := (-104 : Int32)) hx hb dX11_walker_46 (by decide) ?_
            exact jret_i hx hb hr hlk hst w h dX11_walker_48
        · replace h := h.2 hc
          clear hc
          refine lv_bipush (v := (-103 : Int32)) hx hb dX11_walker_35 (by decide) ?_
          exact jret_i hx hb hr hlk hst w h dX11_walker_37
      · replace h := h.2 hc
        clear hc
        exact w_X11_walker_L25 C0 hr hlk w (lv_sub hl [] rfl) h
  · replace h := h.2 hc
    clear hc
    refine lv_bipush (v := (-101 : Int32)) hx hb dX11_walker_7 (by decide) ?_
    exact jret_i hx hb hr hlk hst w h dX11_walker_9
end S_X11_walker
section S_X11_wipe
def J_X11_wipe (len : Nat → Nat) (r : jR) (Q : Int32 → jI → jL → Prop) (i : jI) (j : jL) (x0 : Nat) : Prop := ∀ v4 : Int32, v4 = i x0 5 → (∀ i7 : jI, i7 = ju i x0 5 (0 : Int32) → (Q v4 i7 j))
abbrev rm_X11_wipe : Room := { frames := 0, cells := 0, slots := 0, locals := 0 }
variable {p : Program} {l : Launch} {e : Env} {s : State} {m : MethodId} {args : Array Value} {below : List Frame} {meth : Method} {c : Code} {b tU n : Nat} {cy : Nat → ClassId} {D : va_G} {K len : Nat → Nat} {r : jR} {Q : Int32 → jI → jL → Prop}
theorem hiX11_X11_wipe : ∀ w ∈ u_ws RX11 TX11 15, w ∈ wsX11_wipe := by decide +kernel
set_option maxHeartbeats 4000000 in
set_option maxRecDepth 100000 in
theorem c_X11_wipe (hG : jG n K r) {i : jI} {j : jL} {x0 : Nat} (hx0 : x0 < n ∧ K x0 = 10) (h : J_X11_wipe len r Q i j x0) : Met l yX11_wipe wsX11_wipe rm_X11_wipe (va_Pc [.ref (b + x0)] (jPre b cy D tU n K len r i j)) (jQi b cy D tU n K len r Q) 0 0 (jA b) := by
  refine Met.ofW (cc := cX11_wipe) (maxL := 2) (ret := (some .int)) (by decide) rfl ?_
  intro p e s m args below meth c s₁ B hml hv
  obtain ⟨rfl, hv⟩ := hv
  have C0 : jCx p s m _ c cX11_wipe 2 wsX11_wipe RX11 b cy D tU n K r := ⟨B.exec, B.bytes, hml, findClass_of_methodNamed B.named, atoms_spec (ws := wsX11_wipe) B.pre, hv.2.2, hG⟩
  have hr := B.returns
  have hlk := B.notSynchronized
  obtain ⟨hx, hb, hml, hown, hts, hst, hG⟩ := id C0
  have hiX11 : ∀ w ∈ u_ws RX11 TX11 15, w ∈ wsX11_wipe := hiX11_X11_wipe
  have w := jDy.start hv
  have hl := lv_entry ([.ref (b + x0)]) (n := 2) (Nat.le_of_ble_eq_true rfl)
  rw [lg_entry_eq]
  generalize (lg_sl ([.ref (b + x0)]) ++ List.replicate (2 - (lg_sl ([.ref (b + x0)])).length) Slot.unset).toArray = ls at hl ⊢
  replace hl : lv_has ls 2 [(0, .ref (b + x0))] := hl
  show W p l e rm_X11_wipe s m _ below meth c s.heap [] 0 0 _ (F0 m 0 ls [])
  rw [J_X11_wipe] at h
  refine lv_aload_n hx hb dX11_wipe_0 rfl (lv_at hl 0 rfl) ?_
  refine jgi (f := 5) hx hb hts hown hst w hx0 hiX11 (rfl : vwCl[10]? = some (RX11, TX11, 15)) (hts (.fieldLink RX11 99 "FootByGate" "printCount" "I") (by decide +kernel)) ⟨by decide, by decide, rfl⟩ dX11_wipe_1 ?_
  refine lv_topi (fun v4 he => ?_)
  replace h := h v4 he
  clear he
  refine lv_istore_n (lv' := [(1, .int v4), (0, .ref (b + x0))]) hx hb dX11_wipe_4 rfl hl (by decide) rfl (fun ls hl => ?_)
  refine lv_aload_n hx hb dX11_wipe_5 rfl (lv_at hl 1 rfl) ?_
  refine lv_iconst (v := (0 : Int32)) hx hb dX11_wipe_6 (by decide) ?_
  refine jpi (f := 5) hx hb hts hown hst w hx0 hiX11 (rfl : vwCl[10]? = some (RX11, TX11, 15)) (hts (.fieldLink RX11 99 "FootByGate" "printCount" "I") (by decide +kernel)) ⟨by decide, by decide, rfl⟩ tyX11 tyX11_ok nmX11 rfl ⟨rfl, rfl⟩ dX11_wipe_7 (fun i7 H locs he w => ?_)
  replace h := h i7 he
  clear he
  refine lv_iload_n hx hb dX11_wipe_10 rfl (lv_at hl 0 rfl) ?_
  exact jret_i hx hb hr hlk hst w h dX11_wipe_11
end S_X11_wipe
