section S_X11_both_new
def J_X11_both_new (Q : Int32 → jS → Prop) (g : jS) (x0 : Nat) (x1 : Int32) (x2 : Int32) (x3 : Int32) : Prop := J_X11_isWalker (gl g) (gr g) (fun (q2 : Int32) (i2 : jI) (j2 : jL) => ∀ g2_1 : jS, g2_1 = gsi g i2 j2 → (((q2 = 0) → (Q (-101 : Int32) g2_1)) ∧ ((¬ q2 = 0) → (J_X11_isWalker (gl g2_1) (gr g2_1) (fun (q10 : Int32) (i10 : jI) (j10 : jL) => ∀ g10_2 : jS, g10_2 = gsi g2_1 i10 j10 → (((q10 = 0) → (Q (-101 : Int32) g10_2)) ∧ ((¬ q10 = 0) → (((x1 = x2) → (Q (-101 : Int32) g10_2)) ∧ ((¬ x1 = x2) → (J_X11_isPlace (gl g10_2) (gr g10_2) (fun (q22 : Int32) (i22 : jI) (j22 : jL) => ∀ g22_3 : jS, g22_3 = gsi g10_2 i22 j22 → (((¬ q22 = 0) → (∃ a32, gr g22_3 x0 2 = some a32 ∧ (vp_in x1 (gl g22_3 a32) ∧ ∃ a36, gr g22_3 a32 x1.toNatClampNeg = some a36 ∧ (∃ a40, gr g22_3 x0 2 = some a40 ∧ (vp_in x2 (gl g22_3 a40) ∧ ∃ a44, gr g22_3 a40 x2.toNatClampNeg = some a44 ∧ (J_X7_placeOf (gl g22_3) (gr g22_3) (fun (q52 : Int32) (i52 : jI) (j52 : jL) => ∀ g52_4 : jS, g52_4 = gsi g22_3 i52 j52 → (J_X7_placeOf (gl g52_4) (gr g52_4) (fun (q60 : Int32) (i60 : jI) (j60 : jL) => ∀ g60_5 : jS, g60_5 = gsi g52_4 i60 j60 → (((q52 = q60) → (∃ a70, gr g60_5 x0 9 = some a70 ∧ (∃ a79, gr g60_5 x0 1 = some a79 ∧ (J_X2_take (gl g60_5) (gr g60_5) (fun (i82 : jI) (j82 : jL) => ∀ g82_6 : jS, g82_6 = gsi g60_5 i82 j82 → (∃ a86, gr g82_6 x0 10 = some a86 ∧ (∃ a95, gr g82_6 x0 1 = some a95 ∧ (J_X2_take (gl g82_6) (gr g82_6) (fun (i98 : jI) (j98 : jL) => ∀ g98_7 : jS, g98_7 = gsi g82_6 i98 j98 → (gr g98_7 x0 14 = none ∧ (∀ g109_8 : jS, g109_8 = gnew 0 0 g98_7 → (J_X0_init (fun g113_9 : jS => ∀ g116_10 : jS, g116_10 = gpr g113_9 x0 14 (gN g98_7) → (∃ a120, gr g116_10 x0 14 = some a120 ∧ (J_X0_start (gl g116_10) (gr g116_10) (fun (i133 : jI) (j133 : jL) => ∀ g133_11 : jS, g133_11 = gsi g116_10 i133 j133 → (∃ a137, gr g133_11 x0 14 = some a137 ∧ (∃ a141, gr g133_11 x0 1 = some a141 ∧ (∃ a145, gr g133_11 x0 9 = some a145 ∧ (∃ a149, gr g133_11 x0 10 = some a149 ∧ (J_X0_leastTo (gl g133_11) (gr g133_11) (fun (q153 : Int32) (i153 : jI) (j153 : jL) => ∀ g153_12 : jS, g153_12 = gsi g133_11 i153 j153 → (Q q153 g153_12)) (gi g133_11) (gj g133_11) a137 a141 a145 a149 x3)))))) (gi g116_10) (gj g116_10) a120 (gi g116_10 a36 1) (gi g116_10 a44 1)))) g109_8 (gN g98_7))))) (gi g82_6) (gj g82_6) a86 (gi g82_6 a44 0) a95)))) (gi g60_5) (gj g60_5) a70 (gi g60_5 a36 0) a79)))) ∧ ((¬ q52 = q60) → (Q (-103 : Int32) g60_5)))) (gi g52_4) (gj g52_4) (gi g52_4 a44 1))) (gi g22_3) (gj g22_3) (gi g22_3 a36 1))))))) ∧ ((q22 = 0) → (Q (-101 : Int32) g22_3)))) (gi g10_2) (gj g10_2) x3)))))) (gi g2_1) (gj g2_1) x0 x2)))) (gi g) (gj g) x0 x1
abbrev rm_X11_both_new : Room := { frames := 5, cells := 6, slots := 14006, locals := 126 }
theorem hiX0_X11_both_new : ∀ w ∈ u_ws RX0 TX0 2, w ∈ wsX11_both := by decide +kernel
theorem hiX11_X11_both_new : ∀ w ∈ u_ws RX11 TX11 15, w ∈ wsX11_both := by decide +kernel
theorem hiX9_X11_both_new : ∀ w ∈ u_ws RX9 TX9 3, w ∈ wsX11_both := by decide +kernel
set_option maxHeartbeats 8000000 in
set_option maxRecDepth 100000 in
theorem c_X11_both_new {l : Launch} {b tU : Nat} {cy : Nat → ClassId} {D : va_G} {Q : Int32 → jS → Prop} {g : jS} {x0 : Nat} {x1 : Int32} {x2 : Int32} {x3 : Int32} (hx0 : x0 < gN g ∧ gK g x0 = 10) (h : J_X11_both_new Q g x0 x1 x2 x3) : Met l yX11_both wsX11_both rm_X11_both_new (va_Pc [.ref (b + x0), .int x1, .int x2, .int x3] (jPA b cy D tU g)) (jQAi b cy D tU g Q) 6 (14006) (jA b) := by
  refine Met.ofW (cc := cX11_both) (maxL := 6) (ret := (some .int)) (by decide) rfl ?_
  intro p e s m args below meth c s₁ B hml hv
  obtain ⟨rfl, hv⟩ := hv
  have C0 : jCA p s m _ c cX11_both 6 wsX11_both RX11 b cy D tU := ⟨B.exec, B.bytes, hml, findClass_of_methodNamed B.named, atoms_spec (ws := wsX11_both) B.pre, hv.1.2.2⟩
  have hr := B.returns
  have hlk := B.notSynchronized
  obtain ⟨hx, hb, hml, hown, hts, hst⟩ := id C0
  have hiX0 : ∀ w ∈ u_ws RX0 TX0 2, w ∈ wsX11_both := hiX0_X11_both_new
  have hiX11 : ∀ w ∈ u_ws RX11 TX11 15, w ∈ wsX11_both := hiX11_X11_both_new
  have hiX9 : ∀ w ∈ u_ws RX9 TX9 3, w ∈ wsX11_both := hiX9_X11_both_new
  have w : jDA b cy D g s s.heap [] := ⟨jDy.start hv.1, hv.2⟩
  have hE : jEx g g := jEx.rf
  have hl := lv_entry ([.ref (b + x0), .int x1, .int x2, .int x3]) (n := 6) (Nat.le_of_ble_eq_true rfl)
  rw [lg_entry_eq]
  generalize (lg_sl ([.ref (b + x0), .int x1, .int x2, .int x3]) ++ List.replicate (6 - (lg_sl ([.ref (b + x0), .int x1, .int x2, .int x3])).length) Slot.unset).toArray = ls at hl ⊢
  replace hl : lv_has ls 6 [(0, .ref (b + x0)), (1, .int x1), (2, .int x2), (3, .int x3)] := hl
  show W p l e rm_X11_both_new s m _ below meth c s.heap [] 0 0 _ (F0 m 0 ls [])
  rw [J_X11_both_new] at h
  refine lv_aload_n hx hb dX11_both_0 rfl (lv_at hl 0 rfl) ?_
  refine lv_iload_n hx hb dX11_both_1 rfl (lv_at hl 1 rfl) ?_
  refine jcVA_i (k := x0) (As := [.int x1]) (rest := []) C0 w (c_X11_isWalker w.2 hx0 h) (cwV 1 hts gX11_both_X11_isWalker rfl rfl rfl (by decide +kernel) ⟨Nat.le_of_ble_eq_true rfl, Nat.le_of_ble_eq_true rfl⟩) hx0 (rfl : vwCl[10]? = some (RX11, TX11, 15)) (by decide) rfl hl.1 rfl (Nat.le_of_ble_eq_true rfl) dX11_both_2 (fun q2 i2 j2 H locs h w => ?_) ⟨Nat.le_of_ble_eq_true rfl, Nat.le_of_ble_eq_true rfl⟩
  generalize he : gsi g i2 j2 = g2_1 at w
  replace he := he.symm
  have hE1 : jEx g g2_1 := by rw [he]; exact jEx_si
  replace hx0 := hE1.at hx0
  replace hE := hE.tr hE1
  replace h := h g2_1 he
  clear he hE1
  refine lv_if_eq (tgt := 28) hx hb dX11_both_5 (by decide) (fun hc => ?_) (fun hc => ?_)
  · replace h := h.1 hc
    clear hc
    refine lv_bipush (v := (-101 : Int32)) hx hb dX11_both_28 (by decide) ?_
    refine W.widen (k := 6) (n := 14006) (by first | exact Nat.le_of_ble_eq_true rfl | (show _ ≤ _; omega)) (by first | exact Nat.le_of_ble_eq_true rfl | (show _ ≤ _; omega)) ?_
    exact jretA_i hx hb hr hlk hst w hE h dX11_both_30
  · replace h := h.2 hc
    clear hc
    refine lv_aload_n hx hb dX11_both_8 rfl (lv_at hl 0 rfl) ?_
    refine lv_iload_n hx hb dX11_both_9 rfl (lv_at hl 2 rfl) ?_
    refine jcVA_i (k := x0) (As := [.int x2]) (rest := []) C0 w (c_X11_isWalker w.2 hx0 h) (cwV 1 hts gX11_both_X11_isWalker rfl rfl rfl (by decide +kernel) ⟨Nat.le_of_ble_eq_true rfl, Nat.le_of_ble_eq_true rfl⟩) hx0 (rfl : vwCl[10]? = some (RX11, TX11, 15)) (by decide) rfl hl.1 rfl (Nat.le_of_ble_eq_true rfl) dX11_both_10 (fun q10 i10 j10 H locs h w => ?_) ⟨Nat.le_of_ble_eq_true rfl, Nat.le_of_ble_eq_true rfl⟩
    generalize he : gsi g2_1 i10 j10 = g10_2 at w
    replace he := he.symm
    have hE1 : jEx g2_1 g10_2 := by rw [he]; exact jEx_si
    replace hx0 := hE1.at hx0
    replace hE := hE.tr hE1
    replace h := h g10_2 he
    clear he hE1
    refine lv_if_eq (tgt := 28) hx hb dX11_both_13 (by decide) (fun hc => ?_) (fun hc => ?_)
    · replace h := h.1 hc
      clear hc
      refine lv_bipush (v := (-101 : Int32)) hx hb dX11_both_28 (by decide) ?_
      refine W.widen (k := 6) (n := 14006) (by first | exact Nat.le_of_ble_eq_true rfl | (show _ ≤ _; omega)) (by first | exact Nat.le_of_ble_eq_true rfl | (show _ ≤ _; omega)) ?_
      exact jretA_i hx hb hr hlk hst w hE h dX11_both_30
    · replace h := h.2 hc
      clear hc
      refine lv_iload_n hx hb dX11_both_16 rfl (lv_at hl 1 rfl) ?_
      refine lv_iload_n hx hb dX11_both_17 rfl (lv_at hl 2 rfl) ?_
      refine lv_icmp_eq (tgt := 28) hx hb dX11_both_18 (by decide) (fun hc => ?_) (fun hc => ?_)
      · replace h := h.1 hc
        clear hc
        refine lv_bipush (v := (-101 : Int32)) hx hb dX11_both_28 (by decide) ?_
        refine W.widen (k := 6) (n := 14006) (by first | exact Nat.le_of_ble_eq_true rfl | (show _ ≤ _; omega)) (by first | exact Nat.le_of_ble_eq_true rfl | (show _ ≤ _; omega)) ?_
        exact jretA_i hx hb hr hlk hst w hE h dX11_both_30
      · replace h := h.2 hc
        clear hc
        refine lv_iload_n hx hb dX11_both_21 rfl (lv_at hl 3 rfl) ?_
        refine jcSA_i (As := [.int x3]) (rest := []) C0 w (c_X11_isPlace w.2 h) (va_cwS 1 hts gX11_both_X11_isPlace rfl rfl rfl (by decide +kernel) ⟨Nat.le_of_ble_eq_true rfl, Nat.le_of_ble_eq_true rfl⟩) rfl hl.1 rfl (Nat.le_of_ble_eq_true rfl) dX11_both_22 (fun q22 i22 j22 H locs h w => ?_) ⟨Nat.le_of_ble_eq_true rfl, Nat.le_of_ble_eq_true rfl⟩
        generalize he : gsi g10_2 i22 j22 = g22_3 at w
        replace he := he.symm
        have hE1 : jEx g10_2 g22_3 := by rw [he]; exact jEx_si
        replace hx0 := hE1.at hx0
        replace hE := hE.tr hE1
        replace h := h g22_3 he
        clear he hE1
        refine lv_if_ne (tgt := 31) hx hb dX11_both_25 (by decide) (fun hc => ?_) (fun hc => ?_)
        · replace h := h.1 hc
          clear hc
          refine lv_aload_n hx hb dX11_both_31 rfl (lv_at hl 0 rfl) ?_
          obtain ⟨a32, hr0, h⟩ := h
          refine jgr (f := 2) hx hb hts hown hst w.1 w.2 hx0 hiX11 (rfl : vwCl[10]? = some (RX11, TX11, 15)) (hts (.fieldLink RX11 25 "FootByGate" "walkers" "[LFootByGate$Walker;") (by decide +kernel)) ⟨by decide, by decide, rfl⟩ (rfl : jrt 10 2 = 16) dX11_both_32 hr0 (fun ha32 => ?_)
          clear hr0
          refine lv_iload_n hx hb dX11_both_35 rfl (lv_at hl 1 rfl) ?_
          obtain ⟨hn, h⟩ := h
          obtain ⟨a36, hr0, h⟩ := h
          refine jaar hx hb hst w.1 w.2 ha32 hn dX11_both_36 hr0 (fun ha36 => ?_)
          clear hn hr0
          refine lv_astore (lv' := [(4, .ref (b + a36)), (0, .ref (b + x0)), (1, .int x1), (2, .int x2), (3, .int x3)]) hx hb dX11_both_37 hl (by decide) rfl (fun ls hl => ?_)
          refine lv_aload_n hx hb dX11_both_39 rfl (lv_at hl 1 rfl) ?_
          obtain ⟨a40, hr0, h⟩ := h
          refine jgr (f := 2) hx hb hts hown hst w.1 w.2 hx0 hiX11 (rfl : vwCl[10]? = some (RX11, TX11, 15)) (hts (.fieldLink RX11 25 "FootByGate" "walkers" "[LFootByGate$Walker;") (by decide +kernel)) ⟨by decide, by decide, rfl⟩ (rfl : jrt 10 2 = 16) dX11_both_40 hr0 (fun ha40 => ?_)
          clear hr0
          refine lv_iload_n hx hb dX11_both_43 rfl (lv_at hl 3 rfl) ?_
          obtain ⟨hn, h⟩ := h
          obtain ⟨a44, hr0, h⟩ := h
          refine jaar hx hb hst w.1 w.2 ha40 hn dX11_both_44 hr0 (fun ha44 => ?_)
          clear hn hr0
          refine lv_astore (lv' := [(5, .ref (b + a44)), (4, .ref (b + a36)), (0, .ref (b + x0)), (1, .int x1), (2, .int x2), (3, .int x3)]) hx hb dX11_both_45 hl (by decide) rfl (fun ls hl => ?_)
          refine lv_aload hx hb dX11_both_47 (lv_at hl 1 rfl) ?_
          refine jgi (f := 1) hx hb hts hown hst w.1 ha36 hiX9 (rfl : vwCl[8]? = some (RX9, TX9, 3)) (hts (.fieldLink RX11 146 "FootByGate$Walker" "stand" "I") (by decide +kernel)) ⟨by decide, by decide, rfl⟩ dX11_both_49 ?_
          refine jcSA_i (As := [.int (gi g22_3 a36 1)]) (rest := []) C0 w (c_X7_placeOf w.2 h) (va_cwS 1 hts gX11_both_X7_placeOf rfl rfl rfl (by decide +kernel) ⟨Nat.le_of_ble_eq_true rfl, Nat.le_of_ble_eq_true rfl⟩) rfl hl.1 rfl (Nat.le_of_ble_eq_true rfl) dX11_both_52 (fun q52 i52 j52 H locs h w => ?_) ⟨Nat.le_of_ble_eq_true rfl, Nat.le_of_ble_eq_true rfl⟩
          generalize he : gsi g22_3 i52 j52 = g52_4 at w
          replace he := he.symm
          have hE1 : jEx g22_3 g52_4 := by rw [he]; exact jEx_si
          replace hx0 := hE1.at hx0
          replace ha36 := hE1.at ha36
          replace ha44 := hE1.at ha44
          replace hE := hE.tr hE1
          replace h := h g52_4 he
          clear he hE1
          refine lv_aload hx hb dX11_both_55 (lv_at hl 0 rfl) ?_
          refine jgi (f := 1) hx hb hts hown hst w.1 ha44 hiX9 (rfl : vwCl[8]? = some (RX9, TX9, 3)) (hts (.fieldLink RX11 146 "FootByGate$Walker" "stand" "I") (by decide +kernel)) ⟨by decide, by decide, rfl⟩ dX11_both_57 ?_
          refine jcSA_i (As := [.int (gi g52_4 a44 1)]) (rest := [.int q52]) C0 w (c_X7_placeOf w.2 h) (va_cwS 1 hts gX11_both_X7_placeOf rfl rfl rfl (by decide +kernel) ⟨Nat.le_of_ble_eq_true rfl, Nat.le_of_ble_eq_true rfl⟩) rfl hl.1 rfl (Nat.le_of_ble_eq_true rfl) dX11_both_60 (fun q60 i60 j60 H locs h w => ?_) ⟨Nat.le_of_ble_eq_true rfl, Nat.le_of_ble_eq_true rfl⟩
          generalize he : gsi g52_4 i60 j60 = g60_5 at w
          replace he := he.symm
          have hE1 : jEx g52_4 g60_5 := by rw [he]; exact jEx_si
          replace hx0 := hE1.at hx0
          replace ha36 := hE1.at ha36
          replace ha44 := hE1.at ha44
          replace hE := hE.tr hE1
          replace h := h g60_5 he
          clear he hE1
          refine lv_icmp_eq (tgt := 69) hx hb dX11_both_63 (by decide) (fun hc => ?_) (fun hc => ?_)
          · replace h := h.1 hc
            clear hc
            refine lv_aload_n hx hb dX11_both_69 rfl (lv_at hl 2 rfl) ?_
            obtain ⟨a70, hr0, h⟩ := h
            refine jgr (f := 9) hx hb hts hown hst w.1 w.2 hx0 hiX11 (rfl : vwCl[10]? = some (RX11, TX11, 15)) (hts (.fieldLink RX11 43 "FootByGate" "gait" "LFootByGate$Gait;") (by decide +kernel)) ⟨by decide, by decide, rfl⟩ (rfl : jrt 10 9 = 2) dX11_both_70 hr0 (fun ha70 => ?_)
            clear hr0
            refine lv_aload hx hb dX11_both_73 (lv_at hl 1 rfl) ?_
            refine jgi (f := 0) hx hb hts hown hst w.1 ha36 hiX9 (rfl : vwCl[8]? = some (RX9, TX9, 3)) (hts (.fieldLink RX11 137 "FootByGate$Walker" "kind" "I") (by decide +kernel)) ⟨by decide, by decide, rfl⟩ dX11_both_75 ?_
            refine lv_aload_n hx hb dX11_both_78 rfl (lv_at hl 2 rfl) ?_
            obtain ⟨a79, hr0, h⟩ := h
            refine jgr (f := 1) hx hb hts hown hst w.1 w.2 hx0 hiX11 (rfl : vwCl[10]? = some (RX11, TX11, 15)) (hts (.fieldLink RX11 19 "FootByGate" "map" "LFootByGate$Town;") (by decide +kernel)) ⟨by decide, by decide, rfl⟩ (rfl : jrt 10 1 = 7) dX11_both_79 hr0 (fun ha79 => ?_)
            clear hr0
            refine jcVA_v (k := a70) (As := [.int (gi g60_5 a36 0), .ref (b + a79)]) (rest := []) C0 w (c_X2_take w.2 ha70 ha79 h) (cwV 2 hts gX11_both_X2_take rfl rfl rfl (by decide +kernel) ⟨Nat.le_of_ble_eq_true rfl, Nat.le_of_ble_eq_true rfl⟩) ha70 (rfl : vwCl[2]? = some (RX2, TX2, 2)) (by decide) rfl hl.1 rfl (Nat.le_of_ble_eq_true rfl) dX11_both_82 (fun i82 j82 H locs h w => ?_) ⟨Nat.le_of_ble_eq_true rfl, Nat.le_of_ble_eq_true rfl⟩
            generalize he : gsi g60_5 i82 j82 = g82_6 at w
            replace he := he.symm
            have hE1 : jEx g60_5 g82_6 := by rw [he]; exact jEx_si
            replace hx0 := hE1.at hx0
            replace ha36 := hE1.at ha36
            replace ha44 := hE1.at ha44
            replace hE := hE.tr hE1
            replace h := h g82_6 he
            clear he hE1
            refine lv_aload_n hx hb dX11_both_85 rfl (lv_at hl 2 rfl) ?_
            obtain ⟨a86, hr0, h⟩ := h
            refine jgr (f := 10) hx hb hts hown hst w.1 w.2 hx0 hiX11 (rfl : vwCl[10]? = some (RX11, TX11, 15)) (hts (.fieldLink RX11 47 "FootByGate" "otherGait" "LFootByGate$Gait;") (by decide +kernel)) ⟨by decide, by decide, rfl⟩ (rfl : jrt 10 10 = 2) dX11_both_86 hr0 (fun ha86 => ?_)
            clear hr0
            refine lv_aload hx hb dX11_both_89 (lv_at hl 0 rfl) ?_
            refine jgi (f := 0) hx hb hts hown hst w.1 ha44 hiX9 (rfl : vwCl[8]? = some (RX9, TX9, 3)) (hts (.fieldLink RX11 137 "FootByGate$Walker" "kind" "I") (by decide +kernel)) ⟨by decide, by decide, rfl⟩ dX11_both_91 ?_
            refine lv_aload_n hx hb dX11_both_94 rfl (lv_at hl 2 rfl) ?_
            obtain ⟨a95, hr0, h⟩ := h
            refine jgr (f := 1) hx hb hts hown hst w.1 w.2 hx0 hiX11 (rfl : vwCl[10]? = some (RX11, TX11, 15)) (hts (.fieldLink RX11 19 "FootByGate" "map" "LFootByGate$Town;") (by decide +kernel)) ⟨by decide, by decide, rfl⟩ (rfl : jrt 10 1 = 7) dX11_both_95 hr0 (fun ha95 => ?_)
            clear hr0
            refine jcVA_v (k := a86) (As := [.int (gi g82_6 a44 0), .ref (b + a95)]) (rest := []) C0 w (c_X2_take w.2 ha86 ha95 h) (cwV 2 hts gX11_both_X2_take rfl rfl rfl (by decide +kernel) ⟨Nat.le_of_ble_eq_true rfl, Nat.le_of_ble_eq_true rfl⟩) ha86 (rfl : vwCl[2]? = some (RX2, TX2, 2)) (by decide) rfl hl.1 rfl (Nat.le_of_ble_eq_true rfl) dX11_both_98 (fun i98 j98 H locs h w => ?_) ⟨Nat.le_of_ble_eq_true rfl, Nat.le_of_ble_eq_true rfl⟩
            generalize he : gsi g82_6 i98 j98 = g98_7 at w
            replace he := he.symm
            have hE1 : jEx g82_6 g98_7 := by rw [he]; exact jEx_si
            replace hx0 := hE1.at hx0
            replace ha36 := hE1.at ha36
            replace ha44 := hE1.at ha44
            replace hE := hE.tr hE1
            replace h := h g98_7 he
            clear he hE1
            refine lv_aload_n hx hb dX11_both_101 rfl (lv_at hl 2 rfl) ?_
            refine jgo (f := 14) hx hb hts hown hst w.1 hx0 hiX11 (rfl : vwCl[10]? = some (RX11, TX11, 15)) (hts (.fieldLink RX11 217 "FootByGate" "arms" "LFootByGate$Arms;") (by decide +kernel)) ⟨by decide, by decide, rfl⟩ dX11_both_102 ?_
            obtain ⟨hr0, h⟩ := h
            rw [hr0]
            clear hr0
            refine lv_ifnonnullN hx hb dX11_both_105 ?_
            refine lv_aload_n hx hb dX11_both_108 rfl (lv_at hl 2 rfl) ?_
            refine jnewA (ci := 0) hx hb hts hown hst w hiX0 (rfl : vwCl[0]? = some (RX0, TX0, 2)) tyX0 tyX0_ok (hts (.classLink RX11 221 RX0) (by decide +kernel)) (hts (.instantiable RX0 2) (by decide +kernel)) (hts (.initialized RX0) (by decide +kernel)) (by decide) (by decide +kernel) (Nat.le_of_ble_eq_true rfl) (Nat.le_of_ble_eq_true rfl) dX11_both_109 (fun g109_8 H he w => ?_)
            have hE1 : jEx g98_7 g109_8 := by rw [he]; exact jEx_new
            replace hx0 := hE1.at hx0
            replace ha36 := hE1.at ha36
            replace ha44 := hE1.at ha44
            have hq109_8 : gN g98_7 < gN g109_8 ∧ gK g109_8 (gN g98_7) = 0 := by rw [he]; exact gnew_at
            replace hE := hE.tr hE1
            replace h := h g109_8 he
            clear he hE1
            refine W.widen (k := 1) (n := 2) (Nat.le_of_ble_eq_true rfl) (Nat.le_of_ble_eq_true rfl) ?_
            refine lv_dup hx hb dX11_both_112 rfl ?_
            refine jcNA (k := (gN g98_7)) (As := []) (rest := [.ref (b + (gN g98_7)), .ref (b + x0)]) (mc := 5) (ms := 14004) C0 w (c_X0_init hq109_8 h) ⟨va_cnB 0 hts ggX11_both_X0_init rfl rfl rfl (hst.2.2.2.2 _ (List.mem_of_getElem? (l := jNl) (i := 8) rfl)) (hts (.initialized RX0) (by decide +kernel)) (by decide +kernel) ⟨Nat.le_of_ble_eq_true rfl, Nat.le_of_ble_eq_true rfl⟩, rfl, hts (.instanceMethod yX0_init) (by decide +kernel)⟩ rfl hl.1 rfl (Nat.le_of_ble_eq_true rfl) dX11_both_113 (fun g113_9 H locs h hE1 w => ?_) ⟨Nat.le_of_ble_eq_true rfl, Nat.le_of_ble_eq_true rfl⟩
            replace hx0 := hE1.at hx0
            replace hq109_8 := hE1.at hq109_8
            replace ha36 := hE1.at ha36
            replace ha44 := hE1.at ha44
            replace hE := hE.tr hE1
            clear hE1
            refine W.widen (k := 6) (n := 14006) (Nat.le_of_ble_eq_true rfl) (Nat.le_of_ble_eq_true rfl) ?_
            refine jprA (f := 14) (fin := false) hx hb hts hown hst w hx0 hq109_8 (rfl : jrt 10 14 = 0) hiX11 (rfl : vwCl[10]? = some (RX11, TX11, 15)) (hts (.fieldLink RX11 217 "FootByGate" "arms" "LFootByGate$Arms;") (by decide +kernel)) ⟨by decide, by decide, rfl⟩ tyX11 tyX11_ok nmX11 rfl (fun h => by cases h) (fun z => ⟨rfl, rfl⟩) dX11_both_116 (fun g116_10 H locs he w => ?_)
            have hE1 : jEx g113_9 g116_10 := by rw [he]; exact jEx_pr
            replace hx0 := hE1.at hx0
            replace ha36 := hE1.at ha36
            replace ha44 := hE1.at ha44
            replace hE := hE.tr hE1
            replace h := h g116_10 he
            clear he hE1
            refine lv_aload_n hx hb dX11_both_119 rfl (lv_at hl 2 rfl) ?_
            obtain ⟨a120, hr0, h⟩ := h
            refine jgr (f := 14) hx hb hts hown hst w.1 w.2 hx0 hiX11 (rfl : vwCl[10]? = some (RX11, TX11, 15)) (hts (.fieldLink RX11 217 "FootByGate" "arms" "LFootByGate$Arms;") (by decide +kernel)) ⟨by decide, by decide, rfl⟩ (rfl : jrt 10 14 = 0) dX11_both_120 hr0 (fun ha120 => ?_)
            clear hr0
            refine lv_aload hx hb dX11_both_123 (lv_at hl 1 rfl) ?_
            refine jgi (f := 1) hx hb hts hown hst w.1 ha36 hiX9 (rfl : vwCl[8]? = some (RX9, TX9, 3)) (hts (.fieldLink RX11 146 "FootByGate$Walker" "stand" "I") (by decide +kernel)) ⟨by decide, by decide, rfl⟩ dX11_both_125 ?_
            refine lv_aload hx hb dX11_both_128 (lv_at hl 0 rfl) ?_
            refine jgi (f := 1) hx hb hts hown hst w.1 ha44 hiX9 (rfl : vwCl[8]? = some (RX9, TX9, 3)) (hts (.fieldLink RX11 146 "FootByGate$Walker" "stand" "I") (by decide +kernel)) ⟨by decide, by decide, rfl⟩ dX11_both_130 ?_
            refine jcVA_v (k := a120) (As := [.int (gi g116_10 a36 1), .int (gi g116_10 a44 1)]) (rest := []) C0 w (c_X0_start w.2 ha120 h) (cwV 2 hts gX11_both_X0_start rfl rfl rfl (by decide +kernel) ⟨Nat.le_of_ble_eq_true rfl, Nat.le_of_ble_eq_true rfl⟩) ha120 (rfl : vwCl[0]? = some (RX0, TX0, 2)) (by decide) rfl hl.1 rfl (Nat.le_of_ble_eq_true rfl) dX11_both_133 (fun i133 j133 H locs h w => ?_) ⟨Nat.le_of_ble_eq_true rfl, Nat.le_of_ble_eq_true rfl⟩
            generalize he : gsi g116_10 i133 j133 = g133_11 at w
            replace he := he.symm
            have hE1 : jEx g116_10 g133_11 := by rw [he]; exact jEx_si
            replace hx0 := hE1.at hx0
            replace ha36 := hE1.at ha36
            replace ha44 := hE1.at ha44
            replace hE := hE.tr hE1
            replace h := h g133_11 he
            clear he hE1
            refine lv_aload_n hx hb dX11_both_136 rfl (lv_at hl 2 rfl) ?_
            obtain ⟨a137, hr0, h⟩ := h
            refine jgr (f := 14) hx hb hts hown hst w.1 w.2 hx0 hiX11 (rfl : vwCl[10]? = some (RX11, TX11, 15)) (hts (.fieldLink RX11 217 "FootByGate" "arms" "LFootByGate$Arms;") (by decide +kernel)) ⟨by decide, by decide, rfl⟩ (rfl : jrt 10 14 = 0) dX11_both_137 hr0 (fun ha137 => ?_)
            clear hr0
            refine lv_aload_n hx hb dX11_both_140 rfl (lv_at hl 2 rfl) ?_
            obtain ⟨a141, hr0, h⟩ := h
            refine jgr (f := 1) hx hb hts hown hst w.1 w.2 hx0 hiX11 (rfl : vwCl[10]? = some (RX11, TX11, 15)) (hts (.fieldLink RX11 19 "FootByGate" "map" "LFootByGate$Town;") (by decide +kernel)) ⟨by decide, by decide, rfl⟩ (rfl : jrt 10 1 = 7) dX11_both_141 hr0 (fun ha141 => ?_)
            clear hr0
            refine lv_aload_n hx hb dX11_both_144 rfl (lv_at hl 2 rfl) ?_
            obtain ⟨a145, hr0, h⟩ := h
            refine jgr (f := 9) hx hb hts hown hst w.1 w.2 hx0 hiX11 (rfl : vwCl[10]? = some (RX11, TX11, 15)) (hts (.fieldLink RX11 43 "FootByGate" "gait" "LFootByGate$Gait;") (by decide +kernel)) ⟨by decide, by decide, rfl⟩ (rfl : jrt 10 9 = 2) dX11_both_145 hr0 (fun ha145 => ?_)
            clear hr0
            refine lv_aload_n hx hb dX11_both_148 rfl (lv_at hl 2 rfl) ?_
            obtain ⟨a149, hr0, h⟩ := h
            refine jgr (f := 10) hx hb hts hown hst w.1 w.2 hx0 hiX11 (rfl : vwCl[10]? = some (RX11, TX11, 15)) (hts (.fieldLink RX11 47 "FootByGate" "otherGait" "LFootByGate$Gait;") (by decide +kernel)) ⟨by decide, by decide, rfl⟩ (rfl : jrt 10 10 = 2) dX11_both_149 hr0 (fun ha149 => ?_)
            clear hr0
            refine lv_iload_n hx hb dX11_both_152 rfl (lv_at hl 5 rfl) ?_
            refine jcVA_i (k := a137) (As := [.ref (b + a141), .ref (b + a145), .ref (b + a149), .int x3]) (rest := []) C0 w (c_X0_leastTo w.2 ha137 ha141 ha145 ha149 h) (cwV 4 hts gX11_both_X0_leastTo rfl rfl rfl (by decide +kernel) ⟨Nat.le_of_ble_eq_true rfl, Nat.le_of_ble_eq_true rfl⟩) ha137 (rfl : vwCl[0]? = some (RX0, TX0, 2)) (by decide) rfl hl.1 rfl (Nat.le_of_ble_eq_true rfl) dX11_both_153 (fun q153 i153 j153 H locs h w => ?_) ⟨Nat.le_of_ble_eq_true rfl, Nat.le_of_ble_eq_true rfl⟩
            generalize he : gsi g133_11 i153 j153 = g153_12 at w
            replace he := he.symm
            have hE1 : jEx g133_11 g153_12 := by rw [he]; exact jEx_si
            replace hx0 := hE1.at hx0
            replace ha36 := hE1.at ha36
            replace ha44 := hE1.at ha44
            replace hE := hE.tr hE1
            replace h := h g153_12 he
            clear he hE1
            refine W.widen (k := 6) (n := 14006) (by first | exact Nat.le_of_ble_eq_true rfl | (show _ ≤ _; omega)) (by first | exact Nat.le_of_ble_eq_true rfl | (show _ ≤ _; omega)) ?_
            exact jretA_i hx hb hr hlk hst w hE h dX11_both_156
          · replace h := h.2 hc
            clear hc
            refine lv_bipush (v := (-103 : Int32)) hx hb dX11_both_66 (by decide) ?_
            refine W.widen (k := 6) (n := 14006) (by first | exact Nat.le_of_ble_eq_true rfl | (show _ ≤ _; omega)) (by first | exact Nat.le_of_ble_eq_true rfl | (show _ ≤ _; omega)) ?_
            exact jretA_i hx hb hr hlk hst w hE h dX11_both_68
        · replace h := h.2 hc
          clear hc
          refine lv_bipush (v := (-101 : Int32)) hx hb dX11_both_28 (by decide) ?_
          refine W.widen (k := 6) (n := 14006) (by first | exact Nat.le_of_ble_eq_true rfl | (show _ ≤ _; omega)) (by first | exact Nat.le_of_ble_eq_true rfl | (show _ ≤ _; omega)) ?_
          exact jretA_i hx hb hr hlk hst w hE h dX11_both_30
end S_X11_both_new
