def g00 : jS := (0, fun _ => 0, fun _ => 0, fun _ _ => none, fun _ _ => 0, fun _ _ => 0)
/-- what the two constructors must give -/
def LawStart (Inv : jS → Prop) : Prop := J_X11_init (fun g2 => gN g2 = 37 ∧ J_X12_init (fun g4 => Inv g4 ∧ gr g4 0 14 = none) (gnew 11 0 g2) 37) (gnew 10 0 g00) 0
theorem jNl_in : ∀ w ∈ jNl, w ∈ lw_tbl := by decide +kernel
theorem jNl_on : ∀ w ∈ jNl, w.onTables = true := by decide +kernel
theorem lays_in : Cond.laysStatic "FootByGate$Reach" "UNMARKED" "[J" ∈ lw_tbl := by decide +kernel
theorem over_in : Cond.arrayOver (.object "FootByGate$Walker") ∈ lw_tbl := by decide +kernel
theorem aB_in : Cond.arrayClass .byte ∈ lw_tbl := by decide +kernel
theorem aI_in : Cond.arrayClass .int ∈ lw_tbl := by decide +kernel
theorem aJ_in : Cond.arrayClass .long ∈ lw_tbl := by decide +kernel
theorem aZ_in : Cond.arrayClass .boolean ∈ lw_tbl := by decide +kernel
theorem ini6_in : Cond.initialized "FootByGate$Reach" ∈ lw_tbl := by decide +kernel
theorem inst0_in : Cond.instantiable RX0 2 ∈ lw_tbl := by decide +kernel
theorem inst1_in : Cond.instantiable RX1 1 ∈ lw_tbl := by decide +kernel
theorem inst2_in : Cond.instantiable RX2 2 ∈ lw_tbl := by decide +kernel
theorem inst3_in : Cond.instantiable RX3 4 ∈ lw_tbl := by decide +kernel
theorem inst4_in : Cond.instantiable RX4 7 ∈ lw_tbl := by decide +kernel
theorem inst5_in : Cond.instantiable RX5 5 ∈ lw_tbl := by decide +kernel
theorem inst6_in : Cond.instantiable RX6 2 ∈ lw_tbl := by decide +kernel
theorem inst8_in : Cond.instantiable RX8 8 ∈ lw_tbl := by decide +kernel
theorem inst9_in : Cond.instantiable RX9 3 ∈ lw_tbl := by decide +kernel
theorem inst10_in : Cond.instantiable RX10 1 ∈ lw_tbl := by decide +kernel
theorem inst11_in : Cond.instantiable RX11 15 ∈ lw_tbl := by decide +kernel
theorem inst12_in : Cond.instantiable RX12 51 ∈ lw_tbl := by decide +kernel
set_option maxHeartbeats 8000000 in
set_option maxRecDepth 100000 in
/-- the tables and the statics at the law's entry -/
theorem law_tables {args : Array Value} {s : State} (hts : ∀ w ∈ lw_tbl, w.before args s = true) (hgv : (Jvm.Cond.and given_1 narrow_1).before args s = true) : ∃ (cy : Nat → ClassId) (D : va_G) (tU : Nat), jSt s.heap.size cy D tU s s.heap := by
  obtain ⟨c0, iS0, hKn0⟩ := u_known (C := RX0) (T := TX0) (N := 2) (n := 2) hts wsX00_in (hts _ inst0_in)
  obtain ⟨c1, iS1, hKn1⟩ := u_known (C := RX1) (T := TX1) (N := 1) (n := 1) hts wsX10_in (hts _ inst1_in)
  obtain ⟨c2, iS2, hKn2⟩ := u_known (C := RX2) (T := TX2) (N := 2) (n := 2) hts wsX20_in (hts _ inst2_in)
  obtain ⟨c3, iS3, hKn3⟩ := u_known (C := RX3) (T := TX3) (N := 4) (n := 4) hts wsX30_in (hts _ inst3_in)
  obtain ⟨c4, iS4, hKn4⟩ := u_known (C := RX4) (T := TX4) (N := 7) (n := 7) hts wsX40_in (hts _ inst4_in)
  obtain ⟨c5, iS5, hKn5⟩ := u_known (C := RX5) (T := TX5) (N := 5) (n := 5) hts wsX50_in (hts _ inst5_in)
  obtain ⟨c6, iS6, hKn6⟩ := u_known (C := RX6) (T := TX6) (N := 2) (n := 2) hts wsX60_in (hts _ inst6_in)
  obtain ⟨c7, iS7, hKn7⟩ := u_known (C := RX8) (T := TX8) (N := 8) (n := 8) hts wsX80_in (hts _ inst8_in)
  obtain ⟨c8, iS8, hKn8⟩ := u_known (C := RX9) (T := TX9) (N := 3) (n := 3) hts wsX90_in (hts _ inst9_in)
  obtain ⟨c9, iS9, hKn9⟩ := u_known (C := RX10) (T := TX10) (N := 1) (n := 1) hts wsX100_in (hts _ inst10_in)
  obtain ⟨c10, iS10, hKn10⟩ := u_known (C := RX11) (T := TX11) (N := 15) (n := 15) hts wsX110_in (hts _ inst11_in)
  obtain ⟨c11, iS11, hKn11⟩ := u_known (C := RX12) (T := TX12) (N := 51) (n := 51) hts wsX120_in (hts _ inst12_in)
  obtain ⟨cB, kB, mB, hB1, hB2, hB3⟩ := Cond.arrayClass_spec (hts _ aB_in)
  obtain ⟨cI, kI, mI, hI1, hI2, hI3⟩ := Cond.arrayClass_spec (hts _ aI_in)
  obtain ⟨cJ, kJ, mJ, hJ1, hJ2, hJ3⟩ := Cond.arrayClass_spec (hts _ aJ_in)
  obtain ⟨cZ, kZ, mZ, hZ1, hZ2, hZ3⟩ := Cond.arrayClass_spec (hts _ aZ_in)
  obtain ⟨mW, cW, kW, hW1, hW2, hW3, hW4, hW5⟩ := Cond.arrayOver_spec (hts _ over_in)
  have hA : ∀ a : Nat, a < s.heap.size → ¬ jA s.heap.size a := fun a h => Nat.not_le.mpr h
  have hs := flat_of_before _ hgv
  have harr : (Cond.arrayOf (.static "FootByGate$Reach" "UNMARKED" "[J") .long).before args s = true := hs _ (by decide +kernel)
  have hlen : (Cond.eq (.length (.static "FootByGate$Reach" "UNMARKED" "[J")) (.int 3)).before args s = true := hs _ (by decide +kernel)
  have he0 : (Cond.eq (.elem (.static "FootByGate$Reach" "UNMARKED" "[J") (.int 0)) (.long 1229782938247303441)).before args s = true := hs _ (by decide +kernel)
  have he1 : (Cond.eq (.elem (.static "FootByGate$Reach" "UNMARKED" "[J") (.int 1)) (.long 4222189076152335)).before args s = true := hs _ (by decide +kernel)
  have he2 : (Cond.eq (.elem (.static "FootByGate$Reach" "UNMARKED" "[J") (.int 2)) (.long 65535)).before args s = true := hs _ (by decide +kernel)
  obtain ⟨tU, hv, hT⟩ := va_Tof (tm := .static "FootByGate$Reach" "UNMARKED" "[J") (ty := .long) (N := 3) (f := jUm) (A := jA s.heap.size) (by decide) harr (va_eqt hlen) (fun j hj => by
    rcases (show j = 0 ∨ j = 1 ∨ j = 2 by omega) with rfl | rfl | rfl
    · exact va_eqtl he0
    · exact va_eqtl he1
    · exact va_eqtl he2) hA
  refine ⟨fun k => if k = 12 then cB else if k = 13 then cI else if k = 14 then cJ else if k = 15 then cZ else cW, (fun k => if k = 0 then c0 else if k = 1 then c1 else if k = 2 then c2 else if k = 3 then c3 else if k = 4 then c4 else if k = 5 then c5 else if k = 6 then c6 else if k = 7 then c7 else if k = 8 then c8 else if k = 9 then c9 else if k = 10 then c10 else c11, fun k => if k = 0 then iS0 else if k = 1 then iS1 else if k = 2 then iS2 else if k = 3 then iS3 else if k = 4 then iS4 else if k = 5 then iS5 else if k = 6 then iS6 else if k = 7 then iS7 else if k = 8 then iS8 else if k = 9 then iS9 else if k = 10 then iS10 else iS11), tU, ⟨?_, ?_⟩, va_Zref (hts _ lays_in) (hts _ ini6_in) hv hA, hT, va_AO.of (hts _ over_in), fun w hw => va_Nw.of (jNl_on w hw) (hts w (jNl_in w hw))⟩
  · intro k q hq
    match k, hq with
    | 0, hq => cases hq; exact hKn0
    | 1, hq => cases hq; exact hKn1
    | 2, hq => cases hq; exact hKn2
    | 3, hq => cases hq; exact hKn3
    | 4, hq => cases hq; exact hKn4
    | 5, hq => cases hq; exact hKn5
    | 6, hq => cases hq; exact hKn6
    | 7, hq => cases hq; exact hKn7
    | 8, hq => cases hq; exact hKn8
    | 9, hq => cases hq; exact hKn9
    | 10, hq => cases hq; exact hKn10
    | 11, hq => cases hq; exact hKn11
    | k + 12, hq => simp [vwCl] at hq
  · intro k q hq
    match k, hq with
    | 0, hq => cases hq; exact ⟨fun n z => ⟨fun k h => (by cases h), kB, hB2, mB, hB3⟩, hB1⟩
    | 1, hq => cases hq; exact ⟨fun n z => ⟨fun k h => (by cases h), kI, hI2, mI, hI3⟩, hI1⟩
    | 2, hq => cases hq; exact ⟨fun n z => ⟨fun k h => (by cases h), kJ, hJ2, mJ, hJ3⟩, hJ1⟩
    | 3, hq => cases hq; exact ⟨fun n z => ⟨fun k h => (by cases h), kZ, hZ2, mZ, hZ3⟩, hZ1⟩
    | 4, hq => cases hq; exact ⟨fun n z => ⟨fun k h => (by cases h), kW, hW3, mW, hW4⟩, kW, mW, hW3, hW4, hW1, hW5⟩
    | k + 5, hq => simp [jTys] at hq
set_option maxHeartbeats 8000000 in
set_option maxRecDepth 100000 in
/-- THE LAW, from its entry, for an invariant that holds at the start and is kept -/
theorem whole_open {Inv : Nat → jS → Prop} (hI : LawOK Inv) (hS : LawStart (Inv 0)) {p : Program} {e : Env} {s : State} {m : MethodId} {below : List Frame} {meth : Method} {c : Code} (l : Launch) {b L : Nat} {xs : Nat → Int32} (hL : L ≤ 2560) (C1 : lw_At p s m meth c b L xs) : W p l e room_1 s m #[Value.ref b] below meth c s.heap [] 0 0 (lw_Z below #[Value.ref b] s) (entryFrame m ([Value.ref b] : List Value).toArray 4) := by
  obtain ⟨hx, hb, hr, hml, hown, hts0, hX, hbl, hlocks, hgv⟩ := id C1
  obtain ⟨cy, D, tU, hst⟩ := law_tables hts0 hgv
  have hts : ∀ w ∈ wsL_law, w.before #[Value.ref b] s = true := fun w h => hts0 w (wsL_law_in w h)
  have C0 : jCA p s m #[Value.ref b] c cL_law 4 wsL_law RL s.heap.size cy D tU := ⟨hx, hb, hml, hown, hts, hst⟩
  have hown : s.vm.findClass RL = some m.cls := hown
  have w : jDA s.heap.size cy D g00 s s.heap [] := ⟨⟨rfl, fun k q h => absurd (jW_got h).1 (Nat.not_lt_zero k), va_S.rf⟩, fun k f q h => absurd h (Nat.not_lt_zero k)⟩
  have hl := lv_entry ([.ref b]) (n := 4) (Nat.le_of_ble_eq_true rfl)
  rw [lg_entry_eq]
  generalize (lg_sl ([.ref b]) ++ List.replicate (4 - (lg_sl ([.ref b])).length) Slot.unset).toArray = ls at hl ⊢
  have hl : lv_has ls 4 [(0, .ref b)] := hl
  unfold LawStart at hS
  refine jnewA (ci := 10) hx hb hts hown hst w inlX11 (rfl : vwCl[10]? = some (RX11, TX11, 15)) tyX11 tyX11_ok (hts (.classLink RL 7 RX11) (by decide +kernel)) (hts (.instantiable RX11 15) (by decide +kernel)) (hts (.initialized RX11) (by decide +kernel)) (by decide) (by decide +kernel) (Nat.le_of_ble_eq_true rfl) (Nat.le_of_ble_eq_true rfl) dL_law_0 (fun g1 H he w => ?_)
  have hq0 : 0 < gN g1 ∧ gK g1 0 = 10 := by rw [he]; exact gnew_at (g := g00)
  rw [← he] at hS
  clear he
  refine W.widen (k := 1) (n := 15) (Nat.le_of_ble_eq_true rfl) (Nat.le_of_ble_eq_true rfl) ?_
  refine lv_dup hx hb dL_law_3 rfl ?_
  refine jcIA (k := 0) (As := []) (rest := [.ref (s.heap.size + 0)]) (mc := 36) (ms := 3953) C0 w (c_X11_init hq0 hS) (cwI 0 hts ggL_law_X11_init rfl rfl rfl (hts (.initialized RX11) (by decide +kernel)) (hts (.methodLink RL 9 yX11_init) (by decide +kernel)) (hts (.instanceMethod yX11_init) (by decide +kernel)) rfl (by decide +kernel) ⟨Nat.le_of_ble_eq_true rfl, Nat.le_of_ble_eq_true rfl⟩) rfl hl.1 rfl (Nat.le_of_ble_eq_true rfl) dL_law_4 (fun g2 H locs hS hE w => ?_) ⟨Nat.le_of_ble_eq_true rfl, Nat.le_of_ble_eq_true rfl⟩
  replace hq0 := hE.at hq0
  clear hE
  refine W.widen (k := 37) (n := 3968) (Nat.le_of_ble_eq_true rfl) (Nat.le_of_ble_eq_true rfl) ?_
  refine lv_astore_n (lv' := [(1, .ref (s.heap.size + 0)), (0, .ref b)]) hx hb dL_law_7 rfl hl (by decide) rfl (fun ls hl => ?_)
  obtain ⟨hn2, hS⟩ := hS
  refine jnewA (ci := 11) hx hb hts hown hst w inlX12 (rfl : vwCl[11]? = some (RX12, TX12, 51)) tyX12 tyX12_ok (hts (.classLink RL 10 RX12) (by decide +kernel)) (hts (.instantiable RX12 51) (by decide +kernel)) (hts (.initialized RX12) (by decide +kernel)) (by decide) (by decide +kernel) (Nat.le_of_ble_eq_true rfl) (Nat.le_of_ble_eq_true rfl) dL_law_8 (fun g3 H he w => ?_)
  rw [hn2]
  have hE1 : jEx g2 g3 := by rw [he]; exact jEx_new
  have hq1 : 37 < gN g3 ∧ gK g3 37 = 11 := by rw [he, ← hn2]; exact gnew_at (g := g2)
  rw [← he] at hS
  replace hq0 := hE1.at hq0
  clear he hE1 hn2
  refine W.widen (k := 38) (n := 4019) (Nat.le_of_ble_eq_true rfl) (Nat.le_of_ble_eq_true rfl) ?_
  refine lv_dup hx hb dL_law_11 rfl ?_
  refine jcIA (k := 37) (As := []) (rest := [.ref (s.heap.size + 37)]) (mc := 27) (ms := 67861) C0 w (c_X12_init hq1 hS) (cwI 0 hts ggL_law_X12_init rfl rfl rfl (hts (.initialized RX12) (by decide +kernel)) (hts (.methodLink RL 12 yX12_init) (by decide +kernel)) (hts (.instanceMethod yX12_init) (by decide +kernel)) rfl (by decide +kernel) ⟨Nat.le_of_ble_eq_true rfl, Nat.le_of_ble_eq_true rfl⟩) rfl hl.1 rfl (Nat.le_of_ble_eq_true rfl) dL_law_12 (fun g4 H locs hS hE w => ?_) ⟨Nat.le_of_ble_eq_true rfl, Nat.le_of_ble_eq_true rfl⟩
  refine W.widen (k := 65) (n := 71880) (Nat.le_of_ble_eq_true rfl) (Nat.le_of_ble_eq_true rfl) ?_
  refine lv_astore_n (lv' := [(2, .ref (s.heap.size + 37)), (1, .ref (s.heap.size + 0)), (0, .ref b)]) hx hb dL_law_15 rfl hl (by decide) rfl (fun ls hl => ?_)
  refine lv_iconst (v := 0) hx hb dL_law_16 (by decide) ?_
  refine lv_istore_n (lv' := [(3, .int 0), (2, .ref (s.heap.size + 37)), (1, .ref (s.heap.size + 0)), (0, .ref b)]) hx hb dL_law_17 rfl hl (by decide) rfl (fun ls hl => ?_)
  exact law_loop hL hI C0 rfl hX hbl hr hlocks (L + 1) 0 (by omega) (by omega) w hS.1 (by unfold LawCt; omega) (lv_sub hl [3, 2, 1, 0] rfl)
