/-- what an invariant of the world must give: every call of the two sides answers alike, and the invariant holds behind it -/
def LawOK (Inv : Nat → jS → Prop) : Prop := ∀ k g, k ≤ 2560 → Inv k g → Inv (k + 5) g ∧ (0 < gN g ∧ gK g 0 = 10) ∧ (37 < gN g ∧ gK g 37 = 11) ∧ (∀ y1 : Int64, Lw_0 (Inv (k + 5)) g y1) ∧ Lw_1 (Inv (k + 5)) g ∧ Lw_2 (Inv (k + 5)) g ∧ Lw_3 (Inv (k + 5)) g ∧ (∀ y1 y2 : Int32, Lw_4 (Inv (k + 5)) g y1 y2) ∧ (∀ y1 y2 : Int32, Lw_5 (Inv (k + 5)) g y1 y2) ∧ (∀ y1 y2 y3 : Int32, Lw_6 (Inv (k + 5)) g y1 y2 y3) ∧ (∀ y1 y2 : Int32, Lw_7 (Inv (k + 5)) g y1 y2) ∧ (∀ y1 y2 : Int32, Lw_8 (Inv (k + 5)) g y1 y2) ∧ (∀ y1 y2 : Int32, Lw_9 (Inv (k + 5)) g y1 y2) ∧ (∀ y1 y2 : Int32, Lw_10 (Inv (k + 5)) g y1 y2) ∧ (∀ y1 y2 : Int32, Lw_11 (Inv (k + 5)) g y1 y2) ∧ (∀ y1 : Int32, Lw_12 (Inv (k + 5)) g y1) ∧ (∀ y1 y2 y3 : Int32, Lw_13 (Inv (k + 5)) g y1 y2 y3) ∧ (∀ y1 y2 y3 : Int32, Lw_14 (Inv (k + 5)) g y1 y2 y3) ∧ (∀ y1 : Int32, Lw_15 (Inv (k + 5)) g y1) ∧ (∀ y1 y2 : Int32, Lw_16 (Inv (k + 5)) g y1 y2) ∧ (∀ y1 y2 y3 : Int32, Lw_17 (Inv (k + 5)) g y1 y2 y3) ∧ (∀ y1 y2 : Int32, Lw_18 (Inv (k + 5)) g y1 y2) ∧ ((gr g 0 14 = none → (∀ y1 y2 y3 : Int32, Lw_19n (Inv (k + 5)) g y1 y2 y3)) ∧ (gr g 0 14 ≠ none → (∀ y1 y2 y3 : Int32, Lw_19 (Inv (k + 5)) g y1 y2 y3))) ∧ (∀ y1 y2 : Int32, Lw_20 (Inv (k + 5)) g y1 y2) ∧ (∀ y1 y2 y3 : Int32, Lw_21 (Inv (k + 5)) g y1 y2 y3) ∧ Lw_22 (Inv (k + 5)) g ∧ Lw_23 (Inv (k + 5)) g ∧ (∀ y1 y2 y3 y4 : Int32, Lw_24 (Inv (k + 5)) g y1 y2 y3 y4) ∧ Lw_25 (Inv (k + 5)) g ∧ Lw_26 (Inv (k + 5)) g ∧ (∀ y1 : Int32, Lw_27 (Inv (k + 5)) g y1) ∧ Lw_28 (Inv (k + 5)) g
/-- each call takes room for the two at most -/
def LawCt (k c1 s1 : Nat) : Prop := 5 * c1 ≤ 325 + 6 * k ∧ 5 * s1 ≤ 359400 + 14006 * k
theorem nI_sub5 {L k : Nat} (hL : L ≤ 2560) (hk : k ≤ 2560) : (nI L - 5 < nI k) ↔ L < k + 5 := by
  have e : (nI L - 5 : Int32).toInt = (L : Int) - 5 := pk_sub_toInt (a := L) (b := 5) (by omega) (by decide)
  rw [Int32.lt_iff_toInt_lt, e, nI_toInt (by omega)]
  omega
set_option maxHeartbeats 4000000 in
set_option maxRecDepth 100000 in
theorem law_loop {p : Program} {l : Launch} {e : Env} {s : State} {m : MethodId} {below : List Frame} {meth : Method} {c : Code} {b tU a0 L : Nat} {cy : Nat → ClassId} {D : va_G} {xs : Nat → Int32} {Inv : Nat → jS → Prop} (hL : L ≤ 2560) (hI : LawOK Inv) (C0 : jCA p s m #[Value.ref a0] c cL_law 4 wsL_law RL b cy D tU) (hb0 : b = s.heap.size) (hX : va_X a0 L xs s s.heap) (hbl : a0 < s.heap.size) (hr : meth.sig.returnType = ret) (hlk : meth.locks = false) :
    ∀ (n k : Nat), L + 1 ≤ k + n → k ≤ 2560 → ∀ {H : Heap} {locs : List Loc} {ls : Array Slot} {g : jS} {c1 s1 : Nat}, jDA b cy D g s H locs → Inv k g → LawCt k c1 s1 → lv_has ls 4 [(0, .ref a0), (1, .ref (b + 0)), (2, .ref (b + 37)), (3, .int (nI k))] → W p l e room_1 s m #[Value.ref a0] below meth c H locs c1 s1 (lw_Z below #[Value.ref a0] s) (F0 m 18 ls []) := by
  obtain ⟨hx, hb, hml, hown, hts, hst⟩ := id C0
  have hbA : ¬ jA b a0 := by rw [hb0]; exact Nat.not_le.mpr hbl
  intro n
  induction n with
  | zero =>
    intro k h1 h2 H locs ls g c1 s1 w hg hct hl
    have hct' : c1 ≤ 600000 ∧ s1 ≤ 7302250 := by
      unfold LawCt at hct
      omega
    refine lv_iload_n hx hb dL_law_18 rfl (lv_at hl 3 rfl) ?_
    refine lv_aload_n hx hb dL_law_19 rfl (lv_at hl 0 rfl) ?_
    refine va_slen hx hb hX hbl hbA w.1.2.2 dL_law_20 ?_
    refine lv_iconst (v := (5 : Int32)) hx hb dL_law_21 (by decide) ?_
    refine lv_isub hx hb dL_law_22 ?_
    refine lv_icmp_gt (tgt := 1038) hx hb dL_law_23 (by decide) (fun hc => ?_) (fun hc => ?_)
    · refine lv_iconst (v := 1) hx hb dL_law_1038 (by decide) ?_
      refine va_forget (fun q hq => by have := w.1.2.2.2.2 q hq; rw [hb0] at this; exact this) ?_
      refine W.widen (k := 600000) (n := 7302250) hct'.1 hct'.2 ?_
      exact lw_ret hx hb hr hlk dL_law_1039
    · exact absurd ((nI_sub5 hL h2).mpr (by omega)) hc
  | succ n ih =>
    intro k h1 h2 H locs ls g c1 s1 w hg hct hl
    have hct' : c1 ≤ 600000 ∧ s1 ≤ 7302250 := by
      unfold LawCt at hct
      omega
    refine lv_iload_n hx hb dL_law_18 rfl (lv_at hl 3 rfl) ?_
    refine lv_aload_n hx hb dL_law_19 rfl (lv_at hl 0 rfl) ?_
    refine va_slen hx hb hX hbl hbA w.1.2.2 dL_law_20 ?_
    refine lv_iconst (v := (5 : Int32)) hx hb dL_law_21 (by decide) ?_
    refine lv_isub hx hb dL_law_22 ?_
    refine lv_icmp_gt (tgt := 1038) hx hb dL_law_23 (by decide) (fun hc => ?_) (fun hc => ?_)
    · refine lv_iconst (v := 1) hx hb dL_law_1038 (by decide) ?_
      refine va_forget (fun q hq => by have := w.1.2.2.2.2 q hq; rw [hb0] at this; exact this) ?_
      refine W.widen (k := 600000) (n := 7302250) hct'.1 hct'.2 ?_
      exact lw_ret hx hb hr hlk dL_law_1039
    · have hkL : k + 5 ≤ L := by
        rcases Nat.lt_or_ge L (k + 5) with h | h
        · exact absurd ((nI_sub5 hL h2).mpr h) hc
        · exact h
      clear hc
      have hin : vp_in (nI k + 1) L ∧ vp_in (nI k + 2) L ∧ vp_in (nI k + 3) L ∧ vp_in (nI k + 4) L :=
        ⟨by rw [show nI k + 1 = nI (k + 1) from nI_add k 1]; exact vp_in_nI (by omega) (by omega), by rw [show nI k + 2 = nI (k + 2) from nI_add k 2]; exact vp_in_nI (by omega) (by omega), by rw [show nI k + 3 = nI (k + 3) from nI_add k 3]; exact vp_in_nI (by omega) (by omega), by rw [show nI k + 4 = nI (k + 4) from nI_add k 4]; exact vp_in_nI (by omega) (by omega)⟩
      have hct5 : LawCt (k + 5) c1 s1 := by
        unfold LawCt at hct ⊢
        omega
      have fin : ∀ {H : Heap} {locs : List Loc} {g : jS} {c1 s1 : Nat}, jDA b cy D g s H locs → Inv (k + 5) g → LawCt (k + 5) c1 s1 → W p l e room_1 s m #[Value.ref a0] below meth c H locs c1 s1 (lw_Z below #[Value.ref a0] s) (F0 m 1032 ls []) := by
        intro H locs g c1 s1 w hg hct
        refine lv_iinc (v := nI (k + 5)) (lv' := [(3, .int (nI (k + 5))), (0, .ref a0), (1, .ref (b + 0)), (2, .ref (b + 37))]) hx hb dL_law_1032 hl (k := 3) rfl (nI_add k 5) (by decide) rfl (fun ls hl => ?_)
        refine lv_goto (tgt := 18) hx hb dL_law_1035 (by decide) ?_
        exact ih (k + 5) (by omega) (by omega) w hg hct (lv_sub hl [1, 2, 3, 0] rfl)
      obtain ⟨hg5, h0, h1', e0, e1, e2, e3, e4, e5, e6, e7, e8, e9, e10, e11, e12, e13, e14, e15, e16, e17, e18, e19, e20, e21, e22, e23, e24, e25, e26, e27, e28⟩ := hI k g (by omega) hg
      refine lv_aload_n hx hb dL_law_26 rfl (lv_at hl 0 rfl) ?_
      refine lv_iload_n hx hb dL_law_27 rfl (lv_at hl 3 rfl) ?_
      refine va_sld hx hb hX hbl hbA w.1.2.2 (vp_in_nI (by omega) (by omega)) dL_law_28 ?_
      refine lv_bipush (v := (31 : Int32)) hx hb dL_law_29 (by decide) ?_
      refine lv_iand hx hb dL_law_31 ?_
      refine lv_topi (fun y hy => ?_)
      clear hy
      by_cases hc0 : y = (0 : Int32)
      · refine lv_tableIn (off := 132) (tgt := 164) hx hb dL_law_32 (by rw [hc0]; decide) (by rw [hc0]; decide) (by rw [hc0]; rfl) (by decide) ?_
        exact law_c0 C0 hX hbl hbA w h0 h1' hin hl hct' (e0 _) (fun {_ _ _ _} w hg => fin w hg hct5)
      by_cases hc1 : y = (1 : Int32)
      · refine lv_tableIn (off := 185) (tgt := 217) hx hb dL_law_32 (by rw [hc1]; decide) (by rw [hc1]; decide) (by rw [hc1]; rfl) (by decide) ?_
        exact law_c1 C0 hX hbl hbA w h0 h1' hin hl hct' e1 (fun {_ _ _ _} w hg => fin w hg hct5)
      by_cases hc2 : y = (2 : Int32)
      · refine lv_tableIn (off := 198) (tgt := 230) hx hb dL_law_32 (by rw [hc2]; decide) (by rw [hc2]; decide) (by rw [hc2]; rfl) (by decide) ?_
        exact law_c2 C0 hX hbl hbA w h0 h1' hin hl hct' e2 (fun {_ _ _ _} w hg => fin w hg hct5)
      by_cases hc3 : y = (3 : Int32)
      · refine lv_tableIn (off := 211) (tgt := 243) hx hb dL_law_32 (by rw [hc3]; decide) (by rw [hc3]; decide) (by rw [hc3]; rfl) (by decide) ?_
        exact law_c3 C0 hX hbl hbA w h0 h1' hin hl hct' e3 (fun {_ _ _ _} w hg => fin w hg hct5)
      by_cases hc4 : y = (4 : Int32)
      · refine lv_tableIn (off := 224) (tgt := 256) hx hb dL_law_32 (by rw [hc4]; decide) (by rw [hc4]; decide) (by rw [hc4]; rfl) (by decide) ?_
        exact law_c4 C0 hX hbl hbA w h0 h1' hin hl hct' (e4 _ _) (fun {_ _ _ _} w hg => fin w hg hct5)
      by_cases hc5 : y = (5 : Int32)
      · refine lv_tableIn (off := 257) (tgt := 289) hx hb dL_law_32 (by rw [hc5]; decide) (by rw [hc5]; decide) (by rw [hc5]; rfl) (by decide) ?_
        exact law_c5 C0 hX hbl hbA w h0 h1' hin hl hct' (e5 _ _) (fun {_ _ _ _} w hg => fin w hg hct5)
      by_cases hc6 : y = (6 : Int32)
      · refine lv_tableIn (off := 290) (tgt := 322) hx hb dL_law_32 (by rw [hc6]; decide) (by rw [hc6]; decide) (by rw [hc6]; rfl) (by decide) ?_
        exact law_c6 C0 hX hbl hbA w h0 h1' hin hl hct' (e6 _ _ _) (fun {_ _ _ _} w hg => fin w hg hct5)
      by_cases hc7 : y = (7 : Int32)
      · refine lv_tableIn (off := 333) (tgt := 365) hx hb dL_law_32 (by rw [hc7]; decide) (by rw [hc7]; decide) (by rw [hc7]; rfl) (by decide) ?_
        exact law_c7 C0 hX hbl hbA w h0 h1' hin hl hct' (e7 _ _) (fun {_ _ _ _} w hg => fin w hg hct5)
      by_cases hc8 : y = (8 : Int32)
      · refine lv_tableIn (off := 366) (tgt := 398) hx hb dL_law_32 (by rw [hc8]; decide) (by rw [hc8]; decide) (by rw [hc8]; rfl) (by decide) ?_
        exact law_c8 C0 hX hbl hbA w h0 h1' hin hl hct' (e8 _ _) (fun {_ _ _ _} w hg => fin w hg hct5)
      by_cases hc9 : y = (9 : Int32)
      · refine lv_tableIn (off := 399) (tgt := 431) hx hb dL_law_32 (by rw [hc9]; decide) (by rw [hc9]; decide) (by rw [hc9]; rfl) (by decide) ?_
        exact law_c9 C0 hX hbl hbA w h0 h1' hin hl hct' (e9 _ _) (fun {_ _ _ _} w hg => fin w hg hct5)
      by_cases hc10 : y = (10 : Int32)
      · refine lv_tableIn (off := 432) (tgt := 464) hx hb dL_law_32 (by rw [hc10]; decide) (by rw [hc10]; decide) (by rw [hc10]; rfl) (by decide) ?_
        exact law_c10 C0 hX hbl hbA w h0 h1' hin hl hct' (e10 _ _) (fun {_ _ _ _} w hg => fin w hg hct5)
      by_cases hc11 : y = (11 : Int32)
      · refine lv_tableIn (off := 465) (tgt := 497) hx hb dL_law_32 (by rw [hc11]; decide) (by rw [hc11]; decide) (by rw [hc11]; rfl) (by decide) ?_
        exact law_c11 C0 hX hbl hbA w h0 h1' hin hl hct' (e11 _ _) (fun {_ _ _ _} w hg => fin w hg hct5)
      by_cases hc12 : y = (12 : Int32)
      · refine lv_tableIn (off := 498) (tgt := 530) hx hb dL_law_32 (by rw [hc12]; decide) (by rw [hc12]; decide) (by rw [hc12]; rfl) (by decide) ?_
        exact law_c12 C0 hX hbl hbA w h0 h1' hin hl hct' (e12 _) (fun {_ _ _ _} w hg => fin w hg hct5)
      by_cases hc13 : y = (13 : Int32)
      · refine lv_tableIn (off := 521) (tgt := 553) hx hb dL_law_32 (by rw [hc13]; decide) (by rw [hc13]; decide) (by rw [hc13]; rfl) (by decide) ?_
        exact law_c13 C0 hX hbl hbA w h0 h1' hin hl hct' (e13 _ _ _) (fun {_ _ _ _} w hg => fin w hg hct5)
      by_cases hc14 : y = (14 : Int32)
      · refine lv_tableIn (off := 564) (tgt := 596) hx hb dL_law_32 (by rw [hc14]; decide) (by rw [hc14]; decide) (by rw [hc14]; rfl) (by decide) ?_
        exact law_c14 C0 hX hbl hbA w h0 h1' hin hl hct' (e14 _ _ _) (fun {_ _ _ _} w hg => fin w hg hct5)
      by_cases hc15 : y = (15 : Int32)
      · refine lv_tableIn (off := 607) (tgt := 639) hx hb dL_law_32 (by rw [hc15]; decide) (by rw [hc15]; decide) (by rw [hc15]; rfl) (by decide) ?_
        exact law_c15 C0 hX hbl hbA w h0 h1' hin hl hct' (e15 _) (fun {_ _ _ _} w hg => fin w hg hct5)
      by_cases hc16 : y = (16 : Int32)
      · refine lv_tableIn (off := 630) (tgt := 662) hx hb dL_law_32 (by rw [hc16]; decide) (by rw [hc16]; decide) (by rw [hc16]; rfl) (by decide) ?_
        exact law_c16 C0 hX hbl hbA w h0 h1' hin hl hct' (e16 _ _) (fun {_ _ _ _} w hg => fin w hg hct5)
      by_cases hc17 : y = (17 : Int32)
      · refine lv_tableIn (off := 663) (tgt := 695) hx hb dL_law_32 (by rw [hc17]; decide) (by rw [hc17]; decide) (by rw [hc17]; rfl) (by decide) ?_
        exact law_c17 C0 hX hbl hbA w h0 h1' hin hl hct' (e17 _ _ _) (fun {_ _ _ _} w hg => fin w hg hct5)
      by_cases hc18 : y = (18 : Int32)
      · refine lv_tableIn (off := 706) (tgt := 738) hx hb dL_law_32 (by rw [hc18]; decide) (by rw [hc18]; decide) (by rw [hc18]; rfl) (by decide) ?_
        exact law_c18 C0 hX hbl hbA w h0 h1' hin hl hct' (e18 _ _) (fun {_ _ _ _} w hg => fin w hg hct5)
      by_cases hc19 : y = (19 : Int32)
      · refine lv_tableIn (off := 739) (tgt := 771) hx hb dL_law_32 (by rw [hc19]; decide) (by rw [hc19]; decide) (by rw [hc19]; rfl) (by decide) ?_
        have hct6 : c1 + 6 ≤ 600000 ∧ s1 + 14006 ≤ 7302250 ∧ LawCt (k + 5) (c1 + 6) (s1 + 14006) := by
          unfold LawCt at hct ⊢
          omega
        rcases Classical.em (gr g 0 14 = none) with hn | hn
        · exact law_c19n C0 hX hbl hbA w h0 h1' hin hl ⟨hct6.1, hct6.2.1⟩ (e19.1 hn _ _ _) (fun {_ _ _} w hg => fin w hg hct6.2.2)
        · exact law_c19 C0 hX hbl hbA w h0 h1' hin hl hct' (e19.2 hn _ _ _) (fun {_ _ _ _} w hg => fin w hg hct5)
      by_cases hc20 : y = (20 : Int32)
      · refine lv_tableIn (off := 782) (tgt := 814) hx hb dL_law_32 (by rw [hc20]; decide) (by rw [hc20]; decide) (by rw [hc20]; rfl) (by decide) ?_
        exact law_c20 C0 hX hbl hbA w h0 h1' hin hl hct' (e20 _ _) (fun {_ _ _ _} w hg => fin w hg hct5)
      by_cases hc21 : y = (21 : Int32)
      · refine lv_tableIn (off := 815) (tgt := 847) hx hb dL_law_32 (by rw [hc21]; decide) (by rw [hc21]; decide) (by rw [hc21]; rfl) (by decide) ?_
        exact law_c21 C0 hX hbl hbA w h0 h1' hin hl hct' (e21 _ _ _) (fun {_ _ _ _} w hg => fin w hg hct5)
      by_cases hc22 : y = (22 : Int32)
      · refine lv_tableIn (off := 858) (tgt := 890) hx hb dL_law_32 (by rw [hc22]; decide) (by rw [hc22]; decide) (by rw [hc22]; rfl) (by decide) ?_
        exact law_c22 C0 hX hbl hbA w h0 h1' hin hl hct' e22 (fun {_ _ _ _} w hg => fin w hg hct5)
      by_cases hc23 : y = (23 : Int32)
      · refine lv_tableIn (off := 871) (tgt := 903) hx hb dL_law_32 (by rw [hc23]; decide) (by rw [hc23]; decide) (by rw [hc23]; rfl) (by decide) ?_
        exact law_c23 C0 hX hbl hbA w h0 h1' hin hl hct' e23 (fun {_ _ _ _} w hg => fin w hg hct5)
      by_cases hc24 : y = (24 : Int32)
      · refine lv_tableIn (off := 884) (tgt := 916) hx hb dL_law_32 (by rw [hc24]; decide) (by rw [hc24]; decide) (by rw [hc24]; rfl) (by decide) ?_
        exact law_c24 C0 hX hbl hbA w h0 h1' hin hl hct' (e24 _ _ _ _) (fun {_ _ _ _} w hg => fin w hg hct5)
      by_cases hc25 : y = (25 : Int32)
      · refine lv_tableIn (off := 937) (tgt := 969) hx hb dL_law_32 (by rw [hc25]; decide) (by rw [hc25]; decide) (by rw [hc25]; rfl) (by decide) ?_
        exact law_c25 C0 hX hbl hbA w h0 h1' hin hl hct' e25 (fun {_ _ _ _} w hg => fin w hg hct5)
      by_cases hc26 : y = (26 : Int32)
      · refine lv_tableIn (off := 950) (tgt := 982) hx hb dL_law_32 (by rw [hc26]; decide) (by rw [hc26]; decide) (by rw [hc26]; rfl) (by decide) ?_
        exact law_c26 C0 hX hbl hbA w h0 h1' hin hl hct' e26 (fun {_ _ _ _} w hg => fin w hg hct5)
      by_cases hc27 : y = (27 : Int32)
      · refine lv_tableIn (off := 963) (tgt := 995) hx hb dL_law_32 (by rw [hc27]; decide) (by rw [hc27]; decide) (by rw [hc27]; rfl) (by decide) ?_
        exact law_c27 C0 hX hbl hbA w h0 h1' hin hl hct' (e27 _) (fun {_ _ _ _} w hg => fin w hg hct5)
      by_cases hc28 : y = (28 : Int32)
      · refine lv_tableIn (off := 986) (tgt := 1018) hx hb dL_law_32 (by rw [hc28]; decide) (by rw [hc28]; decide) (by rw [hc28]; rfl) (by decide) ?_
        exact law_c28 C0 hX hbl hbA w h0 h1' hin hl hct' e28 (fun {_ _ _ _} w hg => fin w hg hct5)
      have hd : y.toInt < 0 ∨ 28 < y.toInt := by
        rcases Int.lt_or_le y.toInt 0 with h1 | h1
        · exact Or.inl h1
        rcases Int.lt_or_le 28 y.toInt with h2 | h2
        · exact Or.inr h2
        exfalso
        have h3 : y.toInt = 0 ∨ y.toInt = 1 ∨ y.toInt = 2 ∨ y.toInt = 3 ∨ y.toInt = 4 ∨ y.toInt = 5 ∨ y.toInt = 6 ∨ y.toInt = 7 ∨ y.toInt = 8 ∨ y.toInt = 9 ∨ y.toInt = 10 ∨ y.toInt = 11 ∨ y.toInt = 12 ∨ y.toInt = 13 ∨ y.toInt = 14 ∨ y.toInt = 15 ∨ y.toInt = 16 ∨ y.toInt = 17 ∨ y.toInt = 18 ∨ y.toInt = 19 ∨ y.toInt = 20 ∨ y.toInt = 21 ∨ y.toInt = 22 ∨ y.toInt = 23 ∨ y.toInt = 24 ∨ y.toInt = 25 ∨ y.toInt = 26 ∨ y.toInt = 27 ∨ y.toInt = 28 := by omega
        rcases h3 with h3 | h3 | h3 | h3 | h3 | h3 | h3 | h3 | h3 | h3 | h3 | h3 | h3 | h3 | h3 | h3 | h3 | h3 | h3 | h3 | h3 | h3 | h3 | h3 | h3 | h3 | h3 | h3 | h3
        · exact hc0 (Int32.toInt_inj.mp (h3.trans (by decide)))
        · exact hc1 (Int32.toInt_inj.mp (h3.trans (by decide)))
        · exact hc2 (Int32.toInt_inj.mp (h3.trans (by decide)))
        · exact hc3 (Int32.toInt_inj.mp (h3.trans (by decide)))
        · exact hc4 (Int32.toInt_inj.mp (h3.trans (by decide)))
        · exact hc5 (Int32.toInt_inj.mp (h3.trans (by decide)))
        · exact hc6 (Int32.toInt_inj.mp (h3.trans (by decide)))
        · exact hc7 (Int32.toInt_inj.mp (h3.trans (by decide)))
        · exact hc8 (Int32.toInt_inj.mp (h3.trans (by decide)))
        · exact hc9 (Int32.toInt_inj.mp (h3.trans (by decide)))
        · exact hc10 (Int32.toInt_inj.mp (h3.trans (by decide)))
        · exact hc11 (Int32.toInt_inj.mp (h3.trans (by decide)))
        · exact hc12 (Int32.toInt_inj.mp (h3.trans (by decide)))
        · exact hc13 (Int32.toInt_inj.mp (h3.trans (by decide)))
        · exact hc14 (Int32.toInt_inj.mp (h3.trans (by decide)))
        · exact hc15 (Int32.toInt_inj.mp (h3.trans (by decide)))
        · exact hc16 (Int32.toInt_inj.mp (h3.trans (by decide)))
        · exact hc17 (Int32.toInt_inj.mp (h3.trans (by decide)))
        · exact hc18 (Int32.toInt_inj.mp (h3.trans (by decide)))
        · exact hc19 (Int32.toInt_inj.mp (h3.trans (by decide)))
        · exact hc20 (Int32.toInt_inj.mp (h3.trans (by decide)))
        · exact hc21 (Int32.toInt_inj.mp (h3.trans (by decide)))
        · exact hc22 (Int32.toInt_inj.mp (h3.trans (by decide)))
        · exact hc23 (Int32.toInt_inj.mp (h3.trans (by decide)))
        · exact hc24 (Int32.toInt_inj.mp (h3.trans (by decide)))
        · exact hc25 (Int32.toInt_inj.mp (h3.trans (by decide)))
        · exact hc26 (Int32.toInt_inj.mp (h3.trans (by decide)))
        · exact hc27 (Int32.toInt_inj.mp (h3.trans (by decide)))
        · exact hc28 (Int32.toInt_inj.mp (h3.trans (by decide)))
      refine lv_tableOut (tgt := 1032) hx hb dL_law_32 hd (by decide) ?_
      exact fin w hg5 hct5
