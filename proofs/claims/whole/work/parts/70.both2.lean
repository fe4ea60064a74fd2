theorem aF.wf {i i1 : jI} (h : aF i i1) : wF i i1 := fun x f hk => h x f (by unfold kp at hk; omega)
theorem gF2.wf {i i1 : jI} (h : ∀ z f, z ≠ 20 → z ≠ 21 → i1 z f = i z f) : wF i i1 := fun x f hk => h x f (by unfold kp at hk; omega) (by unfold kp at hk; omega)
theorem pcs_small {A B G P : Nat → Nat} {fr : Bool} {ns ka kb z0 p c : Nat} (tok : Tok ns A B G) (hP : ∀ s, s < ns → P s < 16) (hka : ka < 5) (hkb : kb < 5) (hz0 : pgd z0) (h : pcs A B G (fun s => mturn ka (P s)) (fun s => mturn kb (P s)) (tw P ka kb) fr ns z0 p c) : ∃ c', c' ≤ c ∧ c' ≤ 16384 * 378 ∧ pcs A B G (fun s => mturn ka (P s)) (fun s => mturn kb (P s)) (tw P ka kb) fr ns z0 p c' := by
  obtain ⟨x, hx, hw⟩ := (tes_pcs tok hz0).mpr h
  obtain ⟨c', a1, a2, a3⟩ := gw_small (B := 128) (tg_lt hz0) (tes_lt tok) (fun a ha => by
    have h1 := mst_22 ka hka (P a) (hP a ha)
    have h2 := mst_22 kb hkb (P a) (hP a ha)
    show mstep ka (P a) + mstep kb (P a) ≤ 128
    omega) hw
  exact ⟨c', a1, by omega, (tes_pcs tok hz0).mp ⟨x, hx, a3⟩⟩
section RefB
variable {len : Nat → Nat} {r : jR} {i : jI} {j : jL} {W : jI → jL → Prop} {nw a b p : Nat} {y1 y2 y3 : Int32}
theorem rb_1 (w1 : i 37 8 = nI nw) (hnw : nw ≤ 5) (ho : Out y1 nw) (hW : W i j) : J_X12_both len r (fun q2 i2 j2 => (-101 : Int32) = q2 ∧ W i2 j2) i j 37 y1 y2 y3 := by
  rw [J_X12_both]
  refine wkM_no (by omega) w1 ho ⟨fun _ => ?_, fun hh => absurd rfl hh⟩
  rw [J_X12_both_L28]
  exact ⟨rfl, hW⟩
theorem rb_2 (w1 : i 37 8 = nI nw) (hnw : nw ≤ 5) (ha : a < nw) (ho : Out y2 nw) (hW : W i j) : J_X12_both len r (fun q2 i2 j2 => (-101 : Int32) = q2 ∧ W i2 j2) i j 37 (nI a) y2 y3 := by
  rw [J_X12_both]
  refine wkM_yes (by omega) w1 ha ⟨fun hh => absurd hh (by decide), fun _ => wkM_no (by omega) w1 ho ⟨fun _ => ?_, fun hh => absurd rfl hh⟩⟩
  rw [J_X12_both_L28]
  exact ⟨rfl, hW⟩
theorem rb_3 (w1 : i 37 8 = nI nw) (hnw : nw ≤ 5) (ha : a < nw) (hW : W i j) : J_X12_both len r (fun q2 i2 j2 => (-101 : Int32) = q2 ∧ W i2 j2) i j 37 (nI a) (nI a) y3 := by
  rw [J_X12_both]
  refine wkM_yes (by omega) w1 ha ⟨fun hh => absurd hh (by decide), fun _ => wkM_yes (by omega) w1 ha ⟨fun hh => absurd hh (by decide), fun _ => ⟨fun _ => ?_, fun hh => absurd rfl hh⟩⟩⟩
  rw [J_X12_both_L28]
  exact ⟨rfl, hW⟩
theorem rb_4 (w1 : i 37 8 = nI nw) (hnw : nw ≤ 5) (ha : a < nw) (hb : b < nw) (hne : ¬ nI a = nI b) (ho : Out y3 7) (hW : W i j) : J_X12_both len r (fun q2 i2 j2 => (-101 : Int32) = q2 ∧ W i2 j2) i j 37 (nI a) (nI b) y3 := by
  rw [J_X12_both]
  refine wkM_yes (by omega) w1 ha ⟨fun hh => absurd hh (by decide), fun _ => wkM_yes (by omega) w1 hb ⟨fun hh => absurd hh (by decide), fun _ => ⟨fun hh => absurd hh hne, fun _ => plM_no ho ⟨fun hh => absurd rfl hh, fun _ => ?_⟩⟩⟩⟩
  rw [J_X12_both_L28]
  exact ⟨rfl, hW⟩
theorem rb_5 {q : Int32} {sa sb : Nat} (hg : Gr r len) (w1 : i 37 8 = nI nw) (hnw : nw ≤ 5) (ha : a < nw) (hb : b < nw) (hne : ¬ nI a = nI b) (hp : p < 7) (ea : i 43 a = nI sa) (eb : i 43 b = nI sb) (hsa : sa < 378) (hsb : sb < 378) (hd : sa % 7 ≠ sb % 7 → q = -103 ∧ W i j) (hs : sa % 7 = sb % 7 → J_X12_bothNow len r (fun q2 i2 j2 => q = q2 ∧ W i2 j2) i j 37 (nI a) (nI b) (nI p)) : J_X12_both len r (fun q2 i2 j2 => q = q2 ∧ W i2 j2) i j 37 (nI a) (nI b) (nI p) := by
  rw [J_X12_both]
  refine wkM_yes (by omega) w1 ha ⟨fun hh => absurd hh (by decide), fun _ => wkM_yes (by omega) w1 hb ⟨fun hh => absurd hh (by decide), fun _ => ⟨fun hh => absurd hh hne, fun _ => plM_yes hp ⟨fun _ => ⟨43, hg.1 _ (by decide) _ (by decide) _ rfl, by rw [hg.2 _ (by decide)]; exact vp_in_nI (show a < 5 by omega) (by decide), ?_⟩, fun hh => absurd hh (by decide)⟩⟩⟩⟩
  rw [nI_clamp (show a < 2 ^ 31 by omega), ea]
  refine sp_placeIn hsa ⟨43, hg.1 _ (by decide) _ (by decide) _ rfl, by rw [hg.2 _ (by decide)]; exact vp_in_nI (show b < 5 by omega) (by decide), ?_⟩
  rw [nI_clamp (show b < 2 ^ 31 by omega), eb]
  have h7a : sa % 7 < 7 := Nat.mod_lt _ (by decide)
  have h7b : sb % 7 < 7 := Nat.mod_lt _ (by decide)
  refine sp_placeIn hsb ⟨fun hne2 => hd (fun z => hne2 (by rw [z])), fun heq => hs ((nI_eq (by omega) (by omega)).mp heq)⟩
end RefB
section OkBoth
variable {len : Nat → Nat} {r : jR} {i : jI} {j : jL} {k : Nat} {y1 y2 y3 y4 : Int32}
theorem ok_19 (hg : Gr r len) (hA : hgA r len) (h14 : r 0 14 = some 65) (h : Rp k i) : J_X11_both len r (fun q i1 j1 => J_X12_both len r (fun q2 i2 j2 => q = q2 ∧ Rp (k + 5) i2) i1 j1 37 y1 y2 y3) i j 0 y1 y2 y3 := by
  have hR := h.up (k2 := k + 5) (by omega)
  obtain ⟨ns, ng, nt, nw, np, dn, pl, A, B, G, P, fr, h1, h2, h3, h4, h5, h6, h7, h8⟩ := h
  obtain ⟨w1, w2, w3, w4⟩ := h4
  rw [J_X11_both]
  rcases out_or y1 (n := nw) (by omega) with ho | ⟨a, ha, rfl⟩
  · refine wkC_no (by omega) w2 ho ⟨fun _ => ?_, fun hh => absurd rfl hh⟩
    rw [J_X11_both_L28]
    exact rb_1 (W := fun i2 _ => Rp (k + 5) i2) w1 w3 ho hR
  · refine wkC_yes (by omega) w2 ha ⟨fun hh => absurd hh (by decide), fun _ => ?_⟩
    rcases out_or y2 (n := nw) (by omega) with ho | ⟨b, hb, rfl⟩
    · refine wkC_no (by omega) w2 ho ⟨fun _ => ?_, fun hh => absurd rfl hh⟩
      rw [J_X11_both_L28]
      exact rb_2 (W := fun i2 _ => Rp (k + 5) i2) w1 w3 ha ho hR
    · refine wkC_yes (by omega) w2 hb ⟨fun hh => absurd hh (by decide), fun _ => ⟨fun heq => ?_, fun hne => ?_⟩⟩
      · have e : a = b := (nI_eq (by omega) (by omega)).mp heq
        subst e
        rw [J_X11_both_L28]
        exact rb_3 (W := fun i2 _ => Rp (k + 5) i2) w1 w3 ha hR
      · rcases out_or y3 (n := 7) (by decide) with ho | ⟨p, hp, rfl⟩
        · refine plC_no ho ⟨fun hh => absurd rfl hh, fun _ => ?_⟩
          rw [J_X11_both_L28]
          exact rb_4 (W := fun i2 _ => Rp (k + 5) i2) w1 w3 ha hb hne ho hR
        · obtain ⟨ka, sa, a1, a2, a3, a4, a5, a6, -⟩ := w4 a ha
          obtain ⟨kb, sb, b1, b2, b3, b4, b5, b6, -⟩ := w4 b hb
          have eca : (nI a).toNatClampNeg = a := nI_clamp (by omega)
          have ecb : (nI b).toNatClampNeg = b := nI_clamp (by omega)
          have hva : vp_in (nI a) 5 := vp_in_nI (by omega) (by decide)
          have hvb : vp_in (nI b) 5 := vp_in_nI (by omega) (by decide)
          have h7a : sa % 7 < 7 := Nat.mod_lt _ (by decide)
          have h7b : sb % 7 < 7 := Nat.mod_lt _ (by decide)
          refine plC_yes hp ⟨fun _ => ⟨9, hg.1 _ (by decide) _ (by decide) _ rfl, by rw [hg.2 _ (by decide)]; exact hva, 32 + a, by rw [eca]; exact hg.1 9 (by decide) a (by omega) _ (RR9 a (by omega)), 9, hg.1 _ (by decide) _ (by decide) _ rfl, by rw [hg.2 _ (by decide)]; exact hvb, 32 + b, by rw [ecb]; exact hg.1 9 (by decide) b (by omega) _ (RR9 b (by omega)), ?_⟩, fun hh => absurd hh (by decide)⟩
          rw [a6]
          refine sp_placeOf a2 ?_
          rw [b6]
          refine sp_placeOf b2 ⟨fun heq => ?_, fun hne2 => ?_⟩
          · have hab : sa % 7 = sb % 7 := (nI_eq (by omega) (by omega)).mp heq
            refine ⟨16, hg.1 _ (by decide) _ (by decide) _ rfl, 3, hg.1 _ (by decide) _ (by decide) _ rfl, ?_⟩
            rw [a4]
            refine sp_gait hg (hg16 hg) h1.2.1 a1 (fun i1 f1 ga1 => ⟨19, hg.1 _ (by decide) _ (by decide) _ rfl, 3, hg.1 _ (by decide) _ (by decide) _ rfl, ?_⟩)
            have tc1 : TC i1 ns A B G P fr := h1.2.1.wf (gF.wf f1)
            rw [f1 (32 + b) 0 (by omega) (by omega), b4]
            refine sp_gait hg (hg19 hg) tc1 b1 (fun i2 f2 ga2 => ⟨65, h14, ?_⟩)
            have tc2 : TC i2 ns A B G P fr := tc1.wf (gF2.wf f2)
            have ga1' : ga i2 17 18 ns (fun s => mstep ka (P s)) (fun s => mturn ka (P s)) := fun s hs => by
              rw [f2 17 s (by decide) (by decide), f2 18 s (by decide) (by decide)]
              exact ga1 s hs
            rw [J_X11_both_L119]
            refine ⟨65, h14, ?_⟩
            rw [f2 (32 + a) 1 (by omega) (by omega), f1 (32 + a) 1 (by omega) (by omega), a6, f2 (32 + b) 1 (by omega) (by omega), f1 (32 + b) 1 (by omega) (by omega), b6]
            refine sp_armsC (Q := fun q i1 j1 => J_X12_both len r (fun q2 i2 j2 => q = q2 ∧ Rp (k + 5) i2) i1 j1 37 (nI a) (nI b) (nI p)) (fun i3 j3 hJ => ⟨65, h14, 3, hg.1 _ (by decide) _ (by decide) _ rfl, 16, hg.1 _ (by decide) _ (by decide) _ rfl, 19, hg.1 _ (by decide) _ (by decide) _ rfl, hJ⟩) hg hA tc2 ga1' ga2 (fun s hs => mst_39 ka a1 _ (tc2.p16 s hs)) (fun s hs => mst_39 kb b1 _ (tc2.p16 s hs)) (fun s _ => mtn_lt _ _) (fun s _ => mtn_lt _ _) a2 b2 hab hp (fun i3 o ho hf3 => ?_)
            have hf : wF i i3 := (gF.wf f1).tr ((gF2.wf f2).tr hf3.wf)
            have hz0 : pgd (378 * sa + sb) := ⟨by rw [show (378 * sa + sb) / 378 = sa by omega]; exact a2, by rw [show (378 * sa + sb) / 378 = sa by omega, show (378 * sa + sb) % 378 = sb by omega]; exact hab⟩
            obtain ⟨hls, -⟩ := lsm_ls (fun c hc => pcs_small tc2.tok tc2.p16 a1 b1 hz0 hc) ho
            refine rb_5 (W := fun i2 _ => Rp (k + 5) i2) hg ((hf 37 8 (by unfold kp; omega)).trans w1) w3 ha hb hne hp ((hf _ _ (by unfold kp; omega)).trans a5) ((hf _ _ (by unfold kp; omega)).trans b5) a2 b2 (fun z => absurd hab z) (fun _ => ?_)
            exact sp_bothM hg (h1.1.wf hf) a1 b1 (by omega) (by omega) ((hf _ _ (by unfold kp; omega)).trans a3) ((hf _ _ (by unfold kp; omega)).trans b3) ((hf _ _ (by unfold kp; omega)).trans a5) ((hf _ _ (by unfold kp; omega)).trans b5) a2 b2 hab hp (fun i4 o' ho' hf4 => ⟨by rw [gw_ls_eq hls ho'], hR.sm (hf.tr hf4.wf).sm⟩)
          · exact rb_5 (W := fun i2 _ => Rp (k + 5) i2) hg w1 w3 ha hb hne hp a5 b5 a2 b2 (fun _ => ⟨rfl, hR⟩) (fun z => absurd (by rw [z]) hne2)
end OkBoth
