def Lw_0 (Inv : jS → Prop) (g : jS) (y1 : Int64) : Prop := J_X11_letters (gl g) (gr g) (fun q i1 j1 => J_X12_letters (gl g) (gr g) (fun q2 i2 j2 => q = q2 ∧ Inv (gsi g i2 j2)) i1 j1 37 y1) (gi g) (gj g) 0 y1
set_option maxHeartbeats 4000000 in
set_option maxRecDepth 100000 in
theorem law_c0 {p : Program} {l : Launch} {e : Env} {s : State} {m : MethodId} {below : List Frame} {meth : Method} {c : Code} {b tU a0 L : Nat} {cy : Nat → ClassId} {D : va_G} {xs : Nat → Int32} {Q : State → Prop} {Inv : jS → Prop} {H : Heap} {locs : List Loc} {ls : Array Slot} {g : jS} {x3 : Int32} {c1 s1 : Nat} (C0 : jCA p s m #[Value.ref a0] c cL_law 4 wsL_law RL b cy D tU) (hX : va_X a0 L xs s s.heap) (hbl : a0 < s.heap.size) (hbA : ¬ jA b a0) (w : jDA b cy D g s H locs) (h0 : 0 < gN g ∧ gK g 0 = 10) (h1 : 37 < gN g ∧ gK g 37 = 11) (hin : vp_in (x3 + 1) L ∧ vp_in (x3 + 2) L ∧ vp_in (x3 + 3) L ∧ vp_in (x3 + 4) L) (hl : lv_has ls 4 [(0, .ref a0), (1, .ref (b + 0)), (2, .ref (b + 37)), (3, .int x3)]) (hc1 : c1 ≤ 600000 ∧ s1 ≤ 7302250) (h : Lw_0 Inv g ((((xs (x3 + 1).toNatClampNeg).toInt64) <<< ((32 : Int32).toInt64 &&& 63)) ||| (((xs (x3 + 2).toNatClampNeg).toInt64) &&& (4294967295 : Int64)))) (kk : ∀ {H : Heap} {locs : List Loc} {i : jI} {j : jL}, jDA b cy D (gsi g i j) s H locs → Inv (gsi g i j) → W p l e room_1 s m #[Value.ref a0] below meth c H locs c1 s1 Q (F0 m 1032 ls [])) : W p l e room_1 s m #[Value.ref a0] below meth c H locs c1 s1 Q (F0 m 164 ls []) := by
  obtain ⟨hx, hb, hml, hown, hts, hst⟩ := id C0
  obtain ⟨hc1, hs1⟩ := hc1
  rw [Lw_0] at h
  refine lv_aload_n hx hb dL_law_164 rfl (lv_at hl 1 rfl) ?_
  refine lv_aload_n hx hb dL_law_165 rfl (lv_at hl 0 rfl) ?_
  refine lv_iload_n hx hb dL_law_166 rfl (lv_at hl 3 rfl) ?_
  refine lv_iconst (v := (1 : Int32)) hx hb dL_law_167 (by decide) ?_
  refine lv_iadd hx hb dL_law_168 ?_
  refine va_sld hx hb hX hbl hbA w.1.2.2 hin.1 dL_law_169 ?_
  refine lv_i2l hx hb dL_law_170 rfl ?_
  refine lv_bipush (v := (32 : Int32)) hx hb dL_law_171 (by decide) ?_
  refine lv_lshl hx hb dL_law_173 rfl ?_
  refine lv_aload_n hx hb dL_law_174 rfl (lv_at hl 0 rfl) ?_
  refine lv_iload_n hx hb dL_law_175 rfl (lv_at hl 3 rfl) ?_
  refine lv_iconst (v := (2 : Int32)) hx hb dL_law_176 (by decide) ?_
  refine lv_iadd hx hb dL_law_177 ?_
  refine va_sld hx hb hX hbl hbA w.1.2.2 hin.2.1 dL_law_178 ?_
  refine lv_i2l hx hb dL_law_179 rfl ?_
  refine lv_ldc2 hx hb hown (hts (.constantLong RL 13 (4294967295)) (by decide +kernel)) dL_law_180 ?_
  refine lv_land hx hb dL_law_183 ?_
  refine lv_lor hx hb dL_law_184 ?_
  refine jcVA_i (k := 0) (As := [.long ((((xs (x3 + 1).toNatClampNeg).toInt64) <<< ((32 : Int32).toInt64 &&& 63)) ||| (((xs (x3 + 2).toNatClampNeg).toInt64) &&& (4294967295 : Int64)))]) (rest := []) C0 w (c_X11_letters w.2 h0 h) (cwV 1 hts gL_law_X11_letters rfl rfl rfl (by decide +kernel) ⟨Nat.le_of_ble_eq_true rfl, Nat.le_of_ble_eq_true rfl⟩) h0 (rfl : vwCl[10]? = some (RX11, TX11, 15)) (by decide) rfl hl.1 rfl (Nat.le_of_ble_eq_true rfl) dL_law_185 (fun q1 iq1 jq1 H locs h w => ?_) ⟨by show _ ≤ 600000; omega, by show _ ≤ 7302250; omega⟩
  refine lv_aload_n hx hb dL_law_188 rfl (lv_at hl 2 rfl) ?_
  refine lv_aload_n hx hb dL_law_189 rfl (lv_at hl 0 rfl) ?_
  refine lv_iload_n hx hb dL_law_190 rfl (lv_at hl 3 rfl) ?_
  refine lv_iconst (v := (1 : Int32)) hx hb dL_law_191 (by decide) ?_
  refine lv_iadd hx hb dL_law_192 ?_
  refine va_sld hx hb hX hbl hbA w.1.2.2 hin.1 dL_law_193 ?_
  refine lv_i2l hx hb dL_law_194 rfl ?_
  refine lv_bipush (v := (32 : Int32)) hx hb dL_law_195 (by decide) ?_
  refine lv_lshl hx hb dL_law_197 rfl ?_
  refine lv_aload_n hx hb dL_law_198 rfl (lv_at hl 0 rfl) ?_
  refine lv_iload_n hx hb dL_law_199 rfl (lv_at hl 3 rfl) ?_
  refine lv_iconst (v := (2 : Int32)) hx hb dL_law_200 (by decide) ?_
  refine lv_iadd hx hb dL_law_201 ?_
  refine va_sld hx hb hX hbl hbA w.1.2.2 hin.2.1 dL_law_202 ?_
  refine lv_i2l hx hb dL_law_203 rfl ?_
  refine lv_ldc2 hx hb hown (hts (.constantLong RL 13 (4294967295)) (by decide +kernel)) dL_law_204 ?_
  refine lv_land hx hb dL_law_207 ?_
  refine lv_lor hx hb dL_law_208 ?_
  refine jcVA_i (k := 37) (As := [.long ((((xs (x3 + 1).toNatClampNeg).toInt64) <<< ((32 : Int32).toInt64 &&& 63)) ||| (((xs (x3 + 2).toNatClampNeg).toInt64) &&& (4294967295 : Int64)))]) (rest := [.int q1]) C0 w (c_X12_letters w.2 h1 h) (cwV 1 hts gL_law_X12_letters rfl rfl rfl (by decide +kernel) ⟨Nat.le_of_ble_eq_true rfl, Nat.le_of_ble_eq_true rfl⟩) h1 (rfl : vwCl[11]? = some (RX12, TX12, 51)) (by decide) rfl hl.1 rfl (Nat.le_of_ble_eq_true rfl) dL_law_209 (fun q2 iq2 jq2 H locs h w => ?_) ⟨by show _ ≤ 600000; omega, by show _ ≤ 7302250; omega⟩
  refine lv_icmp_eq (tgt := 1032) hx hb dL_law_212 (by decide) (fun hc => ?_) (fun hc => ?_)
  · exact kk w h.2
  · exact absurd h.1 hc
def Lw_1 (Inv : jS → Prop) (g : jS) : Prop := J_X11_blank (gl g) (gr g) (fun q i1 j1 => J_X12_blank (gl g) (gr g) (fun q2 i2 j2 => q = q2 ∧ Inv (gsi g i2 j2)) i1 j1 37) (gi g) (gj g) 0
set_option maxHeartbeats 4000000 in
set_option maxRecDepth 100000 in
theorem law_c1 {p : Program} {l : Launch} {e : Env} {s : State} {m : MethodId} {below : List Frame} {meth : Method} {c : Code} {b tU a0 L : Nat} {cy : Nat → ClassId} {D : va_G} {xs : Nat → Int32} {Q : State → Prop} {Inv : jS → Prop} {H : Heap} {locs : List Loc} {ls : Array Slot} {g : jS} {x3 : Int32} {c1 s1 : Nat} (C0 : jCA p s m #[Value.ref a0] c cL_law 4 wsL_law RL b cy D tU) (hX : va_X a0 L xs s s.heap) (hbl : a0 < s.heap.size) (hbA : ¬ jA b a0) (w : jDA b cy D g s H locs) (h0 : 0 < gN g ∧ gK g 0 = 10) (h1 : 37 < gN g ∧ gK g 37 = 11) (hin : vp_in (x3 + 1) L ∧ vp_in (x3 + 2) L ∧ vp_in (x3 + 3) L ∧ vp_in (x3 + 4) L) (hl : lv_has ls 4 [(0, .ref a0), (1, .ref (b + 0)), (2, .ref (b + 37)), (3, .int x3)]) (hc1 : c1 ≤ 600000 ∧ s1 ≤ 7302250) (h : Lw_1 Inv g) (kk : ∀ {H : Heap} {locs : List Loc} {i : jI} {j : jL}, jDA b cy D (gsi g i j) s H locs → Inv (gsi g i j) → W p l e room_1 s m #[Value.ref a0] below meth c H locs c1 s1 Q (F0 m 1032 ls [])) : W p l e room_1 s m #[Value.ref a0] below meth c H locs c1 s1 Q (F0 m 217 ls []) := by
  obtain ⟨hx, hb, hml, hown, hts, hst⟩ := id C0
  obtain ⟨hc1, hs1⟩ := hc1
  rw [Lw_1] at h
  refine lv_aload_n hx hb dL_law_217 rfl (lv_at hl 1 rfl) ?_
  refine jcVA_i (k := 0) (As := []) (rest := []) C0 w (c_X11_blank w.2 h0 h) (cwV 0 hts gL_law_X11_blank rfl rfl rfl (by decide +kernel) ⟨Nat.le_of_ble_eq_true rfl, Nat.le_of_ble_eq_true rfl⟩) h0 (rfl : vwCl[10]? = some (RX11, TX11, 15)) (by decide) rfl hl.1 rfl (Nat.le_of_ble_eq_true rfl) dL_law_218 (fun q1 iq1 jq1 H locs h w => ?_) ⟨by show _ ≤ 600000; omega, by show _ ≤ 7302250; omega⟩
  refine lv_aload_n hx hb dL_law_221 rfl (lv_at hl 2 rfl) ?_
  refine jcVA_i (k := 37) (As := []) (rest := [.int q1]) C0 w (c_X12_blank w.2 h1 h) (cwV 0 hts gL_law_X12_blank rfl rfl rfl (by decide +kernel) ⟨Nat.le_of_ble_eq_true rfl, Nat.le_of_ble_eq_true rfl⟩) h1 (rfl : vwCl[11]? = some (RX12, TX12, 51)) (by decide) rfl hl.1 rfl (Nat.le_of_ble_eq_true rfl) dL_law_222 (fun q2 iq2 jq2 H locs h w => ?_) ⟨by show _ ≤ 600000; omega, by show _ ≤ 7302250; omega⟩
  refine lv_icmp_eq (tgt := 1032) hx hb dL_law_225 (by decide) (fun hc => ?_) (fun hc => ?_)
  · exact kk w h.2
  · exact absurd h.1 hc
def Lw_2 (Inv : jS → Prop) (g : jS) : Prop := J_X11_fault (gl g) (gr g) (fun q i1 j1 => J_X12_fault (gl g) (gr g) (fun q2 i2 j2 => q = q2 ∧ Inv (gsi g i2 j2)) i1 j1 37) (gi g) (gj g) 0
set_option maxHeartbeats 4000000 in
set_option maxRecDepth 100000 in
theorem law_c2 {p : Program} {l : Launch} {e : Env} {s : State} {m : MethodId} {below : List Frame} {meth : Method} {c : Code} {b tU a0 L : Nat} {cy : Nat → ClassId} {D : va_G} {xs : Nat → Int32} {Q : State → Prop} {Inv : jS → Prop} {H : Heap} {locs : List Loc} {ls : Array Slot} {g : jS} {x3 : Int32} {c1 s1 : Nat} (C0 : jCA p s m #[Value.ref a0] c cL_law 4 wsL_law RL b cy D tU) (hX : va_X a0 L xs s s.heap) (hbl : a0 < s.heap.size) (hbA : ¬ jA b a0) (w : jDA b cy D g s H locs) (h0 : 0 < gN g ∧ gK g 0 = 10) (h1 : 37 < gN g ∧ gK g 37 = 11) (hin : vp_in (x3 + 1) L ∧ vp_in (x3 + 2) L ∧ vp_in (x3 + 3) L ∧ vp_in (x3 + 4) L) (hl : lv_has ls 4 [(0, .ref a0), (1, .ref (b + 0)), (2, .ref (b + 37)), (3, .int x3)]) (hc1 : c1 ≤ 600000 ∧ s1 ≤ 7302250) (h : Lw_2 Inv g) (kk : ∀ {H : Heap} {locs : List Loc} {i : jI} {j : jL}, jDA b cy D (gsi g i j) s H locs → Inv (gsi g i j) → W p l e room_1 s m #[Value.ref a0] below meth c H locs c1 s1 Q (F0 m 1032 ls [])) : W p l e room_1 s m #[Value.ref a0] below meth c H locs c1 s1 Q (F0 m 230 ls []) := by
  obtain ⟨hx, hb, hml, hown, hts, hst⟩ := id C0
  obtain ⟨hc1, hs1⟩ := hc1
  rw [Lw_2] at h
  refine lv_aload_n hx hb dL_law_230 rfl (lv_at hl 1 rfl) ?_
  refine jcVA_i (k := 0) (As := []) (rest := []) C0 w (c_X11_fault w.2 h0 h) (cwV 0 hts gL_law_X11_fault rfl rfl rfl (by decide +kernel) ⟨Nat.le_of_ble_eq_true rfl, Nat.le_of_ble_eq_true rfl⟩) h0 (rfl : vwCl[10]? = some (RX11, TX11, 15)) (by decide) rfl hl.1 rfl (Nat.le_of_ble_eq_true rfl) dL_law_231 (fun q1 iq1 jq1 H locs h w => ?_) ⟨by show _ ≤ 600000; omega, by show _ ≤ 7302250; omega⟩
  refine lv_aload_n hx hb dL_law_234 rfl (lv_at hl 2 rfl) ?_
  refine jcVA_i (k := 37) (As := []) (rest := [.int q1]) C0 w (c_X12_fault w.2 h1 h) (cwV 0 hts gL_law_X12_fault rfl rfl rfl (by decide +kernel) ⟨Nat.le_of_ble_eq_true rfl, Nat.le_of_ble_eq_true rfl⟩) h1 (rfl : vwCl[11]? = some (RX12, TX12, 51)) (by decide) rfl hl.1 rfl (Nat.le_of_ble_eq_true rfl) dL_law_235 (fun q2 iq2 jq2 H locs h w => ?_) ⟨by show _ ≤ 600000; omega, by show _ ≤ 7302250; omega⟩
  refine lv_icmp_eq (tgt := 1032) hx hb dL_law_238 (by decide) (fun hc => ?_) (fun hc => ?_)
  · exact kk w h.2
  · exact absurd h.1 hc
def Lw_3 (Inv : jS → Prop) (g : jS) : Prop := J_X11_town (gl g) (gr g) (fun q i1 j1 => J_X12_town (gl g) (gr g) (fun q2 i2 j2 => q = q2 ∧ Inv (gsi g i2 j2)) i1 j1 37) (gi g) (gj g) 0
set_option maxHeartbeats 4000000 in
set_option maxRecDepth 100000 in
theorem law_c3 {p : Program} {l : Launch} {e : Env} {s : State} {m : MethodId} {below : List Frame} {meth : Method} {c : Code} {b tU a0 L : Nat} {cy : Nat → ClassId} {D : va_G} {xs : Nat → Int32} {Q : State → Prop} {Inv : jS → Prop} {H : Heap} {locs : List Loc} {ls : Array Slot} {g : jS} {x3 : Int32} {c1 s1 : Nat} (C0 : jCA p s m #[Value.ref a0] c cL_law 4 wsL_law RL b cy D tU) (hX : va_X a0 L xs s s.heap) (hbl : a0 < s.heap.size) (hbA : ¬ jA b a0) (w : jDA b cy D g s H locs) (h0 : 0 < gN g ∧ gK g 0 = 10) (h1 : 37 < gN g ∧ gK g 37 = 11) (hin : vp_in (x3 + 1) L ∧ vp_in (x3 + 2) L ∧ vp_in (x3 + 3) L ∧ vp_in (x3 + 4) L) (hl : lv_has ls 4 [(0, .ref a0), (1, .ref (b + 0)), (2, .ref (b + 37)), (3, .int x3)]) (hc1 : c1 ≤ 600000 ∧ s1 ≤ 7302250) (h : Lw_3 Inv g) (kk : ∀ {H : Heap} {locs : List Loc} {i : jI} {j : jL}, jDA b cy D (gsi g i j) s H locs → Inv (gsi g i j) → W p l e room_1 s m #[Value.ref a0] below meth c H locs c1 s1 Q (F0 m 1032 ls [])) : W p l e room_1 s m #[Value.ref a0] below meth c H locs c1 s1 Q (F0 m 243 ls []) := by
  obtain ⟨hx, hb, hml, hown, hts, hst⟩ := id C0
  obtain ⟨hc1, hs1⟩ := hc1
  rw [Lw_3] at h
  refine lv_aload_n hx hb dL_law_243 rfl (lv_at hl 1 rfl) ?_
  refine jcVA_i (k := 0) (As := []) (rest := []) C0 w (c_X11_town w.2 h0 h) (cwV 0 hts gL_law_X11_town rfl rfl rfl (by decide +kernel) ⟨Nat.le_of_ble_eq_true rfl, Nat.le_of_ble_eq_true rfl⟩) h0 (rfl : vwCl[10]? = some (RX11, TX11, 15)) (by decide) rfl hl.1 rfl (Nat.le_of_ble_eq_true rfl) dL_law_244 (fun q1 iq1 jq1 H locs h w => ?_) ⟨by show _ ≤ 600000; omega, by show _ ≤ 7302250; omega⟩
  refine lv_aload_n hx hb dL_law_247 rfl (lv_at hl 2 rfl) ?_
  refine jcVA_i (k := 37) (As := []) (rest := [.int q1]) C0 w (c_X12_town w.2 h1 h) (cwV 0 hts gL_law_X12_town rfl rfl rfl (by decide +kernel) ⟨Nat.le_of_ble_eq_true rfl, Nat.le_of_ble_eq_true rfl⟩) h1 (rfl : vwCl[11]? = some (RX12, TX12, 51)) (by decide) rfl hl.1 rfl (Nat.le_of_ble_eq_true rfl) dL_law_248 (fun q2 iq2 jq2 H locs h w => ?_) ⟨by show _ ≤ 600000; omega, by show _ ≤ 7302250; omega⟩
  refine lv_icmp_eq (tgt := 1032) hx hb dL_law_251 (by decide) (fun hc => ?_) (fun hc => ?_)
  · exact kk w h.2
  · exact absurd h.1 hc
def Lw_4 (Inv : jS → Prop) (g : jS) (y1 : Int32) (y2 : Int32) : Prop := J_X11_street (gl g) (gr g) (fun q i1 j1 => J_X12_street (gl g) (gr g) (fun q2 i2 j2 => q = q2 ∧ Inv (gsi g i2 j2)) i1 j1 37 y1 y2) (gi g) (gj g) 0 y1 y2
set_option maxHeartbeats 4000000 in
set_option maxRecDepth 100000 in
theorem law_c4 {p : Program} {l : Launch} {e : Env} {s : State} {m : MethodId} {below : List Frame} {meth : Method} {c : Code} {b tU a0 L : Nat} {cy : Nat → ClassId} {D : va_G} {xs : Nat → Int32} {Q : State → Prop} {Inv : jS → Prop} {H : Heap} {locs : List Loc} {ls : Array Slot} {g : jS} {x3 : Int32} {c1 s1 : Nat} (C0 : jCA p s m #[Value.ref a0] c cL_law 4 wsL_law RL b cy D tU) (hX : va_X a0 L xs s s.heap) (hbl : a0 < s.heap.size) (hbA : ¬ jA b a0) (w : jDA b cy D g s H locs) (h0 : 0 < gN g ∧ gK g 0 = 10) (h1 : 37 < gN g ∧ gK g 37 = 11) (hin : vp_in (x3 + 1) L ∧ vp_in (x3 + 2) L ∧ vp_in (x3 + 3) L ∧ vp_in (x3 + 4) L) (hl : lv_has ls 4 [(0, .ref a0), (1, .ref (b + 0)), (2, .ref (b + 37)), (3, .int x3)]) (hc1 : c1 ≤ 600000 ∧ s1 ≤ 7302250) (h : Lw_4 Inv g (xs (x3 + 1).toNatClampNeg) (xs (x3 + 2).toNatClampNeg)) (kk : ∀ {H : Heap} {locs : List Loc} {i : jI} {j : jL}, jDA b cy D (gsi g i j) s H locs → Inv (gsi g i j) → W p l e room_1 s m #[Value.ref a0] below meth c H locs c1 s1 Q (F0 m 1032 ls [])) : W p l e room_1 s m #[Value.ref a0] below meth c H locs c1 s1 Q (F0 m 256 ls []) := by
  obtain ⟨hx, hb, hml, hown, hts, hst⟩ := id C0
  obtain ⟨hc1, hs1⟩ := hc1
  rw [Lw_4] at h
  refine lv_aload_n hx hb dL_law_256 rfl (lv_at hl 1 rfl) ?_
  refine lv_aload_n hx hb dL_law_257 rfl (lv_at hl 0 rfl) ?_
  refine lv_iload_n hx hb dL_law_258 rfl (lv_at hl 3 rfl) ?_
  refine lv_iconst (v := (1 : Int32)) hx hb dL_law_259 (by decide) ?_
  refine lv_iadd hx hb dL_law_260 ?_
  refine va_sld hx hb hX hbl hbA w.1.2.2 hin.1 dL_law_261 ?_
  refine lv_aload_n hx hb dL_law_262 rfl (lv_at hl 0 rfl) ?_
  refine lv_iload_n hx hb dL_law_263 rfl (lv_at hl 3 rfl) ?_
  refine lv_iconst (v := (2 : Int32)) hx hb dL_law_264 (by decide) ?_
  refine lv_iadd hx hb dL_law_265 ?_
  refine va_sld hx hb hX hbl hbA w.1.2.2 hin.2.1 dL_law_266 ?_
  refine jcVA_i (k := 0) (As := [.int (xs (x3 + 1).toNatClampNeg), .int (xs (x3 + 2).toNatClampNeg)]) (rest := []) C0 w (c_X11_street w.2 h0 h) (cwV 2 hts gL_law_X11_street rfl rfl rfl (by decide +kernel) ⟨Nat.le_of_ble_eq_true rfl, Nat.le_of_ble_eq_true rfl⟩) h0 (rfl : vwCl[10]? = some (RX11, TX11, 15)) (by decide) rfl hl.1 rfl (Nat.le_of_ble_eq_true rfl) dL_law_267 (fun q1 iq1 jq1 H locs h w => ?_) ⟨by show _ ≤ 600000; omega, by show _ ≤ 7302250; omega⟩
  refine lv_aload_n hx hb dL_law_270 rfl (lv_at hl 2 rfl) ?_
  refine lv_aload_n hx hb dL_law_271 rfl (lv_at hl 0 rfl) ?_
  refine lv_iload_n hx hb dL_law_272 rfl (lv_at hl 3 rfl) ?_
  refine lv_iconst (v := (1 : Int32)) hx hb dL_law_273 (by decide) ?_
  refine lv_iadd hx hb dL_law_274 ?_
  refine va_sld hx hb hX hbl hbA w.1.2.2 hin.1 dL_law_275 ?_
  refine lv_aload_n hx hb dL_law_276 rfl (lv_at hl 0 rfl) ?_
  refine lv_iload_n hx hb dL_law_277 rfl (lv_at hl 3 rfl) ?_
  refine lv_iconst (v := (2 : Int32)) hx hb dL_law_278 (by decide) ?_
  refine lv_iadd hx hb dL_law_279 ?_
  refine va_sld hx hb hX hbl hbA w.1.2.2 hin.2.1 dL_law_280 ?_
  refine jcVA_i (k := 37) (As := [.int (xs (x3 + 1).toNatClampNeg), .int (xs (x3 + 2).toNatClampNeg)]) (rest := [.int q1]) C0 w (c_X12_street w.2 h1 h) (cwV 2 hts gL_law_X12_street rfl rfl rfl (by decide +kernel) ⟨Nat.le_of_ble_eq_true rfl, Nat.le_of_ble_eq_true rfl⟩) h1 (rfl : vwCl[11]? = some (RX12, TX12, 51)) (by decide) rfl hl.1 rfl (Nat.le_of_ble_eq_true rfl) dL_law_281 (fun q2 iq2 jq2 H locs h w => ?_) ⟨by show _ ≤ 600000; omega, by show _ ≤ 7302250; omega⟩
  refine lv_icmp_eq (tgt := 1032) hx hb dL_law_284 (by decide) (fun hc => ?_) (fun hc => ?_)
  · exact kk w h.2
  · exact absurd h.1 hc
def Lw_5 (Inv : jS → Prop) (g : jS) (y1 : Int32) (y2 : Int32) : Prop := J_X11_repave (gl g) (gr g) (fun q i1 j1 => J_X12_repave (gl g) (gr g) (fun q2 i2 j2 => q = q2 ∧ Inv (gsi g i2 j2)) i1 j1 37 y1 y2) (gi g) (gj g) 0 y1 y2
set_option maxHeartbeats 4000000 in
set_option maxRecDepth 100000 in
theorem law_c5 {p : Program} {l : Launch} {e : Env} {s : State} {m : MethodId} {below : List Frame} {meth : Method} {c : Code} {b tU a0 L : Nat} {cy : Nat → ClassId} {D : va_G} {xs : Nat → Int32} {Q : State → Prop} {Inv : jS → Prop} {H : Heap} {locs : List Loc} {ls : Array Slot} {g : jS} {x3 : Int32} {c1 s1 : Nat} (C0 : jCA p s m #[Value.ref a0] c cL_law 4 wsL_law RL b cy D tU) (hX : va_X a0 L xs s s.heap) (hbl : a0 < s.heap.size) (hbA : ¬ jA b a0) (w : jDA b cy D g s H locs) (h0 : 0 < gN g ∧ gK g 0 = 10) (h1 : 37 < gN g ∧ gK g 37 = 11) (hin : vp_in (x3 + 1) L ∧ vp_in (x3 + 2) L ∧ vp_in (x3 + 3) L ∧ vp_in (x3 + 4) L) (hl : lv_has ls 4 [(0, .ref a0), (1, .ref (b + 0)), (2, .ref (b + 37)), (3, .int x3)]) (hc1 : c1 ≤ 600000 ∧ s1 ≤ 7302250) (h : Lw_5 Inv g (xs (x3 + 1).toNatClampNeg) (xs (x3 + 2).toNatClampNeg)) (kk : ∀ {H : Heap} {locs : List Loc} {i : jI} {j : jL}, jDA b cy D (gsi g i j) s H locs → Inv (gsi g i j) → W p l e room_1 s m #[Value.ref a0] below meth c H locs c1 s1 Q (F0 m 1032 ls [])) : W p l e room_1 s m #[Value.ref a0] below meth c H locs c1 s1 Q (F0 m 289 ls []) := by
  obtain ⟨hx, hb, hml, hown, hts, hst⟩ := id C0
  obtain ⟨hc1, hs1⟩ := hc1
  rw [Lw_5] at h
  refine lv_aload_n hx hb dL_law_289 rfl (lv_at hl 1 rfl) ?_
  refine lv_aload_n hx hb dL_law_290 rfl (lv_at hl 0 rfl) ?_
  refine lv_iload_n hx hb dL_law_291 rfl (lv_at hl 3 rfl) ?_
  refine lv_iconst (v := (1 : Int32)) hx hb dL_law_292 (by decide) ?_
  refine lv_iadd hx hb dL_law_293 ?_
  refine va_sld hx hb hX hbl hbA w.1.2.2 hin.1 dL_law_294 ?_
  refine lv_aload_n hx hb dL_law_295 rfl (lv_at hl 0 rfl) ?_
  refine lv_iload_n hx hb dL_law_296 rfl (lv_at hl 3 rfl) ?_
  refine lv_iconst (v := (2 : Int32)) hx hb dL_law_297 (by decide) ?_
  refine lv_iadd hx hb dL_law_298 ?_
  refine va_sld hx hb hX hbl hbA w.1.2.2 hin.2.1 dL_law_299 ?_
  refine jcVA_i (k := 0) (As := [.int (xs (x3 + 1).toNatClampNeg), .int (xs (x3 + 2).toNatClampNeg)]) (rest := []) C0 w (c_X11_repave w.2 h0 h) (cwV 2 hts gL_law_X11_repave rfl rfl rfl (by decide +kernel) ⟨Nat.le_of_ble_eq_true rfl, Nat.le_of_ble_eq_true rfl⟩) h0 (rfl : vwCl[10]? = some (RX11, TX11, 15)) (by decide) rfl hl.1 rfl (Nat.le_of_ble_eq_true rfl) dL_law_300 (fun q1 iq1 jq1 H locs h w => ?_) ⟨by show _ ≤ 600000; omega, by show _ ≤ 7302250; omega⟩
  refine lv_aload_n hx hb dL_law_303 rfl (lv_at hl 2 rfl) ?_
  refine lv_aload_n hx hb dL_law_304 rfl (lv_at hl 0 rfl) ?_
  refine lv_iload_n hx hb dL_law_305 rfl (lv_at hl 3 rfl) ?_
  refine lv_iconst (v := (1 : Int32)) hx hb dL_law_306 (by decide) ?_
  refine lv_iadd hx hb dL_law_307 ?_
  refine va_sld hx hb hX hbl hbA w.1.2.2 hin.1 dL_law_308 ?_
  refine lv_aload_n hx hb dL_law_309 rfl (lv_at hl 0 rfl) ?_
  refine lv_iload_n hx hb dL_law_310 rfl (lv_at hl 3 rfl) ?_
  refine lv_iconst (v := (2 : Int32)) hx hb dL_law_311 (by decide) ?_
  refine lv_iadd hx hb dL_law_312 ?_
  refine va_sld hx hb hX hbl hbA w.1.2.2 hin.2.1 dL_law_313 ?_
  refine jcVA_i (k := 37) (As := [.int (xs (x3 + 1).toNatClampNeg), .int (xs (x3 + 2).toNatClampNeg)]) (rest := [.int q1]) C0 w (c_X12_repave w.2 h1 h) (cwV 2 hts gL_law_X12_repave rfl rfl rfl (by decide +kernel) ⟨Nat.le_of_ble_eq_true rfl, Nat.le_of_ble_eq_true rfl⟩) h1 (rfl : vwCl[11]? = some (RX12, TX12, 51)) (by decide) rfl hl.1 rfl (Nat.le_of_ble_eq_true rfl) dL_law_314 (fun q2 iq2 jq2 H locs h w => ?_) ⟨by show _ ≤ 600000; omega, by show _ ≤ 7302250; omega⟩
  refine lv_icmp_eq (tgt := 1032) hx hb dL_law_317 (by decide) (fun hc => ?_) (fun hc => ?_)
  · exact kk w h.2
  · exact absurd h.1 hc
def Lw_6 (Inv : jS → Prop) (g : jS) (y1 : Int32) (y2 : Int32) (y3 : Int32) : Prop := J_X11_walker (gl g) (gr g) (fun q i1 j1 => J_X12_walker (gl g) (gr g) (fun q2 i2 j2 => q = q2 ∧ Inv (gsi g i2 j2)) i1 j1 37 y1 y2 y3) (gi g) (gj g) 0 y1 y2 y3
set_option maxHeartbeats 4000000 in
set_option maxRecDepth 100000 in
theorem law_c6 {p : Program} {l : Launch} {e : Env} {s : State} {m : MethodId} {below : List Frame} {meth : Method} {c : Code} {b tU a0 L : Nat} {cy : Nat → ClassId} {D : va_G} {xs : Nat → Int32} {Q : State → Prop} {Inv : jS → Prop} {H : Heap} {locs : List Loc} {ls : Array Slot} {g : jS} {x3 : Int32} {c1 s1 : Nat} (C0 : jCA p s m #[Value.ref a0] c cL_law 4 wsL_law RL b cy D tU) (hX : va_X a0 L xs s s.heap) (hbl : a0 < s.heap.size) (hbA : ¬ jA b a0) (w : jDA b cy D g s H locs) (h0 : 0 < gN g ∧ gK g 0 = 10) (h1 : 37 < gN g ∧ gK g 37 = 11) (hin : vp_in (x3 + 1) L ∧ vp_in (x3 + 2) L ∧ vp_in (x3 + 3) L ∧ vp_in (x3 + 4) L) (hl : lv_has ls 4 [(0, .ref a0), (1, .ref (b + 0)), (2, .ref (b + 37)), (3, .int x3)]) (hc1 : c1 ≤ 600000 ∧ s1 ≤ 7302250) (h : Lw_6 Inv g (xs (x3 + 1).toNatClampNeg) (xs (x3 + 2).toNatClampNeg) (xs (x3 + 3).toNatClampNeg)) (kk : ∀ {H : Heap} {locs : List Loc} {i : jI} {j : jL}, jDA b cy D (gsi g i j) s H locs → Inv (gsi g i j) → W p l e room_1 s m #[Value.ref a0] below meth c H locs c1 s1 Q (F0 m 1032 ls [])) : W p l e room_1 s m #[Value.ref a0] below meth c H locs c1 s1 Q (F0 m 322 ls []) := by
  obtain ⟨hx, hb, hml, hown, hts, hst⟩ := id C0
  obtain ⟨hc1, hs1⟩ := hc1
  rw [Lw_6] at h
  refine lv_aload_n hx hb dL_law_322 rfl (lv_at hl 1 rfl) ?_
  refine lv_aload_n hx hb dL_law_323 rfl (lv_at hl 0 rfl) ?_
  refine lv_iload_n hx hb dL_law_324 rfl (lv_at hl 3 rfl) ?_
  refine lv_iconst (v := (1 : Int32)) hx hb dL_law_325 (by decide) ?_
  refine lv_iadd hx hb dL_law_326 ?_
  refine va_sld hx hb hX hbl hbA w.1.2.2 hin.1 dL_law_327 ?_
  refine lv_aload_n hx hb dL_law_328 rfl (lv_at hl 0 rfl) ?_
  refine lv_iload_n hx hb dL_law_329 rfl (lv_at hl 3 rfl) ?_
  refine lv_iconst (v := (2 : Int32)) hx hb dL_law_330 (by decide) ?_
  refine lv_iadd hx hb dL_law_331 ?_
  refine va_sld hx hb hX hbl hbA w.1.2.2 hin.2.1 dL_law_332 ?_
  refine lv_aload_n hx hb dL_law_333 rfl (lv_at hl 0 rfl) ?_
  refine lv_iload_n hx hb dL_law_334 rfl (lv_at hl 3 rfl) ?_
  refine lv_iconst (v := (3 : Int32)) hx hb dL_law_335 (by decide) ?_
  refine lv_iadd hx hb dL_law_336 ?_
  refine va_sld hx hb hX hbl hbA w.1.2.2 hin.2.2.1 dL_law_337 ?_
  refine jcVA_i (k := 0) (As := [.int (xs (x3 + 1).toNatClampNeg), .int (xs (x3 + 2).toNatClampNeg), .int (xs (x3 + 3).toNatClampNeg)]) (rest := []) C0 w (c_X11_walker w.2 h0 h) (cwV 3 hts gL_law_X11_walker rfl rfl rfl (by decide +kernel) ⟨Nat.le_of_ble_eq_true rfl, Nat.le_of_ble_eq_true rfl⟩) h0 (rfl : vwCl[10]? = some (RX11, TX11, 15)) (by decide) rfl hl.1 rfl (Nat.le_of_ble_eq_true rfl) dL_law_338 (fun q1 iq1 jq1 H locs h w => ?_) ⟨by show _ ≤ 600000; omega, by show _ ≤ 7302250; omega⟩
  refine lv_aload_n hx hb dL_law_341 rfl (lv_at hl 2 rfl) ?_
  refine lv_aload_n hx hb dL_law_342 rfl (lv_at hl 0 rfl) ?_
  refine lv_iload_n hx hb dL_law_343 rfl (lv_at hl 3 rfl) ?_
  refine lv_iconst (v := (1 : Int32)) hx hb dL_law_344 (by decide) ?_
  refine lv_iadd hx hb dL_law_345 ?_
  refine va_sld hx hb hX hbl hbA w.1.2.2 hin.1 dL_law_346 ?_
  refine lv_aload_n hx hb dL_law_347 rfl (lv_at hl 0 rfl) ?_
  refine lv_iload_n hx hb dL_law_348 rfl (lv_at hl 3 rfl) ?_
  refine lv_iconst (v := (2 : Int32)) hx hb dL_law_349 (by decide) ?_
  refine lv_iadd hx hb dL_law_350 ?_
  refine va_sld hx hb hX hbl hbA w.1.2.2 hin.2.1 dL_law_351 ?_
  refine lv_aload_n hx hb dL_law_352 rfl (lv_at hl 0 rfl) ?_
  refine lv_iload_n hx hb dL_law_353 rfl (lv_at hl 3 rfl) ?_
  refine lv_iconst (v := (3 : Int32)) hx hb dL_law_354 (by decide) ?_
  refine lv_iadd hx hb dL_law_355 ?_
  refine va_sld hx hb hX hbl hbA w.1.2.2 hin.2.2.1 dL_law_356 ?_
  refine jcVA_i (k := 37) (As := [.int (xs (x3 + 1).toNatClampNeg), .int (xs (x3 + 2).toNatClampNeg), .int (xs (x3 + 3).toNatClampNeg)]) (rest := [.int q1]) C0 w (c_X12_walker w.2 h1 h) (cwV 3 hts gL_law_X12_walker rfl rfl rfl (by decide +kernel) ⟨Nat.le_of_ble_eq_true rfl, Nat.le_of_ble_eq_true rfl⟩) h1 (rfl : vwCl[11]? = some (RX12, TX12, 51)) (by decide) rfl hl.1 rfl (Nat.le_of_ble_eq_true rfl) dL_law_357 (fun q2 iq2 jq2 H locs h w => ?_) ⟨by show _ ≤ 600000; omega, by show _ ≤ 7302250; omega⟩
  refine lv_icmp_eq (tgt := 1032) hx hb dL_law_360 (by decide) (fun hc => ?_) (fun hc => ?_)
  · exact kk w h.2
  · exact absurd h.1 hc
def Lw_7 (Inv : jS → Prop) (g : jS) (y1 : Int32) (y2 : Int32) : Prop := J_X11_about (gl g) (gr g) (fun q i1 j1 => J_X12_about (gl g) (gr g) (fun q2 i2 j2 => q = q2 ∧ Inv (gsi g i2 j2)) i1 j1 37 y1 y2) (gi g) (gj g) 0 y1 y2
set_option maxHeartbeats 4000000 in
set_option maxRecDepth 100000 in
theorem law_c7 {p : Program} {l : Launch} {e : Env} {s : State} {m : MethodId} {below : List Frame} {meth : Method} {c : Code} {b tU a0 L : Nat} {cy : Nat → ClassId} {D : va_G} {xs : Nat → Int32} {Q : State → Prop} {Inv : jS → Prop} {H : Heap} {locs : List Loc} {ls : Array Slot} {g : jS} {x3 : Int32} {c1 s1 : Nat} (C0 : jCA p s m #[Value.ref a0] c cL_law 4 wsL_law RL b cy D tU) (hX : va_X a0 L xs s s.heap) (hbl : a0 < s.heap.size) (hbA : ¬ jA b a0) (w : jDA b cy D g s H locs) (h0 : 0 < gN g ∧ gK g 0 = 10) (h1 : 37 < gN g ∧ gK g 37 = 11) (hin : vp_in (x3 + 1) L ∧ vp_in (x3 + 2) L ∧ vp_in (x3 + 3) L ∧ vp_in (x3 + 4) L) (hl : lv_has ls 4 [(0, .ref a0), (1, .ref (b + 0)), (2, .ref (b + 37)), (3, .int x3)]) (hc1 : c1 ≤ 600000 ∧ s1 ≤ 7302250) (h : Lw_7 Inv g (xs (x3 + 1).toNatClampNeg) (xs (x3 + 2).toNatClampNeg)) (kk : ∀ {H : Heap} {locs : List Loc} {i : jI} {j : jL}, jDA b cy D (gsi g i j) s H locs → Inv (gsi g i j) → W p l e room_1 s m #[Value.ref a0] below meth c H locs c1 s1 Q (F0 m 1032 ls [])) : W p l e room_1 s m #[Value.ref a0] below meth c H locs c1 s1 Q (F0 m 365 ls []) := by
  obtain ⟨hx, hb, hml, hown, hts, hst⟩ := id C0
  obtain ⟨hc1, hs1⟩ := hc1
  rw [Lw_7] at h
  refine lv_aload_n hx hb dL_law_365 rfl (lv_at hl 1 rfl) ?_
  refine lv_aload_n hx hb dL_law_366 rfl (lv_at hl 0 rfl) ?_
  refine lv_iload_n hx hb dL_law_367 rfl (lv_at hl 3 rfl) ?_
  refine lv_iconst (v := (1 : Int32)) hx hb dL_law_368 (by decide) ?_
  refine lv_iadd hx hb dL_law_369 ?_
  refine va_sld hx hb hX hbl hbA w.1.2.2 hin.1 dL_law_370 ?_
  refine lv_aload_n hx hb dL_law_371 rfl (lv_at hl 0 rfl) ?_
  refine lv_iload_n hx hb dL_law_372 rfl (lv_at hl 3 rfl) ?_
  refine lv_iconst (v := (2 : Int32)) hx hb dL_law_373 (by decide) ?_
  refine lv_iadd hx hb dL_law_374 ?_
  refine va_sld hx hb hX hbl hbA w.1.2.2 hin.2.1 dL_law_375 ?_
  refine jcVA_i (k := 0) (As := [.int (xs (x3 + 1).toNatClampNeg), .int (xs (x3 + 2).toNatClampNeg)]) (rest := []) C0 w (c_X11_about w.2 h0 h) (cwV 2 hts gL_law_X11_about rfl rfl rfl (by decide +kernel) ⟨Nat.le_of_ble_eq_true rfl, Nat.le_of_ble_eq_true rfl⟩) h0 (rfl : vwCl[10]? = some (RX11, TX11, 15)) (by decide) rfl hl.1 rfl (Nat.le_of_ble_eq_true rfl) dL_law_376 (fun q1 iq1 jq1 H locs h w => ?_) ⟨by show _ ≤ 600000; omega, by show _ ≤ 7302250; omega⟩
  refine lv_aload_n hx hb dL_law_379 rfl (lv_at hl 2 rfl) ?_
  refine lv_aload_n hx hb dL_law_380 rfl (lv_at hl 0 rfl) ?_
  refine lv_iload_n hx hb dL_law_381 rfl (lv_at hl 3 rfl) ?_
  refine lv_iconst (v := (1 : Int32)) hx hb dL_law_382 (by decide) ?_
  refine lv_iadd hx hb dL_law_383 ?_
  refine va_sld hx hb hX hbl hbA w.1.2.2 hin.1 dL_law_384 ?_
  refine lv_aload_n hx hb dL_law_385 rfl (lv_at hl 0 rfl) ?_
  refine lv_iload_n hx hb dL_law_386 rfl (lv_at hl 3 rfl) ?_
  refine lv_iconst (v := (2 : Int32)) hx hb dL_law_387 (by decide) ?_
  refine lv_iadd hx hb dL_law_388 ?_
  refine va_sld hx hb hX hbl hbA w.1.2.2 hin.2.1 dL_law_389 ?_
  refine jcVA_i (k := 37) (As := [.int (xs (x3 + 1).toNatClampNeg), .int (xs (x3 + 2).toNatClampNeg)]) (rest := [.int q1]) C0 w (c_X12_about w.2 h1 h) (cwV 2 hts gL_law_X12_about rfl rfl rfl (by decide +kernel) ⟨Nat.le_of_ble_eq_true rfl, Nat.le_of_ble_eq_true rfl⟩) h1 (rfl : vwCl[11]? = some (RX12, TX12, 51)) (by decide) rfl hl.1 rfl (Nat.le_of_ble_eq_true rfl) dL_law_390 (fun q2 iq2 jq2 H locs h w => ?_) ⟨by show _ ≤ 600000; omega, by show _ ≤ 7302250; omega⟩
  refine lv_icmp_eq (tgt := 1032) hx hb dL_law_393 (by decide) (fun hc => ?_) (fun hc => ?_)
  · exact kk w h.2
  · exact absurd h.1 hc
def Lw_8 (Inv : jS → Prop) (g : jS) (y1 : Int32) (y2 : Int32) : Prop := J_X11_as (gl g) (gr g) (fun q i1 j1 => J_X12_as (gl g) (gr g) (fun q2 i2 j2 => q = q2 ∧ Inv (gsi g i2 j2)) i1 j1 37 y1 y2) (gi g) (gj g) 0 y1 y2
set_option maxHeartbeats 4000000 in
set_option maxRecDepth 100000 in
theorem law_c8 {p : Program} {l : Launch} {e : Env} {s : State} {m : MethodId} {below : List Frame} {meth : Method} {c : Code} {b tU a0 L : Nat} {cy : Nat → ClassId} {D : va_G} {xs : Nat → Int32} {Q : State → Prop} {Inv : jS → Prop} {H : Heap} {locs : List Loc} {ls : Array Slot} {g : jS} {x3 : Int32} {c1 s1 : Nat} (C0 : jCA p s m #[Value.ref a0] c cL_law 4 wsL_law RL b cy D tU) (hX : va_X a0 L xs s s.heap) (hbl : a0 < s.heap.size) (hbA : ¬ jA b a0) (w : jDA b cy D g s H locs) (h0 : 0 < gN g ∧ gK g 0 = 10) (h1 : 37 < gN g ∧ gK g 37 = 11) (hin : vp_in (x3 + 1) L ∧ vp_in (x3 + 2) L ∧ vp_in (x3 + 3) L ∧ vp_in (x3 + 4) L) (hl : lv_has ls 4 [(0, .ref a0), (1, .ref (b + 0)), (2, .ref (b + 37)), (3, .int x3)]) (hc1 : c1 ≤ 600000 ∧ s1 ≤ 7302250) (h : Lw_8 Inv g (xs (x3 + 1).toNatClampNeg) (xs (x3 + 2).toNatClampNeg)) (kk : ∀ {H : Heap} {locs : List Loc} {i : jI} {j : jL}, jDA b cy D (gsi g i j) s H locs → Inv (gsi g i j) → W p l e room_1 s m #[Value.ref a0] below meth c H locs c1 s1 Q (F0 m 1032 ls [])) : W p l e room_1 s m #[Value.ref a0] below meth c H locs c1 s1 Q (F0 m 398 ls []) := by
  obtain ⟨hx, hb, hml, hown, hts, hst⟩ := id C0
  obtain ⟨hc1, hs1⟩ := hc1
  rw [Lw_8] at h
  refine lv_aload_n hx hb dL_law_398 rfl (lv_at hl 1 rfl) ?_
  refine lv_aload_n hx hb dL_law_399 rfl (lv_at hl 0 rfl) ?_
  refine lv_iload_n hx hb dL_law_400 rfl (lv_at hl 3 rfl) ?_
  refine lv_iconst (v := (1 : Int32)) hx hb dL_law_401 (by decide) ?_
  refine lv_iadd hx hb dL_law_402 ?_
  refine va_sld hx hb hX hbl hbA w.1.2.2 hin.1 dL_law_403 ?_
  refine lv_aload_n hx hb dL_law_404 rfl (lv_at hl 0 rfl) ?_
  refine lv_iload_n hx hb dL_law_405 rfl (lv_at hl 3 rfl) ?_
  refine lv_iconst (v := (2 : Int32)) hx hb dL_law_406 (by decide) ?_
  refine lv_iadd hx hb dL_law_407 ?_
  refine va_sld hx hb hX hbl hbA w.1.2.2 hin.2.1 dL_law_408 ?_
  refine jcVA_i (k := 0) (As := [.int (xs (x3 + 1).toNatClampNeg), .int (xs (x3 + 2).toNatClampNeg)]) (rest := []) C0 w (c_X11_as w.2 h0 h) (cwV 2 hts gL_law_X11_as rfl rfl rfl (by decide +kernel) ⟨Nat.le_of_ble_eq_true rfl, Nat.le_of_ble_eq_true rfl⟩) h0 (rfl : vwCl[10]? = some (RX11, TX11, 15)) (by decide) rfl hl.1 rfl (Nat.le_of_ble_eq_true rfl) dL_law_409 (fun q1 iq1 jq1 H locs h w => ?_) ⟨by show _ ≤ 600000; omega, by show _ ≤ 7302250; omega⟩
  refine lv_aload_n hx hb dL_law_412 rfl (lv_at hl 2 rfl) ?_
  refine lv_aload_n hx hb dL_law_413 rfl (lv_at hl 0 rfl) ?_
  refine lv_iload_n hx hb dL_law_414 rfl (lv_at hl 3 rfl) ?_
  refine lv_iconst (v := (1 : Int32)) hx hb dL_law_415 (by decide) ?_
  refine lv_iadd hx hb dL_law_416 ?_
  refine va_sld hx hb hX hbl hbA w.1.2.2 hin.1 dL_law_417 ?_
  refine lv_aload_n hx hb dL_law_418 rfl (lv_at hl 0 rfl) ?_
  refine lv_iload_n hx hb dL_law_419 rfl (lv_at hl 3 rfl) ?_
  refine lv_iconst (v := (2 : Int32)) hx hb dL_law_420 (by decide) ?_
  refine lv_iadd hx hb dL_law_421 ?_
  refine va_sld hx hb hX hbl hbA w.1.2.2 hin.2.1 dL_law_422 ?_
  refine jcVA_i (k := 37) (As := [.int (xs (x3 + 1).toNatClampNeg), .int (xs (x3 + 2).toNatClampNeg)]) (rest := [.int q1]) C0 w (c_X12_as w.2 h1 h) (cwV 2 hts gL_law_X12_as rfl rfl rfl (by decide +kernel) ⟨Nat.le_of_ble_eq_true rfl, Nat.le_of_ble_eq_true rfl⟩) h1 (rfl : vwCl[11]? = some (RX12, TX12, 51)) (by decide) rfl hl.1 rfl (Nat.le_of_ble_eq_true rfl) dL_law_423 (fun q2 iq2 jq2 H locs h w => ?_) ⟨by show _ ≤ 600000; omega, by show _ ≤ 7302250; omega⟩
  refine lv_icmp_eq (tgt := 1032) hx hb dL_law_426 (by decide) (fun hc => ?_) (fun hc => ?_)
  · exact kk w h.2
  · exact absurd h.1 hc
def Lw_9 (Inv : jS → Prop) (g : jS) (y1 : Int32) (y2 : Int32) : Prop := J_X11_steps (gl g) (gr g) (fun q i1 j1 => J_X12_steps (gl g) (gr g) (fun q2 i2 j2 => q = q2 ∧ Inv (gsi g i2 j2)) i1 j1 37 y1 y2) (gi g) (gj g) 0 y1 y2
set_option maxHeartbeats 4000000 in
set_option maxRecDepth 100000 in
theorem law_c9 {p : Program} {l : Launch} {e : Env} {s : State} {m : MethodId} {below : List Frame} {meth : Method} {c : Code} {b tU a0 L : Nat} {cy : Nat → ClassId} {D : va_G} {xs : Nat → Int32} {Q : State → Prop} {Inv : jS → Prop} {H : Heap} {locs : List Loc} {ls : Array Slot} {g : jS} {x3 : Int32} {c1 s1 : Nat} (C0 : jCA p s m #[Value.ref a0] c cL_law 4 wsL_law RL b cy D tU) (hX : va_X a0 L xs s s.heap) (hbl : a0 < s.heap.size) (hbA : ¬ jA b a0) (w : jDA b cy D g s H locs) (h0 : 0 < gN g ∧ gK g 0 = 10) (h1 : 37 < gN g ∧ gK g 37 = 11) (hin : vp_in (x3 + 1) L ∧ vp_in (x3 + 2) L ∧ vp_in (x3 + 3) L ∧ vp_in (x3 + 4) L) (hl : lv_has ls 4 [(0, .ref a0), (1, .ref (b + 0)), (2, .ref (b + 37)), (3, .int x3)]) (hc1 : c1 ≤ 600000 ∧ s1 ≤ 7302250) (h : Lw_9 Inv g (xs (x3 + 1).toNatClampNeg) (xs (x3 + 2).toNatClampNeg)) (kk : ∀ {H : Heap} {locs : List Loc} {i : jI} {j : jL}, jDA b cy D (gsi g i j) s H locs → Inv (gsi g i j) → W p l e room_1 s m #[Value.ref a0] below meth c H locs c1 s1 Q (F0 m 1032 ls [])) : W p l e room_1 s m #[Value.ref a0] below meth c H locs c1 s1 Q (F0 m 431 ls []) := by
  obtain ⟨hx, hb, hml, hown, hts, hst⟩ := id C0
  obtain ⟨hc1, hs1⟩ := hc1
  rw [Lw_9] at h
  refine lv_aload_n hx hb dL_law_431 rfl (lv_at hl 1 rfl) ?_
  refine lv_aload_n hx hb dL_law_432 rfl (lv_at hl 0 rfl) ?_
  refine lv_iload_n hx hb dL_law_433 rfl (lv_at hl 3 rfl) ?_
  refine lv_iconst (v := (1 : Int32)) hx hb dL_law_434 (by decide) ?_
  refine lv_iadd hx hb dL_law_435 ?_
  refine va_sld hx hb hX hbl hbA w.1.2.2 hin.1 dL_law_436 ?_
  refine lv_aload_n hx hb dL_law_437 rfl (lv_at hl 0 rfl) ?_
  refine lv_iload_n hx hb dL_law_438 rfl (lv_at hl 3 rfl) ?_
  refine lv_iconst (v := (2 : Int32)) hx hb dL_law_439 (by decide) ?_
  refine lv_iadd hx hb dL_law_440 ?_
  refine va_sld hx hb hX hbl hbA w.1.2.2 hin.2.1 dL_law_441 ?_
  refine jcVA_i (k := 0) (As := [.int (xs (x3 + 1).toNatClampNeg), .int (xs (x3 + 2).toNatClampNeg)]) (rest := []) C0 w (c_X11_steps w.2 h0 h) (cwV 2 hts gL_law_X11_steps rfl rfl rfl (by decide +kernel) ⟨Nat.le_of_ble_eq_true rfl, Nat.le_of_ble_eq_true rfl⟩) h0 (rfl : vwCl[10]? = some (RX11, TX11, 15)) (by decide) rfl hl.1 rfl (Nat.le_of_ble_eq_true rfl) dL_law_442 (fun q1 iq1 jq1 H locs h w => ?_) ⟨by show _ ≤ 600000; omega, by show _ ≤ 7302250; omega⟩
  refine lv_aload_n hx hb dL_law_445 rfl (lv_at hl 2 rfl) ?_
  refine lv_aload_n hx hb dL_law_446 rfl (lv_at hl 0 rfl) ?_
  refine lv_iload_n hx hb dL_law_447 rfl (lv_at hl 3 rfl) ?_
  refine lv_iconst (v := (1 : Int32)) hx hb dL_law_448 (by decide) ?_
  refine lv_iadd hx hb dL_law_449 ?_
  refine va_sld hx hb hX hbl hbA w.1.2.2 hin.1 dL_law_450 ?_
  refine lv_aload_n hx hb dL_law_451 rfl (lv_at hl 0 rfl) ?_
  refine lv_iload_n hx hb dL_law_452 rfl (lv_at hl 3 rfl) ?_
  refine lv_iconst (v := (2 : Int32)) hx hb dL_law_453 (by decide) ?_
  refine lv_iadd hx hb dL_law_454 ?_
  refine va_sld hx hb hX hbl hbA w.1.2.2 hin.2.1 dL_law_455 ?_
  refine jcVA_i (k := 37) (As := [.int (xs (x3 + 1).toNatClampNeg), .int (xs (x3 + 2).toNatClampNeg)]) (rest := [.int q1]) C0 w (c_X12_steps w.2 h1 h) (cwV 2 hts gL_law_X12_steps rfl rfl rfl (by decide +kernel) ⟨Nat.le_of_ble_eq_true rfl, Nat.le_of_ble_eq_true rfl⟩) h1 (rfl : vwCl[11]? = some (RX12, TX12, 51)) (by decide) rfl hl.1 rfl (Nat.le_of_ble_eq_true rfl) dL_law_456 (fun q2 iq2 jq2 H locs h w => ?_) ⟨by show _ ≤ 600000; omega, by show _ ≤ 7302250; omega⟩
  refine lv_icmp_eq (tgt := 1032) hx hb dL_law_459 (by decide) (fun hc => ?_) (fun hc => ?_)
  · exact kk w h.2
  · exact absurd h.1 hc
def Lw_10 (Inv : jS → Prop) (g : jS) (y1 : Int32) (y2 : Int32) : Prop := J_X11_may (gl g) (gr g) (fun q i1 j1 => J_X12_may (gl g) (gr g) (fun q2 i2 j2 => q = q2 ∧ Inv (gsi g i2 j2)) i1 j1 37 y1 y2) (gi g) (gj g) 0 y1 y2
set_option maxHeartbeats 4000000 in
set_option maxRecDepth 100000 in
theorem law_c10 {p : Program} {l : Launch} {e : Env} {s : State} {m : MethodId} {below : List Frame} {meth : Method} {c : Code} {b tU a0 L : Nat} {cy : Nat → ClassId} {D : va_G} {xs : Nat → Int32} {Q : State → Prop} {Inv : jS → Prop} {H : Heap} {locs : List Loc} {ls : Array Slot} {g : jS} {x3 : Int32} {c1 s1 : Nat} (C0 : jCA p s m #[Value.ref a0] c cL_law 4 wsL_law RL b cy D tU) (hX : va_X a0 L xs s s.heap) (hbl : a0 < s.heap.size) (hbA : ¬ jA b a0) (w : jDA b cy D g s H locs) (h0 : 0 < gN g ∧ gK g 0 = 10) (h1 : 37 < gN g ∧ gK g 37 = 11) (hin : vp_in (x3 + 1) L ∧ vp_in (x3 + 2) L ∧ vp_in (x3 + 3) L ∧ vp_in (x3 + 4) L) (hl : lv_has ls 4 [(0, .ref a0), (1, .ref (b + 0)), (2, .ref (b + 37)), (3, .int x3)]) (hc1 : c1 ≤ 600000 ∧ s1 ≤ 7302250) (h : Lw_10 Inv g (xs (x3 + 1).toNatClampNeg) (xs (x3 + 2).toNatClampNeg)) (kk : ∀ {H : Heap} {locs : List Loc} {i : jI} {j : jL}, jDA b cy D (gsi g i j) s H locs → Inv (gsi g i j) → W p l e room_1 s m #[Value.ref a0] below meth c H locs c1 s1 Q (F0 m 1032 ls [])) : W p l e room_1 s m #[Value.ref a0] below meth c H locs c1 s1 Q (F0 m 464 ls []) := by
  obtain ⟨hx, hb, hml, hown, hts, hst⟩ := id C0
  obtain ⟨hc1, hs1⟩ := hc1
  rw [Lw_10] at h
  refine lv_aload_n hx hb dL_law_464 rfl (lv_at hl 1 rfl) ?_
  refine lv_aload_n hx hb dL_law_465 rfl (lv_at hl 0 rfl) ?_
  refine lv_iload_n hx hb dL_law_466 rfl (lv_at hl 3 rfl) ?_
  refine lv_iconst (v := (1 : Int32)) hx hb dL_law_467 (by decide) ?_
  refine lv_iadd hx hb dL_law_468 ?_
  refine va_sld hx hb hX hbl hbA w.1.2.2 hin.1 dL_law_469 ?_
  refine lv_aload_n hx hb dL_law_470 rfl (lv_at hl 0 rfl) ?_
  refine lv_iload_n hx hb dL_law_471 rfl (lv_at hl 3 rfl) ?_
  refine lv_iconst (v := (2 : Int32)) hx hb dL_law_472 (by decide) ?_
  refine lv_iadd hx hb dL_law_473 ?_
  refine va_sld hx hb hX hbl hbA w.1.2.2 hin.2.1 dL_law_474 ?_
  refine jcVA_i (k := 0) (As := [.int (xs (x3 + 1).toNatClampNeg), .int (xs (x3 + 2).toNatClampNeg)]) (rest := []) C0 w (c_X11_may w.2 h0 h) (cwV 2 hts gL_law_X11_may rfl rfl rfl (by decide +kernel) ⟨Nat.le_of_ble_eq_true rfl, Nat.le_of_ble_eq_true rfl⟩) h0 (rfl : vwCl[10]? = some (RX11, TX11, 15)) (by decide) rfl hl.1 rfl (Nat.le_of_ble_eq_true rfl) dL_law_475 (fun q1 iq1 jq1 H locs h w => ?_) ⟨by show _ ≤ 600000; omega, by show _ ≤ 7302250; omega⟩
  refine lv_aload_n hx hb dL_law_478 rfl (lv_at hl 2 rfl) ?_
  refine lv_aload_n hx hb dL_law_479 rfl (lv_at hl 0 rfl) ?_
  refine lv_iload_n hx hb dL_law_480 rfl (lv_at hl 3 rfl) ?_
  refine lv_iconst (v := (1 : Int32)) hx hb dL_law_481 (by decide) ?_
  refine lv_iadd hx hb dL_law_482 ?_
  refine va_sld hx hb hX hbl hbA w.1.2.2 hin.1 dL_law_483 ?_
  refine lv_aload_n hx hb dL_law_484 rfl (lv_at hl 0 rfl) ?_
  refine lv_iload_n hx hb dL_law_485 rfl (lv_at hl 3 rfl) ?_
  refine lv_iconst (v := (2 : Int32)) hx hb dL_law_486 (by decide) ?_
  refine lv_iadd hx hb dL_law_487 ?_
  refine va_sld hx hb hX hbl hbA w.1.2.2 hin.2.1 dL_law_488 ?_
  refine jcVA_i (k := 37) (As := [.int (xs (x3 + 1).toNatClampNeg), .int (xs (x3 + 2).toNatClampNeg)]) (rest := [.int q1]) C0 w (c_X12_may w.2 h1 h) (cwV 2 hts gL_law_X12_may rfl rfl rfl (by decide +kernel) ⟨Nat.le_of_ble_eq_true rfl, Nat.le_of_ble_eq_true rfl⟩) h1 (rfl : vwCl[11]? = some (RX12, TX12, 51)) (by decide) rfl hl.1 rfl (Nat.le_of_ble_eq_true rfl) dL_law_489 (fun q2 iq2 jq2 H locs h w => ?_) ⟨by show _ ≤ 600000; omega, by show _ ≤ 7302250; omega⟩
  refine lv_icmp_eq (tgt := 1032) hx hb dL_law_492 (by decide) (fun hc => ?_) (fun hc => ?_)
  · exact kk w h.2
  · exact absurd h.1 hc
def Lw_11 (Inv : jS → Prop) (g : jS) (y1 : Int32) (y2 : Int32) : Prop := J_X11_go (gl g) (gr g) (fun q i1 j1 => J_X12_go (gl g) (gr g) (fun q2 i2 j2 => q = q2 ∧ Inv (gsi g i2 j2)) i1 j1 37 y1 y2) (gi g) (gj g) 0 y1 y2
set_option maxHeartbeats 4000000 in
set_option maxRecDepth 100000 in
theorem law_c11 {p : Program} {l : Launch} {e : Env} {s : State} {m : MethodId} {below : List Frame} {meth : Method} {c : Code} {b tU a0 L : Nat} {cy : Nat → ClassId} {D : va_G} {xs : Nat → Int32} {Q : State → Prop} {Inv : jS → Prop} {H : Heap} {locs : List Loc} {ls : Array Slot} {g : jS} {x3 : Int32} {c1 s1 : Nat} (C0 : jCA p s m #[Value.ref a0] c cL_law 4 wsL_law RL b cy D tU) (hX : va_X a0 L xs s s.heap) (hbl : a0 < s.heap.size) (hbA : ¬ jA b a0) (w : jDA b cy D g s H locs) (h0 : 0 < gN g ∧ gK g 0 = 10) (h1 : 37 < gN g ∧ gK g 37 = 11) (hin : vp_in (x3 + 1) L ∧ vp_in (x3 + 2) L ∧ vp_in (x3 + 3) L ∧ vp_in (x3 + 4) L) (hl : lv_has ls 4 [(0, .ref a0), (1, .ref (b + 0)), (2, .ref (b + 37)), (3, .int x3)]) (hc1 : c1 ≤ 600000 ∧ s1 ≤ 7302250) (h : Lw_11 Inv g (xs (x3 + 1).toNatClampNeg) (xs (x3 + 2).toNatClampNeg)) (kk : ∀ {H : Heap} {locs : List Loc} {i : jI} {j : jL}, jDA b cy D (gsi g i j) s H locs → Inv (gsi g i j) → W p l e room_1 s m #[Value.ref a0] below meth c H locs c1 s1 Q (F0 m 1032 ls [])) : W p l e room_1 s m #[Value.ref a0] below meth c H locs c1 s1 Q (F0 m 497 ls []) := by
  obtain ⟨hx, hb, hml, hown, hts, hst⟩ := id C0
  obtain ⟨hc1, hs1⟩ := hc1
  rw [Lw_11] at h
  refine lv_aload_n hx hb dL_law_497 rfl (lv_at hl 1 rfl) ?_
  refine lv_aload_n hx hb dL_law_498 rfl (lv_at hl 0 rfl) ?_
  refine lv_iload_n hx hb dL_law_499 rfl (lv_at hl 3 rfl) ?_
  refine lv_iconst (v := (1 : Int32)) hx hb dL_law_500 (by decide) ?_
  refine lv_iadd hx hb dL_law_501 ?_
  refine va_sld hx hb hX hbl hbA w.1.2.2 hin.1 dL_law_502 ?_
  refine lv_aload_n hx hb dL_law_503 rfl (lv_at hl 0 rfl) ?_
  refine lv_iload_n hx hb dL_law_504 rfl (lv_at hl 3 rfl) ?_
  refine lv_iconst (v := (2 : Int32)) hx hb dL_law_505 (by decide) ?_
  refine lv_iadd hx hb dL_law_506 ?_
  refine va_sld hx hb hX hbl hbA w.1.2.2 hin.2.1 dL_law_507 ?_
  refine jcVA_i (k := 0) (As := [.int (xs (x3 + 1).toNatClampNeg), .int (xs (x3 + 2).toNatClampNeg)]) (rest := []) C0 w (c_X11_go w.2 h0 h) (cwV 2 hts gL_law_X11_go rfl rfl rfl (by decide +kernel) ⟨Nat.le_of_ble_eq_true rfl, Nat.le_of_ble_eq_true rfl⟩) h0 (rfl : vwCl[10]? = some (RX11, TX11, 15)) (by decide) rfl hl.1 rfl (Nat.le_of_ble_eq_true rfl) dL_law_508 (fun q1 iq1 jq1 H locs h w => ?_) ⟨by show _ ≤ 600000; omega, by show _ ≤ 7302250; omega⟩
  refine lv_aload_n hx hb dL_law_511 rfl (lv_at hl 2 rfl) ?_
  refine lv_aload_n hx hb dL_law_512 rfl (lv_at hl 0 rfl) ?_
  refine lv_iload_n hx hb dL_law_513 rfl (lv_at hl 3 rfl) ?_
  refine lv_iconst (v := (1 : Int32)) hx hb dL_law_514 (by decide) ?_
  refine lv_iadd hx hb dL_law_515 ?_
  refine va_sld hx hb hX hbl hbA w.1.2.2 hin.1 dL_law_516 ?_
  refine lv_aload_n hx hb dL_law_517 rfl (lv_at hl 0 rfl) ?_
  refine lv_iload_n hx hb dL_law_518 rfl (lv_at hl 3 rfl) ?_
  refine lv_iconst (v := (2 : Int32)) hx hb dL_law_519 (by decide) ?_
  refine lv_iadd hx hb dL_law_520 ?_
  refine va_sld hx hb hX hbl hbA w.1.2.2 hin.2.1 dL_law_521 ?_
  refine jcVA_i (k := 37) (As := [.int (xs (x3 + 1).toNatClampNeg), .int (xs (x3 + 2).toNatClampNeg)]) (rest := [.int q1]) C0 w (c_X12_go w.2 h1 h) (cwV 2 hts gL_law_X12_go rfl rfl rfl (by decide +kernel) ⟨Nat.le_of_ble_eq_true rfl, Nat.le_of_ble_eq_true rfl⟩) h1 (rfl : vwCl[11]? = some (RX12, TX12, 51)) (by decide) rfl hl.1 rfl (Nat.le_of_ble_eq_true rfl) dL_law_522 (fun q2 iq2 jq2 H locs h w => ?_) ⟨by show _ ≤ 600000; omega, by show _ ≤ 7302250; omega⟩
  refine lv_icmp_eq (tgt := 1032) hx hb dL_law_525 (by decide) (fun hc => ?_) (fun hc => ?_)
  · exact kk w h.2
  · exact absurd h.1 hc
def Lw_12 (Inv : jS → Prop) (g : jS) (y1 : Int32) : Prop := J_X11_skip (gl g) (gr g) (fun q i1 j1 => J_X12_skip (gl g) (gr g) (fun q2 i2 j2 => q = q2 ∧ Inv (gsi g i2 j2)) i1 j1 37 y1) (gi g) (gj g) 0 y1
set_option maxHeartbeats 4000000 in
set_option maxRecDepth 100000 in
theorem law_c12 {p : Program} {l : Launch} {e : Env} {s : State} {m : MethodId} {below : List Frame} {meth : Method} {c : Code} {b tU a0 L : Nat} {cy : Nat → ClassId} {D : va_G} {xs : Nat → Int32} {Q : State → Prop} {Inv : jS → Prop} {H : Heap} {locs : List Loc} {ls : Array Slot} {g : jS} {x3 : Int32} {c1 s1 : Nat} (C0 : jCA p s m #[Value.ref a0] c cL_law 4 wsL_law RL b cy D tU) (hX : va_X a0 L xs s s.heap) (hbl : a0 < s.heap.size) (hbA : ¬ jA b a0) (w : jDA b cy D g s H locs) (h0 : 0 < gN g ∧ gK g 0 = 10) (h1 : 37 < gN g ∧ gK g 37 = 11) (hin : vp_in (x3 + 1) L ∧ vp_in (x3 + 2) L ∧ vp_in (x3 + 3) L ∧ vp_in (x3 + 4) L) (hl : lv_has ls 4 [(0, .ref a0), (1, .ref (b + 0)), (2, .ref (b + 37)), (3, .int x3)]) (hc1 : c1 ≤ 600000 ∧ s1 ≤ 7302250) (h : Lw_12 Inv g (xs (x3 + 1).toNatClampNeg)) (kk : ∀ {H : Heap} {locs : List Loc} {i : jI} {j : jL}, jDA b cy D (gsi g i j) s H locs → Inv (gsi g i j) → W p l e room_1 s m #[Value.ref a0] below meth c H locs c1 s1 Q (F0 m 1032 ls [])) : W p l e room_1 s m #[Value.ref a0] below meth c H locs c1 s1 Q (F0 m 530 ls []) := by
  obtain ⟨hx, hb, hml, hown, hts, hst⟩ := id C0
  obtain ⟨hc1, hs1⟩ := hc1
  rw [Lw_12] at h
  refine lv_aload_n hx hb dL_law_530 rfl (lv_at hl 1 rfl) ?_
  refine lv_aload_n hx hb dL_law_531 rfl (lv_at hl 0 rfl) ?_
  refine lv_iload_n hx hb dL_law_532 rfl (lv_at hl 3 rfl) ?_
  refine lv_iconst (v := (1 : Int32)) hx hb dL_law_533 (by decide) ?_
  refine lv_iadd hx hb dL_law_534 ?_
  refine va_sld hx hb hX hbl hbA w.1.2.2 hin.1 dL_law_535 ?_
  refine jcVA_i (k := 0) (As := [.int (xs (x3 + 1).toNatClampNeg)]) (rest := []) C0 w (c_X11_skip w.2 h0 h) (cwV 1 hts gL_law_X11_skip rfl rfl rfl (by decide +kernel) ⟨Nat.le_of_ble_eq_true rfl, Nat.le_of_ble_eq_true rfl⟩) h0 (rfl : vwCl[10]? = some (RX11, TX11, 15)) (by decide) rfl hl.1 rfl (Nat.le_of_ble_eq_true rfl) dL_law_536 (fun q1 iq1 jq1 H locs h w => ?_) ⟨by show _ ≤ 600000; omega, by show _ ≤ 7302250; omega⟩
  refine lv_aload_n hx hb dL_law_539 rfl (lv_at hl 2 rfl) ?_
  refine lv_aload_n hx hb dL_law_540 rfl (lv_at hl 0 rfl) ?_
  refine lv_iload_n hx hb dL_law_541 rfl (lv_at hl 3 rfl) ?_
  refine lv_iconst (v := (1 : Int32)) hx hb dL_law_542 (by decide) ?_
  refine lv_iadd hx hb dL_law_543 ?_
  refine va_sld hx hb hX hbl hbA w.1.2.2 hin.1 dL_law_544 ?_
  refine jcVA_i (k := 37) (As := [.int (xs (x3 + 1).toNatClampNeg)]) (rest := [.int q1]) C0 w (c_X12_skip w.2 h1 h) (cwV 1 hts gL_law_X12_skip rfl rfl rfl (by decide +kernel) ⟨Nat.le_of_ble_eq_true rfl, Nat.le_of_ble_eq_true rfl⟩) h1 (rfl : vwCl[11]? = some (RX12, TX12, 51)) (by decide) rfl hl.1 rfl (Nat.le_of_ble_eq_true rfl) dL_law_545 (fun q2 iq2 jq2 H locs h w => ?_) ⟨by show _ ≤ 600000; omega, by show _ ≤ 7302250; omega⟩
  refine lv_icmp_eq (tgt := 1032) hx hb dL_law_548 (by decide) (fun hc => ?_) (fun hc => ?_)
  · exact kk w h.2
  · exact absurd h.1 hc
def Lw_13 (Inv : jS → Prop) (g : jS) (y1 : Int32) (y2 : Int32) (y3 : Int32) : Prop := J_X11_fewest (gl g) (gr g) (fun q i1 j1 => J_X12_fewest (gl g) (gr g) (fun q2 i2 j2 => q = q2 ∧ Inv (gsi g i2 j2)) i1 j1 37 y1 y2 y3) (gi g) (gj g) 0 y1 y2 y3
set_option maxHeartbeats 4000000 in
set_option maxRecDepth 100000 in
theorem law_c13 {p : Program} {l : Launch} {e : Env} {s : State} {m : MethodId} {below : List Frame} {meth : Method} {c : Code} {b tU a0 L : Nat} {cy : Nat → ClassId} {D : va_G} {xs : Nat → Int32} {Q : State → Prop} {Inv : jS → Prop} {H : Heap} {locs : List Loc} {ls : Array Slot} {g : jS} {x3 : Int32} {c1 s1 : Nat} (C0 : jCA p s m #[Value.ref a0] c cL_law 4 wsL_law RL b cy D tU) (hX : va_X a0 L xs s s.heap) (hbl : a0 < s.heap.size) (hbA : ¬ jA b a0) (w : jDA b cy D g s H locs) (h0 : 0 < gN g ∧ gK g 0 = 10) (h1 : 37 < gN g ∧ gK g 37 = 11) (hin : vp_in (x3 + 1) L ∧ vp_in (x3 + 2) L ∧ vp_in (x3 + 3) L ∧ vp_in (x3 + 4) L) (hl : lv_has ls 4 [(0, .ref a0), (1, .ref (b + 0)), (2, .ref (b + 37)), (3, .int x3)]) (hc1 : c1 ≤ 600000 ∧ s1 ≤ 7302250) (h : Lw_13 Inv g (xs (x3 + 1).toNatClampNeg) (xs (x3 + 2).toNatClampNeg) (xs (x3 + 3).toNatClampNeg)) (kk : ∀ {H : Heap} {locs : List Loc} {i : jI} {j : jL}, jDA b cy D (gsi g i j) s H locs → Inv (gsi g i j) → W p l e room_1 s m #[Value.ref a0] below meth c H locs c1 s1 Q (F0 m 1032 ls [])) : W p l e room_1 s m #[Value.ref a0] below meth c H locs c1 s1 Q (F0 m 553 ls []) := by
  obtain ⟨hx, hb, hml, hown, hts, hst⟩ := id C0
  obtain ⟨hc1, hs1⟩ := hc1
  rw [Lw_13] at h
  refine lv_aload_n hx hb dL_law_553 rfl (lv_at hl 1 rfl) ?_
  refine lv_aload_n hx hb dL_law_554 rfl (lv_at hl 0 rfl) ?_
  refine lv_iload_n hx hb dL_law_555 rfl (lv_at hl 3 rfl) ?_
  refine lv_iconst (v := (1 : Int32)) hx hb dL_law_556 (by decide) ?_
  refine lv_iadd hx hb dL_law_557 ?_
  refine va_sld hx hb hX hbl hbA w.1.2.2 hin.1 dL_law_558 ?_
  refine lv_aload_n hx hb dL_law_559 rfl (lv_at hl 0 rfl) ?_
  refine lv_iload_n hx hb dL_law_560 rfl (lv_at hl 3 rfl) ?_
  refine lv_iconst (v := (2 : Int32)) hx hb dL_law_561 (by decide) ?_
  refine lv_iadd hx hb dL_law_562 ?_
  refine va_sld hx hb hX hbl hbA w.1.2.2 hin.2.1 dL_law_563 ?_
  refine lv_aload_n hx hb dL_law_564 rfl (lv_at hl 0 rfl) ?_
  refine lv_iload_n hx hb dL_law_565 rfl (lv_at hl 3 rfl) ?_
  refine lv_iconst (v := (3 : Int32)) hx hb dL_law_566 (by decide) ?_
  refine lv_iadd hx hb dL_law_567 ?_
  refine va_sld hx hb hX hbl hbA w.1.2.2 hin.2.2.1 dL_law_568 ?_
  refine jcVA_i (k := 0) (As := [.int (xs (x3 + 1).toNatClampNeg), .int (xs (x3 + 2).toNatClampNeg), .int (xs (x3 + 3).toNatClampNeg)]) (rest := []) C0 w (c_X11_fewest w.2 h0 h) (cwV 3 hts gL_law_X11_fewest rfl rfl rfl (by decide +kernel) ⟨Nat.le_of_ble_eq_true rfl, Nat.le_of_ble_eq_true rfl⟩) h0 (rfl : vwCl[10]? = some (RX11, TX11, 15)) (by decide) rfl hl.1 rfl (Nat.le_of_ble_eq_true rfl) dL_law_569 (fun q1 iq1 jq1 H locs h w => ?_) ⟨by show _ ≤ 600000; omega, by show _ ≤ 7302250; omega⟩
  refine lv_aload_n hx hb dL_law_572 rfl (lv_at hl 2 rfl) ?_
  refine lv_aload_n hx hb dL_law_573 rfl (lv_at hl 0 rfl) ?_
  refine lv_iload_n hx hb dL_law_574 rfl (lv_at hl 3 rfl) ?_
  refine lv_iconst (v := (1 : Int32)) hx hb dL_law_575 (by decide) ?_
  refine lv_iadd hx hb dL_law_576 ?_
  refine va_sld hx hb hX hbl hbA w.1.2.2 hin.1 dL_law_577 ?_
  refine lv_aload_n hx hb dL_law_578 rfl (lv_at hl 0 rfl) ?_
  refine lv_iload_n hx hb dL_law_579 rfl (lv_at hl 3 rfl) ?_
  refine lv_iconst (v := (2 : Int32)) hx hb dL_law_580 (by decide) ?_
  refine lv_iadd hx hb dL_law_581 ?_
  refine va_sld hx hb hX hbl hbA w.1.2.2 hin.2.1 dL_law_582 ?_
  refine lv_aload_n hx hb dL_law_583 rfl (lv_at hl 0 rfl) ?_
  refine lv_iload_n hx hb dL_law_584 rfl (lv_at hl 3 rfl) ?_
  refine lv_iconst (v := (3 : Int32)) hx hb dL_law_585 (by decide) ?_
  refine lv_iadd hx hb dL_law_586 ?_
  refine va_sld hx hb hX hbl hbA w.1.2.2 hin.2.2.1 dL_law_587 ?_
  refine jcVA_i (k := 37) (As := [.int (xs (x3 + 1).toNatClampNeg), .int (xs (x3 + 2).toNatClampNeg), .int (xs (x3 + 3).toNatClampNeg)]) (rest := [.int q1]) C0 w (c_X12_fewest w.2 h1 h) (cwV 3 hts gL_law_X12_fewest rfl rfl rfl (by decide +kernel) ⟨Nat.le_of_ble_eq_true rfl, Nat.le_of_ble_eq_true rfl⟩) h1 (rfl : vwCl[11]? = some (RX12, TX12, 51)) (by decide) rfl hl.1 rfl (Nat.le_of_ble_eq_true rfl) dL_law_588 (fun q2 iq2 jq2 H locs h w => ?_) ⟨by show _ ≤ 600000; omega, by show _ ≤ 7302250; omega⟩
  refine lv_icmp_eq (tgt := 1032) hx hb dL_law_591 (by decide) (fun hc => ?_) (fun hc => ?_)
  · exact kk w h.2
  · exact absurd h.1 hc
def Lw_14 (Inv : jS → Prop) (g : jS) (y1 : Int32) (y2 : Int32) (y3 : Int32) : Prop := J_X11_skips (gl g) (gr g) (fun q i1 j1 => J_X12_skips (gl g) (gr g) (fun q2 i2 j2 => q = q2 ∧ Inv (gsi g i2 j2)) i1 j1 37 y1 y2 y3) (gi g) (gj g) 0 y1 y2 y3
set_option maxHeartbeats 4000000 in
set_option maxRecDepth 100000 in
theorem law_c14 {p : Program} {l : Launch} {e : Env} {s : State} {m : MethodId} {below : List Frame} {meth : Method} {c : Code} {b tU a0 L : Nat} {cy : Nat → ClassId} {D : va_G} {xs : Nat → Int32} {Q : State → Prop} {Inv : jS → Prop} {H : Heap} {locs : List Loc} {ls : Array Slot} {g : jS} {x3 : Int32} {c1 s1 : Nat} (C0 : jCA p s m #[Value.ref a0] c cL_law 4 wsL_law RL b cy D tU) (hX : va_X a0 L xs s s.heap) (hbl : a0 < s.heap.size) (hbA : ¬ jA b a0) (w : jDA b cy D g s H locs) (h0 : 0 < gN g ∧ gK g 0 = 10) (h1 : 37 < gN g ∧ gK g 37 = 11) (hin : vp_in (x3 + 1) L ∧ vp_in (x3 + 2) L ∧ vp_in (x3 + 3) L ∧ vp_in (x3 + 4) L) (hl : lv_has ls 4 [(0, .ref a0), (1, .ref (b + 0)), (2, .ref (b + 37)), (3, .int x3)]) (hc1 : c1 ≤ 600000 ∧ s1 ≤ 7302250) (h : Lw_14 Inv g (xs (x3 + 1).toNatClampNeg) (xs (x3 + 2).toNatClampNeg) (xs (x3 + 3).toNatClampNeg)) (kk : ∀ {H : Heap} {locs : List Loc} {i : jI} {j : jL}, jDA b cy D (gsi g i j) s H locs → Inv (gsi g i j) → W p l e room_1 s m #[Value.ref a0] below meth c H locs c1 s1 Q (F0 m 1032 ls [])) : W p l e room_1 s m #[Value.ref a0] below meth c H locs c1 s1 Q (F0 m 596 ls []) := by
  obtain ⟨hx, hb, hml, hown, hts, hst⟩ := id C0
  obtain ⟨hc1, hs1⟩ := hc1
  rw [Lw_14] at h
  refine lv_aload_n hx hb dL_law_596 rfl (lv_at hl 1 rfl) ?_
  refine lv_aload_n hx hb dL_law_597 rfl (lv_at hl 0 rfl) ?_
  refine lv_iload_n hx hb dL_law_598 rfl (lv_at hl 3 rfl) ?_
  refine lv_iconst (v := (1 : Int32)) hx hb dL_law_599 (by decide) ?_
  refine lv_iadd hx hb dL_law_600 ?_
  refine va_sld hx hb hX hbl hbA w.1.2.2 hin.1 dL_law_601 ?_
  refine lv_aload_n hx hb dL_law_602 rfl (lv_at hl 0 rfl) ?_
  refine lv_iload_n hx hb dL_law_603 rfl (lv_at hl 3 rfl) ?_
  refine lv_iconst (v := (2 : Int32)) hx hb dL_law_604 (by decide) ?_
  refine lv_iadd hx hb dL_law_605 ?_
  refine va_sld hx hb hX hbl hbA w.1.2.2 hin.2.1 dL_law_606 ?_
  refine lv_aload_n hx hb dL_law_607 rfl (lv_at hl 0 rfl) ?_
  refine lv_iload_n hx hb dL_law_608 rfl (lv_at hl 3 rfl) ?_
  refine lv_iconst (v := (3 : Int32)) hx hb dL_law_609 (by decide) ?_
  refine lv_iadd hx hb dL_law_610 ?_
  refine va_sld hx hb hX hbl hbA w.1.2.2 hin.2.2.1 dL_law_611 ?_
  refine jcVA_i (k := 0) (As := [.int (xs (x3 + 1).toNatClampNeg), .int (xs (x3 + 2).toNatClampNeg), .int (xs (x3 + 3).toNatClampNeg)]) (rest := []) C0 w (c_X11_skips w.2 h0 h) (cwV 3 hts gL_law_X11_skips rfl rfl rfl (by decide +kernel) ⟨Nat.le_of_ble_eq_true rfl, Nat.le_of_ble_eq_true rfl⟩) h0 (rfl : vwCl[10]? = some (RX11, TX11, 15)) (by decide) rfl hl.1 rfl (Nat.le_of_ble_eq_true rfl) dL_law_612 (fun q1 iq1 jq1 H locs h w => ?_) ⟨by show _ ≤ 600000; omega, by show _ ≤ 7302250; omega⟩
  refine lv_aload_n hx hb dL_law_615 rfl (lv_at hl 2 rfl) ?_
  refine lv_aload_n hx hb dL_law_616 rfl (lv_at hl 0 rfl) ?_
  refine lv_iload_n hx hb dL_law_617 rfl (lv_at hl 3 rfl) ?_
  refine lv_iconst (v := (1 : Int32)) hx hb dL_law_618 (by decide) ?_
  refine lv_iadd hx hb dL_law_619 ?_
  refine va_sld hx hb hX hbl hbA w.1.2.2 hin.1 dL_law_620 ?_
  refine lv_aload_n hx hb dL_law_621 rfl (lv_at hl 0 rfl) ?_
  refine lv_iload_n hx hb dL_law_622 rfl (lv_at hl 3 rfl) ?_
  refine lv_iconst (v := (2 : Int32)) hx hb dL_law_623 (by decide) ?_
  refine lv_iadd hx hb dL_law_624 ?_
  refine va_sld hx hb hX hbl hbA w.1.2.2 hin.2.1 dL_law_625 ?_
  refine lv_aload_n hx hb dL_law_626 rfl (lv_at hl 0 rfl) ?_
  refine lv_iload_n hx hb dL_law_627 rfl (lv_at hl 3 rfl) ?_
  refine lv_iconst (v := (3 : Int32)) hx hb dL_law_628 (by decide) ?_
  refine lv_iadd hx hb dL_law_629 ?_
  refine va_sld hx hb hX hbl hbA w.1.2.2 hin.2.2.1 dL_law_630 ?_
  refine jcVA_i (k := 37) (As := [.int (xs (x3 + 1).toNatClampNeg), .int (xs (x3 + 2).toNatClampNeg), .int (xs (x3 + 3).toNatClampNeg)]) (rest := [.int q1]) C0 w (c_X12_skips w.2 h1 h) (cwV 3 hts gL_law_X12_skips rfl rfl rfl (by decide +kernel) ⟨Nat.le_of_ble_eq_true rfl, Nat.le_of_ble_eq_true rfl⟩) h1 (rfl : vwCl[11]? = some (RX12, TX12, 51)) (by decide) rfl hl.1 rfl (Nat.le_of_ble_eq_true rfl) dL_law_631 (fun q2 iq2 jq2 H locs h w => ?_) ⟨by show _ ≤ 600000; omega, by show _ ≤ 7302250; omega⟩
  refine lv_icmp_eq (tgt := 1032) hx hb dL_law_634 (by decide) (fun hc => ?_) (fun hc => ?_)
  · exact kk w h.2
  · exact absurd h.1 hc
def Lw_15 (Inv : jS → Prop) (g : jS) (y1 : Int32) : Prop := J_X11_shut (gl g) (gr g) (fun q i1 j1 => J_X12_shut (gl g) (gr g) (fun q2 i2 j2 => q = q2 ∧ Inv (gsi g i2 j2)) i1 j1 37 y1) (gi g) (gj g) 0 y1
set_option maxHeartbeats 4000000 in
set_option maxRecDepth 100000 in
theorem law_c15 {p : Program} {l : Launch} {e : Env} {s : State} {m : MethodId} {below : List Frame} {meth : Method} {c : Code} {b tU a0 L : Nat} {cy : Nat → ClassId} {D : va_G} {xs : Nat → Int32} {Q : State → Prop} {Inv : jS → Prop} {H : Heap} {locs : List Loc} {ls : Array Slot} {g : jS} {x3 : Int32} {c1 s1 : Nat} (C0 : jCA p s m #[Value.ref a0] c cL_law 4 wsL_law RL b cy D tU) (hX : va_X a0 L xs s s.heap) (hbl : a0 < s.heap.size) (hbA : ¬ jA b a0) (w : jDA b cy D g s H locs) (h0 : 0 < gN g ∧ gK g 0 = 10) (h1 : 37 < gN g ∧ gK g 37 = 11) (hin : vp_in (x3 + 1) L ∧ vp_in (x3 + 2) L ∧ vp_in (x3 + 3) L ∧ vp_in (x3 + 4) L) (hl : lv_has ls 4 [(0, .ref a0), (1, .ref (b + 0)), (2, .ref (b + 37)), (3, .int x3)]) (hc1 : c1 ≤ 600000 ∧ s1 ≤ 7302250) (h : Lw_15 Inv g (xs (x3 + 1).toNatClampNeg)) (kk : ∀ {H : Heap} {locs : List Loc} {i : jI} {j : jL}, jDA b cy D (gsi g i j) s H locs → Inv (gsi g i j) → W p l e room_1 s m #[Value.ref a0] below meth c H locs c1 s1 Q (F0 m 1032 ls [])) : W p l e room_1 s m #[Value.ref a0] below meth c H locs c1 s1 Q (F0 m 639 ls []) := by
  obtain ⟨hx, hb, hml, hown, hts, hst⟩ := id C0
  obtain ⟨hc1, hs1⟩ := hc1
  rw [Lw_15] at h
  refine lv_aload_n hx hb dL_law_639 rfl (lv_at hl 1 rfl) ?_
  refine lv_aload_n hx hb dL_law_640 rfl (lv_at hl 0 rfl) ?_
  refine lv_iload_n hx hb dL_law_641 rfl (lv_at hl 3 rfl) ?_
  refine lv_iconst (v := (1 : Int32)) hx hb dL_law_642 (by decide) ?_
  refine lv_iadd hx hb dL_law_643 ?_
  refine va_sld hx hb hX hbl hbA w.1.2.2 hin.1 dL_law_644 ?_
  refine jcVA_i (k := 0) (As := [.int (xs (x3 + 1).toNatClampNeg)]) (rest := []) C0 w (c_X11_shut w.2 h0 h) (cwV 1 hts gL_law_X11_shut rfl rfl rfl (by decide +kernel) ⟨Nat.le_of_ble_eq_true rfl, Nat.le_of_ble_eq_true rfl⟩) h0 (rfl : vwCl[10]? = some (RX11, TX11, 15)) (by decide) rfl hl.1 rfl (Nat.le_of_ble_eq_true rfl) dL_law_645 (fun q1 iq1 jq1 H locs h w => ?_) ⟨by show _ ≤ 600000; omega, by show _ ≤ 7302250; omega⟩
  refine lv_aload_n hx hb dL_law_648 rfl (lv_at hl 2 rfl) ?_
  refine lv_aload_n hx hb dL_law_649 rfl (lv_at hl 0 rfl) ?_
  refine lv_iload_n hx hb dL_law_650 rfl (lv_at hl 3 rfl) ?_
  refine lv_iconst (v := (1 : Int32)) hx hb dL_law_651 (by decide) ?_
  refine lv_iadd hx hb dL_law_652 ?_
  refine va_sld hx hb hX hbl hbA w.1.2.2 hin.1 dL_law_653 ?_
  refine jcVA_i (k := 37) (As := [.int (xs (x3 + 1).toNatClampNeg)]) (rest := [.int q1]) C0 w (c_X12_shut w.2 h1 h) (cwV 1 hts gL_law_X12_shut rfl rfl rfl (by decide +kernel) ⟨Nat.le_of_ble_eq_true rfl, Nat.le_of_ble_eq_true rfl⟩) h1 (rfl : vwCl[11]? = some (RX12, TX12, 51)) (by decide) rfl hl.1 rfl (Nat.le_of_ble_eq_true rfl) dL_law_654 (fun q2 iq2 jq2 H locs h w => ?_) ⟨by show _ ≤ 600000; omega, by show _ ≤ 7302250; omega⟩
  refine lv_icmp_eq (tgt := 1032) hx hb dL_law_657 (by decide) (fun hc => ?_) (fun hc => ?_)
  · exact kk w h.2
  · exact absurd h.1 hc
def Lw_16 (Inv : jS → Prop) (g : jS) (y1 : Int32) (y2 : Int32) : Prop := J_X11_round (gl g) (gr g) (fun q i1 j1 => J_X12_round (gl g) (gr g) (fun q2 i2 j2 => q = q2 ∧ Inv (gsi g i2 j2)) i1 j1 37 y1 y2) (gi g) (gj g) 0 y1 y2
set_option maxHeartbeats 4000000 in
set_option maxRecDepth 100000 in
theorem law_c16 {p : Program} {l : Launch} {e : Env} {s : State} {m : MethodId} {below : List Frame} {meth : Method} {c : Code} {b tU a0 L : Nat} {cy : Nat → ClassId} {D : va_G} {xs : Nat → Int32} {Q : State → Prop} {Inv : jS → Prop} {H : Heap} {locs : List Loc} {ls : Array Slot} {g : jS} {x3 : Int32} {c1 s1 : Nat} (C0 : jCA p s m #[Value.ref a0] c cL_law 4 wsL_law RL b cy D tU) (hX : va_X a0 L xs s s.heap) (hbl : a0 < s.heap.size) (hbA : ¬ jA b a0) (w : jDA b cy D g s H locs) (h0 : 0 < gN g ∧ gK g 0 = 10) (h1 : 37 < gN g ∧ gK g 37 = 11) (hin : vp_in (x3 + 1) L ∧ vp_in (x3 + 2) L ∧ vp_in (x3 + 3) L ∧ vp_in (x3 + 4) L) (hl : lv_has ls 4 [(0, .ref a0), (1, .ref (b + 0)), (2, .ref (b + 37)), (3, .int x3)]) (hc1 : c1 ≤ 600000 ∧ s1 ≤ 7302250) (h : Lw_16 Inv g (xs (x3 + 1).toNatClampNeg) (xs (x3 + 2).toNatClampNeg)) (kk : ∀ {H : Heap} {locs : List Loc} {i : jI} {j : jL}, jDA b cy D (gsi g i j) s H locs → Inv (gsi g i j) → W p l e room_1 s m #[Value.ref a0] below meth c H locs c1 s1 Q (F0 m 1032 ls [])) : W p l e room_1 s m #[Value.ref a0] below meth c H locs c1 s1 Q (F0 m 662 ls []) := by
  obtain ⟨hx, hb, hml, hown, hts, hst⟩ := id C0
  obtain ⟨hc1, hs1⟩ := hc1
  rw [Lw_16] at h
  refine lv_aload_n hx hb dL_law_662 rfl (lv_at hl 1 rfl) ?_
  refine lv_aload_n hx hb dL_law_663 rfl (lv_at hl 0 rfl) ?_
  refine lv_iload_n hx hb dL_law_664 rfl (lv_at hl 3 rfl) ?_
  refine lv_iconst (v := (1 : Int32)) hx hb dL_law_665 (by decide) ?_
  refine lv_iadd hx hb dL_law_666 ?_
  refine va_sld hx hb hX hbl hbA w.1.2.2 hin.1 dL_law_667 ?_
  refine lv_aload_n hx hb dL_law_668 rfl (lv_at hl 0 rfl) ?_
  refine lv_iload_n hx hb dL_law_669 rfl (lv_at hl 3 rfl) ?_
  refine lv_iconst (v := (2 : Int32)) hx hb dL_law_670 (by decide) ?_
  refine lv_iadd hx hb dL_law_671 ?_
  refine va_sld hx hb hX hbl hbA w.1.2.2 hin.2.1 dL_law_672 ?_
  refine jcVA_i (k := 0) (As := [.int (xs (x3 + 1).toNatClampNeg), .int (xs (x3 + 2).toNatClampNeg)]) (rest := []) C0 w (c_X11_round w.2 h0 h) (cwV 2 hts gL_law_X11_round rfl rfl rfl (by decide +kernel) ⟨Nat.le_of_ble_eq_true rfl, Nat.le_of_ble_eq_true rfl⟩) h0 (rfl : vwCl[10]? = some (RX11, TX11, 15)) (by decide) rfl hl.1 rfl (Nat.le_of_ble_eq_true rfl) dL_law_673 (fun q1 iq1 jq1 H locs h w => ?_) ⟨by show _ ≤ 600000; omega, by show _ ≤ 7302250; omega⟩
  refine lv_aload_n hx hb dL_law_676 rfl (lv_at hl 2 rfl) ?_
  refine lv_aload_n hx hb dL_law_677 rfl (lv_at hl 0 rfl) ?_
  refine lv_iload_n hx hb dL_law_678 rfl (lv_at hl 3 rfl) ?_
  refine lv_iconst (v := (1 : Int32)) hx hb dL_law_679 (by decide) ?_
  refine lv_iadd hx hb dL_law_680 ?_
  refine va_sld hx hb hX hbl hbA w.1.2.2 hin.1 dL_law_681 ?_
  refine lv_aload_n hx hb dL_law_682 rfl (lv_at hl 0 rfl) ?_
  refine lv_iload_n hx hb dL_law_683 rfl (lv_at hl 3 rfl) ?_
  refine lv_iconst (v := (2 : Int32)) hx hb dL_law_684 (by decide) ?_
  refine lv_iadd hx hb dL_law_685 ?_
  refine va_sld hx hb hX hbl hbA w.1.2.2 hin.2.1 dL_law_686 ?_
  refine jcVA_i (k := 37) (As := [.int (xs (x3 + 1).toNatClampNeg), .int (xs (x3 + 2).toNatClampNeg)]) (rest := [.int q1]) C0 w (c_X12_round w.2 h1 h) (cwV 2 hts gL_law_X12_round rfl rfl rfl (by decide +kernel) ⟨Nat.le_of_ble_eq_true rfl, Nat.le_of_ble_eq_true rfl⟩) h1 (rfl : vwCl[11]? = some (RX12, TX12, 51)) (by decide) rfl hl.1 rfl (Nat.le_of_ble_eq_true rfl) dL_law_687 (fun q2 iq2 jq2 H locs h w => ?_) ⟨by show _ ≤ 600000; omega, by show _ ≤ 7302250; omega⟩
  refine lv_icmp_eq (tgt := 1032) hx hb dL_law_690 (by decide) (fun hc => ?_) (fun hc => ?_)
  · exact kk w h.2
  · exact absurd h.1 hc
def Lw_17 (Inv : jS → Prop) (g : jS) (y1 : Int32) (y2 : Int32) (y3 : Int32) : Prop := J_X11_stones (gl g) (gr g) (fun q i1 j1 => J_X12_stones (gl g) (gr g) (fun q2 i2 j2 => q = q2 ∧ Inv (gsi g i2 j2)) i1 j1 37 y1 y2 y3) (gi g) (gj g) 0 y1 y2 y3
set_option maxHeartbeats 4000000 in
set_option maxRecDepth 100000 in
theorem law_c17 {p : Program} {l : Launch} {e : Env} {s : State} {m : MethodId} {below : List Frame} {meth : Method} {c : Code} {b tU a0 L : Nat} {cy : Nat → ClassId} {D : va_G} {xs : Nat → Int32} {Q : State → Prop} {Inv : jS → Prop} {H : Heap} {locs : List Loc} {ls : Array Slot} {g : jS} {x3 : Int32} {c1 s1 : Nat} (C0 : jCA p s m #[Value.ref a0] c cL_law 4 wsL_law RL b cy D tU) (hX : va_X a0 L xs s s.heap) (hbl : a0 < s.heap.size) (hbA : ¬ jA b a0) (w : jDA b cy D g s H locs) (h0 : 0 < gN g ∧ gK g 0 = 10) (h1 : 37 < gN g ∧ gK g 37 = 11) (hin : vp_in (x3 + 1) L ∧ vp_in (x3 + 2) L ∧ vp_in (x3 + 3) L ∧ vp_in (x3 + 4) L) (hl : lv_has ls 4 [(0, .ref a0), (1, .ref (b + 0)), (2, .ref (b + 37)), (3, .int x3)]) (hc1 : c1 ≤ 600000 ∧ s1 ≤ 7302250) (h : Lw_17 Inv g (xs (x3 + 1).toNatClampNeg) (xs (x3 + 2).toNatClampNeg) (xs (x3 + 3).toNatClampNeg)) (kk : ∀ {H : Heap} {locs : List Loc} {i : jI} {j : jL}, jDA b cy D (gsi g i j) s H locs → Inv (gsi g i j) → W p l e room_1 s m #[Value.ref a0] below meth c H locs c1 s1 Q (F0 m 1032 ls [])) : W p l e room_1 s m #[Value.ref a0] below meth c H locs c1 s1 Q (F0 m 695 ls []) := by
  obtain ⟨hx, hb, hml, hown, hts, hst⟩ := id C0
  obtain ⟨hc1, hs1⟩ := hc1
  rw [Lw_17] at h
  refine lv_aload_n hx hb dL_law_695 rfl (lv_at hl 1 rfl) ?_
  refine lv_aload_n hx hb dL_law_696 rfl (lv_at hl 0 rfl) ?_
  refine lv_iload_n hx hb dL_law_697 rfl (lv_at hl 3 rfl) ?_
  refine lv_iconst (v := (1 : Int32)) hx hb dL_law_698 (by decide) ?_
  refine lv_iadd hx hb dL_law_699 ?_
  refine va_sld hx hb hX hbl hbA w.1.2.2 hin.1 dL_law_700 ?_
  refine lv_aload_n hx hb dL_law_701 rfl (lv_at hl 0 rfl) ?_
  refine lv_iload_n hx hb dL_law_702 rfl (lv_at hl 3 rfl) ?_
  refine lv_iconst (v := (2 : Int32)) hx hb dL_law_703 (by decide) ?_
  refine lv_iadd hx hb dL_law_704 ?_
  refine va_sld hx hb hX hbl hbA w.1.2.2 hin.2.1 dL_law_705 ?_
  refine lv_aload_n hx hb dL_law_706 rfl (lv_at hl 0 rfl) ?_
  refine lv_iload_n hx hb dL_law_707 rfl (lv_at hl 3 rfl) ?_
  refine lv_iconst (v := (3 : Int32)) hx hb dL_law_708 (by decide) ?_
  refine lv_iadd hx hb dL_law_709 ?_
  refine va_sld hx hb hX hbl hbA w.1.2.2 hin.2.2.1 dL_law_710 ?_
  refine jcVA_i (k := 0) (As := [.int (xs (x3 + 1).toNatClampNeg), .int (xs (x3 + 2).toNatClampNeg), .int (xs (x3 + 3).toNatClampNeg)]) (rest := []) C0 w (c_X11_stones w.2 h0 h) (cwV 3 hts gL_law_X11_stones rfl rfl rfl (by decide +kernel) ⟨Nat.le_of_ble_eq_true rfl, Nat.le_of_ble_eq_true rfl⟩) h0 (rfl : vwCl[10]? = some (RX11, TX11, 15)) (by decide) rfl hl.1 rfl (Nat.le_of_ble_eq_true rfl) dL_law_711 (fun q1 iq1 jq1 H locs h w => ?_) ⟨by show _ ≤ 600000; omega, by show _ ≤ 7302250; omega⟩
  refine lv_aload_n hx hb dL_law_714 rfl (lv_at hl 2 rfl) ?_
  refine lv_aload_n hx hb dL_law_715 rfl (lv_at hl 0 rfl) ?_
  refine lv_iload_n hx hb dL_law_716 rfl (lv_at hl 3 rfl) ?_
  refine lv_iconst (v := (1 : Int32)) hx hb dL_law_717 (by decide) ?_
  refine lv_iadd hx hb dL_law_718 ?_
  refine va_sld hx hb hX hbl hbA w.1.2.2 hin.1 dL_law_719 ?_
  refine lv_aload_n hx hb dL_law_720 rfl (lv_at hl 0 rfl) ?_
  refine lv_iload_n hx hb dL_law_721 rfl (lv_at hl 3 rfl) ?_
  refine lv_iconst (v := (2 : Int32)) hx hb dL_law_722 (by decide) ?_
  refine lv_iadd hx hb dL_law_723 ?_
  refine va_sld hx hb hX hbl hbA w.1.2.2 hin.2.1 dL_law_724 ?_
  refine lv_aload_n hx hb dL_law_725 rfl (lv_at hl 0 rfl) ?_
  refine lv_iload_n hx hb dL_law_726 rfl (lv_at hl 3 rfl) ?_
  refine lv_iconst (v := (3 : Int32)) hx hb dL_law_727 (by decide) ?_
  refine lv_iadd hx hb dL_law_728 ?_
  refine va_sld hx hb hX hbl hbA w.1.2.2 hin.2.2.1 dL_law_729 ?_
  refine jcVA_i (k := 37) (As := [.int (xs (x3 + 1).toNatClampNeg), .int (xs (x3 + 2).toNatClampNeg), .int (xs (x3 + 3).toNatClampNeg)]) (rest := [.int q1]) C0 w (c_X12_stones w.2 h1 h) (cwV 3 hts gL_law_X12_stones rfl rfl rfl (by decide +kernel) ⟨Nat.le_of_ble_eq_true rfl, Nat.le_of_ble_eq_true rfl⟩) h1 (rfl : vwCl[11]? = some (RX12, TX12, 51)) (by decide) rfl hl.1 rfl (Nat.le_of_ble_eq_true rfl) dL_law_730 (fun q2 iq2 jq2 H locs h w => ?_) ⟨by show _ ≤ 600000; omega, by show _ ≤ 7302250; omega⟩
  refine lv_icmp_eq (tgt := 1032) hx hb dL_law_733 (by decide) (fun hc => ?_) (fun hc => ?_)
  · exact kk w h.2
  · exact absurd h.1 hc
def Lw_18 (Inv : jS → Prop) (g : jS) (y1 : Int32) (y2 : Int32) : Prop := J_X11_even (gl g) (gr g) (fun q i1 j1 => J_X12_even (gl g) (gr g) (fun q2 i2 j2 => q = q2 ∧ Inv (gsi g i2 j2)) i1 j1 37 y1 y2) (gi g) (gj g) 0 y1 y2
set_option maxHeartbeats 4000000 in
set_option maxRecDepth 100000 in
theorem law_c18 {p : Program} {l : Launch} {e : Env} {s : State} {m : MethodId} {below : List Frame} {meth : Method} {c : Code} {b tU a0 L : Nat} {cy : Nat → ClassId} {D : va_G} {xs : Nat → Int32} {Q : State → Prop} {Inv : jS → Prop} {H : Heap} {locs : List Loc} {ls : Array Slot} {g : jS} {x3 : Int32} {c1 s1 : Nat} (C0 : jCA p s m #[Value.ref a0] c cL_law 4 wsL_law RL b cy D tU) (hX : va_X a0 L xs s s.heap) (hbl : a0 < s.heap.size) (hbA : ¬ jA b a0) (w : jDA b cy D g s H locs) (h0 : 0 < gN g ∧ gK g 0 = 10) (h1 : 37 < gN g ∧ gK g 37 = 11) (hin : vp_in (x3 + 1) L ∧ vp_in (x3 + 2) L ∧ vp_in (x3 + 3) L ∧ vp_in (x3 + 4) L) (hl : lv_has ls 4 [(0, .ref a0), (1, .ref (b + 0)), (2, .ref (b + 37)), (3, .int x3)]) (hc1 : c1 ≤ 600000 ∧ s1 ≤ 7302250) (h : Lw_18 Inv g (xs (x3 + 1).toNatClampNeg) (xs (x3 + 2).toNatClampNeg)) (kk : ∀ {H : Heap} {locs : List Loc} {i : jI} {j : jL}, jDA b cy D (gsi g i j) s H locs → Inv (gsi g i j) → W p l e room_1 s m #[Value.ref a0] below meth c H locs c1 s1 Q (F0 m 1032 ls [])) : W p l e room_1 s m #[Value.ref a0] below meth c H locs c1 s1 Q (F0 m 738 ls []) := by
  obtain ⟨hx, hb, hml, hown, hts, hst⟩ := id C0
  obtain ⟨hc1, hs1⟩ := hc1
  rw [Lw_18] at h
  refine lv_aload_n hx hb dL_law_738 rfl (lv_at hl 1 rfl) ?_
  refine lv_aload_n hx hb dL_law_739 rfl (lv_at hl 0 rfl) ?_
  refine lv_iload_n hx hb dL_law_740 rfl (lv_at hl 3 rfl) ?_
  refine lv_iconst (v := (1 : Int32)) hx hb dL_law_741 (by decide) ?_
  refine lv_iadd hx hb dL_law_742 ?_
  refine va_sld hx hb hX hbl hbA w.1.2.2 hin.1 dL_law_743 ?_
  refine lv_aload_n hx hb dL_law_744 rfl (lv_at hl 0 rfl) ?_
  refine lv_iload_n hx hb dL_law_745 rfl (lv_at hl 3 rfl) ?_
  refine lv_iconst (v := (2 : Int32)) hx hb dL_law_746 (by decide) ?_
  refine lv_iadd hx hb dL_law_747 ?_
  refine va_sld hx hb hX hbl hbA w.1.2.2 hin.2.1 dL_law_748 ?_
  refine jcVA_i (k := 0) (As := [.int (xs (x3 + 1).toNatClampNeg), .int (xs (x3 + 2).toNatClampNeg)]) (rest := []) C0 w (c_X11_even w.2 h0 h) (cwV 2 hts gL_law_X11_even rfl rfl rfl (by decide +kernel) ⟨Nat.le_of_ble_eq_true rfl, Nat.le_of_ble_eq_true rfl⟩) h0 (rfl : vwCl[10]? = some (RX11, TX11, 15)) (by decide) rfl hl.1 rfl (Nat.le_of_ble_eq_true rfl) dL_law_749 (fun q1 iq1 jq1 H locs h w => ?_) ⟨by show _ ≤ 600000; omega, by show _ ≤ 7302250; omega⟩
  refine lv_aload_n hx hb dL_law_752 rfl (lv_at hl 2 rfl) ?_
  refine lv_aload_n hx hb dL_law_753 rfl (lv_at hl 0 rfl) ?_
  refine lv_iload_n hx hb dL_law_754 rfl (lv_at hl 3 rfl) ?_
  refine lv_iconst (v := (1 : Int32)) hx hb dL_law_755 (by decide) ?_
  refine lv_iadd hx hb dL_law_756 ?_
  refine va_sld hx hb hX hbl hbA w.1.2.2 hin.1 dL_law_757 ?_
  refine lv_aload_n hx hb dL_law_758 rfl (lv_at hl 0 rfl) ?_
  refine lv_iload_n hx hb dL_law_759 rfl (lv_at hl 3 rfl) ?_
  refine lv_iconst (v := (2 : Int32)) hx hb dL_law_760 (by decide) ?_
  refine lv_iadd hx hb dL_law_761 ?_
  refine va_sld hx hb hX hbl hbA w.1.2.2 hin.2.1 dL_law_762 ?_
  refine jcVA_i (k := 37) (As := [.int (xs (x3 + 1).toNatClampNeg), .int (xs (x3 + 2).toNatClampNeg)]) (rest := [.int q1]) C0 w (c_X12_even w.2 h1 h) (cwV 2 hts gL_law_X12_even rfl rfl rfl (by decide +kernel) ⟨Nat.le_of_ble_eq_true rfl, Nat.le_of_ble_eq_true rfl⟩) h1 (rfl : vwCl[11]? = some (RX12, TX12, 51)) (by decide) rfl hl.1 rfl (Nat.le_of_ble_eq_true rfl) dL_law_763 (fun q2 iq2 jq2 H locs h w => ?_) ⟨by show _ ≤ 600000; omega, by show _ ≤ 7302250; omega⟩
  refine lv_icmp_eq (tgt := 1032) hx hb dL_law_766 (by decide) (fun hc => ?_) (fun hc => ?_)
  · exact kk w h.2
  · exact absurd h.1 hc
def Lw_19 (Inv : jS → Prop) (g : jS) (y1 : Int32) (y2 : Int32) (y3 : Int32) : Prop := J_X11_both (gl g) (gr g) (fun q i1 j1 => J_X12_both (gl g) (gr g) (fun q2 i2 j2 => q = q2 ∧ Inv (gsi g i2 j2)) i1 j1 37 y1 y2 y3) (gi g) (gj g) 0 y1 y2 y3
set_option maxHeartbeats 4000000 in
set_option maxRecDepth 100000 in
theorem law_c19 {p : Program} {l : Launch} {e : Env} {s : State} {m : MethodId} {below : List Frame} {meth : Method} {c : Code} {b tU a0 L : Nat} {cy : Nat → ClassId} {D : va_G} {xs : Nat → Int32} {Q : State → Prop} {Inv : jS → Prop} {H : Heap} {locs : List Loc} {ls : Array Slot} {g : jS} {x3 : Int32} {c1 s1 : Nat} (C0 : jCA p s m #[Value.ref a0] c cL_law 4 wsL_law RL b cy D tU) (hX : va_X a0 L xs s s.heap) (hbl : a0 < s.heap.size) (hbA : ¬ jA b a0) (w : jDA b cy D g s H locs) (h0 : 0 < gN g ∧ gK g 0 = 10) (h1 : 37 < gN g ∧ gK g 37 = 11) (hin : vp_in (x3 + 1) L ∧ vp_in (x3 + 2) L ∧ vp_in (x3 + 3) L ∧ vp_in (x3 + 4) L) (hl : lv_has ls 4 [(0, .ref a0), (1, .ref (b + 0)), (2, .ref (b + 37)), (3, .int x3)]) (hc1 : c1 ≤ 600000 ∧ s1 ≤ 7302250) (h : Lw_19 Inv g (xs (x3 + 1).toNatClampNeg) (xs (x3 + 2).toNatClampNeg) (xs (x3 + 3).toNatClampNeg)) (kk : ∀ {H : Heap} {locs : List Loc} {i : jI} {j : jL}, jDA b cy D (gsi g i j) s H locs → Inv (gsi g i j) → W p l e room_1 s m #[Value.ref a0] below meth c H locs c1 s1 Q (F0 m 1032 ls [])) : W p l e room_1 s m #[Value.ref a0] below meth c H locs c1 s1 Q (F0 m 771 ls []) := by
  obtain ⟨hx, hb, hml, hown, hts, hst⟩ := id C0
  obtain ⟨hc1, hs1⟩ := hc1
  rw [Lw_19] at h
  refine lv_aload_n hx hb dL_law_771 rfl (lv_at hl 1 rfl) ?_
  refine lv_aload_n hx hb dL_law_772 rfl (lv_at hl 0 rfl) ?_
  refine lv_iload_n hx hb dL_law_773 rfl (lv_at hl 3 rfl) ?_
  refine lv_iconst (v := (1 : Int32)) hx hb dL_law_774 (by decide) ?_
  refine lv_iadd hx hb dL_law_775 ?_
  refine va_sld hx hb hX hbl hbA w.1.2.2 hin.1 dL_law_776 ?_
  refine lv_aload_n hx hb dL_law_777 rfl (lv_at hl 0 rfl) ?_
  refine lv_iload_n hx hb dL_law_778 rfl (lv_at hl 3 rfl) ?_
  refine lv_iconst (v := (2 : Int32)) hx hb dL_law_779 (by decide) ?_
  refine lv_iadd hx hb dL_law_780 ?_
  refine va_sld hx hb hX hbl hbA w.1.2.2 hin.2.1 dL_law_781 ?_
  refine lv_aload_n hx hb dL_law_782 rfl (lv_at hl 0 rfl) ?_
  refine lv_iload_n hx hb dL_law_783 rfl (lv_at hl 3 rfl) ?_
  refine lv_iconst (v := (3 : Int32)) hx hb dL_law_784 (by decide) ?_
  refine lv_iadd hx hb dL_law_785 ?_
  refine va_sld hx hb hX hbl hbA w.1.2.2 hin.2.2.1 dL_law_786 ?_
  refine jcVA_i (k := 0) (As := [.int (xs (x3 + 1).toNatClampNeg), .int (xs (x3 + 2).toNatClampNeg), .int (xs (x3 + 3).toNatClampNeg)]) (rest := []) C0 w (c_X11_both w.2 h0 h) (cwV 3 hts gL_law_X11_both rfl rfl rfl (by decide +kernel) ⟨Nat.le_of_ble_eq_true rfl, Nat.le_of_ble_eq_true rfl⟩) h0 (rfl : vwCl[10]? = some (RX11, TX11, 15)) (by decide) rfl hl.1 rfl (Nat.le_of_ble_eq_true rfl) dL_law_787 (fun q1 iq1 jq1 H locs h w => ?_) ⟨by show _ ≤ 600000; omega, by show _ ≤ 7302250; omega⟩
  refine lv_aload_n hx hb dL_law_790 rfl (lv_at hl 2 rfl) ?_
  refine lv_aload_n hx hb dL_law_791 rfl (lv_at hl 0 rfl) ?_
  refine lv_iload_n hx hb dL_law_792 rfl (lv_at hl 3 rfl) ?_
  refine lv_iconst (v := (1 : Int32)) hx hb dL_law_793 (by decide) ?_
  refine lv_iadd hx hb dL_law_794 ?_
  refine va_sld hx hb hX hbl hbA w.1.2.2 hin.1 dL_law_795 ?_
  refine lv_aload_n hx hb dL_law_796 rfl (lv_at hl 0 rfl) ?_
  refine lv_iload_n hx hb dL_law_797 rfl (lv_at hl 3 rfl) ?_
  refine lv_iconst (v := (2 : Int32)) hx hb dL_law_798 (by decide) ?_
  refine lv_iadd hx hb dL_law_799 ?_
  refine va_sld hx hb hX hbl hbA w.1.2.2 hin.2.1 dL_law_800 ?_
  refine lv_aload_n hx hb dL_law_801 rfl (lv_at hl 0 rfl) ?_
  refine lv_iload_n hx hb dL_law_802 rfl (lv_at hl 3 rfl) ?_
  refine lv_iconst (v := (3 : Int32)) hx hb dL_law_803 (by decide) ?_
  refine lv_iadd hx hb dL_law_804 ?_
  refine va_sld hx hb hX hbl hbA w.1.2.2 hin.2.2.1 dL_law_805 ?_
  refine jcVA_i (k := 37) (As := [.int (xs (x3 + 1).toNatClampNeg), .int (xs (x3 + 2).toNatClampNeg), .int (xs (x3 + 3).toNatClampNeg)]) (rest := [.int q1]) C0 w (c_X12_both w.2 h1 h) (cwV 3 hts gL_law_X12_both rfl rfl rfl (by decide +kernel) ⟨Nat.le_of_ble_eq_true rfl, Nat.le_of_ble_eq_true rfl⟩) h1 (rfl : vwCl[11]? = some (RX12, TX12, 51)) (by decide) rfl hl.1 rfl (Nat.le_of_ble_eq_true rfl) dL_law_806 (fun q2 iq2 jq2 H locs h w => ?_) ⟨by show _ ≤ 600000; omega, by show _ ≤ 7302250; omega⟩
  refine lv_icmp_eq (tgt := 1032) hx hb dL_law_809 (by decide) (fun hc => ?_) (fun hc => ?_)
  · exact kk w h.2
  · exact absurd h.1 hc
def Lw_20 (Inv : jS → Prop) (g : jS) (y1 : Int32) (y2 : Int32) : Prop := J_X11_change (gl g) (gr g) (fun q i1 j1 => J_X12_change (gl g) (gr g) (fun q2 i2 j2 => q = q2 ∧ Inv (gsi g i2 j2)) i1 j1 37 y1 y2) (gi g) (gj g) 0 y1 y2
set_option maxHeartbeats 4000000 in
set_option maxRecDepth 100000 in
theorem law_c20 {p : Program} {l : Launch} {e : Env} {s : State} {m : MethodId} {below : List Frame} {meth : Method} {c : Code} {b tU a0 L : Nat} {cy : Nat → ClassId} {D : va_G} {xs : Nat → Int32} {Q : State → Prop} {Inv : jS → Prop} {H : Heap} {locs : List Loc} {ls : Array Slot} {g : jS} {x3 : Int32} {c1 s1 : Nat} (C0 : jCA p s m #[Value.ref a0] c cL_law 4 wsL_law RL b cy D tU) (hX : va_X a0 L xs s s.heap) (hbl : a0 < s.heap.size) (hbA : ¬ jA b a0) (w : jDA b cy D g s H locs) (h0 : 0 < gN g ∧ gK g 0 = 10) (h1 : 37 < gN g ∧ gK g 37 = 11) (hin : vp_in (x3 + 1) L ∧ vp_in (x3 + 2) L ∧ vp_in (x3 + 3) L ∧ vp_in (x3 + 4) L) (hl : lv_has ls 4 [(0, .ref a0), (1, .ref (b + 0)), (2, .ref (b + 37)), (3, .int x3)]) (hc1 : c1 ≤ 600000 ∧ s1 ≤ 7302250) (h : Lw_20 Inv g (xs (x3 + 1).toNatClampNeg) (xs (x3 + 2).toNatClampNeg)) (kk : ∀ {H : Heap} {locs : List Loc} {i : jI} {j : jL}, jDA b cy D (gsi g i j) s H locs → Inv (gsi g i j) → W p l e room_1 s m #[Value.ref a0] below meth c H locs c1 s1 Q (F0 m 1032 ls [])) : W p l e room_1 s m #[Value.ref a0] below meth c H locs c1 s1 Q (F0 m 814 ls []) := by
  obtain ⟨hx, hb, hml, hown, hts, hst⟩ := id C0
  obtain ⟨hc1, hs1⟩ := hc1
  rw [Lw_20] at h
  refine lv_aload_n hx hb dL_law_814 rfl (lv_at hl 1 rfl) ?_
  refine lv_aload_n hx hb dL_law_815 rfl (lv_at hl 0 rfl) ?_
  refine lv_iload_n hx hb dL_law_816 rfl (lv_at hl 3 rfl) ?_
  refine lv_iconst (v := (1 : Int32)) hx hb dL_law_817 (by decide) ?_
  refine lv_iadd hx hb dL_law_818 ?_
  refine va_sld hx hb hX hbl hbA w.1.2.2 hin.1 dL_law_819 ?_
  refine lv_aload_n hx hb dL_law_820 rfl (lv_at hl 0 rfl) ?_
  refine lv_iload_n hx hb dL_law_821 rfl (lv_at hl 3 rfl) ?_
  refine lv_iconst (v := (2 : Int32)) hx hb dL_law_822 (by decide) ?_
  refine lv_iadd hx hb dL_law_823 ?_
  refine va_sld hx hb hX hbl hbA w.1.2.2 hin.2.1 dL_law_824 ?_
  refine jcVA_i (k := 0) (As := [.int (xs (x3 + 1).toNatClampNeg), .int (xs (x3 + 2).toNatClampNeg)]) (rest := []) C0 w (c_X11_change w.2 h0 h) (cwV 2 hts gL_law_X11_change rfl rfl rfl (by decide +kernel) ⟨Nat.le_of_ble_eq_true rfl, Nat.le_of_ble_eq_true rfl⟩) h0 (rfl : vwCl[10]? = some (RX11, TX11, 15)) (by decide) rfl hl.1 rfl (Nat.le_of_ble_eq_true rfl) dL_law_825 (fun q1 iq1 jq1 H locs h w => ?_) ⟨by show _ ≤ 600000; omega, by show _ ≤ 7302250; omega⟩
  refine lv_aload_n hx hb dL_law_828 rfl (lv_at hl 2 rfl) ?_
  refine lv_aload_n hx hb dL_law_829 rfl (lv_at hl 0 rfl) ?_
  refine lv_iload_n hx hb dL_law_830 rfl (lv_at hl 3 rfl) ?_
  refine lv_iconst (v := (1 : Int32)) hx hb dL_law_831 (by decide) ?_
  refine lv_iadd hx hb dL_law_832 ?_
  refine va_sld hx hb hX hbl hbA w.1.2.2 hin.1 dL_law_833 ?_
  refine lv_aload_n hx hb dL_law_834 rfl (lv_at hl 0 rfl) ?_
  refine lv_iload_n hx hb dL_law_835 rfl (lv_at hl 3 rfl) ?_
  refine lv_iconst (v := (2 : Int32)) hx hb dL_law_836 (by decide) ?_
  refine lv_iadd hx hb dL_law_837 ?_
  refine va_sld hx hb hX hbl hbA w.1.2.2 hin.2.1 dL_law_838 ?_
  refine jcVA_i (k := 37) (As := [.int (xs (x3 + 1).toNatClampNeg), .int (xs (x3 + 2).toNatClampNeg)]) (rest := [.int q1]) C0 w (c_X12_change w.2 h1 h) (cwV 2 hts gL_law_X12_change rfl rfl rfl (by decide +kernel) ⟨Nat.le_of_ble_eq_true rfl, Nat.le_of_ble_eq_true rfl⟩) h1 (rfl : vwCl[11]? = some (RX12, TX12, 51)) (by decide) rfl hl.1 rfl (Nat.le_of_ble_eq_true rfl) dL_law_839 (fun q2 iq2 jq2 H locs h w => ?_) ⟨by show _ ≤ 600000; omega, by show _ ≤ 7302250; omega⟩
  refine lv_icmp_eq (tgt := 1032) hx hb dL_law_842 (by decide) (fun hc => ?_) (fun hc => ?_)
  · exact kk w h.2
  · exact absurd h.1 hc
def Lw_21 (Inv : jS → Prop) (g : jS) (y1 : Int32) (y2 : Int32) (y3 : Int32) : Prop := J_X11_print (gl g) (gr g) (fun q i1 j1 => J_X12_print (gl g) (gr g) (fun q2 i2 j2 => q = q2 ∧ Inv (gsi g i2 j2)) i1 j1 37 y1 y2 y3) (gi g) (gj g) 0 y1 y2 y3
set_option maxHeartbeats 4000000 in
set_option maxRecDepth 100000 in
theorem law_c21 {p : Program} {l : Launch} {e : Env} {s : State} {m : MethodId} {below : List Frame} {meth : Method} {c : Code} {b tU a0 L : Nat} {cy : Nat → ClassId} {D : va_G} {xs : Nat → Int32} {Q : State → Prop} {Inv : jS → Prop} {H : Heap} {locs : List Loc} {ls : Array Slot} {g : jS} {x3 : Int32} {c1 s1 : Nat} (C0 : jCA p s m #[Value.ref a0] c cL_law 4 wsL_law RL b cy D tU) (hX : va_X a0 L xs s s.heap) (hbl : a0 < s.heap.size) (hbA : ¬ jA b a0) (w : jDA b cy D g s H locs) (h0 : 0 < gN g ∧ gK g 0 = 10) (h1 : 37 < gN g ∧ gK g 37 = 11) (hin : vp_in (x3 + 1) L ∧ vp_in (x3 + 2) L ∧ vp_in (x3 + 3) L ∧ vp_in (x3 + 4) L) (hl : lv_has ls 4 [(0, .ref a0), (1, .ref (b + 0)), (2, .ref (b + 37)), (3, .int x3)]) (hc1 : c1 ≤ 600000 ∧ s1 ≤ 7302250) (h : Lw_21 Inv g (xs (x3 + 1).toNatClampNeg) (xs (x3 + 2).toNatClampNeg) (xs (x3 + 3).toNatClampNeg)) (kk : ∀ {H : Heap} {locs : List Loc} {i : jI} {j : jL}, jDA b cy D (gsi g i j) s H locs → Inv (gsi g i j) → W p l e room_1 s m #[Value.ref a0] below meth c H locs c1 s1 Q (F0 m 1032 ls [])) : W p l e room_1 s m #[Value.ref a0] below meth c H locs c1 s1 Q (F0 m 847 ls []) := by
  obtain ⟨hx, hb, hml, hown, hts, hst⟩ := id C0
  obtain ⟨hc1, hs1⟩ := hc1
  rw [Lw_21] at h
  refine lv_aload_n hx hb dL_law_847 rfl (lv_at hl 1 rfl) ?_
  refine lv_aload_n hx hb dL_law_848 rfl (lv_at hl 0 rfl) ?_
  refine lv_iload_n hx hb dL_law_849 rfl (lv_at hl 3 rfl) ?_
  refine lv_iconst (v := (1 : Int32)) hx hb dL_law_850 (by decide) ?_
  refine lv_iadd hx hb dL_law_851 ?_
  refine va_sld hx hb hX hbl hbA w.1.2.2 hin.1 dL_law_852 ?_
  refine lv_aload_n hx hb dL_law_853 rfl (lv_at hl 0 rfl) ?_
  refine lv_iload_n hx hb dL_law_854 rfl (lv_at hl 3 rfl) ?_
  refine lv_iconst (v := (2 : Int32)) hx hb dL_law_855 (by decide) ?_
  refine lv_iadd hx hb dL_law_856 ?_
  refine va_sld hx hb hX hbl hbA w.1.2.2 hin.2.1 dL_law_857 ?_
  refine lv_aload_n hx hb dL_law_858 rfl (lv_at hl 0 rfl) ?_
  refine lv_iload_n hx hb dL_law_859 rfl (lv_at hl 3 rfl) ?_
  refine lv_iconst (v := (3 : Int32)) hx hb dL_law_860 (by decide) ?_
  refine lv_iadd hx hb dL_law_861 ?_
  refine va_sld hx hb hX hbl hbA w.1.2.2 hin.2.2.1 dL_law_862 ?_
  refine jcVA_i (k := 0) (As := [.int (xs (x3 + 1).toNatClampNeg), .int (xs (x3 + 2).toNatClampNeg), .int (xs (x3 + 3).toNatClampNeg)]) (rest := []) C0 w (c_X11_print w.2 h0 h) (cwV 3 hts gL_law_X11_print rfl rfl rfl (by decide +kernel) ⟨Nat.le_of_ble_eq_true rfl, Nat.le_of_ble_eq_true rfl⟩) h0 (rfl : vwCl[10]? = some (RX11, TX11, 15)) (by decide) rfl hl.1 rfl (Nat.le_of_ble_eq_true rfl) dL_law_863 (fun q1 iq1 jq1 H locs h w => ?_) ⟨by show _ ≤ 600000; omega, by show _ ≤ 7302250; omega⟩
  refine lv_aload_n hx hb dL_law_866 rfl (lv_at hl 2 rfl) ?_
  refine lv_aload_n hx hb dL_law_867 rfl (lv_at hl 0 rfl) ?_
  refine lv_iload_n hx hb dL_law_868 rfl (lv_at hl 3 rfl) ?_
  refine lv_iconst (v := (1 : Int32)) hx hb dL_law_869 (by decide) ?_
  refine lv_iadd hx hb dL_law_870 ?_
  refine va_sld hx hb hX hbl hbA w.1.2.2 hin.1 dL_law_871 ?_
  refine lv_aload_n hx hb dL_law_872 rfl (lv_at hl 0 rfl) ?_
  refine lv_iload_n hx hb dL_law_873 rfl (lv_at hl 3 rfl) ?_
  refine lv_iconst (v := (2 : Int32)) hx hb dL_law_874 (by decide) ?_
  refine lv_iadd hx hb dL_law_875 ?_
  refine va_sld hx hb hX hbl hbA w.1.2.2 hin.2.1 dL_law_876 ?_
  refine lv_aload_n hx hb dL_law_877 rfl (lv_at hl 0 rfl) ?_
  refine lv_iload_n hx hb dL_law_878 rfl (lv_at hl 3 rfl) ?_
  refine lv_iconst (v := (3 : Int32)) hx hb dL_law_879 (by decide) ?_
  refine lv_iadd hx hb dL_law_880 ?_
  refine va_sld hx hb hX hbl hbA w.1.2.2 hin.2.2.1 dL_law_881 ?_
  refine jcVA_i (k := 37) (As := [.int (xs (x3 + 1).toNatClampNeg), .int (xs (x3 + 2).toNatClampNeg), .int (xs (x3 + 3).toNatClampNeg)]) (rest := [.int q1]) C0 w (c_X12_print w.2 h1 h) (cwV 3 hts gL_law_X12_print rfl rfl rfl (by decide +kernel) ⟨Nat.le_of_ble_eq_true rfl, Nat.le_of_ble_eq_true rfl⟩) h1 (rfl : vwCl[11]? = some (RX12, TX12, 51)) (by decide) rfl hl.1 rfl (Nat.le_of_ble_eq_true rfl) dL_law_882 (fun q2 iq2 jq2 H locs h w => ?_) ⟨by show _ ≤ 600000; omega, by show _ ≤ 7302250; omega⟩
  refine lv_icmp_eq (tgt := 1032) hx hb dL_law_885 (by decide) (fun hc => ?_) (fun hc => ?_)
  · exact kk w h.2
  · exact absurd h.1 hc
def Lw_22 (Inv : jS → Prop) (g : jS) : Prop := J_X11_wipe (gl g) (gr g) (fun q i1 j1 => J_X12_wipe (gl g) (gr g) (fun q2 i2 j2 => q = q2 ∧ Inv (gsi g i2 j2)) i1 j1 37) (gi g) (gj g) 0
set_option maxHeartbeats 4000000 in
set_option maxRecDepth 100000 in
theorem law_c22 {p : Program} {l : Launch} {e : Env} {s : State} {m : MethodId} {below : List Frame} {meth : Method} {c : Code} {b tU a0 L : Nat} {cy : Nat → ClassId} {D : va_G} {xs : Nat → Int32} {Q : State → Prop} {Inv : jS → Prop} {H : Heap} {locs : List Loc} {ls : Array Slot} {g : jS} {x3 : Int32} {c1 s1 : Nat} (C0 : jCA p s m #[Value.ref a0] c cL_law 4 wsL_law RL b cy D tU) (hX : va_X a0 L xs s s.heap) (hbl : a0 < s.heap.size) (hbA : ¬ jA b a0) (w : jDA b cy D g s H locs) (h0 : 0 < gN g ∧ gK g 0 = 10) (h1 : 37 < gN g ∧ gK g 37 = 11) (hin : vp_in (x3 + 1) L ∧ vp_in (x3 + 2) L ∧ vp_in (x3 + 3) L ∧ vp_in (x3 + 4) L) (hl : lv_has ls 4 [(0, .ref a0), (1, .ref (b + 0)), (2, .ref (b + 37)), (3, .int x3)]) (hc1 : c1 ≤ 600000 ∧ s1 ≤ 7302250) (h : Lw_22 Inv g) (kk : ∀ {H : Heap} {locs : List Loc} {i : jI} {j : jL}, jDA b cy D (gsi g i j) s H locs → Inv (gsi g i j) → W p l e room_1 s m #[Value.ref a0] below meth c H locs c1 s1 Q (F0 m 1032 ls [])) : W p l e room_1 s m #[Value.ref a0] below meth c H locs c1 s1 Q (F0 m 890 ls []) := by
  obtain ⟨hx, hb, hml, hown, hts, hst⟩ := id C0
  obtain ⟨hc1, hs1⟩ := hc1
  rw [Lw_22] at h
  refine lv_aload_n hx hb dL_law_890 rfl (lv_at hl 1 rfl) ?_
  refine jcVA_i (k := 0) (As := []) (rest := []) C0 w (c_X11_wipe w.2 h0 h) (cwV 0 hts gL_law_X11_wipe rfl rfl rfl (by decide +kernel) ⟨Nat.le_of_ble_eq_true rfl, Nat.le_of_ble_eq_true rfl⟩) h0 (rfl : vwCl[10]? = some (RX11, TX11, 15)) (by decide) rfl hl.1 rfl (Nat.le_of_ble_eq_true rfl) dL_law_891 (fun q1 iq1 jq1 H locs h w => ?_) ⟨by show _ ≤ 600000; omega, by show _ ≤ 7302250; omega⟩
  refine lv_aload_n hx hb dL_law_894 rfl (lv_at hl 2 rfl) ?_
  refine jcVA_i (k := 37) (As := []) (rest := [.int q1]) C0 w (c_X12_wipe w.2 h1 h) (cwV 0 hts gL_law_X12_wipe rfl rfl rfl (by decide +kernel) ⟨Nat.le_of_ble_eq_true rfl, Nat.le_of_ble_eq_true rfl⟩) h1 (rfl : vwCl[11]? = some (RX12, TX12, 51)) (by decide) rfl hl.1 rfl (Nat.le_of_ble_eq_true rfl) dL_law_895 (fun q2 iq2 jq2 H locs h w => ?_) ⟨by show _ ≤ 600000; omega, by show _ ≤ 7302250; omega⟩
  refine lv_icmp_eq (tgt := 1032) hx hb dL_law_898 (by decide) (fun hc => ?_) (fun hc => ?_)
  · exact kk w h.2
  · exact absurd h.1 hc
def Lw_23 (Inv : jS → Prop) (g : jS) : Prop := J_X11_who (gl g) (gr g) (fun q i1 j1 => J_X12_who (gl g) (gr g) (fun q2 i2 j2 => q = q2 ∧ Inv (gsi g i2 j2)) i1 j1 37) (gi g) (gj g) 0
set_option maxHeartbeats 4000000 in
set_option maxRecDepth 100000 in
theorem law_c23 {p : Program} {l : Launch} {e : Env} {s : State} {m : MethodId} {below : List Frame} {meth : Method} {c : Code} {b tU a0 L : Nat} {cy : Nat → ClassId} {D : va_G} {xs : Nat → Int32} {Q : State → Prop} {Inv : jS → Prop} {H : Heap} {locs : List Loc} {ls : Array Slot} {g : jS} {x3 : Int32} {c1 s1 : Nat} (C0 : jCA p s m #[Value.ref a0] c cL_law 4 wsL_law RL b cy D tU) (hX : va_X a0 L xs s s.heap) (hbl : a0 < s.heap.size) (hbA : ¬ jA b a0) (w : jDA b cy D g s H locs) (h0 : 0 < gN g ∧ gK g 0 = 10) (h1 : 37 < gN g ∧ gK g 37 = 11) (hin : vp_in (x3 + 1) L ∧ vp_in (x3 + 2) L ∧ vp_in (x3 + 3) L ∧ vp_in (x3 + 4) L) (hl : lv_has ls 4 [(0, .ref a0), (1, .ref (b + 0)), (2, .ref (b + 37)), (3, .int x3)]) (hc1 : c1 ≤ 600000 ∧ s1 ≤ 7302250) (h : Lw_23 Inv g) (kk : ∀ {H : Heap} {locs : List Loc} {i : jI} {j : jL}, jDA b cy D (gsi g i j) s H locs → Inv (gsi g i j) → W p l e room_1 s m #[Value.ref a0] below meth c H locs c1 s1 Q (F0 m 1032 ls [])) : W p l e room_1 s m #[Value.ref a0] below meth c H locs c1 s1 Q (F0 m 903 ls []) := by
  obtain ⟨hx, hb, hml, hown, hts, hst⟩ := id C0
  obtain ⟨hc1, hs1⟩ := hc1
  rw [Lw_23] at h
  refine lv_aload_n hx hb dL_law_903 rfl (lv_at hl 1 rfl) ?_
  refine jcVA_i (k := 0) (As := []) (rest := []) C0 w (c_X11_who w.2 h0 h) (cwV 0 hts gL_law_X11_who rfl rfl rfl (by decide +kernel) ⟨Nat.le_of_ble_eq_true rfl, Nat.le_of_ble_eq_true rfl⟩) h0 (rfl : vwCl[10]? = some (RX11, TX11, 15)) (by decide) rfl hl.1 rfl (Nat.le_of_ble_eq_true rfl) dL_law_904 (fun q1 iq1 jq1 H locs h w => ?_) ⟨by show _ ≤ 600000; omega, by show _ ≤ 7302250; omega⟩
  refine lv_aload_n hx hb dL_law_907 rfl (lv_at hl 2 rfl) ?_
  refine jcVA_i (k := 37) (As := []) (rest := [.int q1]) C0 w (c_X12_who w.2 h1 h) (cwV 0 hts gL_law_X12_who rfl rfl rfl (by decide +kernel) ⟨Nat.le_of_ble_eq_true rfl, Nat.le_of_ble_eq_true rfl⟩) h1 (rfl : vwCl[11]? = some (RX12, TX12, 51)) (by decide) rfl hl.1 rfl (Nat.le_of_ble_eq_true rfl) dL_law_908 (fun q2 iq2 jq2 H locs h w => ?_) ⟨by show _ ≤ 600000; omega, by show _ ≤ 7302250; omega⟩
  refine lv_icmp_eq (tgt := 1032) hx hb dL_law_911 (by decide) (fun hc => ?_) (fun hc => ?_)
  · exact kk w h.2
  · exact absurd h.1 hc
def Lw_24 (Inv : jS → Prop) (g : jS) (y1 : Int32) (y2 : Int32) (y3 : Int32) (y4 : Int32) : Prop := J_X11_walk (gl g) (gr g) (fun q i1 j1 => J_X12_walk (gl g) (gr g) (fun q2 i2 j2 => q = q2 ∧ Inv (gsi g i2 j2)) i1 j1 37 y1 y2 y3 y4) (gi g) (gj g) 0 y1 y2 y3 y4
set_option maxHeartbeats 4000000 in
set_option maxRecDepth 100000 in
theorem law_c24 {p : Program} {l : Launch} {e : Env} {s : State} {m : MethodId} {below : List Frame} {meth : Method} {c : Code} {b tU a0 L : Nat} {cy : Nat → ClassId} {D : va_G} {xs : Nat → Int32} {Q : State → Prop} {Inv : jS → Prop} {H : Heap} {locs : List Loc} {ls : Array Slot} {g : jS} {x3 : Int32} {c1 s1 : Nat} (C0 : jCA p s m #[Value.ref a0] c cL_law 4 wsL_law RL b cy D tU) (hX : va_X a0 L xs s s.heap) (hbl : a0 < s.heap.size) (hbA : ¬ jA b a0) (w : jDA b cy D g s H locs) (h0 : 0 < gN g ∧ gK g 0 = 10) (h1 : 37 < gN g ∧ gK g 37 = 11) (hin : vp_in (x3 + 1) L ∧ vp_in (x3 + 2) L ∧ vp_in (x3 + 3) L ∧ vp_in (x3 + 4) L) (hl : lv_has ls 4 [(0, .ref a0), (1, .ref (b + 0)), (2, .ref (b + 37)), (3, .int x3)]) (hc1 : c1 ≤ 600000 ∧ s1 ≤ 7302250) (h : Lw_24 Inv g (xs (x3 + 1).toNatClampNeg) (xs (x3 + 2).toNatClampNeg) (xs (x3 + 3).toNatClampNeg) (xs (x3 + 4).toNatClampNeg)) (kk : ∀ {H : Heap} {locs : List Loc} {i : jI} {j : jL}, jDA b cy D (gsi g i j) s H locs → Inv (gsi g i j) → W p l e room_1 s m #[Value.ref a0] below meth c H locs c1 s1 Q (F0 m 1032 ls [])) : W p l e room_1 s m #[Value.ref a0] below meth c H locs c1 s1 Q (F0 m 916 ls []) := by
  obtain ⟨hx, hb, hml, hown, hts, hst⟩ := id C0
  obtain ⟨hc1, hs1⟩ := hc1
  rw [Lw_24] at h
  refine lv_aload_n hx hb dL_law_916 rfl (lv_at hl 1 rfl) ?_
  refine lv_aload_n hx hb dL_law_917 rfl (lv_at hl 0 rfl) ?_
  refine lv_iload_n hx hb dL_law_918 rfl (lv_at hl 3 rfl) ?_
  refine lv_iconst (v := (1 : Int32)) hx hb dL_law_919 (by decide) ?_
  refine lv_iadd hx hb dL_law_920 ?_
  refine va_sld hx hb hX hbl hbA w.1.2.2 hin.1 dL_law_921 ?_
  refine lv_aload_n hx hb dL_law_922 rfl (lv_at hl 0 rfl) ?_
  refine lv_iload_n hx hb dL_law_923 rfl (lv_at hl 3 rfl) ?_
  refine lv_iconst (v := (2 : Int32)) hx hb dL_law_924 (by decide) ?_
  refine lv_iadd hx hb dL_law_925 ?_
  refine va_sld hx hb hX hbl hbA w.1.2.2 hin.2.1 dL_law_926 ?_
  refine lv_aload_n hx hb dL_law_927 rfl (lv_at hl 0 rfl) ?_
  refine lv_iload_n hx hb dL_law_928 rfl (lv_at hl 3 rfl) ?_
  refine lv_iconst (v := (3 : Int32)) hx hb dL_law_929 (by decide) ?_
  refine lv_iadd hx hb dL_law_930 ?_
  refine va_sld hx hb hX hbl hbA w.1.2.2 hin.2.2.1 dL_law_931 ?_
  refine lv_aload_n hx hb dL_law_932 rfl (lv_at hl 0 rfl) ?_
  refine lv_iload_n hx hb dL_law_933 rfl (lv_at hl 3 rfl) ?_
  refine lv_iconst (v := (4 : Int32)) hx hb dL_law_934 (by decide) ?_
  refine lv_iadd hx hb dL_law_935 ?_
  refine va_sld hx hb hX hbl hbA w.1.2.2 hin.2.2.2 dL_law_936 ?_
  refine jcVA_i (k := 0) (As := [.int (xs (x3 + 1).toNatClampNeg), .int (xs (x3 + 2).toNatClampNeg), .int (xs (x3 + 3).toNatClampNeg), .int (xs (x3 + 4).toNatClampNeg)]) (rest := []) C0 w (c_X11_walk w.2 h0 h) (cwV 4 hts gL_law_X11_walk rfl rfl rfl (by decide +kernel) ⟨Nat.le_of_ble_eq_true rfl, Nat.le_of_ble_eq_true rfl⟩) h0 (rfl : vwCl[10]? = some (RX11, TX11, 15)) (by decide) rfl hl.1 rfl (Nat.le_of_ble_eq_true rfl) dL_law_937 (fun q1 iq1 jq1 H locs h w => ?_) ⟨by show _ ≤ 600000; omega, by show _ ≤ 7302250; omega⟩
  refine lv_aload_n hx hb dL_law_940 rfl (lv_at hl 2 rfl) ?_
  refine lv_aload_n hx hb dL_law_941 rfl (lv_at hl 0 rfl) ?_
  refine lv_iload_n hx hb dL_law_942 rfl (lv_at hl 3 rfl) ?_
  refine lv_iconst (v := (1 : Int32)) hx hb dL_law_943 (by decide) ?_
  refine lv_iadd hx hb dL_law_944 ?_
  refine va_sld hx hb hX hbl hbA w.1.2.2 hin.1 dL_law_945 ?_
  refine lv_aload_n hx hb dL_law_946 rfl (lv_at hl 0 rfl) ?_
  refine lv_iload_n hx hb dL_law_947 rfl (lv_at hl 3 rfl) ?_
  refine lv_iconst (v := (2 : Int32)) hx hb dL_law_948 (by decide) ?_
  refine lv_iadd hx hb dL_law_949 ?_
  refine va_sld hx hb hX hbl hbA w.1.2.2 hin.2.1 dL_law_950 ?_
  refine lv_aload_n hx hb dL_law_951 rfl (lv_at hl 0 rfl) ?_
  refine lv_iload_n hx hb dL_law_952 rfl (lv_at hl 3 rfl) ?_
  refine lv_iconst (v := (3 : Int32)) hx hb dL_law_953 (by decide) ?_
  refine lv_iadd hx hb dL_law_954 ?_
  refine va_sld hx hb hX hbl hbA w.1.2.2 hin.2.2.1 dL_law_955 ?_
  refine lv_aload_n hx hb dL_law_956 rfl (lv_at hl 0 rfl) ?_
  refine lv_iload_n hx hb dL_law_957 rfl (lv_at hl 3 rfl) ?_
  refine lv_iconst (v := (4 : Int32)) hx hb dL_law_958 (by decide) ?_
  refine lv_iadd hx hb dL_law_959 ?_
  refine va_sld hx hb hX hbl hbA w.1.2.2 hin.2.2.2 dL_law_960 ?_
  refine jcVA_i (k := 37) (As := [.int (xs (x3 + 1).toNatClampNeg), .int (xs (x3 + 2).toNatClampNeg), .int (xs (x3 + 3).toNatClampNeg), .int (xs (x3 + 4).toNatClampNeg)]) (rest := [.int q1]) C0 w (c_X12_walk w.2 h1 h) (cwV 4 hts gL_law_X12_walk rfl rfl rfl (by decide +kernel) ⟨Nat.le_of_ble_eq_true rfl, Nat.le_of_ble_eq_true rfl⟩) h1 (rfl : vwCl[11]? = some (RX12, TX12, 51)) (by decide) rfl hl.1 rfl (Nat.le_of_ble_eq_true rfl) dL_law_961 (fun q2 iq2 jq2 H locs h w => ?_) ⟨by show _ ≤ 600000; omega, by show _ ≤ 7302250; omega⟩
  refine lv_icmp_eq (tgt := 1032) hx hb dL_law_964 (by decide) (fun hc => ?_) (fun hc => ?_)
  · exact kk w h.2
  · exact absurd h.1 hc
def Lw_25 (Inv : jS → Prop) (g : jS) : Prop := J_X11_image (gl g) (gr g) (fun q i1 j1 => J_X12_image (gl g) (gr g) (fun q2 i2 j2 => q = q2 ∧ Inv (gsi g i2 j2)) i1 j1 37) (gi g) (gj g) 0
set_option maxHeartbeats 4000000 in
set_option maxRecDepth 100000 in
theorem law_c25 {p : Program} {l : Launch} {e : Env} {s : State} {m : MethodId} {below : List Frame} {meth : Method} {c : Code} {b tU a0 L : Nat} {cy : Nat → ClassId} {D : va_G} {xs : Nat → Int32} {Q : State → Prop} {Inv : jS → Prop} {H : Heap} {locs : List Loc} {ls : Array Slot} {g : jS} {x3 : Int32} {c1 s1 : Nat} (C0 : jCA p s m #[Value.ref a0] c cL_law 4 wsL_law RL b cy D tU) (hX : va_X a0 L xs s s.heap) (hbl : a0 < s.heap.size) (hbA : ¬ jA b a0) (w : jDA b cy D g s H locs) (h0 : 0 < gN g ∧ gK g 0 = 10) (h1 : 37 < gN g ∧ gK g 37 = 11) (hin : vp_in (x3 + 1) L ∧ vp_in (x3 + 2) L ∧ vp_in (x3 + 3) L ∧ vp_in (x3 + 4) L) (hl : lv_has ls 4 [(0, .ref a0), (1, .ref (b + 0)), (2, .ref (b + 37)), (3, .int x3)]) (hc1 : c1 ≤ 600000 ∧ s1 ≤ 7302250) (h : Lw_25 Inv g) (kk : ∀ {H : Heap} {locs : List Loc} {i : jI} {j : jL}, jDA b cy D (gsi g i j) s H locs → Inv (gsi g i j) → W p l e room_1 s m #[Value.ref a0] below meth c H locs c1 s1 Q (F0 m 1032 ls [])) : W p l e room_1 s m #[Value.ref a0] below meth c H locs c1 s1 Q (F0 m 969 ls []) := by
  obtain ⟨hx, hb, hml, hown, hts, hst⟩ := id C0
  obtain ⟨hc1, hs1⟩ := hc1
  rw [Lw_25] at h
  refine lv_aload_n hx hb dL_law_969 rfl (lv_at hl 1 rfl) ?_
  refine jcVA_i (k := 0) (As := []) (rest := []) C0 w (c_X11_image w.2 h0 h) (cwV 0 hts gL_law_X11_image rfl rfl rfl (by decide +kernel) ⟨Nat.le_of_ble_eq_true rfl, Nat.le_of_ble_eq_true rfl⟩) h0 (rfl : vwCl[10]? = some (RX11, TX11, 15)) (by decide) rfl hl.1 rfl (Nat.le_of_ble_eq_true rfl) dL_law_970 (fun q1 iq1 jq1 H locs h w => ?_) ⟨by show _ ≤ 600000; omega, by show _ ≤ 7302250; omega⟩
  refine lv_aload_n hx hb dL_law_973 rfl (lv_at hl 2 rfl) ?_
  refine jcVA_i (k := 37) (As := []) (rest := [.int q1]) C0 w (c_X12_image w.2 h1 h) (cwV 0 hts gL_law_X12_image rfl rfl rfl (by decide +kernel) ⟨Nat.le_of_ble_eq_true rfl, Nat.le_of_ble_eq_true rfl⟩) h1 (rfl : vwCl[11]? = some (RX12, TX12, 51)) (by decide) rfl hl.1 rfl (Nat.le_of_ble_eq_true rfl) dL_law_974 (fun q2 iq2 jq2 H locs h w => ?_) ⟨by show _ ≤ 600000; omega, by show _ ≤ 7302250; omega⟩
  refine lv_icmp_eq (tgt := 1032) hx hb dL_law_977 (by decide) (fun hc => ?_) (fun hc => ?_)
  · exact kk w h.2
  · exact absurd h.1 hc
def Lw_26 (Inv : jS → Prop) (g : jS) : Prop := J_X11_restore (gl g) (gr g) (fun q i1 j1 => J_X12_restore (gl g) (gr g) (fun q2 i2 j2 => q = q2 ∧ Inv (gsi g i2 j2)) i1 j1 37) (gi g) (gj g) 0
set_option maxHeartbeats 4000000 in
set_option maxRecDepth 100000 in
theorem law_c26 {p : Program} {l : Launch} {e : Env} {s : State} {m : MethodId} {below : List Frame} {meth : Method} {c : Code} {b tU a0 L : Nat} {cy : Nat → ClassId} {D : va_G} {xs : Nat → Int32} {Q : State → Prop} {Inv : jS → Prop} {H : Heap} {locs : List Loc} {ls : Array Slot} {g : jS} {x3 : Int32} {c1 s1 : Nat} (C0 : jCA p s m #[Value.ref a0] c cL_law 4 wsL_law RL b cy D tU) (hX : va_X a0 L xs s s.heap) (hbl : a0 < s.heap.size) (hbA : ¬ jA b a0) (w : jDA b cy D g s H locs) (h0 : 0 < gN g ∧ gK g 0 = 10) (h1 : 37 < gN g ∧ gK g 37 = 11) (hin : vp_in (x3 + 1) L ∧ vp_in (x3 + 2) L ∧ vp_in (x3 + 3) L ∧ vp_in (x3 + 4) L) (hl : lv_has ls 4 [(0, .ref a0), (1, .ref (b + 0)), (2, .ref (b + 37)), (3, .int x3)]) (hc1 : c1 ≤ 600000 ∧ s1 ≤ 7302250) (h : Lw_26 Inv g) (kk : ∀ {H : Heap} {locs : List Loc} {i : jI} {j : jL}, jDA b cy D (gsi g i j) s H locs → Inv (gsi g i j) → W p l e room_1 s m #[Value.ref a0] below meth c H locs c1 s1 Q (F0 m 1032 ls [])) : W p l e room_1 s m #[Value.ref a0] below meth c H locs c1 s1 Q (F0 m 982 ls []) := by
  obtain ⟨hx, hb, hml, hown, hts, hst⟩ := id C0
  obtain ⟨hc1, hs1⟩ := hc1
  rw [Lw_26] at h
  refine lv_aload_n hx hb dL_law_982 rfl (lv_at hl 1 rfl) ?_
  refine jcVA_i (k := 0) (As := []) (rest := []) C0 w (c_X11_restore w.2 h0 h) (cwV 0 hts gL_law_X11_restore rfl rfl rfl (by decide +kernel) ⟨Nat.le_of_ble_eq_true rfl, Nat.le_of_ble_eq_true rfl⟩) h0 (rfl : vwCl[10]? = some (RX11, TX11, 15)) (by decide) rfl hl.1 rfl (Nat.le_of_ble_eq_true rfl) dL_law_983 (fun q1 iq1 jq1 H locs h w => ?_) ⟨by show _ ≤ 600000; omega, by show _ ≤ 7302250; omega⟩
  refine lv_aload_n hx hb dL_law_986 rfl (lv_at hl 2 rfl) ?_
  refine jcVA_i (k := 37) (As := []) (rest := [.int q1]) C0 w (c_X12_restore w.2 h1 h) (cwV 0 hts gL_law_X12_restore rfl rfl rfl (by decide +kernel) ⟨Nat.le_of_ble_eq_true rfl, Nat.le_of_ble_eq_true rfl⟩) h1 (rfl : vwCl[11]? = some (RX12, TX12, 51)) (by decide) rfl hl.1 rfl (Nat.le_of_ble_eq_true rfl) dL_law_987 (fun q2 iq2 jq2 H locs h w => ?_) ⟨by show _ ≤ 600000; omega, by show _ ≤ 7302250; omega⟩
  refine lv_icmp_eq (tgt := 1032) hx hb dL_law_990 (by decide) (fun hc => ?_) (fun hc => ?_)
  · exact kk w h.2
  · exact absurd h.1 hc
def Lw_27 (Inv : jS → Prop) (g : jS) (y1 : Int32) : Prop := J_X11_count (gl g) (gr g) (fun q i1 j1 => J_X12_count (gl g) (gr g) (fun q2 i2 j2 => q = q2 ∧ Inv (gsi g i2 j2)) i1 j1 37 y1) (gi g) (gj g) 0 y1
set_option maxHeartbeats 4000000 in
set_option maxRecDepth 100000 in
theorem law_c27 {p : Program} {l : Launch} {e : Env} {s : State} {m : MethodId} {below : List Frame} {meth : Method} {c : Code} {b tU a0 L : Nat} {cy : Nat → ClassId} {D : va_G} {xs : Nat → Int32} {Q : State → Prop} {Inv : jS → Prop} {H : Heap} {locs : List Loc} {ls : Array Slot} {g : jS} {x3 : Int32} {c1 s1 : Nat} (C0 : jCA p s m #[Value.ref a0] c cL_law 4 wsL_law RL b cy D tU) (hX : va_X a0 L xs s s.heap) (hbl : a0 < s.heap.size) (hbA : ¬ jA b a0) (w : jDA b cy D g s H locs) (h0 : 0 < gN g ∧ gK g 0 = 10) (h1 : 37 < gN g ∧ gK g 37 = 11) (hin : vp_in (x3 + 1) L ∧ vp_in (x3 + 2) L ∧ vp_in (x3 + 3) L ∧ vp_in (x3 + 4) L) (hl : lv_has ls 4 [(0, .ref a0), (1, .ref (b + 0)), (2, .ref (b + 37)), (3, .int x3)]) (hc1 : c1 ≤ 600000 ∧ s1 ≤ 7302250) (h : Lw_27 Inv g (xs (x3 + 1).toNatClampNeg)) (kk : ∀ {H : Heap} {locs : List Loc} {i : jI} {j : jL}, jDA b cy D (gsi g i j) s H locs → Inv (gsi g i j) → W p l e room_1 s m #[Value.ref a0] below meth c H locs c1 s1 Q (F0 m 1032 ls [])) : W p l e room_1 s m #[Value.ref a0] below meth c H locs c1 s1 Q (F0 m 995 ls []) := by
  obtain ⟨hx, hb, hml, hown, hts, hst⟩ := id C0
  obtain ⟨hc1, hs1⟩ := hc1
  rw [Lw_27] at h
  refine lv_aload_n hx hb dL_law_995 rfl (lv_at hl 1 rfl) ?_
  refine lv_aload_n hx hb dL_law_996 rfl (lv_at hl 0 rfl) ?_
  refine lv_iload_n hx hb dL_law_997 rfl (lv_at hl 3 rfl) ?_
  refine lv_iconst (v := (1 : Int32)) hx hb dL_law_998 (by decide) ?_
  refine lv_iadd hx hb dL_law_999 ?_
  refine va_sld hx hb hX hbl hbA w.1.2.2 hin.1 dL_law_1000 ?_
  refine jcVA_i (k := 0) (As := [.int (xs (x3 + 1).toNatClampNeg)]) (rest := []) C0 w (c_X11_count w.2 h0 h) (cwV 1 hts gL_law_X11_count rfl rfl rfl (by decide +kernel) ⟨Nat.le_of_ble_eq_true rfl, Nat.le_of_ble_eq_true rfl⟩) h0 (rfl : vwCl[10]? = some (RX11, TX11, 15)) (by decide) rfl hl.1 rfl (Nat.le_of_ble_eq_true rfl) dL_law_1001 (fun q1 iq1 jq1 H locs h w => ?_) ⟨by show _ ≤ 600000; omega, by show _ ≤ 7302250; omega⟩
  refine lv_aload_n hx hb dL_law_1004 rfl (lv_at hl 2 rfl) ?_
  refine lv_aload_n hx hb dL_law_1005 rfl (lv_at hl 0 rfl) ?_
  refine lv_iload_n hx hb dL_law_1006 rfl (lv_at hl 3 rfl) ?_
  refine lv_iconst (v := (1 : Int32)) hx hb dL_law_1007 (by decide) ?_
  refine lv_iadd hx hb dL_law_1008 ?_
  refine va_sld hx hb hX hbl hbA w.1.2.2 hin.1 dL_law_1009 ?_
  refine jcVA_i (k := 37) (As := [.int (xs (x3 + 1).toNatClampNeg)]) (rest := [.int q1]) C0 w (c_X12_count w.2 h1 h) (cwV 1 hts gL_law_X12_count rfl rfl rfl (by decide +kernel) ⟨Nat.le_of_ble_eq_true rfl, Nat.le_of_ble_eq_true rfl⟩) h1 (rfl : vwCl[11]? = some (RX12, TX12, 51)) (by decide) rfl hl.1 rfl (Nat.le_of_ble_eq_true rfl) dL_law_1010 (fun q2 iq2 jq2 H locs h w => ?_) ⟨by show _ ≤ 600000; omega, by show _ ≤ 7302250; omega⟩
  refine lv_icmp_eq (tgt := 1032) hx hb dL_law_1013 (by decide) (fun hc => ?_) (fun hc => ?_)
  · exact kk w h.2
  · exact absurd h.1 hc
def Lw_28 (Inv : jS → Prop) (g : jS) : Prop := J_X11_digest (gl g) (gr g) (fun q i1 j1 => J_X12_digest (gl g) (gr g) (fun q2 i2 j2 => q = q2 ∧ Inv (gsi g i2 j2)) i1 j1 37) (gi g) (gj g) 0
set_option maxHeartbeats 4000000 in
set_option maxRecDepth 100000 in
theorem law_c28 {p : Program} {l : Launch} {e : Env} {s : State} {m : MethodId} {below : List Frame} {meth : Method} {c : Code} {b tU a0 L : Nat} {cy : Nat → ClassId} {D : va_G} {xs : Nat → Int32} {Q : State → Prop} {Inv : jS → Prop} {H : Heap} {locs : List Loc} {ls : Array Slot} {g : jS} {x3 : Int32} {c1 s1 : Nat} (C0 : jCA p s m #[Value.ref a0] c cL_law 4 wsL_law RL b cy D tU) (hX : va_X a0 L xs s s.heap) (hbl : a0 < s.heap.size) (hbA : ¬ jA b a0) (w : jDA b cy D g s H locs) (h0 : 0 < gN g ∧ gK g 0 = 10) (h1 : 37 < gN g ∧ gK g 37 = 11) (hin : vp_in (x3 + 1) L ∧ vp_in (x3 + 2) L ∧ vp_in (x3 + 3) L ∧ vp_in (x3 + 4) L) (hl : lv_has ls 4 [(0, .ref a0), (1, .ref (b + 0)), (2, .ref (b + 37)), (3, .int x3)]) (hc1 : c1 ≤ 600000 ∧ s1 ≤ 7302250) (h : Lw_28 Inv g) (kk : ∀ {H : Heap} {locs : List Loc} {i : jI} {j : jL}, jDA b cy D (gsi g i j) s H locs → Inv (gsi g i j) → W p l e room_1 s m #[Value.ref a0] below meth c H locs c1 s1 Q (F0 m 1032 ls [])) : W p l e room_1 s m #[Value.ref a0] below meth c H locs c1 s1 Q (F0 m 1018 ls []) := by
  obtain ⟨hx, hb, hml, hown, hts, hst⟩ := id C0
  obtain ⟨hc1, hs1⟩ := hc1
  rw [Lw_28] at h
  refine lv_aload_n hx hb dL_law_1018 rfl (lv_at hl 1 rfl) ?_
  refine jcVA_l (k := 0) (As := []) (rest := []) C0 w (c_X11_digest w.2 h0 h) (cwV 0 hts gL_law_X11_digest rfl rfl rfl (by decide +kernel) ⟨Nat.le_of_ble_eq_true rfl, Nat.le_of_ble_eq_true rfl⟩) h0 (rfl : vwCl[10]? = some (RX11, TX11, 15)) (by decide) rfl hl.1 rfl (Nat.le_of_ble_eq_true rfl) dL_law_1019 (fun q1 iq1 jq1 H locs h w => ?_) ⟨by show _ ≤ 600000; omega, by show _ ≤ 7302250; omega⟩
  refine lv_aload_n hx hb dL_law_1022 rfl (lv_at hl 2 rfl) ?_
  refine jcVA_l (k := 37) (As := []) (rest := [.long q1]) C0 w (c_X12_digest w.2 h1 h) (cwV 0 hts gL_law_X12_digest rfl rfl rfl (by decide +kernel) ⟨Nat.le_of_ble_eq_true rfl, Nat.le_of_ble_eq_true rfl⟩) h1 (rfl : vwCl[11]? = some (RX12, TX12, 51)) (by decide) rfl hl.1 rfl (Nat.le_of_ble_eq_true rfl) dL_law_1023 (fun q2 iq2 jq2 H locs h w => ?_) ⟨by show _ ≤ 600000; omega, by show _ ≤ 7302250; omega⟩
  refine W.lcmp hx hb dL_law_1026 ?_
  refine lv_if_eq (tgt := 1032) hx hb dL_law_1027 (by decide) (fun hc => ?_) (fun hc => ?_)
  · exact kk w h.2
  · exact absurd (jlcmp h.1) hc
def Lw_19n (Inv : jS → Prop) (g : jS) (y1 : Int32) (y2 : Int32) (y3 : Int32) : Prop := J_X11_both_new (fun q g1 => J_X12_both (gl g1) (gr g1) (fun q2 i2 j2 => q = q2 ∧ Inv (gsi g1 i2 j2)) (gi g1) (gj g1) 37 y1 y2 y3) g 0 y1 y2 y3
set_option maxHeartbeats 4000000 in
set_option maxRecDepth 100000 in
theorem law_c19n {p : Program} {l : Launch} {e : Env} {s : State} {m : MethodId} {below : List Frame} {meth : Method} {c : Code} {b tU a0 L : Nat} {cy : Nat → ClassId} {D : va_G} {xs : Nat → Int32} {Q : State → Prop} {Inv : jS → Prop} {H : Heap} {locs : List Loc} {ls : Array Slot} {g : jS} {x3 : Int32} {c1 s1 : Nat} (C0 : jCA p s m #[Value.ref a0] c cL_law 4 wsL_law RL b cy D tU) (hX : va_X a0 L xs s s.heap) (hbl : a0 < s.heap.size) (hbA : ¬ jA b a0) (w : jDA b cy D g s H locs) (h0 : 0 < gN g ∧ gK g 0 = 10) (h1 : 37 < gN g ∧ gK g 37 = 11) (hin : vp_in (x3 + 1) L ∧ vp_in (x3 + 2) L ∧ vp_in (x3 + 3) L ∧ vp_in (x3 + 4) L) (hl : lv_has ls 4 [(0, .ref a0), (1, .ref (b + 0)), (2, .ref (b + 37)), (3, .int x3)]) (hc1 : c1 + 6 ≤ 600000 ∧ s1 + 14006 ≤ 7302250) (h : Lw_19n Inv g (xs (x3 + 1).toNatClampNeg) (xs (x3 + 2).toNatClampNeg) (xs (x3 + 3).toNatClampNeg)) (kk : ∀ {H : Heap} {locs : List Loc} {g1 : jS}, jDA b cy D g1 s H locs → Inv g1 → W p l e room_1 s m #[Value.ref a0] below meth c H locs (c1 + 6) (s1 + 14006) Q (F0 m 1032 ls [])) : W p l e room_1 s m #[Value.ref a0] below meth c H locs c1 s1 Q (F0 m 771 ls []) := by
  obtain ⟨hx, hb, hml, hown, hts, hst⟩ := id C0
  obtain ⟨hc1, hs1⟩ := hc1
  rw [Lw_19n] at h
  refine lv_aload_n hx hb dL_law_771 rfl (lv_at hl 1 rfl) ?_
  refine lv_aload_n hx hb dL_law_772 rfl (lv_at hl 0 rfl) ?_
  refine lv_iload_n hx hb dL_law_773 rfl (lv_at hl 3 rfl) ?_
  refine lv_iconst (v := (1 : Int32)) hx hb dL_law_774 (by decide) ?_
  refine lv_iadd hx hb dL_law_775 ?_
  refine va_sld hx hb hX hbl hbA w.1.2.2 hin.1 dL_law_776 ?_
  refine lv_aload_n hx hb dL_law_777 rfl (lv_at hl 0 rfl) ?_
  refine lv_iload_n hx hb dL_law_778 rfl (lv_at hl 3 rfl) ?_
  refine lv_iconst (v := (2 : Int32)) hx hb dL_law_779 (by decide) ?_
  refine lv_iadd hx hb dL_law_780 ?_
  refine va_sld hx hb hX hbl hbA w.1.2.2 hin.2.1 dL_law_781 ?_
  refine lv_aload_n hx hb dL_law_782 rfl (lv_at hl 0 rfl) ?_
  refine lv_iload_n hx hb dL_law_783 rfl (lv_at hl 3 rfl) ?_
  refine lv_iconst (v := (3 : Int32)) hx hb dL_law_784 (by decide) ?_
  refine lv_iadd hx hb dL_law_785 ?_
  refine va_sld hx hb hX hbl hbA w.1.2.2 hin.2.2.1 dL_law_786 ?_
  refine jcVB (k := 0) (As := [.int (xs (x3 + 1).toNatClampNeg), .int (xs (x3 + 2).toNatClampNeg), .int (xs (x3 + 3).toNatClampNeg)]) (rest := []) (mc := 6) (ms := 14006) C0 w (c_X11_both_new h0 h) (cwV 3 hts gL_law_X11_both rfl rfl rfl (by decide +kernel) ⟨Nat.le_of_ble_eq_true rfl, Nat.le_of_ble_eq_true rfl⟩) h0 (rfl : vwCl[10]? = some (RX11, TX11, 15)) (by decide) rfl hl.1 rfl (Nat.le_of_ble_eq_true rfl) dL_law_787 (fun q1 g1 H locs h hE w => ?_) ⟨by show c1 + 6 ≤ 600000; omega, by show s1 + 14006 ≤ 7302250; omega⟩
  replace h0 := hE.at h0
  replace h1 := hE.at h1
  clear hE
  refine lv_aload_n hx hb dL_law_790 rfl (lv_at hl 2 rfl) ?_
  refine lv_aload_n hx hb dL_law_791 rfl (lv_at hl 0 rfl) ?_
  refine lv_iload_n hx hb dL_law_792 rfl (lv_at hl 3 rfl) ?_
  refine lv_iconst (v := (1 : Int32)) hx hb dL_law_793 (by decide) ?_
  refine lv_iadd hx hb dL_law_794 ?_
  refine va_sld hx hb hX hbl hbA w.1.2.2 hin.1 dL_law_795 ?_
  refine lv_aload_n hx hb dL_law_796 rfl (lv_at hl 0 rfl) ?_
  refine lv_iload_n hx hb dL_law_797 rfl (lv_at hl 3 rfl) ?_
  refine lv_iconst (v := (2 : Int32)) hx hb dL_law_798 (by decide) ?_
  refine lv_iadd hx hb dL_law_799 ?_
  refine va_sld hx hb hX hbl hbA w.1.2.2 hin.2.1 dL_law_800 ?_
  refine lv_aload_n hx hb dL_law_801 rfl (lv_at hl 0 rfl) ?_
  refine lv_iload_n hx hb dL_law_802 rfl (lv_at hl 3 rfl) ?_
  refine lv_iconst (v := (3 : Int32)) hx hb dL_law_803 (by decide) ?_
  refine lv_iadd hx hb dL_law_804 ?_
  refine va_sld hx hb hX hbl hbA w.1.2.2 hin.2.2.1 dL_law_805 ?_
  refine jcVA_i (k := 37) (As := [.int (xs (x3 + 1).toNatClampNeg), .int (xs (x3 + 2).toNatClampNeg), .int (xs (x3 + 3).toNatClampNeg)]) (rest := [.int q1]) C0 w (c_X12_both w.2 h1 h) (cwV 3 hts gL_law_X12_both rfl rfl rfl (by decide +kernel) ⟨Nat.le_of_ble_eq_true rfl, Nat.le_of_ble_eq_true rfl⟩) h1 (rfl : vwCl[11]? = some (RX12, TX12, 51)) (by decide) rfl hl.1 rfl (Nat.le_of_ble_eq_true rfl) dL_law_806 (fun q2 iq2 jq2 H locs h w => ?_) ⟨by show _ ≤ 600000; omega, by show _ ≤ 7302250; omega⟩
  refine lv_icmp_eq (tgt := 1032) hx hb dL_law_809 (by decide) (fun hc => ?_) (fun hc => ?_)
  · exact kk w h.2
  · exact absurd h.1 hc
