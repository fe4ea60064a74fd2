section JL0
variable {p : Program} {l : Launch} {e : Env} {R : Room} {s : State} {m : MethodId} {args : Array Value} {below : List Frame} {meth : Method} {c : Code} {H : Heap} {locs : List Loc} {cells slots : Nat} {Q : State → Prop}
variable {cc bytes : ByteArray} {pc nL maxL na mc ms : Nat} {ls : Array Slot} {rest st0 As : List Value} {D : va_G} {b tU : Nat} {cy : Nat → ClassId} {g g0 : jS} {Ts ws : List Cond} {own C : String} {T : u_T} {N ci index k f : Nat} {y : MethodName} {ret : Option FieldType} {rm : Room}
theorem jcVA_l {Qj : Int64 → jI → jL → Prop} (C0 : jCA p s m args c cc nL Ts own b cy D tU) (w : jDA b cy D g s H locs) (hM : Met l y ws rm (va_Pc (.ref (b + k) :: As) (jPre b cy D tU (gN g) (gK g) (gl g) (gr g) (gi g) (gj g))) (jQl b cy D tU (gN g) (gK g) (gl g) (gr g) Qj) 0 0 (jA b)) (cw : CallW R s args own C index y bytes maxL ret ws rm 0 0 na) (hk : k < gN g ∧ gK g k = ci) (hc : vwCl[ci]? = some (C, T, N)) (hci : ci < 12) (hn : As.length = na) (hsz : ls.size = nL) (hstk : st0 = As.reverse ++ .ref (b + k) :: rest) (hroom : (rest.map fun v => v.category).sum ≤ 8) (hdg : decode cc pc = .ok (.invokevirtual index, 3))
    (kk : ∀ (q : Int64) (i1 : jI) (j1 : jL) (H1 : Heap) (locs1 : List Loc), Qj q i1 j1 → jDA b cy D (gsi g i1 j1) s H1 locs1 → W p l e R s m args below meth c H1 locs1 cells slots Q (F0 m (pc + 3) ls (.long q :: rest))) (hf : cells ≤ R.cells ∧ slots ≤ R.slots) : W p l e R s m args below meth c H locs cells slots Q (F0 m pc ls st0) :=
  jcV_l ⟨C0.1, C0.2.1, C0.2.2.1, C0.2.2.2.1, C0.2.2.2.2.1, C0.2.2.2.2.2, w.2⟩ w.1 hM cw hk hc hci hn hsz hstk hroom hdg (fun q i1 j1 H1 locs1 h w1 => kk q i1 j1 H1 locs1 h ⟨w1, w.2⟩) hf
/-- a call that may make cells, with an int for an answer -/
theorem jcVB {Qj : Int32 → jS → Prop} (C0 : jCA p s m args c cc nL Ts own b cy D tU) (w : jDA b cy D g s H locs) (hM : Met l y ws rm (va_Pc (.ref (b + k) :: As) (jPA b cy D tU g)) (jQAi b cy D tU g Qj) mc ms (jA b)) (cw : CallW R s args own C index y bytes maxL ret ws rm mc ms na) (hk : k < gN g ∧ gK g k = ci) (hc : vwCl[ci]? = some (C, T, N)) (hci : ci < 12) (hn : As.length = na) (hsz : ls.size = nL) (hstk : st0 = As.reverse ++ .ref (b + k) :: rest) (hroom : (rest.map fun v => v.category).sum ≤ 8) (hdg : decode cc pc = .ok (.invokevirtual index, 3))
    (kk : ∀ (q : Int32) (g1 : jS) (H1 : Heap) (locs1 : List Loc), Qj q g1 → jEx g g1 → jDA b cy D g1 s H1 locs1 → W p l e R s m args below meth c H1 locs1 (cells + mc) (slots + ms) Q (F0 m (pc + 3) ls (.int q :: rest))) (hf : cells + mc ≤ R.cells ∧ slots + ms ≤ R.slots) : W p l e R s m args below meth c H locs cells slots Q (F0 m pc ls st0) := by
  subst hstk
  obtain ⟨hx, hb, hml, hown, hts, hst⟩ := C0
  refine va_calli (va_runV (As := As) (rest := rest) ⟨hx, hb, hml, hown, hts⟩ hM cw ⟨jBlindA _, va_recv hst.1 w.1.2.1 (ci := ci) (q0 := k) hc ((jW_get hk.1).trans (by rw [jC_obj hk.2 hci])), fun U hU hW => ⟨rfl, jPre.of hst w.1 hU hW, w.2⟩⟩ rfl hn hsz rfl (lv_room hroom) hdg hf) w.1.2.2 (fun _ _ h => h) (fun _ h => h) (fun q u t H1 locs1 ht hvm hp hB hz hk hS => kk q u H1 locs1 hp.1 hp.2 ?_)
  exact ⟨⟨by rw [← ht]; exact hB.1.1, by rw [← ht]; exact hB.1.2.1, hS⟩, hB.2⟩
theorem jlcmp {x y : Int64} (h : x = y) : lg_cmp x y = 0 := by
  subst h
  simp [lg_cmp]
end JL0
