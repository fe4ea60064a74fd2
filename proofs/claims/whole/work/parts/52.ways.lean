/-! WAYS in a graph by labels: a way is a list of labels, the last one first -/
def sU {α : Type} (f : Nat → α) (y : Nat) (v : α) : Nat → α := fun k => if k = y then v else f k
theorem sU_eq {α : Type} {f : Nat → α} {y : Nat} {v : α} : sU f y v y = v := if_pos rfl
theorem sU_ne {α : Type} {f : Nat → α} {y x : Nat} {v : α} (h : x ≠ y) : sU f y v x = f x := if_neg h
section GW
variable {α : Type} {es : α → Nat → Option α} {m : Nat} {wt : Nat → Nat} {s x y : α} {c : Nat}
def gw_run (es : α → Nat → Option α) (s : α) : List Nat → Option α
  | [] => some s
  | a :: l => (gw_run es s l).bind (fun x => es x a)
def gw_sum (wt : Nat → Nat) : List Nat → Nat
  | [] => 0
  | a :: l => gw_sum wt l + wt a
def gw_in (m : Nat) (l : List Nat) : Prop := ∀ a, a ∈ l → a < m
def gw_way (es : α → Nat → Option α) (m : Nat) (wt : Nat → Nat) (s x : α) (c : Nat) : Prop := ∃ l, gw_in m l ∧ gw_run es s l = some x ∧ gw_sum wt l = c
theorem gw_in_nil : gw_in m [] := fun a h => by cases h
theorem gw_in_cons {a : Nat} {l : List Nat} : gw_in m (a :: l) ↔ a < m ∧ gw_in m l := by
  constructor
  · intro h
    exact ⟨h a (List.mem_cons_self ..), fun b hb => h b (List.mem_cons_of_mem _ hb)⟩
  · rintro ⟨h1, h2⟩ b hb
    rcases List.mem_cons.mp hb with e | hb
    · rw [e]; exact h1
    · exact h2 b hb
theorem gw_nil : gw_way es m wt s s 0 := ⟨[], gw_in_nil, rfl, rfl⟩
theorem gw_step {a : Nat} (h : gw_way es m wt s x c) (ha : a < m) (he : es x a = some y) : gw_way es m wt s y (c + wt a) := by
  obtain ⟨l, h1, h2, h3⟩ := h
  refine ⟨a :: l, gw_in_cons.mpr ⟨ha, h1⟩, ?_, ?_⟩
  · rw [gw_run, h2]; exact he
  · rw [gw_sum, h3]
theorem gw_ind {P : α → Nat → Prop} (h0 : P s 0) (hs : ∀ x c a y, gw_way es m wt s x c → P x c → a < m → es x a = some y → P y (c + wt a)) : ∀ {x c}, gw_way es m wt s x c → P x c := by
  have key : ∀ l, gw_in m l → ∀ x, gw_run es s l = some x → P x (gw_sum wt l) := by
    intro l
    induction l with
    | nil => intro _ x hx; cases hx; exact h0
    | cons a l ih =>
      intro hl x hx
      obtain ⟨ha, hl'⟩ := gw_in_cons.mp hl
      rw [gw_run] at hx
      cases hr : gw_run es s l with
      | none => rw [hr] at hx; cases hx
      | some z =>
        rw [hr] at hx
        exact hs z (gw_sum wt l) a x ⟨l, hl', hr, rfl⟩ (ih hl' z hr) ha hx
  rintro x c ⟨l, h1, h2, h3⟩
  rw [← h3]
  exact key l h1 x h2
theorem gw_app : ∀ (l1 l2 : List Nat), gw_run es s (l1 ++ l2) = (gw_run es s l2).bind (fun x => gw_run es x l1) := by
  intro l1
  induction l1 with
  | nil =>
    intro l2
    rw [List.nil_append]
    cases gw_run es s l2 <;> rfl
  | cons a l1 ih =>
    intro l2
    rw [List.cons_append, gw_run, ih l2]
    cases gw_run es s l2 <;> rfl
theorem gw_sum_app (wt : Nat → Nat) : ∀ (l1 l2 : List Nat), gw_sum wt (l1 ++ l2) = gw_sum wt l1 + gw_sum wt l2 := by
  intro l1
  induction l1 with
  | nil => intro l2; rw [List.nil_append, gw_sum, Nat.zero_add]
  | cons a l1 ih => intro l2; rw [List.cons_append, gw_sum, gw_sum, ih l2]; omega
theorem gw_sum_le {B : Nat} (hB : ∀ a, a < m → wt a ≤ B) : ∀ l, gw_in m l → gw_sum wt l ≤ B * l.length := by
  intro l
  induction l with
  | nil => intro _; exact Nat.zero_le _
  | cons a l ih =>
    intro h
    obtain ⟨h1, h2⟩ := gw_in_cons.mp h
    have e1 := hB a h1
    have e2 := ih h2
    rw [gw_sum, List.length_cons, Nat.mul_add, Nat.mul_one]
    omega
/-- two graphs with the same labels -/
theorem gw_map {β : Type} {es2 : β → Nat → Option β} (R : α → β → Prop) {s2 : β} (h0 : R s s2) (hs : ∀ x z, R x z → ∀ a, a < m → (es x a = none ∧ es2 z a = none) ∨ ∃ y w, es x a = some y ∧ es2 z a = some w ∧ R y w) : ∀ l, gw_in m l → (gw_run es s l = none ∧ gw_run es2 s2 l = none) ∨ ∃ y w, gw_run es s l = some y ∧ gw_run es2 s2 l = some w ∧ R y w := by
  intro l
  induction l with
  | nil => intro _; exact Or.inr ⟨s, s2, rfl, rfl, h0⟩
  | cons a l ih =>
    intro h
    obtain ⟨h1, h2⟩ := gw_in_cons.mp h
    rw [gw_run, gw_run]
    rcases ih h2 with ⟨e1, e2⟩ | ⟨y, w, e1, e2, hr⟩
    · rw [e1, e2]; exact Or.inl ⟨rfl, rfl⟩
    · rw [e1, e2]; exact hs y w hr a h1
end GW
section GS
variable {es : Nat → Nat → Option Nat} {m N : Nat} {wt : Nat → Nat} {s x y c : Nat}
theorem gw_lt (hs : s < N) (hN : ∀ x, x < N → ∀ a, a < m → ∀ y, es x a = some y → y < N) : ∀ l, gw_in m l → ∀ x, gw_run es s l = some x → x < N := by
  intro l
  induction l with
  | nil => intro _ x hx; cases hx; exact hs
  | cons a l ih =>
    intro h x hx
    obtain ⟨h1, h2⟩ := gw_in_cons.mp h
    rw [gw_run] at hx
    cases hr : gw_run es s l with
    | none => rw [hr] at hx; cases hx
    | some z => rw [hr] at hx; exact hN z (ih h2 z hr) a h1 x hx
/-- no way need be longer than there are nodes -/
theorem gw_short (hs : s < N) (hN : ∀ x, x < N → ∀ a, a < m → ∀ y, es x a = some y → y < N) : ∀ (n : Nat) (l : List Nat), l.length ≤ n → gw_in m l → gw_run es s l = some x → ∃ l2, gw_in m l2 ∧ gw_run es s l2 = some x ∧ (∀ wt : Nat → Nat, gw_sum wt l2 ≤ gw_sum wt l) ∧ l2.length ≤ N := by
  intro n
  induction n with
  | zero =>
    intro l hl h1 h2
    exact ⟨l, h1, h2, fun _ => Nat.le_refl _, by omega⟩
  | succ n ih =>
    intro l hl h1 h2
    rcases Nat.lt_or_ge N l.length with hlen | hlen
    · have hd : ∀ k, ∃ z, gw_run es s (l.drop k) = some z ∧ z < N := by
        intro k
        have e := h2
        rw [← List.take_append_drop k l, gw_app] at e
        cases hr : gw_run es s (l.drop k) with
        | none => rw [hr] at e; cases e
        | some z => exact ⟨z, rfl, gw_lt hs hN (l.drop k) (fun a ha => h1 a (List.mem_of_mem_drop ha)) z hr⟩
      obtain ⟨i, j, hij, hj, e⟩ := fb_twice (m := N) (n := N + 1) (f := fun k => (gw_run es s (l.drop k)).getD 0) (fun k _ => by
        obtain ⟨z, hz, hz2⟩ := hd k
        show (gw_run es s (l.drop k)).getD 0 < N
        rw [hz]; exact hz2) (Nat.lt_succ_self N)
      obtain ⟨zi, hzi, -⟩ := hd i
      obtain ⟨zj, hzj, -⟩ := hd j
      have e' : zi = zj := by
        have : (gw_run es s (l.drop i)).getD 0 = (gw_run es s (l.drop j)).getD 0 := e
        rw [hzi, hzj] at this
        exact this
      subst e'
      have hin : gw_in m (l.take i ++ l.drop j) := by
        intro a ha
        rcases List.mem_append.mp ha with h | h
        · exact h1 a (List.mem_of_mem_take h)
        · exact h1 a (List.mem_of_mem_drop h)
      have hrun : gw_run es s (l.take i ++ l.drop j) = some x := by
        rw [gw_app, hzj, ← hzi, ← gw_app, List.take_append_drop]
        exact h2
      have hlen2 : (l.take i ++ l.drop j).length ≤ n := by
        rw [List.length_append, List.length_take, List.length_drop]
        omega
      obtain ⟨l2, a1, a2, a3, a4⟩ := ih _ hlen2 hin hrun
      refine ⟨l2, a1, a2, fun wt => Nat.le_trans (a3 wt) ?_, a4⟩
      have e1 : gw_sum wt l = gw_sum wt (l.take i ++ l.drop i) := by rw [List.take_append_drop]
      have e2 : l.drop i = (l.drop i).take (j - i) ++ l.drop j := by
        have := (List.take_append_drop (j - i) (l.drop i)).symm
        rw [List.drop_drop, show i + (j - i) = j by omega] at this
        exact this
      rw [e1, gw_sum_app, gw_sum_app, e2, gw_sum_app]
      omega
    · exact ⟨l, h1, h2, fun _ => Nat.le_refl _, hlen⟩
theorem gw_small {B : Nat} (hs : s < N) (hN : ∀ x, x < N → ∀ a, a < m → ∀ y, es x a = some y → y < N) (hB : ∀ a, a < m → wt a ≤ B) (h : gw_way es m wt s x c) : ∃ c', c' ≤ c ∧ c' ≤ B * N ∧ gw_way es m wt s x c' := by
  obtain ⟨l, h1, h2, h3⟩ := h
  obtain ⟨l2, a1, a2, a3, a4⟩ := gw_short hs hN l.length l (Nat.le_refl _) h1 h2
  refine ⟨gw_sum wt l2, by rw [← h3]; exact a3 wt, Nat.le_trans (gw_sum_le hB l2 a1) (Nat.mul_le_mul_left B a4), l2, a1, a2, rfl⟩
end GS
/-! the least of a set of numbers -/
def gw_ls (C : Nat → Prop) (o : Option Nat) : Prop := match o with
  | none => ∀ c, ¬ C c
  | some c => C c ∧ ∀ c', C c' → c ≤ c'
theorem gw_ls_eq {C : Nat → Prop} {o o' : Option Nat} (h : gw_ls C o) (h' : gw_ls C o') : o = o' := by
  cases o with
  | none =>
    cases o' with
    | none => rfl
    | some c => exact absurd h'.1 (h c)
  | some c =>
    cases o' with
    | none => exact absurd h.1 (h' c)
    | some c' => rw [Nat.le_antisymm (h.2 c' h'.1) (h'.2 c h.1)]
theorem gw_ls_congr {C C' : Nat → Prop} {o : Option Nat} (e : ∀ c, C c ↔ C' c) (h : gw_ls C o) : gw_ls C' o := by
  cases o with
  | none => exact fun c hc => h c ((e c).mpr hc)
  | some c => exact ⟨(e c).mp h.1, fun c' hc => h.2 c' ((e c').mpr hc)⟩
