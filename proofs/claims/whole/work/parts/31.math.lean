/-! THE TOWN, in plain numbers. A stand is a number below 378: place + 7 foot + 14 m0 + 42 m1 + 126 m2 (a mark: 0 none, 1 left, 2 right) -/
def mstep (k p : Nat) : Nat := if k = 1 then p + p / 2 else if k = 2 then (p + 1) / 2 else if k = 4 then (p + 1) / 2 + 1 else p
def mturn (k p : Nat) : Nat := if k = 3 then 0 else mstep k p % 2
def mwt (g : Nat) : Nat := if g = 0 then 14 else if g = 1 then 42 else 126
def mmark (st g : Nat) : Nat := st / mwt g % 3
/-- the stand with another place and foot -/
def mmv (st p f : Nat) : Nat := st - st % 7 - 7 * (st / 7 % 2) + 7 * f + p
/-- one step: A first, B second places of the streets; G 0 no gate, g + 1 gate g; T the turn of each street -/
def mbeh (A B G T : Nat → Nat) (fr : Bool) (st s : Nat) : Option Nat :=
  if A s = st % 7 then
    (if G s = 0 then some (mmv st (B s) ((st / 7 + T s) % 2))
     else some (mmv st (B s) ((st / 7 + T s) % 2) - mwt (G s - 1) * mmark st (G s - 1) + mwt (G s - 1) * ((st / 7 + T s) % 2 + 1)))
  else if B s = st % 7 then
    (if G s = 0 then some (mmv st (A s) ((st / 7 + T s) % 2))
     else if mmark st (G s - 1) = (st / 7 + T s) % 2 + 1 ∨ (mmark st (G s - 1) = 0 ∧ fr = true) then some (mmv st (A s) ((st / 7 + T s) % 2)) else none)
  else none
/-- the class's number of a stand -/
def enc (st : Nat) : Nat := (st % 7 * 2 + st / 7 % 2) * 64 + (mmark st 0 + 4 * mmark st 1 + 16 * mmark st 2)
def eo (o : Option Nat) : Int32 := match o with
  | none => -1
  | some st => nI (enc st)
def so (o : Option Nat) : Int32 := match o with
  | none => -1
  | some st => nI st
theorem enc_lt : ∀ st, st < 378 → enc st < 896 := by decide +kernel
theorem enc_inj : ∀ a, a < 378 → ∀ b, b < 378 → enc a = enc b → a = b := by
  intro a ha b hb h
  have key : ∀ a, a < 378 → enc a / 128 + 7 * (enc a / 64 % 2) + 14 * (enc a % 4) + 42 * (enc a / 4 % 4) + 126 * (enc a / 16 % 4) = a := by decide +kernel
  have h1 := key a ha
  have h2 := key b hb
  rw [h] at h1
  exact h1.symm.trans h2
theorem enc_place : ∀ st, st < 378 → nI (enc st) / (128 : Int32) = nI (st % 7) := by decide +kernel
theorem enc_foot : ∀ st, st < 378 → (nI (enc st) / (64 : Int32)) &&& 1 = nI (st / 7 % 2) := by decide +kernel
theorem enc_skip : ∀ st, st < 378 → nI (enc st) ^^^ (64 : Int32) = nI (enc (mmv st (st % 7) (1 - st / 7 % 2))) := by decide +kernel
theorem mmv_lt : ∀ st, st < 378 → ∀ p, p < 7 → ∀ f, f < 2 → mmv st p f < 378 := by decide +kernel
theorem mmv_pl : ∀ st, st < 378 → ∀ p, p < 7 → ∀ f, f < 2 → mmv st p f % 7 = p ∧ mmv st p f / 7 % 2 = f := by decide +kernel
theorem mmv_mk : ∀ st, st < 378 → ∀ p, p < 7 → ∀ f, f < 2 → ∀ g, g < 3 → mmark (mmv st p f) g = mmark st g := by decide +kernel
theorem mgt_lt : ∀ st, st < 378 → ∀ p, p < 7 → ∀ f, f < 2 → ∀ g, g < 3 → mmv st p f - mwt g * mmark st g + mwt g * (f + 1) < 378 := by decide +kernel
/-- the parts of the class's numbers, as its code tells them -/
theorem enc_of : ∀ st, st < 378 → ∀ p, p < 7 → ∀ f, f < 2 → ((nI p * (2 : Int32)) + nI f) * (64 : Int32) + (nI (enc st) &&& (63 : Int32)) = nI (enc (mmv st p f)) := by decide +kernel
theorem enc_mark : ∀ st, st < 378 → ∀ g, g < 3 → ((nI (enc st) >>> (((2 : Int32) * nI g) &&& 31)) &&& (3 : Int32)) - (1 : Int32) = nI (mmark st g) - 1 := by decide +kernel
theorem enc_marked : ∀ st, st < 378 → ∀ p, p < 7 → ∀ f, f < 2 → ∀ g, g < 3 → ((nI p * (2 : Int32)) + nI f) * (64 : Int32) + (((nI (enc st) &&& (63 : Int32)) &&& (((3 : Int32) <<< (((2 : Int32) * nI g) &&& 31)) ^^^ (-1 : Int32))) ||| ((nI f + (1 : Int32)) <<< (((2 : Int32) * nI g) &&& 31))) = nI (enc (mmv st p f - mwt g * mmark st g + mwt g * (f + 1))) := by decide +kernel
