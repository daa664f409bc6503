/-! reading, as a pure thing: tokens of a tape, and an automaton of what waits -/
def blk (x : Int) : Prop := x = 32 ∨ x = 10
def ltr (x : Int) : Prop := 97 ≤ x ∧ x ≤ 122
def dgt (x : Int) : Prop := 48 ≤ x ∧ x ≤ 57
def sg8 (x : Int) : Prop := x = 40 ∨ x = 41 ∨ x = 42 ∨ x = 43 ∨ x = 45 ∨ x = 59 ∨ x = 60 ∨ x = 61
def rowOf (c : Int → Prop) (g : Nat → Int) (n st en : Nat) : Prop := st < en ∧ en ≤ n ∧ (∀ j : Nat, st ≤ j → j < en → c (g j)) ∧ (en < n → ¬ c (g en))
theorem rowOf.uniq {c : Int → Prop} {g : Nat → Int} {n st e1 e2 : Nat} (h1 : rowOf c g n st e1) (h2 : rowOf c g n st e2) : e1 = e2 := by
  obtain ⟨a1, a2, a3, a4⟩ := h1
  obtain ⟨b1, b2, b3, b4⟩ := h2
  rcases Nat.lt_trichotomy e1 e2 with h | h | h
  · exact absurd (b3 e1 (by omega) h) (a4 (by omega))
  · exact h
  · exact absurd (a3 e2 (by omega) h) (b4 (by omega))
/-- the letters of the words, in their order -/
def wds : List (List Int) := [[108, 97, 121, 101, 114], [109, 111, 111, 100], [110, 117, 109, 98, 101, 114], [116, 104, 101, 105, 114, 115], [102, 114, 111, 109], [116, 111], [99, 117, 116, 115], [102, 101, 101, 108, 115], [115, 101, 110, 100, 115], [111, 114], [97, 110, 100], [110, 111, 116]]
def mtc (g : Nat → Int) : Nat → List Int → Bool
  | _, [] => true
  | st, x :: L => decide (g st = x) && mtc g (st + 1) L
def isW (g : Nat → Int) (st en i : Nat) : Bool := decide (en = st + (wds.getD i []).length) && mtc g st (wds.getD i [])
def wkA (P : Nat → Bool) : Int := if P 0 then 3 else if P 1 then 3 else if P 2 then 3 else if P 3 then 3 else if P 4 then 3 else if P 5 then 3 else if P 6 then 4 else if P 7 then 5 else if P 8 then 6 else if P 9 then 7 else if P 10 then 8 else if P 11 then 9 else 1
def wkd (i : Nat) : Int := if i < 6 then 3 else (i : Int) - 2
theorem wkA_none {P : Nat → Bool} (h : ∀ i : Nat, i < 12 → P i = false) : wkA P = 1 := by
  unfold wkA
  simp [h 0 (by decide), h 1 (by decide), h 2 (by decide), h 3 (by decide), h 4 (by decide), h 5 (by decide), h 6 (by decide), h 7 (by decide), h 8 (by decide), h 9 (by decide), h 10 (by decide), h 11 (by decide)]
theorem wkA_some {P : Nat → Bool} {i : Nat} (hi : i < 12) (hp : P i = true) (h : ∀ j : Nat, j < i → P j = false) : wkA P = wkd i := by
  unfold wkA wkd
  rcases (show i = 0 ∨ i = 1 ∨ i = 2 ∨ i = 3 ∨ i = 4 ∨ i = 5 ∨ i = 6 ∨ i = 7 ∨ i = 8 ∨ i = 9 ∨ i = 10 ∨ i = 11 by omega) with rfl | rfl | rfl | rfl | rfl | rfl | rfl | rfl | rfl | rfl | rfl | rfl
  · simp [hp]
  · simp [hp, h 0 (by decide)]
  · simp [hp, h 0 (by decide), h 1 (by decide)]
  · simp [hp, h 0 (by decide), h 1 (by decide), h 2 (by decide)]
  · simp [hp, h 0 (by decide), h 1 (by decide), h 2 (by decide), h 3 (by decide)]
  · simp [hp, h 0 (by decide), h 1 (by decide), h 2 (by decide), h 3 (by decide), h 4 (by decide)]
  · simp [hp, h 0 (by decide), h 1 (by decide), h 2 (by decide), h 3 (by decide), h 4 (by decide), h 5 (by decide)]
  · simp [hp, h 0 (by decide), h 1 (by decide), h 2 (by decide), h 3 (by decide), h 4 (by decide), h 5 (by decide), h 6 (by decide)]
  · simp [hp, h 0 (by decide), h 1 (by decide), h 2 (by decide), h 3 (by decide), h 4 (by decide), h 5 (by decide), h 6 (by decide), h 7 (by decide)]
  · simp [hp, h 0 (by decide), h 1 (by decide), h 2 (by decide), h 3 (by decide), h 4 (by decide), h 5 (by decide), h 6 (by decide), h 7 (by decide), h 8 (by decide)]
  · simp [hp, h 0 (by decide), h 1 (by decide), h 2 (by decide), h 3 (by decide), h 4 (by decide), h 5 (by decide), h 6 (by decide), h 7 (by decide), h 8 (by decide), h 9 (by decide)]
  · simp [hp, h 0 (by decide), h 1 (by decide), h 2 (by decide), h 3 (by decide), h 4 (by decide), h 5 (by decide), h 6 (by decide), h 7 (by decide), h 8 (by decide), h 9 (by decide), h 10 (by decide)]
/-- which kind of token stands from st to en: 0 the end, 1 none, 2 a number, 3 a name, 4 .. 9 keys; else the sign itself -/
def tkAt (g : Nat → Int) (n st en : Nat) (k : Int) : Prop := (ltr (g st) ∧ rowOf ltr g n st en ∧ k = wkA (isW g st en)) ∨ (dgt (g st) ∧ rowOf dgt g n st en ∧ ((en ≤ st + 4 ∧ k = 2) ∨ (st + 4 < en ∧ k = 1))) ∨ (¬ ltr (g st) ∧ ¬ dgt (g st) ∧ en = st + 1 ∧ ((sg8 (g st) ∧ k = g st) ∨ (¬ sg8 (g st) ∧ k = 1)))
theorem not_both {x : Int} (h1 : ltr x) (h2 : dgt x) : False := by
  unfold ltr at h1
  unfold dgt at h2
  omega
theorem tkAt.uniq {g : Nat → Int} {n st e1 e2 : Nat} {k1 k2 : Int} (h1 : tkAt g n st e1 k1) (h2 : tkAt g n st e2 k2) : e1 = e2 ∧ k1 = k2 := by
  rcases h1 with ⟨a1, a2, a3⟩ | ⟨a1, a2, a3⟩ | ⟨a1, a2, a3, a4⟩ <;> rcases h2 with ⟨b1, b2, b3⟩ | ⟨b1, b2, b3⟩ | ⟨b1, b2, b3, b4⟩
  · have := a2.uniq b2
    subst this
    exact ⟨rfl, a3.trans b3.symm⟩
  · exact absurd b1 (fun q => not_both a1 q)
  · exact absurd a1 b1
  · exact absurd b1 (fun q => not_both q a1)
  · have := a2.uniq b2
    subst this
    exact ⟨rfl, by omega⟩
  · exact absurd a1 b2
  · exact absurd b1 a1
  · exact absurd b1 a2
  · subst a3
    subst b3
    refine ⟨rfl, ?_⟩
    rcases a4 with ⟨c1, c2⟩ | ⟨c1, c2⟩ <;> rcases b4 with ⟨d1, d2⟩ | ⟨d1, d2⟩
    · exact c2.trans d2.symm
    · exact absurd c1 d1
    · exact absurd d1 c1
    · exact c2.trans d2.symm
theorem wkA_le (P : Nat → Bool) : 1 ≤ wkA P ∧ wkA P ≤ 9 := by
  unfold wkA
  repeat' split
  all_goals decide
theorem tkAt.st {g : Nat → Int} {n st en : Nat} {k : Int} (h : tkAt g n st en k) (hs : st < n) : st < en ∧ en ≤ n ∧ 1 ≤ k := by
  rcases h with ⟨a1, a2, a3⟩ | ⟨a1, a2, a3⟩ | ⟨a1, a2, a3, a4⟩
  · have := wkA_le (isW g st en)
    exact ⟨a2.1, a2.2.1, by omega⟩
  · exact ⟨a2.1, a2.2.1, by omega⟩
  · refine ⟨by omega, by omega, ?_⟩
    rcases a4 with ⟨c1, c2⟩ | ⟨c1, c2⟩
    · unfold sg8 at c1
      omega
    · omega
def Tok (g : Nat → Int) (n p st en : Nat) (k : Int) : Prop := p ≤ st ∧ st ≤ n ∧ (∀ j : Nat, p ≤ j → j < st → blk (g j)) ∧ (st < n → ¬ blk (g st)) ∧ ((st = n ∧ en = n ∧ k = 0) ∨ (st < n ∧ tkAt g n st en k))
theorem Tok.uniq {g : Nat → Int} {n p s1 s2 e1 e2 : Nat} {k1 k2 : Int} (h1 : Tok g n p s1 e1 k1) (h2 : Tok g n p s2 e2 k2) : s1 = s2 ∧ e1 = e2 ∧ k1 = k2 := by
  obtain ⟨a1, a2, a3, a4, a5⟩ := h1
  obtain ⟨b1, b2, b3, b4, b5⟩ := h2
  have hs : s1 = s2 := by
    rcases Nat.lt_trichotomy s1 s2 with h | h | h
    · exact absurd (b3 s1 a1 h) (a4 (by omega))
    · exact h
    · exact absurd (a3 s2 b1 h) (b4 (by omega))
  subst hs
  rcases a5 with ⟨c1, c2, c3⟩ | ⟨c1, c2⟩ <;> rcases b5 with ⟨d1, d2, d3⟩ | ⟨d1, d2⟩
  · exact ⟨rfl, c2.trans d2.symm, c3.trans d3.symm⟩
  · omega
  · omega
  · exact ⟨rfl, c2.uniq d2⟩
theorem Tok.wf {g : Nat → Int} {n p st en : Nat} {k : Int} (h : Tok g n p st en k) : p ≤ st ∧ st ≤ en ∧ en ≤ n ∧ (k = 0 ↔ st = n) ∧ (¬ k = 0 → st < en) ∧ 0 ≤ k := by
  obtain ⟨a1, a2, a3, a4, a5⟩ := h
  rcases a5 with ⟨c1, c2, c3⟩ | ⟨c1, c2⟩
  · omega
  · have := c2.st c1
    omega
/-! what waits -/
def rk (x : Int) : Int := if x = 12 then 1 else if x = 11 then 2 else if x = 13 then 3 else if x = 9 ∨ x = 10 then 4 else if x = 6 ∨ x = 7 then 5 else if x = 8 then 6 else if x = 14 then 7 else 0
def lay (r : Int) : List Int → List Int
  | [] => []
  | x :: S => if r ≤ rk x then lay r S else x :: S
def cnt : List Int → Int
  | [] => 0
  | x :: S => cnt S + (if x = 13 ∨ x = 14 ∨ rk x = 0 then 1 else 0)
theorem lay_over {r x : Int} {S : List Int} (h : r ≤ rk x) : lay r (x :: S) = lay r S := by
  show (if r ≤ rk x then lay r S else x :: S) = _
  rw [if_pos h]
theorem lay_stop {r x : Int} {S : List Int} (h : ¬ r ≤ rk x) : lay r (x :: S) = x :: S := by
  show (if r ≤ rk x then lay r S else x :: S) = _
  rw [if_neg h]
theorem lay_le {r r2 : Int} (h : r ≤ r2) : ∀ S : List Int, lay r (lay r2 S) = lay r S
  | [] => rfl
  | x :: S => by
    by_cases h2 : r2 ≤ rk x
    · rw [lay_over h2, lay_over (show r ≤ rk x by omega), lay_le h S]
    · rw [lay_stop h2]
theorem lay_fix {r r2 : Int} (h : r ≤ r2) {S : List Int} (hs : lay r S = S) : lay r2 S = S := by
  cases S with
  | nil => rfl
  | cons x S =>
    unfold lay at hs ⊢
    by_cases h2 : r2 ≤ rk x
    · rw [if_pos (by omega)] at hs
      have : ∀ T : List Int, (lay r T).length ≤ T.length := by
        intro T
        induction T with
        | nil => exact Nat.le_refl _
        | cons y T ih =>
          unfold lay
          split
          · simp only [List.length_cons]
            omega
          · exact Nat.le_refl _
      have h3 := this S
      rw [hs] at h3
      simp only [List.length_cons] at h3
      omega
    · rw [if_neg h2]
theorem cnt_bin {x : Int} {S : List Int} (h : 6 ≤ x ∧ x ≤ 12) : cnt (x :: S) = cnt S := by
  show cnt S + _ = _
  have hr : ¬ rk x = 0 := by
    unfold rk
    rcases (show x = 6 ∨ x = 7 ∨ x = 8 ∨ x = 9 ∨ x = 10 ∨ x = 11 ∨ x = 12 by omega) with rfl | rfl | rfl | rfl | rfl | rfl | rfl <;> decide
  rw [if_neg (by omega)]
  omega
theorem cnt_one {x : Int} {S : List Int} (h : x = 13 ∨ x = 14 ∨ rk x = 0) : cnt (x :: S) = cnt S + 1 := by
  show cnt S + _ = _
  rw [if_pos h]
/-- a state of the automaton: what waits; whether a one is behind; whether one compared; whether a not can stand -/
abbrev PS : Type := List Int × Bool × Bool × Bool
/-- what a token behind a one is (6 .. 12), or -1 -/
def sgOf (k : Int) (cm : Bool) : Int := if k = 42 then 8 else if k = 43 then 6 else if k = 45 then 7 else if k = 60 then (if cm then -1 else 9) else if k = 61 then (if cm then -1 else 10) else if k = 8 then 11 else if k = 7 then 12 else -1
def nx (k : Int) (S : List Int) (b cm s : Bool) : Option PS :=
  if b then
    (if k = 41 then (match lay 1 S with
      | [] => none
      | x :: T => some (lay 7 T, true, decide (x = -2), s))
    else if sgOf k cm = -1 then none
    else some (sgOf k cm :: lay (rk (sgOf k cm)) S, false, (if rk (sgOf k cm) < 3 then false else if rk (sgOf k cm) = 4 then true else cm), decide (rk (sgOf k cm) < 3)))
  else
    (if k = 2 ∨ k = 3 then some (lay 7 S, true, cm, s)
    else if (k = 9 ∧ s = true) ∨ k = 45 ∨ k = 40 then
      (if cnt S = 5 then none
      else if k = 40 then some ((if cm then -2 else -1) :: S, false, false, true)
      else if k = 9 then some (13 :: S, false, cm, true)
      else some (14 :: S, false, cm, false))
    else none)
/-- an end: (false, where it can't go on), or (true, where the token behind the ; is looked for) -/
abbrev OC : Type := Bool × Nat
def Rul (g : Nat → Int) (n : Nat) (G : Nat → Nat → Int → PS → OC → Prop) (st en : Nat) (k : Int) (σ : PS) (o : OC) : Prop :=
  ((σ.2.1 = true ∧ k = 59) ∧ ((lay 1 σ.1 = [] ∧ o = (true, en)) ∨ (¬ lay 1 σ.1 = [] ∧ o = (false, st)))) ∨
  (¬ (σ.2.1 = true ∧ k = 59) ∧ ((nx k σ.1 σ.2.1 σ.2.2.1 σ.2.2.2 = none ∧ o = (false, st)) ∨ ∃ (τ : PS) (s2 e2 : Nat) (k2 : Int), nx k σ.1 σ.2.1 σ.2.2.1 σ.2.2.2 = some τ ∧ Tok g n en s2 e2 k2 ∧ G s2 e2 k2 τ o))
/-- from this token and state, a part comes to that end -/
def PFin (g : Nat → Int) (n : Nat) (st en : Nat) (k : Int) (σ : PS) (o : OC) : Prop := ∀ G : Nat → Nat → Int → PS → OC → Prop, (∀ (st en : Nat) (k : Int) (σ : PS) (o : OC), Rul g n G st en k σ o → G st en k σ o) → G st en k σ o
theorem PFin.roll {g : Nat → Int} {n st en : Nat} {k : Int} {σ : PS} {o : OC} (h : Rul g n (PFin g n) st en k σ o) : PFin g n st en k σ o := fun G c => by
  refine c _ _ _ _ _ ?_
  rcases h with h | ⟨h1, h | ⟨τ, s2, e2, k2, h2, h3, h4⟩⟩
  · exact Or.inl h
  · exact Or.inr ⟨h1, Or.inl h⟩
  · exact Or.inr ⟨h1, Or.inr ⟨τ, s2, e2, k2, h2, h3, h4 G c⟩⟩
/-- it can't go on -/
theorem PFin.stuck {g : Nat → Int} {n st en : Nat} {k : Int} {S : List Int} {b cm s : Bool} (h1 : ¬ (b = true ∧ k = 59)) (h2 : nx k S b cm s = none) : PFin g n st en k (S, b, cm, s) (false, st) := PFin.roll (Or.inr ⟨h1, Or.inl ⟨h2, rfl⟩⟩)
/-- one token on -/
theorem PFin.step {g : Nat → Int} {n st en s2 e2 : Nat} {k k2 : Int} {S : List Int} {b cm s : Bool} {τ : PS} {o : OC} (h1 : ¬ (b = true ∧ k = 59)) (h2 : nx k S b cm s = some τ) (h3 : Tok g n en s2 e2 k2) (h4 : PFin g n s2 e2 k2 τ o) : PFin g n st en k (S, b, cm, s) o := PFin.roll (Or.inr ⟨h1, Or.inr ⟨τ, s2, e2, k2, h2, h3, h4⟩⟩)
theorem PFin.done {g : Nat → Int} {n st en : Nat} {S : List Int} {cm s : Bool} (h : lay 1 S = []) : PFin g n st en 59 (S, true, cm, s) (true, en) := PFin.roll (Or.inl ⟨⟨rfl, rfl⟩, Or.inl ⟨h, rfl⟩⟩)
theorem PFin.unc {g : Nat → Int} {n st en : Nat} {S : List Int} {cm s : Bool} (h : ¬ lay 1 S = []) : PFin g n st en 59 (S, true, cm, s) (false, st) := PFin.roll (Or.inl ⟨⟨rfl, rfl⟩, Or.inr ⟨h, rfl⟩⟩)
/-- a part: its key, and its reading -/
def PartO (g : Nat → Int) (n p : Nat) (i : Int) (o : OC) : Prop := ∃ (st en : Nat) (k : Int), Tok g n p st en k ∧ ((¬ k = 4 + i ∧ o = (false, st)) ∨ (k = 4 + i ∧ ∃ (s2 e2 : Nat) (k2 : Int), Tok g n en s2 e2 k2 ∧ PFin g n s2 e2 k2 ([], false, false, true) o))
/-- the last m parts of a text, and its end: where its fault is, or -1 -/
def TF (g : Nat → Int) (n : Nat) : Nat → Nat → Int → Prop
  | 0, p, r => ∃ (st en : Nat) (k : Int), Tok g n p st en k ∧ ((k = 0 ∧ r = -1) ∨ (¬ k = 0 ∧ r = st))
  | m + 1, p, r => (∃ s : Nat, PartO g n p (2 - m) (false, s) ∧ r = s) ∨ ∃ p2 : Nat, PartO g n p (2 - m) (true, p2) ∧ TF g n m p2 r
/-- a text -/
def TextO (g : Nat → Int) (n : Nat) (r : Int) : Prop := TF g n 3 0 r
