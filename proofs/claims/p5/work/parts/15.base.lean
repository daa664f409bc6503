/-! numbers, the cells that count, and what the worlds keep -/
theorem i_bm {n : Int} (h1 : -2147483648 ≤ n) (h2 : n ≤ 2147483647) : n.bmod (2 ^ 32) = n := Int.bmod_eq_of_le (by omega) (by omega)
theorem i_add {x y : Int32} (h1 : -2147483648 ≤ x.toInt + y.toInt) (h2 : x.toInt + y.toInt ≤ 2147483647) : (x + y).toInt = x.toInt + y.toInt := by
  rw [Int32.toInt_add]
  exact i_bm h1 h2
theorem i_sub {x y : Int32} (h1 : -2147483648 ≤ x.toInt - y.toInt) (h2 : x.toInt - y.toInt ≤ 2147483647) : (x - y).toInt = x.toInt - y.toInt := by
  rw [Int32.toInt_sub]
  exact i_bm h1 h2
theorem i_mul {x y : Int32} (h1 : -2147483648 ≤ x.toInt * y.toInt) (h2 : x.toInt * y.toInt ≤ 2147483647) : (x * y).toInt = x.toInt * y.toInt := by
  rw [Int32.toInt_mul]
  exact i_bm h1 h2
theorem i_mulL {c x : Int32} {v : Int} (hc : c.toInt = v) (h1 : -2147483648 ≤ v * x.toInt) (h2 : v * x.toInt ≤ 2147483647) : (c * x).toInt = v * x.toInt := by
  subst hc
  exact i_mul h1 h2
theorem i_lo (x : Int32) : -2147483648 ≤ x.toInt := by
  have := x.le_toInt
  omega
theorem i_hi (x : Int32) : x.toInt ≤ 2147483647 := by
  have := x.toInt_lt
  omega
theorem tn_lt {x : Int32} {n : Nat} (h0 : 0 ≤ x.toInt) (h : x.toInt < n) : x.toNatClampNeg < n := by
  have e : x.toNatClampNeg = x.toInt.toNat := rfl
  omega
theorem tn_eq {x : Int32} (h0 : 0 ≤ x.toInt) : (x.toNatClampNeg : Int) = x.toInt := by
  have e : x.toNatClampNeg = x.toInt.toNat := rfl
  omega
theorem i_ext {x y : Int32} (h : x.toInt = y.toInt) : x = y := Int32.toInt_inj.mp h
theorem ws_hit (w : Wd) (c j : Nat) (v : Int32) : wset w c j v c j = v := by simp [wset]
theorem ws_row {w : Wd} {c j a b : Nat} {v : Int32} (h : b ≠ j) : wset w c j v a b = w a b := by
  unfold wset
  rw [if_neg (fun q => h q.2)]
theorem ws_col {w : Wd} {c j a b : Nat} {v : Int32} (h : a ≠ c) : wset w c j v a b = w a b := by
  unfold wset
  rw [if_neg (fun q => h q.1)]
/-- the class world's cells and slots that its invariant looks at -/
def crit (c s : Nat) : Bool := ([32, 39, 46].contains c && (s == 4 || s == 7)) || ((c == 0 && (s == 7 || s == 8)) || ((c == 3 && s == 0) || (([24, 26, 28, 30].contains c && s == 2) || [4, 8, 11, 14, 17, 20, 23].contains c)))
def isF (f : Nat) : Prop := f = 32 ∨ f = 39 ∨ f = 46
def isS (c : Nat) : Prop := c = 24 ∨ c = 26 ∨ c = 28 ∨ c = 30
def isT (c : Nat) : Prop := c = 6 ∨ c = 9 ∨ c = 12 ∨ c = 15 ∨ c = 18 ∨ c = 21
theorem isS_rfa {j : Nat} (h : j < 4) : isS (rfa sheetCells j) := by
  rcases (show j = 0 ∨ j = 1 ∨ j = 2 ∨ j = 3 by omega) with rfl | rfl | rfl | rfl
  · exact Or.inl rfl
  · exact Or.inr (Or.inl rfl)
  · exact Or.inr (Or.inr (Or.inl rfl))
  · exact Or.inr (Or.inr (Or.inr rfl))
theorem isT_rfa {j : Nat} (h : j < 6) : isT (rfa textCells j) := by
  rcases (show j = 0 ∨ j = 1 ∨ j = 2 ∨ j = 3 ∨ j = 4 ∨ j = 5 by omega) with rfl | rfl | rfl | rfl | rfl | rfl
  · exact Or.inl rfl
  · exact Or.inr (Or.inl rfl)
  · exact Or.inr (Or.inr (Or.inl rfl))
  · exact Or.inr (Or.inr (Or.inr (Or.inl rfl)))
  · exact Or.inr (Or.inr (Or.inr (Or.inr (Or.inl rfl))))
  · exact Or.inr (Or.inr (Or.inr (Or.inr (Or.inr rfl))))
theorem isT.sh {Γ : Gx} (h : ShC Γ) {t : Nat} (ht : isT t) : ShT Γ t := by
  rcases ht with rfl | rfl | rfl | rfl | rfl | rfl
  · exact ShC.t h 0 (by decide)
  · exact ShC.t h 1 (by decide)
  · exact ShC.t h 2 (by decide)
  · exact ShC.t h 3 (by decide)
  · exact ShC.t h 4 (by decide)
  · exact ShC.t h 5 (by decide)
/-- what the calls feed, text, force, image, back hang on: how many texts, how many bytes, the bytes, the rule, whether an image is kept, its rule -/
abbrev Ky : Type := Int32 × Int32 × (Nat → Int32) × Int32 × Int32 × Int32
def tapeOf (n : Int32) (f : Nat → Int32) : Nat → Int32 := fun j => if (j : Int) < n.toInt then f j else 0
def kC (w : Wd) : Ky := (w 0 7, w 3 0, tapeOf (w 3 0) (w 4), w 32 7, w 0 8, w 46 7)
def famOK (w : Wd) (f : Nat) : Prop := 0 ≤ (w f 4).toInt ∧ (w f 4).toInt ≤ 5 ∧ 0 ≤ (w f 7).toInt ∧ (w f 7).toInt ≤ 5
def numC (w : Wd) : Prop := famOK w 32 ∧ famOK w 39 ∧ famOK w 46 ∧ 0 ≤ (w 0 7).toInt ∧ (w 0 7).toInt ≤ 6 ∧ 0 ≤ (w 3 0).toInt ∧ (w 3 0).toInt ≤ 160
def shOK (w : Wd) : Prop := ∀ c, isS c → 0 ≤ (w c 2).toInt ∧ (w c 2).toInt ≤ 40
def txOK (w : Wd) : Prop := ∀ t, isT t → ∀ j, j < 4 → 0 ≤ (w (t + 2) j).toInt ∧ (w (t + 2) j).toInt ≤ 160
def IC (κ : Ky) (w : Wd) : Prop := kC w = κ ∧ numC w ∧ shOK w ∧ txOK w
theorem crS {c : Nat} (h : isS c) : crit c 2 = true := by
  rcases h with rfl | rfl | rfl | rfl <;> rfl
theorem crT {c j : Nat} (h : isT c) : crit (c + 2) j = true := by
  rcases h with rfl | rfl | rfl | rfl | rfl | rfl <;> rfl
theorem crF {f m j : Nat} (h : isF f) (h0 : 0 < m) (h7 : m < 7) : crit (f + m) j = false := by
  rcases (show m = 1 ∨ m = 2 ∨ m = 3 ∨ m = 4 ∨ m = 5 ∨ m = 6 by omega) with rfl | rfl | rfl | rfl | rfl | rfl <;> rcases h with rfl | rfl | rfl <;> rfl
theorem kC.congr {w w' : Wd} (h : ∀ a b : Nat, crit a b = true → w' a b = w a b) : kC w' = kC w := by
  have e : w' 4 = w 4 := funext fun j => h 4 j rfl
  unfold kC
  rw [h 0 7 rfl, h 3 0 rfl, h 32 7 rfl, h 0 8 rfl, h 46 7 rfl, e]
theorem numC.congr {w w' : Wd} (h : ∀ a b : Nat, crit a b = true → w' a b = w a b) (i : numC w) : numC w' := by
  unfold numC famOK at *
  rw [h 32 4 rfl, h 32 7 rfl, h 39 4 rfl, h 39 7 rfl, h 46 4 rfl, h 46 7 rfl, h 0 7 rfl, h 3 0 rfl]
  exact i
theorem IC.congr {κ : Ky} {w w' : Wd} (h : ∀ a b : Nat, crit a b = true → w' a b = w a b) (i : IC κ w) : IC κ w' := by
  refine ⟨(kC.congr h).trans i.1, numC.congr h i.2.1, fun c hc => ?_, fun t ht j hj => ?_⟩
  · rw [h c 2 (crS hc)]
    exact i.2.2.1 c hc
  · rw [h (t + 2) j (crT ht)]
    exact i.2.2.2 t ht j hj
theorem ws_cr {w : Wd} {c s : Nat} {v : Int32} (hc : crit c s = false) : ∀ a b : Nat, crit a b = true → wset w c s v a b = w a b := fun a b hab => by
  unfold wset
  rw [if_neg]
  rintro ⟨rfl, rfl⟩
  rw [hc] at hab
  cases hab
theorem IC.slot {κ : Ky} {w : Wd} {c s : Nat} {v : Int32} (hc : crit c s = false) (i : IC κ w) : IC κ (wset w c s v) := IC.congr (ws_cr hc) i
theorem IC.fam {κ : Ky} {w : Wd} {f m j : Nat} {v : Int32} (hf : isF f) (h0 : 0 < m) (h7 : m < 7) (i : IC κ w) : IC κ (wset w (f + m) j v) := IC.slot (crF hf h0 h7) i
theorem IC.num {κ : Ky} {w : Wd} (i : IC κ w) : (0 ≤ (w 32 4).toInt ∧ (w 32 4).toInt ≤ 5 ∧ 0 ≤ (w 32 7).toInt ∧ (w 32 7).toInt ≤ 5) ∧ (0 ≤ (w 39 4).toInt ∧ (w 39 4).toInt ≤ 5 ∧ 0 ≤ (w 39 7).toInt ∧ (w 39 7).toInt ≤ 5) ∧ (0 ≤ (w 46 4).toInt ∧ (w 46 4).toInt ≤ 5 ∧ 0 ≤ (w 46 7).toInt ∧ (w 46 7).toInt ≤ 5) ∧ 0 ≤ (w 0 7).toInt ∧ (w 0 7).toInt ≤ 6 ∧ 0 ≤ (w 3 0).toInt ∧ (w 3 0).toInt ≤ 160 := i.2.1
theorem IC.f {κ : Ky} {w : Wd} (i : IC κ w) {f : Nat} (hf : isF f) : famOK w f := by
  rcases hf with rfl | rfl | rfl
  · exact i.2.1.1
  · exact i.2.1.2.1
  · exact i.2.1.2.2.1
/-- results that a caller asks whether they are 0 -/
theorem iz_1 : isZ 1 := Or.inr rfl
theorem iz_0 : isZ 0 := Or.inl rfl
theorem iff1 {c : Prop} (h : c) : ¬ (1 : Int32) = 0 ↔ c := ⟨fun _ => h, fun _ q => absurd q (by decide)⟩
theorem iff0 {c : Prop} (h : ¬ c) : ¬ (0 : Int32) = 0 ↔ c := ⟨fun q => absurd rfl q, fun q => absurd q h⟩
