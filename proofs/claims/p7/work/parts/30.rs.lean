/-! the model's reading: the code behind b is balanced with what waits -/
/-- how many of the first k that wait take two -/
def bw (f : Nat → Int32) : Nat → Int
  | 0 => 0
  | k + 1 => bw f k + (if 6 ≤ (f k).toInt ∧ (f k).toInt ≤ 12 then 1 else 0)
theorem bw_congr {f g : Nat → Int32} : ∀ k : Nat, (∀ j : Nat, j < k → g j = f j) → bw g k = bw f k
  | 0, _ => rfl
  | k + 1, h => by
    unfold bw
    rw [bw_congr k (fun j hj => h j (by omega)), h k (by omega)]
theorem bw_nn {f : Nat → Int32} : ∀ k : Nat, 0 ≤ bw f k
  | 0 => Int.le_refl 0
  | k + 1 => by
    have := bw_nn (f := f) k
    unfold bw
    split <;> omega
def waitOK (x : Int32) : Prop := x.toInt = -1 ∨ x.toInt = -2 ∨ (6 ≤ x.toInt ∧ x.toInt ≤ 14)
/-- what a step of reading leaves alone -/
def KP (b : Nat) (w w' : Wd) : Prop := (∀ s : Nat, s ≠ 13 → s ≠ 20 → s ≠ 21 → s ≠ 22 → s ≠ 23 → s ≠ 24 → w' 0 s = w 0 s) ∧ (∀ c : Nat, c ≠ 0 → c ≠ 8 → c ≠ 9 → w' c = w c) ∧ ∀ j : Nat, j < b → w' 8 j = w 8 j
theorem KP.rfl {b : Nat} {w : Wd} : KP b w w := ⟨fun _ _ _ _ _ _ _ => Eq.refl _, fun _ _ _ _ => Eq.refl _, fun _ _ => Eq.refl _⟩
theorem KP.trans {b : Nat} {u v w : Wd} (h1 : KP b u v) (h2 : KP b v w) : KP b u w := ⟨fun s a1 a2 a3 a4 a5 a6 => (h2.1 s a1 a2 a3 a4 a5 a6).trans (h1.1 s a1 a2 a3 a4 a5 a6), fun c a1 a2 a3 => (h2.2.1 c a1 a2 a3).trans (h1.2.1 c a1 a2 a3), fun j hj => (h2.2.2 j hj).trans (h1.2.2 j hj)⟩
theorem KP.set {b : Nat} {w : Wd} {s : Nat} {v : Int32} (hs : s = 13 ∨ s = 20 ∨ s = 21 ∨ s = 22 ∨ s = 23 ∨ s = 24) : KP b w (wset w 0 s v) := ⟨fun t a1 a2 a3 a4 a5 a6 => ws_row (by omega), fun c a1 _ _ => wset_off _ _ _ _ _ a1, fun j _ => ws_col (by decide)⟩
theorem KP.wait {b : Nat} {w : Wd} {j : Nat} {v : Int32} : KP b w (wset w 9 j v) := ⟨fun t _ _ _ _ _ _ => ws_col (by decide), fun c _ _ a3 => wset_off _ _ _ _ _ a3, fun j _ => ws_col (by decide)⟩
theorem KP.code {b : Nat} {w : Wd} {j : Nat} {v : Int32} (h : b ≤ j) : KP b w (wset w 8 j v) := ⟨fun t _ _ _ _ _ _ => ws_col (by decide), fun c _ a2 _ => wset_off _ _ _ _ _ a2, fun i hi => ws_row (by omega)⟩
/-- the state of reading a part that began at b: all fits below lim; g: whether an operand stands behind -/
def RS (b : Nat) (lim g : Int) (w : Wd) : Prop := (b : Int) ≤ (w 0 13).toInt ∧ 0 ≤ (w 0 20).toInt ∧ (w 0 13).toInt + (w 0 20).toInt ≤ lim ∧ (∀ j : Nat, (j : Int) < (w 0 20).toInt → waitOK (w 9 j)) ∧ bal (w 8) b ((w 0 13).toInt.toNat - b) ∧ dep (w 8) b ((w 0 13).toInt.toNat - b) = bw (w 9) (w 0 20).toInt.toNat + g
theorem RS.lim {b : Nat} {l1 l2 g : Int} {w : Wd} (h : l1 ≤ l2) (R : RS b l1 g w) : RS b l2 g w := ⟨R.1, R.2.1, Int.le_trans R.2.2.1 h, R.2.2.2⟩
theorem RS.congr {b : Nat} {lim g : Int} {w w' : Wd} (h13 : w' 0 13 = w 0 13) (h20 : w' 0 20 = w 0 20) (h8 : w' 8 = w 8) (h9 : w' 9 = w 9) (R : RS b lim g w) : RS b lim g w' := by
  unfold RS at *
  rw [h13, h20, h8, h9]
  exact R
theorem RS.set {b : Nat} {lim g : Int} {w : Wd} {s : Nat} {v : Int32} (hs : s ≠ 13 ∧ s ≠ 20) (R : RS b lim g w) : RS b lim g (wset w 0 s v) := RS.congr (ws_row (Ne.symm hs.1)) (ws_row (Ne.symm hs.2)) (wset_off _ _ _ _ _ (by decide)) (wset_off _ _ _ _ _ (by decide)) R
/-- one code more -/
theorem emit_code {b : Nat} {w w' : Wd} {x : Int32} (e : w' = wset (wset w 0 13 (w 0 13 + 1)) 8 (w 0 13).toNatClampNeg x) (hb : (b : Int) ≤ (w 0 13).toInt) (hi : (w 0 13).toInt ≤ 2999) (h : bal (w 8) b ((w 0 13).toInt.toNat - b)) (h0 : 0 ≤ x.toInt) (h1 : (x.toInt = 13 ∨ x.toInt = 14) → 1 ≤ dep (w 8) b ((w 0 13).toInt.toNat - b)) (h2 : (6 ≤ x.toInt ∧ x.toInt ≤ 12) → 2 ≤ dep (w 8) b ((w 0 13).toInt.toNat - b)) :
    (w' 0 13).toInt = (w 0 13).toInt + 1 ∧ KP b w w' ∧ w' 0 20 = w 0 20 ∧ w' 9 = w 9 ∧ bal (w' 8) b ((w' 0 13).toInt.toNat - b) ∧ dep (w' 8) b ((w' 0 13).toInt.toNat - b) = dep (w 8) b ((w 0 13).toInt.toNat - b) + (if 15 ≤ x.toInt ∨ x.toInt ≤ 5 then 1 else if x.toInt = 13 ∨ x.toInt = 14 then 0 else -1) := by
  have n1 : (1 : Int32).toInt = 1 := rfl
  have ea := i_add (x := w 0 13) (y := 1) (by omega) (by omega)
  have et := tn_eq (x := w 0 13) (by omega)
  have e13 : (w' 0 13).toInt = (w 0 13).toInt + 1 := by
    rw [e, ws_col (by decide), ws_hit]
    omega
  obtain ⟨n, hn⟩ : ∃ n : Nat, n = (w 0 13).toInt.toNat - b := ⟨_, rfl⟩
  have hx : (w 0 13).toNatClampNeg = b + n := by omega
  have e2 : (w' 0 13).toInt.toNat - b = n + 1 := by omega
  have hit : w' 8 (b + n) = x := by rw [e, hx, ws_hit]
  have low : ∀ j : Nat, j < n → w' 8 (b + j) = w 8 (b + j) := fun j hj => by rw [e, ws_row (by omega), ws_col (by decide)]
  rw [e2]
  rw [← hn] at h h1 h2 ⊢
  have dn : dep (w' 8) b n = dep (w 8) b n := dep_congr n low
  refine ⟨e13, ?_, ?_, ?_, fun j hj => ?_, ?_⟩
  · rw [e]
    exact KP.trans (KP.set (Or.inl rfl)) (KP.code (by omega))
  · rw [e, ws_col (by decide), ws_row (by decide)]
  · rw [e, wset_off _ _ _ _ _ (by decide), wset_off _ _ _ _ _ (by decide)]
  · by_cases hj2 : j = n
    · subst hj2
      unfold okAt
      rw [hit, dn]
      exact ⟨h0, h1, h2⟩
    · have hb2 := (bal.congr low h) j (by omega)
      exact hb2
  · show dep (w' 8) b n + _ = _
    rw [hit, dn]
theorem rs_rank {Γ : Gx} {d : Nat} (hd : 1 ≤ d) (hG : GM Γ) {p1 : Int32} {w : Wd} {Q : Int32 → Wd → Prop} (k : ∀ r : Int32, 0 ≤ r.toInt ∧ r.toInt ≤ 7 → ((6 ≤ p1.toInt ∧ p1.toInt ≤ 14) → 1 ≤ r.toInt) → ((p1.toInt = -1 ∨ p1.toInt = -2) → r.toInt = 0) → Q r w) : CI Γ d M_X5_rank [.int p1] w Q := by
  obtain ⟨d, rfl⟩ : ∃ e, d = e + 1 := ⟨d - 1, by omega⟩
  refine con_X5_rank hG ?_
  unfold wp_X5_rank
  have nz : ∀ n : Int32, (0 ≤ n.toInt ∧ n.toInt ≤ 7) → 1 ≤ n.toInt → ∀ m : Int32, p1 = m → ¬ (m.toInt = -1 ∨ m.toInt = -2) → Q n w := fun n h1 h2 m e hm => k n h1 (fun _ => h2) (fun q => absurd (e ▸ q) hm)
  refine ⟨fun h => nz 1 (by decide) (by decide) _ h (by decide), fun h => nz 2 (by decide) (by decide) _ h (by decide), fun h => nz 3 (by decide) (by decide) _ h (by decide), fun h => ?_, fun h => ?_, fun h => nz 6 (by decide) (by decide) _ h (by decide), fun h => nz 7 (by decide) (by decide) _ h (by decide), fun h => ?_⟩
  · rcases h with h | h
    · exact nz 4 (by decide) (by decide) _ h (by decide)
    · exact nz 4 (by decide) (by decide) _ h (by decide)
  · rcases h with h | h
    · exact nz 5 (by decide) (by decide) _ h (by decide)
    · exact nz 5 (by decide) (by decide) _ h (by decide)
  · simp only [← Int32.toInt_inj, Int32.reduceToInt] at h
    exact k 0 (by decide) (fun q => by omega) (fun _ => rfl)
