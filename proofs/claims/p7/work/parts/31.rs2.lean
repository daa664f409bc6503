/-! the model's reading: push, lays, codes of an operand (written by program out of the bytecode's predicate) -/
/-- what waits and code say beside the lexer's cells -/
def K2 (w w' : Wd) : Prop := ∀ s : Nat, s ≠ 13 → s ≠ 20 → s ≠ 21 → w' 0 s = w 0 s
theorem K2.trans {u v w : Wd} (h1 : K2 u v) (h2 : K2 v w) : K2 u w := fun s a b c => (h2 s a b c).trans (h1 s a b c)
theorem K2.set {w : Wd} {s : Nat} {v : Int32} (h : s = 13 ∨ s = 20 ∨ s = 21) : K2 w (wset w 0 s v) := fun t a b c => ws_row (by omega)
theorem K2.col {w : Wd} {c s : Nat} {v : Int32} (h : c ≠ 0) : K2 w (wset w c s v) := fun t _ _ _ => ws_col (Ne.symm h)
theorem rs_push {Γ : Gx} {d : Nat} (hd : 2 ≤ d) (hG : GM Γ) {b : Nat} {lim g g' : Int} {p1 : Int32} {w : Wd} (hl : lim ≤ b + 198) (hx : waitOK p1) (hg : g' = g - (if 6 ≤ p1.toInt ∧ p1.toInt ≤ 12 then 1 else 0)) (R : RS b lim g w) {Q : Wd → Prop} (k : ∀ w' : Wd, RS b (lim + 1) g' w' → KP b w w' → K2 w w' → Q w') : CV Γ d M_X5_push [.ref (gad Γ 0), .int p1] w Q := by
  obtain ⟨d, rfl⟩ : ∃ e, d = e + 1 := ⟨d - 1, by omega⟩
  refine con_X5_push hG ?_
  unfold wp_X5_push
  obtain ⟨r1, r2, r3, r4, r5, r6⟩ := R
  have n1 : (1 : Int32).toInt = 1 := rfl
  have ea := i_add (x := w 0 20) (y := 1) (by omega) (by omega)
  have et := tn_eq (x := w 0 20) (by omega)
  intro w1 e1
  refine ⟨vp_in_iff.mpr (by omega), fun w4 e4 => ?_⟩
  obtain ⟨n, hn⟩ : ∃ n : Nat, n = (w 0 20).toInt.toNat := ⟨_, rfl⟩
  have hx2 : (w 0 20).toNatClampNeg = n := by omega
  rw [hx2] at e4
  have q13 : w4 0 13 = w 0 13 := by rw [e4, ws_col (by decide), e1, ws_row (by decide)]
  have q20 : (w4 0 20).toInt = (w 0 20).toInt + 1 := by
    rw [e4, ws_col (by decide), e1, ws_hit]
    omega
  have q8 : w4 8 = w 8 := by rw [e4, wset_off _ _ _ _ _ (by decide), e1, wset_off _ _ _ _ _ (by decide)]
  have q9 : w4 9 n = p1 := by rw [e4, ws_hit]
  have lo9 : ∀ j : Nat, j ≠ n → w4 9 j = w 9 j := fun j hj => by rw [e4, ws_row hj, e1, ws_col (by decide)]
  have R4 : RS b (lim + 1) g' w4 := by
    unfold RS
    rw [q13, q8]
    refine ⟨r1, by omega, by omega, fun j hj => ?_, r5, ?_⟩
    · by_cases e : j = n
      · rw [e, q9]
        exact hx
      · rw [lo9 j e]
        exact r4 j (by omega)
    · have e2 : (w4 0 20).toInt.toNat = n + 1 := by omega
      have e3 : bw (w4 9) (n + 1) = bw (w 9) n + (if 6 ≤ p1.toInt ∧ p1.toInt ≤ 12 then 1 else 0) := by
        show bw (w4 9) n + _ = _
        rw [q9, bw_congr n (fun j hj => lo9 j (by omega))]
      rw [e2, e3, r6, hn]
      omega
  have K4 : KP b w w4 := by
    rw [e4, e1]
    exact KP.trans (KP.set (Or.inr (Or.inl rfl))) KP.wait
  have L4 : K2 w w4 := by
    rw [e4, e1]
    exact K2.trans (K2.set (Or.inr (Or.inl rfl))) (K2.col (by decide))
  have go : ∀ v : Int32, Q (wset w4 0 21 v) := fun v => k _ (R4.set (by decide)) (K4.trans (KP.set (Or.inr (Or.inr (Or.inl rfl))))) (L4.trans (K2.set (Or.inr (Or.inr rfl))))
  refine ⟨fun _ w7 e7 => e7 ▸ go _, fun _ => ⟨fun _ w7 e7 => e7 ▸ go _, fun _ => ?_⟩⟩
  exact rs_rank (by omega) hG (fun r _ _ _ => ⟨fun _ => k _ R4 K4 L4, fun _ w15 e15 => e15 ▸ go _⟩)
/-- one turn of lays -/
def laysF (Γ : Gx) (d : Nat) (p1 : Int32) (Q P : Wd → Prop) (w : Wd) : Prop := (((w 0 20) ≤ 0 → Q w) ∧ (¬ (w 0 20) ≤ 0 → (vp_in ((w 0 20) - (1 : Int32)) 200 ∧ CI Γ d M_X5_rank [.int (w 9 (((w 0 20) - (1 : Int32))).toNatClampNeg)] w (fun r20 w21 => ((r20 < p1 → Q w21) ∧ (¬ r20 < p1 → (∀ w23 : Wd, w23 = wset w21 0 20 ((w21 0 20) - (1 : Int32)) → (vp_in (w23 0 20) 200 ∧ CV Γ d M_X5_codes [.ref (gad Γ 0), .int (w23 9 ((w23 0 20)).toNatClampNeg)] w23 (fun w27 => (vp_in (w27 0 20) 200 ∧ (((w27 9 ((w27 0 20)).toNatClampNeg) = (13 : Int32) → (∀ w30 : Wd, w30 = wset w27 0 21 ((w27 0 21) - (1 : Int32)) → P w30)) ∧ (¬ (w27 9 ((w27 0 20)).toNatClampNeg) = (13 : Int32) → ((¬ (w27 9 ((w27 0 20)).toNatClampNeg) = (14 : Int32) → P w27) ∧ ((w27 9 ((w27 0 20)).toNatClampNeg) = (14 : Int32) → (∀ w33 : Wd, w33 = wset w27 0 21 ((w27 0 21) - (1 : Int32)) → P w33)))))))))))))))
theorem lays_step {Γ : Gx} {d : Nat} (hd : 1 ≤ d) (hG : GM Γ) {b : Nat} {lim : Int} {p1 : Int32} {w : Wd} (hl : lim ≤ b + 199 ∧ lim ≤ 2900) (hp : 1 ≤ p1.toInt) (R : RS b lim 1 w) {Q P : Wd → Prop} (kQ : ((w 0 20).toInt ≤ 0 ∨ (p1.toInt = 1 → ∀ j : Nat, (w 0 20).toInt = j + 1 → (w 9 j).toInt = -1 ∨ (w 9 j).toInt = -2)) → Q w) (kP : ∀ w' : Wd, RS b lim 1 w' → KP b w w' → K2 w w' → (w' 0 20).toInt < (w 0 20).toInt → P w') : laysF Γ d p1 Q P w := by
  unfold laysF
  obtain ⟨r1, r2, r3, r4, r5, r6⟩ := R
  have n1 : (1 : Int32).toInt = 1 := rfl
  refine ⟨fun h => kQ (Or.inl ?_), fun h => ?_⟩
  · simp only [Int32.le_iff_toInt_le, Int32.reduceToInt] at h
    exact h
  simp only [Int32.le_iff_toInt_le, Int32.reduceToInt] at h
  have es := i_sub (x := w 0 20) (y := 1) (by omega) (by omega)
  have et := tn_eq (x := w 0 20 - 1) (by omega)
  obtain ⟨n, hn⟩ : ∃ n : Nat, n = (w 0 20 - 1).toNatClampNeg := ⟨_, rfl⟩
  have hw := r4 n (by omega)
  have hB : (w 0 20).toInt.toNat = n + 1 := by omega
  have hbw : bw (w 9) (n + 1) = bw (w 9) n + (if 6 ≤ (w 9 n).toInt ∧ (w 9 n).toInt ≤ 12 then 1 else 0) := rfl
  have hnn := bw_nn (f := w 9) n
  rw [hB, hbw] at r6
  refine ⟨vp_in_iff.mpr (by omega), ?_⟩
  rw [← hn]
  refine rs_rank (by omega) hG (fun r hr hr1 hr0 => ⟨fun h2 => kQ (Or.inr (fun hp1 j hj => ?_)), fun h2 => ?_⟩)
  · simp only [Int32.lt_iff_toInt_lt] at h2
    have ej : j = n := by omega
    rw [ej]
    unfold waitOK at hw
    omega
  simp only [Int32.lt_iff_toInt_lt] at h2
  have hc : 6 ≤ (w 9 n).toInt ∧ (w 9 n).toInt ≤ 14 := by
    unfold waitOK at hw
    by_cases q : (w 9 n).toInt = -1 ∨ (w 9 n).toInt = -2
    · have := hr0 q
      omega
    · omega
  intro w6 e6
  have q20 : w6 0 20 = w 0 20 - 1 := by rw [e6, ws_hit]
  have q13 : w6 0 13 = w 0 13 := by rw [e6, ws_row (by decide)]
  have q8 : w6 8 = w 8 := by rw [e6, wset_off _ _ _ _ _ (by decide)]
  have q9 : w6 9 = w 9 := by rw [e6, wset_off _ _ _ _ _ (by decide)]
  have K6 : KP b w w6 := by
    rw [e6]
    exact KP.set (Or.inr (Or.inl rfl))
  have L6 : K2 w w6 := by
    rw [e6]
    exact K2.set (Or.inr (Or.inl rfl))
  rw [q20, ← hn, q9]
  refine ⟨vp_in_iff.mpr (by omega), ?_⟩
  refine cs_X5_codes (by omega) hG (by rw [q13]; exact vp_in_iff.mpr (by omega)) ?_
  generalize hv : wset (wset w6 0 13 (w6 0 13 + 1)) 8 (w6 0 13).toNatClampNeg (w 9 n) = v
  obtain ⟨a1, a2, a3, a4, a5, a6⟩ := emit_code (b := b) hv.symm (by rw [q13]; exact r1) (by rw [q13]; omega) (by rw [q13, q8]; exact r5) (by omega) (fun q => by rw [q13, q8, r6, if_neg (by omega)]; omega) (fun q => by rw [q13, q8, r6, if_pos q]; omega)
  have Rv : RS b lim 1 v := by
    unfold RS
    rw [a3, a4, q20, q9]
    rw [q13] at a1
    refine ⟨by omega, by omega, by omega, fun j hj => r4 j (by omega), a5, ?_⟩
    rw [a6, q13, q8, r6]
    have e2 : (w 0 20 - 1).toInt.toNat = n := by omega
    rw [e2]
    have hB2 : ¬ (15 ≤ (w 9 n).toInt ∨ (w 9 n).toInt ≤ 5) := by omega
    by_cases u : (w 9 n).toInt = 13 ∨ (w 9 n).toInt = 14
    · rw [if_neg (show ¬ (6 ≤ (w 9 n).toInt ∧ (w 9 n).toInt ≤ 12) by omega), if_neg hB2, if_pos u]
      omega
    · rw [if_pos (show 6 ≤ (w 9 n).toInt ∧ (w 9 n).toInt ≤ 12 by omega), if_neg hB2, if_neg u]
      omega
  have Kv : KP b w v := K6.trans a2
  have Lv : K2 w v := by
    rw [← hv]
    exact (L6.trans (K2.set (Or.inl rfl))).trans (K2.col (by decide))
  have v20 : v 0 20 = w 0 20 - 1 := by rw [a3, q20]
  have go : ∀ x : Int32, P (wset v 0 21 x) := fun x => kP _ (Rv.set (by decide)) (Kv.trans (KP.set (Or.inr (Or.inr (Or.inl rfl))))) (Lv.trans (K2.set (Or.inr (Or.inr rfl)))) (by rw [ws_row (by decide), v20]; omega)
  rw [v20]
  refine ⟨vp_in_iff.mpr (by omega), fun _ w13 e13 => e13 ▸ go _, fun _ => ⟨fun _ => kP v Rv Kv Lv (by rw [v20]; omega), fun _ w13 e13 => e13 ▸ go _⟩⟩
theorem rs_lays {Γ : Gx} {d : Nat} (hd : 2 ≤ d) (hG : GM Γ) {b : Nat} {lim : Int} {p1 : Int32} {w : Wd} (hl : lim ≤ b + 199 ∧ lim ≤ 2900) (hp : 1 ≤ p1.toInt) (R : RS b lim 1 w) {Q : Wd → Prop} (k : ∀ w' : Wd, RS b lim 1 w' → KP b w w' → K2 w w' → ((w' 0 20).toInt ≤ 0 ∨ (p1.toInt = 1 → ∀ j : Nat, (w' 0 20).toInt = j + 1 → (w' 9 j).toInt = -1 ∨ (w' 9 j).toInt = -2)) → Q w') : CV Γ d M_X5_lays [.ref (gad Γ 0), .int p1] w Q := by
  obtain ⟨d, rfl⟩ : ∃ e, d = e + 1 := ⟨d - 1, by omega⟩
  refine con_X5_lays hG ?_
  unfold wp_X5_lays
  intro P c
  have key : ∀ (m : Nat) (u : Wd), RS b lim 1 u → KP b w u → K2 w u → (u 0 20).toInt.toNat < m → P u := by
    intro m
    induction m with
    | zero => exact fun _ _ _ _ h => absurd h (Nat.not_lt_zero _)
    | succ m ih =>
      intro u Ru Ku Lu hm
      have := Ru.2.1
      exact c u (lays_step (by omega) hG hl hp Ru (fun q => k u Ru Ku Lu q) (fun v Rv Kv Lv hv => ih v Rv (Ku.trans Kv) (Lu.trans Lv) (by have := Rv.2.1; omega)))
  exact lays_step (by omega) hG hl hp R (fun q => k w R KP.rfl (fun _ _ _ _ => rfl) q) (fun v Rv Kv Lv hv => key _ v Rv Kv Lv (Nat.lt_succ_self _))
