/-! the model's lexer, safe (written by program) -/
/-- what the lexer leaves alone -/
def NK (u w : Wd) : Prop := (∀ c : Nat, c ≠ 0 → w c = u c) ∧ ∀ s : Nat, s < 14 ∨ 18 < s → w 0 s = u 0 s
theorem NK.t {u w : Wd} (i : NK u w) : (w 0 7).toInt = (u 0 7).toInt := by rw [i.2 7 (by decide)]
theorem NK.set {u w : Wd} {s : Nat} {v : Int32} (h : 14 ≤ s ∧ s ≤ 18) (i : NK u w) : NK u (wset w 0 s v) := ⟨fun c hc => (wset_off _ _ _ _ _ hc).trans (i.1 c hc), fun t ht => (ws_row (by omega)).trans (i.2 t ht)⟩
/-- a token stands -/
def LX (w : Wd) : Prop := 0 ≤ (w 0 14).toInt ∧ (w 0 14).toInt ≤ (w 0 15).toInt ∧ (w 0 15).toInt ≤ (w 0 7).toInt ∧ (w 0 7).toInt ≤ 160 ∧ ((w 0 16).toInt = 101 ∨ (w 0 14).toInt < (w 0 15).toInt) ∧ ((w 0 16).toInt = 48 → 0 ≤ (w 0 17).toInt ∧ (w 0 17).toInt ≤ 9999)

set_option maxRecDepth 20000 in
theorem cs_X5_isSign {Γ : Gx} {d : Nat} (hd : 1 ≤ d) (hG : GM Γ) {p1 : Int32} {w : Wd} {Q : Int32 → Wd → Prop} (k : ∀ (r : Int32), Q r w) : CI Γ d M_X5_isSign [.int p1] w Q := by
  obtain ⟨d, rfl⟩ : ∃ e, d = e + 1 := ⟨d - 1, by omega⟩
  refine con_X5_isSign hG ?_
  unfold wp_X5_isSign
  refine ⟨fun h1421 => ?_, fun h1422 => ?_⟩
  · simp only [Int32.lt_iff_toInt_lt, Int32.le_iff_toInt_le, ← Int32.toInt_inj, Int32.reduceToInt] at h1421
    exact k _
  · simp only [Int32.lt_iff_toInt_lt, Int32.le_iff_toInt_le, ← Int32.toInt_inj, Int32.reduceToInt] at h1422
    exact k _

set_option maxRecDepth 20000 in
theorem cs_X5_isKey {Γ : Gx} {d : Nat} (hd : 1 ≤ d) (hG : GM Γ) {w : Wd} {Q : Int32 → Wd → Prop} (k : ∀ (r : Int32), Q r w) : CI Γ d M_X5_isKey [.ref (gad Γ 0)] w Q := by
  obtain ⟨d, rfl⟩ : ∃ e, d = e + 1 := ⟨d - 1, by omega⟩
  refine con_X5_isKey hG ?_
  unfold wp_X5_isKey
  refine ⟨fun h1423 => ?_, fun h1424 => ?_⟩
  · simp only [Int32.lt_iff_toInt_lt, Int32.le_iff_toInt_le, ← Int32.toInt_inj, Int32.reduceToInt] at h1423
    exact k _
  · simp only [Int32.lt_iff_toInt_lt, Int32.le_iff_toInt_le, ← Int32.toInt_inj, Int32.reduceToInt] at h1424
    exact k _

set_option maxRecDepth 20000 in
theorem cs_X5_named {Γ : Gx} {d : Nat} (hd : 1 ≤ d) (hG : GM Γ) {w : Wd} {Q : Int32 → Wd → Prop} (k : ∀ (r : Int32), (r.toInt = -1 ∨ (0 ≤ r.toInt ∧ r.toInt ≤ 5)) → Q r w) : CI Γ d M_X5_named [.ref (gad Γ 0)] w Q := by
  obtain ⟨d, rfl⟩ : ∃ e, d = e + 1 := ⟨d - 1, by omega⟩
  refine con_X5_named hG ?_
  unfold wp_X5_named
  refine ⟨fun h1425 => ?_, fun h1426 => ?_, fun h1427 => ?_, fun h1428 => ?_, fun h1429 => ?_, fun h1430 => ?_, fun h1431 => ?_⟩
  · simp only [Int32.lt_iff_toInt_lt, Int32.le_iff_toInt_le, ← Int32.toInt_inj, Int32.reduceToInt] at h1425
    exact k _ (by decide)
  · simp only [Int32.lt_iff_toInt_lt, Int32.le_iff_toInt_le, ← Int32.toInt_inj, Int32.reduceToInt] at h1426
    exact k _ (by decide)
  · simp only [Int32.lt_iff_toInt_lt, Int32.le_iff_toInt_le, ← Int32.toInt_inj, Int32.reduceToInt] at h1427
    exact k _ (by decide)
  · simp only [Int32.lt_iff_toInt_lt, Int32.le_iff_toInt_le, ← Int32.toInt_inj, Int32.reduceToInt] at h1428
    exact k _ (by decide)
  · simp only [Int32.lt_iff_toInt_lt, Int32.le_iff_toInt_le, ← Int32.toInt_inj, Int32.reduceToInt] at h1429
    exact k _ (by decide)
  · simp only [Int32.lt_iff_toInt_lt, Int32.le_iff_toInt_le, ← Int32.toInt_inj, Int32.reduceToInt] at h1430
    exact k _ (by decide)
  · simp only [Int32.lt_iff_toInt_lt, Int32.le_iff_toInt_le, ← Int32.toInt_inj, Int32.reduceToInt] at h1431
    exact k _ (by decide)

set_option maxRecDepth 20000 in
theorem rs_next {Γ : Gx} {d : Nat} (hd : 2 ≤ d) (hG : GM Γ) {u0 : Wd} {w : Wd} (i : NK u0 w) (hT : 0 ≤ (u0 0 7).toInt ∧ (u0 0 7).toInt ≤ 160) (ho : 0 ≤ (u0 0 15).toInt ∧ (u0 0 15).toInt ≤ (u0 0 7).toInt) (hw : (w 0 15).toInt = (u0 0 15).toInt) {Q : Wd → Prop} (k : ∀ (w' : Wd), NK u0 w' → (LX w') → ((u0 0 15).toInt ≤ (w' 0 14).toInt) → Q w') : CV Γ d M_X5_next [.ref (gad Γ 0)] w Q := by
  obtain ⟨d, rfl⟩ : ∃ e, d = e + 1 := ⟨d - 1, by omega⟩
  refine con_X5_next hG ?_
  unfold wp_X5_next
  have zw := i.t
  intro P_8
  intro P_60
  intro P_108
  intro P_204
  intro P_245
  intro P_321
  intro cP_8
  intro cP_60
  intro cP_108
  intro cP_204
  intro cP_245
  intro cP_321
  have key : ∀ m : Nat, (∀ (w : Wd), NK u0 w → ((u0 0 15).toInt ≤ (w 0 14).toInt ∧ (w 0 14).toInt ≤ (u0 0 7).toInt) → ((161 - (w 0 14).toInt).toNat + 1000) < m → P_8 w) ∧ (∀ (w : Wd), NK u0 w → ((u0 0 15).toInt ≤ (w 0 14).toInt ∧ (w 0 14).toInt ≤ (u0 0 7).toInt) → (900) < m → P_60 w) ∧ (∀ (w : Wd), NK u0 w → ((u0 0 15).toInt ≤ (w 0 14).toInt ∧ (w 0 14).toInt ≤ (w 0 15).toInt ∧ (w 0 15).toInt ≤ (u0 0 7).toInt) → ((w 0 14).toInt < (w 0 15).toInt ∨ ((w 0 14).toInt = (w 0 15).toInt ∧ (w 0 14).toInt < (u0 0 7).toInt ∧ 97 ≤ (w 5 (w 0 14).toNatClampNeg).toInt ∧ (w 5 (w 0 14).toNatClampNeg).toInt ≤ 122)) → ((161 - (w 0 15).toInt).toNat + 2) < m → P_108 w) ∧ (∀ (w : Wd), NK u0 w → ((u0 0 15).toInt ≤ (w 0 14).toInt ∧ (w 0 14).toInt ≤ (w 0 15).toInt ∧ (w 0 15).toInt ≤ (u0 0 7).toInt) → ((w 0 14).toInt < (w 0 15).toInt) → (1) < m → P_204 w) ∧ (∀ (w : Wd), NK u0 w → ((u0 0 15).toInt ≤ (w 0 14).toInt ∧ (w 0 14).toInt ≤ (w 0 15).toInt ∧ (w 0 15).toInt ≤ (u0 0 7).toInt) → ((w 0 14).toInt < (w 0 15).toInt ∨ ((w 0 14).toInt = (w 0 15).toInt ∧ (w 0 14).toInt < (u0 0 7).toInt ∧ 48 ≤ (w 5 (w 0 14).toNatClampNeg).toInt ∧ (w 5 (w 0 14).toNatClampNeg).toInt ≤ 57)) → (0 ≤ (w 0 17).toInt ∧ ((w 0 15).toInt - (w 0 14).toInt ≤ 0 → (w 0 17).toInt ≤ 0) ∧ ((w 0 15).toInt - (w 0 14).toInt ≤ 1 → (w 0 17).toInt ≤ 9) ∧ ((w 0 15).toInt - (w 0 14).toInt ≤ 2 → (w 0 17).toInt ≤ 99) ∧ ((w 0 15).toInt - (w 0 14).toInt ≤ 3 → (w 0 17).toInt ≤ 999) ∧ (w 0 17).toInt ≤ 9999) → ((161 - (w 0 15).toInt).toNat + 2) < m → P_245 w) ∧ (∀ (w : Wd), NK u0 w → ((u0 0 15).toInt ≤ (w 0 14).toInt ∧ (w 0 14).toInt ≤ (w 0 15).toInt ∧ (w 0 15).toInt ≤ (u0 0 7).toInt) → ((w 0 14).toInt < (w 0 15).toInt) → (0 ≤ (w 0 17).toInt ∧ ((w 0 15).toInt - (w 0 14).toInt ≤ 0 → (w 0 17).toInt ≤ 0) ∧ ((w 0 15).toInt - (w 0 14).toInt ≤ 1 → (w 0 17).toInt ≤ 9) ∧ ((w 0 15).toInt - (w 0 14).toInt ≤ 2 → (w 0 17).toInt ≤ 99) ∧ ((w 0 15).toInt - (w 0 14).toInt ≤ 3 → (w 0 17).toInt ≤ 999) ∧ (w 0 17).toInt ≤ 9999) → (1) < m → P_321 w) := by
    intro m
    induction m with
    | zero => exact ⟨fun _ _ _ h => absurd h (Nat.not_lt_zero _), fun _ _ _ h => absurd h (Nat.not_lt_zero _), fun _ _ _ _ h => absurd h (Nat.not_lt_zero _), fun _ _ _ _ h => absurd h (Nat.not_lt_zero _), fun _ _ _ _ _ h => absurd h (Nat.not_lt_zero _), fun _ _ _ _ _ h => absurd h (Nat.not_lt_zero _)⟩
    | succ m ih =>
      refine ⟨?_, ?_, ?_, ?_, ?_, ?_⟩
      · intro w i v0 hm
        refine cP_8 _ ?_
        have z4 := i.t
        refine ⟨fun h1432 => ?_, fun h1433 => ?_⟩
        · simp only [Int32.lt_iff_toInt_lt, Int32.le_iff_toInt_le, ← Int32.toInt_inj, Int32.reduceToInt] at h1432
          exact ih.2.1 _ i (by first | omega | rfl | assumption) (by omega)
        · simp only [Int32.lt_iff_toInt_lt, Int32.le_iff_toInt_le, ← Int32.toInt_inj, Int32.reduceToInt] at h1433
          have := i_lo (w 0 14)
          have := i_hi (w 0 14)
          refine ⟨vp_in_iff.mpr (by omega), ?_⟩
          refine ⟨fun h1434 => ?_, fun h1435 => ?_⟩
          · simp only [Int32.lt_iff_toInt_lt, Int32.le_iff_toInt_le, ← Int32.toInt_inj, Int32.reduceToInt] at h1434
            intro w6 ew6
            have : (1 : Int32).toInt = 1 := rfl
            have := i_add (x := (w 0 14)) (y := (1 : Int32)) (by omega) (by omega)
            have iw6 : NK u0 w6 := ew6 ▸ NK.set (by decide) i
            have zw6 := iw6.t
            have : (w6 0 14).toInt = (((w 0 14) + (1 : Int32)) : Int32).toInt := by rw [ew6, ws_hit]
            have : (w6 0 15).toInt = (w 0 15).toInt := by rw [ew6, ws_row (by decide)]
            have : (w6 0 16).toInt = (w 0 16).toInt := by rw [ew6, ws_row (by decide)]
            have : (w6 0 17).toInt = (w 0 17).toInt := by rw [ew6, ws_row (by decide)]
            exact ih.1 _ iw6 (by first | omega | rfl | assumption) (by omega)
          · simp only [Int32.lt_iff_toInt_lt, Int32.le_iff_toInt_le, ← Int32.toInt_inj, Int32.reduceToInt] at h1435
            refine ⟨fun h1436 => ?_, fun h1437 => ?_⟩
            · simp only [Int32.lt_iff_toInt_lt, Int32.le_iff_toInt_le, ← Int32.toInt_inj, Int32.reduceToInt] at h1436
              exact ih.2.1 _ i (by first | omega | rfl | assumption) (by omega)
            · simp only [Int32.lt_iff_toInt_lt, Int32.le_iff_toInt_le, ← Int32.toInt_inj, Int32.reduceToInt] at h1437
              intro w9 ew9
              have : (1 : Int32).toInt = 1 := rfl
              have := i_add (x := (w 0 14)) (y := (1 : Int32)) (by omega) (by omega)
              have iw9 : NK u0 w9 := ew9 ▸ NK.set (by decide) i
              have zw9 := iw9.t
              have : (w9 0 14).toInt = (((w 0 14) + (1 : Int32)) : Int32).toInt := by rw [ew9, ws_hit]
              have : (w9 0 15).toInt = (w 0 15).toInt := by rw [ew9, ws_row (by decide)]
              have : (w9 0 16).toInt = (w 0 16).toInt := by rw [ew9, ws_row (by decide)]
              have : (w9 0 17).toInt = (w 0 17).toInt := by rw [ew9, ws_row (by decide)]
              exact ih.1 _ iw9 (by first | omega | rfl | assumption) (by omega)
      · intro w i v0 hm
        refine cP_60 _ ?_
        have z4 := i.t
        intro w11 ew11
        have := i_lo (w 0 14)
        have := i_hi (w 0 14)
        have iw11 : NK u0 w11 := ew11 ▸ NK.set (by decide) i
        have zw11 := iw11.t
        have : (w11 0 14).toInt = (w 0 14).toInt := by rw [ew11, ws_row (by decide)]
        have : (w11 0 15).toInt = ((w 0 14) : Int32).toInt := by rw [ew11, ws_hit]
        have : (w11 0 16).toInt = (w 0 16).toInt := by rw [ew11, ws_row (by decide)]
        have : (w11 0 17).toInt = (w 0 17).toInt := by rw [ew11, ws_row (by decide)]
        intro w13 ew13
        have iw13 : NK u0 w13 := ew13 ▸ NK.set (by decide) iw11
        have zw13 := iw13.t
        have : (w13 0 14).toInt = (w11 0 14).toInt := by rw [ew13, ws_row (by decide)]
        have : (w13 0 15).toInt = (w11 0 15).toInt := by rw [ew13, ws_row (by decide)]
        have : (w13 0 16).toInt = (w11 0 16).toInt := by rw [ew13, ws_row (by decide)]
        have : (w13 0 17).toInt = (w11 0 17).toInt := by rw [ew13, ws_row (by decide)]
        refine ⟨fun h1438 => ?_, fun h1439 => ?_⟩
        · simp only [Int32.lt_iff_toInt_lt, Int32.le_iff_toInt_le, ← Int32.toInt_inj, Int32.reduceToInt] at h1438
          have := i_lo (w13 0 14)
          have := i_hi (w13 0 14)
          refine ⟨vp_in_iff.mpr (by omega), ?_⟩
          refine cs_X5_isLetter (by omega) hG (fun r17 y1440 y1441 => ?_)
          refine ⟨fun h1442 => ?_, fun h1443 => ?_⟩
          · have h1442 : ¬ _ := fun q => y1441.mpr q h1442
            refine cs_X5_isDigit (by omega) hG (fun r20 y1444 y1445 => ?_)
            refine ⟨fun h1446 => ?_, fun h1447 => ?_⟩
            · have h1446 : ¬ _ := fun q => y1445.mpr q h1446
              intro w23 ew23
              have := i_lo (w13 0 15)
              have := i_hi (w13 0 15)
              have : (1 : Int32).toInt = 1 := rfl
              have := i_add (x := (w13 0 15)) (y := (1 : Int32)) (by omega) (by omega)
              have iw23 : NK u0 w23 := ew23 ▸ NK.set (by decide) iw13
              have zw23 := iw23.t
              have : (w23 0 14).toInt = (w13 0 14).toInt := by rw [ew23, ws_row (by decide)]
              have : (w23 0 15).toInt = (((w13 0 15) + (1 : Int32)) : Int32).toInt := by rw [ew23, ws_hit]
              have : (w23 0 16).toInt = (w13 0 16).toInt := by rw [ew23, ws_row (by decide)]
              have : (w23 0 17).toInt = (w13 0 17).toInt := by rw [ew23, ws_row (by decide)]
              refine cs_X5_isSign (by omega) hG (fun r25 => ?_)
              refine ⟨fun h1448 => ?_, fun h1449 => ?_⟩
              · simp only [Int32.lt_iff_toInt_lt, Int32.le_iff_toInt_le, ← Int32.toInt_inj, Int32.reduceToInt] at h1448
                intro w28 ew28
                have : (120 : Int32).toInt = 120 := rfl
                have iw28 : NK u0 w28 := ew28 ▸ NK.set (by decide) iw23
                have zw28 := iw28.t
                have : (w28 0 14).toInt = (w23 0 14).toInt := by rw [ew28, ws_row (by decide)]
                have : (w28 0 15).toInt = (w23 0 15).toInt := by rw [ew28, ws_row (by decide)]
                have : (w28 0 16).toInt = ((120 : Int32) : Int32).toInt := by rw [ew28, ws_hit]
                have : (w28 0 17).toInt = (w23 0 17).toInt := by rw [ew28, ws_row (by decide)]
                exact k _ iw28 ⟨by omega, by omega, by omega, by omega, by omega, fun _ => by omega⟩ (by omega)
              · simp only [Int32.lt_iff_toInt_lt, Int32.le_iff_toInt_le, ← Int32.toInt_inj, Int32.reduceToInt] at h1449
                intro w30 ew30
                have := i_lo (w13 5 ((w13 0 14)).toNatClampNeg)
                have := i_hi (w13 5 ((w13 0 14)).toNatClampNeg)
                have iw30 : NK u0 w30 := ew30 ▸ NK.set (by decide) iw23
                have zw30 := iw30.t
                have : (w30 0 14).toInt = (w23 0 14).toInt := by rw [ew30, ws_row (by decide)]
                have : (w30 0 15).toInt = (w23 0 15).toInt := by rw [ew30, ws_row (by decide)]
                have : (w30 0 16).toInt = ((w13 5 ((w13 0 14)).toNatClampNeg) : Int32).toInt := by rw [ew30, ws_hit]
                have : (w30 0 17).toInt = (w23 0 17).toInt := by rw [ew30, ws_row (by decide)]
                exact k _ iw30 ⟨by omega, by omega, by omega, by omega, by omega, fun _ => by omega⟩ (by omega)
            · have h1447 := y1445.mp h1447
              intro w32 ew32
              have : (0 : Int32).toInt = 0 := rfl
              have iw32 : NK u0 w32 := ew32 ▸ NK.set (by decide) iw13
              have zw32 := iw32.t
              have : (w32 0 14).toInt = (w13 0 14).toInt := by rw [ew32, ws_row (by decide)]
              have : (w32 0 15).toInt = (w13 0 15).toInt := by rw [ew32, ws_row (by decide)]
              have : (w32 0 16).toInt = (w13 0 16).toInt := by rw [ew32, ws_row (by decide)]
              have : (w32 0 17).toInt = ((0 : Int32) : Int32).toInt := by rw [ew32, ws_hit]
              have hb : (w32 5 (w32 0 14).toNatClampNeg).toInt = (w13 5 (w13 0 14).toNatClampNeg).toInt := by rw [ew32, ws_col (by decide), ws_row (by decide)]
              exact ih.2.2.2.2.1 _ iw32 (by first | omega | rfl | assumption) (by first | omega | rfl | assumption) (by first | omega | rfl | assumption) (by omega)
          · have h1443 := y1441.mp h1443
            exact ih.2.2.1 _ iw13 (by first | omega | rfl | assumption) (by first | omega | rfl | assumption) (by omega)
        · simp only [Int32.lt_iff_toInt_lt, Int32.le_iff_toInt_le, ← Int32.toInt_inj, Int32.reduceToInt] at h1439
          intro w34 ew34
          have : (101 : Int32).toInt = 101 := rfl
          have iw34 : NK u0 w34 := ew34 ▸ NK.set (by decide) iw13
          have zw34 := iw34.t
          have : (w34 0 14).toInt = (w13 0 14).toInt := by rw [ew34, ws_row (by decide)]
          have : (w34 0 15).toInt = (w13 0 15).toInt := by rw [ew34, ws_row (by decide)]
          have : (w34 0 16).toInt = ((101 : Int32) : Int32).toInt := by rw [ew34, ws_hit]
          have : (w34 0 17).toInt = (w13 0 17).toInt := by rw [ew34, ws_row (by decide)]
          exact k _ iw34 ⟨by omega, by omega, by omega, by omega, by omega, fun _ => by omega⟩ (by omega)
      · intro w i v0 v1 hm
        refine cP_108 _ ?_
        have z4 := i.t
        have hix : (w 0 14).toInt ≠ (w 0 15).toInt ∨ (w 5 (w 0 15).toNatClampNeg).toInt = (w 5 (w 0 14).toNatClampNeg).toInt := by
          by_cases q : (w 0 14).toInt = (w 0 15).toInt
          · exact Or.inr (by rw [i_ext q])
          · exact Or.inl q
        refine ⟨fun h1450 => ?_, fun h1451 => ?_⟩
        · simp only [Int32.lt_iff_toInt_lt, Int32.le_iff_toInt_le, ← Int32.toInt_inj, Int32.reduceToInt] at h1450
          refine ⟨fun h1452 => ?_, fun h1453 => ?_⟩
          · have := i_lo (w 0 15)
            have := i_hi (w 0 15)
            have := i_lo (w 0 14)
            have := i_hi (w 0 14)
            have := i_sub (x := (w 0 15)) (y := (w 0 14)) (by omega) (by omega)
            simp only [Int32.lt_iff_toInt_lt, Int32.le_iff_toInt_le, ← Int32.toInt_inj, Int32.reduceToInt] at h1452
            exact ih.2.2.2.1 _ i (by first | omega | rfl | assumption) (by first | omega | rfl | assumption) (by omega)
          · have := i_lo (w 0 15)
            have := i_hi (w 0 15)
            have := i_lo (w 0 14)
            have := i_hi (w 0 14)
            have := i_sub (x := (w 0 15)) (y := (w 0 14)) (by omega) (by omega)
            simp only [Int32.lt_iff_toInt_lt, Int32.le_iff_toInt_le, ← Int32.toInt_inj, Int32.reduceToInt] at h1453
            intro w38 ew38
            have iw38 : NK u0 w38 := ew38 ▸ NK.set (by decide) i
            have zw38 := iw38.t
            have : (w38 0 14).toInt = (w 0 14).toInt := by rw [ew38, ws_row (by decide)]
            have : (w38 0 15).toInt = (w 0 15).toInt := by rw [ew38, ws_row (by decide)]
            have : (w38 0 16).toInt = (w 0 16).toInt := by rw [ew38, ws_row (by decide)]
            have : (w38 0 17).toInt = (w 0 17).toInt := by rw [ew38, ws_row (by decide)]
            exact ih.2.2.2.1 _ iw38 (by first | omega | rfl | assumption) (by first | omega | rfl | assumption) (by omega)
        · simp only [Int32.lt_iff_toInt_lt, Int32.le_iff_toInt_le, ← Int32.toInt_inj, Int32.reduceToInt] at h1451
          have := i_lo (w 0 15)
          have := i_hi (w 0 15)
          refine ⟨vp_in_iff.mpr (by omega), ?_⟩
          refine cs_X5_isLetter (by omega) hG (fun r41 y1454 y1455 => ?_)
          refine ⟨fun h1456 => ?_, fun h1457 => ?_⟩
          · have h1456 : ¬ _ := fun q => y1455.mpr q h1456
            refine ⟨fun h1458 => ?_, fun h1459 => ?_⟩
            · have := i_lo (w 0 14)
              have := i_hi (w 0 14)
              have := i_sub (x := (w 0 15)) (y := (w 0 14)) (by omega) (by omega)
              simp only [Int32.lt_iff_toInt_lt, Int32.le_iff_toInt_le, ← Int32.toInt_inj, Int32.reduceToInt] at h1458
              exact ih.2.2.2.1 _ i (by first | omega | rfl | assumption) (by first | omega | rfl | assumption) (by omega)
            · have := i_lo (w 0 14)
              have := i_hi (w 0 14)
              have := i_sub (x := (w 0 15)) (y := (w 0 14)) (by omega) (by omega)
              simp only [Int32.lt_iff_toInt_lt, Int32.le_iff_toInt_le, ← Int32.toInt_inj, Int32.reduceToInt] at h1459
              intro w45 ew45
              have iw45 : NK u0 w45 := ew45 ▸ NK.set (by decide) i
              have zw45 := iw45.t
              have : (w45 0 14).toInt = (w 0 14).toInt := by rw [ew45, ws_row (by decide)]
              have : (w45 0 15).toInt = (w 0 15).toInt := by rw [ew45, ws_row (by decide)]
              have : (w45 0 16).toInt = (w 0 16).toInt := by rw [ew45, ws_row (by decide)]
              have : (w45 0 17).toInt = (w 0 17).toInt := by rw [ew45, ws_row (by decide)]
              exact ih.2.2.2.1 _ iw45 (by first | omega | rfl | assumption) (by first | omega | rfl | assumption) (by omega)
          · have h1457 := y1455.mp h1457
            refine ⟨fun h1460 => ?_, fun h1461 => ?_⟩
            · have := i_lo (w 0 14)
              have := i_hi (w 0 14)
              have := i_sub (x := (w 0 15)) (y := (w 0 14)) (by omega) (by omega)
              simp only [Int32.lt_iff_toInt_lt, Int32.le_iff_toInt_le, ← Int32.toInt_inj, Int32.reduceToInt] at h1460
              intro w48 ew48
              have : (1 : Int32).toInt = 1 := rfl
              have := i_add (x := (w 0 15)) (y := (1 : Int32)) (by omega) (by omega)
              have iw48 : NK u0 w48 := ew48 ▸ NK.set (by decide) i
              have zw48 := iw48.t
              have : (w48 0 14).toInt = (w 0 14).toInt := by rw [ew48, ws_row (by decide)]
              have : (w48 0 15).toInt = (((w 0 15) + (1 : Int32)) : Int32).toInt := by rw [ew48, ws_hit]
              have : (w48 0 16).toInt = (w 0 16).toInt := by rw [ew48, ws_row (by decide)]
              have : (w48 0 17).toInt = (w 0 17).toInt := by rw [ew48, ws_row (by decide)]
              exact ih.2.2.1 _ iw48 (by first | omega | rfl | assumption) (by first | omega | rfl | assumption) (by omega)
            · have := i_lo (w 0 14)
              have := i_hi (w 0 14)
              have := i_sub (x := (w 0 15)) (y := (w 0 14)) (by omega) (by omega)
              simp only [Int32.lt_iff_toInt_lt, Int32.le_iff_toInt_le, ← Int32.toInt_inj, Int32.reduceToInt] at h1461
              refine ⟨vp_in_iff.mpr (by omega), ?_⟩
              intro w51 ew51
              have iw51 : NK u0 w51 := ew51 ▸ NK.set (by decide) i
              have zw51 := iw51.t
              have : (w51 0 14).toInt = (w 0 14).toInt := by rw [ew51, ws_row (by decide)]
              have : (w51 0 15).toInt = (w 0 15).toInt := by rw [ew51, ws_row (by decide)]
              have : (w51 0 16).toInt = (w 0 16).toInt := by rw [ew51, ws_row (by decide)]
              have : (w51 0 17).toInt = (w 0 17).toInt := by rw [ew51, ws_row (by decide)]
              intro w53 ew53
              have := i_lo (w51 0 15)
              have := i_hi (w51 0 15)
              have : (1 : Int32).toInt = 1 := rfl
              have := i_add (x := (w51 0 15)) (y := (1 : Int32)) (by omega) (by omega)
              have iw53 : NK u0 w53 := ew53 ▸ NK.set (by decide) iw51
              have zw53 := iw53.t
              have : (w53 0 14).toInt = (w51 0 14).toInt := by rw [ew53, ws_row (by decide)]
              have : (w53 0 15).toInt = (((w51 0 15) + (1 : Int32)) : Int32).toInt := by rw [ew53, ws_hit]
              have : (w53 0 16).toInt = (w51 0 16).toInt := by rw [ew53, ws_row (by decide)]
              have : (w53 0 17).toInt = (w51 0 17).toInt := by rw [ew53, ws_row (by decide)]
              exact ih.2.2.1 _ iw53 (by first | omega | rfl | assumption) (by first | omega | rfl | assumption) (by omega)
      · intro w i v0 v1 hm
        refine cP_204 _ ?_
        have z4 := i.t
        refine cs_X5_named (by omega) hG (fun r55 y1462 => ?_)
        refine ⟨fun h1463 => ?_, fun h1464 => ?_⟩
        · simp only [Int32.lt_iff_toInt_lt, Int32.le_iff_toInt_le, ← Int32.toInt_inj, Int32.reduceToInt] at h1463
          intro w58 ew58
          have : (119 : Int32).toInt = 119 := rfl
          have iw58 : NK u0 w58 := ew58 ▸ NK.set (by decide) i
          have zw58 := iw58.t
          have : (w58 0 14).toInt = (w 0 14).toInt := by rw [ew58, ws_row (by decide)]
          have : (w58 0 15).toInt = (w 0 15).toInt := by rw [ew58, ws_row (by decide)]
          have : (w58 0 16).toInt = ((119 : Int32) : Int32).toInt := by rw [ew58, ws_hit]
          have : (w58 0 17).toInt = (w 0 17).toInt := by rw [ew58, ws_row (by decide)]
          exact k _ iw58 ⟨by omega, by omega, by omega, by omega, by omega, fun _ => by omega⟩ (by omega)
        · simp only [Int32.lt_iff_toInt_lt, Int32.le_iff_toInt_le, ← Int32.toInt_inj, Int32.reduceToInt] at h1464
          refine cs_X5_isKey (by omega) hG (fun r60 => ?_)
          refine ⟨fun h1465 => ?_, fun h1466 => ?_⟩
          · simp only [Int32.lt_iff_toInt_lt, Int32.le_iff_toInt_le, ← Int32.toInt_inj, Int32.reduceToInt] at h1465
            intro w63 ew63
            have : (119 : Int32).toInt = 119 := rfl
            have iw63 : NK u0 w63 := ew63 ▸ NK.set (by decide) i
            have zw63 := iw63.t
            have : (w63 0 14).toInt = (w 0 14).toInt := by rw [ew63, ws_row (by decide)]
            have : (w63 0 15).toInt = (w 0 15).toInt := by rw [ew63, ws_row (by decide)]
            have : (w63 0 16).toInt = ((119 : Int32) : Int32).toInt := by rw [ew63, ws_hit]
            have : (w63 0 17).toInt = (w 0 17).toInt := by rw [ew63, ws_row (by decide)]
            exact k _ iw63 ⟨by omega, by omega, by omega, by omega, by omega, fun _ => by omega⟩ (by omega)
          · simp only [Int32.lt_iff_toInt_lt, Int32.le_iff_toInt_le, ← Int32.toInt_inj, Int32.reduceToInt] at h1466
            intro w65 ew65
            have : (120 : Int32).toInt = 120 := rfl
            have iw65 : NK u0 w65 := ew65 ▸ NK.set (by decide) i
            have zw65 := iw65.t
            have : (w65 0 14).toInt = (w 0 14).toInt := by rw [ew65, ws_row (by decide)]
            have : (w65 0 15).toInt = (w 0 15).toInt := by rw [ew65, ws_row (by decide)]
            have : (w65 0 16).toInt = ((120 : Int32) : Int32).toInt := by rw [ew65, ws_hit]
            have : (w65 0 17).toInt = (w 0 17).toInt := by rw [ew65, ws_row (by decide)]
            exact k _ iw65 ⟨by omega, by omega, by omega, by omega, by omega, fun _ => by omega⟩ (by omega)
      · intro w i v0 v1 v2 hm
        refine cP_245 _ ?_
        have z4 := i.t
        have hix : (w 0 14).toInt ≠ (w 0 15).toInt ∨ (w 5 (w 0 15).toNatClampNeg).toInt = (w 5 (w 0 14).toNatClampNeg).toInt := by
          by_cases q : (w 0 14).toInt = (w 0 15).toInt
          · exact Or.inr (by rw [i_ext q])
          · exact Or.inl q
        refine ⟨fun h1467 => ?_, fun h1468 => ?_⟩
        · simp only [Int32.lt_iff_toInt_lt, Int32.le_iff_toInt_le, ← Int32.toInt_inj, Int32.reduceToInt] at h1467
          exact ih.2.2.2.2.2 _ i (by first | omega | rfl | assumption) (by first | omega | rfl | assumption) (by first | omega | rfl | assumption) (by omega)
        · simp only [Int32.lt_iff_toInt_lt, Int32.le_iff_toInt_le, ← Int32.toInt_inj, Int32.reduceToInt] at h1468
          have := i_lo (w 0 15)
          have := i_hi (w 0 15)
          refine ⟨vp_in_iff.mpr (by omega), ?_⟩
          refine cs_X5_isDigit (by omega) hG (fun r69 y1469 y1470 => ?_)
          refine ⟨fun h1471 => ?_, fun h1472 => ?_⟩
          · have h1471 : ¬ _ := fun q => y1470.mpr q h1471
            exact ih.2.2.2.2.2 _ i (by first | omega | rfl | assumption) (by first | omega | rfl | assumption) (by first | omega | rfl | assumption) (by omega)
          · have h1472 := y1470.mp h1472
            refine ⟨fun h1473 => ?_, fun h1474 => ?_⟩
            · have := i_lo (w 0 14)
              have := i_hi (w 0 14)
              have := i_sub (x := (w 0 15)) (y := (w 0 14)) (by omega) (by omega)
              simp only [Int32.lt_iff_toInt_lt, Int32.le_iff_toInt_le, ← Int32.toInt_inj, Int32.reduceToInt] at h1473
              intro w73 ew73
              have : (1 : Int32).toInt = 1 := rfl
              have := i_add (x := (w 0 15)) (y := (1 : Int32)) (by omega) (by omega)
              have iw73 : NK u0 w73 := ew73 ▸ NK.set (by decide) i
              have zw73 := iw73.t
              have : (w73 0 14).toInt = (w 0 14).toInt := by rw [ew73, ws_row (by decide)]
              have : (w73 0 15).toInt = (((w 0 15) + (1 : Int32)) : Int32).toInt := by rw [ew73, ws_hit]
              have : (w73 0 16).toInt = (w 0 16).toInt := by rw [ew73, ws_row (by decide)]
              have : (w73 0 17).toInt = (w 0 17).toInt := by rw [ew73, ws_row (by decide)]
              exact ih.2.2.2.2.1 _ iw73 (by first | omega | rfl | assumption) (by first | omega | rfl | assumption) (by first | omega | rfl | assumption) (by omega)
            · have := i_lo (w 0 14)
              have := i_hi (w 0 14)
              have := i_sub (x := (w 0 15)) (y := (w 0 14)) (by omega) (by omega)
              simp only [Int32.lt_iff_toInt_lt, Int32.le_iff_toInt_le, ← Int32.toInt_inj, Int32.reduceToInt] at h1474
              refine ⟨vp_in_iff.mpr (by omega), ?_⟩
              intro w76 ew76
              have : (10 : Int32).toInt = 10 := rfl
              have := i_lo (w 0 17)
              have := i_hi (w 0 17)
              have := i_mulL (c := (10 : Int32)) (v := 10) (x := (w 0 17)) rfl (by omega) (by omega)
              have := i_lo (w 5 ((w 0 15)).toNatClampNeg)
              have := i_hi (w 5 ((w 0 15)).toNatClampNeg)
              have := i_add (x := ((10 : Int32) * (w 0 17))) (y := (w 5 ((w 0 15)).toNatClampNeg)) (by omega) (by omega)
              have : (48 : Int32).toInt = 48 := rfl
              have := i_sub (x := (((10 : Int32) * (w 0 17)) + (w 5 ((w 0 15)).toNatClampNeg))) (y := (48 : Int32)) (by omega) (by omega)
              have iw76 : NK u0 w76 := ew76 ▸ NK.set (by decide) i
              have zw76 := iw76.t
              have : (w76 0 14).toInt = (w 0 14).toInt := by rw [ew76, ws_row (by decide)]
              have : (w76 0 15).toInt = (w 0 15).toInt := by rw [ew76, ws_row (by decide)]
              have : (w76 0 16).toInt = (w 0 16).toInt := by rw [ew76, ws_row (by decide)]
              have : (w76 0 17).toInt = (((((10 : Int32) * (w 0 17)) + (w 5 ((w 0 15)).toNatClampNeg)) - (48 : Int32)) : Int32).toInt := by rw [ew76, ws_hit]
              intro w78 ew78
              have := i_lo (w76 0 15)
              have := i_hi (w76 0 15)
              have : (1 : Int32).toInt = 1 := rfl
              have := i_add (x := (w76 0 15)) (y := (1 : Int32)) (by omega) (by omega)
              have iw78 : NK u0 w78 := ew78 ▸ NK.set (by decide) iw76
              have zw78 := iw78.t
              have : (w78 0 14).toInt = (w76 0 14).toInt := by rw [ew78, ws_row (by decide)]
              have : (w78 0 15).toInt = (((w76 0 15) + (1 : Int32)) : Int32).toInt := by rw [ew78, ws_hit]
              have : (w78 0 16).toInt = (w76 0 16).toInt := by rw [ew78, ws_row (by decide)]
              have : (w78 0 17).toInt = (w76 0 17).toInt := by rw [ew78, ws_row (by decide)]
              exact ih.2.2.2.2.1 _ iw78 (by first | omega | rfl | assumption) (by first | omega | rfl | assumption) (by first | omega | rfl | assumption) (by omega)
      · intro w i v0 v1 v2 hm
        refine cP_321 _ ?_
        have z4 := i.t
        refine ⟨fun h1475 => ?_, fun h1476 => ?_⟩
        · have := i_lo (w 0 15)
          have := i_hi (w 0 15)
          have := i_lo (w 0 14)
          have := i_hi (w 0 14)
          have := i_sub (x := (w 0 15)) (y := (w 0 14)) (by omega) (by omega)
          simp only [Int32.lt_iff_toInt_lt, Int32.le_iff_toInt_le, ← Int32.toInt_inj, Int32.reduceToInt] at h1475
          intro w81 ew81
          have : (48 : Int32).toInt = 48 := rfl
          have iw81 : NK u0 w81 := ew81 ▸ NK.set (by decide) i
          have zw81 := iw81.t
          have : (w81 0 14).toInt = (w 0 14).toInt := by rw [ew81, ws_row (by decide)]
          have : (w81 0 15).toInt = (w 0 15).toInt := by rw [ew81, ws_row (by decide)]
          have : (w81 0 16).toInt = ((48 : Int32) : Int32).toInt := by rw [ew81, ws_hit]
          have : (w81 0 17).toInt = (w 0 17).toInt := by rw [ew81, ws_row (by decide)]
          exact k _ iw81 ⟨by omega, by omega, by omega, by omega, by omega, fun _ => by omega⟩ (by omega)
        · have := i_lo (w 0 15)
          have := i_hi (w 0 15)
          have := i_lo (w 0 14)
          have := i_hi (w 0 14)
          have := i_sub (x := (w 0 15)) (y := (w 0 14)) (by omega) (by omega)
          simp only [Int32.lt_iff_toInt_lt, Int32.le_iff_toInt_le, ← Int32.toInt_inj, Int32.reduceToInt] at h1476
          intro w83 ew83
          have : (120 : Int32).toInt = 120 := rfl
          have iw83 : NK u0 w83 := ew83 ▸ NK.set (by decide) i
          have zw83 := iw83.t
          have : (w83 0 14).toInt = (w 0 14).toInt := by rw [ew83, ws_row (by decide)]
          have : (w83 0 15).toInt = (w 0 15).toInt := by rw [ew83, ws_row (by decide)]
          have : (w83 0 16).toInt = ((120 : Int32) : Int32).toInt := by rw [ew83, ws_hit]
          have : (w83 0 17).toInt = (w 0 17).toInt := by rw [ew83, ws_row (by decide)]
          exact k _ iw83 ⟨by omega, by omega, by omega, by omega, by omega, fun _ => by omega⟩ (by omega)
  intro w1 ew1
  have := i_lo (w 0 15)
  have := i_hi (w 0 15)
  have iw1 : NK u0 w1 := ew1 ▸ NK.set (by decide) i
  have zw1 := iw1.t
  have : (w1 0 14).toInt = ((w 0 15) : Int32).toInt := by rw [ew1, ws_hit]
  have : (w1 0 15).toInt = (w 0 15).toInt := by rw [ew1, ws_row (by decide)]
  have : (w1 0 16).toInt = (w 0 16).toInt := by rw [ew1, ws_row (by decide)]
  have : (w1 0 17).toInt = (w 0 17).toInt := by rw [ew1, ws_row (by decide)]
  exact (key _).1 _ iw1 (by first | omega | rfl | assumption) (Nat.lt_succ_self _)
