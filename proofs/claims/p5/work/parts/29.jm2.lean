/-! the model's chance, copy, people, taken (written by program) -/
theorem i_rem {x y : Int32} (hx : 0 ≤ x.toInt) (hy : 0 < y.toInt) : 0 ≤ (x - (x / y) * y).toInt ∧ (x - (x / y) * y).toInt < y.toInt := by
  have b := x.toInt_lt
  have h0 := Int.ediv_nonneg hx (Int.le_of_lt hy)
  have h1 := Int.ediv_mul_le x.toInt (b := y.toInt) (by omega)
  have h2 := Int.lt_ediv_add_one_mul_self x.toInt hy
  have h3 := Int.mul_nonneg h0 (Int.le_of_lt hy)
  have h4 := Int.ediv_le_self y.toInt hx
  rw [Int.add_mul, Int.one_mul] at h2
  have e1 : (x / y).toInt = x.toInt / y.toInt := by
    rw [Int32.toInt_div, Int.tdiv_eq_ediv_of_nonneg hx]
    exact i_bm (by omega) (by omega)
  have e2 : ((x / y) * y).toInt = x.toInt / y.toInt * y.toInt := by
    rw [i_mul (by rw [e1]; omega) (by rw [e1]; omega), e1]
  have e3 := i_sub (x := x) (y := (x / y) * y) (by omega) (by omega)
  omega
theorem lg_gt {x y : Int64} : 0 < lg_cmp x y ↔ y.toInt < x.toInt := by
  unfold lg_cmp
  by_cases h : x > y
  · rw [if_pos h]
    exact ⟨fun _ => Int64.lt_iff_toInt_lt.mp h, fun _ => by decide⟩
  · rw [if_neg h]
    have h2 : ¬ y.toInt < x.toInt := fun q => h (Int64.lt_iff_toInt_lt.mpr q)
    by_cases e : x = y
    · rw [if_pos e]
      exact ⟨fun q => absurd q (by decide), fun q => absurd q h2⟩
    · rw [if_neg e]
      exact ⟨fun q => absurd q (by decide), fun q => absurd q h2⟩
theorem lg_lt {x y : Int64} : lg_cmp x y < 0 ↔ x.toInt < y.toInt := by
  unfold lg_cmp
  by_cases h : x > y
  · rw [if_pos h]
    have h2 := Int64.lt_iff_toInt_lt.mp h
    exact ⟨fun q => absurd q (by decide), fun q => by omega⟩
  · rw [if_neg h]
    have h2 : ¬ y.toInt < x.toInt := fun q => h (Int64.lt_iff_toInt_lt.mpr q)
    by_cases e : x = y
    · rw [if_pos e, e]
      exact ⟨fun q => absurd q (by decide), fun q => by omega⟩
    · rw [if_neg e]
      have h3 : ¬ x.toInt = y.toInt := fun q => e (Int64.toInt_inj.mp q)
      exact ⟨fun _ => by omega, fun _ => by decide⟩
theorem lg_le {x y : Int64} : lg_cmp x y ≤ 0 ↔ x.toInt ≤ y.toInt := by
  have h := lg_gt (x := x) (y := y)
  simp only [Int32.lt_iff_toInt_lt, Int32.le_iff_toInt_le, Int32.reduceToInt] at h ⊢
  omega
theorem i64_add {a b : Int32} : (a.toInt64 + b.toInt64).toInt = a.toInt + b.toInt := by
  have := i_lo a
  have := i_hi a
  have := i_lo b
  have := i_hi b
  rw [Int64.toInt_add, Int32.toInt_toInt64, Int32.toInt_toInt64]
  exact Int.bmod_eq_of_le (by omega) (by omega)
theorem i64_two {a l : Int32} (h : 0 ≤ l.toInt ∧ l.toInt ≤ 5) : (a.toInt64 + (2 : Int64) * l.toInt64).toInt = a.toInt + 2 * l.toInt ∧ (a.toInt64 + (2 : Int64) * l.toInt64 + 1).toInt = a.toInt + 2 * l.toInt + 1 := by
  have := i_lo a
  have := i_hi a
  have n2 : (2 : Int64).toInt = 2 := rfl
  have n1 : (1 : Int64).toInt = 1 := rfl
  have e : ((2 : Int64) * l.toInt64).toInt = 2 * l.toInt := by
    rw [Int64.toInt_mul, n2, Int32.toInt_toInt64]
    exact Int.bmod_eq_of_le (by omega) (by omega)
  have e2 : (a.toInt64 + (2 : Int64) * l.toInt64).toInt = a.toInt + 2 * l.toInt := by
    rw [Int64.toInt_add, e, Int32.toInt_toInt64]
    exact Int.bmod_eq_of_le (by omega) (by omega)
  refine ⟨e2, ?_⟩
  rw [Int64.toInt_add, e2, n1]
  exact Int.bmod_eq_of_le (by omega) (by omega)
theorem pp_idx {p1 p3 l : Int32} (h1 : 0 ≤ p1.toInt ∧ p1.toInt ≤ 3) (h : 0 ≤ l.toInt ∧ l.toInt ≤ 5) (hb : 0 ≤ p3.toInt + 2 * l.toInt ∧ p3.toInt + 2 * l.toInt ≤ 39) : ((40 : Int32) * p1 + (p3.toInt64 + (2 : Int64) * l.toInt64).toInt32).toInt = 40 * p1.toInt + (p3.toInt + 2 * l.toInt) := by
  have e := (i64_two (a := p3) h).1
  have e2 : (p3.toInt64 + (2 : Int64) * l.toInt64).toInt32.toInt = p3.toInt + 2 * l.toInt := by
    rw [Int64.toInt_toInt32, e]
    exact i_bm (by omega) (by omega)
  have e3 := i_mulL (c := (40 : Int32)) (v := 40) (x := p1) rfl (by omega) (by omega)
  rw [i_add (by omega) (by omega), e2, e3]
set_option maxRecDepth 20000 in
theorem jm_X5_taken {Γ : Gx} {d : Nat} (hd : 3 ≤ d) (hG : GM Γ) {p1 p2 : Int32} {w : Wd} (i : JM w) {Q : Int32 → Wd → Prop} (k : ∀ (r : Int32) (w' : Wd), JM w' → Q r w') : CI Γ d M_X5_taken [.ref (gad Γ 0), .int p1, .int p2] w Q := by
  obtain ⟨d, rfl⟩ : ∃ e, d = e + 1 := ⟨d - 1, by omega⟩
  refine con_X5_taken hG ?_
  unfold wp_X5_taken
  intro P c
  have z := i.num
  refine cs_X5_within (by omega) hG (lo := 0) (hi := 5) rfl rfl (fun r1 _ y1 => ⟨fun h1 => ?_, fun _ => k _ _ i⟩)
  refine cs_X5_isOne (by omega) hG (by omega) (fun r4 _ y4 => ⟨fun h4 => ?_, fun _ => k _ _ i⟩)
  have h4 := y4.mp h4
  have hv : vp_in p1 5 := vp_in_iff.mpr (by omega)
  have sh : ∀ (l : Int32) (go : ¬ l = p2 → ¬ l ≤ 0 → (¬ l = (3 : Int32) → (¬ l = (4 : Int32) → P 0 w) ∧ (l = (4 : Int32) → P 2 w)) ∧ (l = (3 : Int32) → P 1 w)), P l w := fun l go => c _ _ ⟨fun h => ⟨fun q => absurd h q, fun _ => ⟨hv, k _ _ i⟩⟩, fun h => ⟨fun _ => ⟨fun _ => k _ _ i, fun q => absurd q h⟩, fun h' => go h h'⟩⟩
  have p0 : P 0 w := sh 0 (fun _ h => absurd (by decide) h)
  have pn : ∀ l : Int32, ¬ l = 3 → ¬ l = 4 → P l w := fun l h3 h4 => sh l (fun _ _ => ⟨fun _ => ⟨fun _ => p0, fun q => absurd q h4⟩, fun q => absurd q h3⟩)
  exact ⟨hv, sh _ (fun _ _ => ⟨fun _ => ⟨fun _ => p0, fun _ => pn 2 (by decide) (by decide)⟩, fun _ => pn 1 (by decide) (by decide)⟩)⟩

set_option maxRecDepth 20000 in
theorem jm_X5_chance {Γ : Gx} {d : Nat} (hd : 11 ≤ d) (hG : GM Γ) {p1 : Int32} {p2 : Int32} {p3 : Int32} {p4 : Int32} {w : Wd} (i : JM w) {Q : Int64 → Wd → Prop} (k : ∀ (r : Int64) (w' : Wd), JM w' → Q r w') : CL Γ d M_X5_chance [.ref (gad Γ 0), .int p1, .int p2, .int p3, .int p4] w Q := by
  obtain ⟨d, rfl⟩ : ∃ e, d = e + 1 := ⟨d - 1, by omega⟩
  refine con_X5_chance hG ?_
  unfold wp_X5_chance
  have zw := i.num
  intro P_41
  intro P_75
  intro cP_41
  intro cP_75
  have key : ∀ m : Nat, (∀ (l5 : Int32) (l6 : Int32) (w : Wd), JM w → (0 ≤ l6.toInt ∧ l6.toInt ≤ p2.toInt) → (1 ≤ p2.toInt ∧ p2.toInt ≤ 20) → (0 ≤ l5.toInt ∧ l5.toInt ≤ l6.toInt) → ((200 - l6.toInt + 2147483648).toNat) < m → P_41 l5 l6 w) ∧ (∀ (l5 : Int32) (l6 : Int32) (l7 : Int32) (w : Wd), JM w → (0 ≤ l6.toInt ∧ 0 ≤ l7.toInt) → (1 ≤ l6.toInt ∨ 1 ≤ l7.toInt) → (l7.toInt.toNat) < m → P_75 l5 l6 l7 w) := by
    intro m
    induction m with
    | zero => exact ⟨fun _ _ _ _ _ _ _ h => absurd h (Nat.not_lt_zero _), fun _ _ _ _ _ _ _ h => absurd h (Nat.not_lt_zero _)⟩
    | succ m ih =>
      refine ⟨?_, ?_⟩
      · intro l5 l6 w i v0 v1 v2 hm
        refine cP_41 _ _ _ ?_
        have z4 := i.num
        refine ⟨fun h1345 => ?_, fun h1346 => ?_⟩
        · simp only [Int32.lt_iff_toInt_lt, Int32.le_iff_toInt_le, ← Int32.toInt_inj, Int32.reduceToInt] at h1345
          have hp := i_hi p2
          exact ih.2 _ _ _ _ i (by first | omega | rfl | assumption) (by first | omega | rfl | assumption) (by omega)
        · simp only [Int32.lt_iff_toInt_lt, Int32.le_iff_toInt_le, ← Int32.toInt_inj, Int32.reduceToInt] at h1346
          refine im_X5_byLot (by omega) hG i (fun r11 w12 iw12 => ?_)
          have tw12 : (w12 0 9).toInt = (w 0 9).toInt := congrArg Int32.toInt (congrArg Prod.fst iw12.1)
          have iw12 : JM w12 := JM.of iw12
          have zw12 := iw12.num
          refine ⟨fun h1347 => ?_, fun h1348 => ?_⟩
          · simp only [Int32.lt_iff_toInt_lt, Int32.le_iff_toInt_le, ← Int32.toInt_inj, Int32.reduceToInt] at h1347
            have := i_lo l6
            have := i_hi l6
            have : (1 : Int32).toInt = 1 := rfl
            have := i_add (x := l6) (y := (1 : Int32)) (by omega) (by omega)
            exact ih.1 _ _ _ iw12 (by first | omega | rfl | assumption) (by first | omega | rfl | assumption) (by first | omega | rfl | assumption) (by omega)
          · simp only [Int32.lt_iff_toInt_lt, Int32.le_iff_toInt_le, ← Int32.toInt_inj, Int32.reduceToInt] at h1348
            have := i_lo l5
            have := i_hi l5
            have : (1 : Int32).toInt = 1 := rfl
            have := i_add (x := l5) (y := (1 : Int32)) (by omega) (by omega)
            have := i_lo l6
            have := i_hi l6
            have := i_add (x := l6) (y := (1 : Int32)) (by omega) (by omega)
            exact ih.1 _ _ _ iw12 (by first | omega | rfl | assumption) (by first | omega | rfl | assumption) (by first | omega | rfl | assumption) (by omega)
      · intro l5 l6 l7 w i v0 v1 hm
        refine cP_75 _ _ _ _ ?_
        have z4 := i.num
        refine ⟨fun h1349 => ?_, fun h1350 => ?_⟩
        · simp only [Int32.lt_iff_toInt_lt, Int32.le_iff_toInt_le, ← Int32.toInt_inj, Int32.reduceToInt] at h1349
          refine ⟨fun h1351 => ?_, fun h1352 => ?_⟩
          · simp only [Int32.lt_iff_toInt_lt, Int32.le_iff_toInt_le, ← Int32.toInt_inj, Int32.reduceToInt] at h1351
            refine ⟨(fun q => by have q2 := congrArg Int32.toInt q; simp only [Int32.reduceToInt] at q2; omega), ?_⟩
            exact k _ _ i
          · simp only [Int32.lt_iff_toInt_lt, Int32.le_iff_toInt_le, ← Int32.toInt_inj, Int32.reduceToInt] at h1352
            refine ⟨(fun q => by have q2 := congrArg Int32.toInt q; simp only [Int32.reduceToInt] at q2; omega), ?_⟩
            exact k _ _ i
        · simp only [Int32.lt_iff_toInt_lt, Int32.le_iff_toInt_le, ← Int32.toInt_inj, Int32.reduceToInt] at h1350
          refine ⟨(fun q => by have q2 := congrArg Int32.toInt q; simp only [Int32.reduceToInt] at q2; omega), ?_⟩
          have := i_rem (x := l6) (y := l7) (by omega) (by omega)
          exact ih.2 _ _ _ _ i (by first | omega | rfl | assumption) (by first | omega | rfl | assumption) (by omega)
  refine cs_X5_within (by omega) hG (lo := 1) (hi := 20) rfl rfl (fun r1 z1353 y1354 => ?_)
  refine ⟨fun h1355 => ?_, fun h1356 => ?_⟩
  · have h1355 : ¬ _ := fun q => y1354.mpr q h1355
    exact k _ _ i
  · have h1356 := y1354.mp h1356
    refine cs_X5_within (by omega) hG (lo := -100) (hi := 100) rfl rfl (fun r4 z1357 y1358 => ?_)
    refine ⟨fun h1359 => ?_, fun h1360 => ?_⟩
    · have h1359 : ¬ _ := fun q => y1358.mpr q h1359
      exact k _ _ i
    · have h1360 := y1358.mp h1360
      refine cs_X5_within (by omega) hG (lo := 0) (hi := 1) rfl rfl (fun r7 z1361 y1362 => ?_)
      refine ⟨fun h1363 => ?_, fun h1364 => ?_⟩
      · have h1363 := y1362.mp h1363
        have : (0 : Int32).toInt = 0 := rfl
        exact (key _).1 _ _ _ i (by first | omega | rfl | assumption) (by first | omega | rfl | assumption) (by first | omega | rfl | assumption) (Nat.lt_succ_self _)
      · have h1364 : ¬ _ := fun q => y1362.mpr q h1364
        exact k _ _ i

set_option maxRecDepth 20000 in
theorem jm_X5_copy {Γ : Gx} {d : Nat} (hd : 3 ≤ d) (hG : GM Γ) {p1 : Int32} {p2 : Int32} {p3 : Int32} {p4 : Int32} {p5 : Int32} {w : Wd} (i : JM w) {Q : Int32 → Wd → Prop} (k : ∀ (r : Int32) (w' : Wd), JM w' → Q r w') : CI Γ d M_X5_copy [.ref (gad Γ 0), .int p1, .int p2, .int p3, .int p4, .int p5] w Q := by
  obtain ⟨d, rfl⟩ : ∃ e, d = e + 1 := ⟨d - 1, by omega⟩
  refine con_X5_copy hG ?_
  unfold wp_X5_copy
  have zw := i.num
  intro P_125
  intro P_171
  intro cP_125
  intro cP_171
  have key : ∀ m : Nat, (∀ (l6 : Int32) (w : Wd), JM w → (-1 ≤ l6.toInt ∧ l6.toInt < p5.toInt) → (0 ≤ p1.toInt ∧ p1.toInt ≤ 3) → (0 ≤ p3.toInt ∧ p3.toInt ≤ 3) → (0 ≤ p2.toInt ∧ 0 ≤ p4.toInt ∧ 0 ≤ p5.toInt) → (p2.toInt + p5.toInt ≤ 40 ∧ p4.toInt + p5.toInt ≤ 40) → ((l6.toInt + 2).toNat) < m → P_125 l6 w) ∧ (∀ (l6 : Int32) (w : Wd), JM w → (0 ≤ l6.toInt ∧ l6.toInt ≤ p5.toInt) → (0 ≤ p1.toInt ∧ p1.toInt ≤ 3) → (0 ≤ p3.toInt ∧ p3.toInt ≤ 3) → (0 ≤ p2.toInt ∧ 0 ≤ p4.toInt ∧ 0 ≤ p5.toInt) → (p2.toInt + p5.toInt ≤ 40 ∧ p4.toInt + p5.toInt ≤ 40) → ((p5.toInt - l6.toInt + 1).toNat) < m → P_171 l6 w) := by
    intro m
    induction m with
    | zero => exact ⟨fun _ _ _ _ _ _ _ _ h => absurd h (Nat.not_lt_zero _), fun _ _ _ _ _ _ _ _ h => absurd h (Nat.not_lt_zero _)⟩
    | succ m ih =>
      refine ⟨?_, ?_⟩
      · intro l6 w i v0 v1 v2 v3 v4 hm
        refine cP_125 _ _ ?_
        have z4 := i.num
        obtain ⟨y, hy⟩ : ∃ y : Int32, y = l6 + (-1) := ⟨_, rfl⟩
        rw [← hy]
        have ey : y.toInt = l6.toInt - 1 := by rw [hy]; exact i_dec (by omega)
        clear hy
        refine ⟨fun h1365 => ?_, fun h1366 => ?_⟩
        · simp only [Int32.lt_iff_toInt_lt, Int32.le_iff_toInt_le, ← Int32.toInt_inj, Int32.reduceToInt] at h1365
          exact k _ _ i
        · simp only [Int32.lt_iff_toInt_lt, Int32.le_iff_toInt_le, ← Int32.toInt_inj, Int32.reduceToInt] at h1366
          have : (40 : Int32).toInt = 40 := rfl
          have := i_lo p1
          have := i_hi p1
          have := i_mulL (c := (40 : Int32)) (v := 40) (x := p1) rfl (by omega) (by omega)
          have := i_lo p2
          have := i_hi p2
          have := i_add (x := ((40 : Int32) * p1)) (y := p2) (by omega) (by omega)
          have := i_lo l6
          have := i_hi l6
          have := i_add (x := (((40 : Int32) * p1) + p2)) (y := l6) (by omega) (by omega)
          refine ⟨vp_in_iff.mpr (by omega), ?_⟩
          have := i_lo p3
          have := i_hi p3
          have := i_mulL (c := (40 : Int32)) (v := 40) (x := p3) rfl (by omega) (by omega)
          have := i_lo p4
          have := i_hi p4
          have := i_add (x := ((40 : Int32) * p3)) (y := p4) (by omega) (by omega)
          have := i_add (x := (((40 : Int32) * p3) + p4)) (y := l6) (by omega) (by omega)
          refine ⟨vp_in_iff.mpr (by omega), ?_⟩
          intro w22 ew22
          have iw22 : JM w22 := ew22 ▸ JM.cell ⟨by decide, rfl⟩ i
          have zw22 := iw22.num
          exact ih.1 _ _ iw22 (by first | omega | rfl | assumption) (by first | omega | rfl | assumption) (by first | omega | rfl | assumption) (by first | omega | rfl | assumption) (by first | omega | rfl | assumption) (by omega)
      · intro l6 w i v0 v1 v2 v3 v4 hm
        refine cP_171 _ _ ?_
        have z4 := i.num
        refine ⟨fun h1367 => ?_, fun h1368 => ?_⟩
        · simp only [Int32.lt_iff_toInt_lt, Int32.le_iff_toInt_le, ← Int32.toInt_inj, Int32.reduceToInt] at h1367
          exact k _ _ i
        · simp only [Int32.lt_iff_toInt_lt, Int32.le_iff_toInt_le, ← Int32.toInt_inj, Int32.reduceToInt] at h1368
          have : (40 : Int32).toInt = 40 := rfl
          have := i_lo p1
          have := i_hi p1
          have := i_mulL (c := (40 : Int32)) (v := 40) (x := p1) rfl (by omega) (by omega)
          have := i_lo p2
          have := i_hi p2
          have := i_add (x := ((40 : Int32) * p1)) (y := p2) (by omega) (by omega)
          have := i_lo l6
          have := i_hi l6
          have := i_add (x := (((40 : Int32) * p1) + p2)) (y := l6) (by omega) (by omega)
          refine ⟨vp_in_iff.mpr (by omega), ?_⟩
          have := i_lo p3
          have := i_hi p3
          have := i_mulL (c := (40 : Int32)) (v := 40) (x := p3) rfl (by omega) (by omega)
          have := i_lo p4
          have := i_hi p4
          have := i_add (x := ((40 : Int32) * p3)) (y := p4) (by omega) (by omega)
          have := i_add (x := (((40 : Int32) * p3) + p4)) (y := l6) (by omega) (by omega)
          refine ⟨vp_in_iff.mpr (by omega), ?_⟩
          intro w27 ew27
          have iw27 : JM w27 := ew27 ▸ JM.cell ⟨by decide, rfl⟩ i
          have zw27 := iw27.num
          have : (1 : Int32).toInt = 1 := rfl
          have := i_add (x := l6) (y := (1 : Int32)) (by omega) (by omega)
          exact ih.2 _ _ iw27 (by first | omega | rfl | assumption) (by first | omega | rfl | assumption) (by first | omega | rfl | assumption) (by first | omega | rfl | assumption) (by first | omega | rfl | assumption) (by omega)
  refine cs_X5_isSheet (by omega) hG (fun r1 y1369 y1370 => ?_)
  refine ⟨fun h1371 => ?_, fun h1372 => ?_⟩
  · have h1371 : ¬ _ := fun q => y1370.mpr q h1371
    exact k _ _ i
  · have h1372 := y1370.mp h1372
    refine cs_X5_isSheet (by omega) hG (fun r4 y1373 y1374 => ?_)
    refine ⟨fun h1375 => ?_, fun h1376 => ?_⟩
    · have h1375 := y1374.mp h1375
      have := i_lo p1
      have := i_hi p1
      refine ⟨vp_in_iff.mpr (by omega), ?_⟩
      refine ⟨fun h1377 => ?_, fun h1378 => ?_⟩
      · simp only [Int32.lt_iff_toInt_lt, Int32.le_iff_toInt_le, ← Int32.toInt_inj, Int32.reduceToInt] at h1377
        exact k _ _ i
      · simp only [Int32.lt_iff_toInt_lt, Int32.le_iff_toInt_le, ← Int32.toInt_inj, Int32.reduceToInt] at h1378
        have zs1 := i.2.2.2.1 p1.toNatClampNeg (tn_lt (by omega) (by omega))
        have := i_lo p3
        have := i_hi p3
        refine ⟨vp_in_iff.mpr (by omega), ?_⟩
        refine ⟨fun h1379 => ?_, fun h1380 => ?_⟩
        · simp only [Int32.lt_iff_toInt_lt, Int32.le_iff_toInt_le, ← Int32.toInt_inj, Int32.reduceToInt] at h1379
          have zs3 := i.2.2.2.1 p3.toNatClampNeg (tn_lt (by omega) (by omega))
          refine ⟨fun h1381 => ?_, fun h1382 => ?_⟩
          · simp only [Int32.lt_iff_toInt_lt, Int32.le_iff_toInt_le, ← Int32.toInt_inj, Int32.reduceToInt] at h1381
            refine ⟨fun h1383 => ?_, fun h1384 => ?_⟩
            · simp only [Int32.lt_iff_toInt_lt, Int32.le_iff_toInt_le, ← Int32.toInt_inj, Int32.reduceToInt] at h1383
              exact k _ _ i
            · simp only [Int32.lt_iff_toInt_lt, Int32.le_iff_toInt_le, ← Int32.toInt_inj, Int32.reduceToInt] at h1384
              refine ⟨fun h1385 => ?_, fun h1386 => ?_⟩
              · simp only [Int32.lt_iff_toInt_lt, Int32.le_iff_toInt_le, ← Int32.toInt_inj, Int32.reduceToInt] at h1385
                exact k _ _ i
              · simp only [Int32.lt_iff_toInt_lt, Int32.le_iff_toInt_le, ← Int32.toInt_inj, Int32.reduceToInt] at h1386
                refine ⟨fun h1387 => ?_, fun h1388 => ?_⟩
                · simp only [Int32.lt_iff_toInt_lt, Int32.le_iff_toInt_le, ← Int32.toInt_inj, Int32.reduceToInt] at h1387
                  exact k _ _ i
                · simp only [Int32.lt_iff_toInt_lt, Int32.le_iff_toInt_le, ← Int32.toInt_inj, Int32.reduceToInt] at h1388
                  refine ⟨fun h1389 => ?_, fun h1390 => ?_⟩
                  · simp only [lg_gt, lg_le, lg_lt, i64_add, Int32.toInt_toInt64] at h1389
                    exact k _ _ i
                  · simp only [lg_gt, lg_le, lg_lt, i64_add, Int32.toInt_toInt64] at h1390
                    refine ⟨fun h1391 => ?_, fun h1392 => ?_⟩
                    · simp only [lg_gt, lg_le, lg_lt, i64_add, Int32.toInt_toInt64] at h1391
                      refine ⟨fun h1393 => ?_, fun h1394 => ?_⟩
                      · simp only [Int32.lt_iff_toInt_lt, Int32.le_iff_toInt_le, ← Int32.toInt_inj, Int32.reduceToInt] at h1393
                        have : (0 : Int32).toInt = 0 := rfl
                        exact (key _).2 _ _ i (by first | omega | rfl | assumption) (by first | omega | rfl | assumption) (by first | omega | rfl | assumption) (by first | omega | rfl | assumption) (by first | omega | rfl | assumption) (Nat.lt_succ_self _)
                      · simp only [Int32.lt_iff_toInt_lt, Int32.le_iff_toInt_le, ← Int32.toInt_inj, Int32.reduceToInt] at h1394
                        refine ⟨fun h1395 => ?_, fun h1396 => ?_⟩
                        · simp only [Int32.lt_iff_toInt_lt, Int32.le_iff_toInt_le, ← Int32.toInt_inj, Int32.reduceToInt] at h1395
                          have : (0 : Int32).toInt = 0 := rfl
                          exact (key _).2 _ _ i (by first | omega | rfl | assumption) (by first | omega | rfl | assumption) (by first | omega | rfl | assumption) (by first | omega | rfl | assumption) (by first | omega | rfl | assumption) (Nat.lt_succ_self _)
                        · simp only [Int32.lt_iff_toInt_lt, Int32.le_iff_toInt_le, ← Int32.toInt_inj, Int32.reduceToInt] at h1396
                          have := i_lo p5
                          have := i_hi p5
                          have : (1 : Int32).toInt = 1 := rfl
                          have := i_sub (x := p5) (y := (1 : Int32)) (by omega) (by omega)
                          exact (key _).1 _ _ i (by first | omega | rfl | assumption) (by first | omega | rfl | assumption) (by first | omega | rfl | assumption) (by first | omega | rfl | assumption) (by first | omega | rfl | assumption) (Nat.lt_succ_self _)
                    · simp only [lg_gt, lg_le, lg_lt, i64_add, Int32.toInt_toInt64] at h1392
                      exact k _ _ i
          · simp only [Int32.lt_iff_toInt_lt, Int32.le_iff_toInt_le, ← Int32.toInt_inj, Int32.reduceToInt] at h1382
            exact k _ _ i
        · simp only [Int32.lt_iff_toInt_lt, Int32.le_iff_toInt_le, ← Int32.toInt_inj, Int32.reduceToInt] at h1380
          exact k _ _ i
    · have h1376 : ¬ _ := fun q => y1374.mpr q h1376
      exact k _ _ i

set_option maxRecDepth 20000 in
theorem jm_X5_people {Γ : Gx} {d : Nat} (hd : 3 ≤ d) (hG : GM Γ) {p1 : Int32} {p2 : Int32} {p3 : Int32} {p4 : Int32} {w : Wd} (i : JM w) {Q : Int32 → Wd → Prop} (k : ∀ (r : Int32) (w' : Wd), JM w' → Q r w') : CI Γ d M_X5_people [.ref (gad Γ 0), .int p1, .int p2, .int p3, .int p4] w Q := by
  obtain ⟨d, rfl⟩ : ∃ e, d = e + 1 := ⟨d - 1, by omega⟩
  refine con_X5_people hG ?_
  unfold wp_X5_people
  have zw := i.num
  intro P_60
  intro cP_60
  have key : ∀ m : Nat, (∀ (l5 : Int32) (l6 : Int32) (w : Wd), JM w → (0 ≤ l6.toInt ∧ l6.toInt ≤ 5) → (0 ≤ p4.toInt ∧ p4.toInt ≤ 5) → (0 ≤ p1.toInt ∧ p1.toInt ≤ 3) → ((6 - l6.toInt).toNat) < m → P_60 l5 l6 w) := by
    intro m
    induction m with
    | zero => exact fun _ _ _ _ _ _ _ h => absurd h (Nat.not_lt_zero _)
    | succ m ih =>
      intro l5 l6 w i v0 v1 v2 hm
      refine cP_60 _ _ _ ?_
      have z4 := i.num
      have hn0 : (0 : Int64).toInt = 0 := rfl
      refine ⟨fun h1397 => ?_, fun h1398 => ?_⟩
      · simp only [Int32.lt_iff_toInt_lt, Int32.le_iff_toInt_le, ← Int32.toInt_inj, Int32.reduceToInt] at h1397
        exact k _ _ i
      · simp only [Int32.lt_iff_toInt_lt, Int32.le_iff_toInt_le, ← Int32.toInt_inj, Int32.reduceToInt] at h1398
        have h64 := i64_two (a := p3) (l := l6) (by omega)
        have zs := i.2.2.2.1 p1.toNatClampNeg (tn_lt (by omega) (by omega))
        refine ⟨fun h1399 => ?_, fun h1400 => ?_⟩
        · simp only [lg_gt, lg_le, lg_lt, i64_add, Int32.toInt_toInt64] at h1399
          exact k _ _ i
        · simp only [lg_gt, lg_le, lg_lt, i64_add, Int32.toInt_toInt64] at h1400
          have := i_lo p1
          have := i_hi p1
          refine ⟨vp_in_iff.mpr (by omega), ?_⟩
          refine ⟨fun h1401 => ?_, fun h1402 => ?_⟩
          · simp only [lg_gt, lg_le, lg_lt, i64_add, Int32.toInt_toInt64] at h1401
            intro v17 ev17
            have hv17 : v17.toInt = 40 * p1.toInt + (p3.toInt + 2 * l6.toInt) := by rw [ev17]; exact pp_idx (by omega) (by omega) (by omega)
            have := i_lo v17
            have := i_hi v17
            refine ⟨vp_in_iff.mpr (by omega), ?_⟩
            have : (1 : Int32).toInt = 1 := rfl
            have := i_add (x := v17) (y := (1 : Int32)) (by omega) (by omega)
            refine ⟨vp_in_iff.mpr (by omega), ?_⟩
            refine jm_X5_person (by omega) hG i (fun r21 w22 iw22 => ?_)
            have zw22 := iw22.num
            refine ⟨fun h1403 => ?_, fun h1404 => ?_⟩
            · simp only [Int32.lt_iff_toInt_lt, Int32.le_iff_toInt_le, ← Int32.toInt_inj, Int32.reduceToInt] at h1403
              have := i_lo l6
              have := i_hi l6
              have := i_add (x := l6) (y := (1 : Int32)) (by omega) (by omega)
              exact ih _ _ _ iw22 (by first | omega | rfl | assumption) (by first | omega | rfl | assumption) (by first | omega | rfl | assumption) (by omega)
            · simp only [Int32.lt_iff_toInt_lt, Int32.le_iff_toInt_le, ← Int32.toInt_inj, Int32.reduceToInt] at h1404
              have := i_lo l6
              have := i_hi l6
              have := i_add (x := l6) (y := (1 : Int32)) (by omega) (by omega)
              exact ih _ _ _ iw22 (by first | omega | rfl | assumption) (by first | omega | rfl | assumption) (by first | omega | rfl | assumption) (by omega)
          · simp only [lg_gt, lg_le, lg_lt, i64_add, Int32.toInt_toInt64] at h1402
            exact k _ _ i
  refine cs_X5_isSheet (by omega) hG (fun r1 y1405 y1406 => ?_)
  refine ⟨fun h1407 => ?_, fun h1408 => ?_⟩
  · have h1407 : ¬ _ := fun q => y1406.mpr q h1407
    exact k _ _ i
  · have h1408 := y1406.mp h1408
    refine cs_X5_within (by omega) hG (lo := 0) (hi := 2) rfl rfl (fun r4 z1409 y1410 => ?_)
    refine ⟨fun h1411 => ?_, fun h1412 => ?_⟩
    · have h1411 : ¬ _ := fun q => y1410.mpr q h1411
      exact k _ _ i
    · have h1412 := y1410.mp h1412
      refine cs_X5_within (by omega) hG (lo := 0) (hi := 5) rfl rfl (fun r7 z1413 y1414 => ?_)
      refine ⟨fun h1415 => ?_, fun h1416 => ?_⟩
      · have h1415 := y1414.mp h1415
        have := i_lo p1
        have := i_hi p1
        refine ⟨vp_in_iff.mpr (by omega), ?_⟩
        refine ⟨fun h1417 => ?_, fun h1418 => ?_⟩
        · simp only [Int32.lt_iff_toInt_lt, Int32.le_iff_toInt_le, ← Int32.toInt_inj, Int32.reduceToInt] at h1417
          refine ⟨fun h1419 => ?_, fun h1420 => ?_⟩
          · simp only [Int32.lt_iff_toInt_lt, Int32.le_iff_toInt_le, ← Int32.toInt_inj, Int32.reduceToInt] at h1419
            have : (0 : Int32).toInt = 0 := rfl
            exact (key _) _ _ _ i (by first | omega | rfl | assumption) (by first | omega | rfl | assumption) (by first | omega | rfl | assumption) (Nat.lt_succ_self _)
          · simp only [Int32.lt_iff_toInt_lt, Int32.le_iff_toInt_le, ← Int32.toInt_inj, Int32.reduceToInt] at h1420
            exact k _ _ i
        · simp only [Int32.lt_iff_toInt_lt, Int32.le_iff_toInt_le, ← Int32.toInt_inj, Int32.reduceToInt] at h1418
          exact k _ _ i
      · have h1416 : ¬ _ := fun q => y1414.mpr q h1416
        exact k _ _ i
