/-! the class's methods, from any state (written by program) -/
theorem IC.fz {κ : Ky} {w : Wd} (i : IC κ w) {f : Nat} (hf : isF f) : 0 ≤ (w f 4).toInt ∧ (w f 4).toInt ≤ 5 ∧ 0 ≤ (w f 7).toInt ∧ (w f 7).toInt ≤ 5 := i.f hf
theorem kC.of {w w' : Wd} (h1 : w' 0 7 = w 0 7) (h2 : w' 3 0 = w 3 0) (h3 : w' 4 = w 4) (h4 : w' 32 7 = w 32 7) (h5 : w' 0 8 = w 0 8) (h6 : w' 46 7 = w 46 7) : kC w' = kC w := by
  unfold kC
  rw [h1, h2, h3, h4, h5, h6]
theorem shOK.of {w w' : Wd} (h : ∀ c : Nat, isS c → w' c = w c) (i : shOK w) : shOK w' := fun c hc => by
  rw [h c hc]
  exact i c hc
theorem txOK.of {w w' : Wd} (h : ∀ t : Nat, isT t → w' (t + 2) = w (t + 2)) (i : txOK w) : txOK w' := fun t ht j hj => by
  rw [h t ht]
  exact i t ht j hj
theorem isS_ne {c f : Nat} (hc : isS c) (h : f < 24 ∨ 31 ≤ f) : c ≠ f := by
  rcases hc with rfl | rfl | rfl | rfl <;> omega
theorem isT_ne {c f : Nat} (hc : isT c) (h : f < 6 ∨ 24 ≤ f) : c + 2 ≠ f := by
  rcases hc with rfl | rfl | rfl | rfl | rfl | rfl <;> omega
theorem isF_lo {f : Nat} (h : isF f) : 32 ≤ f := by
  rcases h with rfl | rfl | rfl <;> omega
theorem IC.fam6 {κ : Ky} {w : Wd} {f a3 j : Nat} {v : Int32} (ha : a3 = f + 6) (hf : isF f) (i : IC κ w) : IC κ (wset w a3 j v) := by
  subst ha
  exact IC.fam hf (by decide) (by decide) i
/-- how many PEOPLE a family has -/
theorem IC.cnt {κ : Ky} {w : Wd} {f : Nat} {v : Int32} (hf : isF f) (h0 : 0 ≤ v.toInt) (h5 : v.toInt ≤ 5) (i : IC κ w) : IC κ (wset w f 4 v) := by
  have h32 := isF_lo hf
  refine ⟨(kC.of (ws_col (by omega)) (ws_col (by omega)) (wset_off _ _ _ _ _ (by omega)) (ws_row (by decide)) (ws_col (by omega)) (ws_row (by decide))).trans i.1, ?_, shOK.of (fun c hc => wset_off _ _ _ _ _ (isS_ne hc (by omega))) i.2.2.1, txOK.of (fun t ht => wset_off _ _ _ _ _ (isT_ne ht (by omega))) i.2.2.2⟩
  have n := i.2.1
  unfold numC famOK at *
  have key : ∀ g : Nat, isF g → 0 ≤ (w g 4).toInt ∧ (w g 4).toInt ≤ 5 → 0 ≤ (wset w f 4 v g 4).toInt ∧ (wset w f 4 v g 4).toInt ≤ 5 := by
    intro g _ hg
    unfold wset
    split
    · exact ⟨h0, h5⟩
    · exact hg
  have k1 := key 32 (Or.inl rfl) ⟨n.1.1, n.1.2.1⟩
  have k2 := key 39 (Or.inr (Or.inl rfl)) ⟨n.2.1.1, n.2.1.2.1⟩
  have k3 := key 46 (Or.inr (Or.inr rfl)) ⟨n.2.2.1.1, n.2.2.1.2.1⟩
  rw [ws_row (w := w) (c := f) (j := 4) (a := 32) (b := 7) (by decide), ws_row (w := w) (c := f) (j := 4) (a := 39) (b := 7) (by decide), ws_row (w := w) (c := f) (j := 4) (a := 46) (b := 7) (by decide), ws_col (w := w) (c := f) (j := 4) (a := 0) (b := 7) (by omega), ws_col (w := w) (c := f) (j := 4) (a := 3) (b := 0) (by omega)]
  exact ⟨⟨k1.1, k1.2, n.1.2.2⟩, ⟨k2.1, k2.2, n.2.1.2.2⟩, ⟨k3.1, k3.2, n.2.2.1.2.2⟩, n.2.2.2⟩
/-- the family in thought becomes like another one -/
theorem IC.like39 {κ : Ky} {w w' : Wd} {g : Nat} (hg : isF g) (i : IC κ w) (hk : ∀ c : Nat, c ≠ 39 → c ≠ 40 → c ≠ 41 → c ≠ 42 → w' c = w c) (h4 : w' 39 4 = w g 4) (h7 : w' 39 7 = w g 7) : IC κ w' := by
  have e := i.f hg
  refine ⟨(kC.of (by rw [hk 0 (by decide) (by decide) (by decide) (by decide)]) (by rw [hk 3 (by decide) (by decide) (by decide) (by decide)]) (hk 4 (by decide) (by decide) (by decide) (by decide)) (by rw [hk 32 (by decide) (by decide) (by decide) (by decide)]) (by rw [hk 0 (by decide) (by decide) (by decide) (by decide)]) (by rw [hk 46 (by decide) (by decide) (by decide) (by decide)])).trans i.1, ?_, shOK.of (fun c hc => hk c (isS_ne hc (by omega)) (isS_ne hc (by omega)) (isS_ne hc (by omega)) (isS_ne hc (by omega))) i.2.2.1, txOK.of (fun t ht => hk _ (isT_ne ht (by omega)) (isT_ne ht (by omega)) (isT_ne ht (by omega)) (isT_ne ht (by omega))) i.2.2.2⟩
  have n := i.2.1
  unfold numC famOK at *
  rw [h4, h7, hk 0 (by decide) (by decide) (by decide) (by decide), hk 3 (by decide) (by decide) (by decide) (by decide), hk 32 (by decide) (by decide) (by decide) (by decide), hk 46 (by decide) (by decide) (by decide) (by decide)]
  exact ⟨n.1, e, n.2.2⟩
set_option maxRecDepth 20000 in
theorem ic_like39 {Γ : Gx} {d : Nat} (hd : 1 ≤ d) (hG : GC Γ) {κ : Ky} {w : Wd} (i : IC κ w) {Q : Wd → Prop} (k : ∀ w' : Wd, IC κ w' → w' 39 4 = w 32 4 → Q w') : CV Γ d M_X0_becomeLike [.ref (gad Γ 39), .ref (gad Γ 32)] w Q :=
  cs_X0_becomeLike hd hG (ShC.f39 hG.2.1) (ShC.f32 hG.2.1) (by decide) (fun w2 k2 l2 l7 => k w2 (i.like39 (Or.inl rfl) k2 l2 l7) l2)
set_option maxRecDepth 20000 in
theorem ic_takeIn {Γ : Gx} {d : Nat} (hd : 1 ≤ d) (hG : GC Γ) {f : Nat} (hF : ShF Γ f) (hf : isF f) {κ : Ky} {p1 p2 : Int32} {w : Wd} (i : IC κ w) {Q : Int32 → Wd → Prop} (k : ∀ (r : Int32) (w' : Wd), IC κ w' → Q r w') : CI Γ d M_X0_takeIn [.ref (gad Γ f), .int p1, .int p2] w Q := by
  obtain ⟨d, rfl⟩ : ∃ e, d = e + 1 := ⟨d - 1, by omega⟩
  refine con_X0_takeIn hG hF ?_
  unfold wp_X0_takeIn
  have z := i.fz hf
  refine ⟨fun h => ?_, fun _ => k _ _ i⟩
  simp only [Int32.lt_iff_toInt_lt, Int32.reduceToInt] at h
  refine ⟨vp_in_iff.mpr (by omega), fun w3 e3 => ?_⟩
  have q3 : w3 f 4 = w f 4 := by rw [e3, ws_col (by omega)]
  have i3 : IC κ w3 := e3 ▸ IC.fam hf (by decide) (by decide) i
  refine ⟨by rw [q3]; exact vp_in_iff.mpr (by omega), fun w6 e6 => ?_⟩
  have q6 : w6 f 4 = w f 4 := by rw [e6, ws_col (by omega), q3]
  have i6 : IC κ w6 := e6 ▸ IC.fam hf (by decide) (by decide) i3
  refine ⟨by rw [q6]; exact vp_in_iff.mpr (by omega), fun w9 e9 w11 e11 => k _ _ ?_⟩
  have q9 : w9 f 4 = w f 4 := by rw [e9, ws_col (by omega), q6]
  have i9 : IC κ w9 := e9 ▸ IC.fam hf (by decide) (by decide) i6
  have n1 : (1 : Int32).toInt = 1 := rfl
  have e := i_add (x := w f 4) (y := 1) (by omega) (by omega)
  rw [e11, q9]
  exact IC.cnt hf (by omega) (by omega) i9

theorem i_dec {x : Int32} (h : -2147483647 ≤ x.toInt) : (x + (-1)).toInt = x.toInt - 1 := by
  have h1 : (-1 : Int32).toInt = -1 := rfl
  have := x.toInt_lt
  have e := i_add (x := x) (y := (-1 : Int32)) (by omega) (by omega)
  omega
theorem vp_neg {x : Int32} (h1 : -6 ≤ x.toInt) (h2 : x.toInt ≤ -1) : vp_in (-1 - x) 6 := by
  have : (-1 : Int32).toInt = -1 := rfl
  have := i_sub (x := (-1 : Int32)) (y := x) (by omega) (by omega)
  exact vp_in_iff.mpr (by omega)

set_option maxRecDepth 20000 in
theorem ic_X3_valueOf {Γ : Gx} {d : Nat} (hd : 1 ≤ d) (hG : GC Γ) {t : Nat} {p1 : Int32} {a2 : Nat} {a3 : Nat} (hT : ShT Γ t) (ha2 : (gS Γ)[a2]? = some (.inl (0, 6, []))) (ha3 : (gS Γ)[a3]? = some (.inl (0, 160, []))) {κ : Ky} {f : Nat} {w : Wd} (i : IC κ w) (ht : isT t) (hf : isF f) (ha : a3 = f + 6) (h1 : 0 ≤ p1.toInt ∧ p1.toInt ≤ 2) {Q : Int32 → Wd → Prop} (k : ∀ (r : Int32) (w' : Wd), IC κ w' → Q r w') : CI Γ d M_X3_valueOf [.ref (gad Γ t), .int p1, .ref (gad Γ a2), .ref (gad Γ a3)] w Q := by
  obtain ⟨d, rfl⟩ : ∃ e, d = e + 1 := ⟨d - 1, by omega⟩
  refine con_X3_valueOf hG hT ha2 ha3 ?_
  unfold wp_X3_valueOf
  intro P_15
  intro P_77
  intro P_130
  intro cP_15
  intro cP_77
  intro cP_130
  have key : ∀ m : Nat, (∀ (l4 : Int32) (l5 : Int32) (w : Wd), IC κ w → (0 ≤ l4.toInt ∧ l4.toInt ≤ 160) → (0 ≤ l5.toInt ∧ l5.toInt ≤ 160) → ((4 * (161 - l5.toInt)).toNat) < m → P_15 l4 l5 w) ∧ (∀ (l4 : Int32) (l5 : Int32) (l6 : Int32) (w : Wd), IC κ w → (0 ≤ l4.toInt ∧ l4.toInt ≤ 160) → (0 ≤ l5.toInt ∧ l5.toInt ≤ 159) → ((4 * (161 - l5.toInt) - 1).toNat) < m → P_77 l4 l5 l6 w) ∧ (∀ (l4 : Int32) (l5 : Int32) (l6 : Int32) (w : Wd), IC κ w → (0 ≤ l4.toInt ∧ l4.toInt ≤ 160) → (0 ≤ l5.toInt ∧ l5.toInt ≤ 159) → ((4 * (161 - l5.toInt) - 2).toNat) < m → P_130 l4 l5 l6 w) := by
    intro m
    induction m with
    | zero => exact ⟨fun _ _ _ _ _ _ h => absurd h (Nat.not_lt_zero _), fun _ _ _ _ _ _ _ h => absurd h (Nat.not_lt_zero _), fun _ _ _ _ _ _ _ h => absurd h (Nat.not_lt_zero _)⟩
    | succ m ih =>
      refine ⟨?_, ?_, ?_⟩
      · intro l4 l5 w i v0 v1 hm
        refine cP_15 _ _ _ ?_
        have n1 : (1 : Int32).toInt = 1 := rfl
        have := i_add (x := p1) (y := 1) (by omega) (by omega)
        have ht5 := i.2.2.2 t ht (p1 + (1 : Int32)).toNatClampNeg (tn_lt (by omega) (by omega))
        have := i_lo p1
        have := i_hi p1
        have : (1 : Int32).toInt = 1 := rfl
        have := i_add (x := p1) (y := (1 : Int32)) (by omega) (by omega)
        refine ⟨vp_in_iff.mpr (by omega), ?_⟩
        refine ⟨fun h356 => ?_, fun h357 => ?_⟩
        · have := i_lo (w (t + 2) ((p1 + (1 : Int32))).toNatClampNeg)
          have := i_hi (w (t + 2) ((p1 + (1 : Int32))).toNatClampNeg)
          simp only [Int32.lt_iff_toInt_lt, Int32.le_iff_toInt_le, ← Int32.toInt_inj, Int32.reduceToInt] at h356
          exact k _ _ i
        · have := i_lo (w (t + 2) ((p1 + (1 : Int32))).toNatClampNeg)
          have := i_hi (w (t + 2) ((p1 + (1 : Int32))).toNatClampNeg)
          simp only [Int32.lt_iff_toInt_lt, Int32.le_iff_toInt_le, ← Int32.toInt_inj, Int32.reduceToInt] at h357
          have := i_lo l5
          have := i_hi l5
          refine ⟨vp_in_iff.mpr (by omega), ?_⟩
          refine ⟨fun h358 => ?_, fun h359 => ?_⟩
          · have := i_lo (w (t + 1) (l5).toNatClampNeg)
            have := i_hi (w (t + 1) (l5).toNatClampNeg)
            simp only [Int32.lt_iff_toInt_lt, Int32.le_iff_toInt_le, ← Int32.toInt_inj, Int32.reduceToInt] at h358
            exact ih.2.1 _ _ _ _ i (by first | omega | rfl | assumption) (by first | omega | rfl | assumption) (by omega)
          · have := i_lo (w (t + 1) (l5).toNatClampNeg)
            have := i_hi (w (t + 1) (l5).toNatClampNeg)
            simp only [Int32.lt_iff_toInt_lt, Int32.le_iff_toInt_le, ← Int32.toInt_inj, Int32.reduceToInt] at h359
            refine ⟨fun h360 => ?_, fun h361 => ?_⟩
            · simp only [Int32.lt_iff_toInt_lt, Int32.le_iff_toInt_le, ← Int32.toInt_inj, Int32.reduceToInt] at h360
              exact ih.2.1 _ _ _ _ i (by first | omega | rfl | assumption) (by first | omega | rfl | assumption) (by omega)
            · simp only [Int32.lt_iff_toInt_lt, Int32.le_iff_toInt_le, ← Int32.toInt_inj, Int32.reduceToInt] at h361
              refine ⟨fun h362 => ?_, fun h363 => ?_⟩
              · simp only [Int32.lt_iff_toInt_lt, Int32.le_iff_toInt_le, ← Int32.toInt_inj, Int32.reduceToInt] at h362
                refine ⟨vp_neg (by omega) (by omega), ?_⟩
                have := i_lo l4
                have := i_hi l4
                refine ⟨vp_in_iff.mpr (by omega), ?_⟩
                intro w12 ew12
                have iw12 : IC κ w12 := ew12 ▸ IC.fam6 ha hf i
                have := i_add (x := l4) (y := (1 : Int32)) (by omega) (by omega)
                have := i_add (x := l5) (y := (1 : Int32)) (by omega) (by omega)
                exact ih.1 _ _ _ iw12 (by first | omega | rfl | assumption) (by first | omega | rfl | assumption) (by omega)
              · simp only [Int32.lt_iff_toInt_lt, Int32.le_iff_toInt_le, ← Int32.toInt_inj, Int32.reduceToInt] at h363
                have := i_lo l4
                have := i_hi l4
                refine ⟨vp_in_iff.mpr (by omega), ?_⟩
                intro w15 ew15
                have iw15 : IC κ w15 := ew15 ▸ IC.fam6 ha hf i
                have := i_add (x := l4) (y := (1 : Int32)) (by omega) (by omega)
                have := i_add (x := l5) (y := (1 : Int32)) (by omega) (by omega)
                exact ih.1 _ _ _ iw15 (by first | omega | rfl | assumption) (by first | omega | rfl | assumption) (by omega)
      · intro l4 l5 l6 w i v0 v1 hm
        refine cP_77 _ _ _ _ ?_
        refine ⟨fun h364 => ?_, fun h365 => ?_⟩
        · simp only [Int32.lt_iff_toInt_lt, Int32.le_iff_toInt_le, ← Int32.toInt_inj, Int32.reduceToInt] at h364
          exact ih.2.2 _ _ _ _ i (by first | omega | rfl | assumption) (by first | omega | rfl | assumption) (by omega)
        · simp only [Int32.lt_iff_toInt_lt, Int32.le_iff_toInt_le, ← Int32.toInt_inj, Int32.reduceToInt] at h365
          refine ⟨fun h366 => ?_, fun h367 => ?_⟩
          · simp only [Int32.lt_iff_toInt_lt, Int32.le_iff_toInt_le, ← Int32.toInt_inj, Int32.reduceToInt] at h366
            exact ih.2.2 _ _ _ _ i (by first | omega | rfl | assumption) (by first | omega | rfl | assumption) (by omega)
          · simp only [Int32.lt_iff_toInt_lt, Int32.le_iff_toInt_le, ← Int32.toInt_inj, Int32.reduceToInt] at h367
            have := i_lo l4
            have := i_hi l4
            have : (1 : Int32).toInt = 1 := rfl
            have := i_sub (x := l4) (y := (1 : Int32)) (by omega) (by omega)
            refine ⟨vp_in_iff.mpr (by omega), ?_⟩
            refine ⟨fun h368 => ?_, fun h369 => ?_⟩
            · simp only [Int32.lt_iff_toInt_lt, Int32.le_iff_toInt_le, ← Int32.toInt_inj, Int32.reduceToInt] at h368
              refine ⟨fun h370 => ?_, fun h371 => ?_⟩
              · have := i_lo (w a3 ((l4 - (1 : Int32))).toNatClampNeg)
                have := i_hi (w a3 ((l4 - (1 : Int32))).toNatClampNeg)
                simp only [Int32.lt_iff_toInt_lt, Int32.le_iff_toInt_le, ← Int32.toInt_inj, Int32.reduceToInt] at h370
                intro w22 ew22
                have iw22 : IC κ w22 := ew22 ▸ IC.fam6 ha hf i
                have := i_lo l5
                have := i_hi l5
                have := i_add (x := l5) (y := (1 : Int32)) (by omega) (by omega)
                exact ih.1 _ _ _ iw22 (by first | omega | rfl | assumption) (by first | omega | rfl | assumption) (by omega)
              · have := i_lo (w a3 ((l4 - (1 : Int32))).toNatClampNeg)
                have := i_hi (w a3 ((l4 - (1 : Int32))).toNatClampNeg)
                simp only [Int32.lt_iff_toInt_lt, Int32.le_iff_toInt_le, ← Int32.toInt_inj, Int32.reduceToInt] at h371
                intro w24 ew24
                have iw24 : IC κ w24 := ew24 ▸ IC.fam6 ha hf i
                have := i_lo l5
                have := i_hi l5
                have := i_add (x := l5) (y := (1 : Int32)) (by omega) (by omega)
                exact ih.1 _ _ _ iw24 (by first | omega | rfl | assumption) (by first | omega | rfl | assumption) (by omega)
            · simp only [Int32.lt_iff_toInt_lt, Int32.le_iff_toInt_le, ← Int32.toInt_inj, Int32.reduceToInt] at h369
              intro w26 ew26
              have iw26 : IC κ w26 := ew26 ▸ IC.fam6 ha hf i
              have := i_lo l5
              have := i_hi l5
              have := i_add (x := l5) (y := (1 : Int32)) (by omega) (by omega)
              exact ih.1 _ _ _ iw26 (by first | omega | rfl | assumption) (by first | omega | rfl | assumption) (by omega)
      · intro l4 l5 l6 w i v0 v1 hm
        refine cP_130 _ _ _ _ ?_
        obtain ⟨y, hy⟩ : ∃ y : Int32, y = l4 + (-1) := ⟨_, rfl⟩
        rw [← hy]
        have ey : 2 ≤ l4.toInt → y.toInt = l4.toInt - 1 := fun h => by rw [hy]; exact i_dec (by omega)
        clear hy
        refine ⟨fun h372 => ?_, fun h373 => ?_⟩
        · simp only [Int32.lt_iff_toInt_lt, Int32.le_iff_toInt_le, ← Int32.toInt_inj, Int32.reduceToInt] at h372
          have := i_lo l5
          have := i_hi l5
          have : (1 : Int32).toInt = 1 := rfl
          have := i_add (x := l5) (y := (1 : Int32)) (by omega) (by omega)
          exact ih.1 _ _ _ i (by first | omega | rfl | assumption) (by first | omega | rfl | assumption) (by omega)
        · simp only [Int32.lt_iff_toInt_lt, Int32.le_iff_toInt_le, ← Int32.toInt_inj, Int32.reduceToInt] at h373
          have ey := ey (by omega)
          have := i_lo y
          have := i_hi y
          have : (1 : Int32).toInt = 1 := rfl
          have := i_sub (x := y) (y := (1 : Int32)) (by omega) (by omega)
          refine ⟨vp_in_iff.mpr (by omega), ?_⟩
          intro v30 ev30
          refine ⟨vp_in_iff.mpr (by omega), ?_⟩
          refine ⟨fun h374 => ?_, fun h375 => ?_, fun h376 => ?_, fun h377 => ?_, fun h378 => ?_, fun h379 => ?_, fun h380 => ?_⟩
          · simp only [Int32.lt_iff_toInt_lt, Int32.le_iff_toInt_le, ← Int32.toInt_inj, Int32.reduceToInt] at h374
            refine ⟨fun h381 => ?_, fun h382 => ?_⟩
            · simp only [Int32.lt_iff_toInt_lt, Int32.le_iff_toInt_le, ← Int32.toInt_inj, Int32.reduceToInt] at h381
              intro w34 ew34
              have iw34 : IC κ w34 := ew34 ▸ IC.fam6 ha hf i
              have := i_lo l5
              have := i_hi l5
              have := i_add (x := l5) (y := (1 : Int32)) (by omega) (by omega)
              exact ih.1 _ _ _ iw34 (by first | omega | rfl | assumption) (by first | omega | rfl | assumption) (by omega)
            · simp only [Int32.lt_iff_toInt_lt, Int32.le_iff_toInt_le, ← Int32.toInt_inj, Int32.reduceToInt] at h382
              refine ⟨fun h383 => ?_, fun h384 => ?_⟩
              · simp only [Int32.lt_iff_toInt_lt, Int32.le_iff_toInt_le, ← Int32.toInt_inj, Int32.reduceToInt] at h383
                intro w37 ew37
                have iw37 : IC κ w37 := ew37 ▸ IC.fam6 ha hf i
                have := i_lo l5
                have := i_hi l5
                have := i_add (x := l5) (y := (1 : Int32)) (by omega) (by omega)
                exact ih.1 _ _ _ iw37 (by first | omega | rfl | assumption) (by first | omega | rfl | assumption) (by omega)
              · simp only [Int32.lt_iff_toInt_lt, Int32.le_iff_toInt_le, ← Int32.toInt_inj, Int32.reduceToInt] at h384
                intro w39 ew39
                have iw39 : IC κ w39 := ew39 ▸ IC.fam6 ha hf i
                have := i_lo l5
                have := i_hi l5
                have := i_add (x := l5) (y := (1 : Int32)) (by omega) (by omega)
                exact ih.1 _ _ _ iw39 (by first | omega | rfl | assumption) (by first | omega | rfl | assumption) (by omega)
          · simp only [Int32.lt_iff_toInt_lt, Int32.le_iff_toInt_le, ← Int32.toInt_inj, Int32.reduceToInt] at h375
            refine ⟨fun h385 => ?_, fun h386 => ?_⟩
            · simp only [Int32.lt_iff_toInt_lt, Int32.le_iff_toInt_le, ← Int32.toInt_inj, Int32.reduceToInt] at h385
              intro w42 ew42
              have iw42 : IC κ w42 := ew42 ▸ IC.fam6 ha hf i
              have := i_lo l5
              have := i_hi l5
              have := i_add (x := l5) (y := (1 : Int32)) (by omega) (by omega)
              exact ih.1 _ _ _ iw42 (by first | omega | rfl | assumption) (by first | omega | rfl | assumption) (by omega)
            · simp only [Int32.lt_iff_toInt_lt, Int32.le_iff_toInt_le, ← Int32.toInt_inj, Int32.reduceToInt] at h386
              refine ⟨fun h387 => ?_, fun h388 => ?_⟩
              · simp only [Int32.lt_iff_toInt_lt, Int32.le_iff_toInt_le, ← Int32.toInt_inj, Int32.reduceToInt] at h387
                intro w45 ew45
                have iw45 : IC κ w45 := ew45 ▸ IC.fam6 ha hf i
                have := i_lo l5
                have := i_hi l5
                have := i_add (x := l5) (y := (1 : Int32)) (by omega) (by omega)
                exact ih.1 _ _ _ iw45 (by first | omega | rfl | assumption) (by first | omega | rfl | assumption) (by omega)
              · simp only [Int32.lt_iff_toInt_lt, Int32.le_iff_toInt_le, ← Int32.toInt_inj, Int32.reduceToInt] at h388
                intro w47 ew47
                have iw47 : IC κ w47 := ew47 ▸ IC.fam6 ha hf i
                have := i_lo l5
                have := i_hi l5
                have := i_add (x := l5) (y := (1 : Int32)) (by omega) (by omega)
                exact ih.1 _ _ _ iw47 (by first | omega | rfl | assumption) (by first | omega | rfl | assumption) (by omega)
          · simp only [Int32.lt_iff_toInt_lt, Int32.le_iff_toInt_le, ← Int32.toInt_inj, Int32.reduceToInt] at h376
            refine ⟨fun h389 => ?_, fun h390 => ?_⟩
            · simp only [Int32.lt_iff_toInt_lt, Int32.le_iff_toInt_le, ← Int32.toInt_inj, Int32.reduceToInt] at h389
              intro w50 ew50
              have iw50 : IC κ w50 := ew50 ▸ IC.fam6 ha hf i
              have := i_lo l5
              have := i_hi l5
              have := i_add (x := l5) (y := (1 : Int32)) (by omega) (by omega)
              exact ih.1 _ _ _ iw50 (by first | omega | rfl | assumption) (by first | omega | rfl | assumption) (by omega)
            · simp only [Int32.lt_iff_toInt_lt, Int32.le_iff_toInt_le, ← Int32.toInt_inj, Int32.reduceToInt] at h390
              intro w52 ew52
              have iw52 : IC κ w52 := ew52 ▸ IC.fam6 ha hf i
              have := i_lo l5
              have := i_hi l5
              have := i_add (x := l5) (y := (1 : Int32)) (by omega) (by omega)
              exact ih.1 _ _ _ iw52 (by first | omega | rfl | assumption) (by first | omega | rfl | assumption) (by omega)
          · simp only [Int32.lt_iff_toInt_lt, Int32.le_iff_toInt_le, ← Int32.toInt_inj, Int32.reduceToInt] at h377
            refine ⟨fun h391 => ?_, fun h392 => ?_⟩
            · simp only [Int32.lt_iff_toInt_lt, Int32.le_iff_toInt_le, ← Int32.toInt_inj, Int32.reduceToInt] at h391
              intro w55 ew55
              have iw55 : IC κ w55 := ew55 ▸ IC.fam6 ha hf i
              have := i_lo l5
              have := i_hi l5
              have := i_add (x := l5) (y := (1 : Int32)) (by omega) (by omega)
              exact ih.1 _ _ _ iw55 (by first | omega | rfl | assumption) (by first | omega | rfl | assumption) (by omega)
            · simp only [Int32.lt_iff_toInt_lt, Int32.le_iff_toInt_le, ← Int32.toInt_inj, Int32.reduceToInt] at h392
              intro w57 ew57
              have iw57 : IC κ w57 := ew57 ▸ IC.fam6 ha hf i
              have := i_lo l5
              have := i_hi l5
              have := i_add (x := l5) (y := (1 : Int32)) (by omega) (by omega)
              exact ih.1 _ _ _ iw57 (by first | omega | rfl | assumption) (by first | omega | rfl | assumption) (by omega)
          · simp only [Int32.lt_iff_toInt_lt, Int32.le_iff_toInt_le, ← Int32.toInt_inj, Int32.reduceToInt] at h378
            intro w59 ew59
            have iw59 : IC κ w59 := ew59 ▸ IC.fam6 ha hf i
            have := i_lo l5
            have := i_hi l5
            have := i_add (x := l5) (y := (1 : Int32)) (by omega) (by omega)
            exact ih.1 _ _ _ iw59 (by first | omega | rfl | assumption) (by first | omega | rfl | assumption) (by omega)
          · simp only [Int32.lt_iff_toInt_lt, Int32.le_iff_toInt_le, ← Int32.toInt_inj, Int32.reduceToInt] at h379
            intro w61 ew61
            have iw61 : IC κ w61 := ew61 ▸ IC.fam6 ha hf i
            have := i_lo l5
            have := i_hi l5
            have := i_add (x := l5) (y := (1 : Int32)) (by omega) (by omega)
            exact ih.1 _ _ _ iw61 (by first | omega | rfl | assumption) (by first | omega | rfl | assumption) (by omega)
          · simp only [Int32.lt_iff_toInt_lt, Int32.le_iff_toInt_le, ← Int32.toInt_inj, Int32.reduceToInt] at h380
            intro w63 ew63
            have iw63 : IC κ w63 := ew63 ▸ IC.fam6 ha hf i
            have := i_lo l5
            have := i_hi l5
            have := i_add (x := l5) (y := (1 : Int32)) (by omega) (by omega)
            exact ih.1 _ _ _ iw63 (by first | omega | rfl | assumption) (by first | omega | rfl | assumption) (by omega)
  intro w1 ew1
  have iw1 : IC κ w1 := ew1 ▸ IC.fam6 ha hf i
  have := i_lo p1
  have := i_hi p1
  refine ⟨vp_in_iff.mpr (by omega), ?_⟩
  have : (0 : Int32).toInt = 0 := rfl
  have := i_lo (w1 (t + 2) (p1).toNatClampNeg)
  have := i_hi (w1 (t + 2) (p1).toNatClampNeg)
  have hx := i.2.2.2 t ht p1.toNatClampNeg (tn_lt (by omega) (by omega))
  have hy : w1 (t + 2) p1.toNatClampNeg = w (t + 2) p1.toNatClampNeg := by rw [ew1]; exact ws_col (by rcases ht with rfl | rfl | rfl | rfl | rfl | rfl <;> have := isF_lo hf <;> omega)
  exact (key _).1 _ _ _ iw1 (by first | omega | rfl | assumption) (by rw [hy]; exact hx) (Nat.lt_succ_self _)

set_option maxRecDepth 20000 in
theorem ic_X4_bounded {Γ : Gx} {d : Nat} (hd : 1 ≤ d) (hG : GC Γ) {p1 : Int32} {κ : Ky} {w : Wd} (i : IC κ w) {Q : Int32 → Wd → Prop} (k : ∀ (r : Int32), (-20 ≤ r.toInt ∧ r.toInt ≤ 20) → Q r w) : CI Γ d M_X4_bounded [.int p1] w Q := by
  obtain ⟨d, rfl⟩ : ∃ e, d = e + 1 := ⟨d - 1, by omega⟩
  refine con_X4_bounded hG ?_
  unfold wp_X4_bounded
  have zw := i.num
  refine k _ ?_
  (repeat' split) <;> simp only [Int32.lt_iff_toInt_lt, Int32.reduceToInt] at * <;> omega

set_option maxRecDepth 20000 in
theorem ic_X0_glad {Γ : Gx} {d : Nat} (hd : 1 ≤ d) (hG : GC Γ) {f : Nat} (hF : ShF Γ f) {κ : Ky} {w : Wd} (i : IC κ w) (hf : isF f) {Q : Int32 → Wd → Prop} (k : ∀ (r : Int32) (w' : Wd), IC κ w' → Q r w') : CI Γ d M_X0_glad [.ref (gad Γ f)] w Q := by
  obtain ⟨d, rfl⟩ : ∃ e, d = e + 1 := ⟨d - 1, by omega⟩
  refine con_X0_glad hG hF ?_
  unfold wp_X0_glad
  have zw := i.fz hf
  intro P_4
  intro cP_4
  have key : ∀ m : Nat, (∀ (l1 : Int32) (l2 : Int32) (w : Wd), IC κ w → (0 ≤ l2.toInt ∧ l2.toInt ≤ 5) → ((6 - l2.toInt).toNat) < m → P_4 l1 l2 w) := by
    intro m
    induction m with
    | zero => exact fun _ _ _ _ _ h => absurd h (Nat.not_lt_zero _)
    | succ m ih =>
      intro l1 l2 w i v0 hm
      refine cP_4 _ _ _ ?_
      have z4 := i.fz hf
      refine ⟨fun h393 => ?_, fun h394 => ?_⟩
      · simp only [Int32.lt_iff_toInt_lt, Int32.le_iff_toInt_le, ← Int32.toInt_inj, Int32.reduceToInt] at h393
        exact k _ _ i
      · simp only [Int32.lt_iff_toInt_lt, Int32.le_iff_toInt_le, ← Int32.toInt_inj, Int32.reduceToInt] at h394
        have := i_lo l2
        have := i_hi l2
        refine ⟨vp_in_iff.mpr (by omega), ?_⟩
        have : (1 : Int32).toInt = 1 := rfl
        have := i_add (x := l2) (y := (1 : Int32)) (by omega) (by omega)
        exact ih _ _ _ i (by first | omega | rfl | assumption) (by omega)
  have : (0 : Int32).toInt = 0 := rfl
  exact (key _) _ _ _ i (by first | omega | rfl | assumption) (Nat.lt_succ_self _)

set_option maxRecDepth 20000 in
theorem ic_X0_allMoods {Γ : Gx} {d : Nat} (hd : 1 ≤ d) (hG : GC Γ) {f : Nat} (hF : ShF Γ f) {κ : Ky} {w : Wd} (i : IC κ w) (hf : isF f) {Q : Int32 → Wd → Prop} (k : ∀ (r : Int32) (w' : Wd), IC κ w' → Q r w') : CI Γ d M_X0_allMoods [.ref (gad Γ f)] w Q := by
  obtain ⟨d, rfl⟩ : ∃ e, d = e + 1 := ⟨d - 1, by omega⟩
  refine con_X0_allMoods hG hF ?_
  unfold wp_X0_allMoods
  have zw := i.fz hf
  intro P_4
  intro cP_4
  have key : ∀ m : Nat, (∀ (l1 : Int32) (l2 : Int32) (w : Wd), IC κ w → (0 ≤ l2.toInt ∧ l2.toInt ≤ 5) → ((6 - l2.toInt).toNat) < m → P_4 l1 l2 w) := by
    intro m
    induction m with
    | zero => exact fun _ _ _ _ _ h => absurd h (Nat.not_lt_zero _)
    | succ m ih =>
      intro l1 l2 w i v0 hm
      refine cP_4 _ _ _ ?_
      have z4 := i.fz hf
      refine ⟨fun h395 => ?_, fun h396 => ?_⟩
      · simp only [Int32.lt_iff_toInt_lt, Int32.le_iff_toInt_le, ← Int32.toInt_inj, Int32.reduceToInt] at h395
        exact k _ _ i
      · simp only [Int32.lt_iff_toInt_lt, Int32.le_iff_toInt_le, ← Int32.toInt_inj, Int32.reduceToInt] at h396
        have := i_lo l2
        have := i_hi l2
        refine ⟨vp_in_iff.mpr (by omega), ?_⟩
        intro v3 ev3
        have : (1 : Int32).toInt = 1 := rfl
        have := i_add (x := l2) (y := (1 : Int32)) (by omega) (by omega)
        exact ih _ _ _ i (by first | omega | rfl | assumption) (by omega)
  have : (0 : Int32).toInt = 0 := rfl
  exact (key _) _ _ _ i (by first | omega | rfl | assumption) (Nat.lt_succ_self _)

set_option maxRecDepth 20000 in
theorem ic_X0_drawMoods {Γ : Gx} {d : Nat} (hd : 1 ≤ d) (hG : GC Γ) {f : Nat} {p1 : Int32} (hF : ShF Γ f) {κ : Ky} {w : Wd} (i : IC κ w) (hf : isF f) {Q : Wd → Prop} (k : ∀ (w' : Wd), IC κ w' → Q w') : CV Γ d M_X0_drawMoods [.ref (gad Γ f), .int p1] w Q := by
  obtain ⟨d, rfl⟩ : ∃ e, d = e + 1 := ⟨d - 1, by omega⟩
  refine con_X0_drawMoods hG hF ?_
  unfold wp_X0_drawMoods
  have zw := i.fz hf
  intro P_4
  intro cP_4
  have key : ∀ m : Nat, (∀ (l2 : Int32) (l3 : Int32) (w : Wd), IC κ w → (0 ≤ l3.toInt ∧ l3.toInt ≤ 5) → ((6 - l3.toInt).toNat) < m → P_4 l2 l3 w) := by
    intro m
    induction m with
    | zero => exact fun _ _ _ _ _ h => absurd h (Nat.not_lt_zero _)
    | succ m ih =>
      intro l2 l3 w i v0 hm
      refine cP_4 _ _ _ ?_
      have z4 := i.fz hf
      refine ⟨fun h397 => ?_, fun h398 => ?_⟩
      · simp only [Int32.lt_iff_toInt_lt, Int32.le_iff_toInt_le, ← Int32.toInt_inj, Int32.reduceToInt] at h397
        exact k _ i
      · simp only [Int32.lt_iff_toInt_lt, Int32.le_iff_toInt_le, ← Int32.toInt_inj, Int32.reduceToInt] at h398
        intro v2 ev2
        have := i_lo l3
        have := i_hi l3
        refine ⟨vp_in_iff.mpr (by omega), ?_⟩
        intro w5 ew5
        have iw5 : IC κ w5 := ew5 ▸ IC.fam hf (by decide) (by decide) i
        have zw5 := iw5.fz hf
        have : (1 : Int32).toInt = 1 := rfl
        have := i_add (x := l3) (y := (1 : Int32)) (by omega) (by omega)
        exact ih _ _ _ iw5 (by first | omega | rfl | assumption) (by omega)
  have : (0 : Int32).toInt = 0 := rfl
  exact (key _) _ _ _ i (by first | omega | rfl | assumption) (Nat.lt_succ_self _)

set_option maxRecDepth 20000 in
theorem ic_X0_nameAll {Γ : Gx} {d : Nat} (hd : 1 ≤ d) (hG : GC Γ) {f : Nat} {p1 : Int32} {p2 : Int32} {p3 : Int32} {p4 : Int32} {p5 : Int32} (hF : ShF Γ f) {κ : Ky} {w : Wd} (i : IC κ w) (hf : isF f) (h2 : 0 ≤ p2.toInt ∧ p2.toInt ≤ 4) (h3 : 0 ≤ p3.toInt ∧ p3.toInt ≤ 4) {Q : Wd → Prop} (k : ∀ (w' : Wd), IC κ w' → Q w') : CV Γ d M_X0_nameAll [.ref (gad Γ f), .int p1, .int p2, .int p3, .int p4, .int p5] w Q := by
  obtain ⟨d, rfl⟩ : ∃ e, d = e + 1 := ⟨d - 1, by omega⟩
  refine con_X0_nameAll hG hF ?_
  unfold wp_X0_nameAll
  have zw := i.fz hf
  intro w1 ew1
  have iw1 : IC κ w1 := ew1 ▸ IC.fam hf (by decide) (by decide) i
  have zw1 := iw1.fz hf
  have := i_lo p2
  have := i_hi p2
  refine ⟨vp_in_iff.mpr (by omega), ?_⟩
  intro w4 ew4
  have iw4 : IC κ w4 := ew4 ▸ IC.fam hf (by decide) (by decide) iw1
  have zw4 := iw4.fz hf
  intro w6 ew6
  have iw6 : IC κ w6 := ew6 ▸ IC.fam hf (by decide) (by decide) iw4
  have zw6 := iw6.fz hf
  have := i_lo p3
  have := i_hi p3
  refine ⟨vp_in_iff.mpr (by omega), ?_⟩
  intro w9 ew9
  have iw9 : IC κ w9 := ew9 ▸ IC.fam hf (by decide) (by decide) iw6
  have zw9 := iw9.fz hf
  intro w11 ew11
  have iw11 : IC κ w11 := ew11 ▸ IC.fam hf (by decide) (by decide) iw9
  have zw11 := iw11.fz hf
  intro w13 ew13
  have iw13 : IC κ w13 := ew13 ▸ IC.fam hf (by decide) (by decide) iw11
  have zw13 := iw13.fz hf
  exact k _ iw13

set_option maxRecDepth 20000 in
theorem ic_X0_inlawSends {Γ : Gx} {d : Nat} (hd : 1 ≤ d) (hG : GC Γ) {f : Nat} {p1 : Int32} {p2 : Int32} (hF : ShF Γ f) {κ : Ky} {w : Wd} (i : IC κ w) (hf : isF f) (h1 : 0 ≤ p1.toInt ∧ p1.toInt ≤ 4) {Q : Int32 → Wd → Prop} (k : ∀ (r : Int32) (w' : Wd), IC κ w' → (isZ r) → Q r w') : CI Γ d M_X0_inlawSends [.ref (gad Γ f), .int p1, .int p2] w Q := by
  obtain ⟨d, rfl⟩ : ∃ e, d = e + 1 := ⟨d - 1, by omega⟩
  refine con_X0_inlawSends hG hF ?_
  unfold wp_X0_inlawSends
  have zw := i.fz hf
  refine ⟨fun h399 => ?_, fun h400 => ?_⟩
  · simp only [Int32.lt_iff_toInt_lt, Int32.le_iff_toInt_le, ← Int32.toInt_inj, Int32.reduceToInt] at h399
    exact k _ _ i iz_0
  · simp only [Int32.lt_iff_toInt_lt, Int32.le_iff_toInt_le, ← Int32.toInt_inj, Int32.reduceToInt] at h400
    have := i_lo p1
    have := i_hi p1
    refine ⟨vp_in_iff.mpr (by omega), ?_⟩
    refine ⟨fun h401 => ?_, fun h402 => ?_⟩
    · have := i_lo (w (f + 3) (p1).toNatClampNeg)
      have := i_hi (w (f + 3) (p1).toNatClampNeg)
      simp only [Int32.lt_iff_toInt_lt, Int32.le_iff_toInt_le, ← Int32.toInt_inj, Int32.reduceToInt] at h401
      exact k _ _ i iz_0
    · have := i_lo (w (f + 3) (p1).toNatClampNeg)
      have := i_hi (w (f + 3) (p1).toNatClampNeg)
      simp only [Int32.lt_iff_toInt_lt, Int32.le_iff_toInt_le, ← Int32.toInt_inj, Int32.reduceToInt] at h402
      exact k _ _ i iz_1

set_option maxRecDepth 20000 in
theorem ic_X0_sendsTo {Γ : Gx} {d : Nat} (hd : 4 ≤ d) (hG : GC Γ) {f : Nat} {p1 : Int32} {p2 : Int32} (hF : ShF Γ f) {κ : Ky} {w : Wd} (i : IC κ w) (hf : isF f) (h1 : 0 ≤ p1.toInt ∧ p1.toInt ≤ 4) (h2 : 0 ≤ p2.toInt ∧ p2.toInt ≤ 4) {Q : Int32 → Wd → Prop} (k : ∀ (r : Int32) (w' : Wd), IC κ w' → Q r w') : CI Γ d M_X0_sendsTo [.ref (gad Γ f), .int p1, .int p2] w Q := by
  obtain ⟨d, rfl⟩ : ∃ e, d = e + 1 := ⟨d - 1, by omega⟩
  refine con_X0_sendsTo hG hF ?_
  unfold wp_X0_sendsTo
  have zw := i.fz hf
  intro P_38
  intro cP_38
  have key : ∀ m : Nat, (∀ (s0 : Int32) (w : Wd), IC κ w → (isZ s0) → (0) < m → P_38 s0 w) := by
    intro m
    induction m with
    | zero => exact fun _ _ _ _ h => absurd h (Nat.not_lt_zero _)
    | succ m ih =>
      intro s0 w i v0 hm
      refine cP_38 _ _ ?_
      have z4 := i.fz hf
      have := i_lo p1
      have := i_hi p1
      refine ⟨vp_in_iff.mpr (by omega), ?_⟩
      refine ⟨fun h403 => ?_, fun h404 => ?_, fun h405 => ?_, fun h406 => ?_⟩
      · have := i_lo (w (f + 1) (p1).toNatClampNeg)
        have := i_hi (w (f + 1) (p1).toNatClampNeg)
        simp only [Int32.lt_iff_toInt_lt, Int32.le_iff_toInt_le, ← Int32.toInt_inj, Int32.reduceToInt] at h403
        exact k _ _ i
      · have := i_lo (w (f + 1) (p1).toNatClampNeg)
        have := i_hi (w (f + 1) (p1).toNatClampNeg)
        simp only [Int32.lt_iff_toInt_lt, Int32.le_iff_toInt_le, ← Int32.toInt_inj, Int32.reduceToInt] at h404
        refine ic_X0_inlawSends (by omega) hG hF i hf (by omega) (fun r9 w10 iw10 y407 => ?_)
        have zw10 := iw10.fz hf
        refine ⟨y407, ?_⟩
        exact k _ _ iw10
      · have := i_lo (w (f + 1) (p1).toNatClampNeg)
        have := i_hi (w (f + 1) (p1).toNatClampNeg)
        simp only [Int32.lt_iff_toInt_lt, Int32.le_iff_toInt_le, ← Int32.toInt_inj, Int32.reduceToInt] at h405
        refine ic_X0_inlawSends (by omega) hG hF i hf (by omega) (fun r11 w12 iw12 y408 => ?_)
        have zw12 := iw12.fz hf
        refine ⟨fun h409 => ?_, fun h410 => ?_⟩
        · simp only [Int32.lt_iff_toInt_lt, Int32.le_iff_toInt_le, ← Int32.toInt_inj, Int32.reduceToInt] at h409
          exact k _ _ iw12
        · simp only [Int32.lt_iff_toInt_lt, Int32.le_iff_toInt_le, ← Int32.toInt_inj, Int32.reduceToInt] at h410
          refine ⟨fun h411 => ?_, fun h412 => ?_⟩
          · have := i_lo (w12 (f + 2) (p1).toNatClampNeg)
            have := i_hi (w12 (f + 2) (p1).toNatClampNeg)
            simp only [Int32.lt_iff_toInt_lt, Int32.le_iff_toInt_le, ← Int32.toInt_inj, Int32.reduceToInt] at h411
            exact k _ _ iw12
          · have := i_lo (w12 (f + 2) (p1).toNatClampNeg)
            have := i_hi (w12 (f + 2) (p1).toNatClampNeg)
            simp only [Int32.lt_iff_toInt_lt, Int32.le_iff_toInt_le, ← Int32.toInt_inj, Int32.reduceToInt] at h412
            exact k _ _ iw12
      · have := i_lo (w (f + 1) (p1).toNatClampNeg)
        have := i_hi (w (f + 1) (p1).toNatClampNeg)
        simp only [Int32.lt_iff_toInt_lt, Int32.le_iff_toInt_le, ← Int32.toInt_inj, Int32.reduceToInt] at h406
        refine ⟨by assumption, ?_⟩
        exact k _ _ i
  have : (0 : Int32).toInt = 0 := rfl
  refine ic_X0_nameAll (by omega) hG hF i hf (by omega) (by omega) (fun w2 iw2 => ?_)
  have zw2 := iw2.fz hf
  have := i_lo (w2 f 7)
  have := i_hi (w2 f 7)
  refine ⟨vp_in_iff.mpr (by omega), ?_⟩
  have ht413 : isT (rfa textCells (w2 f 7).toNatClampNeg) := isT_rfa (tn_lt (by omega) (by omega))
  refine ⟨(ht413.sh hG.2.1), ?_⟩
  refine ic_X3_valueOf (by omega) hG (ht413.sh hG.2.1) hF.2.2.2.2.2.1 hF.2.2.2.2.2.2.1 (f := f) iw2 ht413 hf rfl ⟨by decide, by decide⟩ (fun r5 w6 iw6 => ?_)
  have zw6 := iw6.fz hf
  refine ⟨fun h414 => ?_, fun h415 => ?_⟩
  · simp only [Int32.lt_iff_toInt_lt, Int32.le_iff_toInt_le, ← Int32.toInt_inj, Int32.reduceToInt] at h414
    exact (key _) _ _ iw6 (by first | assumption | exact iz_0 | exact iz_1 | exact Or.inr rfl | exact Or.inl rfl) (Nat.lt_succ_self _)
  · simp only [Int32.lt_iff_toInt_lt, Int32.le_iff_toInt_le, ← Int32.toInt_inj, Int32.reduceToInt] at h415
    have : (1 : Int32).toInt = 1 := rfl
    exact (key _) _ _ iw6 (by first | assumption | exact iz_0 | exact iz_1 | exact Or.inr rfl | exact Or.inl rfl) (Nat.lt_succ_self _)

set_option maxRecDepth 20000 in
theorem ic_X0_motherCuts {Γ : Gx} {d : Nat} (hd : 1 ≤ d) (hG : GC Γ) {f : Nat} {p1 : Int32} {p2 : Int32} {p3 : Int32} (hF : ShF Γ f) {κ : Ky} {w : Wd} (i : IC κ w) (hf : isF f) (h1 : 0 ≤ p1.toInt ∧ p1.toInt ≤ 4) {Q : Int32 → Wd → Prop} (k : ∀ (r : Int32) (w' : Wd), IC κ w' → (isZ r) → Q r w') : CI Γ d M_X0_motherCuts [.ref (gad Γ f), .int p1, .int p2, .int p3] w Q := by
  obtain ⟨d, rfl⟩ : ∃ e, d = e + 1 := ⟨d - 1, by omega⟩
  refine con_X0_motherCuts hG hF ?_
  unfold wp_X0_motherCuts
  have zw := i.fz hf
  refine ⟨fun h416 => ?_, fun h417 => ?_⟩
  · simp only [Int32.lt_iff_toInt_lt, Int32.le_iff_toInt_le, ← Int32.toInt_inj, Int32.reduceToInt] at h416
    exact k _ _ i iz_1
  · simp only [Int32.lt_iff_toInt_lt, Int32.le_iff_toInt_le, ← Int32.toInt_inj, Int32.reduceToInt] at h417
    have := i_lo p1
    have := i_hi p1
    refine ⟨vp_in_iff.mpr (by omega), ?_⟩
    refine ⟨fun h418 => ?_, fun h419 => ?_⟩
    · simp only [Int32.lt_iff_toInt_lt, Int32.le_iff_toInt_le, ← Int32.toInt_inj, Int32.reduceToInt] at h418
      exact k _ _ i iz_0
    · simp only [Int32.lt_iff_toInt_lt, Int32.le_iff_toInt_le, ← Int32.toInt_inj, Int32.reduceToInt] at h419
      exact k _ _ i iz_1

set_option maxRecDepth 20000 in
theorem ic_X0_inlawCuts {Γ : Gx} {d : Nat} (hd : 1 ≤ d) (hG : GC Γ) {p1 : Int32} {p2 : Int32} {κ : Ky} {w : Wd} (i : IC κ w) {Q : Int32 → Wd → Prop} (k : ∀ (r : Int32) (w' : Wd), IC κ w' → (isZ r) → Q r w') : CI Γ d M_X0_inlawCuts [.int p1, .int p2] w Q := by
  obtain ⟨d, rfl⟩ : ∃ e, d = e + 1 := ⟨d - 1, by omega⟩
  refine con_X0_inlawCuts hG ?_
  unfold wp_X0_inlawCuts
  have zw := i.num
  refine ⟨fun h420 => ?_, fun h421 => ?_⟩
  · simp only [Int32.lt_iff_toInt_lt, Int32.le_iff_toInt_le, ← Int32.toInt_inj, Int32.reduceToInt] at h420
    exact k _ _ i iz_0
  · simp only [Int32.lt_iff_toInt_lt, Int32.le_iff_toInt_le, ← Int32.toInt_inj, Int32.reduceToInt] at h421
    refine ⟨fun h422 => ?_, fun h423 => ?_⟩
    · simp only [Int32.lt_iff_toInt_lt, Int32.le_iff_toInt_le, ← Int32.toInt_inj, Int32.reduceToInt] at h422
      exact k _ _ i iz_0
    · simp only [Int32.lt_iff_toInt_lt, Int32.le_iff_toInt_le, ← Int32.toInt_inj, Int32.reduceToInt] at h423
      exact k _ _ i iz_1

set_option maxRecDepth 20000 in
theorem ic_X0_cutsFor {Γ : Gx} {d : Nat} (hd : 4 ≤ d) (hG : GC Γ) {f : Nat} {p1 : Int32} {p2 : Int32} {p3 : Int32} (hF : ShF Γ f) {κ : Ky} {w : Wd} (i : IC κ w) (hf : isF f) (h1 : 0 ≤ p1.toInt ∧ p1.toInt ≤ 4) (h2 : 0 ≤ p2.toInt ∧ p2.toInt ≤ 4) {Q : Int32 → Wd → Prop} (k : ∀ (r : Int32) (w' : Wd), IC κ w' → Q r w') : CI Γ d M_X0_cutsFor [.ref (gad Γ f), .int p1, .int p2, .int p3] w Q := by
  obtain ⟨d, rfl⟩ : ∃ e, d = e + 1 := ⟨d - 1, by omega⟩
  refine con_X0_cutsFor hG hF ?_
  unfold wp_X0_cutsFor
  have zw := i.fz hf
  intro P_38
  intro cP_38
  have key : ∀ m : Nat, (∀ (s0 : Int32) (w : Wd), IC κ w → (isZ s0) → (0) < m → P_38 s0 w) := by
    intro m
    induction m with
    | zero => exact fun _ _ _ _ h => absurd h (Nat.not_lt_zero _)
    | succ m ih =>
      intro s0 w i v0 hm
      refine cP_38 _ _ ?_
      have z4 := i.fz hf
      have := i_lo p1
      have := i_hi p1
      refine ⟨vp_in_iff.mpr (by omega), ?_⟩
      refine ⟨fun h424 => ?_, fun h425 => ?_, fun h426 => ?_, fun h427 => ?_, fun h428 => ?_, fun h429 => ?_⟩
      · have := i_lo (w (f + 1) (p1).toNatClampNeg)
        have := i_hi (w (f + 1) (p1).toNatClampNeg)
        simp only [Int32.lt_iff_toInt_lt, Int32.le_iff_toInt_le, ← Int32.toInt_inj, Int32.reduceToInt] at h424
        refine ic_X0_motherCuts (by omega) hG hF i hf (by omega) (fun r9 w10 iw10 y430 => ?_)
        have zw10 := iw10.fz hf
        refine ⟨y430, ?_⟩
        exact k _ _ iw10
      · have := i_lo (w (f + 1) (p1).toNatClampNeg)
        have := i_hi (w (f + 1) (p1).toNatClampNeg)
        simp only [Int32.lt_iff_toInt_lt, Int32.le_iff_toInt_le, ← Int32.toInt_inj, Int32.reduceToInt] at h425
        refine ic_X0_inlawCuts (by omega) hG i (fun r11 w12 iw12 y431 => ?_)
        have zw12 := iw12.fz hf
        refine ⟨y431, ?_⟩
        exact k _ _ iw12
      · have := i_lo (w (f + 1) (p1).toNatClampNeg)
        have := i_hi (w (f + 1) (p1).toNatClampNeg)
        simp only [Int32.lt_iff_toInt_lt, Int32.le_iff_toInt_le, ← Int32.toInt_inj, Int32.reduceToInt] at h426
        refine ic_X0_motherCuts (by omega) hG hF i hf (by omega) (fun r13 w14 iw14 y432 => ?_)
        have zw14 := iw14.fz hf
        refine ⟨fun h433 => ?_, fun h434 => ?_⟩
        · simp only [Int32.lt_iff_toInt_lt, Int32.le_iff_toInt_le, ← Int32.toInt_inj, Int32.reduceToInt] at h433
          exact k _ _ iw14
        · simp only [Int32.lt_iff_toInt_lt, Int32.le_iff_toInt_le, ← Int32.toInt_inj, Int32.reduceToInt] at h434
          refine ⟨fun h435 => ?_, fun h436 => ?_⟩
          · simp only [Int32.lt_iff_toInt_lt, Int32.le_iff_toInt_le, ← Int32.toInt_inj, Int32.reduceToInt] at h435
            exact k _ _ iw14
          · simp only [Int32.lt_iff_toInt_lt, Int32.le_iff_toInt_le, ← Int32.toInt_inj, Int32.reduceToInt] at h436
            exact k _ _ iw14
      · have := i_lo (w (f + 1) (p1).toNatClampNeg)
        have := i_hi (w (f + 1) (p1).toNatClampNeg)
        simp only [Int32.lt_iff_toInt_lt, Int32.le_iff_toInt_le, ← Int32.toInt_inj, Int32.reduceToInt] at h427
        refine ic_X0_inlawCuts (by omega) hG i (fun r17 w18 iw18 y437 => ?_)
        have zw18 := iw18.fz hf
        refine ⟨fun h438 => ?_, fun h439 => ?_⟩
        · simp only [Int32.lt_iff_toInt_lt, Int32.le_iff_toInt_le, ← Int32.toInt_inj, Int32.reduceToInt] at h438
          exact k _ _ iw18
        · simp only [Int32.lt_iff_toInt_lt, Int32.le_iff_toInt_le, ← Int32.toInt_inj, Int32.reduceToInt] at h439
          refine ⟨fun h440 => ?_, fun h441 => ?_⟩
          · simp only [Int32.lt_iff_toInt_lt, Int32.le_iff_toInt_le, ← Int32.toInt_inj, Int32.reduceToInt] at h440
            exact k _ _ iw18
          · simp only [Int32.lt_iff_toInt_lt, Int32.le_iff_toInt_le, ← Int32.toInt_inj, Int32.reduceToInt] at h441
            refine ⟨fun h442 => ?_, fun h443 => ?_⟩
            · have := i_lo (w18 (f + 3) (p1).toNatClampNeg)
              have := i_hi (w18 (f + 3) (p1).toNatClampNeg)
              simp only [Int32.lt_iff_toInt_lt, Int32.le_iff_toInt_le, ← Int32.toInt_inj, Int32.reduceToInt] at h442
              exact k _ _ iw18
            · have := i_lo (w18 (f + 3) (p1).toNatClampNeg)
              have := i_hi (w18 (f + 3) (p1).toNatClampNeg)
              simp only [Int32.lt_iff_toInt_lt, Int32.le_iff_toInt_le, ← Int32.toInt_inj, Int32.reduceToInt] at h443
              exact k _ _ iw18
      · have := i_lo (w (f + 1) (p1).toNatClampNeg)
        have := i_hi (w (f + 1) (p1).toNatClampNeg)
        simp only [Int32.lt_iff_toInt_lt, Int32.le_iff_toInt_le, ← Int32.toInt_inj, Int32.reduceToInt] at h428
        refine ⟨fun h444 => ?_, fun h445 => ?_⟩
        · simp only [Int32.lt_iff_toInt_lt, Int32.le_iff_toInt_le, ← Int32.toInt_inj, Int32.reduceToInt] at h444
          exact k _ _ i
        · simp only [Int32.lt_iff_toInt_lt, Int32.le_iff_toInt_le, ← Int32.toInt_inj, Int32.reduceToInt] at h445
          refine ⟨fun h446 => ?_, fun h447 => ?_⟩
          · have := i_lo (w (f + 3) (p1).toNatClampNeg)
            have := i_hi (w (f + 3) (p1).toNatClampNeg)
            simp only [Int32.lt_iff_toInt_lt, Int32.le_iff_toInt_le, ← Int32.toInt_inj, Int32.reduceToInt] at h446
            exact k _ _ i
          · have := i_lo (w (f + 3) (p1).toNatClampNeg)
            have := i_hi (w (f + 3) (p1).toNatClampNeg)
            simp only [Int32.lt_iff_toInt_lt, Int32.le_iff_toInt_le, ← Int32.toInt_inj, Int32.reduceToInt] at h447
            exact k _ _ i
      · have := i_lo (w (f + 1) (p1).toNatClampNeg)
        have := i_hi (w (f + 1) (p1).toNatClampNeg)
        simp only [Int32.lt_iff_toInt_lt, Int32.le_iff_toInt_le, ← Int32.toInt_inj, Int32.reduceToInt] at h429
        refine ⟨by assumption, ?_⟩
        exact k _ _ i
  refine ic_X0_nameAll (by omega) hG hF i hf (by omega) (by omega) (fun w2 iw2 => ?_)
  have zw2 := iw2.fz hf
  have := i_lo (w2 f 7)
  have := i_hi (w2 f 7)
  refine ⟨vp_in_iff.mpr (by omega), ?_⟩
  have ht448 : isT (rfa textCells (w2 f 7).toNatClampNeg) := isT_rfa (tn_lt (by omega) (by omega))
  refine ⟨(ht448.sh hG.2.1), ?_⟩
  refine ic_X3_valueOf (by omega) hG (ht448.sh hG.2.1) hF.2.2.2.2.2.1 hF.2.2.2.2.2.2.1 (f := f) iw2 ht448 hf rfl ⟨by decide, by decide⟩ (fun r5 w6 iw6 => ?_)
  have zw6 := iw6.fz hf
  refine ⟨fun h449 => ?_, fun h450 => ?_⟩
  · simp only [Int32.lt_iff_toInt_lt, Int32.le_iff_toInt_le, ← Int32.toInt_inj, Int32.reduceToInt] at h449
    have : (0 : Int32).toInt = 0 := rfl
    exact (key _) _ _ iw6 (by first | assumption | exact iz_0 | exact iz_1 | exact Or.inr rfl | exact Or.inl rfl) (Nat.lt_succ_self _)
  · simp only [Int32.lt_iff_toInt_lt, Int32.le_iff_toInt_le, ← Int32.toInt_inj, Int32.reduceToInt] at h450
    have : (1 : Int32).toInt = 1 := rfl
    exact (key _) _ _ iw6 (by first | assumption | exact iz_0 | exact iz_1 | exact Or.inr rfl | exact Or.inl rfl) (Nat.lt_succ_self _)

set_option maxRecDepth 20000 in
theorem ic_X0_layersOf {Γ : Gx} {d : Nat} (hd : 5 ≤ d) (hG : GC Γ) {f : Nat} {p1 : Int32} {p2 : Int32} (hF : ShF Γ f) {κ : Ky} {w : Wd} (i : IC κ w) (hf : isF f) (h1 : 0 ≤ p1.toInt ∧ p1.toInt ≤ 4) (h2 : 0 ≤ p2.toInt ∧ p2.toInt ≤ 4) {Q : Int32 → Wd → Prop} (k : ∀ (r : Int32) (w' : Wd), IC κ w' → Q r w') : CI Γ d M_X0_layersOf [.ref (gad Γ f), .int p1, .int p2] w Q := by
  obtain ⟨d, rfl⟩ : ∃ e, d = e + 1 := ⟨d - 1, by omega⟩
  refine con_X0_layersOf hG hF ?_
  unfold wp_X0_layersOf
  have zw := i.fz hf
  intro P_21
  intro P_48
  intro cP_21
  intro cP_48
  have key : ∀ m : Nat, (∀ (s0 : Int32) (w : Wd), IC κ w → ((20 : Nat)) < m → P_21 s0 w) ∧ (∀ (l4 : Int32) (l5 : Int32) (w : Wd), IC κ w → (0 ≤ l5.toInt ∧ l5.toInt ≤ 8) → ((9 - l5.toInt).toNat) < m → P_48 l4 l5 w) := by
    intro m
    induction m with
    | zero => exact ⟨fun _ _ _ h => absurd h (Nat.not_lt_zero _), fun _ _ _ _ _ h => absurd h (Nat.not_lt_zero _)⟩
    | succ m ih =>
      refine ⟨?_, ?_⟩
      · intro s0 w i hm
        refine cP_21 _ _ ?_
        have z4 := i.fz hf
        refine ⟨fun h451 => ?_, fun h452 => ?_⟩
        · simp only [Int32.lt_iff_toInt_lt, Int32.le_iff_toInt_le, ← Int32.toInt_inj, Int32.reduceToInt] at h451
          exact k _ _ i
        · simp only [Int32.lt_iff_toInt_lt, Int32.le_iff_toInt_le, ← Int32.toInt_inj, Int32.reduceToInt] at h452
          refine ⟨fun h453 => ?_, fun h454 => ?_⟩
          · simp only [Int32.lt_iff_toInt_lt, Int32.le_iff_toInt_le, ← Int32.toInt_inj, Int32.reduceToInt] at h453
            exact k _ _ i
          · simp only [Int32.lt_iff_toInt_lt, Int32.le_iff_toInt_le, ← Int32.toInt_inj, Int32.reduceToInt] at h454
            refine ic_X0_sendsTo (by omega) hG hF i hf (by omega) (by omega) (fun r5 w6 iw6 => ?_)
            have zw6 := iw6.fz hf
            refine ⟨fun h455 => ?_, fun h456 => ?_⟩
            · simp only [Int32.lt_iff_toInt_lt, Int32.le_iff_toInt_le, ← Int32.toInt_inj, Int32.reduceToInt] at h455
              have : (0 : Int32).toInt = 0 := rfl
              exact ih.2 _ _ _ iw6 (by first | omega | rfl | assumption) (by omega)
            · simp only [Int32.lt_iff_toInt_lt, Int32.le_iff_toInt_le, ← Int32.toInt_inj, Int32.reduceToInt] at h456
              exact k _ _ iw6
      · intro l4 l5 w i v0 hm
        refine cP_48 _ _ _ ?_
        have z4 := i.fz hf
        refine ⟨fun h457 => ?_, fun h458 => ?_⟩
        · simp only [Int32.lt_iff_toInt_lt, Int32.le_iff_toInt_le, ← Int32.toInt_inj, Int32.reduceToInt] at h457
          exact k _ _ i
        · simp only [Int32.lt_iff_toInt_lt, Int32.le_iff_toInt_le, ← Int32.toInt_inj, Int32.reduceToInt] at h458
          refine ⟨fun h459 => ?_, fun h460 => ?_⟩
          · simp only [Int32.lt_iff_toInt_lt, Int32.le_iff_toInt_le, ← Int32.toInt_inj, Int32.reduceToInt] at h459
            have := i_lo l5
            have := i_hi l5
            have : (1 : Int32).toInt = 1 := rfl
            have := i_add (x := l5) (y := (1 : Int32)) (by omega) (by omega)
            exact ih.2 _ _ _ i (by first | omega | rfl | assumption) (by omega)
          · simp only [Int32.lt_iff_toInt_lt, Int32.le_iff_toInt_le, ← Int32.toInt_inj, Int32.reduceToInt] at h460
            refine ic_X0_cutsFor (by omega) hG hF i hf (by omega) (by omega) (fun r10 w11 iw11 => ?_)
            have zw11 := iw11.fz hf
            refine ⟨fun h461 => ?_, fun h462 => ?_⟩
            · simp only [Int32.lt_iff_toInt_lt, Int32.le_iff_toInt_le, ← Int32.toInt_inj, Int32.reduceToInt] at h461
              have := i_lo l5
              have := i_hi l5
              have : (1 : Int32).toInt = 1 := rfl
              have := i_add (x := l5) (y := (1 : Int32)) (by omega) (by omega)
              exact ih.2 _ _ _ iw11 (by first | omega | rfl | assumption) (by omega)
            · simp only [Int32.lt_iff_toInt_lt, Int32.le_iff_toInt_le, ← Int32.toInt_inj, Int32.reduceToInt] at h462
              have := i_lo l5
              have := i_hi l5
              have : (1 : Int32).toInt = 1 := rfl
              have := i_add (x := l5) (y := (1 : Int32)) (by omega) (by omega)
              exact ih.2 _ _ _ iw11 (by first | omega | rfl | assumption) (by omega)
  refine ⟨fun h463 => ?_, fun h464 => ?_⟩
  · simp only [Int32.lt_iff_toInt_lt, Int32.le_iff_toInt_le, ← Int32.toInt_inj, Int32.reduceToInt] at h463
    exact (key _).1 _ _ i (Nat.lt_succ_self _)
  · simp only [Int32.lt_iff_toInt_lt, Int32.le_iff_toInt_le, ← Int32.toInt_inj, Int32.reduceToInt] at h464
    refine ⟨fun h465 => ?_, fun h466 => ?_⟩
    · simp only [Int32.lt_iff_toInt_lt, Int32.le_iff_toInt_le, ← Int32.toInt_inj, Int32.reduceToInt] at h465
      exact (key _).1 _ _ i (Nat.lt_succ_self _)
    · simp only [Int32.lt_iff_toInt_lt, Int32.le_iff_toInt_le, ← Int32.toInt_inj, Int32.reduceToInt] at h466
      exact (key _).1 _ _ i (Nat.lt_succ_self _)

set_option maxRecDepth 20000 in
theorem ic_X0_feelsBy {Γ : Gx} {d : Nat} (hd : 4 ≤ d) (hG : GC Γ) {f : Nat} {p1 : Int32} {p2 : Int32} {p3 : Int32} (hF : ShF Γ f) {κ : Ky} {w : Wd} (i : IC κ w) (hf : isF f) (h1 : 0 ≤ p1.toInt ∧ p1.toInt ≤ 4) (h2 : 0 ≤ p2.toInt ∧ p2.toInt ≤ 4) {Q : Int32 → Wd → Prop} (k : ∀ (r : Int32) (w' : Wd), IC κ w' → Q r w') : CI Γ d M_X0_feelsBy [.ref (gad Γ f), .int p1, .int p2, .int p3] w Q := by
  obtain ⟨d, rfl⟩ : ∃ e, d = e + 1 := ⟨d - 1, by omega⟩
  refine con_X0_feelsBy hG hF ?_
  unfold wp_X0_feelsBy
  have zw := i.fz hf
  refine ic_X0_nameAll (by omega) hG hF i hf (by omega) (by omega) (fun w2 iw2 => ?_)
  have zw2 := iw2.fz hf
  have := i_lo (w2 f 7)
  have := i_hi (w2 f 7)
  refine ⟨vp_in_iff.mpr (by omega), ?_⟩
  have ht467 : isT (rfa textCells (w2 f 7).toNatClampNeg) := isT_rfa (tn_lt (by omega) (by omega))
  refine ⟨(ht467.sh hG.2.1), ?_⟩
  refine ic_X3_valueOf (by omega) hG (ht467.sh hG.2.1) hF.2.2.2.2.2.1 hF.2.2.2.2.2.2.1 (f := f) iw2 ht467 hf rfl ⟨by decide, by decide⟩ (fun r5 w6 iw6 => ?_)
  have zw6 := iw6.fz hf
  refine ic_X4_bounded (by omega) hG iw6 (fun r7 y468 => ?_)
  have := i_lo p1
  have := i_hi p1
  refine ⟨vp_in_iff.mpr (by omega), ?_⟩
  refine ⟨fun h469 => ?_, fun h470 => ?_, fun h471 => ?_, fun h472 => ?_, fun h473 => ?_, fun h474 => ?_⟩
  · have := i_lo (w6 (f + 1) (p1).toNatClampNeg)
    have := i_hi (w6 (f + 1) (p1).toNatClampNeg)
    simp only [Int32.lt_iff_toInt_lt, Int32.le_iff_toInt_le, ← Int32.toInt_inj, Int32.reduceToInt] at h469
    exact k _ _ iw6
  · have := i_lo (w6 (f + 1) (p1).toNatClampNeg)
    have := i_hi (w6 (f + 1) (p1).toNatClampNeg)
    simp only [Int32.lt_iff_toInt_lt, Int32.le_iff_toInt_le, ← Int32.toInt_inj, Int32.reduceToInt] at h470
    refine ic_X4_bounded (by omega) hG iw6 (fun r10 y475 => ?_)
    exact k _ _ iw6
  · have := i_lo (w6 (f + 1) (p1).toNatClampNeg)
    have := i_hi (w6 (f + 1) (p1).toNatClampNeg)
    simp only [Int32.lt_iff_toInt_lt, Int32.le_iff_toInt_le, ← Int32.toInt_inj, Int32.reduceToInt] at h471
    refine ic_X4_bounded (by omega) hG iw6 (fun r12 y476 => ?_)
    exact k _ _ iw6
  · have := i_lo (w6 (f + 1) (p1).toNatClampNeg)
    have := i_hi (w6 (f + 1) (p1).toNatClampNeg)
    simp only [Int32.lt_iff_toInt_lt, Int32.le_iff_toInt_le, ← Int32.toInt_inj, Int32.reduceToInt] at h472
    refine ic_X4_bounded (by omega) hG iw6 (fun r14 y477 => ?_)
    refine ic_X4_bounded (by omega) hG iw6 (fun r16 y478 => ?_)
    exact k _ _ iw6
  · have := i_lo (w6 (f + 1) (p1).toNatClampNeg)
    have := i_hi (w6 (f + 1) (p1).toNatClampNeg)
    simp only [Int32.lt_iff_toInt_lt, Int32.le_iff_toInt_le, ← Int32.toInt_inj, Int32.reduceToInt] at h473
    refine ⟨fun h479 => ?_, fun h480 => ?_⟩
    · simp only [Int32.lt_iff_toInt_lt, Int32.le_iff_toInt_le, ← Int32.toInt_inj, Int32.reduceToInt] at h479
      exact k _ _ iw6
    · simp only [Int32.lt_iff_toInt_lt, Int32.le_iff_toInt_le, ← Int32.toInt_inj, Int32.reduceToInt] at h480
      exact k _ _ iw6
  · have := i_lo (w6 (f + 1) (p1).toNatClampNeg)
    have := i_hi (w6 (f + 1) (p1).toNatClampNeg)
    simp only [Int32.lt_iff_toInt_lt, Int32.le_iff_toInt_le, ← Int32.toInt_inj, Int32.reduceToInt] at h474
    exact k _ _ iw6

set_option maxRecDepth 20000 in
theorem ic_X0_feltFrom {Γ : Gx} {d : Nat} (hd : 6 ≤ d) (hG : GC Γ) {f : Nat} {p1 : Int32} {p2 : Int32} (hF : ShF Γ f) {κ : Ky} {w : Wd} (i : IC κ w) (hf : isF f) (h1 : 0 ≤ p1.toInt ∧ p1.toInt ≤ 4) (h2 : 0 ≤ p2.toInt ∧ p2.toInt ≤ 4) {Q : Int32 → Wd → Prop} (k : ∀ (r : Int32) (w' : Wd), IC κ w' → Q r w') : CI Γ d M_X0_feltFrom [.ref (gad Γ f), .int p1, .int p2] w Q := by
  obtain ⟨d, rfl⟩ : ∃ e, d = e + 1 := ⟨d - 1, by omega⟩
  refine con_X0_feltFrom hG hF ?_
  unfold wp_X0_feltFrom
  have zw := i.fz hf
  intro P_13
  intro cP_13
  have key : ∀ m : Nat, (∀ (l3 : Int32) (l4 : Int32) (l5 : Int32) (w : Wd), IC κ w → (0 ≤ l5.toInt ∧ l5.toInt ≤ 8) → ((9 - l5.toInt).toNat) < m → P_13 l3 l4 l5 w) := by
    intro m
    induction m with
    | zero => exact fun _ _ _ _ _ _ h => absurd h (Nat.not_lt_zero _)
    | succ m ih =>
      intro l3 l4 l5 w i v0 hm
      refine cP_13 _ _ _ _ ?_
      have z4 := i.fz hf
      refine ⟨fun h481 => ?_, fun h482 => ?_⟩
      · simp only [Int32.lt_iff_toInt_lt, Int32.le_iff_toInt_le, ← Int32.toInt_inj, Int32.reduceToInt] at h481
        exact k _ _ i
      · simp only [Int32.lt_iff_toInt_lt, Int32.le_iff_toInt_le, ← Int32.toInt_inj, Int32.reduceToInt] at h482
        refine ⟨fun h483 => ?_, fun h484 => ?_⟩
        · simp only [Int32.lt_iff_toInt_lt, Int32.le_iff_toInt_le, ← Int32.toInt_inj, Int32.reduceToInt] at h483
          have := i_lo l5
          have := i_hi l5
          have : (1 : Int32).toInt = 1 := rfl
          have := i_add (x := l5) (y := (1 : Int32)) (by omega) (by omega)
          exact ih _ _ _ _ i (by first | omega | rfl | assumption) (by omega)
        · simp only [Int32.lt_iff_toInt_lt, Int32.le_iff_toInt_le, ← Int32.toInt_inj, Int32.reduceToInt] at h484
          refine ic_X0_feelsBy (by omega) hG hF i hf (by omega) (by omega) (fun r5 w6 iw6 => ?_)
          have zw6 := iw6.fz hf
          have := i_lo l5
          have := i_hi l5
          have : (1 : Int32).toInt = 1 := rfl
          have := i_add (x := l5) (y := (1 : Int32)) (by omega) (by omega)
          exact ih _ _ _ _ iw6 (by first | omega | rfl | assumption) (by omega)
  refine ic_X0_layersOf (by omega) hG hF i hf (by omega) (by omega) (fun r1 w2 iw2 => ?_)
  have zw2 := iw2.fz hf
  have : (0 : Int32).toInt = 0 := rfl
  exact (key _) _ _ _ _ iw2 (by first | omega | rfl | assumption) (Nat.lt_succ_self _)

set_option maxRecDepth 20000 in
theorem ic_X0_passSunday {Γ : Gx} {d : Nat} (hd : 7 ≤ d) (hG : GC Γ) {f : Nat} (hF : ShF Γ f) {κ : Ky} {w : Wd} (i : IC κ w) (hf : isF f) {Q : Int32 → Wd → Prop} (k : ∀ (r : Int32) (w' : Wd), IC κ w' → (isZ r) → Q r w') : CI Γ d M_X0_passSunday [.ref (gad Γ f)] w Q := by
  obtain ⟨d, rfl⟩ : ∃ e, d = e + 1 := ⟨d - 1, by omega⟩
  refine con_X0_passSunday hG hF ?_
  unfold wp_X0_passSunday
  have zw := i.fz hf
  intro P_2
  intro P_19
  intro P_58
  intro cP_2
  intro cP_19
  intro cP_58
  have key : ∀ m : Nat, (∀ (l1 : Int32) (w : Wd), IC κ w → (0 ≤ l1.toInt ∧ l1.toInt ≤ 5) → ((10 * (6 - l1.toInt) + 100).toNat) < m → P_2 l1 w) ∧ (∀ (l1 : Int32) (l2 : Int32) (w : Wd), IC κ w → (0 ≤ l1.toInt ∧ l1.toInt ≤ 4) → (0 ≤ l2.toInt ∧ l2.toInt ≤ 5) → ((10 * (6 - l1.toInt) + 99 - l2.toInt).toNat) < m → P_19 l1 l2 w) ∧ (∀ (l1 : Int32) (l2 : Int32) (w : Wd), IC κ w → (0 ≤ l2.toInt ∧ l2.toInt ≤ 5) → (isZ l1) → ((6 - l2.toInt).toNat) < m → P_58 l1 l2 w) := by
    intro m
    induction m with
    | zero => exact ⟨fun _ _ _ _ h => absurd h (Nat.not_lt_zero _), fun _ _ _ _ _ _ h => absurd h (Nat.not_lt_zero _), fun _ _ _ _ _ _ h => absurd h (Nat.not_lt_zero _)⟩
    | succ m ih =>
      refine ⟨?_, ?_, ?_⟩
      · intro l1 w i v0 hm
        refine cP_2 _ _ ?_
        have z4 := i.fz hf
        refine ⟨fun h485 => ?_, fun h486 => ?_⟩
        · simp only [Int32.lt_iff_toInt_lt, Int32.le_iff_toInt_le, ← Int32.toInt_inj, Int32.reduceToInt] at h485
          have : (0 : Int32).toInt = 0 := rfl
          exact ih.2.2 _ _ _ i (by first | omega | rfl | assumption) (by first | assumption | exact iz_0 | exact iz_1 | exact Or.inr rfl | exact Or.inl rfl) (by omega)
        · simp only [Int32.lt_iff_toInt_lt, Int32.le_iff_toInt_le, ← Int32.toInt_inj, Int32.reduceToInt] at h486
          have := i_lo l1
          have := i_hi l1
          refine ⟨vp_in_iff.mpr (by omega), ?_⟩
          intro w3 ew3
          have iw3 : IC κ w3 := ew3 ▸ IC.fam hf (by decide) (by decide) i
          have zw3 := iw3.fz hf
          have : (0 : Int32).toInt = 0 := rfl
          exact ih.2.1 _ _ _ iw3 (by first | omega | rfl | assumption) (by first | omega | rfl | assumption) (by omega)
      · intro l1 l2 w i v0 v1 hm
        refine cP_19 _ _ _ ?_
        have z4 := i.fz hf
        refine ⟨fun h487 => ?_, fun h488 => ?_⟩
        · simp only [Int32.lt_iff_toInt_lt, Int32.le_iff_toInt_le, ← Int32.toInt_inj, Int32.reduceToInt] at h487
          have := i_lo l1
          have := i_hi l1
          have : (1 : Int32).toInt = 1 := rfl
          have := i_add (x := l1) (y := (1 : Int32)) (by omega) (by omega)
          exact ih.1 _ _ i (by first | omega | rfl | assumption) (by omega)
        · simp only [Int32.lt_iff_toInt_lt, Int32.le_iff_toInt_le, ← Int32.toInt_inj, Int32.reduceToInt] at h488
          have := i_lo l1
          have := i_hi l1
          refine ⟨vp_in_iff.mpr (by omega), ?_⟩
          refine ic_X0_feltFrom (by omega) hG hF i hf (by omega) (by omega) (fun r7 w8 iw8 => ?_)
          have zw8 := iw8.fz hf
          intro w9 ew9
          have iw9 : IC κ w9 := ew9 ▸ IC.fam hf (by decide) (by decide) iw8
          have zw9 := iw9.fz hf
          have := i_lo l2
          have := i_hi l2
          have : (1 : Int32).toInt = 1 := rfl
          have := i_add (x := l2) (y := (1 : Int32)) (by omega) (by omega)
          exact ih.2.1 _ _ _ iw9 (by first | omega | rfl | assumption) (by first | omega | rfl | assumption) (by omega)
      · intro l1 l2 w i v0 v1 hm
        refine cP_58 _ _ _ ?_
        have z4 := i.fz hf
        refine ⟨fun h489 => ?_, fun h490 => ?_⟩
        · simp only [Int32.lt_iff_toInt_lt, Int32.le_iff_toInt_le, ← Int32.toInt_inj, Int32.reduceToInt] at h489
          refine ⟨by assumption, ?_⟩
          exact k _ _ i (by assumption)
        · simp only [Int32.lt_iff_toInt_lt, Int32.le_iff_toInt_le, ← Int32.toInt_inj, Int32.reduceToInt] at h490
          have := i_lo l2
          have := i_hi l2
          refine ⟨vp_in_iff.mpr (by omega), ?_⟩
          refine ic_X4_bounded (by omega) hG i (fun r13 y491 => ?_)
          refine ⟨fun h492 => ?_, fun h493 => ?_⟩
          · simp only [Int32.lt_iff_toInt_lt, Int32.le_iff_toInt_le, ← Int32.toInt_inj, Int32.reduceToInt] at h492
            intro w16 ew16
            have iw16 : IC κ w16 := ew16 ▸ IC.fam hf (by decide) (by decide) i
            have zw16 := iw16.fz hf
            have : (1 : Int32).toInt = 1 := rfl
            have := i_add (x := l2) (y := (1 : Int32)) (by omega) (by omega)
            exact ih.2.2 _ _ _ iw16 (by first | omega | rfl | assumption) (by first | assumption | exact iz_0 | exact iz_1 | exact Or.inr rfl | exact Or.inl rfl) (by omega)
          · simp only [Int32.lt_iff_toInt_lt, Int32.le_iff_toInt_le, ← Int32.toInt_inj, Int32.reduceToInt] at h493
            refine ⟨fun h494 => ?_, fun h495 => ?_⟩
            · have := i_lo (w (f + 3) (l2).toNatClampNeg)
              have := i_hi (w (f + 3) (l2).toNatClampNeg)
              simp only [Int32.lt_iff_toInt_lt, Int32.le_iff_toInt_le, ← Int32.toInt_inj, Int32.reduceToInt] at h494
              intro w19 ew19
              have iw19 : IC κ w19 := ew19 ▸ IC.fam hf (by decide) (by decide) i
              have zw19 := iw19.fz hf
              have : (0 : Int32).toInt = 0 := rfl
              have : (1 : Int32).toInt = 1 := rfl
              have := i_add (x := l2) (y := (1 : Int32)) (by omega) (by omega)
              exact ih.2.2 _ _ _ iw19 (by first | omega | rfl | assumption) (by first | assumption | exact iz_0 | exact iz_1 | exact Or.inr rfl | exact Or.inl rfl) (by omega)
            · have := i_lo (w (f + 3) (l2).toNatClampNeg)
              have := i_hi (w (f + 3) (l2).toNatClampNeg)
              simp only [Int32.lt_iff_toInt_lt, Int32.le_iff_toInt_le, ← Int32.toInt_inj, Int32.reduceToInt] at h495
              intro w21 ew21
              have iw21 : IC κ w21 := ew21 ▸ IC.fam hf (by decide) (by decide) i
              have zw21 := iw21.fz hf
              have : (1 : Int32).toInt = 1 := rfl
              have := i_add (x := l2) (y := (1 : Int32)) (by omega) (by omega)
              exact ih.2.2 _ _ _ iw21 (by first | omega | rfl | assumption) (by first | assumption | exact iz_0 | exact iz_1 | exact Or.inr rfl | exact Or.inl rfl) (by omega)
  have : (0 : Int32).toInt = 0 := rfl
  exact (key _).1 _ _ i (by first | omega | rfl | assumption) (Nat.lt_succ_self _)

set_option maxRecDepth 20000 in
theorem ic_X0_gladBehind {Γ : Gx} {d : Nat} (hd : 8 ≤ d) (hG : GC Γ) {f : Nat} {p1 : Int32} (hF : ShF Γ f) {κ : Ky} {w : Wd} (i : IC κ w) (hf : isF f) {Q : Int32 → Wd → Prop} (k : ∀ (r : Int32) (w' : Wd), IC κ w' → Q r w') : CI Γ d M_X0_gladBehind [.ref (gad Γ f), .int p1] w Q := by
  obtain ⟨d, rfl⟩ : ∃ e, d = e + 1 := ⟨d - 1, by omega⟩
  refine con_X0_gladBehind hG hF ?_
  unfold wp_X0_gladBehind
  have zw := i.fz hf
  intro P_4
  intro cP_4
  have key : ∀ m : Nat, (∀ (l2 : Int32) (l3 : Int32) (w : Wd), IC κ w → (0 ≤ l3.toInt) → ((2147483648 - l3.toInt).toNat) < m → P_4 l2 l3 w) := by
    intro m
    induction m with
    | zero => exact fun _ _ _ _ _ h => absurd h (Nat.not_lt_zero _)
    | succ m ih =>
      intro l2 l3 w i v0 hm
      refine cP_4 _ _ _ ?_
      have z4 := i.fz hf
      have hp := i_hi p1
      refine ⟨fun h496 => ?_, fun h497 => ?_⟩
      · simp only [Int32.lt_iff_toInt_lt, Int32.le_iff_toInt_le, ← Int32.toInt_inj, Int32.reduceToInt] at h496
        refine ic_X0_glad (by omega) hG hF i hf (fun r2 w3 iw3 => ?_)
        have zw3 := iw3.fz hf
        exact k _ _ iw3
      · simp only [Int32.lt_iff_toInt_lt, Int32.le_iff_toInt_le, ← Int32.toInt_inj, Int32.reduceToInt] at h497
        refine ⟨fun h498 => ?_, fun h499 => ?_⟩
        · simp only [Int32.lt_iff_toInt_lt, Int32.le_iff_toInt_le, ← Int32.toInt_inj, Int32.reduceToInt] at h498
          refine ic_X0_glad (by omega) hG hF i hf (fun r5 w6 iw6 => ?_)
          have zw6 := iw6.fz hf
          exact k _ _ iw6
        · simp only [Int32.lt_iff_toInt_lt, Int32.le_iff_toInt_le, ← Int32.toInt_inj, Int32.reduceToInt] at h499
          refine ic_X0_passSunday (by omega) hG hF i hf (fun r7 w8 iw8 y500 => ?_)
          have zw8 := iw8.fz hf
          have := i_lo l3
          have := i_hi l3
          have : (1 : Int32).toInt = 1 := rfl
          have := i_add (x := l3) (y := (1 : Int32)) (by omega) (by omega)
          exact ih _ _ _ iw8 (by first | omega | rfl | assumption) (by omega)
  have : (0 : Int32).toInt = 0 := rfl
  exact (key _) _ _ _ i (by first | omega | rfl | assumption) (Nat.lt_succ_self _)

set_option maxRecDepth 20000 in
theorem ic_X0_filledFrom {Γ : Gx} {d : Nat} (hd : 6 ≤ d) (hG : GC Γ) {f : Nat} {p1 : Int32} (hF : ShF Γ f) {κ : Ky} {w : Wd} (i : IC κ w) (hf : isF f) (h1 : 0 ≤ p1.toInt ∧ p1.toInt ≤ 4) {Q : Int32 → Wd → Prop} (k : ∀ (r : Int32) (w' : Wd), IC κ w' → Q r w') : CI Γ d M_X0_filledFrom [.ref (gad Γ f), .int p1] w Q := by
  obtain ⟨d, rfl⟩ : ∃ e, d = e + 1 := ⟨d - 1, by omega⟩
  refine con_X0_filledFrom hG hF ?_
  unfold wp_X0_filledFrom
  have zw := i.fz hf
  intro P_4
  intro cP_4
  have key : ∀ m : Nat, (∀ (l2 : Int32) (l3 : Int32) (w : Wd), IC κ w → (0 ≤ l3.toInt ∧ l3.toInt ≤ 5) → ((6 - l3.toInt).toNat) < m → P_4 l2 l3 w) := by
    intro m
    induction m with
    | zero => exact fun _ _ _ _ _ h => absurd h (Nat.not_lt_zero _)
    | succ m ih =>
      intro l2 l3 w i v0 hm
      refine cP_4 _ _ _ ?_
      have z4 := i.fz hf
      refine ⟨fun h501 => ?_, fun h502 => ?_⟩
      · simp only [Int32.lt_iff_toInt_lt, Int32.le_iff_toInt_le, ← Int32.toInt_inj, Int32.reduceToInt] at h501
        exact k _ _ i
      · simp only [Int32.lt_iff_toInt_lt, Int32.le_iff_toInt_le, ← Int32.toInt_inj, Int32.reduceToInt] at h502
        refine ic_X0_layersOf (by omega) hG hF i hf (by omega) (by omega) (fun r2 w3 iw3 => ?_)
        have zw3 := iw3.fz hf
        refine ⟨fun h503 => ?_, fun h504 => ?_⟩
        · simp only [Int32.lt_iff_toInt_lt, Int32.le_iff_toInt_le, ← Int32.toInt_inj, Int32.reduceToInt] at h503
          have := i_lo l3
          have := i_hi l3
          have : (1 : Int32).toInt = 1 := rfl
          have := i_add (x := l3) (y := (1 : Int32)) (by omega) (by omega)
          exact ih _ _ _ iw3 (by first | omega | rfl | assumption) (by omega)
        · simp only [Int32.lt_iff_toInt_lt, Int32.le_iff_toInt_le, ← Int32.toInt_inj, Int32.reduceToInt] at h504
          have := i_lo l3
          have := i_hi l3
          have : (1 : Int32).toInt = 1 := rfl
          have := i_add (x := l3) (y := (1 : Int32)) (by omega) (by omega)
          exact ih _ _ _ iw3 (by first | omega | rfl | assumption) (by omega)
  have : (0 : Int32).toInt = 0 := rfl
  exact (key _) _ _ _ i (by first | omega | rfl | assumption) (Nat.lt_succ_self _)

set_option maxRecDepth 20000 in
theorem ic_X0_emptyBehind {Γ : Gx} {d : Nat} (hd : 8 ≤ d) (hG : GC Γ) {f : Nat} {p1 : Int32} (hF : ShF Γ f) {κ : Ky} {w : Wd} (i : IC κ w) (hf : isF f) {Q : Int32 → Wd → Prop} (k : ∀ (r : Int32) (w' : Wd), IC κ w' → Q r w') : CI Γ d M_X0_emptyBehind [.ref (gad Γ f), .int p1] w Q := by
  obtain ⟨d, rfl⟩ : ∃ e, d = e + 1 := ⟨d - 1, by omega⟩
  refine con_X0_emptyBehind hG hF ?_
  unfold wp_X0_emptyBehind
  have zw := i.fz hf
  intro P_4
  intro P_12
  intro cP_4
  intro cP_12
  have key : ∀ m : Nat, (∀ (l2 : Int32) (l3 : Int32) (w : Wd), IC κ w → (0 ≤ l3.toInt) → ((10 * (2147483649 - l3.toInt)).toNat) < m → P_4 l2 l3 w) ∧ (∀ (l2 : Int32) (l3 : Int32) (l4 : Int32) (w : Wd), IC κ w → (0 ≤ l3.toInt ∧ l3.toInt < p1.toInt) → (0 ≤ l4.toInt ∧ l4.toInt ≤ 5) → ((10 * (2147483649 - l3.toInt) - 1 - l4.toInt).toNat) < m → P_12 l2 l3 l4 w) := by
    intro m
    induction m with
    | zero => exact ⟨fun _ _ _ _ _ h => absurd h (Nat.not_lt_zero _), fun _ _ _ _ _ _ _ h => absurd h (Nat.not_lt_zero _)⟩
    | succ m ih =>
      refine ⟨?_, ?_⟩
      · intro l2 l3 w i v0 hm
        refine cP_4 _ _ _ ?_
        have z4 := i.fz hf
        have hp := i_hi p1
        refine ⟨fun h505 => ?_, fun h506 => ?_⟩
        · simp only [Int32.lt_iff_toInt_lt, Int32.le_iff_toInt_le, ← Int32.toInt_inj, Int32.reduceToInt] at h505
          exact k _ _ i
        · simp only [Int32.lt_iff_toInt_lt, Int32.le_iff_toInt_le, ← Int32.toInt_inj, Int32.reduceToInt] at h506
          have : (0 : Int32).toInt = 0 := rfl
          exact ih.2 _ _ _ _ i (by first | omega | rfl | assumption) (by first | omega | rfl | assumption) (by omega)
      · intro l2 l3 l4 w i v0 v1 hm
        refine cP_12 _ _ _ _ ?_
        have z4 := i.fz hf
        have hp := i_hi p1
        refine ⟨fun h507 => ?_, fun h508 => ?_⟩
        · simp only [Int32.lt_iff_toInt_lt, Int32.le_iff_toInt_le, ← Int32.toInt_inj, Int32.reduceToInt] at h507
          refine ic_X0_passSunday (by omega) hG hF i hf (fun r3 w4 iw4 y509 => ?_)
          have zw4 := iw4.fz hf
          have := i_lo l3
          have := i_hi l3
          have : (1 : Int32).toInt = 1 := rfl
          have := i_add (x := l3) (y := (1 : Int32)) (by omega) (by omega)
          exact ih.1 _ _ _ iw4 (by first | omega | rfl | assumption) (by omega)
        · simp only [Int32.lt_iff_toInt_lt, Int32.le_iff_toInt_le, ← Int32.toInt_inj, Int32.reduceToInt] at h508
          refine ic_X0_filledFrom (by omega) hG hF i hf (by omega) (fun r5 w6 iw6 => ?_)
          have zw6 := iw6.fz hf
          have := i_lo l4
          have := i_hi l4
          have : (1 : Int32).toInt = 1 := rfl
          have := i_add (x := l4) (y := (1 : Int32)) (by omega) (by omega)
          exact ih.2 _ _ _ _ iw6 (by first | omega | rfl | assumption) (by first | omega | rfl | assumption) (by omega)
  have : (0 : Int32).toInt = 0 := rfl
  exact (key _).1 _ _ _ i (by first | omega | rfl | assumption) (Nat.lt_succ_self _)

theorem IC.sz {κ : Ky} {w : Wd} (i : IC κ w) {c : Nat} (hc : isS c) : 0 ≤ (w c 2).toInt ∧ (w c 2).toInt ≤ 40 := i.2.2.1 c hc
theorem crS1 {c j : Nat} (h : isS c) : crit (c + 1) j = false := by
  rcases h with rfl | rfl | rfl | rfl <;> rfl
theorem IC.item {κ : Ky} {w : Wd} {t j : Nat} {v : Int32} (hs : isS t) (i : IC κ w) : IC κ (wset w (t + 1) j v) := IC.slot (crS1 hs) i
theorem IC.cpy {κ : Ky} {w : Wd} {c t a b n : Nat} (hs : isS t) (i : IC κ w) : IC κ (wcpy w c (t + 1) a b n) := IC.congr (fun x y hxy => by rw [wcpy_off _ _ _ _ _ _ _ (fun h => by rw [h, crS1 hs] at hxy; cases hxy)]) i
/-- a sheet becomes a row, or missing -/
theorem IC.clear {κ : Ky} {w w' : Wd} {t : Nat} (hs : isS t) (i : IC κ w) (hk : ∀ c : Nat, c ≠ t → c ≠ t + 1 → w' c = w c) (h0 : 0 ≤ (w' t 2).toInt ∧ (w' t 2).toInt ≤ 40) : IC κ w' := by
  have ne : ∀ c : Nat, c < 24 ∨ 32 ≤ c → c ≠ t ∧ c ≠ t + 1 := fun c hc => by rcases hs with rfl | rfl | rfl | rfl <;> omega
  have hk2 : ∀ c : Nat, c < 24 ∨ 32 ≤ c → w' c = w c := fun c hc => hk c (ne c hc).1 (ne c hc).2
  refine ⟨(kC.of (by rw [hk2 0 (by omega)]) (by rw [hk2 3 (by omega)]) (hk2 4 (by omega)) (by rw [hk2 32 (by omega)]) (by rw [hk2 0 (by omega)]) (by rw [hk2 46 (by omega)])).trans i.1, ?_, fun c hc => ?_, txOK.of (fun t ht => hk2 _ (by rcases ht with rfl | rfl | rfl | rfl | rfl | rfl <;> omega)) i.2.2.2⟩
  · have n := i.2.1
    unfold numC famOK at *
    rw [hk2 0 (by omega), hk2 3 (by omega), hk2 32 (by omega), hk2 39 (by omega), hk2 46 (by omega)]
    exact n
  · by_cases e : c = t
    · rw [e]
      exact h0
    · have e2 : c ≠ t + 1 := by rcases hs with rfl | rfl | rfl | rfl <;> rcases hc with rfl | rfl | rfl | rfl <;> omega
      rw [hk c e e2]
      exact i.2.2.1 c hc
/-- the rule of the family in thought -/
theorem IC.rule39 {κ : Ky} {w : Wd} {v : Int32} (h : 0 ≤ v.toInt ∧ v.toInt ≤ 5) (i : IC κ w) : IC κ (wset w 39 7 v) := by
  refine ⟨(kC.of (ws_col (by omega)) (ws_col (by omega)) (wset_off _ _ _ _ _ (by omega)) (ws_col (by omega)) (ws_col (by omega)) (ws_col (by omega))).trans i.1, ?_, shOK.of (fun c hc => wset_off _ _ _ _ _ (isS_ne hc (by omega))) i.2.2.1, txOK.of (fun t ht => wset_off _ _ _ _ _ (isT_ne ht (by omega))) i.2.2.2⟩
  have n := i.2.1
  unfold numC famOK at *
  have e : ∀ a b : Nat, a ≠ 39 → wset w 39 7 v a b = w a b := fun a b h => ws_col h
  rw [e 32 4 (by decide), e 32 7 (by decide), ws_row (w := w) (c := 39) (j := 7) (a := 39) (b := 4) (by decide), ws_hit, e 46 4 (by decide), e 46 7 (by decide), e 0 7 (by decide), e 3 0 (by decide)]
  exact ⟨n.1, ⟨n.2.1.1, n.2.1.2.1, h⟩, n.2.2⟩
theorem isS.sh {Γ : Gx} (h : ShC Γ) {t : Nat} (ht : isS t) : ShS Γ t := by
  rcases ht with rfl | rfl | rfl | rfl
  · exact ShC.s h 0 (by decide)
  · exact ShC.s h 1 (by decide)
  · exact ShC.s h 2 (by decide)
  · exact ShC.s h 3 (by decide)
set_option maxRecDepth 20000 in
theorem ic_clear {Γ : Gx} {d : Nat} (hd : 1 ≤ d) (hG : GC Γ) {t : Nat} {p1 p2 : Int32} (hs : isS t) (h0 : 0 ≤ p2.toInt ∧ p2.toInt ≤ 40) {κ : Ky} {w : Wd} (i : IC κ w) {Q : Wd → Prop} (k : ∀ w' : Wd, IC κ w' → w' t 2 = p2 → Q w') : CV Γ d M_X2_clear [.ref (gad Γ t), .int p1, .int p2] w Q :=
  cs_X2_clear hd hG (hs.sh hG.2.1) (fun w' hk _ h2 => k w' (i.clear hs hk (by rw [h2]; exact h0)) h2)

set_option maxRecDepth 20000 in
theorem ic_X2_put {Γ : Gx} {d : Nat} (hd : 1 ≤ d) (hG : GC Γ) {t : Nat} {p1 : Int32} {p2 : Int32} (hT : ShS Γ t) {κ : Ky} {w : Wd} (i : IC κ w) (hS : isS t) (h1 : 0 ≤ p1.toInt ∧ p1.toInt ≤ 39) {Q : Wd → Prop} (k : ∀ (w' : Wd), IC κ w' → (w' t 2 = w t 2) → Q w') : CV Γ d M_X2_put [.ref (gad Γ t), .int p1, .int p2] w Q := by
  obtain ⟨d, rfl⟩ : ∃ e, d = e + 1 := ⟨d - 1, by omega⟩
  refine con_X2_put hG hT ?_
  unfold wp_X2_put
  refine ⟨fun h510 => ?_, fun h511 => ?_, fun h512 => ?_⟩
  · simp only [Int32.lt_iff_toInt_lt, Int32.le_iff_toInt_le, ← Int32.toInt_inj, Int32.reduceToInt] at h510
    have := i_lo p1
    have := i_hi p1
    refine ⟨vp_in_iff.mpr (by omega), ?_⟩
    intro w2 ew2
    have iw2 : IC κ w2 := ew2 ▸ IC.item hS i
    exact k _ iw2 (by rw [ew2]; exact ws_col (by omega))
  · simp only [Int32.lt_iff_toInt_lt, Int32.le_iff_toInt_le, ← Int32.toInt_inj, Int32.reduceToInt] at h511
    have := i_lo p1
    have := i_hi p1
    refine ⟨vp_in_iff.mpr (by omega), ?_⟩
    intro w5 ew5
    have iw5 : IC κ w5 := ew5 ▸ IC.item hS i
    exact k _ iw5 (by rw [ew5]; exact ws_col (by omega))
  · simp only [Int32.lt_iff_toInt_lt, Int32.le_iff_toInt_le, ← Int32.toInt_inj, Int32.reduceToInt] at h512
    have := i_lo p1
    have := i_hi p1
    refine ⟨vp_in_iff.mpr (by omega), ?_⟩
    intro w8 ew8
    have iw8 : IC κ w8 := ew8 ▸ IC.item hS i
    exact k _ iw8 (by rw [ew8]; exact ws_col (by omega))

set_option maxRecDepth 20000 in
theorem ic_X0_layersTo {Γ : Gx} {d : Nat} (hd : 6 ≤ d) (hG : GC Γ) {f : Nat} {p1 : Int32} (hF : ShF Γ f) {κ : Ky} {w : Wd} (i : IC κ w) (hf : isF f) (h1 : 0 ≤ p1.toInt ∧ p1.toInt ≤ 4) {Q : Int32 → Wd → Prop} (k : ∀ (r : Int32) (w' : Wd), IC κ w' → Q r w') : CI Γ d M_X0_layersTo [.ref (gad Γ f), .int p1] w Q := by
  obtain ⟨d, rfl⟩ : ∃ e, d = e + 1 := ⟨d - 1, by omega⟩
  refine con_X0_layersTo hG hF ?_
  unfold wp_X0_layersTo
  have zw := i.fz hf
  intro P_4
  intro cP_4
  have key : ∀ m : Nat, (∀ (l2 : Int32) (l3 : Int32) (w : Wd), IC κ w → (0 ≤ l3.toInt ∧ l3.toInt ≤ 5) → ((6 - l3.toInt).toNat) < m → P_4 l2 l3 w) := by
    intro m
    induction m with
    | zero => exact fun _ _ _ _ _ h => absurd h (Nat.not_lt_zero _)
    | succ m ih =>
      intro l2 l3 w i v0 hm
      refine cP_4 _ _ _ ?_
      have z4 := i.fz hf
      refine ⟨fun h513 => ?_, fun h514 => ?_⟩
      · simp only [Int32.lt_iff_toInt_lt, Int32.le_iff_toInt_le, ← Int32.toInt_inj, Int32.reduceToInt] at h513
        exact k _ _ i
      · simp only [Int32.lt_iff_toInt_lt, Int32.le_iff_toInt_le, ← Int32.toInt_inj, Int32.reduceToInt] at h514
        refine ic_X0_layersOf (by omega) hG hF i hf (by omega) (by omega) (fun r2 w3 iw3 => ?_)
        have zw3 := iw3.fz hf
        refine cs_bitCount (by omega) hG (fun r4 _ => ?_)
        have := i_lo l3
        have := i_hi l3
        have : (1 : Int32).toInt = 1 := rfl
        have := i_add (x := l3) (y := (1 : Int32)) (by omega) (by omega)
        exact ih _ _ _ iw3 (by first | omega | rfl | assumption) (by omega)
  have : (0 : Int32).toInt = 0 := rfl
  exact (key _) _ _ _ i (by first | omega | rfl | assumption) (Nat.lt_succ_self _)

set_option maxRecDepth 20000 in
theorem ic_X0_lettuceCount {Γ : Gx} {d : Nat} (hd : 7 ≤ d) (hG : GC Γ) {f : Nat} (hF : ShF Γ f) {κ : Ky} {w : Wd} (i : IC κ w) (hf : isF f) {Q : Int32 → Wd → Prop} (k : ∀ (r : Int32) (w' : Wd), IC κ w' → Q r w') : CI Γ d M_X0_lettuceCount [.ref (gad Γ f)] w Q := by
  obtain ⟨d, rfl⟩ : ∃ e, d = e + 1 := ⟨d - 1, by omega⟩
  refine con_X0_lettuceCount hG hF ?_
  unfold wp_X0_lettuceCount
  have zw := i.fz hf
  intro P_4
  intro P_14
  intro cP_4
  intro cP_14
  have key : ∀ m : Nat, (∀ (l1 : Int32) (l2 : Int32) (w : Wd), IC κ w → (0 ≤ l2.toInt ∧ l2.toInt ≤ 5) → ((10 * (7 - l2.toInt)).toNat) < m → P_4 l1 l2 w) ∧ (∀ (l1 : Int32) (l2 : Int32) (l3 : Int32) (w : Wd), IC κ w → (0 ≤ l2.toInt ∧ l2.toInt ≤ 4) → (0 ≤ l3.toInt ∧ l3.toInt ≤ 5) → ((10 * (7 - l2.toInt) - 1 - l3.toInt).toNat) < m → P_14 l1 l2 l3 w) := by
    intro m
    induction m with
    | zero => exact ⟨fun _ _ _ _ _ h => absurd h (Nat.not_lt_zero _), fun _ _ _ _ _ _ _ h => absurd h (Nat.not_lt_zero _)⟩
    | succ m ih =>
      refine ⟨?_, ?_⟩
      · intro l1 l2 w i v0 hm
        refine cP_4 _ _ _ ?_
        have z4 := i.fz hf
        refine ⟨fun h515 => ?_, fun h516 => ?_⟩
        · simp only [Int32.lt_iff_toInt_lt, Int32.le_iff_toInt_le, ← Int32.toInt_inj, Int32.reduceToInt] at h515
          exact k _ _ i
        · simp only [Int32.lt_iff_toInt_lt, Int32.le_iff_toInt_le, ← Int32.toInt_inj, Int32.reduceToInt] at h516
          have : (0 : Int32).toInt = 0 := rfl
          exact ih.2 _ _ _ _ i (by first | omega | rfl | assumption) (by first | omega | rfl | assumption) (by omega)
      · intro l1 l2 l3 w i v0 v1 hm
        refine cP_14 _ _ _ _ ?_
        have z4 := i.fz hf
        refine ⟨fun h517 => ?_, fun h518 => ?_⟩
        · simp only [Int32.lt_iff_toInt_lt, Int32.le_iff_toInt_le, ← Int32.toInt_inj, Int32.reduceToInt] at h517
          have := i_lo l2
          have := i_hi l2
          have : (1 : Int32).toInt = 1 := rfl
          have := i_add (x := l2) (y := (1 : Int32)) (by omega) (by omega)
          exact ih.1 _ _ _ i (by first | omega | rfl | assumption) (by omega)
        · simp only [Int32.lt_iff_toInt_lt, Int32.le_iff_toInt_le, ← Int32.toInt_inj, Int32.reduceToInt] at h518
          refine ic_X0_layersOf (by omega) hG hF i hf (by omega) (by omega) (fun r3 w4 iw4 => ?_)
          have zw4 := iw4.fz hf
          refine ⟨fun h519 => ?_, fun h520 => ?_⟩
          · simp only [Int32.lt_iff_toInt_lt, Int32.le_iff_toInt_le, ← Int32.toInt_inj, Int32.reduceToInt] at h519
            have := i_lo l3
            have := i_hi l3
            have : (1 : Int32).toInt = 1 := rfl
            have := i_add (x := l3) (y := (1 : Int32)) (by omega) (by omega)
            exact ih.2 _ _ _ _ iw4 (by first | omega | rfl | assumption) (by first | omega | rfl | assumption) (by omega)
          · simp only [Int32.lt_iff_toInt_lt, Int32.le_iff_toInt_le, ← Int32.toInt_inj, Int32.reduceToInt] at h520
            have := i_lo l3
            have := i_hi l3
            have : (1 : Int32).toInt = 1 := rfl
            have := i_add (x := l3) (y := (1 : Int32)) (by omega) (by omega)
            exact ih.2 _ _ _ _ iw4 (by first | omega | rfl | assumption) (by first | omega | rfl | assumption) (by omega)
  have : (0 : Int32).toInt = 0 := rfl
  exact (key _).1 _ _ _ i (by first | omega | rfl | assumption) (Nat.lt_succ_self _)

set_option maxRecDepth 20000 in
theorem ic_X0_lettuceFirst {Γ : Gx} {d : Nat} (hd : 7 ≤ d) (hG : GC Γ) {f : Nat} (hF : ShF Γ f) {κ : Ky} {w : Wd} (i : IC κ w) (hf : isF f) {Q : Int32 → Wd → Prop} (k : ∀ (r : Int32) (w' : Wd), IC κ w' → Q r w') : CI Γ d M_X0_lettuceFirst [.ref (gad Γ f)] w Q := by
  obtain ⟨d, rfl⟩ : ∃ e, d = e + 1 := ⟨d - 1, by omega⟩
  refine con_X0_lettuceFirst hG hF ?_
  unfold wp_X0_lettuceFirst
  have zw := i.fz hf
  intro P_2
  intro P_12
  intro cP_2
  intro cP_12
  have key : ∀ m : Nat, (∀ (l1 : Int32) (w : Wd), IC κ w → (0 ≤ l1.toInt ∧ l1.toInt ≤ 5) → ((10 * (7 - l1.toInt)).toNat) < m → P_2 l1 w) ∧ (∀ (l1 : Int32) (l2 : Int32) (w : Wd), IC κ w → (0 ≤ l1.toInt ∧ l1.toInt ≤ 4) → (0 ≤ l2.toInt ∧ l2.toInt ≤ 5) → ((10 * (7 - l1.toInt) - 1 - l2.toInt).toNat) < m → P_12 l1 l2 w) := by
    intro m
    induction m with
    | zero => exact ⟨fun _ _ _ _ h => absurd h (Nat.not_lt_zero _), fun _ _ _ _ _ _ h => absurd h (Nat.not_lt_zero _)⟩
    | succ m ih =>
      refine ⟨?_, ?_⟩
      · intro l1 w i v0 hm
        refine cP_2 _ _ ?_
        have z4 := i.fz hf
        refine ⟨fun h521 => ?_, fun h522 => ?_⟩
        · simp only [Int32.lt_iff_toInt_lt, Int32.le_iff_toInt_le, ← Int32.toInt_inj, Int32.reduceToInt] at h521
          exact k _ _ i
        · simp only [Int32.lt_iff_toInt_lt, Int32.le_iff_toInt_le, ← Int32.toInt_inj, Int32.reduceToInt] at h522
          have : (0 : Int32).toInt = 0 := rfl
          exact ih.2 _ _ _ i (by first | omega | rfl | assumption) (by first | omega | rfl | assumption) (by omega)
      · intro l1 l2 w i v0 v1 hm
        refine cP_12 _ _ _ ?_
        have z4 := i.fz hf
        refine ⟨fun h523 => ?_, fun h524 => ?_⟩
        · simp only [Int32.lt_iff_toInt_lt, Int32.le_iff_toInt_le, ← Int32.toInt_inj, Int32.reduceToInt] at h523
          have := i_lo l1
          have := i_hi l1
          have : (1 : Int32).toInt = 1 := rfl
          have := i_add (x := l1) (y := (1 : Int32)) (by omega) (by omega)
          exact ih.1 _ _ i (by first | omega | rfl | assumption) (by omega)
        · simp only [Int32.lt_iff_toInt_lt, Int32.le_iff_toInt_le, ← Int32.toInt_inj, Int32.reduceToInt] at h524
          refine ic_X0_layersOf (by omega) hG hF i hf (by omega) (by omega) (fun r3 w4 iw4 => ?_)
          have zw4 := iw4.fz hf
          refine ⟨fun h525 => ?_, fun h526 => ?_⟩
          · simp only [Int32.lt_iff_toInt_lt, Int32.le_iff_toInt_le, ← Int32.toInt_inj, Int32.reduceToInt] at h525
            have := i_lo l2
            have := i_hi l2
            have : (1 : Int32).toInt = 1 := rfl
            have := i_add (x := l2) (y := (1 : Int32)) (by omega) (by omega)
            exact ih.2 _ _ _ iw4 (by first | omega | rfl | assumption) (by first | omega | rfl | assumption) (by omega)
          · simp only [Int32.lt_iff_toInt_lt, Int32.le_iff_toInt_le, ← Int32.toInt_inj, Int32.reduceToInt] at h526
            exact k _ _ iw4
  have : (0 : Int32).toInt = 0 := rfl
  exact (key _).1 _ _ i (by first | omega | rfl | assumption) (Nat.lt_succ_self _)

set_option maxRecDepth 20000 in
theorem ic_X0_leftAlone {Γ : Gx} {d : Nat} (hd : 8 ≤ d) (hG : GC Γ) {f : Nat} (hF : ShF Γ f) {κ : Ky} {w : Wd} (i : IC κ w) (hf : isF f) {Q : Int32 → Wd → Prop} (k : ∀ (r : Int32) (w' : Wd), IC κ w' → Q r w') : CI Γ d M_X0_leftAlone [.ref (gad Γ f)] w Q := by
  obtain ⟨d, rfl⟩ : ∃ e, d = e + 1 := ⟨d - 1, by omega⟩
  refine con_X0_leftAlone hG hF ?_
  unfold wp_X0_leftAlone
  have zw := i.fz hf
  intro P_4
  intro cP_4
  have key : ∀ m : Nat, (∀ (l1 : Int32) (l2 : Int32) (w : Wd), IC κ w → (0 ≤ l2.toInt ∧ l2.toInt ≤ 5) → ((6 - l2.toInt).toNat) < m → P_4 l1 l2 w) := by
    intro m
    induction m with
    | zero => exact fun _ _ _ _ _ h => absurd h (Nat.not_lt_zero _)
    | succ m ih =>
      intro l1 l2 w i v0 hm
      refine cP_4 _ _ _ ?_
      have z4 := i.fz hf
      refine ⟨fun h527 => ?_, fun h528 => ?_⟩
      · simp only [Int32.lt_iff_toInt_lt, Int32.le_iff_toInt_le, ← Int32.toInt_inj, Int32.reduceToInt] at h527
        exact k _ _ i
      · simp only [Int32.lt_iff_toInt_lt, Int32.le_iff_toInt_le, ← Int32.toInt_inj, Int32.reduceToInt] at h528
        refine ic_X0_layersTo (by omega) hG hF i hf (by omega) (fun r2 w3 iw3 => ?_)
        have zw3 := iw3.fz hf
        refine ⟨fun h529 => ?_, fun h530 => ?_⟩
        · simp only [Int32.lt_iff_toInt_lt, Int32.le_iff_toInt_le, ← Int32.toInt_inj, Int32.reduceToInt] at h529
          have := i_lo l2
          have := i_hi l2
          have : (1 : Int32).toInt = 1 := rfl
          have := i_add (x := l2) (y := (1 : Int32)) (by omega) (by omega)
          exact ih _ _ _ iw3 (by first | omega | rfl | assumption) (by omega)
        · simp only [Int32.lt_iff_toInt_lt, Int32.le_iff_toInt_le, ← Int32.toInt_inj, Int32.reduceToInt] at h530
          have := i_lo l2
          have := i_hi l2
          have : (1 : Int32).toInt = 1 := rfl
          have := i_add (x := l2) (y := (1 : Int32)) (by omega) (by omega)
          exact ih _ _ _ iw3 (by first | omega | rfl | assumption) (by omega)
  have : (0 : Int32).toInt = 0 := rfl
  exact (key _) _ _ _ i (by first | omega | rfl | assumption) (Nat.lt_succ_self _)

set_option maxRecDepth 20000 in
theorem ic_X0_firstOtherwise {Γ : Gx} {d : Nat} (hd : 8 ≤ d) (hG : GC Γ) {f : Nat} {a1 : Nat} {p2 : Int32} (hF : ShF Γ f) (ha1 : ShS Γ a1) {κ : Ky} {w : Wd} (i : IC κ w) (hf : isF f) (hS : isS a1) (h2 : 0 ≤ p2.toInt ∧ p2.toInt ≤ 4) {Q : Int32 → Wd → Prop} (k : ∀ (r : Int32) (w' : Wd), IC κ w' → Q r w') : CI Γ d M_X0_firstOtherwise [.ref (gad Γ f), .ref (gad Γ a1), .int p2] w Q := by
  obtain ⟨d, rfl⟩ : ∃ e, d = e + 1 := ⟨d - 1, by omega⟩
  refine con_X0_firstOtherwise hG hF ha1 ?_
  unfold wp_X0_firstOtherwise
  have zw := i.fz hf
  intro P_2
  intro cP_2
  have key : ∀ m : Nat, (∀ (l3 : Int32) (w : Wd), IC κ w → (0 ≤ l3.toInt ∧ l3.toInt ≤ 40) → ((41 - l3.toInt).toNat) < m → P_2 l3 w) := by
    intro m
    induction m with
    | zero => exact fun _ _ _ _ h => absurd h (Nat.not_lt_zero _)
    | succ m ih =>
      intro l3 w i v0 hm
      refine cP_2 _ _ ?_
      have z4 := i.fz hf
      have zs := i.sz hS
      refine ⟨fun h531 => ?_, fun h532 => ?_⟩
      · simp only [Int32.lt_iff_toInt_lt, Int32.le_iff_toInt_le, ← Int32.toInt_inj, Int32.reduceToInt] at h531
        exact k _ _ i
      · simp only [Int32.lt_iff_toInt_lt, Int32.le_iff_toInt_le, ← Int32.toInt_inj, Int32.reduceToInt] at h532
        refine ic_X0_passSunday (by omega) hG hF i hf (fun r2 w3 iw3 y533 => ?_)
        have zw3 := iw3.fz hf
        have := i_lo l3
        have := i_hi l3
        refine ⟨vp_in_iff.mpr (by omega), ?_⟩
        have := i_lo p2
        have := i_hi p2
        refine ⟨vp_in_iff.mpr (by omega), ?_⟩
        refine ⟨fun h534 => ?_, fun h535 => ?_⟩
        · have := i_lo (w3 (a1 + 1) (l3).toNatClampNeg)
          have := i_hi (w3 (a1 + 1) (l3).toNatClampNeg)
          have := i_lo (w3 (f + 3) (p2).toNatClampNeg)
          have := i_hi (w3 (f + 3) (p2).toNatClampNeg)
          simp only [Int32.lt_iff_toInt_lt, Int32.le_iff_toInt_le, ← Int32.toInt_inj, Int32.reduceToInt] at h534
          have : (1 : Int32).toInt = 1 := rfl
          have := i_add (x := l3) (y := (1 : Int32)) (by omega) (by omega)
          exact ih _ _ iw3 (by first | omega | rfl | assumption) (by omega)
        · have := i_lo (w3 (a1 + 1) (l3).toNatClampNeg)
          have := i_hi (w3 (a1 + 1) (l3).toNatClampNeg)
          have := i_lo (w3 (f + 3) (p2).toNatClampNeg)
          have := i_hi (w3 (f + 3) (p2).toNatClampNeg)
          simp only [Int32.lt_iff_toInt_lt, Int32.le_iff_toInt_le, ← Int32.toInt_inj, Int32.reduceToInt] at h535
          exact k _ _ iw3
  have : (0 : Int32).toInt = 0 := rfl
  exact (key _) _ _ i (by first | omega | rfl | assumption) (Nat.lt_succ_self _)

set_option maxRecDepth 20000 in
theorem ic_X4_sharedDivisor {Γ : Gx} {d : Nat} (hd : 1 ≤ d) (hG : GC Γ) {p1 p2 : Int32} {w : Wd} {Q : Int32 → Wd → Prop} (k : ∀ r : Int32, ¬ r = 0 → Q r w) : CI Γ d M_X4_sharedDivisor [.int p1, .int p2] w Q := by
  obtain ⟨d, rfl⟩ : ∃ e, d = e + 1 := ⟨d - 1, by omega⟩
  refine con_X4_sharedDivisor hG ?_
  unfold wp_X4_sharedDivisor
  intro P c
  have key : ∀ (m : Nat) (l2 : Int32), l2.toInt.toNat < m → P l2 w := by
    intro m
    induction m with
    | zero => exact fun _ h => absurd h (Nat.not_lt_zero _)
    | succ m ih =>
      intro l2 hm
      refine c _ _ ⟨fun _ => k _ (by decide), fun h => ?_⟩
      simp only [Int32.le_iff_toInt_le, Int32.reduceToInt] at h
      have ne : ¬ l2 = 0 := fun q => by
        rw [q] at h
        exact h (by decide)
      have e := i_dec (x := l2) (by omega)
      have go : P (l2 + (-1)) w := ih _ (by rw [e]; omega)
      exact ⟨ne, fun _ => go, fun _ => ⟨ne, fun _ => go, fun _ => k _ ne⟩⟩
  exact key _ _ (Nat.lt_succ_self _)

set_option maxRecDepth 20000 in
theorem ic_X4_set {Γ : Gx} {d : Nat} (hd : 4 ≤ d) (hG : GC Γ) {p1 : Int32} {p2 : Int32} {p3 : Int32} {κ : Ky} {w : Wd} (i : IC κ w) {Q : Int32 → Wd → Prop} (k : ∀ (r : Int32) (w' : Wd), IC κ w' → Q r w') : CI Γ d M_X4_set [.ref (gad Γ 0), .int p1, .int p2, .int p3] w Q := by
  obtain ⟨d, rfl⟩ : ∃ e, d = e + 1 := ⟨d - 1, by omega⟩
  refine con_X4_set hG ?_
  unfold wp_X4_set
  have zw := i.num
  refine cs_X4_isIn (by omega) hG (lo := 0) (hi := 3) rfl rfl (fun r1 z536 y537 => ?_)
  refine ⟨fun h538 => ?_, fun h539 => ?_⟩
  · have h538 : ¬ _ := fun q => y537.mpr q h538
    exact k _ _ i
  · have h539 := y537.mp h539
    refine cs_X4_isThere (by omega) hG (by omega) (fun r4 y540 y541 => ?_)
    refine ⟨fun h542 => ?_, fun h543 => ?_⟩
    · have h542 : ¬ _ := fun q => y541.mpr q h542
      exact k _ _ i
    · have h543 := y541.mp h543
      refine cs_X4_fits (by omega) hG (fun r7 y544 y545 => ?_)
      refine ⟨fun h546 => ?_, fun h547 => ?_⟩
      · have h546 := y545.mp h546
        refine cs_X4_plainly (by omega) hG (by omega) (fun r10 _ _ => ?_)
        refine ⟨fun h548 => ?_, fun h549 => ?_, fun h550 => ?_, fun h551 => ?_⟩
        · simp only [Int32.lt_iff_toInt_lt, Int32.le_iff_toInt_le, ← Int32.toInt_inj, Int32.reduceToInt] at h548
          intro w12 ew12
          have iw12 : IC κ w12 := ew12 ▸ IC.slot rfl i
          have zw12 := iw12.num
          exact k _ _ iw12
        · simp only [Int32.lt_iff_toInt_lt, Int32.le_iff_toInt_le, ← Int32.toInt_inj, Int32.reduceToInt] at h549
          intro w14 ew14
          have iw14 : IC κ w14 := ew14 ▸ IC.slot rfl i
          have zw14 := iw14.num
          exact k _ _ iw14
        · simp only [Int32.lt_iff_toInt_lt, Int32.le_iff_toInt_le, ← Int32.toInt_inj, Int32.reduceToInt] at h550
          have := i_lo p2
          have := i_hi p2
          refine ⟨vp_in_iff.mpr (by omega), ?_⟩
          intro w17 ew17
          have iw17 : IC κ w17 := ew17 ▸ IC.fam (f := 32) (m := 2) (Or.inl rfl) (by decide) (by decide) i
          have zw17 := iw17.num
          exact k _ _ iw17
        · simp only [Int32.lt_iff_toInt_lt, Int32.le_iff_toInt_le, ← Int32.toInt_inj, Int32.reduceToInt] at h551
          have := i_lo p2
          have := i_hi p2
          refine ⟨vp_in_iff.mpr (by omega), ?_⟩
          intro w20 ew20
          have iw20 : IC κ w20 := ew20 ▸ IC.fam (f := 32) (m := 3) (Or.inl rfl) (by decide) (by decide) i
          have zw20 := iw20.num
          exact k _ _ iw20
      · have h547 : ¬ _ := fun q => y545.mpr q h547
        exact k _ _ i

set_option maxRecDepth 20000 in
theorem ic_X4_person {Γ : Gx} {d : Nat} (hd : 2 ≤ d) (hG : GC Γ) {p1 : Int32} {p2 : Int32} {κ : Ky} {w : Wd} (i : IC κ w) {Q : Int32 → Wd → Prop} (k : ∀ (r : Int32) (w' : Wd), IC κ w' → Q r w') : CI Γ d M_X4_person [.ref (gad Γ 0), .int p1, .int p2] w Q := by
  obtain ⟨d, rfl⟩ : ∃ e, d = e + 1 := ⟨d - 1, by omega⟩
  refine con_X4_person hG ?_
  unfold wp_X4_person
  have zw := i.num
  refine cs_X4_isIn (by omega) hG (lo := 0) (hi := 5) rfl rfl (fun r1 z552 y553 => ?_)
  refine ⟨fun h554 => ?_, fun h555 => ?_⟩
  · have h554 : ¬ _ := fun q => y553.mpr q h554
    exact k _ _ i
  · have h555 := y553.mp h555
    refine cs_X4_isIn (by omega) hG (lo := 0) (hi := 9) rfl rfl (fun r4 z556 y557 => ?_)
    refine ⟨fun h558 => ?_, fun h559 => ?_⟩
    · have h558 := y557.mp h558
      refine ic_takeIn (by omega) hG (ShC.f32 hG.2.1) (Or.inl rfl) i (fun r7 w8 iw8 => ?_)
      have zw8 := iw8.num
      exact k _ _ iw8
    · have h559 : ¬ _ := fun q => y557.mpr q h559
      exact k _ _ i

set_option maxRecDepth 20000 in
theorem ic_X4_told {Γ : Gx} {d : Nat} (hd : 8 ≤ d) (hG : GC Γ) {p1 : Int32} {p2 : Int32} {κ : Ky} {w : Wd} (i : IC κ w) {Q : Int32 → Wd → Prop} (k : ∀ (r : Int32) (w' : Wd), IC κ w' → Q r w') : CI Γ d M_X4_told [.ref (gad Γ 0), .int p1, .int p2] w Q := by
  obtain ⟨d, rfl⟩ : ∃ e, d = e + 1 := ⟨d - 1, by omega⟩
  refine con_X4_told hG ?_
  unfold wp_X4_told
  have zw := i.num
  refine cs_X4_isIn (by omega) hG (lo := 0) (hi := 7) rfl rfl (fun r1 z560 y561 => ?_)
  refine ⟨fun h562 => ?_, fun h563 => ?_⟩
  · have h562 : ¬ _ := fun q => y561.mpr q h562
    exact k _ _ i
  · have h563 := y561.mp h563
    refine cs_X4_isThere (by omega) hG (by omega) (fun r4 y564 y565 => ?_)
    refine ⟨fun h566 => ?_, fun h567 => ?_⟩
    · have h566 := y565.mp h566
      refine ⟨fun h568 => ?_, fun h569 => ?_, fun h570 => ?_, fun h571 => ?_, fun h572 => ?_⟩
      · simp only [Int32.lt_iff_toInt_lt, Int32.le_iff_toInt_le, ← Int32.toInt_inj, Int32.reduceToInt] at h568
        have := i_lo p1
        have := i_hi p1
        refine ⟨vp_in_iff.mpr (by omega), ?_⟩
        exact k _ _ i
      · simp only [Int32.lt_iff_toInt_lt, Int32.le_iff_toInt_le, ← Int32.toInt_inj, Int32.reduceToInt] at h569
        have : (32 : Int32).toInt = 32 := rfl
        refine ic_X0_filledFrom (by omega) hG (ShC.f32 hG.2.1) i (Or.inl rfl) (by omega) (fun r8 w9 iw9 => ?_)
        have zw9 := iw9.num
        exact k _ _ iw9
      · simp only [Int32.lt_iff_toInt_lt, Int32.le_iff_toInt_le, ← Int32.toInt_inj, Int32.reduceToInt] at h570
        have : (32 : Int32).toInt = 32 := rfl
        refine ic_X0_layersTo (by omega) hG (ShC.f32 hG.2.1) i (Or.inl rfl) (by omega) (fun r10 w11 iw11 => ?_)
        have zw11 := iw11.num
        exact k _ _ iw11
      · simp only [Int32.lt_iff_toInt_lt, Int32.le_iff_toInt_le, ← Int32.toInt_inj, Int32.reduceToInt] at h571
        refine ic_like39 (by omega) hG i (fun w13 iw13 lw13 => ?_)
        have zw13 := iw13.num
        refine ic_X0_passSunday (by omega) hG (ShC.f39 hG.2.1) iw13 (Or.inr (Or.inl rfl)) (fun r14 w15 iw15 y573 => ?_)
        have zw15 := iw15.num
        have := i_lo p1
        have := i_hi p1
        refine ⟨vp_in_iff.mpr (by omega), ?_⟩
        exact k _ _ iw15
      · simp only [Int32.lt_iff_toInt_lt, Int32.le_iff_toInt_le, ← Int32.toInt_inj, Int32.reduceToInt] at h572
        refine cs_X4_plainly (by omega) hG (by omega) (fun r17 _ _ => ?_)
        exact k _ _ i
    · have h567 : ¬ _ := fun q => y565.mpr q h567
      exact k _ _ i

set_option maxRecDepth 20000 in
theorem ic_X4_sandwich {Γ : Gx} {d : Nat} (hd : 7 ≤ d) (hG : GC Γ) {p1 : Int32} {p2 : Int32} {p3 : Int32} {κ : Ky} {w : Wd} (i : IC κ w) {Q : Int32 → Wd → Prop} (k : ∀ (r : Int32) (w' : Wd), IC κ w' → Q r w') : CI Γ d M_X4_sandwich [.ref (gad Γ 0), .int p1, .int p2, .int p3] w Q := by
  obtain ⟨d, rfl⟩ : ∃ e, d = e + 1 := ⟨d - 1, by omega⟩
  refine con_X4_sandwich hG ?_
  unfold wp_X4_sandwich
  have zw := i.num
  refine cs_X4_areTwo (by omega) hG (by omega) (fun r1 y574 y575 => ?_)
  refine ⟨fun h576 => ?_, fun h577 => ?_⟩
  · have h576 := y575.mp h576
    refine cs_X4_isIn (by omega) hG (lo := 10) (hi := 17) rfl rfl (fun r4 z578 y579 => ?_)
    refine ⟨fun h580 => ?_, fun h581 => ?_⟩
    · have h580 : ¬ _ := fun q => y579.mpr q h580
      refine ⟨fun h582 => ?_, fun h583 => ?_, fun h584 => ?_, fun h585 => ?_, fun h586 => ?_⟩
      · simp only [Int32.lt_iff_toInt_lt, Int32.le_iff_toInt_le, ← Int32.toInt_inj, Int32.reduceToInt] at h582
        have : (32 : Int32).toInt = 32 := rfl
        refine ic_X0_layersOf (by omega) hG (ShC.f32 hG.2.1) i (Or.inl rfl) (by omega) (by omega) (fun r7 w8 iw8 => ?_)
        have zw8 := iw8.num
        exact k _ _ iw8
      · simp only [Int32.lt_iff_toInt_lt, Int32.le_iff_toInt_le, ← Int32.toInt_inj, Int32.reduceToInt] at h583
        have : (32 : Int32).toInt = 32 := rfl
        refine ic_X0_layersOf (by omega) hG (ShC.f32 hG.2.1) i (Or.inl rfl) (by omega) (by omega) (fun r9 w10 iw10 => ?_)
        have zw10 := iw10.num
        refine cs_bitCount (by omega) hG (fun r11 _ => ?_)
        exact k _ _ iw10
      · simp only [Int32.lt_iff_toInt_lt, Int32.le_iff_toInt_le, ← Int32.toInt_inj, Int32.reduceToInt] at h584
        have : (32 : Int32).toInt = 32 := rfl
        refine ic_X0_sendsTo (by omega) hG (ShC.f32 hG.2.1) i (Or.inl rfl) (by omega) (by omega) (fun r13 w14 iw14 => ?_)
        have zw14 := iw14.num
        refine ⟨fun h587 => ?_, fun h588 => ?_⟩
        · simp only [Int32.lt_iff_toInt_lt, Int32.le_iff_toInt_le, ← Int32.toInt_inj, Int32.reduceToInt] at h587
          exact k _ _ iw14
        · simp only [Int32.lt_iff_toInt_lt, Int32.le_iff_toInt_le, ← Int32.toInt_inj, Int32.reduceToInt] at h588
          exact k _ _ iw14
      · simp only [Int32.lt_iff_toInt_lt, Int32.le_iff_toInt_le, ← Int32.toInt_inj, Int32.reduceToInt] at h585
        have : (32 : Int32).toInt = 32 := rfl
        refine ic_X0_feltFrom (by omega) hG (ShC.f32 hG.2.1) i (Or.inl rfl) (by omega) (by omega) (fun r16 w17 iw17 => ?_)
        have zw17 := iw17.num
        exact k _ _ iw17
      · simp only [Int32.lt_iff_toInt_lt, Int32.le_iff_toInt_le, ← Int32.toInt_inj, Int32.reduceToInt] at h586
        exact k _ _ i
    · have h581 := y579.mp h581
      have : (32 : Int32).toInt = 32 := rfl
      have := i_lo p3
      have := i_hi p3
      have : (10 : Int32).toInt = 10 := rfl
      have := i_sub (x := p3) (y := (10 : Int32)) (by omega) (by omega)
      refine ic_X0_feelsBy (by omega) hG (ShC.f32 hG.2.1) i (Or.inl rfl) (by omega) (by omega) (fun r18 w19 iw19 => ?_)
      have zw19 := iw19.num
      exact k _ _ iw19
  · have h577 : ¬ _ := fun q => y575.mpr q h577
    exact k _ _ i

set_option maxRecDepth 20000 in
theorem ic_X4_sunday {Γ : Gx} {d : Nat} (hd : 8 ≤ d) (hG : GC Γ) {κ : Ky} {w : Wd} (i : IC κ w) {Q : Int32 → Wd → Prop} (k : ∀ (r : Int32) (w' : Wd), IC κ w' → Q r w') : CI Γ d M_X4_sunday [.ref (gad Γ 0)] w Q := by
  obtain ⟨d, rfl⟩ : ∃ e, d = e + 1 := ⟨d - 1, by omega⟩
  refine con_X4_sunday hG ?_
  unfold wp_X4_sunday
  have zw := i.num
  refine ⟨fun h589 => ?_, fun h590 => ?_⟩
  · simp only [Int32.lt_iff_toInt_lt, Int32.le_iff_toInt_le, ← Int32.toInt_inj, Int32.reduceToInt] at h589
    refine ic_X0_passSunday (by omega) hG (ShC.f32 hG.2.1) i (Or.inl rfl) (fun r2 w3 iw3 y591 => ?_)
    have zw3 := iw3.num
    intro w4 ew4
    have iw4 : IC κ w4 := ew4 ▸ IC.slot rfl iw3
    have zw4 := iw4.num
    refine ic_X0_glad (by omega) hG (ShC.f32 hG.2.1) iw4 (Or.inl rfl) (fun r6 w7 iw7 => ?_)
    have zw7 := iw7.num
    exact k _ _ iw7
  · simp only [Int32.lt_iff_toInt_lt, Int32.le_iff_toInt_le, ← Int32.toInt_inj, Int32.reduceToInt] at h590
    exact k _ _ i

set_option maxRecDepth 20000 in
theorem ic_X4_run {Γ : Gx} {d : Nat} (hd : 9 ≤ d) (hG : GC Γ) {p1 : Int32} {p2 : Int32} {κ : Ky} {w : Wd} (i : IC κ w) {Q : Int32 → Wd → Prop} (k : ∀ (r : Int32) (w' : Wd), IC κ w' → Q r w') : CI Γ d M_X4_run [.ref (gad Γ 0), .int p1, .int p2] w Q := by
  obtain ⟨d, rfl⟩ : ∃ e, d = e + 1 := ⟨d - 1, by omega⟩
  refine con_X4_run hG ?_
  unfold wp_X4_run
  have zw := i.num
  intro P_22
  intro P_50
  intro cP_22
  intro cP_50
  have key : ∀ m : Nat, (∀ (s0 : Int32) (w : Wd), IC κ w → ((s0.toInt = 0) ∨ (10 ≤ p2.toInt ∧ p2.toInt ≤ 14)) → (1) < m → P_22 s0 w) ∧ (∀ (l3 : Int32) (w : Wd), IC κ w → ((l3.toInt = 0) ∨ (10 ≤ p2.toInt ∧ p2.toInt ≤ 14)) → (0) < m → P_50 l3 w) := by
    intro m
    induction m with
    | zero => exact ⟨fun _ _ _ _ h => absurd h (Nat.not_lt_zero _), fun _ _ _ _ h => absurd h (Nat.not_lt_zero _)⟩
    | succ m ih =>
      refine ⟨?_, ?_⟩
      · intro s0 w i v0 hm
        refine cP_22 _ _ ?_
        have z4 := i.num
        refine cs_X4_isIn (by omega) hG (lo := 0) (hi := 40) rfl rfl (fun r5 z592 y593 => ?_)
        refine ⟨fun h594 => ?_, fun h595 => ?_⟩
        · have h594 : ¬ _ := fun q => y593.mpr q h594
          exact k _ _ i
        · have h595 := y593.mp h595
          refine ⟨fun h596 => ?_, fun h597 => ?_⟩
          · simp only [Int32.lt_iff_toInt_lt, Int32.le_iff_toInt_le, ← Int32.toInt_inj, Int32.reduceToInt] at h596
            exact ih.2 _ _ i (by first | omega | rfl | assumption) (by omega)
          · simp only [Int32.lt_iff_toInt_lt, Int32.le_iff_toInt_le, ← Int32.toInt_inj, Int32.reduceToInt] at h597
            refine cs_X4_isIn (by omega) hG (lo := 0) (hi := 1) rfl rfl (fun r9 z598 y599 => ?_)
            refine ⟨fun h600 => ?_, fun h601 => ?_⟩
            · have h600 := y599.mp h600
              exact ih.2 _ _ i (by first | omega | rfl | assumption) (by omega)
            · have h601 : ¬ _ := fun q => y599.mpr q h601
              exact k _ _ i
      · intro l3 w i v0 hm
        refine cP_50 _ _ ?_
        have z4 := i.num
        refine ic_like39 (by omega) hG i (fun w13 iw13 lw13 => ?_)
        have zw13 := iw13.num
        refine ⟨fun h602 => ?_, fun h603 => ?_⟩
        · simp only [Int32.lt_iff_toInt_lt, Int32.le_iff_toInt_le, ← Int32.toInt_inj, Int32.reduceToInt] at h602
          refine ic_X0_gladBehind (by omega) hG (ShC.f39 hG.2.1) iw13 (Or.inr (Or.inl rfl)) (fun r15 w16 iw16 => ?_)
          have zw16 := iw16.num
          refine ⟨fun h604 => ?_, fun h605 => ?_⟩
          · simp only [Int32.lt_iff_toInt_lt, Int32.le_iff_toInt_le, ← Int32.toInt_inj, Int32.reduceToInt] at h604
            exact k _ _ iw16
          · simp only [Int32.lt_iff_toInt_lt, Int32.le_iff_toInt_le, ← Int32.toInt_inj, Int32.reduceToInt] at h605
            have := i_lo p2
            have := i_hi p2
            have : (10 : Int32).toInt = 10 := rfl
            have := i_sub (x := p2) (y := (10 : Int32)) (by omega) (by omega)
            refine ⟨vp_in_iff.mpr (by omega), ?_⟩
            exact k _ _ iw16
        · simp only [Int32.lt_iff_toInt_lt, Int32.le_iff_toInt_le, ← Int32.toInt_inj, Int32.reduceToInt] at h603
          refine ic_X0_emptyBehind (by omega) hG (ShC.f39 hG.2.1) iw13 (Or.inr (Or.inl rfl)) (fun r19 w20 iw20 => ?_)
          have zw20 := iw20.num
          exact k _ _ iw20
  refine ⟨fun h606 => ?_, fun h607 => ?_⟩
  · simp only [Int32.lt_iff_toInt_lt, Int32.le_iff_toInt_le, ← Int32.toInt_inj, Int32.reduceToInt] at h606
    have : (0 : Int32).toInt = 0 := rfl
    exact (key _).1 _ _ i (by first | omega | rfl | assumption) (Nat.lt_succ_self _)
  · simp only [Int32.lt_iff_toInt_lt, Int32.le_iff_toInt_le, ← Int32.toInt_inj, Int32.reduceToInt] at h607
    have := i_lo p2
    have := i_hi p2
    have : (10 : Int32).toInt = 10 := rfl
    have := i_sub (x := p2) (y := (10 : Int32)) (by omega) (by omega)
    refine cs_X4_isPerson (by omega) hG (by omega) (fun r2 y608 y609 => ?_)
    refine ⟨fun h610 => ?_, fun h611 => ?_⟩
    · have h610 : ¬ _ := fun q => y609.mpr q h610
      have : (0 : Int32).toInt = 0 := rfl
      exact (key _).1 _ _ i (by first | omega | rfl | assumption) (Nat.lt_succ_self _)
    · have h611 := y609.mp h611
      have : (1 : Int32).toInt = 1 := rfl
      exact (key _).1 _ _ i (by first | omega | rfl | assumption) (Nat.lt_succ_self _)

set_option maxRecDepth 20000 in
theorem ic_X4_firstDead {Γ : Gx} {d : Nat} (hd : 1 ≤ d) (hG : GC Γ) {κ : Ky} {w : Wd} (i : IC κ w) {Q : Int32 → Wd → Prop} (k : ∀ (r : Int32) (w' : Wd), IC κ w' → Q r w') : CI Γ d M_X4_firstDead [.ref (gad Γ 0)] w Q := by
  obtain ⟨d, rfl⟩ : ∃ e, d = e + 1 := ⟨d - 1, by omega⟩
  refine con_X4_firstDead hG ?_
  unfold wp_X4_firstDead
  have zw := i.num
  intro P_2
  intro cP_2
  have key : ∀ m : Nat, (∀ (l1 : Int32) (w : Wd), IC κ w → (0 ≤ l1.toInt ∧ l1.toInt ≤ 40) → ((41 - l1.toInt).toNat) < m → P_2 l1 w) := by
    intro m
    induction m with
    | zero => exact fun _ _ _ _ h => absurd h (Nat.not_lt_zero _)
    | succ m ih =>
      intro l1 w i v0 hm
      refine cP_2 _ _ ?_
      have z4 := i.num
      refine ⟨fun h612 => ?_, fun h613 => ?_⟩
      · simp only [Int32.lt_iff_toInt_lt, Int32.le_iff_toInt_le, ← Int32.toInt_inj, Int32.reduceToInt] at h612
        exact k _ _ i
      · simp only [Int32.lt_iff_toInt_lt, Int32.le_iff_toInt_le, ← Int32.toInt_inj, Int32.reduceToInt] at h613
        have := i_lo l1
        have := i_hi l1
        refine ⟨vp_in_iff.mpr (by omega), ?_⟩
        have : (1 : Int32).toInt = 1 := rfl
        have := i_add (x := l1) (y := (1 : Int32)) (by omega) (by omega)
        refine ⟨vp_in_iff.mpr (by omega), ?_⟩
        refine ⟨fun h614 => ?_, fun h615 => ?_⟩
        · have := i_lo (w 5 ((l1 + (1 : Int32))).toNatClampNeg)
          have := i_hi (w 5 ((l1 + (1 : Int32))).toNatClampNeg)
          simp only [Int32.lt_iff_toInt_lt, Int32.le_iff_toInt_le, ← Int32.toInt_inj, Int32.reduceToInt] at h614
          exact ih _ _ i (by first | omega | rfl | assumption) (by omega)
        · have := i_lo (w 5 ((l1 + (1 : Int32))).toNatClampNeg)
          have := i_hi (w 5 ((l1 + (1 : Int32))).toNatClampNeg)
          simp only [Int32.lt_iff_toInt_lt, Int32.le_iff_toInt_le, ← Int32.toInt_inj, Int32.reduceToInt] at h615
          exact k _ _ i
  have : (0 : Int32).toInt = 0 := rfl
  exact (key _) _ _ i (by first | omega | rfl | assumption) (Nat.lt_succ_self _)

set_option maxRecDepth 20000 in
theorem ic_X4_firstAgain {Γ : Gx} {d : Nat} (hd : 1 ≤ d) (hG : GC Γ) {p1 : Int32} {κ : Ky} {w : Wd} (i : IC κ w) {Q : Int32 → Wd → Prop} (k : ∀ (r : Int32) (w' : Wd), IC κ w' → Q r w') : CI Γ d M_X4_firstAgain [.ref (gad Γ 0), .int p1] w Q := by
  obtain ⟨d, rfl⟩ : ∃ e, d = e + 1 := ⟨d - 1, by omega⟩
  refine con_X4_firstAgain hG ?_
  unfold wp_X4_firstAgain
  have zw := i.num
  intro P_2
  intro P_10
  intro cP_2
  intro cP_10
  have key : ∀ m : Nat, (∀ (l2 : Int32) (w : Wd), IC κ w → (0 ≤ l2.toInt ∧ l2.toInt ≤ 41) → ((100 * (43 - l2.toInt)).toNat) < m → P_2 l2 w) ∧ (∀ (l2 : Int32) (l3 : Int32) (w : Wd), IC κ w → (0 ≤ l2.toInt ∧ l2.toInt ≤ 40) → (0 ≤ l3.toInt ∧ l3.toInt ≤ 41) → ((100 * (43 - l2.toInt) - 1 - l3.toInt).toNat) < m → P_10 l2 l3 w) := by
    intro m
    induction m with
    | zero => exact ⟨fun _ _ _ _ h => absurd h (Nat.not_lt_zero _), fun _ _ _ _ _ _ h => absurd h (Nat.not_lt_zero _)⟩
    | succ m ih =>
      refine ⟨?_, ?_⟩
      · intro l2 w i v0 hm
        refine cP_2 _ _ ?_
        have z4 := i.num
        refine ⟨fun h616 => ?_, fun h617 => ?_⟩
        · simp only [Int32.lt_iff_toInt_lt, Int32.le_iff_toInt_le, ← Int32.toInt_inj, Int32.reduceToInt] at h616
          exact k _ _ i
        · simp only [Int32.lt_iff_toInt_lt, Int32.le_iff_toInt_le, ← Int32.toInt_inj, Int32.reduceToInt] at h617
          have : (0 : Int32).toInt = 0 := rfl
          exact ih.2 _ _ _ i (by first | omega | rfl | assumption) (by first | omega | rfl | assumption) (by omega)
      · intro l2 l3 w i v0 v1 hm
        refine cP_10 _ _ _ ?_
        have z4 := i.num
        refine ⟨fun h618 => ?_, fun h619 => ?_⟩
        · simp only [Int32.lt_iff_toInt_lt, Int32.le_iff_toInt_le, ← Int32.toInt_inj, Int32.reduceToInt] at h618
          have := i_lo l2
          have := i_hi l2
          have : (1 : Int32).toInt = 1 := rfl
          have := i_add (x := l2) (y := (1 : Int32)) (by omega) (by omega)
          exact ih.1 _ _ i (by first | omega | rfl | assumption) (by omega)
        · simp only [Int32.lt_iff_toInt_lt, Int32.le_iff_toInt_le, ← Int32.toInt_inj, Int32.reduceToInt] at h619
          have := i_lo l3
          have := i_hi l3
          refine ⟨vp_in_iff.mpr (by omega), ?_⟩
          have := i_lo l2
          have := i_hi l2
          refine ⟨vp_in_iff.mpr (by omega), ?_⟩
          refine ⟨fun h620 => ?_, fun h621 => ?_⟩
          · simp only [Int32.lt_iff_toInt_lt, Int32.le_iff_toInt_le, ← Int32.toInt_inj, Int32.reduceToInt] at h620
            have : (1 : Int32).toInt = 1 := rfl
            have := i_add (x := l3) (y := (1 : Int32)) (by omega) (by omega)
            exact ih.2 _ _ _ i (by first | omega | rfl | assumption) (by first | omega | rfl | assumption) (by omega)
          · simp only [Int32.lt_iff_toInt_lt, Int32.le_iff_toInt_le, ← Int32.toInt_inj, Int32.reduceToInt] at h621
            refine ⟨fun h622 => ?_, fun h623 => ?_⟩
            · simp only [Int32.lt_iff_toInt_lt, Int32.le_iff_toInt_le, ← Int32.toInt_inj, Int32.reduceToInt] at h622
              exact k _ _ i
            · simp only [Int32.lt_iff_toInt_lt, Int32.le_iff_toInt_le, ← Int32.toInt_inj, Int32.reduceToInt] at h623
              exact k _ _ i
  have : (1 : Int32).toInt = 1 := rfl
  exact (key _).1 _ _ i (by first | omega | rfl | assumption) (Nat.lt_succ_self _)

set_option maxRecDepth 20000 in
theorem ic_X4_again {Γ : Gx} {d : Nat} (hd : 8 ≤ d) (hG : GC Γ) {p1 : Int32} {κ : Ky} {w : Wd} (i : IC κ w) {Q : Int32 → Wd → Prop} (k : ∀ (r : Int32) (w' : Wd), IC κ w' → Q r w') : CI Γ d M_X4_again [.ref (gad Γ 0), .int p1] w Q := by
  obtain ⟨d, rfl⟩ : ∃ e, d = e + 1 := ⟨d - 1, by omega⟩
  refine con_X4_again hG ?_
  unfold wp_X4_again
  have zw := i.num
  intro P_38
  intro cP_38
  have key : ∀ m : Nat, (∀ (l2 : Int32) (w : Wd), IC κ w → (1 ≤ l2.toInt ∧ l2.toInt ≤ 41) → ((42 - l2.toInt).toNat) < m → P_38 l2 w) := by
    intro m
    induction m with
    | zero => exact fun _ _ _ _ h => absurd h (Nat.not_lt_zero _)
    | succ m ih =>
      intro l2 w i v0 hm
      refine cP_38 _ _ ?_
      have z4 := i.num
      refine ⟨fun h624 => ?_, fun h625 => ?_⟩
      · simp only [Int32.lt_iff_toInt_lt, Int32.le_iff_toInt_le, ← Int32.toInt_inj, Int32.reduceToInt] at h624
        refine ⟨fun h626 => ?_, fun h627 => ?_⟩
        · simp only [Int32.lt_iff_toInt_lt, Int32.le_iff_toInt_le, ← Int32.toInt_inj, Int32.reduceToInt] at h626
          refine ic_X4_firstAgain (by omega) hG i (fun r12 w13 iw13 => ?_)
          have zw13 := iw13.num
          exact k _ _ iw13
        · simp only [Int32.lt_iff_toInt_lt, Int32.le_iff_toInt_le, ← Int32.toInt_inj, Int32.reduceToInt] at h627
          refine ic_X4_firstDead (by omega) hG i (fun r14 w15 iw15 => ?_)
          have zw15 := iw15.num
          exact k _ _ iw15
      · simp only [Int32.lt_iff_toInt_lt, Int32.le_iff_toInt_le, ← Int32.toInt_inj, Int32.reduceToInt] at h625
        refine ic_X0_passSunday (by omega) hG (ShC.f39 hG.2.1) i (Or.inr (Or.inl rfl)) (fun r16 w17 iw17 y628 => ?_)
        have zw17 := iw17.num
        refine ic_X0_allMoods (by omega) hG (ShC.f39 hG.2.1) iw17 (Or.inr (Or.inl rfl)) (fun r18 w19 iw19 => ?_)
        have zw19 := iw19.num
        have := i_lo l2
        have := i_hi l2
        refine ⟨vp_in_iff.mpr (by omega), ?_⟩
        intro w21 ew21
        have iw21 : IC κ w21 := ew21 ▸ IC.slot rfl iw19
        have zw21 := iw21.num
        have : (1 : Int32).toInt = 1 := rfl
        have := i_add (x := l2) (y := (1 : Int32)) (by omega) (by omega)
        exact ih _ _ iw21 (by first | omega | rfl | assumption) (by omega)
  refine cs_X4_isIn (by omega) hG (lo := 0) (hi := 2) rfl rfl (fun r1 z629 y630 => ?_)
  refine ⟨fun h631 => ?_, fun h632 => ?_⟩
  · have h631 := y630.mp h631
    refine ic_like39 (by omega) hG i (fun w5 iw5 lw5 => ?_)
    have zw5 := iw5.num
    refine ic_X0_allMoods (by omega) hG (ShC.f39 hG.2.1) iw5 (Or.inr (Or.inl rfl)) (fun r6 w7 iw7 => ?_)
    have zw7 := iw7.num
    intro w8 ew8
    have iw8 : IC κ w8 := ew8 ▸ IC.slot rfl iw7
    have zw8 := iw8.num
    have : (1 : Int32).toInt = 1 := rfl
    exact (key _) _ _ iw8 (by first | omega | rfl | assumption) (Nat.lt_succ_self _)
  · have h632 : ¬ _ := fun q => y630.mpr q h632
    exact k _ _ i

set_option maxRecDepth 20000 in
theorem ic_X4_all {Γ : Gx} {d : Nat} (hd : 9 ≤ d) (hG : GC Γ) {p1 : Int32} {κ : Ky} {w : Wd} (i : IC κ w) {Q : Int32 → Wd → Prop} (k : ∀ (r : Int32) (w' : Wd), IC κ w' → Q r w') : CI Γ d M_X4_all [.ref (gad Γ 0), .int p1] w Q := by
  obtain ⟨d, rfl⟩ : ∃ e, d = e + 1 := ⟨d - 1, by omega⟩
  refine con_X4_all hG ?_
  unfold wp_X4_all
  have zw := i.num
  refine ⟨fun h633 => ?_, fun h634 => ?_, fun h635 => ?_, fun h636 => ?_, fun h637 => ?_⟩
  · simp only [Int32.lt_iff_toInt_lt, Int32.le_iff_toInt_le, ← Int32.toInt_inj, Int32.reduceToInt] at h633
    refine ic_X0_glad (by omega) hG (ShC.f32 hG.2.1) i (Or.inl rfl) (fun r1 w2 iw2 => ?_)
    have zw2 := iw2.num
    exact k _ _ iw2
  · simp only [Int32.lt_iff_toInt_lt, Int32.le_iff_toInt_le, ← Int32.toInt_inj, Int32.reduceToInt] at h634
    refine ic_X0_lettuceCount (by omega) hG (ShC.f32 hG.2.1) i (Or.inl rfl) (fun r3 w4 iw4 => ?_)
    have zw4 := iw4.num
    exact k _ _ iw4
  · simp only [Int32.lt_iff_toInt_lt, Int32.le_iff_toInt_le, ← Int32.toInt_inj, Int32.reduceToInt] at h635
    refine ic_X0_lettuceFirst (by omega) hG (ShC.f32 hG.2.1) i (Or.inl rfl) (fun r5 w6 iw6 => ?_)
    have zw6 := iw6.num
    exact k _ _ iw6
  · simp only [Int32.lt_iff_toInt_lt, Int32.le_iff_toInt_le, ← Int32.toInt_inj, Int32.reduceToInt] at h636
    refine ic_X0_leftAlone (by omega) hG (ShC.f32 hG.2.1) i (Or.inl rfl) (fun r7 w8 iw8 => ?_)
    have zw8 := iw8.num
    exact k _ _ iw8
  · simp only [Int32.lt_iff_toInt_lt, Int32.le_iff_toInt_le, ← Int32.toInt_inj, Int32.reduceToInt] at h637
    exact k _ _ i

set_option maxRecDepth 20000 in
theorem ic_X4_best {Γ : Gx} {d : Nat} (hd : 9 ≤ d) (hG : GC Γ) {p1 : Int32} {p2 : Int32} {p3 : Int32} {κ : Ky} {w : Wd} (i : IC κ w) {Q : Int32 → Wd → Prop} (k : ∀ (r : Int32) (w' : Wd), IC κ w' → Q r w') : CI Γ d M_X4_best [.ref (gad Γ 0), .int p1, .int p2, .int p3] w Q := by
  obtain ⟨d, rfl⟩ : ∃ e, d = e + 1 := ⟨d - 1, by omega⟩
  refine con_X4_best hG ?_
  unfold wp_X4_best
  have zw := i.num
  intro P_43
  intro cP_43
  have key : ∀ m : Nat, (∀ (l4 : Int32) (l5 : Int32) (l6 : Int32) (w : Wd), IC κ w → (-20 ≤ l6.toInt ∧ l6.toInt ≤ 21) → (0 ≤ p1.toInt ∧ p1.toInt ≤ 4) → ((22 - l6.toInt).toNat) < m → P_43 l4 l5 l6 w) := by
    intro m
    induction m with
    | zero => exact fun _ _ _ _ _ _ _ h => absurd h (Nat.not_lt_zero _)
    | succ m ih =>
      intro l4 l5 l6 w i v0 v1 hm
      refine cP_43 _ _ _ _ ?_
      have z4 := i.num
      refine ⟨fun h638 => ?_, fun h639 => ?_⟩
      · simp only [Int32.lt_iff_toInt_lt, Int32.le_iff_toInt_le, ← Int32.toInt_inj, Int32.reduceToInt] at h638
        refine ⟨fun h640 => ?_, fun h641 => ?_⟩
        · simp only [Int32.lt_iff_toInt_lt, Int32.le_iff_toInt_le, ← Int32.toInt_inj, Int32.reduceToInt] at h640
          exact k _ _ i
        · simp only [Int32.lt_iff_toInt_lt, Int32.le_iff_toInt_le, ← Int32.toInt_inj, Int32.reduceToInt] at h641
          exact k _ _ i
      · simp only [Int32.lt_iff_toInt_lt, Int32.le_iff_toInt_le, ← Int32.toInt_inj, Int32.reduceToInt] at h639
        refine ic_like39 (by omega) hG i (fun w13 iw13 lw13 => ?_)
        have zw13 := iw13.num
        have := i_lo p1
        have := i_hi p1
        refine ⟨vp_in_iff.mpr (by omega), ?_⟩
        intro w15 ew15
        have iw15 : IC κ w15 := ew15 ▸ IC.fam (f := 39) (m := 3) (Or.inr (Or.inl rfl)) (by decide) (by decide) iw13
        have zw15 := iw15.num
        refine ic_X0_gladBehind (by omega) hG (ShC.f39 hG.2.1) iw15 (Or.inr (Or.inl rfl)) (fun r17 w18 iw18 => ?_)
        have zw18 := iw18.num
        refine ⟨fun h642 => ?_, fun h643 => ?_⟩
        · simp only [Int32.lt_iff_toInt_lt, Int32.le_iff_toInt_le, ← Int32.toInt_inj, Int32.reduceToInt] at h642
          have := i_lo l6
          have := i_hi l6
          have : (1 : Int32).toInt = 1 := rfl
          have := i_add (x := l6) (y := (1 : Int32)) (by omega) (by omega)
          exact ih _ _ _ _ iw18 (by first | omega | rfl | assumption) (by first | omega | rfl | assumption) (by omega)
        · simp only [Int32.lt_iff_toInt_lt, Int32.le_iff_toInt_le, ← Int32.toInt_inj, Int32.reduceToInt] at h643
          have := i_lo l6
          have := i_hi l6
          have : (1 : Int32).toInt = 1 := rfl
          have := i_add (x := l6) (y := (1 : Int32)) (by omega) (by omega)
          exact ih _ _ _ _ iw18 (by first | omega | rfl | assumption) (by first | omega | rfl | assumption) (by omega)
  refine cs_X4_isPerson (by omega) hG (by omega) (fun r1 y644 y645 => ?_)
  refine ⟨fun h646 => ?_, fun h647 => ?_⟩
  · have h646 : ¬ _ := fun q => y645.mpr q h646
    exact k _ _ i
  · have h647 := y645.mp h647
    refine cs_X4_isIn (by omega) hG (lo := 0) (hi := 10) rfl rfl (fun r4 z648 y649 => ?_)
    refine ⟨fun h650 => ?_, fun h651 => ?_⟩
    · have h650 : ¬ _ := fun q => y649.mpr q h650
      exact k _ _ i
    · have h651 := y649.mp h651
      refine cs_X4_isIn (by omega) hG (lo := 0) (hi := 1) rfl rfl (fun r7 z652 y653 => ?_)
      refine ⟨fun h654 => ?_, fun h655 => ?_⟩
      · have h654 := y653.mp h654
        have : (-20 : Int32).toInt = -20 := rfl
        exact (key _) _ _ _ _ i (by first | omega | rfl | assumption) (by first | omega | rfl | assumption) (Nat.lt_succ_self _)
      · have h655 : ¬ _ := fun q => y653.mpr q h655
        exact k _ _ i

set_option maxRecDepth 20000 in
theorem ic_X4_gladAsItIs {Γ : Gx} {d : Nat} (hd : 9 ≤ d) (hG : GC Γ) {p1 : Int32} {κ : Ky} {w : Wd} (i : IC κ w) {Q : Int32 → Wd → Prop} (k : ∀ (r : Int32) (w' : Wd), IC κ w' → Q r w') : CI Γ d M_X4_gladAsItIs [.ref (gad Γ 0), .int p1] w Q := by
  obtain ⟨d, rfl⟩ : ∃ e, d = e + 1 := ⟨d - 1, by omega⟩
  refine con_X4_gladAsItIs hG ?_
  unfold wp_X4_gladAsItIs
  have zw := i.num
  refine ic_like39 (by omega) hG i (fun w2 iw2 lw2 => ?_)
  have zw2 := iw2.num
  refine ic_X0_gladBehind (by omega) hG (ShC.f39 hG.2.1) iw2 (Or.inr (Or.inl rfl)) (fun r3 w4 iw4 => ?_)
  have zw4 := iw4.num
  exact k _ _ iw4

set_option maxRecDepth 20000 in
theorem ic_X4_leaveOut {Γ : Gx} {d : Nat} (hd : 10 ≤ d) (hG : GC Γ) {p1 : Int32} {p2 : Int32} {κ : Ky} {w : Wd} (i : IC κ w) {Q : Int32 → Wd → Prop} (k : ∀ (r : Int32) (w' : Wd), IC κ w' → Q r w') : CI Γ d M_X4_leaveOut [.ref (gad Γ 0), .int p1, .int p2] w Q := by
  obtain ⟨d, rfl⟩ : ∃ e, d = e + 1 := ⟨d - 1, by omega⟩
  refine con_X4_leaveOut hG ?_
  unfold wp_X4_leaveOut
  have zw := i.num
  intro P_35
  intro cP_35
  have key : ∀ m : Nat, (∀ (l3 : Int32) (l4 : Int32) (l5 : Int32) (w : Wd), IC κ w → (0 ≤ l5.toInt ∧ l5.toInt ≤ 5) → ((6 - l5.toInt).toNat) < m → P_35 l3 l4 l5 w) := by
    intro m
    induction m with
    | zero => exact fun _ _ _ _ _ _ h => absurd h (Nat.not_lt_zero _)
    | succ m ih =>
      intro l3 l4 l5 w i v0 hm
      refine cP_35 _ _ _ _ ?_
      have z4 := i.num
      refine ⟨fun h656 => ?_, fun h657 => ?_⟩
      · simp only [Int32.lt_iff_toInt_lt, Int32.le_iff_toInt_le, ← Int32.toInt_inj, Int32.reduceToInt] at h656
        refine ⟨fun h658 => ?_, fun h659 => ?_⟩
        · simp only [Int32.lt_iff_toInt_lt, Int32.le_iff_toInt_le, ← Int32.toInt_inj, Int32.reduceToInt] at h658
          exact k _ _ i
        · simp only [Int32.lt_iff_toInt_lt, Int32.le_iff_toInt_le, ← Int32.toInt_inj, Int32.reduceToInt] at h659
          exact k _ _ i
      · simp only [Int32.lt_iff_toInt_lt, Int32.le_iff_toInt_le, ← Int32.toInt_inj, Int32.reduceToInt] at h657
        refine ic_like39 (by omega) hG i (fun w12 iw12 lw12 => ?_)
        have zw12 := iw12.num
        intro w13 ew13
        have iw13 : IC κ w13 := ew13 ▸ IC.slot rfl iw12
        have zw13 := iw13.num
        refine ic_X0_gladBehind (by omega) hG (ShC.f39 hG.2.1) iw13 (Or.inr (Or.inl rfl)) (fun r15 w16 iw16 => ?_)
        have zw16 := iw16.num
        refine ⟨fun h660 => ?_, fun h661 => ?_⟩
        · simp only [Int32.lt_iff_toInt_lt, Int32.le_iff_toInt_le, ← Int32.toInt_inj, Int32.reduceToInt] at h660
          have := i_lo l5
          have := i_hi l5
          have : (1 : Int32).toInt = 1 := rfl
          have := i_add (x := l5) (y := (1 : Int32)) (by omega) (by omega)
          exact ih _ _ _ _ iw16 (by first | omega | rfl | assumption) (by omega)
        · simp only [Int32.lt_iff_toInt_lt, Int32.le_iff_toInt_le, ← Int32.toInt_inj, Int32.reduceToInt] at h661
          have := i_lo l5
          have := i_hi l5
          have : (1 : Int32).toInt = 1 := rfl
          have := i_add (x := l5) (y := (1 : Int32)) (by omega) (by omega)
          exact ih _ _ _ _ iw16 (by first | omega | rfl | assumption) (by omega)
  refine cs_X4_isIn (by omega) hG (lo := 0) (hi := 40) rfl rfl (fun r1 z662 y663 => ?_)
  refine ⟨fun h664 => ?_, fun h665 => ?_⟩
  · have h664 : ¬ _ := fun q => y663.mpr q h664
    exact k _ _ i
  · have h665 := y663.mp h665
    refine cs_X4_isIn (by omega) hG (lo := 0) (hi := 1) rfl rfl (fun r4 z666 y667 => ?_)
    refine ⟨fun h668 => ?_, fun h669 => ?_⟩
    · have h668 := y667.mp h668
      refine ic_X4_gladAsItIs (by omega) hG i (fun r7 w8 iw8 => ?_)
      have zw8 := iw8.num
      have : (0 : Int32).toInt = 0 := rfl
      exact (key _) _ _ _ _ iw8 (by first | omega | rfl | assumption) (Nat.lt_succ_self _)
    · have h669 : ¬ _ := fun q => y667.mpr q h669
      exact k _ _ i

set_option maxRecDepth 20000 in
theorem ic_X4_spare {Γ : Gx} {d : Nat} (hd : 10 ≤ d) (hG : GC Γ) {p1 : Int32} {p2 : Int32} {κ : Ky} {w : Wd} (i : IC κ w) {Q : Int32 → Wd → Prop} (k : ∀ (r : Int32) (w' : Wd), IC κ w' → Q r w') : CI Γ d M_X4_spare [.ref (gad Γ 0), .int p1, .int p2] w Q := by
  obtain ⟨d, rfl⟩ : ∃ e, d = e + 1 := ⟨d - 1, by omega⟩
  refine con_X4_spare hG ?_
  unfold wp_X4_spare
  have zw := i.num
  intro P_35
  intro cP_35
  have key : ∀ m : Nat, (∀ (l3 : Int32) (l4 : Int32) (l5 : Int32) (w : Wd), IC κ w → (0 ≤ l5.toInt ∧ l5.toInt ≤ 8) → ((9 - l5.toInt).toNat) < m → P_35 l3 l4 l5 w) := by
    intro m
    induction m with
    | zero => exact fun _ _ _ _ _ _ h => absurd h (Nat.not_lt_zero _)
    | succ m ih =>
      intro l3 l4 l5 w i v0 hm
      refine cP_35 _ _ _ _ ?_
      have z4 := i.num
      refine ⟨fun h670 => ?_, fun h671 => ?_⟩
      · simp only [Int32.lt_iff_toInt_lt, Int32.le_iff_toInt_le, ← Int32.toInt_inj, Int32.reduceToInt] at h670
        refine ⟨fun h672 => ?_, fun h673 => ?_⟩
        · simp only [Int32.lt_iff_toInt_lt, Int32.le_iff_toInt_le, ← Int32.toInt_inj, Int32.reduceToInt] at h672
          exact k _ _ i
        · simp only [Int32.lt_iff_toInt_lt, Int32.le_iff_toInt_le, ← Int32.toInt_inj, Int32.reduceToInt] at h673
          exact k _ _ i
      · simp only [Int32.lt_iff_toInt_lt, Int32.le_iff_toInt_le, ← Int32.toInt_inj, Int32.reduceToInt] at h671
        refine ic_like39 (by omega) hG i (fun w12 iw12 lw12 => ?_)
        have zw12 := iw12.num
        intro w13 ew13
        have iw13 : IC κ w13 := ew13 ▸ IC.slot rfl iw12
        have zw13 := iw13.num
        refine ic_X0_gladBehind (by omega) hG (ShC.f39 hG.2.1) iw13 (Or.inr (Or.inl rfl)) (fun r15 w16 iw16 => ?_)
        have zw16 := iw16.num
        refine ⟨fun h674 => ?_, fun h675 => ?_⟩
        · simp only [Int32.lt_iff_toInt_lt, Int32.le_iff_toInt_le, ← Int32.toInt_inj, Int32.reduceToInt] at h674
          have := i_lo l5
          have := i_hi l5
          have : (1 : Int32).toInt = 1 := rfl
          have := i_add (x := l5) (y := (1 : Int32)) (by omega) (by omega)
          exact ih _ _ _ _ iw16 (by first | omega | rfl | assumption) (by omega)
        · simp only [Int32.lt_iff_toInt_lt, Int32.le_iff_toInt_le, ← Int32.toInt_inj, Int32.reduceToInt] at h675
          have := i_lo l5
          have := i_hi l5
          have : (1 : Int32).toInt = 1 := rfl
          have := i_add (x := l5) (y := (1 : Int32)) (by omega) (by omega)
          exact ih _ _ _ _ iw16 (by first | omega | rfl | assumption) (by omega)
  refine cs_X4_isIn (by omega) hG (lo := 0) (hi := 40) rfl rfl (fun r1 z676 y677 => ?_)
  refine ⟨fun h678 => ?_, fun h679 => ?_⟩
  · have h678 : ¬ _ := fun q => y677.mpr q h678
    exact k _ _ i
  · have h679 := y677.mp h679
    refine cs_X4_isIn (by omega) hG (lo := 0) (hi := 1) rfl rfl (fun r4 z680 y681 => ?_)
    refine ⟨fun h682 => ?_, fun h683 => ?_⟩
    · have h682 := y681.mp h682
      refine ic_X4_gladAsItIs (by omega) hG i (fun r7 w8 iw8 => ?_)
      have zw8 := iw8.num
      have : (0 : Int32).toInt = 0 := rfl
      exact (key _) _ _ _ _ iw8 (by first | omega | rfl | assumption) (Nat.lt_succ_self _)
    · have h683 : ¬ _ := fun q => y681.mpr q h683
      exact k _ _ i

set_option maxRecDepth 20000 in
theorem ic_X4_add {Γ : Gx} {d : Nat} (hd : 8 ≤ d) (hG : GC Γ) {p1 : Int32} {p2 : Int32} {p3 : Int32} {κ : Ky} {w : Wd} (i : IC κ w) {Q : Int32 → Wd → Prop} (k : ∀ (r : Int32) (w' : Wd), IC κ w' → Q r w') : CI Γ d M_X4_add [.ref (gad Γ 0), .int p1, .int p2, .int p3] w Q := by
  obtain ⟨d, rfl⟩ : ∃ e, d = e + 1 := ⟨d - 1, by omega⟩
  refine con_X4_add hG ?_
  unfold wp_X4_add
  have zw := i.num
  intro P_100
  intro cP_100
  have key : ∀ m : Nat, (∀ (l4 : Int32) (l5 : Int32) (l6 : Int32) (l7 : Int32) (l8 : Int32) (w : Wd), IC κ w → (0 ≤ l8.toInt ∧ l8.toInt ≤ 8) → (0 ≤ p1.toInt ∧ p1.toInt ≤ 4) → (0 ≤ p2.toInt ∧ p2.toInt ≤ 4) → ((9 - l8.toInt).toNat) < m → P_100 l4 l5 l6 l7 l8 w) := by
    intro m
    induction m with
    | zero => exact fun _ _ _ _ _ _ _ _ _ _ h => absurd h (Nat.not_lt_zero _)
    | succ m ih =>
      intro l4 l5 l6 l7 l8 w i v0 v1 v2 hm
      refine cP_100 _ _ _ _ _ _ ?_
      have z4 := i.num
      refine ⟨fun h684 => ?_, fun h685 => ?_⟩
      · simp only [Int32.lt_iff_toInt_lt, Int32.le_iff_toInt_le, ← Int32.toInt_inj, Int32.reduceToInt] at h684
        refine ⟨fun h686 => ?_, fun h687 => ?_⟩
        · simp only [Int32.lt_iff_toInt_lt, Int32.le_iff_toInt_le, ← Int32.toInt_inj, Int32.reduceToInt] at h686
          exact k _ _ i
        · simp only [Int32.lt_iff_toInt_lt, Int32.le_iff_toInt_le, ← Int32.toInt_inj, Int32.reduceToInt] at h687
          exact k _ _ i
      · simp only [Int32.lt_iff_toInt_lt, Int32.le_iff_toInt_le, ← Int32.toInt_inj, Int32.reduceToInt] at h685
        refine ⟨fun h688 => ?_, fun h689 => ?_⟩
        · simp only [Int32.lt_iff_toInt_lt, Int32.le_iff_toInt_le, ← Int32.toInt_inj, Int32.reduceToInt] at h688
          have := i_lo l8
          have := i_hi l8
          have : (1 : Int32).toInt = 1 := rfl
          have := i_add (x := l8) (y := (1 : Int32)) (by omega) (by omega)
          exact ih _ _ _ _ _ _ i (by first | omega | rfl | assumption) (by first | omega | rfl | assumption) (by first | omega | rfl | assumption) (by omega)
        · simp only [Int32.lt_iff_toInt_lt, Int32.le_iff_toInt_le, ← Int32.toInt_inj, Int32.reduceToInt] at h689
          have : (32 : Int32).toInt = 32 := rfl
          refine ic_X0_feelsBy (by omega) hG (ShC.f32 hG.2.1) i (Or.inl rfl) (by omega) (by omega) (fun r19 w20 iw20 => ?_)
          have zw20 := iw20.num
          refine ic_X4_bounded (by omega) hG iw20 (fun r21 y690 => ?_)
          refine ⟨fun h691 => ?_, fun h692 => ?_⟩
          · simp only [Int32.lt_iff_toInt_lt, Int32.le_iff_toInt_le, ← Int32.toInt_inj, Int32.reduceToInt] at h691
            have := i_lo l8
            have := i_hi l8
            have : (1 : Int32).toInt = 1 := rfl
            have := i_add (x := l8) (y := (1 : Int32)) (by omega) (by omega)
            exact ih _ _ _ _ _ _ iw20 (by first | omega | rfl | assumption) (by first | omega | rfl | assumption) (by first | omega | rfl | assumption) (by omega)
          · simp only [Int32.lt_iff_toInt_lt, Int32.le_iff_toInt_le, ← Int32.toInt_inj, Int32.reduceToInt] at h692
            have := i_lo l8
            have := i_hi l8
            have : (1 : Int32).toInt = 1 := rfl
            have := i_add (x := l8) (y := (1 : Int32)) (by omega) (by omega)
            exact ih _ _ _ _ _ _ iw20 (by first | omega | rfl | assumption) (by first | omega | rfl | assumption) (by first | omega | rfl | assumption) (by omega)
  refine cs_X4_areTwo (by omega) hG (by omega) (fun r1 y693 y694 => ?_)
  refine ⟨fun h695 => ?_, fun h696 => ?_⟩
  · have h695 : ¬ _ := fun q => y694.mpr q h695
    exact k _ _ i
  · have h696 := y694.mp h696
    refine cs_X4_isIn (by omega) hG (lo := 0) (hi := 1) rfl rfl (fun r4 z697 y698 => ?_)
    refine ⟨fun h699 => ?_, fun h700 => ?_⟩
    · have h699 := y698.mp h699
      refine ic_like39 (by omega) hG i (fun w8 iw8 lw8 => ?_)
      have zw8 := iw8.num
      refine ic_X0_passSunday (by omega) hG (ShC.f39 hG.2.1) iw8 (Or.inr (Or.inl rfl)) (fun r9 w10 iw10 y701 => ?_)
      have zw10 := iw10.num
      have := i_lo p2
      have := i_hi p2
      refine ⟨vp_in_iff.mpr (by omega), ?_⟩
      intro v12 ev12
      have : (32 : Int32).toInt = 32 := rfl
      refine ic_X0_layersOf (by omega) hG (ShC.f32 hG.2.1) iw10 (Or.inl rfl) (by omega) (by omega) (fun r14 w15 iw15 => ?_)
      have zw15 := iw15.num
      have : (0 : Int32).toInt = 0 := rfl
      exact (key _) _ _ _ _ _ _ iw15 (by first | omega | rfl | assumption) (by first | omega | rfl | assumption) (by first | omega | rfl | assumption) (Nat.lt_succ_self _)
    · have h700 : ¬ _ := fun q => y698.mpr q h700
      exact k _ _ i

set_option maxRecDepth 20000 in
theorem ic_X4_bitsSo {Γ : Gx} {d : Nat} (hd : 9 ≤ d) (hG : GC Γ) {a1 : Nat} {p2 : Int32} {p3 : Int32} (ha1 : ShS Γ a1) {κ : Ky} {w : Wd} (i : IC κ w) (hS : isS a1) (h2 : 0 ≤ p2.toInt ∧ p2.toInt ≤ 4) {Q : Int32 → Wd → Prop} (k : ∀ (r : Int32) (w' : Wd), IC κ w' → Q r w') : CI Γ d M_X4_bitsSo [.ref (gad Γ 0), .ref (gad Γ a1), .int p2, .int p3] w Q := by
  obtain ⟨d, rfl⟩ : ∃ e, d = e + 1 := ⟨d - 1, by omega⟩
  refine con_X4_bitsSo hG ha1 ?_
  unfold wp_X4_bitsSo
  have zw := i.num
  intro P_32
  intro P_97
  intro cP_32
  intro cP_97
  have key : ∀ m : Nat, (∀ (l4 : Int32) (l5 : Int32) (l6 : Int32) (w : Wd), IC κ w → (0 ≤ l4.toInt ∧ l4.toInt ≤ 10) → (0 ≤ l6.toInt ∧ l6.toInt ≤ l4.toInt) → (p3.toInt = 1 ∨ p3.toInt = 2 ∨ l4.toInt ≤ 6) → ((2 * (12 - l6.toInt)).toNat) < m → P_32 l4 l5 l6 w) ∧ (∀ (l4 : Int32) (l5 : Int32) (l6 : Int32) (w : Wd), IC κ w → (0 ≤ l4.toInt ∧ l4.toInt ≤ 10) → (0 ≤ l6.toInt ∧ l6.toInt < l4.toInt) → (p3.toInt = 1 ∨ p3.toInt = 2 ∨ l4.toInt ≤ 6) → ((2 * (12 - l6.toInt) - 1).toNat) < m → P_97 l4 l5 l6 w) := by
    intro m
    induction m with
    | zero => exact ⟨fun _ _ _ _ _ _ _ _ h => absurd h (Nat.not_lt_zero _), fun _ _ _ _ _ _ _ _ h => absurd h (Nat.not_lt_zero _)⟩
    | succ m ih =>
      refine ⟨?_, ?_⟩
      · intro l4 l5 l6 w i v0 v1 v2 hm
        refine cP_32 _ _ _ _ ?_
        have z4 := i.num
        refine ⟨fun h702 => ?_, fun h703 => ?_⟩
        · simp only [Int32.lt_iff_toInt_lt, Int32.le_iff_toInt_le, ← Int32.toInt_inj, Int32.reduceToInt] at h702
          exact k _ _ i
        · simp only [Int32.lt_iff_toInt_lt, Int32.le_iff_toInt_le, ← Int32.toInt_inj, Int32.reduceToInt] at h703
          refine ic_like39 (by omega) hG i (fun w5 iw5 lw5 => ?_)
          have zw5 := iw5.num
          refine ⟨fun h704 => ?_, fun h705 => ?_⟩
          · simp only [Int32.lt_iff_toInt_lt, Int32.le_iff_toInt_le, ← Int32.toInt_inj, Int32.reduceToInt] at h704
            refine ⟨fun h706 => ?_, fun h707 => ?_⟩
            · simp only [Int32.lt_iff_toInt_lt, Int32.le_iff_toInt_le, ← Int32.toInt_inj, Int32.reduceToInt] at h706
              intro w8 ew8
              have iw8 : IC κ w8 := ew8 ▸ IC.rule39 (by omega) iw5
              have zw8 := iw8.num
              exact ih.2 _ _ _ _ iw8 (by first | omega | rfl | assumption) (by first | omega | rfl | assumption) (by first | omega | rfl | assumption) (by omega)
            · simp only [Int32.lt_iff_toInt_lt, Int32.le_iff_toInt_le, ← Int32.toInt_inj, Int32.reduceToInt] at h707
              have := i_lo p2
              have := i_hi p2
              refine ⟨vp_in_iff.mpr (by omega), ?_⟩
              intro w11 ew11
              have iw11 : IC κ w11 := ew11 ▸ IC.fam (f := 39) (m := 2) (Or.inr (Or.inl rfl)) (by decide) (by decide) iw5
              have zw11 := iw11.num
              exact ih.2 _ _ _ _ iw11 (by first | omega | rfl | assumption) (by first | omega | rfl | assumption) (by first | omega | rfl | assumption) (by omega)
          · simp only [Int32.lt_iff_toInt_lt, Int32.le_iff_toInt_le, ← Int32.toInt_inj, Int32.reduceToInt] at h705
            have := i_lo p2
            have := i_hi p2
            refine ⟨vp_in_iff.mpr (by omega), ?_⟩
            intro w14 ew14
            have iw14 : IC κ w14 := ew14 ▸ IC.fam (f := 39) (m := 1) (Or.inr (Or.inl rfl)) (by decide) (by decide) iw5
            have zw14 := iw14.num
            exact ih.2 _ _ _ _ iw14 (by first | omega | rfl | assumption) (by first | omega | rfl | assumption) (by first | omega | rfl | assumption) (by omega)
      · intro l4 l5 l6 w i v0 v1 v2 hm
        refine cP_97 _ _ _ _ ?_
        have z4 := i.num
        have : (39 : Int32).toInt = 39 := rfl
        refine ic_X0_firstOtherwise (by omega) hG (ShC.f39 hG.2.1) ha1 i (Or.inr (Or.inl rfl)) hS (by omega) (fun r16 w17 iw17 => ?_)
        have zw17 := iw17.num
        refine ⟨fun h708 => ?_, fun h709 => ?_⟩
        · simp only [Int32.lt_iff_toInt_lt, Int32.le_iff_toInt_le, ← Int32.toInt_inj, Int32.reduceToInt] at h708
          have := i_lo l6
          have := i_hi l6
          have : (1 : Int32).toInt = 1 := rfl
          have := i_add (x := l6) (y := (1 : Int32)) (by omega) (by omega)
          exact ih.1 _ _ _ _ iw17 (by first | omega | rfl | assumption) (by first | omega | rfl | assumption) (by first | omega | rfl | assumption) (by omega)
        · simp only [Int32.lt_iff_toInt_lt, Int32.le_iff_toInt_le, ← Int32.toInt_inj, Int32.reduceToInt] at h709
          have := i_lo l6
          have := i_hi l6
          have : (1 : Int32).toInt = 1 := rfl
          have := i_add (x := l6) (y := (1 : Int32)) (by omega) (by omega)
          exact ih.1 _ _ _ _ iw17 (by first | omega | rfl | assumption) (by first | omega | rfl | assumption) (by first | omega | rfl | assumption) (by omega)
  refine ⟨fun h710 => ?_, fun h711 => ?_⟩
  · simp only [Int32.lt_iff_toInt_lt, Int32.le_iff_toInt_le, ← Int32.toInt_inj, Int32.reduceToInt] at h710
    refine ⟨fun h712 => ?_, fun h713 => ?_⟩
    · simp only [Int32.lt_iff_toInt_lt, Int32.le_iff_toInt_le, ← Int32.toInt_inj, Int32.reduceToInt] at h712
      have : (0 : Int32).toInt = 0 := rfl
      exact (key _).1 _ _ _ _ i (by first | omega | rfl | assumption) (by first | omega | rfl | assumption) (by first | omega | rfl | assumption) (Nat.lt_succ_self _)
    · simp only [Int32.lt_iff_toInt_lt, Int32.le_iff_toInt_le, ← Int32.toInt_inj, Int32.reduceToInt] at h713
      have : (10 : Int32).toInt = 10 := rfl
      have : (0 : Int32).toInt = 0 := rfl
      exact (key _).1 _ _ _ _ i (by first | omega | rfl | assumption) (by first | omega | rfl | assumption) (by first | omega | rfl | assumption) (Nat.lt_succ_self _)
  · simp only [Int32.lt_iff_toInt_lt, Int32.le_iff_toInt_le, ← Int32.toInt_inj, Int32.reduceToInt] at h711
    have : (6 : Int32).toInt = 6 := rfl
    have : (0 : Int32).toInt = 0 := rfl
    exact (key _).1 _ _ _ _ i (by first | omega | rfl | assumption) (by first | omega | rfl | assumption) (by first | omega | rfl | assumption) (Nat.lt_succ_self _)

set_option maxRecDepth 20000 in
theorem ic_X4_moodsSo {Γ : Gx} {d : Nat} (hd : 9 ≤ d) (hG : GC Γ) {a1 : Nat} {p2 : Int32} {p3 : Int32} (ha1 : ShS Γ a1) {κ : Ky} {w : Wd} (i : IC κ w) (hS : isS a1) (h2 : 0 ≤ p2.toInt ∧ p2.toInt ≤ 4) {Q : Int32 → Wd → Prop} (k : ∀ (r : Int32) (w' : Wd), IC κ w' → Q r w') : CI Γ d M_X4_moodsSo [.ref (gad Γ 0), .ref (gad Γ a1), .int p2, .int p3] w Q := by
  obtain ⟨d, rfl⟩ : ∃ e, d = e + 1 := ⟨d - 1, by omega⟩
  refine con_X4_moodsSo hG ha1 ?_
  unfold wp_X4_moodsSo
  have zw := i.num
  intro P_11
  intro cP_11
  have key : ∀ m : Nat, (∀ (l4 : Int32) (l5 : Int32) (l6 : Int32) (w : Wd), IC κ w → (-20 ≤ l6.toInt ∧ l6.toInt ≤ 21) → ((22 - l6.toInt).toNat) < m → P_11 l4 l5 l6 w) := by
    intro m
    induction m with
    | zero => exact fun _ _ _ _ _ _ h => absurd h (Nat.not_lt_zero _)
    | succ m ih =>
      intro l4 l5 l6 w i v0 hm
      refine cP_11 _ _ _ _ ?_
      have z4 := i.num
      refine ⟨fun h714 => ?_, fun h715 => ?_⟩
      · simp only [Int32.lt_iff_toInt_lt, Int32.le_iff_toInt_le, ← Int32.toInt_inj, Int32.reduceToInt] at h714
        refine ⟨fun h716 => ?_, fun h717 => ?_⟩
        · simp only [Int32.lt_iff_toInt_lt, Int32.le_iff_toInt_le, ← Int32.toInt_inj, Int32.reduceToInt] at h716
          exact k _ _ i
        · simp only [Int32.lt_iff_toInt_lt, Int32.le_iff_toInt_le, ← Int32.toInt_inj, Int32.reduceToInt] at h717
          exact k _ _ i
      · simp only [Int32.lt_iff_toInt_lt, Int32.le_iff_toInt_le, ← Int32.toInt_inj, Int32.reduceToInt] at h715
        refine ic_like39 (by omega) hG i (fun w4 iw4 lw4 => ?_)
        have zw4 := iw4.num
        have := i_lo p2
        have := i_hi p2
        refine ⟨vp_in_iff.mpr (by omega), ?_⟩
        intro w6 ew6
        have iw6 : IC κ w6 := ew6 ▸ IC.fam (f := 39) (m := 3) (Or.inr (Or.inl rfl)) (by decide) (by decide) iw4
        have zw6 := iw6.num
        have : (39 : Int32).toInt = 39 := rfl
        refine ic_X0_firstOtherwise (by omega) hG (ShC.f39 hG.2.1) ha1 iw6 (Or.inr (Or.inl rfl)) hS (by omega) (fun r8 w9 iw9 => ?_)
        have zw9 := iw9.num
        refine ⟨fun h718 => ?_, fun h719 => ?_⟩
        · simp only [Int32.lt_iff_toInt_lt, Int32.le_iff_toInt_le, ← Int32.toInt_inj, Int32.reduceToInt] at h718
          have := i_lo l6
          have := i_hi l6
          have : (1 : Int32).toInt = 1 := rfl
          have := i_add (x := l6) (y := (1 : Int32)) (by omega) (by omega)
          exact ih _ _ _ _ iw9 (by first | omega | rfl | assumption) (by omega)
        · simp only [Int32.lt_iff_toInt_lt, Int32.le_iff_toInt_le, ← Int32.toInt_inj, Int32.reduceToInt] at h719
          refine ⟨fun h720 => ?_, fun h721 => ?_⟩
          · simp only [Int32.lt_iff_toInt_lt, Int32.le_iff_toInt_le, ← Int32.toInt_inj, Int32.reduceToInt] at h720
            have := i_lo l6
            have := i_hi l6
            have : (1 : Int32).toInt = 1 := rfl
            have := i_add (x := l6) (y := (1 : Int32)) (by omega) (by omega)
            exact ih _ _ _ _ iw9 (by first | omega | rfl | assumption) (by omega)
          · simp only [Int32.lt_iff_toInt_lt, Int32.le_iff_toInt_le, ← Int32.toInt_inj, Int32.reduceToInt] at h721
            have := i_lo l6
            have := i_hi l6
            have : (1 : Int32).toInt = 1 := rfl
            have := i_add (x := l6) (y := (1 : Int32)) (by omega) (by omega)
            exact ih _ _ _ _ iw9 (by first | omega | rfl | assumption) (by omega)
  have : (-20 : Int32).toInt = -20 := rfl
  exact (key _) _ _ _ _ i (by first | omega | rfl | assumption) (Nat.lt_succ_self _)

set_option maxRecDepth 20000 in
theorem ic_X4_tells {Γ : Gx} {d : Nat} (hd : 10 ≤ d) (hG : GC Γ) {p1 : Int32} {p2 : Int32} {p3 : Int32} {κ : Ky} {w : Wd} (i : IC κ w) {Q : Int32 → Wd → Prop} (k : ∀ (r : Int32) (w' : Wd), IC κ w' → Q r w') : CI Γ d M_X4_tells [.ref (gad Γ 0), .int p1, .int p2, .int p3] w Q := by
  obtain ⟨d, rfl⟩ : ∃ e, d = e + 1 := ⟨d - 1, by omega⟩
  refine con_X4_tells hG ?_
  unfold wp_X4_tells
  have zw := i.num
  refine cs_X4_isSheet (by omega) hG (fun r1 y722 y723 => ?_)
  refine ⟨fun h724 => ?_, fun h725 => ?_⟩
  · have h724 : ¬ _ := fun q => y723.mpr q h724
    exact k _ _ i
  · have h725 := y723.mp h725
    refine cs_X4_isPerson (by omega) hG (by omega) (fun r4 y726 y727 => ?_)
    refine ⟨fun h728 => ?_, fun h729 => ?_⟩
    · have h728 : ¬ _ := fun q => y727.mpr q h728
      exact k _ _ i
    · have h729 := y727.mp h729
      refine cs_X4_isIn (by omega) hG (lo := 0) (hi := 5) rfl rfl (fun r7 z730 y731 => ?_)
      refine ⟨fun h732 => ?_, fun h733 => ?_⟩
      · have h732 := y731.mp h732
        have := i_lo p1
        have := i_hi p1
        refine ⟨vp_in_iff.mpr (by omega), ?_⟩
        have hs734 := ShC.s hG.2.1 p1.toNatClampNeg (tn_lt (by omega) (by omega))
        refine ⟨hs734, ?_⟩
        refine cs_X2_isMissing (by omega) hG hs734 (fun r12 y735 y736 => ?_)
        refine ⟨fun h737 => ?_, fun h738 => ?_⟩
        · have h737 : ¬ _ := fun q => y736.mpr q h737
          refine ⟨fun h739 => ?_, fun h740 => ?_⟩
          · simp only [Int32.lt_iff_toInt_lt, Int32.le_iff_toInt_le, ← Int32.toInt_inj, Int32.reduceToInt] at h739
            refine ⟨fun h741 => ?_, fun h742 => ?_, fun h743 => ?_⟩
            · simp only [Int32.lt_iff_toInt_lt, Int32.le_iff_toInt_le, ← Int32.toInt_inj, Int32.reduceToInt] at h741
              refine ic_like39 (by omega) hG i (fun w17 iw17 lw17 => ?_)
              have zw17 := iw17.num
              have : (39 : Int32).toInt = 39 := rfl
              refine ic_X0_firstOtherwise (by omega) hG (ShC.f39 hG.2.1) hs734 iw17 (Or.inr (Or.inl rfl)) (isS_rfa (j := (p1).toNatClampNeg) (tn_lt (by omega) (by omega))) (by omega) (fun r18 w19 iw19 => ?_)
              have zw19 := iw19.num
              exact k _ _ iw19
            · simp only [Int32.lt_iff_toInt_lt, Int32.le_iff_toInt_le, ← Int32.toInt_inj, Int32.reduceToInt] at h742
              refine ⟨fun h744 => ?_, fun h745 => ?_⟩
              · simp only [Int32.lt_iff_toInt_lt, Int32.le_iff_toInt_le, ← Int32.toInt_inj, Int32.reduceToInt] at h744
                have : (0 : Int32).toInt = 0 := rfl
                refine ic_X4_moodsSo (by omega) hG hs734 i (isS_rfa (j := (p1).toNatClampNeg) (tn_lt (by omega) (by omega))) (by omega) (fun r21 w22 iw22 => ?_)
                have zw22 := iw22.num
                exact k _ _ iw22
              · simp only [Int32.lt_iff_toInt_lt, Int32.le_iff_toInt_le, ← Int32.toInt_inj, Int32.reduceToInt] at h745
                have : (1 : Int32).toInt = 1 := rfl
                refine ic_X4_moodsSo (by omega) hG hs734 i (isS_rfa (j := (p1).toNatClampNeg) (tn_lt (by omega) (by omega))) (by omega) (fun r23 w24 iw24 => ?_)
                have zw24 := iw24.num
                exact k _ _ iw24
            · simp only [Int32.lt_iff_toInt_lt, Int32.le_iff_toInt_le, ← Int32.toInt_inj, Int32.reduceToInt] at h743
              refine ic_X4_bitsSo (by omega) hG hs734 i (isS_rfa (j := (p1).toNatClampNeg) (tn_lt (by omega) (by omega))) (by omega) (fun r25 w26 iw26 => ?_)
              have zw26 := iw26.num
              exact k _ _ iw26
          · simp only [Int32.lt_iff_toInt_lt, Int32.le_iff_toInt_le, ← Int32.toInt_inj, Int32.reduceToInt] at h740
            exact k _ _ i
        · have h738 := y736.mp h738
          exact k _ _ i
      · have h733 : ¬ _ := fun q => y731.mpr q h733
        exact k _ _ i

set_option maxRecDepth 20000 in
theorem ic_X4_film {Γ : Gx} {d : Nat} (hd : 8 ≤ d) (hG : GC Γ) {p1 : Int32} {p2 : Int32} {p3 : Int32} {κ : Ky} {w : Wd} (i : IC κ w) {Q : Int32 → Wd → Prop} (k : ∀ (r : Int32) (w' : Wd), IC κ w' → Q r w') : CI Γ d M_X4_film [.ref (gad Γ 0), .int p1, .int p2, .int p3] w Q := by
  obtain ⟨d, rfl⟩ : ∃ e, d = e + 1 := ⟨d - 1, by omega⟩
  refine con_X4_film hG ?_
  unfold wp_X4_film
  have zw := i.num
  intro P_57
  intro cP_57
  have key : ∀ m : Nat, (∀ (l5 : Int32) (w : Wd), IC κ w → (0 ≤ l5.toInt ∧ l5.toInt ≤ p3.toInt) → (0 ≤ p3.toInt ∧ p3.toInt ≤ 10) → (0 ≤ p1.toInt ∧ p1.toInt ≤ 3) → (0 ≤ p2.toInt ∧ p2.toInt ≤ 4) → ((11 - l5.toInt).toNat) < m → P_57 l5 w) := by
    intro m
    induction m with
    | zero => exact fun _ _ _ _ _ _ _ h => absurd h (Nat.not_lt_zero _)
    | succ m ih =>
      intro l5 w i v0 v1 v2 v3 hm
      refine cP_57 _ _ ?_
      have z4 := i.num
      have hs746 := ShC.s hG.2.1 p1.toNatClampNeg (tn_lt (by omega) (by omega))
      refine ⟨hs746, ?_⟩
      refine ⟨fun h747 => ?_, fun h748 => ?_⟩
      · simp only [Int32.lt_iff_toInt_lt, Int32.le_iff_toInt_le, ← Int32.toInt_inj, Int32.reduceToInt] at h747
        exact k _ _ i
      · simp only [Int32.lt_iff_toInt_lt, Int32.le_iff_toInt_le, ← Int32.toInt_inj, Int32.reduceToInt] at h748
        refine ic_X0_passSunday (by omega) hG (ShC.f39 hG.2.1) i (Or.inr (Or.inl rfl)) (fun r18 w19 iw19 y749 => ?_)
        have zw19 := iw19.num
        have := i_lo p2
        have := i_hi p2
        refine ⟨vp_in_iff.mpr (by omega), ?_⟩
        refine ic_X2_put (by omega) hG hs746 iw19 (isS_rfa (j := (p1).toNatClampNeg) (tn_lt (by omega) (by omega))) (by omega) (fun w22 iw22 y750 => ?_)
        have zw22 := iw22.num
        have := i_lo l5
        have := i_hi l5
        have : (1 : Int32).toInt = 1 := rfl
        have := i_add (x := l5) (y := (1 : Int32)) (by omega) (by omega)
        exact ih _ _ iw22 (by first | omega | rfl | assumption) (by first | omega | rfl | assumption) (by first | omega | rfl | assumption) (by first | omega | rfl | assumption) (by omega)
  refine cs_X4_isSheet (by omega) hG (fun r1 y751 y752 => ?_)
  refine ⟨fun h753 => ?_, fun h754 => ?_⟩
  · have h753 : ¬ _ := fun q => y752.mpr q h753
    exact k _ _ i
  · have h754 := y752.mp h754
    refine cs_X4_isPerson (by omega) hG (by omega) (fun r4 y755 y756 => ?_)
    refine ⟨fun h757 => ?_, fun h758 => ?_⟩
    · have h757 : ¬ _ := fun q => y756.mpr q h757
      exact k _ _ i
    · have h758 := y756.mp h758
      refine cs_X4_isIn (by omega) hG (lo := 0) (hi := 10) rfl rfl (fun r7 z759 y760 => ?_)
      refine ⟨fun h761 => ?_, fun h762 => ?_⟩
      · have h761 := y760.mp h761
        have := i_lo p1
        have := i_hi p1
        refine ⟨vp_in_iff.mpr (by omega), ?_⟩
        have hs763 := ShC.s hG.2.1 p1.toNatClampNeg (tn_lt (by omega) (by omega))
        refine ⟨hs763, ?_⟩
        refine ic_clear (by omega) hG (isS_rfa (j := (p1).toNatClampNeg) (tn_lt (by omega) (by omega))) (by omega) i (fun w13 iw13 lw13 => ?_)
        have zw13 := iw13.num
        refine ic_like39 (by omega) hG iw13 (fun w15 iw15 lw15 => ?_)
        have zw15 := iw15.num
        have : (0 : Int32).toInt = 0 := rfl
        exact (key _) _ _ iw15 (by first | omega | rfl | assumption) (by first | omega | rfl | assumption) (by first | omega | rfl | assumption) (by first | omega | rfl | assumption) (Nat.lt_succ_self _)
      · have h762 : ¬ _ := fun q => y760.mpr q h762
        exact k _ _ i

set_option maxRecDepth 20000 in
theorem ic_X4_drawn {Γ : Gx} {d : Nat} (hd : 9 ≤ d) (hG : GC Γ) {p1 : Int32} {κ : Ky} {w : Wd} (i : IC κ w) {Q : Int32 → Wd → Prop} (k : ∀ (r : Int32) (w' : Wd), IC κ w' → Q r w') : CI Γ d M_X4_drawn [.ref (gad Γ 0), .int p1] w Q := by
  obtain ⟨d, rfl⟩ : ∃ e, d = e + 1 := ⟨d - 1, by omega⟩
  refine con_X4_drawn hG ?_
  unfold wp_X4_drawn
  have zw := i.num
  refine ic_like39 (by omega) hG i (fun w2 iw2 lw2 => ?_)
  have zw2 := iw2.num
  refine ic_X0_drawMoods (by omega) hG (ShC.f39 hG.2.1) iw2 (Or.inr (Or.inl rfl)) (fun w4 iw4 => ?_)
  have zw4 := iw4.num
  refine ic_X0_gladBehind (by omega) hG (ShC.f39 hG.2.1) iw4 (Or.inr (Or.inl rfl)) (fun r5 w6 iw6 => ?_)
  have zw6 := iw6.num
  exact k _ _ iw6

set_option maxRecDepth 20000 in
theorem ic_X4_chance {Γ : Gx} {d : Nat} (hd : 9 ≤ d) (hG : GC Γ) {p1 : Int32} {p2 : Int32} {p3 : Int32} {p4 : Int32} {κ : Ky} {w : Wd} (i : IC κ w) {Q : Int64 → Wd → Prop} (k : ∀ (r : Int64) (w' : Wd), IC κ w' → Q r w') : CL Γ d M_X4_chance [.ref (gad Γ 0), .int p1, .int p2, .int p3, .int p4] w Q := by
  obtain ⟨d, rfl⟩ : ∃ e, d = e + 1 := ⟨d - 1, by omega⟩
  refine con_X4_chance hG ?_
  unfold wp_X4_chance
  have zw := i.num
  intro P_41
  intro cP_41
  have key : ∀ m : Nat, (∀ (l5 : Int32) (l6 : Int32) (w : Wd), IC κ w → (0 ≤ l6.toInt ∧ l6.toInt ≤ p2.toInt) → (1 ≤ p2.toInt ∧ p2.toInt ≤ 20) → ((21 - l6.toInt).toNat) < m → P_41 l5 l6 w) := by
    intro m
    induction m with
    | zero => exact fun _ _ _ _ _ _ h => absurd h (Nat.not_lt_zero _)
    | succ m ih =>
      intro l5 l6 w i v0 v1 hm
      refine cP_41 _ _ _ ?_
      have z4 := i.num
      refine ⟨fun h764 => ?_, fun h765 => ?_⟩
      · simp only [Int32.lt_iff_toInt_lt, Int32.le_iff_toInt_le, ← Int32.toInt_inj, Int32.reduceToInt] at h764
        refine ic_X4_sharedDivisor (by omega) hG (fun r11 yr11 => ?_)
        refine ⟨fun h766 => ?_, fun h767 => ?_⟩
        · simp only [Int32.lt_iff_toInt_lt, Int32.le_iff_toInt_le, ← Int32.toInt_inj, Int32.reduceToInt] at h766
          refine ⟨(by assumption), ?_⟩
          exact k _ _ i
        · simp only [Int32.lt_iff_toInt_lt, Int32.le_iff_toInt_le, ← Int32.toInt_inj, Int32.reduceToInt] at h767
          refine ⟨(by assumption), ?_⟩
          exact k _ _ i
      · simp only [Int32.lt_iff_toInt_lt, Int32.le_iff_toInt_le, ← Int32.toInt_inj, Int32.reduceToInt] at h765
        refine ic_like39 (by omega) hG i (fun w17 iw17 lw17 => ?_)
        have zw17 := iw17.num
        refine ic_X0_drawMoods (by omega) hG (ShC.f39 hG.2.1) iw17 (Or.inr (Or.inl rfl)) (fun w19 iw19 => ?_)
        have zw19 := iw19.num
        refine ic_X0_gladBehind (by omega) hG (ShC.f39 hG.2.1) iw19 (Or.inr (Or.inl rfl)) (fun r20 w21 iw21 => ?_)
        have zw21 := iw21.num
        refine ⟨fun h768 => ?_, fun h769 => ?_⟩
        · simp only [Int32.lt_iff_toInt_lt, Int32.le_iff_toInt_le, ← Int32.toInt_inj, Int32.reduceToInt] at h768
          have := i_lo l6
          have := i_hi l6
          have : (1 : Int32).toInt = 1 := rfl
          have := i_add (x := l6) (y := (1 : Int32)) (by omega) (by omega)
          exact ih _ _ _ iw21 (by first | omega | rfl | assumption) (by first | omega | rfl | assumption) (by omega)
        · simp only [Int32.lt_iff_toInt_lt, Int32.le_iff_toInt_le, ← Int32.toInt_inj, Int32.reduceToInt] at h769
          have := i_lo l6
          have := i_hi l6
          have : (1 : Int32).toInt = 1 := rfl
          have := i_add (x := l6) (y := (1 : Int32)) (by omega) (by omega)
          exact ih _ _ _ iw21 (by first | omega | rfl | assumption) (by first | omega | rfl | assumption) (by omega)
  refine cs_X4_isIn (by omega) hG (lo := 1) (hi := 20) rfl rfl (fun r1 z770 y771 => ?_)
  refine ⟨fun h772 => ?_, fun h773 => ?_⟩
  · have h772 : ¬ _ := fun q => y771.mpr q h772
    exact k _ _ i
  · have h773 := y771.mp h773
    refine cs_X4_isIn (by omega) hG (lo := -100) (hi := 100) rfl rfl (fun r4 z774 y775 => ?_)
    refine ⟨fun h776 => ?_, fun h777 => ?_⟩
    · have h776 : ¬ _ := fun q => y775.mpr q h776
      exact k _ _ i
    · have h777 := y775.mp h777
      refine cs_X4_isIn (by omega) hG (lo := 0) (hi := 1) rfl rfl (fun r7 z778 y779 => ?_)
      refine ⟨fun h780 => ?_, fun h781 => ?_⟩
      · have h780 := y779.mp h780
        have : (0 : Int32).toInt = 0 := rfl
        exact (key _) _ _ _ i (by first | omega | rfl | assumption) (by first | omega | rfl | assumption) (Nat.lt_succ_self _)
      · have h781 : ¬ _ := fun q => y779.mpr q h781
        exact k _ _ i

set_option maxRecDepth 20000 in
theorem ic_X4_count {Γ : Gx} {d : Nat} (hd : 2 ≤ d) (hG : GC Γ) {p1 : Int32} {κ : Ky} {w : Wd} (i : IC κ w) {Q : Int32 → Wd → Prop} (k : ∀ (r : Int32) (w' : Wd), IC κ w' → Q r w') : CI Γ d M_X4_count [.ref (gad Γ 0), .int p1] w Q := by
  obtain ⟨d, rfl⟩ : ∃ e, d = e + 1 := ⟨d - 1, by omega⟩
  refine con_X4_count hG ?_
  unfold wp_X4_count
  have zw := i.num
  refine ⟨fun h782 => ?_, fun h783 => ?_, fun h784 => ?_, fun h785 => ?_, fun h786 => ?_, fun h787 => ?_, fun h788 => ?_⟩
  · simp only [Int32.lt_iff_toInt_lt, Int32.le_iff_toInt_le, ← Int32.toInt_inj, Int32.reduceToInt] at h782
    exact k _ _ i
  · simp only [Int32.lt_iff_toInt_lt, Int32.le_iff_toInt_le, ← Int32.toInt_inj, Int32.reduceToInt] at h783
    refine cs_bitCount (by omega) hG (fun r1 _ => ?_)
    exact k _ _ i
  · simp only [Int32.lt_iff_toInt_lt, Int32.le_iff_toInt_le, ← Int32.toInt_inj, Int32.reduceToInt] at h784
    exact k _ _ i
  · simp only [Int32.lt_iff_toInt_lt, Int32.le_iff_toInt_le, ← Int32.toInt_inj, Int32.reduceToInt] at h785
    exact k _ _ i
  · simp only [Int32.lt_iff_toInt_lt, Int32.le_iff_toInt_le, ← Int32.toInt_inj, Int32.reduceToInt] at h786
    exact k _ _ i
  · simp only [Int32.lt_iff_toInt_lt, Int32.le_iff_toInt_le, ← Int32.toInt_inj, Int32.reduceToInt] at h787
    exact k _ _ i
  · simp only [Int32.lt_iff_toInt_lt, Int32.le_iff_toInt_le, ← Int32.toInt_inj, Int32.reduceToInt] at h788
    exact k _ _ i

set_option maxRecDepth 20000 in
theorem ic_X4_sheet {Γ : Gx} {d : Nat} (hd : 3 ≤ d) (hG : GC Γ) {p1 : Int32} {p2 : Int32} {p3 : Int32} {κ : Ky} {w : Wd} (i : IC κ w) {Q : Int32 → Wd → Prop} (k : ∀ (r : Int32) (w' : Wd), IC κ w' → (r = a_sheet p1 p2 p3) → Q r w') : CI Γ d M_X4_sheet [.ref (gad Γ 0), .int p1, .int p2, .int p3] w Q := by
  obtain ⟨d, rfl⟩ : ∃ e, d = e + 1 := ⟨d - 1, by omega⟩
  refine con_X4_sheet hG ?_
  unfold wp_X4_sheet
  have zw := i.num
  refine cs_X4_isSheet (by omega) hG (fun r1 y789 y790 => ?_)
  refine ⟨fun h791 => ?_, fun h792 => ?_⟩
  · have h791 : ¬ _ := fun q => y790.mpr q h791
    exact k _ _ i (by
      unfold a_sheet
      (repeat' split) <;> first | rfl | (exfalso; omega))
  · have h792 := y790.mp h792
    refine cs_X4_isIn (by omega) hG (lo := -1) (hi := 2) rfl rfl (fun r4 z793 y794 => ?_)
    refine ⟨fun h795 => ?_, fun h796 => ?_⟩
    · have h795 := y794.mp h795
      refine ⟨fun h797 => ?_, fun h798 => ?_⟩
      · simp only [Int32.lt_iff_toInt_lt, Int32.le_iff_toInt_le, ← Int32.toInt_inj, Int32.reduceToInt] at h797
        refine ⟨fun h799 => ?_, fun h800 => ?_⟩
        · simp only [Int32.lt_iff_toInt_lt, Int32.le_iff_toInt_le, ← Int32.toInt_inj, Int32.reduceToInt] at h799
          refine ⟨fun h801 => ?_, fun h802 => ?_⟩
          · simp only [Int32.lt_iff_toInt_lt, Int32.le_iff_toInt_le, ← Int32.toInt_inj, Int32.reduceToInt] at h801
            have := i_lo p1
            have := i_hi p1
            refine ⟨vp_in_iff.mpr (by omega), ?_⟩
            have hs803 := ShC.s hG.2.1 p1.toNatClampNeg (tn_lt (by omega) (by omega))
            refine ⟨hs803, ?_⟩
            refine ic_clear (by omega) hG (isS_rfa (j := (p1).toNatClampNeg) (tn_lt (by omega) (by omega))) (by omega) i (fun w13 iw13 lw13 => ?_)
            have zw13 := iw13.num
            exact k _ _ iw13 (by
              unfold a_sheet
              (repeat' split) <;> first | rfl | (exfalso; omega))
          · simp only [Int32.lt_iff_toInt_lt, Int32.le_iff_toInt_le, ← Int32.toInt_inj, Int32.reduceToInt] at h802
            exact k _ _ i (by
              unfold a_sheet
              (repeat' split) <;> first | rfl | (exfalso; omega))
        · simp only [Int32.lt_iff_toInt_lt, Int32.le_iff_toInt_le, ← Int32.toInt_inj, Int32.reduceToInt] at h800
          exact k _ _ i (by
            unfold a_sheet
            (repeat' split) <;> first | rfl | (exfalso; omega))
      · simp only [Int32.lt_iff_toInt_lt, Int32.le_iff_toInt_le, ← Int32.toInt_inj, Int32.reduceToInt] at h798
        have := i_lo p1
        have := i_hi p1
        refine ⟨vp_in_iff.mpr (by omega), ?_⟩
        have hs804 := ShC.s hG.2.1 p1.toNatClampNeg (tn_lt (by omega) (by omega))
        refine ⟨hs804, ?_⟩
        refine ic_clear (by omega) hG (isS_rfa (j := (p1).toNatClampNeg) (tn_lt (by omega) (by omega))) ⟨by decide, by decide⟩ i (fun w17 iw17 lw17 => ?_)
        have zw17 := iw17.num
        exact k _ _ iw17 (by
          unfold a_sheet
          (repeat' split) <;> first | rfl | (exfalso; omega))
    · have h796 : ¬ _ := fun q => y794.mpr q h796
      exact k _ _ i (by
        unfold a_sheet
        (repeat' split) <;> first | rfl | (exfalso; omega))

set_option maxRecDepth 20000 in
theorem ic_X4_cell {Γ : Gx} {d : Nat} (hd : 3 ≤ d) (hG : GC Γ) {p1 : Int32} {p2 : Int32} {p3 : Int32} {κ : Ky} {w : Wd} (i : IC κ w) {Q : Int32 → Wd → Prop} (k : ∀ (r : Int32) (w' : Wd), IC κ w' → Q r w') : CI Γ d M_X4_cell [.ref (gad Γ 0), .int p1, .int p2, .int p3] w Q := by
  obtain ⟨d, rfl⟩ : ∃ e, d = e + 1 := ⟨d - 1, by omega⟩
  refine con_X4_cell hG ?_
  unfold wp_X4_cell
  have zw := i.num
  refine cs_X4_isSheet (by omega) hG (fun r1 y805 y806 => ?_)
  refine ⟨fun h807 => ?_, fun h808 => ?_⟩
  · have h807 := y806.mp h807
    have := i_lo p1
    have := i_hi p1
    refine ⟨vp_in_iff.mpr (by omega), ?_⟩
    have hs809 := ShC.s hG.2.1 p1.toNatClampNeg (tn_lt (by omega) (by omega))
    refine ⟨hs809, ?_⟩
    refine cs_X2_isMissing (by omega) hG hs809 (fun r6 y810 y811 => ?_)
    refine ⟨fun h812 => ?_, fun h813 => ?_⟩
    · have h812 : ¬ _ := fun q => y811.mpr q h812
      have hz814 := i.sz (isS_rfa (j := (p1).toNatClampNeg) (tn_lt (by omega) (by omega)))
      refine cs_X2_hasItem (by omega) hG hs809 (fun r9 y815 y816 => ?_)
      refine ⟨fun h817 => ?_, fun h818 => ?_⟩
      · have h817 := y816.mp h817
        refine ic_X2_put (by omega) hG hs809 i (isS_rfa (j := (p1).toNatClampNeg) (tn_lt (by omega) (by omega))) (by omega) (fun w13 iw13 y819 => ?_)
        have zw13 := iw13.num
        exact k _ _ iw13
      · have h818 : ¬ _ := fun q => y816.mpr q h818
        exact k _ _ i
    · have h813 := y811.mp h813
      exact k _ _ i
  · have h808 : ¬ _ := fun q => y806.mpr q h808
    exact k _ _ i

set_option maxRecDepth 20000 in
theorem ic_X4_copy {Γ : Gx} {d : Nat} (hd : 3 ≤ d) (hG : GC Γ) {p1 : Int32} {p2 : Int32} {p3 : Int32} {p4 : Int32} {p5 : Int32} {κ : Ky} {w : Wd} (i : IC κ w) {Q : Int32 → Wd → Prop} (k : ∀ (r : Int32) (w' : Wd), IC κ w' → Q r w') : CI Γ d M_X4_copy [.ref (gad Γ 0), .int p1, .int p2, .int p3, .int p4, .int p5] w Q := by
  obtain ⟨d, rfl⟩ : ∃ e, d = e + 1 := ⟨d - 1, by omega⟩
  refine con_X4_copy hG ?_
  unfold wp_X4_copy
  have zw := i.num
  refine cs_X4_isSheet (by omega) hG (fun r1 y820 y821 => ?_)
  refine ⟨fun h822 => ?_, fun h823 => ?_⟩
  · have h822 : ¬ _ := fun q => y821.mpr q h822
    exact k _ _ i
  · have h823 := y821.mp h823
    refine cs_X4_isSheet (by omega) hG (fun r4 y824 y825 => ?_)
    refine ⟨fun h826 => ?_, fun h827 => ?_⟩
    · have h826 := y825.mp h826
      have := i_lo p1
      have := i_hi p1
      refine ⟨vp_in_iff.mpr (by omega), ?_⟩
      have hs828 := ShC.s hG.2.1 p1.toNatClampNeg (tn_lt (by omega) (by omega))
      refine ⟨hs828, ?_⟩
      have := i_lo p3
      have := i_hi p3
      refine ⟨vp_in_iff.mpr (by omega), ?_⟩
      have hs829 := ShC.s hG.2.1 p3.toNatClampNeg (tn_lt (by omega) (by omega))
      refine ⟨hs829, ?_⟩
      refine cs_X2_isMissing (by omega) hG hs828 (fun r11 y830 y831 => ?_)
      refine ⟨fun h832 => ?_, fun h833 => ?_⟩
      · have h832 := y831.mp h832
        exact k _ _ i
      · have h833 : ¬ _ := fun q => y831.mpr q h833
        refine cs_X2_isMissing (by omega) hG hs829 (fun r14 y834 y835 => ?_)
        refine ⟨fun h836 => ?_, fun h837 => ?_⟩
        · have h836 : ¬ _ := fun q => y835.mpr q h836
          refine ⟨fun h838 => ?_, fun h839 => ?_⟩
          · simp only [Int32.lt_iff_toInt_lt, Int32.le_iff_toInt_le, ← Int32.toInt_inj, Int32.reduceToInt] at h838
            have hz840 := i.sz (isS_rfa (j := (p1).toNatClampNeg) (tn_lt (by omega) (by omega)))
            refine cs_X2_hasPiece (by omega) hG hs828 hz840 (fun r18 y841 y842 => ?_)
            refine ⟨fun h843 => ?_, fun h844 => ?_⟩
            · have h843 : ¬ _ := fun q => y842.mpr q h843
              exact k _ _ i
            · have h844 := y842.mp h844
              have hz845 := i.sz (isS_rfa (j := (p3).toNatClampNeg) (tn_lt (by omega) (by omega)))
              refine cs_X2_hasPiece (by omega) hG hs829 hz845 (fun r21 y846 y847 => ?_)
              refine ⟨fun h848 => ?_, fun h849 => ?_⟩
              · have h848 := y847.mp h848
                refine ⟨(by simp only [Int32.lt_iff_toInt_lt, Int32.reduceToInt]; omega), ?_⟩
                refine ⟨(by simp only [Int32.lt_iff_toInt_lt, Int32.reduceToInt]; omega), ?_⟩
                refine ⟨(by simp only [Int32.lt_iff_toInt_lt, Int32.reduceToInt]; omega), ?_⟩
                refine ⟨(by have := tn_eq (x := p2) (by omega); have := tn_eq (x := p5) (by omega); omega), ?_⟩
                refine ⟨(by have := tn_eq (x := p4) (by omega); have := tn_eq (x := p5) (by omega); omega), ?_⟩
                intro w29 ew29
                have iw29 : IC κ w29 := ew29 ▸ IC.cpy (isS_rfa (j := (p3).toNatClampNeg) (tn_lt (by omega) (by omega))) i
                have zw29 := iw29.num
                exact k _ _ iw29
              · have h849 : ¬ _ := fun q => y847.mpr q h849
                exact k _ _ i
          · simp only [Int32.lt_iff_toInt_lt, Int32.le_iff_toInt_le, ← Int32.toInt_inj, Int32.reduceToInt] at h839
            exact k _ _ i
        · have h837 := y835.mp h837
          exact k _ _ i
    · have h827 : ¬ _ := fun q => y825.mpr q h827
      exact k _ _ i

set_option maxRecDepth 20000 in
theorem ic_X4_people {Γ : Gx} {d : Nat} (hd : 3 ≤ d) (hG : GC Γ) {p1 : Int32} {p2 : Int32} {p3 : Int32} {p4 : Int32} {κ : Ky} {w : Wd} (i : IC κ w) {Q : Int32 → Wd → Prop} (k : ∀ (r : Int32) (w' : Wd), IC κ w' → Q r w') : CI Γ d M_X4_people [.ref (gad Γ 0), .int p1, .int p2, .int p3, .int p4] w Q := by
  obtain ⟨d, rfl⟩ : ∃ e, d = e + 1 := ⟨d - 1, by omega⟩
  refine con_X4_people hG ?_
  unfold wp_X4_people
  have zw := i.num
  intro P_66
  intro cP_66
  have key : ∀ m : Nat, (∀ (l6 : Int32) (l7 : Int32) (w : Wd), IC κ w → (0 ≤ l7.toInt ∧ l7.toInt ≤ 5) → (0 ≤ p4.toInt ∧ p4.toInt ≤ 5) → (0 ≤ p1.toInt ∧ p1.toInt ≤ 3) → ((6 - l7.toInt).toNat) < m → P_66 l6 l7 w) := by
    intro m
    induction m with
    | zero => exact fun _ _ _ _ _ _ _ h => absurd h (Nat.not_lt_zero _)
    | succ m ih =>
      intro l6 l7 w i v0 v1 v2 hm
      refine cP_66 _ _ _ ?_
      have z4 := i.num
      have hs850 := ShC.s hG.2.1 p1.toNatClampNeg (tn_lt (by omega) (by omega))
      refine ⟨hs850, ?_⟩
      refine ⟨fun h851 => ?_, fun h852 => ?_⟩
      · simp only [Int32.lt_iff_toInt_lt, Int32.le_iff_toInt_le, ← Int32.toInt_inj, Int32.reduceToInt] at h851
        exact k _ _ i
      · simp only [Int32.lt_iff_toInt_lt, Int32.le_iff_toInt_le, ← Int32.toInt_inj, Int32.reduceToInt] at h852
        have : (2 : Int32).toInt = 2 := rfl
        have hz853 := i.sz (isS_rfa (j := (p1).toNatClampNeg) (tn_lt (by omega) (by omega)))
        refine cs_X2_hasPiece (by omega) hG hs850 hz853 (fun r18 y854 y855 => ?_)
        refine ⟨fun h856 => ?_, fun h857 => ?_⟩
        · have h856 := y855.mp h856
          refine ⟨vp_in_iff.mpr (by omega), ?_⟩
          have : (1 : Int32).toInt = 1 := rfl
          have := i_add (x := (p3 + ((2 : Int32) * l7))) (y := (1 : Int32)) (by omega) (by omega)
          refine ⟨vp_in_iff.mpr (by omega), ?_⟩
          refine ic_X4_person (by omega) hG i (fun r23 w24 iw24 => ?_)
          have zw24 := iw24.num
          refine ⟨fun h858 => ?_, fun h859 => ?_⟩
          · simp only [Int32.lt_iff_toInt_lt, Int32.le_iff_toInt_le, ← Int32.toInt_inj, Int32.reduceToInt] at h858
            have := i_lo l7
            have := i_hi l7
            have := i_add (x := l7) (y := (1 : Int32)) (by omega) (by omega)
            exact ih _ _ _ iw24 (by first | omega | rfl | assumption) (by first | omega | rfl | assumption) (by first | omega | rfl | assumption) (by omega)
          · simp only [Int32.lt_iff_toInt_lt, Int32.le_iff_toInt_le, ← Int32.toInt_inj, Int32.reduceToInt] at h859
            have := i_lo l7
            have := i_hi l7
            have := i_add (x := l7) (y := (1 : Int32)) (by omega) (by omega)
            exact ih _ _ _ iw24 (by first | omega | rfl | assumption) (by first | omega | rfl | assumption) (by first | omega | rfl | assumption) (by omega)
        · have h857 : ¬ _ := fun q => y855.mpr q h857
          exact k _ _ i
  refine cs_X4_isSheet (by omega) hG (fun r1 y860 y861 => ?_)
  refine ⟨fun h862 => ?_, fun h863 => ?_⟩
  · have h862 : ¬ _ := fun q => y861.mpr q h862
    exact k _ _ i
  · have h863 := y861.mp h863
    refine cs_X4_isIn (by omega) hG (lo := 0) (hi := 2) rfl rfl (fun r4 z864 y865 => ?_)
    refine ⟨fun h866 => ?_, fun h867 => ?_⟩
    · have h866 : ¬ _ := fun q => y865.mpr q h866
      exact k _ _ i
    · have h867 := y865.mp h867
      refine cs_X4_isIn (by omega) hG (lo := 0) (hi := 5) rfl rfl (fun r7 z868 y869 => ?_)
      refine ⟨fun h870 => ?_, fun h871 => ?_⟩
      · have h870 := y869.mp h870
        have := i_lo p1
        have := i_hi p1
        refine ⟨vp_in_iff.mpr (by omega), ?_⟩
        have hs872 := ShC.s hG.2.1 p1.toNatClampNeg (tn_lt (by omega) (by omega))
        refine ⟨hs872, ?_⟩
        refine cs_X2_isMissing (by omega) hG hs872 (fun r12 y873 y874 => ?_)
        refine ⟨fun h875 => ?_, fun h876 => ?_⟩
        · have h875 : ¬ _ := fun q => y874.mpr q h875
          refine ⟨fun h877 => ?_, fun h878 => ?_⟩
          · simp only [Int32.lt_iff_toInt_lt, Int32.le_iff_toInt_le, ← Int32.toInt_inj, Int32.reduceToInt] at h877
            have : (0 : Int32).toInt = 0 := rfl
            exact (key _) _ _ _ i (by first | omega | rfl | assumption) (by first | omega | rfl | assumption) (by first | omega | rfl | assumption) (Nat.lt_succ_self _)
          · simp only [Int32.lt_iff_toInt_lt, Int32.le_iff_toInt_le, ← Int32.toInt_inj, Int32.reduceToInt] at h878
            exact k _ _ i
        · have h876 := y874.mp h876
          exact k _ _ i
      · have h871 : ¬ _ := fun q => y869.mpr q h871
        exact k _ _ i

set_option maxRecDepth 20000 in
theorem ic_X4_taken {Γ : Gx} {d : Nat} (hd : 3 ≤ d) (hG : GC Γ) {p1 : Int32} {p2 : Int32} {κ : Ky} {w : Wd} (i : IC κ w) {Q : Int32 → Wd → Prop} (k : ∀ (r : Int32) (w' : Wd), IC κ w' → Q r w') : CI Γ d M_X4_taken [.ref (gad Γ 0), .int p1, .int p2] w Q := by
  obtain ⟨d, rfl⟩ : ∃ e, d = e + 1 := ⟨d - 1, by omega⟩
  refine con_X4_taken hG ?_
  unfold wp_X4_taken
  have zw := i.num
  intro P_36
  intro cP_36
  have key : ∀ m : Nat, (∀ (l3 : Int32) (l4 : Int32) (w : Wd), IC κ w → (0 ≤ l4.toInt ∧ l4.toInt ≤ 6) → (0 ≤ p1.toInt ∧ p1.toInt ≤ 4) → ((7 - l4.toInt).toNat) < m → P_36 l3 l4 w) := by
    intro m
    induction m with
    | zero => exact fun _ _ _ _ _ _ h => absurd h (Nat.not_lt_zero _)
    | succ m ih =>
      intro l3 l4 w i v0 v1 hm
      refine cP_36 _ _ _ ?_
      have z4 := i.num
      refine ⟨fun h879 => ?_, fun h880 => ?_⟩
      · simp only [Int32.lt_iff_toInt_lt, Int32.le_iff_toInt_le, ← Int32.toInt_inj, Int32.reduceToInt] at h879
        exact k _ _ i
      · simp only [Int32.lt_iff_toInt_lt, Int32.le_iff_toInt_le, ← Int32.toInt_inj, Int32.reduceToInt] at h880
        refine cs_X4_isIn (by omega) hG (lo := 0) (hi := 5) rfl rfl (fun r9 z881 y882 => ?_)
        refine ⟨fun h883 => ?_, fun h884 => ?_⟩
        · have h883 : ¬ _ := fun q => y882.mpr q h883
          exact k _ _ i
        · have h884 := y882.mp h884
          refine ⟨fun h885 => ?_, fun h886 => ?_⟩
          · simp only [Int32.lt_iff_toInt_lt, Int32.le_iff_toInt_le, ← Int32.toInt_inj, Int32.reduceToInt] at h885
            have := i_lo l3
            have := i_hi l3
            refine ⟨vp_in_iff.mpr (by omega), ?_⟩
            have := i_lo l4
            have := i_hi l4
            have : (1 : Int32).toInt = 1 := rfl
            have := i_add (x := l4) (y := (1 : Int32)) (by omega) (by omega)
            exact ih _ _ _ i (by first | omega | rfl | assumption) (by first | omega | rfl | assumption) (by omega)
          · simp only [Int32.lt_iff_toInt_lt, Int32.le_iff_toInt_le, ← Int32.toInt_inj, Int32.reduceToInt] at h886
            have := i_lo p1
            have := i_hi p1
            refine ⟨vp_in_iff.mpr (by omega), ?_⟩
            exact k _ _ i
  refine cs_X4_isIn (by omega) hG (lo := 0) (hi := 5) rfl rfl (fun r1 z887 y888 => ?_)
  refine ⟨fun h889 => ?_, fun h890 => ?_⟩
  · have h889 := y888.mp h889
    refine cs_X4_isPerson (by omega) hG (by omega) (fun r4 y891 y892 => ?_)
    refine ⟨fun h893 => ?_, fun h894 => ?_⟩
    · have h893 := y892.mp h893
      have := i_lo p1
      have := i_hi p1
      refine ⟨vp_in_iff.mpr (by omega), ?_⟩
      have : (0 : Int32).toInt = 0 := rfl
      exact (key _) _ _ _ i (by first | omega | rfl | assumption) (by first | omega | rfl | assumption) (Nat.lt_succ_self _)
    · have h894 : ¬ _ := fun q => y892.mpr q h894
      exact k _ _ i
  · have h890 : ¬ _ := fun q => y888.mpr q h890
    exact k _ _ i
