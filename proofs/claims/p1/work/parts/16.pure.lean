/-! small methods that change nothing (written by program) -/
theorem cs_X4_isIn {Γ : Gx} {d : Nat} (hd : 1 ≤ d) (hG : GC Γ) {p1 p2 p3 : Int32} {lo hi : Int} (hlo : p2.toInt = lo) (hhi : p3.toInt = hi) {w : Wd} {Q : Int32 → Wd → Prop} (k : ∀ r : Int32, isZ r → (¬ r = 0 ↔ lo ≤ p1.toInt ∧ p1.toInt ≤ hi) → Q r w) : CI Γ d M_X4_isIn [.int p1, .int p2, .int p3] w Q := by
  obtain ⟨d, rfl⟩ : ∃ e, d = e + 1 := ⟨d - 1, by omega⟩
  refine con_X4_isIn hG ?_
  unfold wp_X4_isIn
  refine ⟨fun h1 => k _ iz_0 (iff0 ?_), fun h1 => ⟨fun h2 => k _ iz_0 (iff0 ?_), fun h2 => k _ iz_1 (iff1 ?_)⟩⟩
  · simp only [Int32.lt_iff_toInt_lt, Int32.le_iff_toInt_le, ← Int32.toInt_inj, Int32.reduceToInt] at h1
    omega
  · simp only [Int32.lt_iff_toInt_lt, Int32.le_iff_toInt_le, ← Int32.toInt_inj, Int32.reduceToInt] at h1 h2
    omega
  · simp only [Int32.lt_iff_toInt_lt, Int32.le_iff_toInt_le, ← Int32.toInt_inj, Int32.reduceToInt] at h1 h2
    omega

theorem cs_X5_within {Γ : Gx} {d : Nat} (hd : 1 ≤ d) (hG : GM Γ) {p1 p2 p3 : Int32} {lo hi : Int} (hlo : p2.toInt = lo) (hhi : p3.toInt = hi) {w : Wd} {Q : Int32 → Wd → Prop} (k : ∀ r : Int32, isZ r → (¬ r = 0 ↔ lo ≤ p1.toInt ∧ p1.toInt ≤ hi) → Q r w) : CI Γ d M_X5_within [.int p1, .int p2, .int p3] w Q := by
  obtain ⟨d, rfl⟩ : ∃ e, d = e + 1 := ⟨d - 1, by omega⟩
  refine con_X5_within hG ?_
  unfold wp_X5_within
  refine ⟨fun h1 => k _ iz_0 (iff0 ?_), fun h1 => ⟨fun h2 => k _ iz_0 (iff0 ?_), fun h2 => k _ iz_1 (iff1 ?_)⟩⟩
  · simp only [Int32.lt_iff_toInt_lt, Int32.le_iff_toInt_le, ← Int32.toInt_inj, Int32.reduceToInt] at h1
    omega
  · simp only [Int32.lt_iff_toInt_lt, Int32.le_iff_toInt_le, ← Int32.toInt_inj, Int32.reduceToInt] at h1 h2
    omega
  · simp only [Int32.lt_iff_toInt_lt, Int32.le_iff_toInt_le, ← Int32.toInt_inj, Int32.reduceToInt] at h1 h2
    omega

set_option maxRecDepth 20000 in
theorem cs_X4_isPerson {Γ : Gx} {d : Nat} (hd : 2 ≤ d) (hG : GC Γ) {p1 : Int32} {w : Wd} (hz : 0 ≤ (w 32 4).toInt ∧ (w 32 4).toInt ≤ 5) {Q : Int32 → Wd → Prop} (k : ∀ (r : Int32), (isZ r) → (¬ r = 0 ↔ (0 ≤ p1.toInt ∧ p1.toInt < (w 32 4).toInt)) → Q r w) : CI Γ d M_X4_isPerson [.ref (gad Γ 0), .int p1] w Q := by
  obtain ⟨d, rfl⟩ : ∃ e, d = e + 1 := ⟨d - 1, by omega⟩
  refine con_X4_isPerson hG ?_
  unfold wp_X4_isPerson
  have : (1 : Int32).toInt = 1 := rfl
  have := i_sub (x := (w 32 4)) (y := (1 : Int32)) (by omega) (by omega)
  refine cs_X4_isIn (by omega) hG (lo := 0) (hi := ((w 32 4) - (1 : Int32)).toInt) rfl rfl (fun r1 z1 p2 => ?_)
  refine ⟨z1, ?_⟩
  exact k _ z1 (p2.trans (by omega))

set_option maxRecDepth 20000 in
theorem cs_X4_areTwo {Γ : Gx} {d : Nat} (hd : 3 ≤ d) (hG : GC Γ) {p1 : Int32} {p2 : Int32} {w : Wd} (hz : 0 ≤ (w 32 4).toInt ∧ (w 32 4).toInt ≤ 5) {Q : Int32 → Wd → Prop} (k : ∀ (r : Int32), (isZ r) → (¬ r = 0 ↔ ((0 ≤ p1.toInt ∧ p1.toInt < (w 32 4).toInt) ∧ (0 ≤ p2.toInt ∧ p2.toInt < (w 32 4).toInt) ∧ ¬ p1.toInt = p2.toInt)) → Q r w) : CI Γ d M_X4_areTwo [.ref (gad Γ 0), .int p1, .int p2] w Q := by
  obtain ⟨d, rfl⟩ : ∃ e, d = e + 1 := ⟨d - 1, by omega⟩
  refine con_X4_areTwo hG ?_
  unfold wp_X4_areTwo
  refine cs_X4_isPerson (by omega) hG (by omega) (fun r1 p3 p4 => ?_)
  refine ⟨fun h5 => ?_, fun h6 => ?_⟩
  · have h5 : ¬ _ := fun q => p4.mpr q h5
    exact k _ iz_0 (iff0 (by omega))
  · have h6 := p4.mp h6
    refine cs_X4_isPerson (by omega) hG (by omega) (fun r4 p7 p8 => ?_)
    refine ⟨fun h9 => ?_, fun h10 => ?_⟩
    · have h9 : ¬ _ := fun q => p8.mpr q h9
      exact k _ iz_0 (iff0 (by omega))
    · have h10 := p8.mp h10
      refine ⟨fun h11 => ?_, fun h12 => ?_⟩
      · simp only [Int32.lt_iff_toInt_lt, Int32.le_iff_toInt_le, ← Int32.toInt_inj, Int32.reduceToInt] at h11
        exact k _ iz_0 (iff0 (by omega))
      · simp only [Int32.lt_iff_toInt_lt, Int32.le_iff_toInt_le, ← Int32.toInt_inj, Int32.reduceToInt] at h12
        exact k _ iz_1 (iff1 (by omega))

set_option maxRecDepth 20000 in
theorem cs_X4_isSheet {Γ : Gx} {d : Nat} (hd : 2 ≤ d) (hG : GC Γ) {p1 : Int32} {w : Wd} {Q : Int32 → Wd → Prop} (k : ∀ (r : Int32), (isZ r) → (¬ r = 0 ↔ (0 ≤ p1.toInt ∧ p1.toInt ≤ 3)) → Q r w) : CI Γ d M_X4_isSheet [.int p1] w Q := by
  obtain ⟨d, rfl⟩ : ∃ e, d = e + 1 := ⟨d - 1, by omega⟩
  refine con_X4_isSheet hG ?_
  unfold wp_X4_isSheet
  refine cs_X4_isIn (by omega) hG (lo := 0) (hi := 3) rfl rfl (fun r1 z13 p14 => ?_)
  refine ⟨z13, ?_⟩
  exact k _ z13 (p14.trans (by omega))

set_option maxRecDepth 20000 in
theorem cs_X4_isThere {Γ : Gx} {d : Nat} (hd : 3 ≤ d) (hG : GC Γ) {p1 : Int32} {p2 : Int32} {w : Wd} (hz : 0 ≤ (w 32 4).toInt ∧ (w 32 4).toInt ≤ 5) {Q : Int32 → Wd → Prop} (k : ∀ (r : Int32), (isZ r) → (¬ r = 0 ↔ (p1.toInt = 0 ∨ (p1.toInt = 1 ∧ 0 ≤ p2.toInt ∧ p2.toInt ≤ 7) ∨ (¬ p1.toInt = 0 ∧ ¬ p1.toInt = 1 ∧ 0 ≤ p2.toInt ∧ p2.toInt < (w 32 4).toInt))) → Q r w) : CI Γ d M_X4_isThere [.ref (gad Γ 0), .int p1, .int p2] w Q := by
  obtain ⟨d, rfl⟩ : ∃ e, d = e + 1 := ⟨d - 1, by omega⟩
  refine con_X4_isThere hG ?_
  unfold wp_X4_isThere
  refine ⟨fun h15 => ?_, fun h16 => ?_⟩
  · simp only [Int32.lt_iff_toInt_lt, Int32.le_iff_toInt_le, ← Int32.toInt_inj, Int32.reduceToInt] at h15
    refine ⟨fun h17 => ?_, fun h18 => ?_⟩
    · simp only [Int32.lt_iff_toInt_lt, Int32.le_iff_toInt_le, ← Int32.toInt_inj, Int32.reduceToInt] at h17
      refine cs_X4_isPerson (by omega) hG (by omega) (fun r3 p19 p20 => ?_)
      refine ⟨p19, ?_⟩
      exact k _ p19 (p20.trans (by omega))
    · simp only [Int32.lt_iff_toInt_lt, Int32.le_iff_toInt_le, ← Int32.toInt_inj, Int32.reduceToInt] at h18
      refine cs_X4_isIn (by omega) hG (lo := 0) (hi := 7) rfl rfl (fun r5 z21 p22 => ?_)
      refine ⟨z21, ?_⟩
      exact k _ z21 (p22.trans (by omega))
  · simp only [Int32.lt_iff_toInt_lt, Int32.le_iff_toInt_le, ← Int32.toInt_inj, Int32.reduceToInt] at h16
    exact k _ iz_1 (iff1 (by omega))

set_option maxRecDepth 20000 in
theorem cs_X4_fits {Γ : Gx} {d : Nat} (hd : 2 ≤ d) (hG : GC Γ) {p1 : Int32} {p2 : Int32} {w : Wd} {Q : Int32 → Wd → Prop} (k : ∀ (r : Int32), (isZ r) → (¬ r = 0 ↔ ((p1.toInt = 0 ∧ 0 ≤ p2.toInt ∧ p2.toInt ≤ 999) ∨ (p1.toInt = 1 ∧ 0 ≤ p2.toInt ∧ p2.toInt ≤ 1) ∨ (p1.toInt = 2 ∧ 0 ≤ p2.toInt ∧ p2.toInt ≤ 9) ∨ (¬ p1.toInt = 0 ∧ ¬ p1.toInt = 1 ∧ ¬ p1.toInt = 2 ∧ -20 ≤ p2.toInt ∧ p2.toInt ≤ 20))) → Q r w) : CI Γ d M_X4_fits [.int p1, .int p2] w Q := by
  obtain ⟨d, rfl⟩ : ∃ e, d = e + 1 := ⟨d - 1, by omega⟩
  refine con_X4_fits hG ?_
  unfold wp_X4_fits
  refine ⟨fun h23 => ?_, fun h24 => ?_, fun h25 => ?_, fun h26 => ?_⟩
  · simp only [Int32.lt_iff_toInt_lt, Int32.le_iff_toInt_le, ← Int32.toInt_inj, Int32.reduceToInt] at h23
    refine cs_X4_isIn (by omega) hG (lo := 0) (hi := 999) rfl rfl (fun r1 z27 p28 => ?_)
    refine ⟨z27, ?_⟩
    exact k _ z27 (p28.trans (by omega))
  · simp only [Int32.lt_iff_toInt_lt, Int32.le_iff_toInt_le, ← Int32.toInt_inj, Int32.reduceToInt] at h24
    refine cs_X4_isIn (by omega) hG (lo := 0) (hi := 1) rfl rfl (fun r3 z29 p30 => ?_)
    refine ⟨z29, ?_⟩
    exact k _ z29 (p30.trans (by omega))
  · simp only [Int32.lt_iff_toInt_lt, Int32.le_iff_toInt_le, ← Int32.toInt_inj, Int32.reduceToInt] at h25
    refine cs_X4_isIn (by omega) hG (lo := 0) (hi := 9) rfl rfl (fun r5 z31 p32 => ?_)
    refine ⟨z31, ?_⟩
    exact k _ z31 (p32.trans (by omega))
  · simp only [Int32.lt_iff_toInt_lt, Int32.le_iff_toInt_le, ← Int32.toInt_inj, Int32.reduceToInt] at h26
    refine cs_X4_isIn (by omega) hG (lo := -20) (hi := 20) rfl rfl (fun r7 z33 p34 => ?_)
    refine ⟨z33, ?_⟩
    exact k _ z33 (p34.trans (by omega))

set_option maxRecDepth 20000 in
theorem cs_X4_plainly {Γ : Gx} {d : Nat} (hd : 1 ≤ d) (hG : GC Γ) {p1 : Int32} {p2 : Int32} {w : Wd} (hp : p1.toInt = 0 ∨ p1.toInt = 1 ∨ (0 ≤ p2.toInt ∧ p2.toInt < 5)) {Q : Int32 → Wd → Prop} (k : ∀ (r : Int32), (p1.toInt = 0 → r = w 32 6) → (p1.toInt = 1 → r = (w 32 5 >>> (p2 &&& 31)) &&& 1) → Q r w) : CI Γ d M_X4_plainly [.ref (gad Γ 0), .int p1, .int p2] w Q := by
  obtain ⟨d, rfl⟩ : ∃ e, d = e + 1 := ⟨d - 1, by omega⟩
  refine con_X4_plainly hG ?_
  unfold wp_X4_plainly
  refine ⟨fun h35 => ?_, fun h36 => ?_, fun h37 => ?_, fun h38 => ?_⟩
  · simp only [Int32.lt_iff_toInt_lt, Int32.le_iff_toInt_le, ← Int32.toInt_inj, Int32.reduceToInt] at h35
    refine k _ (fun q => ?_) (fun q => ?_) <;> first | rfl | (exfalso; omega)
  · simp only [Int32.lt_iff_toInt_lt, Int32.le_iff_toInt_le, ← Int32.toInt_inj, Int32.reduceToInt] at h36
    refine k _ (fun q => ?_) (fun q => ?_) <;> first | rfl | (exfalso; omega)
  · simp only [Int32.lt_iff_toInt_lt, Int32.le_iff_toInt_le, ← Int32.toInt_inj, Int32.reduceToInt] at h37
    refine ⟨vp_in_iff.mpr (by omega), ?_⟩
    refine k _ (fun q => ?_) (fun q => ?_) <;> first | rfl | (exfalso; omega)
  · simp only [Int32.lt_iff_toInt_lt, Int32.le_iff_toInt_le, ← Int32.toInt_inj, Int32.reduceToInt] at h38
    refine ⟨vp_in_iff.mpr (by omega), ?_⟩
    refine k _ (fun q => ?_) (fun q => ?_) <;> first | rfl | (exfalso; omega)

set_option maxRecDepth 20000 in
theorem cs_X2_isMissing {Γ : Gx} {d : Nat} (hd : 1 ≤ d) (hG : GC Γ) {t : Nat} (hT : ShS Γ t) {w : Wd} {Q : Int32 → Wd → Prop} (k : ∀ (r : Int32), (isZ r) → (¬ r = 0 ↔ (w t 1).toInt = -1) → Q r w) : CI Γ d M_X2_isMissing [.ref (gad Γ t)] w Q := by
  obtain ⟨d, rfl⟩ : ∃ e, d = e + 1 := ⟨d - 1, by omega⟩
  refine con_X2_isMissing hG hT ?_
  unfold wp_X2_isMissing
  refine ⟨fun h39 => ?_, fun h40 => ?_⟩
  · simp only [Int32.lt_iff_toInt_lt, Int32.le_iff_toInt_le, ← Int32.toInt_inj, Int32.reduceToInt] at h39
    exact k _ iz_0 (iff0 (by omega))
  · simp only [Int32.lt_iff_toInt_lt, Int32.le_iff_toInt_le, ← Int32.toInt_inj, Int32.reduceToInt] at h40
    exact k _ iz_1 (iff1 (by omega))

set_option maxRecDepth 20000 in
theorem cs_X2_hasItem {Γ : Gx} {d : Nat} (hd : 1 ≤ d) (hG : GC Γ) {t : Nat} {p1 : Int32} (hT : ShS Γ t) {w : Wd} {Q : Int32 → Wd → Prop} (k : ∀ (r : Int32), (isZ r) → (¬ r = 0 ↔ (0 ≤ p1.toInt ∧ p1.toInt < (w t 2).toInt)) → Q r w) : CI Γ d M_X2_hasItem [.ref (gad Γ t), .int p1] w Q := by
  obtain ⟨d, rfl⟩ : ∃ e, d = e + 1 := ⟨d - 1, by omega⟩
  refine con_X2_hasItem hG hT ?_
  unfold wp_X2_hasItem
  refine ⟨fun h41 => ?_, fun h42 => ?_⟩
  · simp only [Int32.lt_iff_toInt_lt, Int32.le_iff_toInt_le, ← Int32.toInt_inj, Int32.reduceToInt] at h41
    exact k _ iz_0 (iff0 (by omega))
  · simp only [Int32.lt_iff_toInt_lt, Int32.le_iff_toInt_le, ← Int32.toInt_inj, Int32.reduceToInt] at h42
    refine ⟨fun h43 => ?_, fun h44 => ?_⟩
    · simp only [Int32.lt_iff_toInt_lt, Int32.le_iff_toInt_le, ← Int32.toInt_inj, Int32.reduceToInt] at h43
      exact k _ iz_0 (iff0 (by omega))
    · simp only [Int32.lt_iff_toInt_lt, Int32.le_iff_toInt_le, ← Int32.toInt_inj, Int32.reduceToInt] at h44
      exact k _ iz_1 (iff1 (by omega))

set_option maxRecDepth 20000 in
theorem cs_X2_hasPiece {Γ : Gx} {d : Nat} (hd : 1 ≤ d) (hG : GC Γ) {t : Nat} {p1 : Int32} {p2 : Int32} (hT : ShS Γ t) {w : Wd} (hz : 0 ≤ (w t 2).toInt ∧ (w t 2).toInt ≤ 40) {Q : Int32 → Wd → Prop} (k : ∀ (r : Int32), (isZ r) → (¬ r = 0 ↔ (0 ≤ p1.toInt ∧ 0 ≤ p2.toInt ∧ p1.toInt ≤ (w t 2).toInt - p2.toInt)) → Q r w) : CI Γ d M_X2_hasPiece [.ref (gad Γ t), .int p1, .int p2] w Q := by
  obtain ⟨d, rfl⟩ : ∃ e, d = e + 1 := ⟨d - 1, by omega⟩
  refine con_X2_hasPiece hG hT ?_
  unfold wp_X2_hasPiece
  refine ⟨fun h45 => ?_, fun h46 => ?_⟩
  · simp only [Int32.lt_iff_toInt_lt, Int32.le_iff_toInt_le, ← Int32.toInt_inj, Int32.reduceToInt] at h45
    exact k _ iz_0 (iff0 (by omega))
  · simp only [Int32.lt_iff_toInt_lt, Int32.le_iff_toInt_le, ← Int32.toInt_inj, Int32.reduceToInt] at h46
    refine ⟨fun h47 => ?_, fun h48 => ?_⟩
    · simp only [Int32.lt_iff_toInt_lt, Int32.le_iff_toInt_le, ← Int32.toInt_inj, Int32.reduceToInt] at h47
      exact k _ iz_0 (iff0 (by omega))
    · simp only [Int32.lt_iff_toInt_lt, Int32.le_iff_toInt_le, ← Int32.toInt_inj, Int32.reduceToInt] at h48
      refine ⟨fun h49 => ?_, fun h50 => ?_⟩
      · have := i_sub (x := (w t 2)) (y := p2) (by omega) (by omega)
        simp only [Int32.lt_iff_toInt_lt, Int32.le_iff_toInt_le, ← Int32.toInt_inj, Int32.reduceToInt] at h49
        exact k _ iz_0 (iff0 (by omega))
      · have := i_sub (x := (w t 2)) (y := p2) (by omega) (by omega)
        simp only [Int32.lt_iff_toInt_lt, Int32.le_iff_toInt_le, ← Int32.toInt_inj, Int32.reduceToInt] at h50
        exact k _ iz_1 (iff1 (by omega))

set_option maxRecDepth 20000 in
theorem cs_X5_isOne {Γ : Gx} {d : Nat} (hd : 2 ≤ d) (hG : GM Γ) {p1 : Int32} {w : Wd} (hz : 0 ≤ (w 0 2).toInt ∧ (w 0 2).toInt ≤ 5) {Q : Int32 → Wd → Prop} (k : ∀ (r : Int32), (isZ r) → (¬ r = 0 ↔ (0 ≤ p1.toInt ∧ p1.toInt < (w 0 2).toInt)) → Q r w) : CI Γ d M_X5_isOne [.ref (gad Γ 0), .int p1] w Q := by
  obtain ⟨d, rfl⟩ : ∃ e, d = e + 1 := ⟨d - 1, by omega⟩
  refine con_X5_isOne hG ?_
  unfold wp_X5_isOne
  have : (1 : Int32).toInt = 1 := rfl
  have := i_sub (x := (w 0 2)) (y := (1 : Int32)) (by omega) (by omega)
  refine cs_X5_within (by omega) hG (lo := 0) (hi := ((w 0 2) - (1 : Int32)).toInt) rfl rfl (fun r1 z51 p52 => ?_)
  refine ⟨z51, ?_⟩
  exact k _ z51 (p52.trans (by omega))

set_option maxRecDepth 20000 in
theorem cs_X5_areTwo {Γ : Gx} {d : Nat} (hd : 3 ≤ d) (hG : GM Γ) {p1 : Int32} {p2 : Int32} {w : Wd} (hz : 0 ≤ (w 0 2).toInt ∧ (w 0 2).toInt ≤ 5) {Q : Int32 → Wd → Prop} (k : ∀ (r : Int32), (isZ r) → (¬ r = 0 ↔ ((0 ≤ p1.toInt ∧ p1.toInt < (w 0 2).toInt) ∧ (0 ≤ p2.toInt ∧ p2.toInt < (w 0 2).toInt) ∧ ¬ p1.toInt = p2.toInt)) → Q r w) : CI Γ d M_X5_areTwo [.ref (gad Γ 0), .int p1, .int p2] w Q := by
  obtain ⟨d, rfl⟩ : ∃ e, d = e + 1 := ⟨d - 1, by omega⟩
  refine con_X5_areTwo hG ?_
  unfold wp_X5_areTwo
  refine cs_X5_isOne (by omega) hG (by omega) (fun r1 p53 p54 => ?_)
  refine ⟨fun h55 => ?_, fun h56 => ?_⟩
  · have h55 : ¬ _ := fun q => p54.mpr q h55
    exact k _ iz_0 (iff0 (by omega))
  · have h56 := p54.mp h56
    refine cs_X5_isOne (by omega) hG (by omega) (fun r4 p57 p58 => ?_)
    refine ⟨fun h59 => ?_, fun h60 => ?_⟩
    · have h59 : ¬ _ := fun q => p58.mpr q h59
      exact k _ iz_0 (iff0 (by omega))
    · have h60 := p58.mp h60
      refine ⟨fun h61 => ?_, fun h62 => ?_⟩
      · simp only [Int32.lt_iff_toInt_lt, Int32.le_iff_toInt_le, ← Int32.toInt_inj, Int32.reduceToInt] at h61
        exact k _ iz_0 (iff0 (by omega))
      · simp only [Int32.lt_iff_toInt_lt, Int32.le_iff_toInt_le, ← Int32.toInt_inj, Int32.reduceToInt] at h62
        exact k _ iz_1 (iff1 (by omega))

set_option maxRecDepth 20000 in
theorem cs_X5_isSheet {Γ : Gx} {d : Nat} (hd : 2 ≤ d) (hG : GM Γ) {p1 : Int32} {w : Wd} {Q : Int32 → Wd → Prop} (k : ∀ (r : Int32), (isZ r) → (¬ r = 0 ↔ (0 ≤ p1.toInt ∧ p1.toInt ≤ 3)) → Q r w) : CI Γ d M_X5_isSheet [.int p1] w Q := by
  obtain ⟨d, rfl⟩ : ∃ e, d = e + 1 := ⟨d - 1, by omega⟩
  refine con_X5_isSheet hG ?_
  unfold wp_X5_isSheet
  refine cs_X5_within (by omega) hG (lo := 0) (hi := 3) rfl rfl (fun r1 z63 p64 => ?_)
  refine ⟨z63, ?_⟩
  exact k _ z63 (p64.trans (by omega))

set_option maxRecDepth 20000 in
theorem cs_X5_isLayer {Γ : Gx} {d : Nat} (hd : 2 ≤ d) (hG : GM Γ) {p1 : Int32} {w : Wd} {Q : Int32 → Wd → Prop} (k : ∀ (r : Int32), (isZ r) → (¬ r = 0 ↔ (0 ≤ p1.toInt ∧ p1.toInt ≤ 7)) → Q r w) : CI Γ d M_X5_isLayer [.int p1] w Q := by
  obtain ⟨d, rfl⟩ : ∃ e, d = e + 1 := ⟨d - 1, by omega⟩
  refine con_X5_isLayer hG ?_
  unfold wp_X5_isLayer
  refine cs_X5_within (by omega) hG (lo := 0) (hi := 7) rfl rfl (fun r1 z65 p66 => ?_)
  refine ⟨z65, ?_⟩
  exact k _ z65 (p66.trans (by omega))

set_option maxRecDepth 20000 in
theorem cs_X5_isOf {Γ : Gx} {d : Nat} (hd : 3 ≤ d) (hG : GM Γ) {p1 : Int32} {p2 : Int32} {w : Wd} (hz : 0 ≤ (w 0 2).toInt ∧ (w 0 2).toInt ≤ 5) {Q : Int32 → Wd → Prop} (k : ∀ (r : Int32), (isZ r) → (¬ r = 0 ↔ (p1.toInt = 0 ∨ (p1.toInt = 1 ∧ 0 ≤ p2.toInt ∧ p2.toInt ≤ 7) ∨ (2 ≤ p1.toInt ∧ p1.toInt ≤ 3 ∧ 0 ≤ p2.toInt ∧ p2.toInt < (w 0 2).toInt))) → Q r w) : CI Γ d M_X5_isOf [.ref (gad Γ 0), .int p1, .int p2] w Q := by
  obtain ⟨d, rfl⟩ : ∃ e, d = e + 1 := ⟨d - 1, by omega⟩
  refine con_X5_isOf hG ?_
  unfold wp_X5_isOf
  refine ⟨fun h67 => ?_, fun h68 => ?_⟩
  · simp only [Int32.lt_iff_toInt_lt, Int32.le_iff_toInt_le, ← Int32.toInt_inj, Int32.reduceToInt] at h67
    exact k _ iz_1 (iff1 (by omega))
  · simp only [Int32.lt_iff_toInt_lt, Int32.le_iff_toInt_le, ← Int32.toInt_inj, Int32.reduceToInt] at h68
    refine ⟨fun h69 => ?_, fun h70 => ?_⟩
    · simp only [Int32.lt_iff_toInt_lt, Int32.le_iff_toInt_le, ← Int32.toInt_inj, Int32.reduceToInt] at h69
      refine cs_X5_within (by omega) hG (lo := 2) (hi := 3) rfl rfl (fun r3 z71 p72 => ?_)
      refine ⟨fun h73 => ?_, fun h74 => ?_⟩
      · have h73 : ¬ _ := fun q => p72.mpr q h73
        exact k _ iz_0 (iff0 (by omega))
      · have h74 := p72.mp h74
        refine cs_X5_isOne (by omega) hG (by omega) (fun r6 p75 p76 => ?_)
        refine ⟨fun h77 => ?_, fun h78 => ?_⟩
        · have h77 : ¬ _ := fun q => p76.mpr q h77
          exact k _ iz_0 (iff0 (by omega))
        · have h78 := p76.mp h78
          exact k _ iz_1 (iff1 (by omega))
    · simp only [Int32.lt_iff_toInt_lt, Int32.le_iff_toInt_le, ← Int32.toInt_inj, Int32.reduceToInt] at h70
      refine cs_X5_isLayer (by omega) hG (fun r9 p79 p80 => ?_)
      refine ⟨fun h81 => ?_, fun h82 => ?_⟩
      · have h81 : ¬ _ := fun q => p80.mpr q h81
        exact k _ iz_0 (iff0 (by omega))
      · have h82 := p80.mp h82
        exact k _ iz_1 (iff1 (by omega))

set_option maxRecDepth 20000 in
theorem cs_X5_isFit {Γ : Gx} {d : Nat} (hd : 2 ≤ d) (hG : GM Γ) {p1 : Int32} {p2 : Int32} {w : Wd} {Q : Int32 → Wd → Prop} (k : ∀ (r : Int32), (isZ r) → (¬ r = 0 ↔ ((p1.toInt = 0 ∧ 0 ≤ p2.toInt ∧ p2.toInt ≤ 999) ∨ (p1.toInt = 1 ∧ 0 ≤ p2.toInt ∧ p2.toInt ≤ 1) ∨ (p1.toInt = 2 ∧ 0 ≤ p2.toInt ∧ p2.toInt ≤ 9) ∨ (¬ p1.toInt = 0 ∧ ¬ p1.toInt = 1 ∧ ¬ p1.toInt = 2 ∧ -20 ≤ p2.toInt ∧ p2.toInt ≤ 20))) → Q r w) : CI Γ d M_X5_isFit [.int p1, .int p2] w Q := by
  obtain ⟨d, rfl⟩ : ∃ e, d = e + 1 := ⟨d - 1, by omega⟩
  refine con_X5_isFit hG ?_
  unfold wp_X5_isFit
  refine ⟨fun h83 => ?_, fun h84 => ?_, fun h85 => ?_, fun h86 => ?_⟩
  · simp only [Int32.lt_iff_toInt_lt, Int32.le_iff_toInt_le, ← Int32.toInt_inj, Int32.reduceToInt] at h83
    refine cs_X5_within (by omega) hG (lo := 0) (hi := 999) rfl rfl (fun r1 z87 p88 => ?_)
    refine ⟨z87, ?_⟩
    exact k _ z87 (p88.trans (by omega))
  · simp only [Int32.lt_iff_toInt_lt, Int32.le_iff_toInt_le, ← Int32.toInt_inj, Int32.reduceToInt] at h84
    refine cs_X5_within (by omega) hG (lo := 0) (hi := 1) rfl rfl (fun r3 z89 p90 => ?_)
    refine ⟨z89, ?_⟩
    exact k _ z89 (p90.trans (by omega))
  · simp only [Int32.lt_iff_toInt_lt, Int32.le_iff_toInt_le, ← Int32.toInt_inj, Int32.reduceToInt] at h85
    refine cs_X5_within (by omega) hG (lo := 0) (hi := 9) rfl rfl (fun r5 z91 p92 => ?_)
    refine ⟨z91, ?_⟩
    exact k _ z91 (p92.trans (by omega))
  · simp only [Int32.lt_iff_toInt_lt, Int32.le_iff_toInt_le, ← Int32.toInt_inj, Int32.reduceToInt] at h86
    refine cs_X5_within (by omega) hG (lo := -20) (hi := 20) rfl rfl (fun r7 z93 p94 => ?_)
    refine ⟨z93, ?_⟩
    exact k _ z93 (p94.trans (by omega))

set_option maxRecDepth 20000 in
theorem cs_X5_get {Γ : Gx} {d : Nat} (hd : 1 ≤ d) (hG : GM Γ) {p1 : Int32} {p2 : Int32} {w : Wd} (hp : p1.toInt = 0 ∨ (p1.toInt = 1 ∧ 0 ≤ p2.toInt ∧ p2.toInt < 8) ∨ (¬ p1.toInt = 1 ∧ 0 ≤ p2.toInt ∧ p2.toInt < 5)) {Q : Int32 → Wd → Prop} (k : ∀ (r : Int32), (p1.toInt = 0 → r = w 0 0) → (p1.toInt = 1 → (r = 0 ∧ (w 1 p2.toNatClampNeg).toInt = 0) ∨ (r = 1 ∧ ¬ (w 1 p2.toNatClampNeg).toInt = 0)) → Q r w) : CI Γ d M_X5_get [.ref (gad Γ 0), .int p1, .int p2] w Q := by
  obtain ⟨d, rfl⟩ : ∃ e, d = e + 1 := ⟨d - 1, by omega⟩
  refine con_X5_get hG ?_
  unfold wp_X5_get
  refine ⟨fun h95 => ?_, fun h96 => ?_, fun h97 => ?_, fun h98 => ?_⟩
  · simp only [Int32.lt_iff_toInt_lt, Int32.le_iff_toInt_le, ← Int32.toInt_inj, Int32.reduceToInt] at h95
    refine k _ (fun q => ?_) (fun q => ?_) <;> first | rfl | (exfalso; omega) | exact Or.inl ⟨rfl, by assumption⟩ | exact Or.inr ⟨rfl, by assumption⟩
  · simp only [Int32.lt_iff_toInt_lt, Int32.le_iff_toInt_le, ← Int32.toInt_inj, Int32.reduceToInt] at h96
    refine ⟨vp_in_iff.mpr (by omega), ?_⟩
    refine ⟨fun h99 => ?_, fun h100 => ?_⟩
    · simp only [Int32.lt_iff_toInt_lt, Int32.le_iff_toInt_le, ← Int32.toInt_inj, Int32.reduceToInt] at h99
      refine k _ (fun q => ?_) (fun q => ?_) <;> first | rfl | (exfalso; omega) | exact Or.inl ⟨rfl, by assumption⟩ | exact Or.inr ⟨rfl, by assumption⟩
    · simp only [Int32.lt_iff_toInt_lt, Int32.le_iff_toInt_le, ← Int32.toInt_inj, Int32.reduceToInt] at h100
      refine k _ (fun q => ?_) (fun q => ?_) <;> first | rfl | (exfalso; omega) | exact Or.inl ⟨rfl, by assumption⟩ | exact Or.inr ⟨rfl, by assumption⟩
  · simp only [Int32.lt_iff_toInt_lt, Int32.le_iff_toInt_le, ← Int32.toInt_inj, Int32.reduceToInt] at h97
    refine ⟨vp_in_iff.mpr (by omega), ?_⟩
    refine k _ (fun q => ?_) (fun q => ?_) <;> first | rfl | (exfalso; omega) | exact Or.inl ⟨rfl, by assumption⟩ | exact Or.inr ⟨rfl, by assumption⟩
  · simp only [Int32.lt_iff_toInt_lt, Int32.le_iff_toInt_le, ← Int32.toInt_inj, Int32.reduceToInt] at h98
    refine ⟨vp_in_iff.mpr (by omega), ?_⟩
    refine k _ (fun q => ?_) (fun q => ?_) <;> first | rfl | (exfalso; omega) | exact Or.inl ⟨rfl, by assumption⟩ | exact Or.inr ⟨rfl, by assumption⟩

set_option maxRecDepth 20000 in
theorem cs_X5_isLetter {Γ : Gx} {d : Nat} (hd : 1 ≤ d) (hG : GM Γ) {p1 : Int32} {w : Wd} {Q : Int32 → Wd → Prop} (k : ∀ (r : Int32), (isZ r) → (¬ r = 0 ↔ (97 ≤ p1.toInt ∧ p1.toInt ≤ 122)) → Q r w) : CI Γ d M_X5_isLetter [.int p1] w Q := by
  obtain ⟨d, rfl⟩ : ∃ e, d = e + 1 := ⟨d - 1, by omega⟩
  refine con_X5_isLetter hG ?_
  unfold wp_X5_isLetter
  refine ⟨fun h101 => ?_, fun h102 => ?_⟩
  · simp only [Int32.lt_iff_toInt_lt, Int32.le_iff_toInt_le, ← Int32.toInt_inj, Int32.reduceToInt] at h101
    exact k _ iz_0 (iff0 (by omega))
  · simp only [Int32.lt_iff_toInt_lt, Int32.le_iff_toInt_le, ← Int32.toInt_inj, Int32.reduceToInt] at h102
    refine ⟨fun h103 => ?_, fun h104 => ?_⟩
    · simp only [Int32.lt_iff_toInt_lt, Int32.le_iff_toInt_le, ← Int32.toInt_inj, Int32.reduceToInt] at h103
      exact k _ iz_0 (iff0 (by omega))
    · simp only [Int32.lt_iff_toInt_lt, Int32.le_iff_toInt_le, ← Int32.toInt_inj, Int32.reduceToInt] at h104
      exact k _ iz_1 (iff1 (by omega))

set_option maxRecDepth 20000 in
theorem cs_X5_isDigit {Γ : Gx} {d : Nat} (hd : 1 ≤ d) (hG : GM Γ) {p1 : Int32} {w : Wd} {Q : Int32 → Wd → Prop} (k : ∀ (r : Int32), (isZ r) → (¬ r = 0 ↔ (48 ≤ p1.toInt ∧ p1.toInt ≤ 57)) → Q r w) : CI Γ d M_X5_isDigit [.int p1] w Q := by
  obtain ⟨d, rfl⟩ : ∃ e, d = e + 1 := ⟨d - 1, by omega⟩
  refine con_X5_isDigit hG ?_
  unfold wp_X5_isDigit
  refine ⟨fun h105 => ?_, fun h106 => ?_⟩
  · simp only [Int32.lt_iff_toInt_lt, Int32.le_iff_toInt_le, ← Int32.toInt_inj, Int32.reduceToInt] at h105
    exact k _ iz_0 (iff0 (by omega))
  · simp only [Int32.lt_iff_toInt_lt, Int32.le_iff_toInt_le, ← Int32.toInt_inj, Int32.reduceToInt] at h106
    refine ⟨fun h107 => ?_, fun h108 => ?_⟩
    · simp only [Int32.lt_iff_toInt_lt, Int32.le_iff_toInt_le, ← Int32.toInt_inj, Int32.reduceToInt] at h107
      exact k _ iz_0 (iff0 (by omega))
    · simp only [Int32.lt_iff_toInt_lt, Int32.le_iff_toInt_le, ← Int32.toInt_inj, Int32.reduceToInt] at h108
      exact k _ iz_1 (iff1 (by omega))
