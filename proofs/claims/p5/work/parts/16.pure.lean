/-! small methods that change nothing (written by program) -/
theorem cs_X4_isIn {Γ : Gx} {d : Nat} (hd : 1 ≤ d) (hG : GC Γ) {p1 p2 p3 : Int32} {lo hi : Int} (hlo : p2.toInt = lo) (hhi : p3.toInt = hi) {w : Wd} {Q : Int32 → Wd → Prop} (k : ∀ r : Int32, isZ r → (¬ r = 0 ↔ lo ≤ p1.toInt ∧ p1.toInt ≤ hi) → Q r w) : CI Γ d M_X4_isIn [.int p1, .int p2, .int p3] w Q := by
  obtain ⟨d, rfl⟩ : ∃ e, d = e + 1 := ⟨d - 1, by omega⟩
  refine con_X4_isIn hG ?_
  unfold wp_X4_isIn
  refine ⟨fun h1 => k _ iz_0 (iff0 ?_), fun h1 => ⟨fun h2 => k _ iz_0 (iff0 ?_), fun h2 => k _ iz_1 (iff1 ?_)⟩⟩
  · simp only [Int32.lt_iff_toInt_lt, Int32.le_iff_toInt_le, ← Int32.toInt_inj, Int32.reduceToInt] at h1
    omega
  · simp only [Int32.lt_iff_toInt_lt, Int32.le_iff_toInt_le, ← Int32.toInt_inj, Int32.reduceToInt] at h1 h2
    omega
  · simp only [Int32.lt_iff_toInt_lt, Int32.le_iff_toInt_le, ← Int32.toInt_inj, Int32.reduceToInt] at h1 h2
    omega

theorem cs_X5_within {Γ : Gx} {d : Nat} (hd : 1 ≤ d) (hG : GM Γ) {p1 p2 p3 : Int32} {lo hi : Int} (hlo : p2.toInt = lo) (hhi : p3.toInt = hi) {w : Wd} {Q : Int32 → Wd → Prop} (k : ∀ r : Int32, isZ r → (¬ r = 0 ↔ lo ≤ p1.toInt ∧ p1.toInt ≤ hi) → Q r w) : CI Γ d M_X5_within [.int p1, .int p2, .int p3] w Q := by
  obtain ⟨d, rfl⟩ : ∃ e, d = e + 1 := ⟨d - 1, by omega⟩
  refine con_X5_within hG ?_
  unfold wp_X5_within
  refine ⟨fun h1 => k _ iz_0 (iff0 ?_), fun h1 => ⟨fun h2 => k _ iz_0 (iff0 ?_), fun h2 => k _ iz_1 (iff1 ?_)⟩⟩
  · simp only [Int32.lt_iff_toInt_lt, Int32.le_iff_toInt_le, ← Int32.toInt_inj, Int32.reduceToInt] at h1
    omega
  · simp only [Int32.lt_iff_toInt_lt, Int32.le_iff_toInt_le, ← Int32.toInt_inj, Int32.reduceToInt] at h1 h2
    omega
  · simp only [Int32.lt_iff_toInt_lt, Int32.le_iff_toInt_le, ← Int32.toInt_inj, Int32.reduceToInt] at h1 h2
    omega

set_option maxRecDepth 20000 in
theorem cs_X4_isPerson {Γ : Gx} {d : Nat} (hd : 2 ≤ d) (hG : GC Γ) {p1 : Int32} {w : Wd} (hz : 0 ≤ (w 32 4).toInt ∧ (w 32 4).toInt ≤ 5) {Q : Int32 → Wd → Prop} (k : ∀ (r : Int32), (isZ r) → (¬ r = 0 ↔ (0 ≤ p1.toInt ∧ p1.toInt < (w 32 4).toInt)) → Q r w) : CI Γ d M_X4_isPerson [.ref (gad Γ 0), .int p1] w Q := by
  obtain ⟨d, rfl⟩ : ∃ e, d = e + 1 := ⟨d - 1, by omega⟩
  refine con_X4_isPerson hG ?_
  unfold wp_X4_isPerson
  have := i_lo (w 32 4)
  have := i_hi (w 32 4)
  have : (1 : Int32).toInt = 1 := rfl
  have := i_sub (x := (w 32 4)) (y := (1 : Int32)) (by omega) (by omega)
  refine cs_X4_isIn (by omega) hG (lo := 0) (hi := ((w 32 4) - (1 : Int32)).toInt) rfl rfl (fun r1 z101 y102 => ?_)
  refine ⟨z101, ?_⟩
  exact k _ z101 (y102.trans (by omega))

set_option maxRecDepth 20000 in
theorem cs_X4_areTwo {Γ : Gx} {d : Nat} (hd : 3 ≤ d) (hG : GC Γ) {p1 : Int32} {p2 : Int32} {w : Wd} (hz : 0 ≤ (w 32 4).toInt ∧ (w 32 4).toInt ≤ 5) {Q : Int32 → Wd → Prop} (k : ∀ (r : Int32), (isZ r) → (¬ r = 0 ↔ ((0 ≤ p1.toInt ∧ p1.toInt < (w 32 4).toInt) ∧ (0 ≤ p2.toInt ∧ p2.toInt < (w 32 4).toInt) ∧ ¬ p1.toInt = p2.toInt)) → Q r w) : CI Γ d M_X4_areTwo [.ref (gad Γ 0), .int p1, .int p2] w Q := by
  obtain ⟨d, rfl⟩ : ∃ e, d = e + 1 := ⟨d - 1, by omega⟩
  refine con_X4_areTwo hG ?_
  unfold wp_X4_areTwo
  refine cs_X4_isPerson (by omega) hG (by omega) (fun r1 y103 y104 => ?_)
  refine ⟨fun h105 => ?_, fun h106 => ?_⟩
  · have h105 : ¬ _ := fun q => y104.mpr q h105
    exact k _ iz_0 (iff0 (by omega))
  · have h106 := y104.mp h106
    refine cs_X4_isPerson (by omega) hG (by omega) (fun r4 y107 y108 => ?_)
    refine ⟨fun h109 => ?_, fun h110 => ?_⟩
    · have h109 : ¬ _ := fun q => y108.mpr q h109
      exact k _ iz_0 (iff0 (by omega))
    · have h110 := y108.mp h110
      refine ⟨fun h111 => ?_, fun h112 => ?_⟩
      · simp only [Int32.lt_iff_toInt_lt, Int32.le_iff_toInt_le, ← Int32.toInt_inj, Int32.reduceToInt] at h111
        exact k _ iz_0 (iff0 (by omega))
      · simp only [Int32.lt_iff_toInt_lt, Int32.le_iff_toInt_le, ← Int32.toInt_inj, Int32.reduceToInt] at h112
        exact k _ iz_1 (iff1 (by omega))

set_option maxRecDepth 20000 in
theorem cs_X4_isSheet {Γ : Gx} {d : Nat} (hd : 2 ≤ d) (hG : GC Γ) {p1 : Int32} {w : Wd} {Q : Int32 → Wd → Prop} (k : ∀ (r : Int32), (isZ r) → (¬ r = 0 ↔ (0 ≤ p1.toInt ∧ p1.toInt ≤ 3)) → Q r w) : CI Γ d M_X4_isSheet [.int p1] w Q := by
  obtain ⟨d, rfl⟩ : ∃ e, d = e + 1 := ⟨d - 1, by omega⟩
  refine con_X4_isSheet hG ?_
  unfold wp_X4_isSheet
  refine cs_X4_isIn (by omega) hG (lo := 0) (hi := 3) rfl rfl (fun r1 z113 y114 => ?_)
  refine ⟨z113, ?_⟩
  exact k _ z113 (y114.trans (by omega))

set_option maxRecDepth 20000 in
theorem cs_X4_isThere {Γ : Gx} {d : Nat} (hd : 3 ≤ d) (hG : GC Γ) {p1 : Int32} {p2 : Int32} {w : Wd} (hz : 0 ≤ (w 32 4).toInt ∧ (w 32 4).toInt ≤ 5) {Q : Int32 → Wd → Prop} (k : ∀ (r : Int32), (isZ r) → (¬ r = 0 ↔ (p1.toInt = 0 ∨ (p1.toInt = 1 ∧ 0 ≤ p2.toInt ∧ p2.toInt ≤ 7) ∨ (¬ p1.toInt = 0 ∧ ¬ p1.toInt = 1 ∧ 0 ≤ p2.toInt ∧ p2.toInt < (w 32 4).toInt))) → Q r w) : CI Γ d M_X4_isThere [.ref (gad Γ 0), .int p1, .int p2] w Q := by
  obtain ⟨d, rfl⟩ : ∃ e, d = e + 1 := ⟨d - 1, by omega⟩
  refine con_X4_isThere hG ?_
  unfold wp_X4_isThere
  refine ⟨fun h115 => ?_, fun h116 => ?_⟩
  · simp only [Int32.lt_iff_toInt_lt, Int32.le_iff_toInt_le, ← Int32.toInt_inj, Int32.reduceToInt] at h115
    refine ⟨fun h117 => ?_, fun h118 => ?_⟩
    · simp only [Int32.lt_iff_toInt_lt, Int32.le_iff_toInt_le, ← Int32.toInt_inj, Int32.reduceToInt] at h117
      refine cs_X4_isPerson (by omega) hG (by omega) (fun r3 y119 y120 => ?_)
      refine ⟨y119, ?_⟩
      exact k _ y119 (y120.trans (by omega))
    · simp only [Int32.lt_iff_toInt_lt, Int32.le_iff_toInt_le, ← Int32.toInt_inj, Int32.reduceToInt] at h118
      refine cs_X4_isIn (by omega) hG (lo := 0) (hi := 7) rfl rfl (fun r5 z121 y122 => ?_)
      refine ⟨z121, ?_⟩
      exact k _ z121 (y122.trans (by omega))
  · simp only [Int32.lt_iff_toInt_lt, Int32.le_iff_toInt_le, ← Int32.toInt_inj, Int32.reduceToInt] at h116
    exact k _ iz_1 (iff1 (by omega))

set_option maxRecDepth 20000 in
theorem cs_X4_fits {Γ : Gx} {d : Nat} (hd : 2 ≤ d) (hG : GC Γ) {p1 : Int32} {p2 : Int32} {w : Wd} {Q : Int32 → Wd → Prop} (k : ∀ (r : Int32), (isZ r) → (¬ r = 0 ↔ ((p1.toInt = 0 ∧ 0 ≤ p2.toInt ∧ p2.toInt ≤ 999) ∨ (p1.toInt = 1 ∧ 0 ≤ p2.toInt ∧ p2.toInt ≤ 1) ∨ (p1.toInt = 2 ∧ 0 ≤ p2.toInt ∧ p2.toInt ≤ 9) ∨ (¬ p1.toInt = 0 ∧ ¬ p1.toInt = 1 ∧ ¬ p1.toInt = 2 ∧ -20 ≤ p2.toInt ∧ p2.toInt ≤ 20))) → Q r w) : CI Γ d M_X4_fits [.int p1, .int p2] w Q := by
  obtain ⟨d, rfl⟩ : ∃ e, d = e + 1 := ⟨d - 1, by omega⟩
  refine con_X4_fits hG ?_
  unfold wp_X4_fits
  refine ⟨fun h123 => ?_, fun h124 => ?_, fun h125 => ?_, fun h126 => ?_⟩
  · simp only [Int32.lt_iff_toInt_lt, Int32.le_iff_toInt_le, ← Int32.toInt_inj, Int32.reduceToInt] at h123
    refine cs_X4_isIn (by omega) hG (lo := 0) (hi := 999) rfl rfl (fun r1 z127 y128 => ?_)
    refine ⟨z127, ?_⟩
    exact k _ z127 (y128.trans (by omega))
  · simp only [Int32.lt_iff_toInt_lt, Int32.le_iff_toInt_le, ← Int32.toInt_inj, Int32.reduceToInt] at h124
    refine cs_X4_isIn (by omega) hG (lo := 0) (hi := 1) rfl rfl (fun r3 z129 y130 => ?_)
    refine ⟨z129, ?_⟩
    exact k _ z129 (y130.trans (by omega))
  · simp only [Int32.lt_iff_toInt_lt, Int32.le_iff_toInt_le, ← Int32.toInt_inj, Int32.reduceToInt] at h125
    refine cs_X4_isIn (by omega) hG (lo := 0) (hi := 9) rfl rfl (fun r5 z131 y132 => ?_)
    refine ⟨z131, ?_⟩
    exact k _ z131 (y132.trans (by omega))
  · simp only [Int32.lt_iff_toInt_lt, Int32.le_iff_toInt_le, ← Int32.toInt_inj, Int32.reduceToInt] at h126
    refine cs_X4_isIn (by omega) hG (lo := -20) (hi := 20) rfl rfl (fun r7 z133 y134 => ?_)
    refine ⟨z133, ?_⟩
    exact k _ z133 (y134.trans (by omega))

set_option maxRecDepth 20000 in
theorem cs_X4_plainly {Γ : Gx} {d : Nat} (hd : 1 ≤ d) (hG : GC Γ) {p1 : Int32} {p2 : Int32} {w : Wd} (hp : p1.toInt = 0 ∨ p1.toInt = 1 ∨ (0 ≤ p2.toInt ∧ p2.toInt < 5)) {Q : Int32 → Wd → Prop} (k : ∀ (r : Int32), (p1.toInt = 0 → r = w 32 6) → (p1.toInt = 1 → r = (w 32 5 >>> (p2 &&& 31)) &&& 1) → Q r w) : CI Γ d M_X4_plainly [.ref (gad Γ 0), .int p1, .int p2] w Q := by
  obtain ⟨d, rfl⟩ : ∃ e, d = e + 1 := ⟨d - 1, by omega⟩
  refine con_X4_plainly hG ?_
  unfold wp_X4_plainly
  refine ⟨fun h135 => ?_, fun h136 => ?_, fun h137 => ?_, fun h138 => ?_⟩
  · simp only [Int32.lt_iff_toInt_lt, Int32.le_iff_toInt_le, ← Int32.toInt_inj, Int32.reduceToInt] at h135
    refine k _ (fun q => ?_) (fun q => ?_) <;> first | rfl | (exfalso; omega)
  · simp only [Int32.lt_iff_toInt_lt, Int32.le_iff_toInt_le, ← Int32.toInt_inj, Int32.reduceToInt] at h136
    refine k _ (fun q => ?_) (fun q => ?_) <;> first | rfl | (exfalso; omega)
  · simp only [Int32.lt_iff_toInt_lt, Int32.le_iff_toInt_le, ← Int32.toInt_inj, Int32.reduceToInt] at h137
    have := i_lo p2
    have := i_hi p2
    refine ⟨vp_in_iff.mpr (by omega), ?_⟩
    refine k _ (fun q => ?_) (fun q => ?_) <;> first | rfl | (exfalso; omega)
  · simp only [Int32.lt_iff_toInt_lt, Int32.le_iff_toInt_le, ← Int32.toInt_inj, Int32.reduceToInt] at h138
    have := i_lo p2
    have := i_hi p2
    refine ⟨vp_in_iff.mpr (by omega), ?_⟩
    refine k _ (fun q => ?_) (fun q => ?_) <;> first | rfl | (exfalso; omega)

set_option maxRecDepth 20000 in
theorem cs_X2_isMissing {Γ : Gx} {d : Nat} (hd : 1 ≤ d) (hG : GC Γ) {t : Nat} (hT : ShS Γ t) {w : Wd} {Q : Int32 → Wd → Prop} (k : ∀ (r : Int32), (isZ r) → (¬ r = 0 ↔ (w t 1).toInt = -1) → Q r w) : CI Γ d M_X2_isMissing [.ref (gad Γ t)] w Q := by
  obtain ⟨d, rfl⟩ : ∃ e, d = e + 1 := ⟨d - 1, by omega⟩
  refine con_X2_isMissing hG hT ?_
  unfold wp_X2_isMissing
  refine ⟨fun h139 => ?_, fun h140 => ?_⟩
  · simp only [Int32.lt_iff_toInt_lt, Int32.le_iff_toInt_le, ← Int32.toInt_inj, Int32.reduceToInt] at h139
    exact k _ iz_0 (iff0 (by omega))
  · simp only [Int32.lt_iff_toInt_lt, Int32.le_iff_toInt_le, ← Int32.toInt_inj, Int32.reduceToInt] at h140
    exact k _ iz_1 (iff1 (by omega))

set_option maxRecDepth 20000 in
theorem cs_X2_hasItem {Γ : Gx} {d : Nat} (hd : 1 ≤ d) (hG : GC Γ) {t : Nat} {p1 : Int32} (hT : ShS Γ t) {w : Wd} {Q : Int32 → Wd → Prop} (k : ∀ (r : Int32), (isZ r) → (¬ r = 0 ↔ (0 ≤ p1.toInt ∧ p1.toInt < (w t 2).toInt)) → Q r w) : CI Γ d M_X2_hasItem [.ref (gad Γ t), .int p1] w Q := by
  obtain ⟨d, rfl⟩ : ∃ e, d = e + 1 := ⟨d - 1, by omega⟩
  refine con_X2_hasItem hG hT ?_
  unfold wp_X2_hasItem
  refine ⟨fun h141 => ?_, fun h142 => ?_⟩
  · simp only [Int32.lt_iff_toInt_lt, Int32.le_iff_toInt_le, ← Int32.toInt_inj, Int32.reduceToInt] at h141
    exact k _ iz_0 (iff0 (by omega))
  · simp only [Int32.lt_iff_toInt_lt, Int32.le_iff_toInt_le, ← Int32.toInt_inj, Int32.reduceToInt] at h142
    refine ⟨fun h143 => ?_, fun h144 => ?_⟩
    · simp only [Int32.lt_iff_toInt_lt, Int32.le_iff_toInt_le, ← Int32.toInt_inj, Int32.reduceToInt] at h143
      exact k _ iz_0 (iff0 (by omega))
    · simp only [Int32.lt_iff_toInt_lt, Int32.le_iff_toInt_le, ← Int32.toInt_inj, Int32.reduceToInt] at h144
      exact k _ iz_1 (iff1 (by omega))

set_option maxRecDepth 20000 in
theorem cs_X2_hasPiece {Γ : Gx} {d : Nat} (hd : 1 ≤ d) (hG : GC Γ) {t : Nat} {p1 : Int32} {p2 : Int32} (hT : ShS Γ t) {w : Wd} (hz : 0 ≤ (w t 2).toInt ∧ (w t 2).toInt ≤ 40) {Q : Int32 → Wd → Prop} (k : ∀ (r : Int32), (isZ r) → (¬ r = 0 ↔ (0 ≤ p1.toInt ∧ 0 ≤ p2.toInt ∧ p1.toInt ≤ (w t 2).toInt - p2.toInt)) → Q r w) : CI Γ d M_X2_hasPiece [.ref (gad Γ t), .int p1, .int p2] w Q := by
  obtain ⟨d, rfl⟩ : ∃ e, d = e + 1 := ⟨d - 1, by omega⟩
  refine con_X2_hasPiece hG hT ?_
  unfold wp_X2_hasPiece
  refine ⟨fun h145 => ?_, fun h146 => ?_⟩
  · simp only [Int32.lt_iff_toInt_lt, Int32.le_iff_toInt_le, ← Int32.toInt_inj, Int32.reduceToInt] at h145
    exact k _ iz_0 (iff0 (by omega))
  · simp only [Int32.lt_iff_toInt_lt, Int32.le_iff_toInt_le, ← Int32.toInt_inj, Int32.reduceToInt] at h146
    refine ⟨fun h147 => ?_, fun h148 => ?_⟩
    · simp only [Int32.lt_iff_toInt_lt, Int32.le_iff_toInt_le, ← Int32.toInt_inj, Int32.reduceToInt] at h147
      exact k _ iz_0 (iff0 (by omega))
    · simp only [Int32.lt_iff_toInt_lt, Int32.le_iff_toInt_le, ← Int32.toInt_inj, Int32.reduceToInt] at h148
      refine ⟨fun h149 => ?_, fun h150 => ?_⟩
      · have := i_lo (w t 2)
        have := i_hi (w t 2)
        have := i_lo p2
        have := i_hi p2
        have := i_sub (x := (w t 2)) (y := p2) (by omega) (by omega)
        simp only [Int32.lt_iff_toInt_lt, Int32.le_iff_toInt_le, ← Int32.toInt_inj, Int32.reduceToInt] at h149
        exact k _ iz_0 (iff0 (by omega))
      · have := i_lo (w t 2)
        have := i_hi (w t 2)
        have := i_lo p2
        have := i_hi p2
        have := i_sub (x := (w t 2)) (y := p2) (by omega) (by omega)
        simp only [Int32.lt_iff_toInt_lt, Int32.le_iff_toInt_le, ← Int32.toInt_inj, Int32.reduceToInt] at h150
        exact k _ iz_1 (iff1 (by omega))

set_option maxRecDepth 20000 in
theorem cs_X5_isOne {Γ : Gx} {d : Nat} (hd : 2 ≤ d) (hG : GM Γ) {p1 : Int32} {w : Wd} (hz : 0 ≤ (w 0 2).toInt ∧ (w 0 2).toInt ≤ 5) {Q : Int32 → Wd → Prop} (k : ∀ (r : Int32), (isZ r) → (¬ r = 0 ↔ (0 ≤ p1.toInt ∧ p1.toInt < (w 0 2).toInt)) → Q r w) : CI Γ d M_X5_isOne [.ref (gad Γ 0), .int p1] w Q := by
  obtain ⟨d, rfl⟩ : ∃ e, d = e + 1 := ⟨d - 1, by omega⟩
  refine con_X5_isOne hG ?_
  unfold wp_X5_isOne
  have := i_lo (w 0 2)
  have := i_hi (w 0 2)
  have : (1 : Int32).toInt = 1 := rfl
  have := i_sub (x := (w 0 2)) (y := (1 : Int32)) (by omega) (by omega)
  refine cs_X5_within (by omega) hG (lo := 0) (hi := ((w 0 2) - (1 : Int32)).toInt) rfl rfl (fun r1 z151 y152 => ?_)
  refine ⟨z151, ?_⟩
  exact k _ z151 (y152.trans (by omega))

set_option maxRecDepth 20000 in
theorem cs_X5_areTwo {Γ : Gx} {d : Nat} (hd : 3 ≤ d) (hG : GM Γ) {p1 : Int32} {p2 : Int32} {w : Wd} (hz : 0 ≤ (w 0 2).toInt ∧ (w 0 2).toInt ≤ 5) {Q : Int32 → Wd → Prop} (k : ∀ (r : Int32), (isZ r) → (¬ r = 0 ↔ ((0 ≤ p1.toInt ∧ p1.toInt < (w 0 2).toInt) ∧ (0 ≤ p2.toInt ∧ p2.toInt < (w 0 2).toInt) ∧ ¬ p1.toInt = p2.toInt)) → Q r w) : CI Γ d M_X5_areTwo [.ref (gad Γ 0), .int p1, .int p2] w Q := by
  obtain ⟨d, rfl⟩ : ∃ e, d = e + 1 := ⟨d - 1, by omega⟩
  refine con_X5_areTwo hG ?_
  unfold wp_X5_areTwo
  refine cs_X5_isOne (by omega) hG (by omega) (fun r1 y153 y154 => ?_)
  refine ⟨fun h155 => ?_, fun h156 => ?_⟩
  · have h155 : ¬ _ := fun q => y154.mpr q h155
    exact k _ iz_0 (iff0 (by omega))
  · have h156 := y154.mp h156
    refine cs_X5_isOne (by omega) hG (by omega) (fun r4 y157 y158 => ?_)
    refine ⟨fun h159 => ?_, fun h160 => ?_⟩
    · have h159 : ¬ _ := fun q => y158.mpr q h159
      exact k _ iz_0 (iff0 (by omega))
    · have h160 := y158.mp h160
      refine ⟨fun h161 => ?_, fun h162 => ?_⟩
      · simp only [Int32.lt_iff_toInt_lt, Int32.le_iff_toInt_le, ← Int32.toInt_inj, Int32.reduceToInt] at h161
        exact k _ iz_0 (iff0 (by omega))
      · simp only [Int32.lt_iff_toInt_lt, Int32.le_iff_toInt_le, ← Int32.toInt_inj, Int32.reduceToInt] at h162
        exact k _ iz_1 (iff1 (by omega))

set_option maxRecDepth 20000 in
theorem cs_X5_isSheet {Γ : Gx} {d : Nat} (hd : 2 ≤ d) (hG : GM Γ) {p1 : Int32} {w : Wd} {Q : Int32 → Wd → Prop} (k : ∀ (r : Int32), (isZ r) → (¬ r = 0 ↔ (0 ≤ p1.toInt ∧ p1.toInt ≤ 3)) → Q r w) : CI Γ d M_X5_isSheet [.int p1] w Q := by
  obtain ⟨d, rfl⟩ : ∃ e, d = e + 1 := ⟨d - 1, by omega⟩
  refine con_X5_isSheet hG ?_
  unfold wp_X5_isSheet
  refine cs_X5_within (by omega) hG (lo := 0) (hi := 3) rfl rfl (fun r1 z163 y164 => ?_)
  refine ⟨z163, ?_⟩
  exact k _ z163 (y164.trans (by omega))

set_option maxRecDepth 20000 in
theorem cs_X5_isLayer {Γ : Gx} {d : Nat} (hd : 2 ≤ d) (hG : GM Γ) {p1 : Int32} {w : Wd} {Q : Int32 → Wd → Prop} (k : ∀ (r : Int32), (isZ r) → (¬ r = 0 ↔ (0 ≤ p1.toInt ∧ p1.toInt ≤ 7)) → Q r w) : CI Γ d M_X5_isLayer [.int p1] w Q := by
  obtain ⟨d, rfl⟩ : ∃ e, d = e + 1 := ⟨d - 1, by omega⟩
  refine con_X5_isLayer hG ?_
  unfold wp_X5_isLayer
  refine cs_X5_within (by omega) hG (lo := 0) (hi := 7) rfl rfl (fun r1 z165 y166 => ?_)
  refine ⟨z165, ?_⟩
  exact k _ z165 (y166.trans (by omega))

set_option maxRecDepth 20000 in
theorem cs_X5_isOf {Γ : Gx} {d : Nat} (hd : 3 ≤ d) (hG : GM Γ) {p1 : Int32} {p2 : Int32} {w : Wd} (hz : 0 ≤ (w 0 2).toInt ∧ (w 0 2).toInt ≤ 5) {Q : Int32 → Wd → Prop} (k : ∀ (r : Int32), (isZ r) → (¬ r = 0 ↔ (p1.toInt = 0 ∨ (p1.toInt = 1 ∧ 0 ≤ p2.toInt ∧ p2.toInt ≤ 7) ∨ (2 ≤ p1.toInt ∧ p1.toInt ≤ 3 ∧ 0 ≤ p2.toInt ∧ p2.toInt < (w 0 2).toInt))) → Q r w) : CI Γ d M_X5_isOf [.ref (gad Γ 0), .int p1, .int p2] w Q := by
  obtain ⟨d, rfl⟩ : ∃ e, d = e + 1 := ⟨d - 1, by omega⟩
  refine con_X5_isOf hG ?_
  unfold wp_X5_isOf
  refine ⟨fun h167 => ?_, fun h168 => ?_⟩
  · simp only [Int32.lt_iff_toInt_lt, Int32.le_iff_toInt_le, ← Int32.toInt_inj, Int32.reduceToInt] at h167
    exact k _ iz_1 (iff1 (by omega))
  · simp only [Int32.lt_iff_toInt_lt, Int32.le_iff_toInt_le, ← Int32.toInt_inj, Int32.reduceToInt] at h168
    refine ⟨fun h169 => ?_, fun h170 => ?_⟩
    · simp only [Int32.lt_iff_toInt_lt, Int32.le_iff_toInt_le, ← Int32.toInt_inj, Int32.reduceToInt] at h169
      refine cs_X5_within (by omega) hG (lo := 2) (hi := 3) rfl rfl (fun r3 z171 y172 => ?_)
      refine ⟨fun h173 => ?_, fun h174 => ?_⟩
      · have h173 : ¬ _ := fun q => y172.mpr q h173
        exact k _ iz_0 (iff0 (by omega))
      · have h174 := y172.mp h174
        refine cs_X5_isOne (by omega) hG (by omega) (fun r6 y175 y176 => ?_)
        refine ⟨fun h177 => ?_, fun h178 => ?_⟩
        · have h177 : ¬ _ := fun q => y176.mpr q h177
          exact k _ iz_0 (iff0 (by omega))
        · have h178 := y176.mp h178
          exact k _ iz_1 (iff1 (by omega))
    · simp only [Int32.lt_iff_toInt_lt, Int32.le_iff_toInt_le, ← Int32.toInt_inj, Int32.reduceToInt] at h170
      refine cs_X5_isLayer (by omega) hG (fun r9 y179 y180 => ?_)
      refine ⟨fun h181 => ?_, fun h182 => ?_⟩
      · have h181 : ¬ _ := fun q => y180.mpr q h181
        exact k _ iz_0 (iff0 (by omega))
      · have h182 := y180.mp h182
        exact k _ iz_1 (iff1 (by omega))

set_option maxRecDepth 20000 in
theorem cs_X5_isFit {Γ : Gx} {d : Nat} (hd : 2 ≤ d) (hG : GM Γ) {p1 : Int32} {p2 : Int32} {w : Wd} {Q : Int32 → Wd → Prop} (k : ∀ (r : Int32), (isZ r) → (¬ r = 0 ↔ ((p1.toInt = 0 ∧ 0 ≤ p2.toInt ∧ p2.toInt ≤ 999) ∨ (p1.toInt = 1 ∧ 0 ≤ p2.toInt ∧ p2.toInt ≤ 1) ∨ (p1.toInt = 2 ∧ 0 ≤ p2.toInt ∧ p2.toInt ≤ 9) ∨ (¬ p1.toInt = 0 ∧ ¬ p1.toInt = 1 ∧ ¬ p1.toInt = 2 ∧ -20 ≤ p2.toInt ∧ p2.toInt ≤ 20))) → Q r w) : CI Γ d M_X5_isFit [.int p1, .int p2] w Q := by
  obtain ⟨d, rfl⟩ : ∃ e, d = e + 1 := ⟨d - 1, by omega⟩
  refine con_X5_isFit hG ?_
  unfold wp_X5_isFit
  refine ⟨fun h183 => ?_, fun h184 => ?_, fun h185 => ?_, fun h186 => ?_⟩
  · simp only [Int32.lt_iff_toInt_lt, Int32.le_iff_toInt_le, ← Int32.toInt_inj, Int32.reduceToInt] at h183
    refine cs_X5_within (by omega) hG (lo := 0) (hi := 999) rfl rfl (fun r1 z187 y188 => ?_)
    refine ⟨z187, ?_⟩
    exact k _ z187 (y188.trans (by omega))
  · simp only [Int32.lt_iff_toInt_lt, Int32.le_iff_toInt_le, ← Int32.toInt_inj, Int32.reduceToInt] at h184
    refine cs_X5_within (by omega) hG (lo := 0) (hi := 1) rfl rfl (fun r3 z189 y190 => ?_)
    refine ⟨z189, ?_⟩
    exact k _ z189 (y190.trans (by omega))
  · simp only [Int32.lt_iff_toInt_lt, Int32.le_iff_toInt_le, ← Int32.toInt_inj, Int32.reduceToInt] at h185
    refine cs_X5_within (by omega) hG (lo := 0) (hi := 9) rfl rfl (fun r5 z191 y192 => ?_)
    refine ⟨z191, ?_⟩
    exact k _ z191 (y192.trans (by omega))
  · simp only [Int32.lt_iff_toInt_lt, Int32.le_iff_toInt_le, ← Int32.toInt_inj, Int32.reduceToInt] at h186
    refine cs_X5_within (by omega) hG (lo := -20) (hi := 20) rfl rfl (fun r7 z193 y194 => ?_)
    refine ⟨z193, ?_⟩
    exact k _ z193 (y194.trans (by omega))

set_option maxRecDepth 20000 in
theorem cs_X5_get {Γ : Gx} {d : Nat} (hd : 1 ≤ d) (hG : GM Γ) {p1 : Int32} {p2 : Int32} {w : Wd} (hp : p1.toInt = 0 ∨ (p1.toInt = 1 ∧ 0 ≤ p2.toInt ∧ p2.toInt < 8) ∨ (¬ p1.toInt = 1 ∧ 0 ≤ p2.toInt ∧ p2.toInt < 5)) {Q : Int32 → Wd → Prop} (k : ∀ (r : Int32), (p1.toInt = 0 → r = w 0 0) → (p1.toInt = 1 → (r = 0 ∧ (w 1 p2.toNatClampNeg).toInt = 0) ∨ (r = 1 ∧ ¬ (w 1 p2.toNatClampNeg).toInt = 0)) → Q r w) : CI Γ d M_X5_get [.ref (gad Γ 0), .int p1, .int p2] w Q := by
  obtain ⟨d, rfl⟩ : ∃ e, d = e + 1 := ⟨d - 1, by omega⟩
  refine con_X5_get hG ?_
  unfold wp_X5_get
  refine ⟨fun h195 => ?_, fun h196 => ?_, fun h197 => ?_, fun h198 => ?_⟩
  · simp only [Int32.lt_iff_toInt_lt, Int32.le_iff_toInt_le, ← Int32.toInt_inj, Int32.reduceToInt] at h195
    refine k _ (fun q => ?_) (fun q => ?_) <;> first | rfl | (exfalso; omega) | exact Or.inl ⟨rfl, by assumption⟩ | exact Or.inr ⟨rfl, by assumption⟩
  · simp only [Int32.lt_iff_toInt_lt, Int32.le_iff_toInt_le, ← Int32.toInt_inj, Int32.reduceToInt] at h196
    have := i_lo p2
    have := i_hi p2
    refine ⟨vp_in_iff.mpr (by omega), ?_⟩
    refine ⟨fun h199 => ?_, fun h200 => ?_⟩
    · simp only [Int32.lt_iff_toInt_lt, Int32.le_iff_toInt_le, ← Int32.toInt_inj, Int32.reduceToInt] at h199
      refine k _ (fun q => ?_) (fun q => ?_) <;> first | rfl | (exfalso; omega) | exact Or.inl ⟨rfl, by assumption⟩ | exact Or.inr ⟨rfl, by assumption⟩
    · simp only [Int32.lt_iff_toInt_lt, Int32.le_iff_toInt_le, ← Int32.toInt_inj, Int32.reduceToInt] at h200
      refine k _ (fun q => ?_) (fun q => ?_) <;> first | rfl | (exfalso; omega) | exact Or.inl ⟨rfl, by assumption⟩ | exact Or.inr ⟨rfl, by assumption⟩
  · simp only [Int32.lt_iff_toInt_lt, Int32.le_iff_toInt_le, ← Int32.toInt_inj, Int32.reduceToInt] at h197
    have := i_lo p2
    have := i_hi p2
    refine ⟨vp_in_iff.mpr (by omega), ?_⟩
    refine k _ (fun q => ?_) (fun q => ?_) <;> first | rfl | (exfalso; omega) | exact Or.inl ⟨rfl, by assumption⟩ | exact Or.inr ⟨rfl, by assumption⟩
  · simp only [Int32.lt_iff_toInt_lt, Int32.le_iff_toInt_le, ← Int32.toInt_inj, Int32.reduceToInt] at h198
    have := i_lo p2
    have := i_hi p2
    refine ⟨vp_in_iff.mpr (by omega), ?_⟩
    refine k _ (fun q => ?_) (fun q => ?_) <;> first | rfl | (exfalso; omega) | exact Or.inl ⟨rfl, by assumption⟩ | exact Or.inr ⟨rfl, by assumption⟩

set_option maxRecDepth 20000 in
theorem cs_X5_isLetter {Γ : Gx} {d : Nat} (hd : 1 ≤ d) (hG : GM Γ) {p1 : Int32} {w : Wd} {Q : Int32 → Wd → Prop} (k : ∀ (r : Int32), (isZ r) → (¬ r = 0 ↔ (97 ≤ p1.toInt ∧ p1.toInt ≤ 122)) → Q r w) : CI Γ d M_X5_isLetter [.int p1] w Q := by
  obtain ⟨d, rfl⟩ : ∃ e, d = e + 1 := ⟨d - 1, by omega⟩
  refine con_X5_isLetter hG ?_
  unfold wp_X5_isLetter
  refine ⟨fun h201 => ?_, fun h202 => ?_⟩
  · simp only [Int32.lt_iff_toInt_lt, Int32.le_iff_toInt_le, ← Int32.toInt_inj, Int32.reduceToInt] at h201
    exact k _ iz_0 (iff0 (by omega))
  · simp only [Int32.lt_iff_toInt_lt, Int32.le_iff_toInt_le, ← Int32.toInt_inj, Int32.reduceToInt] at h202
    refine ⟨fun h203 => ?_, fun h204 => ?_⟩
    · simp only [Int32.lt_iff_toInt_lt, Int32.le_iff_toInt_le, ← Int32.toInt_inj, Int32.reduceToInt] at h203
      exact k _ iz_0 (iff0 (by omega))
    · simp only [Int32.lt_iff_toInt_lt, Int32.le_iff_toInt_le, ← Int32.toInt_inj, Int32.reduceToInt] at h204
      exact k _ iz_1 (iff1 (by omega))

set_option maxRecDepth 20000 in
theorem cs_X5_isDigit {Γ : Gx} {d : Nat} (hd : 1 ≤ d) (hG : GM Γ) {p1 : Int32} {w : Wd} {Q : Int32 → Wd → Prop} (k : ∀ (r : Int32), (isZ r) → (¬ r = 0 ↔ (48 ≤ p1.toInt ∧ p1.toInt ≤ 57)) → Q r w) : CI Γ d M_X5_isDigit [.int p1] w Q := by
  obtain ⟨d, rfl⟩ : ∃ e, d = e + 1 := ⟨d - 1, by omega⟩
  refine con_X5_isDigit hG ?_
  unfold wp_X5_isDigit
  refine ⟨fun h205 => ?_, fun h206 => ?_⟩
  · simp only [Int32.lt_iff_toInt_lt, Int32.le_iff_toInt_le, ← Int32.toInt_inj, Int32.reduceToInt] at h205
    exact k _ iz_0 (iff0 (by omega))
  · simp only [Int32.lt_iff_toInt_lt, Int32.le_iff_toInt_le, ← Int32.toInt_inj, Int32.reduceToInt] at h206
    refine ⟨fun h207 => ?_, fun h208 => ?_⟩
    · simp only [Int32.lt_iff_toInt_lt, Int32.le_iff_toInt_le, ← Int32.toInt_inj, Int32.reduceToInt] at h207
      exact k _ iz_0 (iff0 (by omega))
    · simp only [Int32.lt_iff_toInt_lt, Int32.le_iff_toInt_le, ← Int32.toInt_inj, Int32.reduceToInt] at h208
      exact k _ iz_1 (iff1 (by omega))
