/-! the model's methods, from any state (written by program) -/
set_option maxRecDepth 20000 in
theorem im_X5_bound {Γ : Gx} {d : Nat} (hd : 1 ≤ d) (hG : GM Γ) {p1 : Int32} {κ : Ky} {w : Wd} (i : IM κ w) {Q : Int32 → Wd → Prop} (k : ∀ (r : Int32) (w' : Wd), IM κ w' → Q r w') : CI Γ d M_X5_bound [.int p1] w Q := by
  obtain ⟨d, rfl⟩ : ∃ e, d = e + 1 := ⟨d - 1, by omega⟩
  refine con_X5_bound hG ?_
  unfold wp_X5_bound
  have zw := i.num
  refine ⟨fun h895 => ?_, fun h896 => ?_⟩
  · simp only [Int32.lt_iff_toInt_lt, Int32.le_iff_toInt_le, ← Int32.toInt_inj, Int32.reduceToInt] at h895
    refine ⟨fun h897 => ?_, fun h898 => ?_⟩
    · simp only [Int32.lt_iff_toInt_lt, Int32.le_iff_toInt_le, ← Int32.toInt_inj, Int32.reduceToInt] at h897
      exact k _ _ i
    · simp only [Int32.lt_iff_toInt_lt, Int32.le_iff_toInt_le, ← Int32.toInt_inj, Int32.reduceToInt] at h898
      exact k _ _ i
  · simp only [Int32.lt_iff_toInt_lt, Int32.le_iff_toInt_le, ← Int32.toInt_inj, Int32.reduceToInt] at h896
    exact k _ _ i

set_option maxRecDepth 20000 in
theorem im_X5_bitsOf {Γ : Gx} {d : Nat} (hd : 1 ≤ d) (hG : GM Γ) {p1 : Int32} {κ : Ky} {w : Wd} (i : IM κ w) {Q : Int32 → Wd → Prop} (k : ∀ (r : Int32) (w' : Wd), IM κ w' → Q r w') : CI Γ d M_X5_bitsOf [.int p1] w Q := by
  obtain ⟨d, rfl⟩ : ∃ e, d = e + 1 := ⟨d - 1, by omega⟩
  refine con_X5_bitsOf hG ?_
  unfold wp_X5_bitsOf
  have zw := i.num
  intro P_4
  intro cP_4
  have key : ∀ m : Nat, (∀ (l1 : Int32) (l2 : Int32) (w : Wd), IM κ w → (0 ≤ l2.toInt ∧ l2.toInt ≤ 8) → ((9 - l2.toInt).toNat) < m → P_4 l1 l2 w) := by
    intro m
    induction m with
    | zero => exact fun _ _ _ _ _ h => absurd h (Nat.not_lt_zero _)
    | succ m ih =>
      intro l1 l2 w i v0 hm
      refine cP_4 _ _ _ ?_
      have z4 := i.num
      refine ⟨fun h899 => ?_, fun h900 => ?_⟩
      · simp only [Int32.lt_iff_toInt_lt, Int32.le_iff_toInt_le, ← Int32.toInt_inj, Int32.reduceToInt] at h899
        exact k _ _ i
      · simp only [Int32.lt_iff_toInt_lt, Int32.le_iff_toInt_le, ← Int32.toInt_inj, Int32.reduceToInt] at h900
        intro v2 ev2
        have := i_lo l2
        have := i_hi l2
        have : (1 : Int32).toInt = 1 := rfl
        have := i_add (x := l2) (y := (1 : Int32)) (by omega) (by omega)
        exact ih _ _ _ i (by first | omega | rfl | assumption) (by omega)
  have : (0 : Int32).toInt = 0 := rfl
  exact (key _) _ _ _ i (by first | omega | rfl | assumption) (Nat.lt_succ_self _)

set_option maxRecDepth 20000 in
theorem im_X5_tellsOf {Γ : Gx} {d : Nat} (hd : 1 ≤ d) (hG : GM Γ) {p1 : Int32} {p2 : Int32} {p3 : Int32} {p4 : Int32} {p5 : Int32} {κ : Ky} {w : Wd} (i : IM κ w) (h2 : 0 ≤ p2.toInt ∧ p2.toInt ≤ 4) (h3 : 0 ≤ p3.toInt ∧ p3.toInt ≤ 4) {Q : Wd → Prop} (k : ∀ (w' : Wd), IM κ w' → Q w') : CV Γ d M_X5_tellsOf [.ref (gad Γ 0), .int p1, .int p2, .int p3, .int p4, .int p5] w Q := by
  obtain ⟨d, rfl⟩ : ∃ e, d = e + 1 := ⟨d - 1, by omega⟩
  refine con_X5_tellsOf hG ?_
  unfold wp_X5_tellsOf
  have zw := i.num
  intro w1 ew1
  have iw1 : IM κ w1 := ew1 ▸ IM.cell ⟨by decide, rfl⟩ i
  have zw1 := iw1.num
  have := i_lo p2
  have := i_hi p2
  refine ⟨vp_in_iff.mpr (by omega), ?_⟩
  intro w4 ew4
  have iw4 : IM κ w4 := ew4 ▸ IM.cell ⟨by decide, rfl⟩ iw1
  have zw4 := iw4.num
  intro w6 ew6
  have iw6 : IM κ w6 := ew6 ▸ IM.cell ⟨by decide, rfl⟩ iw4
  have zw6 := iw6.num
  have := i_lo p3
  have := i_hi p3
  refine ⟨vp_in_iff.mpr (by omega), ?_⟩
  intro w9 ew9
  have iw9 : IM κ w9 := ew9 ▸ IM.cell ⟨by decide, rfl⟩ iw6
  have zw9 := iw9.num
  intro w11 ew11
  have iw11 : IM κ w11 := ew11 ▸ IM.cell ⟨by decide, rfl⟩ iw9
  have zw11 := iw11.num
  intro w13 ew13
  have iw13 : IM κ w13 := ew13 ▸ IM.cell ⟨by decide, rfl⟩ iw11
  have zw13 := iw13.num
  exact k _ iw13

set_option maxRecDepth 20000 in
theorem im_X5_sends {Γ : Gx} {d : Nat} (hd : 3 ≤ d) (hG : GM Γ) {p1 : Int32} {p2 : Int32} {κ : Ky} {w : Wd} (i : IM κ w) (h1 : 0 ≤ p1.toInt ∧ p1.toInt ≤ 4) (h2 : 0 ≤ p2.toInt ∧ p2.toInt ≤ 4) {Q : Int32 → Wd → Prop} (k : ∀ (r : Int32) (w' : Wd), IM κ w' → (isZ r) → Q r w') : CI Γ d M_X5_sends [.ref (gad Γ 0), .int p1, .int p2] w Q := by
  obtain ⟨d, rfl⟩ : ∃ e, d = e + 1 := ⟨d - 1, by omega⟩
  refine con_X5_sends hG ?_
  unfold wp_X5_sends
  have zw := i.num
  intro P_40
  intro cP_40
  have key : ∀ m : Nat, (∀ (s0 : Int32) (w : Wd), IM κ w → (isZ s0) → (0) < m → P_40 s0 w) := by
    intro m
    induction m with
    | zero => exact fun _ _ _ _ h => absurd h (Nat.not_lt_zero _)
    | succ m ih =>
      intro s0 w i v0 hm
      refine cP_40 _ _ ?_
      have z4 := i.num
      have := i_lo p1
      have := i_hi p1
      refine ⟨vp_in_iff.mpr (by omega), ?_⟩
      refine ⟨fun h901 => ?_, fun h902 => ?_, fun h903 => ?_, fun h904 => ?_⟩
      · simp only [Int32.lt_iff_toInt_lt, Int32.le_iff_toInt_le, ← Int32.toInt_inj, Int32.reduceToInt] at h901
        exact k _ _ i iz_1
      · simp only [Int32.lt_iff_toInt_lt, Int32.le_iff_toInt_le, ← Int32.toInt_inj, Int32.reduceToInt] at h902
        refine ⟨fun h905 => ?_, fun h906 => ?_⟩
        · simp only [Int32.lt_iff_toInt_lt, Int32.le_iff_toInt_le, ← Int32.toInt_inj, Int32.reduceToInt] at h905
          exact k _ _ i iz_0
        · simp only [Int32.lt_iff_toInt_lt, Int32.le_iff_toInt_le, ← Int32.toInt_inj, Int32.reduceToInt] at h906
          refine ⟨fun h907 => ?_, fun h908 => ?_⟩
          · simp only [Int32.lt_iff_toInt_lt, Int32.le_iff_toInt_le, ← Int32.toInt_inj, Int32.reduceToInt] at h907
            exact k _ _ i iz_0
          · simp only [Int32.lt_iff_toInt_lt, Int32.le_iff_toInt_le, ← Int32.toInt_inj, Int32.reduceToInt] at h908
            exact k _ _ i iz_1
      · simp only [Int32.lt_iff_toInt_lt, Int32.le_iff_toInt_le, ← Int32.toInt_inj, Int32.reduceToInt] at h903
        refine ⟨fun h909 => ?_, fun h910 => ?_⟩
        · simp only [Int32.lt_iff_toInt_lt, Int32.le_iff_toInt_le, ← Int32.toInt_inj, Int32.reduceToInt] at h909
          refine ⟨fun h911 => ?_, fun h912 => ?_⟩
          · simp only [Int32.lt_iff_toInt_lt, Int32.le_iff_toInt_le, ← Int32.toInt_inj, Int32.reduceToInt] at h911
            exact k _ _ i iz_0
          · simp only [Int32.lt_iff_toInt_lt, Int32.le_iff_toInt_le, ← Int32.toInt_inj, Int32.reduceToInt] at h912
            exact k _ _ i iz_1
        · simp only [Int32.lt_iff_toInt_lt, Int32.le_iff_toInt_le, ← Int32.toInt_inj, Int32.reduceToInt] at h910
          refine ⟨fun h913 => ?_, fun h914 => ?_⟩
          · simp only [Int32.lt_iff_toInt_lt, Int32.le_iff_toInt_le, ← Int32.toInt_inj, Int32.reduceToInt] at h913
            exact k _ _ i iz_1
          · simp only [Int32.lt_iff_toInt_lt, Int32.le_iff_toInt_le, ← Int32.toInt_inj, Int32.reduceToInt] at h914
            refine ⟨fun h915 => ?_, fun h916 => ?_⟩
            · simp only [Int32.lt_iff_toInt_lt, Int32.le_iff_toInt_le, ← Int32.toInt_inj, Int32.reduceToInt] at h915
              exact k _ _ i iz_0
            · simp only [Int32.lt_iff_toInt_lt, Int32.le_iff_toInt_le, ← Int32.toInt_inj, Int32.reduceToInt] at h916
              exact k _ _ i iz_1
      · simp only [Int32.lt_iff_toInt_lt, Int32.le_iff_toInt_le, ← Int32.toInt_inj, Int32.reduceToInt] at h904
        refine ⟨by assumption, ?_⟩
        exact k _ _ i (by assumption)
  refine ⟨fun h917 => ?_, fun h918 => ?_⟩
  · simp only [Int32.lt_iff_toInt_lt, Int32.le_iff_toInt_le, ← Int32.toInt_inj, Int32.reduceToInt] at h917
    exact k _ _ i iz_0
  · simp only [Int32.lt_iff_toInt_lt, Int32.le_iff_toInt_le, ← Int32.toInt_inj, Int32.reduceToInt] at h918
    refine ⟨fun h919 => ?_, fun h920 => ?_⟩
    · simp only [Int32.lt_iff_toInt_lt, Int32.le_iff_toInt_le, ← Int32.toInt_inj, Int32.reduceToInt] at h919
      have : (0 : Int32).toInt = 0 := rfl
      refine im_X5_tellsOf (by omega) hG i (by omega) (by omega) (fun w4 iw4 => ?_)
      have zw4 := iw4.num
      refine im_X5_ruled (by omega) hG iw4 ⟨by decide, by decide⟩ (fun r5 w6 iw6 => ?_)
      have zw6 := iw6.num
      refine ⟨fun h921 => ?_, fun h922 => ?_⟩
      · simp only [Int32.lt_iff_toInt_lt, Int32.le_iff_toInt_le, ← Int32.toInt_inj, Int32.reduceToInt] at h921
        exact (key _) _ _ iw6 (by first | assumption | exact iz_0 | exact iz_1 | exact Or.inr rfl | exact Or.inl rfl) (Nat.lt_succ_self _)
      · simp only [Int32.lt_iff_toInt_lt, Int32.le_iff_toInt_le, ← Int32.toInt_inj, Int32.reduceToInt] at h922
        have : (1 : Int32).toInt = 1 := rfl
        exact (key _) _ _ iw6 (by first | assumption | exact iz_0 | exact iz_1 | exact Or.inr rfl | exact Or.inl rfl) (Nat.lt_succ_self _)
    · simp only [Int32.lt_iff_toInt_lt, Int32.le_iff_toInt_le, ← Int32.toInt_inj, Int32.reduceToInt] at h920
      exact k _ _ i iz_0

set_option maxRecDepth 20000 in
theorem im_X5_cuts {Γ : Gx} {d : Nat} (hd : 3 ≤ d) (hG : GM Γ) {p1 : Int32} {p2 : Int32} {p3 : Int32} {κ : Ky} {w : Wd} (i : IM κ w) (h1 : 0 ≤ p1.toInt ∧ p1.toInt ≤ 4) (h2 : 0 ≤ p2.toInt ∧ p2.toInt ≤ 4) {Q : Int32 → Wd → Prop} (k : ∀ (r : Int32) (w' : Wd), IM κ w' → (isZ r) → Q r w') : CI Γ d M_X5_cuts [.ref (gad Γ 0), .int p1, .int p2, .int p3] w Q := by
  obtain ⟨d, rfl⟩ : ∃ e, d = e + 1 := ⟨d - 1, by omega⟩
  refine con_X5_cuts hG ?_
  unfold wp_X5_cuts
  have zw := i.num
  intro P_22
  intro P_42
  intro P_65
  intro cP_22
  intro cP_42
  intro cP_65
  have key : ∀ m : Nat, (∀ (s0 : Int32) (w : Wd), IM κ w → (isZ s0) → (2) < m → P_22 s0 w) ∧ (∀ (l4 : Int32) (w : Wd), IM κ w → (isZ l4) → (1) < m → P_42 l4 w) ∧ (∀ (l4 : Int32) (l5 : Int32) (s0 : Int32) (w : Wd), IM κ w → (isZ l4) → (isZ l5) → (isZ s0) → (0) < m → P_65 l4 l5 s0 w) := by
    intro m
    induction m with
    | zero => exact ⟨fun _ _ _ _ h => absurd h (Nat.not_lt_zero _), fun _ _ _ _ h => absurd h (Nat.not_lt_zero _), fun _ _ _ _ _ _ _ _ h => absurd h (Nat.not_lt_zero _)⟩
    | succ m ih =>
      refine ⟨?_, ?_, ?_⟩
      · intro s0 w i v0 hm
        refine cP_22 _ _ ?_
        have z4 := i.num
        refine ⟨fun h923 => ?_, fun h924 => ?_⟩
        · simp only [Int32.lt_iff_toInt_lt, Int32.le_iff_toInt_le, ← Int32.toInt_inj, Int32.reduceToInt] at h923
          exact ih.2.1 _ _ i (by first | assumption | exact iz_0 | exact iz_1 | exact Or.inr rfl | exact Or.inl rfl) (by omega)
        · simp only [Int32.lt_iff_toInt_lt, Int32.le_iff_toInt_le, ← Int32.toInt_inj, Int32.reduceToInt] at h924
          have := i_lo p1
          have := i_hi p1
          refine ⟨vp_in_iff.mpr (by omega), ?_⟩
          refine ⟨fun h925 => ?_, fun h926 => ?_⟩
          · simp only [Int32.lt_iff_toInt_lt, Int32.le_iff_toInt_le, ← Int32.toInt_inj, Int32.reduceToInt] at h925
            refine ⟨fun h927 => ?_, fun h928 => ?_⟩
            · simp only [Int32.lt_iff_toInt_lt, Int32.le_iff_toInt_le, ← Int32.toInt_inj, Int32.reduceToInt] at h927
              have : (0 : Int32).toInt = 0 := rfl
              exact ih.2.2 _ _ _ _ i (by first | assumption | exact iz_0 | exact iz_1 | exact Or.inr rfl | exact Or.inl rfl) (by first | assumption | exact iz_0 | exact iz_1 | exact Or.inr rfl | exact Or.inl rfl) (by first | assumption | exact iz_0 | exact iz_1 | exact Or.inr rfl | exact Or.inl rfl) (by omega)
            · simp only [Int32.lt_iff_toInt_lt, Int32.le_iff_toInt_le, ← Int32.toInt_inj, Int32.reduceToInt] at h928
              refine ⟨fun h929 => ?_, fun h930 => ?_⟩
              · simp only [Int32.lt_iff_toInt_lt, Int32.le_iff_toInt_le, ← Int32.toInt_inj, Int32.reduceToInt] at h929
                have : (0 : Int32).toInt = 0 := rfl
                exact ih.2.2 _ _ _ _ i (by first | assumption | exact iz_0 | exact iz_1 | exact Or.inr rfl | exact Or.inl rfl) (by first | assumption | exact iz_0 | exact iz_1 | exact Or.inr rfl | exact Or.inl rfl) (by first | assumption | exact iz_0 | exact iz_1 | exact Or.inr rfl | exact Or.inl rfl) (by omega)
              · simp only [Int32.lt_iff_toInt_lt, Int32.le_iff_toInt_le, ← Int32.toInt_inj, Int32.reduceToInt] at h930
                have : (0 : Int32).toInt = 0 := rfl
                have : (1 : Int32).toInt = 1 := rfl
                exact ih.2.2 _ _ _ _ i (by first | assumption | exact iz_0 | exact iz_1 | exact Or.inr rfl | exact Or.inl rfl) (by first | assumption | exact iz_0 | exact iz_1 | exact Or.inr rfl | exact Or.inl rfl) (by first | assumption | exact iz_0 | exact iz_1 | exact Or.inr rfl | exact Or.inl rfl) (by omega)
          · simp only [Int32.lt_iff_toInt_lt, Int32.le_iff_toInt_le, ← Int32.toInt_inj, Int32.reduceToInt] at h926
            exact ih.2.1 _ _ i (by first | assumption | exact iz_0 | exact iz_1 | exact Or.inr rfl | exact Or.inl rfl) (by omega)
      · intro l4 w i v0 hm
        refine cP_42 _ _ ?_
        have z4 := i.num
        refine ⟨fun h931 => ?_, fun h932 => ?_⟩
        · simp only [Int32.lt_iff_toInt_lt, Int32.le_iff_toInt_le, ← Int32.toInt_inj, Int32.reduceToInt] at h931
          have : (1 : Int32).toInt = 1 := rfl
          have : (0 : Int32).toInt = 0 := rfl
          exact ih.2.2 _ _ _ _ i (by first | assumption | exact iz_0 | exact iz_1 | exact Or.inr rfl | exact Or.inl rfl) (by first | assumption | exact iz_0 | exact iz_1 | exact Or.inr rfl | exact Or.inl rfl) (by first | assumption | exact iz_0 | exact iz_1 | exact Or.inr rfl | exact Or.inl rfl) (by omega)
        · simp only [Int32.lt_iff_toInt_lt, Int32.le_iff_toInt_le, ← Int32.toInt_inj, Int32.reduceToInt] at h932
          refine ⟨fun h933 => ?_, fun h934 => ?_⟩
          · simp only [Int32.lt_iff_toInt_lt, Int32.le_iff_toInt_le, ← Int32.toInt_inj, Int32.reduceToInt] at h933
            have : (1 : Int32).toInt = 1 := rfl
            have : (0 : Int32).toInt = 0 := rfl
            exact ih.2.2 _ _ _ _ i (by first | assumption | exact iz_0 | exact iz_1 | exact Or.inr rfl | exact Or.inl rfl) (by first | assumption | exact iz_0 | exact iz_1 | exact Or.inr rfl | exact Or.inl rfl) (by first | assumption | exact iz_0 | exact iz_1 | exact Or.inr rfl | exact Or.inl rfl) (by omega)
          · simp only [Int32.lt_iff_toInt_lt, Int32.le_iff_toInt_le, ← Int32.toInt_inj, Int32.reduceToInt] at h934
            have : (1 : Int32).toInt = 1 := rfl
            exact ih.2.2 _ _ _ _ i (by first | assumption | exact iz_0 | exact iz_1 | exact Or.inr rfl | exact Or.inl rfl) (by first | assumption | exact iz_0 | exact iz_1 | exact Or.inr rfl | exact Or.inl rfl) (by first | assumption | exact iz_0 | exact iz_1 | exact Or.inr rfl | exact Or.inl rfl) (by omega)
      · intro l4 l5 s0 w i v0 v1 v2 hm
        refine cP_65 _ _ _ _ ?_
        have z4 := i.num
        have := i_lo p1
        have := i_hi p1
        refine ⟨vp_in_iff.mpr (by omega), ?_⟩
        refine ⟨fun h935 => ?_, fun h936 => ?_, fun h937 => ?_, fun h938 => ?_, fun h939 => ?_, fun h940 => ?_⟩
        · simp only [Int32.lt_iff_toInt_lt, Int32.le_iff_toInt_le, ← Int32.toInt_inj, Int32.reduceToInt] at h935
          refine ⟨by assumption, ?_⟩
          exact k _ _ i (by assumption)
        · simp only [Int32.lt_iff_toInt_lt, Int32.le_iff_toInt_le, ← Int32.toInt_inj, Int32.reduceToInt] at h936
          refine ⟨by assumption, ?_⟩
          exact k _ _ i (by assumption)
        · simp only [Int32.lt_iff_toInt_lt, Int32.le_iff_toInt_le, ← Int32.toInt_inj, Int32.reduceToInt] at h937
          refine ⟨fun h941 => ?_, fun h942 => ?_⟩
          · simp only [Int32.lt_iff_toInt_lt, Int32.le_iff_toInt_le, ← Int32.toInt_inj, Int32.reduceToInt] at h941
            exact k _ _ i iz_0
          · simp only [Int32.lt_iff_toInt_lt, Int32.le_iff_toInt_le, ← Int32.toInt_inj, Int32.reduceToInt] at h942
            refine ⟨fun h943 => ?_, fun h944 => ?_⟩
            · simp only [Int32.lt_iff_toInt_lt, Int32.le_iff_toInt_le, ← Int32.toInt_inj, Int32.reduceToInt] at h943
              exact k _ _ i iz_0
            · simp only [Int32.lt_iff_toInt_lt, Int32.le_iff_toInt_le, ← Int32.toInt_inj, Int32.reduceToInt] at h944
              exact k _ _ i iz_1
        · simp only [Int32.lt_iff_toInt_lt, Int32.le_iff_toInt_le, ← Int32.toInt_inj, Int32.reduceToInt] at h938
          refine ⟨fun h945 => ?_, fun h946 => ?_⟩
          · simp only [Int32.lt_iff_toInt_lt, Int32.le_iff_toInt_le, ← Int32.toInt_inj, Int32.reduceToInt] at h945
            exact k _ _ i iz_1
          · simp only [Int32.lt_iff_toInt_lt, Int32.le_iff_toInt_le, ← Int32.toInt_inj, Int32.reduceToInt] at h946
            refine ⟨fun h947 => ?_, fun h948 => ?_⟩
            · simp only [Int32.lt_iff_toInt_lt, Int32.le_iff_toInt_le, ← Int32.toInt_inj, Int32.reduceToInt] at h947
              exact k _ _ i iz_0
            · simp only [Int32.lt_iff_toInt_lt, Int32.le_iff_toInt_le, ← Int32.toInt_inj, Int32.reduceToInt] at h948
              refine ⟨fun h949 => ?_, fun h950 => ?_⟩
              · simp only [Int32.lt_iff_toInt_lt, Int32.le_iff_toInt_le, ← Int32.toInt_inj, Int32.reduceToInt] at h949
                exact k _ _ i iz_0
              · simp only [Int32.lt_iff_toInt_lt, Int32.le_iff_toInt_le, ← Int32.toInt_inj, Int32.reduceToInt] at h950
                exact k _ _ i iz_1
        · simp only [Int32.lt_iff_toInt_lt, Int32.le_iff_toInt_le, ← Int32.toInt_inj, Int32.reduceToInt] at h939
          refine ⟨fun h951 => ?_, fun h952 => ?_⟩
          · simp only [Int32.lt_iff_toInt_lt, Int32.le_iff_toInt_le, ← Int32.toInt_inj, Int32.reduceToInt] at h951
            exact k _ _ i iz_1
          · simp only [Int32.lt_iff_toInt_lt, Int32.le_iff_toInt_le, ← Int32.toInt_inj, Int32.reduceToInt] at h952
            refine ⟨fun h953 => ?_, fun h954 => ?_⟩
            · simp only [Int32.lt_iff_toInt_lt, Int32.le_iff_toInt_le, ← Int32.toInt_inj, Int32.reduceToInt] at h953
              exact k _ _ i iz_0
            · simp only [Int32.lt_iff_toInt_lt, Int32.le_iff_toInt_le, ← Int32.toInt_inj, Int32.reduceToInt] at h954
              exact k _ _ i iz_1
        · simp only [Int32.lt_iff_toInt_lt, Int32.le_iff_toInt_le, ← Int32.toInt_inj, Int32.reduceToInt] at h940
          refine ⟨by assumption, ?_⟩
          exact k _ _ i (by assumption)
  refine im_X5_tellsOf (by omega) hG i (by omega) (by omega) (fun w2 iw2 => ?_)
  have zw2 := iw2.num
  refine im_X5_ruled (by omega) hG iw2 ⟨by decide, by decide⟩ (fun r3 w4 iw4 => ?_)
  have zw4 := iw4.num
  refine ⟨fun h955 => ?_, fun h956 => ?_⟩
  · simp only [Int32.lt_iff_toInt_lt, Int32.le_iff_toInt_le, ← Int32.toInt_inj, Int32.reduceToInt] at h955
    have : (0 : Int32).toInt = 0 := rfl
    exact (key _).1 _ _ iw4 (by first | assumption | exact iz_0 | exact iz_1 | exact Or.inr rfl | exact Or.inl rfl) (Nat.lt_succ_self _)
  · simp only [Int32.lt_iff_toInt_lt, Int32.le_iff_toInt_le, ← Int32.toInt_inj, Int32.reduceToInt] at h956
    have : (1 : Int32).toInt = 1 := rfl
    exact (key _).1 _ _ iw4 (by first | assumption | exact iz_0 | exact iz_1 | exact Or.inr rfl | exact Or.inl rfl) (Nat.lt_succ_self _)

set_option maxRecDepth 20000 in
theorem im_X5_feels {Γ : Gx} {d : Nat} (hd : 3 ≤ d) (hG : GM Γ) {p1 : Int32} {p2 : Int32} {p3 : Int32} {κ : Ky} {w : Wd} (i : IM κ w) (h1 : 0 ≤ p1.toInt ∧ p1.toInt ≤ 4) (h2 : 0 ≤ p2.toInt ∧ p2.toInt ≤ 4) {Q : Int32 → Wd → Prop} (k : ∀ (r : Int32) (w' : Wd), IM κ w' → Q r w') : CI Γ d M_X5_feels [.ref (gad Γ 0), .int p1, .int p2, .int p3] w Q := by
  obtain ⟨d, rfl⟩ : ∃ e, d = e + 1 := ⟨d - 1, by omega⟩
  refine con_X5_feels hG ?_
  unfold wp_X5_feels
  have zw := i.num
  intro P_31
  intro cP_31
  have key : ∀ m : Nat, (∀ (l4 : Int32) (s0 : Int32) (w : Wd), IM κ w → (0) < m → P_31 l4 s0 w) := by
    intro m
    induction m with
    | zero => exact fun _ _ _ _ h => absurd h (Nat.not_lt_zero _)
    | succ m ih =>
      intro l4 s0 w i hm
      refine cP_31 _ _ _ ?_
      have z4 := i.num
      have := i_lo p2
      have := i_hi p2
      refine ⟨vp_in_iff.mpr (by omega), ?_⟩
      refine ⟨fun h957 => ?_, fun h958 => ?_, fun h959 => ?_, fun h960 => ?_, fun h961 => ?_, fun h962 => ?_⟩
      · simp only [Int32.lt_iff_toInt_lt, Int32.le_iff_toInt_le, ← Int32.toInt_inj, Int32.reduceToInt] at h957
        exact k _ _ i
      · simp only [Int32.lt_iff_toInt_lt, Int32.le_iff_toInt_le, ← Int32.toInt_inj, Int32.reduceToInt] at h958
        refine im_X5_bound (by omega) hG i (fun r9 w10 iw10 => ?_)
        have zw10 := iw10.num
        exact k _ _ iw10
      · simp only [Int32.lt_iff_toInt_lt, Int32.le_iff_toInt_le, ← Int32.toInt_inj, Int32.reduceToInt] at h959
        refine im_X5_bound (by omega) hG i (fun r11 w12 iw12 => ?_)
        have zw12 := iw12.num
        exact k _ _ iw12
      · simp only [Int32.lt_iff_toInt_lt, Int32.le_iff_toInt_le, ← Int32.toInt_inj, Int32.reduceToInt] at h960
        refine im_X5_bound (by omega) hG i (fun r13 w14 iw14 => ?_)
        have zw14 := iw14.num
        exact k _ _ iw14
      · simp only [Int32.lt_iff_toInt_lt, Int32.le_iff_toInt_le, ← Int32.toInt_inj, Int32.reduceToInt] at h961
        refine ⟨fun h963 => ?_, fun h964 => ?_⟩
        · simp only [Int32.lt_iff_toInt_lt, Int32.le_iff_toInt_le, ← Int32.toInt_inj, Int32.reduceToInt] at h963
          exact k _ _ i
        · simp only [Int32.lt_iff_toInt_lt, Int32.le_iff_toInt_le, ← Int32.toInt_inj, Int32.reduceToInt] at h964
          exact k _ _ i
      · simp only [Int32.lt_iff_toInt_lt, Int32.le_iff_toInt_le, ← Int32.toInt_inj, Int32.reduceToInt] at h962
        exact k _ _ i
  refine im_X5_tellsOf (by omega) hG i (by omega) (by omega) (fun w2 iw2 => ?_)
  have zw2 := iw2.num
  refine im_X5_ruled (by omega) hG iw2 ⟨by decide, by decide⟩ (fun r3 w4 iw4 => ?_)
  have zw4 := iw4.num
  refine im_X5_bound (by omega) hG iw4 (fun r5 w6 iw6 => ?_)
  have zw6 := iw6.num
  refine ⟨fun h965 => ?_, fun h966 => ?_⟩
  · simp only [Int32.lt_iff_toInt_lt, Int32.le_iff_toInt_le, ← Int32.toInt_inj, Int32.reduceToInt] at h965
    exact (key _) _ _ _ iw6 (Nat.lt_succ_self _)
  · simp only [Int32.lt_iff_toInt_lt, Int32.le_iff_toInt_le, ← Int32.toInt_inj, Int32.reduceToInt] at h966
    exact (key _) _ _ _ iw6 (Nat.lt_succ_self _)

set_option maxRecDepth 20000 in
theorem im_X5_made {Γ : Gx} {d : Nat} (hd : 4 ≤ d) (hG : GM Γ) {p1 : Int32} {p2 : Int32} {κ : Ky} {w : Wd} (i : IM κ w) (h1 : 0 ≤ p1.toInt ∧ p1.toInt ≤ 4) (h2 : 0 ≤ p2.toInt ∧ p2.toInt ≤ 4) {Q : Int32 → Wd → Prop} (k : ∀ (r : Int32) (w' : Wd), IM κ w' → Q r w') : CI Γ d M_X5_made [.ref (gad Γ 0), .int p1, .int p2] w Q := by
  obtain ⟨d, rfl⟩ : ∃ e, d = e + 1 := ⟨d - 1, by omega⟩
  refine con_X5_made hG ?_
  unfold wp_X5_made
  have zw := i.num
  intro P_16
  intro cP_16
  have key : ∀ m : Nat, (∀ (l3 : Int32) (l4 : Int32) (w : Wd), IM κ w → (0 ≤ l4.toInt ∧ l4.toInt ≤ 8) → ((9 - l4.toInt).toNat) < m → P_16 l3 l4 w) := by
    intro m
    induction m with
    | zero => exact fun _ _ _ _ _ h => absurd h (Nat.not_lt_zero _)
    | succ m ih =>
      intro l3 l4 w i v0 hm
      refine cP_16 _ _ _ ?_
      have z4 := i.num
      refine ⟨fun h967 => ?_, fun h968 => ?_⟩
      · simp only [Int32.lt_iff_toInt_lt, Int32.le_iff_toInt_le, ← Int32.toInt_inj, Int32.reduceToInt] at h967
        exact k _ _ i
      · simp only [Int32.lt_iff_toInt_lt, Int32.le_iff_toInt_le, ← Int32.toInt_inj, Int32.reduceToInt] at h968
        have := i_lo l4
        have := i_hi l4
        refine ⟨vp_in_iff.mpr (by omega), ?_⟩
        refine ⟨fun h969 => ?_, fun h970 => ?_⟩
        · simp only [Int32.lt_iff_toInt_lt, Int32.le_iff_toInt_le, ← Int32.toInt_inj, Int32.reduceToInt] at h969
          have : (1 : Int32).toInt = 1 := rfl
          have := i_add (x := l4) (y := (1 : Int32)) (by omega) (by omega)
          exact ih _ _ _ i (by first | omega | rfl | assumption) (by omega)
        · simp only [Int32.lt_iff_toInt_lt, Int32.le_iff_toInt_le, ← Int32.toInt_inj, Int32.reduceToInt] at h970
          refine im_X5_cuts (by omega) hG i (by omega) (by omega) (fun r7 w8 iw8 y971 => ?_)
          have zw8 := iw8.num
          refine ⟨fun h972 => ?_, fun h973 => ?_⟩
          · simp only [Int32.lt_iff_toInt_lt, Int32.le_iff_toInt_le, ← Int32.toInt_inj, Int32.reduceToInt] at h972
            have : (1 : Int32).toInt = 1 := rfl
            have := i_add (x := l4) (y := (1 : Int32)) (by omega) (by omega)
            exact ih _ _ _ iw8 (by first | omega | rfl | assumption) (by omega)
          · simp only [Int32.lt_iff_toInt_lt, Int32.le_iff_toInt_le, ← Int32.toInt_inj, Int32.reduceToInt] at h973
            have : (1 : Int32).toInt = 1 := rfl
            have := i_add (x := l4) (y := (1 : Int32)) (by omega) (by omega)
            exact ih _ _ _ iw8 (by first | omega | rfl | assumption) (by omega)
  refine im_X5_sends (by omega) hG i (by omega) (by omega) (fun r1 w2 iw2 y974 => ?_)
  have zw2 := iw2.num
  refine ⟨fun h975 => ?_, fun h976 => ?_⟩
  · simp only [Int32.lt_iff_toInt_lt, Int32.le_iff_toInt_le, ← Int32.toInt_inj, Int32.reduceToInt] at h975
    have : (0 : Int32).toInt = 0 := rfl
    exact (key _) _ _ _ iw2 (by first | omega | rfl | assumption) (Nat.lt_succ_self _)
  · simp only [Int32.lt_iff_toInt_lt, Int32.le_iff_toInt_le, ← Int32.toInt_inj, Int32.reduceToInt] at h976
    exact k _ _ iw2

set_option maxRecDepth 20000 in
theorem im_X5_feltBy {Γ : Gx} {d : Nat} (hd : 4 ≤ d) (hG : GM Γ) {p1 : Int32} {p2 : Int32} {p3 : Int32} {κ : Ky} {w : Wd} (i : IM κ w) (h1 : 0 ≤ p1.toInt ∧ p1.toInt ≤ 4) (h2 : 0 ≤ p2.toInt ∧ p2.toInt ≤ 4) {Q : Int32 → Wd → Prop} (k : ∀ (r : Int32) (w' : Wd), IM κ w' → Q r w') : CI Γ d M_X5_feltBy [.ref (gad Γ 0), .int p1, .int p2, .int p3] w Q := by
  obtain ⟨d, rfl⟩ : ∃ e, d = e + 1 := ⟨d - 1, by omega⟩
  refine con_X5_feltBy hG ?_
  unfold wp_X5_feltBy
  have zw := i.num
  intro P_6
  intro cP_6
  have key : ∀ m : Nat, (∀ (l4 : Int32) (l5 : Int32) (w : Wd), IM κ w → (0 ≤ l5.toInt ∧ l5.toInt ≤ 8) → ((9 - l5.toInt).toNat) < m → P_6 l4 l5 w) := by
    intro m
    induction m with
    | zero => exact fun _ _ _ _ _ h => absurd h (Nat.not_lt_zero _)
    | succ m ih =>
      intro l4 l5 w i v0 hm
      refine cP_6 _ _ _ ?_
      have z4 := i.num
      refine ⟨fun h977 => ?_, fun h978 => ?_⟩
      · simp only [Int32.lt_iff_toInt_lt, Int32.le_iff_toInt_le, ← Int32.toInt_inj, Int32.reduceToInt] at h977
        exact k _ _ i
      · simp only [Int32.lt_iff_toInt_lt, Int32.le_iff_toInt_le, ← Int32.toInt_inj, Int32.reduceToInt] at h978
        refine ⟨fun h979 => ?_, fun h980 => ?_⟩
        · simp only [Int32.lt_iff_toInt_lt, Int32.le_iff_toInt_le, ← Int32.toInt_inj, Int32.reduceToInt] at h979
          have := i_lo l5
          have := i_hi l5
          have : (1 : Int32).toInt = 1 := rfl
          have := i_add (x := l5) (y := (1 : Int32)) (by omega) (by omega)
          exact ih _ _ _ i (by first | omega | rfl | assumption) (by omega)
        · simp only [Int32.lt_iff_toInt_lt, Int32.le_iff_toInt_le, ← Int32.toInt_inj, Int32.reduceToInt] at h980
          refine im_X5_feels (by omega) hG i (by omega) (by omega) (fun r3 w4 iw4 => ?_)
          have zw4 := iw4.num
          have := i_lo l5
          have := i_hi l5
          have : (1 : Int32).toInt = 1 := rfl
          have := i_add (x := l5) (y := (1 : Int32)) (by omega) (by omega)
          exact ih _ _ _ iw4 (by first | omega | rfl | assumption) (by omega)
  have : (0 : Int32).toInt = 0 := rfl
  exact (key _) _ _ _ i (by first | omega | rfl | assumption) (Nat.lt_succ_self _)

set_option maxRecDepth 20000 in
theorem im_X5_felt {Γ : Gx} {d : Nat} (hd : 5 ≤ d) (hG : GM Γ) {p1 : Int32} {κ : Ky} {w : Wd} (i : IM κ w) (h1 : 0 ≤ p1.toInt ∧ p1.toInt ≤ 4) {Q : Int32 → Wd → Prop} (k : ∀ (r : Int32) (w' : Wd), IM κ w' → Q r w') : CI Γ d M_X5_felt [.ref (gad Γ 0), .int p1] w Q := by
  obtain ⟨d, rfl⟩ : ∃ e, d = e + 1 := ⟨d - 1, by omega⟩
  refine con_X5_felt hG ?_
  unfold wp_X5_felt
  have zw := i.num
  intro P_4
  intro cP_4
  have key : ∀ m : Nat, (∀ (l2 : Int32) (l3 : Int32) (w : Wd), IM κ w → (0 ≤ l3.toInt ∧ l3.toInt ≤ 5) → ((6 - l3.toInt).toNat) < m → P_4 l2 l3 w) := by
    intro m
    induction m with
    | zero => exact fun _ _ _ _ _ h => absurd h (Nat.not_lt_zero _)
    | succ m ih =>
      intro l2 l3 w i v0 hm
      refine cP_4 _ _ _ ?_
      have z4 := i.num
      refine ⟨fun h981 => ?_, fun h982 => ?_⟩
      · simp only [Int32.lt_iff_toInt_lt, Int32.le_iff_toInt_le, ← Int32.toInt_inj, Int32.reduceToInt] at h981
        exact k _ _ i
      · simp only [Int32.lt_iff_toInt_lt, Int32.le_iff_toInt_le, ← Int32.toInt_inj, Int32.reduceToInt] at h982
        refine ⟨fun h983 => ?_, fun h984 => ?_⟩
        · simp only [Int32.lt_iff_toInt_lt, Int32.le_iff_toInt_le, ← Int32.toInt_inj, Int32.reduceToInt] at h983
          have := i_lo l3
          have := i_hi l3
          have : (1 : Int32).toInt = 1 := rfl
          have := i_add (x := l3) (y := (1 : Int32)) (by omega) (by omega)
          exact ih _ _ _ i (by first | omega | rfl | assumption) (by omega)
        · simp only [Int32.lt_iff_toInt_lt, Int32.le_iff_toInt_le, ← Int32.toInt_inj, Int32.reduceToInt] at h984
          refine im_X5_made (by omega) hG i (by omega) (by omega) (fun r3 w4 iw4 => ?_)
          have zw4 := iw4.num
          refine im_X5_feltBy (by omega) hG iw4 (by omega) (by omega) (fun r5 w6 iw6 => ?_)
          have zw6 := iw6.num
          have := i_lo l3
          have := i_hi l3
          have : (1 : Int32).toInt = 1 := rfl
          have := i_add (x := l3) (y := (1 : Int32)) (by omega) (by omega)
          exact ih _ _ _ iw6 (by first | omega | rfl | assumption) (by omega)
  have : (0 : Int32).toInt = 0 := rfl
  exact (key _) _ _ _ i (by first | omega | rfl | assumption) (Nat.lt_succ_self _)

set_option maxRecDepth 20000 in
theorem im_X5_sent {Γ : Gx} {d : Nat} (hd : 5 ≤ d) (hG : GM Γ) {p1 : Int32} {κ : Ky} {w : Wd} (i : IM κ w) (h1 : 0 ≤ p1.toInt ∧ p1.toInt ≤ 4) {Q : Int32 → Wd → Prop} (k : ∀ (r : Int32) (w' : Wd), IM κ w' → Q r w') : CI Γ d M_X5_sent [.ref (gad Γ 0), .int p1] w Q := by
  obtain ⟨d, rfl⟩ : ∃ e, d = e + 1 := ⟨d - 1, by omega⟩
  refine con_X5_sent hG ?_
  unfold wp_X5_sent
  have zw := i.num
  intro P_4
  intro cP_4
  have key : ∀ m : Nat, (∀ (l2 : Int32) (l3 : Int32) (w : Wd), IM κ w → (0 ≤ l3.toInt ∧ l3.toInt ≤ 5) → ((6 - l3.toInt).toNat) < m → P_4 l2 l3 w) := by
    intro m
    induction m with
    | zero => exact fun _ _ _ _ _ h => absurd h (Nat.not_lt_zero _)
    | succ m ih =>
      intro l2 l3 w i v0 hm
      refine cP_4 _ _ _ ?_
      have z4 := i.num
      refine ⟨fun h985 => ?_, fun h986 => ?_⟩
      · simp only [Int32.lt_iff_toInt_lt, Int32.le_iff_toInt_le, ← Int32.toInt_inj, Int32.reduceToInt] at h985
        exact k _ _ i
      · simp only [Int32.lt_iff_toInt_lt, Int32.le_iff_toInt_le, ← Int32.toInt_inj, Int32.reduceToInt] at h986
        refine ⟨fun h987 => ?_, fun h988 => ?_⟩
        · simp only [Int32.lt_iff_toInt_lt, Int32.le_iff_toInt_le, ← Int32.toInt_inj, Int32.reduceToInt] at h987
          have := i_lo l3
          have := i_hi l3
          have : (1 : Int32).toInt = 1 := rfl
          have := i_add (x := l3) (y := (1 : Int32)) (by omega) (by omega)
          exact ih _ _ _ i (by first | omega | rfl | assumption) (by omega)
        · simp only [Int32.lt_iff_toInt_lt, Int32.le_iff_toInt_le, ← Int32.toInt_inj, Int32.reduceToInt] at h988
          refine im_X5_made (by omega) hG i (by omega) (by omega) (fun r3 w4 iw4 => ?_)
          have zw4 := iw4.num
          refine ⟨fun h989 => ?_, fun h990 => ?_⟩
          · simp only [Int32.lt_iff_toInt_lt, Int32.le_iff_toInt_le, ← Int32.toInt_inj, Int32.reduceToInt] at h989
            have := i_lo l3
            have := i_hi l3
            have : (1 : Int32).toInt = 1 := rfl
            have := i_add (x := l3) (y := (1 : Int32)) (by omega) (by omega)
            exact ih _ _ _ iw4 (by first | omega | rfl | assumption) (by omega)
          · simp only [Int32.lt_iff_toInt_lt, Int32.le_iff_toInt_le, ← Int32.toInt_inj, Int32.reduceToInt] at h990
            have := i_lo l3
            have := i_hi l3
            have : (1 : Int32).toInt = 1 := rfl
            have := i_add (x := l3) (y := (1 : Int32)) (by omega) (by omega)
            exact ih _ _ _ iw4 (by first | omega | rfl | assumption) (by omega)
  have : (0 : Int32).toInt = 0 := rfl
  exact (key _) _ _ _ i (by first | omega | rfl | assumption) (Nat.lt_succ_self _)

set_option maxRecDepth 20000 in
theorem im_X5_gotten {Γ : Gx} {d : Nat} (hd : 5 ≤ d) (hG : GM Γ) {p1 : Int32} {κ : Ky} {w : Wd} (i : IM κ w) (h1 : 0 ≤ p1.toInt ∧ p1.toInt ≤ 4) {Q : Int32 → Wd → Prop} (k : ∀ (r : Int32) (w' : Wd), IM κ w' → Q r w') : CI Γ d M_X5_gotten [.ref (gad Γ 0), .int p1] w Q := by
  obtain ⟨d, rfl⟩ : ∃ e, d = e + 1 := ⟨d - 1, by omega⟩
  refine con_X5_gotten hG ?_
  unfold wp_X5_gotten
  have zw := i.num
  intro P_4
  intro cP_4
  have key : ∀ m : Nat, (∀ (l2 : Int32) (l3 : Int32) (w : Wd), IM κ w → (0 ≤ l3.toInt ∧ l3.toInt ≤ 5) → ((6 - l3.toInt).toNat) < m → P_4 l2 l3 w) := by
    intro m
    induction m with
    | zero => exact fun _ _ _ _ _ h => absurd h (Nat.not_lt_zero _)
    | succ m ih =>
      intro l2 l3 w i v0 hm
      refine cP_4 _ _ _ ?_
      have z4 := i.num
      refine ⟨fun h991 => ?_, fun h992 => ?_⟩
      · simp only [Int32.lt_iff_toInt_lt, Int32.le_iff_toInt_le, ← Int32.toInt_inj, Int32.reduceToInt] at h991
        exact k _ _ i
      · simp only [Int32.lt_iff_toInt_lt, Int32.le_iff_toInt_le, ← Int32.toInt_inj, Int32.reduceToInt] at h992
        refine ⟨fun h993 => ?_, fun h994 => ?_⟩
        · simp only [Int32.lt_iff_toInt_lt, Int32.le_iff_toInt_le, ← Int32.toInt_inj, Int32.reduceToInt] at h993
          have := i_lo l3
          have := i_hi l3
          have : (1 : Int32).toInt = 1 := rfl
          have := i_add (x := l3) (y := (1 : Int32)) (by omega) (by omega)
          exact ih _ _ _ i (by first | omega | rfl | assumption) (by omega)
        · simp only [Int32.lt_iff_toInt_lt, Int32.le_iff_toInt_le, ← Int32.toInt_inj, Int32.reduceToInt] at h994
          refine im_X5_made (by omega) hG i (by omega) (by omega) (fun r3 w4 iw4 => ?_)
          have zw4 := iw4.num
          refine im_X5_bitsOf (by omega) hG iw4 (fun r5 w6 iw6 => ?_)
          have zw6 := iw6.num
          have := i_lo l3
          have := i_hi l3
          have : (1 : Int32).toInt = 1 := rfl
          have := i_add (x := l3) (y := (1 : Int32)) (by omega) (by omega)
          exact ih _ _ _ iw6 (by first | omega | rfl | assumption) (by omega)
  have : (0 : Int32).toInt = 0 := rfl
  exact (key _) _ _ _ i (by first | omega | rfl | assumption) (Nat.lt_succ_self _)

set_option maxRecDepth 20000 in
theorem im_X5_passes {Γ : Gx} {d : Nat} (hd : 6 ≤ d) (hG : GM Γ) {κ : Ky} {w : Wd} (i : IM κ w) {Q : Wd → Prop} (k : ∀ (w' : Wd), IM κ w' → Q w') : CV Γ d M_X5_passes [.ref (gad Γ 0)] w Q := by
  obtain ⟨d, rfl⟩ : ∃ e, d = e + 1 := ⟨d - 1, by omega⟩
  refine con_X5_passes hG ?_
  unfold wp_X5_passes
  have zw := i.num
  intro P_2
  intro P_33
  intro P_79
  intro cP_2
  intro cP_33
  intro cP_79
  have key : ∀ m : Nat, (∀ (l1 : Int32) (w : Wd), IM κ w → (0 ≤ l1.toInt ∧ l1.toInt ≤ 5) → ((100 + 10 * (6 - l1.toInt)).toNat) < m → P_2 l1 w) ∧ (∀ (l1 : Int32) (l2 : Int32) (w : Wd), IM κ w → (0 ≤ l1.toInt ∧ l1.toInt ≤ 4) → (0 ≤ l2.toInt ∧ l2.toInt ≤ 5) → ((100 + 10 * (6 - l1.toInt) - 1 - l2.toInt).toNat) < m → P_33 l1 l2 w) ∧ (∀ (l1 : Int32) (w : Wd), IM κ w → (0 ≤ l1.toInt ∧ l1.toInt ≤ 5) → ((6 - l1.toInt).toNat) < m → P_79 l1 w) := by
    intro m
    induction m with
    | zero => exact ⟨fun _ _ _ _ h => absurd h (Nat.not_lt_zero _), fun _ _ _ _ _ _ h => absurd h (Nat.not_lt_zero _), fun _ _ _ _ h => absurd h (Nat.not_lt_zero _)⟩
    | succ m ih =>
      refine ⟨?_, ?_, ?_⟩
      · intro l1 w i v0 hm
        refine cP_2 _ _ ?_
        have z4 := i.num
        refine ⟨fun h995 => ?_, fun h996 => ?_⟩
        · simp only [Int32.lt_iff_toInt_lt, Int32.le_iff_toInt_le, ← Int32.toInt_inj, Int32.reduceToInt] at h995
          have : (0 : Int32).toInt = 0 := rfl
          exact ih.2.2 _ _ i (by first | omega | rfl | assumption) (by omega)
        · simp only [Int32.lt_iff_toInt_lt, Int32.le_iff_toInt_le, ← Int32.toInt_inj, Int32.reduceToInt] at h996
          have := i_lo l1
          have := i_hi l1
          refine ⟨vp_in_iff.mpr (by omega), ?_⟩
          refine im_X5_felt (by omega) hG i (by omega) (fun r3 w4 iw4 => ?_)
          have zw4 := iw4.num
          refine im_X5_bound (by omega) hG iw4 (fun r5 w6 iw6 => ?_)
          have zw6 := iw6.num
          intro w7 ew7
          have iw7 : IM κ w7 := ew7 ▸ IM.cell ⟨by decide, rfl⟩ iw6
          have zw7 := iw7.num
          have : (0 : Int32).toInt = 0 := rfl
          exact ih.2.1 _ _ _ iw7 (by first | omega | rfl | assumption) (by first | omega | rfl | assumption) (by omega)
      · intro l1 l2 w i v0 v1 hm
        refine cP_33 _ _ _ ?_
        have z4 := i.num
        refine ⟨fun h997 => ?_, fun h998 => ?_⟩
        · simp only [Int32.lt_iff_toInt_lt, Int32.le_iff_toInt_le, ← Int32.toInt_inj, Int32.reduceToInt] at h997
          have := i_lo l1
          have := i_hi l1
          have : (1 : Int32).toInt = 1 := rfl
          have := i_add (x := l1) (y := (1 : Int32)) (by omega) (by omega)
          exact ih.1 _ _ i (by first | omega | rfl | assumption) (by omega)
        · simp only [Int32.lt_iff_toInt_lt, Int32.le_iff_toInt_le, ← Int32.toInt_inj, Int32.reduceToInt] at h998
          refine ⟨fun h999 => ?_, fun h1000 => ?_⟩
          · simp only [Int32.lt_iff_toInt_lt, Int32.le_iff_toInt_le, ← Int32.toInt_inj, Int32.reduceToInt] at h999
            have := i_lo l2
            have := i_hi l2
            have : (1 : Int32).toInt = 1 := rfl
            have := i_add (x := l2) (y := (1 : Int32)) (by omega) (by omega)
            exact ih.2.1 _ _ _ i (by first | omega | rfl | assumption) (by first | omega | rfl | assumption) (by omega)
          · simp only [Int32.lt_iff_toInt_lt, Int32.le_iff_toInt_le, ← Int32.toInt_inj, Int32.reduceToInt] at h1000
            refine im_X5_made (by omega) hG i (by omega) (by omega) (fun r11 w12 iw12 => ?_)
            have zw12 := iw12.num
            refine ⟨fun h1001 => ?_, fun h1002 => ?_⟩
            · simp only [Int32.lt_iff_toInt_lt, Int32.le_iff_toInt_le, ← Int32.toInt_inj, Int32.reduceToInt] at h1001
              have := i_lo l2
              have := i_hi l2
              have : (1 : Int32).toInt = 1 := rfl
              have := i_add (x := l2) (y := (1 : Int32)) (by omega) (by omega)
              exact ih.2.1 _ _ _ iw12 (by first | omega | rfl | assumption) (by first | omega | rfl | assumption) (by omega)
            · simp only [Int32.lt_iff_toInt_lt, Int32.le_iff_toInt_le, ← Int32.toInt_inj, Int32.reduceToInt] at h1002
              intro w14 ew14
              have iw14 : IM κ w14 := ew14 ▸ IM.slot rfl iw12
              have zw14 := iw14.num
              have := i_lo l2
              have := i_hi l2
              have : (1 : Int32).toInt = 1 := rfl
              have := i_add (x := l2) (y := (1 : Int32)) (by omega) (by omega)
              exact ih.2.1 _ _ _ iw14 (by first | omega | rfl | assumption) (by first | omega | rfl | assumption) (by omega)
      · intro l1 w i v0 hm
        refine cP_79 _ _ ?_
        have z4 := i.num
        refine ⟨fun h1003 => ?_, fun h1004 => ?_⟩
        · simp only [Int32.lt_iff_toInt_lt, Int32.le_iff_toInt_le, ← Int32.toInt_inj, Int32.reduceToInt] at h1003
          exact k _ i
        · simp only [Int32.lt_iff_toInt_lt, Int32.le_iff_toInt_le, ← Int32.toInt_inj, Int32.reduceToInt] at h1004
          have := i_lo l1
          have := i_hi l1
          refine ⟨vp_in_iff.mpr (by omega), ?_⟩
          intro w18 ew18
          have iw18 : IM κ w18 := ew18 ▸ IM.cell ⟨by decide, rfl⟩ i
          have zw18 := iw18.num
          have : (1 : Int32).toInt = 1 := rfl
          have := i_add (x := l1) (y := (1 : Int32)) (by omega) (by omega)
          exact ih.2.2 _ _ iw18 (by first | omega | rfl | assumption) (by omega)
  have : (0 : Int32).toInt = 0 := rfl
  exact (key _).1 _ _ i (by first | omega | rfl | assumption) (Nat.lt_succ_self _)

set_option maxRecDepth 20000 in
theorem im_X5_glad {Γ : Gx} {d : Nat} (hd : 1 ≤ d) (hG : GM Γ) {κ : Ky} {w : Wd} (i : IM κ w) {Q : Int32 → Wd → Prop} (k : ∀ (r : Int32) (w' : Wd), IM κ w' → Q r w') : CI Γ d M_X5_glad [.ref (gad Γ 0)] w Q := by
  obtain ⟨d, rfl⟩ : ∃ e, d = e + 1 := ⟨d - 1, by omega⟩
  refine con_X5_glad hG ?_
  unfold wp_X5_glad
  have zw := i.num
  intro P_4
  intro cP_4
  have key : ∀ m : Nat, (∀ (l1 : Int32) (l2 : Int32) (w : Wd), IM κ w → (0 ≤ l2.toInt ∧ l2.toInt ≤ 5) → ((6 - l2.toInt).toNat) < m → P_4 l1 l2 w) := by
    intro m
    induction m with
    | zero => exact fun _ _ _ _ _ h => absurd h (Nat.not_lt_zero _)
    | succ m ih =>
      intro l1 l2 w i v0 hm
      refine cP_4 _ _ _ ?_
      have z4 := i.num
      refine ⟨fun h1005 => ?_, fun h1006 => ?_⟩
      · simp only [Int32.lt_iff_toInt_lt, Int32.le_iff_toInt_le, ← Int32.toInt_inj, Int32.reduceToInt] at h1005
        exact k _ _ i
      · simp only [Int32.lt_iff_toInt_lt, Int32.le_iff_toInt_le, ← Int32.toInt_inj, Int32.reduceToInt] at h1006
        have := i_lo l2
        have := i_hi l2
        refine ⟨vp_in_iff.mpr (by omega), ?_⟩
        have : (1 : Int32).toInt = 1 := rfl
        have := i_add (x := l2) (y := (1 : Int32)) (by omega) (by omega)
        exact ih _ _ _ i (by first | omega | rfl | assumption) (by omega)
  have : (0 : Int32).toInt = 0 := rfl
  exact (key _) _ _ _ i (by first | omega | rfl | assumption) (Nat.lt_succ_self _)

set_option maxRecDepth 20000 in
theorem im_X5_keeps {Γ : Gx} {d : Nat} (hd : 1 ≤ d) (hG : GM Γ) {κ : Ky} {w : Wd} (i : IM κ w) {Q : Wd → Prop} (k : ∀ (w' : Wd), IM κ w' → Q w') : CV Γ d M_X5_keeps [.ref (gad Γ 0)] w Q := by
  obtain ⟨d, rfl⟩ : ∃ e, d = e + 1 := ⟨d - 1, by omega⟩
  refine con_X5_keeps hG ?_
  unfold wp_X5_keeps
  have zw := i.num
  intro P_2
  intro cP_2
  have key : ∀ m : Nat, (∀ (l1 : Int32) (w : Wd), IM κ w → (0 ≤ l1.toInt ∧ l1.toInt ≤ 5) → ((6 - l1.toInt).toNat) < m → P_2 l1 w) := by
    intro m
    induction m with
    | zero => exact fun _ _ _ _ h => absurd h (Nat.not_lt_zero _)
    | succ m ih =>
      intro l1 w i v0 hm
      refine cP_2 _ _ ?_
      have z4 := i.num
      refine ⟨fun h1007 => ?_, fun h1008 => ?_⟩
      · simp only [Int32.lt_iff_toInt_lt, Int32.le_iff_toInt_le, ← Int32.toInt_inj, Int32.reduceToInt] at h1007
        exact k _ i
      · simp only [Int32.lt_iff_toInt_lt, Int32.le_iff_toInt_le, ← Int32.toInt_inj, Int32.reduceToInt] at h1008
        have := i_lo l1
        have := i_hi l1
        refine ⟨vp_in_iff.mpr (by omega), ?_⟩
        intro w3 ew3
        have iw3 : IM κ w3 := ew3 ▸ IM.cell ⟨by decide, rfl⟩ i
        have zw3 := iw3.num
        have : (1 : Int32).toInt = 1 := rfl
        have := i_add (x := l1) (y := (1 : Int32)) (by omega) (by omega)
        exact ih _ _ iw3 (by first | omega | rfl | assumption) (by omega)
  have : (0 : Int32).toInt = 0 := rfl
  exact (key _) _ _ i (by first | omega | rfl | assumption) (Nat.lt_succ_self _)

set_option maxRecDepth 20000 in
theorem im_X5_restores {Γ : Gx} {d : Nat} (hd : 1 ≤ d) (hG : GM Γ) {κ : Ky} {w : Wd} (i : IM κ w) {Q : Wd → Prop} (k : ∀ (w' : Wd), IM κ w' → Q w') : CV Γ d M_X5_restores [.ref (gad Γ 0)] w Q := by
  obtain ⟨d, rfl⟩ : ∃ e, d = e + 1 := ⟨d - 1, by omega⟩
  refine con_X5_restores hG ?_
  unfold wp_X5_restores
  have zw := i.num
  intro P_2
  intro cP_2
  have key : ∀ m : Nat, (∀ (l1 : Int32) (w : Wd), IM κ w → (0 ≤ l1.toInt ∧ l1.toInt ≤ 5) → ((6 - l1.toInt).toNat) < m → P_2 l1 w) := by
    intro m
    induction m with
    | zero => exact fun _ _ _ _ h => absurd h (Nat.not_lt_zero _)
    | succ m ih =>
      intro l1 w i v0 hm
      refine cP_2 _ _ ?_
      have z4 := i.num
      refine ⟨fun h1009 => ?_, fun h1010 => ?_⟩
      · simp only [Int32.lt_iff_toInt_lt, Int32.le_iff_toInt_le, ← Int32.toInt_inj, Int32.reduceToInt] at h1009
        exact k _ i
      · simp only [Int32.lt_iff_toInt_lt, Int32.le_iff_toInt_le, ← Int32.toInt_inj, Int32.reduceToInt] at h1010
        have := i_lo l1
        have := i_hi l1
        refine ⟨vp_in_iff.mpr (by omega), ?_⟩
        intro w3 ew3
        have iw3 : IM κ w3 := ew3 ▸ IM.cell ⟨by decide, rfl⟩ i
        have zw3 := iw3.num
        have : (1 : Int32).toInt = 1 := rfl
        have := i_add (x := l1) (y := (1 : Int32)) (by omega) (by omega)
        exact ih _ _ iw3 (by first | omega | rfl | assumption) (by omega)
  have : (0 : Int32).toInt = 0 := rfl
  exact (key _) _ _ i (by first | omega | rfl | assumption) (Nat.lt_succ_self _)

set_option maxRecDepth 20000 in
theorem im_X5_runs {Γ : Gx} {d : Nat} (hd : 7 ≤ d) (hG : GM Γ) {p1 : Int32} {κ : Ky} {w : Wd} (i : IM κ w) {Q : Wd → Prop} (k : ∀ (w' : Wd), IM κ w' → Q w') : CV Γ d M_X5_runs [.ref (gad Γ 0), .int p1] w Q := by
  obtain ⟨d, rfl⟩ : ∃ e, d = e + 1 := ⟨d - 1, by omega⟩
  refine con_X5_runs hG ?_
  unfold wp_X5_runs
  have zw := i.num
  intro P_11
  intro cP_11
  have key : ∀ m : Nat, (∀ (l2 : Int32) (w : Wd), IM κ w → (0 ≤ l2.toInt) → ((2147483648 - l2.toInt).toNat) < m → P_11 l2 w) := by
    intro m
    induction m with
    | zero => exact fun _ _ _ _ h => absurd h (Nat.not_lt_zero _)
    | succ m ih =>
      intro l2 w i v0 hm
      refine cP_11 _ _ ?_
      have z4 := i.num
      have hp := i_hi p1
      refine ⟨fun h1011 => ?_, fun h1012 => ?_⟩
      · simp only [Int32.lt_iff_toInt_lt, Int32.le_iff_toInt_le, ← Int32.toInt_inj, Int32.reduceToInt] at h1011
        exact k _ i
      · simp only [Int32.lt_iff_toInt_lt, Int32.le_iff_toInt_le, ← Int32.toInt_inj, Int32.reduceToInt] at h1012
        refine im_X5_passes (by omega) hG i (fun w7 iw7 => ?_)
        have zw7 := iw7.num
        have := i_lo l2
        have := i_hi l2
        have : (1 : Int32).toInt = 1 := rfl
        have := i_add (x := l2) (y := (1 : Int32)) (by omega) (by omega)
        exact ih _ _ iw7 (by first | omega | rfl | assumption) (by omega)
  refine im_X5_keeps (by omega) hG i (fun w2 iw2 => ?_)
  have zw2 := iw2.num
  intro w3 ew3
  have iw3 : IM κ w3 := ew3 ▸ IM.slot rfl iw2
  have zw3 := iw3.num
  have : (0 : Int32).toInt = 0 := rfl
  exact (key _) _ _ iw3 (by first | omega | rfl | assumption) (Nat.lt_succ_self _)

set_option maxRecDepth 20000 in
theorem im_X5_gladBehind {Γ : Gx} {d : Nat} (hd : 8 ≤ d) (hG : GM Γ) {p1 : Int32} {κ : Ky} {w : Wd} (i : IM κ w) {Q : Int32 → Wd → Prop} (k : ∀ (r : Int32) (w' : Wd), IM κ w' → Q r w') : CI Γ d M_X5_gladBehind [.ref (gad Γ 0), .int p1] w Q := by
  obtain ⟨d, rfl⟩ : ∃ e, d = e + 1 := ⟨d - 1, by omega⟩
  refine con_X5_gladBehind hG ?_
  unfold wp_X5_gladBehind
  have zw := i.num
  refine im_X5_runs (by omega) hG i (fun w2 iw2 => ?_)
  have zw2 := iw2.num
  refine im_X5_glad (by omega) hG iw2 (fun r3 w4 iw4 => ?_)
  have zw4 := iw4.num
  refine im_X5_restores (by omega) hG iw4 (fun w6 iw6 => ?_)
  have zw6 := iw6.num
  exact k _ _ iw6

set_option maxRecDepth 20000 in
theorem im_X5_sunday {Γ : Gx} {d : Nat} (hd : 7 ≤ d) (hG : GM Γ) {κ : Ky} {w : Wd} (i : IM κ w) {Q : Int32 → Wd → Prop} (k : ∀ (r : Int32) (w' : Wd), IM κ w' → Q r w') : CI Γ d M_X5_sunday [.ref (gad Γ 0)] w Q := by
  obtain ⟨d, rfl⟩ : ∃ e, d = e + 1 := ⟨d - 1, by omega⟩
  refine con_X5_sunday hG ?_
  unfold wp_X5_sunday
  have zw := i.num
  refine ⟨fun h1013 => ?_, fun h1014 => ?_⟩
  · simp only [Int32.lt_iff_toInt_lt, Int32.le_iff_toInt_le, ← Int32.toInt_inj, Int32.reduceToInt] at h1013
    refine im_X5_passes (by omega) hG i (fun w3 iw3 => ?_)
    have zw3 := iw3.num
    intro w4 ew4
    have iw4 : IM κ w4 := ew4 ▸ IM.slot rfl iw3
    have zw4 := iw4.num
    refine im_X5_glad (by omega) hG iw4 (fun r6 w7 iw7 => ?_)
    have zw7 := iw7.num
    exact k _ _ iw7
  · simp only [Int32.lt_iff_toInt_lt, Int32.le_iff_toInt_le, ← Int32.toInt_inj, Int32.reduceToInt] at h1014
    exact k _ _ i

set_option maxRecDepth 20000 in
theorem im_X5_isAlike {Γ : Gx} {d : Nat} (hd : 1 ≤ d) (hG : GM Γ) {p1 : Int32} {p2 : Int32} {κ : Ky} {w : Wd} (i : IM κ w) (h1 : 0 ≤ p1.toInt ∧ p1.toInt ≤ 40) (h2 : 0 ≤ p2.toInt ∧ p2.toInt ≤ 40) {Q : Int32 → Wd → Prop} (k : ∀ (r : Int32) (w' : Wd), IM κ w' → Q r w') : CI Γ d M_X5_isAlike [.ref (gad Γ 0), .int p1, .int p2] w Q := by
  obtain ⟨d, rfl⟩ : ∃ e, d = e + 1 := ⟨d - 1, by omega⟩
  refine con_X5_isAlike hG ?_
  unfold wp_X5_isAlike
  have zw := i.num
  intro P_2
  intro cP_2
  have key : ∀ m : Nat, (∀ (l3 : Int32) (w : Wd), IM κ w → (0 ≤ l3.toInt ∧ l3.toInt ≤ 5) → ((6 - l3.toInt).toNat) < m → P_2 l3 w) := by
    intro m
    induction m with
    | zero => exact fun _ _ _ _ h => absurd h (Nat.not_lt_zero _)
    | succ m ih =>
      intro l3 w i v0 hm
      refine cP_2 _ _ ?_
      have z4 := i.num
      refine ⟨fun h1015 => ?_, fun h1016 => ?_⟩
      · simp only [Int32.lt_iff_toInt_lt, Int32.le_iff_toInt_le, ← Int32.toInt_inj, Int32.reduceToInt] at h1015
        exact k _ _ i
      · simp only [Int32.lt_iff_toInt_lt, Int32.le_iff_toInt_le, ← Int32.toInt_inj, Int32.reduceToInt] at h1016
        have : (5 : Int32).toInt = 5 := rfl
        have := i_lo p1
        have := i_hi p1
        have := i_mulL (c := (5 : Int32)) (v := 5) (x := p1) rfl (by omega) (by omega)
        have := i_lo l3
        have := i_hi l3
        have := i_add (x := ((5 : Int32) * p1)) (y := l3) (by omega) (by omega)
        refine ⟨vp_in_iff.mpr (by omega), ?_⟩
        have := i_lo p2
        have := i_hi p2
        have := i_mulL (c := (5 : Int32)) (v := 5) (x := p2) rfl (by omega) (by omega)
        have := i_add (x := ((5 : Int32) * p2)) (y := l3) (by omega) (by omega)
        refine ⟨vp_in_iff.mpr (by omega), ?_⟩
        refine ⟨fun h1017 => ?_, fun h1018 => ?_⟩
        · have := i_lo (w 14 ((((5 : Int32) * p1) + l3)).toNatClampNeg)
          have := i_hi (w 14 ((((5 : Int32) * p1) + l3)).toNatClampNeg)
          have := i_lo (w 14 ((((5 : Int32) * p2) + l3)).toNatClampNeg)
          have := i_hi (w 14 ((((5 : Int32) * p2) + l3)).toNatClampNeg)
          simp only [Int32.lt_iff_toInt_lt, Int32.le_iff_toInt_le, ← Int32.toInt_inj, Int32.reduceToInt] at h1017
          have : (1 : Int32).toInt = 1 := rfl
          have := i_add (x := l3) (y := (1 : Int32)) (by omega) (by omega)
          exact ih _ _ i (by first | omega | rfl | assumption) (by omega)
        · have := i_lo (w 14 ((((5 : Int32) * p1) + l3)).toNatClampNeg)
          have := i_hi (w 14 ((((5 : Int32) * p1) + l3)).toNatClampNeg)
          have := i_lo (w 14 ((((5 : Int32) * p2) + l3)).toNatClampNeg)
          have := i_hi (w 14 ((((5 : Int32) * p2) + l3)).toNatClampNeg)
          simp only [Int32.lt_iff_toInt_lt, Int32.le_iff_toInt_le, ← Int32.toInt_inj, Int32.reduceToInt] at h1018
          exact k _ _ i
  have : (0 : Int32).toInt = 0 := rfl
  exact (key _) _ _ i (by first | omega | rfl | assumption) (Nat.lt_succ_self _)

set_option maxRecDepth 20000 in
theorem im_X5_remembers {Γ : Gx} {d : Nat} (hd : 7 ≤ d) (hG : GM Γ) {κ : Ky} {w : Wd} (i : IM κ w) {Q : Wd → Prop} (k : ∀ (w' : Wd), IM κ w' → Q w') : CV Γ d M_X5_remembers [.ref (gad Γ 0)] w Q := by
  obtain ⟨d, rfl⟩ : ∃ e, d = e + 1 := ⟨d - 1, by omega⟩
  refine con_X5_remembers hG ?_
  unfold wp_X5_remembers
  have zw := i.num
  intro P_6
  intro P_22
  intro cP_6
  intro cP_22
  have key : ∀ m : Nat, (∀ (l1 : Int32) (w : Wd), IM κ w → (0 ≤ l1.toInt ∧ l1.toInt ≤ 41) → ((10 * (43 - l1.toInt)).toNat) < m → P_6 l1 w) ∧ (∀ (l1 : Int32) (l2 : Int32) (w : Wd), IM κ w → (0 ≤ l1.toInt ∧ l1.toInt ≤ 40) → (0 ≤ l2.toInt ∧ l2.toInt ≤ 5) → ((10 * (43 - l1.toInt) - 1 - l2.toInt).toNat) < m → P_22 l1 l2 w) := by
    intro m
    induction m with
    | zero => exact ⟨fun _ _ _ _ h => absurd h (Nat.not_lt_zero _), fun _ _ _ _ _ _ h => absurd h (Nat.not_lt_zero _)⟩
    | succ m ih =>
      refine ⟨?_, ?_⟩
      · intro l1 w i v0 hm
        refine cP_6 _ _ ?_
        have z4 := i.num
        refine ⟨fun h1019 => ?_, fun h1020 => ?_⟩
        · simp only [Int32.lt_iff_toInt_lt, Int32.le_iff_toInt_le, ← Int32.toInt_inj, Int32.reduceToInt] at h1019
          refine im_X5_restores (by omega) hG i (fun w5 iw5 => ?_)
          have zw5 := iw5.num
          exact k _ iw5
        · simp only [Int32.lt_iff_toInt_lt, Int32.le_iff_toInt_le, ← Int32.toInt_inj, Int32.reduceToInt] at h1020
          refine ⟨fun h1021 => ?_, fun h1022 => ?_⟩
          · simp only [Int32.lt_iff_toInt_lt, Int32.le_iff_toInt_le, ← Int32.toInt_inj, Int32.reduceToInt] at h1021
            have : (0 : Int32).toInt = 0 := rfl
            exact ih.2 _ _ _ i (by first | omega | rfl | assumption) (by first | omega | rfl | assumption) (by omega)
          · simp only [Int32.lt_iff_toInt_lt, Int32.le_iff_toInt_le, ← Int32.toInt_inj, Int32.reduceToInt] at h1022
            refine im_X5_passes (by omega) hG i (fun w8 iw8 => ?_)
            have zw8 := iw8.num
            have : (0 : Int32).toInt = 0 := rfl
            exact ih.2 _ _ _ iw8 (by first | omega | rfl | assumption) (by first | omega | rfl | assumption) (by omega)
      · intro l1 l2 w i v0 v1 hm
        refine cP_22 _ _ _ ?_
        have z4 := i.num
        refine ⟨fun h1023 => ?_, fun h1024 => ?_⟩
        · simp only [Int32.lt_iff_toInt_lt, Int32.le_iff_toInt_le, ← Int32.toInt_inj, Int32.reduceToInt] at h1023
          have := i_lo l1
          have := i_hi l1
          have : (1 : Int32).toInt = 1 := rfl
          have := i_add (x := l1) (y := (1 : Int32)) (by omega) (by omega)
          exact ih.1 _ _ i (by first | omega | rfl | assumption) (by omega)
        · simp only [Int32.lt_iff_toInt_lt, Int32.le_iff_toInt_le, ← Int32.toInt_inj, Int32.reduceToInt] at h1024
          have := i_lo l2
          have := i_hi l2
          refine ⟨vp_in_iff.mpr (by omega), ?_⟩
          have : (5 : Int32).toInt = 5 := rfl
          have := i_lo l1
          have := i_hi l1
          have := i_mulL (c := (5 : Int32)) (v := 5) (x := l1) rfl (by omega) (by omega)
          have := i_add (x := ((5 : Int32) * l1)) (y := l2) (by omega) (by omega)
          refine ⟨vp_in_iff.mpr (by omega), ?_⟩
          intro w12 ew12
          have iw12 : IM κ w12 := ew12 ▸ IM.cell ⟨by decide, rfl⟩ i
          have zw12 := iw12.num
          have : (1 : Int32).toInt = 1 := rfl
          have := i_add (x := l2) (y := (1 : Int32)) (by omega) (by omega)
          exact ih.2 _ _ _ iw12 (by first | omega | rfl | assumption) (by first | omega | rfl | assumption) (by omega)
  refine im_X5_keeps (by omega) hG i (fun w2 iw2 => ?_)
  have zw2 := iw2.num
  have : (0 : Int32).toInt = 0 := rfl
  exact (key _).1 _ _ iw2 (by first | omega | rfl | assumption) (Nat.lt_succ_self _)

set_option maxRecDepth 20000 in
theorem im_X5_lettuce {Γ : Gx} {d : Nat} (hd : 5 ≤ d) (hG : GM Γ) {p1 : Int32} {κ : Ky} {w : Wd} (i : IM κ w) {Q : Int32 → Wd → Prop} (k : ∀ (r : Int32) (w' : Wd), IM κ w' → Q r w') : CI Γ d M_X5_lettuce [.ref (gad Γ 0), .int p1] w Q := by
  obtain ⟨d, rfl⟩ : ∃ e, d = e + 1 := ⟨d - 1, by omega⟩
  refine con_X5_lettuce hG ?_
  unfold wp_X5_lettuce
  have zw := i.num
  intro P_7
  intro P_19
  intro cP_7
  intro cP_19
  have key : ∀ m : Nat, (∀ (l2 : Int32) (l3 : Int32) (l4 : Int32) (w : Wd), IM κ w → (0 ≤ l4.toInt ∧ l4.toInt ≤ 5) → ((10 * (7 - l4.toInt)).toNat) < m → P_7 l2 l3 l4 w) ∧ (∀ (l2 : Int32) (l3 : Int32) (l4 : Int32) (l5 : Int32) (w : Wd), IM κ w → (0 ≤ l4.toInt ∧ l4.toInt ≤ 4) → (0 ≤ l5.toInt ∧ l5.toInt ≤ 5) → ((10 * (7 - l4.toInt) - 1 - l5.toInt).toNat) < m → P_19 l2 l3 l4 l5 w) := by
    intro m
    induction m with
    | zero => exact ⟨fun _ _ _ _ _ _ h => absurd h (Nat.not_lt_zero _), fun _ _ _ _ _ _ _ _ h => absurd h (Nat.not_lt_zero _)⟩
    | succ m ih =>
      refine ⟨?_, ?_⟩
      · intro l2 l3 l4 w i v0 hm
        refine cP_7 _ _ _ _ ?_
        have z4 := i.num
        refine ⟨fun h1025 => ?_, fun h1026 => ?_⟩
        · simp only [Int32.lt_iff_toInt_lt, Int32.le_iff_toInt_le, ← Int32.toInt_inj, Int32.reduceToInt] at h1025
          refine ⟨fun h1027 => ?_, fun h1028 => ?_⟩
          · simp only [Int32.lt_iff_toInt_lt, Int32.le_iff_toInt_le, ← Int32.toInt_inj, Int32.reduceToInt] at h1027
            exact k _ _ i
          · simp only [Int32.lt_iff_toInt_lt, Int32.le_iff_toInt_le, ← Int32.toInt_inj, Int32.reduceToInt] at h1028
            exact k _ _ i
        · simp only [Int32.lt_iff_toInt_lt, Int32.le_iff_toInt_le, ← Int32.toInt_inj, Int32.reduceToInt] at h1026
          have : (0 : Int32).toInt = 0 := rfl
          exact ih.2 _ _ _ _ _ i (by first | omega | rfl | assumption) (by first | omega | rfl | assumption) (by omega)
      · intro l2 l3 l4 l5 w i v0 v1 hm
        refine cP_19 _ _ _ _ _ ?_
        have z4 := i.num
        refine ⟨fun h1029 => ?_, fun h1030 => ?_⟩
        · simp only [Int32.lt_iff_toInt_lt, Int32.le_iff_toInt_le, ← Int32.toInt_inj, Int32.reduceToInt] at h1029
          have := i_lo l4
          have := i_hi l4
          have : (1 : Int32).toInt = 1 := rfl
          have := i_add (x := l4) (y := (1 : Int32)) (by omega) (by omega)
          exact ih.1 _ _ _ _ i (by first | omega | rfl | assumption) (by omega)
        · simp only [Int32.lt_iff_toInt_lt, Int32.le_iff_toInt_le, ← Int32.toInt_inj, Int32.reduceToInt] at h1030
          refine ⟨fun h1031 => ?_, fun h1032 => ?_⟩
          · simp only [Int32.lt_iff_toInt_lt, Int32.le_iff_toInt_le, ← Int32.toInt_inj, Int32.reduceToInt] at h1031
            have := i_lo l5
            have := i_hi l5
            have : (1 : Int32).toInt = 1 := rfl
            have := i_add (x := l5) (y := (1 : Int32)) (by omega) (by omega)
            exact ih.2 _ _ _ _ _ i (by first | omega | rfl | assumption) (by first | omega | rfl | assumption) (by omega)
          · simp only [Int32.lt_iff_toInt_lt, Int32.le_iff_toInt_le, ← Int32.toInt_inj, Int32.reduceToInt] at h1032
            refine im_X5_made (by omega) hG i (by omega) (by omega) (fun r5 w6 iw6 => ?_)
            have zw6 := iw6.num
            refine ⟨fun h1033 => ?_, fun h1034 => ?_⟩
            · simp only [Int32.lt_iff_toInt_lt, Int32.le_iff_toInt_le, ← Int32.toInt_inj, Int32.reduceToInt] at h1033
              refine ⟨fun h1035 => ?_, fun h1036 => ?_⟩
              · simp only [Int32.lt_iff_toInt_lt, Int32.le_iff_toInt_le, ← Int32.toInt_inj, Int32.reduceToInt] at h1035
                have := i_lo l5
                have := i_hi l5
                have : (1 : Int32).toInt = 1 := rfl
                have := i_add (x := l5) (y := (1 : Int32)) (by omega) (by omega)
                exact ih.2 _ _ _ _ _ iw6 (by first | omega | rfl | assumption) (by first | omega | rfl | assumption) (by omega)
              · simp only [Int32.lt_iff_toInt_lt, Int32.le_iff_toInt_le, ← Int32.toInt_inj, Int32.reduceToInt] at h1036
                have := i_lo l5
                have := i_hi l5
                have : (1 : Int32).toInt = 1 := rfl
                have := i_add (x := l5) (y := (1 : Int32)) (by omega) (by omega)
                exact ih.2 _ _ _ _ _ iw6 (by first | omega | rfl | assumption) (by first | omega | rfl | assumption) (by omega)
            · simp only [Int32.lt_iff_toInt_lt, Int32.le_iff_toInt_le, ← Int32.toInt_inj, Int32.reduceToInt] at h1034
              have := i_lo l5
              have := i_hi l5
              have : (1 : Int32).toInt = 1 := rfl
              have := i_add (x := l5) (y := (1 : Int32)) (by omega) (by omega)
              exact ih.2 _ _ _ _ _ iw6 (by first | omega | rfl | assumption) (by first | omega | rfl | assumption) (by omega)
  have : (0 : Int32).toInt = 0 := rfl
  exact (key _).1 _ _ _ _ i (by first | omega | rfl | assumption) (Nat.lt_succ_self _)

set_option maxRecDepth 20000 in
theorem im_X5_left {Γ : Gx} {d : Nat} (hd : 6 ≤ d) (hG : GM Γ) {κ : Ky} {w : Wd} (i : IM κ w) {Q : Int32 → Wd → Prop} (k : ∀ (r : Int32) (w' : Wd), IM κ w' → Q r w') : CI Γ d M_X5_left [.ref (gad Γ 0)] w Q := by
  obtain ⟨d, rfl⟩ : ∃ e, d = e + 1 := ⟨d - 1, by omega⟩
  refine con_X5_left hG ?_
  unfold wp_X5_left
  have zw := i.num
  intro P_4
  intro cP_4
  have key : ∀ m : Nat, (∀ (l1 : Int32) (l2 : Int32) (w : Wd), IM κ w → (0 ≤ l2.toInt ∧ l2.toInt ≤ 5) → ((6 - l2.toInt).toNat) < m → P_4 l1 l2 w) := by
    intro m
    induction m with
    | zero => exact fun _ _ _ _ _ h => absurd h (Nat.not_lt_zero _)
    | succ m ih =>
      intro l1 l2 w i v0 hm
      refine cP_4 _ _ _ ?_
      have z4 := i.num
      refine ⟨fun h1037 => ?_, fun h1038 => ?_⟩
      · simp only [Int32.lt_iff_toInt_lt, Int32.le_iff_toInt_le, ← Int32.toInt_inj, Int32.reduceToInt] at h1037
        exact k _ _ i
      · simp only [Int32.lt_iff_toInt_lt, Int32.le_iff_toInt_le, ← Int32.toInt_inj, Int32.reduceToInt] at h1038
        refine im_X5_gotten (by omega) hG i (by omega) (fun r2 w3 iw3 => ?_)
        have zw3 := iw3.num
        refine ⟨fun h1039 => ?_, fun h1040 => ?_⟩
        · simp only [Int32.lt_iff_toInt_lt, Int32.le_iff_toInt_le, ← Int32.toInt_inj, Int32.reduceToInt] at h1039
          have := i_lo l2
          have := i_hi l2
          have : (1 : Int32).toInt = 1 := rfl
          have := i_add (x := l2) (y := (1 : Int32)) (by omega) (by omega)
          exact ih _ _ _ iw3 (by first | omega | rfl | assumption) (by omega)
        · simp only [Int32.lt_iff_toInt_lt, Int32.le_iff_toInt_le, ← Int32.toInt_inj, Int32.reduceToInt] at h1040
          have := i_lo l2
          have := i_hi l2
          have : (1 : Int32).toInt = 1 := rfl
          have := i_add (x := l2) (y := (1 : Int32)) (by omega) (by omega)
          exact ih _ _ _ iw3 (by first | omega | rfl | assumption) (by omega)
  have : (0 : Int32).toInt = 0 := rfl
  exact (key _) _ _ _ i (by first | omega | rfl | assumption) (Nat.lt_succ_self _)

set_option maxRecDepth 20000 in
theorem im_X5_wrong {Γ : Gx} {d : Nat} (hd : 7 ≤ d) (hG : GM Γ) {p1 : Int32} {p2 : Int32} {κ : Ky} {w : Wd} (i : IM κ w) (h1 : 0 ≤ p1.toInt ∧ p1.toInt ≤ 3) (h2 : 0 ≤ p2.toInt ∧ p2.toInt ≤ 4) {Q : Int32 → Wd → Prop} (k : ∀ (r : Int32) (w' : Wd), IM κ w' → Q r w') : CI Γ d M_X5_wrong [.ref (gad Γ 0), .int p1, .int p2] w Q := by
  obtain ⟨d, rfl⟩ : ∃ e, d = e + 1 := ⟨d - 1, by omega⟩
  refine con_X5_wrong hG ?_
  unfold wp_X5_wrong
  have zw := i.num
  intro P_9
  intro cP_9
  have key : ∀ m : Nat, (∀ (l3 : Int32) (l4 : Int32) (w : Wd), IM κ w → (0 ≤ l4.toInt ∧ l4.toInt ≤ 40) → ((41 - l4.toInt).toNat) < m → P_9 l3 l4 w) := by
    intro m
    induction m with
    | zero => exact fun _ _ _ _ _ h => absurd h (Nat.not_lt_zero _)
    | succ m ih =>
      intro l3 l4 w i v0 hm
      refine cP_9 _ _ _ ?_
      have z4 := i.num
      have zs := i.2.2.2.1 p1.toNatClampNeg (tn_lt (by omega) (by omega))
      have := i_lo p1
      have := i_hi p1
      refine ⟨vp_in_iff.mpr (by omega), ?_⟩
      refine ⟨fun h1041 => ?_, fun h1042 => ?_⟩
      · simp only [Int32.lt_iff_toInt_lt, Int32.le_iff_toInt_le, ← Int32.toInt_inj, Int32.reduceToInt] at h1041
        refine im_X5_restores (by omega) hG i (fun w6 iw6 => ?_)
        have zw6 := iw6.num
        exact k _ _ iw6
      · simp only [Int32.lt_iff_toInt_lt, Int32.le_iff_toInt_le, ← Int32.toInt_inj, Int32.reduceToInt] at h1042
        refine ⟨fun h1043 => ?_, fun h1044 => ?_⟩
        · simp only [Int32.lt_iff_toInt_lt, Int32.le_iff_toInt_le, ← Int32.toInt_inj, Int32.reduceToInt] at h1043
          refine im_X5_restores (by omega) hG i (fun w9 iw9 => ?_)
          have zw9 := iw9.num
          exact k _ _ iw9
        · simp only [Int32.lt_iff_toInt_lt, Int32.le_iff_toInt_le, ← Int32.toInt_inj, Int32.reduceToInt] at h1044
          refine im_X5_passes (by omega) hG i (fun w11 iw11 => ?_)
          have zw11 := iw11.num
          have := i_lo p2
          have := i_hi p2
          refine ⟨vp_in_iff.mpr (by omega), ?_⟩
          have : (40 : Int32).toInt = 40 := rfl
          have := i_mulL (c := (40 : Int32)) (v := 40) (x := p1) rfl (by omega) (by omega)
          have := i_lo l4
          have := i_hi l4
          have := i_add (x := ((40 : Int32) * p1)) (y := l4) (by omega) (by omega)
          refine ⟨vp_in_iff.mpr (by omega), ?_⟩
          refine ⟨fun h1045 => ?_, fun h1046 => ?_⟩
          · have := i_lo (w11 19 ((((40 : Int32) * p1) + l4)).toNatClampNeg)
            have := i_hi (w11 19 ((((40 : Int32) * p1) + l4)).toNatClampNeg)
            simp only [Int32.lt_iff_toInt_lt, Int32.le_iff_toInt_le, ← Int32.toInt_inj, Int32.reduceToInt] at h1045
            have : (1 : Int32).toInt = 1 := rfl
            have := i_add (x := l4) (y := (1 : Int32)) (by omega) (by omega)
            exact ih _ _ _ iw11 (by first | omega | rfl | assumption) (by omega)
          · have := i_lo (w11 19 ((((40 : Int32) * p1) + l4)).toNatClampNeg)
            have := i_hi (w11 19 ((((40 : Int32) * p1) + l4)).toNatClampNeg)
            simp only [Int32.lt_iff_toInt_lt, Int32.le_iff_toInt_le, ← Int32.toInt_inj, Int32.reduceToInt] at h1046
            have : (1 : Int32).toInt = 1 := rfl
            have := i_add (x := l4) (y := (1 : Int32)) (by omega) (by omega)
            exact ih _ _ _ iw11 (by first | omega | rfl | assumption) (by omega)
  refine im_X5_keeps (by omega) hG i (fun w2 iw2 => ?_)
  have zw2 := iw2.num
  have : (0 : Int32).toInt = 0 := rfl
  exact (key _) _ _ _ iw2 (by first | omega | rfl | assumption) (Nat.lt_succ_self _)

set_option maxRecDepth 20000 in
theorem im_X5_kindsSo {Γ : Gx} {d : Nat} (hd : 8 ≤ d) (hG : GM Γ) {p1 : Int32} {p2 : Int32} {κ : Ky} {w : Wd} (i : IM κ w) (h1 : 0 ≤ p1.toInt ∧ p1.toInt ≤ 3) (h2 : 0 ≤ p2.toInt ∧ p2.toInt ≤ 4) {Q : Int32 → Wd → Prop} (k : ∀ (r : Int32) (w' : Wd), IM κ w' → Q r w') : CI Γ d M_X5_kindsSo [.ref (gad Γ 0), .int p1, .int p2] w Q := by
  obtain ⟨d, rfl⟩ : ∃ e, d = e + 1 := ⟨d - 1, by omega⟩
  refine con_X5_kindsSo hG ?_
  unfold wp_X5_kindsSo
  have zw := i.num
  intro P_13
  intro cP_13
  have key : ∀ m : Nat, (∀ (l3 : Int32) (l4 : Int32) (l5 : Int32) (w : Wd), IM κ w → (0 ≤ l5.toInt ∧ l5.toInt ≤ 6) → ((7 - l5.toInt).toNat) < m → P_13 l3 l4 l5 w) := by
    intro m
    induction m with
    | zero => exact fun _ _ _ _ _ _ h => absurd h (Nat.not_lt_zero _)
    | succ m ih =>
      intro l3 l4 l5 w i v0 hm
      refine cP_13 _ _ _ _ ?_
      have z4 := i.num
      refine ⟨fun h1047 => ?_, fun h1048 => ?_⟩
      · simp only [Int32.lt_iff_toInt_lt, Int32.le_iff_toInt_le, ← Int32.toInt_inj, Int32.reduceToInt] at h1047
        have := i_lo p2
        have := i_hi p2
        refine ⟨vp_in_iff.mpr (by omega), ?_⟩
        intro w4 ew4
        have iw4 : IM κ w4 := ew4 ▸ IM.cell ⟨by decide, rfl⟩ i
        have zw4 := iw4.num
        exact k _ _ iw4
      · simp only [Int32.lt_iff_toInt_lt, Int32.le_iff_toInt_le, ← Int32.toInt_inj, Int32.reduceToInt] at h1048
        have := i_lo p2
        have := i_hi p2
        refine ⟨vp_in_iff.mpr (by omega), ?_⟩
        intro w7 ew7
        have iw7 : IM κ w7 := ew7 ▸ IM.cell ⟨by decide, rfl⟩ i
        have zw7 := iw7.num
        refine im_X5_wrong (by omega) hG iw7 (by omega) (by omega) (fun r9 w10 iw10 => ?_)
        have zw10 := iw10.num
        refine ⟨fun h1049 => ?_, fun h1050 => ?_⟩
        · simp only [Int32.lt_iff_toInt_lt, Int32.le_iff_toInt_le, ← Int32.toInt_inj, Int32.reduceToInt] at h1049
          have := i_lo l5
          have := i_hi l5
          have : (1 : Int32).toInt = 1 := rfl
          have := i_add (x := l5) (y := (1 : Int32)) (by omega) (by omega)
          exact ih _ _ _ _ iw10 (by first | omega | rfl | assumption) (by omega)
        · simp only [Int32.lt_iff_toInt_lt, Int32.le_iff_toInt_le, ← Int32.toInt_inj, Int32.reduceToInt] at h1050
          have := i_lo l5
          have := i_hi l5
          have : (1 : Int32).toInt = 1 := rfl
          have := i_add (x := l5) (y := (1 : Int32)) (by omega) (by omega)
          exact ih _ _ _ _ iw10 (by first | omega | rfl | assumption) (by omega)
  have := i_lo p2
  have := i_hi p2
  refine ⟨vp_in_iff.mpr (by omega), ?_⟩
  have : (0 : Int32).toInt = 0 := rfl
  exact (key _) _ _ _ _ i (by first | omega | rfl | assumption) (Nat.lt_succ_self _)

set_option maxRecDepth 20000 in
theorem im_X5_numbersSo {Γ : Gx} {d : Nat} (hd : 8 ≤ d) (hG : GM Γ) {p1 : Int32} {p2 : Int32} {κ : Ky} {w : Wd} (i : IM κ w) (h1 : 0 ≤ p1.toInt ∧ p1.toInt ≤ 3) (h2 : 0 ≤ p2.toInt ∧ p2.toInt ≤ 4) {Q : Int32 → Wd → Prop} (k : ∀ (r : Int32) (w' : Wd), IM κ w' → Q r w') : CI Γ d M_X5_numbersSo [.ref (gad Γ 0), .int p1, .int p2] w Q := by
  obtain ⟨d, rfl⟩ : ∃ e, d = e + 1 := ⟨d - 1, by omega⟩
  refine con_X5_numbersSo hG ?_
  unfold wp_X5_numbersSo
  have zw := i.num
  intro P_13
  intro cP_13
  have key : ∀ m : Nat, (∀ (l3 : Int32) (l4 : Int32) (l5 : Int32) (w : Wd), IM κ w → (0 ≤ l5.toInt ∧ l5.toInt ≤ 10) → ((11 - l5.toInt).toNat) < m → P_13 l3 l4 l5 w) := by
    intro m
    induction m with
    | zero => exact fun _ _ _ _ _ _ h => absurd h (Nat.not_lt_zero _)
    | succ m ih =>
      intro l3 l4 l5 w i v0 hm
      refine cP_13 _ _ _ _ ?_
      have z4 := i.num
      refine ⟨fun h1051 => ?_, fun h1052 => ?_⟩
      · simp only [Int32.lt_iff_toInt_lt, Int32.le_iff_toInt_le, ← Int32.toInt_inj, Int32.reduceToInt] at h1051
        have := i_lo p2
        have := i_hi p2
        refine ⟨vp_in_iff.mpr (by omega), ?_⟩
        intro w4 ew4
        have iw4 : IM κ w4 := ew4 ▸ IM.cell ⟨by decide, rfl⟩ i
        have zw4 := iw4.num
        exact k _ _ iw4
      · simp only [Int32.lt_iff_toInt_lt, Int32.le_iff_toInt_le, ← Int32.toInt_inj, Int32.reduceToInt] at h1052
        have := i_lo p2
        have := i_hi p2
        refine ⟨vp_in_iff.mpr (by omega), ?_⟩
        intro w7 ew7
        have iw7 : IM κ w7 := ew7 ▸ IM.cell ⟨by decide, rfl⟩ i
        have zw7 := iw7.num
        refine im_X5_wrong (by omega) hG iw7 (by omega) (by omega) (fun r9 w10 iw10 => ?_)
        have zw10 := iw10.num
        refine ⟨fun h1053 => ?_, fun h1054 => ?_⟩
        · simp only [Int32.lt_iff_toInt_lt, Int32.le_iff_toInt_le, ← Int32.toInt_inj, Int32.reduceToInt] at h1053
          have := i_lo l5
          have := i_hi l5
          have : (1 : Int32).toInt = 1 := rfl
          have := i_add (x := l5) (y := (1 : Int32)) (by omega) (by omega)
          exact ih _ _ _ _ iw10 (by first | omega | rfl | assumption) (by omega)
        · simp only [Int32.lt_iff_toInt_lt, Int32.le_iff_toInt_le, ← Int32.toInt_inj, Int32.reduceToInt] at h1054
          have := i_lo l5
          have := i_hi l5
          have : (1 : Int32).toInt = 1 := rfl
          have := i_add (x := l5) (y := (1 : Int32)) (by omega) (by omega)
          exact ih _ _ _ _ iw10 (by first | omega | rfl | assumption) (by omega)
  have := i_lo p2
  have := i_hi p2
  refine ⟨vp_in_iff.mpr (by omega), ?_⟩
  have : (0 : Int32).toInt = 0 := rfl
  exact (key _) _ _ _ _ i (by first | omega | rfl | assumption) (Nat.lt_succ_self _)

set_option maxRecDepth 20000 in
theorem im_X5_moodsSo {Γ : Gx} {d : Nat} (hd : 8 ≤ d) (hG : GM Γ) {p1 : Int32} {p2 : Int32} {p3 : Int32} {κ : Ky} {w : Wd} (i : IM κ w) (h1 : 0 ≤ p1.toInt ∧ p1.toInt ≤ 3) (h2 : 0 ≤ p2.toInt ∧ p2.toInt ≤ 4) {Q : Int32 → Wd → Prop} (k : ∀ (r : Int32) (w' : Wd), IM κ w' → Q r w') : CI Γ d M_X5_moodsSo [.ref (gad Γ 0), .int p1, .int p2, .int p3] w Q := by
  obtain ⟨d, rfl⟩ : ∃ e, d = e + 1 := ⟨d - 1, by omega⟩
  refine con_X5_moodsSo hG ?_
  unfold wp_X5_moodsSo
  have zw := i.num
  intro P_19
  intro cP_19
  have key : ∀ m : Nat, (∀ (l4 : Int32) (l5 : Int32) (l6 : Int32) (l7 : Int32) (w : Wd), IM κ w → (-21 ≤ l7.toInt ∧ l7.toInt ≤ 20) → ((l7.toInt + 22).toNat) < m → P_19 l4 l5 l6 l7 w) := by
    intro m
    induction m with
    | zero => exact fun _ _ _ _ _ _ _ h => absurd h (Nat.not_lt_zero _)
    | succ m ih =>
      intro l4 l5 l6 l7 w i v0 hm
      refine cP_19 _ _ _ _ _ ?_
      have z4 := i.num
      obtain ⟨y, hy⟩ : ∃ y : Int32, y = l7 + (-1) := ⟨_, rfl⟩
      rw [← hy]
      have ey : y.toInt = l7.toInt - 1 := by rw [hy]; exact i_dec (by omega)
      clear hy
      refine ⟨fun h1055 => ?_, fun h1056 => ?_⟩
      · simp only [Int32.lt_iff_toInt_lt, Int32.le_iff_toInt_le, ← Int32.toInt_inj, Int32.reduceToInt] at h1055
        have := i_lo p2
        have := i_hi p2
        refine ⟨vp_in_iff.mpr (by omega), ?_⟩
        intro w4 ew4
        have iw4 : IM κ w4 := ew4 ▸ IM.cell ⟨by decide, rfl⟩ i
        have zw4 := iw4.num
        refine ⟨fun h1057 => ?_, fun h1058 => ?_⟩
        · simp only [Int32.lt_iff_toInt_lt, Int32.le_iff_toInt_le, ← Int32.toInt_inj, Int32.reduceToInt] at h1057
          exact k _ _ iw4
        · simp only [Int32.lt_iff_toInt_lt, Int32.le_iff_toInt_le, ← Int32.toInt_inj, Int32.reduceToInt] at h1058
          exact k _ _ iw4
      · simp only [Int32.lt_iff_toInt_lt, Int32.le_iff_toInt_le, ← Int32.toInt_inj, Int32.reduceToInt] at h1056
        have := i_lo p2
        have := i_hi p2
        refine ⟨vp_in_iff.mpr (by omega), ?_⟩
        intro w8 ew8
        have iw8 : IM κ w8 := ew8 ▸ IM.cell ⟨by decide, rfl⟩ i
        have zw8 := iw8.num
        refine im_X5_wrong (by omega) hG iw8 (by omega) (by omega) (fun r10 w11 iw11 => ?_)
        have zw11 := iw11.num
        refine ⟨fun h1059 => ?_, fun h1060 => ?_⟩
        · simp only [Int32.lt_iff_toInt_lt, Int32.le_iff_toInt_le, ← Int32.toInt_inj, Int32.reduceToInt] at h1059
          exact ih _ _ _ _ _ iw11 (by first | omega | rfl | assumption) (by omega)
        · simp only [Int32.lt_iff_toInt_lt, Int32.le_iff_toInt_le, ← Int32.toInt_inj, Int32.reduceToInt] at h1060
          exact ih _ _ _ _ _ iw11 (by first | omega | rfl | assumption) (by omega)
  have := i_lo p2
  have := i_hi p2
  refine ⟨vp_in_iff.mpr (by omega), ?_⟩
  have : (20 : Int32).toInt = 20 := rfl
  exact (key _) _ _ _ _ _ i (by first | omega | rfl | assumption) (Nat.lt_succ_self _)

set_option maxRecDepth 20000 in
theorem im_X5_byLot {Γ : Gx} {d : Nat} (hd : 9 ≤ d) (hG : GM Γ) {p1 : Int32} {κ : Ky} {w : Wd} (i : IM κ w) {Q : Int32 → Wd → Prop} (k : ∀ (r : Int32) (w' : Wd), IM κ w' → Q r w') : CI Γ d M_X5_byLot [.ref (gad Γ 0), .int p1] w Q := by
  obtain ⟨d, rfl⟩ : ∃ e, d = e + 1 := ⟨d - 1, by omega⟩
  refine con_X5_byLot hG ?_
  unfold wp_X5_byLot
  have zw := i.num
  intro P_2
  intro P_29
  intro P_78
  intro cP_2
  intro cP_29
  intro cP_78
  have key : ∀ m : Nat, (∀ (l2 : Int32) (w : Wd), IM κ w → (0 ≤ l2.toInt ∧ l2.toInt ≤ 5) → ((106 - l2.toInt).toNat) < m → P_2 l2 w) ∧ (∀ (l2 : Int32) (l3 : Int32) (w : Wd), IM κ w → (0 ≤ l3.toInt ∧ l3.toInt ≤ 5) → ((56 - l3.toInt).toNat) < m → P_29 l2 l3 w) ∧ (∀ (l3 : Int32) (l4 : Int32) (w : Wd), IM κ w → (0 ≤ l4.toInt ∧ l4.toInt ≤ 5) → ((6 - l4.toInt).toNat) < m → P_78 l3 l4 w) := by
    intro m
    induction m with
    | zero => exact ⟨fun _ _ _ _ h => absurd h (Nat.not_lt_zero _), fun _ _ _ _ _ h => absurd h (Nat.not_lt_zero _), fun _ _ _ _ _ h => absurd h (Nat.not_lt_zero _)⟩
    | succ m ih =>
      refine ⟨?_, ?_, ?_⟩
      · intro l2 w i v0 hm
        refine cP_2 _ _ ?_
        have z4 := i.num
        refine ⟨fun h1061 => ?_, fun h1062 => ?_⟩
        · simp only [Int32.lt_iff_toInt_lt, Int32.le_iff_toInt_le, ← Int32.toInt_inj, Int32.reduceToInt] at h1061
          have : (0 : Int32).toInt = 0 := rfl
          exact ih.2.1 _ _ _ i (by first | omega | rfl | assumption) (by omega)
        · simp only [Int32.lt_iff_toInt_lt, Int32.le_iff_toInt_le, ← Int32.toInt_inj, Int32.reduceToInt] at h1062
          have := i_lo l2
          have := i_hi l2
          refine ⟨vp_in_iff.mpr (by omega), ?_⟩
          refine ⟨vp_in_iff.mpr (by omega), ?_⟩
          intro w4 ew4
          have iw4 : IM κ w4 := ew4 ▸ IM.cell ⟨by decide, rfl⟩ i
          have zw4 := iw4.num
          have : (1 : Int32).toInt = 1 := rfl
          have := i_add (x := l2) (y := (1 : Int32)) (by omega) (by omega)
          exact ih.1 _ _ iw4 (by first | omega | rfl | assumption) (by omega)
      · intro l2 l3 w i v0 hm
        refine cP_29 _ _ _ ?_
        have z4 := i.num
        refine ⟨fun h1063 => ?_, fun h1064 => ?_⟩
        · simp only [Int32.lt_iff_toInt_lt, Int32.le_iff_toInt_le, ← Int32.toInt_inj, Int32.reduceToInt] at h1063
          refine im_X5_gladBehind (by omega) hG i (fun r7 w8 iw8 => ?_)
          have zw8 := iw8.num
          have : (0 : Int32).toInt = 0 := rfl
          exact ih.2.2 _ _ _ iw8 (by first | omega | rfl | assumption) (by omega)
        · simp only [Int32.lt_iff_toInt_lt, Int32.le_iff_toInt_le, ← Int32.toInt_inj, Int32.reduceToInt] at h1064
          intro v9 ev9
          have := i_lo l3
          have := i_hi l3
          refine ⟨vp_in_iff.mpr (by omega), ?_⟩
          intro w12 ew12
          have iw12 : IM κ w12 := ew12 ▸ IM.cell ⟨by decide, rfl⟩ i
          have zw12 := iw12.num
          have : (1 : Int32).toInt = 1 := rfl
          have := i_add (x := l3) (y := (1 : Int32)) (by omega) (by omega)
          exact ih.2.1 _ _ _ iw12 (by first | omega | rfl | assumption) (by omega)
      · intro l3 l4 w i v0 hm
        refine cP_78 _ _ _ ?_
        have z4 := i.num
        refine ⟨fun h1065 => ?_, fun h1066 => ?_⟩
        · simp only [Int32.lt_iff_toInt_lt, Int32.le_iff_toInt_le, ← Int32.toInt_inj, Int32.reduceToInt] at h1065
          exact k _ _ i
        · simp only [Int32.lt_iff_toInt_lt, Int32.le_iff_toInt_le, ← Int32.toInt_inj, Int32.reduceToInt] at h1066
          have := i_lo l4
          have := i_hi l4
          refine ⟨vp_in_iff.mpr (by omega), ?_⟩
          refine ⟨vp_in_iff.mpr (by omega), ?_⟩
          intro w17 ew17
          have iw17 : IM κ w17 := ew17 ▸ IM.cell ⟨by decide, rfl⟩ i
          have zw17 := iw17.num
          have : (1 : Int32).toInt = 1 := rfl
          have := i_add (x := l4) (y := (1 : Int32)) (by omega) (by omega)
          exact ih.2.2 _ _ _ iw17 (by first | omega | rfl | assumption) (by omega)
  have : (0 : Int32).toInt = 0 := rfl
  exact (key _).1 _ _ i (by first | omega | rfl | assumption) (Nat.lt_succ_self _)

set_option maxRecDepth 20000 in
theorem im_X5_told {Γ : Gx} {d : Nat} (hd : 6 ≤ d) (hG : GM Γ) {p1 : Int32} {p2 : Int32} {κ : Ky} {w : Wd} (i : IM κ w) {Q : Int32 → Wd → Prop} (k : ∀ (r : Int32) (w' : Wd), IM κ w' → Q r w') : CI Γ d M_X5_told [.ref (gad Γ 0), .int p1, .int p2] w Q := by
  obtain ⟨d, rfl⟩ : ∃ e, d = e + 1 := ⟨d - 1, by omega⟩
  refine con_X5_told hG ?_
  unfold wp_X5_told
  have zw := i.num
  refine cs_X5_within (by omega) hG (lo := 0) (hi := 3) rfl rfl (fun r1 z1067 y1068 => ?_)
  refine ⟨fun h1069 => ?_, fun h1070 => ?_⟩
  · have h1069 : ¬ _ := fun q => y1068.mpr q h1069
    refine cs_X5_isOne (by omega) hG (by omega) (fun r4 y1071 y1072 => ?_)
    refine ⟨fun h1073 => ?_, fun h1074 => ?_⟩
    · have h1073 := y1072.mp h1073
      refine ⟨fun h1075 => ?_, fun h1076 => ?_, fun h1077 => ?_, fun h1078 => ?_, fun h1079 => ?_⟩
      · simp only [Int32.lt_iff_toInt_lt, Int32.le_iff_toInt_le, ← Int32.toInt_inj, Int32.reduceToInt] at h1075
        have := i_lo p1
        have := i_hi p1
        refine ⟨vp_in_iff.mpr (by omega), ?_⟩
        exact k _ _ i
      · simp only [Int32.lt_iff_toInt_lt, Int32.le_iff_toInt_le, ← Int32.toInt_inj, Int32.reduceToInt] at h1076
        refine im_X5_sent (by omega) hG i (by omega) (fun r8 w9 iw9 => ?_)
        have zw9 := iw9.num
        exact k _ _ iw9
      · simp only [Int32.lt_iff_toInt_lt, Int32.le_iff_toInt_le, ← Int32.toInt_inj, Int32.reduceToInt] at h1077
        refine im_X5_gotten (by omega) hG i (by omega) (fun r10 w11 iw11 => ?_)
        have zw11 := iw11.num
        exact k _ _ iw11
      · simp only [Int32.lt_iff_toInt_lt, Int32.le_iff_toInt_le, ← Int32.toInt_inj, Int32.reduceToInt] at h1078
        have := i_lo p1
        have := i_hi p1
        refine ⟨vp_in_iff.mpr (by omega), ?_⟩
        refine im_X5_felt (by omega) hG i (by omega) (fun r13 w14 iw14 => ?_)
        have zw14 := iw14.num
        refine im_X5_bound (by omega) hG iw14 (fun r15 w16 iw16 => ?_)
        have zw16 := iw16.num
        exact k _ _ iw16
      · simp only [Int32.lt_iff_toInt_lt, Int32.le_iff_toInt_le, ← Int32.toInt_inj, Int32.reduceToInt] at h1079
        exact k _ _ i
    · have h1074 : ¬ _ := fun q => y1072.mpr q h1074
      exact k _ _ i
  · have h1070 := y1068.mp h1070
    refine cs_X5_isOf (by omega) hG (by omega) (fun r17 y1080 y1081 => ?_)
    refine ⟨fun h1082 => ?_, fun h1083 => ?_⟩
    · have h1082 : ¬ _ := fun q => y1081.mpr q h1082
      exact k _ _ i
    · have h1083 := y1081.mp h1083
      refine cs_X5_get (by omega) hG (by omega) (fun r20 y1084 y1085 => ?_)
      exact k _ _ i

theorem sub10 {p : Int32} (h : 0 ≤ (p - 10).toInt ∧ (p - 10).toInt ≤ 4) : 10 ≤ p.toInt ∧ p.toInt ≤ 14 := by
  have n : (10 : Int32).toInt = 10 := rfl
  have e : p = (p - 10) + 10 := (Int32.sub_add_cancel p 10).symm
  have e2 := i_add (x := p - 10) (y := 10) (by omega) (by omega)
  rw [← e] at e2
  omega

set_option maxRecDepth 20000 in
theorem im_X5_run {Γ : Gx} {d : Nat} (hd : 8 ≤ d) (hG : GM Γ) {p1 : Int32} {p2 : Int32} {κ : Ky} {w : Wd} (i : IM κ w) {Q : Int32 → Wd → Prop} (k : ∀ (r : Int32) (w' : Wd), IM κ w' → Q r w') : CI Γ d M_X5_run [.ref (gad Γ 0), .int p1, .int p2] w Q := by
  obtain ⟨d, rfl⟩ : ∃ e, d = e + 1 := ⟨d - 1, by omega⟩
  refine con_X5_run hG ?_
  unfold wp_X5_run
  have zw := i.num
  intro P_34
  intro cP_34
  have key : ∀ m : Nat, (∀ (w : Wd), IM κ w → (p2.toInt = 0 ∨ p2.toInt = 1 ∨ (10 ≤ p2.toInt ∧ p2.toInt ≤ 14)) → (0) < m → P_34 w) := by
    intro m
    induction m with
    | zero => exact fun _ _ _ h => absurd h (Nat.not_lt_zero _)
    | succ m ih =>
      intro w i v0 hm
      refine cP_34 _ ?_
      have z4 := i.num
      have e10 : 10 ≤ p2.toInt → (p2 - (10 : Int32)).toInt = p2.toInt - 10 := fun h => by
        have n : (10 : Int32).toInt = 10 := rfl
        have hi := i_hi p2
        exact (i_sub (by omega) (by omega)).trans (by omega)
      refine im_X5_runs (by omega) hG i (fun w11 iw11 => ?_)
      have zw11 := iw11.num
      refine ⟨fun h1086 => ?_, fun h1087 => ?_⟩
      · simp only [Int32.lt_iff_toInt_lt, Int32.le_iff_toInt_le, ← Int32.toInt_inj, Int32.reduceToInt] at h1086
        refine ⟨fun h1088 => ?_, fun h1089 => ?_⟩
        · simp only [Int32.lt_iff_toInt_lt, Int32.le_iff_toInt_le, ← Int32.toInt_inj, Int32.reduceToInt] at h1088
          have e10 := e10 (by omega)
          refine ⟨vp_in_iff.mpr (by omega), ?_⟩
          refine im_X5_restores (by omega) hG iw11 (fun w16 iw16 => ?_)
          have zw16 := iw16.num
          exact k _ _ iw16
        · simp only [Int32.lt_iff_toInt_lt, Int32.le_iff_toInt_le, ← Int32.toInt_inj, Int32.reduceToInt] at h1089
          refine im_X5_restores (by omega) hG iw11 (fun w18 iw18 => ?_)
          have zw18 := iw18.num
          exact k _ _ iw18
      · simp only [Int32.lt_iff_toInt_lt, Int32.le_iff_toInt_le, ← Int32.toInt_inj, Int32.reduceToInt] at h1087
        refine im_X5_glad (by omega) hG iw11 (fun r19 w20 iw20 => ?_)
        have zw20 := iw20.num
        refine im_X5_restores (by omega) hG iw20 (fun w22 iw22 => ?_)
        have zw22 := iw22.num
        exact k _ _ iw22
  refine cs_X5_within (by omega) hG (lo := 0) (hi := 40) rfl rfl (fun r1 z1090 y1091 => ?_)
  refine ⟨fun h1092 => ?_, fun h1093 => ?_⟩
  · have h1092 : ¬ _ := fun q => y1091.mpr q h1092
    exact k _ _ i
  · have h1093 := y1091.mp h1093
    refine cs_X5_within (by omega) hG (lo := 0) (hi := 1) rfl rfl (fun r4 z1094 y1095 => ?_)
    refine ⟨fun h1096 => ?_, fun h1097 => ?_⟩
    · have h1096 := y1095.mp h1096
      exact (key _) _ i (by first | omega | rfl | assumption) (Nat.lt_succ_self _)
    · have h1097 : ¬ _ := fun q => y1095.mpr q h1097
      refine cs_X5_isOne (by omega) hG (by omega) (fun r7 y1098 y1099 => ?_)
      refine ⟨fun h1100 => ?_, fun h1101 => ?_⟩
      · have h1100 := y1099.mp h1100
        have s10 := sub10 (p := p2) (by omega)
        exact (key _) _ i (by first | omega | rfl | assumption) (Nat.lt_succ_self _)
      · have h1101 : ¬ _ := fun q => y1099.mpr q h1101
        exact k _ _ i

set_option maxRecDepth 20000 in
theorem im_X5_again {Γ : Gx} {d : Nat} (hd : 8 ≤ d) (hG : GM Γ) {p1 : Int32} {κ : Ky} {w : Wd} (i : IM κ w) {Q : Int32 → Wd → Prop} (k : ∀ (r : Int32) (w' : Wd), IM κ w' → Q r w') : CI Γ d M_X5_again [.ref (gad Γ 0), .int p1] w Q := by
  obtain ⟨d, rfl⟩ : ∃ e, d = e + 1 := ⟨d - 1, by omega⟩
  refine con_X5_again hG ?_
  unfold wp_X5_again
  have zw := i.num
  intro P_23
  intro P_52
  intro P_62
  intro cP_23
  intro cP_52
  intro cP_62
  have key : ∀ m : Nat, (∀ (l2 : Int32) (w : Wd), IM κ w → (0 ≤ l2.toInt ∧ l2.toInt ≤ 40) → ((41 - l2.toInt).toNat) < m → P_23 l2 w) ∧ (∀ (l2 : Int32) (w : Wd), IM κ w → (1 ≤ l2.toInt ∧ l2.toInt ≤ 41) → ((100 * (43 - l2.toInt)).toNat) < m → P_52 l2 w) ∧ (∀ (l2 : Int32) (l3 : Int32) (w : Wd), IM κ w → (1 ≤ l2.toInt ∧ l2.toInt ≤ 40) → (-1 ≤ l3.toInt ∧ l3.toInt ≤ 39) → ((100 * (43 - l2.toInt) - 50 + l3.toInt).toNat) < m → P_62 l2 l3 w) := by
    intro m
    induction m with
    | zero => exact ⟨fun _ _ _ _ h => absurd h (Nat.not_lt_zero _), fun _ _ _ _ h => absurd h (Nat.not_lt_zero _), fun _ _ _ _ _ _ h => absurd h (Nat.not_lt_zero _)⟩
    | succ m ih =>
      refine ⟨?_, ?_, ?_⟩
      · intro l2 w i v0 hm
        refine cP_23 _ _ ?_
        have z4 := i.num
        refine ⟨fun h1102 => ?_, fun h1103 => ?_⟩
        · simp only [Int32.lt_iff_toInt_lt, Int32.le_iff_toInt_le, ← Int32.toInt_inj, Int32.reduceToInt] at h1102
          exact k _ _ i
        · simp only [Int32.lt_iff_toInt_lt, Int32.le_iff_toInt_le, ← Int32.toInt_inj, Int32.reduceToInt] at h1103
          have := i_lo l2
          have := i_hi l2
          have : (1 : Int32).toInt = 1 := rfl
          have := i_add (x := l2) (y := (1 : Int32)) (by omega) (by omega)
          refine im_X5_isAlike (by omega) hG i (by omega) (by omega) (fun r8 w9 iw9 => ?_)
          have zw9 := iw9.num
          refine ⟨fun h1104 => ?_, fun h1105 => ?_⟩
          · simp only [Int32.lt_iff_toInt_lt, Int32.le_iff_toInt_le, ← Int32.toInt_inj, Int32.reduceToInt] at h1104
            exact ih.1 _ _ iw9 (by first | omega | rfl | assumption) (by omega)
          · simp only [Int32.lt_iff_toInt_lt, Int32.le_iff_toInt_le, ← Int32.toInt_inj, Int32.reduceToInt] at h1105
            exact k _ _ iw9
      · intro l2 w i v0 hm
        refine cP_52 _ _ ?_
        have z4 := i.num
        refine ⟨fun h1106 => ?_, fun h1107 => ?_⟩
        · simp only [Int32.lt_iff_toInt_lt, Int32.le_iff_toInt_le, ← Int32.toInt_inj, Int32.reduceToInt] at h1106
          exact k _ _ i
        · simp only [Int32.lt_iff_toInt_lt, Int32.le_iff_toInt_le, ← Int32.toInt_inj, Int32.reduceToInt] at h1107
          have := i_lo l2
          have := i_hi l2
          have : (1 : Int32).toInt = 1 := rfl
          have := i_sub (x := l2) (y := (1 : Int32)) (by omega) (by omega)
          exact ih.2.2 _ _ _ i (by first | omega | rfl | assumption) (by first | omega | rfl | assumption) (by omega)
      · intro l2 l3 w i v0 v1 hm
        refine cP_62 _ _ _ ?_
        have z4 := i.num
        obtain ⟨y, hy⟩ : ∃ y : Int32, y = l3 + (-1) := ⟨_, rfl⟩
        rw [← hy]
        have ey : y.toInt = l3.toInt - 1 := by rw [hy]; exact i_dec (by omega)
        clear hy
        refine ⟨fun h1108 => ?_, fun h1109 => ?_⟩
        · simp only [Int32.lt_iff_toInt_lt, Int32.le_iff_toInt_le, ← Int32.toInt_inj, Int32.reduceToInt] at h1108
          have := i_lo l2
          have := i_hi l2
          have : (1 : Int32).toInt = 1 := rfl
          have := i_add (x := l2) (y := (1 : Int32)) (by omega) (by omega)
          exact ih.2.1 _ _ i (by first | omega | rfl | assumption) (by omega)
        · simp only [Int32.lt_iff_toInt_lt, Int32.le_iff_toInt_le, ← Int32.toInt_inj, Int32.reduceToInt] at h1109
          refine im_X5_isAlike (by omega) hG i (by omega) (by omega) (fun r13 w14 iw14 => ?_)
          have zw14 := iw14.num
          refine ⟨fun h1110 => ?_, fun h1111 => ?_⟩
          · simp only [Int32.lt_iff_toInt_lt, Int32.le_iff_toInt_le, ← Int32.toInt_inj, Int32.reduceToInt] at h1110
            exact ih.2.2 _ _ _ iw14 (by first | omega | rfl | assumption) (by first | omega | rfl | assumption) (by omega)
          · simp only [Int32.lt_iff_toInt_lt, Int32.le_iff_toInt_le, ← Int32.toInt_inj, Int32.reduceToInt] at h1111
            refine ⟨fun h1112 => ?_, fun h1113 => ?_⟩
            · simp only [Int32.lt_iff_toInt_lt, Int32.le_iff_toInt_le, ← Int32.toInt_inj, Int32.reduceToInt] at h1112
              exact k _ _ iw14
            · simp only [Int32.lt_iff_toInt_lt, Int32.le_iff_toInt_le, ← Int32.toInt_inj, Int32.reduceToInt] at h1113
              exact k _ _ iw14
  refine cs_X5_within (by omega) hG (lo := 0) (hi := 2) rfl rfl (fun r1 z1114 y1115 => ?_)
  refine ⟨fun h1116 => ?_, fun h1117 => ?_⟩
  · have h1116 := y1115.mp h1116
    refine im_X5_remembers (by omega) hG i (fun w5 iw5 => ?_)
    have zw5 := iw5.num
    refine ⟨fun h1118 => ?_, fun h1119 => ?_⟩
    · simp only [Int32.lt_iff_toInt_lt, Int32.le_iff_toInt_le, ← Int32.toInt_inj, Int32.reduceToInt] at h1118
      have : (1 : Int32).toInt = 1 := rfl
      exact (key _).2.1 _ _ iw5 (by first | omega | rfl | assumption) (Nat.lt_succ_self _)
    · simp only [Int32.lt_iff_toInt_lt, Int32.le_iff_toInt_le, ← Int32.toInt_inj, Int32.reduceToInt] at h1119
      have : (0 : Int32).toInt = 0 := rfl
      exact (key _).1 _ _ iw5 (by first | omega | rfl | assumption) (Nat.lt_succ_self _)
  · have h1117 : ¬ _ := fun q => y1115.mpr q h1117
    exact k _ _ i

set_option maxRecDepth 20000 in
theorem im_X5_all {Γ : Gx} {d : Nat} (hd : 7 ≤ d) (hG : GM Γ) {p1 : Int32} {κ : Ky} {w : Wd} (i : IM κ w) {Q : Int32 → Wd → Prop} (k : ∀ (r : Int32) (w' : Wd), IM κ w' → Q r w') : CI Γ d M_X5_all [.ref (gad Γ 0), .int p1] w Q := by
  obtain ⟨d, rfl⟩ : ∃ e, d = e + 1 := ⟨d - 1, by omega⟩
  refine con_X5_all hG ?_
  unfold wp_X5_all
  have zw := i.num
  refine ⟨fun h1120 => ?_, fun h1121 => ?_, fun h1122 => ?_, fun h1123 => ?_, fun h1124 => ?_⟩
  · simp only [Int32.lt_iff_toInt_lt, Int32.le_iff_toInt_le, ← Int32.toInt_inj, Int32.reduceToInt] at h1120
    refine im_X5_glad (by omega) hG i (fun r1 w2 iw2 => ?_)
    have zw2 := iw2.num
    exact k _ _ iw2
  · simp only [Int32.lt_iff_toInt_lt, Int32.le_iff_toInt_le, ← Int32.toInt_inj, Int32.reduceToInt] at h1121
    refine im_X5_lettuce (by omega) hG i (fun r3 w4 iw4 => ?_)
    have zw4 := iw4.num
    exact k _ _ iw4
  · simp only [Int32.lt_iff_toInt_lt, Int32.le_iff_toInt_le, ← Int32.toInt_inj, Int32.reduceToInt] at h1122
    refine im_X5_lettuce (by omega) hG i (fun r5 w6 iw6 => ?_)
    have zw6 := iw6.num
    exact k _ _ iw6
  · simp only [Int32.lt_iff_toInt_lt, Int32.le_iff_toInt_le, ← Int32.toInt_inj, Int32.reduceToInt] at h1123
    refine im_X5_left (by omega) hG i (fun r7 w8 iw8 => ?_)
    have zw8 := iw8.num
    exact k _ _ iw8
  · simp only [Int32.lt_iff_toInt_lt, Int32.le_iff_toInt_le, ← Int32.toInt_inj, Int32.reduceToInt] at h1124
    exact k _ _ i

set_option maxRecDepth 20000 in
theorem im_X5_sandwich {Γ : Gx} {d : Nat} (hd : 6 ≤ d) (hG : GM Γ) {p1 : Int32} {p2 : Int32} {p3 : Int32} {κ : Ky} {w : Wd} (i : IM κ w) {Q : Int32 → Wd → Prop} (k : ∀ (r : Int32) (w' : Wd), IM κ w' → Q r w') : CI Γ d M_X5_sandwich [.ref (gad Γ 0), .int p1, .int p2, .int p3] w Q := by
  obtain ⟨d, rfl⟩ : ∃ e, d = e + 1 := ⟨d - 1, by omega⟩
  refine con_X5_sandwich hG ?_
  unfold wp_X5_sandwich
  have zw := i.num
  refine cs_X5_areTwo (by omega) hG (by omega) (fun r1 y1125 y1126 => ?_)
  refine ⟨fun h1127 => ?_, fun h1128 => ?_⟩
  · have h1127 := y1126.mp h1127
    refine cs_X5_within (by omega) hG (lo := 10) (hi := 17) rfl rfl (fun r4 z1129 y1130 => ?_)
    refine ⟨fun h1131 => ?_, fun h1132 => ?_⟩
    · have h1131 : ¬ _ := fun q => y1130.mpr q h1131
      refine im_X5_made (by omega) hG i (by omega) (by omega) (fun r7 w8 iw8 => ?_)
      have zw8 := iw8.num
      refine ⟨fun h1133 => ?_, fun h1134 => ?_, fun h1135 => ?_, fun h1136 => ?_, fun h1137 => ?_⟩
      · simp only [Int32.lt_iff_toInt_lt, Int32.le_iff_toInt_le, ← Int32.toInt_inj, Int32.reduceToInt] at h1133
        exact k _ _ iw8
      · simp only [Int32.lt_iff_toInt_lt, Int32.le_iff_toInt_le, ← Int32.toInt_inj, Int32.reduceToInt] at h1134
        refine im_X5_bitsOf (by omega) hG iw8 (fun r9 w10 iw10 => ?_)
        have zw10 := iw10.num
        exact k _ _ iw10
      · simp only [Int32.lt_iff_toInt_lt, Int32.le_iff_toInt_le, ← Int32.toInt_inj, Int32.reduceToInt] at h1135
        refine im_X5_sends (by omega) hG iw8 (by omega) (by omega) (fun r11 w12 iw12 y1138 => ?_)
        have zw12 := iw12.num
        refine ⟨fun h1139 => ?_, fun h1140 => ?_⟩
        · simp only [Int32.lt_iff_toInt_lt, Int32.le_iff_toInt_le, ← Int32.toInt_inj, Int32.reduceToInt] at h1139
          exact k _ _ iw12
        · simp only [Int32.lt_iff_toInt_lt, Int32.le_iff_toInt_le, ← Int32.toInt_inj, Int32.reduceToInt] at h1140
          exact k _ _ iw12
      · simp only [Int32.lt_iff_toInt_lt, Int32.le_iff_toInt_le, ← Int32.toInt_inj, Int32.reduceToInt] at h1136
        refine im_X5_feltBy (by omega) hG iw8 (by omega) (by omega) (fun r14 w15 iw15 => ?_)
        have zw15 := iw15.num
        exact k _ _ iw15
      · simp only [Int32.lt_iff_toInt_lt, Int32.le_iff_toInt_le, ← Int32.toInt_inj, Int32.reduceToInt] at h1137
        exact k _ _ iw8
    · have h1132 := y1130.mp h1132
      have := i_lo p3
      have := i_hi p3
      have : (10 : Int32).toInt = 10 := rfl
      have := i_sub (x := p3) (y := (10 : Int32)) (by omega) (by omega)
      refine im_X5_feels (by omega) hG i (by omega) (by omega) (fun r16 w17 iw17 => ?_)
      have zw17 := iw17.num
      exact k _ _ iw17
  · have h1128 : ¬ _ := fun q => y1126.mpr q h1128
    exact k _ _ i
