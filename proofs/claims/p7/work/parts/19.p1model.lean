/-! the model's world with nobody in it: what each call answers there (p1) -/
def ZM (w : Wd) : Prop := w 0 2 = 0
theorem ZM.slot {w : Wd} {c s : Nat} {v : Int32} (h : s ≠ 2 ∨ c ≠ 0) (i : ZM w) : ZM (wset w c s v) := by
  unfold ZM
  rcases h with h | h
  · rw [ws_row (Ne.symm h)]
    exact i
  · rw [ws_col (Ne.symm h)]
    exact i
theorem ZM.num {w : Wd} (i : ZM w) : (w 0 2).toInt = 0 := by
  rw [show w 0 2 = 0 from i]
  rfl
/-- a new object of the model, as the calls see it -/
def FM (w : Wd) : Prop := ZM w ∧ (∀ l : Nat, l < 8 → w 1 l = 1) ∧ w 0 0 = 0 ∧ w 0 6 = 0 ∧ w 0 9 = 1 ∧ w 0 7 = 0 ∧ w 0 32 = 0 ∧ (∀ s : Nat, s < 4 → (w 17 s).toInt = -1)
theorem FM.sh {w : Wd} (fs : ∀ s : Nat, s < 4 → (w 17 s).toInt = -1) (p : Int32) (h0 : 0 ≤ p.toInt) (h3 : p.toInt ≤ 3) : (w 17 p.toNatClampNeg).toInt = -1 := fs _ (tn_lt h0 (by omega))
theorem mget {r x : Int32} (h : (r = 0 ∧ x.toInt = 0) ∨ (r = 1 ∧ ¬ x.toInt = 0)) (hx : x = 1) : r = 1 := by
  subst hx
  rcases h with h | h
  · exact absurd h.2 (by decide)
  · exact h.1
section MOD0
variable {Γ : Gx} {d : Nat} {w : Wd}
theorem cs_X5_keeps (hd : 1 ≤ d) (hG : GM Γ) {Q : Wd → Prop} (k : ∀ w' : Wd, (∀ c : Nat, c ≠ 13 → w' c = w c) → Q w') : CV Γ d M_X5_keeps [.ref (gad Γ 0)] w Q := by
  obtain ⟨d, rfl⟩ : ∃ e, d = e + 1 := ⟨d - 1, by omega⟩
  refine con_X5_keeps hG ?_
  unfold wp_X5_keeps
  intro P c
  have h1 : (1 : Int32).toInt = 1 := rfl
  have h0 : (0 : Int32).toInt = 0 := rfl
  have key : ∀ (m : Nat) (l : Int32) (u : Wd), (∀ c : Nat, c ≠ 13 → u c = w c) → 0 ≤ l.toInt → l.toInt ≤ 5 → (5 - l.toInt).toNat < m → P l u := by
    intro m
    induction m with
    | zero => intro l u _ _ _ h; omega
    | succ m ih =>
      intro l u hu a1 a2 a3
      refine c _ _ ⟨fun _ => k _ hu, fun h => ?_⟩
      simp only [Int32.le_iff_toInt_le, Int32.reduceToInt] at h
      have e := i_add (x := l) (y := 1) (by omega) (by omega)
      refine ⟨vp_in_iff.mpr (by omega), fun w3 e3 => ih _ _ (fun c b => ?_) (by omega) (by omega) (by omega)⟩
      rw [e3, wset_off _ _ _ _ _ b]
      exact hu c b
  exact key _ _ _ (fun _ _ => rfl) (by omega) (by omega) (Nat.lt_succ_self _)
theorem cs_X5_restores (hd : 1 ≤ d) (hG : GM Γ) {Q : Wd → Prop} (k : ∀ w' : Wd, (∀ c : Nat, c ≠ 4 → w' c = w c) → Q w') : CV Γ d M_X5_restores [.ref (gad Γ 0)] w Q := by
  obtain ⟨d, rfl⟩ : ∃ e, d = e + 1 := ⟨d - 1, by omega⟩
  refine con_X5_restores hG ?_
  unfold wp_X5_restores
  intro P c
  have h1 : (1 : Int32).toInt = 1 := rfl
  have h0 : (0 : Int32).toInt = 0 := rfl
  have key : ∀ (m : Nat) (l : Int32) (u : Wd), (∀ c : Nat, c ≠ 4 → u c = w c) → 0 ≤ l.toInt → l.toInt ≤ 5 → (5 - l.toInt).toNat < m → P l u := by
    intro m
    induction m with
    | zero => intro l u _ _ _ h; omega
    | succ m ih =>
      intro l u hu a1 a2 a3
      refine c _ _ ⟨fun _ => k _ hu, fun h => ?_⟩
      simp only [Int32.le_iff_toInt_le, Int32.reduceToInt] at h
      have e := i_add (x := l) (y := 1) (by omega) (by omega)
      refine ⟨vp_in_iff.mpr (by omega), fun w3 e3 => ih _ _ (fun c b => ?_) (by omega) (by omega) (by omega)⟩
      rw [e3, wset_off _ _ _ _ _ b]
      exact hu c b
  exact key _ _ _ (fun _ _ => rfl) (by omega) (by omega) (Nat.lt_succ_self _)
theorem zm_glad (hd : 1 ≤ d) (hG : GM Γ) (i : ZM w) {Q : Int32 → Wd → Prop} (k : Q 0 w) : CI Γ d M_X5_glad [.ref (gad Γ 0)] w Q := by
  obtain ⟨d, rfl⟩ : ∃ e, d = e + 1 := ⟨d - 1, by omega⟩
  refine con_X5_glad hG ?_
  unfold wp_X5_glad
  intro P c
  exact c _ _ _ ⟨fun _ => k, fun h => absurd (z_le i) h⟩
theorem zm_passes (hd : 1 ≤ d) (hG : GM Γ) (i : ZM w) {Q : Wd → Prop} (k : Q w) : CV Γ d M_X5_passes [.ref (gad Γ 0)] w Q := by
  obtain ⟨d, rfl⟩ : ∃ e, d = e + 1 := ⟨d - 1, by omega⟩
  refine con_X5_passes hG ?_
  unfold wp_X5_passes
  intro P2 P33 P79 c2 c33 c79
  exact c2 _ _ ⟨fun _ => c79 _ _ ⟨fun _ => k, fun h => absurd (z_le i) h⟩, fun h => absurd (z_le i) h⟩
theorem zm_runs (hd : 2 ≤ d) (hG : GM Γ) (i : ZM w) {p1 : Int32} (hp : p1.toInt ≤ 40) {Q : Wd → Prop} (k : ∀ w' : Wd, ZM w' → w' 0 30 = 0 → Q w') : CV Γ d M_X5_runs [.ref (gad Γ 0), .int p1] w Q := by
  obtain ⟨d, rfl⟩ : ∃ e, d = e + 1 := ⟨d - 1, by omega⟩
  refine con_X5_runs hG ?_
  unfold wp_X5_runs
  intro P c
  have h1 : (1 : Int32).toInt = 1 := rfl
  have h0 : (0 : Int32).toInt = 0 := rfl
  refine cs_X5_keeps (by omega) hG (fun w2 k2 w3 e3 => ?_)
  have i3 : ZM w3 := by
    unfold ZM
    rw [e3, ws_row (by decide), k2 0 (by decide)]
    exact i
  have j3 : w3 0 30 = 0 := by rw [e3, ws_hit]
  have key : ∀ (m : Nat) (l : Int32), 0 ≤ l.toInt → l.toInt ≤ 41 → (41 - l.toInt).toNat < m → P l w3 := by
    intro m
    induction m with
    | zero => intro l _ _ h; omega
    | succ m ih =>
      intro l a1 a2 a3
      refine c _ _ ⟨fun _ => k _ i3 j3, fun h => ?_⟩
      rw [Int32.le_iff_toInt_le] at h
      have e := i_add (x := l) (y := 1) (by omega) (by omega)
      exact zm_passes (by omega) hG i3 (ih _ (by omega) (by omega) (by omega))
  exact key _ _ (by omega) (by omega) (Nat.lt_succ_self _)
theorem zm_gladBehind (hd : 3 ≤ d) (hG : GM Γ) (i : ZM w) {p1 : Int32} (hp : p1.toInt ≤ 40) {Q : Int32 → Wd → Prop} (k : ∀ w' : Wd, ZM w' → Q 0 w') : CI Γ d M_X5_gladBehind [.ref (gad Γ 0), .int p1] w Q := by
  obtain ⟨d, rfl⟩ : ∃ e, d = e + 1 := ⟨d - 1, by omega⟩
  refine con_X5_gladBehind hG ?_
  unfold wp_X5_gladBehind
  refine zm_runs (by omega) hG i hp (fun w2 i2 _ => zm_glad (by omega) hG i2 (cs_X5_restores (by omega) hG (fun w6 k6 => k _ ?_)))
  unfold ZM
  rw [k6 0 (by decide)]
  exact i2
theorem zm_isAlike (hd : 1 ≤ d) (hG : GM Γ) (i : ZM w) {p1 p2 : Int32} {Q : Int32 → Wd → Prop} (k : Q 1 w) : CI Γ d M_X5_isAlike [.ref (gad Γ 0), .int p1, .int p2] w Q := by
  obtain ⟨d, rfl⟩ : ∃ e, d = e + 1 := ⟨d - 1, by omega⟩
  refine con_X5_isAlike hG ?_
  unfold wp_X5_isAlike
  intro P c
  exact c _ _ ⟨fun _ => k, fun h => absurd (z_le i) h⟩
theorem zm_lettuce (hd : 1 ≤ d) (hG : GM Γ) (i : ZM w) {p1 : Int32} {Q : Int32 → Wd → Prop} (k : Q (if p1 = 0 then 0 else -1) w) : CI Γ d M_X5_lettuce [.ref (gad Γ 0), .int p1] w Q := by
  obtain ⟨d, rfl⟩ : ∃ e, d = e + 1 := ⟨d - 1, by omega⟩
  refine con_X5_lettuce hG ?_
  unfold wp_X5_lettuce
  intro P7 P19 c c19
  refine c _ _ _ _ ⟨fun _ => ⟨fun h => ?_, fun h => ?_⟩, fun h => absurd (z_le i) h⟩
  · rw [if_neg h] at k
    exact k
  · rw [if_pos h] at k
    exact k
theorem zm_left (hd : 1 ≤ d) (hG : GM Γ) (i : ZM w) {Q : Int32 → Wd → Prop} (k : Q 0 w) : CI Γ d M_X5_left [.ref (gad Γ 0)] w Q := by
  obtain ⟨d, rfl⟩ : ∃ e, d = e + 1 := ⟨d - 1, by omega⟩
  refine con_X5_left hG ?_
  unfold wp_X5_left
  intro P c
  exact c _ _ _ ⟨fun _ => k, fun h => absurd (z_le i) h⟩
end MOD0
set_option maxRecDepth 20000 in
theorem p1m_set {Γ : Gx} {d : Nat} (hd : 4 ≤ d) (hG : GM Γ) {p1 : Int32} {p2 : Int32} {p3 : Int32} {w : Wd} (f : FM w) {Q : Int32 → Wd → Prop} (k : ∀ (r : Int32) (w' : Wd), (r = a_set p1 p2 p3) → Q r w') : CI Γ d M_X5_set [.ref (gad Γ 0), .int p1, .int p2, .int p3] w Q := by
  obtain ⟨d, rfl⟩ : ∃ e, d = e + 1 := ⟨d - 1, by omega⟩
  refine con_X5_set hG ?_
  unfold wp_X5_set
  obtain ⟨i, fu, f0, f6, f9, f7, f32, fs⟩ := f
  have z4 := i.num
  refine cs_X5_isOf (by omega) hG (by omega) (fun r1 y576 y577 => ?_)
  refine ⟨fun h578 => ?_, fun h579 => ?_⟩
  · have h578 : ¬ _ := fun q => y577.mpr q h578
    exact k _ _ (by
      unfold a_set
      (repeat' split) <;> first | rfl | (exfalso; omega))
  · have h579 := y577.mp h579
    refine cs_X5_isFit (by omega) hG (fun r4 y580 y581 => ?_)
    refine ⟨fun h582 => ?_, fun h583 => ?_⟩
    · have h582 := y581.mp h582
      refine cs_X5_get (by omega) hG (by omega) (fun r7 v0 v1 => ?_)
      refine ⟨fun h584 => ?_, fun h585 => ?_⟩
      · simp only [Int32.lt_iff_toInt_lt, Int32.le_iff_toInt_le, ← Int32.toInt_inj, Int32.reduceToInt] at h584
        refine ⟨fun h586 => ?_, fun h587 => ?_⟩
        · simp only [Int32.lt_iff_toInt_lt, Int32.le_iff_toInt_le, ← Int32.toInt_inj, Int32.reduceToInt] at h586
          refine ⟨fun h588 => ?_, fun h589 => ?_⟩
          · simp only [Int32.lt_iff_toInt_lt, Int32.le_iff_toInt_le, ← Int32.toInt_inj, Int32.reduceToInt] at h588
            have := i_lo p2
            have := i_hi p2
            refine ⟨vp_in_iff.mpr (by omega), ?_⟩
            intro w13 ew13
            have iw13 : ZM w13 := ew13 ▸ ZM.slot (by omega) i
            have zw13 := iw13.num
            exact k _ _ (by
              unfold a_set
              (repeat' split) <;> first | rfl | (exfalso; omega) | exact (v0 (by omega)).trans f0 | exact mget (v1 (by omega)) (fu p2.toNatClampNeg (tn_lt (by omega) (by omega))))
          · simp only [Int32.lt_iff_toInt_lt, Int32.le_iff_toInt_le, ← Int32.toInt_inj, Int32.reduceToInt] at h589
            have := i_lo p2
            have := i_hi p2
            refine ⟨vp_in_iff.mpr (by omega), ?_⟩
            intro w16 ew16
            have iw16 : ZM w16 := ew16 ▸ ZM.slot (by omega) i
            have zw16 := iw16.num
            exact k _ _ (by
              unfold a_set
              (repeat' split) <;> first | rfl | (exfalso; omega) | exact (v0 (by omega)).trans f0 | exact mget (v1 (by omega)) (fu p2.toNatClampNeg (tn_lt (by omega) (by omega))))
        · simp only [Int32.lt_iff_toInt_lt, Int32.le_iff_toInt_le, ← Int32.toInt_inj, Int32.reduceToInt] at h587
          refine ⟨fun h590 => ?_, fun h591 => ?_⟩
          · simp only [Int32.lt_iff_toInt_lt, Int32.le_iff_toInt_le, ← Int32.toInt_inj, Int32.reduceToInt] at h590
            have := i_lo p2
            have := i_hi p2
            refine ⟨vp_in_iff.mpr (by omega), ?_⟩
            intro w20 ew20
            have iw20 : ZM w20 := ew20 ▸ ZM.slot (by omega) i
            have zw20 := iw20.num
            exact k _ _ (by
              unfold a_set
              (repeat' split) <;> first | rfl | (exfalso; omega) | exact (v0 (by omega)).trans f0 | exact mget (v1 (by omega)) (fu p2.toNatClampNeg (tn_lt (by omega) (by omega))))
          · simp only [Int32.lt_iff_toInt_lt, Int32.le_iff_toInt_le, ← Int32.toInt_inj, Int32.reduceToInt] at h591
            have := i_lo p2
            have := i_hi p2
            refine ⟨vp_in_iff.mpr (by omega), ?_⟩
            intro w23 ew23
            have iw23 : ZM w23 := ew23 ▸ ZM.slot (by omega) i
            have zw23 := iw23.num
            exact k _ _ (by
              unfold a_set
              (repeat' split) <;> first | rfl | (exfalso; omega) | exact (v0 (by omega)).trans f0 | exact mget (v1 (by omega)) (fu p2.toNatClampNeg (tn_lt (by omega) (by omega))))
      · simp only [Int32.lt_iff_toInt_lt, Int32.le_iff_toInt_le, ← Int32.toInt_inj, Int32.reduceToInt] at h585
        intro w25 ew25
        have iw25 : ZM w25 := ew25 ▸ ZM.slot (by omega) i
        have zw25 := iw25.num
        exact k _ _ (by
          unfold a_set
          (repeat' split) <;> first | rfl | (exfalso; omega) | exact (v0 (by omega)).trans f0 | exact mget (v1 (by omega)) (fu p2.toNatClampNeg (tn_lt (by omega) (by omega))))
    · have h583 : ¬ _ := fun q => y581.mpr q h583
      exact k _ _ (by
        unfold a_set
        (repeat' split) <;> first | rfl | (exfalso; omega))

set_option maxRecDepth 20000 in
theorem p1m_person {Γ : Gx} {d : Nat} (hd : 2 ≤ d) (hG : GM Γ) {p1 : Int32} {p2 : Int32} {w : Wd} (f : FM w) {Q : Int32 → Wd → Prop} (k : ∀ (r : Int32) (w' : Wd), (r = a_person p1 p2) → Q r w') : CI Γ d M_X5_person [.ref (gad Γ 0), .int p1, .int p2] w Q := by
  obtain ⟨d, rfl⟩ : ∃ e, d = e + 1 := ⟨d - 1, by omega⟩
  refine con_X5_person hG ?_
  unfold wp_X5_person
  obtain ⟨i, fu, f0, f6, f9, f7, f32, fs⟩ := f
  have z4 := i.num
  refine cs_X5_within (by omega) hG (lo := 0) (hi := 5) rfl rfl (fun r1 z592 y593 => ?_)
  refine ⟨fun h594 => ?_, fun h595 => ?_⟩
  · have h594 : ¬ _ := fun q => y593.mpr q h594
    exact k _ _ (by
      unfold a_person
      (repeat' split) <;> first | rfl | (exfalso; omega) | assumption)
  · have h595 := y593.mp h595
    refine cs_X5_within (by omega) hG (lo := 0) (hi := 9) rfl rfl (fun r4 z596 y597 => ?_)
    refine ⟨fun h598 => ?_, fun h599 => ?_⟩
    · have h598 := y597.mp h598
      refine ⟨fun h600 => ?_, fun h601 => ?_⟩
      · simp only [Int32.lt_iff_toInt_lt, Int32.le_iff_toInt_le, ← Int32.toInt_inj, Int32.reduceToInt] at h600
        have := i_lo (w 0 2)
        have := i_hi (w 0 2)
        refine ⟨vp_in_iff.mpr (by omega), ?_⟩
        intro w9 ew9
        have iw9 : ZM w9 := ew9 ▸ ZM.slot (by omega) i
        have zw9 := iw9.num
        have := i_lo (w9 0 2)
        have := i_hi (w9 0 2)
        refine ⟨vp_in_iff.mpr (by omega), ?_⟩
        intro w12 ew12
        have iw12 : ZM w12 := ew12 ▸ ZM.slot (by omega) iw9
        have zw12 := iw12.num
        have := i_lo (w12 0 2)
        have := i_hi (w12 0 2)
        refine ⟨vp_in_iff.mpr (by omega), ?_⟩
        intro w15 ew15
        have iw15 : ZM w15 := ew15 ▸ ZM.slot (by omega) iw12
        have zw15 := iw15.num
        intro w17 ew17
        exact k _ _ (by
          unfold a_person
          (repeat' split) <;> first | rfl | (exfalso; omega) | assumption)
      · simp only [Int32.lt_iff_toInt_lt, Int32.le_iff_toInt_le, ← Int32.toInt_inj, Int32.reduceToInt] at h601
        exact k _ _ (by
          unfold a_person
          (repeat' split) <;> first | rfl | (exfalso; omega) | assumption)
    · have h599 : ¬ _ := fun q => y597.mpr q h599
      exact k _ _ (by
        unfold a_person
        (repeat' split) <;> first | rfl | (exfalso; omega) | assumption)

set_option maxRecDepth 20000 in
theorem p1m_told {Γ : Gx} {d : Nat} (hd : 4 ≤ d) (hG : GM Γ) {p1 : Int32} {p2 : Int32} {w : Wd} (f : FM w) {Q : Int32 → Wd → Prop} (k : ∀ (r : Int32) (w' : Wd), (r = a_told p1 p2) → Q r w') : CI Γ d M_X5_told [.ref (gad Γ 0), .int p1, .int p2] w Q := by
  obtain ⟨d, rfl⟩ : ∃ e, d = e + 1 := ⟨d - 1, by omega⟩
  refine con_X5_told hG ?_
  unfold wp_X5_told
  obtain ⟨i, fu, f0, f6, f9, f7, f32, fs⟩ := f
  have z4 := i.num
  refine cs_X5_within (by omega) hG (lo := 0) (hi := 3) rfl rfl (fun r1 z602 y603 => ?_)
  refine ⟨fun h604 => ?_, fun h605 => ?_⟩
  · have h604 : ¬ _ := fun q => y603.mpr q h604
    refine cs_X5_isOne (by omega) hG (by omega) (fun r4 y606 y607 => ?_)
    refine ⟨fun h608 => ?_, fun h609 => ?_⟩
    · have h608 := y607.mp h608
      omega
    · have h609 : ¬ _ := fun q => y607.mpr q h609
      exact k _ _ (by
        unfold a_told
        (repeat' split) <;> first | rfl | (exfalso; omega))
  · have h605 := y603.mp h605
    refine cs_X5_isOf (by omega) hG (by omega) (fun r17 y610 y611 => ?_)
    refine ⟨fun h612 => ?_, fun h613 => ?_⟩
    · have h612 : ¬ _ := fun q => y611.mpr q h612
      exact k _ _ (by
        unfold a_told
        (repeat' split) <;> first | rfl | (exfalso; omega))
    · have h613 := y611.mp h613
      refine cs_X5_get (by omega) hG (by omega) (fun r20 v0 v1 => ?_)
      exact k _ _ (by
        unfold a_told
        (repeat' split) <;> first | rfl | (exfalso; omega) | exact (v0 (by omega)).trans f0 | exact mget (v1 (by omega)) (fu p1.toNatClampNeg (tn_lt (by omega) (by omega))))

set_option maxRecDepth 20000 in
theorem p1m_feed {Γ : Gx} {d : Nat} (hd : 2 ≤ d) (hG : GM Γ) {p1 : Int32} {w : Wd} (f : FM w) {Q : Int32 → Wd → Prop} (k : ∀ (r : Int32) (w' : Wd), (r = a_feed p1) → Q r w') : CI Γ d M_X5_feed [.ref (gad Γ 0), .int p1] w Q := by
  obtain ⟨d, rfl⟩ : ∃ e, d = e + 1 := ⟨d - 1, by omega⟩
  refine con_X5_feed hG ?_
  unfold wp_X5_feed
  obtain ⟨i, fu, f0, f6, f9, f7, f32, fs⟩ := f
  have z4 := i.num
  have z07 : (w 0 7).toInt = 0 := by rw [f7]; rfl
  refine cs_X5_within (by omega) hG (lo := 0) (hi := 255) rfl rfl (fun r1 z614 y615 => ?_)
  refine ⟨fun h616 => ?_, fun h617 => ?_⟩
  · have h616 := y615.mp h616
    refine ⟨fun h618 => ?_, fun h619 => ?_⟩
    · simp only [Int32.lt_iff_toInt_lt, Int32.le_iff_toInt_le, ← Int32.toInt_inj, Int32.reduceToInt] at h618
      intro w5 ew5
      have iw5 : ZM w5 := ew5 ▸ ZM.slot (by omega) i
      have zw5 := iw5.num
      have := i_lo (w 0 7)
      have := i_hi (w 0 7)
      refine ⟨vp_in_iff.mpr (by omega), ?_⟩
      intro w8 ew8
      have iw8 : ZM w8 := ew8 ▸ ZM.slot (by omega) iw5
      have zw8 := iw8.num
      exact k _ _ (by
        rw [ew8, ws_col (by decide), ew5, ws_hit, f7]
        unfold a_feed
        (repeat' split) <;> first | rfl | (exfalso; omega))
    · simp only [Int32.lt_iff_toInt_lt, Int32.le_iff_toInt_le, ← Int32.toInt_inj, Int32.reduceToInt] at h619
      exact k _ _ (by
        unfold a_feed
        (repeat' split) <;> first | rfl | (exfalso; omega))
  · have h617 : ¬ _ := fun q => y615.mpr q h617
    exact k _ _ (by
      unfold a_feed
      (repeat' split) <;> first | rfl | (exfalso; omega))

set_option maxRecDepth 20000 in
theorem p1m_force {Γ : Gx} {d : Nat} (hd : 2 ≤ d) (hG : GM Γ) {p1 : Int32} {w : Wd} (f : FM w) {Q : Int32 → Wd → Prop} (k : ∀ (r : Int32) (w' : Wd), (r = a_force p1) → Q r w') : CI Γ d M_X5_force [.ref (gad Γ 0), .int p1] w Q := by
  obtain ⟨d, rfl⟩ : ∃ e, d = e + 1 := ⟨d - 1, by omega⟩
  refine con_X5_force hG ?_
  unfold wp_X5_force
  obtain ⟨i, fu, f0, f6, f9, f7, f32, fs⟩ := f
  have z4 := i.num
  have z09 : (w 0 9).toInt = 1 := by rw [f9]; rfl
  have := i_lo (w 0 9)
  have := i_hi (w 0 9)
  have : (1 : Int32).toInt = 1 := rfl
  have := i_sub (x := (w 0 9)) (y := (1 : Int32)) (by omega) (by omega)
  refine cs_X5_within (by omega) hG (lo := 0) (hi := ((w 0 9) - (1 : Int32)).toInt) rfl rfl (fun r1 z620 y621 => ?_)
  refine ⟨fun h622 => ?_, fun h623 => ?_⟩
  · have h622 := y621.mp h622
    intro w4 ew4
    have iw4 : ZM w4 := ew4 ▸ ZM.slot (by omega) i
    have zw4 := iw4.num
    exact k _ _ (by
      unfold a_force
      (repeat' split) <;> first | rfl | (exfalso; omega) | exact f6)
  · have h623 : ¬ _ := fun q => y621.mpr q h623
    exact k _ _ (by
      unfold a_force
      (repeat' split) <;> first | rfl | (exfalso; omega) | exact f6)

set_option maxRecDepth 20000 in
theorem p1m_sandwich {Γ : Gx} {d : Nat} (hd : 4 ≤ d) (hG : GM Γ) {p1 : Int32} {p2 : Int32} {p3 : Int32} {w : Wd} (f : FM w) {Q : Int32 → Wd → Prop} (k : ∀ (r : Int32) (w' : Wd), (r = -1000) → Q r w') : CI Γ d M_X5_sandwich [.ref (gad Γ 0), .int p1, .int p2, .int p3] w Q := by
  obtain ⟨d, rfl⟩ : ∃ e, d = e + 1 := ⟨d - 1, by omega⟩
  refine con_X5_sandwich hG ?_
  unfold wp_X5_sandwich
  obtain ⟨i, fu, f0, f6, f9, f7, f32, fs⟩ := f
  have z4 := i.num
  refine cs_X5_areTwo (by omega) hG (by omega) (fun r1 y624 y625 => ?_)
  refine ⟨fun h626 => ?_, fun h627 => ?_⟩
  · have h626 := y625.mp h626
    omega
  · have h627 : ¬ _ := fun q => y625.mpr q h627
    exact k _ _ (by
      skip
      (repeat' split) <;> first | rfl | (exfalso; omega))

set_option maxRecDepth 20000 in
theorem p1m_sunday {Γ : Gx} {d : Nat} (hd : 2 ≤ d) (hG : GM Γ) {w : Wd} (f : FM w) {Q : Int32 → Wd → Prop} (k : ∀ (r : Int32) (w' : Wd), (r = 0) → Q r w') : CI Γ d M_X5_sunday [.ref (gad Γ 0)] w Q := by
  obtain ⟨d, rfl⟩ : ∃ e, d = e + 1 := ⟨d - 1, by omega⟩
  refine con_X5_sunday hG ?_
  unfold wp_X5_sunday
  obtain ⟨i, fu, f0, f6, f9, f7, f32, fs⟩ := f
  have z4 := i.num
  have z00 : (w 0 0).toInt = 0 := by rw [f0]; rfl
  refine ⟨fun h628 => ?_, fun h629 => ?_⟩
  · simp only [Int32.lt_iff_toInt_lt, Int32.le_iff_toInt_le, ← Int32.toInt_inj, Int32.reduceToInt] at h628
    refine zm_passes (by omega) hG i ?_
    intro w4 ew4
    have iw4 : ZM w4 := ew4 ▸ ZM.slot (by omega) i
    have zw4 := iw4.num
    refine zm_glad (by omega) hG iw4 ?_
    exact k _ _ (by
      skip
      (repeat' split) <;> first | rfl | (exfalso; omega))
  · simp only [Int32.lt_iff_toInt_lt, Int32.le_iff_toInt_le, ← Int32.toInt_inj, Int32.reduceToInt] at h629
    omega

set_option maxRecDepth 20000 in
theorem p1m_run {Γ : Gx} {d : Nat} (hd : 3 ≤ d) (hG : GM Γ) {p1 : Int32} {p2 : Int32} {w : Wd} (f : FM w) {Q : Int32 → Wd → Prop} (k : ∀ (r : Int32) (w' : Wd), (r = a_run p1 p2) → Q r w') : CI Γ d M_X5_run [.ref (gad Γ 0), .int p1, .int p2] w Q := by
  obtain ⟨d, rfl⟩ : ∃ e, d = e + 1 := ⟨d - 1, by omega⟩
  refine con_X5_run hG ?_
  unfold wp_X5_run
  obtain ⟨i, fu, f0, f6, f9, f7, f32, fs⟩ := f
  have z4 := i.num
  intro P_34
  intro cP_34
  have key : ∀ m : Nat, (∀ (w : Wd), ZM w → ((0 ≤ p1.toInt ∧ p1.toInt ≤ 40) ∧ 0 ≤ p2.toInt ∧ p2.toInt ≤ 1) → (0) < m → P_34 w) := by
    intro m
    induction m with
    | zero => exact fun _ _ _ h => absurd h (Nat.not_lt_zero _)
    | succ m ih =>
      intro w i v0 hm
      refine cP_34 _ ?_
      have z4 := i.num
      refine zm_runs (by omega) hG i (by omega) (fun w11 iw11 j => ?_)
      have zw11 := iw11.num
      refine ⟨fun h630 => ?_, fun h631 => ?_⟩
      · simp only [Int32.lt_iff_toInt_lt, Int32.le_iff_toInt_le, ← Int32.toInt_inj, Int32.reduceToInt] at h630
        refine ⟨fun h632 => ?_, fun h633 => ?_⟩
        · simp only [Int32.lt_iff_toInt_lt, Int32.le_iff_toInt_le, ← Int32.toInt_inj, Int32.reduceToInt] at h632
          omega
        · simp only [Int32.lt_iff_toInt_lt, Int32.le_iff_toInt_le, ← Int32.toInt_inj, Int32.reduceToInt] at h633
          refine cs_X5_restores (by omega) hG (fun w18 kw18 => ?_)
          have iw18 : ZM w18 := by unfold ZM; rw [kw18 0 (by decide)]; exact iw11
          have zw18 := iw18.num
          exact k _ _ (by
            unfold a_run
            (repeat' split) <;> first | rfl | (exfalso; omega) | assumption)
      · simp only [Int32.lt_iff_toInt_lt, Int32.le_iff_toInt_le, ← Int32.toInt_inj, Int32.reduceToInt] at h631
        refine zm_glad (by omega) hG iw11 ?_
        refine cs_X5_restores (by omega) hG (fun w22 kw22 => ?_)
        have iw22 : ZM w22 := by unfold ZM; rw [kw22 0 (by decide)]; exact iw11
        have zw22 := iw22.num
        exact k _ _ (by
          unfold a_run
          (repeat' split) <;> first | rfl | (exfalso; omega) | assumption)
  refine cs_X5_within (by omega) hG (lo := 0) (hi := 40) rfl rfl (fun r1 z634 y635 => ?_)
  refine ⟨fun h636 => ?_, fun h637 => ?_⟩
  · have h636 : ¬ _ := fun q => y635.mpr q h636
    exact k _ _ (by
      unfold a_run
      (repeat' split) <;> first | rfl | (exfalso; omega) | assumption)
  · have h637 := y635.mp h637
    refine cs_X5_within (by omega) hG (lo := 0) (hi := 1) rfl rfl (fun r4 z638 y639 => ?_)
    refine ⟨fun h640 => ?_, fun h641 => ?_⟩
    · have h640 := y639.mp h640
      exact (key _) _ i (by first | omega | rfl | assumption) (Nat.lt_succ_self _)
    · have h641 : ¬ _ := fun q => y639.mpr q h641
      refine cs_X5_isOne (by omega) hG (by omega) (fun r7 y642 y643 => ?_)
      refine ⟨fun h644 => ?_, fun h645 => ?_⟩
      · have h644 := y643.mp h644
        omega
      · have h645 : ¬ _ := fun q => y643.mpr q h645
        exact k _ _ (by
          unfold a_run
          (repeat' split) <;> first | rfl | (exfalso; omega) | assumption)

set_option maxRecDepth 20000 in
theorem zm_remembers {Γ : Gx} {d : Nat} (hd : 3 ≤ d) (hG : GM Γ) {w : Wd} (i : ZM w) {Q : Wd → Prop} (k : ∀ (w' : Wd), ZM w' → Q w') : CV Γ d M_X5_remembers [.ref (gad Γ 0)] w Q := by
  obtain ⟨d, rfl⟩ : ∃ e, d = e + 1 := ⟨d - 1, by omega⟩
  refine con_X5_remembers hG ?_
  unfold wp_X5_remembers
  intro P_6
  intro P_22
  intro cP_6
  intro cP_22
  have key : ∀ m : Nat, (∀ (l1 : Int32) (w : Wd), ZM w → (0 ≤ l1.toInt ∧ l1.toInt ≤ 41) → ((42 - l1.toInt).toNat * 20 + 10) < m → P_6 l1 w) ∧ (∀ (l1 : Int32) (l2 : Int32) (w : Wd), ZM w → (0 ≤ l1.toInt ∧ l1.toInt ≤ 40) → (0 ≤ l2.toInt ∧ l2.toInt ≤ 5) → ((42 - l1.toInt).toNat * 20 + (5 - l2.toInt).toNat) < m → P_22 l1 l2 w) := by
    intro m
    induction m with
    | zero => exact ⟨fun _ _ _ _ h => absurd h (Nat.not_lt_zero _), fun _ _ _ _ _ _ h => absurd h (Nat.not_lt_zero _)⟩
    | succ m ih =>
      refine ⟨?_, ?_⟩
      · intro l1 w i v0 hm
        refine cP_6 _ _ ?_
        refine ⟨fun h646 => ?_, fun h647 => ?_⟩
        · simp only [Int32.lt_iff_toInt_lt, Int32.le_iff_toInt_le, ← Int32.toInt_inj, Int32.reduceToInt] at h646
          refine cs_X5_restores (by omega) hG (fun w5 kw5 => ?_)
          have iw5 : ZM w5 := by unfold ZM; rw [kw5 0 (by decide)]; exact i
          have zw5 := iw5.num
          exact k _ iw5
        · simp only [Int32.lt_iff_toInt_lt, Int32.le_iff_toInt_le, ← Int32.toInt_inj, Int32.reduceToInt] at h647
          refine ⟨fun h648 => ?_, fun h649 => ?_⟩
          · simp only [Int32.lt_iff_toInt_lt, Int32.le_iff_toInt_le, ← Int32.toInt_inj, Int32.reduceToInt] at h648
            have : (0 : Int32).toInt = 0 := rfl
            exact ih.2 _ _ _ i (by first | omega | rfl | assumption) (by first | omega | rfl | assumption) (by omega)
          · simp only [Int32.lt_iff_toInt_lt, Int32.le_iff_toInt_le, ← Int32.toInt_inj, Int32.reduceToInt] at h649
            refine zm_passes (by omega) hG i ?_
            have : (0 : Int32).toInt = 0 := rfl
            exact ih.2 _ _ _ i (by first | omega | rfl | assumption) (by first | omega | rfl | assumption) (by omega)
      · intro l1 l2 w i v0 v1 hm
        refine cP_22 _ _ _ ?_
        refine ⟨fun h650 => ?_, fun h651 => ?_⟩
        · simp only [Int32.lt_iff_toInt_lt, Int32.le_iff_toInt_le, ← Int32.toInt_inj, Int32.reduceToInt] at h650
          have := i_lo l1
          have := i_hi l1
          have : (1 : Int32).toInt = 1 := rfl
          have := i_add (x := l1) (y := (1 : Int32)) (by omega) (by omega)
          exact ih.1 _ _ i (by first | omega | rfl | assumption) (by omega)
        · simp only [Int32.lt_iff_toInt_lt, Int32.le_iff_toInt_le, ← Int32.toInt_inj, Int32.reduceToInt] at h651
          have := i_lo l2
          have := i_hi l2
          refine ⟨vp_in_iff.mpr (by omega), ?_⟩
          have : (5 : Int32).toInt = 5 := rfl
          have := i_lo l1
          have := i_hi l1
          have := i_mulL (c := (5 : Int32)) (v := 5) (x := l1) rfl (by omega) (by omega)
          have := i_add (x := ((5 : Int32) * l1)) (y := l2) (by omega) (by omega)
          refine ⟨vp_in_iff.mpr (by omega), ?_⟩
          intro w12 ew12
          have iw12 : ZM w12 := ew12 ▸ ZM.slot (by omega) i
          have zw12 := iw12.num
          have : (1 : Int32).toInt = 1 := rfl
          have := i_add (x := l2) (y := (1 : Int32)) (by omega) (by omega)
          exact ih.2 _ _ _ iw12 (by first | omega | rfl | assumption) (by first | omega | rfl | assumption) (by omega)
  refine cs_X5_keeps (by omega) hG (fun w2 kw2 => ?_)
  have iw2 : ZM w2 := by unfold ZM; rw [kw2 0 (by decide)]; exact i
  have zw2 := iw2.num
  have : (0 : Int32).toInt = 0 := rfl
  exact (key _).1 _ _ iw2 (by first | omega | rfl | assumption) (Nat.lt_succ_self _)

set_option maxRecDepth 20000 in
theorem p1m_again {Γ : Gx} {d : Nat} (hd : 4 ≤ d) (hG : GM Γ) {p1 : Int32} {w : Wd} (f : FM w) {Q : Int32 → Wd → Prop} (k : ∀ (r : Int32) (w' : Wd), (r = a_again p1) → Q r w') : CI Γ d M_X5_again [.ref (gad Γ 0), .int p1] w Q := by
  obtain ⟨d, rfl⟩ : ∃ e, d = e + 1 := ⟨d - 1, by omega⟩
  refine con_X5_again hG ?_
  unfold wp_X5_again
  obtain ⟨i, fu, f0, f6, f9, f7, f32, fs⟩ := f
  have z4 := i.num
  intro P_23
  intro P_52
  intro P_62
  intro cP_23
  intro cP_52
  intro cP_62
  have key : ∀ m : Nat, (∀ (l2 : Int32) (w : Wd), ZM w → (l2 = 0) → (p1.toInt = 2) → (0) < m → P_23 l2 w) ∧ (∀ (l2 : Int32) (w : Wd), ZM w → (l2 = 1) → (p1.toInt = 0 ∨ p1.toInt = 1) → (2) < m → P_52 l2 w) ∧ (∀ (l2 : Int32) (l3 : Int32) (w : Wd), ZM w → (l2 = 1) → (l3 = 0) → (p1.toInt = 0 ∨ p1.toInt = 1) → (1) < m → P_62 l2 l3 w) := by
    intro m
    induction m with
    | zero => exact ⟨fun _ _ _ _ _ h => absurd h (Nat.not_lt_zero _), fun _ _ _ _ _ h => absurd h (Nat.not_lt_zero _), fun _ _ _ _ _ _ _ h => absurd h (Nat.not_lt_zero _)⟩
    | succ m ih =>
      refine ⟨?_, ?_, ?_⟩
      · intro l2 w i v0 v1 hm
        refine cP_23 _ _ ?_
        have zl : l2.toInt = 0 := by rw [v0]; rfl
        refine ⟨fun h652 => ?_, fun h653 => ?_⟩
        · simp only [Int32.lt_iff_toInt_lt, Int32.le_iff_toInt_le, ← Int32.toInt_inj, Int32.reduceToInt] at h652
          omega
        · simp only [Int32.lt_iff_toInt_lt, Int32.le_iff_toInt_le, ← Int32.toInt_inj, Int32.reduceToInt] at h653
          refine zm_isAlike (by omega) hG i ?_
          refine ⟨fun h654 => ?_, fun h655 => ?_⟩
          · simp only [Int32.lt_iff_toInt_lt, Int32.le_iff_toInt_le, ← Int32.toInt_inj, Int32.reduceToInt] at h654
            omega
          · simp only [Int32.lt_iff_toInt_lt, Int32.le_iff_toInt_le, ← Int32.toInt_inj, Int32.reduceToInt] at h655
            exact k _ _ (by
              unfold a_again
              (repeat' split) <;> first | rfl | (exfalso; omega) | (subst v0; rfl) | (subst v0; subst v1; rfl))
      · intro l2 w i v0 v1 hm
        refine cP_52 _ _ ?_
        have zl : l2.toInt = 1 := by rw [v0]; rfl
        refine ⟨fun h656 => ?_, fun h657 => ?_⟩
        · simp only [Int32.lt_iff_toInt_lt, Int32.le_iff_toInt_le, ← Int32.toInt_inj, Int32.reduceToInt] at h656
          omega
        · simp only [Int32.lt_iff_toInt_lt, Int32.le_iff_toInt_le, ← Int32.toInt_inj, Int32.reduceToInt] at h657
          have := i_lo l2
          have := i_hi l2
          have : (1 : Int32).toInt = 1 := rfl
          have := i_sub (x := l2) (y := (1 : Int32)) (by omega) (by omega)
          exact ih.2.2 _ _ _ i (by first | omega | rfl | assumption) (by rw [v0]; rfl) (by first | omega | rfl | assumption) (by omega)
      · intro l2 l3 w i v0 v1 v2 hm
        refine cP_62 _ _ _ ?_
        have zl : l3.toInt = 0 := by rw [v1]; rfl
        refine ⟨fun h658 => ?_, fun h659 => ?_⟩
        · simp only [Int32.lt_iff_toInt_lt, Int32.le_iff_toInt_le, ← Int32.toInt_inj, Int32.reduceToInt] at h658
          omega
        · simp only [Int32.lt_iff_toInt_lt, Int32.le_iff_toInt_le, ← Int32.toInt_inj, Int32.reduceToInt] at h659
          refine zm_isAlike (by omega) hG i ?_
          refine ⟨fun h660 => ?_, fun h661 => ?_⟩
          · simp only [Int32.lt_iff_toInt_lt, Int32.le_iff_toInt_le, ← Int32.toInt_inj, Int32.reduceToInt] at h660
            omega
          · simp only [Int32.lt_iff_toInt_lt, Int32.le_iff_toInt_le, ← Int32.toInt_inj, Int32.reduceToInt] at h661
            refine ⟨fun h662 => ?_, fun h663 => ?_⟩
            · simp only [Int32.lt_iff_toInt_lt, Int32.le_iff_toInt_le, ← Int32.toInt_inj, Int32.reduceToInt] at h662
              exact k _ _ (by
                unfold a_again
                (repeat' split) <;> first | rfl | (exfalso; omega) | (subst v0; rfl) | (subst v0; subst v1; rfl))
            · simp only [Int32.lt_iff_toInt_lt, Int32.le_iff_toInt_le, ← Int32.toInt_inj, Int32.reduceToInt] at h663
              exact k _ _ (by
                unfold a_again
                (repeat' split) <;> first | rfl | (exfalso; omega) | (subst v0; rfl) | (subst v0; subst v1; rfl))
  refine cs_X5_within (by omega) hG (lo := 0) (hi := 2) rfl rfl (fun r1 z664 y665 => ?_)
  refine ⟨fun h666 => ?_, fun h667 => ?_⟩
  · have h666 := y665.mp h666
    refine zm_remembers (by omega) hG i (fun w5 iw5 => ?_)
    have zw5 := iw5.num
    refine ⟨fun h668 => ?_, fun h669 => ?_⟩
    · simp only [Int32.lt_iff_toInt_lt, Int32.le_iff_toInt_le, ← Int32.toInt_inj, Int32.reduceToInt] at h668
      have : (1 : Int32).toInt = 1 := rfl
      exact (key _).2.1 _ _ iw5 (by first | omega | rfl | assumption) (by first | omega | rfl | assumption) (Nat.lt_succ_self _)
    · simp only [Int32.lt_iff_toInt_lt, Int32.le_iff_toInt_le, ← Int32.toInt_inj, Int32.reduceToInt] at h669
      have : (0 : Int32).toInt = 0 := rfl
      exact (key _).1 _ _ iw5 (by first | omega | rfl | assumption) (by first | omega | rfl | assumption) (Nat.lt_succ_self _)
  · have h667 : ¬ _ := fun q => y665.mpr q h667
    exact k _ _ (by
      unfold a_again
      (repeat' split) <;> first | rfl | (exfalso; omega) | (subst v0; rfl) | (subst v0; subst v1; rfl))

set_option maxRecDepth 20000 in
theorem p1m_all {Γ : Gx} {d : Nat} (hd : 2 ≤ d) (hG : GM Γ) {p1 : Int32} {w : Wd} (f : FM w) {Q : Int32 → Wd → Prop} (k : ∀ (r : Int32) (w' : Wd), (r = a_all p1) → Q r w') : CI Γ d M_X5_all [.ref (gad Γ 0), .int p1] w Q := by
  obtain ⟨d, rfl⟩ : ∃ e, d = e + 1 := ⟨d - 1, by omega⟩
  refine con_X5_all hG ?_
  unfold wp_X5_all
  obtain ⟨i, fu, f0, f6, f9, f7, f32, fs⟩ := f
  have z4 := i.num
  refine ⟨fun h670 => ?_, fun h671 => ?_, fun h672 => ?_, fun h673 => ?_, fun h674 => ?_⟩
  · simp only [Int32.lt_iff_toInt_lt, Int32.le_iff_toInt_le, ← Int32.toInt_inj, Int32.reduceToInt] at h670
    refine zm_glad (by omega) hG i ?_
    exact k _ _ (by
      unfold a_all
      (repeat' split) <;> first | rfl | (exfalso; omega))
  · simp only [Int32.lt_iff_toInt_lt, Int32.le_iff_toInt_le, ← Int32.toInt_inj, Int32.reduceToInt] at h671
    refine zm_lettuce (by omega) hG i ?_
    rw [if_pos rfl]
    exact k _ _ (by
      unfold a_all
      (repeat' split) <;> first | rfl | (exfalso; omega))
  · simp only [Int32.lt_iff_toInt_lt, Int32.le_iff_toInt_le, ← Int32.toInt_inj, Int32.reduceToInt] at h672
    refine zm_lettuce (by omega) hG i ?_
    rw [if_neg (by decide)]
    exact k _ _ (by
      unfold a_all
      (repeat' split) <;> first | rfl | (exfalso; omega))
  · simp only [Int32.lt_iff_toInt_lt, Int32.le_iff_toInt_le, ← Int32.toInt_inj, Int32.reduceToInt] at h673
    refine zm_left (by omega) hG i ?_
    exact k _ _ (by
      unfold a_all
      (repeat' split) <;> first | rfl | (exfalso; omega))
  · simp only [Int32.lt_iff_toInt_lt, Int32.le_iff_toInt_le, ← Int32.toInt_inj, Int32.reduceToInt] at h674
    exact k _ _ (by
      unfold a_all
      (repeat' split) <;> first | rfl | (exfalso; omega))

set_option maxRecDepth 20000 in
theorem p1m_best {Γ : Gx} {d : Nat} (hd : 4 ≤ d) (hG : GM Γ) {p1 : Int32} {p2 : Int32} {p3 : Int32} {w : Wd} (f : FM w) {Q : Int32 → Wd → Prop} (k : ∀ (r : Int32) (w' : Wd), (r = -1000) → Q r w') : CI Γ d M_X5_best [.ref (gad Γ 0), .int p1, .int p2, .int p3] w Q := by
  obtain ⟨d, rfl⟩ : ∃ e, d = e + 1 := ⟨d - 1, by omega⟩
  refine con_X5_best hG ?_
  unfold wp_X5_best
  obtain ⟨i, fu, f0, f6, f9, f7, f32, fs⟩ := f
  have z4 := i.num
  intro P_51
  intro cP_51
  refine cs_X5_isOne (by omega) hG (by omega) (fun r1 y675 y676 => ?_)
  refine ⟨fun h677 => ?_, fun h678 => ?_⟩
  · have h677 : ¬ _ := fun q => y676.mpr q h677
    exact k _ _ (by
      skip
      (repeat' split) <;> first | rfl | (exfalso; omega))
  · have h678 := y676.mp h678
    omega

set_option maxRecDepth 20000 in
theorem p1m_add {Γ : Gx} {d : Nat} (hd : 4 ≤ d) (hG : GM Γ) {p1 : Int32} {p2 : Int32} {p3 : Int32} {w : Wd} (f : FM w) {Q : Int32 → Wd → Prop} (k : ∀ (r : Int32) (w' : Wd), (r = -1000) → Q r w') : CI Γ d M_X5_add [.ref (gad Γ 0), .int p1, .int p2, .int p3] w Q := by
  obtain ⟨d, rfl⟩ : ∃ e, d = e + 1 := ⟨d - 1, by omega⟩
  refine con_X5_add hG ?_
  unfold wp_X5_add
  obtain ⟨i, fu, f0, f6, f9, f7, f32, fs⟩ := f
  have z4 := i.num
  intro P_57
  intro cP_57
  refine cs_X5_areTwo (by omega) hG (by omega) (fun r1 y679 y680 => ?_)
  refine ⟨fun h681 => ?_, fun h682 => ?_⟩
  · have h681 : ¬ _ := fun q => y680.mpr q h681
    exact k _ _ (by
      skip
      (repeat' split) <;> first | rfl | (exfalso; omega))
  · have h682 := y680.mp h682
    omega

set_option maxRecDepth 20000 in
theorem p1m_tells {Γ : Gx} {d : Nat} (hd : 4 ≤ d) (hG : GM Γ) {p1 : Int32} {p2 : Int32} {p3 : Int32} {w : Wd} (f : FM w) {Q : Int32 → Wd → Prop} (k : ∀ (r : Int32) (w' : Wd), (r = -1000) → Q r w') : CI Γ d M_X5_tells [.ref (gad Γ 0), .int p1, .int p2, .int p3] w Q := by
  obtain ⟨d, rfl⟩ : ∃ e, d = e + 1 := ⟨d - 1, by omega⟩
  refine con_X5_tells hG ?_
  unfold wp_X5_tells
  obtain ⟨i, fu, f0, f6, f9, f7, f32, fs⟩ := f
  have z4 := i.num
  refine cs_X5_isSheet (by omega) hG (fun r1 y683 y684 => ?_)
  refine ⟨fun h685 => ?_, fun h686 => ?_⟩
  · have h685 : ¬ _ := fun q => y684.mpr q h685
    exact k _ _ (by
      skip
      (repeat' split) <;> first | rfl | (exfalso; omega))
  · have h686 := y684.mp h686
    refine cs_X5_isOne (by omega) hG (by omega) (fun r4 y687 y688 => ?_)
    refine ⟨fun h689 => ?_, fun h690 => ?_⟩
    · have h689 : ¬ _ := fun q => y688.mpr q h689
      exact k _ _ (by
        skip
        (repeat' split) <;> first | rfl | (exfalso; omega))
    · have h690 := y688.mp h690
      omega

set_option maxRecDepth 20000 in
theorem p1m_film {Γ : Gx} {d : Nat} (hd : 3 ≤ d) (hG : GM Γ) {p1 : Int32} {p2 : Int32} {p3 : Int32} {w : Wd} (f : FM w) {Q : Int32 → Wd → Prop} (k : ∀ (r : Int32) (w' : Wd), (r = -2) → Q r w') : CI Γ d M_X5_film [.ref (gad Γ 0), .int p1, .int p2, .int p3] w Q := by
  obtain ⟨d, rfl⟩ : ∃ e, d = e + 1 := ⟨d - 1, by omega⟩
  refine con_X5_film hG ?_
  unfold wp_X5_film
  obtain ⟨i, fu, f0, f6, f9, f7, f32, fs⟩ := f
  have z4 := i.num
  intro P_43
  intro cP_43
  refine cs_X5_isSheet (by omega) hG (fun r1 y691 y692 => ?_)
  refine ⟨fun h693 => ?_, fun h694 => ?_⟩
  · have h693 : ¬ _ := fun q => y692.mpr q h693
    exact k _ _ (by
      skip
      (repeat' split) <;> first | rfl | (exfalso; omega))
  · have h694 := y692.mp h694
    refine cs_X5_isOne (by omega) hG (by omega) (fun r4 y695 y696 => ?_)
    refine ⟨fun h697 => ?_, fun h698 => ?_⟩
    · have h697 : ¬ _ := fun q => y696.mpr q h697
      exact k _ _ (by
        skip
        (repeat' split) <;> first | rfl | (exfalso; omega))
    · have h698 := y696.mp h698
      omega

set_option maxRecDepth 20000 in
theorem p1m_leaveOut {Γ : Gx} {d : Nat} (hd : 4 ≤ d) (hG : GM Γ) {p1 : Int32} {p2 : Int32} {w : Wd} (f : FM w) {Q : Int32 → Wd → Prop} (k : ∀ (r : Int32) (w' : Wd), (r = a_out p1 p2) → Q r w') : CI Γ d M_X5_leaveOut [.ref (gad Γ 0), .int p1, .int p2] w Q := by
  obtain ⟨d, rfl⟩ : ∃ e, d = e + 1 := ⟨d - 1, by omega⟩
  refine con_X5_leaveOut hG ?_
  unfold wp_X5_leaveOut
  obtain ⟨i, fu, f0, f6, f9, f7, f32, fs⟩ := f
  have z4 := i.num
  intro P_35
  intro cP_35
  have key : ∀ m : Nat, (∀ (l3 : Int32) (l4 : Int32) (l5 : Int32) (w : Wd), ZM w → (l3 = -1) → (l4 = 0) → (l5.toInt = 0) → ((0 ≤ p1.toInt ∧ p1.toInt ≤ 40) ∧ 0 ≤ p2.toInt ∧ p2.toInt ≤ 1) → (0) < m → P_35 l3 l4 l5 w) := by
    intro m
    induction m with
    | zero => exact fun _ _ _ _ _ _ _ _ _ h => absurd h (Nat.not_lt_zero _)
    | succ m ih =>
      intro l3 l4 l5 w i v0 v1 v2 v3 hm
      refine cP_35 _ _ _ _ ?_
      have z4 := i.num
      have zl : l4.toInt = 0 := by rw [v1]; rfl
      refine ⟨fun h699 => ?_, fun h700 => ?_⟩
      · simp only [Int32.lt_iff_toInt_lt, Int32.le_iff_toInt_le, ← Int32.toInt_inj, Int32.reduceToInt] at h699
        refine ⟨fun h701 => ?_, fun h702 => ?_⟩
        · simp only [Int32.lt_iff_toInt_lt, Int32.le_iff_toInt_le, ← Int32.toInt_inj, Int32.reduceToInt] at h701
          exact k _ _ (by
            unfold a_out
            (repeat' split) <;> first | rfl | (exfalso; omega) | assumption)
        · simp only [Int32.lt_iff_toInt_lt, Int32.le_iff_toInt_le, ← Int32.toInt_inj, Int32.reduceToInt] at h702
          exact k _ _ (by
            unfold a_out
            (repeat' split) <;> first | rfl | (exfalso; omega) | assumption)
      · simp only [Int32.lt_iff_toInt_lt, Int32.le_iff_toInt_le, ← Int32.toInt_inj, Int32.reduceToInt] at h700
        omega
  refine cs_X5_within (by omega) hG (lo := 0) (hi := 40) rfl rfl (fun r1 z703 y704 => ?_)
  refine ⟨fun h705 => ?_, fun h706 => ?_⟩
  · have h705 : ¬ _ := fun q => y704.mpr q h705
    exact k _ _ (by
      unfold a_out
      (repeat' split) <;> first | rfl | (exfalso; omega) | assumption)
  · have h706 := y704.mp h706
    refine cs_X5_within (by omega) hG (lo := 0) (hi := 1) rfl rfl (fun r4 z707 y708 => ?_)
    refine ⟨fun h709 => ?_, fun h710 => ?_⟩
    · have h709 := y708.mp h709
      refine zm_gladBehind (by omega) hG i (by omega) (fun w8 iw8 => ?_)
      have zw8 := iw8.num
      have : (-1 : Int32).toInt = -1 := rfl
      have : (0 : Int32).toInt = 0 := rfl
      exact (key _) _ _ _ _ iw8 (by first | omega | rfl | assumption) (by first | omega | rfl | assumption) (by first | omega | rfl | assumption) (by first | omega | rfl | assumption) (Nat.lt_succ_self _)
    · have h710 : ¬ _ := fun q => y708.mpr q h710
      exact k _ _ (by
        unfold a_out
        (repeat' split) <;> first | rfl | (exfalso; omega) | assumption)

set_option maxRecDepth 20000 in
theorem p1m_spare {Γ : Gx} {d : Nat} (hd : 4 ≤ d) (hG : GM Γ) {p1 : Int32} {p2 : Int32} {w : Wd} (f : FM w) {Q : Int32 → Wd → Prop} (k : ∀ (r : Int32) (w' : Wd), (r = a_out p1 p2) → Q r w') : CI Γ d M_X5_spare [.ref (gad Γ 0), .int p1, .int p2] w Q := by
  obtain ⟨d, rfl⟩ : ∃ e, d = e + 1 := ⟨d - 1, by omega⟩
  refine con_X5_spare hG ?_
  unfold wp_X5_spare
  obtain ⟨i, fu, f0, f6, f9, f7, f32, fs⟩ := f
  have z4 := i.num
  intro P_35
  intro cP_35
  have key : ∀ m : Nat, (∀ (l3 : Int32) (l4 : Int32) (l5 : Int32) (w : Wd), ZM w → (l3 = -1) → (l4 = 0) → (0 ≤ l5.toInt ∧ l5.toInt ≤ 8) → ((0 ≤ p1.toInt ∧ p1.toInt ≤ 40) ∧ 0 ≤ p2.toInt ∧ p2.toInt ≤ 1) → ((9 - l5.toInt).toNat) < m → P_35 l3 l4 l5 w) := by
    intro m
    induction m with
    | zero => exact fun _ _ _ _ _ _ _ _ _ h => absurd h (Nat.not_lt_zero _)
    | succ m ih =>
      intro l3 l4 l5 w i v0 v1 v2 v3 hm
      refine cP_35 _ _ _ _ ?_
      have z4 := i.num
      have zl : l4.toInt = 0 := by rw [v1]; rfl
      refine ⟨fun h711 => ?_, fun h712 => ?_⟩
      · simp only [Int32.lt_iff_toInt_lt, Int32.le_iff_toInt_le, ← Int32.toInt_inj, Int32.reduceToInt] at h711
        refine ⟨fun h713 => ?_, fun h714 => ?_⟩
        · simp only [Int32.lt_iff_toInt_lt, Int32.le_iff_toInt_le, ← Int32.toInt_inj, Int32.reduceToInt] at h713
          exact k _ _ (by
            unfold a_out
            (repeat' split) <;> first | rfl | (exfalso; omega) | assumption)
        · simp only [Int32.lt_iff_toInt_lt, Int32.le_iff_toInt_le, ← Int32.toInt_inj, Int32.reduceToInt] at h714
          exact k _ _ (by
            unfold a_out
            (repeat' split) <;> first | rfl | (exfalso; omega) | assumption)
      · simp only [Int32.lt_iff_toInt_lt, Int32.le_iff_toInt_le, ← Int32.toInt_inj, Int32.reduceToInt] at h712
        have := i_lo l5
        have := i_hi l5
        refine ⟨vp_in_iff.mpr (by omega), ?_⟩
        refine ⟨fun h715 => ?_, fun h716 => ?_⟩
        · simp only [Int32.lt_iff_toInt_lt, Int32.le_iff_toInt_le, ← Int32.toInt_inj, Int32.reduceToInt] at h715
          intro w13 ew13
          have iw13 : ZM w13 := ew13 ▸ ZM.slot (by omega) i
          have zw13 := iw13.num
          refine zm_gladBehind (by omega) hG iw13 (by omega) (fun w16 iw16 => ?_)
          have zw16 := iw16.num
          intro w17 ew17
          have iw17 : ZM w17 := ew17 ▸ ZM.slot (by omega) iw16
          have zw17 := iw17.num
          refine ⟨fun h717 => ?_, fun h718 => ?_⟩
          · simp only [Int32.lt_iff_toInt_lt, Int32.le_iff_toInt_le, ← Int32.toInt_inj, Int32.reduceToInt] at h717
            omega
          · simp only [Int32.lt_iff_toInt_lt, Int32.le_iff_toInt_le, ← Int32.toInt_inj, Int32.reduceToInt] at h718
            have : (1 : Int32).toInt = 1 := rfl
            have := i_add (x := l5) (y := (1 : Int32)) (by omega) (by omega)
            exact ih _ _ _ _ iw17 (by first | omega | rfl | assumption) (by first | omega | rfl | assumption) (by first | omega | rfl | assumption) (by first | omega | rfl | assumption) (by omega)
        · simp only [Int32.lt_iff_toInt_lt, Int32.le_iff_toInt_le, ← Int32.toInt_inj, Int32.reduceToInt] at h716
          have : (1 : Int32).toInt = 1 := rfl
          have := i_add (x := l5) (y := (1 : Int32)) (by omega) (by omega)
          exact ih _ _ _ _ i (by first | omega | rfl | assumption) (by first | omega | rfl | assumption) (by first | omega | rfl | assumption) (by first | omega | rfl | assumption) (by omega)
  refine cs_X5_within (by omega) hG (lo := 0) (hi := 40) rfl rfl (fun r1 z719 y720 => ?_)
  refine ⟨fun h721 => ?_, fun h722 => ?_⟩
  · have h721 : ¬ _ := fun q => y720.mpr q h721
    exact k _ _ (by
      unfold a_out
      (repeat' split) <;> first | rfl | (exfalso; omega) | assumption)
  · have h722 := y720.mp h722
    refine cs_X5_within (by omega) hG (lo := 0) (hi := 1) rfl rfl (fun r4 z723 y724 => ?_)
    refine ⟨fun h725 => ?_, fun h726 => ?_⟩
    · have h725 := y724.mp h725
      refine zm_gladBehind (by omega) hG i (by omega) (fun w8 iw8 => ?_)
      have zw8 := iw8.num
      have : (-1 : Int32).toInt = -1 := rfl
      have : (0 : Int32).toInt = 0 := rfl
      exact (key _) _ _ _ _ iw8 (by first | omega | rfl | assumption) (by first | omega | rfl | assumption) (by first | omega | rfl | assumption) (by first | omega | rfl | assumption) (Nat.lt_succ_self _)
    · have h726 : ¬ _ := fun q => y724.mpr q h726
      exact k _ _ (by
        unfold a_out
        (repeat' split) <;> first | rfl | (exfalso; omega) | assumption)

set_option maxRecDepth 20000 in
theorem zm_byLot {Γ : Gx} {d : Nat} (hd : 4 ≤ d) (hG : GM Γ) {p1 : Int32} {w : Wd} (i : ZM w) {Q : Int32 → Wd → Prop} (k : ∀ (r : Int32) (w' : Wd), ZM w' → (r = 0) → Q r w') : CI Γ d M_X5_byLot [.ref (gad Γ 0), .int p1] w Q := by
  obtain ⟨d, rfl⟩ : ∃ e, d = e + 1 := ⟨d - 1, by omega⟩
  refine con_X5_byLot hG ?_
  unfold wp_X5_byLot
  intro P_2
  intro P_29
  intro P_78
  intro cP_2
  intro cP_29
  intro cP_78
  have key : ∀ m : Nat, (∀ (l2 : Int32) (w : Wd), ZM w → (0 ≤ l2.toInt ∧ l2.toInt ≤ 5) → ((5 - l2.toInt).toNat + 20) < m → P_2 l2 w) ∧ (∀ (l2 : Int32) (l3 : Int32) (w : Wd), ZM w → (l3.toInt = 0) → (10) < m → P_29 l2 l3 w) ∧ (∀ (l3 : Int32) (l4 : Int32) (w : Wd), ZM w → (l3 = 0) → (0 ≤ l4.toInt ∧ l4.toInt ≤ 5) → ((5 - l4.toInt).toNat) < m → P_78 l3 l4 w) := by
    intro m
    induction m with
    | zero => exact ⟨fun _ _ _ _ h => absurd h (Nat.not_lt_zero _), fun _ _ _ _ _ h => absurd h (Nat.not_lt_zero _), fun _ _ _ _ _ _ h => absurd h (Nat.not_lt_zero _)⟩
    | succ m ih =>
      refine ⟨?_, ?_, ?_⟩
      · intro l2 w i v0 hm
        refine cP_2 _ _ ?_
        refine ⟨fun h727 => ?_, fun h728 => ?_⟩
        · simp only [Int32.lt_iff_toInt_lt, Int32.le_iff_toInt_le, ← Int32.toInt_inj, Int32.reduceToInt] at h727
          have : (0 : Int32).toInt = 0 := rfl
          exact ih.2.1 _ _ _ i (by first | omega | rfl | assumption) (by omega)
        · simp only [Int32.lt_iff_toInt_lt, Int32.le_iff_toInt_le, ← Int32.toInt_inj, Int32.reduceToInt] at h728
          have := i_lo l2
          have := i_hi l2
          refine ⟨vp_in_iff.mpr (by omega), ?_⟩
          refine ⟨vp_in_iff.mpr (by omega), ?_⟩
          intro w4 ew4
          have iw4 : ZM w4 := ew4 ▸ ZM.slot (by omega) i
          have zw4 := iw4.num
          have : (1 : Int32).toInt = 1 := rfl
          have := i_add (x := l2) (y := (1 : Int32)) (by omega) (by omega)
          exact ih.1 _ _ iw4 (by first | omega | rfl | assumption) (by omega)
      · intro l2 l3 w i v0 hm
        refine cP_29 _ _ _ ?_
        have z4 := i.num
        refine ⟨fun h729 => ?_, fun h730 => ?_⟩
        · simp only [Int32.lt_iff_toInt_lt, Int32.le_iff_toInt_le, ← Int32.toInt_inj, Int32.reduceToInt] at h729
          have : (5 : Int32).toInt = 5 := rfl
          refine zm_gladBehind (by omega) hG i (by omega) (fun w8 iw8 => ?_)
          have zw8 := iw8.num
          have : (0 : Int32).toInt = 0 := rfl
          exact ih.2.2 _ _ _ iw8 (by first | omega | rfl | assumption) (by first | omega | rfl | assumption) (by omega)
        · simp only [Int32.lt_iff_toInt_lt, Int32.le_iff_toInt_le, ← Int32.toInt_inj, Int32.reduceToInt] at h730
          intro v9 ev9
          have := i_lo l3
          have := i_hi l3
          refine ⟨vp_in_iff.mpr (by omega), ?_⟩
          intro w12 ew12
          have iw12 : ZM w12 := ew12 ▸ ZM.slot (by omega) i
          have zw12 := iw12.num
          have : (1 : Int32).toInt = 1 := rfl
          have := i_add (x := l3) (y := (1 : Int32)) (by omega) (by omega)
          exact ih.2.1 _ _ _ iw12 (by first | omega | rfl | assumption) (by omega)
      · intro l3 l4 w i v0 v1 hm
        refine cP_78 _ _ _ ?_
        refine ⟨fun h731 => ?_, fun h732 => ?_⟩
        · simp only [Int32.lt_iff_toInt_lt, Int32.le_iff_toInt_le, ← Int32.toInt_inj, Int32.reduceToInt] at h731
          exact k _ _ i v0
        · simp only [Int32.lt_iff_toInt_lt, Int32.le_iff_toInt_le, ← Int32.toInt_inj, Int32.reduceToInt] at h732
          have := i_lo l4
          have := i_hi l4
          refine ⟨vp_in_iff.mpr (by omega), ?_⟩
          refine ⟨vp_in_iff.mpr (by omega), ?_⟩
          intro w17 ew17
          have iw17 : ZM w17 := ew17 ▸ ZM.slot (by omega) i
          have zw17 := iw17.num
          have : (1 : Int32).toInt = 1 := rfl
          have := i_add (x := l4) (y := (1 : Int32)) (by omega) (by omega)
          exact ih.2.2 _ _ _ iw17 (by first | omega | rfl | assumption) (by first | omega | rfl | assumption) (by omega)
  have : (0 : Int32).toInt = 0 := rfl
  exact (key _).1 _ _ i (by first | omega | rfl | assumption) (Nat.lt_succ_self _)

set_option maxRecDepth 20000 in
theorem p1m_drawn {Γ : Gx} {d : Nat} (hd : 5 ≤ d) (hG : GM Γ) {p1 : Int32} {w : Wd} (f : FM w) {Q : Int32 → Wd → Prop} (k : ∀ (r : Int32) (w' : Wd), (r = 0) → Q r w') : CI Γ d M_X5_drawn [.ref (gad Γ 0), .int p1] w Q := by
  obtain ⟨d, rfl⟩ : ∃ e, d = e + 1 := ⟨d - 1, by omega⟩
  refine con_X5_drawn hG ?_
  unfold wp_X5_drawn
  obtain ⟨i, fu, f0, f6, f9, f7, f32, fs⟩ := f
  have z4 := i.num
  refine zm_byLot (by omega) hG i (fun r1 w2 iw2 yw2 => ?_)
  have yw2n : r1.toInt = 0 := by rw [yw2]; rfl
  exact k _ _ (by assumption)

set_option maxRecDepth 20000 in
theorem p1m_chance {Γ : Gx} {d : Nat} (hd : 6 ≤ d) (hG : GM Γ) {p1 : Int32} {p2 : Int32} {p3 : Int32} {p4 : Int32} {w : Wd} (f : FM w) {Q : Int64 → Wd → Prop} (k : ∀ (r : Int64) (w' : Wd), (r = a_chance p2 p3 p4) → Q r w') : CL Γ d M_X5_chance [.ref (gad Γ 0), .int p1, .int p2, .int p3, .int p4] w Q := by
  obtain ⟨d, rfl⟩ : ∃ e, d = e + 1 := ⟨d - 1, by omega⟩
  refine con_X5_chance hG ?_
  unfold wp_X5_chance
  obtain ⟨i, fu, f0, f6, f9, f7, f32, fs⟩ := f
  have z4 := i.num
  intro P_41
  intro P_75
  intro cP_41
  intro cP_75
  have key : ∀ m : Nat, (∀ (l5 : Int32) (l6 : Int32) (w : Wd), ZM w → (0 ≤ l6.toInt ∧ l6.toInt ≤ p2.toInt) → ((p3.toInt ≤ 0 ∧ l5.toInt = l6.toInt) ∨ (0 < p3.toInt ∧ l5 = 0)) → ((1 ≤ p2.toInt ∧ p2.toInt ≤ 20) ∧ (-100 ≤ p3.toInt ∧ p3.toInt ≤ 100) ∧ 0 ≤ p4.toInt ∧ p4.toInt ≤ 1) → ((21 - l6.toInt).toNat + 30) < m → P_41 l5 l6 w) ∧ (∀ (l5 : Int32) (l6 : Int32) (l7 : Int32) (w : Wd), ZM w → ((p3.toInt ≤ 0 ∧ l5 = p2) ∨ (0 < p3.toInt ∧ l5 = 0)) → ((1 ≤ p2.toInt ∧ p2.toInt ≤ 20) ∧ (-100 ≤ p3.toInt ∧ p3.toInt ≤ 100) ∧ 0 ≤ p4.toInt ∧ p4.toInt ≤ 1) → ((l6 = l5 ∧ l7 = p2) ∨ (l6 = p2 ∧ l7 = 0)) → (l7.toInt.toNat) < m → P_75 l5 l6 l7 w) := by
    intro m
    induction m with
    | zero => exact ⟨fun _ _ _ _ _ _ _ h => absurd h (Nat.not_lt_zero _), fun _ _ _ _ _ _ _ _ h => absurd h (Nat.not_lt_zero _)⟩
    | succ m ih =>
      refine ⟨?_, ?_⟩
      · intro l5 l6 w i v0 v1 v2 hm
        refine cP_41 _ _ _ ?_
        have z4 := i.num
        refine ⟨fun h733 => ?_, fun h734 => ?_⟩
        · simp only [Int32.lt_iff_toInt_lt, Int32.le_iff_toInt_le, ← Int32.toInt_inj, Int32.reduceToInt] at h733
          exact ih.2 _ _ _ _ i (v1.elim (fun q => Or.inl ⟨q.1, i_ext (by omega)⟩) (fun q => Or.inr q)) (by first | omega | rfl | assumption) (Or.inl ⟨rfl, rfl⟩) (by omega)
        · simp only [Int32.lt_iff_toInt_lt, Int32.le_iff_toInt_le, ← Int32.toInt_inj, Int32.reduceToInt] at h734
          refine zm_byLot (by omega) hG i (fun r11 w12 iw12 yw12 => ?_)
          have yw12n : r11.toInt = 0 := by rw [yw12]; rfl
          refine ⟨fun h735 => ?_, fun h736 => ?_⟩
          · simp only [Int32.lt_iff_toInt_lt, Int32.le_iff_toInt_le, ← Int32.toInt_inj, Int32.reduceToInt] at h735
            have := i_lo l6
            have := i_hi l6
            have : (1 : Int32).toInt = 1 := rfl
            have := i_add (x := l6) (y := (1 : Int32)) (by omega) (by omega)
            exact ih.1 _ _ _ iw12 (by first | omega | rfl | assumption) (v1.elim (fun q => absurd q.1 (by omega)) (fun q => Or.inr q)) (by first | omega | rfl | assumption) (by omega)
          · simp only [Int32.lt_iff_toInt_lt, Int32.le_iff_toInt_le, ← Int32.toInt_inj, Int32.reduceToInt] at h736
            have := i_lo l5
            have := i_hi l5
            have : (1 : Int32).toInt = 1 := rfl
            have := i_add (x := l5) (y := (1 : Int32)) (by omega) (by omega)
            have := i_lo l6
            have := i_hi l6
            have := i_add (x := l6) (y := (1 : Int32)) (by omega) (by omega)
            exact ih.1 _ _ _ iw12 (by first | omega | rfl | assumption) (v1.elim (fun q => Or.inl ⟨q.1, by omega⟩) (fun q => absurd q.1 (by omega))) (by first | omega | rfl | assumption) (by omega)
      · intro l5 l6 l7 w i v0 v1 v2 hm
        refine cP_75 _ _ _ _ ?_
        obtain ⟨qa, qb, qc, qd⟩ := q_self (x := p2) (by omega) (by omega)
        have ne : ¬ p2 = 0 := fun q => by rw [q] at v1; exact absurd v1.1.1 (by decide)
        refine ⟨fun h737 => ?_, fun h738 => ?_⟩
        · simp only [Int32.lt_iff_toInt_lt, Int32.le_iff_toInt_le, ← Int32.toInt_inj, Int32.reduceToInt] at h737
          have q6 : l6 = p2 := by
            rcases v2 with ⟨_, q⟩ | ⟨q, _⟩
            · have q0 : l7.toInt = p2.toInt := by rw [q]
              omega
            · exact q
          refine ⟨fun h739 => ?_, fun h740 => ?_⟩
          · simp only [Int32.lt_iff_toInt_lt, Int32.le_iff_toInt_le, ← Int32.toInt_inj, Int32.reduceToInt] at h739
            refine ⟨(by rw [q6]; exact ne), ?_⟩
            rw [q6]
            exact k _ _ (by
              unfold a_chance
              (repeat' split) <;> first | exact qa | (exfalso; omega))
          · simp only [Int32.lt_iff_toInt_lt, Int32.le_iff_toInt_le, ← Int32.toInt_inj, Int32.reduceToInt] at h740
            refine ⟨(by rw [q6]; exact ne), ?_⟩
            rw [q6]
            rcases v0 with ⟨q1, q2⟩ | ⟨q1, q2⟩
            · rw [q2]
              exact k _ _ (by
                unfold a_chance
                (repeat' split) <;> first | exact qa | (exfalso; omega))
            · rw [q2]
              exact k _ _ (by
                unfold a_chance
                (repeat' split) <;> first | exact qb | (exfalso; omega))
        · simp only [Int32.lt_iff_toInt_lt, Int32.le_iff_toInt_le, ← Int32.toInt_inj, Int32.reduceToInt] at h738
          refine ⟨(fun q => absurd (by rw [q]; rfl : l7.toInt = 0) (by assumption)), ?_⟩
          have q67 : l7 = p2 ∧ l6 - (l6 / l7) * l7 = 0 := by
            rcases v2 with ⟨a, b⟩ | ⟨a, b⟩
            · refine ⟨b, ?_⟩
              rw [a, b]
              rcases v0 with ⟨_, c⟩ | ⟨_, c⟩
              · rw [c]
                exact qc
              · rw [c]
                exact qd
            · exact absurd (by rw [b]; rfl : l7.toInt = 0) (by assumption)
          have q68 : (l6 - (l6 / l7) * l7).toInt = 0 := by rw [q67.2]; rfl
          have q69 : l7.toInt = p2.toInt := by rw [q67.1]
          exact ih.2 _ _ _ _ i v0 (by first | omega | rfl | assumption) (Or.inr q67) (by omega)
  refine cs_X5_within (by omega) hG (lo := 1) (hi := 20) rfl rfl (fun r1 z741 y742 => ?_)
  refine ⟨fun h743 => ?_, fun h744 => ?_⟩
  · have h743 : ¬ _ := fun q => y742.mpr q h743
    exact k _ _ (by
      unfold a_chance
      (repeat' split) <;> first | rfl | (exfalso; omega))
  · have h744 := y742.mp h744
    refine cs_X5_within (by omega) hG (lo := -100) (hi := 100) rfl rfl (fun r4 z745 y746 => ?_)
    refine ⟨fun h747 => ?_, fun h748 => ?_⟩
    · have h747 : ¬ _ := fun q => y746.mpr q h747
      exact k _ _ (by
        unfold a_chance
        (repeat' split) <;> first | rfl | (exfalso; omega))
    · have h748 := y746.mp h748
      refine cs_X5_within (by omega) hG (lo := 0) (hi := 1) rfl rfl (fun r7 z749 y750 => ?_)
      refine ⟨fun h751 => ?_, fun h752 => ?_⟩
      · have h751 := y750.mp h751
        have : (0 : Int32).toInt = 0 := rfl
        exact (key _).1 _ _ _ i (by first | omega | rfl | assumption) ((Int.lt_or_le 0 p3.toInt).elim (fun q => Or.inr ⟨q, rfl⟩) (fun q => Or.inl ⟨q, by omega⟩)) (by first | omega | rfl | assumption) (Nat.lt_succ_self _)
      · have h752 : ¬ _ := fun q => y750.mpr q h752
        exact k _ _ (by
          unfold a_chance
          (repeat' split) <;> first | rfl | (exfalso; omega))

def UM (w : Wd) : Prop := ZM w ∧ ∀ l : Nat, l < 8 → w 1 l = 1
theorem UM.slot {w : Wd} {c s : Nat} {v : Int32} (hc : c ≠ 1) (h : s ≠ 2 ∨ c ≠ 0) (i : UM w) : UM (wset w c s v) := ⟨ZM.slot h i.1, fun l hl => by rw [ws_col (Ne.symm hc)]; exact i.2 l hl⟩

set_option maxRecDepth 20000 in
theorem p1m_image {Γ : Gx} {d : Nat} (hd : 1 ≤ d) (hG : GM Γ) {w : Wd} (f : FM w) {Q : Int32 → Wd → Prop} (k : ∀ (r : Int32) (w' : Wd), (r = 0) → Q r w') : CI Γ d M_X5_image [.ref (gad Γ 0)] w Q := by
  obtain ⟨d, rfl⟩ : ∃ e, d = e + 1 := ⟨d - 1, by omega⟩
  refine con_X5_image hG ?_
  unfold wp_X5_image
  obtain ⟨i0, fu, f0, f6, f9, f7, f32, fs⟩ := f
  have i : UM w := ⟨i0, fu⟩
  intro P_31
  intro P_57
  intro cP_31
  intro cP_57
  have key : ∀ m : Nat, (∀ (l1 : Int32) (w : Wd), UM w → (0 ≤ l1.toInt ∧ l1.toInt ≤ 8) → ((8 - l1.toInt).toNat + 20) < m → P_31 l1 w) ∧ (∀ (l1 : Int32) (w : Wd), UM w → (0 ≤ l1.toInt ∧ l1.toInt ≤ 5) → ((5 - l1.toInt).toNat) < m → P_57 l1 w) := by
    intro m
    induction m with
    | zero => exact ⟨fun _ _ _ _ h => absurd h (Nat.not_lt_zero _), fun _ _ _ _ h => absurd h (Nat.not_lt_zero _)⟩
    | succ m ih =>
      refine ⟨?_, ?_⟩
      · intro l1 w i v0 hm
        refine cP_31 _ _ ?_
        refine ⟨fun h753 => ?_, fun h754 => ?_⟩
        · simp only [Int32.lt_iff_toInt_lt, Int32.le_iff_toInt_le, ← Int32.toInt_inj, Int32.reduceToInt] at h753
          have : (0 : Int32).toInt = 0 := rfl
          exact ih.2 _ _ i (by first | omega | rfl | assumption) (by omega)
        · simp only [Int32.lt_iff_toInt_lt, Int32.le_iff_toInt_le, ← Int32.toInt_inj, Int32.reduceToInt] at h754
          have := i_lo l1
          have := i_hi l1
          refine ⟨vp_in_iff.mpr (by omega), ?_⟩
          refine ⟨(Or.inr (i.2 _ (tn_lt (by omega) (by omega)))), ?_⟩
          intro w12 ew12
          have iw12 : UM w12 := ew12 ▸ UM.slot (by decide) (by omega) i
          have : (1 : Int32).toInt = 1 := rfl
          have := i_add (x := l1) (y := (1 : Int32)) (by omega) (by omega)
          exact ih.1 _ _ iw12 (by first | omega | rfl | assumption) (by omega)
      · intro l1 w i v0 hm
        refine cP_57 _ _ ?_
        refine ⟨fun h755 => ?_, fun h756 => ?_⟩
        · simp only [Int32.lt_iff_toInt_lt, Int32.le_iff_toInt_le, ← Int32.toInt_inj, Int32.reduceToInt] at h755
          exact k _ _ i.1
        · simp only [Int32.lt_iff_toInt_lt, Int32.le_iff_toInt_le, ← Int32.toInt_inj, Int32.reduceToInt] at h756
          have := i_lo l1
          have := i_hi l1
          refine ⟨vp_in_iff.mpr (by omega), ?_⟩
          refine ⟨vp_in_iff.mpr (by omega), ?_⟩
          intro w17 ew17
          have iw17 : UM w17 := ew17 ▸ UM.slot (by decide) (by omega) i
          have : (5 : Int32).toInt = 5 := rfl
          have := i_add (x := (5 : Int32)) (y := l1) (by omega) (by omega)
          refine ⟨vp_in_iff.mpr (by omega), ?_⟩
          intro w20 ew20
          have iw20 : UM w20 := ew20 ▸ UM.slot (by decide) (by omega) iw17
          have : (1 : Int32).toInt = 1 := rfl
          have := i_add (x := l1) (y := (1 : Int32)) (by omega) (by omega)
          exact ih.2 _ _ iw20 (by first | omega | rfl | assumption) (by omega)
  intro w1 ew1
  have iw1 : UM w1 := ew1 ▸ UM.slot (by decide) (by omega) i
  intro w3 ew3
  have iw3 : UM w3 := ew3 ▸ UM.slot (by decide) (by omega) iw1
  intro w5 ew5
  have iw5 : UM w5 := ew5 ▸ UM.slot (by decide) (by omega) iw3
  intro w7 ew7
  have iw7 : UM w7 := ew7 ▸ UM.slot (by decide) (by omega) iw5
  have : (0 : Int32).toInt = 0 := rfl
  exact (key _).1 _ _ iw7 (by first | omega | rfl | assumption) (Nat.lt_succ_self _)

set_option maxRecDepth 20000 in
theorem p1m_count {Γ : Gx} {d : Nat} (hd : 1 ≤ d) (hG : GM Γ) {p1 : Int32} {w : Wd} (f : FM w) {Q : Int32 → Wd → Prop} (k : ∀ (r : Int32) (w' : Wd), (r = a_count p1) → Q r w') : CI Γ d M_X5_count [.ref (gad Γ 0), .int p1] w Q := by
  obtain ⟨d, rfl⟩ : ∃ e, d = e + 1 := ⟨d - 1, by omega⟩
  refine con_X5_count hG ?_
  unfold wp_X5_count
  obtain ⟨i0, fu, f0, f6, f9, f7, f32, fs⟩ := f
  have i : UM w := ⟨i0, fu⟩
  intro P_47
  intro cP_47
  have key : ∀ m : Nat, (∀ (l2 : Int32) (l3 : Int32) (w : Wd), UM w → (l2.toInt = l3.toInt) → (0 ≤ l3.toInt ∧ l3.toInt ≤ 8) → (p1.toInt = 1) → ((8 - l3.toInt).toNat) < m → P_47 l2 l3 w) := by
    intro m
    induction m with
    | zero => exact fun _ _ _ _ _ _ _ h => absurd h (Nat.not_lt_zero _)
    | succ m ih =>
      intro l2 l3 w i v0 v1 v2 hm
      refine cP_47 _ _ _ ?_
      refine ⟨fun h757 => ?_, fun h758 => ?_⟩
      · simp only [Int32.lt_iff_toInt_lt, Int32.le_iff_toInt_le, ← Int32.toInt_inj, Int32.reduceToInt] at h757
        exact k _ _ (by
          unfold a_count
          (repeat' split) <;> first | rfl | (exfalso; omega) | assumption | exact i_ext (by show l2.toInt = 8; omega))
      · simp only [Int32.lt_iff_toInt_lt, Int32.le_iff_toInt_le, ← Int32.toInt_inj, Int32.reduceToInt] at h758
        have q1 : (w 1 l3.toNatClampNeg).toInt = 1 := by rw [i.2 _ (tn_lt (by omega) (by omega))]; rfl
        have := i_lo l3
        have := i_hi l3
        refine ⟨vp_in_iff.mpr (by omega), ?_⟩
        refine ⟨fun h759 => ?_, fun h760 => ?_⟩
        · simp only [Int32.lt_iff_toInt_lt, Int32.le_iff_toInt_le, ← Int32.toInt_inj, Int32.reduceToInt] at h759
          omega
        · simp only [Int32.lt_iff_toInt_lt, Int32.le_iff_toInt_le, ← Int32.toInt_inj, Int32.reduceToInt] at h760
          have := i_lo l2
          have := i_hi l2
          have : (1 : Int32).toInt = 1 := rfl
          have := i_add (x := l2) (y := (1 : Int32)) (by omega) (by omega)
          have := i_add (x := l3) (y := (1 : Int32)) (by omega) (by omega)
          exact ih _ _ _ i (by first | omega | rfl | assumption) (by first | omega | rfl | assumption) (by first | omega | rfl | assumption) (by omega)
  refine ⟨fun h761 => ?_, fun h762 => ?_, fun h763 => ?_, fun h764 => ?_, fun h765 => ?_, fun h766 => ?_, fun h767 => ?_⟩
  · simp only [Int32.lt_iff_toInt_lt, Int32.le_iff_toInt_le, ← Int32.toInt_inj, Int32.reduceToInt] at h761
    exact k _ _ (by
      unfold a_count
      (repeat' split) <;> first | rfl | (exfalso; omega) | assumption)
  · simp only [Int32.lt_iff_toInt_lt, Int32.le_iff_toInt_le, ← Int32.toInt_inj, Int32.reduceToInt] at h762
    have : (0 : Int32).toInt = 0 := rfl
    exact (key _) _ _ _ i (by first | omega | rfl | assumption) (by first | omega | rfl | assumption) (by first | omega | rfl | assumption) (Nat.lt_succ_self _)
  · simp only [Int32.lt_iff_toInt_lt, Int32.le_iff_toInt_le, ← Int32.toInt_inj, Int32.reduceToInt] at h763
    exact k _ _ (by
      unfold a_count
      (repeat' split) <;> first | rfl | (exfalso; omega) | assumption)
  · simp only [Int32.lt_iff_toInt_lt, Int32.le_iff_toInt_le, ← Int32.toInt_inj, Int32.reduceToInt] at h764
    exact k _ _ (by
      unfold a_count
      (repeat' split) <;> first | rfl | (exfalso; omega) | assumption)
  · simp only [Int32.lt_iff_toInt_lt, Int32.le_iff_toInt_le, ← Int32.toInt_inj, Int32.reduceToInt] at h765
    exact k _ _ (by
      unfold a_count
      (repeat' split) <;> first | rfl | (exfalso; omega) | assumption)
  · simp only [Int32.lt_iff_toInt_lt, Int32.le_iff_toInt_le, ← Int32.toInt_inj, Int32.reduceToInt] at h766
    exact k _ _ (by
      unfold a_count
      (repeat' split) <;> first | rfl | (exfalso; omega) | assumption)
  · simp only [Int32.lt_iff_toInt_lt, Int32.le_iff_toInt_le, ← Int32.toInt_inj, Int32.reduceToInt] at h767
    exact k _ _ (by
      unfold a_count
      (repeat' split) <;> first | rfl | (exfalso; omega) | assumption)

set_option maxRecDepth 20000 in
theorem p1m_back {Γ : Gx} {d : Nat} (hd : 1 ≤ d) (hG : GM Γ) {w : Wd} (f : FM w) {Q : Int32 → Wd → Prop} (k : ∀ (r : Int32) (w' : Wd), (r = -3) → Q r w') : CI Γ d M_X5_back [.ref (gad Γ 0)] w Q := by
  obtain ⟨d, rfl⟩ : ∃ e, d = e + 1 := ⟨d - 1, by omega⟩
  refine con_X5_back hG ?_
  unfold wp_X5_back
  obtain ⟨i, fu, f0, f6, f9, f7, f32, fs⟩ := f
  have z4 := i.num
  have z032 : (w 0 32).toInt = 0 := by rw [f32]; rfl
  intro P_36
  intro P_62
  intro cP_36
  intro cP_62
  refine ⟨fun h768 => ?_, fun h769 => ?_⟩
  · simp only [Int32.lt_iff_toInt_lt, Int32.le_iff_toInt_le, ← Int32.toInt_inj, Int32.reduceToInt] at h768
    omega
  · simp only [Int32.lt_iff_toInt_lt, Int32.le_iff_toInt_le, ← Int32.toInt_inj, Int32.reduceToInt] at h769
    exact k _ _ rfl

set_option maxRecDepth 20000 in
theorem p1m_sheet {Γ : Gx} {d : Nat} (hd : 3 ≤ d) (hG : GM Γ) {p1 : Int32} {p2 : Int32} {p3 : Int32} {w : Wd} (f : FM w) {Q : Int32 → Wd → Prop} (k : ∀ (r : Int32) (w' : Wd), (r = a_sheet p1 p2 p3) → Q r w') : CI Γ d M_X5_sheet [.ref (gad Γ 0), .int p1, .int p2, .int p3] w Q := by
  obtain ⟨d, rfl⟩ : ∃ e, d = e + 1 := ⟨d - 1, by omega⟩
  refine con_X5_sheet hG ?_
  unfold wp_X5_sheet
  obtain ⟨i, fu, f0, f6, f9, f7, f32, fs⟩ := f
  have z4 := i.num
  intro P_43
  intro P_68
  intro cP_43
  intro cP_68
  have key : ∀ m : Nat, (∀ (w : Wd), ZM w → ((0 ≤ p1.toInt ∧ p1.toInt ≤ 3) ∧ (-1 ≤ p2.toInt ∧ p2.toInt ≤ 2) ∧ (p2.toInt = -1 ∨ (0 ≤ p2.toInt ∧ 0 ≤ p3.toInt ∧ p3.toInt ≤ 40))) → (100) < m → P_43 w) ∧ (∀ (l4 : Int32) (w : Wd), ZM w → ((0 ≤ p1.toInt ∧ p1.toInt ≤ 3) ∧ (-1 ≤ p2.toInt ∧ p2.toInt ≤ 2) ∧ (p2.toInt = -1 ∨ (0 ≤ p2.toInt ∧ 0 ≤ p3.toInt ∧ p3.toInt ≤ 40))) → (0 ≤ l4.toInt ∧ l4.toInt ≤ 40) → ((40 - l4.toInt).toNat) < m → P_68 l4 w) := by
    intro m
    induction m with
    | zero => exact ⟨fun _ _ _ h => absurd h (Nat.not_lt_zero _), fun _ _ _ _ _ h => absurd h (Nat.not_lt_zero _)⟩
    | succ m ih =>
      refine ⟨?_, ?_⟩
      · intro w i v0 hm
        refine cP_43 _ ?_
        have := i_lo p1
        have := i_hi p1
        refine ⟨vp_in_iff.mpr (by omega), ?_⟩
        intro w14 ew14
        have iw14 : ZM w14 := ew14 ▸ ZM.slot (by omega) i
        have zw14 := iw14.num
        refine ⟨fun h770 => ?_, fun h771 => ?_⟩
        · simp only [Int32.lt_iff_toInt_lt, Int32.le_iff_toInt_le, ← Int32.toInt_inj, Int32.reduceToInt] at h770
          intro w17 ew17
          have iw17 : ZM w17 := ew17 ▸ ZM.slot (by omega) iw14
          have zw17 := iw17.num
          have : (0 : Int32).toInt = 0 := rfl
          exact ih.2 _ _ iw17 (by first | omega | rfl | assumption) (by first | omega | rfl | assumption) (by omega)
        · simp only [Int32.lt_iff_toInt_lt, Int32.le_iff_toInt_le, ← Int32.toInt_inj, Int32.reduceToInt] at h771
          intro w19 ew19
          have iw19 : ZM w19 := ew19 ▸ ZM.slot (by omega) iw14
          have zw19 := iw19.num
          have : (0 : Int32).toInt = 0 := rfl
          exact ih.2 _ _ iw19 (by first | omega | rfl | assumption) (by first | omega | rfl | assumption) (by omega)
      · intro l4 w i v0 v1 hm
        refine cP_68 _ _ ?_
        refine ⟨fun h772 => ?_, fun h773 => ?_⟩
        · simp only [Int32.lt_iff_toInt_lt, Int32.le_iff_toInt_le, ← Int32.toInt_inj, Int32.reduceToInt] at h772
          exact k _ _ (by
            unfold a_sheet
            (repeat' split) <;> first | rfl | (exfalso; omega))
        · simp only [Int32.lt_iff_toInt_lt, Int32.le_iff_toInt_le, ← Int32.toInt_inj, Int32.reduceToInt] at h773
          have : (40 : Int32).toInt = 40 := rfl
          have := i_lo p1
          have := i_hi p1
          have := i_mulL (c := (40 : Int32)) (v := 40) (x := p1) rfl (by omega) (by omega)
          have := i_lo l4
          have := i_hi l4
          have := i_add (x := ((40 : Int32) * p1)) (y := l4) (by omega) (by omega)
          refine ⟨vp_in_iff.mpr (by omega), ?_⟩
          intro w23 ew23
          have iw23 : ZM w23 := ew23 ▸ ZM.slot (by omega) i
          have zw23 := iw23.num
          have : (1 : Int32).toInt = 1 := rfl
          have := i_add (x := l4) (y := (1 : Int32)) (by omega) (by omega)
          exact ih.2 _ _ iw23 (by first | omega | rfl | assumption) (by first | omega | rfl | assumption) (by omega)
  refine cs_X5_isSheet (by omega) hG (fun r1 y774 y775 => ?_)
  refine ⟨fun h776 => ?_, fun h777 => ?_⟩
  · have h776 : ¬ _ := fun q => y775.mpr q h776
    exact k _ _ (by
      unfold a_sheet
      (repeat' split) <;> first | rfl | (exfalso; omega))
  · have h777 := y775.mp h777
    refine cs_X5_within (by omega) hG (lo := -1) (hi := 2) rfl rfl (fun r4 z778 y779 => ?_)
    refine ⟨fun h780 => ?_, fun h781 => ?_⟩
    · have h780 := y779.mp h780
      refine ⟨fun h782 => ?_, fun h783 => ?_⟩
      · simp only [Int32.lt_iff_toInt_lt, Int32.le_iff_toInt_le, ← Int32.toInt_inj, Int32.reduceToInt] at h782
        refine ⟨fun h784 => ?_, fun h785 => ?_⟩
        · simp only [Int32.lt_iff_toInt_lt, Int32.le_iff_toInt_le, ← Int32.toInt_inj, Int32.reduceToInt] at h784
          exact (key _).1 _ i (by first | omega | rfl | assumption) (Nat.lt_succ_self _)
        · simp only [Int32.lt_iff_toInt_lt, Int32.le_iff_toInt_le, ← Int32.toInt_inj, Int32.reduceToInt] at h785
          refine ⟨fun h786 => ?_, fun h787 => ?_⟩
          · simp only [Int32.lt_iff_toInt_lt, Int32.le_iff_toInt_le, ← Int32.toInt_inj, Int32.reduceToInt] at h786
            exact (key _).1 _ i (by first | omega | rfl | assumption) (Nat.lt_succ_self _)
          · simp only [Int32.lt_iff_toInt_lt, Int32.le_iff_toInt_le, ← Int32.toInt_inj, Int32.reduceToInt] at h787
            exact k _ _ (by
              unfold a_sheet
              (repeat' split) <;> first | rfl | (exfalso; omega))
      · simp only [Int32.lt_iff_toInt_lt, Int32.le_iff_toInt_le, ← Int32.toInt_inj, Int32.reduceToInt] at h783
        refine ⟨fun h788 => ?_, fun h789 => ?_⟩
        · simp only [Int32.lt_iff_toInt_lt, Int32.le_iff_toInt_le, ← Int32.toInt_inj, Int32.reduceToInt] at h788
          refine ⟨fun h790 => ?_, fun h791 => ?_⟩
          · simp only [Int32.lt_iff_toInt_lt, Int32.le_iff_toInt_le, ← Int32.toInt_inj, Int32.reduceToInt] at h790
            exact (key _).1 _ i (by first | omega | rfl | assumption) (Nat.lt_succ_self _)
          · simp only [Int32.lt_iff_toInt_lt, Int32.le_iff_toInt_le, ← Int32.toInt_inj, Int32.reduceToInt] at h791
            refine ⟨fun h792 => ?_, fun h793 => ?_⟩
            · simp only [Int32.lt_iff_toInt_lt, Int32.le_iff_toInt_le, ← Int32.toInt_inj, Int32.reduceToInt] at h792
              exact (key _).1 _ i (by first | omega | rfl | assumption) (Nat.lt_succ_self _)
            · simp only [Int32.lt_iff_toInt_lt, Int32.le_iff_toInt_le, ← Int32.toInt_inj, Int32.reduceToInt] at h793
              exact k _ _ (by
                unfold a_sheet
                (repeat' split) <;> first | rfl | (exfalso; omega))
        · simp only [Int32.lt_iff_toInt_lt, Int32.le_iff_toInt_le, ← Int32.toInt_inj, Int32.reduceToInt] at h789
          exact k _ _ (by
            unfold a_sheet
            (repeat' split) <;> first | rfl | (exfalso; omega))
    · have h781 : ¬ _ := fun q => y779.mpr q h781
      exact k _ _ (by
        unfold a_sheet
        (repeat' split) <;> first | rfl | (exfalso; omega))

set_option maxRecDepth 20000 in
theorem p1m_cell {Γ : Gx} {d : Nat} (hd : 3 ≤ d) (hG : GM Γ) {p1 : Int32} {p2 : Int32} {p3 : Int32} {w : Wd} (f : FM w) {Q : Int32 → Wd → Prop} (k : ∀ (r : Int32) (w' : Wd), (r = a_cell p1) → Q r w') : CI Γ d M_X5_cell [.ref (gad Γ 0), .int p1, .int p2, .int p3] w Q := by
  obtain ⟨d, rfl⟩ : ∃ e, d = e + 1 := ⟨d - 1, by omega⟩
  refine con_X5_cell hG ?_
  unfold wp_X5_cell
  obtain ⟨i, fu, f0, f6, f9, f7, f32, fs⟩ := f
  have z4 := i.num
  refine cs_X5_isSheet (by omega) hG (fun r1 y794 y795 => ?_)
  refine ⟨fun h796 => ?_, fun h797 => ?_⟩
  · have h796 := y795.mp h796
    have := FM.sh fs p1 (by omega) (by omega)
    have := i_lo p1
    have := i_hi p1
    refine ⟨vp_in_iff.mpr (by omega), ?_⟩
    refine ⟨fun h798 => ?_, fun h799 => ?_⟩
    · simp only [Int32.lt_iff_toInt_lt, Int32.le_iff_toInt_le, ← Int32.toInt_inj, Int32.reduceToInt] at h798
      omega
    · simp only [Int32.lt_iff_toInt_lt, Int32.le_iff_toInt_le, ← Int32.toInt_inj, Int32.reduceToInt] at h799
      exact k _ _ (by
        unfold a_cell
        (repeat' split) <;> first | rfl | (exfalso; omega))
  · have h797 : ¬ _ := fun q => y795.mpr q h797
    exact k _ _ (by
      unfold a_cell
      (repeat' split) <;> first | rfl | (exfalso; omega))

set_option maxRecDepth 20000 in
theorem p1m_copy {Γ : Gx} {d : Nat} (hd : 3 ≤ d) (hG : GM Γ) {p1 : Int32} {p2 : Int32} {p3 : Int32} {p4 : Int32} {p5 : Int32} {w : Wd} (f : FM w) {Q : Int32 → Wd → Prop} (k : ∀ (r : Int32) (w' : Wd), (r = a_copy p1 p3) → Q r w') : CI Γ d M_X5_copy [.ref (gad Γ 0), .int p1, .int p2, .int p3, .int p4, .int p5] w Q := by
  obtain ⟨d, rfl⟩ : ∃ e, d = e + 1 := ⟨d - 1, by omega⟩
  refine con_X5_copy hG ?_
  unfold wp_X5_copy
  obtain ⟨i, fu, f0, f6, f9, f7, f32, fs⟩ := f
  have z4 := i.num
  intro P_125
  intro P_171
  intro cP_125
  intro cP_171
  refine cs_X5_isSheet (by omega) hG (fun r1 y800 y801 => ?_)
  refine ⟨fun h802 => ?_, fun h803 => ?_⟩
  · have h802 : ¬ _ := fun q => y801.mpr q h802
    exact k _ _ (by
      unfold a_copy
      (repeat' split) <;> first | rfl | (exfalso; omega))
  · have h803 := y801.mp h803
    have := FM.sh fs p1 (by omega) (by omega)
    refine cs_X5_isSheet (by omega) hG (fun r4 y804 y805 => ?_)
    refine ⟨fun h806 => ?_, fun h807 => ?_⟩
    · have h806 := y805.mp h806
      have := i_lo p1
      have := i_hi p1
      refine ⟨vp_in_iff.mpr (by omega), ?_⟩
      refine ⟨fun h808 => ?_, fun h809 => ?_⟩
      · simp only [Int32.lt_iff_toInt_lt, Int32.le_iff_toInt_le, ← Int32.toInt_inj, Int32.reduceToInt] at h808
        exact k _ _ (by
          unfold a_copy
          (repeat' split) <;> first | rfl | (exfalso; omega))
      · simp only [Int32.lt_iff_toInt_lt, Int32.le_iff_toInt_le, ← Int32.toInt_inj, Int32.reduceToInt] at h809
        omega
    · have h807 : ¬ _ := fun q => y805.mpr q h807
      exact k _ _ (by
        unfold a_copy
        (repeat' split) <;> first | rfl | (exfalso; omega))

set_option maxRecDepth 20000 in
theorem p1m_people {Γ : Gx} {d : Nat} (hd : 3 ≤ d) (hG : GM Γ) {p1 : Int32} {p2 : Int32} {p3 : Int32} {p4 : Int32} {w : Wd} (f : FM w) {Q : Int32 → Wd → Prop} (k : ∀ (r : Int32) (w' : Wd), (r = a_people p1 p2 p4) → Q r w') : CI Γ d M_X5_people [.ref (gad Γ 0), .int p1, .int p2, .int p3, .int p4] w Q := by
  obtain ⟨d, rfl⟩ : ∃ e, d = e + 1 := ⟨d - 1, by omega⟩
  refine con_X5_people hG ?_
  unfold wp_X5_people
  obtain ⟨i, fu, f0, f6, f9, f7, f32, fs⟩ := f
  have z4 := i.num
  intro P_60
  intro cP_60
  refine cs_X5_isSheet (by omega) hG (fun r1 y810 y811 => ?_)
  refine ⟨fun h812 => ?_, fun h813 => ?_⟩
  · have h812 : ¬ _ := fun q => y811.mpr q h812
    exact k _ _ (by
      unfold a_people
      (repeat' split) <;> first | rfl | (exfalso; omega))
  · have h813 := y811.mp h813
    have := FM.sh fs p1 (by omega) (by omega)
    refine cs_X5_within (by omega) hG (lo := 0) (hi := 2) rfl rfl (fun r4 z814 y815 => ?_)
    refine ⟨fun h816 => ?_, fun h817 => ?_⟩
    · have h816 : ¬ _ := fun q => y815.mpr q h816
      exact k _ _ (by
        unfold a_people
        (repeat' split) <;> first | rfl | (exfalso; omega))
    · have h817 := y815.mp h817
      refine cs_X5_within (by omega) hG (lo := 0) (hi := 5) rfl rfl (fun r7 z818 y819 => ?_)
      refine ⟨fun h820 => ?_, fun h821 => ?_⟩
      · have h820 := y819.mp h820
        have := i_lo p1
        have := i_hi p1
        refine ⟨vp_in_iff.mpr (by omega), ?_⟩
        refine ⟨fun h822 => ?_, fun h823 => ?_⟩
        · simp only [Int32.lt_iff_toInt_lt, Int32.le_iff_toInt_le, ← Int32.toInt_inj, Int32.reduceToInt] at h822
          omega
        · simp only [Int32.lt_iff_toInt_lt, Int32.le_iff_toInt_le, ← Int32.toInt_inj, Int32.reduceToInt] at h823
          exact k _ _ (by
            unfold a_people
            (repeat' split) <;> first | rfl | (exfalso; omega))
      · have h821 : ¬ _ := fun q => y819.mpr q h821
        exact k _ _ (by
          unfold a_people
          (repeat' split) <;> first | rfl | (exfalso; omega))

set_option maxRecDepth 20000 in
theorem p1m_taken {Γ : Gx} {d : Nat} (hd : 3 ≤ d) (hG : GM Γ) {p1 : Int32} {p2 : Int32} {w : Wd} (f : FM w) {Q : Int32 → Wd → Prop} (k : ∀ (r : Int32) (w' : Wd), (r = a_taken p2) → Q r w') : CI Γ d M_X5_taken [.ref (gad Γ 0), .int p1, .int p2] w Q := by
  obtain ⟨d, rfl⟩ : ∃ e, d = e + 1 := ⟨d - 1, by omega⟩
  refine con_X5_taken hG ?_
  unfold wp_X5_taken
  obtain ⟨i, fu, f0, f6, f9, f7, f32, fs⟩ := f
  have z4 := i.num
  intro P_30
  intro cP_30
  refine cs_X5_within (by omega) hG (lo := 0) (hi := 5) rfl rfl (fun r1 z824 y825 => ?_)
  refine ⟨fun h826 => ?_, fun h827 => ?_⟩
  · have h826 := y825.mp h826
    refine cs_X5_isOne (by omega) hG (by omega) (fun r4 y828 y829 => ?_)
    refine ⟨fun h830 => ?_, fun h831 => ?_⟩
    · have h830 := y829.mp h830
      omega
    · have h831 : ¬ _ := fun q => y829.mpr q h831
      exact k _ _ (by
        unfold a_taken
        (repeat' split) <;> first | rfl | (exfalso; omega))
  · have h827 : ¬ _ := fun q => y825.mpr q h827
    exact k _ _ (by
      unfold a_taken
      (repeat' split) <;> first | rfl | (exfalso; omega))

theorem zm_takes {Γ : Gx} {d : Nat} (hd : 1 ≤ d) (hG : GM Γ) {w : Wd} (ht : w 0 16 = 101) {p1 : Int32} {Q : Int32 → Wd → Prop} (k : Q 0 w) : CI Γ d M_X5_takes [.ref (gad Γ 0), .int p1] w Q := by
  obtain ⟨d, rfl⟩ : ∃ e, d = e + 1 := ⟨d - 1, by omega⟩
  refine con_X5_takes hG ?_
  unfold wp_X5_takes
  exact ⟨fun _ => k, fun h => absurd h (by rw [ht]; decide)⟩
theorem zm_part {Γ : Gx} {d : Nat} (hd : 2 ≤ d) (hG : GM Γ) {w : Wd} (ht : w 0 16 = 101) {p1 p2 : Int32} {Q : Int32 → Wd → Prop} (k : Q 0 w) : CI Γ d M_X5_part [.ref (gad Γ 0), .int p1, .int p2] w Q := by
  obtain ⟨d, rfl⟩ : ∃ e, d = e + 1 := ⟨d - 1, by omega⟩
  refine con_X5_part hG ?_
  unfold wp_X5_part
  intro P c
  exact zm_takes (by omega) hG ht ⟨fun h => absurd rfl h, fun _ => k⟩
theorem zm_next {Γ : Gx} {d : Nat} (hd : 1 ≤ d) (hG : GM Γ) {w : Wd} (h7 : w 0 7 = 0) (h15 : w 0 15 = 0) {Q : Wd → Prop} (k : ∀ w' : Wd, w' 0 16 = 101 → w' 0 14 = 0 → Q w') : CV Γ d M_X5_next [.ref (gad Γ 0)] w Q := by
  obtain ⟨d, rfl⟩ : ∃ e, d = e + 1 := ⟨d - 1, by omega⟩
  refine con_X5_next hG ?_
  unfold wp_X5_next
  intro P8 P60 P108 P204 P245 P321 c8 c60 c108 c204 c245 c321 v1 g1
  have a1 : v1 0 7 = 0 := by rw [g1, ws_row (by decide), h7]
  have b1 : v1 0 14 = 0 := by rw [g1, ws_hit, h15]
  refine c8 _ ⟨fun _ => c60 _ (fun v11 g11 v13 g13 => ?_), fun h => absurd (by rw [a1, b1]; decide) h⟩
  have a13 : v13 0 7 = 0 := by rw [g13, ws_row (by decide), g11, ws_row (by decide), a1]
  have b13 : v13 0 14 = 0 := by rw [g13, ws_row (by decide), g11, ws_row (by decide), b1]
  refine ⟨fun h => absurd (b13.trans a13.symm) h, fun _ v34 g34 => k _ ?_ ?_⟩
  · rw [g34, ws_hit]
  · rw [g34, ws_row (by decide), b13]
theorem p1m_text {Γ : Gx} {d : Nat} (hd : 4 ≤ d) (hG : GM Γ) {w : Wd} (f : FM w) {Q : Int32 → Wd → Prop} (k : ∀ (r : Int32) (w' : Wd), r = -100 → Q r w') : CI Γ d M_X5_text [.ref (gad Γ 0)] w Q := by
  obtain ⟨d, rfl⟩ : ∃ e, d = e + 1 := ⟨d - 1, by omega⟩
  refine con_X5_text hG ?_
  unfold wp_X5_text
  obtain ⟨i, fu, f0, f6, f9, f7, f32, fs⟩ := f
  intro P c
  refine ⟨fun _ w2 e2 => ?_, fun h => absurd h (by rw [f9]; decide)⟩
  refine zm_next (by omega) hG (by rw [e2, ws_row (by decide), f7]) (by rw [e2, ws_hit]) (fun w5 t5 b5 => ?_)
  refine zm_part (by omega) hG t5 ⟨fun _ => c _ _ _ (fun w16 e16 => ⟨fun _ w19 e19 => k _ _ ?_, fun h => absurd rfl h⟩), fun h => absurd rfl h⟩
  rw [e19, ws_row (by decide), e16, ws_row (by decide), b5]
  decide
