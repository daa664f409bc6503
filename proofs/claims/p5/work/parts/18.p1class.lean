/-! the class world with nobody in it: what each call answers there (p1) -/
section FAM0
variable {Γ : Gx} {d f : Nat} {w : Wd}
theorem z_le {x : Int32} (h : x = 0) : x ≤ 0 := by
  rw [h]
  decide
theorem z_glad (hd : 1 ≤ d) (hG : GC Γ) (hF : ShF Γ f) (h0 : w f 4 = 0) {Q : Int32 → Wd → Prop} (k : Q 0 w) : CI Γ d M_X0_glad [.ref (gad Γ f)] w Q := by
  obtain ⟨d, rfl⟩ : ∃ e, d = e + 1 := ⟨d - 1, by omega⟩
  refine con_X0_glad hG hF ?_
  unfold wp_X0_glad
  intro P c
  exact c _ _ _ ⟨fun _ => k, fun h => absurd (z_le h0) h⟩
theorem z_allMoods (hd : 1 ≤ d) (hG : GC Γ) (hF : ShF Γ f) (h0 : w f 4 = 0) {Q : Int32 → Wd → Prop} (k : Q 0 w) : CI Γ d M_X0_allMoods [.ref (gad Γ f)] w Q := by
  obtain ⟨d, rfl⟩ : ∃ e, d = e + 1 := ⟨d - 1, by omega⟩
  refine con_X0_allMoods hG hF ?_
  unfold wp_X0_allMoods
  intro P c
  exact c _ _ _ ⟨fun _ => k, fun h => absurd (z_le h0) h⟩
theorem z_drawMoods (hd : 1 ≤ d) (hG : GC Γ) (hF : ShF Γ f) (h0 : w f 4 = 0) {p1 : Int32} {Q : Wd → Prop} (k : Q w) : CV Γ d M_X0_drawMoods [.ref (gad Γ f), .int p1] w Q := by
  obtain ⟨d, rfl⟩ : ∃ e, d = e + 1 := ⟨d - 1, by omega⟩
  refine con_X0_drawMoods hG hF ?_
  unfold wp_X0_drawMoods
  intro P c
  exact c _ _ _ ⟨fun _ => k, fun h => absurd (z_le h0) h⟩
theorem z_pass (hd : 1 ≤ d) (hG : GC Γ) (hF : ShF Γ f) (h0 : w f 4 = 0) {Q : Int32 → Wd → Prop} (k : Q 0 w) : CI Γ d M_X0_passSunday [.ref (gad Γ f)] w Q := by
  obtain ⟨d, rfl⟩ : ∃ e, d = e + 1 := ⟨d - 1, by omega⟩
  refine con_X0_passSunday hG hF ?_
  unfold wp_X0_passSunday
  intro P2 P19 P58 c2 c19 c58
  exact c2 _ _ ⟨fun _ => c58 _ _ _ ⟨fun _ => ⟨iz_0, k⟩, fun h => absurd (z_le h0) h⟩, fun h => absurd (z_le h0) h⟩
theorem z_gladBehind (hd : 2 ≤ d) (hG : GC Γ) (hF : ShF Γ f) (h0 : w f 4 = 0) {p1 : Int32} {Q : Int32 → Wd → Prop} (k : Q 0 w) : CI Γ d M_X0_gladBehind [.ref (gad Γ f), .int p1] w Q := by
  obtain ⟨d, rfl⟩ : ∃ e, d = e + 1 := ⟨d - 1, by omega⟩
  refine con_X0_gladBehind hG hF ?_
  unfold wp_X0_gladBehind
  intro P c
  have hg : CI Γ d M_X0_glad [.ref (gad Γ f)] w Q := z_glad (by omega) hG hF h0 k
  refine c _ _ _ ⟨fun _ => hg, fun _ => ⟨fun _ => hg, fun _ => z_pass (by omega) hG hF h0 ?_⟩⟩
  exact c _ _ _ ⟨fun _ => hg, fun _ => ⟨fun _ => hg, fun h => absurd rfl h⟩⟩
theorem z_emptyBehind (hd : 2 ≤ d) (hG : GC Γ) (hF : ShF Γ f) (h0 : w f 4 = 0) {p1 : Int32} (hp : p1.toInt ≤ 40) {Q : Int32 → Wd → Prop} (k : Q 0 w) : CI Γ d M_X0_emptyBehind [.ref (gad Γ f), .int p1] w Q := by
  obtain ⟨d, rfl⟩ : ∃ e, d = e + 1 := ⟨d - 1, by omega⟩
  refine con_X0_emptyBehind hG hF ?_
  unfold wp_X0_emptyBehind
  intro P4 P12 c4 c12
  have h1 : (1 : Int32).toInt = 1 := rfl
  have h00 : (0 : Int32).toInt = 0 := rfl
  have key : ∀ (m : Nat) (l3 : Int32), 0 ≤ l3.toInt → l3.toInt ≤ 41 → (41 - l3.toInt).toNat < m → P4 0 l3 w := by
    intro m
    induction m with
    | zero => intro l3 _ _ h; omega
    | succ m ih =>
      intro l3 a1 a2 a3
      refine c4 _ _ _ ⟨fun _ => k, fun h => ?_⟩
      rw [Int32.le_iff_toInt_le] at h
      have e := i_add (x := l3) (y := 1) (by omega) (by omega)
      exact c12 _ _ _ _ ⟨fun _ => z_pass (by omega) hG hF h0 (ih _ (by omega) (by omega) (by omega)), fun q => absurd (z_le h0) q⟩
  exact key _ _ (by omega) (by omega) (Nat.lt_succ_self _)
theorem z_lettuceCount (hd : 1 ≤ d) (hG : GC Γ) (hF : ShF Γ f) (h0 : w f 4 = 0) {Q : Int32 → Wd → Prop} (k : Q 0 w) : CI Γ d M_X0_lettuceCount [.ref (gad Γ f)] w Q := by
  obtain ⟨d, rfl⟩ : ∃ e, d = e + 1 := ⟨d - 1, by omega⟩
  refine con_X0_lettuceCount hG hF ?_
  unfold wp_X0_lettuceCount
  intro P4 P14 c4 c14
  exact c4 _ _ _ ⟨fun _ => k, fun h => absurd (z_le h0) h⟩
theorem z_lettuceFirst (hd : 1 ≤ d) (hG : GC Γ) (hF : ShF Γ f) (h0 : w f 4 = 0) {Q : Int32 → Wd → Prop} (k : Q (-1) w) : CI Γ d M_X0_lettuceFirst [.ref (gad Γ f)] w Q := by
  obtain ⟨d, rfl⟩ : ∃ e, d = e + 1 := ⟨d - 1, by omega⟩
  refine con_X0_lettuceFirst hG hF ?_
  unfold wp_X0_lettuceFirst
  intro P2 P12 c2 c12
  exact c2 _ _ ⟨fun _ => k, fun h => absurd (z_le h0) h⟩
theorem z_leftAlone (hd : 1 ≤ d) (hG : GC Γ) (hF : ShF Γ f) (h0 : w f 4 = 0) {Q : Int32 → Wd → Prop} (k : Q 0 w) : CI Γ d M_X0_leftAlone [.ref (gad Γ f)] w Q := by
  obtain ⟨d, rfl⟩ : ∃ e, d = e + 1 := ⟨d - 1, by omega⟩
  refine con_X0_leftAlone hG hF ?_
  unfold wp_X0_leftAlone
  intro P c
  exact c _ _ _ ⟨fun _ => k, fun h => absurd (z_le h0) h⟩
theorem z_takeIn (hd : 1 ≤ d) (hG : GC Γ) (h0 : w 32 4 = 0) {p1 p2 : Int32} {Q : Int32 → Wd → Prop} (k : ∀ w' : Wd, Q 0 w') : CI Γ d M_X0_takeIn [.ref (gad Γ 32), .int p1, .int p2] w Q := by
  obtain ⟨d, rfl⟩ : ∃ e, d = e + 1 := ⟨d - 1, by omega⟩
  refine con_X0_takeIn hG (ShC.f32 hG.2.1) ?_
  unfold wp_X0_takeIn
  have hi : ∀ u : Wd, u 32 4 = 0 → vp_in (u 32 4) 5 := fun u h => by
    rw [h]
    exact vp_in_iff.mpr ⟨by decide, by decide⟩
  refine ⟨fun _ => ⟨hi _ h0, fun w3 e3 => ?_⟩, fun h => absurd (by rw [h0]; decide) h⟩
  have a3 : w3 32 4 = 0 := by rw [e3, ws_col (by decide), h0]
  refine ⟨hi _ a3, fun w6 e6 => ?_⟩
  have a6 : w6 32 4 = 0 := by rw [e6, ws_col (by decide), a3]
  refine ⟨hi _ a6, fun w9 e9 w11 e11 => ?_⟩
  have a9 : w9 32 4 = 0 := by rw [e9, ws_col (by decide), a6]
  have a11 : w11 32 4 - 1 = 0 := by
    rw [e11, ws_hit, a9]
    decide
  rw [a11]
  exact k _
end FAM0
/-- one family becomes like another: its own four cells alone change -/
theorem cs_X0_becomeLike {Γ : Gx} {d : Nat} (hd : 1 ≤ d) (hG : GC Γ) {f a1 : Nat} (hF : ShF Γ f) (ha1 : ShF Γ a1) (hfa : a1 ≠ f ∧ a1 ≠ f + 1 ∧ a1 ≠ f + 2 ∧ a1 ≠ f + 3) {w : Wd} {Q : Wd → Prop} (k : ∀ w' : Wd, (∀ c : Nat, c ≠ f → c ≠ f + 1 → c ≠ f + 2 → c ≠ f + 3 → w' c = w c) → w' f 4 = w a1 4 → w' f 7 = w a1 7 → Q w') : CV Γ d M_X0_becomeLike [.ref (gad Γ f), .ref (gad Γ a1)] w Q := by
  obtain ⟨d, rfl⟩ : ∃ e, d = e + 1 := ⟨d - 1, by omega⟩
  refine con_X0_becomeLike hG hF ha1 ?_
  unfold wp_X0_becomeLike
  intro P c
  have h1 : (1 : Int32).toInt = 1 := rfl
  have key : ∀ (m : Nat) (l2 : Int32) (u : Wd), (∀ c : Nat, c ≠ f → c ≠ f + 1 → c ≠ f + 2 → c ≠ f + 3 → u c = w c) → 0 ≤ l2.toInt → l2.toInt ≤ 5 → (5 - l2.toInt).toNat < m → P l2 u := by
    intro m
    induction m with
    | zero => intro l2 u _ _ _ h; omega
    | succ m ih =>
      intro l2 u hu a1 a2 a3
      refine c _ _ ⟨fun _ w2 e2 w4 e4 w6 e6 w8 e8 w10 e10 => ?_, fun h => ?_⟩
      · have ea := hu _ hfa.1 hfa.2.1 hfa.2.2.1 hfa.2.2.2
        refine k _ (fun c b1 b2 b3 b4 => ?_) ?_ ?_
        · rw [e10, wset_off _ _ _ _ _ b1, e8, wset_off _ _ _ _ _ b1, e6, wset_off _ _ _ _ _ b1, e4, wset_off _ _ _ _ _ b1, e2, wset_off _ _ _ _ _ b1]
          exact hu c b1 b2 b3 b4
        · rw [e10, ws_row (by decide), e8, ws_row (by decide), e6, ws_row (by decide), e4, ws_row (by decide), e2, ws_hit, ea]
        · rw [e10, ws_row (by decide), e8, ws_hit, e6, wset_off _ _ _ _ _ hfa.1, e4, wset_off _ _ _ _ _ hfa.1, e2, wset_off _ _ _ _ _ hfa.1, ea]
      · simp only [Int32.le_iff_toInt_le, Int32.reduceToInt] at h
        have e := i_add (x := l2) (y := 1) (by omega) (by omega)
        refine ⟨vp_in_iff.mpr (by omega), fun w13 e13 w15 e15 w17 e17 => ih _ _ (fun c b1 b2 b3 b4 => ?_) (by omega) (by omega) (by omega)⟩
        rw [e17, wset_off _ _ _ _ _ b4, e15, wset_off _ _ _ _ _ b3, e13, wset_off _ _ _ _ _ b2]
        exact hu c b1 b2 b3 b4
  have h0 : (0 : Int32).toInt = 0 := rfl
  exact key _ _ _ (fun _ _ _ _ _ => rfl) (by omega) (by omega) (Nat.lt_succ_self _)
def ZC (w : Wd) : Prop := w 32 4 = 0 ∧ w 39 4 = 0
theorem ZC.slot {w : Wd} {c s : Nat} {v : Int32} (h : s ≠ 4 ∨ (c ≠ 32 ∧ c ≠ 39)) (i : ZC w) : ZC (wset w c s v) := by
  rcases h with h | h
  · exact ⟨by rw [ws_row (Ne.symm h)]; exact i.1, by rw [ws_row (Ne.symm h)]; exact i.2⟩
  · exact ⟨by rw [ws_col (Ne.symm h.1)]; exact i.1, by rw [ws_col (Ne.symm h.2)]; exact i.2⟩
theorem ZC.num {w : Wd} (i : ZC w) : (w 32 4).toInt = 0 ∧ (w 39 4).toInt = 0 := ⟨by rw [i.1]; rfl, by rw [i.2]; rfl⟩
theorem ZC.like {w w' : Wd} (i : ZC w) (hc : ∀ c : Nat, c ≠ 39 → c ≠ 39 + 1 → c ≠ 39 + 2 → c ≠ 39 + 3 → w' c = w c) (h4 : w' 39 4 = w 32 4) : ZC w' := ⟨by rw [hc 32 (by decide) (by decide) (by decide) (by decide)]; exact i.1, h4.trans i.1⟩
/-- a new object of the class, as the calls see it -/
def FC (w : Wd) : Prop := ZC w ∧ w 32 5 = 255 ∧ w 32 6 = 0 ∧ w 32 7 = 0 ∧ w 0 7 = 1 ∧ w 0 8 = 0 ∧ w 3 0 = 0 ∧ (∀ c, isS c → (w c 1).toInt = -1) ∧ (∀ j : Nat, j < 4 → 0 ≤ (w (9 + 2) j).toInt ∧ (w (9 + 2) j).toInt ≤ 160)
theorem bit255 {x : Int32} (h0 : 0 ≤ x.toInt) (h7 : x.toInt ≤ 7) : ((255 : Int32) >>> (x &&& 31)) &&& 1 = 1 := by
  obtain ⟨j, hj, rfl⟩ := vp_in_of (n := 8) (vp_in_iff.mpr ⟨h0, by omega⟩) (by omega)
  exact (by decide : ∀ j, j < 8 → ((255 : Int32) >>> (nI j &&& 31)) &&& 1 = 1) j hj
theorem cs_bitCount {Γ : Gx} {d : Nat} {w : Wd} (hd : 1 ≤ d) (hG : GC Γ) {p1 : Int32} {Q : Int32 → Wd → Prop} (k : ∀ r : Int32, (p1 = 255 → r = 8) → Q r w) : CI Γ d M_J6_bitCount_0f7a4 [.int p1] w Q := by
  obtain ⟨d, rfl⟩ : ∃ e, d = e + 1 := ⟨d - 1, by omega⟩
  refine con_J6_bitCount_0f7a4 hG ?_
  unfold wp_J6_bitCount_0f7a4
  intro v1 e1 v3 e3 v5 e5 v7 e7 v9 e9
  refine k _ (fun h => ?_)
  subst h
  subst e1
  subst e3
  subst e5
  subst e7
  subst e9
  decide
/-- what the calls answer, first of all on a new object -/
def a_set (a b c : Int32) : Int32 := if a.toInt = 0 ∧ 0 ≤ c.toInt ∧ c.toInt ≤ 999 then 0 else if a.toInt = 1 ∧ (0 ≤ b.toInt ∧ b.toInt ≤ 7) ∧ 0 ≤ c.toInt ∧ c.toInt ≤ 1 then 1 else -1000
def a_person (a b : Int32) : Int32 := if (0 ≤ a.toInt ∧ a.toInt ≤ 5) ∧ 0 ≤ b.toInt ∧ b.toInt ≤ 9 then 0 else -2
def a_told (of what : Int32) : Int32 := if what.toInt = 0 then 0 else if what.toInt = 1 ∧ 0 ≤ of.toInt ∧ of.toInt ≤ 7 then 1 else -1000
def a_feed (a : Int32) : Int32 := if 0 ≤ a.toInt ∧ a.toInt ≤ 255 then 1 else -2
def a_force (a : Int32) : Int32 := if a.toInt = 0 then 0 else -2
def a_run (n what : Int32) : Int32 := if (0 ≤ n.toInt ∧ n.toInt ≤ 40) ∧ 0 ≤ what.toInt ∧ what.toInt ≤ 1 then 0 else -1000
def a_again (what : Int32) : Int32 := if what.toInt = 0 ∨ what.toInt = 1 then 1 else if what.toInt = 2 then 0 else -2
def a_all (what : Int32) : Int32 := if what.toInt = 2 then -1 else if 0 ≤ what.toInt ∧ what.toInt ≤ 3 then 0 else -1000
def a_out (n what : Int32) : Int32 := if (0 ≤ n.toInt ∧ n.toInt ≤ 40) ∧ 0 ≤ what.toInt ∧ what.toInt ≤ 1 then (if what.toInt = 0 then -1 else 0) else -1000
def a_chance (m k part : Int32) : Int64 := if (1 ≤ m.toInt ∧ m.toInt ≤ 20) ∧ (-100 ≤ k.toInt ∧ k.toInt ≤ 100) ∧ 0 ≤ part.toInt ∧ part.toInt ≤ 1 then (if part.toInt = 0 ∧ 0 < k.toInt then 0 else 1) else -4611686018427387904
def a_count (what : Int32) : Int32 := if what.toInt = 1 then 8 else if what.toInt = 3 then 1 else if 0 ≤ what.toInt ∧ what.toInt ≤ 5 then 0 else -2
def a_sheet (a b c : Int32) : Int32 := if (0 ≤ a.toInt ∧ a.toInt ≤ 3) ∧ -1 ≤ b.toInt ∧ b.toInt ≤ 2 then (if b.toInt = -1 then 1 else if 40 < c.toInt then -2 else if c.toInt < 0 then -14 else 1) else -2
def a_cell (a : Int32) : Int32 := if 0 ≤ a.toInt ∧ a.toInt ≤ 3 then -11 else -2
def a_copy (a b : Int32) : Int32 := if (0 ≤ a.toInt ∧ a.toInt ≤ 3) ∧ 0 ≤ b.toInt ∧ b.toInt ≤ 3 then -11 else -2
def a_people (a b n : Int32) : Int32 := if (0 ≤ a.toInt ∧ a.toInt ≤ 3) ∧ (0 ≤ b.toInt ∧ b.toInt ≤ 2) ∧ 0 ≤ n.toInt ∧ n.toInt ≤ 5 then -11 else -2
def a_taken (k : Int32) : Int32 := if 0 ≤ k.toInt ∧ k.toInt ≤ 5 then -11 else -2
set_option maxRecDepth 20000 in
theorem p1c_set {Γ : Gx} {d : Nat} (hd : 4 ≤ d) (hG : GC Γ) {p1 : Int32} {p2 : Int32} {p3 : Int32} {w : Wd} (f : FC w) {Q : Int32 → Wd → Prop} (k : ∀ (r : Int32) (w' : Wd), (r = a_set p1 p2 p3) → Q r w') : CI Γ d M_X4_set [.ref (gad Γ 0), .int p1, .int p2, .int p3] w Q := by
  obtain ⟨d, rfl⟩ : ∃ e, d = e + 1 := ⟨d - 1, by omega⟩
  refine con_X4_set hG ?_
  unfold wp_X4_set
  obtain ⟨i, f5, f6, f7, f07, f08, f30, fsh, f92⟩ := f
  have z4 := i.num
  refine cs_X4_isIn (by omega) hG (lo := 0) (hi := 3) rfl rfl (fun r1 z356 y357 => ?_)
  refine ⟨fun h358 => ?_, fun h359 => ?_⟩
  · have h358 : ¬ _ := fun q => y357.mpr q h358
    exact k _ _ (by
      unfold a_set
      (repeat' split) <;> first | rfl | (exfalso; omega))
  · have h359 := y357.mp h359
    refine cs_X4_isThere (by omega) hG (by omega) (fun r4 y360 y361 => ?_)
    refine ⟨fun h362 => ?_, fun h363 => ?_⟩
    · have h362 : ¬ _ := fun q => y361.mpr q h362
      exact k _ _ (by
        unfold a_set
        (repeat' split) <;> first | rfl | (exfalso; omega))
    · have h363 := y361.mp h363
      refine cs_X4_fits (by omega) hG (fun r7 y364 y365 => ?_)
      refine ⟨fun h366 => ?_, fun h367 => ?_⟩
      · have h366 := y365.mp h366
        refine cs_X4_plainly (by omega) hG (by omega) (fun r10 v0 v1 => ?_)
        refine ⟨fun h368 => ?_, fun h369 => ?_, fun h370 => ?_, fun h371 => ?_⟩
        · simp only [Int32.lt_iff_toInt_lt, Int32.le_iff_toInt_le, ← Int32.toInt_inj, Int32.reduceToInt] at h368
          intro w12 ew12
          have iw12 : ZC w12 := ew12 ▸ ZC.slot (by omega) i
          have zw12 := iw12.num
          exact k _ _ (by
            unfold a_set
            (repeat' split) <;> first | rfl | (exfalso; omega) | exact (v0 (by omega)).trans f6 | exact (v1 (by omega)).trans (by rw [f5]; exact bit255 (by omega) (by omega)))
        · simp only [Int32.lt_iff_toInt_lt, Int32.le_iff_toInt_le, ← Int32.toInt_inj, Int32.reduceToInt] at h369
          intro w14 ew14
          have iw14 : ZC w14 := ew14 ▸ ZC.slot (by omega) i
          have zw14 := iw14.num
          exact k _ _ (by
            unfold a_set
            (repeat' split) <;> first | rfl | (exfalso; omega) | exact (v0 (by omega)).trans f6 | exact (v1 (by omega)).trans (by rw [f5]; exact bit255 (by omega) (by omega)))
        · simp only [Int32.lt_iff_toInt_lt, Int32.le_iff_toInt_le, ← Int32.toInt_inj, Int32.reduceToInt] at h370
          have := i_lo p2
          have := i_hi p2
          refine ⟨vp_in_iff.mpr (by omega), ?_⟩
          intro w17 ew17
          have iw17 : ZC w17 := ew17 ▸ ZC.slot (by omega) i
          have zw17 := iw17.num
          exact k _ _ (by
            unfold a_set
            (repeat' split) <;> first | rfl | (exfalso; omega) | exact (v0 (by omega)).trans f6 | exact (v1 (by omega)).trans (by rw [f5]; exact bit255 (by omega) (by omega)))
        · simp only [Int32.lt_iff_toInt_lt, Int32.le_iff_toInt_le, ← Int32.toInt_inj, Int32.reduceToInt] at h371
          have := i_lo p2
          have := i_hi p2
          refine ⟨vp_in_iff.mpr (by omega), ?_⟩
          intro w20 ew20
          have iw20 : ZC w20 := ew20 ▸ ZC.slot (by omega) i
          have zw20 := iw20.num
          exact k _ _ (by
            unfold a_set
            (repeat' split) <;> first | rfl | (exfalso; omega) | exact (v0 (by omega)).trans f6 | exact (v1 (by omega)).trans (by rw [f5]; exact bit255 (by omega) (by omega)))
      · have h367 : ¬ _ := fun q => y365.mpr q h367
        exact k _ _ (by
          unfold a_set
          (repeat' split) <;> first | rfl | (exfalso; omega))

set_option maxRecDepth 20000 in
theorem p1c_person {Γ : Gx} {d : Nat} (hd : 2 ≤ d) (hG : GC Γ) {p1 : Int32} {p2 : Int32} {w : Wd} (f : FC w) {Q : Int32 → Wd → Prop} (k : ∀ (r : Int32) (w' : Wd), (r = a_person p1 p2) → Q r w') : CI Γ d M_X4_person [.ref (gad Γ 0), .int p1, .int p2] w Q := by
  obtain ⟨d, rfl⟩ : ∃ e, d = e + 1 := ⟨d - 1, by omega⟩
  refine con_X4_person hG ?_
  unfold wp_X4_person
  obtain ⟨i, f5, f6, f7, f07, f08, f30, fsh, f92⟩ := f
  have z4 := i.num
  refine cs_X4_isIn (by omega) hG (lo := 0) (hi := 5) rfl rfl (fun r1 z372 y373 => ?_)
  refine ⟨fun h374 => ?_, fun h375 => ?_⟩
  · have h374 : ¬ _ := fun q => y373.mpr q h374
    exact k _ _ (by
      unfold a_person
      (repeat' split) <;> first | rfl | (exfalso; omega))
  · have h375 := y373.mp h375
    refine cs_X4_isIn (by omega) hG (lo := 0) (hi := 9) rfl rfl (fun r4 z376 y377 => ?_)
    refine ⟨fun h378 => ?_, fun h379 => ?_⟩
    · have h378 := y377.mp h378
      refine z_takeIn (by omega) hG i.1 (fun w8 => ?_)
      exact k _ _ (by
        unfold a_person
        (repeat' split) <;> first | rfl | (exfalso; omega))
    · have h379 : ¬ _ := fun q => y377.mpr q h379
      exact k _ _ (by
        unfold a_person
        (repeat' split) <;> first | rfl | (exfalso; omega))

set_option maxRecDepth 20000 in
theorem p1c_told {Γ : Gx} {d : Nat} (hd : 4 ≤ d) (hG : GC Γ) {p1 : Int32} {p2 : Int32} {w : Wd} (f : FC w) {Q : Int32 → Wd → Prop} (k : ∀ (r : Int32) (w' : Wd), (r = a_told p1 p2) → Q r w') : CI Γ d M_X4_told [.ref (gad Γ 0), .int p1, .int p2] w Q := by
  obtain ⟨d, rfl⟩ : ∃ e, d = e + 1 := ⟨d - 1, by omega⟩
  refine con_X4_told hG ?_
  unfold wp_X4_told
  obtain ⟨i, f5, f6, f7, f07, f08, f30, fsh, f92⟩ := f
  have z4 := i.num
  refine cs_X4_isIn (by omega) hG (lo := 0) (hi := 7) rfl rfl (fun r1 z380 y381 => ?_)
  refine ⟨fun h382 => ?_, fun h383 => ?_⟩
  · have h382 : ¬ _ := fun q => y381.mpr q h382
    exact k _ _ (by
      unfold a_told
      (repeat' split) <;> first | rfl | (exfalso; omega))
  · have h383 := y381.mp h383
    refine cs_X4_isThere (by omega) hG (by omega) (fun r4 y384 y385 => ?_)
    refine ⟨fun h386 => ?_, fun h387 => ?_⟩
    · have h386 := y385.mp h386
      refine ⟨fun h388 => ?_, fun h389 => ?_, fun h390 => ?_, fun h391 => ?_, fun h392 => ?_⟩
      · simp only [Int32.lt_iff_toInt_lt, Int32.le_iff_toInt_le, ← Int32.toInt_inj, Int32.reduceToInt] at h388
        have := i_lo p1
        have := i_hi p1
        refine ⟨vp_in_iff.mpr (by omega), ?_⟩
        exact k _ _ (by
          unfold a_told
          (repeat' split) <;> first | rfl | (exfalso; omega))
      · simp only [Int32.lt_iff_toInt_lt, Int32.le_iff_toInt_le, ← Int32.toInt_inj, Int32.reduceToInt] at h389
        exfalso
        omega
      · simp only [Int32.lt_iff_toInt_lt, Int32.le_iff_toInt_le, ← Int32.toInt_inj, Int32.reduceToInt] at h390
        exfalso
        omega
      · simp only [Int32.lt_iff_toInt_lt, Int32.le_iff_toInt_le, ← Int32.toInt_inj, Int32.reduceToInt] at h391
        refine cs_X0_becomeLike (by omega) hG (ShC.f39 hG.2.1) (ShC.f32 hG.2.1) (by decide) (fun w13 kw13 lw13 l7w13 => ?_)
        have iw13 := ZC.like i kw13 lw13
        have zw13 := iw13.num
        refine z_pass (by omega) hG (ShC.f39 hG.2.1) iw13.2 ?_
        have := i_lo p1
        have := i_hi p1
        refine ⟨vp_in_iff.mpr (by omega), ?_⟩
        exact k _ _ (by
          unfold a_told
          (repeat' split) <;> first | rfl | (exfalso; omega))
      · simp only [Int32.lt_iff_toInt_lt, Int32.le_iff_toInt_le, ← Int32.toInt_inj, Int32.reduceToInt] at h392
        refine cs_X4_plainly (by omega) hG (by omega) (fun r17 v0 v1 => ?_)
        exact k _ _ (by
          unfold a_told
          (repeat' split) <;> first | rfl | (exfalso; omega) | exact (v0 (by omega)).trans f6 | exact (v1 (by omega)).trans (by rw [f5]; exact bit255 (by omega) (by omega)))
    · have h387 : ¬ _ := fun q => y385.mpr q h387
      exact k _ _ (by
        unfold a_told
        (repeat' split) <;> first | rfl | (exfalso; omega))

theorem z_takeByte {Γ : Gx} {d : Nat} {w : Wd} (hd : 1 ≤ d) (hG : GC Γ) (h0 : w 3 0 = 0) {p1 : Int32} {Q : Int32 → Wd → Prop} (k : ∀ w' : Wd, w' 3 0 = 1 → Q 1 w') : CI Γ d M_X1_takeByte [.ref (gad Γ 3), .int p1] w Q := by
  obtain ⟨d, rfl⟩ : ∃ e, d = e + 1 := ⟨d - 1, by omega⟩
  refine con_X1_takeByte hG ?_
  unfold wp_X1_takeByte
  refine ⟨fun _ => ⟨?_, fun w3 e3 w5 e5 => k _ ?_⟩, fun h => absurd (by rw [h0]; decide) h⟩
  · rw [h0]
    exact vp_in_iff.mpr ⟨by decide, by decide⟩
  · rw [e5, ws_hit, e3, ws_col (by decide), h0]
    decide

set_option maxRecDepth 20000 in
theorem p1c_feed {Γ : Gx} {d : Nat} (hd : 2 ≤ d) (hG : GC Γ) {p1 : Int32} {w : Wd} (f : FC w) {Q : Int32 → Wd → Prop} (k : ∀ (r : Int32) (w' : Wd), (r = a_feed p1) → Q r w') : CI Γ d M_X4_feed [.ref (gad Γ 0), .int p1] w Q := by
  obtain ⟨d, rfl⟩ : ∃ e, d = e + 1 := ⟨d - 1, by omega⟩
  refine con_X4_feed hG ?_
  unfold wp_X4_feed
  obtain ⟨i, f5, f6, f7, f07, f08, f30, fsh, f92⟩ := f
  have z4 := i.num
  refine cs_X4_isIn (by omega) hG (lo := 0) (hi := 255) rfl rfl (fun r1 z393 y394 => ?_)
  refine ⟨fun h395 => ?_, fun h396 => ?_⟩
  · have h395 := y394.mp h395
    refine z_takeByte (by omega) hG f30 (fun w5 yt => ?_)
    refine ⟨fun h397 => ?_, fun h398 => ?_⟩
    · simp only [Int32.lt_iff_toInt_lt, Int32.le_iff_toInt_le, ← Int32.toInt_inj, Int32.reduceToInt] at h397
      exact k _ _ (by
        unfold a_feed
        (repeat' split) <;> first | rfl | (exfalso; omega) | assumption)
    · simp only [Int32.lt_iff_toInt_lt, Int32.le_iff_toInt_le, ← Int32.toInt_inj, Int32.reduceToInt] at h398
      exact k _ _ (by
        unfold a_feed
        (repeat' split) <;> first | rfl | (exfalso; omega) | assumption)
  · have h396 : ¬ _ := fun q => y394.mpr q h396
    exact k _ _ (by
      unfold a_feed
      (repeat' split) <;> first | rfl | (exfalso; omega) | assumption)

set_option maxRecDepth 20000 in
theorem p1c_force {Γ : Gx} {d : Nat} (hd : 2 ≤ d) (hG : GC Γ) {p1 : Int32} {w : Wd} (f : FC w) {Q : Int32 → Wd → Prop} (k : ∀ (r : Int32) (w' : Wd), (r = a_force p1) → Q r w') : CI Γ d M_X4_force [.ref (gad Γ 0), .int p1] w Q := by
  obtain ⟨d, rfl⟩ : ∃ e, d = e + 1 := ⟨d - 1, by omega⟩
  refine con_X4_force hG ?_
  unfold wp_X4_force
  obtain ⟨i, f5, f6, f7, f07, f08, f30, fsh, f92⟩ := f
  have z4 := i.num
  have z07 : (w 0 7).toInt = 1 := by rw [f07]; rfl
  have := i_lo (w 0 7)
  have := i_hi (w 0 7)
  have : (1 : Int32).toInt = 1 := rfl
  have := i_sub (x := (w 0 7)) (y := (1 : Int32)) (by omega) (by omega)
  refine cs_X4_isIn (by omega) hG (lo := 0) (hi := ((w 0 7) - (1 : Int32)).toInt) rfl rfl (fun r1 z399 y400 => ?_)
  refine ⟨fun h401 => ?_, fun h402 => ?_⟩
  · have h401 := y400.mp h401
    intro w4 ew4
    have iw4 : ZC w4 := ew4 ▸ ZC.slot (by omega) i
    have zw4 := iw4.num
    exact k _ _ (by
      unfold a_force
      (repeat' split) <;> first | rfl | (exfalso; omega) | exact f7)
  · have h402 : ¬ _ := fun q => y400.mpr q h402
    exact k _ _ (by
      unfold a_force
      (repeat' split) <;> first | rfl | (exfalso; omega) | exact f7)

set_option maxRecDepth 20000 in
theorem p1c_sandwich {Γ : Gx} {d : Nat} (hd : 4 ≤ d) (hG : GC Γ) {p1 : Int32} {p2 : Int32} {p3 : Int32} {w : Wd} (f : FC w) {Q : Int32 → Wd → Prop} (k : ∀ (r : Int32) (w' : Wd), (r = -1000) → Q r w') : CI Γ d M_X4_sandwich [.ref (gad Γ 0), .int p1, .int p2, .int p3] w Q := by
  obtain ⟨d, rfl⟩ : ∃ e, d = e + 1 := ⟨d - 1, by omega⟩
  refine con_X4_sandwich hG ?_
  unfold wp_X4_sandwich
  obtain ⟨i, f5, f6, f7, f07, f08, f30, fsh, f92⟩ := f
  have z4 := i.num
  refine cs_X4_areTwo (by omega) hG (by omega) (fun r1 y403 y404 => ?_)
  refine ⟨fun h405 => ?_, fun h406 => ?_⟩
  · have h405 := y404.mp h405
    omega
  · have h406 : ¬ _ := fun q => y404.mpr q h406
    exact k _ _ (by
      skip
      (repeat' split) <;> first | rfl | (exfalso; omega))

set_option maxRecDepth 20000 in
theorem p1c_sunday {Γ : Gx} {d : Nat} (hd : 2 ≤ d) (hG : GC Γ) {w : Wd} (f : FC w) {Q : Int32 → Wd → Prop} (k : ∀ (r : Int32) (w' : Wd), (r = 0) → Q r w') : CI Γ d M_X4_sunday [.ref (gad Γ 0)] w Q := by
  obtain ⟨d, rfl⟩ : ∃ e, d = e + 1 := ⟨d - 1, by omega⟩
  refine con_X4_sunday hG ?_
  unfold wp_X4_sunday
  obtain ⟨i, f5, f6, f7, f07, f08, f30, fsh, f92⟩ := f
  have z4 := i.num
  have z326 : (w 32 6).toInt = 0 := by rw [f6]; rfl
  refine ⟨fun h407 => ?_, fun h408 => ?_⟩
  · simp only [Int32.lt_iff_toInt_lt, Int32.le_iff_toInt_le, ← Int32.toInt_inj, Int32.reduceToInt] at h407
    refine z_pass (by omega) hG (ShC.f32 hG.2.1) i.1 ?_
    intro w4 ew4
    have iw4 : ZC w4 := ew4 ▸ ZC.slot (by omega) i
    have zw4 := iw4.num
    refine z_glad (by omega) hG (ShC.f32 hG.2.1) iw4.1 ?_
    exact k _ _ (by
      skip
      (repeat' split) <;> first | rfl | (exfalso; omega))
  · simp only [Int32.lt_iff_toInt_lt, Int32.le_iff_toInt_le, ← Int32.toInt_inj, Int32.reduceToInt] at h408
    omega

set_option maxRecDepth 20000 in
theorem p1c_run {Γ : Gx} {d : Nat} (hd : 3 ≤ d) (hG : GC Γ) {p1 : Int32} {p2 : Int32} {w : Wd} (f : FC w) {Q : Int32 → Wd → Prop} (k : ∀ (r : Int32) (w' : Wd), (r = a_run p1 p2) → Q r w') : CI Γ d M_X4_run [.ref (gad Γ 0), .int p1, .int p2] w Q := by
  obtain ⟨d, rfl⟩ : ∃ e, d = e + 1 := ⟨d - 1, by omega⟩
  refine con_X4_run hG ?_
  unfold wp_X4_run
  obtain ⟨i, f5, f6, f7, f07, f08, f30, fsh, f92⟩ := f
  have z4 := i.num
  intro P_22
  intro P_50
  intro cP_22
  intro cP_50
  have key : ∀ m : Nat, (∀ (s0 : Int32) (w : Wd), ZC w → (s0.toInt = 0) → (1) < m → P_22 s0 w) ∧ (∀ (l3 : Int32) (w : Wd), ZC w → (l3.toInt = 0) → ((0 ≤ p1.toInt ∧ p1.toInt ≤ 40) ∧ 0 ≤ p2.toInt ∧ p2.toInt ≤ 1) → (0) < m → P_50 l3 w) := by
    intro m
    induction m with
    | zero => exact ⟨fun _ _ _ _ h => absurd h (Nat.not_lt_zero _), fun _ _ _ _ _ h => absurd h (Nat.not_lt_zero _)⟩
    | succ m ih =>
      refine ⟨?_, ?_⟩
      · intro s0 w i v0 hm
        refine cP_22 _ _ ?_
        have z4 := i.num
        refine cs_X4_isIn (by omega) hG (lo := 0) (hi := 40) rfl rfl (fun r5 z409 y410 => ?_)
        refine ⟨fun h411 => ?_, fun h412 => ?_⟩
        · have h411 : ¬ _ := fun q => y410.mpr q h411
          exact k _ _ (by
            unfold a_run
            (repeat' split) <;> first | rfl | (exfalso; omega))
        · have h412 := y410.mp h412
          refine ⟨fun h413 => ?_, fun h414 => ?_⟩
          · simp only [Int32.lt_iff_toInt_lt, Int32.le_iff_toInt_le, ← Int32.toInt_inj, Int32.reduceToInt] at h413
            omega
          · simp only [Int32.lt_iff_toInt_lt, Int32.le_iff_toInt_le, ← Int32.toInt_inj, Int32.reduceToInt] at h414
            refine cs_X4_isIn (by omega) hG (lo := 0) (hi := 1) rfl rfl (fun r9 z415 y416 => ?_)
            refine ⟨fun h417 => ?_, fun h418 => ?_⟩
            · have h417 := y416.mp h417
              exact ih.2 _ _ i (by first | omega | rfl | assumption) (by first | omega | rfl | assumption) (by omega)
            · have h418 : ¬ _ := fun q => y416.mpr q h418
              exact k _ _ (by
                unfold a_run
                (repeat' split) <;> first | rfl | (exfalso; omega))
      · intro l3 w i v0 v1 hm
        refine cP_50 _ _ ?_
        have z4 := i.num
        refine cs_X0_becomeLike (by omega) hG (ShC.f39 hG.2.1) (ShC.f32 hG.2.1) (by decide) (fun w13 kw13 lw13 l7w13 => ?_)
        have iw13 := ZC.like i kw13 lw13
        have zw13 := iw13.num
        refine ⟨fun h419 => ?_, fun h420 => ?_⟩
        · simp only [Int32.lt_iff_toInt_lt, Int32.le_iff_toInt_le, ← Int32.toInt_inj, Int32.reduceToInt] at h419
          refine z_gladBehind (by omega) hG (ShC.f39 hG.2.1) iw13.2 ?_
          refine ⟨fun h421 => ?_, fun h422 => ?_⟩
          · simp only [Int32.lt_iff_toInt_lt, Int32.le_iff_toInt_le, ← Int32.toInt_inj, Int32.reduceToInt] at h421
            exact k _ _ (by
              unfold a_run
              (repeat' split) <;> first | rfl | (exfalso; omega))
          · simp only [Int32.lt_iff_toInt_lt, Int32.le_iff_toInt_le, ← Int32.toInt_inj, Int32.reduceToInt] at h422
            omega
        · simp only [Int32.lt_iff_toInt_lt, Int32.le_iff_toInt_le, ← Int32.toInt_inj, Int32.reduceToInt] at h420
          refine z_emptyBehind (by omega) hG (ShC.f39 hG.2.1) iw13.2 (by omega) ?_
          exact k _ _ (by
            unfold a_run
            (repeat' split) <;> first | rfl | (exfalso; omega))
  refine ⟨fun h423 => ?_, fun h424 => ?_⟩
  · simp only [Int32.lt_iff_toInt_lt, Int32.le_iff_toInt_le, ← Int32.toInt_inj, Int32.reduceToInt] at h423
    have : (0 : Int32).toInt = 0 := rfl
    exact (key _).1 _ _ i (by first | omega | rfl | assumption) (Nat.lt_succ_self _)
  · simp only [Int32.lt_iff_toInt_lt, Int32.le_iff_toInt_le, ← Int32.toInt_inj, Int32.reduceToInt] at h424
    have := i_lo p2
    have := i_hi p2
    have : (10 : Int32).toInt = 10 := rfl
    have := i_sub (x := p2) (y := (10 : Int32)) (by omega) (by omega)
    refine cs_X4_isPerson (by omega) hG (by omega) (fun r2 y425 y426 => ?_)
    refine ⟨fun h427 => ?_, fun h428 => ?_⟩
    · have h427 : ¬ _ := fun q => y426.mpr q h427
      have : (0 : Int32).toInt = 0 := rfl
      exact (key _).1 _ _ i (by first | omega | rfl | assumption) (Nat.lt_succ_self _)
    · have h428 := y426.mp h428
      have : (1 : Int32).toInt = 1 := rfl
      exact (key _).1 _ _ i (by first | omega | rfl | assumption) (Nat.lt_succ_self _)

theorem z_firstDead {Γ : Gx} {d : Nat} {w : Wd} (hd : 1 ≤ d) (hG : GC Γ) (h0 : w 5 0 = 0) (h1 : w 5 1 = 0) {Q : Int32 → Wd → Prop} (k : Q 0 w) : CI Γ d M_X4_firstDead [.ref (gad Γ 0)] w Q := by
  obtain ⟨d, rfl⟩ : ∃ e, d = e + 1 := ⟨d - 1, by omega⟩
  refine con_X4_firstDead hG ?_
  unfold wp_X4_firstDead
  intro P c
  refine c _ _ ⟨fun h => absurd h (by decide), fun _ => ⟨vp_in_iff.mpr ⟨by decide, by decide⟩, vp_in_iff.mpr ⟨by decide, by decide⟩, fun h => absurd (h0.trans h1.symm) h, fun _ => k⟩⟩
theorem z_firstAgain {Γ : Gx} {d : Nat} {w : Wd} (hd : 1 ≤ d) (hG : GC Γ) (h0 : w 5 0 = 0) (h1 : w 5 1 = 0) {p1 : Int32} {Q : Int32 → Wd → Prop} (k : Q 1 w) : CI Γ d M_X4_firstAgain [.ref (gad Γ 0), .int p1] w Q := by
  obtain ⟨d, rfl⟩ : ∃ e, d = e + 1 := ⟨d - 1, by omega⟩
  refine con_X4_firstAgain hG ?_
  unfold wp_X4_firstAgain
  intro P2 P10 c2 c10
  refine c2 _ _ ⟨fun h => absurd h (by decide), fun _ => c10 _ _ _ ⟨fun h => absurd h (by decide), fun _ => ⟨vp_in_iff.mpr ⟨by decide, by decide⟩, vp_in_iff.mpr ⟨by decide, by decide⟩, fun h => absurd (h0.trans h1.symm) h, fun _ => ⟨fun _ => k, fun _ => k⟩⟩⟩⟩
theorem past_step {w : Wd} {l : Int32} (h : 1 ≤ l.toInt) (h0 : w 5 0 = 0) (h1 : 2 ≤ l.toInt → w 5 1 = 0) : (wset w 5 l.toNatClampNeg 0) 5 0 = 0 ∧ (wset w 5 l.toNatClampNeg 0) 5 1 = 0 := by
  have e := tn_eq (x := l) (by omega)
  refine ⟨?_, ?_⟩
  · rw [ws_row (by omega)]
    exact h0
  · by_cases hl : l.toNatClampNeg = 1
    · rw [hl, ws_hit]
    · rw [ws_row (Ne.symm hl)]
      exact h1 (by omega)

set_option maxRecDepth 20000 in
theorem p1c_again {Γ : Gx} {d : Nat} (hd : 3 ≤ d) (hG : GC Γ) {p1 : Int32} {w : Wd} (f : FC w) {Q : Int32 → Wd → Prop} (k : ∀ (r : Int32) (w' : Wd), (r = a_again p1) → Q r w') : CI Γ d M_X4_again [.ref (gad Γ 0), .int p1] w Q := by
  obtain ⟨d, rfl⟩ : ∃ e, d = e + 1 := ⟨d - 1, by omega⟩
  refine con_X4_again hG ?_
  unfold wp_X4_again
  obtain ⟨i, f5, f6, f7, f07, f08, f30, fsh, f92⟩ := f
  have z4 := i.num
  intro P_38
  intro cP_38
  have key : ∀ m : Nat, (∀ (l2 : Int32) (w : Wd), ZC w → (w 5 0 = 0) → (2 ≤ l2.toInt → w 5 1 = 0) → (1 ≤ l2.toInt ∧ l2.toInt ≤ 41) → (0 ≤ p1.toInt ∧ p1.toInt ≤ 2) → ((42 - l2.toInt).toNat) < m → P_38 l2 w) := by
    intro m
    induction m with
    | zero => exact fun _ _ _ _ _ _ _ h => absurd h (Nat.not_lt_zero _)
    | succ m ih =>
      intro l2 w i v0 v1 v2 v3 hm
      refine cP_38 _ _ ?_
      have z4 := i.num
      refine ⟨fun h429 => ?_, fun h430 => ?_⟩
      · simp only [Int32.lt_iff_toInt_lt, Int32.le_iff_toInt_le, ← Int32.toInt_inj, Int32.reduceToInt] at h429
        refine ⟨fun h431 => ?_, fun h432 => ?_⟩
        · simp only [Int32.lt_iff_toInt_lt, Int32.le_iff_toInt_le, ← Int32.toInt_inj, Int32.reduceToInt] at h431
          refine z_firstAgain (by omega) hG v0 (v1 (by omega)) ?_
          exact k _ _ (by
            unfold a_again
            (repeat' split) <;> first | rfl | (exfalso; omega))
        · simp only [Int32.lt_iff_toInt_lt, Int32.le_iff_toInt_le, ← Int32.toInt_inj, Int32.reduceToInt] at h432
          refine z_firstDead (by omega) hG v0 (v1 (by omega)) ?_
          exact k _ _ (by
            unfold a_again
            (repeat' split) <;> first | rfl | (exfalso; omega))
      · simp only [Int32.lt_iff_toInt_lt, Int32.le_iff_toInt_le, ← Int32.toInt_inj, Int32.reduceToInt] at h430
        refine z_pass (by omega) hG (ShC.f39 hG.2.1) i.2 ?_
        refine z_allMoods (by omega) hG (ShC.f39 hG.2.1) i.2 ?_
        have := i_lo l2
        have := i_hi l2
        refine ⟨vp_in_iff.mpr (by omega), ?_⟩
        intro w21 ew21
        have iw21 : ZC w21 := ew21 ▸ ZC.slot (by omega) i
        have zw21 := iw21.num
        have : (1 : Int32).toInt = 1 := rfl
        have := i_add (x := l2) (y := (1 : Int32)) (by omega) (by omega)
        exact ih _ _ iw21 (by rw [ew21]; exact (past_step (by omega) v0 v1).1) (fun _ => by rw [ew21]; exact (past_step (by omega) v0 v1).2) (by first | omega | rfl | assumption) (by first | omega | rfl | assumption) (by omega)
  refine cs_X4_isIn (by omega) hG (lo := 0) (hi := 2) rfl rfl (fun r1 z433 y434 => ?_)
  refine ⟨fun h435 => ?_, fun h436 => ?_⟩
  · have h435 := y434.mp h435
    refine cs_X0_becomeLike (by omega) hG (ShC.f39 hG.2.1) (ShC.f32 hG.2.1) (by decide) (fun w5 kw5 lw5 l7w5 => ?_)
    have iw5 := ZC.like i kw5 lw5
    have zw5 := iw5.num
    refine z_allMoods (by omega) hG (ShC.f39 hG.2.1) iw5.2 ?_
    intro w8 ew8
    have iw8 : ZC w8 := ew8 ▸ ZC.slot (by omega) iw5
    have zw8 := iw8.num
    have : (1 : Int32).toInt = 1 := rfl
    exact (key _) _ _ iw8 (by rw [ew8, ws_hit]) (fun _ => by omega) (by first | omega | rfl | assumption) (by first | omega | rfl | assumption) (Nat.lt_succ_self _)
  · have h436 : ¬ _ := fun q => y434.mpr q h436
    exact k _ _ (by
      unfold a_again
      (repeat' split) <;> first | rfl | (exfalso; omega))

set_option maxRecDepth 20000 in
theorem p1c_all {Γ : Gx} {d : Nat} (hd : 2 ≤ d) (hG : GC Γ) {p1 : Int32} {w : Wd} (f : FC w) {Q : Int32 → Wd → Prop} (k : ∀ (r : Int32) (w' : Wd), (r = a_all p1) → Q r w') : CI Γ d M_X4_all [.ref (gad Γ 0), .int p1] w Q := by
  obtain ⟨d, rfl⟩ : ∃ e, d = e + 1 := ⟨d - 1, by omega⟩
  refine con_X4_all hG ?_
  unfold wp_X4_all
  obtain ⟨i, f5, f6, f7, f07, f08, f30, fsh, f92⟩ := f
  have z4 := i.num
  refine ⟨fun h437 => ?_, fun h438 => ?_, fun h439 => ?_, fun h440 => ?_, fun h441 => ?_⟩
  · simp only [Int32.lt_iff_toInt_lt, Int32.le_iff_toInt_le, ← Int32.toInt_inj, Int32.reduceToInt] at h437
    refine z_glad (by omega) hG (ShC.f32 hG.2.1) i.1 ?_
    exact k _ _ (by
      unfold a_all
      (repeat' split) <;> first | rfl | (exfalso; omega))
  · simp only [Int32.lt_iff_toInt_lt, Int32.le_iff_toInt_le, ← Int32.toInt_inj, Int32.reduceToInt] at h438
    refine z_lettuceCount (by omega) hG (ShC.f32 hG.2.1) i.1 ?_
    exact k _ _ (by
      unfold a_all
      (repeat' split) <;> first | rfl | (exfalso; omega))
  · simp only [Int32.lt_iff_toInt_lt, Int32.le_iff_toInt_le, ← Int32.toInt_inj, Int32.reduceToInt] at h439
    refine z_lettuceFirst (by omega) hG (ShC.f32 hG.2.1) i.1 ?_
    exact k _ _ (by
      unfold a_all
      (repeat' split) <;> first | rfl | (exfalso; omega))
  · simp only [Int32.lt_iff_toInt_lt, Int32.le_iff_toInt_le, ← Int32.toInt_inj, Int32.reduceToInt] at h440
    refine z_leftAlone (by omega) hG (ShC.f32 hG.2.1) i.1 ?_
    exact k _ _ (by
      unfold a_all
      (repeat' split) <;> first | rfl | (exfalso; omega))
  · simp only [Int32.lt_iff_toInt_lt, Int32.le_iff_toInt_le, ← Int32.toInt_inj, Int32.reduceToInt] at h441
    exact k _ _ (by
      unfold a_all
      (repeat' split) <;> first | rfl | (exfalso; omega))

set_option maxRecDepth 20000 in
theorem p1c_best {Γ : Gx} {d : Nat} (hd : 4 ≤ d) (hG : GC Γ) {p1 : Int32} {p2 : Int32} {p3 : Int32} {w : Wd} (f : FC w) {Q : Int32 → Wd → Prop} (k : ∀ (r : Int32) (w' : Wd), (r = -1000) → Q r w') : CI Γ d M_X4_best [.ref (gad Γ 0), .int p1, .int p2, .int p3] w Q := by
  obtain ⟨d, rfl⟩ : ∃ e, d = e + 1 := ⟨d - 1, by omega⟩
  refine con_X4_best hG ?_
  unfold wp_X4_best
  obtain ⟨i, f5, f6, f7, f07, f08, f30, fsh, f92⟩ := f
  have z4 := i.num
  intro P_43
  intro cP_43
  refine cs_X4_isPerson (by omega) hG (by omega) (fun r1 y442 y443 => ?_)
  refine ⟨fun h444 => ?_, fun h445 => ?_⟩
  · have h444 : ¬ _ := fun q => y443.mpr q h444
    exact k _ _ (by
      skip
      (repeat' split) <;> first | rfl | (exfalso; omega))
  · have h445 := y443.mp h445
    omega

set_option maxRecDepth 20000 in
theorem p1c_add {Γ : Gx} {d : Nat} (hd : 4 ≤ d) (hG : GC Γ) {p1 : Int32} {p2 : Int32} {p3 : Int32} {w : Wd} (f : FC w) {Q : Int32 → Wd → Prop} (k : ∀ (r : Int32) (w' : Wd), (r = -1000) → Q r w') : CI Γ d M_X4_add [.ref (gad Γ 0), .int p1, .int p2, .int p3] w Q := by
  obtain ⟨d, rfl⟩ : ∃ e, d = e + 1 := ⟨d - 1, by omega⟩
  refine con_X4_add hG ?_
  unfold wp_X4_add
  obtain ⟨i, f5, f6, f7, f07, f08, f30, fsh, f92⟩ := f
  have z4 := i.num
  intro P_100
  intro cP_100
  refine cs_X4_areTwo (by omega) hG (by omega) (fun r1 y446 y447 => ?_)
  refine ⟨fun h448 => ?_, fun h449 => ?_⟩
  · have h448 : ¬ _ := fun q => y447.mpr q h448
    exact k _ _ (by
      skip
      (repeat' split) <;> first | rfl | (exfalso; omega))
  · have h449 := y447.mp h449
    omega

set_option maxRecDepth 20000 in
theorem p1c_tells {Γ : Gx} {d : Nat} (hd : 4 ≤ d) (hG : GC Γ) {p1 : Int32} {p2 : Int32} {p3 : Int32} {w : Wd} (f : FC w) {Q : Int32 → Wd → Prop} (k : ∀ (r : Int32) (w' : Wd), (r = -1000) → Q r w') : CI Γ d M_X4_tells [.ref (gad Γ 0), .int p1, .int p2, .int p3] w Q := by
  obtain ⟨d, rfl⟩ : ∃ e, d = e + 1 := ⟨d - 1, by omega⟩
  refine con_X4_tells hG ?_
  unfold wp_X4_tells
  obtain ⟨i, f5, f6, f7, f07, f08, f30, fsh, f92⟩ := f
  have z4 := i.num
  refine cs_X4_isSheet (by omega) hG (fun r1 y450 y451 => ?_)
  refine ⟨fun h452 => ?_, fun h453 => ?_⟩
  · have h452 : ¬ _ := fun q => y451.mpr q h452
    exact k _ _ (by
      skip
      (repeat' split) <;> first | rfl | (exfalso; omega))
  · have h453 := y451.mp h453
    refine cs_X4_isPerson (by omega) hG (by omega) (fun r4 y454 y455 => ?_)
    refine ⟨fun h456 => ?_, fun h457 => ?_⟩
    · have h456 : ¬ _ := fun q => y455.mpr q h456
      exact k _ _ (by
        skip
        (repeat' split) <;> first | rfl | (exfalso; omega))
    · have h457 := y455.mp h457
      omega

set_option maxRecDepth 20000 in
theorem p1c_film {Γ : Gx} {d : Nat} (hd : 3 ≤ d) (hG : GC Γ) {p1 : Int32} {p2 : Int32} {p3 : Int32} {w : Wd} (f : FC w) {Q : Int32 → Wd → Prop} (k : ∀ (r : Int32) (w' : Wd), (r = -2) → Q r w') : CI Γ d M_X4_film [.ref (gad Γ 0), .int p1, .int p2, .int p3] w Q := by
  obtain ⟨d, rfl⟩ : ∃ e, d = e + 1 := ⟨d - 1, by omega⟩
  refine con_X4_film hG ?_
  unfold wp_X4_film
  obtain ⟨i, f5, f6, f7, f07, f08, f30, fsh, f92⟩ := f
  have z4 := i.num
  intro P_57
  intro cP_57
  refine cs_X4_isSheet (by omega) hG (fun r1 y458 y459 => ?_)
  refine ⟨fun h460 => ?_, fun h461 => ?_⟩
  · have h460 : ¬ _ := fun q => y459.mpr q h460
    exact k _ _ (by
      skip
      (repeat' split) <;> first | rfl | (exfalso; omega))
  · have h461 := y459.mp h461
    refine cs_X4_isPerson (by omega) hG (by omega) (fun r4 y462 y463 => ?_)
    refine ⟨fun h464 => ?_, fun h465 => ?_⟩
    · have h464 : ¬ _ := fun q => y463.mpr q h464
      exact k _ _ (by
        skip
        (repeat' split) <;> first | rfl | (exfalso; omega))
    · have h465 := y463.mp h465
      omega

set_option maxRecDepth 20000 in
theorem z_gladAsItIs {Γ : Gx} {d : Nat} (hd : 3 ≤ d) (hG : GC Γ) {p1 : Int32} {w : Wd} (i : ZC w) {Q : Int32 → Wd → Prop} (k : ∀ (r : Int32) (w' : Wd), ZC w' → (r = 0) → Q r w') : CI Γ d M_X4_gladAsItIs [.ref (gad Γ 0), .int p1] w Q := by
  obtain ⟨d, rfl⟩ : ∃ e, d = e + 1 := ⟨d - 1, by omega⟩
  refine con_X4_gladAsItIs hG ?_
  unfold wp_X4_gladAsItIs
  refine cs_X0_becomeLike (by omega) hG (ShC.f39 hG.2.1) (ShC.f32 hG.2.1) (by decide) (fun w2 kw2 lw2 l7w2 => ?_)
  have iw2 := ZC.like i kw2 lw2
  have zw2 := iw2.num
  refine z_gladBehind (by omega) hG (ShC.f39 hG.2.1) iw2.2 ?_
  exact k _ _ iw2 rfl

set_option maxRecDepth 20000 in
theorem p1c_leaveOut {Γ : Gx} {d : Nat} (hd : 4 ≤ d) (hG : GC Γ) {p1 : Int32} {p2 : Int32} {w : Wd} (f : FC w) {Q : Int32 → Wd → Prop} (k : ∀ (r : Int32) (w' : Wd), (r = a_out p1 p2) → Q r w') : CI Γ d M_X4_leaveOut [.ref (gad Γ 0), .int p1, .int p2] w Q := by
  obtain ⟨d, rfl⟩ : ∃ e, d = e + 1 := ⟨d - 1, by omega⟩
  refine con_X4_leaveOut hG ?_
  unfold wp_X4_leaveOut
  obtain ⟨i, f5, f6, f7, f07, f08, f30, fsh, f92⟩ := f
  have z4 := i.num
  intro P_35
  intro cP_35
  have key : ∀ m : Nat, (∀ (l3 : Int32) (l4 : Int32) (l5 : Int32) (w : Wd), ZC w → (l3 = 0) → (l4 = -1) → (l5.toInt = 0) → ((0 ≤ p1.toInt ∧ p1.toInt ≤ 40) ∧ 0 ≤ p2.toInt ∧ p2.toInt ≤ 1) → (0) < m → P_35 l3 l4 l5 w) := by
    intro m
    induction m with
    | zero => exact fun _ _ _ _ _ _ _ _ _ h => absurd h (Nat.not_lt_zero _)
    | succ m ih =>
      intro l3 l4 l5 w i v0 v1 v2 v3 hm
      refine cP_35 _ _ _ _ ?_
      have z4 := i.num
      have zl : l3.toInt = 0 := by rw [v0]; rfl
      refine ⟨fun h466 => ?_, fun h467 => ?_⟩
      · simp only [Int32.lt_iff_toInt_lt, Int32.le_iff_toInt_le, ← Int32.toInt_inj, Int32.reduceToInt] at h466
        refine ⟨fun h468 => ?_, fun h469 => ?_⟩
        · simp only [Int32.lt_iff_toInt_lt, Int32.le_iff_toInt_le, ← Int32.toInt_inj, Int32.reduceToInt] at h468
          exact k _ _ (by
            unfold a_out
            (repeat' split) <;> first | rfl | (exfalso; omega) | assumption)
        · simp only [Int32.lt_iff_toInt_lt, Int32.le_iff_toInt_le, ← Int32.toInt_inj, Int32.reduceToInt] at h469
          exact k _ _ (by
            unfold a_out
            (repeat' split) <;> first | rfl | (exfalso; omega) | assumption)
      · simp only [Int32.lt_iff_toInt_lt, Int32.le_iff_toInt_le, ← Int32.toInt_inj, Int32.reduceToInt] at h467
        omega
  refine cs_X4_isIn (by omega) hG (lo := 0) (hi := 40) rfl rfl (fun r1 z470 y471 => ?_)
  refine ⟨fun h472 => ?_, fun h473 => ?_⟩
  · have h472 : ¬ _ := fun q => y471.mpr q h472
    exact k _ _ (by
      unfold a_out
      (repeat' split) <;> first | rfl | (exfalso; omega) | assumption)
  · have h473 := y471.mp h473
    refine cs_X4_isIn (by omega) hG (lo := 0) (hi := 1) rfl rfl (fun r4 z474 y475 => ?_)
    refine ⟨fun h476 => ?_, fun h477 => ?_⟩
    · have h476 := y475.mp h476
      refine z_gladAsItIs (by omega) hG i (fun r7 w8 iw8 yw8 => ?_)
      have zw8 := iw8.num
      have yw8n : r7.toInt = 0 := by rw [yw8]; rfl
      have : (-1 : Int32).toInt = -1 := rfl
      have : (0 : Int32).toInt = 0 := rfl
      exact (key _) _ _ _ _ iw8 (by first | omega | rfl | assumption) (by first | omega | rfl | assumption) (by first | omega | rfl | assumption) (by first | omega | rfl | assumption) (Nat.lt_succ_self _)
    · have h477 : ¬ _ := fun q => y475.mpr q h477
      exact k _ _ (by
        unfold a_out
        (repeat' split) <;> first | rfl | (exfalso; omega) | assumption)

set_option maxRecDepth 20000 in
theorem p1c_spare {Γ : Gx} {d : Nat} (hd : 4 ≤ d) (hG : GC Γ) {p1 : Int32} {p2 : Int32} {w : Wd} (f : FC w) {Q : Int32 → Wd → Prop} (k : ∀ (r : Int32) (w' : Wd), (r = a_out p1 p2) → Q r w') : CI Γ d M_X4_spare [.ref (gad Γ 0), .int p1, .int p2] w Q := by
  obtain ⟨d, rfl⟩ : ∃ e, d = e + 1 := ⟨d - 1, by omega⟩
  refine con_X4_spare hG ?_
  unfold wp_X4_spare
  obtain ⟨i, f5, f6, f7, f07, f08, f30, fsh, f92⟩ := f
  have z4 := i.num
  intro P_35
  intro cP_35
  have key : ∀ m : Nat, (∀ (l3 : Int32) (l4 : Int32) (l5 : Int32) (w : Wd), ZC w → (l3 = 0) → (l4 = -1) → (0 ≤ l5.toInt ∧ l5.toInt ≤ 8) → ((0 ≤ p1.toInt ∧ p1.toInt ≤ 40) ∧ 0 ≤ p2.toInt ∧ p2.toInt ≤ 1) → ((9 - l5.toInt).toNat) < m → P_35 l3 l4 l5 w) := by
    intro m
    induction m with
    | zero => exact fun _ _ _ _ _ _ _ _ _ h => absurd h (Nat.not_lt_zero _)
    | succ m ih =>
      intro l3 l4 l5 w i v0 v1 v2 v3 hm
      refine cP_35 _ _ _ _ ?_
      have z4 := i.num
      have zl : l3.toInt = 0 := by rw [v0]; rfl
      refine ⟨fun h478 => ?_, fun h479 => ?_⟩
      · simp only [Int32.lt_iff_toInt_lt, Int32.le_iff_toInt_le, ← Int32.toInt_inj, Int32.reduceToInt] at h478
        refine ⟨fun h480 => ?_, fun h481 => ?_⟩
        · simp only [Int32.lt_iff_toInt_lt, Int32.le_iff_toInt_le, ← Int32.toInt_inj, Int32.reduceToInt] at h480
          exact k _ _ (by
            unfold a_out
            (repeat' split) <;> first | rfl | (exfalso; omega) | assumption)
        · simp only [Int32.lt_iff_toInt_lt, Int32.le_iff_toInt_le, ← Int32.toInt_inj, Int32.reduceToInt] at h481
          exact k _ _ (by
            unfold a_out
            (repeat' split) <;> first | rfl | (exfalso; omega) | assumption)
      · simp only [Int32.lt_iff_toInt_lt, Int32.le_iff_toInt_le, ← Int32.toInt_inj, Int32.reduceToInt] at h479
        refine cs_X0_becomeLike (by omega) hG (ShC.f39 hG.2.1) (ShC.f32 hG.2.1) (by decide) (fun w12 kw12 lw12 l7w12 => ?_)
        have iw12 := ZC.like i kw12 lw12
        have zw12 := iw12.num
        intro w13 ew13
        have iw13 : ZC w13 := ew13 ▸ ZC.slot (by omega) iw12
        have zw13 := iw13.num
        refine z_gladBehind (by omega) hG (ShC.f39 hG.2.1) iw13.2 ?_
        refine ⟨fun h482 => ?_, fun h483 => ?_⟩
        · simp only [Int32.lt_iff_toInt_lt, Int32.le_iff_toInt_le, ← Int32.toInt_inj, Int32.reduceToInt] at h482
          have := i_lo l5
          have := i_hi l5
          have : (1 : Int32).toInt = 1 := rfl
          have := i_add (x := l5) (y := (1 : Int32)) (by omega) (by omega)
          exact ih _ _ _ _ iw13 (by first | omega | rfl | assumption) (by first | omega | rfl | assumption) (by first | omega | rfl | assumption) (by first | omega | rfl | assumption) (by omega)
        · simp only [Int32.lt_iff_toInt_lt, Int32.le_iff_toInt_le, ← Int32.toInt_inj, Int32.reduceToInt] at h483
          omega
  refine cs_X4_isIn (by omega) hG (lo := 0) (hi := 40) rfl rfl (fun r1 z484 y485 => ?_)
  refine ⟨fun h486 => ?_, fun h487 => ?_⟩
  · have h486 : ¬ _ := fun q => y485.mpr q h486
    exact k _ _ (by
      unfold a_out
      (repeat' split) <;> first | rfl | (exfalso; omega) | assumption)
  · have h487 := y485.mp h487
    refine cs_X4_isIn (by omega) hG (lo := 0) (hi := 1) rfl rfl (fun r4 z488 y489 => ?_)
    refine ⟨fun h490 => ?_, fun h491 => ?_⟩
    · have h490 := y489.mp h490
      refine z_gladAsItIs (by omega) hG i (fun r7 w8 iw8 yw8 => ?_)
      have zw8 := iw8.num
      have yw8n : r7.toInt = 0 := by rw [yw8]; rfl
      have : (-1 : Int32).toInt = -1 := rfl
      have : (0 : Int32).toInt = 0 := rfl
      exact (key _) _ _ _ _ iw8 (by first | omega | rfl | assumption) (by first | omega | rfl | assumption) (by first | omega | rfl | assumption) (by first | omega | rfl | assumption) (Nat.lt_succ_self _)
    · have h491 : ¬ _ := fun q => y489.mpr q h491
      exact k _ _ (by
        unfold a_out
        (repeat' split) <;> first | rfl | (exfalso; omega) | assumption)

set_option maxRecDepth 20000 in
theorem p1c_drawn {Γ : Gx} {d : Nat} (hd : 3 ≤ d) (hG : GC Γ) {p1 : Int32} {w : Wd} (f : FC w) {Q : Int32 → Wd → Prop} (k : ∀ (r : Int32) (w' : Wd), (r = 0) → Q r w') : CI Γ d M_X4_drawn [.ref (gad Γ 0), .int p1] w Q := by
  obtain ⟨d, rfl⟩ : ∃ e, d = e + 1 := ⟨d - 1, by omega⟩
  refine con_X4_drawn hG ?_
  unfold wp_X4_drawn
  obtain ⟨i, f5, f6, f7, f07, f08, f30, fsh, f92⟩ := f
  have z4 := i.num
  refine cs_X0_becomeLike (by omega) hG (ShC.f39 hG.2.1) (ShC.f32 hG.2.1) (by decide) (fun w2 kw2 lw2 l7w2 => ?_)
  have iw2 := ZC.like i kw2 lw2
  have zw2 := iw2.num
  refine z_drawMoods (by omega) hG (ShC.f39 hG.2.1) iw2.2 ?_
  refine z_gladBehind (by omega) hG (ShC.f39 hG.2.1) iw2.2 ?_
  exact k _ _ rfl

theorem q_self {x : Int32} (h1 : 1 ≤ x.toInt) (h20 : x.toInt ≤ 20) : (x / x).toInt64 = 1 ∧ ((0 : Int32) / x).toInt64 = 0 ∧ x - (x / x) * x = 0 ∧ (0 : Int32) - (0 / x) * x = 0 := by
  obtain ⟨j, hj, rfl⟩ := vp_in_of (x := x) (n := 21) (vp_in_iff.mpr ⟨by omega, by omega⟩) (by omega)
  have hj1 : 1 ≤ j := by
    rw [nI_toInt (by omega)] at h1
    omega
  exact (by decide : ∀ j, j < 21 → 1 ≤ j → (nI j / nI j).toInt64 = 1 ∧ ((0 : Int32) / nI j).toInt64 = 0 ∧ nI j - (nI j / nI j) * nI j = 0 ∧ (0 : Int32) - (0 / nI j) * nI j = 0) j hj hj1
theorem z_shared {Γ : Gx} {d : Nat} {w : Wd} (hd : 1 ≤ d) (hG : GC Γ) {p1 p2 : Int32} (h1 : 1 ≤ p2.toInt) (h20 : p2.toInt ≤ 20) (hp : p1 = p2 ∨ p1 = 0) {Q : Int32 → Wd → Prop} (k : Q p2 w) : CI Γ d M_X4_sharedDivisor [.int p1, .int p2] w Q := by
  obtain ⟨d, rfl⟩ : ∃ e, d = e + 1 := ⟨d - 1, by omega⟩
  refine con_X4_sharedDivisor hG ?_
  unfold wp_X4_sharedDivisor
  intro P c
  obtain ⟨-, -, a3, a4⟩ := q_self h1 h20
  have ne : ¬ p2 = 0 := fun h => by
    rw [h] at h1
    exact absurd h1 (by decide)
  refine c _ _ ⟨fun h => ?_, fun h => ⟨ne, fun q => ?_, fun _ => ⟨ne, fun q => absurd a3 q, fun _ => k⟩⟩⟩
  · simp only [Int32.le_iff_toInt_le, Int32.reduceToInt] at h
    obtain rfl : p2 = 1 := i_ext (by show p2.toInt = 1; omega)
    exact k
  · rcases hp with rfl | rfl
    · exact absurd a3 q
    · exact absurd a4 q

set_option maxRecDepth 20000 in
theorem p1c_chance {Γ : Gx} {d : Nat} (hd : 4 ≤ d) (hG : GC Γ) {p1 : Int32} {p2 : Int32} {p3 : Int32} {p4 : Int32} {w : Wd} (f : FC w) {Q : Int64 → Wd → Prop} (k : ∀ (r : Int64) (w' : Wd), (r = a_chance p2 p3 p4) → Q r w') : CL Γ d M_X4_chance [.ref (gad Γ 0), .int p1, .int p2, .int p3, .int p4] w Q := by
  obtain ⟨d, rfl⟩ : ∃ e, d = e + 1 := ⟨d - 1, by omega⟩
  refine con_X4_chance hG ?_
  unfold wp_X4_chance
  obtain ⟨i, f5, f6, f7, f07, f08, f30, fsh, f92⟩ := f
  have z4 := i.num
  intro P_41
  intro cP_41
  have key : ∀ m : Nat, (∀ (l5 : Int32) (l6 : Int32) (w : Wd), ZC w → (0 ≤ l6.toInt ∧ l6.toInt ≤ p2.toInt) → ((p3.toInt ≤ 0 ∧ l5.toInt = l6.toInt) ∨ (0 < p3.toInt ∧ l5.toInt = 0)) → ((1 ≤ p2.toInt ∧ p2.toInt ≤ 20) ∧ (-100 ≤ p3.toInt ∧ p3.toInt ≤ 100) ∧ 0 ≤ p4.toInt ∧ p4.toInt ≤ 1) → ((21 - l6.toInt).toNat) < m → P_41 l5 l6 w) := by
    intro m
    induction m with
    | zero => exact fun _ _ _ _ _ _ _ h => absurd h (Nat.not_lt_zero _)
    | succ m ih =>
      intro l5 l6 w i v0 v1 v2 hm
      refine cP_41 _ _ _ ?_
      have z4 := i.num
      refine ⟨fun h492 => ?_, fun h493 => ?_⟩
      · simp only [Int32.lt_iff_toInt_lt, Int32.le_iff_toInt_le, ← Int32.toInt_inj, Int32.reduceToInt] at h492
        have hl5 : l5 = p2 ∨ l5 = 0 := by
          rcases v1 with ⟨_, q⟩ | ⟨_, q⟩
          · exact Or.inl (i_ext (by omega))
          · exact Or.inr (i_ext (by rw [q]; rfl))
        refine z_shared (by omega) hG (by omega) (by omega) hl5 ?_
        obtain ⟨qa, qb, -, -⟩ := q_self (x := p2) (by omega) (by omega)
        have ne : ¬ p2 = 0 := fun h => by rw [h] at v2; exact absurd v2.1.1 (by decide)
        refine ⟨fun h494 => ?_, fun h495 => ?_⟩
        · simp only [Int32.lt_iff_toInt_lt, Int32.le_iff_toInt_le, ← Int32.toInt_inj, Int32.reduceToInt] at h494
          refine ⟨ne, ?_⟩
          exact k _ _ (by
            unfold a_chance
            (repeat' split) <;> first | exact qa | (exfalso; omega))
        · simp only [Int32.lt_iff_toInt_lt, Int32.le_iff_toInt_le, ← Int32.toInt_inj, Int32.reduceToInt] at h495
          refine ⟨ne, ?_⟩
          rcases v1 with ⟨q1, q2⟩ | ⟨q1, q2⟩
          · obtain rfl : l5 = p2 := i_ext (by omega)
            exact k _ _ (by
              unfold a_chance
              (repeat' split) <;> first | exact qa | (exfalso; omega))
          · obtain rfl : l5 = 0 := i_ext (by rw [q2]; rfl)
            exact k _ _ (by
              unfold a_chance
              (repeat' split) <;> first | exact qb | (exfalso; omega))
      · simp only [Int32.lt_iff_toInt_lt, Int32.le_iff_toInt_le, ← Int32.toInt_inj, Int32.reduceToInt] at h493
        refine cs_X0_becomeLike (by omega) hG (ShC.f39 hG.2.1) (ShC.f32 hG.2.1) (by decide) (fun w17 kw17 lw17 l7w17 => ?_)
        have iw17 := ZC.like i kw17 lw17
        have zw17 := iw17.num
        refine z_drawMoods (by omega) hG (ShC.f39 hG.2.1) iw17.2 ?_
        refine z_gladBehind (by omega) hG (ShC.f39 hG.2.1) iw17.2 ?_
        refine ⟨fun h496 => ?_, fun h497 => ?_⟩
        · simp only [Int32.lt_iff_toInt_lt, Int32.le_iff_toInt_le, ← Int32.toInt_inj, Int32.reduceToInt] at h496
          have := i_lo l6
          have := i_hi l6
          have : (1 : Int32).toInt = 1 := rfl
          have := i_add (x := l6) (y := (1 : Int32)) (by omega) (by omega)
          exact ih _ _ _ iw17 (by first | omega | rfl | assumption) (by first | omega | rfl | assumption) (by first | omega | rfl | assumption) (by omega)
        · simp only [Int32.lt_iff_toInt_lt, Int32.le_iff_toInt_le, ← Int32.toInt_inj, Int32.reduceToInt] at h497
          have := i_lo l5
          have := i_hi l5
          have : (1 : Int32).toInt = 1 := rfl
          have := i_add (x := l5) (y := (1 : Int32)) (by omega) (by omega)
          have := i_lo l6
          have := i_hi l6
          have := i_add (x := l6) (y := (1 : Int32)) (by omega) (by omega)
          exact ih _ _ _ iw17 (by first | omega | rfl | assumption) (by first | omega | rfl | assumption) (by first | omega | rfl | assumption) (by omega)
  refine cs_X4_isIn (by omega) hG (lo := 1) (hi := 20) rfl rfl (fun r1 z498 y499 => ?_)
  refine ⟨fun h500 => ?_, fun h501 => ?_⟩
  · have h500 : ¬ _ := fun q => y499.mpr q h500
    exact k _ _ (by
      unfold a_chance
      (repeat' split) <;> first | rfl | (exfalso; omega))
  · have h501 := y499.mp h501
    refine cs_X4_isIn (by omega) hG (lo := -100) (hi := 100) rfl rfl (fun r4 z502 y503 => ?_)
    refine ⟨fun h504 => ?_, fun h505 => ?_⟩
    · have h504 : ¬ _ := fun q => y503.mpr q h504
      exact k _ _ (by
        unfold a_chance
        (repeat' split) <;> first | rfl | (exfalso; omega))
    · have h505 := y503.mp h505
      refine cs_X4_isIn (by omega) hG (lo := 0) (hi := 1) rfl rfl (fun r7 z506 y507 => ?_)
      refine ⟨fun h508 => ?_, fun h509 => ?_⟩
      · have h508 := y507.mp h508
        have : (0 : Int32).toInt = 0 := rfl
        exact (key _) _ _ _ i (by first | omega | rfl | assumption) (by first | omega | rfl | assumption) (by first | omega | rfl | assumption) (Nat.lt_succ_self _)
      · have h509 : ¬ _ := fun q => y507.mpr q h509
        exact k _ _ (by
          unfold a_chance
          (repeat' split) <;> first | rfl | (exfalso; omega))

theorem p1c_image {Γ : Gx} {d : Nat} (hd : 2 ≤ d) (hG : GC Γ) {w : Wd} (f : FC w) {Q : Int32 → Wd → Prop} (k : ∀ (r : Int32) (w' : Wd), r = 0 → Q r w') : CI Γ d M_X4_image [.ref (gad Γ 0)] w Q := by
  obtain ⟨d, rfl⟩ : ∃ e, d = e + 1 := ⟨d - 1, by omega⟩
  refine con_X4_image hG ?_
  unfold wp_X4_image
  refine cs_X0_becomeLike (by omega) hG (ShC.f46 hG.2.1) (ShC.f32 hG.2.1) (by decide) (fun w2 k2 l2 _ w3 e3 => k _ _ ?_)
  rw [e3, ws_col (by decide), l2]
  exact f.1.1
theorem p1c_count {Γ : Gx} {d : Nat} (hd : 2 ≤ d) (hG : GC Γ) {p1 : Int32} {w : Wd} (f : FC w) {Q : Int32 → Wd → Prop} (k : ∀ (r : Int32) (w' : Wd), r = a_count p1 → Q r w') : CI Γ d M_X4_count [.ref (gad Γ 0), .int p1] w Q := by
  obtain ⟨d, rfl⟩ : ∃ e, d = e + 1 := ⟨d - 1, by omega⟩
  refine con_X4_count hG ?_
  unfold wp_X4_count
  obtain ⟨i, f5, f6, f7, f07, f08, f30, fsh, f92⟩ := f
  refine ⟨fun h => k _ _ ?_, fun h => cs_bitCount (by omega) hG (fun r hr => k _ _ ?_), fun h => k _ _ ?_, fun h => k _ _ ?_, fun h => k _ _ ?_, fun h => k _ _ ?_, fun h => k _ _ ?_⟩
  · subst h
    exact i.1
  · subst h
    exact hr f5
  · subst h
    exact f6
  · subst h
    exact f07
  · subst h
    exact f30
  · subst h
    exact f7
  · simp only [← Int32.toInt_inj, Int32.reduceToInt] at h
    unfold a_count
    (repeat' split) <;> first | rfl | (exfalso; omega)
/-- a sheet becomes a row: its own two cells alone change -/
theorem cs_X2_clear {Γ : Gx} {d : Nat} (hd : 1 ≤ d) (hG : GC Γ) {t : Nat} {p1 p2 : Int32} (hT : ShS Γ t) {w : Wd} {Q : Wd → Prop} (k : ∀ w' : Wd, (∀ c : Nat, c ≠ t → c ≠ t + 1 → w' c = w c) → w' t 1 = p1 → w' t 2 = p2 → Q w') : CV Γ d M_X2_clear [.ref (gad Γ t), .int p1, .int p2] w Q := by
  obtain ⟨d, rfl⟩ : ∃ e, d = e + 1 := ⟨d - 1, by omega⟩
  refine con_X2_clear hG hT ?_
  unfold wp_X2_clear
  intro P c w1 e1 w3 e3
  have h1 : (1 : Int32).toInt = 1 := rfl
  have h0 : (0 : Int32).toInt = 0 := rfl
  have key : ∀ (m : Nat) (l3 : Int32) (u : Wd), (∀ c : Nat, c ≠ t → c ≠ t + 1 → u c = w c) → u t 1 = p1 → u t 2 = p2 → 0 ≤ l3.toInt → l3.toInt ≤ 40 → (40 - l3.toInt).toNat < m → P l3 u := by
    intro m
    induction m with
    | zero => intro l3 u _ _ _ _ _ h; omega
    | succ m ih =>
      intro l3 u hu u1 u2 a1 a2 a3
      refine c _ _ ⟨fun _ => k _ hu u1 u2, fun h => ?_⟩
      simp only [Int32.le_iff_toInt_le, Int32.reduceToInt] at h
      have e := i_add (x := l3) (y := 1) (by omega) (by omega)
      refine ⟨vp_in_iff.mpr (by omega), fun w7 e7 => ih _ _ (fun c b1 b2 => ?_) ?_ ?_ (by omega) (by omega) (by omega)⟩
      · rw [e7, wset_off _ _ _ _ _ b2]
        exact hu c b1 b2
      · rw [e7, ws_col (by omega)]
        exact u1
      · rw [e7, ws_col (by omega)]
        exact u2
  refine key _ _ _ (fun c b1 _ => ?_) ?_ ?_ (by omega) (by omega) (Nat.lt_succ_self _)
  · rw [e3, wset_off _ _ _ _ _ b1, e1, wset_off _ _ _ _ _ b1]
  · rw [e3, ws_row (by decide), e1, ws_hit]
  · rw [e3, ws_hit]

set_option maxRecDepth 20000 in
theorem p1c_back {Γ : Gx} {d : Nat} (hd : 1 ≤ d) (hG : GC Γ) {w : Wd} (f : FC w) {Q : Int32 → Wd → Prop} (k : ∀ (r : Int32) (w' : Wd), (r = -3) → Q r w') : CI Γ d M_X4_back [.ref (gad Γ 0)] w Q := by
  obtain ⟨d, rfl⟩ : ∃ e, d = e + 1 := ⟨d - 1, by omega⟩
  refine con_X4_back hG ?_
  unfold wp_X4_back
  obtain ⟨i, f5, f6, f7, f07, f08, f30, fsh, f92⟩ := f
  have z4 := i.num
  have z08 : (w 0 8).toInt = 0 := by rw [f08]; rfl
  refine ⟨fun h510 => ?_, fun h511 => ?_⟩
  · simp only [Int32.lt_iff_toInt_lt, Int32.le_iff_toInt_le, ← Int32.toInt_inj, Int32.reduceToInt] at h510
    omega
  · simp only [Int32.lt_iff_toInt_lt, Int32.le_iff_toInt_le, ← Int32.toInt_inj, Int32.reduceToInt] at h511
    exact k _ _ rfl

set_option maxRecDepth 20000 in
theorem p1c_sheet {Γ : Gx} {d : Nat} (hd : 3 ≤ d) (hG : GC Γ) {p1 : Int32} {p2 : Int32} {p3 : Int32} {w : Wd} (f : FC w) {Q : Int32 → Wd → Prop} (k : ∀ (r : Int32) (w' : Wd), (r = a_sheet p1 p2 p3) → Q r w') : CI Γ d M_X4_sheet [.ref (gad Γ 0), .int p1, .int p2, .int p3] w Q := by
  obtain ⟨d, rfl⟩ : ∃ e, d = e + 1 := ⟨d - 1, by omega⟩
  refine con_X4_sheet hG ?_
  unfold wp_X4_sheet
  obtain ⟨i, f5, f6, f7, f07, f08, f30, fsh, f92⟩ := f
  have z4 := i.num
  refine cs_X4_isSheet (by omega) hG (fun r1 y512 y513 => ?_)
  refine ⟨fun h514 => ?_, fun h515 => ?_⟩
  · have h514 : ¬ _ := fun q => y513.mpr q h514
    exact k _ _ (by
      unfold a_sheet
      (repeat' split) <;> first | rfl | (exfalso; omega))
  · have h515 := y513.mp h515
    refine cs_X4_isIn (by omega) hG (lo := -1) (hi := 2) rfl rfl (fun r4 z516 y517 => ?_)
    refine ⟨fun h518 => ?_, fun h519 => ?_⟩
    · have h518 := y517.mp h518
      refine ⟨fun h520 => ?_, fun h521 => ?_⟩
      · simp only [Int32.lt_iff_toInt_lt, Int32.le_iff_toInt_le, ← Int32.toInt_inj, Int32.reduceToInt] at h520
        refine ⟨fun h522 => ?_, fun h523 => ?_⟩
        · simp only [Int32.lt_iff_toInt_lt, Int32.le_iff_toInt_le, ← Int32.toInt_inj, Int32.reduceToInt] at h522
          refine ⟨fun h524 => ?_, fun h525 => ?_⟩
          · simp only [Int32.lt_iff_toInt_lt, Int32.le_iff_toInt_le, ← Int32.toInt_inj, Int32.reduceToInt] at h524
            have := i_lo p1
            have := i_hi p1
            refine ⟨vp_in_iff.mpr (by omega), ?_⟩
            have hs526 := ShC.s hG.2.1 p1.toNatClampNeg (tn_lt (by omega) (by omega))
            refine ⟨hs526, ?_⟩
            refine cs_X2_clear (by omega) hG hs526 (fun w13 _ _ _ => ?_)
            exact k _ _ (by
              unfold a_sheet
              (repeat' split) <;> first | rfl | (exfalso; omega))
          · simp only [Int32.lt_iff_toInt_lt, Int32.le_iff_toInt_le, ← Int32.toInt_inj, Int32.reduceToInt] at h525
            exact k _ _ (by
              unfold a_sheet
              (repeat' split) <;> first | rfl | (exfalso; omega))
        · simp only [Int32.lt_iff_toInt_lt, Int32.le_iff_toInt_le, ← Int32.toInt_inj, Int32.reduceToInt] at h523
          exact k _ _ (by
            unfold a_sheet
            (repeat' split) <;> first | rfl | (exfalso; omega))
      · simp only [Int32.lt_iff_toInt_lt, Int32.le_iff_toInt_le, ← Int32.toInt_inj, Int32.reduceToInt] at h521
        have := i_lo p1
        have := i_hi p1
        refine ⟨vp_in_iff.mpr (by omega), ?_⟩
        have hs527 := ShC.s hG.2.1 p1.toNatClampNeg (tn_lt (by omega) (by omega))
        refine ⟨hs527, ?_⟩
        refine cs_X2_clear (by omega) hG hs527 (fun w17 _ _ _ => ?_)
        exact k _ _ (by
          unfold a_sheet
          (repeat' split) <;> first | rfl | (exfalso; omega))
    · have h519 : ¬ _ := fun q => y517.mpr q h519
      exact k _ _ (by
        unfold a_sheet
        (repeat' split) <;> first | rfl | (exfalso; omega))

set_option maxRecDepth 20000 in
theorem p1c_cell {Γ : Gx} {d : Nat} (hd : 3 ≤ d) (hG : GC Γ) {p1 : Int32} {p2 : Int32} {p3 : Int32} {w : Wd} (f : FC w) {Q : Int32 → Wd → Prop} (k : ∀ (r : Int32) (w' : Wd), (r = a_cell p1) → Q r w') : CI Γ d M_X4_cell [.ref (gad Γ 0), .int p1, .int p2, .int p3] w Q := by
  obtain ⟨d, rfl⟩ : ∃ e, d = e + 1 := ⟨d - 1, by omega⟩
  refine con_X4_cell hG ?_
  unfold wp_X4_cell
  obtain ⟨i, f5, f6, f7, f07, f08, f30, fsh, f92⟩ := f
  have z4 := i.num
  refine cs_X4_isSheet (by omega) hG (fun r1 y528 y529 => ?_)
  refine ⟨fun h530 => ?_, fun h531 => ?_⟩
  · have h530 := y529.mp h530
    have := i_lo p1
    have := i_hi p1
    refine ⟨vp_in_iff.mpr (by omega), ?_⟩
    have hs532 := ShC.s hG.2.1 p1.toNatClampNeg (tn_lt (by omega) (by omega))
    refine ⟨hs532, ?_⟩
    have := fsh _ (isS_rfa (j := p1.toNatClampNeg) (tn_lt (by omega) (by omega)))
    refine cs_X2_isMissing (by omega) hG (ShC.s hG.2.1 p1.toNatClampNeg (tn_lt (by omega) (by omega))) (fun r6 z534 y533 => ?_)
    refine ⟨fun h535 => ?_, fun h536 => ?_⟩
    · have h535 : ¬ _ := fun q => y533.mpr q h535
      omega
    · have h536 := y533.mp h536
      exact k _ _ (by
        unfold a_cell
        (repeat' split) <;> first | rfl | (exfalso; omega))
  · have h531 : ¬ _ := fun q => y529.mpr q h531
    exact k _ _ (by
      unfold a_cell
      (repeat' split) <;> first | rfl | (exfalso; omega))

set_option maxRecDepth 20000 in
theorem p1c_copy {Γ : Gx} {d : Nat} (hd : 3 ≤ d) (hG : GC Γ) {p1 : Int32} {p2 : Int32} {p3 : Int32} {p4 : Int32} {p5 : Int32} {w : Wd} (f : FC w) {Q : Int32 → Wd → Prop} (k : ∀ (r : Int32) (w' : Wd), (r = a_copy p1 p3) → Q r w') : CI Γ d M_X4_copy [.ref (gad Γ 0), .int p1, .int p2, .int p3, .int p4, .int p5] w Q := by
  obtain ⟨d, rfl⟩ : ∃ e, d = e + 1 := ⟨d - 1, by omega⟩
  refine con_X4_copy hG ?_
  unfold wp_X4_copy
  obtain ⟨i, f5, f6, f7, f07, f08, f30, fsh, f92⟩ := f
  have z4 := i.num
  refine cs_X4_isSheet (by omega) hG (fun r1 y537 y538 => ?_)
  refine ⟨fun h539 => ?_, fun h540 => ?_⟩
  · have h539 : ¬ _ := fun q => y538.mpr q h539
    exact k _ _ (by
      unfold a_copy
      (repeat' split) <;> first | rfl | (exfalso; omega))
  · have h540 := y538.mp h540
    refine cs_X4_isSheet (by omega) hG (fun r4 y541 y542 => ?_)
    refine ⟨fun h543 => ?_, fun h544 => ?_⟩
    · have h543 := y542.mp h543
      have := i_lo p1
      have := i_hi p1
      refine ⟨vp_in_iff.mpr (by omega), ?_⟩
      have hs545 := ShC.s hG.2.1 p1.toNatClampNeg (tn_lt (by omega) (by omega))
      refine ⟨hs545, ?_⟩
      have := i_lo p3
      have := i_hi p3
      refine ⟨vp_in_iff.mpr (by omega), ?_⟩
      have hs546 := ShC.s hG.2.1 p3.toNatClampNeg (tn_lt (by omega) (by omega))
      refine ⟨hs546, ?_⟩
      have := fsh _ (isS_rfa (j := p1.toNatClampNeg) (tn_lt (by omega) (by omega)))
      refine cs_X2_isMissing (by omega) hG (ShC.s hG.2.1 p1.toNatClampNeg (tn_lt (by omega) (by omega))) (fun r11 z548 y547 => ?_)
      refine ⟨fun h549 => ?_, fun h550 => ?_⟩
      · have h549 := y547.mp h549
        exact k _ _ (by
          unfold a_copy
          (repeat' split) <;> first | rfl | (exfalso; omega))
      · have h550 : ¬ _ := fun q => y547.mpr q h550
        omega
    · have h544 : ¬ _ := fun q => y542.mpr q h544
      exact k _ _ (by
        unfold a_copy
        (repeat' split) <;> first | rfl | (exfalso; omega))

set_option maxRecDepth 20000 in
theorem p1c_people {Γ : Gx} {d : Nat} (hd : 3 ≤ d) (hG : GC Γ) {p1 : Int32} {p2 : Int32} {p3 : Int32} {p4 : Int32} {w : Wd} (f : FC w) {Q : Int32 → Wd → Prop} (k : ∀ (r : Int32) (w' : Wd), (r = a_people p1 p2 p4) → Q r w') : CI Γ d M_X4_people [.ref (gad Γ 0), .int p1, .int p2, .int p3, .int p4] w Q := by
  obtain ⟨d, rfl⟩ : ∃ e, d = e + 1 := ⟨d - 1, by omega⟩
  refine con_X4_people hG ?_
  unfold wp_X4_people
  obtain ⟨i, f5, f6, f7, f07, f08, f30, fsh, f92⟩ := f
  have z4 := i.num
  intro P_66
  intro cP_66
  refine cs_X4_isSheet (by omega) hG (fun r1 y551 y552 => ?_)
  refine ⟨fun h553 => ?_, fun h554 => ?_⟩
  · have h553 : ¬ _ := fun q => y552.mpr q h553
    exact k _ _ (by
      unfold a_people
      (repeat' split) <;> first | rfl | (exfalso; omega))
  · have h554 := y552.mp h554
    refine cs_X4_isIn (by omega) hG (lo := 0) (hi := 2) rfl rfl (fun r4 z555 y556 => ?_)
    refine ⟨fun h557 => ?_, fun h558 => ?_⟩
    · have h557 : ¬ _ := fun q => y556.mpr q h557
      exact k _ _ (by
        unfold a_people
        (repeat' split) <;> first | rfl | (exfalso; omega))
    · have h558 := y556.mp h558
      refine cs_X4_isIn (by omega) hG (lo := 0) (hi := 5) rfl rfl (fun r7 z559 y560 => ?_)
      refine ⟨fun h561 => ?_, fun h562 => ?_⟩
      · have h561 := y560.mp h561
        have := i_lo p1
        have := i_hi p1
        refine ⟨vp_in_iff.mpr (by omega), ?_⟩
        have hs563 := ShC.s hG.2.1 p1.toNatClampNeg (tn_lt (by omega) (by omega))
        refine ⟨hs563, ?_⟩
        have := fsh _ (isS_rfa (j := p1.toNatClampNeg) (tn_lt (by omega) (by omega)))
        refine cs_X2_isMissing (by omega) hG (ShC.s hG.2.1 p1.toNatClampNeg (tn_lt (by omega) (by omega))) (fun r12 z565 y564 => ?_)
        refine ⟨fun h566 => ?_, fun h567 => ?_⟩
        · have h566 : ¬ _ := fun q => y564.mpr q h566
          omega
        · have h567 := y564.mp h567
          exact k _ _ (by
            unfold a_people
            (repeat' split) <;> first | rfl | (exfalso; omega))
      · have h562 : ¬ _ := fun q => y560.mpr q h562
        exact k _ _ (by
          unfold a_people
          (repeat' split) <;> first | rfl | (exfalso; omega))

set_option maxRecDepth 20000 in
theorem p1c_taken {Γ : Gx} {d : Nat} (hd : 3 ≤ d) (hG : GC Γ) {p1 : Int32} {p2 : Int32} {w : Wd} (f : FC w) {Q : Int32 → Wd → Prop} (k : ∀ (r : Int32) (w' : Wd), (r = a_taken p2) → Q r w') : CI Γ d M_X4_taken [.ref (gad Γ 0), .int p1, .int p2] w Q := by
  obtain ⟨d, rfl⟩ : ∃ e, d = e + 1 := ⟨d - 1, by omega⟩
  refine con_X4_taken hG ?_
  unfold wp_X4_taken
  obtain ⟨i, f5, f6, f7, f07, f08, f30, fsh, f92⟩ := f
  have z4 := i.num
  intro P_36
  intro cP_36
  refine cs_X4_isIn (by omega) hG (lo := 0) (hi := 5) rfl rfl (fun r1 z568 y569 => ?_)
  refine ⟨fun h570 => ?_, fun h571 => ?_⟩
  · have h570 := y569.mp h570
    refine cs_X4_isPerson (by omega) hG (by omega) (fun r4 y572 y573 => ?_)
    refine ⟨fun h574 => ?_, fun h575 => ?_⟩
    · have h574 := y573.mp h574
      omega
    · have h575 : ¬ _ := fun q => y573.mpr q h575
      exact k _ _ (by
        unfold a_taken
        (repeat' split) <;> first | rfl | (exfalso; omega))
  · have h571 : ¬ _ := fun q => y569.mpr q h571
    exact k _ _ (by
      unfold a_taken
      (repeat' split) <;> first | rfl | (exfalso; omega))

theorem p1c_text {Γ : Gx} {d : Nat} (hd : 60 ≤ d) (hG : GC Γ) {w : Wd} (f : FC w) {Q : Int32 → Wd → Prop} (k : ∀ (r : Int32) (w' : Wd), r = -100 → Q r w') : CI Γ d M_X4_text [.ref (gad Γ 0)] w Q := by
  obtain ⟨d, rfl⟩ : ∃ e, d = e + 1 := ⟨d - 1, by omega⟩
  refine con_X4_text hG ?_
  unfold wp_X4_text
  obtain ⟨i, f5, f6, f7, f07, f08, f30, fsh, f92⟩ := f
  have e9 : rfa textCells (w 0 7).toNatClampNeg = 9 := by
    rw [f07]
    rfl
  have z30 : (w 3 0).toInt = 0 := by
    rw [f30]
    rfl
  rw [e9]
  refine ⟨fun _ => ⟨by rw [f07]; exact vp_in_iff.mpr ⟨by decide, by decide⟩, isT.sh hG.2.1 (t := 9) (Or.inr (Or.inl rfl)), ?_⟩, fun h => absurd (by rw [f07]; decide) h⟩
  refine cs_X1_readInto (by omega) hG (Or.inr (Or.inl rfl)) (by omega) (by omega) f92 (fun r4 w5 _ _ _ hr w6 e6 => ?_)
  have hr := hr z30
  subst hr
  exact ⟨fun h => absurd h (by decide), fun _ => k _ _ (by decide)⟩
