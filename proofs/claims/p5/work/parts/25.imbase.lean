/-! the model's world from any state: what it keeps (IM), and the running of a text's part -/
/-- how deep the stack is behind k codes from b on -/
def dep (f : Nat → Int32) (b : Nat) : Nat → Int
  | 0 => 0
  | k + 1 => dep f b k + (if 15 ≤ (f (b + k)).toInt ∨ (f (b + k)).toInt ≤ 5 then 1 else if (f (b + k)).toInt = 13 ∨ (f (b + k)).toInt = 14 then 0 else -1)
def okAt (f : Nat → Int32) (b k : Nat) : Prop := 0 ≤ (f (b + k)).toInt ∧ (((f (b + k)).toInt = 13 ∨ (f (b + k)).toInt = 14) → 1 ≤ dep f b k) ∧ ((6 ≤ (f (b + k)).toInt ∧ (f (b + k)).toInt ≤ 12) → 2 ≤ dep f b k)
def bal (f : Nat → Int32) (b n : Nat) : Prop := ∀ k : Nat, k < n → okAt f b k
theorem dep_le {f : Nat → Int32} {b : Nat} : ∀ k : Nat, dep f b k ≤ k
  | 0 => Int.le_refl 0
  | k + 1 => by
    have := dep_le (f := f) (b := b) k
    unfold dep
    split
    · omega
    · split <;> omega
theorem dep_congr {f g : Nat → Int32} {b : Nat} : ∀ k : Nat, (∀ j : Nat, j < k → g (b + j) = f (b + j)) → dep g b k = dep f b k
  | 0, _ => rfl
  | k + 1, h => by
    unfold dep
    rw [dep_congr k (fun j hj => h j (by omega)), h k (by omega)]
theorem bal.congr {f g : Nat → Int32} {b n : Nat} (e : ∀ j : Nat, j < n → g (b + j) = f (b + j)) (h : bal f b n) : bal g b n := fun k hk => by
  have h1 := h k hk
  unfold okAt at *
  rw [e k hk, dep_congr k (fun j hj => e j (by omega))]
  exact h1
theorem dep_push {f : Nat → Int32} {b k : Nat} (h : 15 ≤ (f (b + k)).toInt ∨ (f (b + k)).toInt ≤ 5) : dep f b (k + 1) = dep f b k + 1 := by
  show _ + _ = _
  rw [if_pos h]
theorem dep_one {f : Nat → Int32} {b k : Nat} (h : (f (b + k)).toInt = 13 ∨ (f (b + k)).toInt = 14) : dep f b (k + 1) = dep f b k := by
  show _ + _ = _
  rw [if_neg (by omega), if_pos h]
  omega
theorem dep_two {f : Nat → Int32} {b k : Nat} (h : 6 ≤ (f (b + k)).toInt ∧ (f (b + k)).toInt ≤ 12) : dep f b (k + 1) = dep f b k - 1 := by
  show _ + _ = _
  rw [if_neg (by omega), if_neg (by omega)]
  omega
theorem dep_nn {f : Nat → Int32} {b n : Nat} (h : bal f b n) : ∀ k : Nat, k ≤ n → 0 ≤ dep f b k
  | 0, _ => Int.le_refl 0
  | k + 1, hk => by
    have i := dep_nn h k (by omega)
    obtain ⟨o1, o2, o3⟩ := h k (by omega)
    by_cases h1 : 15 ≤ (f (b + k)).toInt ∨ (f (b + k)).toInt ≤ 5
    · rw [dep_push h1]
      omega
    · by_cases h2 : (f (b + k)).toInt = 13 ∨ (f (b + k)).toInt = 14
      · rw [dep_one h2]
        exact i
      · have h3 : 6 ≤ (f (b + k)).toInt ∧ (f (b + k)).toInt ≤ 12 := by omega
        have := o3 h3
        rw [dep_two h3]
        omega
def critM (c s : Nat) : Bool := (c == 0 && [2, 6, 7, 9, 13, 32, 33, 35].contains s) || [1, 5, 6, 7, 8, 15, 18].contains c
def kM (w : Wd) : Ky := (w 0 9, w 0 7, tapeOf (w 0 7) (w 5), w 0 6, w 0 32, w 0 35)
def numM (w : Wd) : Prop := 0 ≤ (w 0 2).toInt ∧ (w 0 2).toInt ≤ 5 ∧ 0 ≤ (w 0 33).toInt ∧ (w 0 33).toInt ≤ 5 ∧ 0 ≤ (w 0 7).toInt ∧ (w 0 7).toInt ≤ 160 ∧ 0 ≤ (w 0 6).toInt ∧ (w 0 6).toInt < (w 0 9).toInt ∧ (w 0 9).toInt ≤ 6 ∧ 0 ≤ (w 0 35).toInt ∧ (w 0 35).toInt < (w 0 9).toInt ∧ 0 ≤ (w 0 13).toInt ∧ (w 0 13).toInt ≤ 160 * (w 0 9).toInt - 151
def partM (w : Wd) : Prop := ∀ q : Nat, (q : Int) < 3 * (w 0 9).toInt → 0 ≤ (w 6 q).toInt ∧ 0 ≤ (w 7 q).toInt ∧ (w 7 q).toInt ≤ 160 ∧ (w 6 q).toInt + (w 7 q).toInt ≤ (w 0 13).toInt ∧ bal (w 8) (w 6 q).toInt.toNat (w 7 q).toInt.toNat
def szM (w : Wd) : Prop := ∀ j : Nat, j < 4 → 0 ≤ (w 18 j).toInt ∧ (w 18 j).toInt ≤ 40
def usM (w : Wd) : Prop := ∀ j : Nat, isZ (w 1 j) ∧ isZ (w 15 j)
def IM (κ : Ky) (w : Wd) : Prop := kM w = κ ∧ numM w ∧ partM w ∧ szM w ∧ usM w
theorem IM.num {κ : Ky} {w : Wd} (i : IM κ w) : 0 ≤ (w 0 2).toInt ∧ (w 0 2).toInt ≤ 5 ∧ 0 ≤ (w 0 33).toInt ∧ (w 0 33).toInt ≤ 5 ∧ 0 ≤ (w 0 7).toInt ∧ (w 0 7).toInt ≤ 160 ∧ 0 ≤ (w 0 6).toInt ∧ (w 0 6).toInt < (w 0 9).toInt ∧ (w 0 9).toInt ≤ 6 ∧ 0 ≤ (w 0 35).toInt ∧ (w 0 35).toInt < (w 0 9).toInt ∧ 0 ≤ (w 0 13).toInt ∧ (w 0 13).toInt ≤ 160 * (w 0 9).toInt - 151 := i.2.1
theorem IM.many {κ : Ky} {w : Wd} (i : IM κ w) : 0 ≤ (w 0 2).toInt ∧ (w 0 2).toInt ≤ 5 := ⟨i.2.1.1, i.2.1.2.1⟩
theorem IM.congr {κ : Ky} {w w' : Wd} (h : ∀ a b : Nat, critM a b = true → w' a b = w a b) (i : IM κ w) : IM κ w' := by
  have e5 : w' 5 = w 5 := funext fun j => h 5 j rfl
  have e6 : w' 6 = w 6 := funext fun j => h 6 j rfl
  have e7 : w' 7 = w 7 := funext fun j => h 7 j rfl
  have e8 : w' 8 = w 8 := funext fun j => h 8 j rfl
  have e1 : w' 1 = w 1 := funext fun j => h 1 j rfl
  have e15 : w' 15 = w 15 := funext fun j => h 15 j rfl
  have e18 : w' 18 = w 18 := funext fun j => h 18 j rfl
  obtain ⟨a1, a2, a3, a4, a5⟩ := i
  unfold kM at a1
  unfold numM at a2
  unfold partM at a3
  unfold szM at a4
  unfold usM at a5
  unfold IM kM numM partM szM usM
  rw [e5, e6, e7, e8, e1, e15, e18, h 0 2 rfl, h 0 6 rfl, h 0 7 rfl, h 0 9 rfl, h 0 13 rfl, h 0 32 rfl, h 0 33 rfl, h 0 35 rfl]
  exact ⟨a1, a2, a3, a4, a5⟩
theorem IM.slot {κ : Ky} {w : Wd} {c s : Nat} {v : Int32} (hc : critM c s = false) (i : IM κ w) : IM κ (wset w c s v) := IM.congr (fun a b hab => by
  unfold wset
  rw [if_neg]
  rintro ⟨rfl, rfl⟩
  rw [hc] at hab
  cases hab) i
theorem IM.cell {κ : Ky} {w : Wd} {c s : Nat} {v : Int32} (hc : c ≠ 0 ∧ [1, 5, 6, 7, 8, 15, 18].contains c = false) (i : IM κ w) : IM κ (wset w c s v) := IM.slot (by
  unfold critM
  rw [hc.2]
  have : (c == 0) = false := by simp [hc.1]
  rw [this]
  rfl) i
theorem im_X5_both {Γ : Gx} {d : Nat} (hd : 1 ≤ d) (hG : GM Γ) {p1 p2 p3 : Int32} {w : Wd} {Q : Int32 → Wd → Prop} (k : ∀ r : Int32, Q r w) : CI Γ d M_X5_both [.int p1, .int p2, .int p3] w Q := by
  obtain ⟨d, rfl⟩ : ∃ e, d = e + 1 := ⟨d - 1, by omega⟩
  refine con_X5_both hG ?_
  unfold wp_X5_both
  exact ⟨fun _ => k _, fun _ => k _, fun _ => k _, fun _ => ⟨fun _ => k _, fun _ => k _⟩, fun _ => ⟨fun _ => k _, fun _ => k _⟩, fun _ => ⟨fun _ => k _, fun _ => ⟨fun _ => k _, fun _ => k _⟩⟩, fun _ => ⟨fun _ => k _, fun _ => ⟨fun _ => k _, fun _ => k _⟩⟩⟩
set_option maxHeartbeats 4000000 in
set_option maxRecDepth 20000 in
theorem im_X5_ruled {Γ : Gx} {d : Nat} (hd : 2 ≤ d) (hG : GM Γ) {κ : Ky} {p1 : Int32} {w : Wd} (i : IM κ w) (hp : 0 ≤ p1.toInt ∧ p1.toInt ≤ 2) {Q : Int32 → Wd → Prop} (k : ∀ (r : Int32) (w' : Wd), IM κ w' → Q r w') : CI Γ d M_X5_ruled [.ref (gad Γ 0), .int p1] w Q := by
  obtain ⟨d, rfl⟩ : ∃ e, d = e + 1 := ⟨d - 1, by omega⟩
  refine con_X5_ruled hG ?_
  unfold wp_X5_ruled
  intro P19 P61 P109 c19 c61 c109
  have z := i.num
  have n3 := i_mulL (c := (3 : Int32)) (v := 3) (x := w 0 6) rfl (by omega) (by omega)
  have nq := i_add (x := (3 : Int32) * w 0 6) (y := p1) (by omega) (by omega)
  have hq := tn_eq (x := (3 : Int32) * w 0 6 + p1) (by omega)
  have hv : vp_in ((3 : Int32) * w 0 6 + p1) 18 := vp_in_iff.mpr (by omega)
  obtain ⟨b0, b1, b2, b3, b4⟩ := i.2.2.1 ((3 : Int32) * w 0 6 + p1).toNatClampNeg (by omega)
  clear nq n3
  generalize hqq : ((3 : Int32) * w 0 6 + p1).toNatClampNeg = q at b0 b1 b2 b3 b4
  obtain ⟨b, hb⟩ : ∃ b : Nat, b = (w 6 q).toInt.toNat := ⟨_, rfl⟩
  obtain ⟨n, hn⟩ : ∃ n : Nat, n = (w 7 q).toInt.toNat := ⟨_, rfl⟩
  rw [← hb, ← hn] at b4
  have n1 : (1 : Int32).toInt = 1 := rfl
  have key : ∀ (m j : Nat) (l2 l3 l4 : Int32) (u : Wd), IM κ u → u 8 = w 8 → u 7 = w 7 → u 0 6 = w 0 6 → l3 = w 6 q → l4.toInt = b + j → j ≤ n → l2.toInt = dep (w 8) b j → n - j < m → P19 l2 l3 l4 u := by
    intro m
    induction m with
    | zero => exact fun _ _ _ _ _ _ _ _ _ _ _ _ _ h => absurd h (Nat.not_lt_zero _)
    | succ m ih =>
      intro j l2 l3 l4 u iu u8 u7 u6 e3 e4 hj e2 hm
      subst e3
      have dl := dep_le (f := w 8) (b := b) j
      have dn := dep_nn b4 j hj
      have nl := i_add (x := w 6 q) (y := w 7 q) (by omega) (by omega)
      refine c19 _ _ _ _ ?_
      rw [u6, hqq, u7]
      refine ⟨hv, fun _ => k _ _ iu, fun h => ?_⟩
      simp only [Int32.le_iff_toInt_le] at h
      have hl : l4.toNatClampNeg = b + j := by
        have := tn_eq (x := l4) (by omega)
        omega
      obtain ⟨o1, o2, o3⟩ := b4 j (by omega)
      have a4 := i_add (x := l4) (y := 1) (by omega) (by omega)
      have step : ∀ (l : Int32) (v : Wd), IM κ v → v 8 = w 8 → v 7 = w 7 → v 0 6 = w 0 6 → l.toInt = dep (w 8) b (j + 1) → P19 l (w 6 q) (l4 + 1) v := fun l v iv v8 v7 v6 el => ih (j + 1) _ _ _ v iv v8 v7 v6 rfl (by omega) (by omega) el (by omega)
      rw [hl, u8]
      generalize hc : w 8 (b + j) = c at o1 o2 o3
      have w10 : ∀ (x : Nat) (y : Int32) (v : Wd), v = wset u 10 x y → IM κ v ∧ v 8 = w 8 ∧ v 7 = w 7 ∧ v 0 6 = w 0 6 := fun x y v e => by
        subst e
        exact ⟨IM.cell ⟨by decide, rfl⟩ iu, (wset_off _ _ _ _ _ (by decide)).trans u8, (wset_off _ _ _ _ _ (by decide)).trans u7, (ws_col (by decide)).trans u6⟩
      have push : (15 ≤ c.toInt ∨ c.toInt ≤ 5) → P61 l2 (w 6 q) l4 c u := fun h => by
        have e := dep_push (f := w 8) (b := b) (k := j) (by rw [hc]; exact h)
        have a2 := i_add (x := l2) (y := 1) (by omega) (by omega)
        refine c61 _ _ _ _ _ ⟨fun h15 => ?_, fun _ => ⟨vp_in_iff.mpr (by omega), fun v ev => ?_⟩⟩
        · simp only [Int32.lt_iff_toInt_lt, Int32.reduceToInt] at h15
          refine ⟨vp_in_iff.mpr (by omega), vp_in_iff.mpr (by omega), fun v ev => ?_⟩
          obtain ⟨g1, g2, g3, g4⟩ := w10 _ _ v ev
          exact step _ v g1 g2 g3 g4 (by omega)
        · obtain ⟨g1, g2, g3, g4⟩ := w10 _ _ v ev
          exact step _ v g1 g2 g3 g4 (by omega)
      have one : (c.toInt = 13 ∨ c.toInt = 14) → P109 l2 (w 6 q) l4 c u := fun h => by
        have e := dep_one (f := w 8) (b := b) (k := j) (by rw [hc]; exact h)
        have := o2 h
        have a2 := i_sub (x := l2) (y := 1) (by omega) (by omega)
        refine c109 _ _ _ _ _ ⟨fun _ => ⟨vp_in_iff.mpr (by omega), fun _ v ev => ?_, fun _ v ev => ?_⟩, fun _ => ⟨vp_in_iff.mpr (by omega), fun v ev => ?_⟩⟩
        · obtain ⟨g1, g2, g3, g4⟩ := w10 _ _ v ev
          exact step _ v g1 g2 g3 g4 (by omega)
        · obtain ⟨g1, g2, g3, g4⟩ := w10 _ _ v ev
          exact step _ v g1 g2 g3 g4 (by omega)
        · obtain ⟨g1, g2, g3, g4⟩ := w10 _ _ v ev
          exact step _ v g1 g2 g3 g4 (by omega)
      refine ⟨vp_in_iff.mpr (by omega), fun h => push ?_, fun h => ⟨fun h5 => ⟨fun h13 => one ?_, fun h13 => ⟨fun h14 => ?_, fun h14 => one ?_⟩⟩, fun h5 => push ?_⟩⟩
      · simp only [Int32.le_iff_toInt_le, Int32.reduceToInt] at h
        exact Or.inl h
      · left
        rw [h13]
        rfl
      · simp only [Int32.lt_iff_toInt_lt, Int32.le_iff_toInt_le, ← Int32.toInt_inj, Int32.reduceToInt] at h h5 h13 h14
        have hb2 : 6 ≤ c.toInt ∧ c.toInt ≤ 12 := by omega
        have := o3 hb2
        have e := dep_two (f := w 8) (b := b) (k := j) (by rw [hc]; exact hb2)
        have ey := i_dec (x := l2) (by omega)
        generalize l2 + (-1) = y at ey ⊢
        have a2 := i_sub (x := y) (y := 1) (by omega) (by omega)
        refine ⟨vp_in_iff.mpr (by omega), vp_in_iff.mpr (by omega), im_X5_both (by omega) hG (fun r v ev => ?_)⟩
        obtain ⟨g1, g2, g3, g4⟩ := w10 _ _ v ev
        exact step _ v g1 g2 g3 g4 (by omega)
      · right
        rw [h14]
        rfl
      · simp only [Int32.lt_iff_toInt_lt, Int32.reduceToInt] at h5
        exact Or.inr (by omega)
  refine ⟨hv, fun v2 e2 => ?_⟩
  exact key _ 0 _ _ _ w i rfl rfl rfl e2 (by rw [e2]; omega) (by omega) rfl (Nat.lt_succ_self _)
