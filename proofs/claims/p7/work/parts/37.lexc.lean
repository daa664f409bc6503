/-! the class's lexer, exactly -/
def tg (w : Wd) : Nat → Int := fun j => (w 4 j).toInt
theorem RI.tape {t : Nat} {w0 w : Wd} (ht : isT t) (i : RI t w0 w) : w 4 = w0 4 := by
  obtain ⟨_, _, _, _, h1, h2, h3⟩ := ht.n3
  exact i.2.1 4 (by decide) (Ne.symm h1) (Ne.symm h2) (Ne.symm h3)
theorem RI.tgE {t : Nat} {w0 w : Wd} (ht : isT t) (i : RI t w0 w) : tg w = tg w0 := by
  unfold tg
  rw [i.tape ht]
theorem RI.atE {t : Nat} {w0 w : Wd} (ht : isT t) (i : RI t w0 w) {q : Nat} (hq : (w 3 3).toInt = q) : (w 4 (w 3 3).toNatClampNeg).toInt = tg w0 q := by
  have e : (w 3 3).toNatClampNeg = q := by
    have := tn_eq (x := w 3 3) (by omega)
    omega
  rw [i.tape ht, e]
  rfl
def wxL : List Nat := 0 :: 0 :: 0 :: 0 :: 0 :: 0 :: 1 :: 1 :: 1 :: 1 :: 1 :: 2 :: 2 :: 2 :: 2 :: 2 :: 2 :: 2 :: 3 :: 3 :: 3 :: 3 :: 3 :: 3 :: 3 :: 4 :: 4 :: 4 :: 4 :: 4 :: 5 :: 5 :: 5 :: 6 :: 6 :: 6 :: 6 :: 6 :: 7 :: 7 :: 7 :: 7 :: 7 :: 7 :: 8 :: 8 :: 8 :: 8 :: 8 :: 8 :: 9 :: 9 :: 9 :: 10 :: 10 :: 10 :: 10 :: 11 :: 11 :: 11 :: 11 :: 12 :: []
def ofL : List Nat := 0 :: 1 :: 2 :: 3 :: 4 :: 5 :: 0 :: 1 :: 2 :: 3 :: 4 :: 0 :: 1 :: 2 :: 3 :: 4 :: 5 :: 6 :: 0 :: 1 :: 2 :: 3 :: 4 :: 5 :: 6 :: 0 :: 1 :: 2 :: 3 :: 4 :: 0 :: 1 :: 2 :: 0 :: 1 :: 2 :: 3 :: 4 :: 0 :: 1 :: 2 :: 3 :: 4 :: 5 :: 0 :: 1 :: 2 :: 3 :: 4 :: 5 :: 0 :: 1 :: 2 :: 0 :: 1 :: 2 :: 3 :: 0 :: 1 :: 2 :: 3 :: 0 :: []
def wx (q : Nat) : Nat := wxL.getD q 0
def wo (q : Nat) : Nat := ofL.getD q 0
def wdl (i : Nat) : List Int := wds.getD i []
theorem w_sp : ∀ q : Nat, q < 61 → strB 1 q = 32 → wo q = (wdl (wx q)).length ∧ wx q < 12 ∧ wx (q + 1) = wx q + 1 ∧ wo (q + 1) = 0 := by decide +kernel
theorem w_let : ∀ q : Nat, q < 61 → ¬ strB 1 q = 32 → wx (q + 1) = wx q ∧ wo (q + 1) = wo q + 1 ∧ (strB 1 q).toInt = (wdl (wx q)).getD (wo q) 0 := by decide +kernel
theorem wo_le : ∀ q : Nat, q < 62 → wo q ≤ 6 ∧ wx q ≤ 12 := by decide +kernel
theorem mtc_iff {g : Nat → Int} : ∀ (L : List Int) (st : Nat), mtc g st L = true ↔ ∀ j : Nat, j < L.length → g (st + j) = L.getD j 0
  | [], st => by simp [mtc]
  | x :: L, st => by
    unfold mtc
    rw [Bool.and_eq_true, decide_eq_true_iff, mtc_iff L (st + 1)]
    constructor
    · rintro ⟨h1, h2⟩ j hj
      cases j with
      | zero => simpa using h1
      | succ j =>
        simp only [List.length_cons] at hj
        have := h2 j (by omega)
        rw [show st + (j + 1) = st + 1 + j by omega, this]
        simp
    · intro h
      refine ⟨by simpa using h 0 (by simp), fun j hj => ?_⟩
      have := h (j + 1) (by simp only [List.length_cons]; omega)
      rw [show st + 1 + j = st + (j + 1) by omega, this]
      simp
def pre (g : Nat → Int) (st en : Nat) (L : List Int) (m : Nat) : Prop := ∀ j : Nat, j < m → st + j < en ∧ g (st + j) = L.getD j 0
theorem isW_iff {g : Nat → Int} {st en i : Nat} : isW g st en i = true ↔ en = st + (wdl i).length ∧ pre g st en (wdl i) (wdl i).length := by
  unfold isW
  rw [Bool.and_eq_true, decide_eq_true_iff]
  show en = st + (wdl i).length ∧ mtc g st (wdl i) = true ↔ _
  rw [mtc_iff]
  exact ⟨fun h => ⟨h.1, fun j hj => ⟨by omega, h.2 j hj⟩⟩, fun h => ⟨h.1, fun j hj => (h.2 j hj).2⟩⟩
theorem isW_no {g : Nat → Int} {st en i : Nat} (h : ¬ (en = st + (wdl i).length ∧ pre g st en (wdl i) (wdl i).length)) : isW g st en i = false := by
  cases e : isW g st en i with
  | false => rfl
  | true => exact absurd (isW_iff.mp e) h
theorem tk_wordNumber {Γ : Gx} {d : Nat} (hd : 5 ≤ d) (hG : GC Γ) {w : Wd} {st en : Nat} (hs : (w 3 4).toInt = st) (he : (w 3 3).toInt = en) (hse : st ≤ en) (hn : en ≤ 160) {Q : Int32 → Wd → Prop} (k : ∀ r : Int32, ((r.toInt = -1 ∧ ∀ i : Nat, i < 12 → isW (tg w) st en i = false) ∨ ∃ i : Nat, i < 12 ∧ r.toInt = i ∧ isW (tg w) st en i = true ∧ ∀ j : Nat, j < i → isW (tg w) st en j = false) → Q r w) : CI Γ d M_X1_wordNumber [.ref (gad Γ 3)] w Q := by
  obtain ⟨d, rfl⟩ : ∃ e, d = e + 1 := ⟨d - 1, by omega⟩
  refine con_X1_wordNumber hG ?_
  unfold wp_X1_wordNumber
  intro P c
  have hN : (nI (strN 1)).toInt = 61 := rfl
  have hN2 : strN 1 = 61 := rfl
  have h1 : (1 : Int32).toInt = 1 := rfl
  have key : ∀ (m q : Nat) (l1 l2 l3 l4 : Int32), q + m = 61 → l4.toInt = q → l1.toInt = wx q → l2.toInt = st + wo q → (¬ l3 = 0 ↔ pre (tg w) st en (wdl (wx q)) (wo q)) → (∀ i : Nat, i < wx q → isW (tg w) st en i = false) → P l1 l2 l3 l4 w := by
    intro m
    induction m with
    | zero =>
      intro q l1 l2 l3 l4 hq a4 a1 a2 a3 ao
      obtain rfl : q = 61 := by omega
      refine c _ _ _ _ _ ?_
      refine cs_J0_length_8abf5 (by omega) hG (by decide) ⟨fun _ => k _ (Or.inl ⟨rfl, ao⟩), fun h => ?_⟩
      rw [Int32.le_iff_toInt_le, hN] at h
      omega
    | succ m ih =>
      intro q l1 l2 l3 l4 hq a4 a1 a2 a3 ao
      refine c _ _ _ _ _ ?_
      refine cs_J0_length_8abf5 (by omega) hG (by decide) ⟨fun h => ?_, fun _ => ?_⟩
      · rw [Int32.le_iff_toInt_le, hN] at h
        omega
      have ol := wo_le q (by omega)
      have e4 := i_add (x := l4) (y := 1) (by omega) (by omega)
      have e2 := i_add (x := l2) (y := 1) (by omega) (by omega)
      have e1 := i_add (x := l1) (y := 1) (by omega) (by omega)
      have h4 : l4.toNatClampNeg = q := by
        have := tn_eq (x := l4) (by omega)
        omega
      refine cs_J0_charAt_5068e (by omega) hG (by decide) (by omega) (by omega) ?_
      rw [h4]
      refine ⟨fun hsp => ?_, fun hsp => ?_⟩
      · obtain ⟨s1, s2, s3, s4⟩ := w_sp q (by omega) hsp
        have nxt : isW (tg w) st en (wx q) = false → P (l1 + 1) (w 3 4) 1 (l4 + 1) w := fun hno => by
          refine ih (q + 1) _ _ _ _ (by omega) (by omega) (by omega) (by omega) ⟨fun _ j hj => by omega, fun _ => by decide⟩ (fun i hi => ?_)
          by_cases hiq : i = wx q
          · rw [hiq]
            exact hno
          · exact ao i (by omega)
        refine ⟨fun z => nxt (isW_no (fun z2 => ?_)), fun z => ⟨fun z3 => nxt (isW_no (fun z2 => z3 (i_ext ?_))), fun z3 => k _ (Or.inr ⟨wx q, s2, a1, isW_iff.mpr ⟨?_, ?_⟩, ao⟩)⟩⟩
        · rw [← s1] at z2
          exact absurd z (a3.mpr z2.2)
        · omega
        · have := congrArg Int32.toInt z3
          omega
        · rw [← s1]
          exact a3.mp z
      · obtain ⟨s1, s2, s3⟩ := w_let q (by omega) hsp
        have nxt : ∀ v : Int32, (¬ v = 0 ↔ pre (tg w) st en (wdl (wx q)) (wo q) ∧ st + wo q < en ∧ tg w (st + wo q) = (wdl (wx q)).getD (wo q) 0) → P l1 (l2 + 1) v (l4 + 1) w := fun v hv => by
          refine ih (q + 1) _ _ _ _ (by omega) (by omega) (by omega) (by omega) ?_ (by rw [s1]; exact ao)
          rw [hv, s1, s2]
          refine ⟨fun h j hj => ?_, fun h => ⟨fun j hj => h j (by omega), h (wo q) (by omega)⟩⟩
          by_cases hjq : j = wo q
          · rw [hjq]
            exact h.2
          · exact h.1 j (by omega)
        have no : ∀ X : Prop, ¬ X → (¬ (0 : Int32) = 0 ↔ X) := fun X h => ⟨fun q => absurd rfl q, fun q => absurd q h⟩
        refine ⟨fun z => nxt 0 (no _ (fun h => absurd z (a3.mpr h.1))), fun z => ⟨fun z2 => nxt 0 (no _ (fun h => ?_)), fun z2 => ?_⟩⟩
        · rw [Int32.le_iff_toInt_le] at z2
          omega
        · rw [Int32.le_iff_toInt_le] at z2
          have h2 : l2.toNatClampNeg = st + wo q := by
            have := tn_eq (x := l2) (by omega)
            omega
          rw [h2]
          refine ⟨vp_in_iff.mpr (by omega), fun z3 => nxt 0 (no _ (fun h => z3 (i_ext ?_))), fun z3 => nxt 1 ⟨fun _ => ⟨a3.mp z, by omega, ?_⟩, fun _ => by decide⟩⟩
          · rw [s3]
            exact h.2.2
          · rw [← s3]
            exact congrArg Int32.toInt z3
  exact key 61 0 _ _ _ _ rfl rfl rfl (by rw [hs]; rfl) ⟨fun _ j hj => absurd hj (Nat.not_lt_zero _), fun _ => by decide⟩ (fun i hi => absurd hi (Nat.not_lt_zero _))
/-- a place in the reader: where the token begins, where the reader is; brackets and fault as they were -/
def LSq (t : Nat) (w0 w : Wd) (st q : Nat) (u : Wd) : Prop := RI t w0 u ∧ (u 3 3).toInt = q ∧ (u 3 4).toInt = st ∧ (u 3 7).toInt = (w 3 7).toInt ∧ (u 3 8).toInt = (w 3 8).toInt
theorem LSq.any {t st q : Nat} {w0 w u : Wd} {s : Nat} {v : Int32} (ht : isT t) (h : LSq t w0 w st q u) (hs : s = 5 ∨ s = 6) : LSq t w0 w st q (wset u 3 s v) := by
  obtain ⟨i, h1, h2, h3, h4⟩ := h
  exact ⟨RI.any ht i (by omega), by rw [ws_row (by omega)]; exact h1, by rw [ws_row (by omega)]; exact h2, by rw [ws_row (by omega)]; exact h3, by rw [ws_row (by omega)]; exact h4⟩
theorem LSq.on {t st q n : Nat} {w0 w u : Wd} (ht : isT t) (h : LSq t w0 w st q u) (hn : (w0 3 0).toInt = n) (hq : q < n) (hn2 : n ≤ 160) : LSq t w0 w st (q + 1) (wset u 3 3 (u 3 3 + 1)) := by
  obtain ⟨i, h1, h2, h3, h4⟩ := h
  have n1 : (1 : Int32).toInt = 1 := rfl
  have e := i_add (x := u 3 3) (y := 1) (by omega) (by omega)
  have e0 : (u 3 0).toInt = n := by rw [i.2.2.1]; exact hn
  exact ⟨RI.pl ht i (by omega) (by omega), by rw [ws_hit]; omega, by rw [ws_row (by decide)]; exact h2, by rw [ws_row (by decide)]; exact h3, by rw [ws_row (by decide)]; exact h4⟩
theorem tk_readNumeral {Γ : Gx} {d : Nat} (hd : 2 ≤ d) (hG : GC Γ) {t : Nat} (ht : isT t) {w0 w : Wd} {st n : Nat} (L : LSq t w0 w st st w) (hn : (w0 3 0).toInt = n) (hn2 : n ≤ 160) (hst : st < n) (hg : dgt (tg w0 st)) {Q : Wd → Prop} (k : ∀ (u : Wd) (en : Nat) (kk : Int), LSq t w0 w st en u → (u 3 5).toInt = kk → tkAt (tg w0) n st en kk → Q u) : CV Γ d M_X1_readNumeral [.ref (gad Γ 3)] w Q := by
  obtain ⟨d, rfl⟩ : ∃ e, d = e + 1 := ⟨d - 1, by omega⟩
  refine con_X1_readNumeral hG ?_
  unfold wp_X1_readNumeral
  intro P5 P72 c5 c72
  have p72 : ∀ (u : Wd) (q : Nat), LSq t w0 w st q u → rowOf dgt (tg w0) n st q → P72 u := fun u q l hr => by
    have e := i_sub (x := u 3 3) (y := u 3 4) (by have := l.2.1; have := l.2.2.1; have := hr.2.1; omega) (by have := l.2.1; have := l.2.2.1; have := hr.2.1; omega)
    have n4 : (4 : Int32).toInt = 4 := rfl
    have l1 := l.2.1
    have l2 := l.2.2.1
    refine c72 u ⟨fun h v ev => ?_, fun h v ev => ?_⟩
    · rw [Int32.lt_iff_toInt_lt] at h
      subst ev
      exact k _ q 1 (l.any ht (Or.inl rfl)) (by rw [ws_hit]; rfl) (Or.inr (Or.inl ⟨hg, hr, Or.inr ⟨by omega, rfl⟩⟩))
    · rw [Int32.lt_iff_toInt_lt] at h
      subst ev
      exact k _ q 2 (l.any ht (Or.inl rfl)) (by rw [ws_hit]; rfl) (Or.inr (Or.inl ⟨hg, hr, Or.inl ⟨by omega, rfl⟩⟩))
  have key : ∀ (m q : Nat) (u : Wd), q + m = n → st ≤ q → LSq t w0 w st q u → (∀ j : Nat, st ≤ j → j < q → dgt (tg w0 j)) → P5 u := by
    intro m
    induction m with
    | zero =>
      intro q u hq hsq l hj
      have l1 := l.2.1
      have e0 : (u 3 0).toInt = n := by rw [l.1.2.2.1]; exact hn
      refine c5 u ⟨fun _ => p72 u q l ⟨by omega, by omega, hj, fun h => by omega⟩, fun h => ?_⟩
      rw [Int32.le_iff_toInt_le] at h
      omega
    | succ m ih =>
      intro q u hq hsq l hj
      have l1 := l.2.1
      have e0 : (u 3 0).toInt = n := by rw [l.1.2.2.1]; exact hn
      refine c5 u ⟨fun h => ?_, fun h => ⟨vp_in_iff.mpr (by omega), ?_⟩⟩
      · rw [Int32.le_iff_toInt_le] at h
        omega
      have ea := l.1.atE ht l1
      refine cs_X4_isIn (by omega) hG (lo := 48) (hi := 57) rfl rfl (fun r _ y => ⟨fun h0 => ?_, fun h0 => ⟨vp_in_iff.mpr (by omega), fun u2 e2 u3 e3 => ?_⟩⟩)
      · have hno : ¬ dgt (tg w0 q) := fun h2 => absurd h0 (y.mpr (by unfold dgt at h2; omega))
        refine p72 u q l ⟨?_, by omega, hj, fun _ => hno⟩
        by_cases hs2 : st = q
        · rw [hs2] at hg
          exact absurd hg hno
        · omega
      · have hy := y.mp h0
        subst e2
        subst e3
        refine ih (q + 1) _ (by omega) (by omega) ((l.any ht (Or.inr rfl)).on ht hn (by omega) hn2) (fun j h1 h2 => ?_)
        by_cases hjq : j = q
        · rw [hjq]
          unfold dgt
          omega
        · exact hj j h1 (by omega)
  intro w1 e1
  subst e1
  exact key (n - st) st _ (by omega) (Nat.le_refl _) (L.any ht (Or.inr rfl)) (fun j h1 h2 => by omega)
theorem tk_readWord {Γ : Gx} {d : Nat} (hd : 6 ≤ d) (hG : GC Γ) {t : Nat} (ht : isT t) {w0 w : Wd} {st n : Nat} (L : LSq t w0 w st st w) (hn : (w0 3 0).toInt = n) (hn2 : n ≤ 160) (hst : st < n) (hg : ltr (tg w0 st)) {Q : Wd → Prop} (k : ∀ (u : Wd) (en : Nat) (kk : Int), LSq t w0 w st en u → (u 3 5).toInt = kk → tkAt (tg w0) n st en kk → Q u) : CV Γ d M_X1_readWord [.ref (gad Γ 3)] w Q := by
  obtain ⟨d, rfl⟩ : ∃ e, d = e + 1 := ⟨d - 1, by omega⟩
  refine con_X1_readWord hG ?_
  unfold wp_X1_readWord
  intro P0 P43 c0 c43
  have p43 : ∀ (u : Wd) (q : Nat), LSq t w0 w st q u → rowOf ltr (tg w0) n st q → P43 u := fun u q l hr => by
    have l1 := l.2.1
    have l2 := l.2.2.1
    have hr1 := hr.1
    have hr2 := hr.2.1
    refine c43 u (tk_wordNumber (by omega) hG l2 l1 (by omega) (by omega) (fun r hw => ?_))
    rw [l.1.tgE ht] at hw
    intro u2 e2
    have h6 : u2 3 6 = r := by rw [e2, ws_hit]
    have l6 : LSq t w0 w st q u2 := by
      rw [e2]
      exact l.any ht (Or.inr rfl)
    rw [h6]
    have fin : ∀ (v : Int32) (kk : Int), v.toInt = kk → kk = wkA (isW (tg w0) st q) → ∀ u3 : Wd, u3 = wset u2 3 5 v → Q u3 := fun v kk h1 h2 u3 e3 => by
      subst e3
      exact k _ q kk (l6.any ht (Or.inl rfl)) (by rw [ws_hit]; exact h1) (Or.inl ⟨hg, hr, h2⟩)
    rcases hw with ⟨h1, h2⟩ | ⟨i, h1, h2, h3, h4⟩
    · exact ⟨fun h => absurd (i_ext h1) h, fun _ => fin 1 1 rfl (wkA_none h2).symm⟩
    · have n6 : (6 : Int32).toInt = 6 := rfl
      have n4 : (4 : Int32).toInt = 4 := rfl
      have ea := i_add (x := (4 : Int32)) (y := r) (by omega) (by omega)
      have es := i_sub (x := (4 : Int32) + r) (y := 6) (by omega) (by omega)
      refine ⟨fun _ => ⟨fun h => fin _ _ es ?_, fun h => fin 3 3 rfl ?_⟩, fun h => ?_⟩
      · rw [wkA_some h1 h3 h4]
        rw [Int32.le_iff_toInt_le] at h
        unfold wkd
        rw [if_neg (by omega)]
        omega
      · rw [wkA_some h1 h3 h4]
        rw [Int32.le_iff_toInt_le] at h
        unfold wkd
        rw [if_pos (by omega)]
      · rw [h] at h2
        have : (-1 : Int32).toInt = -1 := rfl
        omega
  have turn : ∀ (m q : Nat) (u : Wd), (∀ u2 : Wd, LSq t w0 w st (q + 1) u2 → (∀ j : Nat, st ≤ j → j < q + 1 → ltr (tg w0 j)) → q < n → P0 u2) → q + m = n → st ≤ q → LSq t w0 w st q u → (∀ j : Nat, st ≤ j → j < q → ltr (tg w0 j)) → (((u 3 0) ≤ (u 3 3) → P43 u) ∧ (¬ (u 3 0) ≤ (u 3 3) → (vp_in (u 3 3) 160 ∧ CI Γ d M_X4_isIn [.int (u 4 ((u 3 3)).toNatClampNeg), .int (97 : Int32), .int (122 : Int32)] u (fun r3 w4 => ((r3 = 0 → P43 w4) ∧ (¬ r3 = 0 → (∀ w6 : Wd, w6 = wset w4 3 3 ((w4 3 3) + (1 : Int32)) → P0 w6))))))) := by
    intro m q u ih hq hsq l hj
    have l1 := l.2.1
    have e0 : (u 3 0).toInt = n := by rw [l.1.2.2.1]; exact hn
    refine ⟨fun h => ?_, fun h => ?_⟩
    · rw [Int32.le_iff_toInt_le] at h
      exact p43 u q l ⟨by omega, by omega, hj, fun h => by omega⟩
    · rw [Int32.le_iff_toInt_le] at h
      have ea := l.1.atE ht l1
      refine ⟨vp_in_iff.mpr (by omega), cs_X4_isIn (by omega) hG (lo := 97) (hi := 122) rfl rfl (fun r _ y => ⟨fun h0 => ?_, fun h0 u3 e3 => ?_⟩)⟩
      · have hno : ¬ ltr (tg w0 q) := fun h2 => absurd h0 (y.mpr (by unfold ltr at h2; omega))
        refine p43 u q l ⟨?_, by omega, hj, fun _ => hno⟩
        by_cases hs2 : st = q
        · rw [hs2] at hg
          exact absurd hg hno
        · omega
      · have hy := y.mp h0
        subst e3
        refine ih _ (l.on ht hn (by omega) hn2) (fun j h1 h2 => ?_) (by omega)
        by_cases hjq : j = q
        · rw [hjq]
          unfold ltr
          omega
        · exact hj j h1 (by omega)
  have key : ∀ (m q : Nat) (u : Wd), q + m = n → st ≤ q → LSq t w0 w st q u → (∀ j : Nat, st ≤ j → j < q → ltr (tg w0 j)) → P0 u := by
    intro m
    induction m with
    | zero =>
      intro q u hq hsq l hj
      exact c0 u (turn 0 q u (fun _ _ _ h => by omega) hq hsq l hj)
    | succ m ih =>
      intro q u hq hsq l hj
      exact c0 u (turn (m + 1) q u (fun u2 l2 hj2 _ => ih (q + 1) u2 (by omega) (by omega) l2 hj2) hq hsq l hj)
  exact turn (n - st) st w (fun u2 l2 hj2 h => key (n - (st + 1)) (st + 1) u2 (by omega) (by omega) l2 hj2) (by omega) (Nat.le_refl _) L (fun j h1 h2 => by omega)
theorem sg_m : ∀ m : Nat, m < 256 → ((nI m).toUInt32 % 65536).toInt32 = nI m ∧ ((strB 2 0 = (nI m).toInt8.toInt32 ∨ strB 2 1 = (nI m).toInt8.toInt32 ∨ strB 2 2 = (nI m).toInt8.toInt32 ∨ strB 2 3 = (nI m).toInt8.toInt32 ∨ strB 2 4 = (nI m).toInt8.toInt32 ∨ strB 2 5 = (nI m).toInt8.toInt32 ∨ strB 2 6 = (nI m).toInt8.toInt32 ∨ strB 2 7 = (nI m).toInt8.toInt32) ↔ (m = 40 ∨ m = 41 ∨ m = 42 ∨ m = 43 ∨ m = 45 ∨ m = 59 ∨ m = 60 ∨ m = 61)) := by decide +kernel
theorem sg_x {x : Int32} (h : 0 ≤ x.toInt ∧ x.toInt ≤ 255) : (x.toUInt32 % 65536).toInt32 = x ∧ ((∃ j : Nat, j < strN 2 ∧ strB 2 j = x.toInt8.toInt32) ↔ sg8 x.toInt) := by
  obtain ⟨m, hm⟩ : ∃ m : Nat, m = x.toInt.toNat := ⟨_, rfl⟩
  have hx : x = nI m := i_ext (by rw [nI_toInt (by omega)]; omega)
  have hxm : x.toInt = m := by omega
  obtain ⟨s1, s2⟩ := sg_m m (by omega)
  refine ⟨by rw [hx]; exact s1, ?_⟩
  rw [hxm, hx]
  have e8 : strN 2 = 8 := rfl
  unfold sg8
  refine Iff.trans ⟨?_, ?_⟩ (s2.trans (by omega))
  · rintro ⟨j, hj, hb⟩
    rcases (show j = 0 ∨ j = 1 ∨ j = 2 ∨ j = 3 ∨ j = 4 ∨ j = 5 ∨ j = 6 ∨ j = 7 by omega) with rfl | rfl | rfl | rfl | rfl | rfl | rfl | rfl <;> simp [hb]
  · rintro (h | h | h | h | h | h | h | h)
    · exact ⟨0, by decide, h⟩
    · exact ⟨1, by decide, h⟩
    · exact ⟨2, by decide, h⟩
    · exact ⟨3, by decide, h⟩
    · exact ⟨4, by decide, h⟩
    · exact ⟨5, by decide, h⟩
    · exact ⟨6, by decide, h⟩
    · exact ⟨7, by decide, h⟩
/-- the tape of w0 has n bytes -/
def TP (w0 : Wd) (n : Nat) : Prop := (w0 3 0).toInt = n ∧ n ≤ 160 ∧ ∀ j : Nat, j < n → 0 ≤ tg w0 j ∧ tg w0 j ≤ 255
theorem tk_readToken {Γ : Gx} {d : Nat} (hd : 7 ≤ d) (hG : GC Γ) {t : Nat} (ht : isT t) {w0 w : Wd} (i : RI t w0 w) {n p : Nat} (T : TP w0 n) (hp : (w 3 3).toInt = p) {Q : Wd → Prop} (k0 : ¬ (w 3 8).toInt = -1 → Q w) (k : (w 3 8).toInt = -1 → ∀ (u : Wd) (st en : Nat) (kk : Int), LSq t w0 w st en u → (u 3 5).toInt = kk → Tok (tg w0) n p st en kk → Q u) : CV Γ d M_X1_readToken [.ref (gad Γ 3)] w Q := by
  obtain ⟨d, rfl⟩ : ∃ e, d = e + 1 := ⟨d - 1, by omega⟩
  refine con_X1_readToken hG ?_
  unfold wp_X1_readToken
  obtain ⟨hn, hn2, hby⟩ := T
  intro P9 P61 c9 c61
  refine ⟨fun hf => ?_, fun hf => k0 (fun h => hf (i_ext h))⟩
  have hf1 : (w 3 8).toInt = -1 := by
    rw [hf]
    rfl
  have mi := i.num
  have e00 : (w 3 0).toInt = n := by rw [i.2.2.1]; exact hn
  have n1 : (1 : Int32).toInt = 1 := rfl
  have p61 : ∀ (u : Wd) (q : Nat), RI t w0 u → (u 3 3).toInt = q → (u 3 7).toInt = (w 3 7).toInt → (u 3 8).toInt = (w 3 8).toInt → p ≤ q → q ≤ n → (∀ j : Nat, p ≤ j → j < q → blk (tg w0 j)) → (q < n → ¬ blk (tg w0 q)) → P61 u := fun u q iu h3 h7 h8 hpq hqn hb hnb => by
    refine c61 u (fun v ev => ?_)
    have l : LSq t w0 w q q v := by
      subst ev
      refine ⟨RI.any ht iu (by omega), ?_, ?_, ?_, ?_⟩
      · rw [ws_row (by decide)]
        exact h3
      · rw [ws_hit]
        exact h3
      · rw [ws_row (by decide)]
        exact h7
      · rw [ws_row (by decide)]
        exact h8
    clear ev
    have lv : LSq t w0 v q q v := ⟨l.1, l.2.1, l.2.2.1, rfl, rfl⟩
    have back : ∀ (x : Wd) (en : Nat), LSq t w0 v q en x → LSq t w0 w q en x := fun x en h => ⟨h.1, h.2.1, h.2.2.1, h.2.2.2.1.trans l.2.2.2.1, h.2.2.2.2.trans l.2.2.2.2⟩
    have v0 : (v 3 0).toInt = n := by rw [l.1.2.2.1]; exact hn
    have v3 := l.2.1
    have fin : q < n → ∀ (x : Wd) (en : Nat) (kk : Int), LSq t w0 v q en x → (x 3 5).toInt = kk → tkAt (tg w0) n q en kk → Q x := fun hq x en kk h1 h2 h3 => k hf1 x q en kk (back x en h1) h2 ⟨hpq, hqn, hb, hnb, Or.inr ⟨hq, h3⟩⟩
    refine ⟨fun h => ?_, fun h x ex => ?_⟩
    · rw [Int32.lt_iff_toInt_lt] at h
      have hq : q < n := by omega
      have ea := l.1.atE ht v3
      have hin : vp_in (v 3 3) 160 := vp_in_iff.mpr (by omega)
      refine ⟨hin, cs_X4_isIn (by omega) hG (lo := 97) (hi := 122) rfl rfl (fun r _ y => ⟨fun h0 => ⟨hin, cs_X4_isIn (by omega) hG (lo := 48) (hi := 57) rfl rfl (fun r2 _ y2 => ⟨fun h2 => ⟨hin, ?_⟩, fun h2 => ?_⟩)⟩, fun h0 => ?_⟩)⟩
      · have hl : ¬ ltr (tg w0 q) := fun z => absurd h0 (y.mpr (by unfold ltr at z; omega))
        have hd : ¬ dgt (tg w0 q) := fun z => absurd h2 (y2.mpr (by unfold dgt at z; omega))
        have hby2 := hby q hq
        obtain ⟨x1, x2⟩ := sg_x (x := v 4 (v 3 3).toNatClampNeg) (by omega)
        rw [x1]
        refine cs_J0_indexOf_0f7a4 (by omega) hG (by decide) (by decide) (fun r3 y3 => ⟨fun h3 u2 e2 u3 e3 => ?_, fun h3 => ⟨hin, fun u2 e2 u3 e3 => ?_⟩⟩)
        · rw [Int32.lt_iff_toInt_lt] at h3
          have hs : ¬ sg8 (tg w0 q) := fun z => by
            rw [← ea] at z
            exact absurd h3 ((y3 (by omega) (by omega)).mpr (x2.mpr z))
          have lq := (lv.any (s := 5) (v := 1) ht (Or.inl rfl)).on ht hn hq hn2
          rw [← e2] at lq
          rw [← e3] at lq
          exact fin hq _ (q + 1) 1 lq (by rw [e3, ws_row (by decide), e2, ws_hit]; rfl) (Or.inr (Or.inr ⟨hl, hd, rfl, Or.inr ⟨hs, rfl⟩⟩))
        · rw [Int32.lt_iff_toInt_lt] at h3
          have hs : sg8 (tg w0 q) := by
            rw [← ea]
            exact x2.mp ((y3 (by omega) (by omega)).mp h3)
          have lq := (lv.any (s := 5) (v := v 4 (v 3 3).toNatClampNeg) ht (Or.inl rfl)).on ht hn hq hn2
          rw [← e2] at lq
          rw [← e3] at lq
          exact fin hq _ (q + 1) (tg w0 q) lq (by rw [e3, ws_row (by decide), e2, ws_hit]; exact ea) (Or.inr (Or.inr ⟨hl, hd, rfl, Or.inl ⟨hs, rfl⟩⟩))
      · have hy := y2.mp h2
        exact tk_readNumeral (by omega) hG ht lv hn hn2 hq (by unfold dgt; omega) (fin hq)
      · have hy := y.mp h0
        exact tk_readWord (by omega) hG ht lv hn hn2 hq (by unfold ltr; omega) (fin hq)
    · rw [Int32.lt_iff_toInt_lt] at h
      subst ex
      exact k hf1 _ q q 0 (l.any ht (Or.inl rfl)) (by rw [ws_hit]; rfl) ⟨hpq, hqn, hb, hnb, Or.inl ⟨by omega, by omega, rfl⟩⟩
  have key : ∀ (m q : Nat) (u : Wd), q + m = n → RI t w0 u → (u 3 3).toInt = q → (u 3 7).toInt = (w 3 7).toInt → (u 3 8).toInt = (w 3 8).toInt → p ≤ q → (∀ j : Nat, p ≤ j → j < q → blk (tg w0 j)) → P9 u := by
    intro m
    induction m with
    | zero =>
      intro q u hq iu h3 h7 h8 hpq hb
      have e0 : (u 3 0).toInt = n := by rw [iu.2.2.1]; exact hn
      refine c9 u ⟨fun _ => p61 u q iu h3 h7 h8 hpq (by omega) hb (fun h => by omega), fun h => ?_⟩
      rw [Int32.le_iff_toInt_le] at h
      omega
    | succ m ih =>
      intro q u hq iu h3 h7 h8 hpq hb
      have e0 : (u 3 0).toInt = n := by rw [iu.2.2.1]; exact hn
      have ea := iu.atE ht h3
      have go : blk (tg w0 q) → ∀ u2 : Wd, u2 = wset u 3 3 (u 3 3 + 1) → P9 u2 := fun hbq u2 e2 => by
        have e := i_add (x := u 3 3) (y := 1) (by omega) (by omega)
        subst e2
        refine ih (q + 1) _ (by omega) (RI.pl ht iu (by omega) (by omega)) (by rw [ws_hit]; omega) (by rw [ws_row (by decide)]; exact h7) (by rw [ws_row (by decide)]; exact h8) (by omega) (fun j h1 h2 => ?_)
        by_cases hjq : j = q
        · rw [hjq]
          exact hbq
        · exact hb j h1 (by omega)
      refine c9 u ⟨fun h => ?_, fun h => ⟨vp_in_iff.mpr (by omega), fun hc => go ?_, fun hc => ⟨fun hc2 => ?_, fun hc2 => go ?_⟩⟩⟩
      · rw [Int32.le_iff_toInt_le] at h
        omega
      · rw [hc] at ea
        exact Or.inl ea.symm
      · refine p61 u q iu h3 h7 h8 hpq (by omega) hb (fun _ hbq => ?_)
        rcases hbq with z | z
        · exact hc (i_ext (by rw [ea, z]; rfl))
        · exact hc2 (i_ext (by rw [ea, z]; rfl))
      · rw [hc2] at ea
        exact Or.inr ea.symm
  exact key (n - p) p w (by omega) i hp rfl rfl (Nat.le_refl _) (fun j h1 h2 => by omega)
