/-! the five calls of the class that change what the rest hangs on, exactly -/
theorem rowOf.congr {c : Int → Prop} {g g2 : Nat → Int} {n st en : Nat} (e : ∀ j : Nat, j < n → g2 j = g j) (h : rowOf c g n st en) : rowOf c g2 n st en := by
  obtain ⟨a1, a2, a3, a4⟩ := h
  refine ⟨a1, a2, fun j h1 h2 => ?_, fun h => ?_⟩
  · rw [e j (by omega)]
    exact a3 j h1 h2
  · rw [e en h]
    exact a4 h
theorem mtc.congr {g g2 : Nat → Int} : ∀ (L : List Int) (st n : Nat), (∀ j : Nat, j < n → g2 j = g j) → st + L.length ≤ n → mtc g2 st L = mtc g st L
  | [], _, _, _, _ => rfl
  | x :: L, st, n, e, h => by
    simp only [List.length_cons] at h
    unfold mtc
    rw [e st (by omega), mtc.congr L (st + 1) n e (by omega)]
theorem isW.congr {g g2 : Nat → Int} {n st en : Nat} (e : ∀ j : Nat, j < n → g2 j = g j) (h : en ≤ n) : isW g2 st en = isW g st en := by
  funext i
  unfold isW
  by_cases q : en = st + (wds.getD i []).length
  · rw [mtc.congr _ st n e (by omega)]
  · rw [decide_eq_false q, Bool.false_and, Bool.false_and]
theorem tkAt.congr {g g2 : Nat → Int} {n st en : Nat} {k : Int} (e : ∀ j : Nat, j < n → g2 j = g j) (hs : st < n) (h : tkAt g n st en k) : tkAt g2 n st en k := by
  unfold tkAt at *
  rw [e st hs]
  rcases h with ⟨a1, a2, a3⟩ | ⟨a1, a2, a3⟩ | h
  · refine Or.inl ⟨a1, a2.congr e, ?_⟩
    rw [isW.congr e a2.2.1]
    exact a3
  · exact Or.inr (Or.inl ⟨a1, a2.congr e, a3⟩)
  · exact Or.inr (Or.inr h)
theorem Tok.congr {g g2 : Nat → Int} {n p st en : Nat} {k : Int} (e : ∀ j : Nat, j < n → g2 j = g j) (h : Tok g n p st en k) : Tok g2 n p st en k := by
  obtain ⟨a1, a2, a3, a4, a5⟩ := h
  refine ⟨a1, a2, fun j h1 h2 => ?_, fun h => ?_, ?_⟩
  · rw [e j (by omega)]
    exact a3 j h1 h2
  · rw [e st h]
    exact a4 h
  · rcases a5 with a5 | ⟨h1, h2⟩
    · exact Or.inl a5
    · exact Or.inr ⟨h1, h2.congr e h1⟩
theorem PFin.congr {g g2 : Nat → Int} {n st en : Nat} {k : Int} {σ : PS} {o : OC} (e : ∀ j : Nat, j < n → g2 j = g j) (h : PFin g n st en k σ o) : PFin g2 n st en k σ o := by
  refine h (PFin g2 n) (fun st en k σ o h => PFin.roll ?_)
  rcases h with h | ⟨h1, h | ⟨τ, s2, e2, k2, h2, h3, h4⟩⟩
  · exact Or.inl h
  · exact Or.inr ⟨h1, Or.inl h⟩
  · exact Or.inr ⟨h1, Or.inr ⟨τ, s2, e2, k2, h2, h3.congr e, h4⟩⟩
theorem PartO.congr {g g2 : Nat → Int} {n p : Nat} {i : Int} {o : OC} (e : ∀ j : Nat, j < n → g2 j = g j) (h : PartO g n p i o) : PartO g2 n p i o := by
  obtain ⟨st, en, k, tk, h | ⟨h, s2, e2, k2, t2, hp⟩⟩ := h
  · exact ⟨st, en, k, tk.congr e, Or.inl h⟩
  · exact ⟨st, en, k, tk.congr e, Or.inr ⟨h, s2, e2, k2, t2.congr e, hp.congr e⟩⟩
theorem TF.congr {g g2 : Nat → Int} {n : Nat} (e : ∀ j : Nat, j < n → g2 j = g j) : ∀ (m p : Nat) (r : Int), TF g n m p r → TF g2 n m p r
  | 0, _, _, ⟨st, en, k, tk, h⟩ => ⟨st, en, k, tk.congr e, h⟩
  | _ + 1, _, _, .inl ⟨s, h1, h2⟩ => Or.inl ⟨s, h1.congr e, h2⟩
  | m + 1, _, _, .inr ⟨p2, h1, h2⟩ => Or.inr ⟨p2, h1.congr e, TF.congr e m p2 _ h2⟩
/-- the bytes of what is kept of the tape -/
def tgK (κ : Ky) : Nat → Int := fun j => (κ.2.2.1 j).toInt
def byOK (κ : Ky) : Prop := ∀ j : Nat, 0 ≤ tgK κ j ∧ tgK κ j ≤ 255
theorem tapeOf_lt {n : Int32} {f : Nat → Int32} {j : Nat} (h : (j : Int) < n.toInt) : tapeOf n f j = f j := by
  unfold tapeOf
  rw [if_pos h]
theorem tapeOf_ge {n : Int32} {f : Nat → Int32} {j : Nat} (h : ¬ (j : Int) < n.toInt) : tapeOf n f j = 0 := by
  unfold tapeOf
  rw [if_neg h]
def putB (f : Nat → Int32) (n p : Int32) : Nat → Int32 := fun j => if j = n.toNatClampNeg then p else f j
theorem tape_put {n p : Int32} {f f2 : Nat → Int32} (h0 : 0 ≤ n.toInt) (h1 : n.toInt < 160) (e : ∀ j : Nat, f2 j = if j = n.toNatClampNeg then p else f j) : tapeOf (n + 1) f2 = putB (tapeOf n f) n p := by
  funext j
  have n1 : (1 : Int32).toInt = 1 := rfl
  have ea := i_add (x := n) (y := 1) (by omega) (by omega)
  have et := tn_eq (x := n) h0
  unfold putB
  by_cases hj : j = n.toNatClampNeg
  · rw [if_pos hj, tapeOf_lt (by omega), e, if_pos hj]
  · rw [if_neg hj]
    by_cases hl : (j : Int) < n.toInt
    · rw [tapeOf_lt (by omega), tapeOf_lt hl, e, if_neg hj]
    · rw [tapeOf_ge (by omega), tapeOf_ge hl]
theorem tape_nil (f : Nat → Int32) : tapeOf 0 f = fun _ => 0 := by
  funext j
  exact tapeOf_ge (by
    have : (0 : Int32).toInt = 0 := rfl
    omega)
/-- feed, force, image, back, of what is kept -/
def feedK (κ : Ky) (p : Int32) : Ky := if 0 ≤ p.toInt ∧ p.toInt ≤ 255 then (if κ.2.1.toInt = 160 then κ else (κ.1, κ.2.1 + 1, putB κ.2.2.1 κ.2.1 p, κ.2.2.2)) else κ
def feedA (κ : Ky) (p : Int32) : Int32 := if 0 ≤ p.toInt ∧ p.toInt ≤ 255 then (if κ.2.1.toInt = 160 then -4 else κ.2.1 + 1) else -2
def forceK (κ : Ky) (p : Int32) : Ky := if 0 ≤ p.toInt ∧ p.toInt < κ.1.toInt then (κ.1, κ.2.1, κ.2.2.1, p, κ.2.2.2.2) else κ
def forceA (κ : Ky) (p : Int32) : Int32 := if 0 ≤ p.toInt ∧ p.toInt < κ.1.toInt then κ.2.2.2.1 else -2
def imageK (κ : Ky) : Ky := (κ.1, κ.2.1, κ.2.2.1, κ.2.2.2.1, 1, κ.2.2.2.1)
def backK (κ : Ky) : Ky := if κ.2.2.2.2.1 = 0 then κ else (κ.1, κ.2.1, κ.2.2.1, κ.2.2.2.2.2, κ.2.2.2.2.1, κ.2.2.2.2.2)
/-- text, of what is kept: what it may answer, and what is kept then -/
def TxR (κ : Ky) (r : Int32) (κ2 : Ky) : Prop := (¬ κ.1.toInt < 6 ∧ r = -4 ∧ κ2 = κ) ∨ (κ.1.toInt < 6 ∧ ∃ x : Int32, TextO (tgK κ) κ.2.1.toInt.toNat x.toInt ∧ ((x.toInt = -1 ∧ r = κ.1 ∧ κ2 = (κ.1 + 1, 0, (fun _ => 0), κ.2.2.2)) ∨ (¬ x.toInt = -1 ∧ r = -100 - x ∧ κ2 = (κ.1, 0, (fun _ => 0), κ.2.2.2))))
theorem byOK.feed {κ : Ky} (h : byOK κ) (p : Int32) : byOK (feedK κ p) := by
  unfold feedK
  by_cases q : 0 ≤ p.toInt ∧ p.toInt ≤ 255
  · rw [if_pos q]
    by_cases q2 : κ.2.1.toInt = 160
    · rw [if_pos q2]
      exact h
    · rw [if_neg q2]
      intro j
      show 0 ≤ (putB κ.2.2.1 κ.2.1 p j).toInt ∧ (putB κ.2.2.1 κ.2.1 p j).toInt ≤ 255
      unfold putB
      by_cases hj : j = κ.2.1.toNatClampNeg
      · rw [if_pos hj]
        exact q
      · rw [if_neg hj]
        exact h j
  · rw [if_neg q]
    exact h
theorem byOK.force {κ : Ky} (h : byOK κ) (p : Int32) : byOK (forceK κ p) := by
  unfold forceK
  by_cases q : 0 ≤ p.toInt ∧ p.toInt < κ.1.toInt
  · rw [if_pos q]
    exact h
  · rw [if_neg q]
    exact h
theorem byOK.image {κ : Ky} (h : byOK κ) : byOK (imageK κ) := h
theorem byOK.back {κ : Ky} (h : byOK κ) : byOK (backK κ) := by
  unfold backK
  by_cases q : κ.2.2.2.2.1 = 0
  · rw [if_pos q]
    exact h
  · rw [if_neg q]
    exact h
theorem byOK.text {κ κ2 : Ky} {r : Int32} (h : byOK κ) (T : TxR κ r κ2) : byOK κ2 := by
  have z : 0 ≤ (0 : Int32).toInt ∧ (0 : Int32).toInt ≤ 255 := by decide
  rcases T with ⟨_, _, e⟩ | ⟨_, x, _, ⟨_, _, e⟩ | ⟨_, _, e⟩⟩
  · rw [e]
    exact h
  · rw [e]
    exact fun _ => z
  · rw [e]
    exact fun _ => z
theorem IC.to {κ κ2 : Ky} {w : Wd} (i : IC κ w) (h : κ = κ2) : IC κ2 w := h ▸ i
section ICK
variable {Γ : Gx} {d : Nat} {κ : Ky} {w : Wd}
set_option maxRecDepth 20000 in
theorem ik_X4_feed (hd : 2 ≤ d) (hG : GC Γ) {p1 : Int32} (i : IC κ w) {Q : Int32 → Wd → Prop} (k : ∀ (r : Int32) (w' : Wd), r = feedA κ p1 → IC (feedK κ p1) w' → Q r w') : CI Γ d M_X4_feed [.ref (gad Γ 0), .int p1] w Q := by
  obtain ⟨d, rfl⟩ : ∃ e, d = e + 1 := ⟨d - 1, by omega⟩
  refine con_X4_feed hG ?_
  unfold wp_X4_feed
  obtain ⟨d, rfl⟩ : ∃ e, d = e + 1 := ⟨d - 1, by omega⟩
  have ek := i.1
  have z := i.h3
  have e2 : κ.2.1 = w 3 0 := by rw [← ek]; rfl
  refine cs_X4_isIn (by omega) hG (lo := 0) (hi := 255) rfl rfl (fun r1 _ y => ⟨fun h => ?_, fun h => ?_⟩)
  · have hp := y.mp h
    refine con_X1_takeByte hG ?_
    unfold wp_X1_takeByte
    have n160 : (160 : Int32).toInt = 160 := rfl
    have n1 : (1 : Int32).toInt = 1 := rfl
    refine ⟨fun h2 => ?_, fun h2 => ⟨fun _ => k _ _ ?_ ?_, fun q => absurd rfl q⟩⟩
    · rw [Int32.lt_iff_toInt_lt] at h2
      have ea := i_add (x := w 3 0) (y := 1) (by omega) (by omega)
      refine ⟨vp_in_iff.mpr (by omega), fun w3 e3 w5 e5 => ⟨fun q => absurd q (by decide), fun _ => k _ _ ?_ ?_⟩⟩
      · unfold feedA
        rw [if_pos hp, e2, if_neg (by omega), e5, ws_hit, e3, ws_col (by decide)]
      · have h30 : w5 3 0 = w 3 0 + 1 := by rw [e5, ws_hit, e3, ws_col (by decide)]
        have hk : ∀ c : Nat, c ≠ 3 → c ≠ 4 → w5 c = w c := fun c b3 b4 => by rw [e5, wset_off _ _ _ _ _ b3, e3, wset_off _ _ _ _ _ b4]
        have h4 : ∀ j : Nat, w5 4 j = if j = (w 3 0).toNatClampNeg then p1 else w 4 j := fun j => by
          rw [e5, ws_col (by decide), e3]
          by_cases hj : j = (w 3 0).toNatClampNeg
          · rw [if_pos hj, hj, ws_hit]
          · rw [if_neg hj, ws_row hj]
        have i5 : IC (kC w5) w5 := by
          refine i.re (fun x hx => ?_) (by rw [hk 0 (by decide) (by decide)]; exact i.h7) (by rw [h30]; omega) (fun x hx => hk x (isS_ne hx (by omega)) (isS_ne hx (by omega))) (fun t ht => ?_)
          · have e : w5 x = w x := hk x (by have := isF_lo hx; omega) (by have := isF_lo hx; omega)
            exact famOK.of (by rw [e]) (by rw [e]) (i.f hx)
          · rw [hk _ (isT_ne ht (by omega)) (isT_ne ht (by omega))]
            exact i.2.2.2 t ht
        refine i5.to ?_
        unfold feedK
        rw [if_pos hp, e2, if_neg (by omega), ← ek]
        unfold kC
        rw [h30, tape_put (by omega) (by omega) h4, hk 0 (by decide) (by decide), hk 32 (by decide) (by decide), hk 46 (by decide) (by decide)]
    · rw [Int32.lt_iff_toInt_lt] at h2
      unfold feedA
      rw [if_pos hp, e2, if_pos (by omega)]
    · rw [Int32.lt_iff_toInt_lt] at h2
      refine i.to ?_
      unfold feedK
      rw [if_pos hp, e2, if_pos (by omega)]
  · have hp : ¬ (0 ≤ p1.toInt ∧ p1.toInt ≤ 255) := fun q => y.mpr q h
    refine k _ _ ?_ (i.to ?_)
    · unfold feedA
      rw [if_neg hp]
    · unfold feedK
      rw [if_neg hp]
set_option maxRecDepth 20000 in
theorem ik_X4_force (hd : 2 ≤ d) (hG : GC Γ) {p1 : Int32} (i : IC κ w) {Q : Int32 → Wd → Prop} (k : ∀ (r : Int32) (w' : Wd), r = forceA κ p1 → IC (forceK κ p1) w' → Q r w') : CI Γ d M_X4_force [.ref (gad Γ 0), .int p1] w Q := by
  obtain ⟨d, rfl⟩ : ∃ e, d = e + 1 := ⟨d - 1, by omega⟩
  refine con_X4_force hG ?_
  unfold wp_X4_force
  have z := i.h7
  have ek := i.1
  have e1 : κ.1 = w 0 7 := by rw [← ek]; rfl
  have n1 : (1 : Int32).toInt = 1 := rfl
  have e := i_sub (x := w 0 7) (y := 1) (by omega) (by omega)
  refine cs_X4_isIn (by omega) hG (lo := 0) (hi := (w 0 7 - 1).toInt) rfl rfl (fun r1 _ y => ⟨fun h => ?_, fun h => ?_⟩)
  · have hp := y.mp h
    have hp2 : 0 ≤ p1.toInt ∧ p1.toInt < κ.1.toInt := by
      rw [e1]
      omega
    intro w4 e4
    subst e4
    have hk : ∀ c : Nat, c ≠ 32 → wset w 32 7 p1 c = w c := fun c hc => wset_off _ _ _ _ _ hc
    have i4 : IC (kC (wset w 32 7 p1)) (wset w 32 7 p1) := by
      refine i.re (fun x hx => ?_) (by rw [hk 0 (by decide)]; exact i.h7) (by rw [hk 3 (by decide)]; exact i.h3) (fun x hx => hk x (isS_ne hx (by omega))) (fun t ht => ?_)
      · by_cases e2 : x = 32
        · subst e2
          have f := i.f hx
          unfold famOK at *
          rw [ws_row (by decide), ws_hit]
          exact ⟨f.1, f.2.1, by omega, by omega⟩
        · exact famOK.of (by rw [hk x e2]) (by rw [hk x e2]) (i.f hx)
      · rw [hk _ (isT_ne ht (by omega))]
        exact i.2.2.2 t ht
    refine k _ _ ?_ (i4.to ?_)
    · unfold forceA
      rw [if_pos hp2, ← ek]
      rfl
    · unfold forceK
      rw [if_pos hp2, ← ek]
      unfold kC
      rw [hk 0 (by decide), hk 3 (by decide), hk 4 (by decide), hk 46 (by decide), ws_hit]
  · have hp2 : ¬ (0 ≤ p1.toInt ∧ p1.toInt < κ.1.toInt) := fun q => y.mpr (by rw [e1] at q; omega) h
    refine k _ _ ?_ (i.to ?_)
    · unfold forceA
      rw [if_neg hp2]
    · unfold forceK
      rw [if_neg hp2]
set_option maxRecDepth 20000 in
theorem ik_X4_image (hd : 2 ≤ d) (hG : GC Γ) (i : IC κ w) {Q : Int32 → Wd → Prop} (k : ∀ (r : Int32) (w' : Wd), IC (imageK κ) w' → Q r w') : CI Γ d M_X4_image [.ref (gad Γ 0)] w Q := by
  obtain ⟨d, rfl⟩ : ∃ e, d = e + 1 := ⟨d - 1, by omega⟩
  refine con_X4_image hG ?_
  unfold wp_X4_image
  refine cs_X0_becomeLike (by omega) hG (ShC.f46 hG.2.1) (ShC.f32 hG.2.1) (by decide) (fun w2 k2 l2 l7 w3 e3 => ?_)
  have i2 := IC.likeF (Or.inr (Or.inr rfl)) (Or.inl rfl) i k2 l2 l7
  subst e3
  have i3 := i2.low (c := 0) (s := 8) (v := 1) (Or.inl rfl) (by rw [ws_row (by decide)]; exact i2.h7) (by rw [ws_col (by decide)]; exact i2.h3)
  refine k _ _ (i3.to ?_)
  unfold imageK
  rw [← i.1]
  unfold kC
  have q7 : wset w2 0 8 1 0 7 = w 0 7 := by rw [ws_row (by decide), k2 0 (by decide) (by decide) (by decide) (by decide)]
  have q8 : wset w2 0 8 1 0 8 = 1 := ws_hit _ _ _ _
  have qc : ∀ c : Nat, c ≠ 0 → wset w2 0 8 1 c = w2 c := fun c hc => wset_off _ _ _ _ _ hc
  rw [q7, q8, qc 3 (by decide), qc 4 (by decide), qc 32 (by decide), qc 46 (by decide), k2 3 (by decide) (by decide) (by decide) (by decide), k2 4 (by decide) (by decide) (by decide) (by decide), k2 32 (by decide) (by decide) (by decide) (by decide), l7]
set_option maxRecDepth 20000 in
theorem ik_X4_back (hd : 2 ≤ d) (hG : GC Γ) (i : IC κ w) {Q : Int32 → Wd → Prop} (k : ∀ (r : Int32) (w' : Wd), IC (backK κ) w' → Q r w') : CI Γ d M_X4_back [.ref (gad Γ 0)] w Q := by
  obtain ⟨d, rfl⟩ : ∃ e, d = e + 1 := ⟨d - 1, by omega⟩
  refine con_X4_back hG ?_
  unfold wp_X4_back
  have e5 : κ.2.2.2.2.1 = w 0 8 := by rw [← i.1]; rfl
  refine ⟨fun h => cs_X0_becomeLike (by omega) hG (ShC.f32 hG.2.1) (ShC.f46 hG.2.1) (by decide) (fun w2 k2 l2 l7 => k _ _ ((IC.likeF (Or.inl rfl) (Or.inr (Or.inr rfl)) i k2 l2 l7).to ?_)), fun h => k _ _ (i.to ?_)⟩
  · unfold backK
    rw [if_neg (by rw [e5]; exact h), ← i.1]
    unfold kC
    rw [k2 0 (by decide) (by decide) (by decide) (by decide), k2 3 (by decide) (by decide) (by decide) (by decide), k2 4 (by decide) (by decide) (by decide) (by decide), k2 46 (by decide) (by decide) (by decide) (by decide), l7]
  · unfold backK
    rw [if_pos (by rw [e5]; exact h)]
set_option maxRecDepth 20000 in
theorem ik_X4_text (hd : 60 ≤ d) (hG : GC Γ) (hby : byOK κ) (i : IC κ w) {Q : Int32 → Wd → Prop} (k : ∀ (r : Int32) (w' : Wd) (κ2 : Ky), TxR κ r κ2 → IC κ2 w' → Q r w') : CI Γ d M_X4_text [.ref (gad Γ 0)] w Q := by
  obtain ⟨d, rfl⟩ : ∃ e, d = e + 1 := ⟨d - 1, by omega⟩
  refine con_X4_text hG ?_
  unfold wp_X4_text
  have z := i.h7
  have z3 := i.h3
  have ek := i.1
  have e1 : κ.1 = w 0 7 := by rw [← ek]; rfl
  have e2 : κ.2.1 = w 3 0 := by rw [← ek]; rfl
  have n6 : (6 : Int32).toInt = 6 := rfl
  refine ⟨fun h => ?_, fun h => k _ _ κ (Or.inl ⟨?_, rfl, rfl⟩) i⟩
  · simp only [Int32.lt_iff_toInt_lt, Int32.reduceToInt] at h
    have ht : isT (rfa textCells (w 0 7).toNatClampNeg) := isT_rfa (tn_lt (by omega) (by omega))
    refine ⟨vp_in_iff.mpr (by omega), ht.sh hG.2.1, ?_⟩
    generalize rfa textCells (w 0 7).toNatClampNeg = t at ht ⊢
    obtain ⟨N, hN⟩ : ∃ N : Nat, N = (w 3 0).toInt.toNat := ⟨_, rfl⟩
    have eg : ∀ j : Nat, j < N → tgK κ j = tg w j := fun j hj => by
      have e : κ.2.2.1 = tapeOf (w 3 0) (w 4) := by rw [← ek]; rfl
      unfold tgK
      rw [e, tapeOf_lt (by omega)]
      rfl
    have T : TP w N := ⟨by omega, by omega, fun j hj => by
      rw [← eg j hj]
      exact hby j⟩
    refine xt_readInto (by omega) hG ht T (i.2.2.2 t ht) (fun r4 w5 hk h30 hb hT w6 e6 => ?_)
    have hk2 : ∀ c : Nat, c < 3 ∨ 24 ≤ c → w5 c = w c := fun c hc => hk c (by omega) (by rcases ht with rfl | rfl | rfl | rfl | rfl | rfl <;> omega) (by rcases ht with rfl | rfl | rfl | rfl | rfl | rfl <;> omega) (by rcases ht with rfl | rfl | rfl | rfl | rfl | rfl <;> omega)
    have i5 : IC (kC w5) w5 := by
      refine i.re (fun x hx => ?_) (by rw [hk2 0 (by omega)]; exact i.h7) (by rw [h30]; exact i.h3) (fun x hx => hk2 x (by rcases hx with rfl | rfl | rfl | rfl <;> omega)) (fun u hu => ?_)
      · have e : w5 x = w x := hk2 x (by have := isF_lo hx; omega)
        exact famOK.of (by rw [e]) (by rw [e]) (i.f hx)
      · by_cases e : u = t
        · rw [e]
          exact hb
        · have e2 : w5 (u + 2) = w (u + 2) := hk _ (by rcases hu with rfl | rfl | rfl | rfl | rfl | rfl <;> omega) (by rcases hu with rfl | rfl | rfl | rfl | rfl | rfl <;> rcases ht with rfl | rfl | rfl | rfl | rfl | rfl <;> omega) (by rcases hu with rfl | rfl | rfl | rfl | rfl | rfl <;> rcases ht with rfl | rfl | rfl | rfl | rfl | rfl <;> omega) (by omega)
          rw [e2]
          exact i.2.2.2 u hu
    have i6 : IC (kC w6) w6 := by
      subst e6
      exact i5.low (Or.inr rfl) (by rw [ws_col (by decide)]; exact i5.h7) (by rw [ws_hit]; decide)
    have e7 : w6 0 7 = w 0 7 := by rw [e6, ws_col (by decide), hk2 0 (by omega)]
    have k6 : kC w6 = (κ.1, 0, (fun _ => 0), κ.2.2.2) := by
      rw [← ek]
      unfold kC
      have a0 : w6 3 0 = 0 := by rw [e6, ws_hit]
      have ac : ∀ c : Nat, c < 3 ∨ 24 ≤ c → w6 c = w c := fun c hc => by rw [e6, wset_off _ _ _ _ _ (by omega), hk2 c hc]
      rw [a0, tape_nil, ac 0 (by omega), ac 32 (by omega), ac 46 (by omega)]
    have hT2 : TextO (tgK κ) κ.2.1.toInt.toNat r4.toInt := by
      rw [e2, ← hN]
      exact TF.congr eg _ _ _ hT
    have n1 : (1 : Int32).toInt = 1 := rfl
    have h1 : κ.1.toInt < 6 := by
      rw [e1]
      exact h
    have e := i_add (x := w 0 7) (y := 1) (by omega) (by omega)
    refine ⟨fun hr w9 e9 => ?_, fun hr => k _ _ _ (Or.inr ⟨h1, r4, hT2, Or.inr ⟨fun q => hr (i_ext q), rfl, rfl⟩⟩) (i6.to k6)⟩
    have h9 : w9 0 7 = w 0 7 + 1 := by rw [e9, ws_hit, e7]
    have i9 : IC (kC w9) w9 := by
      subst e9
      rw [e7]
      exact i6.low (Or.inl rfl) (by rw [ws_hit]; omega) (by rw [ws_col (by decide)]; exact i6.h3)
    refine k _ _ _ (Or.inr ⟨h1, r4, hT2, Or.inl ⟨by rw [hr]; rfl, ?_, rfl⟩⟩) (i9.to ?_)
    · rw [h9, e1]
      exact Int32.add_sub_cancel _ _
    · have q : kC w9 = ((kC w6).1 + 1, (kC w6).2) := by
        rw [e9]
        unfold kC
        rw [ws_hit, ws_col (by decide), wset_off _ _ _ _ _ (by decide), ws_col (by decide), ws_row (by decide), ws_col (by decide)]
      rw [q, k6]
  · intro q
    apply h
    rw [Int32.lt_iff_toInt_lt, ← e1]
    exact q
end ICK
