/-! the five calls of the class that change what the rest hangs on: feed, text, force, image, back -/
theorem IC.re {κ : Ky} {w w' : Wd} (i : IC κ w) (hF : ∀ f : Nat, isF f → famOK w' f) (h7 : 0 ≤ (w' 0 7).toInt ∧ (w' 0 7).toInt ≤ 6) (h3 : 0 ≤ (w' 3 0).toInt ∧ (w' 3 0).toInt ≤ 160) (hs : ∀ c : Nat, isS c → w' c = w c) (ht : ∀ t : Nat, isT t → ∀ j : Nat, j < 4 → 0 ≤ (w' (t + 2) j).toInt ∧ (w' (t + 2) j).toInt ≤ 160) : IC (kC w') w' :=
  ⟨rfl, ⟨hF 32 (Or.inl rfl), hF 39 (Or.inr (Or.inl rfl)), hF 46 (Or.inr (Or.inr rfl)), h7.1, h7.2, h3.1, h3.2⟩, shOK.of hs i.2.2.1, ht⟩
theorem famOK.of {w w' : Wd} {f g : Nat} (h4 : w' f 4 = w g 4) (h7 : w' f 7 = w g 7) (h : famOK w g) : famOK w' f := by
  unfold famOK at *
  rw [h4, h7]
  exact h
theorem IC.h7 {κ : Ky} {w : Wd} (i : IC κ w) : 0 ≤ (w 0 7).toInt ∧ (w 0 7).toInt ≤ 6 := ⟨i.2.1.2.2.2.1, i.2.1.2.2.2.2.1⟩
theorem IC.h3 {κ : Ky} {w : Wd} (i : IC κ w) : 0 ≤ (w 3 0).toInt ∧ (w 3 0).toInt ≤ 160 := i.2.1.2.2.2.2.2
theorem IC.likeF {κ : Ky} {w w' : Wd} {f g : Nat} (hf : isF f) (hg : isF g) (i : IC κ w) (hk : ∀ c : Nat, c ≠ f → c ≠ f + 1 → c ≠ f + 2 → c ≠ f + 3 → w' c = w c) (h4 : w' f 4 = w g 4) (h7 : w' f 7 = w g 7) : IC (kC w') w' := by
  have lo := isF_lo hf
  have hk2 : ∀ c : Nat, c < 32 → w' c = w c := fun c hc => hk c (by omega) (by omega) (by omega) (by omega)
  refine i.re (fun x hx => ?_) (by rw [hk2 0 (by omega)]; exact i.h7) (by rw [hk2 3 (by omega)]; exact i.h3) (fun c hc => hk2 c (by rcases hc with rfl | rfl | rfl | rfl <;> omega)) (fun t ht => ?_)
  · by_cases e : x = f
    · rw [e]
      exact famOK.of h4 h7 (i.f hg)
    · have e2 : w' x = w x := hk x e (by rcases hx with rfl | rfl | rfl <;> rcases hf with rfl | rfl | rfl <;> omega) (by rcases hx with rfl | rfl | rfl <;> rcases hf with rfl | rfl | rfl <;> omega) (by rcases hx with rfl | rfl | rfl <;> rcases hf with rfl | rfl | rfl <;> omega)
      exact famOK.of (by rw [e2]) (by rw [e2]) (i.f hx)
  · rw [hk2 _ (by rcases ht with rfl | rfl | rfl | rfl | rfl | rfl <;> omega)]
    exact i.2.2.2 t ht
theorem IC.low {κ : Ky} {w : Wd} {c s : Nat} {v : Int32} (hc : c = 0 ∨ c = 3) (i : IC κ w) (h7 : 0 ≤ (wset w c s v 0 7).toInt ∧ (wset w c s v 0 7).toInt ≤ 6) (h3 : 0 ≤ (wset w c s v 3 0).toInt ∧ (wset w c s v 3 0).toInt ≤ 160) : IC (kC (wset w c s v)) (wset w c s v) := by
  have hk : ∀ x : Nat, 4 ≤ x → wset w c s v x = w x := fun x hx => wset_off _ _ _ _ _ (by omega)
  refine i.re (fun x hx => ?_) h7 h3 (fun x hx => hk x (by rcases hx with rfl | rfl | rfl | rfl <;> omega)) (fun t ht => ?_)
  · have e : wset w c s v x = w x := hk x (by have := isF_lo hx; omega)
    exact famOK.of (by rw [e]) (by rw [e]) (i.f hx)
  · rw [hk _ (by rcases ht with rfl | rfl | rfl | rfl | rfl | rfl <;> omega)]
    exact i.2.2.2 t ht
set_option maxRecDepth 20000 in
theorem ic_X4_feed {Γ : Gx} {d : Nat} (hd : 2 ≤ d) (hG : GC Γ) {κ : Ky} {p1 : Int32} {w : Wd} (i : IC κ w) {Q : Int32 → Wd → Prop} (k : ∀ (r : Int32) (w' : Wd), IC (kC w') w' → Q r w') : CI Γ d M_X4_feed [.ref (gad Γ 0), .int p1] w Q := by
  obtain ⟨d, rfl⟩ : ∃ e, d = e + 1 := ⟨d - 1, by omega⟩
  refine con_X4_feed hG ?_
  unfold wp_X4_feed
  have same : IC (kC w) w := ⟨rfl, i.2⟩
  refine cs_X4_isIn (by omega) hG (lo := 0) (hi := 255) rfl rfl (fun r1 _ _ => ⟨fun _ => ?_, fun _ => k _ _ same⟩)
  refine cs_takeByte (by omega) hG i.h3.1 i.h3.2 (fun r4 w5 hk b0 b1 => ?_)
  have i5 : IC (kC w5) w5 := by
    refine i.re (fun x hx => ?_) (by rw [hk 0 (by decide) (by decide)]; exact i.h7) ⟨b0, b1⟩ (fun x hx => hk x (isS_ne hx (by omega)) (isS_ne hx (by omega))) (fun t ht => ?_)
    · have e : w5 x = w x := hk x (by have := isF_lo hx; omega) (by have := isF_lo hx; omega)
      exact famOK.of (by rw [e]) (by rw [e]) (i.f hx)
    · rw [hk _ (isT_ne ht (by omega)) (isT_ne ht (by omega))]
      exact i.2.2.2 t ht
  exact ⟨fun _ => k _ _ i5, fun _ => k _ _ i5⟩
set_option maxRecDepth 20000 in
theorem ic_X4_force {Γ : Gx} {d : Nat} (hd : 2 ≤ d) (hG : GC Γ) {κ : Ky} {p1 : Int32} {w : Wd} (i : IC κ w) {Q : Int32 → Wd → Prop} (k : ∀ (r : Int32) (w' : Wd), IC (kC w') w' → Q r w') : CI Γ d M_X4_force [.ref (gad Γ 0), .int p1] w Q := by
  obtain ⟨d, rfl⟩ : ∃ e, d = e + 1 := ⟨d - 1, by omega⟩
  refine con_X4_force hG ?_
  unfold wp_X4_force
  have z := i.h7
  have n1 : (1 : Int32).toInt = 1 := rfl
  have e := i_sub (x := w 0 7) (y := 1) (by omega) (by omega)
  refine cs_X4_isIn (by omega) hG (lo := 0) (hi := (w 0 7 - 1).toInt) rfl rfl (fun r1 _ y => ⟨fun h => ?_, fun _ => k _ _ ⟨rfl, i.2⟩⟩)
  have h := y.mp h
  intro w4 e4
  subst e4
  have hk : ∀ c : Nat, c ≠ 32 → wset w 32 7 p1 c = w c := fun c hc => wset_off _ _ _ _ _ hc
  refine k _ _ (i.re (fun x hx => ?_) (by rw [hk 0 (by decide)]; exact i.h7) (by rw [hk 3 (by decide)]; exact i.h3) (fun x hx => hk x (isS_ne hx (by omega))) (fun t ht => ?_))
  · by_cases e2 : x = 32
    · subst e2
      have f := i.f hx
      unfold famOK at *
      rw [ws_row (by decide), ws_hit]
      exact ⟨f.1, f.2.1, by omega, by omega⟩
    · exact famOK.of (by rw [hk x e2]) (by rw [hk x e2]) (i.f hx)
  · rw [hk _ (isT_ne ht (by omega))]
    exact i.2.2.2 t ht
set_option maxRecDepth 20000 in
theorem ic_X4_image {Γ : Gx} {d : Nat} (hd : 2 ≤ d) (hG : GC Γ) {κ : Ky} {w : Wd} (i : IC κ w) {Q : Int32 → Wd → Prop} (k : ∀ (r : Int32) (w' : Wd), IC (kC w') w' → Q r w') : CI Γ d M_X4_image [.ref (gad Γ 0)] w Q := by
  obtain ⟨d, rfl⟩ : ∃ e, d = e + 1 := ⟨d - 1, by omega⟩
  refine con_X4_image hG ?_
  unfold wp_X4_image
  refine cs_X0_becomeLike (by omega) hG (ShC.f46 hG.2.1) (ShC.f32 hG.2.1) (by decide) (fun w2 k2 l2 l7 w3 e3 => ?_)
  have i2 := IC.likeF (Or.inr (Or.inr rfl)) (Or.inl rfl) i k2 l2 l7
  subst e3
  exact k _ _ (i2.low (Or.inl rfl) (by rw [ws_row (by decide)]; exact i2.h7) (by rw [ws_col (by decide)]; exact i2.h3))
set_option maxRecDepth 20000 in
theorem ic_X4_back {Γ : Gx} {d : Nat} (hd : 2 ≤ d) (hG : GC Γ) {κ : Ky} {w : Wd} (i : IC κ w) {Q : Int32 → Wd → Prop} (k : ∀ (r : Int32) (w' : Wd), IC (kC w') w' → Q r w') : CI Γ d M_X4_back [.ref (gad Γ 0)] w Q := by
  obtain ⟨d, rfl⟩ : ∃ e, d = e + 1 := ⟨d - 1, by omega⟩
  refine con_X4_back hG ?_
  unfold wp_X4_back
  exact ⟨fun _ => cs_X0_becomeLike (by omega) hG (ShC.f32 hG.2.1) (ShC.f46 hG.2.1) (by decide) (fun w2 k2 l2 l7 => k _ _ (IC.likeF (Or.inl rfl) (Or.inr (Or.inr rfl)) i k2 l2 l7)), fun _ => k _ _ ⟨rfl, i.2⟩⟩
set_option maxRecDepth 20000 in
theorem ic_X4_text {Γ : Gx} {d : Nat} (hd : 60 ≤ d) (hG : GC Γ) {κ : Ky} {w : Wd} (i : IC κ w) {Q : Int32 → Wd → Prop} (k : ∀ (r : Int32) (w' : Wd), IC (kC w') w' → Q r w') : CI Γ d M_X4_text [.ref (gad Γ 0)] w Q := by
  obtain ⟨d, rfl⟩ : ∃ e, d = e + 1 := ⟨d - 1, by omega⟩
  refine con_X4_text hG ?_
  unfold wp_X4_text
  have z := i.h7
  refine ⟨fun h => ?_, fun _ => k _ _ ⟨rfl, i.2⟩⟩
  simp only [Int32.lt_iff_toInt_lt, Int32.reduceToInt] at h
  have ht : isT (rfa textCells (w 0 7).toNatClampNeg) := isT_rfa (tn_lt (by omega) (by omega))
  refine ⟨vp_in_iff.mpr (by omega), ht.sh hG.2.1, ?_⟩
  generalize rfa textCells (w 0 7).toNatClampNeg = t at ht ⊢
  refine cs_X1_readInto (by omega) hG ht i.h3.1 i.h3.2 (i.2.2.2 t ht) (fun r4 w5 hk h30 hb _ w6 e6 => ?_)
  have hk2 : ∀ c : Nat, c < 3 ∨ 24 ≤ c → w5 c = w c := fun c hc => hk c (by omega) (by rcases ht with rfl | rfl | rfl | rfl | rfl | rfl <;> omega) (by rcases ht with rfl | rfl | rfl | rfl | rfl | rfl <;> omega) (by rcases ht with rfl | rfl | rfl | rfl | rfl | rfl <;> omega)
  have i5 : IC (kC w5) w5 := by
    refine i.re (fun x hx => ?_) (by rw [hk2 0 (by omega)]; exact i.h7) (by rw [h30]; exact i.h3) (fun x hx => hk2 x (by rcases hx with rfl | rfl | rfl | rfl <;> omega)) (fun u hu => ?_)
    · have e : w5 x = w x := hk2 x (by have := isF_lo hx; omega)
      exact famOK.of (by rw [e]) (by rw [e]) (i.f hx)
    · by_cases e : u = t
      · rw [e]
        exact hb
      · have e2 : w5 (u + 2) = w (u + 2) := hk _ (by rcases hu with rfl | rfl | rfl | rfl | rfl | rfl <;> omega) (by rcases hu with rfl | rfl | rfl | rfl | rfl | rfl <;> rcases ht with rfl | rfl | rfl | rfl | rfl | rfl <;> omega) (by rcases hu with rfl | rfl | rfl | rfl | rfl | rfl <;> rcases ht with rfl | rfl | rfl | rfl | rfl | rfl <;> omega) (by omega)
        rw [e2]
        exact i.2.2.2 u hu
  have i6 : IC (kC w6) w6 := by
    subst e6
    exact i5.low (Or.inr rfl) (by rw [ws_col (by decide)]; exact i5.h7) (by rw [ws_hit]; decide)
  have e7 : w6 0 7 = w 0 7 := by rw [e6, ws_col (by decide), hk2 0 (by omega)]
  refine ⟨fun _ w9 e9 => k _ _ ?_, fun _ => k _ _ i6⟩
  have n1 : (1 : Int32).toInt = 1 := rfl
  have e := i_add (x := w 0 7) (y := 1) (by omega) (by omega)
  subst e9
  rw [e7]
  exact i6.low (Or.inl rfl) (by rw [ws_hit]; omega) (by rw [ws_col (by decide)]; exact i6.h3)
