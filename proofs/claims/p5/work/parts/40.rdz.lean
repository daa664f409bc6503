/-! the class's reader, exactly: a text -/
theorem xt_pass {Γ : Gx} {d : Nat} (hd : 8 ≤ d) (hG : GC Γ) {t : Nat} (ht : isT t) {w0 u : Wd} {N : Nat} (T : TP w0 N) {o : Int} {p1 : Int32} (h1 : ¬ p1.toInt = 1) {Q : Wd → Prop} (X : (∃ f : Nat, Bad t w0 o f u ∧ ∀ v : Wd, Bad t w0 o f v → Q v) ∨ ∃ (st en : Nat) (k : Int), Gud t w0 o st en k u ∧ (k = p1.toInt → ∀ (v : Wd) (s2 e2 : Nat) (k2 : Int), Gud t w0 o s2 e2 k2 v → Tok (tg w0) N en s2 e2 k2 → Q v) ∧ (¬ k = p1.toInt → ∀ v : Wd, Bad t w0 o st v → Q v)) : CV Γ d M_X1_pass [.ref (gad Γ 3), .int p1] u Q := by
  obtain ⟨d, rfl⟩ : ∃ e, d = e + 1 := ⟨d - 1, by omega⟩
  refine con_X1_pass hG ?_
  unfold wp_X1_pass
  rcases X with ⟨f, g, h⟩ | ⟨st, en, k, g, h, h2⟩
  · refine ⟨fun _ => xt_failB (by omega) hG ht g h, fun z => ?_⟩
    exact absurd (ti g.2.2.2 z).symm h1
  · exact ⟨fun z => xt_fail (by omega) hG ht g (h2 (tni g.2.2.2.1 z)), fun z => xt_token (by omega) hG ht T g (h (ti g.2.2.2.1 z))⟩
/-- between the parts: m of them are left -/
def JT (t : Nat) (w0 : Wd) (N m : Nat) (u : Wd) : Prop := (∃ f : Nat, Bad t w0 0 f u ∧ TextO (tg w0) N f) ∨ ∃ (p st en : Nat) (k : Int), Gud t w0 0 st en k u ∧ Tok (tg w0) N p st en k ∧ ∀ r : Int, TF (tg w0) N m p r → TextO (tg w0) N r
theorem JT.ri {t : Nat} {w0 : Wd} {N m : Nat} {u : Wd} (h : JT t w0 N m u) : RI t w0 u := by
  rcases h with ⟨f, g, _⟩ | ⟨p, st, en, k, g, _⟩
  · exact g.1
  · exact g.1
theorem JT.eq {t : Nat} {w0 : Wd} {N m : Nat} {u v : Wd} (h : JT t w0 N m u) (i : RI t w0 v) (e : v 3 = u 3) : JT t w0 N m v := by
  rcases h with ⟨f, g, h2⟩ | ⟨p, st, en, k, g, h2⟩
  · exact Or.inl ⟨f, g.eq i e, h2⟩
  · exact Or.inr ⟨p, st, en, k, g.eq i e, h2⟩
set_option maxRecDepth 20000 in
theorem xt_readInto {Γ : Gx} {d : Nat} (hd : 58 ≤ d) (hG : GC Γ) {t : Nat} (ht : isT t) {w : Wd} {N : Nat} (T : TP w N) (hb : ∀ j : Nat, j < 4 → 0 ≤ (w (t + 2) j).toInt ∧ (w (t + 2) j).toInt ≤ 160) {Q : Int32 → Wd → Prop} (k : ∀ (r : Int32) (w' : Wd), (∀ c : Nat, c ≠ 3 → c ≠ t → c ≠ t + 1 → c ≠ t + 2 → w' c = w c) → w' 3 0 = w 3 0 → (∀ j : Nat, j < 4 → 0 ≤ (w' (t + 2) j).toInt ∧ (w' (t + 2) j).toInt ≤ 160) → TextO (tg w) N r.toInt → Q r w') : CI Γ d M_X1_readInto [.ref (gad Γ 3), .ref (gad Γ t)] w Q := by
  obtain ⟨d, rfl⟩ : ∃ e, d = e + 1 := ⟨d - 1, by omega⟩
  refine con_X1_readInto hG (isT.sh hG.2.1 ht) ?_
  unfold wp_X1_readInto
  obtain ⟨b1, b2, b3, b4, -⟩ := ht.n3
  have n1 : (1 : Int32).toInt = 1 := rfl
  have n3 : (3 : Int32).toInt = 3 := rfl
  have n4 : (4 : Int32).toInt = 4 := rfl
  have n0 : (0 : Int32).toInt = 0 := rfl
  intro P c
  have key : ∀ (m : Nat) (l2 : Int32) (u : Wd), l2.toInt + m = 3 → 0 ≤ l2.toInt → JT t w N m u → P l2 u := by
    intro m
    induction m with
    | zero =>
      intro l2 u a1 a2 J
      refine c _ _ ⟨fun h => ?_, fun h => ?_⟩
      · have i := J.ri
        refine ⟨RI.ne ht i, ?_⟩
        rw [RI.t ht i]
        refine ⟨isT.sh hG.2.1 ht, ?_⟩
        refine cs_X3_beginPart (by omega) hG ht (by omega) (by omega) i (fun w20 i20 x20 => ?_)
        have J2 := J.eq i20 x20
        have fin : ∀ v : Wd, RI t w v → TextO (tg w) N (v 3 8).toInt → Q (v 3 8) v := fun v i22 h22 => k _ _ i22.2.1 i22.2.2.1 i22.2.2.2.1 h22
        refine xt_pass (by omega) hG ht T (o := 0) (by decide) ?_
        rcases J2 with ⟨f, g, h2⟩ | ⟨p, st, en, kk, g, tk, h2⟩
        · exact Or.inl ⟨f, g, fun v gv => fin v gv.1 (by rw [gv.2.2.1]; exact h2)⟩
        · exact Or.inr ⟨st, en, kk, g, fun hk v s2 e2 k2 gv _ => fin v gv.1 (by rw [gv.2.2.1]; exact h2 _ ⟨st, en, kk, tk, Or.inl ⟨hk, rfl⟩⟩), fun hk v gv => fin v gv.1 (by rw [gv.2.2.1]; exact h2 _ ⟨st, en, kk, tk, Or.inr ⟨hk, rfl⟩⟩)⟩
      · rw [Int32.le_iff_toInt_le] at h
        omega
    | succ m ih =>
      intro l2 u a1 a2 J
      have lo := i_lo l2
      refine c _ _ ⟨fun h => ?_, fun h => ?_⟩
      · rw [Int32.le_iff_toInt_le] at h
        omega
      · rw [Int32.le_iff_toInt_le] at h
        have i := J.ri
        refine ⟨RI.ne ht i, ?_⟩
        rw [RI.t ht i]
        refine ⟨isT.sh hG.2.1 ht, ?_⟩
        refine cs_X3_beginPart (by omega) hG ht (by omega) (by omega) i (fun w26 i26 x26 => ?_)
        have e6 := i_add (x := (4 : Int32)) (y := l2) (by omega) (by omega)
        have e7 := i_add (x := l2) (y := 1) (by omega) (by omega)
        obtain ⟨D, hD⟩ : ∃ D : OC → Prop, D = fun x => (∀ s : Nat, x = (false, s) → TextO (tg w) N s) ∧ (∀ p2 : Nat, x = (true, p2) → ∀ r : Int, TF (tg w) N m p2 r → TextO (tg w) N r) := ⟨_, rfl⟩
        have Dbad : ∀ f : Nat, TextO (tg w) N f → D (false, f) := fun f hf => by
          rw [hD]
          exact ⟨fun s e => by
            obtain rfl : f = s := (Prod.mk.inj e).2
            exact hf, fun p2 e => absurd (Prod.mk.inj e).1 (by decide)⟩
        have Dout : ∀ f : Nat, D (false, f) → TextO (tg w) N f := fun f h => by
          rw [hD] at h
          exact h.1 f rfl
        have Dgo : ∀ p2 : Nat, D (true, p2) → ∀ r : Int, TF (tg w) N m p2 r → TextO (tg w) N r := fun p2 h => by
          rw [hD] at h
          exact h.2 p2 rfl
        have hi : (2 : Int) - m = l2.toInt := by omega
        have go : ∀ v : Wd, XS t w N 0 D 0 false (EN 1 [] false) v → CV Γ d M_X1_readOr [.ref (gad Γ 3)] v (fun w30 => CV Γ d M_X1_pass [.ref (gad Γ 3), .int (59 : Int32)] w30 (fun w32 => P (l2 + 1) w32)) := fun v Xv => by
          refine xr_or hG _ (by omega) t w _ N ht T 0 D 0 [] false (by decide) rfl rfl (fun _ => rfl) Xv _ (fun w30 X30 => ?_)
          refine xt_pass (by omega) hG ht T (o := 0) (by decide) ?_
          rcases X30 with ⟨f, g, h2⟩ | ⟨p, st, en, kk, S, cm, s, g, tk, _, h2, h3⟩
          · exact Or.inl ⟨f, g, fun v gv => ih _ _ (by omega) (by omega) (Or.inl ⟨f, gv, Dout f h2⟩)⟩
          · have hl : lay 1 S = [] := h3.1
            refine Or.inr ⟨st, en, kk, g, fun hk v2 s2 e2 k2 gv tv => ih _ _ (by omega) (by omega) (Or.inr ⟨en, s2, e2, k2, gv, tv, Dgo en (h2 _ ?_)⟩), fun hk v2 gv => ih _ _ (by omega) (by omega) (Or.inl ⟨st, gv, Dout st (h2 _ (end_no h3.2 (Or.inr hl) (Or.inl hk)))⟩)⟩
            have hk2 : kk = 59 := hk
            subst hk2
            exact PFin.done hl
        refine xt_pass (by omega) hG ht T (o := 0) (by omega) ?_
        rcases J.eq i26 x26 with ⟨f, g, h2⟩ | ⟨p, st, en, kk, g, tk, h2⟩
        · exact Or.inl ⟨f, g, fun v gv => go v (Or.inl ⟨f, gv, Dbad f h2⟩)⟩
        · refine Or.inr ⟨st, en, kk, g, fun hk v s2 e2 k2 gv tv => go v (Or.inr ⟨en, s2, e2, k2, [], false, true, gv, tv, Nat.zero_le _, fun x hx => ?_, rfl, rfl, Or.inl ⟨by decide, rfl⟩⟩), fun hk v gv => go v (Or.inl ⟨st, gv, Dbad st (h2 _ (Or.inl ⟨st, ⟨st, en, kk, tk, Or.inl ⟨by omega, rfl⟩⟩, rfl⟩))⟩)⟩
          have po : PartO (tg w) N p (2 - m) x := ⟨st, en, kk, tk, Or.inr ⟨by omega, s2, e2, k2, tv, hx⟩⟩
          rw [hD]
          refine ⟨fun f e => ?_, fun p2 e r hr => ?_⟩
          · subst e
            exact h2 _ (Or.inl ⟨f, po, rfl⟩)
          · subst e
            exact h2 _ (Or.inr ⟨p2, po, hr⟩)
  refine ⟨b4, fun w2 e2 => ?_⟩
  have t2 : (w2 3 2).toNatClampNeg = t := by
    rw [e2, ws_hit]
    exact nI_clamp (by omega)
  have ne2 : ¬ w2 3 2 = -1 := by
    rw [e2, ws_hit]
    rcases ht with rfl | rfl | rfl | rfl | rfl | rfl <;> decide
  refine ⟨ne2, ?_⟩
  rw [t2]
  refine ⟨isT.sh hG.2.1 ht, ?_⟩
  refine cs_X3_empty (by omega) hG ht (fun w7 e7 => ?_)
  intro w8 e8 w10 e10 w12 e12
  have r12 : ∀ j : Nat, j ≠ 2 → j ≠ 3 → j ≠ 7 → j ≠ 8 → w12 3 j = w 3 j := fun j q2 q3 q7 q8 => by
    rw [e12, ws_row q8, e10, ws_row q7, e8, ws_row q3, e7, ws_col (Ne.symm b1), e2, ws_row q2]
  have s33 : w12 3 3 = 0 := by rw [e12, ws_row (by decide), e10, ws_row (by decide), e8, ws_hit]
  have s37 : w12 3 7 = 0 := by rw [e12, ws_row (by decide), e10, ws_hit]
  have s38 : w12 3 8 = -1 := by rw [e12, ws_hit]
  have s32 : w12 3 2 = nI t := by rw [e12, ws_row (by decide), e10, ws_row (by decide), e8, ws_row (by decide), e7, ws_col (Ne.symm b1), e2, ws_hit]
  have st2 : w12 t 2 = 0 := by rw [e12, ws_col b1, e10, ws_col b1, e8, ws_col b1, e7, ws_hit]
  have s30 := r12 0 (by decide) (by decide) (by decide) (by decide)
  have T1 := T.1
  have T2 := T.2.1
  have i12 : RI t w w12 := by
    refine ⟨s32, fun c q1 q2 q3 q4 => ?_, s30, fun j hj => ?_, ?_⟩
    · rw [e12, wset_off _ _ _ _ _ q1, e10, wset_off _ _ _ _ _ q1, e8, wset_off _ _ _ _ _ q1, e7, wset_off _ _ _ _ _ q2, e2, wset_off _ _ _ _ _ q1]
    · rw [e12, ws_col b3, e10, ws_col b3, e8, ws_col b3, e7, ws_col (by omega), e2, ws_col b3]
      exact hb j hj
    · unfold numR
      rw [s30, st2, s33, s37]
      omega
  have z33 : (w12 3 3).toInt = (0 : Nat) := by rw [s33]; rfl
  have z38 : (w12 3 8).toInt = -1 := by rw [s38]; rfl
  have z37 : (w12 3 7).toInt = 0 := by rw [s37]; rfl
  refine tk_readToken (by omega) hG ht i12 T z33 (fun h => absurd z38 h) (fun _ u st en kk L h5 tok => ?_)
  exact key 3 0 u (by decide) (by decide) (Or.inr ⟨0, st, en, kk, ⟨L.1, L.2.2.2.1.trans z37, L.2.2.2.2.trans z38, h5, L.2.2.1, L.2.1⟩, tok, fun r h => h⟩)
