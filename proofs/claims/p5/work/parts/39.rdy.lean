/-! the class's reader, exactly: sums, comparisons, nots, ones; all; a text -/
set_option maxRecDepth 20000 in
theorem xr_readSum {Γ : Gx} (hG : GC Γ) {n e : Nat} (he : 9 ≤ e) (h1 : RdX Γ M_X1_readTerm n e 6 6 X6) : RdX Γ M_X1_readSum n (e + 1) 5 5 X5 := by
  intro d hd t w0 w N ht T o D st0 W c0 hn hc hW hc0 hE Q k
  obtain ⟨d, rfl⟩ : ∃ e, d = e + 1 := ⟨d - 1, by omega⟩
  refine con_X1_readSum hG ?_
  unfold wp_X1_readSum
  intro P6 P31 c6 c31
  have n1 : (1 : Int32).toInt = 1 := rfl
  have hW1 : lay 6 W = W := lay_fix (by decide) hW
  have head : ∀ (V S : List Int), lay 5 V = lay 5 W → lay 6 S = lay 6 V → lay 5 S = lay 5 W := fun V S h1 h2 => by
    rw [← lay_le (r := 5) (r2 := 6) (by decide) S, h2, lay_le (by decide)]
    exact h1
  have key : ∀ (m : Nat) (l1 : Int32) (u : Wd), 0 ≤ l1.toInt → l1.toInt ≤ 160 → XS t w0 N o D (st0 + l1.toInt.toNat) true (EX 5 X6 W c0) u → (161 - l1.toInt).toNat < m → P6 l1 u := by
    intro m
    induction m with
    | zero => exact fun _ _ _ _ _ h => absurd h (Nat.not_lt_zero _)
    | succ m ih =>
      intro l1 u a1 a2 X hm
      refine c6 _ _ ?_
      have n160 : (160 : Int32).toInt = 160 := rfl
      rcases X with ⟨f, g, hD⟩ | ⟨p, st, en, kk, S, cm, s, g, tk, hs, hD, hx⟩
      · have b : Q u := k _ (Or.inl ⟨f, g, hD⟩)
        refine ⟨fun _ => b, fun _ => ⟨fun z => ?_, fun _ => ⟨fun _ => b, fun z => ?_⟩⟩⟩
        · exact absurd (ti g.2.2.2 z) (by decide)
        · exact absurd (ti g.2.2.2 z) (by decide)
      · have out : ¬ kk = 43 → ¬ kk = 45 → Q u := fun h1 h2 => k _ (Or.inr ⟨p, st, en, kk, S, cm, s, g, tk, by omega, hD, hx.1, hx.2.1, hx.2.2, h1, h2⟩)
        have wf := tk.wf
        have ea := fun h : l1.toInt ≤ 159 => i_add (x := l1) (y := 1) (by omega) (by omega)
        have turn : ∀ op : Int, (op = 6 ∨ op = 7) → ¬ kk = 0 → ¬ kk = 59 → sgOf kk cm = op → l1.toInt ≤ 159 → ∀ sc : Int32, CV Γ d M_X1_readToken [.ref (gad Γ 3)] u (fun w8 => CV Γ d M_X1_readTerm [.ref (gad Γ 3)] w8 (fun w10 => (¬ w10 3 2 = -1 ∧ (ShT Γ (w10 3 2).toNatClampNeg ∧ CV Γ d M_X3_takeStep [.ref (gad Γ ((w10 3 2).toNatClampNeg)), .int sc] w10 (fun w14 => P6 (l1 + 1) w14))))) := fun op hop hk0 hk59 hsg hl sc => by
          have ea := ea hl
          have r5 : rk op = 5 := by
            rcases hop with q | q <;> subst q <;> decide
          have hWx : lay 6 (op :: W) = op :: W := lay_stop (by omega)
          have hcx : cnt (op :: W) = o := by
            rw [cnt_bin (by omega)]
            exact hc
          obtain ⟨hx1, hx2⟩ := hx
          have step : nx kk S true cm s = some (op :: W, false, cm, false) := by
            have h41 : ¬ kk = 41 := fun q => by
              rw [q] at hsg
              have e : sgOf 41 cm = -1 := rfl
              omega
            unfold nx
            rw [if_pos rfl, if_neg h41, hsg, if_neg (by omega), r5, hx1, hW]
            rfl
          refine xt_token (by omega) hG ht T g (fun v s2 e2 k2 gv tv => ?_)
          have wf2 := tv.wf
          refine h1 _ (by omega) t w0 _ N ht T o D (st0 + l1.toInt.toNat + 1) (op :: W) c0 hn hcx hWx (fun q => absurd q (by decide)) (Or.inr ⟨en, s2, e2, k2, op :: W, cm, false, gv, tv, by omega, fun x hx => hD x (PFin.step (fun q => hk59 q.2) step tv hx), rfl, hx2.1, Or.inr ⟨by decide, fun _ => rfl⟩⟩) _ (fun w8 X8 => ?_)
          refine xt_take (by omega) hG ht X8 (fun w12 X12 => ?_)
          exact ih _ _ (by omega) (by omega) (X12.imp (by omega) (fun S2 cm2 s2 k2 hh => ⟨head _ _ (lay_over (by omega)) hh.1, hh.2⟩)) (by omega)
        refine ⟨fun z => ?_, fun hl => ?_⟩
        · have h0 := st_l1 tk T.2.1 z (by omega)
          exact out (by omega) (by omega)
        · rw [Int32.le_iff_toInt_le] at hl
          have p31 : (kk = 43 ∨ kk = 45) → P31 l1 u := fun hk => by
            refine c31 _ _ ⟨fun z => ?_, fun z => ?_⟩
            · have hk2 : kk = 45 := by
                have := tni g.2.2.2.1 z
                have e : (43 : Int32).toInt = 43 := rfl
                omega
              subst hk2
              exact turn 7 (Or.inr rfl) (by decide) (by decide) rfl (by omega) _
            · have hk2 : kk = 43 := ti g.2.2.2.1 z
              subst hk2
              exact turn 6 (Or.inl rfl) (by decide) (by decide) rfl (by omega) _
          exact ⟨fun z => p31 (Or.inl (ti g.2.2.2.1 z)), fun z => ⟨fun z2 => out (tni g.2.2.2.1 z) (tni g.2.2.2.1 z2), fun z2 => p31 (Or.inr (ti g.2.2.2.1 z2))⟩⟩
  have n0 : (0 : Int32).toInt = 0 := rfl
  refine h1 _ (by omega) t w0 _ N ht T o D st0 W c0 hn hc hW1 (fun q => absurd q (by decide)) (hE.imp (Nat.le_refl _) (fun S cm s kk hh => ⟨hh.1, hh.2.1, Or.inr ⟨by decide, by
      rcases hh.2.2 with q | q
      · exact absurd q.1 (by decide)
      · exact q.2⟩⟩)) _ (fun w2 X2 => ?_)
  exact key _ _ _ (by omega) (by omega) (X2.imp (by omega) (fun S2 cm2 s2 k2 hh => ⟨head _ _ rfl hh.1, hh.2⟩)) (Nat.lt_succ_self _)
set_option maxRecDepth 20000 in
theorem xr_readCompared {Γ : Gx} (hG : GC Γ) {n e : Nat} (he : 9 ≤ e) (h1 : RdX Γ M_X1_readSum n e 5 5 X5) : RdX Γ M_X1_readCompared n (e + 1) 4 4 X4 := by
  intro d hd t w0 w N ht T o D st0 W c0 hn hc hW hc0 hE Q k
  obtain ⟨d, rfl⟩ : ∃ e, d = e + 1 := ⟨d - 1, by omega⟩
  refine con_X1_readCompared hG ?_
  unfold wp_X1_readCompared
  intro P22 c22
  have hc00 : c0 = false := hc0 (by decide)
  have hW1 : lay 5 W = W := lay_fix (by decide) hW
  have head : ∀ (V S : List Int), lay 4 V = lay 4 W → lay 5 S = lay 5 V → lay 4 S = lay 4 W := fun V S h1 h2 => by
    rw [← lay_le (r := 4) (r2 := 5) (by decide) S, h2, lay_le (by decide)]
    exact h1
  refine h1 _ (by omega) t w0 _ N ht T o D st0 W c0 hn hc hW1 (fun q => absurd q (by decide)) (hE.imp (Nat.le_refl _) (fun S cm s kk hh => ⟨hh.1, hh.2.1, Or.inr ⟨by decide, by
      rcases hh.2.2 with q | q
      · exact absurd q.1 (by decide)
      · exact q.2⟩⟩)) _ (fun u X => ?_)
  rcases X with ⟨f, g, hD⟩ | ⟨p, st, en, kk, S, cm, s, g, tk, hs, hD, hx⟩
  · have b : Q u := k _ (Or.inl ⟨f, g, hD⟩)
    refine ⟨fun z => ?_, fun _ => ⟨fun _ => b, fun z => ?_⟩⟩
    · exact absurd (ti g.2.2.2 z) (by decide)
    · exact absurd (ti g.2.2.2 z) (by decide)
  · obtain ⟨hx1, hx2, hx3⟩ := hx
    have hx4 := head _ _ rfl hx1
    have wf := tk.wf
    have turn : ∀ op : Int, (op = 9 ∨ op = 10) → ¬ kk = 0 → ¬ kk = 59 → sgOf kk cm = op → ∀ sc : Int32, CV Γ d M_X1_readToken [.ref (gad Γ 3)] u (fun w8 => CV Γ d M_X1_readSum [.ref (gad Γ 3)] w8 (fun w10 => (¬ w10 3 2 = -1 ∧ (ShT Γ (w10 3 2).toNatClampNeg ∧ CV Γ d M_X3_takeStep [.ref (gad Γ ((w10 3 2).toNatClampNeg)), .int sc] w10 (fun w14 => Q w14))))) := fun op hop hk0 hk59 hsg sc => by
      have r5 : rk op = 4 := by
        rcases hop with q | q <;> subst q <;> decide
      have hWx : lay 5 (op :: W) = op :: W := lay_stop (by omega)
      have hcx : cnt (op :: W) = o := by
        rw [cnt_bin (by omega)]
        exact hc
      have step : nx kk S true cm s = some (op :: W, false, true, false) := by
        have h41 : ¬ kk = 41 := fun q => by
          rw [q] at hsg
          have e : sgOf 41 cm = -1 := rfl
          omega
        unfold nx
        rw [if_pos rfl, if_neg h41, hsg, if_neg (by omega), r5, hx4, hW]
        rfl
      refine xt_token (by omega) hG ht T g (fun v s2 e2 k2 gv tv => ?_)
      have wf2 := tv.wf
      refine h1 _ (by omega) t w0 _ N ht T o D st0 (op :: W) true hn hcx hWx (fun q => absurd q (by decide)) (Or.inr ⟨en, s2, e2, k2, op :: W, true, false, gv, tv, by omega, fun x hx => hD x (PFin.step (fun q => hk59 q.2) step tv hx), rfl, rfl, Or.inr ⟨by decide, fun _ => rfl⟩⟩) _ (fun w8 X8 => ?_)
      refine xt_take (by omega) hG ht X8 (fun w12 X12 => ?_)
      exact k _ (X12.imp (Nat.le_refl _) (fun S2 cm2 s2 k2 hh => ⟨head _ _ (lay_over (by omega)) hh.1, hh.2.2, fun _ => hh.2.1⟩))
    have p22 : (kk = 60 ∨ kk = 61) → P22 u := fun hk => by
      have hcm : cm = false := hx2.trans hc00
      refine c22 _ ⟨fun z => ?_, fun z => ?_⟩
      · have hk2 : kk = 61 := by
          have := tni g.2.2.2.1 z
          have e : (60 : Int32).toInt = 60 := rfl
          omega
        subst hk2
        exact turn 10 (Or.inr rfl) (by decide) (by decide) (by rw [hcm]; rfl) _
      · have hk2 : kk = 60 := ti g.2.2.2.1 z
        subst hk2
        exact turn 9 (Or.inl rfl) (by decide) (by decide) (by rw [hcm]; rfl) _
    refine ⟨fun z => p22 (Or.inl (ti g.2.2.2.1 z)), fun z => ⟨fun z2 => ?_, fun z2 => p22 (Or.inr (ti g.2.2.2.1 z2))⟩⟩
    have y1 := tni g.2.2.2.1 z
    have y2 := tni g.2.2.2.1 z2
    exact k _ (Or.inr ⟨p, st, en, kk, S, cm, s, g, tk, hs, hD, hx4, hx3, fun q => by
      rcases q with q | q
      · exact absurd q y1
      · exact absurd q y2⟩)
set_option maxRecDepth 20000 in
theorem xr_readNot {Γ : Gx} (hG : GC Γ) {n e : Nat} (he : 9 ≤ e) (h1 : RdX Γ M_X1_readCompared n e 4 4 X4) (h2 : ∀ n2, n = n2 + 1 → RdX Γ M_X1_readNot n2 e 3 4 X4) : RdX Γ M_X1_readNot n (e + 1) 3 4 X4 := by
  intro d hd t w0 w N ht T o D st0 W c0 hn hc hW hc0 hE Q k
  obtain ⟨d, rfl⟩ : ∃ e, d = e + 1 := ⟨d - 1, by omega⟩
  refine con_X1_readNot hG ?_
  unfold wp_X1_readNot
  have hc00 : c0 = false := hc0 (by decide)
  have cn := cnt_nn W
  have down : ∀ S V : List Int, lay 4 S = lay 4 V → lay 3 S = lay 3 V := fun S V h => by
    rw [← lay_le (r := 3) (r2 := 4) (by decide) S, h, lay_le (by decide)]
  refine ⟨fun z => ?_, fun z => ?_⟩
  · rcases hE with ⟨f, g, hD⟩ | ⟨p, st, en, kk, S, cm, s, g, tk, hs, hD, hx⟩
    · exact absurd (ti g.2.2.2 z) (by decide)
    · have hk : kk = 9 := ti g.2.2.2.1 z
      subst hk
      obtain ⟨rfl, rfl, hx3⟩ := hx
      have hs3 : s = true := by
        rcases hx3 with q | q
        · exact q.2
        · exact absurd q.1 (by decide)
      subst hs3
      have wf := tk.wf
      refine xt_opens (by omega) hG ht T g (fun ho v s2 e2 k2 gv tv => ⟨fun q => absurd q (by decide), fun _ => ?_⟩) (fun ho v gv => ⟨fun _ => k _ (Or.inl ⟨st, gv, hD _ (PFin.stuck (fun q => absurd q.1 (by decide)) ?_)⟩), fun q => absurd rfl q⟩)
      · have step : nx 9 S false cm true = some (13 :: S, false, cm, true) := by
          unfold nx
          rw [if_neg (by decide), if_neg (by decide), if_pos (Or.inl ⟨rfl, rfl⟩), if_neg (by omega), if_neg (by decide), if_pos rfl]
        have wf2 := tv.wf
        have hcx : cnt (13 :: S) = o + 1 := by
          rw [cnt_one (Or.inl rfl), hc]
        refine (h2 (n - 1) (by omega)) _ (by omega) t w0 _ N ht T (o + 1) D st0 (13 :: S) cm (by omega) hcx (lay_stop (by decide)) hc0 (Or.inr ⟨en, s2, e2, k2, 13 :: S, cm, true, gv, tv, by omega, fun x hx => hD x (PFin.step (by decide) step tv hx), rfl, rfl, Or.inl ⟨by decide, rfl⟩⟩) _ (fun w6 X6 => ?_)
        refine xt_take (by omega) hG ht X6 (fun w10 X10 => ?_)
        intro w11 e11
        subst e11
        exact k _ ((X10.shut ht (by omega)).imp (Nat.le_refl _) (fun S2 cm2 s2 k2 hh => ⟨hh.1.trans (lay_over (by decide)), hh.2⟩))
      · unfold nx
        rw [if_neg (by decide), if_neg (by decide), if_pos (Or.inl ⟨rfl, rfl⟩), if_pos (by omega)]
  · refine h1 _ (by omega) t w0 _ N ht T o D st0 W c0 hn hc hW (fun _ => hc0 (by decide)) ?_ _ (fun u X => k _ (X.imp (Nat.le_refl _) (fun S cm s kk hh => ⟨down _ _ hh.1, hh.2⟩)))
    rcases hE with ⟨f, g, hD⟩ | ⟨p, st, en, kk, S, cm, s, g, tk, hs, hD, hx⟩
    · exact Or.inl ⟨f, g, hD⟩
    · exact Or.inr ⟨p, st, en, kk, S, cm, s, g, tk, hs, hD, hx.1, hx.2.1, Or.inr ⟨by decide, fun q => absurd q (tni g.2.2.2.1 z)⟩⟩
theorem sg_no {k : Int} {c0 cm : Bool} (h : X1 c0 cm k) : sgOf k cm = -1 := by
  obtain ⟨⟨⟨h1, h2, h3⟩, h4⟩, h5, h6⟩ := h
  unfold sgOf
  rw [if_neg h1, if_neg h2, if_neg h3]
  by_cases q : k = 60
  · rw [if_pos q, h4 (Or.inl q)]
    rfl
  · rw [if_neg q]
    by_cases q2 : k = 61
    · rw [if_pos q2, h4 (Or.inr q2)]
      rfl
    · rw [if_neg q2, if_neg h5, if_neg h6]
/-- behind all of an E, what isn't wanted can't stand -/
theorem end_no {g : Nat → Int} {n st en : Nat} {k : Int} {S : List Int} {c0 cm s : Bool} (h : X1 c0 cm k) (hk : ¬ k = 41 ∨ lay 1 S = []) (h59 : ¬ k = 59 ∨ ¬ lay 1 S = []) : PFin g n st en k (S, true, cm, s) (false, st) := by
  by_cases q : k = 59
  · subst q
    rcases h59 with h59 | h59
    · exact absurd rfl h59
    · exact PFin.unc h59
  · refine PFin.stuck (fun z => q z.2) ?_
    unfold nx
    rw [if_pos rfl]
    by_cases q2 : k = 41
    · rcases hk with hk | hk
      · exact absurd q2 hk
      · rw [if_pos q2, hk]
    · rw [if_neg q2, if_pos (sg_no h)]
set_option maxRecDepth 20000 in
theorem xr_readOne {Γ : Gx} (hG : GC Γ) {n e : Nat} (he : 9 ≤ e) (h1 : ∀ n2, n = n2 + 1 → RdX Γ M_X1_readOr n2 e 1 1 X1 ∧ RdX Γ M_X1_readOne n2 e 7 8 X7) : RdX Γ M_X1_readOne n (e + 1) 7 8 X7 := by
  intro d hd t w0 w N ht T o D st0 W c0 hn hc hW hc0 hE Q k
  obtain ⟨d, rfl⟩ : ∃ e, d = e + 1 := ⟨d - 1, by omega⟩
  refine con_X1_readOne hG ?_
  unfold wp_X1_readOne
  have cn := cnt_nn W
  rcases hE with ⟨f, g, hD⟩ | ⟨p, st, en, kk, S, cm, s, g, tk, hs, hD, hx⟩
  · refine ⟨fun z => ?_, fun z => ?_, fun z => ?_, fun z => ?_, fun _ => xt_failB (by omega) hG ht g (fun v gv => k _ (Or.inl ⟨f, gv, hD⟩))⟩
    · exact absurd (ti g.2.2.2 z) (by decide)
    · exact absurd (ti g.2.2.2 z) (by decide)
    · exact absurd (ti g.2.2.2 z) (by decide)
    · exact absurd (ti g.2.2.2 z) (by decide)
  · obtain ⟨rfl, rfl, hx3⟩ := hx
    have hs9 : kk = 9 → s = false := by
      rcases hx3 with q | q
      · exact absurd q.1 (by decide)
      · exact q.2
    have wf := tk.wf
    have opnd : (kk = 2 ∨ kk = 3) → ∀ sc : Int32, ¬ w 3 2 = -1 ∧ (ShT Γ (w 3 2).toNatClampNeg ∧ CV Γ d M_X3_takeStep [.ref (gad Γ ((w 3 2).toNatClampNeg)), .int sc] w (fun w4 => CV Γ d M_X1_readToken [.ref (gad Γ 3)] w4 (fun w6 => Q w6))) := fun hk sc => by
      refine xt_takeG (by omega) hG ht g (fun v gv => xt_token (by omega) hG ht T gv (fun v2 s2 e2 k2 g2 t2 => ?_))
      have wf2 := t2.wf
      have step : nx kk S false cm s = some (lay 7 S, true, cm, s) := by
        unfold nx
        rw [if_neg (by decide), if_pos hk]
      exact k _ (Or.inr ⟨en, s2, e2, k2, lay 7 S, cm, s, g2, t2, by omega, fun x hx => hD x (PFin.step (fun q => absurd q.1 (by decide)) step t2 hx), lay_le (Int.le_refl 7) S, rfl⟩)
    have full : (kk = 45 ∨ kk = 40) → o = 5 → D (false, st) := fun hk ho => hD _ (PFin.stuck (fun q => absurd q.1 (by decide)) (by
      unfold nx
      rw [if_neg (by decide), if_neg (by omega), if_pos (Or.inr hk), if_pos (by omega)]))
    refine ⟨fun z => opnd (Or.inl (ti g.2.2.2.1 z)) _, fun z => opnd (Or.inr (ti g.2.2.2.1 z)) _, fun z => ?_, fun z => ?_, fun z => ?_⟩
    · have hk : kk = 45 := ti g.2.2.2.1 z
      subst hk
      refine xt_opens (by omega) hG ht T g (fun ho v s2 e2 k2 gv tv => ⟨fun q => absurd q (by decide), fun _ => ?_⟩) (fun ho v gv => ⟨fun _ => k _ (Or.inl ⟨st, gv, full (Or.inl rfl) ho⟩), fun q => absurd rfl q⟩)
      have step : nx 45 S false cm s = some (14 :: S, false, cm, false) := by
        unfold nx
        rw [if_neg (by decide), if_neg (by decide), if_pos (Or.inr (Or.inl rfl)), if_neg (by omega), if_neg (by decide), if_neg (by decide)]
      have wf2 := tv.wf
      have hcx : cnt (14 :: S) = o + 1 := by
        rw [cnt_one (Or.inr (Or.inl rfl)), hc]
      refine (h1 (n - 1) (by omega)).2 _ (by omega) t w0 _ N ht T (o + 1) D st0 (14 :: S) cm (by omega) hcx (lay8 _) (fun q => absurd q (by decide)) (Or.inr ⟨en, s2, e2, k2, 14 :: S, cm, false, gv, tv, by omega, fun x hx => hD x (PFin.step (by decide) step tv hx), rfl, rfl, Or.inr ⟨by decide, fun _ => rfl⟩⟩) _ (fun w6 X6 => ?_)
      refine xt_take (by omega) hG ht X6 (fun w10 X10 => ?_)
      intro w11 e11
      subst e11
      exact k _ ((X10.shut ht (by omega)).imp (Nat.le_refl _) (fun S2 cm2 s2 k2 hh => ⟨hh.1.trans (lay_over (by decide)), hh.2⟩))
    · have hk : kk = 40 := ti g.2.2.2.1 z
      subst hk
      refine xt_opens (by omega) hG ht T g (fun ho v s2 e2 k2 gv tv => ⟨fun q => absurd q (by decide), fun _ => ?_⟩) (fun ho v gv => ⟨fun _ => k _ (Or.inl ⟨st, gv, full (Or.inr rfl) ho⟩), fun q => absurd rfl q⟩)
      obtain ⟨b, hb⟩ : ∃ b : Int, b = if cm then -2 else -1 := ⟨_, rfl⟩
      have hb2 : rk b = 0 ∧ decide (b = -2) = cm := by
        cases cm <;> rw [hb] <;> exact ⟨rfl, rfl⟩
      have step : nx 40 S false cm s = some (b :: S, false, false, true) := by
        unfold nx
        rw [if_neg (by decide), if_neg (by decide), if_pos (Or.inr (Or.inr rfl)), if_neg (by omega), if_pos rfl, hb]
      have wf2 := tv.wf
      have hcx : cnt (b :: S) = o + 1 := by
        rw [cnt_one (Or.inr (Or.inr hb2.1)), hc]
      have hlb : lay 1 (b :: S) = b :: S := lay_stop (by omega)
      refine (h1 (n - 1) (by omega)).1 _ (by omega) t w0 _ N ht T (o + 1) D st0 (b :: S) false (by omega) hcx hlb (fun _ => rfl) (Or.inr ⟨en, s2, e2, k2, b :: S, false, true, gv, tv, by omega, fun x hx => hD x (PFin.step (by decide) step tv hx), rfl, rfl, Or.inl ⟨by decide, rfl⟩⟩) _ (fun w28 X28 => ?_)
      have last : ∀ v : Wd, XS t w0 N (o + 1) D st0 true (EX 7 X7 S cm) v → ∀ w31 : Wd, w31 = wset v 3 7 ((v 3 7) - (1 : Int32)) → Q w31 := fun v Xv w31 e31 => by
        subst e31
        exact k _ (Xv.shut ht (by omega))
      obtain ⟨d, rfl⟩ : ∃ e, d = e + 1 := ⟨d - 1, by omega⟩
      refine con_X1_pass hG ?_
      unfold wp_X1_pass
      rcases X28 with ⟨f, g3, hD3⟩ | ⟨p3, st3, en3, kk3, S3, cm3, s3, g3, tk3, hs3, hD3, hx3⟩
      · refine ⟨fun _ => xt_failB (by omega) hG ht g3 (fun v gv => last v (Or.inl ⟨f, gv, hD3⟩)), fun z => ?_⟩
        exact absurd (ti g3.2.2.2 z) (by decide)
      · obtain ⟨hl3, hX3⟩ := hx3
        rw [hlb] at hl3
        refine ⟨fun z => xt_fail (by omega) hG ht g3 (fun v gv => last v (Or.inl ⟨st3, gv, hD3 _ (end_no hX3 (Or.inl (tni g3.2.2.2.1 z)) (Or.inr (by rw [hl3]; exact List.cons_ne_nil _ _)))⟩)), fun z => ?_⟩
        have hk : kk3 = 41 := ti g3.2.2.2.1 z
        subst hk
        have wf3 := tk3.wf
        refine xt_token (by omega) hG ht T g3 (fun v s4 e4 k4 gv4 tv4 => last v (Or.inr ⟨en3, s4, e4, k4, lay 7 S, cm, s3, gv4, tv4, ?_, fun x hx => hD3 x (PFin.step (by decide) ?_ tv4 hx), lay_le (Int.le_refl 7) S, rfl⟩))
        · have := tv4.wf
          omega
        · unfold nx
          rw [if_pos rfl, if_pos rfl, hl3]
          show some (lay 7 S, true, decide (b = -2), s3) = _
          rw [hb2.2]
    · refine xt_fail (by omega) hG ht g (fun v gv => k _ (Or.inl ⟨st, gv, hD _ (PFin.stuck (fun q => absurd q.1 (by decide)) ?_)⟩))
      have y1 := tni g.2.2.2.1 z.1
      have y2 := tni g.2.2.2.1 z.2.1
      have y3 := tni g.2.2.2.1 z.2.2.1
      have y4 := tni g.2.2.2.1 z.2.2.2
      have e1 : (2 : Int32).toInt = 2 := rfl
      have e2 : (3 : Int32).toInt = 3 := rfl
      have e3 : (40 : Int32).toInt = 40 := rfl
      have e4 : (45 : Int32).toInt = 45 := rfl
      unfold nx
      rw [if_neg (by decide), if_neg (by omega), if_neg (fun q => ?_)]
      rcases q with q | q | q
      · have := hs9 q.1
        rw [this] at q
        exact absurd q.2 (by decide)
      · omega
      · omega
theorem xr_all {Γ : Gx} (hG : GC Γ) : ∀ n : Nat, RdX Γ M_X1_readOne n (10 + 8 * n) 7 8 X7 ∧ RdX Γ M_X1_readNot n (14 + 8 * n) 3 4 X4 ∧ RdX Γ M_X1_readOr n (16 + 8 * n) 1 1 X1 := by
  intro n
  induction n with
  | zero =>
    have a1 := xr_readOne hG (n := 0) (e := 9) (by omega) (fun n2 h => absurd h (by omega))
    have a2 := xr_readTerm hG (by omega) a1
    have a3 := xr_readSum hG (by omega) a2
    have a4 := xr_readCompared hG (by omega) a3
    have a5 := xr_readNot hG (by omega) a4 (fun n2 h => absurd h (by omega))
    have a6 := xr_readAnd hG (by omega) a5
    have a7 := xr_readOr hG (by omega) a6
    exact ⟨a1.up (by omega), a5.up (by omega), a7.up (by omega)⟩
  | succ n ih =>
    obtain ⟨i1, i2, i3⟩ := ih
    have a1 := xr_readOne hG (n := n + 1) (e := 16 + 8 * n) (by omega) (fun n2 h => by
      obtain rfl : n2 = n := by omega
      exact ⟨i3, i1.up (by omega)⟩)
    have a2 := xr_readTerm hG (by omega) a1
    have a3 := xr_readSum hG (by omega) a2
    have a4 := xr_readCompared hG (by omega) a3
    have a5 := xr_readNot hG (by omega) a4 (fun n2 h => by
      obtain rfl : n2 = n := by omega
      exact i2.up (by omega))
    have a6 := xr_readAnd hG (by omega) a5
    have a7 := xr_readOr hG (by omega) a6
    exact ⟨a1.up (by omega), a5.up (by omega), a7.up (by omega)⟩
theorem xr_or {Γ : Gx} (hG : GC Γ) : RdX Γ M_X1_readOr 5 56 1 1 X1 := (xr_all hG 5).2.2
