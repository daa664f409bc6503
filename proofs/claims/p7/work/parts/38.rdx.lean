/-! the class's reader, exactly: each method leads the automaton on -/
theorem cnt_nn : ∀ S : List Int, 0 ≤ cnt S
  | [] => Int.le_refl 0
  | x :: S => by
    have := cnt_nn S
    show 0 ≤ cnt S + _
    split <;> omega
theorem rk_le (x : Int) : rk x ≤ 7 := by
  unfold rk
  repeat' split
  all_goals decide
theorem lay8 (S : List Int) : lay 8 S = S := by
  cases S with
  | nil => rfl
  | cons x S =>
    have := rk_le x
    exact lay_stop (by omega)
def Bad (t : Nat) (w0 : Wd) (o : Int) (f : Nat) (u : Wd) : Prop := RI t w0 u ∧ (u 3 7).toInt = o ∧ (u 3 8).toInt = f ∧ (u 3 5).toInt = 1
def Gud (t : Nat) (w0 : Wd) (o : Int) (st en : Nat) (k : Int) (u : Wd) : Prop := RI t w0 u ∧ (u 3 7).toInt = o ∧ (u 3 8).toInt = -1 ∧ (u 3 5).toInt = k ∧ (u 3 4).toInt = st ∧ (u 3 3).toInt = en
/-- a fault that D has, or a token and a state of the automaton whose ends D has -/
def XS (t : Nat) (w0 : Wd) (N : Nat) (o : Int) (D : OC → Prop) (st0 : Nat) (b : Bool) (H : List Int → Bool → Bool → Int → Prop) (u : Wd) : Prop := (∃ f : Nat, Bad t w0 o f u ∧ D (false, f)) ∨ ∃ (p st en : Nat) (k : Int) (S : List Int) (cm s : Bool), Gud t w0 o st en k u ∧ Tok (tg w0) N p st en k ∧ st0 ≤ st ∧ (∀ x : OC, PFin (tg w0) N st en k (S, b, cm, s) x → D x) ∧ H S cm s k
theorem Bad.eq {t : Nat} {w0 : Wd} {o : Int} {f : Nat} {u v : Wd} (h : Bad t w0 o f u) (i : RI t w0 v) (e : v 3 = u 3) : Bad t w0 o f v := by
  unfold Bad at *
  rw [e]
  exact ⟨i, h.2⟩
theorem Gud.eq {t : Nat} {w0 : Wd} {o : Int} {st en : Nat} {k : Int} {u v : Wd} (h : Gud t w0 o st en k u) (i : RI t w0 v) (e : v 3 = u 3) : Gud t w0 o st en k v := by
  unfold Gud at *
  rw [e]
  exact ⟨i, h.2⟩
theorem XS.ri {t : Nat} {w0 : Wd} {N : Nat} {o : Int} {D : OC → Prop} {st0 : Nat} {b : Bool} {H : List Int → Bool → Bool → Int → Prop} {u : Wd} (h : XS t w0 N o D st0 b H u) : RI t w0 u ∧ (u 3 7).toInt = o := by
  rcases h with ⟨f, h, _⟩ | ⟨p, st, en, k, S, cm, s, h, _⟩
  · exact ⟨h.1, h.2.1⟩
  · exact ⟨h.1, h.2.1⟩
theorem XS.eq {t : Nat} {w0 : Wd} {N : Nat} {o : Int} {D : OC → Prop} {st0 : Nat} {b : Bool} {H : List Int → Bool → Bool → Int → Prop} {u v : Wd} (h : XS t w0 N o D st0 b H u) (i : RI t w0 v) (e : v 3 = u 3) : XS t w0 N o D st0 b H v := by
  rcases h with ⟨f, h, h2⟩ | ⟨p, st, en, k, S, cm, s, h, h2⟩
  · exact Or.inl ⟨f, h.eq i e, h2⟩
  · exact Or.inr ⟨p, st, en, k, S, cm, s, h.eq i e, h2⟩
theorem XS.imp {t : Nat} {w0 : Wd} {N : Nat} {o : Int} {D : OC → Prop} {st0 st1 : Nat} {b : Bool} {H H2 : List Int → Bool → Bool → Int → Prop} {u : Wd} (h : XS t w0 N o D st0 b H u) (hs : st1 ≤ st0) (hh : ∀ S cm s k, H S cm s k → H2 S cm s k) : XS t w0 N o D st1 b H2 u := by
  rcases h with ⟨f, h, h2⟩ | ⟨p, st, en, k, S, cm, s, h, h2, h3, h4, h5⟩
  · exact Or.inl ⟨f, h, h2⟩
  · exact Or.inr ⟨p, st, en, k, S, cm, s, h, h2, by omega, h4, hh _ _ _ _ h5⟩
theorem XS.shut {t : Nat} {w0 : Wd} {N : Nat} {o : Int} {D : OC → Prop} {st0 : Nat} {b : Bool} {H : List Int → Bool → Bool → Int → Prop} {u : Wd} (ht : isT t) (h : XS t w0 N (o + 1) D st0 b H u) (ho : 0 ≤ o) : XS t w0 N o D st0 b H (wset u 3 7 (u 3 7 - 1)) := by
  obtain ⟨i, e⟩ := h.ri
  have m := i.num
  have n1 : (1 : Int32).toInt = 1 := rfl
  have es := i_sub (x := u 3 7) (y := 1) (by omega) (by omega)
  have i2 : RI t w0 (wset u 3 7 (u 3 7 - 1)) := RI.op ht i (by omega) (by omega)
  rcases h with ⟨f, h, h2⟩ | ⟨p, st, en, k, S, cm, s, h, h2⟩
  · refine Or.inl ⟨f, ⟨i2, ?_, ?_, ?_⟩, h2⟩
    · rw [ws_hit]
      omega
    · rw [ws_row (by decide)]
      exact h.2.2.1
    · rw [ws_row (by decide)]
      exact h.2.2.2
  · refine Or.inr ⟨p, st, en, k, S, cm, s, ⟨i2, ?_, ?_, ?_, ?_, ?_⟩, h2⟩
    · rw [ws_hit]
      omega
    · rw [ws_row (by decide)]
      exact h.2.2.1
    · rw [ws_row (by decide)]
      exact h.2.2.2.1
    · rw [ws_row (by decide)]
      exact h.2.2.2.2.1
    · rw [ws_row (by decide)]
      exact h.2.2.2.2.2
section XT
variable {Γ : Gx} {d : Nat} {t : Nat} {w0 u : Wd} {N : Nat} {o : Int} {Q : Wd → Prop}
theorem xt_token (hd : 7 ≤ d) (hG : GC Γ) (ht : isT t) (T : TP w0 N) {st en : Nat} {k : Int} (g : Gud t w0 o st en k u) (h : ∀ (v : Wd) (s2 e2 : Nat) (k2 : Int), Gud t w0 o s2 e2 k2 v → Tok (tg w0) N en s2 e2 k2 → Q v) : CV Γ d M_X1_readToken [.ref (gad Γ 3)] u Q :=
  tk_readToken hd hG ht g.1 T g.2.2.2.2.2 (fun z => absurd g.2.2.1 z) (fun _ v s2 e2 k2 L h5 tok => h v s2 e2 k2 ⟨L.1, L.2.2.2.1.trans g.2.1, L.2.2.2.2.trans g.2.2.1, h5, L.2.2.1, L.2.1⟩ tok)
theorem xt_tokB (hd : 7 ≤ d) (hG : GC Γ) (ht : isT t) (T : TP w0 N) {f : Nat} (g : Bad t w0 o f u) (h : Q u) : CV Γ d M_X1_readToken [.ref (gad Γ 3)] u Q := by
  have m := g.1.num
  exact tk_readToken hd hG ht g.1 (p := (u 3 3).toInt.toNat) T (by omega) (fun _ => h) (fun z => by have := g.2.2.1; omega)
theorem xt_fail (hd : 1 ≤ d) (hG : GC Γ) (ht : isT t) {st en : Nat} {k : Int} (g : Gud t w0 o st en k u) (h : ∀ v : Wd, Bad t w0 o st v → Q v) : CV Γ d M_X1_fail [.ref (gad Γ 3)] u Q := by
  obtain ⟨d, rfl⟩ : ∃ e, d = e + 1 := ⟨d - 1, by omega⟩
  refine con_X1_fail hG ?_
  unfold wp_X1_fail
  refine ⟨fun z => absurd (i_ext (y := -1) g.2.2.1) z, fun _ v ev x ex => h _ ?_⟩
  subst ev
  subst ex
  refine ⟨RI.any ht (RI.any ht g.1 (by omega)) (by omega), ?_, ?_, ?_⟩
  · rw [ws_row (by decide), ws_row (by decide)]
    exact g.2.1
  · rw [ws_row (by decide), ws_hit]
    exact g.2.2.2.2.1
  · rw [ws_hit]
    rfl
theorem xt_failB (hd : 1 ≤ d) (hG : GC Γ) (ht : isT t) {f : Nat} (g : Bad t w0 o f u) (h : ∀ v : Wd, Bad t w0 o f v → Q v) : CV Γ d M_X1_fail [.ref (gad Γ 3)] u Q := by
  obtain ⟨d, rfl⟩ : ∃ e, d = e + 1 := ⟨d - 1, by omega⟩
  refine con_X1_fail hG ?_
  unfold wp_X1_fail
  refine ⟨fun _ v ev => h _ ?_, fun z => ?_⟩
  · subst ev
    refine ⟨RI.any ht g.1 (by omega), ?_, ?_, ?_⟩
    · rw [ws_row (by decide)]
      exact g.2.1
    · rw [ws_row (by decide)]
      exact g.2.2.1
    · rw [ws_hit]
      rfl
  · have e := congrArg Int32.toInt z
    have e1 : (-1 : Int32).toInt = -1 := rfl
    have := g.2.2.1
    omega
theorem xt_take (hd : 1 ≤ d) (hG : GC Γ) (ht : isT t) {D : OC → Prop} {st0 : Nat} {b : Bool} {H : List Int → Bool → Bool → Int → Prop} {p1 : Int32} (h : XS t w0 N o D st0 b H u) (k : ∀ v : Wd, XS t w0 N o D st0 b H v → Q v) : ¬ u 3 2 = -1 ∧ (ShT Γ (u 3 2).toNatClampNeg ∧ CV Γ d M_X3_takeStep [.ref (gad Γ ((u 3 2).toNatClampNeg)), .int p1] u Q) := by
  have i := h.ri.1
  refine ⟨RI.ne ht i, ?_⟩
  rw [RI.t ht i]
  exact ⟨isT.sh hG.2.1 ht, cs_X3_takeStep hd hG ht i (fun v iv ev => k v (h.eq iv ev))⟩
theorem xt_takeG (hd : 1 ≤ d) (hG : GC Γ) (ht : isT t) {st en : Nat} {kk : Int} {p1 : Int32} (h : Gud t w0 o st en kk u) (k : ∀ v : Wd, Gud t w0 o st en kk v → Q v) : ¬ u 3 2 = -1 ∧ (ShT Γ (u 3 2).toNatClampNeg ∧ CV Γ d M_X3_takeStep [.ref (gad Γ ((u 3 2).toNatClampNeg)), .int p1] u Q) := by
  have i := h.1
  refine ⟨RI.ne ht i, ?_⟩
  rw [RI.t ht i]
  exact ⟨isT.sh hG.2.1 ht, cs_X3_takeStep hd hG ht i (fun v iv ev => k v (h.eq iv ev))⟩
theorem xt_opens (hd : 8 ≤ d) (hG : GC Γ) (ht : isT t) (T : TP w0 N) {Q : Int32 → Wd → Prop} {st en : Nat} {k : Int} (g : Gud t w0 o st en k u) (h1 : o < 5 → ∀ (v : Wd) (s2 e2 : Nat) (k2 : Int), Gud t w0 (o + 1) s2 e2 k2 v → Tok (tg w0) N en s2 e2 k2 → Q 1 v) (h0 : o = 5 → ∀ v : Wd, Bad t w0 o st v → Q 0 v) : CI Γ d M_X1_opens [.ref (gad Γ 3)] u Q := by
  obtain ⟨d, rfl⟩ : ∃ e, d = e + 1 := ⟨d - 1, by omega⟩
  refine con_X1_opens hG ?_
  unfold wp_X1_opens
  have m := g.1.num
  have n5 : (5 : Int32).toInt = 5 := rfl
  have n1 : (1 : Int32).toInt = 1 := rfl
  have g2 := g.2.1
  refine ⟨fun h v ev => ?_, fun h => ?_⟩
  · rw [Int32.lt_iff_toInt_lt] at h
    have ea := i_add (x := u 3 7) (y := 1) (by omega) (by omega)
    have gv : Gud t w0 (o + 1) st en k v := by
      subst ev
      refine ⟨RI.op ht g.1 (by omega) (by omega), ?_, ?_, ?_, ?_, ?_⟩
      · rw [ws_hit]
        omega
      · rw [ws_row (by decide)]
        exact g.2.2.1
      · rw [ws_row (by decide)]
        exact g.2.2.2.1
      · rw [ws_row (by decide)]
        exact g.2.2.2.2.1
      · rw [ws_row (by decide)]
        exact g.2.2.2.2.2
    exact xt_token (by omega) hG ht T gv (h1 (by omega))
  · rw [Int32.lt_iff_toInt_lt] at h
    exact xt_fail (by omega) hG ht g (h0 (by omega))
end XT
/-- what stands behind a thing of each rank -/
def X7 (c0 c : Bool) (k : Int) : Prop := c = c0
def X6 (c0 c : Bool) (k : Int) : Prop := c = c0 ∧ ¬ k = 42
def X5 (c0 c : Bool) (k : Int) : Prop := c = c0 ∧ ¬ k = 42 ∧ ¬ k = 43 ∧ ¬ k = 45
def X4 (c0 c : Bool) (k : Int) : Prop := (¬ k = 42 ∧ ¬ k = 43 ∧ ¬ k = 45) ∧ (k = 60 ∨ k = 61 → c = true)
def X2 (c0 c : Bool) (k : Int) : Prop := X4 c0 c k ∧ ¬ k = 8
def X1 (c0 c : Bool) (k : Int) : Prop := X4 c0 c k ∧ ¬ k = 8 ∧ ¬ k = 7
def EN (r : Int) (W : List Int) (c0 : Bool) : List Int → Bool → Bool → Int → Prop := fun S cm s k => S = W ∧ cm = c0 ∧ ((r ≤ 3 ∧ s = true) ∨ (4 ≤ r ∧ (k = 9 → s = false)))
def EX (r : Int) (X : Bool → Bool → Int → Prop) (W : List Int) (c0 : Bool) : List Int → Bool → Bool → Int → Prop := fun S cm _ k => lay r S = lay r W ∧ X c0 cm k
/-- a reading method of rank r, over what waits with lay rE W = W, at most n more deep, in e frames -/
def RdX (Γ : Gx) (M : Mth) (n e : Nat) (r rE : Int) (X : Bool → Bool → Int → Prop) : Prop := ∀ d : Nat, e ≤ d → ∀ (t : Nat) (w0 w : Wd) (N : Nat), isT t → TP w0 N → ∀ (o : Int) (D : OC → Prop) (st0 : Nat) (W : List Int) (c0 : Bool), 5 - o ≤ n → cnt W = o → lay rE W = W → (r ≤ 4 → c0 = false) → XS t w0 N o D st0 false (EN r W c0) w → ∀ Q : Wd → Prop, (∀ w' : Wd, XS t w0 N o D st0 true (EX r X W c0) w' → Q w') → CV Γ d M [.ref (gad Γ 3)] w Q
theorem RdX.up {Γ : Gx} {M : Mth} {n e e2 : Nat} {r rE : Int} {X : Bool → Bool → Int → Prop} (h : RdX Γ M n e r rE X) (he : e ≤ e2) : RdX Γ M n e2 r rE X := fun d hd => h d (by omega)
theorem ti {x : Int32} {k : Int} {v : Int32} (h : x.toInt = k) (e : x = v) : k = v.toInt := by
  rw [← h, e]
theorem tni {x : Int32} {k : Int} {v : Int32} (h : x.toInt = k) (e : ¬ x = v) : ¬ k = v.toInt := fun q => e (i_ext (h.trans q))
theorem st_l1 {g : Nat → Int} {n p st en : Nat} {k : Int} (T : Tok g n p st en k) (hn : n ≤ 160) {l1 : Int32} (h : (160 : Int32) ≤ l1) (hl : l1.toInt ≤ st) : k = 0 := by
  rw [Int32.le_iff_toInt_le] at h
  have e : (160 : Int32).toInt = 160 := rfl
  have w := T.wf
  exact w.2.2.2.1.mpr (by omega)

set_option maxRecDepth 20000 in
theorem xr_readTerm {Γ : Gx} (hG : GC Γ) {n e : Nat} (he : 9 ≤ e) (h1 : RdX Γ M_X1_readOne n e 7 8 X7) : RdX Γ M_X1_readTerm n (e + 1) 6 6 X6 := by
  intro d hd t w0 w N ht T o D st0 W c0 hn hc hW hc0 hE Q k
  obtain ⟨d, rfl⟩ : ∃ e, d = e + 1 := ⟨d - 1, by omega⟩
  refine con_X1_readTerm hG ?_
  unfold wp_X1_readTerm
  intro P c
  have n1 : (1 : Int32).toInt = 1 := rfl
  have hW1 : lay 8 W = W := lay_fix (by decide) hW
  have hWx : lay 8 (8 :: W) = 8 :: W := lay_stop (by decide)
  have hcx : cnt (8 :: W) = o := by
    rw [cnt_bin (by decide)]
    exact hc
  have head : ∀ (V S : List Int), lay 6 V = lay 6 W → lay 7 S = lay 7 V → lay 6 S = lay 6 W := fun V S h1 h2 => by
    rw [← lay_le (r := 6) (r2 := 7) (by decide) S, h2, lay_le (by decide)]
    exact h1
  have key : ∀ (m : Nat) (l1 : Int32) (u : Wd), 0 ≤ l1.toInt → l1.toInt ≤ 160 → XS t w0 N o D (st0 + l1.toInt.toNat) true (EX 6 X7 W c0) u → (161 - l1.toInt).toNat < m → P l1 u := by
    intro m
    induction m with
    | zero => exact fun _ _ _ _ _ h => absurd h (Nat.not_lt_zero _)
    | succ m ih =>
      intro l1 u a1 a2 X hm
      refine c _ _ ?_
      have n160 : (160 : Int32).toInt = 160 := rfl
      have out : ∀ p st en kk S cm s, Gud t w0 o st en kk u → Tok (tg w0) N p st en kk → st0 ≤ st → (∀ x : OC, PFin (tg w0) N st en kk (S, true, cm, s) x → D x) → EX 6 X7 W c0 S cm s kk → ¬ kk = 42 → Q u := fun p st en kk S cm s h1 h2 h3 h4 h5 h6 => k _ (Or.inr ⟨p, st, en, kk, S, cm, s, h1, h2, h3, h4, h5.1, ⟨h5.2, h6⟩⟩)
      rcases X with ⟨f, g, hD⟩ | ⟨p, st, en, kk, S, cm, s, g, tk, hs, hD, hx⟩
      · have b : Q u := k _ (Or.inl ⟨f, g, hD⟩)
        refine ⟨fun _ => b, fun _ => ⟨fun _ => b, fun z => ?_⟩⟩
        have := ti g.2.2.2 z
        exact absurd this (by decide)
      · refine ⟨fun z => ?_, fun hl => ⟨fun z => out _ _ _ _ _ _ _ g tk (by omega) hD hx (tni g.2.2.2.1 z), fun z => ?_⟩⟩
        · have h0 := st_l1 tk T.2.1 z (by omega)
          exact out _ _ _ _ _ _ _ g tk (by omega) hD hx (by omega)
        · rw [Int32.le_iff_toInt_le] at hl
          have hk : kk = 42 := ti g.2.2.2.1 z
          have wf := tk.wf
          have ea := i_add (x := l1) (y := 1) (by omega) (by omega)
          subst hk
          obtain ⟨hx1, hx2⟩ := hx
          have step : nx 42 S true cm s = some (8 :: W, false, cm, false) := by
            unfold nx
            rw [if_pos rfl, if_neg (by decide), show sgOf 42 cm = 8 from rfl, if_neg (by decide), show rk 8 = 6 from rfl, hx1, hW]
            rfl
          refine xt_token (by omega) hG ht T g (fun v s2 e2 k2 gv tv => ?_)
          have wf2 := tv.wf
          refine h1 _ (by omega) t w0 _ N ht T o D (st0 + l1.toInt.toNat + 1) (8 :: W) c0 hn hcx hWx (fun q => absurd q (by decide)) (Or.inr ⟨en, s2, e2, k2, 8 :: W, cm, false, gv, tv, by omega, fun x hx => hD x (PFin.step (by decide) step tv hx), rfl, hx2, Or.inr ⟨by decide, fun _ => rfl⟩⟩) _ (fun w8 X8 => ?_)
          refine xt_take (by omega) hG ht X8 (fun w12 X12 => ?_)
          refine ih _ _ (by omega) (by omega) (X12.imp (by omega) (fun S2 cm2 s2 k2 hh => ⟨head _ _ (lay_over (by decide)) hh.1, hh.2⟩)) (by omega)
  have n0 : (0 : Int32).toInt = 0 := rfl
  refine h1 _ (by omega) t w0 _ N ht T o D st0 W c0 hn hc hW1 (fun q => absurd q (by decide)) (hE.imp (Nat.le_refl _) (fun S cm s kk hh => ⟨hh.1, hh.2.1, Or.inr ⟨by decide, by
      rcases hh.2.2 with q | q
      · exact absurd q.1 (by decide)
      · exact q.2⟩⟩)) _ (fun w2 X2 => ?_)
  exact key _ _ _ (by omega) (by omega) (X2.imp (by omega) (fun S2 cm2 s2 k2 hh => ⟨head _ _ rfl hh.1, hh.2⟩)) (Nat.lt_succ_self _)

set_option maxRecDepth 20000 in
theorem xr_readAnd {Γ : Gx} (hG : GC Γ) {n e : Nat} (he : 9 ≤ e) (h1 : RdX Γ M_X1_readNot n e 3 4 X4) : RdX Γ M_X1_readAnd n (e + 1) 2 2 X2 := by
  intro d hd t w0 w N ht T o D st0 W c0 hn hc hW hc0 hE Q k
  obtain ⟨d, rfl⟩ : ∃ e, d = e + 1 := ⟨d - 1, by omega⟩
  refine con_X1_readAnd hG ?_
  unfold wp_X1_readAnd
  intro P c
  have n1 : (1 : Int32).toInt = 1 := rfl
  have hW1 : lay 4 W = W := lay_fix (by decide) hW
  have hWx : lay 4 (11 :: W) = 11 :: W := lay_stop (by decide)
  have hcx : cnt (11 :: W) = o := by
    rw [cnt_bin (by decide)]
    exact hc
  have head : ∀ (V S : List Int), lay 2 V = lay 2 W → lay 3 S = lay 3 V → lay 2 S = lay 2 W := fun V S h1 h2 => by
    rw [← lay_le (r := 2) (r2 := 3) (by decide) S, h2, lay_le (by decide)]
    exact h1
  have key : ∀ (m : Nat) (l1 : Int32) (u : Wd), 0 ≤ l1.toInt → l1.toInt ≤ 160 → XS t w0 N o D (st0 + l1.toInt.toNat) true (EX 2 X4 W c0) u → (161 - l1.toInt).toNat < m → P l1 u := by
    intro m
    induction m with
    | zero => exact fun _ _ _ _ _ h => absurd h (Nat.not_lt_zero _)
    | succ m ih =>
      intro l1 u a1 a2 X hm
      refine c _ _ ?_
      have n160 : (160 : Int32).toInt = 160 := rfl
      have out : ∀ p st en kk S cm s, Gud t w0 o st en kk u → Tok (tg w0) N p st en kk → st0 ≤ st → (∀ x : OC, PFin (tg w0) N st en kk (S, true, cm, s) x → D x) → EX 2 X4 W c0 S cm s kk → ¬ kk = 8 → Q u := fun p st en kk S cm s h1 h2 h3 h4 h5 h6 => k _ (Or.inr ⟨p, st, en, kk, S, cm, s, h1, h2, h3, h4, h5.1, ⟨h5.2, h6⟩⟩)
      rcases X with ⟨f, g, hD⟩ | ⟨p, st, en, kk, S, cm, s, g, tk, hs, hD, hx⟩
      · have b : Q u := k _ (Or.inl ⟨f, g, hD⟩)
        refine ⟨fun _ => b, fun _ => ⟨fun _ => b, fun z => ?_⟩⟩
        have := ti g.2.2.2 z
        exact absurd this (by decide)
      · refine ⟨fun z => ?_, fun hl => ⟨fun z => out _ _ _ _ _ _ _ g tk (by omega) hD hx (tni g.2.2.2.1 z), fun z => ?_⟩⟩
        · have h0 := st_l1 tk T.2.1 z (by omega)
          exact out _ _ _ _ _ _ _ g tk (by omega) hD hx (by omega)
        · rw [Int32.le_iff_toInt_le] at hl
          have hk : kk = 8 := ti g.2.2.2.1 z
          have wf := tk.wf
          have ea := i_add (x := l1) (y := 1) (by omega) (by omega)
          subst hk
          obtain ⟨hx1, hx2⟩ := hx
          have step : nx 8 S true cm s = some (11 :: W, false, false, true) := by
            unfold nx
            rw [if_pos rfl, if_neg (by decide), show sgOf 8 cm = 11 from rfl, if_neg (by decide), show rk 11 = 2 from rfl, hx1, hW]
            rfl
          refine xt_token (by omega) hG ht T g (fun v s2 e2 k2 gv tv => ?_)
          have wf2 := tv.wf
          refine h1 _ (by omega) t w0 _ N ht T o D (st0 + l1.toInt.toNat + 1) (11 :: W) false hn hcx hWx (fun _ => rfl) (Or.inr ⟨en, s2, e2, k2, 11 :: W, false, true, gv, tv, by omega, fun x hx => hD x (PFin.step (by decide) step tv hx), rfl, rfl, Or.inl ⟨by decide, rfl⟩⟩) _ (fun w8 X8 => ?_)
          refine xt_take (by omega) hG ht X8 (fun w12 X12 => ?_)
          refine ih _ _ (by omega) (by omega) (X12.imp (by omega) (fun S2 cm2 s2 k2 hh => ⟨head _ _ (lay_over (by decide)) hh.1, hh.2⟩)) (by omega)
  have n0 : (0 : Int32).toInt = 0 := rfl
  refine h1 _ (by omega) t w0 _ N ht T o D st0 W c0 hn hc hW1 (fun _ => hc0 (by decide)) (hE.imp (Nat.le_refl _) (fun S cm s kk hh => ⟨hh.1, hh.2.1, Or.inl ⟨by decide, by
      rcases hh.2.2 with q | q
      · exact q.2
      · exact absurd q.1 (by decide)⟩⟩)) _ (fun w2 X2 => ?_)
  exact key _ _ _ (by omega) (by omega) (X2.imp (by omega) (fun S2 cm2 s2 k2 hh => ⟨head _ _ rfl hh.1, hh.2⟩)) (Nat.lt_succ_self _)

set_option maxRecDepth 20000 in
theorem xr_readOr {Γ : Gx} (hG : GC Γ) {n e : Nat} (he : 9 ≤ e) (h1 : RdX Γ M_X1_readAnd n e 2 2 X2) : RdX Γ M_X1_readOr n (e + 1) 1 1 X1 := by
  intro d hd t w0 w N ht T o D st0 W c0 hn hc hW hc0 hE Q k
  obtain ⟨d, rfl⟩ : ∃ e, d = e + 1 := ⟨d - 1, by omega⟩
  refine con_X1_readOr hG ?_
  unfold wp_X1_readOr
  intro P c
  have n1 : (1 : Int32).toInt = 1 := rfl
  have hW1 : lay 2 W = W := lay_fix (by decide) hW
  have hWx : lay 2 (12 :: W) = 12 :: W := lay_stop (by decide)
  have hcx : cnt (12 :: W) = o := by
    rw [cnt_bin (by decide)]
    exact hc
  have head : ∀ (V S : List Int), lay 1 V = lay 1 W → lay 2 S = lay 2 V → lay 1 S = lay 1 W := fun V S h1 h2 => by
    rw [← lay_le (r := 1) (r2 := 2) (by decide) S, h2, lay_le (by decide)]
    exact h1
  have key : ∀ (m : Nat) (l1 : Int32) (u : Wd), 0 ≤ l1.toInt → l1.toInt ≤ 160 → XS t w0 N o D (st0 + l1.toInt.toNat) true (EX 1 X2 W c0) u → (161 - l1.toInt).toNat < m → P l1 u := by
    intro m
    induction m with
    | zero => exact fun _ _ _ _ _ h => absurd h (Nat.not_lt_zero _)
    | succ m ih =>
      intro l1 u a1 a2 X hm
      refine c _ _ ?_
      have n160 : (160 : Int32).toInt = 160 := rfl
      have out : ∀ p st en kk S cm s, Gud t w0 o st en kk u → Tok (tg w0) N p st en kk → st0 ≤ st → (∀ x : OC, PFin (tg w0) N st en kk (S, true, cm, s) x → D x) → EX 1 X2 W c0 S cm s kk → ¬ kk = 7 → Q u := fun p st en kk S cm s h1 h2 h3 h4 h5 h6 => k _ (Or.inr ⟨p, st, en, kk, S, cm, s, h1, h2, h3, h4, h5.1, ⟨h5.2.1, h5.2.2, h6⟩⟩)
      rcases X with ⟨f, g, hD⟩ | ⟨p, st, en, kk, S, cm, s, g, tk, hs, hD, hx⟩
      · have b : Q u := k _ (Or.inl ⟨f, g, hD⟩)
        refine ⟨fun _ => b, fun _ => ⟨fun _ => b, fun z => ?_⟩⟩
        have := ti g.2.2.2 z
        exact absurd this (by decide)
      · refine ⟨fun z => ?_, fun hl => ⟨fun z => out _ _ _ _ _ _ _ g tk (by omega) hD hx (tni g.2.2.2.1 z), fun z => ?_⟩⟩
        · have h0 := st_l1 tk T.2.1 z (by omega)
          exact out _ _ _ _ _ _ _ g tk (by omega) hD hx (by omega)
        · rw [Int32.le_iff_toInt_le] at hl
          have hk : kk = 7 := ti g.2.2.2.1 z
          have wf := tk.wf
          have ea := i_add (x := l1) (y := 1) (by omega) (by omega)
          subst hk
          obtain ⟨hx1, hx2⟩ := hx
          have step : nx 7 S true cm s = some (12 :: W, false, false, true) := by
            unfold nx
            rw [if_pos rfl, if_neg (by decide), show sgOf 7 cm = 12 from rfl, if_neg (by decide), show rk 12 = 1 from rfl, hx1, hW]
            rfl
          refine xt_token (by omega) hG ht T g (fun v s2 e2 k2 gv tv => ?_)
          have wf2 := tv.wf
          refine h1 _ (by omega) t w0 _ N ht T o D (st0 + l1.toInt.toNat + 1) (12 :: W) false hn hcx hWx (fun _ => rfl) (Or.inr ⟨en, s2, e2, k2, 12 :: W, false, true, gv, tv, by omega, fun x hx => hD x (PFin.step (by decide) step tv hx), rfl, rfl, Or.inl ⟨by decide, rfl⟩⟩) _ (fun w8 X8 => ?_)
          refine xt_take (by omega) hG ht X8 (fun w12 X12 => ?_)
          refine ih _ _ (by omega) (by omega) (X12.imp (by omega) (fun S2 cm2 s2 k2 hh => ⟨head _ _ (lay_over (by decide)) hh.1, hh.2⟩)) (by omega)
  have n0 : (0 : Int32).toInt = 0 := rfl
  refine h1 _ (by omega) t w0 _ N ht T o D st0 W c0 hn hc hW1 (fun _ => hc0 (by decide)) (hE.imp (Nat.le_refl _) (fun S cm s kk hh => ⟨hh.1, hh.2.1, Or.inl ⟨by decide, by
      rcases hh.2.2 with q | q
      · exact q.2
      · exact absurd q.1 (by decide)⟩⟩)) _ (fun w2 X2 => ?_)
  exact key _ _ _ (by omega) (by omega) (X2.imp (by omega) (fun S2 cm2 s2 k2 hh => ⟨head _ _ rfl hh.1, hh.2⟩)) (Nat.lt_succ_self _)
