/-! the model's reading, exactly: one step is the automaton's -/
/-- what a token's kind says of the model's token and word -/
theorem MK.d {tok word : Int32} {k : Int} (h : MK tok word k) : (tok.toInt = 101 ↔ k = 0) ∧ (tok.toInt = 48 ↔ k = 2) ∧ (tok.toInt = 45 ↔ k = 45) ∧ (tok.toInt = 40 ↔ k = 40) ∧ (tok.toInt = 41 ↔ k = 41) ∧ (tok.toInt = 59 ↔ k = 59) ∧ (tok.toInt = 42 ↔ k = 42) ∧ (tok.toInt = 43 ↔ k = 43) ∧ (tok.toInt = 60 ↔ k = 60) ∧ (tok.toInt = 61 ↔ k = 61) ∧ (tok.toInt = 119 ↔ 3 ≤ k ∧ k ≤ 9) := by
  unfold MK sg8 at h
  rcases h with h | h | h | h | h
  · omega
  · omega
  · omega
  · omega
  · omega
theorem MK.w {tok word : Int32} {k : Int} (h : MK tok word k) (ht : tok.toInt = 119) : (nameW word.toInt ↔ k = 3) ∧ (word.toInt = 74917 ↔ k = 4) ∧ (word.toInt = 3291049 ↔ k = 5) ∧ (word.toInt = 10206127 ↔ k = 6) ∧ (word.toInt = 423 ↔ k = 7) ∧ (word.toInt = 1111 ↔ k = 8) ∧ (word.toInt = 10631 ↔ k = 9) := by
  unfold MK sg8 at h
  unfold nameW at *
  rcases h with h | h | h | ⟨_, h⟩ | h
  · omega
  · omega
  · omega
  · rcases h with ⟨h1, h⟩ | h | h | h | h | h | h
    · omega
    · omega
    · omega
    · omega
    · omega
    · omega
    · omega
  · omega
def bo (x : Int32) (b : Bool) : Prop := ¬ x = 0 ↔ b = true
theorem bo.t {x : Int32} {b : Bool} (h : bo x b) (q : ¬ x = 0) : b = true := h.mp q
theorem bo.f {x : Int32} {b : Bool} (h : bo x b) (q : x = 0) : b = false := by
  cases b with
  | false => rfl
  | true => exact absurd q (h.mpr rfl)
theorem bo_0 : bo 0 false := ⟨fun q => absurd rfl q, fun q => absurd q (by decide)⟩
theorem bo_1 : bo 1 true := ⟨fun _ => rfl, fun _ => by decide⟩
/-- the model's state is the automaton's -/
def MP (w : Wd) (S : List Int) (b cm s : Bool) : Prop := TS w S ∧ bo (w 0 23) b ∧ bo (w 0 22) cm ∧ bo (w 0 24) s
theorem tIe {x c : Int32} (h : x = c) : x.toInt = c.toInt := by rw [h]
theorem tNe {x c : Int32} (h : ¬ x = c) : ¬ x.toInt = c.toInt := fun q => h (i_ext q)
theorem sgOf_r (k : Int) (cm : Bool) : sgOf k cm = -1 ∨ (6 ≤ sgOf k cm ∧ sgOf k cm ≤ 12 ∧ ¬ k = 0) := by
  unfold sgOf
  cases cm <;> (repeat' split) <;> first | exact Or.inl rfl | (refine Or.inr ⟨by decide, by decide, ?_⟩; omega) | (rename_i q; exact absurd q (by decide))
theorem mt_signed {Γ : Gx} {d : Nat} (hd : 1 ≤ d) (hG : GM Γ) {w : Wd} {kk : Int} {cm : Bool} (M : MK (w 0 16) (w 0 18) kk) (hc : bo (w 0 22) cm) {Q : Int32 → Wd → Prop} (k : ∀ r : Int32, r.toInt = sgOf kk cm → Q r w) : CI Γ d M_X5_signed [.ref (gad Γ 0)] w Q := by
  obtain ⟨d, rfl⟩ : ∃ e, d = e + 1 := ⟨d - 1, by omega⟩
  refine con_X5_signed hG ?_
  unfold wp_X5_signed
  obtain ⟨d0, d48, d45, d40, d41, d59, d42, d43, d60, d61, d119⟩ := M.d
  refine ⟨fun h => k _ ?_, fun h => k _ ?_, fun h => k _ ?_, fun h => ⟨fun h2 => k _ ?_, fun h2 => k _ ?_⟩, fun h => ⟨fun h2 => k _ ?_, fun h2 => k _ ?_⟩, fun h => ⟨fun h2 => ⟨fun h3 => k _ ?_, fun h3 => k _ ?_⟩, fun h2 => k _ ?_⟩, fun h => k _ ?_⟩
  · rw [d42.mp (tIe h)]
    rfl
  · rw [d43.mp (tIe h)]
    rfl
  · rw [d45.mp (tIe h)]
    rfl
  · rw [d60.mp (tIe h), hc.f h2]
    rfl
  · rw [d60.mp (tIe h), hc.t h2]
    rfl
  · rw [d61.mp (tIe h), hc.f h2]
    rfl
  · rw [d61.mp (tIe h), hc.t h2]
    rfl
  · have hw := M.w (tIe h)
    have a1 : ¬ kk = 8 := fun q => h2 (i_ext (hw.2.2.2.2.2.1.mpr q))
    have a2 : ¬ kk = 7 := fun q => h3 (i_ext (hw.2.2.2.2.1.mpr q))
    have a3 := d119.mp (tIe h)
    unfold sgOf
    rw [if_neg (by omega), if_neg (by omega), if_neg (by omega), if_neg (by omega), if_neg (by omega), if_neg a1, if_neg a2]
    rfl
  · rw [(M.w (tIe h)).2.2.2.2.1.mp (tIe h3)]
    rfl
  · rw [(M.w (tIe h)).2.2.2.2.2.1.mp (tIe h2)]
    rfl
  · obtain ⟨a1, a2, a3, a4, a5, a6⟩ := h
    have b1 : ¬ kk = 42 := fun q => a1 (i_ext (d42.mpr q))
    have b2 : ¬ kk = 43 := fun q => a2 (i_ext (d43.mpr q))
    have b3 : ¬ kk = 45 := fun q => a3 (i_ext (d45.mpr q))
    have b4 : ¬ kk = 60 := fun q => a4 (i_ext (d60.mpr q))
    have b5 : ¬ kk = 61 := fun q => a5 (i_ext (d61.mpr q))
    have b6 : ¬ (3 ≤ kk ∧ kk ≤ 9) := fun q => a6 (i_ext (d119.mpr q))
    unfold sgOf
    rw [if_neg b1, if_neg b2, if_neg b3, if_neg b4, if_neg b5, if_neg (by omega), if_neg (by omega)]
    rfl
theorem mt_named {Γ : Gx} {d : Nat} (hd : 1 ≤ d) (hG : GM Γ) {w : Wd} {Q : Int32 → Wd → Prop} (k : ∀ r : Int32, ((r = -1 ∧ ¬ nameW (w 0 18).toInt) ∨ ((0 ≤ r.toInt ∧ r.toInt ≤ 5) ∧ nameW (w 0 18).toInt)) → Q r w) : CI Γ d M_X5_named [.ref (gad Γ 0)] w Q := by
  obtain ⟨d, rfl⟩ : ∃ e, d = e + 1 := ⟨d - 1, by omega⟩
  refine con_X5_named hG ?_
  unfold wp_X5_named
  refine ⟨fun h => k 0 (Or.inr ⟨by decide, Or.inl (tIe h)⟩), fun h => k 1 (Or.inr ⟨by decide, Or.inr (Or.inl (tIe h))⟩), fun h => k 2 (Or.inr ⟨by decide, Or.inr (Or.inr (Or.inl (tIe h)))⟩), fun h => k 3 (Or.inr ⟨by decide, Or.inr (Or.inr (Or.inr (Or.inl (tIe h))))⟩), fun h => k 4 (Or.inr ⟨by decide, Or.inr (Or.inr (Or.inr (Or.inr (Or.inl (tIe h)))))⟩), fun h => k 5 (Or.inr ⟨by decide, Or.inr (Or.inr (Or.inr (Or.inr (Or.inr (tIe h)))))⟩), fun h => k (-1) (Or.inl ⟨rfl, fun q => ?_⟩)⟩
  obtain ⟨a1, a2, a3, a4, a5, a6⟩ := h
  rcases q with q | q | q | q | q | q
  · exact a4 (i_ext q)
  · exact a3 (i_ext q)
  · exact a5 (i_ext q)
  · exact a6 (i_ext q)
  · exact a2 (i_ext q)
  · exact a1 (i_ext q)
set_option maxRecDepth 20000 in
set_option maxHeartbeats 4000000 in
theorem mt_one {Γ : Gx} {d : Nat} (hd : 4 ≤ d) (hG : GM Γ) {b : Nat} {lim : Int} {w : Wd} (hl : lim ≤ b + 190 ∧ lim ≤ 2800) (hb : w 0 23 = 0) (hv : w 0 16 = 48 → 0 ≤ (w 0 17).toInt ∧ (w 0 17).toInt ≤ 9999) (R : RS b lim 0 w) {kk : Int} (M : MK (w 0 16) (w 0 18) kk) {S : List Int} {cm s : Bool} (hP : MP w S false cm s) {Q : Int32 → Wd → Prop} (k : ∀ (r : Int32) (w' : Wd), isZ r → (¬ r = 0 → ¬ w 0 16 = 101 ∧ GS b (lim + 1) w') → KP b w w' → ((r = 0 ∧ nx kk S false cm s = none) ∨ (¬ r = 0 ∧ ∃ (S2 : List Int) (b2 cm2 s2 : Bool), nx kk S false cm s = some (S2, b2, cm2, s2) ∧ MP w' S2 b2 cm2 s2)) → Q r w') : CI Γ d M_X5_one [.ref (gad Γ 0), .int (w 0 24)] w Q := by
  obtain ⟨d, rfl⟩ : ∃ e, d = e + 1 := ⟨d - 1, by omega⟩
  refine con_X5_one hG ?_
  unfold wp_X5_one
  intro P17 P32 P93 P116 P149 P172 c17 c32 c93 c116 c149 c172
  obtain ⟨hS, hb23, hb22, hb24⟩ := hP
  obtain ⟨d0, d48, d45, d40, d41, d59, d42, d43, d60, d61, d119⟩ := M.d
  have kz : nx kk S false cm s = none → Q 0 w := fun hn => k 0 w iz_0 (fun q => absurd rfl q) KP.rfl (Or.inl ⟨rfl, hn⟩)
  have setGS : ∀ (u : Wd) (s : Nat) (v : Int32), s ≠ 13 ∧ s ≠ 20 → s ≠ 23 → RS b (lim + 1) 0 u → u 0 23 = 0 → RS b (lim + 1) 0 (wset u 0 s v) ∧ wset u 0 s v 0 23 = 0 := fun u s v h1 h2 Ru h3 => ⟨Ru.set h1, (ws_row (Ne.symm h2)).trans h3⟩
  have fin : ∀ u : Wd, ¬ w 0 16 = 101 → RS b (lim + 1) 0 u → u 0 23 = 0 → KP b w u → (∃ (S2 : List Int) (b2 cm2 s2 : Bool), nx kk S false cm s = some (S2, b2, cm2, s2) ∧ MP u S2 b2 cm2 s2) → Q 1 u := fun u ht Ru hu Ku hm => k 1 u iz_1 (fun _ => ⟨ht, fun _ => Ru, fun q => absurd hu q⟩) Ku (Or.inr ⟨by decide, hm⟩)
  have p172 : ∀ (s0 : Int32) (sN : Bool), waitOK s0 → ¬ (6 ≤ s0.toInt ∧ s0.toInt ≤ 12) → ¬ w 0 16 = 101 → nx kk S false cm s = some (s0.toInt :: S, false, cm, sN) → ((w 0 16).toInt = 45 ↔ sN = false) → P172 s0 w := fun s0 sN h1 h2 ht hn hs => by
    refine c172 _ _ (mt_push (g' := 0) (by omega) hG (by omega) h1 (by rw [if_neg h2]; rfl) R hS (fun u Ru Ku Lu Su => ?_))
    have hu : u 0 23 = 0 := (Lu 23 (by decide) (by decide) (by decide)).trans hb
    have hu16 : u 0 16 = w 0 16 := Lu 16 (by decide) (by decide) (by decide)
    have hu22 : u 0 22 = w 0 22 := Lu 22 (by decide) (by decide) (by decide)
    rw [hu16]
    have go : ∀ v : Int32, bo v sN → Q 1 (wset u 0 24 v) := fun v hv2 => by
      obtain ⟨a, c⟩ := setGS u 24 v (by decide) (by decide) Ru hu
      refine fin _ ht a c (Ku.trans (KP.set (by decide))) ⟨_, _, _, _, hn, Su.set (by decide), ?_, ?_, ?_⟩
      · rw [ws_row (by decide), hu]
        exact bo_0
      · rw [ws_row (by decide), hu22]
        exact hb22
      · rw [ws_hit]
        exact hv2
    refine ⟨fun h v e => ?_, fun h v e => ?_⟩
    · subst e
      refine go 0 ?_
      rw [hs.mp (tIe h)]
      exact bo_0
    · subst e
      refine go 1 ?_
      have : sN = true := by
        cases sN with
        | true => rfl
        | false => exact absurd (i_ext (hs.mpr rfl)) h
      rw [this]
      exact bo_1
  have p149 : ∀ s0 : Int32, waitOK s0 → ¬ (6 ≤ s0.toInt ∧ s0.toInt ≤ 12) → (w 0 16).toInt = 40 → nx kk S false cm s = some (s0.toInt :: S, false, false, true) → P149 s0 w := fun s0 h1 h2 h40 hn => by
    have ht : ¬ w 0 16 = 101 := fun q => by
      have e := tIe q
      rw [h40] at e
      exact absurd e (by decide)
    refine c149 _ _ (mt_push (g' := 0) (by omega) hG (by omega) h1 (by rw [if_neg h2]; rfl) R hS (fun u0 R0 K0 L0 S0 u e0 => ?_))
    have hu0 : u0 0 23 = 0 := (L0 23 (by decide) (by decide) (by decide)).trans hb
    obtain ⟨Ru, hu⟩ := setGS u0 22 0 (by decide) (by decide) R0 hu0
    have Ku := K0.trans (KP.set (w := u0) (s := 22) (v := 0) (by decide))
    rw [← e0] at Ru hu Ku
    have hu16 : u 0 16 = w 0 16 := by rw [e0, ws_row (by decide), L0 16 (by decide) (by decide) (by decide)]
    have Su : TS u (s0.toInt :: S) := by
      rw [e0]
      exact S0.set (by decide)
    have hu22 : u 0 22 = 0 := by rw [e0, ws_hit]
    rw [hu16]
    refine ⟨fun h v e => ?_, fun h v e => ?_⟩
    · have e := tIe h
      rw [h40] at e
      exact absurd e (by decide)
    · subst e
      obtain ⟨a, c⟩ := setGS u 24 1 (by decide) (by decide) Ru hu
      refine fin _ ht a c (Ku.trans (KP.set (by decide))) ⟨_, _, _, _, hn, Su.set (by decide), ?_, ?_, ?_⟩
      · rw [ws_row (by decide), hu]
        exact bo_0
      · rw [ws_row (by decide), hu22]
        exact bo_0
      · rw [ws_hit]
        exact bo_1
  have p116 : ∀ l3 : Int32, ((kk = 9 ∧ s = true ∧ ¬ l3 = 0) ∨ (kk = 45 ∧ l3 = 0) ∨ kk = 40) → P116 l3 w := fun l3 hk => by
    have hk2 : (kk = 9 ∧ s = true) ∨ kk = 45 ∨ kk = 40 := by
      rcases hk with hk | hk | hk
      · exact Or.inl ⟨hk.1, hk.2.1⟩
      · exact Or.inr (Or.inl hk.1)
      · exact Or.inr (Or.inr hk)
    have hk3 : ¬ (kk = 2 ∨ kk = 3) := by omega
    have ht : ¬ w 0 16 = 101 := fun q => by
      have := d0.mp (tIe q)
      omega
    have s2 := hS.2
    have n5 : (5 : Int32).toInt = 5 := rfl
    have nxo : ¬ w 0 21 = 5 → nx kk S false cm s = (if kk = 40 then some ((if cm then -2 else -1) :: S, false, false, true) else if kk = 9 then some (13 :: S, false, cm, true) else some (14 :: S, false, cm, false)) := fun h => by
      have h5 : ¬ cnt S = 5 := fun q => h (i_ext (by omega))
      unfold nx
      rw [if_neg (by decide), if_neg hk3, if_pos hk2, if_neg h5]
    refine c116 _ _ ⟨fun h5 => ⟨fun h40 => ⟨fun h3 => ?_, fun h3 => ?_⟩, fun h40 => ⟨fun h22 => ?_, fun h22 => ?_⟩⟩, fun h5 => kz ?_⟩
    · have e45 : kk = 45 := by
        rcases hk with hk | hk | hk
        · exact absurd h3 hk.2.2
        · exact hk.1
        · exact absurd (i_ext (d40.mpr hk)) h40
      refine p172 14 false (by unfold waitOK; decide) (by decide) ht ?_ ⟨fun _ => rfl, fun _ => d45.mpr e45⟩
      rw [nxo h5, if_neg (by omega), if_neg (by omega)]
      rfl
    · have e9 : kk = 9 := by
        rcases hk with hk | hk | hk
        · exact hk.1
        · exact absurd hk.2 h3
        · exact absurd (i_ext (d40.mpr hk)) h40
      refine p172 13 true (by unfold waitOK; decide) (by decide) ht ?_ ⟨fun q => ?_, fun q => absurd q (by decide)⟩
      · rw [nxo h5, if_neg (by omega), if_pos e9]
        rfl
      · have := d45.mp q
        omega
    · have e40 := d40.mp (tIe h40)
      refine p149 (-1) (by unfold waitOK; decide) (by decide) (tIe h40) ?_
      rw [nxo h5, if_pos e40, hb22.f h22]
      rfl
    · have e40 := d40.mp (tIe h40)
      refine p149 (-2) (by unfold waitOK; decide) (by decide) (tIe h40) ?_
      rw [nxo h5, if_pos e40, hb22.t h22]
      rfl
    · have h55 : cnt S = 5 := by
        have := tIe h5
        omega
      unfold nx
      rw [if_neg (by decide), if_neg hk3, if_pos hk2, if_pos h55]
  have p93 : ∀ s0 : Int32, ¬ (kk = 2 ∨ kk = 3) → ((¬ s0 = 0 ∧ kk = 9 ∧ s = true) ∨ (s0 = 0 ∧ ¬ (kk = 9 ∧ s = true))) → P93 s0 w := fun s0 hk h => by
    refine c93 _ _ ⟨fun q => p116 s0 ?_, fun q => ⟨fun h45 => p116 s0 (Or.inr (Or.inl ⟨d45.mp (tIe h45), q⟩)), fun h45 => ⟨fun h40 => kz ?_, fun h40 => p116 s0 (Or.inr (Or.inr (d40.mp (tIe h40))))⟩⟩⟩
    · rcases h with h | h
      · exact Or.inl ⟨h.2.1, h.2.2, q⟩
      · exact absurd h.1 q
    · rcases h with h | h
      · exact absurd q h.1
      · have b45 : ¬ kk = 45 := fun z => h45 (i_ext (d45.mpr z))
        have b40 : ¬ kk = 40 := fun z => h40 (i_ext (d40.mpr z))
        unfold nx
        rw [if_neg (by decide), if_neg hk, if_neg (fun z => ?_)]
        rcases z with z | z | z
        · exact h.2 z
        · exact b45 z
        · exact b40 z
  obtain ⟨r1, r2, r3, r4, r5, r6⟩ := R
  have n1 : (1 : Int32).toInt = 1 := rfl
  have opnd : ∀ x : Int32, (kk = 2 ∨ kk = 3) → 0 ≤ x.toInt → (15 ≤ x.toInt ∨ x.toInt ≤ 5) → CV Γ d M_X5_codes [.ref (gad Γ 0), .int x] w (fun w11 => CV Γ d M_X5_lays [.ref (gad Γ 0), .int (7 : Int32)] w11 (fun w13 => ∀ w14 : Wd, w14 = wset w13 0 23 (1 : Int32) → Q (1 : Int32) w14)) := fun x hk h0 hx => by
    have ht : ¬ w 0 16 = 101 := fun q => by
      have := d0.mp (tIe q)
      omega
    refine cs_X5_codes (by omega) hG (vp_in_iff.mpr (by omega)) ?_
    generalize hvv : wset (wset w 0 13 (w 0 13 + 1)) 8 (w 0 13).toNatClampNeg x = v
    obtain ⟨a1, a2, a3, a4, a5, a6⟩ := emit_code (b := b) hvv.symm r1 (by omega) r5 h0 (fun q => by omega) (fun q => by omega)
    have Rv : RS b (lim + 1) 1 v := by
      unfold RS
      rw [a3, a4]
      refine ⟨by omega, r2, by omega, r4, a5, ?_⟩
      rw [a6, if_pos hx, r6]
      omega
    have v0 : ∀ j : Nat, j ≠ 13 → v 0 j = w 0 j := fun j hj => by rw [← hvv, ws_col (by decide), ws_row hj]
    have Sv : TS v S := hS.congr a3 (v0 21 (by decide)) a4
    refine mt_lays (by omega) hG (by omega) (by decide) Rv Sv (fun u Ru Ku Lu Su w14 e => ?_)
    subst e
    refine k 1 _ iz_1 (fun _ => ⟨ht, fun q => absurd q (by rw [ws_hit]; decide), fun _ => Ru.set (by decide)⟩) ((a2.trans Ku).trans (KP.set (by decide))) (Or.inr ⟨by decide, lay 7 S, true, cm, s, ?_, Su.set (by decide), ?_, ?_, ?_⟩)
    · unfold nx
      rw [if_neg (by decide), if_pos hk]
    · rw [ws_hit]
      exact bo_1
    · rw [ws_row (by decide), Lu 22 (by decide) (by decide) (by decide), v0 22 (by decide)]
      exact hb22
    · rw [ws_row (by decide), Lu 24 (by decide) (by decide) (by decide), v0 24 (by decide)]
      exact hb24
  have p32 : ∀ l2 : Int32, (l2 = -1 → kk = 2) → (kk = 2 ∨ kk = 3) → (l2 = -1 ∨ (0 ≤ l2.toInt ∧ l2.toInt ≤ 5)) → P32 l2 w := fun l2 h1 hk h2 => by
    refine c32 _ _ ⟨fun q => ?_, fun q => ?_⟩
    · rcases h2 with h2 | h2
      · exact absurd h2 q
      · exact opnd l2 hk h2.1 (Or.inr h2.2)
    · have n15 : (15 : Int32).toInt = 15 := rfl
      have hv2 := hv (i_ext (d48.mpr (h1 q)))
      have ea := i_add (x := (15 : Int32)) (y := w 0 17) (by omega) (by omega)
      exact opnd _ hk (by omega) (Or.inl (by omega))
  have p17 : ∀ s0 : Int32, ((s0 = -1 ∧ ¬ kk = 3) ∨ ((0 ≤ s0.toInt ∧ s0.toInt ≤ 5) ∧ kk = 3)) → P17 s0 w := fun s0 h => by
    refine c17 _ _ ⟨fun q => ?_, fun q => ⟨fun e => ?_, fun e => ?_⟩⟩
    · have k2 := d48.mp (tIe q)
      rcases h with h | h
      · exact p32 s0 (fun _ => k2) (Or.inl k2) (Or.inl h.1)
      · omega
    · have k2 : ¬ kk = 2 := fun z => q (i_ext (d48.mpr z))
      have k3 : ¬ kk = 3 := by
        rcases h with h | h
        · exact h.2
        · have := tIe e
          have m1 : (-1 : Int32).toInt = -1 := rfl
          omega
      have k23 : ¬ (kk = 2 ∨ kk = 3) := by omega
      refine ⟨fun z => p93 0 k23 (Or.inr ⟨rfl, fun y => ?_⟩), fun z => ⟨fun z2 => p93 0 k23 (Or.inr ⟨rfl, fun y => ?_⟩), fun z2 => ⟨fun z3 => p93 0 k23 (Or.inr ⟨rfl, fun y => ?_⟩), fun z3 => p93 1 k23 (Or.inl ⟨by decide, (M.w (tIe z2)).2.2.2.2.2.2.mp (tIe z3), hb24.t z⟩)⟩⟩⟩
      · have := hb24.f z
        rw [this] at y
        exact absurd y.2 (by decide)
      · exact z2 (i_ext (d119.mpr (by omega)))
      · exact z3 (i_ext ((M.w (tIe z2)).2.2.2.2.2.2.mpr y.1))
    · rcases h with h | h
      · exact absurd h.1 e
      · exact p32 s0 (fun z => absurd z e) (Or.inr h.2) (Or.inr h.1)
  refine ⟨fun t => p17 _ (Or.inl ⟨rfl, fun z => t (i_ext (d119.mpr (by omega)))⟩), fun t => mt_named (by omega) hG (fun r hr => p17 r ?_)⟩
  have hw := (M.w (tIe t)).1
  rcases hr with hr | hr
  · exact Or.inl ⟨hr.1, fun z => hr.2 (hw.mpr z)⟩
  · exact Or.inr ⟨hr.1, hw.mp hr.2⟩
set_option maxRecDepth 20000 in
theorem mt_closes {Γ : Gx} {d : Nat} (hd : 3 ≤ d) (hG : GM Γ) {b : Nat} {lim : Int} {w : Wd} (hl : lim ≤ b + 190 ∧ lim ≤ 2800) (hb : ¬ w 0 23 = 0) (R : RS b lim 1 w) {S : List Int} {cm s : Bool} (hP : MP w S true cm s) {Q : Int32 → Wd → Prop} (k : ∀ (r : Int32) (w' : Wd), isZ r → (¬ r = 0 → GS b lim w') → KP b w w' → ((r = 0 ∧ nx 41 S true cm s = none) ∨ (¬ r = 0 ∧ ∃ (S2 : List Int) (b2 cm2 s2 : Bool), nx 41 S true cm s = some (S2, b2, cm2, s2) ∧ MP w' S2 b2 cm2 s2)) → Q r w') : CI Γ d M_X5_closes [.ref (gad Γ 0)] w Q := by
  obtain ⟨d, rfl⟩ : ∃ e, d = e + 1 := ⟨d - 1, by omega⟩
  refine con_X5_closes hG ?_
  unfold wp_X5_closes
  obtain ⟨hS, hb23, hb22, hb24⟩ := hP
  refine mt_lays (by omega) hG (by omega) (by decide) R hS (fun w2 R2 K2' L2 S2 => ⟨fun h w4 e4 => ?_, fun h0 => k 0 w2 iz_0 (fun q => absurd rfl q) K2' (Or.inl ⟨rfl, ?_⟩)⟩)
  · obtain ⟨r1, r2, r3, r4, r5, r6⟩ := R2
    have n1 : (1 : Int32).toInt = 1 := rfl
    have h0 : ¬ (w2 0 20).toInt = 0 := fun q => h (i_ext q)
    have es := i_sub (x := w2 0 20) (y := 1) (by omega) (by omega)
    obtain ⟨n, hn⟩ : ∃ n : Nat, n = (w2 0 20).toInt.toNat - 1 := ⟨_, rfl⟩
    have hB : (w2 0 20).toInt.toNat = n + 1 := by omega
    have hw := r4 n (by omega)
    obtain ⟨V, hV⟩ : ∃ V : List Int, V = stk (w2 9) n := ⟨_, rfl⟩
    have hlay : lay 1 S = (w2 9 n).toInt :: V := by
      have e := S2.1
      rw [hB] at e
      rw [hV]
      exact e.symm
    have h1le : (1 : Int32).toInt = 1 := rfl
    have hr1 : ¬ 1 ≤ rk (w2 9 n).toInt := fun q => by
      have e : lay 1 (lay 1 S) = lay 1 S := lay_le (Int.le_refl 1) S
      rw [hlay, lay_over q] at e
      have l1 : ∀ T : List Int, (lay 1 T).length ≤ T.length := by
        intro T
        induction T with
        | nil => exact Nat.le_refl _
        | cons y T ih =>
          by_cases hy : (1 : Int) ≤ rk y
          · rw [lay_over hy]
            simp only [List.length_cons]
            omega
          · rw [lay_stop hy]
            exact Nat.le_refl _
      have l2 := l1 V
      rw [e] at l2
      simp only [List.length_cons] at l2
      omega
    have hrk := rk_wait hw
    have hp : (w2 9 n).toInt = -1 ∨ (w2 9 n).toInt = -2 := hrk.1.mp (by omega)
    have hbw : bw (w2 9) (n + 1) = bw (w2 9) n + (if 6 ≤ (w2 9 n).toInt ∧ (w2 9 n).toInt ≤ 12 then 1 else 0) := rfl
    rw [hB, hbw, if_neg (by omega)] at r6
    have q20 : w4 0 20 = w2 0 20 - 1 := by rw [e4, ws_hit]
    have q9 : w4 9 = w2 9 := by rw [e4, wset_off _ _ _ _ _ (by decide)]
    have R4 : RS b lim 1 w4 := by
      unfold RS
      have q13 : w4 0 13 = w2 0 13 := by rw [e4, ws_row (by decide)]
      have q8 : w4 8 = w2 8 := by rw [e4, wset_off _ _ _ _ _ (by decide)]
      rw [q13, q20, q8, q9]
      refine ⟨r1, by omega, by omega, fun j hj => r4 j (by omega), r5, ?_⟩
      have e2 : (w2 0 20 - 1).toInt.toNat = n := by omega
      rw [e2, r6]
      omega
    have K4 : KP b w w4 := by
      rw [e4]
      exact K2'.trans (KP.set (by decide))
    have u4 : ∀ j : Nat, j ≠ 13 → j ≠ 20 → j ≠ 21 → w4 0 j = w 0 j := fun j a1 a2 a3 => by rw [e4, ws_row a2, L2 j a1 a2 a3]
    have h23 : ¬ w4 0 23 = 0 := by
      rw [u4 23 (by decide) (by decide) (by decide)]
      exact hb
    have c2 := S2.2
    have eN : (1 : Int32).toInt = 1 := rfl
    have hcnt : cnt (lay 1 S) = cnt V + 1 := by
      rw [hlay]
      exact cnt_one (Or.inr (Or.inr (by omega)))
    have hcnt2 : (w2 0 21).toInt = cnt V + 1 := c2.trans hcnt
    have cv := cnt_nn V
    have cl := cnt_le V
    have sl : V.length = n := by rw [hV]; exact stk_len n
    have e21 : w4 0 21 = w2 0 21 := by rw [e4, ws_row (by decide)]
    have es2 := i_sub (x := w2 0 21) (y := 1) (by omega) (by omega)
    have hnx : nx 41 S true cm s = some (lay 7 V, true, decide ((w2 9 n).toInt = -2), s) := by
      unfold nx
      rw [if_pos rfl, if_pos rfl, hlay]
    have tail : ∀ x : Int32, bo x (decide ((w2 9 n).toInt = -2)) → CV Γ d M_X5_lays [.ref (gad Γ 0), .int (7 : Int32)] (wset (wset w4 0 22 x) 0 21 (wset w4 0 22 x 0 21 - 1)) (fun w13 => Q (1 : Int32) w13) := fun x hx => by
      have S4 : TS (wset (wset w4 0 22 x) 0 21 (wset w4 0 22 x 0 21 - 1)) V := by
        refine ⟨?_, ?_⟩
        · rw [wset_off _ _ _ _ _ (by decide), wset_off _ _ _ _ _ (by decide), ws_row (by decide), ws_row (by decide), q20, q9, hV]
          have e2 : (w2 0 20 - 1).toInt.toNat = n := by omega
          rw [e2]
        · rw [ws_hit, ws_row (by decide), e21]
          omega
      refine mt_lays (by omega) hG (by omega) (by decide) ((R4.set (by decide)).set (by decide)) S4 (fun u Ru Ku Lu Su => ?_)
      have u23 : u 0 23 = w 0 23 := by rw [Lu 23 (by decide) (by decide) (by decide), ws_row (by decide), ws_row (by decide), u4 23 (by decide) (by decide) (by decide)]
      refine k 1 u iz_1 (fun _ => ⟨fun q => absurd q ?_, fun _ => Ru⟩) (((K4.trans (KP.set (by decide))).trans (KP.set (by decide))).trans Ku) (Or.inr ⟨by decide, _, _, _, _, hnx, Su, ?_, ?_, ?_⟩)
      · rw [u23]
        exact hb
      · rw [u23]
        exact hb23
      · rw [Lu 22 (by decide) (by decide) (by decide), ws_row (by decide), ws_hit]
        exact hx
      · rw [Lu 24 (by decide) (by decide) (by decide), ws_row (by decide), ws_row (by decide), u4 24 (by decide) (by decide) (by decide)]
        exact hb24
    have e4n : (w4 0 20).toNatClampNeg = n := by
      have := tn_eq (x := w4 0 20) (by rw [q20]; omega)
      rw [q20] at this
      rw [q20]
      omega
    rw [e4n, q9]
    refine ⟨by rw [q20]; exact vp_in_iff.mpr (by omega), fun hx w8 e8 w10 e10 => ?_, fun hx w8 e8 w10 e10 => ?_⟩
    · subst e8
      subst e10
      refine tail 0 ?_
      rw [decide_eq_false (show ¬ (w2 9 n).toInt = -2 from fun q => hx (i_ext q))]
      exact bo_0
    · subst e8
      subst e10
      refine tail 1 ?_
      rw [decide_eq_true (by rw [hx]; rfl)]
      exact bo_1
  · have e0 : lay 1 S = [] := by
      refine S2.nil.mp ?_
      rw [h0]
      decide
    unfold nx
    rw [if_pos rfl, if_pos rfl, e0]
set_option maxRecDepth 20000 in
set_option maxHeartbeats 4000000 in
theorem mt_goesOn {Γ : Gx} {d : Nat} (hd : 5 ≤ d) (hG : GM Γ) {b : Nat} {lim : Int} {w : Wd} (hl : lim ≤ b + 190 ∧ lim ≤ 2800) (hv : w 0 16 = 48 → 0 ≤ (w 0 17).toInt ∧ (w 0 17).toInt ≤ 9999) (G : GS b lim w) {kk : Int} (M : MK (w 0 16) (w 0 18) kk) {S : List Int} {bh cm s : Bool} (hP : MP w S bh cm s) {Q : Int32 → Wd → Prop} (k : ∀ (r : Int32) (w' : Wd), isZ r → (¬ r = 0 → ¬ w 0 16 = 101 ∧ GS b (lim + 1) w') → KP b w w' → ((r = 0 ∧ nx kk S bh cm s = none) ∨ (¬ r = 0 ∧ ∃ (S2 : List Int) (b2 cm2 s2 : Bool), nx kk S bh cm s = some (S2, b2, cm2, s2) ∧ MP w' S2 b2 cm2 s2)) → Q r w') : CI Γ d M_X5_goesOn [.ref (gad Γ 0)] w Q := by
  obtain ⟨d, rfl⟩ : ∃ e, d = e + 1 := ⟨d - 1, by omega⟩
  refine con_X5_goesOn hG ?_
  unfold wp_X5_goesOn
  intro P c
  obtain ⟨hS, hb23, hb22, hb24⟩ := hP
  obtain ⟨d0, d48, d45, d40, d41, d59, d42, d43, d60, d61, d119⟩ := M.d
  refine ⟨fun hb => ?_, fun hb => ?_⟩
  · have ebh := hb23.t hb
    subst ebh
    refine ⟨fun h41 => ?_, fun h41 => ?_⟩
    · have k41 : ¬ kk = 41 := fun z => h41 (i_ext (d41.mpr z))
      refine mt_signed (by omega) hG M hb22 (fun r3 h3 => ⟨fun hne => ?_, fun he => ?_⟩)
      · have hs1 : ¬ sgOf kk cm = -1 := fun q => hne (i_ext (h3.trans q))
        have hs2 : 6 ≤ sgOf kk cm ∧ sgOf kk cm ≤ 12 ∧ ¬ kk = 0 := by
          rcases sgOf_r kk cm with q | q
          · exact absurd q hs1
          · exact q
        have ht : ¬ w 0 16 = 101 := fun q => hs2.2.2 (d0.mp (tIe q))
        obtain ⟨g, hg⟩ : ∃ g : Int, g = sgOf kk cm := ⟨_, rfl⟩
        rw [← hg] at h3 hs1 hs2
        have rg : 1 ≤ rk g ∧ rk g ≤ 6 := by
          rcases (show g = 6 ∨ g = 7 ∨ g = 8 ∨ g = 9 ∨ g = 10 ∨ g = 11 ∨ g = 12 by omega) with q | q | q | q | q | q | q <;> rw [q] <;> decide
        refine mt_rank (by omega) hG (fun r6 g1 => ?_)
        rw [h3] at g1
        refine mt_lays (by omega) hG (by omega) (by omega) (G.2 hb) hS (fun w9 R9 K9 L9 S9 => ?_)
        rw [g1] at S9
        refine mt_push (g' := 0) (by omega) hG (by omega) (Or.inr (Or.inr (by omega))) (by rw [if_pos (by omega)]; rfl) R9 S9 (fun w11 R11 K11 L11 S11 w12 e12 => ?_)
        rw [h3] at S11
        have R12 : RS b (lim + 1) 0 w12 := by
          rw [e12]
          exact R11.set (by decide)
        have K12 : KP b w w12 := by
          rw [e12]
          exact (K9.trans K11).trans (KP.set (by decide))
        have S12 : TS w12 (g :: lay (rk g) S) := by
          rw [e12]
          exact S11.set (by decide)
        have h23 : w12 0 23 = 0 := by rw [e12, ws_hit]
        have h22 : w12 0 22 = w 0 22 := by rw [e12, ws_row (by decide), L11 22 (by decide) (by decide) (by decide), L9 22 (by decide) (by decide) (by decide)]
        have hnx : nx kk S true cm s = some (g :: lay (rk g) S, false, (if rk g < 3 then false else if rk g = 4 then true else cm), decide (rk g < 3)) := by
          unfold nx
          rw [if_pos rfl, if_neg k41, ← hg, if_neg hs1]
        have fin : ∀ u : Wd, RS b (lim + 1) 0 u → KP b w u → u 0 23 = 0 → TS u (g :: lay (rk g) S) → bo (u 0 22) (if rk g < 3 then false else if rk g = 4 then true else cm) → bo (u 0 24) (decide (rk g < 3)) → Q 1 u := fun u Ru Ku hu Su a1 a2 => k 1 u iz_1 (fun _ => ⟨ht, fun _ => Ru, fun q => absurd hu q⟩) Ku (Or.inr ⟨by decide, _, _, _, _, hnx, Su, by rw [hu]; exact bo_0, a1, a2⟩)
        have n4 : (4 : Int32).toInt = 4 := rfl
        have n3 : (3 : Int32).toInt = 3 := rfl
        have p74 : ∀ (s0 : Int32), isZ s0 → bo s0 (decide (rk g < 3)) → P r3 s0 w12 := fun s0 hz hs0 => by
          refine c _ _ _ ⟨hz, fun w22 e22 => ?_⟩
          have Ra : RS b (lim + 1) 0 w22 := by
            rw [e22]
            exact R12.set (by decide)
          have Ka : KP b w w22 := by
            rw [e22]
            exact K12.trans (KP.set (by decide))
          have ha : w22 0 23 = 0 := by rw [e22, ws_row (by decide), h23]
          have Sa : TS w22 (g :: lay (rk g) S) := by
            rw [e22]
            exact S12.set (by decide)
          have h24 : w22 0 24 = s0 := by rw [e22, ws_hit]
          have ha22 : w22 0 22 = w 0 22 := by rw [e22, ws_row (by decide), h22]
          rw [h24]
          refine ⟨fun hz0 => mt_rank (by omega) hG (fun r25 g25 => ⟨fun hr => ?_, fun hr w28 e28 => ?_⟩), fun hz0 w30 e30 => ?_⟩
          · have hlt : ¬ rk g < 3 := fun q => by
              have := hs0.f hz0
              rw [decide_eq_true q] at this
              exact absurd this (by decide)
            rw [h3] at g25
            have hr4 : ¬ rk g = 4 := fun q => hr (i_ext (g25.trans q))
            refine fin w22 Ra Ka ha Sa ?_ (by rw [h24]; exact hs0)
            rw [if_neg hlt, if_neg hr4, ha22]
            exact hb22
          · have hlt : ¬ rk g < 3 := fun q => by
              have := hs0.f hz0
              rw [decide_eq_true q] at this
              exact absurd this (by decide)
            rw [h3] at g25
            have hr4 : rk g = 4 := g25.symm.trans (tIe hr)
            refine fin w28 (by rw [e28]; exact Ra.set (by decide)) (by rw [e28]; exact Ka.trans (KP.set (by decide))) (by rw [e28, ws_row (by decide)]; exact ha) (by rw [e28]; exact Sa.set (by decide)) ?_ ?_
            · rw [e28, ws_hit, if_neg hlt, if_pos hr4]
              exact bo_1
            · rw [e28, ws_row (by decide), h24]
              exact hs0
          · have hlt : rk g < 3 := of_decide_eq_true (hs0.t hz0)
            refine fin w30 (by rw [e30]; exact Ra.set (by decide)) (by rw [e30]; exact Ka.trans (KP.set (by decide))) (by rw [e30, ws_row (by decide)]; exact ha) (by rw [e30]; exact Sa.set (by decide)) ?_ ?_
            · rw [e30, ws_hit, if_pos hlt]
              exact bo_0
            · rw [e30, ws_row (by decide), h24]
              exact hs0
        refine mt_rank (by omega) hG (fun r14 g14 => ⟨fun h => p74 0 iz_0 ?_, fun h => p74 1 iz_1 ?_⟩)
        · rw [Int32.le_iff_toInt_le] at h
          rw [h3] at g14
          rw [decide_eq_false (by omega)]
          exact bo_0
        · rw [Int32.le_iff_toInt_le] at h
          rw [h3] at g14
          rw [decide_eq_true (by omega)]
          exact bo_1
      · refine k 0 w iz_0 (fun q => absurd rfl q) KP.rfl (Or.inl ⟨rfl, ?_⟩)
        have hs1 : sgOf kk cm = -1 := by
          rw [← h3, he]
          rfl
        unfold nx
        rw [if_pos rfl, if_neg k41, if_pos hs1]
    · have k41 := d41.mp (tIe h41)
      subst k41
      exact mt_closes (by omega) hG hl hb (G.2 hb) ⟨hS, hb23, hb22, hb24⟩ (fun r u hr hg Ku hm => ⟨hr, k r u hr (fun q => ⟨tk h41 (by decide), (hg q).imp (fun f z => (f z).lim (by omega)) (fun f z => (f z).lim (by omega))⟩) Ku hm⟩)
  · have ebh := hb23.f hb
    subst ebh
    exact mt_one (by omega) hG hl hb hv (G.1 hb) M ⟨hS, hb23, hb22, hb24⟩ (fun r u hr hg Ku hm => ⟨hr, k r u hr hg Ku hm⟩)
