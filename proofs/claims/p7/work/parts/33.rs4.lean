/-! the model's reading: one, closes, goesOn -/
def GS (b : Nat) (lim : Int) (w : Wd) : Prop := (w 0 23 = 0 → RS b lim 0 w) ∧ (¬ w 0 23 = 0 → RS b lim 1 w)
theorem tk {x t : Int32} (h : x = t) (hne : ¬ t = 101) : ¬ x = 101 := fun q => hne (h.symm.trans q)
set_option maxRecDepth 20000 in
theorem rs_signed {Γ : Gx} {d : Nat} (hd : 1 ≤ d) (hG : GM Γ) {w : Wd} {Q : Int32 → Wd → Prop} (k : ∀ r : Int32, (r = -1 ∨ (6 ≤ r.toInt ∧ r.toInt ≤ 12 ∧ ¬ w 0 16 = 101)) → Q r w) : CI Γ d M_X5_signed [.ref (gad Γ 0)] w Q := by
  obtain ⟨d, rfl⟩ : ∃ e, d = e + 1 := ⟨d - 1, by omega⟩
  refine con_X5_signed hG ?_
  unfold wp_X5_signed
  have g : ∀ n t : Int32, (6 ≤ n.toInt ∧ n.toInt ≤ 12) → w 0 16 = t → ¬ t = 101 → Q n w := fun n t h1 h2 h3 => k n (Or.inr ⟨h1.1, h1.2, tk h2 h3⟩)
  have no : Q (-1) w := k _ (Or.inl rfl)
  exact ⟨fun h => g 8 _ (by decide) h (by decide), fun h => g 6 _ (by decide) h (by decide), fun h => g 7 _ (by decide) h (by decide), fun h => ⟨fun _ => g 9 _ (by decide) h (by decide), fun _ => no⟩, fun h => ⟨fun _ => g 10 _ (by decide) h (by decide), fun _ => no⟩, fun h => ⟨fun _ => ⟨fun _ => no, fun _ => g 12 _ (by decide) h (by decide)⟩, fun _ => g 11 _ (by decide) h (by decide)⟩, fun _ => no⟩
set_option maxRecDepth 20000 in
set_option maxHeartbeats 4000000 in
theorem rs_one {Γ : Gx} {d : Nat} (hd : 4 ≤ d) (hG : GM Γ) {b : Nat} {lim : Int} {p1 : Int32} {w : Wd} (hl : lim ≤ b + 190 ∧ lim ≤ 2800) (hb : w 0 23 = 0) (hv : w 0 16 = 48 → 0 ≤ (w 0 17).toInt ∧ (w 0 17).toInt ≤ 9999) (R : RS b lim 0 w) {Q : Int32 → Wd → Prop} (k : ∀ (r : Int32) (w' : Wd), isZ r → (¬ r = 0 → ¬ w 0 16 = 101 ∧ GS b (lim + 1) w') → KP b w w' → Q r w') : CI Γ d M_X5_one [.ref (gad Γ 0), .int p1] w Q := by
  obtain ⟨d, rfl⟩ : ∃ e, d = e + 1 := ⟨d - 1, by omega⟩
  refine con_X5_one hG ?_
  unfold wp_X5_one
  intro P17 P32 P93 P116 P149 P172 c17 c32 c93 c116 c149 c172
  have kz : Q 0 w := k 0 w iz_0 (fun q => absurd rfl q) KP.rfl
  have setGS : ∀ (u : Wd) (s : Nat) (v : Int32), s ≠ 13 ∧ s ≠ 20 → s ≠ 23 → RS b (lim + 1) 0 u → u 0 23 = 0 → RS b (lim + 1) 0 (wset u 0 s v) ∧ wset u 0 s v 0 23 = 0 := fun u s v h1 h2 Ru h3 => ⟨Ru.set h1, (ws_row (Ne.symm h2)).trans h3⟩
  have fin : ∀ u : Wd, ¬ w 0 16 = 101 → RS b (lim + 1) 0 u → u 0 23 = 0 → KP b w u → Q 1 u := fun u ht Ru hu Ku => k 1 u iz_1 (fun _ => ⟨ht, fun _ => Ru, fun q => absurd hu q⟩) Ku
  have p172 : ∀ s0 : Int32, waitOK s0 → ¬ (6 ≤ s0.toInt ∧ s0.toInt ≤ 12) → ¬ w 0 16 = 101 → P172 s0 w := fun s0 h1 h2 ht => by
    refine c172 _ _ (rs_push (g' := 0) (by omega) hG (by omega) h1 (by rw [if_neg h2]; rfl) R (fun u Ru Ku Lu => ?_))
    have hu : u 0 23 = 0 := (Lu 23 (by decide) (by decide) (by decide)).trans hb
    refine ⟨fun _ v e => ?_, fun _ v e => ?_⟩
    all_goals
      subst e
      obtain ⟨a, c⟩ := setGS u 24 _ (by decide) (by decide) Ru hu
      exact fin _ ht a c (Ku.trans (KP.set (by decide)))
  have p149 : ∀ s0 : Int32, waitOK s0 → ¬ (6 ≤ s0.toInt ∧ s0.toInt ≤ 12) → ¬ w 0 16 = 101 → P149 s0 w := fun s0 h1 h2 ht => by
    refine c149 _ _ (rs_push (g' := 0) (by omega) hG (by omega) h1 (by rw [if_neg h2]; rfl) R (fun u0 R0 K0 L0 u e0 => ?_))
    have hu0 : u0 0 23 = 0 := (L0 23 (by decide) (by decide) (by decide)).trans hb
    obtain ⟨Ru, hu⟩ := setGS u0 22 0 (by decide) (by decide) R0 hu0
    have Ku := K0.trans (KP.set (w := u0) (s := 22) (v := 0) (by decide))
    rw [← e0] at Ru hu Ku
    refine ⟨fun _ v e => ?_, fun _ v e => ?_⟩
    all_goals
      subst e
      obtain ⟨a, c⟩ := setGS u 24 _ (by decide) (by decide) Ru hu
      exact fin _ ht a c (Ku.trans (KP.set (by decide)))
  have p116 : ∀ l3 : Int32, ¬ w 0 16 = 101 → P116 l3 w := fun l3 ht => c116 _ _ ⟨fun _ => ⟨fun _ => ⟨fun _ => p172 14 (by unfold waitOK; decide) (by decide) ht, fun _ => p172 13 (by unfold waitOK; decide) (by decide) ht⟩, fun _ => ⟨fun _ => p149 (-1) (by unfold waitOK; decide) (by decide) ht, fun _ => p149 (-2) (by unfold waitOK; decide) (by decide) ht⟩⟩, fun _ => kz⟩
  have p93 : ∀ s0 : Int32, (¬ s0 = 0 → w 0 16 = 119) → P93 s0 w := fun s0 h => c93 _ _ ⟨fun q => p116 s0 (tk (h q) (by decide)), fun _ => ⟨fun q => p116 s0 (tk q (by decide)), fun _ => ⟨fun _ => kz, fun q => p116 s0 (tk q (by decide))⟩⟩⟩
  obtain ⟨r1, r2, r3, r4, r5, r6⟩ := R
  have n1 : (1 : Int32).toInt = 1 := rfl
  have opnd : ∀ x : Int32, 0 ≤ x.toInt → (15 ≤ x.toInt ∨ x.toInt ≤ 5) → ¬ w 0 16 = 101 → CV Γ d M_X5_codes [.ref (gad Γ 0), .int x] w (fun w11 => CV Γ d M_X5_lays [.ref (gad Γ 0), .int (7 : Int32)] w11 (fun w13 => ∀ w14 : Wd, w14 = wset w13 0 23 (1 : Int32) → Q (1 : Int32) w14)) := fun x h0 hx ht => by
    refine cs_X5_codes (by omega) hG (vp_in_iff.mpr (by omega)) ?_
    generalize hvv : wset (wset w 0 13 (w 0 13 + 1)) 8 (w 0 13).toNatClampNeg x = v
    obtain ⟨a1, a2, a3, a4, a5, a6⟩ := emit_code (b := b) hvv.symm r1 (by omega) r5 h0 (fun q => by omega) (fun q => by omega)
    have Rv : RS b (lim + 1) 1 v := by
      unfold RS
      rw [a3, a4]
      refine ⟨by omega, r2, by omega, r4, a5, ?_⟩
      rw [a6, if_pos hx, r6]
      omega
    refine rs_lays (by omega) hG (by omega) (by decide) Rv (fun u Ru Ku _ _ w14 e => ?_)
    subst e
    exact k 1 _ iz_1 (fun _ => ⟨ht, fun q => absurd q (by rw [ws_hit]; decide), fun _ => Ru.set (by decide)⟩) ((a2.trans Ku).trans (KP.set (by decide)))
  have p32 : ∀ l2 : Int32, (l2 = -1 → w 0 16 = 48) → (l2 = -1 ∨ (0 ≤ l2.toInt ∧ l2.toInt ≤ 5)) → ¬ w 0 16 = 101 → P32 l2 w := fun l2 h1 h2 ht => by
    refine c32 _ _ ⟨fun q => ?_, fun q => ?_⟩
    · rcases h2 with h2 | h2
      · exact absurd h2 q
      · exact opnd l2 h2.1 (Or.inr h2.2) ht
    · have n15 : (15 : Int32).toInt = 15 := rfl
      have hv2 := hv (h1 q)
      have ea := i_add (x := (15 : Int32)) (y := w 0 17) (by omega) (by omega)
      exact opnd _ (by omega) (Or.inl (by omega)) ht
  have p17 : ∀ s0 : Int32, (s0 = -1 ∨ ((0 ≤ s0.toInt ∧ s0.toInt ≤ 5) ∧ w 0 16 = 119)) → P17 s0 w := fun s0 h => by
    refine c17 _ _ ⟨fun q => ?_, fun q => ⟨fun e => ⟨fun _ => p93 0 (fun z => absurd rfl z), fun _ => ⟨fun _ => p93 0 (fun z => absurd rfl z), fun t => ⟨fun _ => p93 0 (fun z => absurd rfl z), fun _ => p93 1 (fun _ => t)⟩⟩⟩, fun e => ?_⟩⟩
    · rcases h with h | h
      · exact p32 s0 (fun _ => q) (Or.inl h) (tk q (by decide))
      · exact absurd (q.symm.trans h.2) (by decide)
    · rcases h with h | h
      · exact absurd h e
      · exact p32 s0 (fun z => absurd z e) (Or.inr h.1) (tk h.2 (by decide))
  refine ⟨fun _ => p17 _ (Or.inl rfl), fun t => cs_X5_named (by omega) hG (fun r hr => p17 r ?_)⟩
  rcases hr with hr | hr
  · exact Or.inl (i_ext hr)
  · exact Or.inr ⟨hr, t⟩
set_option maxRecDepth 20000 in
theorem rs_closes {Γ : Gx} {d : Nat} (hd : 3 ≤ d) (hG : GM Γ) {b : Nat} {lim : Int} {w : Wd} (hl : lim ≤ b + 190 ∧ lim ≤ 2800) (hb : ¬ w 0 23 = 0) (R : RS b lim 1 w) {Q : Int32 → Wd → Prop} (k : ∀ (r : Int32) (w' : Wd), isZ r → (¬ r = 0 → GS b lim w') → KP b w w' → Q r w') : CI Γ d M_X5_closes [.ref (gad Γ 0)] w Q := by
  obtain ⟨d, rfl⟩ : ∃ e, d = e + 1 := ⟨d - 1, by omega⟩
  refine con_X5_closes hG ?_
  unfold wp_X5_closes
  refine rs_lays (by omega) hG (by omega) (by decide) R (fun w2 R2 K2' L2 hq => ⟨fun h w4 e4 => ?_, fun _ => k 0 w2 iz_0 (fun q => absurd rfl q) K2'⟩)
  obtain ⟨r1, r2, r3, r4, r5, r6⟩ := R2
  have n1 : (1 : Int32).toInt = 1 := rfl
  have h0 : ¬ (w2 0 20).toInt = 0 := fun q => h (i_ext q)
  have es := i_sub (x := w2 0 20) (y := 1) (by omega) (by omega)
  obtain ⟨n, hn⟩ : ∃ n : Nat, n = (w2 0 20).toInt.toNat - 1 := ⟨_, rfl⟩
  have hp : (w2 9 n).toInt = -1 ∨ (w2 9 n).toInt = -2 := by
    rcases hq with hq | hq
    · omega
    · exact hq rfl n (by omega)
  have hB : (w2 0 20).toInt.toNat = n + 1 := by omega
  have hbw : bw (w2 9) (n + 1) = bw (w2 9) n + (if 6 ≤ (w2 9 n).toInt ∧ (w2 9 n).toInt ≤ 12 then 1 else 0) := rfl
  rw [hB, hbw, if_neg (by omega)] at r6
  have q20 : w4 0 20 = w2 0 20 - 1 := by rw [e4, ws_hit]
  have R4 : RS b lim 1 w4 := by
    unfold RS
    have q13 : w4 0 13 = w2 0 13 := by rw [e4, ws_row (by decide)]
    have q8 : w4 8 = w2 8 := by rw [e4, wset_off _ _ _ _ _ (by decide)]
    have q9 : w4 9 = w2 9 := by rw [e4, wset_off _ _ _ _ _ (by decide)]
    rw [q13, q20, q8, q9]
    refine ⟨r1, by omega, by omega, fun j hj => r4 j (by omega), r5, ?_⟩
    have e2 : (w2 0 20 - 1).toInt.toNat = n := by omega
    rw [e2, r6]
    omega
  have K4 : KP b w w4 := by
    rw [e4]
    exact K2'.trans (KP.set (by decide))
  have h23 : ¬ w4 0 23 = 0 := by
    rw [e4, ws_row (by decide), L2 23 (by decide) (by decide) (by decide)]
    exact hb
  have tail : ∀ x y : Int32, CV Γ d M_X5_lays [.ref (gad Γ 0), .int (7 : Int32)] (wset (wset w4 0 22 x) 0 21 y) (fun w13 => Q (1 : Int32) w13) := fun x y => by
    refine rs_lays (by omega) hG (by omega) (by decide) ((R4.set (by decide)).set (by decide)) (fun u Ru Ku Lu _ => ?_)
    refine k 1 u iz_1 (fun _ => ⟨fun q => absurd q ?_, fun _ => Ru⟩) (((K4.trans (KP.set (by decide))).trans (KP.set (by decide))).trans Ku)
    rw [Lu 23 (by decide) (by decide) (by decide), ws_row (by decide), ws_row (by decide)]
    exact h23
  refine ⟨by rw [q20]; exact vp_in_iff.mpr (by omega), fun _ w8 e8 w10 e10 => ?_, fun _ w8 e8 w10 e10 => ?_⟩
  · subst e8
    subst e10
    exact tail _ _
  · subst e8
    subst e10
    exact tail _ _
set_option maxRecDepth 20000 in
set_option maxHeartbeats 4000000 in
theorem rs_goesOn {Γ : Gx} {d : Nat} (hd : 5 ≤ d) (hG : GM Γ) {b : Nat} {lim : Int} {w : Wd} (hl : lim ≤ b + 190 ∧ lim ≤ 2800) (hv : w 0 16 = 48 → 0 ≤ (w 0 17).toInt ∧ (w 0 17).toInt ≤ 9999) (G : GS b lim w) {Q : Int32 → Wd → Prop} (k : ∀ (r : Int32) (w' : Wd), isZ r → (¬ r = 0 → ¬ w 0 16 = 101 ∧ GS b (lim + 1) w') → KP b w w' → Q r w') : CI Γ d M_X5_goesOn [.ref (gad Γ 0)] w Q := by
  obtain ⟨d, rfl⟩ : ∃ e, d = e + 1 := ⟨d - 1, by omega⟩
  refine con_X5_goesOn hG ?_
  unfold wp_X5_goesOn
  intro P c
  have kz : Q 0 w := k 0 w iz_0 (fun q => absurd rfl q) KP.rfl
  refine ⟨fun hb => ⟨fun h41 => ?_, fun h41 => ?_⟩, fun hb => ?_⟩
  · refine rs_signed (by omega) hG (fun r3 h3 => ⟨fun hne => ?_, fun _ => kz⟩)
    have h3 : 6 ≤ r3.toInt ∧ r3.toInt ≤ 12 ∧ ¬ w 0 16 = 101 := by
      rcases h3 with h3 | h3
      · exact absurd h3 hne
      · exact h3
    refine rs_rank (by omega) hG (fun r6 g1 g2 _ => ?_)
    have g2 := g2 (by omega)
    refine rs_lays (by omega) hG (by omega) g2 (G.2 hb) (fun w9 R9 K9 L9 _ => ?_)
    refine rs_push (g' := 0) (by omega) hG (by omega) (Or.inr (Or.inr (by omega))) (by rw [if_pos (by omega)]; rfl) R9 (fun w11 R11 K11 L11 w12 e12 => ?_)
    have R12 : RS b (lim + 1) 0 w12 := by
      rw [e12]
      exact R11.set (by decide)
    have K12 : KP b w w12 := by
      rw [e12]
      exact (K9.trans K11).trans (KP.set (by decide))
    have h23 : w12 0 23 = 0 := by rw [e12, ws_hit]
    have go : ∀ (u : Wd) (s : Nat) (v : Int32), (s = 22 ∨ s = 24) → RS b (lim + 1) 0 u → KP b w u → u 0 23 = 0 → RS b (lim + 1) 0 (wset u 0 s v) ∧ KP b w (wset u 0 s v) ∧ wset u 0 s v 0 23 = 0 := fun u s v hs Ru Ku hu => ⟨Ru.set (by omega), Ku.trans (KP.set (by omega)), (ws_row (by omega)).trans hu⟩
    have fin : ∀ u : Wd, RS b (lim + 1) 0 u → KP b w u → u 0 23 = 0 → Q 1 u := fun u Ru Ku hu => k 1 u iz_1 (fun _ => ⟨h3.2.2, fun _ => Ru, fun q => absurd hu q⟩) Ku
    have p74 : ∀ s0 : Int32, isZ s0 → P r3 s0 w12 := fun s0 hs => by
      refine c _ _ _ ⟨hs, fun w22 e22 => ?_⟩
      obtain ⟨Ra, Ka, ha⟩ := go w12 24 s0 (Or.inr rfl) R12 K12 h23
      rw [← e22] at Ra Ka ha
      refine ⟨fun _ => rs_rank (by omega) hG (fun r25 _ _ _ => ⟨fun _ => fin _ Ra Ka ha, fun _ w28 e28 => ?_⟩), fun _ w30 e30 => ?_⟩
      · obtain ⟨x1, x2, x3⟩ := go w22 22 1 (Or.inl rfl) Ra Ka ha
        rw [e28]
        exact fin _ x1 x2 x3
      · obtain ⟨x1, x2, x3⟩ := go w22 22 0 (Or.inl rfl) Ra Ka ha
        rw [e30]
        exact fin _ x1 x2 x3
    exact rs_rank (by omega) hG (fun r14 _ _ _ => ⟨fun _ => p74 0 iz_0, fun _ => p74 1 iz_1⟩)
  · exact rs_closes (by omega) hG hl hb (G.2 hb) (fun r u hr hg Ku => ⟨hr, k r u hr (fun q => ⟨tk h41 (by decide), (hg q).imp (fun f z => (f z).lim (by omega)) (fun f z => (f z).lim (by omega))⟩) Ku⟩)
  · exact rs_one (by omega) hG hl hb hv (G.1 hb) (fun r u hr hg Ku => ⟨hr, k r u hr hg Ku⟩)
