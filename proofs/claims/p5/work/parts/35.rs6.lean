/-! the model's text, safe -/
theorem JM.fail {w u v : Wd} (i : JM w) {n : Nat} (hn : n = (3 * (w 0 9).toInt).toNat) (T : TB n (w 0 13).toInt.toNat w u) (ev : v = wset (wset u 0 7 0) 0 13 (w 0 13)) : JM v := by
  have z := i.num
  have s0 : ∀ s : Nat, s ≠ 7 → s ≠ 13 → ¬ (14 ≤ s ∧ s ≤ 18) → ¬ (20 ≤ s ∧ s ≤ 24) → v 0 s = w 0 s := fun s a1 a2 a3 a4 => by rw [ev, ws_row a2, ws_row a1, T.1 s a2 a3 a4]
  have v13 : v 0 13 = w 0 13 := by rw [ev, ws_hit]
  have v7 : (v 0 7).toInt = 0 := by rw [ev, ws_row (by decide), ws_hit]; rfl
  have cl : ∀ x : Nat, x ≠ 0 → v x = u x := fun x hx => by rw [ev, wset_off _ _ _ _ _ hx, wset_off _ _ _ _ _ hx]
  refine ⟨rfl, ?_, fun q hq => ?_, fun j hj => ?_, fun j => ?_⟩
  · unfold numM
    rw [s0 2 (by decide) (by decide) (by decide) (by decide), s0 33 (by decide) (by decide) (by decide) (by decide), s0 6 (by decide) (by decide) (by decide) (by decide), s0 9 (by decide) (by decide) (by decide) (by decide), s0 35 (by decide) (by decide) (by decide) (by decide), v13, v7]
    omega
  · rw [s0 9 (by decide) (by decide) (by decide) (by decide)] at hq
    obtain ⟨p1, p2, p3, p4, p5⟩ := i.2.2.1 q hq
    rw [cl 6 (by decide), cl 7 (by decide), cl 8 (by decide), v13, (T.2.2.1 q (by omega)).1, (T.2.2.1 q (by omega)).2]
    exact ⟨p1, p2, p3, p4, bal.congr (fun j hj => T.2.2.2 _ (by omega)) p5⟩
  · rw [cl 18 (by decide), T.2.1 18 (by decide) (by decide) (by decide) (by decide) (by decide)]
    exact i.2.2.2.1 j hj
  · rw [cl 1 (by decide), cl 15 (by decide), T.2.1 1 (by decide) (by decide) (by decide) (by decide) (by decide), T.2.1 15 (by decide) (by decide) (by decide) (by decide) (by decide)]
    exact i.2.2.2.2 j
/-- a part that is good where the code ends at e -/
def PG (u : Wd) (q : Nat) (e : Int) : Prop := 0 ≤ (u 6 q).toInt ∧ 0 ≤ (u 7 q).toInt ∧ (u 7 q).toInt ≤ 160 ∧ (u 6 q).toInt + (u 7 q).toInt ≤ e ∧ bal (u 8) (u 6 q).toInt.toNat (u 7 q).toInt.toNat
theorem PG.keep {u v : Wd} {q n c : Nat} {e e' : Int} (h : PG u q e) (T : TB n c u v) (hq : q < n) (hc : e ≤ c) (he : e ≤ e') : PG v q e' := by
  obtain ⟨p1, p2, p3, p4, p5⟩ := h
  unfold PG
  rw [(T.2.2.1 q hq).1, (T.2.2.1 q hq).2]
  exact ⟨p1, p2, p3, by omega, bal.congr (fun j hj => T.2.2.2 _ (by omega)) p5⟩
theorem JM.done {w u v : Wd} (i : JM w) {n : Nat} (hn : n = (3 * (w 0 9).toInt).toNat) (ht : (w 0 9).toInt ≤ 5) (T : TB n (w 0 13).toInt.toNat w u) (hu : (w 0 13).toInt ≤ (u 0 13).toInt ∧ (u 0 13).toInt ≤ (w 0 13).toInt + 160) (g : ∀ q : Nat, n ≤ q → q < n + 3 → PG u q (u 0 13).toInt) (ev : v = wset (wset u 0 7 0) 0 9 (wset u 0 7 0 0 9 + 1)) : JM v := by
  have z := i.num
  have s0 : ∀ s : Nat, s ≠ 7 → s ≠ 9 → s ≠ 13 → ¬ (14 ≤ s ∧ s ≤ 18) → ¬ (20 ≤ s ∧ s ≤ 24) → v 0 s = w 0 s := fun s a1 a9 a2 a3 a4 => by rw [ev, ws_row a9, ws_row a1, T.1 s a2 a3 a4]
  have v13 : v 0 13 = u 0 13 := by rw [ev, ws_row (by decide), ws_row (by decide)]
  have n1 : (1 : Int32).toInt = 1 := rfl
  have ea := i_add (x := w 0 9) (y := 1) (by omega) (by omega)
  have v9 : (v 0 9).toInt = (w 0 9).toInt + 1 := by
    rw [ev, ws_hit, ws_row (by decide), T.1 9 (by decide) (by decide) (by decide)]
    omega
  have v7 : (v 0 7).toInt = 0 := by rw [ev, ws_row (by decide), ws_hit]; rfl
  have cl : ∀ x : Nat, x ≠ 0 → v x = u x := fun x hx => by rw [ev, wset_off _ _ _ _ _ hx, wset_off _ _ _ _ _ hx]
  refine ⟨rfl, ?_, fun q hq => ?_, fun j hj => ?_, fun j => ?_⟩
  · unfold numM
    rw [s0 2 (by decide) (by decide) (by decide) (by decide) (by decide), s0 33 (by decide) (by decide) (by decide) (by decide) (by decide), s0 6 (by decide) (by decide) (by decide) (by decide) (by decide), s0 35 (by decide) (by decide) (by decide) (by decide) (by decide), v13, v7, v9]
    omega
  · rw [v9] at hq
    rw [cl 6 (by decide), cl 7 (by decide), cl 8 (by decide), v13]
    by_cases h : q < n
    · have pq : PG w q (w 0 13).toInt := i.2.2.1 q (by omega)
      exact pq.keep T h (by omega) hu.1
    · exact g q (by omega) (by omega)
  · rw [cl 18 (by decide), T.2.1 18 (by decide) (by decide) (by decide) (by decide) (by decide)]
    exact i.2.2.2.1 j hj
  · rw [cl 1 (by decide), cl 15 (by decide), T.2.1 1 (by decide) (by decide) (by decide) (by decide) (by decide), T.2.1 15 (by decide) (by decide) (by decide) (by decide) (by decide)]
    exact i.2.2.2.2 j
theorem PT.good {w u : Wd} {q : Nat} (h : PT w u q) (h0 : 0 ≤ (w 0 13).toInt) (h1 : (u 0 13).toInt ≤ (w 0 13).toInt + 160) : PG u q (u 0 13).toInt := by
  obtain ⟨p1, p2, p3, p4⟩ := h
  refine ⟨by omega, by omega, by omega, by omega, ?_⟩
  have e1 : (u 6 q).toInt.toNat = (w 0 13).toInt.toNat := by omega
  have e2 : (u 7 q).toInt.toNat = (u 0 13).toInt.toNat - (w 0 13).toInt.toNat := by omega
  rw [e1, e2]
  exact p4
set_option maxRecDepth 20000 in
set_option maxHeartbeats 4000000 in
theorem jm_X5_text {Γ : Gx} {d : Nat} (hd : 8 ≤ d) (hG : GM Γ) {w : Wd} (i : JM w) {Q : Int32 → Wd → Prop} (k : ∀ (r : Int32) (w' : Wd), JM w' → Q r w') : CI Γ d M_X5_text [.ref (gad Γ 0)] w Q := by
  obtain ⟨d, rfl⟩ : ∃ e, d = e + 1 := ⟨d - 1, by omega⟩
  refine con_X5_text hG ?_
  unfold wp_X5_text
  intro P c
  have z := i.num
  obtain ⟨n, hn⟩ : ∃ n : Nat, n = (3 * (w 0 9).toInt).toNat := ⟨_, rfl⟩
  obtain ⟨b, hb⟩ : ∃ b : Nat, b = (w 0 13).toInt.toNat := ⟨_, rfl⟩
  have bad : ∀ u : Wd, TB n b w u → P (w 0 13) 0 u := fun u T => c _ _ _ (fun w16 e16 => ⟨fun _ w19 e19 => k _ _ (i.fail hn (hb ▸ T) (by rw [e19, e16])), fun q => absurd rfl q⟩)
  refine ⟨fun h6 w2 e2 => ?_, fun _ => k _ _ i⟩
  have h6' : (w 0 9).toInt ≤ 5 := by
    have : ¬ (w 0 9).toInt = 6 := fun q => h6 (i_ext q)
    omega
  have s2 : ∀ s : Nat, s ≠ 15 → w2 0 s = w 0 s := fun s hs => by rw [e2, ws_row hs]
  have t15 : (w2 0 15).toInt = 0 := by rw [e2, ws_hit]; rfl
  have T2 : TB n b w w2 := by
    rw [e2]
    exact TB.nk (NK.set (by decide) NK.rfl)
  refine rs_nx (by omega) hG (by rw [t15, s2 7 (by decide)]; omega) (by rw [s2 7 (by decide)]; omega) (fun w5 N5 X5 _ => ?_)
  have T5 : TB n b w w5 := T2.trans (TB.nk N5)
  have n3 : ∀ (u : Wd), TB n b w u → ((3 : Int32) * u 0 9).toInt = 3 * (w 0 9).toInt := fun u T => by
    rw [T.1 9 (by decide) (by decide) (by decide)]
    exact i_mulL (c := (3 : Int32)) (v := 3) rfl (by omega) (by omega)
  have c5 : (w5 0 13).toInt = (w 0 13).toInt := by rw [N5.2 13 (by decide), s2 13 (by decide)]
  have x5 := X5.1
  have p0 := n3 w5 T5
  have q0 : ((3 : Int32) * w5 0 9).toNatClampNeg = n := by
    have := tn_eq (x := (3 : Int32) * w5 0 9) (by omega)
    omega
  refine rs_part (by omega) hG (c0 := (w 0 13).toInt) (by omega) (by omega) X5 (by omega) (fun r6 w7 g6 T7 => ?_)
  rw [q0] at g6 T7
  have T7w : TB n b w w7 := T5.trans (T7.mono (Nat.le_refl n) (by omega))
  refine ⟨fun _ => bad w7 T7w, fun hr6 => ?_⟩
  obtain ⟨X7, l7, P7⟩ := g6 hr6
  have a7 := P7.2.1
  have X7c := X7
  obtain ⟨y1, y2, y3, y4, -, -⟩ := X7c
  have G7 := P7.good (by omega) (by omega)
  have n1 : (1 : Int32).toInt = 1 := rfl
  have n2 : (2 : Int32).toInt = 2 := rfl
  have p1 := n3 w7 T7w
  have e1 := i_add (x := (3 : Int32) * w7 0 9) (y := 1) (by omega) (by omega)
  have q1 : ((3 : Int32) * w7 0 9 + 1).toNatClampNeg = n + 1 := by
    have := tn_eq (x := (3 : Int32) * w7 0 9 + 1) (by omega)
    omega
  refine rs_part (by omega) hG (c0 := (w 0 13).toInt) (by omega) (by omega) X7 (by omega) (fun r9 w10 g9 T10 => ?_)
  rw [q1] at g9 T10
  have T10w : TB n b w w10 := T7w.trans (T10.mono (by omega) (by omega))
  refine ⟨fun _ => bad w10 T10w, fun hr9 => ?_⟩
  obtain ⟨X10, l10, P10⟩ := g9 hr9
  have a10 := P10.2.1
  have X10c := X10
  obtain ⟨u1, u2, u3, u4, -, -⟩ := X10c
  have G10 := P10.good (by omega) (by omega)
  have G7' : PG w10 n (w10 0 13).toInt := G7.keep T10 (by omega) (by omega) (by omega)
  have p2 := n3 w10 T10w
  have e2' := i_add (x := (3 : Int32) * w10 0 9) (y := 2) (by omega) (by omega)
  have q2 : ((3 : Int32) * w10 0 9 + 2).toNatClampNeg = n + 2 := by
    have := tn_eq (x := (3 : Int32) * w10 0 9 + 2) (by omega)
    omega
  refine rs_part (by omega) hG (c0 := (w 0 13).toInt) (by omega) (by omega) X10 (by omega) (fun r12 w13 g12 T13 => ?_)
  rw [q2] at g12 T13
  have T13w : TB n b w w13 := T10w.trans (T13.mono (by omega) (by omega))
  refine ⟨fun _ => bad w13 T13w, fun hr12 => ⟨fun _ => bad w13 T13w, fun _ => ?_⟩⟩
  obtain ⟨X13, l13, P13⟩ := g12 hr12
  have a13 := P13.2.1
  have X13c := X13
  obtain ⟨v1, v2, v3, v4, -, -⟩ := X13c
  have G13 := P13.good (by omega) (by omega)
  have H7 : PG w13 n (w13 0 13).toInt := G7'.keep T13 (by omega) (by omega) (by omega)
  have H10 : PG w13 (n + 1) (w13 0 13).toInt := G10.keep T13 (by omega) (by omega) (by omega)
  refine c _ _ _ (fun w16 e16 => ⟨fun q => absurd q (by decide), fun _ w21 e21 => k _ _ (i.done hn h6' (hb ▸ T13w) (by omega) (fun q h1 h2 => ?_) (by rw [e21, e16]))⟩)
  rcases (show q = n ∨ q = n + 1 ∨ q = n + 2 by omega) with rfl | rfl | rfl
  · exact H7
  · exact H10
  · exact G13
