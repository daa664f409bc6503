/-! the model's reading: a part, a text -/
theorem NK.rfl {w : Wd} : NK w w := ⟨fun _ _ => Eq.refl _, fun _ _ => Eq.refl _⟩
def TB (n c : Nat) (w u : Wd) : Prop := (∀ s : Nat, s ≠ 13 → ¬ (14 ≤ s ∧ s ≤ 18) → ¬ (20 ≤ s ∧ s ≤ 24) → u 0 s = w 0 s) ∧ (∀ k : Nat, k ≠ 0 → k ≠ 6 → k ≠ 7 → k ≠ 8 → k ≠ 9 → u k = w k) ∧ (∀ j : Nat, j < n → u 6 j = w 6 j ∧ u 7 j = w 7 j) ∧ ∀ j : Nat, j < c → u 8 j = w 8 j
theorem TB.rfl {n c : Nat} {w : Wd} : TB n c w w := ⟨fun _ _ _ _ => Eq.refl _, fun _ _ _ _ _ _ => Eq.refl _, fun _ _ => ⟨Eq.refl _, Eq.refl _⟩, fun _ _ => Eq.refl _⟩
theorem TB.trans {n c : Nat} {u v w : Wd} (h1 : TB n c u v) (h2 : TB n c v w) : TB n c u w := ⟨fun s a b e => (h2.1 s a b e).trans (h1.1 s a b e), fun k a b e f g => (h2.2.1 k a b e f g).trans (h1.2.1 k a b e f g), fun j hj => ⟨(h2.2.2.1 j hj).1.trans (h1.2.2.1 j hj).1, (h2.2.2.1 j hj).2.trans (h1.2.2.1 j hj).2⟩, fun j hj => (h2.2.2.2 j hj).trans (h1.2.2.2 j hj)⟩
theorem TB.mono {n n' c c' : Nat} {u w : Wd} (hn : n' ≤ n) (hc : c' ≤ c) (h : TB n c u w) : TB n' c' u w := ⟨h.1, h.2.1, fun j hj => h.2.2.1 j (by omega), fun j hj => h.2.2.2 j (by omega)⟩
theorem TB.kp {n c : Nat} {u w : Wd} (h : KP c u w) : TB n c u w := ⟨fun s a b e => h.1 s a (by omega) (by omega) (by omega) (by omega) (by omega), fun k a b e f g => h.2.1 k a f g, fun j _ => ⟨by rw [h.2.1 6 (by decide) (by decide) (by decide)], by rw [h.2.1 7 (by decide) (by decide) (by decide)]⟩, h.2.2⟩
theorem TB.nk {n c : Nat} {u w : Wd} (h : NK u w) : TB n c u w := ⟨fun s a b e => h.2 s (by omega), fun k a _ _ _ _ => h.1 k a, fun j _ => ⟨by rw [h.1 6 (by decide)], by rw [h.1 7 (by decide)]⟩, fun j _ => by rw [h.1 8 (by decide)]⟩
theorem TB.p67 {n c k j : Nat} {w : Wd} {v : Int32} (hk : k = 6 ∨ k = 7) (hj : n ≤ j) : TB n c w (wset w k j v) := ⟨fun s _ _ _ => ws_col (by omega), fun q a b e f g => wset_off _ _ _ _ _ (by omega), fun i hi => ⟨ws_row (by omega), ws_row (by omega)⟩, fun i _ => ws_col (by omega)⟩
/-- part q of w', out of a reading that began at w -/
def PT (w w' : Wd) (q : Nat) : Prop := (w' 6 q).toInt = (w 0 13).toInt ∧ (w 0 13).toInt ≤ (w' 0 13).toInt ∧ (w' 7 q).toInt = (w' 0 13).toInt - (w 0 13).toInt ∧ bal (w' 8) (w 0 13).toInt.toNat ((w' 0 13).toInt.toNat - (w 0 13).toInt.toNat)
theorem rs_nx {Γ : Gx} {d : Nat} (hd : 2 ≤ d) (hG : GM Γ) {w : Wd} (h1 : 0 ≤ (w 0 15).toInt ∧ (w 0 15).toInt ≤ (w 0 7).toInt) (h2 : (w 0 7).toInt ≤ 160) {Q : Wd → Prop} (k : ∀ w' : Wd, NK w w' → LX w' → (w 0 15).toInt ≤ (w' 0 14).toInt → Q w') : CV Γ d M_X5_next [.ref (gad Γ 0)] w Q := rs_next hd hG (u0 := w) NK.rfl ⟨by omega, h2⟩ h1 rfl k
theorem rs_takes {Γ : Gx} {d : Nat} (hd : 3 ≤ d) (hG : GM Γ) {p1 : Int32} {w : Wd} (X : LX w) {Q : Int32 → Wd → Prop} (k0 : Q 0 w) (k : ∀ w' : Wd, NK w w' → LX w' → (w 0 14).toInt ≤ (w' 0 14).toInt → Q 1 w') : CI Γ d M_X5_takes [.ref (gad Γ 0), .int p1] w Q := by
  obtain ⟨d, rfl⟩ : ∃ e, d = e + 1 := ⟨d - 1, by omega⟩
  refine con_X5_takes hG ?_
  unfold wp_X5_takes
  obtain ⟨x1, x2, x3, x4, x5, x6⟩ := X
  exact ⟨fun _ => k0, fun _ => ⟨fun _ => rs_nx (by omega) hG ⟨by omega, x3⟩ x4 (fun w' hk hx hf => k w' hk hx (by omega)), fun _ => k0⟩⟩
theorem GS.congr {b : Nat} {lim : Int} {w w' : Wd} (h : NK w w') (G : GS b lim w) : GS b lim w' := by
  have e23 := h.2 23 (by decide)
  unfold GS at *
  rw [e23]
  exact ⟨fun q => (G.1 q).congr (h.2 13 (by decide)) (h.2 20 (by decide)) (h.1 8 (by decide)) (h.1 9 (by decide)), fun q => (G.2 q).congr (h.2 13 (by decide)) (h.2 20 (by decide)) (h.1 8 (by decide)) (h.1 9 (by decide))⟩
theorem GS.lim {b : Nat} {l1 l2 : Int} {w : Wd} (h : l1 ≤ l2) (G : GS b l1 w) : GS b l2 w := ⟨fun q => (G.1 q).lim h, fun q => (G.2 q).lim h⟩
set_option maxRecDepth 20000 in
set_option maxHeartbeats 4000000 in
theorem rs_part {Γ : Gx} {d : Nat} (hd : 7 ≤ d) (hG : GM Γ) {p1 p2 : Int32} {w : Wd} {c0 : Int} (h0 : 0 ≤ c0 ∧ c0 ≤ 2600) (hp : 0 ≤ p1.toInt ∧ p1.toInt ≤ 17) (X : LX w) (hc : c0 ≤ (w 0 13).toInt ∧ (w 0 13).toInt ≤ c0 + (w 0 14).toInt) {Q : Int32 → Wd → Prop} (k : ∀ (r : Int32) (w' : Wd), (¬ r = 0 → LX w' ∧ (w' 0 13).toInt ≤ c0 + (w' 0 14).toInt ∧ PT w w' p1.toNatClampNeg) → TB p1.toNatClampNeg (w 0 13).toInt.toNat w w' → Q r w') : CI Γ d M_X5_part [.ref (gad Γ 0), .int p1, .int p2] w Q := by
  obtain ⟨d, rfl⟩ : ∃ e, d = e + 1 := ⟨d - 1, by omega⟩
  refine con_X5_part hG ?_
  unfold wp_X5_part
  intro P c
  have hv : vp_in p1 18 := vp_in_iff.mpr (by omega)
  obtain ⟨q, hq⟩ : ∃ q : Nat, q = p1.toNatClampNeg := ⟨_, rfl⟩
  obtain ⟨b, hb⟩ : ∃ b : Nat, b = (w 0 13).toInt.toNat := ⟨_, rfl⟩
  rw [← hq, ← hb] at k
  rw [← hq]
  have k0 : ∀ u : Wd, TB q b w u → Q 0 u := fun u hu => k 0 u (fun z => absurd rfl z) hu
  have key : ∀ (m : Nat) (u : Wd), LX u → GS b (c0 + (u 0 14).toInt) u → (u 6 q).toInt = b → TB q b w u → (161 - (u 0 14).toInt).toNat < m → P u := by
    intro m
    induction m with
    | zero => exact fun _ _ _ _ _ h => absurd h (Nat.not_lt_zero _)
    | succ m ih =>
      intro u X G e6 T hm
      obtain ⟨x1, x2, x3, x4, x5, x6⟩ := X
      have x6' : u 0 16 = 48 → 0 ≤ (u 0 17).toInt ∧ (u 0 17).toInt ≤ 9999 := fun z => x6 (by rw [z]; rfl)
      have go : CI Γ d M_X5_goesOn [.ref (gad Γ 0)] u (fun r18 w19 => ((¬ r18 = 0 → CV Γ d M_X5_next [.ref (gad Γ 0)] w19 (fun w22 => P w22)) ∧ (r18 = 0 → Q (0 : Int32) w19))) := by
        refine rs_goesOn (by omega) hG (lim := c0 + (u 0 14).toInt) (by omega) x6' G (fun r v _ hg Kv => ⟨fun hr => ?_, fun hr => ?_⟩)
        · obtain ⟨ht, Gv⟩ := hg hr
          have v14 : v 0 14 = u 0 14 := Kv.1 14 (by decide) (by decide) (by decide) (by decide) (by decide) (by decide)
          have v15 : v 0 15 = u 0 15 := Kv.1 15 (by decide) (by decide) (by decide) (by decide) (by decide) (by decide)
          have v7 : v 0 7 = u 0 7 := Kv.1 7 (by decide) (by decide) (by decide) (by decide) (by decide) (by decide)
          have h5 : (u 0 14).toInt < (u 0 15).toInt := by
            rcases x5 with z | z
            · exact absurd (i_ext (y := 101) z) ht
            · exact z
          refine rs_nx (by omega) hG (by rw [v15, v7]; omega) (by rw [v7]; exact x4) (fun y Ny Xy hy => ?_)
          rw [v15] at hy
          refine ih y Xy ((Gv.congr Ny).lim (by omega)) ?_ ((T.trans (TB.kp Kv)).trans (TB.nk Ny)) (by omega)
          rw [Ny.1 6 (by decide), Kv.2.1 6 (by decide) (by decide) (by decide)]
          exact e6
        · subst hr
          exact k0 v (T.trans (TB.kp Kv))
      refine c u ⟨fun _ => go, fun hbh => ⟨fun _ => ?_, fun _ => go⟩⟩
      refine rs_lays (by omega) hG (lim := c0 + (u 0 14).toInt) (by omega) (by decide) (G.2 hbh) (fun v Rv Kv Lv _ => ⟨fun ht => ⟨hv, fun y ey => ?_⟩, fun _ => k0 v (T.trans (TB.kp Kv))⟩)
      rw [← hq] at ey
      simp only [Int32.le_iff_toInt_le, Int32.reduceToInt] at ht
      obtain ⟨r1, r2, r3, r4, r5, r6⟩ := Rv
      have v15 : v 0 15 = u 0 15 := Kv.1 15 (by decide) (by decide) (by decide) (by decide) (by decide) (by decide)
      have v7 : v 0 7 = u 0 7 := Kv.1 7 (by decide) (by decide) (by decide) (by decide) (by decide) (by decide)
      have v6 : (v 6 q).toInt = b := by
        rw [Kv.2.1 6 (by decide) (by decide) (by decide)]
        exact e6
      have es := i_sub (x := v 0 13) (y := v 6 q) (by omega) (by omega)
      have y0 : ∀ s : Nat, y 0 s = v 0 s := fun s => by rw [ey, ws_col (by decide)]
      refine rs_nx (by omega) hG (by rw [y0, y0, v15, v7]; omega) (by rw [y0, v7]; exact x4) (fun z Nz Xz hz => ?_)
      rw [y0, v15] at hz
      have z13 : z 0 13 = v 0 13 := (Nz.2 13 (by decide)).trans (y0 13)
      have z8 : z 8 = v 8 := by rw [Nz.1 8 (by decide), ey, wset_off _ _ _ _ _ (by decide)]
      have z6 : z 6 q = v 6 q := by rw [Nz.1 6 (by decide), ey, ws_col (by decide)]
      have z7 : z 7 q = v 0 13 - v 6 q := by rw [Nz.1 7 (by decide), ey, ws_hit]
      refine k 1 z (fun _ => ⟨Xz, by rw [z13]; omega, ?_, ?_, ?_, ?_⟩) (((T.trans (TB.kp Kv)).trans (ey ▸ TB.p67 (Or.inr rfl) (Nat.le_refl q))).trans (TB.nk Nz))
      · rw [z6]
        omega
      · rw [z13]
        omega
      · rw [z7, z13]
        omega
      · rw [z8, z13, ← hb]
        exact r5
  refine rs_takes (by omega) hG X ⟨fun z => absurd rfl z, fun _ => k0 w TB.rfl⟩ (fun w2 N2 X2 hf2 => ⟨fun _ => ⟨hv, fun w5 e5 w7 e7 w9 e9 w11 e11 w13 e13 w15 e15 => ?_⟩, fun z => absurd z (by decide)⟩)
  have c13 : w2 0 13 = w 0 13 := N2.2 13 (by decide)
  have s5 : ∀ s : Nat, w5 0 s = w2 0 s := fun s => by rw [e5, ws_col (by decide)]
  have s15 : ∀ s : Nat, s ≠ 20 → s ≠ 21 → s ≠ 22 → s ≠ 23 → s ≠ 24 → w15 0 s = w2 0 s := fun s a1 a2 a3 a4 a5 => by rw [e15, ws_row a5, e13, ws_row a4, e11, ws_row a3, e9, ws_row a2, e7, ws_row a1, s5]
  have t20 : (w15 0 20).toInt = 0 := by rw [e15, ws_row (by decide), e13, ws_row (by decide), e11, ws_row (by decide), e9, ws_row (by decide), e7, ws_hit]; rfl
  have t23 : w15 0 23 = 0 := by rw [e15, ws_row (by decide), e13, ws_hit]
  have cl : ∀ x : Nat, x ≠ 0 → w15 x = w5 x := fun x hx => by rw [e15, wset_off _ _ _ _ _ hx, e13, wset_off _ _ _ _ _ hx, e11, wset_off _ _ _ _ _ hx, e9, wset_off _ _ _ _ _ hx, e7, wset_off _ _ _ _ _ hx]
  have g13 : w15 0 13 = w 0 13 := (s15 13 (by decide) (by decide) (by decide) (by decide) (by decide)).trans c13
  have g14 : w15 0 14 = w2 0 14 := s15 14 (by decide) (by decide) (by decide) (by decide) (by decide)
  have X15 : LX w15 := by
    unfold LX at *
    rw [g14, s15 15 (by decide) (by decide) (by decide) (by decide) (by decide), s15 16 (by decide) (by decide) (by decide) (by decide) (by decide), s15 17 (by decide) (by decide) (by decide) (by decide) (by decide), s15 7 (by decide) (by decide) (by decide) (by decide) (by decide)]
    exact X2
  have R15 : RS b (c0 + (w15 0 14).toInt) 0 w15 := by
    unfold RS
    rw [g13, t20, g14]
    have en : (w 0 13).toInt.toNat - b = 0 := by omega
    rw [en]
    exact ⟨by omega, by omega, by omega, fun j hj => by omega, fun j hj => by omega, rfl⟩
  have e6 : (w15 6 q).toInt = b := by
    rw [cl 6 (by decide), e5, ws_hit, c13]
    omega
  have T15 : TB q b w w15 := by
    refine (TB.nk N2).trans ((e5 ▸ TB.p67 (Or.inl rfl) (Nat.le_refl q) : TB q b w2 w5).trans ⟨fun s a1 a2 a3 => ?_, fun x a1 _ _ _ _ => cl x a1, fun j _ => ⟨by rw [cl 6 (by decide)], by rw [cl 7 (by decide)]⟩, fun j _ => by rw [cl 8 (by decide)]⟩)
    rw [s5]
    exact s15 s (by omega) (by omega) (by omega) (by omega) (by omega)
  exact key _ w15 X15 ⟨fun _ => R15, fun z => absurd t23 z⟩ e6 T15 (Nat.lt_succ_self _)
