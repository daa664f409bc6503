/-! the model's reading, exactly: a part, a text -/
/-- the token that stands in the model -/
def TK (g : Nat → Int) (N ps st en : Nat) (k : Int) (w : Wd) : Prop := Tok g N ps st en k ∧ (w 0 14).toInt = st ∧ (w 0 15).toInt = en ∧ MK (w 0 16) (w 0 18) k
def keyI (p : Int32) (i : Int) : Prop := (p.toInt = 74917 ∧ i = 0) ∨ (p.toInt = 3291049 ∧ i = 1) ∨ (p.toInt = 10206127 ∧ i = 2)
theorem keyI.iff {p : Int32} {i : Int} (h : keyI p i) {tok word : Int32} {k : Int} (M : MK tok word k) : (tok = 119 ∧ word = p) ↔ k = 4 + i := by
  constructor
  · rintro ⟨h1, h2⟩
    have hw := M.w (tIe h1)
    rw [h2] at hw
    rcases h with h | h | h
    · have := hw.2.1.mp h.1
      omega
    · have := hw.2.2.1.mp h.1
      omega
    · have := hw.2.2.2.1.mp h.1
      omega
  · intro hk
    have e0 : tok.toInt = 119 := M.d.2.2.2.2.2.2.2.2.2.2.mpr (by rcases h with h | h | h <;> omega)
    have hw := M.w e0
    refine ⟨i_ext e0, i_ext ?_⟩
    rcases h with h | h | h
    · have := hw.2.1.mpr (by omega)
      omega
    · have := hw.2.2.1.mpr (by omega)
      omega
    · have := hw.2.2.2.1.mpr (by omega)
      omega
theorem mt_takes {Γ : Gx} {d : Nat} (hd : 3 ≤ d) (hG : GM Γ) {p1 : Int32} {w : Wd} {g : Nat → Int} {n p : Nat} (h7 : (w 0 7).toInt = n) (hn : n ≤ 160) (hg : ∀ j : Nat, j < n → (w 5 j).toInt = g j) (hp : (w 0 15).toInt = p) (hpn : p ≤ n) {Q : Int32 → Wd → Prop} (k0 : ¬ (w 0 16 = 119 ∧ w 0 18 = p1) → Q 0 w) (k : (w 0 16 = 119 ∧ w 0 18 = p1) → ∀ (u : Wd) (st en : Nat) (kk : Int), NK w u → LX u → (u 0 14).toInt = st → (u 0 15).toInt = en → Tok g n p st en kk → MK (u 0 16) (u 0 18) kk → Q 1 u) : CI Γ d M_X5_takes [.ref (gad Γ 0), .int p1] w Q := by
  obtain ⟨d, rfl⟩ : ∃ e, d = e + 1 := ⟨d - 1, by omega⟩
  refine con_X5_takes hG ?_
  unfold wp_X5_takes
  exact ⟨fun h => k0 (fun q => h q.1), fun h => ⟨fun h2 => mt_next (by omega) hG h7 hn hg hp hpn (k ⟨h, h2⟩), fun h2 => k0 (fun q => h2 q.2)⟩⟩
set_option maxRecDepth 20000 in
set_option maxHeartbeats 4000000 in
theorem mt_part {Γ : Gx} {d : Nat} (hd : 7 ≤ d) (hG : GM Γ) {p1 p2 : Int32} {w : Wd} {c0 : Int} (h0 : 0 ≤ c0 ∧ c0 ≤ 2600) (hp : 0 ≤ p1.toInt ∧ p1.toInt ≤ 17) (X : LX w) (hc : c0 ≤ (w 0 13).toInt ∧ (w 0 13).toInt ≤ c0 + (w 0 14).toInt) {g : Nat → Int} {N : Nat} (h7 : (w 0 7).toInt = N) (hN : N ≤ 160) (hgg : ∀ j : Nat, j < N → (w 5 j).toInt = g j) {st0 en0 ps : Nat} {kk0 : Int} (T0 : TK g N ps st0 en0 kk0 w) {ki : Int} (hki : keyI p2 ki) {o : OC} (hO : PartO g N ps ki o) {Q : Int32 → Wd → Prop} (k : ∀ (r : Int32) (w' : Wd), (¬ r = 0 → LX w' ∧ (w' 0 13).toInt ≤ c0 + (w' 0 14).toInt ∧ PT w w' p1.toNatClampNeg) → TB p1.toNatClampNeg (w 0 13).toInt.toNat w w' → ((r = 0 ∧ ∃ s : Nat, o = (false, s) ∧ (w' 0 14).toInt = s) ∨ (¬ r = 0 ∧ ∃ (e s2 e2 : Nat) (k2 : Int), o = (true, e) ∧ TK g N e s2 e2 k2 w')) → Q r w') : CI Γ d M_X5_part [.ref (gad Γ 0), .int p1, .int p2] w Q := by
  obtain ⟨d, rfl⟩ : ∃ e, d = e + 1 := ⟨d - 1, by omega⟩
  refine con_X5_part hG ?_
  unfold wp_X5_part
  intro P c
  have hv : vp_in p1 18 := vp_in_iff.mpr (by omega)
  obtain ⟨q, hq⟩ : ∃ q : Nat, q = p1.toNatClampNeg := ⟨_, rfl⟩
  obtain ⟨b, hb⟩ : ∃ b : Nat, b = (w 0 13).toInt.toNat := ⟨_, rfl⟩
  rw [← hq, ← hb] at k
  rw [← hq]
  have k0 : ∀ (u : Wd) (s : Nat), TB q b w u → o = (false, s) → (u 0 14).toInt = s → Q 0 u := fun u s hu ho hs => k 0 u (fun z => absurd rfl z) hu (Or.inl ⟨rfl, s, ho, hs⟩)
  have sz : ∀ u : Wd, TB q b w u → (u 0 7).toInt = N ∧ ∀ j : Nat, j < N → (u 5 j).toInt = g j := fun u T => ⟨by rw [T.1 7 (by decide) (by decide) (by decide)]; exact h7, fun j hj => by rw [T.2.1 5 (by decide) (by decide) (by decide) (by decide) (by decide)]; exact hgg j hj⟩
  obtain ⟨t01, t02, t03, t04⟩ := T0
  have key : ∀ (st en : Nat) (kk : Int) (σ : PS) (x : OC), PFin g N st en kk σ x → x = o → ∀ u : Wd, LX u → GS b (c0 + (u 0 14).toInt) u → (u 6 q).toInt = b → TB q b w u → (u 0 14).toInt = st → (u 0 15).toInt = en → MK (u 0 16) (u 0 18) kk → MP u σ.1 σ.2.1 σ.2.2.1 σ.2.2.2 → P u := by
    intro st en kk σ x hF
    refine hF (fun st en kk σ x => x = o → ∀ u : Wd, LX u → GS b (c0 + (u 0 14).toInt) u → (u 6 q).toInt = b → TB q b w u → (u 0 14).toInt = st → (u 0 15).toInt = en → MK (u 0 16) (u 0 18) kk → MP u σ.1 σ.2.1 σ.2.2.1 σ.2.2.2 → P u) ?_
    clear hF
    intro st en kk σ x hR hx u X G e6 T u14 u15 M hP
    subst hx
    obtain ⟨x1, x2, x3, x4, x5, x6⟩ := X
    obtain ⟨su, gu⟩ := sz u T
    have x6' : u 0 16 = 48 → 0 ≤ (u 0 17).toInt ∧ (u 0 17).toInt ≤ 9999 := fun z => x6 (by rw [z]; rfl)
    have d59 := M.d.2.2.2.2.2.1
    have hb23 := hP.2.1
    have go : ¬ (σ.2.1 = true ∧ kk = 59) → CI Γ d M_X5_goesOn [.ref (gad Γ 0)] u (fun r18 w19 => ((¬ r18 = 0 → CV Γ d M_X5_next [.ref (gad Γ 0)] w19 (fun w22 => P w22)) ∧ (r18 = 0 → Q (0 : Int32) w19))) := fun hno => by
      have hR2 : (nx kk σ.1 σ.2.1 σ.2.2.1 σ.2.2.2 = none ∧ x = (false, st)) ∨ ∃ (τ : PS) (s2 e2 : Nat) (k2 : Int), nx kk σ.1 σ.2.1 σ.2.2.1 σ.2.2.2 = some τ ∧ Tok g N en s2 e2 k2 ∧ (x = x → ∀ u : Wd, LX u → GS b (c0 + (u 0 14).toInt) u → (u 6 q).toInt = b → TB q b w u → (u 0 14).toInt = s2 → (u 0 15).toInt = e2 → MK (u 0 16) (u 0 18) k2 → MP u τ.1 τ.2.1 τ.2.2.1 τ.2.2.2 → P u) := by
        rcases hR with hR | hR
        · exact absurd hR.1 hno
        · exact hR.2
      refine mt_goesOn (by omega) hG (lim := c0 + (u 0 14).toInt) (by omega) x6' G M hP (fun r v _ hg Kv hm => ⟨fun hr => ?_, fun hr => ?_⟩)
      · obtain ⟨ht, Gv⟩ := hg hr
        have v14 : v 0 14 = u 0 14 := Kv.1 14 (by decide) (by decide) (by decide) (by decide) (by decide) (by decide)
        have v15 : v 0 15 = u 0 15 := Kv.1 15 (by decide) (by decide) (by decide) (by decide) (by decide) (by decide)
        have v7 : v 0 7 = u 0 7 := Kv.1 7 (by decide) (by decide) (by decide) (by decide) (by decide) (by decide)
        have h5 : (u 0 14).toInt < (u 0 15).toInt := by
          rcases x5 with z | z
          · exact absurd (i_ext (y := 101) z) ht
          · exact z
        obtain ⟨S2, b2, cm2, s2, hn2, hP2⟩ : ∃ (S2 : List Int) (b2 cm2 s2 : Bool), nx kk σ.1 σ.2.1 σ.2.2.1 σ.2.2.2 = some (S2, b2, cm2, s2) ∧ MP v S2 b2 cm2 s2 := by
          rcases hm with hm | hm
          · exact absurd hm.1 hr
          · exact hm.2
        rcases hR2 with hR2 | ⟨τ, sa, ea, ka, hn3, tk3, hG3⟩
        · rw [hR2.1] at hn2
          cases hn2
        · obtain rfl : τ = (S2, b2, cm2, s2) := by
            rw [hn3] at hn2
            exact Option.some.inj hn2
          have Tv := T.trans (TB.kp Kv)
          obtain ⟨sv, gv⟩ := sz v Tv
          refine mt_next (by omega) hG sv hN gv (p := en) (by rw [v15]; exact u15) (by omega) (fun y sb eb kb Ny Xy y14 y15 tky My => ?_)
          obtain ⟨q1, q2, q3⟩ := tky.uniq tk3
          have wf := tky.wf
          subst q1
          subst q2
          subst q3
          refine hG3 rfl y Xy ((Gv.congr Ny).lim (by omega)) ?_ (Tv.trans (TB.nk Ny)) y14 y15 My ?_
          · rw [Ny.1 6 (by decide), Kv.2.1 6 (by decide) (by decide) (by decide)]
            exact e6
          · obtain ⟨p1', p2', p3', p4'⟩ := hP2
            refine ⟨p1'.congr (Ny.2 20 (by decide)) (Ny.2 21 (by decide)) (Ny.1 9 (by decide)), ?_, ?_, ?_⟩
            · rw [Ny.2 23 (by decide)]
              exact p2'
            · rw [Ny.2 22 (by decide)]
              exact p3'
            · rw [Ny.2 24 (by decide)]
              exact p4'
      · have hnone : nx kk σ.1 σ.2.1 σ.2.2.1 σ.2.2.2 = none := by
          rcases hm with hm | hm
          · exact hm.2
          · exact absurd hr hm.1
        rcases hR2 with hR2 | ⟨τ, sa, ea, ka, hn3, _⟩
        · have v14 : v 0 14 = u 0 14 := Kv.1 14 (by decide) (by decide) (by decide) (by decide) (by decide) (by decide)
          subst hr
          exact k0 v st (T.trans (TB.kp Kv)) hR2.2 (by rw [v14]; exact u14)
        · rw [hnone] at hn3
          cases hn3
    refine c u ⟨fun h0 => go (fun z => ?_), fun hbh => ⟨fun h59 => ?_, fun h59 => go (fun z => h59 (i_ext (d59.mpr z.2)))⟩⟩
    · have := hb23.f h0
      rw [this] at z
      exact absurd z.1 (by decide)
    have hb1 := hb23.t hbh
    have hk59 : kk = 59 := d59.mp (tIe h59)
    have hR2 : (lay 1 σ.1 = [] ∧ x = (true, en)) ∨ (¬ lay 1 σ.1 = [] ∧ x = (false, st)) := by
      rcases hR with hR | hR
      · exact hR.2
      · exact absurd ⟨hb1, hk59⟩ hR.1
    refine mt_lays (by omega) hG (lim := c0 + (u 0 14).toInt) (by omega) (by decide) (G.2 hbh) hP.1 (fun v Rv Kv Lv Sv => ⟨fun ht => ⟨hv, fun y ey => ?_⟩, fun ht => ?_⟩)
    · rw [← hq] at ey
      simp only [Int32.le_iff_toInt_le, Int32.reduceToInt] at ht
      have hl : lay 1 σ.1 = [] := Sv.nil.mp ht
      have hx : x = (true, en) := by
        rcases hR2 with z | z
        · exact z.2
        · exact absurd hl z.1
      obtain ⟨r1, r2, r3, r4, r5, r6⟩ := Rv
      have v15 : v 0 15 = u 0 15 := Kv.1 15 (by decide) (by decide) (by decide) (by decide) (by decide) (by decide)
      have v7 : v 0 7 = u 0 7 := Kv.1 7 (by decide) (by decide) (by decide) (by decide) (by decide) (by decide)
      have v6 : (v 6 q).toInt = b := by
        rw [Kv.2.1 6 (by decide) (by decide) (by decide)]
        exact e6
      have es := i_sub (x := v 0 13) (y := v 6 q) (by omega) (by omega)
      have y0 : ∀ s : Nat, y 0 s = v 0 s := fun s => by rw [ey, ws_col (by decide)]
      have Ty : TB q b w y := (T.trans (TB.kp Kv)).trans (ey ▸ TB.p67 (Or.inr rfl) (Nat.le_refl q))
      obtain ⟨sy, gy⟩ := sz y Ty
      refine mt_next (by omega) hG sy hN gy (p := en) (by rw [y0, v15]; exact u15) (by omega) (fun z sb eb kb Nz Xz z14 z15 tkz Mz => ?_)
      have wf := tkz.wf
      have z13 : z 0 13 = v 0 13 := (Nz.2 13 (by decide)).trans (y0 13)
      have z8 : z 8 = v 8 := by rw [Nz.1 8 (by decide), ey, wset_off _ _ _ _ _ (by decide)]
      have z6 : z 6 q = v 6 q := by rw [Nz.1 6 (by decide), ey, ws_col (by decide)]
      have z7 : z 7 q = v 0 13 - v 6 q := by rw [Nz.1 7 (by decide), ey, ws_hit]
      refine k 1 z (fun _ => ⟨Xz, by rw [z13]; omega, ?_, ?_, ?_, ?_⟩) (Ty.trans (TB.nk Nz)) (Or.inr ⟨by decide, en, sb, eb, kb, hx, tkz, z14, z15, Mz⟩)
      · rw [z6]
        omega
      · rw [z13]
        omega
      · rw [z7, z13]
        omega
      · rw [z8, z13, ← hb]
        exact r5
    · have hl : ¬ lay 1 σ.1 = [] := fun z => ht (by
        have := Sv.nil.mpr z
        rw [Int32.le_iff_toInt_le]
        exact this)
      have hx : x = (false, st) := by
        rcases hR2 with z | z
        · exact absurd z.1 hl
        · exact z.2
      have v14 : v 0 14 = u 0 14 := Kv.1 14 (by decide) (by decide) (by decide) (by decide) (by decide) (by decide)
      exact k0 v st (T.trans (TB.kp Kv)) hx (by rw [v14]; exact u14)
  obtain ⟨pst, pen, pk, ptk, pO⟩ := hO
  obtain ⟨q1, q2, q3⟩ := ptk.uniq t01
  subst q1
  subst q2
  subst q3
  have hkey := hki.iff t04
  refine mt_takes (by omega) hG h7 hN hgg t03 (by have := ptk.wf; omega) (fun hno => ⟨fun z => absurd rfl z, fun _ => ?_⟩) (fun hyes w2 sb eb kb N2 X2 w14 w15' tk2 M2 => ⟨fun _ => ⟨hv, fun w5 e5 w7 e7 w9 e9 w11 e11 w13 e13 w15 e15 => ?_⟩, fun z => absurd z (by decide)⟩)
  · rcases pO with pO | pO
    · exact k0 w pst TB.rfl pO.2 t02
    · exact absurd (hkey.mpr pO.1) hno
  have hf2 : (w 0 14).toInt ≤ (w2 0 14).toInt := by
    have a := ptk.wf
    have b := tk2.wf
    omega
  obtain ⟨s2, e2, k2, tkO, hPF⟩ : ∃ (s2 e2 : Nat) (k2 : Int), Tok g N pen s2 e2 k2 ∧ PFin g N s2 e2 k2 ([], false, false, true) o := by
    rcases pO with pO | pO
    · exact absurd (hkey.mp hyes) pO.1
    · exact pO.2
  obtain ⟨q1, q2, q3⟩ := tk2.uniq tkO
  subst q1
  subst q2
  subst q3
  have c13 : w2 0 13 = w 0 13 := N2.2 13 (by decide)
  have s5 : ∀ s : Nat, w5 0 s = w2 0 s := fun s => by rw [e5, ws_col (by decide)]
  have s15 : ∀ s : Nat, s ≠ 20 → s ≠ 21 → s ≠ 22 → s ≠ 23 → s ≠ 24 → w15 0 s = w2 0 s := fun s a1 a2 a3 a4 a5 => by rw [e15, ws_row a5, e13, ws_row a4, e11, ws_row a3, e9, ws_row a2, e7, ws_row a1, s5]
  have t20 : (w15 0 20).toInt = 0 := by rw [e15, ws_row (by decide), e13, ws_row (by decide), e11, ws_row (by decide), e9, ws_row (by decide), e7, ws_hit]; rfl
  have t23 : w15 0 23 = 0 := by rw [e15, ws_row (by decide), e13, ws_hit]
  have cl : ∀ x : Nat, x ≠ 0 → w15 x = w5 x := fun x hx => by rw [e15, wset_off _ _ _ _ _ hx, e13, wset_off _ _ _ _ _ hx, e11, wset_off _ _ _ _ _ hx, e9, wset_off _ _ _ _ _ hx, e7, wset_off _ _ _ _ _ hx]
  have g13 : w15 0 13 = w 0 13 := (s15 13 (by decide) (by decide) (by decide) (by decide) (by decide)).trans c13
  have g14 : w15 0 14 = w2 0 14 := s15 14 (by decide) (by decide) (by decide) (by decide) (by decide)
  have X15 : LX w15 := by
    unfold LX at *
    rw [g14, s15 15 (by decide) (by decide) (by decide) (by decide) (by decide), s15 16 (by decide) (by decide) (by decide) (by decide) (by decide), s15 17 (by decide) (by decide) (by decide) (by decide) (by decide), s15 7 (by decide) (by decide) (by decide) (by decide) (by decide)]
    exact X2
  have R15 : RS b (c0 + (w15 0 14).toInt) 0 w15 := by
    unfold RS
    rw [g13, t20, g14]
    have en : (w 0 13).toInt.toNat - b = 0 := by omega
    rw [en]
    exact ⟨by omega, by omega, by omega, fun j hj => by omega, fun j hj => by omega, rfl⟩
  have e6 : (w15 6 q).toInt = b := by
    rw [cl 6 (by decide), e5, ws_hit, c13]
    omega
  have T15 : TB q b w w15 := by
    refine (TB.nk N2).trans ((e5 ▸ TB.p67 (Or.inl rfl) (Nat.le_refl q) : TB q b w2 w5).trans ⟨fun s a1 a2 a3 => ?_, fun x a1 _ _ _ _ => cl x a1, fun j _ => ⟨by rw [cl 6 (by decide)], by rw [cl 7 (by decide)]⟩, fun j _ => by rw [cl 8 (by decide)]⟩)
    rw [s5]
    exact s15 s (by omega) (by omega) (by omega) (by omega) (by omega)
  have m16 : w15 0 16 = w2 0 16 := s15 16 (by decide) (by decide) (by decide) (by decide) (by decide)
  have m18 : w15 0 18 = w2 0 18 := s15 18 (by decide) (by decide) (by decide) (by decide) (by decide)
  have m15 : w15 0 15 = w2 0 15 := s15 15 (by decide) (by decide) (by decide) (by decide) (by decide)
  refine key _ _ _ _ _ hPF rfl w15 X15 ⟨fun _ => R15, fun z => absurd t23 z⟩ e6 T15 (by rw [g14]; exact w14) (by rw [m15]; exact w15') (by rw [m16, m18]; exact M2) ⟨⟨?_, ?_⟩, ?_, ?_, ?_⟩
  · have t20n : (w15 0 20).toInt.toNat = 0 := by omega
    rw [t20n]
    rfl
  · rw [e15, ws_row (by decide), e13, ws_row (by decide), e11, ws_row (by decide), e9, ws_hit]
    rfl
  · rw [t23]
    exact bo_0
  · rw [e15, ws_row (by decide), e13, ws_row (by decide), e11, ws_hit]
    exact bo_0
  · rw [e15, ws_hit]
    exact bo_1
