/-! the model's lexer, exactly -/
def hq (f : Nat → Int) : Nat → Int
  | 0 => 0
  | m + 1 => 27 * hq f m + (f m - 96)
theorem hq_nn {f : Nat → Int} : ∀ m : Nat, (∀ j : Nat, j < m → ltr (f j)) → 0 ≤ hq f m
  | 0, _ => Int.le_refl 0
  | m + 1, h => by
    have i := hq_nn m (fun j hj => h j (by omega))
    have l := h m (by omega)
    unfold ltr at l
    show 0 ≤ 27 * hq f m + (f m - 96)
    omega
theorem hq_congr {f g : Nat → Int} : ∀ m : Nat, (∀ j : Nat, j < m → f j = g j) → hq f m = hq g m
  | 0, _ => rfl
  | m + 1, h => by
    show 27 * hq f m + (f m - 96) = 27 * hq g m + (g m - 96)
    rw [hq_congr m (fun j hj => h j (by omega)), h m (by omega)]
theorem hq_inj {f g : Nat → Int} : ∀ m n : Nat, (∀ j : Nat, j < m → ltr (f j)) → (∀ j : Nat, j < n → ltr (g j)) → hq f m = hq g n → m = n ∧ ∀ j : Nat, j < m → f j = g j
  | 0, 0, _, _, _ => ⟨rfl, fun j hj => absurd hj (Nat.not_lt_zero _)⟩
  | 0, n + 1, _, h2, e => by
    have i := hq_nn n (fun j hj => h2 j (by omega))
    have l := h2 n (by omega)
    unfold ltr at l
    have e2 : (0 : Int) = 27 * hq g n + (g n - 96) := e
    omega
  | m + 1, 0, h1, _, e => by
    have i := hq_nn m (fun j hj => h1 j (by omega))
    have l := h1 m (by omega)
    unfold ltr at l
    have e2 : 27 * hq f m + (f m - 96) = (0 : Int) := e
    omega
  | m + 1, n + 1, h1, h2, e => by
    have l1 := h1 m (by omega)
    have l2 := h2 n (by omega)
    unfold ltr at l1 l2
    have e2 : 27 * hq f m + (f m - 96) = 27 * hq g n + (g n - 96) := e
    obtain ⟨a, b⟩ := hq_inj m n (fun j hj => h1 j (by omega)) (fun j hj => h2 j (by omega)) (by omega)
    subst a
    refine ⟨rfl, fun j hj => ?_⟩
    by_cases hjm : j = m
    · rw [hjm]
      omega
    · exact b j (by omega)
theorem hq_b {f : Nat → Int} {m : Nat} (h : ∀ j : Nat, j < m → ltr (f j)) (hm : m ≤ 5) : 0 ≤ hq f m ∧ hq f m ≤ 14348906 := by
  refine ⟨hq_nn m h, ?_⟩
  have z : hq f 0 = 0 := rfl
  have s : ∀ j i : Nat, j < m → i = j + 1 → hq f i ≤ 27 * hq f j + 26 := fun j i hj hi => by
    subst hi
    have l := h j hj
    unfold ltr at l
    show 27 * hq f j + (f j - 96) ≤ _
    omega
  rcases (show m = 0 ∨ m = 1 ∨ m = 2 ∨ m = 3 ∨ m = 4 ∨ m = 5 by omega) with rfl | rfl | rfl | rfl | rfl | rfl
  · omega
  · have := s 0 1 (by omega) rfl
    omega
  · have := s 0 1 (by omega) rfl
    have := s 1 2 (by omega) rfl
    omega
  · have := s 0 1 (by omega) rfl
    have := s 1 2 (by omega) rfl
    have := s 2 3 (by omega) rfl
    omega
  · have := s 0 1 (by omega) rfl
    have := s 1 2 (by omega) rfl
    have := s 2 3 (by omega) rfl
    have := s 3 4 (by omega) rfl
    omega
  · have := s 0 1 (by omega) rfl
    have := s 1 2 (by omega) rfl
    have := s 2 3 (by omega) rfl
    have := s 3 4 (by omega) rfl
    have := s 4 5 (by omega) rfl
    omega
def codeW (i : Nat) : Int := ([6415353, 267223, 212302449, 291335149, 131638, 555, 74917, 3291049, 10206127, 423, 1111, 10631] : List Int).getD i 0
theorem codeW_eq : ∀ i : Nat, i < 12 → codeW i = hq (fun j => (wdl i).getD j 0) (wdl i).length ∧ (wdl i).length ≤ 6 ∧ 0 < codeW i := by decide +kernel
theorem wdl_ltr : ∀ i : Nat, i < 12 → ∀ j : Nat, j < (wdl i).length → 97 ≤ (wdl i).getD j 0 ∧ (wdl i).getD j 0 ≤ 122 := by decide +kernel
theorem codeW_ne : ∀ i : Nat, i < 12 → ∀ j : Nat, j < 12 → ¬ j = i → ¬ codeW j = codeW i := by decide +kernel
/-- the model's word, of the letters from st to en -/
def wordOf (g : Nat → Int) (st en : Nat) (x : Int) : Prop := (en ≤ st + 6 ∧ x = hq (fun j => g (st + j)) (en - st)) ∨ (st + 6 < en ∧ x = -1)
theorem isW_code {g : Nat → Int} {n st en : Nat} {x : Int} (hr : rowOf ltr g n st en) (hx : wordOf g st en x) {i : Nat} (hi : i < 12) : isW g st en i = true ↔ x = codeW i := by
  obtain ⟨r1, r2, r3, r4⟩ := hr
  obtain ⟨c1, c2, c3⟩ := codeW_eq i hi
  have lt1 : ∀ j : Nat, j < en - st → ltr ((fun j => g (st + j)) j) := fun j hj => r3 (st + j) (by omega) (by omega)
  rw [isW_iff]
  constructor
  · rintro ⟨h1, h2⟩
    rcases hx with ⟨q1, q2⟩ | ⟨q1, q2⟩
    · rw [q2, c1, show en - st = (wdl i).length by omega]
      exact hq_congr _ (fun j hj => (h2 j hj).2)
    · omega
  · intro e
    rcases hx with ⟨q1, q2⟩ | ⟨q1, q2⟩
    · have e2 : hq (fun j => g (st + j)) (en - st) = hq (fun j => (wdl i).getD j 0) (wdl i).length := by rw [← q2, e, c1]
      obtain ⟨a, b⟩ := hq_inj _ _ lt1 (fun j hj => wdl_ltr i hi j hj) e2
      exact ⟨by omega, fun j hj => ⟨by omega, b j (by omega)⟩⟩
    · omega
theorem wk_code {g : Nat → Int} {n st en : Nat} {x : Int} (hr : rowOf ltr g n st en) (hx : wordOf g st en x) {i : Nat} (hi : i < 12) (h : x = codeW i) : wkA (isW g st en) = wkd i := by
  refine wkA_some hi ((isW_code hr hx hi).mpr h) (fun j hj => ?_)
  cases e : isW g st en j with
  | false => rfl
  | true =>
    have := (isW_code hr hx (by omega)).mp e
    exact absurd (this.symm.trans h) (codeW_ne i hi j (by omega) (by omega))
theorem wk_none {g : Nat → Int} {n st en : Nat} {x : Int} (hr : rowOf ltr g n st en) (hx : wordOf g st en x) (h : ∀ i : Nat, i < 12 → ¬ x = codeW i) : wkA (isW g st en) = 1 := by
  refine wkA_none (fun j hj => ?_)
  cases e : isW g st en j with
  | false => rfl
  | true => exact absurd ((isW_code hr hx hj).mp e) (h j hj)
/-- the model's token and word, as a kind -/
def nameW (x : Int) : Prop := x = 6415353 ∨ x = 267223 ∨ x = 212302449 ∨ x = 291335149 ∨ x = 131638 ∨ x = 555
def MK (tok word : Int32) (k : Int) : Prop := (k = 0 ∧ tok.toInt = 101) ∨ (k = 1 ∧ tok.toInt = 120) ∨ (k = 2 ∧ tok.toInt = 48) ∨ (tok.toInt = 119 ∧ ((k = 3 ∧ nameW word.toInt) ∨ (k = 4 ∧ word.toInt = 74917) ∨ (k = 5 ∧ word.toInt = 3291049) ∨ (k = 6 ∧ word.toInt = 10206127) ∨ (k = 7 ∧ word.toInt = 423) ∨ (k = 8 ∧ word.toInt = 1111) ∨ (k = 9 ∧ word.toInt = 10631))) ∨ (sg8 k ∧ tok.toInt = k)
def vOK (l v : Int) : Prop := 0 ≤ v ∧ (l ≤ 0 → v ≤ 0) ∧ (l ≤ 1 → v ≤ 9) ∧ (l ≤ 2 → v ≤ 99) ∧ (l ≤ 3 → v ≤ 999) ∧ v ≤ 9999
def MS (w : Wd) (st q : Nat) (u : Wd) : Prop := NK w u ∧ (u 0 14).toInt = st ∧ (u 0 15).toInt = q
theorem MS.set {w u : Wd} {st q s : Nat} {v : Int32} (h : MS w st q u) (hs : 16 ≤ s ∧ s ≤ 18) : MS w st q (wset u 0 s v) := ⟨NK.set (by omega) h.1, by rw [ws_row (by omega)]; exact h.2.1, by rw [ws_row (by omega)]; exact h.2.2⟩
theorem MS.on {w u : Wd} {st q : Nat} (h : MS w st q u) (hq : q < 1000) : MS w st (q + 1) (wset u 0 15 (u 0 15 + 1)) := by
  have n1 : (1 : Int32).toInt = 1 := rfl
  have h2 := h.2.2
  have e := i_add (x := u 0 15) (y := 1) (by omega) (by omega)
  exact ⟨NK.set (by omega) h.1, by rw [ws_row (by decide)]; exact h.2.1, by rw [ws_hit]; omega⟩
set_option maxRecDepth 20000 in
set_option maxHeartbeats 4000000 in
theorem mt_next {Γ : Gx} {d : Nat} (hd : 2 ≤ d) (hG : GM Γ) {w : Wd} {g : Nat → Int} {n p : Nat} (h7 : (w 0 7).toInt = n) (hn : n ≤ 160) (hg : ∀ j : Nat, j < n → (w 5 j).toInt = g j) (hp : (w 0 15).toInt = p) (hpn : p ≤ n) {Q : Wd → Prop} (k : ∀ (u : Wd) (st en : Nat) (kk : Int), NK w u → LX u → (u 0 14).toInt = st → (u 0 15).toInt = en → Tok g n p st en kk → MK (u 0 16) (u 0 18) kk → Q u) : CV Γ d M_X5_next [.ref (gad Γ 0)] w Q := by
  obtain ⟨d, rfl⟩ : ∃ e, d = e + 1 := ⟨d - 1, by omega⟩
  refine con_X5_next hG ?_
  unfold wp_X5_next
  intro P8 P60 P108 P204 P245 P321 c8 c60 c108 c204 c245 c321
  have n1 : (1 : Int32).toInt = 1 := rfl
  have at5 : ∀ (u : Wd) (x : Int32) (q : Nat), NK w u → x.toInt = q → q < n → (u 5 x.toNatClampNeg).toInt = g q := fun u x q i hx hq => by
    have e : x.toNatClampNeg = q := by
      have := tn_eq (x := x) (by omega)
      omega
    rw [i.1 5 (by decide), e]
    exact hg q hq
  have sz : ∀ u : Wd, NK w u → (u 0 7).toInt = n := fun u i => by
    rw [i.2 7 (by decide)]
    exact h7
  have lx : ∀ (u : Wd) (st en : Nat), MS w st en u → st ≤ en → en ≤ n → ((u 0 16).toInt = 101 ∨ st < en) → ((u 0 16).toInt = 48 → 0 ≤ (u 0 17).toInt ∧ (u 0 17).toInt ≤ 9999) → LX u := fun u st en h a b c e => by
    have s := sz u h.1
    have h1 := h.2.1
    have h2 := h.2.2
    exact ⟨by omega, by omega, by omega, by omega, by omega, e⟩
  have fin : ∀ st : Nat, p ≤ st → st < n → (∀ j : Nat, p ≤ j → j < st → blk (g j)) → ¬ blk (g st) → ∀ (u : Wd) (en : Nat) (kk : Int), MS w st en u → tkAt g n st en kk → MK (u 0 16) (u 0 18) kk → ((u 0 16).toInt = 48 → 0 ≤ (u 0 17).toInt ∧ (u 0 17).toInt ≤ 9999) → Q u := fun st h1 h2 h3 h4 u en kk M tk mk hv => by
    have wf := tk.st h2
    exact k u st en kk M.1 (lx u st en M (by omega) wf.2.1 (Or.inr wf.1) hv) M.2.1 M.2.2 ⟨h1, by omega, h3, fun _ => h4, Or.inr ⟨h2, tk⟩⟩ mk
  have p204 : ∀ st : Nat, p ≤ st → st < n → (∀ j : Nat, p ≤ j → j < st → blk (g j)) → ¬ blk (g st) → ltr (g st) → ∀ (u : Wd) (q : Nat), MS w st q u → rowOf ltr g n st q → wordOf g st q (u 0 18).toInt → P204 u := fun st h1 h2 h3 h4 hl u q M hr hw => by
    refine c204 u ?_
    obtain ⟨d, rfl⟩ : ∃ e, d = e + 1 := ⟨d - 1, by omega⟩
    have setT : ∀ (v : Int32) (kk : Int), kk = wkA (isW g st q) → MK v (u 0 18) kk → ¬ v.toInt = 48 → ∀ x : Wd, x = wset u 0 16 v → Q x := fun v kk hk mk hv x ex => by
      have e16 : x 0 16 = v := by rw [ex, ws_hit]
      have e18 : x 0 18 = u 0 18 := by rw [ex, ws_row (by decide)]
      have Mx : MS w st q x := by
        rw [ex]
        exact M.set (by omega)
      refine fin st h1 h2 h3 h4 x q kk Mx (Or.inl ⟨hl, hr, hk⟩) ?_ ?_
      · rw [e16, e18]
        exact mk
      · rw [e16]
        exact fun z => absurd z hv
    have key : ∀ (i : Nat), i < 12 → (u 0 18).toInt = codeW i → ∀ x : Wd, x = wset u 0 16 (119 : Int32) → Q x := fun i hi hc => by
      have hk := wk_code hr hw hi hc
      refine setT 119 (wkd i) hk.symm ?_ (by decide)
      refine Or.inr (Or.inr (Or.inr (Or.inl ⟨rfl, ?_⟩)))
      rw [hc]
      rcases (show i = 0 ∨ i = 1 ∨ i = 2 ∨ i = 3 ∨ i = 4 ∨ i = 5 ∨ i = 6 ∨ i = 7 ∨ i = 8 ∨ i = 9 ∨ i = 10 ∨ i = 11 by omega) with rfl | rfl | rfl | rfl | rfl | rfl | rfl | rfl | rfl | rfl | rfl | rfl
      · exact Or.inl ⟨rfl, Or.inl rfl⟩
      · exact Or.inl ⟨rfl, Or.inr (Or.inl rfl)⟩
      · exact Or.inl ⟨rfl, Or.inr (Or.inr (Or.inl rfl))⟩
      · exact Or.inl ⟨rfl, Or.inr (Or.inr (Or.inr (Or.inl rfl)))⟩
      · exact Or.inl ⟨rfl, Or.inr (Or.inr (Or.inr (Or.inr (Or.inl rfl))))⟩
      · exact Or.inl ⟨rfl, Or.inr (Or.inr (Or.inr (Or.inr (Or.inr rfl))))⟩
      · exact Or.inr (Or.inl ⟨rfl, rfl⟩)
      · exact Or.inr (Or.inr (Or.inl ⟨rfl, rfl⟩))
      · exact Or.inr (Or.inr (Or.inr (Or.inl ⟨rfl, rfl⟩)))
      · exact Or.inr (Or.inr (Or.inr (Or.inr (Or.inl ⟨rfl, rfl⟩))))
      · exact Or.inr (Or.inr (Or.inr (Or.inr (Or.inr (Or.inl ⟨rfl, rfl⟩)))))
      · exact Or.inr (Or.inr (Or.inr (Or.inr (Or.inr (Or.inr ⟨rfl, rfl⟩)))))
    have nm : ∀ (r : Int32) (i : Nat), i < 6 → ¬ r = -1 → (u 0 18).toInt = codeW i → ((¬ r = (-1 : Int32) → (∀ w58 : Wd, w58 = wset u 0 16 (119 : Int32) → Q w58)) ∧ (r = (-1 : Int32) → CI Γ (d + 1) M_X5_isKey [.ref (gad Γ 0)] u (fun r60 w61 => ((¬ r60 = 0 → (∀ w63 : Wd, w63 = wset w61 0 16 (119 : Int32) → Q w63)) ∧ (r60 = 0 → (∀ w65 : Wd, w65 = wset w61 0 16 (120 : Int32) → Q w65)))))) := fun r i hi hr hc => ⟨fun _ => key i (by omega) hc, fun q => absurd q hr⟩
    have tI : ∀ {x : Int32} {c : Int32}, x = c → x.toInt = c.toInt := fun h => by rw [h]
    have tN : ∀ {x : Int32} {c : Int32}, ¬ x = c → ¬ x.toInt = c.toInt := fun h q => h (i_ext q)
    refine con_X5_named hG ?_
    unfold wp_X5_named
    refine ⟨fun h => nm 0 0 (by decide) (by decide) (tI h), fun h => nm 1 1 (by decide) (by decide) (tI h), fun h => nm 2 2 (by decide) (by decide) (tI h), fun h => nm 3 3 (by decide) (by decide) (tI h), fun h => nm 4 4 (by decide) (by decide) (tI h), fun h => nm 5 5 (by decide) (by decide) (tI h), fun h => ⟨fun q => absurd rfl q, fun _ => con_X5_isKey hG ?_⟩⟩
    unfold wp_X5_isKey
    refine ⟨fun h2 => ⟨fun _ => ?_, fun q => absurd q (by decide)⟩, fun h2 => ⟨fun q => absurd rfl q, fun _ => ?_⟩⟩
    · rcases h2 with h2 | h2 | h2 | h2 | h2 | h2
      · exact key 9 (by decide) (tI h2)
      · exact key 10 (by decide) (tI h2)
      · exact key 11 (by decide) (tI h2)
      · exact key 6 (by decide) (tI h2)
      · exact key 7 (by decide) (tI h2)
      · exact key 8 (by decide) (tI h2)
    · have hno := wk_none hr hw (fun i hi => by
        rcases (show i = 0 ∨ i = 1 ∨ i = 2 ∨ i = 3 ∨ i = 4 ∨ i = 5 ∨ i = 6 ∨ i = 7 ∨ i = 8 ∨ i = 9 ∨ i = 10 ∨ i = 11 by omega) with rfl | rfl | rfl | rfl | rfl | rfl | rfl | rfl | rfl | rfl | rfl | rfl
        · exact tN h.2.2.2.1
        · exact tN h.2.2.1
        · exact tN h.2.2.2.2.1
        · exact tN h.2.2.2.2.2
        · exact tN h.2.1
        · exact tN h.1
        · exact tN h2.2.2.2.1
        · exact tN h2.2.2.2.2.1
        · exact tN h2.2.2.2.2.2
        · exact tN h2.1
        · exact tN h2.2.1
        · exact tN h2.2.2.1)
      exact setT 120 1 hno.symm (Or.inr (Or.inl ⟨rfl, rfl⟩)) (by decide)
  have p108 : ∀ st : Nat, p ≤ st → st < n → (∀ j : Nat, p ≤ j → j < st → blk (g j)) → ¬ blk (g st) → ltr (g st) → ∀ (m q : Nat) (u : Wd), q + m = n → st ≤ q → MS w st q u → (∀ j : Nat, st ≤ j → j < q → ltr (g j)) → (u 0 18).toInt = hq (fun j => g (st + j)) (if q ≤ st + 6 then q - st else 6) → P108 u := fun st h1 h2 h3 h4 hl => by
    intro m
    have close : ∀ (q : Nat) (u : Wd), MS w st q u → rowOf ltr g n st q → (u 0 18).toInt = hq (fun j => g (st + j)) (if q ≤ st + 6 then q - st else 6) → ((((u 0 15) - (u 0 14)) ≤ (6 : Int32) → P204 u) ∧ (¬ ((u 0 15) - (u 0 14)) ≤ (6 : Int32) → (∀ w38 : Wd, w38 = wset u 0 18 (-1 : Int32) → P204 w38))) := fun q u M hr hw => by
      have n6 : (6 : Int32).toInt = 6 := rfl
      have m1 := M.2.1
      have m2 := M.2.2
      have r1 := hr.1
      have r2 := hr.2.1
      have es := i_sub (x := u 0 15) (y := u 0 14) (by omega) (by omega)
      refine ⟨fun h => ?_, fun h v ev => ?_⟩
      · rw [Int32.le_iff_toInt_le] at h
        refine p204 st h1 h2 h3 h4 hl u q M hr (Or.inl ⟨by omega, ?_⟩)
        rw [hw, if_pos (by omega)]
      · rw [Int32.le_iff_toInt_le] at h
        refine p204 st h1 h2 h3 h4 hl v q (by rw [ev]; exact M.set (by omega)) hr (Or.inr ⟨by omega, ?_⟩)
        rw [ev, ws_hit]
        rfl
    induction m with
    | zero =>
      intro q u hqm hsq M hj hw
      have s := sz u M.1
      have m2 := M.2.2
      refine c108 u ⟨fun _ => close q u M ⟨by omega, by omega, hj, fun h => by omega⟩ hw, fun h => ?_⟩
      rw [Int32.le_iff_toInt_le] at h
      omega
    | succ m ih =>
      intro q u hqm hsq M hj hw
      have s := sz u M.1
      have m1 := M.2.1
      have m2 := M.2.2
      have ea := at5 u (u 0 15) q M.1 m2 (by omega)
      have n6 : (6 : Int32).toInt = 6 := rfl
      have n27 : (27 : Int32).toInt = 27 := rfl
      have n96 : (96 : Int32).toInt = 96 := rfl
      refine c108 u ⟨fun h => ?_, fun h => ⟨vp_in_iff.mpr (by omega), cs_X5_isLetter (by omega) hG (fun r _ y => ⟨fun h0 => ?_, fun h0 => ?_⟩)⟩⟩
      · rw [Int32.le_iff_toInt_le] at h
        omega
      · have hno : ¬ ltr (g q) := fun z => absurd h0 (y.mpr (by unfold ltr at z; omega))
        refine close q u M ⟨?_, by omega, hj, fun _ => hno⟩ hw
        by_cases hs2 : st = q
        · rw [hs2] at hl
          exact absurd hl hno
        · omega
      · have hy := y.mp h0
        have hlq : ltr (g q) := by
          unfold ltr
          omega
        have hj2 : ∀ j : Nat, st ≤ j → j < q + 1 → ltr (g j) := fun j a b => by
          by_cases hjq : j = q
          · rw [hjq]
            exact hlq
          · exact hj j a (by omega)
        have es := i_sub (x := u 0 15) (y := u 0 14) (by omega) (by omega)
        refine ⟨fun h6 v ev => ?_, fun h6 => ⟨vp_in_iff.mpr (by omega), fun v ev x ex => ?_⟩⟩
        · rw [Int32.le_iff_toInt_le] at h6
          subst ev
          refine ih (q + 1) _ (by omega) (by omega) (M.on (by omega)) hj2 ?_
          have hg2 : (if q + 1 ≤ st + 6 then q + 1 - st else 6) = 6 := if_neg (by omega)
          rw [hg2, ws_row (by decide), hw]
          by_cases h66 : q ≤ st + 6
          · rw [if_pos h66, show q - st = 6 by omega]
          · rw [if_neg h66]
        · rw [Int32.le_iff_toInt_le] at h6
          subst ex
          have Mv : MS w st q v := by
            rw [ev]
            exact M.set (by omega)
          refine ih (q + 1) _ (by omega) (by omega) (Mv.on (by omega)) hj2 ?_
          have hb := hq_b (f := fun j => g (st + j)) (m := q - st) (fun j hjj => hj (st + j) (by omega) (by omega)) (by omega)
          rw [if_pos (by omega)] at hw
          have e1 := i_mulL (c := (27 : Int32)) (v := 27) (x := u 0 18) rfl (by omega) (by omega)
          have e2 := i_add (x := (27 : Int32) * u 0 18) (y := u 5 (u 0 15).toNatClampNeg) (by omega) (by omega)
          have e3 := i_sub (x := (27 : Int32) * u 0 18 + u 5 (u 0 15).toNatClampNeg) (y := 96) (by omega) (by omega)
          rw [ws_row (by decide), ev, ws_hit, if_pos (by omega), show q + 1 - st = (q - st) + 1 by omega]
          show _ = 27 * hq (fun j => g (st + j)) (q - st) + (g (st + (q - st)) - 96)
          rw [show st + (q - st) = q by omega]
          omega
  have p321 : ∀ st : Nat, p ≤ st → st < n → (∀ j : Nat, p ≤ j → j < st → blk (g j)) → ¬ blk (g st) → dgt (g st) → ∀ (u : Wd) (q : Nat), MS w st q u → rowOf dgt g n st q → 0 ≤ (u 0 17).toInt ∧ (u 0 17).toInt ≤ 9999 → P321 u := fun st h1 h2 h3 h4 hd u q M hr hv => by
    have n4 : (4 : Int32).toInt = 4 := rfl
    have m1 := M.2.1
    have m2 := M.2.2
    have r1 := hr.1
    have r2 := hr.2.1
    have es := i_sub (x := u 0 15) (y := u 0 14) (by omega) (by omega)
    refine c321 u ⟨fun h x ex => ?_, fun h x ex => ?_⟩
    · rw [Int32.le_iff_toInt_le] at h
      subst ex
      refine fin st h1 h2 h3 h4 _ q 2 (M.set (by omega)) (Or.inr (Or.inl ⟨hd, hr, Or.inl ⟨by omega, rfl⟩⟩)) ?_ ?_
      · rw [ws_hit]
        exact Or.inr (Or.inr (Or.inl ⟨rfl, rfl⟩))
      · intro _
        rw [ws_row (show (17 : Nat) ≠ 16 by decide)]
        exact hv
    · rw [Int32.le_iff_toInt_le] at h
      subst ex
      refine fin st h1 h2 h3 h4 _ q 1 (M.set (by omega)) (Or.inr (Or.inl ⟨hd, hr, Or.inr ⟨by omega, rfl⟩⟩)) ?_ ?_
      · rw [ws_hit]
        exact Or.inr (Or.inl ⟨rfl, rfl⟩)
      · intro _
        rw [ws_row (show (17 : Nat) ≠ 16 by decide)]
        exact hv
  have p245 : ∀ st : Nat, p ≤ st → st < n → (∀ j : Nat, p ≤ j → j < st → blk (g j)) → ¬ blk (g st) → dgt (g st) → ∀ (m q : Nat) (u : Wd), q + m = n → st ≤ q → MS w st q u → (∀ j : Nat, st ≤ j → j < q → dgt (g j)) → vOK ((q : Int) - st) (u 0 17).toInt → P245 u := fun st h1 h2 h3 h4 hd => by
    intro m
    induction m with
    | zero =>
      intro q u hqm hsq M hj hv
      have s := sz u M.1
      have m2 := M.2.2
      refine c245 u ⟨fun _ => p321 st h1 h2 h3 h4 hd u q M ⟨by omega, by omega, hj, fun h => by omega⟩ ⟨hv.1, hv.2.2.2.2.2⟩, fun h => ?_⟩
      rw [Int32.le_iff_toInt_le] at h
      omega
    | succ m ih =>
      intro q u hqm hsq M hj hv
      have s := sz u M.1
      have m1 := M.2.1
      have m2 := M.2.2
      have ea := at5 u (u 0 15) q M.1 m2 (by omega)
      have n4 : (4 : Int32).toInt = 4 := rfl
      have n10 : (10 : Int32).toInt = 10 := rfl
      have n48 : (48 : Int32).toInt = 48 := rfl
      refine c245 u ⟨fun h => ?_, fun h => ⟨vp_in_iff.mpr (by omega), cs_X5_isDigit (by omega) hG (fun r _ y => ⟨fun h0 => ?_, fun h0 => ?_⟩)⟩⟩
      · rw [Int32.le_iff_toInt_le] at h
        omega
      · have hno : ¬ dgt (g q) := fun z => absurd h0 (y.mpr (by unfold dgt at z; omega))
        refine p321 st h1 h2 h3 h4 hd u q M ⟨?_, by omega, hj, fun _ => hno⟩ ⟨hv.1, hv.2.2.2.2.2⟩
        by_cases hs2 : st = q
        · rw [hs2] at hd
          exact absurd hd hno
        · omega
      · have hy := y.mp h0
        have hj2 : ∀ j : Nat, st ≤ j → j < q + 1 → dgt (g j) := fun j a b => by
          by_cases hjq : j = q
          · rw [hjq]
            unfold dgt
            omega
          · exact hj j a (by omega)
        have es := i_sub (x := u 0 15) (y := u 0 14) (by omega) (by omega)
        obtain ⟨v0, v1, v2, v3, v4, v5⟩ := hv
        refine ⟨fun h6 v ev => ?_, fun h6 => ⟨vp_in_iff.mpr (by omega), fun v ev x ex => ?_⟩⟩
        · rw [Int32.le_iff_toInt_le] at h6
          subst ev
          refine ih (q + 1) _ (by omega) (by omega) (M.on (by omega)) hj2 ?_
          rw [ws_row (by decide)]
          exact ⟨v0, by omega, by omega, by omega, by omega, v5⟩
        · rw [Int32.le_iff_toInt_le] at h6
          subst ex
          have Mv : MS w st q v := by
            rw [ev]
            exact M.set (by omega)
          refine ih (q + 1) _ (by omega) (by omega) (Mv.on (by omega)) hj2 ?_
          have e1 := i_mulL (c := (10 : Int32)) (v := 10) (x := u 0 17) rfl (by omega) (by omega)
          have e2 := i_add (x := (10 : Int32) * u 0 17) (y := u 5 (u 0 15).toNatClampNeg) (by omega) (by omega)
          have e3 := i_sub (x := (10 : Int32) * u 0 17 + u 5 (u 0 15).toNatClampNeg) (y := 48) (by omega) (by omega)
          rw [ws_row (by decide), ev, ws_hit]
          exact ⟨by omega, by omega, by omega, by omega, by omega, by omega⟩
  have p60 : ∀ (u : Wd) (st : Nat), NK w u → (u 0 14).toInt = st → p ≤ st → st ≤ n → (∀ j : Nat, p ≤ j → j < st → blk (g j)) → (st < n → ¬ blk (g st)) → P60 u := fun u st i h14 h1 h2 h3 h4 => by
    refine c60 u (fun v ev x ex => ?_)
    have M : MS w st st x := by
      subst ex
      subst ev
      exact ⟨NK.set (by decide) (NK.set (by decide) i), by rw [ws_row (by decide), ws_row (by decide)]; exact h14, by rw [ws_row (by decide), ws_hit]; exact h14⟩
    have x18 : (x 0 18).toInt = 0 := by
      rw [ex, ws_hit]
      rfl
    clear ex ev
    have s := sz x M.1
    have m1 := M.2.1
    have m2 := M.2.2
    refine ⟨fun h => ?_, fun h y ey => ?_⟩
    · have hst : st < n := by
        have : ¬ (x 0 14).toInt = (x 0 7).toInt := fun q => h (i_ext q)
        omega
      have ea := at5 x (x 0 14) st M.1 m1 hst
      have hnb := h4 hst
      refine ⟨vp_in_iff.mpr (by omega), cs_X5_isLetter (by omega) hG (fun r _ y => ⟨fun h0 => cs_X5_isDigit (by omega) hG (fun r2 _ y2 => ⟨fun h02 v ev => ?_, fun h02 v ev => ?_⟩), fun h0 => ?_⟩)⟩
      · have hl : ¬ ltr (g st) := fun z => absurd h0 (y.mpr (by unfold ltr at z; omega))
        have hdg : ¬ dgt (g st) := fun z => absurd h02 (y2.mpr (by unfold dgt at z; omega))
        have Mv : MS w st (st + 1) v := by
          rw [ev]
          exact M.on (by omega)
        obtain ⟨d, rfl⟩ : ∃ e, d = e + 1 := ⟨d - 1, by omega⟩
        refine con_X5_isSign hG ?_
        unfold wp_X5_isSign
        have fin2 : ∀ (z : Int32) (kk : Int), ((sg8 (g st) ∧ kk = g st) ∨ (¬ sg8 (g st) ∧ kk = 1)) → (∀ y : Int32, MK z y kk) → ¬ z.toInt = 48 → ∀ e : Wd, e = wset v 0 16 z → Q e := fun z kk hk mk hz e ee => by
          subst ee
          refine fin st h1 hst h3 hnb _ (st + 1) kk (Mv.set (by omega)) (Or.inr (Or.inr ⟨hl, hdg, rfl, hk⟩)) ?_ ?_
          · rw [ws_hit]
            exact mk _
          · rw [ws_hit]
            exact fun q => absurd q hz
        refine ⟨fun hs => ⟨fun q => absurd q (by decide), fun _ => ?_⟩, fun hs => ⟨fun _ => ?_, fun q => absurd rfl q⟩⟩
        · have hs8 : sg8 (g st) := by
            rw [← ea]
            unfold sg8
            rcases hs with q | q | q | q | q | q | q | q <;> rw [q] <;> decide
          refine fin2 _ (g st) (Or.inl ⟨hs8, rfl⟩) (fun y => Or.inr (Or.inr (Or.inr (Or.inr ⟨hs8, ea⟩)))) ?_
          rw [ea]
          unfold sg8 at hs8
          omega
        · have hs8 : ¬ sg8 (g st) := fun z => by
            rw [← ea] at z
            obtain ⟨a1, a2, a3, a4, a5, a6, a7, a8⟩ := hs
            rcases z with z | z | z | z | z | z | z | z
            · exact a1 (i_ext z)
            · exact a2 (i_ext z)
            · exact a3 (i_ext z)
            · exact a4 (i_ext z)
            · exact a5 (i_ext z)
            · exact a6 (i_ext z)
            · exact a7 (i_ext z)
            · exact a8 (i_ext z)
          exact fin2 120 1 (Or.inr ⟨hs8, rfl⟩) (fun y => Or.inr (Or.inl ⟨rfl, rfl⟩)) (by decide)
      · have hy := y2.mp h02
        have hdg : dgt (g st) := by
          unfold dgt
          omega
        have Mv : MS w st st v := by
          rw [ev]
          exact M.set (by omega)
        refine p245 st h1 hst h3 hnb hdg (n - st) st v (by omega) (Nat.le_refl _) Mv (fun j a b => by omega) ?_
        rw [ev, ws_hit]
        have z0 : (0 : Int32).toInt = 0 := rfl
        unfold vOK
        omega
      · have hy := y.mp h0
        have hl : ltr (g st) := by
          unfold ltr
          omega
        refine p108 st h1 hst h3 hnb hl (n - st) st x (by omega) (Nat.le_refl _) M (fun j a b => by omega) ?_
        rw [x18, if_pos (by omega), Nat.sub_self]
        rfl
    · have hst : st = n := by
        have := congrArg Int32.toInt h
        omega
      have My : MS w st st y := by
        rw [ey]
        exact M.set (by omega)
      have e16 : (y 0 16).toInt = 101 := by
        rw [ey, ws_hit]
        rfl
      exact k y st st 0 My.1 (lx y st st My (Nat.le_refl _) (by omega) (Or.inl e16) (fun q => by omega)) My.2.1 My.2.2 ⟨h1, h2, h3, h4, Or.inl ⟨hst, hst, rfl⟩⟩ (Or.inl ⟨rfl, e16⟩)
  have p8 : ∀ (m q : Nat) (u : Wd), q + m = n → NK w u → (u 0 14).toInt = q → p ≤ q → (∀ j : Nat, p ≤ j → j < q → blk (g j)) → P8 u := by
    intro m
    induction m with
    | zero =>
      intro q u hqm i h14 hpq hb
      have s := sz u i
      refine c8 u ⟨fun _ => p60 u q i h14 hpq (by omega) hb (fun h => by omega), fun h => ?_⟩
      rw [Int32.le_iff_toInt_le] at h
      omega
    | succ m ih =>
      intro q u hqm i h14 hpq hb
      have s := sz u i
      have ea := at5 u (u 0 14) q i h14 (by omega)
      have go : blk (g q) → ∀ u2 : Wd, u2 = wset u 0 14 (u 0 14 + 1) → P8 u2 := fun hbq u2 e2 => by
        have e := i_add (x := u 0 14) (y := 1) (by omega) (by omega)
        subst e2
        refine ih (q + 1) _ (by omega) (NK.set (by decide) i) (by rw [ws_hit]; omega) (by omega) (fun j h1 h2 => ?_)
        by_cases hjq : j = q
        · rw [hjq]
          exact hbq
        · exact hb j h1 (by omega)
      refine c8 u ⟨fun h => ?_, fun h => ⟨vp_in_iff.mpr (by omega), fun hc => go ?_, fun hc => ⟨fun hc2 => ?_, fun hc2 => go ?_⟩⟩⟩
      · rw [Int32.le_iff_toInt_le] at h
        omega
      · rw [hc] at ea
        exact Or.inl ea.symm
      · refine p60 u q i h14 hpq (by omega) hb (fun _ hbq => ?_)
        rcases hbq with z | z
        · exact hc (i_ext (by rw [ea, z]; rfl))
        · exact hc2 (i_ext (by rw [ea, z]; rfl))
      · rw [hc2] at ea
        exact Or.inr ea.symm
  intro w1 e1
  subst e1
  exact p8 (n - p) p _ (by omega) (NK.set (by decide) NK.rfl) (by rw [ws_hit]; exact hp) (Nat.le_refl _) (fun j h1 h2 => by omega)
