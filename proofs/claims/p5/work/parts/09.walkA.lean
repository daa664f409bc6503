/-! what each method does, by program out of its bytecode (wp_..), and that the machine does it (con_..) -/
theorem swne {x k : Int32} {a : Int} (h : ¬ x = k) (hk : k.toInt = a) : ¬ x.toInt = a := lv_neT h hk
theorem sweq {x k : Int32} {a : Int} (h : x = k) (hk : k.toInt = a) : x.toInt = a := by rw [h]; exact hk
section SW0
variable {Γ : Gx} {X : Mx} {nL d pc : Nat} {Q : Option Value → Wd → Prop} {lv : List (Option Value)} {st : List Value} {w : Wd}
theorem GG.nmw (k : ∀ w' : Wd, w' = w → GG Γ X d nL Q pc lv st w') : GG Γ X d nL Q pc lv st w := k w rfl
theorem GG.nmi {x : Int32} (k : ∀ y : Int32, y = x → GG Γ X d nL Q pc lv (.int y :: st) w) : GG Γ X d nL Q pc lv (.int x :: st) w := k x rfl
end SW0
section SW
variable {Γ : Gx} {X : Mx} {own : String} {cc : ByteArray} {nL d pc : Nat} {ret : Option FieldType} {Q : Option Value → Wd → Prop} {lv : List (Option Value)} {st : List Value} {w : Wd}
theorem G_tabIn (hO : OKM Γ X own cc nL ret) {dflt lo hi off : Int} {offs : Array Int} {len tgt : Nat} {x : Int32} (j : Nat) (hd : decode cc pc = .ok (.tableswitch dflt lo hi offs, len)) (hj : lo + j ≤ hi) (ho : offs[j]? = some off) (hx : x.toInt = lo + j) (ht : (pc : Int) + off = (tgt : Int)) (k : GG Γ X d nL Q tgt lv st w) : GG Γ X d nL Q pc lv (.int x :: st) w := fun ls H locs hl hP hS => by
  refine lv_tableIn hO.1 hO.2.1 hd (by omega) (by omega) (off := off) ?_ ht (k ls H locs hl hP hS)
  have e : (x.toInt - lo).toNat = j := by omega
  rw [e]
  exact ho
/-- outside the table, or at a place of it that goes where the default goes -/
def tabOff (pc tgt : Nat) (offs : Array Int) (j : Nat) (x lo : Int) : Prop := match offs[j]? with
  | some off => if (pc : Int) + off = (tgt : Int) then True else ¬ x = lo + j
  | none => True
theorem G_tabOut (hO : OKM Γ X own cc nL ret) {dflt lo hi : Int} {offs : Array Int} {len tgt : Nat} {x : Int32} (hd : decode cc pc = .ok (.tableswitch dflt lo hi offs, len)) (hsz : hi - lo + 1 = (offs.size : Int)) (ht : (pc : Int) + dflt = (tgt : Int)) (hx : ∀ j : Nat, j < offs.size → tabOff pc tgt offs j x.toInt lo) (k : GG Γ X d nL Q tgt lv st w) : GG Γ X d nL Q pc lv (.int x :: st) w := fun ls H locs hl hP hS => by
  by_cases h : x.toInt < lo ∨ hi < x.toInt
  · exact lv_tableOut hO.1 hO.2.1 hd h ht (k ls H locs hl hP hS)
  · have h1 : ¬ x.toInt < lo := fun q => h (Or.inl q)
    have h2 : ¬ hi < x.toInt := fun q => h (Or.inr q)
    have hj : (x.toInt - lo).toNat < offs.size := by omega
    have h3 := hx _ hj
    have ho := Array.getElem?_eq_getElem hj
    unfold tabOff at h3
    rw [ho] at h3
    simp only at h3
    by_cases he : (pc : Int) + offs[(x.toInt - lo).toNat] = (tgt : Int)
    · exact lv_tableIn hO.1 hO.2.1 hd h1 h2 ho he (k ls H locs hl hP hS)
    · rw [if_neg he] at h3
      exact absurd (by omega) h3
theorem G_lookIn (hO : OKM Γ X own cc nL ret) {dflt : Int} {ps : Array (Int × Int)} {len tgt : Nat} {x : Int32} (q : Int × Int) (hd : decode cc pc = .ok (.lookupswitch dflt ps, len)) (hp : (ps.toList.zip (ps.toList.drop 1)).all (fun (a, next) => a.1 < next.1) = true) (hx : x.toInt = q.1) (ho : Op.lookupswitch.offset ps.toList dflt q.1 = q.2) (ht : (pc : Int) + q.2 = (tgt : Int)) (k : GG Γ X d nL Q tgt lv st w) : GG Γ X d nL Q pc lv (.int x :: st) w := fun ls H locs hl hP hS =>
  lv_lookup hO.1 hO.2.1 hd hp (by rw [hx]; exact ho) ht (k ls H locs hl hP hS)
theorem G_lookOut (hO : OKM Γ X own cc nL ret) {dflt : Int} {ps : Array (Int × Int)} {len tgt : Nat} {x : Int32} (hd : decode cc pc = .ok (.lookupswitch dflt ps, len)) (hp : (ps.toList.zip (ps.toList.drop 1)).all (fun (a, next) => a.1 < next.1) = true) (ht : (pc : Int) + dflt = (tgt : Int)) (hx : ∀ q ∈ ps.toList, ¬ x.toInt = q.1) (k : GG Γ X d nL Q tgt lv st w) : GG Γ X d nL Q pc lv (.int x :: st) w := fun ls H locs hl hP hS => by
  rcases offset_in (x := x.toInt) (dflt := dflt) ps.toList with ⟨q, h1, h2, h3⟩ | ⟨h1, h2⟩
  · exact absurd h2 (hx q h1)
  · exact lv_lookup hO.1 hO.2.1 hd hp h2 ht (k ls H locs hl hP hS)
theorem mm_max_s : Cond.static Lib.Math.max.name ∈ AW := AW_mem 319 (by decide +kernel) (by decide +kernel)
theorem mm_ini : Cond.initialized "java/lang/Math" ∈ AW := AW_mem 79 (by decide +kernel) (by decide +kernel)
theorem mm_max_c : Cond.code Lib.Math.max.name Lib.Math.max.code 2 (some .int) ∈ AW := AW_mem 320 (by decide +kernel) (by decide +kernel)
theorem ml_J1_92 : Cond.methodLink RJ1 92 Lib.Math.max.name ∈ AW := AW_mem 318 (by decide +kernel) (by decide +kernel)
theorem ml_J2_224 : Cond.methodLink RJ2 224 Lib.Math.max.name ∈ AW := AW_mem 330 (by decide +kernel) (by decide +kernel)
theorem ml_X4_196 : Cond.methodLink RX4 196 Lib.Math.max.name ∈ AW := AW_mem 536 (by decide +kernel) (by decide +kernel)
theorem ml_X0_84 : Cond.methodLink RX0 84 Lib.Math.max.name ∈ AW := AW_mem 537 (by decide +kernel) (by decide +kernel)
theorem G_mmax (hO : OKM Γ X own cc nL ret) {idx : Nat} {x y : Int32} {rest : List Value} (hd : decode cc pc = .ok (.invokestatic idx, 3)) (hl1 : Cond.methodLink own idx Lib.Math.max.name ∈ AW) (hr : (rest.map fun v => v.category).sum ≤ 8) (k : GG Γ X (d + 1) nL Q (pc + 3) lv (.int (if x < y then y else x) :: rest) w) : GG Γ X (d + 1) nL Q pc lv (.int y :: .int x :: rest) w := fun ls H locs hl hP hS => by
  refine va_mmax hO.1 hO.2.1 (hO.2.2.1.trans hl.1.symm) hO.2.2.2.1 (hO.2.2.2.2.1 _ hl1) (hO.2.2.2.2.1 _ mm_max_s) (hO.2.2.2.2.1 _ mm_ini) (hO.2.2.2.2.1 _ mm_max_c) ?_ ?_ (Nat.le_refl _) (Nat.le_refl _) hd (k ls H locs hl hP hS)
  · show 1 ≤ d + 1
    omega
  · show _ + 13 ≤ 64 * (d + 1)
    omega
theorem mm_min_s : Cond.static Lib.Math.min.name ∈ AW := AW_mem 322 (by decide +kernel) (by decide +kernel)
theorem mm_min_c : Cond.code Lib.Math.min.name Lib.Math.min.code 2 (some .int) ∈ AW := AW_mem 323 (by decide +kernel) (by decide +kernel)
theorem ml_J1_38 : Cond.methodLink RJ1 38 Lib.Math.min.name ∈ AW := AW_mem 321 (by decide +kernel) (by decide +kernel)
theorem ml_J2_183 : Cond.methodLink RJ2 183 Lib.Math.min.name ∈ AW := AW_mem 331 (by decide +kernel) (by decide +kernel)
theorem ml_X4_191 : Cond.methodLink RX4 191 Lib.Math.min.name ∈ AW := AW_mem 535 (by decide +kernel) (by decide +kernel)
theorem G_mmin (hO : OKM Γ X own cc nL ret) {idx : Nat} {x y : Int32} {rest : List Value} (hd : decode cc pc = .ok (.invokestatic idx, 3)) (hl1 : Cond.methodLink own idx Lib.Math.min.name ∈ AW) (hr : (rest.map fun v => v.category).sum ≤ 8) (k : GG Γ X (d + 1) nL Q (pc + 3) lv (.int (if y < x then y else x) :: rest) w) : GG Γ X (d + 1) nL Q pc lv (.int y :: .int x :: rest) w := fun ls H locs hl hP hS => by
  refine va_mmin hO.1 hO.2.1 (hO.2.2.1.trans hl.1.symm) hO.2.2.2.1 (hO.2.2.2.2.1 _ hl1) (hO.2.2.2.2.1 _ mm_min_s) (hO.2.2.2.2.1 _ mm_ini) (hO.2.2.2.2.1 _ mm_min_c) ?_ ?_ (Nat.le_refl _) (Nat.le_refl _) hd (k ls H locs hl hP hS)
  · show 1 ≤ d + 1
    omega
  · show _ + 13 ≤ 64 * (d + 1)
    omega
end SW
def wp_X3_empty (Γ : Gx) (d : Nat) (t : Nat) (w : Wd) (Q : Wd → Prop) : Prop :=
  (∀ w1 : Wd, w1 = wset w t 2 (0 : Int32) → Q w1)
set_option maxRecDepth 20000 in
theorem con_X3_empty {Γ : Gx} {d : Nat} (hG : GC Γ) {t : Nat} (hT : ShT Γ t) {w : Wd} {Q : Wd → Prop} (h : wp_X3_empty Γ d t w Q) : CV Γ (d + 1) M_X3_empty [.ref (gad Γ t)] w Q := by
  have hC := hG.2.1
  refine Con.of RX3 cX3_empty 1 none [some (.ref (gad Γ t))] rfl rfl (by decide +kernel) hG.1 (catR cat0) (Nat.le_of_ble_eq_true rfl) rfl ?_
  intro X hO
  refine G_aload_n hO dX3_empty_0 rfl rfl ?_
  refine G_iconst (v := 0) hO dX3_empty_1 rfl ?_
  refine pi_X3_18 hO dX3_empty_2 hT.1 rfl ?_
  refine GG.nmw (fun w1 e2 => ?_)
  have h := h w1 e2
  exact G_vret hO dX3_empty_5 rfl (QV.i h)
def wp_X3_beginPart (Γ : Gx) (d : Nat) (t : Nat) (p1 : Int32) (w : Wd) (Q : Wd → Prop) : Prop :=
  (vp_in p1 4 ∧ (∀ w2 : Wd, w2 = wset w (t + 2) (p1).toNatClampNeg (w t 2) → Q w2))
set_option maxRecDepth 20000 in
theorem con_X3_beginPart {Γ : Gx} {d : Nat} (hG : GC Γ) {t : Nat} {p1 : Int32} (hT : ShT Γ t) {w : Wd} {Q : Wd → Prop} (h : wp_X3_beginPart Γ d t p1 w Q) : CV Γ (d + 1) M_X3_beginPart [.ref (gad Γ t), .int p1] w Q := by
  have hC := hG.2.1
  refine Con.of RX3 cX3_beginPart 2 none [some (.ref (gad Γ t)), some (.int p1)] rfl rfl (by decide +kernel) hG.1 (catR (catI cat0)) (Nat.le_of_ble_eq_true rfl) rfl ?_
  intro X hO
  refine G_aload_n hO dX3_beginPart_0 rfl rfl ?_
  refine gr_X3_15 (c := (t + 2)) hO dX3_beginPart_1 hT.1 rfl ?_
  refine G_iload_n hO dX3_beginPart_4 rfl rfl ?_
  refine G_aload_n hO dX3_beginPart_5 rfl rfl ?_
  refine gi_X3_18 hO dX3_beginPart_6 hT.1 rfl ?_
  obtain ⟨c1, h⟩ := h
  refine G_iastore hO dX3_beginPart_9 hT.2.2 c1 ?_
  refine GG.nmw (fun w2 e3 => ?_)
  have h := h w2 e3
  exact G_vret hO dX3_beginPart_10 rfl (QV.i h)
def wp_X3_takeStep (Γ : Gx) (d : Nat) (t : Nat) (p1 : Int32) (w : Wd) (Q : Wd → Prop) : Prop :=
  (((160 : Int32) ≤ (w t 2) → Q w) ∧ (¬ (160 : Int32) ≤ (w t 2) → (vp_in (w t 2) 160 ∧ (∀ w3 : Wd, w3 = wset w (t + 1) ((w t 2)).toNatClampNeg p1 → (∀ w5 : Wd, w5 = wset w3 t 2 ((w3 t 2) + (1 : Int32)) → Q w5)))))
set_option maxRecDepth 20000 in
theorem con_X3_takeStep {Γ : Gx} {d : Nat} (hG : GC Γ) {t : Nat} {p1 : Int32} (hT : ShT Γ t) {w : Wd} {Q : Wd → Prop} (h : wp_X3_takeStep Γ d t p1 w Q) : CV Γ (d + 1) M_X3_takeStep [.ref (gad Γ t), .int p1] w Q := by
  have hC := hG.2.1
  refine Con.of RX3 cX3_takeStep 2 none [some (.ref (gad Γ t)), some (.int p1)] rfl rfl (by decide +kernel) hG.1 (catR (catI cat0)) (Nat.le_of_ble_eq_true rfl) rfl ?_
  intro X hO
  refine G_aload_n hO dX3_takeStep_0 rfl rfl ?_
  refine gi_X3_18 hO dX3_takeStep_1 hT.1 rfl ?_
  refine G_aload_n hO dX3_takeStep_4 rfl rfl ?_
  refine gr_X3_9 (c := (t + 1)) hO dX3_takeStep_5 hT.1 rfl ?_
  refine G_alen (v := 160) hO dX3_takeStep_8 hT.2.1 rfl rfl ?_
  refine G_icmp_ge (tgt := 32) hO dX3_takeStep_9 (by decide) (fun c1 => ?_) (fun c1 => ?_)
  · have h := h.1 c1
    exact G_vret hO dX3_takeStep_32 rfl (QV.i h)
  · have h := h.2 c1
    refine G_aload_n hO dX3_takeStep_12 rfl rfl ?_
    refine gr_X3_9 (c := (t + 1)) hO dX3_takeStep_13 hT.1 rfl ?_
    refine G_aload_n hO dX3_takeStep_16 rfl rfl ?_
    refine gi_X3_18 hO dX3_takeStep_17 hT.1 rfl ?_
    refine G_iload_n hO dX3_takeStep_20 rfl rfl ?_
    obtain ⟨c2, h⟩ := h
    refine G_iastore hO dX3_takeStep_21 hT.2.1 c2 ?_
    refine GG.nmw (fun w3 e4 => ?_)
    have h := h w3 e4
    refine G_aload_n hO dX3_takeStep_22 rfl rfl ?_
    refine G_dup hO dX3_takeStep_23 rfl ?_
    refine gi_X3_18 hO dX3_takeStep_24 hT.1 rfl ?_
    refine G_iconst (v := 1) hO dX3_takeStep_27 rfl ?_
    refine G_iadd hO dX3_takeStep_28 ?_
    refine pi_X3_18 hO dX3_takeStep_29 hT.1 rfl ?_
    refine GG.nmw (fun w5 e6 => ?_)
    have h := h w5 e6
    refine GG.atpc (pc2 := 32) rfl ?_
    exact G_vret hO dX3_takeStep_32 rfl (QV.i h)
def wp_X3_valueOf (Γ : Gx) (d : Nat) (t : Nat) (p1 : Int32) (a2 : Nat) (a3 : Nat) (w : Wd) (Q : Int32 → Wd → Prop) : Prop :=
  ∀ (P_15 : Int32 → Int32 → Wd → Prop),
  ∀ (P_77 : Int32 → Int32 → Int32 → Wd → Prop),
  ∀ (P_130 : Int32 → Int32 → Int32 → Wd → Prop),
  (∀ (l4 : Int32) (l5 : Int32) (w : Wd), (vp_in (p1 + (1 : Int32)) 4 ∧ (((w (t + 2) ((p1 + (1 : Int32))).toNatClampNeg) ≤ l5 → Q (w a3 0) w) ∧ (¬ (w (t + 2) ((p1 + (1 : Int32))).toNatClampNeg) ≤ l5 → (vp_in l5 160 ∧ (((w (t + 1) (l5).toNatClampNeg) ≤ (-7 : Int32) → P_77 l4 l5 (w (t + 1) (l5).toNatClampNeg) w) ∧ (¬ (w (t + 1) (l5).toNatClampNeg) ≤ (-7 : Int32) → (((160 : Int32) ≤ l4 → P_77 l4 l5 (w (t + 1) (l5).toNatClampNeg) w) ∧ (¬ (160 : Int32) ≤ l4 → (((w (t + 1) (l5).toNatClampNeg) < 0 → (vp_in ((-1 : Int32) - (w (t + 1) (l5).toNatClampNeg)) 6 ∧ (vp_in l4 160 ∧ (∀ w12 : Wd, w12 = wset w a3 (l4).toNatClampNeg (w a2 (((-1 : Int32) - (w (t + 1) (l5).toNatClampNeg))).toNatClampNeg) → P_15 (l4 + 1) (l5 + 1) w12)))) ∧ (¬ (w (t + 1) (l5).toNatClampNeg) < 0 → (vp_in l4 160 ∧ (∀ w15 : Wd, w15 = wset w a3 (l4).toNatClampNeg (w (t + 1) (l5).toNatClampNeg) → P_15 (l4 + 1) (l5 + 1) w15)))))))))))) → P_15 l4 l5 w) →
  (∀ (l4 : Int32) (l5 : Int32) (l6 : Int32) (w : Wd), ((l6 < (-8 : Int32) → P_130 l4 l5 l6 w) ∧ (¬ l6 < (-8 : Int32) → ((l4 < (1 : Int32) → P_130 l4 l5 l6 w) ∧ (¬ l4 < (1 : Int32) → (vp_in (l4 - (1 : Int32)) 160 ∧ ((¬ l6 = (-8 : Int32) → ((¬ (w a3 ((l4 - (1 : Int32))).toNatClampNeg) = 0 → (∀ w22 : Wd, w22 = wset w a3 ((l4 - (1 : Int32))).toNatClampNeg (0 : Int32) → P_15 l4 (l5 + 1) w22)) ∧ ((w a3 ((l4 - (1 : Int32))).toNatClampNeg) = 0 → (∀ w24 : Wd, w24 = wset w a3 ((l4 - (1 : Int32))).toNatClampNeg (1 : Int32) → P_15 l4 (l5 + 1) w24)))) ∧ (l6 = (-8 : Int32) → (∀ w26 : Wd, w26 = wset w a3 ((l4 - (1 : Int32))).toNatClampNeg (-(w a3 ((l4 - (1 : Int32))).toNatClampNeg)) → P_15 l4 (l5 + 1) w26)))))))) → P_77 l4 l5 l6 w) →
  (∀ (l4 : Int32) (l5 : Int32) (l6 : Int32) (w : Wd), ((l4 < (2 : Int32) → P_15 l4 (l5 + 1) w) ∧ (¬ l4 < (2 : Int32) → (vp_in ((l4 + (-1)) - (1 : Int32)) 160 ∧ (∀ v30 : Int32, v30 = (w a3 (((l4 + (-1)) - (1 : Int32))).toNatClampNeg) → (vp_in (l4 + (-1)) 160 ∧ (((l6 = (-9 : Int32)) → ((¬ v30 = 0 → (∀ w34 : Wd, w34 = wset w a3 (((l4 + (-1)) - (1 : Int32))).toNatClampNeg (1 : Int32) → P_15 (l4 + (-1)) (l5 + 1) w34)) ∧ (v30 = 0 → (((w a3 ((l4 + (-1))).toNatClampNeg) = 0 → (∀ w37 : Wd, w37 = wset w a3 (((l4 + (-1)) - (1 : Int32))).toNatClampNeg (0 : Int32) → P_15 (l4 + (-1)) (l5 + 1) w37)) ∧ (¬ (w a3 ((l4 + (-1))).toNatClampNeg) = 0 → (∀ w39 : Wd, w39 = wset w a3 (((l4 + (-1)) - (1 : Int32))).toNatClampNeg (1 : Int32) → P_15 (l4 + (-1)) (l5 + 1) w39)))))) ∧ ((l6 = (-10 : Int32)) → ((v30 = 0 → (∀ w42 : Wd, w42 = wset w a3 (((l4 + (-1)) - (1 : Int32))).toNatClampNeg (0 : Int32) → P_15 (l4 + (-1)) (l5 + 1) w42)) ∧ (¬ v30 = 0 → (((w a3 ((l4 + (-1))).toNatClampNeg) = 0 → (∀ w45 : Wd, w45 = wset w a3 (((l4 + (-1)) - (1 : Int32))).toNatClampNeg (0 : Int32) → P_15 (l4 + (-1)) (l5 + 1) w45)) ∧ (¬ (w a3 ((l4 + (-1))).toNatClampNeg) = 0 → (∀ w47 : Wd, w47 = wset w a3 (((l4 + (-1)) - (1 : Int32))).toNatClampNeg (1 : Int32) → P_15 (l4 + (-1)) (l5 + 1) w47)))))) ∧ ((l6 = (-11 : Int32)) → (((w a3 ((l4 + (-1))).toNatClampNeg) ≤ v30 → (∀ w50 : Wd, w50 = wset w a3 (((l4 + (-1)) - (1 : Int32))).toNatClampNeg (0 : Int32) → P_15 (l4 + (-1)) (l5 + 1) w50)) ∧ (¬ (w a3 ((l4 + (-1))).toNatClampNeg) ≤ v30 → (∀ w52 : Wd, w52 = wset w a3 (((l4 + (-1)) - (1 : Int32))).toNatClampNeg (1 : Int32) → P_15 (l4 + (-1)) (l5 + 1) w52)))) ∧ ((l6 = (-12 : Int32)) → ((¬ v30 = (w a3 ((l4 + (-1))).toNatClampNeg) → (∀ w55 : Wd, w55 = wset w a3 (((l4 + (-1)) - (1 : Int32))).toNatClampNeg (0 : Int32) → P_15 (l4 + (-1)) (l5 + 1) w55)) ∧ (v30 = (w a3 ((l4 + (-1))).toNatClampNeg) → (∀ w57 : Wd, w57 = wset w a3 (((l4 + (-1)) - (1 : Int32))).toNatClampNeg (1 : Int32) → P_15 (l4 + (-1)) (l5 + 1) w57)))) ∧ ((l6 = (-13 : Int32)) → (∀ w59 : Wd, w59 = wset w a3 (((l4 + (-1)) - (1 : Int32))).toNatClampNeg (v30 + (w a3 ((l4 + (-1))).toNatClampNeg)) → P_15 (l4 + (-1)) (l5 + 1) w59)) ∧ ((l6 = (-14 : Int32)) → (∀ w61 : Wd, w61 = wset w a3 (((l4 + (-1)) - (1 : Int32))).toNatClampNeg (v30 - (w a3 ((l4 + (-1))).toNatClampNeg)) → P_15 (l4 + (-1)) (l5 + 1) w61)) ∧ ((¬ l6 = (-14 : Int32) ∧ ¬ l6 = (-13 : Int32) ∧ ¬ l6 = (-12 : Int32) ∧ ¬ l6 = (-11 : Int32) ∧ ¬ l6 = (-10 : Int32) ∧ ¬ l6 = (-9 : Int32)) → (∀ w63 : Wd, w63 = wset w a3 (((l4 + (-1)) - (1 : Int32))).toNatClampNeg (v30 * (w a3 ((l4 + (-1))).toNatClampNeg)) → P_15 (l4 + (-1)) (l5 + 1) w63)))))))) → P_130 l4 l5 l6 w) →
  (∀ w1 : Wd, w1 = wset w a3 0 (0 : Int32) → (vp_in p1 4 ∧ P_15 (0 : Int32) (w1 (t + 2) (p1).toNatClampNeg) w1))
set_option maxRecDepth 20000 in
theorem con_X3_valueOf {Γ : Gx} {d : Nat} (hG : GC Γ) {t : Nat} {p1 : Int32} {a2 : Nat} {a3 : Nat} (hT : ShT Γ t) (ha2 : (gS Γ)[a2]? = some (.inl (0, 6, []))) (ha3 : (gS Γ)[a3]? = some (.inl (0, 160, []))) {w : Wd} {Q : Int32 → Wd → Prop} (h : wp_X3_valueOf Γ d t p1 a2 a3 w Q) : CI Γ (d + 1) M_X3_valueOf [.ref (gad Γ t), .int p1, .ref (gad Γ a2), .ref (gad Γ a3)] w Q := by
  have hC := hG.2.1
  refine Con.of RX3 cX3_valueOf 9 (some .int) [some (.ref (gad Γ t)), some (.int p1), some (.ref (gad Γ a2)), some (.ref (gad Γ a3)), none, none, none, none, none] rfl rfl (by decide +kernel) hG.1 (catR (catI (catR (catR cat0)))) (Nat.le_of_ble_eq_true rfl) rfl ?_
  intro X hO
  have h := h
    (fun (l4 : Int32) (l5 : Int32) (w : Wd) => GG Γ X (d + 1) 9 (QI Q) 15 [some (.ref (gad Γ t)), some (.int p1), some (.ref (gad Γ a2)), some (.ref (gad Γ a3)), some (.int l4), some (.int l5), none, none, none] [] w)
    (fun (l4 : Int32) (l5 : Int32) (l6 : Int32) (w : Wd) => GG Γ X (d + 1) 9 (QI Q) 77 [some (.ref (gad Γ t)), some (.int p1), some (.ref (gad Γ a2)), some (.ref (gad Γ a3)), some (.int l4), some (.int l5), some (.int l6), none, none] [] w)
    (fun (l4 : Int32) (l5 : Int32) (l6 : Int32) (w : Wd) => GG Γ X (d + 1) 9 (QI Q) 130 [some (.ref (gad Γ t)), some (.int p1), some (.ref (gad Γ a2)), some (.ref (gad Γ a3)), some (.int l4), some (.int l5), some (.int l6), none, none] [] w)
    (by
        intro l4 l5 w h
        refine G_iload hO dX3_valueOf_15 rfl ?_
        refine G_aload_n hO dX3_valueOf_17 rfl rfl ?_
        refine gr_X3_15 (c := (t + 2)) hO dX3_valueOf_18 hT.1 rfl ?_
        refine G_iload_n hO dX3_valueOf_21 rfl rfl ?_
        refine G_iconst (v := 1) hO dX3_valueOf_22 rfl ?_
        refine G_iadd hO dX3_valueOf_23 ?_
        obtain ⟨c4, h⟩ := h
        refine G_iaload hO dX3_valueOf_24 hT.2.2 c4 ?_
        refine G_icmp_ge (tgt := 327) hO dX3_valueOf_25 (by decide) (fun c5 => ?_) (fun c5 => ?_)
        · have h := h.1 c5
          refine G_aload_n hO dX3_valueOf_327 rfl rfl ?_
          refine G_iconst (v := 0) hO dX3_valueOf_328 rfl ?_
          refine G_iaload hO dX3_valueOf_329 ha3 (by unfold vp_in; decide) ?_
          exact G_iret hO dX3_valueOf_330 rfl rfl (QI.i h)
        · have h := h.2 c5
          refine G_aload_n hO dX3_valueOf_28 rfl rfl ?_
          refine gr_X3_9 (c := (t + 1)) hO dX3_valueOf_29 hT.1 rfl ?_
          refine G_iload hO dX3_valueOf_32 rfl ?_
          obtain ⟨c6, h⟩ := h
          refine G_iaload hO dX3_valueOf_34 hT.2.1 c6 ?_
          refine G_istore (lv2 := [some (.ref (gad Γ t)), some (.int p1), some (.ref (gad Γ a2)), some (.ref (gad Γ a3)), some (.int l4), some (.int l5), some (.int (w (t + 1) (l5).toNatClampNeg)), none, none]) hO dX3_valueOf_35 (by decide) rfl rfl ?_
          refine G_iload hO dX3_valueOf_37 rfl ?_
          refine G_bipush (v := -7) hO dX3_valueOf_39 rfl ?_
          refine G_icmp_le (tgt := 77) hO dX3_valueOf_41 (by decide) (fun c7 => ?_) (fun c7 => ?_)
          · have h := h.1 c7
            exact GG.sub (lv2 := [some (.ref (gad Γ t)), some (.int p1), some (.ref (gad Γ a2)), some (.ref (gad Γ a3)), some (.int l4), some (.int l5), some (.int (w (t + 1) (l5).toNatClampNeg)), none, none]) ⟨rfl, ⟨rfl, ⟨rfl, ⟨rfl, ⟨rfl, ⟨rfl, ⟨rfl, trivial⟩⟩⟩⟩⟩⟩⟩ h
          · have h := h.2 c7
            refine G_iload hO dX3_valueOf_44 rfl ?_
            refine G_aload_n hO dX3_valueOf_46 rfl rfl ?_
            refine G_alen (v := 160) hO dX3_valueOf_47 ha3 rfl rfl ?_
            refine G_icmp_ge (tgt := 77) hO dX3_valueOf_48 (by decide) (fun c8 => ?_) (fun c8 => ?_)
            · have h := h.1 c8
              exact GG.sub (lv2 := [some (.ref (gad Γ t)), some (.int p1), some (.ref (gad Γ a2)), some (.ref (gad Γ a3)), some (.int l4), some (.int l5), some (.int (w (t + 1) (l5).toNatClampNeg)), none, none]) ⟨rfl, ⟨rfl, ⟨rfl, ⟨rfl, ⟨rfl, ⟨rfl, ⟨rfl, trivial⟩⟩⟩⟩⟩⟩⟩ h
            · have h := h.2 c8
              refine G_aload_n hO dX3_valueOf_51 rfl rfl ?_
              refine G_iload hO dX3_valueOf_52 rfl ?_
              refine G_iload hO dX3_valueOf_54 rfl ?_
              refine G_if_lt (tgt := 64) hO dX3_valueOf_56 (by decide) (fun c9 => ?_) (fun c9 => ?_)
              · have h := h.1 c9
                refine G_aload_n hO dX3_valueOf_64 rfl rfl ?_
                refine G_iconst (v := -1) hO dX3_valueOf_65 rfl ?_
                refine G_iload hO dX3_valueOf_66 rfl ?_
                refine G_isub hO dX3_valueOf_68 ?_
                obtain ⟨c10, h⟩ := h
                refine G_iaload hO dX3_valueOf_69 ha2 c10 ?_
                obtain ⟨c11, h⟩ := h
                refine G_iastore hO dX3_valueOf_70 ha3 c11 ?_
                refine GG.nmw (fun w12 e13 => ?_)
                have h := h w12 e13
                refine G_iinc (v := (l4 + 1)) (lv2 := [some (.ref (gad Γ t)), some (.int p1), some (.ref (gad Γ a2)), some (.ref (gad Γ a3)), some (.int (l4 + 1)), some (.int l5), some (.int (w (t + 1) (l5).toNatClampNeg)), none, none]) hO dX3_valueOf_71 rfl rfl (by decide) rfl rfl ?_
                refine G_goto (tgt := 321) hO dX3_valueOf_74 (by decide) ?_
                refine G_iinc (v := (l5 + 1)) (lv2 := [some (.ref (gad Γ t)), some (.int p1), some (.ref (gad Γ a2)), some (.ref (gad Γ a3)), some (.int (l4 + 1)), some (.int (l5 + 1)), some (.int (w (t + 1) (l5).toNatClampNeg)), none, none]) hO dX3_valueOf_321 rfl rfl (by decide) rfl rfl ?_
                refine G_goto (tgt := 15) hO dX3_valueOf_324 (by decide) ?_
                exact GG.sub (lv2 := [some (.ref (gad Γ t)), some (.int p1), some (.ref (gad Γ a2)), some (.ref (gad Γ a3)), some (.int (l4 + 1)), some (.int (l5 + 1)), none, none, none]) ⟨rfl, ⟨rfl, ⟨rfl, ⟨rfl, ⟨rfl, ⟨rfl, trivial⟩⟩⟩⟩⟩⟩ h
              · have h := h.2 c9
                refine G_iload hO dX3_valueOf_59 rfl ?_
                refine G_goto (tgt := 70) hO dX3_valueOf_61 (by decide) ?_
                obtain ⟨c14, h⟩ := h
                refine G_iastore hO dX3_valueOf_70 ha3 c14 ?_
                refine GG.nmw (fun w15 e16 => ?_)
                have h := h w15 e16
                refine G_iinc (v := (l4 + 1)) (lv2 := [some (.ref (gad Γ t)), some (.int p1), some (.ref (gad Γ a2)), some (.ref (gad Γ a3)), some (.int (l4 + 1)), some (.int l5), some (.int (w (t + 1) (l5).toNatClampNeg)), none, none]) hO dX3_valueOf_71 rfl rfl (by decide) rfl rfl ?_
                refine G_goto (tgt := 321) hO dX3_valueOf_74 (by decide) ?_
                refine G_iinc (v := (l5 + 1)) (lv2 := [some (.ref (gad Γ t)), some (.int p1), some (.ref (gad Γ a2)), some (.ref (gad Γ a3)), some (.int (l4 + 1)), some (.int (l5 + 1)), some (.int (w (t + 1) (l5).toNatClampNeg)), none, none]) hO dX3_valueOf_321 rfl rfl (by decide) rfl rfl ?_
                refine G_goto (tgt := 15) hO dX3_valueOf_324 (by decide) ?_
                exact GG.sub (lv2 := [some (.ref (gad Γ t)), some (.int p1), some (.ref (gad Γ a2)), some (.ref (gad Γ a3)), some (.int (l4 + 1)), some (.int (l5 + 1)), none, none, none]) ⟨rfl, ⟨rfl, ⟨rfl, ⟨rfl, ⟨rfl, ⟨rfl, trivial⟩⟩⟩⟩⟩⟩ h)
    (by
        intro l4 l5 l6 w h
        refine G_iload hO dX3_valueOf_77 rfl ?_
        refine G_bipush (v := -8) hO dX3_valueOf_79 rfl ?_
        refine G_icmp_lt (tgt := 130) hO dX3_valueOf_81 (by decide) (fun c17 => ?_) (fun c17 => ?_)
        · have h := h.1 c17
          exact GG.sub (lv2 := [some (.ref (gad Γ t)), some (.int p1), some (.ref (gad Γ a2)), some (.ref (gad Γ a3)), some (.int l4), some (.int l5), some (.int l6), none, none]) ⟨rfl, ⟨rfl, ⟨rfl, ⟨rfl, ⟨rfl, ⟨rfl, ⟨rfl, trivial⟩⟩⟩⟩⟩⟩⟩ h
        · have h := h.2 c17
          refine G_iload hO dX3_valueOf_84 rfl ?_
          refine G_iconst (v := 1) hO dX3_valueOf_86 rfl ?_
          refine G_icmp_lt (tgt := 130) hO dX3_valueOf_87 (by decide) (fun c18 => ?_) (fun c18 => ?_)
          · have h := h.1 c18
            exact GG.sub (lv2 := [some (.ref (gad Γ t)), some (.int p1), some (.ref (gad Γ a2)), some (.ref (gad Γ a3)), some (.int l4), some (.int l5), some (.int l6), none, none]) ⟨rfl, ⟨rfl, ⟨rfl, ⟨rfl, ⟨rfl, ⟨rfl, ⟨rfl, trivial⟩⟩⟩⟩⟩⟩⟩ h
          · have h := h.2 c18
            refine G_aload_n hO dX3_valueOf_90 rfl rfl ?_
            refine G_iload hO dX3_valueOf_91 rfl ?_
            refine G_iconst (v := 1) hO dX3_valueOf_93 rfl ?_
            refine G_isub hO dX3_valueOf_94 ?_
            obtain ⟨c19, h⟩ := h
            refine G_iaload hO dX3_valueOf_95 ha3 c19 ?_
            refine G_istore (lv2 := [some (.ref (gad Γ t)), some (.int p1), some (.ref (gad Γ a2)), some (.ref (gad Γ a3)), some (.int l4), some (.int l5), some (.int l6), some (.int (w a3 ((l4 - (1 : Int32))).toNatClampNeg)), none]) hO dX3_valueOf_96 (by decide) rfl rfl ?_
            refine G_aload_n hO dX3_valueOf_98 rfl rfl ?_
            refine G_iload hO dX3_valueOf_99 rfl ?_
            refine G_iconst (v := 1) hO dX3_valueOf_101 rfl ?_
            refine G_isub hO dX3_valueOf_102 ?_
            refine G_iload hO dX3_valueOf_103 rfl ?_
            refine G_bipush (v := -8) hO dX3_valueOf_105 rfl ?_
            refine GG.atpc (pc2 := 107) rfl ?_
            refine G_icmp_ne (tgt := 116) hO dX3_valueOf_107 (by decide) (fun c20 => ?_) (fun c20 => ?_)
            · have h := h.1 c20
              refine G_iload hO dX3_valueOf_116 rfl ?_
              refine G_if_ne (tgt := 125) hO dX3_valueOf_118 (by decide) (fun c21 => ?_) (fun c21 => ?_)
              · have h := h.1 c21
                refine G_iconst (v := 0) hO dX3_valueOf_125 rfl ?_
                refine G_iastore hO dX3_valueOf_126 ha3 c19 ?_
                refine GG.nmw (fun w22 e23 => ?_)
                have h := h w22 e23
                refine G_goto (tgt := 321) hO dX3_valueOf_127 (by decide) ?_
                refine G_iinc (v := (l5 + 1)) (lv2 := [some (.ref (gad Γ t)), some (.int p1), some (.ref (gad Γ a2)), some (.ref (gad Γ a3)), some (.int l4), some (.int (l5 + 1)), some (.int l6), some (.int (w a3 ((l4 - (1 : Int32))).toNatClampNeg)), none]) hO dX3_valueOf_321 rfl rfl (by decide) rfl rfl ?_
                refine G_goto (tgt := 15) hO dX3_valueOf_324 (by decide) ?_
                exact GG.sub (lv2 := [some (.ref (gad Γ t)), some (.int p1), some (.ref (gad Γ a2)), some (.ref (gad Γ a3)), some (.int l4), some (.int (l5 + 1)), none, none, none]) ⟨rfl, ⟨rfl, ⟨rfl, ⟨rfl, ⟨rfl, ⟨rfl, trivial⟩⟩⟩⟩⟩⟩ h
              · have h := h.2 c21
                refine G_iconst (v := 1) hO dX3_valueOf_121 rfl ?_
                refine G_goto (tgt := 126) hO dX3_valueOf_122 (by decide) ?_
                refine G_iastore hO dX3_valueOf_126 ha3 c19 ?_
                refine GG.nmw (fun w24 e25 => ?_)
                have h := h w24 e25
                refine G_goto (tgt := 321) hO dX3_valueOf_127 (by decide) ?_
                refine G_iinc (v := (l5 + 1)) (lv2 := [some (.ref (gad Γ t)), some (.int p1), some (.ref (gad Γ a2)), some (.ref (gad Γ a3)), some (.int l4), some (.int (l5 + 1)), some (.int l6), some (.int (w a3 ((l4 - (1 : Int32))).toNatClampNeg)), none]) hO dX3_valueOf_321 rfl rfl (by decide) rfl rfl ?_
                refine G_goto (tgt := 15) hO dX3_valueOf_324 (by decide) ?_
                exact GG.sub (lv2 := [some (.ref (gad Γ t)), some (.int p1), some (.ref (gad Γ a2)), some (.ref (gad Γ a3)), some (.int l4), some (.int (l5 + 1)), none, none, none]) ⟨rfl, ⟨rfl, ⟨rfl, ⟨rfl, ⟨rfl, ⟨rfl, trivial⟩⟩⟩⟩⟩⟩ h
            · have h := h.2 c20
              refine G_iload hO dX3_valueOf_110 rfl ?_
              refine G_ineg hO dX3_valueOf_112 ?_
              refine G_goto (tgt := 126) hO dX3_valueOf_113 (by decide) ?_
              refine G_iastore hO dX3_valueOf_126 ha3 c19 ?_
              refine GG.nmw (fun w26 e27 => ?_)
              have h := h w26 e27
              refine G_goto (tgt := 321) hO dX3_valueOf_127 (by decide) ?_
              refine G_iinc (v := (l5 + 1)) (lv2 := [some (.ref (gad Γ t)), some (.int p1), some (.ref (gad Γ a2)), some (.ref (gad Γ a3)), some (.int l4), some (.int (l5 + 1)), some (.int l6), some (.int (w a3 ((l4 - (1 : Int32))).toNatClampNeg)), none]) hO dX3_valueOf_321 rfl rfl (by decide) rfl rfl ?_
              refine G_goto (tgt := 15) hO dX3_valueOf_324 (by decide) ?_
              exact GG.sub (lv2 := [some (.ref (gad Γ t)), some (.int p1), some (.ref (gad Γ a2)), some (.ref (gad Γ a3)), some (.int l4), some (.int (l5 + 1)), none, none, none]) ⟨rfl, ⟨rfl, ⟨rfl, ⟨rfl, ⟨rfl, ⟨rfl, trivial⟩⟩⟩⟩⟩⟩ h)
    (by
        intro l4 l5 l6 w h
        refine G_iload hO dX3_valueOf_130 rfl ?_
        refine G_iconst (v := 2) hO dX3_valueOf_132 rfl ?_
        refine G_icmp_lt (tgt := 321) hO dX3_valueOf_133 (by decide) (fun c28 => ?_) (fun c28 => ?_)
        · have h := h.1 c28
          refine G_iinc (v := (l5 + 1)) (lv2 := [some (.ref (gad Γ t)), some (.int p1), some (.ref (gad Γ a2)), some (.ref (gad Γ a3)), some (.int l4), some (.int (l5 + 1)), some (.int l6), none, none]) hO dX3_valueOf_321 rfl rfl (by decide) rfl rfl ?_
          refine G_goto (tgt := 15) hO dX3_valueOf_324 (by decide) ?_
          exact GG.sub (lv2 := [some (.ref (gad Γ t)), some (.int p1), some (.ref (gad Γ a2)), some (.ref (gad Γ a3)), some (.int l4), some (.int (l5 + 1)), none, none, none]) ⟨rfl, ⟨rfl, ⟨rfl, ⟨rfl, ⟨rfl, ⟨rfl, trivial⟩⟩⟩⟩⟩⟩ h
        · have h := h.2 c28
          refine G_iinc (v := (l4 + (-1))) (lv2 := [some (.ref (gad Γ t)), some (.int p1), some (.ref (gad Γ a2)), some (.ref (gad Γ a3)), some (.int (l4 + (-1))), some (.int l5), some (.int l6), none, none]) hO dX3_valueOf_136 rfl rfl (by decide) rfl rfl ?_
          refine G_aload_n hO dX3_valueOf_139 rfl rfl ?_
          refine G_iload hO dX3_valueOf_140 rfl ?_
          refine G_iconst (v := 1) hO dX3_valueOf_142 rfl ?_
          refine G_isub hO dX3_valueOf_143 ?_
          obtain ⟨c29, h⟩ := h
          refine G_iaload hO dX3_valueOf_144 ha3 c29 ?_
          refine GG.nmi (fun v30 e31 => ?_)
          have h := h v30 e31
          refine G_istore (lv2 := [some (.ref (gad Γ t)), some (.int p1), some (.ref (gad Γ a2)), some (.ref (gad Γ a3)), some (.int (l4 + (-1))), some (.int l5), some (.int l6), some (.int v30), none]) hO dX3_valueOf_145 (by decide) rfl rfl ?_
          refine G_aload_n hO dX3_valueOf_147 rfl rfl ?_
          refine G_iload hO dX3_valueOf_148 rfl ?_
          obtain ⟨c32, h⟩ := h
          refine G_iaload hO dX3_valueOf_150 ha3 c32 ?_
          refine G_istore (lv2 := [some (.ref (gad Γ t)), some (.int p1), some (.ref (gad Γ a2)), some (.ref (gad Γ a3)), some (.int (l4 + (-1))), some (.int l5), some (.int l6), some (.int v30), some (.int (w a3 ((l4 + (-1))).toNatClampNeg))]) hO dX3_valueOf_151 (by decide) rfl rfl ?_
          refine G_iload hO dX3_valueOf_153 rfl ?_
          refine GG.atpc (pc2 := 155) rfl ?_
          by_cases em14 : l6 = (-14 : Int32)
          · have h := h.2.2.2.2.2.1 em14
            refine G_tabIn (tgt := 296) (j := 0) hO dX3_valueOf_155 (by decide) rfl (sweq em14 (by decide)) (by decide) ?_
            refine G_aload_n hO dX3_valueOf_296 rfl rfl ?_
            refine G_iload hO dX3_valueOf_297 rfl ?_
            refine G_iconst (v := 1) hO dX3_valueOf_299 rfl ?_
            refine G_isub hO dX3_valueOf_300 ?_
            refine G_iload hO dX3_valueOf_301 rfl ?_
            refine G_iload hO dX3_valueOf_303 rfl ?_
            refine G_isub hO dX3_valueOf_305 ?_
            refine G_iastore hO dX3_valueOf_306 ha3 c29 ?_
            refine GG.nmw (fun w61 e62 => ?_)
            have h := h w61 e62
            refine G_goto (tgt := 321) hO dX3_valueOf_307 (by decide) ?_
            refine G_iinc (v := (l5 + 1)) (lv2 := [some (.ref (gad Γ t)), some (.int p1), some (.ref (gad Γ a2)), some (.ref (gad Γ a3)), some (.int (l4 + (-1))), some (.int (l5 + 1)), some (.int l6), some (.int v30), some (.int (w a3 ((l4 + (-1))).toNatClampNeg))]) hO dX3_valueOf_321 rfl rfl (by decide) rfl rfl ?_
            refine G_goto (tgt := 15) hO dX3_valueOf_324 (by decide) ?_
            exact GG.sub (lv2 := [some (.ref (gad Γ t)), some (.int p1), some (.ref (gad Γ a2)), some (.ref (gad Γ a3)), some (.int (l4 + (-1))), some (.int (l5 + 1)), none, none, none]) ⟨rfl, ⟨rfl, ⟨rfl, ⟨rfl, ⟨rfl, ⟨rfl, trivial⟩⟩⟩⟩⟩⟩ h
          · by_cases em13 : l6 = (-13 : Int32)
            · have h := h.2.2.2.2.1 em13
              refine G_tabIn (tgt := 282) (j := 1) hO dX3_valueOf_155 (by decide) rfl (sweq em13 (by decide)) (by decide) ?_
              refine G_aload_n hO dX3_valueOf_282 rfl rfl ?_
              refine G_iload hO dX3_valueOf_283 rfl ?_
              refine G_iconst (v := 1) hO dX3_valueOf_285 rfl ?_
              refine G_isub hO dX3_valueOf_286 ?_
              refine G_iload hO dX3_valueOf_287 rfl ?_
              refine G_iload hO dX3_valueOf_289 rfl ?_
              refine G_iadd hO dX3_valueOf_291 ?_
              refine G_iastore hO dX3_valueOf_292 ha3 c29 ?_
              refine GG.nmw (fun w59 e60 => ?_)
              have h := h w59 e60
              refine G_goto (tgt := 321) hO dX3_valueOf_293 (by decide) ?_
              refine G_iinc (v := (l5 + 1)) (lv2 := [some (.ref (gad Γ t)), some (.int p1), some (.ref (gad Γ a2)), some (.ref (gad Γ a3)), some (.int (l4 + (-1))), some (.int (l5 + 1)), some (.int l6), some (.int v30), some (.int (w a3 ((l4 + (-1))).toNatClampNeg))]) hO dX3_valueOf_321 rfl rfl (by decide) rfl rfl ?_
              refine G_goto (tgt := 15) hO dX3_valueOf_324 (by decide) ?_
              exact GG.sub (lv2 := [some (.ref (gad Γ t)), some (.int p1), some (.ref (gad Γ a2)), some (.ref (gad Γ a3)), some (.int (l4 + (-1))), some (.int (l5 + 1)), none, none, none]) ⟨rfl, ⟨rfl, ⟨rfl, ⟨rfl, ⟨rfl, ⟨rfl, trivial⟩⟩⟩⟩⟩⟩ h
            · by_cases em12 : l6 = (-12 : Int32)
              · have h := h.2.2.2.1 em12
                refine G_tabIn (tgt := 261) (j := 2) hO dX3_valueOf_155 (by decide) rfl (sweq em12 (by decide)) (by decide) ?_
                refine G_aload_n hO dX3_valueOf_261 rfl rfl ?_
                refine G_iload hO dX3_valueOf_262 rfl ?_
                refine G_iconst (v := 1) hO dX3_valueOf_264 rfl ?_
                refine G_isub hO dX3_valueOf_265 ?_
                refine G_iload hO dX3_valueOf_266 rfl ?_
                refine G_iload hO dX3_valueOf_268 rfl ?_
                refine G_icmp_ne (tgt := 277) hO dX3_valueOf_270 (by decide) (fun c54 => ?_) (fun c54 => ?_)
                · have h := h.1 c54
                  refine G_iconst (v := 0) hO dX3_valueOf_277 rfl ?_
                  refine G_iastore hO dX3_valueOf_278 ha3 c29 ?_
                  refine GG.nmw (fun w55 e56 => ?_)
                  have h := h w55 e56
                  refine G_goto (tgt := 321) hO dX3_valueOf_279 (by decide) ?_
                  refine G_iinc (v := (l5 + 1)) (lv2 := [some (.ref (gad Γ t)), some (.int p1), some (.ref (gad Γ a2)), some (.ref (gad Γ a3)), some (.int (l4 + (-1))), some (.int (l5 + 1)), some (.int l6), some (.int v30), some (.int (w a3 ((l4 + (-1))).toNatClampNeg))]) hO dX3_valueOf_321 rfl rfl (by decide) rfl rfl ?_
                  refine G_goto (tgt := 15) hO dX3_valueOf_324 (by decide) ?_
                  exact GG.sub (lv2 := [some (.ref (gad Γ t)), some (.int p1), some (.ref (gad Γ a2)), some (.ref (gad Γ a3)), some (.int (l4 + (-1))), some (.int (l5 + 1)), none, none, none]) ⟨rfl, ⟨rfl, ⟨rfl, ⟨rfl, ⟨rfl, ⟨rfl, trivial⟩⟩⟩⟩⟩⟩ h
                · have h := h.2 c54
                  refine G_iconst (v := 1) hO dX3_valueOf_273 rfl ?_
                  refine G_goto (tgt := 278) hO dX3_valueOf_274 (by decide) ?_
                  refine G_iastore hO dX3_valueOf_278 ha3 c29 ?_
                  refine GG.nmw (fun w57 e58 => ?_)
                  have h := h w57 e58
                  refine G_goto (tgt := 321) hO dX3_valueOf_279 (by decide) ?_
                  refine G_iinc (v := (l5 + 1)) (lv2 := [some (.ref (gad Γ t)), some (.int p1), some (.ref (gad Γ a2)), some (.ref (gad Γ a3)), some (.int (l4 + (-1))), some (.int (l5 + 1)), some (.int l6), some (.int v30), some (.int (w a3 ((l4 + (-1))).toNatClampNeg))]) hO dX3_valueOf_321 rfl rfl (by decide) rfl rfl ?_
                  refine G_goto (tgt := 15) hO dX3_valueOf_324 (by decide) ?_
                  exact GG.sub (lv2 := [some (.ref (gad Γ t)), some (.int p1), some (.ref (gad Γ a2)), some (.ref (gad Γ a3)), some (.int (l4 + (-1))), some (.int (l5 + 1)), none, none, none]) ⟨rfl, ⟨rfl, ⟨rfl, ⟨rfl, ⟨rfl, ⟨rfl, trivial⟩⟩⟩⟩⟩⟩ h
              · by_cases em11 : l6 = (-11 : Int32)
                · have h := h.2.2.1 em11
                  refine G_tabIn (tgt := 240) (j := 3) hO dX3_valueOf_155 (by decide) rfl (sweq em11 (by decide)) (by decide) ?_
                  refine G_aload_n hO dX3_valueOf_240 rfl rfl ?_
                  refine G_iload hO dX3_valueOf_241 rfl ?_
                  refine G_iconst (v := 1) hO dX3_valueOf_243 rfl ?_
                  refine G_isub hO dX3_valueOf_244 ?_
                  refine G_iload hO dX3_valueOf_245 rfl ?_
                  refine G_iload hO dX3_valueOf_247 rfl ?_
                  refine G_icmp_ge (tgt := 256) hO dX3_valueOf_249 (by decide) (fun c49 => ?_) (fun c49 => ?_)
                  · have h := h.1 c49
                    refine G_iconst (v := 0) hO dX3_valueOf_256 rfl ?_
                    refine G_iastore hO dX3_valueOf_257 ha3 c29 ?_
                    refine GG.nmw (fun w50 e51 => ?_)
                    have h := h w50 e51
                    refine G_goto (tgt := 321) hO dX3_valueOf_258 (by decide) ?_
                    refine G_iinc (v := (l5 + 1)) (lv2 := [some (.ref (gad Γ t)), some (.int p1), some (.ref (gad Γ a2)), some (.ref (gad Γ a3)), some (.int (l4 + (-1))), some (.int (l5 + 1)), some (.int l6), some (.int v30), some (.int (w a3 ((l4 + (-1))).toNatClampNeg))]) hO dX3_valueOf_321 rfl rfl (by decide) rfl rfl ?_
                    refine G_goto (tgt := 15) hO dX3_valueOf_324 (by decide) ?_
                    exact GG.sub (lv2 := [some (.ref (gad Γ t)), some (.int p1), some (.ref (gad Γ a2)), some (.ref (gad Γ a3)), some (.int (l4 + (-1))), some (.int (l5 + 1)), none, none, none]) ⟨rfl, ⟨rfl, ⟨rfl, ⟨rfl, ⟨rfl, ⟨rfl, trivial⟩⟩⟩⟩⟩⟩ h
                  · have h := h.2 c49
                    refine G_iconst (v := 1) hO dX3_valueOf_252 rfl ?_
                    refine G_goto (tgt := 257) hO dX3_valueOf_253 (by decide) ?_
                    refine G_iastore hO dX3_valueOf_257 ha3 c29 ?_
                    refine GG.nmw (fun w52 e53 => ?_)
                    have h := h w52 e53
                    refine G_goto (tgt := 321) hO dX3_valueOf_258 (by decide) ?_
                    refine G_iinc (v := (l5 + 1)) (lv2 := [some (.ref (gad Γ t)), some (.int p1), some (.ref (gad Γ a2)), some (.ref (gad Γ a3)), some (.int (l4 + (-1))), some (.int (l5 + 1)), some (.int l6), some (.int v30), some (.int (w a3 ((l4 + (-1))).toNatClampNeg))]) hO dX3_valueOf_321 rfl rfl (by decide) rfl rfl ?_
                    refine G_goto (tgt := 15) hO dX3_valueOf_324 (by decide) ?_
                    exact GG.sub (lv2 := [some (.ref (gad Γ t)), some (.int p1), some (.ref (gad Γ a2)), some (.ref (gad Γ a3)), some (.int (l4 + (-1))), some (.int (l5 + 1)), none, none, none]) ⟨rfl, ⟨rfl, ⟨rfl, ⟨rfl, ⟨rfl, ⟨rfl, trivial⟩⟩⟩⟩⟩⟩ h
                · by_cases em10 : l6 = (-10 : Int32)
                  · have h := h.2.1 em10
                    refine G_tabIn (tgt := 216) (j := 4) hO dX3_valueOf_155 (by decide) rfl (sweq em10 (by decide)) (by decide) ?_
                    refine G_aload_n hO dX3_valueOf_216 rfl rfl ?_
                    refine G_iload hO dX3_valueOf_217 rfl ?_
                    refine G_iconst (v := 1) hO dX3_valueOf_219 rfl ?_
                    refine G_isub hO dX3_valueOf_220 ?_
                    refine G_iload hO dX3_valueOf_221 rfl ?_
                    refine G_if_eq (tgt := 235) hO dX3_valueOf_223 (by decide) (fun c41 => ?_) (fun c41 => ?_)
                    · have h := h.1 c41
                      refine G_iconst (v := 0) hO dX3_valueOf_235 rfl ?_
                      refine G_iastore hO dX3_valueOf_236 ha3 c29 ?_
                      refine GG.nmw (fun w42 e43 => ?_)
                      have h := h w42 e43
                      refine G_goto (tgt := 321) hO dX3_valueOf_237 (by decide) ?_
                      refine G_iinc (v := (l5 + 1)) (lv2 := [some (.ref (gad Γ t)), some (.int p1), some (.ref (gad Γ a2)), some (.ref (gad Γ a3)), some (.int (l4 + (-1))), some (.int (l5 + 1)), some (.int l6), some (.int v30), some (.int (w a3 ((l4 + (-1))).toNatClampNeg))]) hO dX3_valueOf_321 rfl rfl (by decide) rfl rfl ?_
                      refine G_goto (tgt := 15) hO dX3_valueOf_324 (by decide) ?_
                      exact GG.sub (lv2 := [some (.ref (gad Γ t)), some (.int p1), some (.ref (gad Γ a2)), some (.ref (gad Γ a3)), some (.int (l4 + (-1))), some (.int (l5 + 1)), none, none, none]) ⟨rfl, ⟨rfl, ⟨rfl, ⟨rfl, ⟨rfl, ⟨rfl, trivial⟩⟩⟩⟩⟩⟩ h
                    · have h := h.2 c41
                      refine G_iload hO dX3_valueOf_226 rfl ?_
                      refine G_if_eq (tgt := 235) hO dX3_valueOf_228 (by decide) (fun c44 => ?_) (fun c44 => ?_)
                      · have h := h.1 c44
                        refine G_iconst (v := 0) hO dX3_valueOf_235 rfl ?_
                        refine G_iastore hO dX3_valueOf_236 ha3 c29 ?_
                        refine GG.nmw (fun w45 e46 => ?_)
                        have h := h w45 e46
                        refine G_goto (tgt := 321) hO dX3_valueOf_237 (by decide) ?_
                        refine G_iinc (v := (l5 + 1)) (lv2 := [some (.ref (gad Γ t)), some (.int p1), some (.ref (gad Γ a2)), some (.ref (gad Γ a3)), some (.int (l4 + (-1))), some (.int (l5 + 1)), some (.int l6), some (.int v30), some (.int (w a3 ((l4 + (-1))).toNatClampNeg))]) hO dX3_valueOf_321 rfl rfl (by decide) rfl rfl ?_
                        refine G_goto (tgt := 15) hO dX3_valueOf_324 (by decide) ?_
                        exact GG.sub (lv2 := [some (.ref (gad Γ t)), some (.int p1), some (.ref (gad Γ a2)), some (.ref (gad Γ a3)), some (.int (l4 + (-1))), some (.int (l5 + 1)), none, none, none]) ⟨rfl, ⟨rfl, ⟨rfl, ⟨rfl, ⟨rfl, ⟨rfl, trivial⟩⟩⟩⟩⟩⟩ h
                      · have h := h.2 c44
                        refine G_iconst (v := 1) hO dX3_valueOf_231 rfl ?_
                        refine G_goto (tgt := 236) hO dX3_valueOf_232 (by decide) ?_
                        refine G_iastore hO dX3_valueOf_236 ha3 c29 ?_
                        refine GG.nmw (fun w47 e48 => ?_)
                        have h := h w47 e48
                        refine G_goto (tgt := 321) hO dX3_valueOf_237 (by decide) ?_
                        refine G_iinc (v := (l5 + 1)) (lv2 := [some (.ref (gad Γ t)), some (.int p1), some (.ref (gad Γ a2)), some (.ref (gad Γ a3)), some (.int (l4 + (-1))), some (.int (l5 + 1)), some (.int l6), some (.int v30), some (.int (w a3 ((l4 + (-1))).toNatClampNeg))]) hO dX3_valueOf_321 rfl rfl (by decide) rfl rfl ?_
                        refine G_goto (tgt := 15) hO dX3_valueOf_324 (by decide) ?_
                        exact GG.sub (lv2 := [some (.ref (gad Γ t)), some (.int p1), some (.ref (gad Γ a2)), some (.ref (gad Γ a3)), some (.int (l4 + (-1))), some (.int (l5 + 1)), none, none, none]) ⟨rfl, ⟨rfl, ⟨rfl, ⟨rfl, ⟨rfl, ⟨rfl, trivial⟩⟩⟩⟩⟩⟩ h
                  · by_cases em9 : l6 = (-9 : Int32)
                    · have h := h.1 em9
                      refine G_tabIn (tgt := 192) (j := 5) hO dX3_valueOf_155 (by decide) rfl (sweq em9 (by decide)) (by decide) ?_
                      refine G_aload_n hO dX3_valueOf_192 rfl rfl ?_
                      refine G_iload hO dX3_valueOf_193 rfl ?_
                      refine G_iconst (v := 1) hO dX3_valueOf_195 rfl ?_
                      refine G_isub hO dX3_valueOf_196 ?_
                      refine G_iload hO dX3_valueOf_197 rfl ?_
                      refine G_if_ne (tgt := 207) hO dX3_valueOf_199 (by decide) (fun c33 => ?_) (fun c33 => ?_)
                      · have h := h.1 c33
                        refine G_iconst (v := 1) hO dX3_valueOf_207 rfl ?_
                        refine G_goto (tgt := 212) hO dX3_valueOf_208 (by decide) ?_
                        refine G_iastore hO dX3_valueOf_212 ha3 c29 ?_
                        refine GG.nmw (fun w34 e35 => ?_)
                        have h := h w34 e35
                        refine G_goto (tgt := 321) hO dX3_valueOf_213 (by decide) ?_
                        refine G_iinc (v := (l5 + 1)) (lv2 := [some (.ref (gad Γ t)), some (.int p1), some (.ref (gad Γ a2)), some (.ref (gad Γ a3)), some (.int (l4 + (-1))), some (.int (l5 + 1)), some (.int l6), some (.int v30), some (.int (w a3 ((l4 + (-1))).toNatClampNeg))]) hO dX3_valueOf_321 rfl rfl (by decide) rfl rfl ?_
                        refine G_goto (tgt := 15) hO dX3_valueOf_324 (by decide) ?_
                        exact GG.sub (lv2 := [some (.ref (gad Γ t)), some (.int p1), some (.ref (gad Γ a2)), some (.ref (gad Γ a3)), some (.int (l4 + (-1))), some (.int (l5 + 1)), none, none, none]) ⟨rfl, ⟨rfl, ⟨rfl, ⟨rfl, ⟨rfl, ⟨rfl, trivial⟩⟩⟩⟩⟩⟩ h
                      · have h := h.2 c33
                        refine G_iload hO dX3_valueOf_202 rfl ?_
                        refine G_if_eq (tgt := 211) hO dX3_valueOf_204 (by decide) (fun c36 => ?_) (fun c36 => ?_)
                        · have h := h.1 c36
                          refine G_iconst (v := 0) hO dX3_valueOf_211 rfl ?_
                          refine G_iastore hO dX3_valueOf_212 ha3 c29 ?_
                          refine GG.nmw (fun w37 e38 => ?_)
                          have h := h w37 e38
                          refine G_goto (tgt := 321) hO dX3_valueOf_213 (by decide) ?_
                          refine G_iinc (v := (l5 + 1)) (lv2 := [some (.ref (gad Γ t)), some (.int p1), some (.ref (gad Γ a2)), some (.ref (gad Γ a3)), some (.int (l4 + (-1))), some (.int (l5 + 1)), some (.int l6), some (.int v30), some (.int (w a3 ((l4 + (-1))).toNatClampNeg))]) hO dX3_valueOf_321 rfl rfl (by decide) rfl rfl ?_
                          refine G_goto (tgt := 15) hO dX3_valueOf_324 (by decide) ?_
                          exact GG.sub (lv2 := [some (.ref (gad Γ t)), some (.int p1), some (.ref (gad Γ a2)), some (.ref (gad Γ a3)), some (.int (l4 + (-1))), some (.int (l5 + 1)), none, none, none]) ⟨rfl, ⟨rfl, ⟨rfl, ⟨rfl, ⟨rfl, ⟨rfl, trivial⟩⟩⟩⟩⟩⟩ h
                        · have h := h.2 c36
                          refine G_iconst (v := 1) hO dX3_valueOf_207 rfl ?_
                          refine G_goto (tgt := 212) hO dX3_valueOf_208 (by decide) ?_
                          refine G_iastore hO dX3_valueOf_212 ha3 c29 ?_
                          refine GG.nmw (fun w39 e40 => ?_)
                          have h := h w39 e40
                          refine G_goto (tgt := 321) hO dX3_valueOf_213 (by decide) ?_
                          refine G_iinc (v := (l5 + 1)) (lv2 := [some (.ref (gad Γ t)), some (.int p1), some (.ref (gad Γ a2)), some (.ref (gad Γ a3)), some (.int (l4 + (-1))), some (.int (l5 + 1)), some (.int l6), some (.int v30), some (.int (w a3 ((l4 + (-1))).toNatClampNeg))]) hO dX3_valueOf_321 rfl rfl (by decide) rfl rfl ?_
                          refine G_goto (tgt := 15) hO dX3_valueOf_324 (by decide) ?_
                          exact GG.sub (lv2 := [some (.ref (gad Γ t)), some (.int p1), some (.ref (gad Γ a2)), some (.ref (gad Γ a3)), some (.int (l4 + (-1))), some (.int (l5 + 1)), none, none, none]) ⟨rfl, ⟨rfl, ⟨rfl, ⟨rfl, ⟨rfl, ⟨rfl, trivial⟩⟩⟩⟩⟩⟩ h
                    · have h := h.2.2.2.2.2.2 ⟨em14, em13, em12, em11, em10, em9⟩
                      refine G_tabOut (tgt := 310) hO dX3_valueOf_155 (by decide) (by decide) (fun j hj => ?_) ?_
                      · rcases (show j = 0 ∨ j = 1 ∨ j = 2 ∨ j = 3 ∨ j = 4 ∨ j = 5 from by have : j < 6 := hj; omega) with rfl | rfl | rfl | rfl | rfl | rfl
                        · exact swne em14 (by decide)
                        · exact swne em13 (by decide)
                        · exact swne em12 (by decide)
                        · exact swne em11 (by decide)
                        · exact swne em10 (by decide)
                        · exact swne em9 (by decide)
                      · refine G_aload_n hO dX3_valueOf_310 rfl rfl ?_
                        refine G_iload hO dX3_valueOf_311 rfl ?_
                        refine G_iconst (v := 1) hO dX3_valueOf_313 rfl ?_
                        refine G_isub hO dX3_valueOf_314 ?_
                        refine G_iload hO dX3_valueOf_315 rfl ?_
                        refine G_iload hO dX3_valueOf_317 rfl ?_
                        refine G_imul hO dX3_valueOf_319 ?_
                        refine G_iastore hO dX3_valueOf_320 ha3 c29 ?_
                        refine GG.nmw (fun w63 e64 => ?_)
                        have h := h w63 e64
                        refine G_iinc (v := (l5 + 1)) (lv2 := [some (.ref (gad Γ t)), some (.int p1), some (.ref (gad Γ a2)), some (.ref (gad Γ a3)), some (.int (l4 + (-1))), some (.int (l5 + 1)), some (.int l6), some (.int v30), some (.int (w a3 ((l4 + (-1))).toNatClampNeg))]) hO dX3_valueOf_321 rfl rfl (by decide) rfl rfl ?_
                        refine G_goto (tgt := 15) hO dX3_valueOf_324 (by decide) ?_
                        exact GG.sub (lv2 := [some (.ref (gad Γ t)), some (.int p1), some (.ref (gad Γ a2)), some (.ref (gad Γ a3)), some (.int (l4 + (-1))), some (.int (l5 + 1)), none, none, none]) ⟨rfl, ⟨rfl, ⟨rfl, ⟨rfl, ⟨rfl, ⟨rfl, trivial⟩⟩⟩⟩⟩⟩ h)
  refine G_iconst (v := 0) hO dX3_valueOf_0 rfl ?_
  refine G_istore (lv2 := [some (.ref (gad Γ t)), some (.int p1), some (.ref (gad Γ a2)), some (.ref (gad Γ a3)), some (.int (0 : Int32)), none, none, none, none]) hO dX3_valueOf_1 (by decide) rfl rfl ?_
  refine G_aload_n hO dX3_valueOf_3 rfl rfl ?_
  refine G_iconst (v := 0) hO dX3_valueOf_4 rfl ?_
  refine G_iconst (v := 0) hO dX3_valueOf_5 rfl ?_
  refine G_iastore hO dX3_valueOf_6 ha3 (by unfold vp_in; decide) ?_
  refine GG.nmw (fun w1 e2 => ?_)
  have h := h w1 e2
  refine G_aload_n hO dX3_valueOf_7 rfl rfl ?_
  refine gr_X3_15 (c := (t + 2)) hO dX3_valueOf_8 hT.1 rfl ?_
  refine G_iload_n hO dX3_valueOf_11 rfl rfl ?_
  obtain ⟨c3, h⟩ := h
  refine G_iaload hO dX3_valueOf_12 hT.2.2 c3 ?_
  refine G_istore (lv2 := [some (.ref (gad Γ t)), some (.int p1), some (.ref (gad Γ a2)), some (.ref (gad Γ a3)), some (.int (0 : Int32)), some (.int (w1 (t + 2) (p1).toNatClampNeg)), none, none, none]) hO dX3_valueOf_13 (by decide) rfl rfl ?_
  exact GG.sub (lv2 := [some (.ref (gad Γ t)), some (.int p1), some (.ref (gad Γ a2)), some (.ref (gad Γ a3)), some (.int (0 : Int32)), some (.int (w1 (t + 2) (p1).toNatClampNeg)), none, none, none]) ⟨rfl, ⟨rfl, ⟨rfl, ⟨rfl, ⟨rfl, ⟨rfl, trivial⟩⟩⟩⟩⟩⟩ h
def wp_X2_isMissing (Γ : Gx) (d : Nat) (t : Nat) (w : Wd) (Q : Int32 → Wd → Prop) : Prop :=
  ((¬ (w t 1) = (-1 : Int32) → Q (0 : Int32) w) ∧ ((w t 1) = (-1 : Int32) → Q (1 : Int32) w))
set_option maxRecDepth 20000 in
theorem con_X2_isMissing {Γ : Gx} {d : Nat} (hG : GC Γ) {t : Nat} (hT : ShS Γ t) {w : Wd} {Q : Int32 → Wd → Prop} (h : wp_X2_isMissing Γ d t w Q) : CI Γ (d + 1) M_X2_isMissing [.ref (gad Γ t)] w Q := by
  have hC := hG.2.1
  refine Con.of RX2 cX2_isMissing 1 (some .boolean) [some (.ref (gad Γ t))] rfl rfl (by decide +kernel) hG.1 (catR cat0) (Nat.le_of_ble_eq_true rfl) rfl ?_
  intro X hO
  refine G_aload_n hO dX2_isMissing_0 rfl rfl ?_
  refine gi_X2_15 hO dX2_isMissing_1 hT.1 rfl ?_
  refine G_iconst (v := -1) hO dX2_isMissing_4 rfl ?_
  refine G_icmp_ne (tgt := 12) hO dX2_isMissing_5 (by decide) (fun c1 => ?_) (fun c1 => ?_)
  · have h := h.1 c1
    refine G_iconst (v := 0) hO dX2_isMissing_12 rfl ?_
    exact G_iret hO dX2_isMissing_13 rfl rfl (QI.i h)
  · have h := h.2 c1
    refine G_iconst (v := 1) hO dX2_isMissing_8 rfl ?_
    refine G_goto (tgt := 13) hO dX2_isMissing_9 (by decide) ?_
    exact G_iret hO dX2_isMissing_13 rfl rfl (QI.i h)
def wp_X2_clear (Γ : Gx) (d : Nat) (t : Nat) (p1 : Int32) (p2 : Int32) (w : Wd) (Q : Wd → Prop) : Prop :=
  ∀ (P_12 : Int32 → Wd → Prop),
  (∀ (l3 : Int32) (w : Wd), (((40 : Int32) ≤ l3 → Q w) ∧ (¬ (40 : Int32) ≤ l3 → (vp_in l3 40 ∧ (∀ w7 : Wd, w7 = wset w (t + 1) (l3).toNatClampNeg (0 : Int32) → P_12 (l3 + 1) w7)))) → P_12 l3 w) →
  (∀ w1 : Wd, w1 = wset w t 1 p1 → (∀ w3 : Wd, w3 = wset w1 t 2 p2 → P_12 (0 : Int32) w3))
set_option maxRecDepth 20000 in
theorem con_X2_clear {Γ : Gx} {d : Nat} (hG : GC Γ) {t : Nat} {p1 : Int32} {p2 : Int32} (hT : ShS Γ t) {w : Wd} {Q : Wd → Prop} (h : wp_X2_clear Γ d t p1 p2 w Q) : CV Γ (d + 1) M_X2_clear [.ref (gad Γ t), .int p1, .int p2] w Q := by
  have hC := hG.2.1
  refine Con.of RX2 cX2_clear 4 none [some (.ref (gad Γ t)), some (.int p1), some (.int p2), none] rfl rfl (by decide +kernel) hG.1 (catR (catI (catI cat0))) (Nat.le_of_ble_eq_true rfl) rfl ?_
  intro X hO
  have h := h
    (fun (l3 : Int32) (w : Wd) => GG Γ X (d + 1) 4 (QV Q) 12 [some (.ref (gad Γ t)), none, none, some (.int l3)] [] w)
    (by
        intro l3 w h
        refine G_iload_n hO dX2_clear_12 rfl rfl ?_
        refine G_bipush (v := 40) hO dX2_clear_13 rfl ?_
        refine G_icmp_ge (tgt := 31) hO dX2_clear_15 (by decide) (fun c5 => ?_) (fun c5 => ?_)
        · have h := h.1 c5
          exact G_vret hO dX2_clear_31 rfl (QV.i h)
        · have h := h.2 c5
          refine G_aload_n hO dX2_clear_18 rfl rfl ?_
          refine gr_X2_9 (c := (t + 1)) hO dX2_clear_19 hT.1 rfl ?_
          refine G_iload_n hO dX2_clear_22 rfl rfl ?_
          refine G_iconst (v := 0) hO dX2_clear_23 rfl ?_
          obtain ⟨c6, h⟩ := h
          refine G_iastore hO dX2_clear_24 hT.2 c6 ?_
          refine GG.nmw (fun w7 e8 => ?_)
          have h := h w7 e8
          refine G_iinc (v := (l3 + 1)) (lv2 := [some (.ref (gad Γ t)), none, none, some (.int (l3 + 1))]) hO dX2_clear_25 rfl rfl (by decide) rfl rfl ?_
          refine G_goto (tgt := 12) hO dX2_clear_28 (by decide) ?_
          exact GG.sub (lv2 := [some (.ref (gad Γ t)), none, none, some (.int (l3 + 1))]) ⟨rfl, ⟨rfl, trivial⟩⟩ h)
  refine G_aload_n hO dX2_clear_0 rfl rfl ?_
  refine G_iload_n hO dX2_clear_1 rfl rfl ?_
  refine pi_X2_15 hO dX2_clear_2 hT.1 rfl ?_
  refine GG.nmw (fun w1 e2 => ?_)
  have h := h w1 e2
  refine G_aload_n hO dX2_clear_5 rfl rfl ?_
  refine G_iload_n hO dX2_clear_6 rfl rfl ?_
  refine pi_X2_19 hO dX2_clear_7 hT.1 rfl ?_
  refine GG.nmw (fun w3 e4 => ?_)
  have h := h w3 e4
  refine G_iconst (v := 0) hO dX2_clear_10 rfl ?_
  refine G_istore_n (lv2 := [some (.ref (gad Γ t)), some (.int p1), some (.int p2), some (.int (0 : Int32))]) hO dX2_clear_11 rfl (by decide) rfl rfl ?_
  exact GG.sub (lv2 := [some (.ref (gad Γ t)), none, none, some (.int (0 : Int32))]) ⟨rfl, ⟨rfl, trivial⟩⟩ h
def wp_X2_hasItem (Γ : Gx) (d : Nat) (t : Nat) (p1 : Int32) (w : Wd) (Q : Int32 → Wd → Prop) : Prop :=
  ((p1 < 0 → Q (0 : Int32) w) ∧ (¬ p1 < 0 → (((w t 2) ≤ p1 → Q (0 : Int32) w) ∧ (¬ (w t 2) ≤ p1 → Q (1 : Int32) w))))
set_option maxRecDepth 20000 in
theorem con_X2_hasItem {Γ : Gx} {d : Nat} (hG : GC Γ) {t : Nat} {p1 : Int32} (hT : ShS Γ t) {w : Wd} {Q : Int32 → Wd → Prop} (h : wp_X2_hasItem Γ d t p1 w Q) : CI Γ (d + 1) M_X2_hasItem [.ref (gad Γ t), .int p1] w Q := by
  have hC := hG.2.1
  refine Con.of RX2 cX2_hasItem 2 (some .boolean) [some (.ref (gad Γ t)), some (.int p1)] rfl rfl (by decide +kernel) hG.1 (catR (catI cat0)) (Nat.le_of_ble_eq_true rfl) rfl ?_
  intro X hO
  refine G_iload_n hO dX2_hasItem_0 rfl rfl ?_
  refine G_if_lt (tgt := 16) hO dX2_hasItem_1 (by decide) (fun c1 => ?_) (fun c1 => ?_)
  · have h := h.1 c1
    refine G_iconst (v := 0) hO dX2_hasItem_16 rfl ?_
    exact G_iret hO dX2_hasItem_17 rfl rfl (QI.i h)
  · have h := h.2 c1
    refine G_iload_n hO dX2_hasItem_4 rfl rfl ?_
    refine G_aload_n hO dX2_hasItem_5 rfl rfl ?_
    refine gi_X2_19 hO dX2_hasItem_6 hT.1 rfl ?_
    refine G_icmp_ge (tgt := 16) hO dX2_hasItem_9 (by decide) (fun c2 => ?_) (fun c2 => ?_)
    · have h := h.1 c2
      refine G_iconst (v := 0) hO dX2_hasItem_16 rfl ?_
      exact G_iret hO dX2_hasItem_17 rfl rfl (QI.i h)
    · have h := h.2 c2
      refine G_iconst (v := 1) hO dX2_hasItem_12 rfl ?_
      refine G_goto (tgt := 17) hO dX2_hasItem_13 (by decide) ?_
      exact G_iret hO dX2_hasItem_17 rfl rfl (QI.i h)
def wp_X2_hasPiece (Γ : Gx) (d : Nat) (t : Nat) (p1 : Int32) (p2 : Int32) (w : Wd) (Q : Int32 → Wd → Prop) : Prop :=
  ((p1 < 0 → Q (0 : Int32) w) ∧ (¬ p1 < 0 → ((p2 < 0 → Q (0 : Int32) w) ∧ (¬ p2 < 0 → ((((w t 2) - p2) < p1 → Q (0 : Int32) w) ∧ (¬ ((w t 2) - p2) < p1 → Q (1 : Int32) w))))))
set_option maxRecDepth 20000 in
theorem con_X2_hasPiece {Γ : Gx} {d : Nat} (hG : GC Γ) {t : Nat} {p1 : Int32} {p2 : Int32} (hT : ShS Γ t) {w : Wd} {Q : Int32 → Wd → Prop} (h : wp_X2_hasPiece Γ d t p1 p2 w Q) : CI Γ (d + 1) M_X2_hasPiece [.ref (gad Γ t), .int p1, .int p2] w Q := by
  have hC := hG.2.1
  refine Con.of RX2 cX2_hasPiece 3 (some .boolean) [some (.ref (gad Γ t)), some (.int p1), some (.int p2)] rfl rfl (by decide +kernel) hG.1 (catR (catI (catI cat0))) (Nat.le_of_ble_eq_true rfl) rfl ?_
  intro X hO
  refine G_iload_n hO dX2_hasPiece_0 rfl rfl ?_
  refine G_if_lt (tgt := 22) hO dX2_hasPiece_1 (by decide) (fun c1 => ?_) (fun c1 => ?_)
  · have h := h.1 c1
    refine G_iconst (v := 0) hO dX2_hasPiece_22 rfl ?_
    exact G_iret hO dX2_hasPiece_23 rfl rfl (QI.i h)
  · have h := h.2 c1
    refine G_iload_n hO dX2_hasPiece_4 rfl rfl ?_
    refine G_if_lt (tgt := 22) hO dX2_hasPiece_5 (by decide) (fun c2 => ?_) (fun c2 => ?_)
    · have h := h.1 c2
      refine G_iconst (v := 0) hO dX2_hasPiece_22 rfl ?_
      exact G_iret hO dX2_hasPiece_23 rfl rfl (QI.i h)
    · have h := h.2 c2
      refine G_iload_n hO dX2_hasPiece_8 rfl rfl ?_
      refine G_aload_n hO dX2_hasPiece_9 rfl rfl ?_
      refine gi_X2_19 hO dX2_hasPiece_10 hT.1 rfl ?_
      refine G_iload_n hO dX2_hasPiece_13 rfl rfl ?_
      refine G_isub hO dX2_hasPiece_14 ?_
      refine G_icmp_gt (tgt := 22) hO dX2_hasPiece_15 (by decide) (fun c3 => ?_) (fun c3 => ?_)
      · have h := h.1 c3
        refine G_iconst (v := 0) hO dX2_hasPiece_22 rfl ?_
        exact G_iret hO dX2_hasPiece_23 rfl rfl (QI.i h)
      · have h := h.2 c3
        refine G_iconst (v := 1) hO dX2_hasPiece_18 rfl ?_
        refine G_goto (tgt := 23) hO dX2_hasPiece_19 (by decide) ?_
        exact G_iret hO dX2_hasPiece_23 rfl rfl (QI.i h)
def wp_X2_put (Γ : Gx) (d : Nat) (t : Nat) (p1 : Int32) (p2 : Int32) (w : Wd) (Q : Wd → Prop) : Prop :=
  ((((w t 1) = (0 : Int32)) → (vp_in p1 40 ∧ (∀ w2 : Wd, w2 = wset w (t + 1) (p1).toNatClampNeg (p2.toInt8.toInt32) → Q w2))) ∧ (((w t 1) = (1 : Int32)) → (vp_in p1 40 ∧ (∀ w5 : Wd, w5 = wset w (t + 1) (p1).toNatClampNeg (p2.toInt16.toInt32) → Q w5))) ∧ ((¬ (w t 1) = (0 : Int32) ∧ ¬ (w t 1) = (1 : Int32)) → (vp_in p1 40 ∧ (∀ w8 : Wd, w8 = wset w (t + 1) (p1).toNatClampNeg p2 → Q w8))))
set_option maxRecDepth 20000 in
theorem con_X2_put {Γ : Gx} {d : Nat} (hG : GC Γ) {t : Nat} {p1 : Int32} {p2 : Int32} (hT : ShS Γ t) {w : Wd} {Q : Wd → Prop} (h : wp_X2_put Γ d t p1 p2 w Q) : CV Γ (d + 1) M_X2_put [.ref (gad Γ t), .int p1, .int p2] w Q := by
  have hC := hG.2.1
  refine Con.of RX2 cX2_put 3 none [some (.ref (gad Γ t)), some (.int p1), some (.int p2)] rfl rfl (by decide +kernel) hG.1 (catR (catI (catI cat0))) (Nat.le_of_ble_eq_true rfl) rfl ?_
  intro X hO
  refine G_aload_n hO dX2_put_0 rfl rfl ?_
  refine gi_X2_15 hO dX2_put_1 hT.1 rfl ?_
  by_cases e0 : (w t 1) = (0 : Int32)
  · have h := h.1 e0
    refine G_lookIn (tgt := 32) (q := (0, 28)) hO dX2_put_4 (by decide) (sweq e0 (by decide)) rfl (by decide) ?_
    refine G_aload_n hO dX2_put_32 rfl rfl ?_
    refine gr_X2_9 (c := (t + 1)) hO dX2_put_33 hT.1 rfl ?_
    refine G_iload_n hO dX2_put_36 rfl rfl ?_
    refine G_iload_n hO dX2_put_37 rfl rfl ?_
    refine G_i2b hO dX2_put_38 ?_
    obtain ⟨c1, h⟩ := h
    refine G_iastore hO dX2_put_39 hT.2 c1 ?_
    refine GG.nmw (fun w2 e3 => ?_)
    have h := h w2 e3
    refine G_goto (tgt := 61) hO dX2_put_40 (by decide) ?_
    exact G_vret hO dX2_put_61 rfl (QV.i h)
  · by_cases e1 : (w t 1) = (1 : Int32)
    · have h := h.2.1 e1
      refine G_lookIn (tgt := 43) (q := (1, 39)) hO dX2_put_4 (by decide) (sweq e1 (by decide)) rfl (by decide) ?_
      refine G_aload_n hO dX2_put_43 rfl rfl ?_
      refine gr_X2_9 (c := (t + 1)) hO dX2_put_44 hT.1 rfl ?_
      refine G_iload_n hO dX2_put_47 rfl rfl ?_
      refine G_iload_n hO dX2_put_48 rfl rfl ?_
      refine G_i2s hO dX2_put_49 ?_
      obtain ⟨c4, h⟩ := h
      refine G_iastore hO dX2_put_50 hT.2 c4 ?_
      refine GG.nmw (fun w5 e6 => ?_)
      have h := h w5 e6
      refine G_goto (tgt := 61) hO dX2_put_51 (by decide) ?_
      exact G_vret hO dX2_put_61 rfl (QV.i h)
    · have h := h.2.2 ⟨e0, e1⟩
      refine G_lookOut (tgt := 54) hO dX2_put_4 (by decide) (by decide) (fun q hq => ?_) ?_
      · simp only [List.mem_cons, List.not_mem_nil, or_false] at hq
        rcases hq with rfl | rfl
        · exact swne e0 (by decide)
        · exact swne e1 (by decide)
      · refine G_aload_n hO dX2_put_54 rfl rfl ?_
        refine gr_X2_9 (c := (t + 1)) hO dX2_put_55 hT.1 rfl ?_
        refine G_iload_n hO dX2_put_58 rfl rfl ?_
        refine G_iload_n hO dX2_put_59 rfl rfl ?_
        obtain ⟨c7, h⟩ := h
        refine G_iastore hO dX2_put_60 hT.2 c7 ?_
        refine GG.nmw (fun w8 e9 => ?_)
        have h := h w8 e9
        exact G_vret hO dX2_put_61 rfl (QV.i h)
