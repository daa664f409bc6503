/-! what each method does, by program out of its bytecode (wp_..), and that the machine does it (con_..) -/
def wp_X0_becomeLike (Γ : Gx) (d : Nat) (f : Nat) (a1 : Nat) (w : Wd) (Q : Wd → Prop) : Prop :=
  ∀ (P_2 : Int32 → Wd → Prop),
  (∀ (l2 : Int32) (w : Wd), (((5 : Int32) ≤ l2 → (∀ w2 : Wd, w2 = wset w f 4 (w a1 4) → (∀ w4 : Wd, w4 = wset w2 f 5 (w2 a1 5) → (∀ w6 : Wd, w6 = wset w4 f 6 (w4 a1 6) → (∀ w8 : Wd, w8 = wset w6 f 7 (w6 a1 7) → (∀ w10 : Wd, w10 = wset w8 f 8 (w8 a1 8) → Q w10)))))) ∧ (¬ (5 : Int32) ≤ l2 → (vp_in l2 5 ∧ (∀ w13 : Wd, w13 = wset w (f + 1) (l2).toNatClampNeg (w (a1 + 1) (l2).toNatClampNeg) → (∀ w15 : Wd, w15 = wset w13 (f + 2) (l2).toNatClampNeg (w13 (a1 + 2) (l2).toNatClampNeg) → (∀ w17 : Wd, w17 = wset w15 (f + 3) (l2).toNatClampNeg (w15 (a1 + 3) (l2).toNatClampNeg) → P_2 (l2 + 1) w17)))))) → P_2 l2 w) →
  P_2 (0 : Int32) w
set_option maxRecDepth 20000 in
theorem con_X0_becomeLike {Γ : Gx} {d : Nat} (hG : GC Γ) {f : Nat} {a1 : Nat} (hF : ShF Γ f) (ha1 : ShF Γ a1) {w : Wd} {Q : Wd → Prop} (h : wp_X0_becomeLike Γ d f a1 w Q) : CV Γ (d + 1) M_X0_becomeLike [.ref (gad Γ f), .ref (gad Γ a1)] w Q := by
  have hC := hG.2.1
  refine Con.of RX0 cX0_becomeLike 3 none [some (.ref (gad Γ f)), some (.ref (gad Γ a1)), none] rfl rfl (by decide +kernel) hG.1 (catR (catR cat0)) (Nat.le_of_ble_eq_true rfl) rfl ?_
  intro X hO
  have h := h
    (fun (l2 : Int32) (w : Wd) => GG Γ X (d + 1) 3 (QV Q) 2 [some (.ref (gad Γ f)), some (.ref (gad Γ a1)), some (.int l2)] [] w)
    (by
        intro l2 w h
        refine G_iload_n hO dX0_becomeLike_2 rfl rfl ?_
        refine G_iconst (v := 5) hO dX0_becomeLike_3 rfl ?_
        refine G_icmp_ge (tgt := 49) hO dX0_becomeLike_4 (by decide) (fun c1 => ?_) (fun c1 => ?_)
        · have h := h.1 c1
          refine G_aload_n hO dX0_becomeLike_49 rfl rfl ?_
          refine G_aload_n hO dX0_becomeLike_50 rfl rfl ?_
          refine gi_X0_41 hO dX0_becomeLike_51 ha1.1 rfl ?_
          refine pi_X0_41 hO dX0_becomeLike_54 hF.1 rfl ?_
          refine GG.nmw (fun w2 e3 => ?_)
          have h := h w2 e3
          refine G_aload_n hO dX0_becomeLike_57 rfl rfl ?_
          refine G_aload_n hO dX0_becomeLike_58 rfl rfl ?_
          refine gi_X0_24 hO dX0_becomeLike_59 ha1.1 rfl ?_
          refine pi_X0_24 hO dX0_becomeLike_62 hF.1 rfl ?_
          refine GG.nmw (fun w4 e5 => ?_)
          have h := h w4 e5
          refine G_aload_n hO dX0_becomeLike_65 rfl rfl ?_
          refine G_aload_n hO dX0_becomeLike_66 rfl rfl ?_
          refine gi_X0_44 hO dX0_becomeLike_67 ha1.1 rfl ?_
          refine pi_X0_44 hO dX0_becomeLike_70 hF.1 rfl ?_
          refine GG.nmw (fun w6 e7 => ?_)
          have h := h w6 e7
          refine GG.atpc (pc2 := 73) rfl ?_
          refine G_aload_n hO dX0_becomeLike_73 rfl rfl ?_
          refine G_aload_n hO dX0_becomeLike_74 rfl rfl ?_
          refine gi_X0_47 hO dX0_becomeLike_75 ha1.1 rfl ?_
          refine pi_X0_47 hO dX0_becomeLike_78 hF.1 rfl ?_
          refine GG.nmw (fun w8 e9 => ?_)
          have h := h w8 e9
          refine G_aload_n hO dX0_becomeLike_81 rfl rfl ?_
          refine G_aload_n hO dX0_becomeLike_82 rfl rfl ?_
          refine gi_X0_28 hO dX0_becomeLike_83 ha1.1 rfl ?_
          refine pi_X0_28 hO dX0_becomeLike_86 hF.1 rfl ?_
          refine GG.nmw (fun w10 e11 => ?_)
          have h := h w10 e11
          exact G_vret hO dX0_becomeLike_89 rfl (QV.i h)
        · have h := h.2 c1
          refine G_aload_n hO dX0_becomeLike_7 rfl rfl ?_
          refine gr_X0_9 (c := (f + 1)) hO dX0_becomeLike_8 hF.1 rfl ?_
          refine G_iload_n hO dX0_becomeLike_11 rfl rfl ?_
          refine G_aload_n hO dX0_becomeLike_12 rfl rfl ?_
          refine gr_X0_9 (c := (a1 + 1)) hO dX0_becomeLike_13 ha1.1 rfl ?_
          refine G_iload_n hO dX0_becomeLike_16 rfl rfl ?_
          obtain ⟨c12, h⟩ := h
          refine G_iaload hO dX0_becomeLike_17 ha1.2.1 c12 ?_
          refine G_iastore hO dX0_becomeLike_18 hF.2.1 c12 ?_
          refine GG.nmw (fun w13 e14 => ?_)
          have h := h w13 e14
          refine G_aload_n hO dX0_becomeLike_19 rfl rfl ?_
          refine gr_X0_15 (c := (f + 2)) hO dX0_becomeLike_20 hF.1 rfl ?_
          refine G_iload_n hO dX0_becomeLike_23 rfl rfl ?_
          refine G_aload_n hO dX0_becomeLike_24 rfl rfl ?_
          refine GG.atpc (pc2 := 25) rfl ?_
          refine gr_X0_15 (c := (a1 + 2)) hO dX0_becomeLike_25 ha1.1 rfl ?_
          refine G_iload_n hO dX0_becomeLike_28 rfl rfl ?_
          refine G_iaload hO dX0_becomeLike_29 ha1.2.2.1 c12 ?_
          refine G_iastore hO dX0_becomeLike_30 hF.2.2.1 c12 ?_
          refine GG.nmw (fun w15 e16 => ?_)
          have h := h w15 e16
          refine G_aload_n hO dX0_becomeLike_31 rfl rfl ?_
          refine gr_X0_18 (c := (f + 3)) hO dX0_becomeLike_32 hF.1 rfl ?_
          refine G_iload_n hO dX0_becomeLike_35 rfl rfl ?_
          refine G_aload_n hO dX0_becomeLike_36 rfl rfl ?_
          refine gr_X0_18 (c := (a1 + 3)) hO dX0_becomeLike_37 ha1.1 rfl ?_
          refine G_iload_n hO dX0_becomeLike_40 rfl rfl ?_
          refine G_iaload hO dX0_becomeLike_41 ha1.2.2.2.1 c12 ?_
          refine G_iastore hO dX0_becomeLike_42 hF.2.2.2.1 c12 ?_
          refine GG.nmw (fun w17 e18 => ?_)
          have h := h w17 e18
          refine GG.atpc (pc2 := 43) rfl ?_
          refine G_iinc (v := (l2 + 1)) (lv2 := [some (.ref (gad Γ f)), some (.ref (gad Γ a1)), some (.int (l2 + 1))]) hO dX0_becomeLike_43 rfl rfl (by decide) rfl rfl ?_
          refine G_goto (tgt := 2) hO dX0_becomeLike_46 (by decide) ?_
          exact GG.sub (lv2 := [some (.ref (gad Γ f)), some (.ref (gad Γ a1)), some (.int (l2 + 1))]) ⟨rfl, ⟨rfl, ⟨rfl, trivial⟩⟩⟩ h)
  refine G_iconst (v := 0) hO dX0_becomeLike_0 rfl ?_
  refine G_istore_n (lv2 := [some (.ref (gad Γ f)), some (.ref (gad Γ a1)), some (.int (0 : Int32))]) hO dX0_becomeLike_1 rfl (by decide) rfl rfl ?_
  exact GG.sub (lv2 := [some (.ref (gad Γ f)), some (.ref (gad Γ a1)), some (.int (0 : Int32))]) ⟨rfl, ⟨rfl, ⟨rfl, trivial⟩⟩⟩ h
def wp_X0_takeIn (Γ : Gx) (d : Nat) (f : Nat) (p1 : Int32) (p2 : Int32) (w : Wd) (Q : Int32 → Wd → Prop) : Prop :=
  (((w f 4) < (5 : Int32) → (vp_in (w f 4) 5 ∧ (∀ w3 : Wd, w3 = wset w (f + 1) ((w f 4)).toNatClampNeg p1 → (vp_in (w3 f 4) 5 ∧ (∀ w6 : Wd, w6 = wset w3 (f + 2) ((w3 f 4)).toNatClampNeg p2 → (vp_in (w6 f 4) 5 ∧ (∀ w9 : Wd, w9 = wset w6 (f + 3) ((w6 f 4)).toNatClampNeg (0 : Int32) → (∀ w11 : Wd, w11 = wset w9 f 4 ((w9 f 4) + (1 : Int32)) → Q ((w11 f 4) - (1 : Int32)) w11)))))))) ∧ (¬ (w f 4) < (5 : Int32) → Q (-4 : Int32) w))
set_option maxRecDepth 20000 in
theorem con_X0_takeIn {Γ : Gx} {d : Nat} (hG : GC Γ) {f : Nat} {p1 : Int32} {p2 : Int32} (hF : ShF Γ f) {w : Wd} {Q : Int32 → Wd → Prop} (h : wp_X0_takeIn Γ d f p1 p2 w Q) : CI Γ (d + 1) M_X0_takeIn [.ref (gad Γ f), .int p1, .int p2] w Q := by
  have hC := hG.2.1
  refine Con.of RX0 cX0_takeIn 3 (some .int) [some (.ref (gad Γ f)), some (.int p1), some (.int p2)] rfl rfl (by decide +kernel) hG.1 (catR (catI (catI cat0))) (Nat.le_of_ble_eq_true rfl) rfl ?_
  intro X hO
  refine G_aload_n hO dX0_takeIn_0 rfl rfl ?_
  refine gi_X0_41 hO dX0_takeIn_1 hF.1 rfl ?_
  refine G_iconst (v := 5) hO dX0_takeIn_4 rfl ?_
  refine G_icmp_lt (tgt := 11) hO dX0_takeIn_5 (by decide) (fun c1 => ?_) (fun c1 => ?_)
  · have h := h.1 c1
    refine G_aload_n hO dX0_takeIn_11 rfl rfl ?_
    refine gr_X0_9 (c := (f + 1)) hO dX0_takeIn_12 hF.1 rfl ?_
    refine G_aload_n hO dX0_takeIn_15 rfl rfl ?_
    refine gi_X0_41 hO dX0_takeIn_16 hF.1 rfl ?_
    refine G_iload_n hO dX0_takeIn_19 rfl rfl ?_
    obtain ⟨c2, h⟩ := h
    refine G_iastore hO dX0_takeIn_20 hF.2.1 c2 ?_
    refine GG.nmw (fun w3 e4 => ?_)
    have h := h w3 e4
    refine G_aload_n hO dX0_takeIn_21 rfl rfl ?_
    refine gr_X0_15 (c := (f + 2)) hO dX0_takeIn_22 hF.1 rfl ?_
    refine G_aload_n hO dX0_takeIn_25 rfl rfl ?_
    refine gi_X0_41 hO dX0_takeIn_26 hF.1 rfl ?_
    refine G_iload_n hO dX0_takeIn_29 rfl rfl ?_
    obtain ⟨c5, h⟩ := h
    refine G_iastore hO dX0_takeIn_30 hF.2.2.1 c5 ?_
    refine GG.nmw (fun w6 e7 => ?_)
    have h := h w6 e7
    refine GG.atpc (pc2 := 31) rfl ?_
    refine G_aload_n hO dX0_takeIn_31 rfl rfl ?_
    refine gr_X0_18 (c := (f + 3)) hO dX0_takeIn_32 hF.1 rfl ?_
    refine G_aload_n hO dX0_takeIn_35 rfl rfl ?_
    refine gi_X0_41 hO dX0_takeIn_36 hF.1 rfl ?_
    refine G_iconst (v := 0) hO dX0_takeIn_39 rfl ?_
    obtain ⟨c8, h⟩ := h
    refine G_iastore hO dX0_takeIn_40 hF.2.2.2.1 c8 ?_
    refine GG.nmw (fun w9 e10 => ?_)
    have h := h w9 e10
    refine G_aload_n hO dX0_takeIn_41 rfl rfl ?_
    refine G_dup hO dX0_takeIn_42 rfl ?_
    refine gi_X0_41 hO dX0_takeIn_43 hF.1 rfl ?_
    refine G_iconst (v := 1) hO dX0_takeIn_46 rfl ?_
    refine G_iadd hO dX0_takeIn_47 ?_
    refine pi_X0_41 hO dX0_takeIn_48 hF.1 rfl ?_
    refine GG.nmw (fun w11 e12 => ?_)
    have h := h w11 e12
    refine GG.atpc (pc2 := 51) rfl ?_
    refine G_aload_n hO dX0_takeIn_51 rfl rfl ?_
    refine gi_X0_41 hO dX0_takeIn_52 hF.1 rfl ?_
    refine G_iconst (v := 1) hO dX0_takeIn_55 rfl ?_
    refine G_isub hO dX0_takeIn_56 ?_
    exact G_iret hO dX0_takeIn_57 rfl rfl (QI.i h)
  · have h := h.2 c1
    refine G_bipush (v := -4) hO dX0_takeIn_8 rfl ?_
    exact G_iret hO dX0_takeIn_10 rfl rfl (QI.i h)
def wp_X0_glad (Γ : Gx) (d : Nat) (f : Nat) (w : Wd) (Q : Int32 → Wd → Prop) : Prop :=
  ∀ (P_4 : Int32 → Int32 → Wd → Prop),
  (∀ (l1 : Int32) (l2 : Int32) (w : Wd), (((w f 4) ≤ l2 → Q l1 w) ∧ (¬ (w f 4) ≤ l2 → (vp_in l2 5 ∧ P_4 (l1 + (w (f + 3) (l2).toNatClampNeg)) (l2 + 1) w))) → P_4 l1 l2 w) →
  P_4 (0 : Int32) (0 : Int32) w
set_option maxRecDepth 20000 in
theorem con_X0_glad {Γ : Gx} {d : Nat} (hG : GC Γ) {f : Nat} (hF : ShF Γ f) {w : Wd} {Q : Int32 → Wd → Prop} (h : wp_X0_glad Γ d f w Q) : CI Γ (d + 1) M_X0_glad [.ref (gad Γ f)] w Q := by
  have hC := hG.2.1
  refine Con.of RX0 cX0_glad 3 (some .int) [some (.ref (gad Γ f)), none, none] rfl rfl (by decide +kernel) hG.1 (catR cat0) (Nat.le_of_ble_eq_true rfl) rfl ?_
  intro X hO
  have h := h
    (fun (l1 : Int32) (l2 : Int32) (w : Wd) => GG Γ X (d + 1) 3 (QI Q) 4 [some (.ref (gad Γ f)), some (.int l1), some (.int l2)] [] w)
    (by
        intro l1 l2 w h
        refine G_iload_n hO dX0_glad_4 rfl rfl ?_
        refine G_aload_n hO dX0_glad_5 rfl rfl ?_
        refine gi_X0_41 hO dX0_glad_6 hF.1 rfl ?_
        refine G_icmp_ge (tgt := 27) hO dX0_glad_9 (by decide) (fun c1 => ?_) (fun c1 => ?_)
        · have h := h.1 c1
          refine G_iload_n hO dX0_glad_27 rfl rfl ?_
          exact G_iret hO dX0_glad_28 rfl rfl (QI.i h)
        · have h := h.2 c1
          refine G_iload_n hO dX0_glad_12 rfl rfl ?_
          refine G_aload_n hO dX0_glad_13 rfl rfl ?_
          refine gr_X0_18 (c := (f + 3)) hO dX0_glad_14 hF.1 rfl ?_
          refine G_iload_n hO dX0_glad_17 rfl rfl ?_
          obtain ⟨c2, h⟩ := h
          refine G_iaload hO dX0_glad_18 hF.2.2.2.1 c2 ?_
          refine G_iadd hO dX0_glad_19 ?_
          refine G_istore_n (lv2 := [some (.ref (gad Γ f)), some (.int (l1 + (w (f + 3) (l2).toNatClampNeg))), some (.int l2)]) hO dX0_glad_20 rfl (by decide) rfl rfl ?_
          refine G_iinc (v := (l2 + 1)) (lv2 := [some (.ref (gad Γ f)), some (.int (l1 + (w (f + 3) (l2).toNatClampNeg))), some (.int (l2 + 1))]) hO dX0_glad_21 rfl rfl (by decide) rfl rfl ?_
          refine G_goto (tgt := 4) hO dX0_glad_24 (by decide) ?_
          exact GG.sub (lv2 := [some (.ref (gad Γ f)), some (.int (l1 + (w (f + 3) (l2).toNatClampNeg))), some (.int (l2 + 1))]) ⟨rfl, ⟨rfl, ⟨rfl, trivial⟩⟩⟩ h)
  refine G_iconst (v := 0) hO dX0_glad_0 rfl ?_
  refine G_istore_n (lv2 := [some (.ref (gad Γ f)), some (.int (0 : Int32)), none]) hO dX0_glad_1 rfl (by decide) rfl rfl ?_
  refine G_iconst (v := 0) hO dX0_glad_2 rfl ?_
  refine G_istore_n (lv2 := [some (.ref (gad Γ f)), some (.int (0 : Int32)), some (.int (0 : Int32))]) hO dX0_glad_3 rfl (by decide) rfl rfl ?_
  exact GG.sub (lv2 := [some (.ref (gad Γ f)), some (.int (0 : Int32)), some (.int (0 : Int32))]) ⟨rfl, ⟨rfl, ⟨rfl, trivial⟩⟩⟩ h
def wp_X0_allMoods (Γ : Gx) (d : Nat) (f : Nat) (w : Wd) (Q : Int32 → Wd → Prop) : Prop :=
  ∀ (P_4 : Int32 → Int32 → Wd → Prop),
  (∀ (l1 : Int32) (l2 : Int32) (w : Wd), (((w f 4) ≤ l2 → Q l1 w) ∧ (¬ (w f 4) ≤ l2 → (vp_in l2 5 ∧ (∀ v3 : Int32, v3 = (((l1 * (41 : Int32)) + (w (f + 3) (l2).toNatClampNeg)) + (20 : Int32)) → P_4 v3 (l2 + 1) w)))) → P_4 l1 l2 w) →
  P_4 (0 : Int32) (0 : Int32) w
set_option maxRecDepth 20000 in
theorem con_X0_allMoods {Γ : Gx} {d : Nat} (hG : GC Γ) {f : Nat} (hF : ShF Γ f) {w : Wd} {Q : Int32 → Wd → Prop} (h : wp_X0_allMoods Γ d f w Q) : CI Γ (d + 1) M_X0_allMoods [.ref (gad Γ f)] w Q := by
  have hC := hG.2.1
  refine Con.of RX0 cX0_allMoods 3 (some .int) [some (.ref (gad Γ f)), none, none] rfl rfl (by decide +kernel) hG.1 (catR cat0) (Nat.le_of_ble_eq_true rfl) rfl ?_
  intro X hO
  have h := h
    (fun (l1 : Int32) (l2 : Int32) (w : Wd) => GG Γ X (d + 1) 3 (QI Q) 4 [some (.ref (gad Γ f)), some (.int l1), some (.int l2)] [] w)
    (by
        intro l1 l2 w h
        refine G_iload_n hO dX0_allMoods_4 rfl rfl ?_
        refine G_aload_n hO dX0_allMoods_5 rfl rfl ?_
        refine gi_X0_41 hO dX0_allMoods_6 hF.1 rfl ?_
        refine G_icmp_ge (tgt := 33) hO dX0_allMoods_9 (by decide) (fun c1 => ?_) (fun c1 => ?_)
        · have h := h.1 c1
          refine G_iload_n hO dX0_allMoods_33 rfl rfl ?_
          exact G_iret hO dX0_allMoods_34 rfl rfl (QI.i h)
        · have h := h.2 c1
          refine G_iload_n hO dX0_allMoods_12 rfl rfl ?_
          refine G_bipush (v := 41) hO dX0_allMoods_13 rfl ?_
          refine G_imul hO dX0_allMoods_15 ?_
          refine G_aload_n hO dX0_allMoods_16 rfl rfl ?_
          refine gr_X0_18 (c := (f + 3)) hO dX0_allMoods_17 hF.1 rfl ?_
          refine G_iload_n hO dX0_allMoods_20 rfl rfl ?_
          obtain ⟨c2, h⟩ := h
          refine G_iaload hO dX0_allMoods_21 hF.2.2.2.1 c2 ?_
          refine G_iadd hO dX0_allMoods_22 ?_
          refine G_bipush (v := 20) hO dX0_allMoods_23 rfl ?_
          refine G_iadd hO dX0_allMoods_25 ?_
          refine GG.nmi (fun v3 e4 => ?_)
          have h := h v3 e4
          refine G_istore_n (lv2 := [some (.ref (gad Γ f)), some (.int v3), some (.int l2)]) hO dX0_allMoods_26 rfl (by decide) rfl rfl ?_
          refine G_iinc (v := (l2 + 1)) (lv2 := [some (.ref (gad Γ f)), some (.int v3), some (.int (l2 + 1))]) hO dX0_allMoods_27 rfl rfl (by decide) rfl rfl ?_
          refine GG.atpc (pc2 := 30) rfl ?_
          refine G_goto (tgt := 4) hO dX0_allMoods_30 (by decide) ?_
          exact GG.sub (lv2 := [some (.ref (gad Γ f)), some (.int v3), some (.int (l2 + 1))]) ⟨rfl, ⟨rfl, ⟨rfl, trivial⟩⟩⟩ h)
  refine G_iconst (v := 0) hO dX0_allMoods_0 rfl ?_
  refine G_istore_n (lv2 := [some (.ref (gad Γ f)), some (.int (0 : Int32)), none]) hO dX0_allMoods_1 rfl (by decide) rfl rfl ?_
  refine G_iconst (v := 0) hO dX0_allMoods_2 rfl ?_
  refine G_istore_n (lv2 := [some (.ref (gad Γ f)), some (.int (0 : Int32)), some (.int (0 : Int32))]) hO dX0_allMoods_3 rfl (by decide) rfl rfl ?_
  exact GG.sub (lv2 := [some (.ref (gad Γ f)), some (.int (0 : Int32)), some (.int (0 : Int32))]) ⟨rfl, ⟨rfl, ⟨rfl, trivial⟩⟩⟩ h
def wp_X0_drawMoods (Γ : Gx) (d : Nat) (f : Nat) (p1 : Int32) (w : Wd) (Q : Wd → Prop) : Prop :=
  ∀ (P_4 : Int32 → Int32 → Wd → Prop),
  (∀ (l2 : Int32) (l3 : Int32) (w : Wd), (((w f 4) ≤ l3 → Q w) ∧ (¬ (w f 4) ≤ l3 → (∀ v2 : Int32, v2 = ((l2 * (1103515245 : Int32)) + (12345 : Int32)) → (vp_in l3 5 ∧ (∀ w5 : Wd, w5 = wset w (f + 3) (l3).toNatClampNeg ((((v2.toUInt32 >>> ((9 : Int32).toUInt32 &&& Int32.toUInt32 31)).toInt32) - (((v2.toUInt32 >>> ((9 : Int32).toUInt32 &&& Int32.toUInt32 31)).toInt32) / (41 : Int32)) * (41 : Int32)) - (20 : Int32)) → P_4 v2 (l3 + 1) w5))))) → P_4 l2 l3 w) →
  P_4 p1 (0 : Int32) w
set_option maxRecDepth 20000 in
theorem con_X0_drawMoods {Γ : Gx} {d : Nat} (hG : GC Γ) {f : Nat} {p1 : Int32} (hF : ShF Γ f) {w : Wd} {Q : Wd → Prop} (h : wp_X0_drawMoods Γ d f p1 w Q) : CV Γ (d + 1) M_X0_drawMoods [.ref (gad Γ f), .int p1] w Q := by
  have hC := hG.2.1
  refine Con.of RX0 cX0_drawMoods 4 none [some (.ref (gad Γ f)), some (.int p1), none, none] rfl rfl (by decide +kernel) hG.1 (catR (catI cat0)) (Nat.le_of_ble_eq_true rfl) rfl ?_
  intro X hO
  have h := h
    (fun (l2 : Int32) (l3 : Int32) (w : Wd) => GG Γ X (d + 1) 4 (QV Q) 4 [some (.ref (gad Γ f)), none, some (.int l2), some (.int l3)] [] w)
    (by
        intro l2 l3 w h
        refine G_iload_n hO dX0_drawMoods_4 rfl rfl ?_
        refine G_aload_n hO dX0_drawMoods_5 rfl rfl ?_
        refine gi_X0_41 hO dX0_drawMoods_6 hF.1 rfl ?_
        refine G_icmp_ge (tgt := 43) hO dX0_drawMoods_9 (by decide) (fun c1 => ?_) (fun c1 => ?_)
        · have h := h.1 c1
          exact G_vret hO dX0_drawMoods_43 rfl (QV.i h)
        · have h := h.2 c1
          refine G_iload_n hO dX0_drawMoods_12 rfl rfl ?_
          refine G_ldc (v := 1103515245) hO dX0_drawMoods_13 kc_X0_50 ?_
          refine G_imul hO dX0_drawMoods_15 ?_
          refine G_sipush (v := 12345) hO dX0_drawMoods_16 rfl ?_
          refine G_iadd hO dX0_drawMoods_19 ?_
          refine GG.nmi (fun v2 e3 => ?_)
          have h := h v2 e3
          refine G_istore_n (lv2 := [some (.ref (gad Γ f)), none, some (.int v2), some (.int l3)]) hO dX0_drawMoods_20 rfl (by decide) rfl rfl ?_
          refine G_aload_n hO dX0_drawMoods_21 rfl rfl ?_
          refine gr_X0_18 (c := (f + 3)) hO dX0_drawMoods_22 hF.1 rfl ?_
          refine G_iload_n hO dX0_drawMoods_25 rfl rfl ?_
          refine G_iload_n hO dX0_drawMoods_26 rfl rfl ?_
          refine G_bipush (v := 9) hO dX0_drawMoods_27 rfl ?_
          refine G_iushr hO dX0_drawMoods_29 ?_
          refine GG.atpc (pc2 := 30) rfl ?_
          refine G_bipush (v := 41) hO dX0_drawMoods_30 rfl ?_
          refine G_irem hO dX0_drawMoods_32 (by decide) ?_
          refine G_bipush (v := 20) hO dX0_drawMoods_33 rfl ?_
          refine G_isub hO dX0_drawMoods_35 ?_
          obtain ⟨c4, h⟩ := h
          refine G_iastore hO dX0_drawMoods_36 hF.2.2.2.1 c4 ?_
          refine GG.nmw (fun w5 e6 => ?_)
          have h := h w5 e6
          refine G_iinc (v := (l3 + 1)) (lv2 := [some (.ref (gad Γ f)), none, some (.int v2), some (.int (l3 + 1))]) hO dX0_drawMoods_37 rfl rfl (by decide) rfl rfl ?_
          refine G_goto (tgt := 4) hO dX0_drawMoods_40 (by decide) ?_
          exact GG.sub (lv2 := [some (.ref (gad Γ f)), none, some (.int v2), some (.int (l3 + 1))]) ⟨rfl, ⟨rfl, ⟨rfl, trivial⟩⟩⟩ h)
  refine G_iload_n hO dX0_drawMoods_0 rfl rfl ?_
  refine G_istore_n (lv2 := [some (.ref (gad Γ f)), some (.int p1), some (.int p1), none]) hO dX0_drawMoods_1 rfl (by decide) rfl rfl ?_
  refine G_iconst (v := 0) hO dX0_drawMoods_2 rfl ?_
  refine G_istore_n (lv2 := [some (.ref (gad Γ f)), some (.int p1), some (.int p1), some (.int (0 : Int32))]) hO dX0_drawMoods_3 rfl (by decide) rfl rfl ?_
  exact GG.sub (lv2 := [some (.ref (gad Γ f)), none, some (.int p1), some (.int (0 : Int32))]) ⟨rfl, ⟨rfl, ⟨rfl, trivial⟩⟩⟩ h
def wp_X0_sendsTo (Γ : Gx) (d : Nat) (f : Nat) (p1 : Int32) (p2 : Int32) (w : Wd) (Q : Int32 → Wd → Prop) : Prop :=
  ∀ (P_38 : Int32 → Wd → Prop),
  (∀ (s0 : Int32) (w : Wd), (vp_in p1 5 ∧ ((((w (f + 1) (p1).toNatClampNeg) = (1 : Int32) ∨ (w (f + 1) (p1).toNatClampNeg) = (3 : Int32)) → Q (1 : Int32) w) ∧ (((w (f + 1) (p1).toNatClampNeg) = (2 : Int32)) → CI Γ d M_X0_inlawSends [.ref (gad Γ f), .int p1, .int s0] w (fun r9 w10 => (isZ r9 ∧ Q r9 w10))) ∧ (((w (f + 1) (p1).toNatClampNeg) = (4 : Int32)) → CI Γ d M_X0_inlawSends [.ref (gad Γ f), .int p1, .int s0] w (fun r11 w12 => ((¬ r11 = 0 → Q (1 : Int32) w12) ∧ (r11 = 0 → ((¬ p2 = (w12 (f + 2) (p1).toNatClampNeg) → Q (0 : Int32) w12) ∧ (p2 = (w12 (f + 2) (p1).toNatClampNeg) → Q (1 : Int32) w12)))))) ∧ ((¬ (w (f + 1) (p1).toNatClampNeg) = (1 : Int32) ∧ ¬ (w (f + 1) (p1).toNatClampNeg) = (2 : Int32) ∧ ¬ (w (f + 1) (p1).toNatClampNeg) = (3 : Int32) ∧ ¬ (w (f + 1) (p1).toNatClampNeg) = (4 : Int32)) → (isZ s0 ∧ Q s0 w)))) → P_38 s0 w) →
  CV Γ d M_X0_nameAll [.ref (gad Γ f), .int (0 : Int32), .int p1, .int p2, .int p1, .int p2] w (fun w2 => (vp_in (w2 f 7) 6 ∧ (ShT Γ (rfa textCells ((w2 f 7)).toNatClampNeg) ∧ CI Γ d M_X3_valueOf [.ref (gad Γ (rfa textCells ((w2 f 7)).toNatClampNeg)), .int (2 : Int32), .ref (gad Γ (f + 5)), .ref (gad Γ (f + 6))] w2 (fun r5 w6 => ((r5 = 0 → P_38 (0 : Int32) w6) ∧ (¬ r5 = 0 → P_38 (1 : Int32) w6))))))
set_option maxRecDepth 20000 in
theorem con_X0_sendsTo {Γ : Gx} {d : Nat} (hG : GC Γ) {f : Nat} {p1 : Int32} {p2 : Int32} (hF : ShF Γ f) {w : Wd} {Q : Int32 → Wd → Prop} (h : wp_X0_sendsTo Γ d f p1 p2 w Q) : CI Γ (d + 1) M_X0_sendsTo [.ref (gad Γ f), .int p1, .int p2] w Q := by
  have hC := hG.2.1
  refine Con.of RX0 cX0_sendsTo 4 (some .boolean) [some (.ref (gad Γ f)), some (.int p1), some (.int p2), none] rfl rfl (by decide +kernel) hG.1 (catR (catI (catI cat0))) (Nat.le_of_ble_eq_true rfl) rfl ?_
  intro X hO
  have h := h
    (fun (s0 : Int32) (w : Wd) => GG Γ X (d + 1) 4 (QI Q) 38 [some (.ref (gad Γ f)), some (.int p1), some (.int p2), none] [.int s0] w)
    (by
        intro s0 w h
        refine G_istore_n (lv2 := [some (.ref (gad Γ f)), some (.int p1), some (.int p2), some (.int s0)]) hO dX0_sendsTo_38 rfl (by decide) rfl rfl ?_
        refine G_aload_n hO dX0_sendsTo_39 rfl rfl ?_
        refine gr_X0_9 (c := (f + 1)) hO dX0_sendsTo_40 hF.1 rfl ?_
        refine G_iload_n hO dX0_sendsTo_43 rfl rfl ?_
        obtain ⟨c8, h⟩ := h
        refine G_iaload hO dX0_sendsTo_44 hF.2.1 c8 ?_
        by_cases e1 : (w (f + 1) (p1).toNatClampNeg) = (1 : Int32)
        · have h := h.1 (Or.inl e1)
          refine G_tabIn (tgt := 76) (j := 0) hO dX0_sendsTo_45 (by decide) rfl (sweq e1 (by decide)) (by decide) ?_
          refine G_iconst (v := 1) hO dX0_sendsTo_76 rfl ?_
          exact G_iret hO dX0_sendsTo_77 rfl rfl (QI.i h)
        · by_cases e2 : (w (f + 1) (p1).toNatClampNeg) = (2 : Int32)
          · have h := h.2.1 e2
            refine G_tabIn (tgt := 78) (j := 1) hO dX0_sendsTo_45 (by decide) rfl (sweq e2 (by decide)) (by decide) ?_
            refine G_aload_n hO dX0_sendsTo_78 rfl rfl ?_
            refine G_iload_n hO dX0_sendsTo_79 rfl rfl ?_
            refine G_iload_n hO dX0_sendsTo_80 rfl rfl ?_
            refine G_callVi hO dX0_sendsTo_81 h cl_X0_61 hF.1 rfl rfl (Nat.le_of_ble_eq_true rfl) (fun r9 w10 h => ?_) rfl
            exact G_iret hO dX0_sendsTo_84 rfl h.1.nb (QI.i h.2)
          · by_cases e3 : (w (f + 1) (p1).toNatClampNeg) = (3 : Int32)
            · have h := h.1 (Or.inr e3)
              refine G_tabIn (tgt := 76) (j := 2) hO dX0_sendsTo_45 (by decide) rfl (sweq e3 (by decide)) (by decide) ?_
              refine G_iconst (v := 1) hO dX0_sendsTo_76 rfl ?_
              exact G_iret hO dX0_sendsTo_77 rfl rfl (QI.i h)
            · by_cases e4 : (w (f + 1) (p1).toNatClampNeg) = (4 : Int32)
              · have h := h.2.2.1 e4
                refine G_tabIn (tgt := 85) (j := 3) hO dX0_sendsTo_45 (by decide) rfl (sweq e4 (by decide)) (by decide) ?_
                refine G_aload_n hO dX0_sendsTo_85 rfl rfl ?_
                refine G_iload_n hO dX0_sendsTo_86 rfl rfl ?_
                refine G_iload_n hO dX0_sendsTo_87 rfl rfl ?_
                refine G_callVi hO dX0_sendsTo_88 h cl_X0_61 hF.1 rfl rfl (Nat.le_of_ble_eq_true rfl) (fun r11 w12 h => ?_) rfl
                refine G_if_ne (tgt := 104) hO dX0_sendsTo_91 (by decide) (fun c13 => ?_) (fun c13 => ?_)
                · have h := h.1 c13
                  refine G_iconst (v := 1) hO dX0_sendsTo_104 rfl ?_
                  refine G_goto (tgt := 109) hO dX0_sendsTo_105 (by decide) ?_
                  exact G_iret hO dX0_sendsTo_109 rfl rfl (QI.i h)
                · have h := h.2 c13
                  refine G_iload_n hO dX0_sendsTo_94 rfl rfl ?_
                  refine G_aload_n hO dX0_sendsTo_95 rfl rfl ?_
                  refine gr_X0_15 (c := (f + 2)) hO dX0_sendsTo_96 hF.1 rfl ?_
                  refine G_iload_n hO dX0_sendsTo_99 rfl rfl ?_
                  refine G_iaload hO dX0_sendsTo_100 hF.2.2.1 c8 ?_
                  refine G_icmp_ne (tgt := 108) hO dX0_sendsTo_101 (by decide) (fun c14 => ?_) (fun c14 => ?_)
                  · have h := h.1 c14
                    refine G_iconst (v := 0) hO dX0_sendsTo_108 rfl ?_
                    exact G_iret hO dX0_sendsTo_109 rfl rfl (QI.i h)
                  · have h := h.2 c14
                    refine G_iconst (v := 1) hO dX0_sendsTo_104 rfl ?_
                    refine G_goto (tgt := 109) hO dX0_sendsTo_105 (by decide) ?_
                    exact G_iret hO dX0_sendsTo_109 rfl rfl (QI.i h)
              · have h := h.2.2.2 ⟨e1, e2, e3, e4⟩
                refine G_tabOut (tgt := 110) hO dX0_sendsTo_45 (by decide) (by decide) (fun j hj => ?_) ?_
                · rcases (show j = 0 ∨ j = 1 ∨ j = 2 ∨ j = 3 from by have : j < 4 := hj; omega) with rfl | rfl | rfl | rfl
                  · exact swne e1 (by decide)
                  · exact swne e2 (by decide)
                  · exact swne e3 (by decide)
                  · exact swne e4 (by decide)
                · refine G_iload_n hO dX0_sendsTo_110 rfl rfl ?_
                  exact G_iret hO dX0_sendsTo_111 rfl h.1.nb (QI.i h.2))
  refine G_aload_n hO dX0_sendsTo_0 rfl rfl ?_
  refine G_iconst (v := 0) hO dX0_sendsTo_1 rfl ?_
  refine G_iload_n hO dX0_sendsTo_2 rfl rfl ?_
  refine G_iload_n hO dX0_sendsTo_3 rfl rfl ?_
  refine G_iload_n hO dX0_sendsTo_4 rfl rfl ?_
  refine G_iload_n hO dX0_sendsTo_5 rfl rfl ?_
  refine G_callVv hO dX0_sendsTo_6 h cl_X0_51 hF.1 rfl rfl (Nat.le_of_ble_eq_true rfl) (fun w2 h => ?_) rfl
  refine G_aload_n hO dX0_sendsTo_9 rfl rfl ?_
  refine gr_X0_37 (c := 1) hO dX0_sendsTo_10 hF.1 rfl ?_
  refine G_aload_n hO dX0_sendsTo_13 rfl rfl ?_
  refine gi_X0_47 hO dX0_sendsTo_14 hF.1 rfl ?_
  obtain ⟨c3, h⟩ := h
  obtain ⟨c4, h⟩ := h
  refine G_aaT hO dX0_sendsTo_17 hF.2.2.2.2.2.2.2 c3 ?_
  refine GG.atpc (pc2 := 18) rfl ?_
  refine G_iconst (v := 2) hO dX0_sendsTo_18 rfl ?_
  refine G_aload_n hO dX0_sendsTo_19 rfl rfl ?_
  refine gr_X0_31 (c := (f + 5)) hO dX0_sendsTo_20 hF.1 rfl ?_
  refine G_aload_n hO dX0_sendsTo_23 rfl rfl ?_
  refine gr_X0_34 (c := (f + 6)) hO dX0_sendsTo_24 hF.1 rfl ?_
  refine G_callVi hO dX0_sendsTo_27 h cl_X0_55 c4.1 rfl rfl (Nat.le_of_ble_eq_true rfl) (fun r5 w6 h => ?_) rfl
  refine G_if_eq (tgt := 37) hO dX0_sendsTo_30 (by decide) (fun c7 => ?_) (fun c7 => ?_)
  · have h := h.1 c7
    refine G_iconst (v := 0) hO dX0_sendsTo_37 rfl ?_
    exact GG.sub (lv2 := [some (.ref (gad Γ f)), some (.int p1), some (.int p2), none]) ⟨rfl, ⟨rfl, ⟨rfl, trivial⟩⟩⟩ h
  · have h := h.2 c7
    refine G_iconst (v := 1) hO dX0_sendsTo_33 rfl ?_
    refine G_goto (tgt := 38) hO dX0_sendsTo_34 (by decide) ?_
    exact GG.sub (lv2 := [some (.ref (gad Γ f)), some (.int p1), some (.int p2), none]) ⟨rfl, ⟨rfl, ⟨rfl, trivial⟩⟩⟩ h
def wp_X0_inlawSends (Γ : Gx) (d : Nat) (f : Nat) (p1 : Int32) (p2 : Int32) (w : Wd) (Q : Int32 → Wd → Prop) : Prop :=
  ((p2 = 0 → Q (0 : Int32) w) ∧ (¬ p2 = 0 → (vp_in p1 5 ∧ (((w (f + 3) (p1).toNatClampNeg) < (-5 : Int32) → Q (0 : Int32) w) ∧ (¬ (w (f + 3) (p1).toNatClampNeg) < (-5 : Int32) → Q (1 : Int32) w)))))
set_option maxRecDepth 20000 in
theorem con_X0_inlawSends {Γ : Gx} {d : Nat} (hG : GC Γ) {f : Nat} {p1 : Int32} {p2 : Int32} (hF : ShF Γ f) {w : Wd} {Q : Int32 → Wd → Prop} (h : wp_X0_inlawSends Γ d f p1 p2 w Q) : CI Γ (d + 1) M_X0_inlawSends [.ref (gad Γ f), .int p1, .int p2] w Q := by
  have hC := hG.2.1
  refine Con.of RX0 cX0_inlawSends 3 (some .boolean) [some (.ref (gad Γ f)), some (.int p1), some (.int p2)] rfl rfl (by decide +kernel) hG.1 (catR (catI (catI cat0))) (Nat.le_of_ble_eq_true rfl) rfl ?_
  intro X hO
  refine G_iload_n hO dX0_inlawSends_0 rfl rfl ?_
  refine G_if_eq (tgt := 19) hO dX0_inlawSends_1 (by decide) (fun c1 => ?_) (fun c1 => ?_)
  · have h := h.1 c1
    refine G_iconst (v := 0) hO dX0_inlawSends_19 rfl ?_
    exact G_iret hO dX0_inlawSends_20 rfl rfl (QI.i h)
  · have h := h.2 c1
    refine G_aload_n hO dX0_inlawSends_4 rfl rfl ?_
    refine gr_X0_18 (c := (f + 3)) hO dX0_inlawSends_5 hF.1 rfl ?_
    refine G_iload_n hO dX0_inlawSends_8 rfl rfl ?_
    obtain ⟨c2, h⟩ := h
    refine G_iaload hO dX0_inlawSends_9 hF.2.2.2.1 c2 ?_
    refine G_bipush (v := -5) hO dX0_inlawSends_10 rfl ?_
    refine G_icmp_lt (tgt := 19) hO dX0_inlawSends_12 (by decide) (fun c3 => ?_) (fun c3 => ?_)
    · have h := h.1 c3
      refine G_iconst (v := 0) hO dX0_inlawSends_19 rfl ?_
      exact G_iret hO dX0_inlawSends_20 rfl rfl (QI.i h)
    · have h := h.2 c3
      refine G_iconst (v := 1) hO dX0_inlawSends_15 rfl ?_
      refine G_goto (tgt := 20) hO dX0_inlawSends_16 (by decide) ?_
      exact G_iret hO dX0_inlawSends_20 rfl rfl (QI.i h)
def wp_X0_layersOf (Γ : Gx) (d : Nat) (f : Nat) (p1 : Int32) (p2 : Int32) (w : Wd) (Q : Int32 → Wd → Prop) : Prop :=
  ∀ (P_21 : Int32 → Wd → Prop),
  ∀ (P_48 : Int32 → Int32 → Wd → Prop),
  (∀ (s0 : Int32) (w : Wd), ((p1 = p2 → Q (0 : Int32) w) ∧ (¬ p1 = p2 → ((¬ s0 = 0 → Q (0 : Int32) w) ∧ (s0 = 0 → CI Γ d M_X0_sendsTo [.ref (gad Γ f), .int p1, .int p2] w (fun r5 w6 => ((¬ r5 = 0 → P_48 (0 : Int32) (0 : Int32) w6) ∧ (r5 = 0 → Q (0 : Int32) w6))))))) → P_21 s0 w) →
  (∀ (l4 : Int32) (l5 : Int32) (w : Wd), (((8 : Int32) ≤ l5 → Q l4 w) ∧ (¬ (8 : Int32) ≤ l5 → (((((w f 5) >>> (l5 &&& 31)) &&& (1 : Int32)) = 0 → P_48 l4 (l5 + 1) w) ∧ (¬ (((w f 5) >>> (l5 &&& 31)) &&& (1 : Int32)) = 0 → CI Γ d M_X0_cutsFor [.ref (gad Γ f), .int p1, .int p2, .int l5] w (fun r10 w11 => ((r10 = 0 → P_48 l4 (l5 + 1) w11) ∧ (¬ r10 = 0 → P_48 (l4 ||| ((1 : Int32) <<< (l5 &&& 31))) (l5 + 1) w11))))))) → P_48 l4 l5 w) →
  ((p1 = (w f 8) → P_21 (1 : Int32) w) ∧ (¬ p1 = (w f 8) → ((¬ p2 = (w f 8) → P_21 (0 : Int32) w) ∧ (p2 = (w f 8) → P_21 (1 : Int32) w))))
set_option maxRecDepth 20000 in
theorem con_X0_layersOf {Γ : Gx} {d : Nat} (hG : GC Γ) {f : Nat} {p1 : Int32} {p2 : Int32} (hF : ShF Γ f) {w : Wd} {Q : Int32 → Wd → Prop} (h : wp_X0_layersOf Γ d f p1 p2 w Q) : CI Γ (d + 1) M_X0_layersOf [.ref (gad Γ f), .int p1, .int p2] w Q := by
  have hC := hG.2.1
  refine Con.of RX0 cX0_layersOf 6 (some .int) [some (.ref (gad Γ f)), some (.int p1), some (.int p2), none, none, none] rfl rfl (by decide +kernel) hG.1 (catR (catI (catI cat0))) (Nat.le_of_ble_eq_true rfl) rfl ?_
  intro X hO
  have h := h
    (fun (s0 : Int32) (w : Wd) => GG Γ X (d + 1) 6 (QI Q) 21 [some (.ref (gad Γ f)), some (.int p1), some (.int p2), none, none, none] [.int s0] w)
    (fun (l4 : Int32) (l5 : Int32) (w : Wd) => GG Γ X (d + 1) 6 (QI Q) 48 [some (.ref (gad Γ f)), some (.int p1), some (.int p2), none, some (.int l4), some (.int l5)] [] w)
    (by
        intro s0 w h
        refine G_istore_n (lv2 := [some (.ref (gad Γ f)), some (.int p1), some (.int p2), some (.int s0), none, none]) hO dX0_layersOf_21 rfl (by decide) rfl rfl ?_
        refine G_iload_n hO dX0_layersOf_22 rfl rfl ?_
        refine G_iload_n hO dX0_layersOf_23 rfl rfl ?_
        refine G_icmp_eq (tgt := 40) hO dX0_layersOf_24 (by decide) (fun c3 => ?_) (fun c3 => ?_)
        · have h := h.1 c3
          refine G_iconst (v := 0) hO dX0_layersOf_40 rfl ?_
          exact G_iret hO dX0_layersOf_41 rfl rfl (QI.i h)
        · have h := h.2 c3
          refine G_iload_n hO dX0_layersOf_27 rfl rfl ?_
          refine G_if_ne (tgt := 40) hO dX0_layersOf_28 (by decide) (fun c4 => ?_) (fun c4 => ?_)
          · have h := h.1 c4
            refine G_iconst (v := 0) hO dX0_layersOf_40 rfl ?_
            exact G_iret hO dX0_layersOf_41 rfl rfl (QI.i h)
          · have h := h.2 c4
            refine G_aload_n hO dX0_layersOf_31 rfl rfl ?_
            refine G_iload_n hO dX0_layersOf_32 rfl rfl ?_
            refine G_iload_n hO dX0_layersOf_33 rfl rfl ?_
            refine G_callVi hO dX0_layersOf_34 h cl_X0_65 hF.1 rfl rfl (Nat.le_of_ble_eq_true rfl) (fun r5 w6 h => ?_) rfl
            refine G_if_ne (tgt := 42) hO dX0_layersOf_37 (by decide) (fun c7 => ?_) (fun c7 => ?_)
            · have h := h.1 c7
              refine G_iconst (v := 0) hO dX0_layersOf_42 rfl ?_
              refine G_istore (lv2 := [some (.ref (gad Γ f)), some (.int p1), some (.int p2), some (.int s0), some (.int (0 : Int32)), none]) hO dX0_layersOf_43 (by decide) rfl rfl ?_
              refine G_iconst (v := 0) hO dX0_layersOf_45 rfl ?_
              refine G_istore (lv2 := [some (.ref (gad Γ f)), some (.int p1), some (.int p2), some (.int s0), some (.int (0 : Int32)), some (.int (0 : Int32))]) hO dX0_layersOf_46 (by decide) rfl rfl ?_
              exact GG.sub (lv2 := [some (.ref (gad Γ f)), some (.int p1), some (.int p2), none, some (.int (0 : Int32)), some (.int (0 : Int32))]) ⟨rfl, ⟨rfl, ⟨rfl, ⟨rfl, ⟨rfl, trivial⟩⟩⟩⟩⟩ h
            · have h := h.2 c7
              refine G_iconst (v := 0) hO dX0_layersOf_40 rfl ?_
              exact G_iret hO dX0_layersOf_41 rfl rfl (QI.i h))
    (by
        intro l4 l5 w h
        refine G_iload hO dX0_layersOf_48 rfl ?_
        refine G_bipush (v := 8) hO dX0_layersOf_50 rfl ?_
        refine G_icmp_ge (tgt := 93) hO dX0_layersOf_52 (by decide) (fun c8 => ?_) (fun c8 => ?_)
        · have h := h.1 c8
          refine G_iload hO dX0_layersOf_93 rfl ?_
          exact G_iret hO dX0_layersOf_95 rfl rfl (QI.i h)
        · have h := h.2 c8
          refine G_aload_n hO dX0_layersOf_55 rfl rfl ?_
          refine gi_X0_24 hO dX0_layersOf_56 hF.1 rfl ?_
          refine G_iload hO dX0_layersOf_59 rfl ?_
          refine G_ishr hO dX0_layersOf_61 ?_
          refine G_iconst (v := 1) hO dX0_layersOf_62 rfl ?_
          refine G_iand hO dX0_layersOf_63 ?_
          refine G_if_eq (tgt := 87) hO dX0_layersOf_64 (by decide) (fun c9 => ?_) (fun c9 => ?_)
          · have h := h.1 c9
            refine G_iinc (v := (l5 + 1)) (lv2 := [some (.ref (gad Γ f)), some (.int p1), some (.int p2), none, some (.int l4), some (.int (l5 + 1))]) hO dX0_layersOf_87 rfl rfl (by decide) rfl rfl ?_
            refine G_goto (tgt := 48) hO dX0_layersOf_90 (by decide) ?_
            exact GG.sub (lv2 := [some (.ref (gad Γ f)), some (.int p1), some (.int p2), none, some (.int l4), some (.int (l5 + 1))]) ⟨rfl, ⟨rfl, ⟨rfl, ⟨rfl, ⟨rfl, trivial⟩⟩⟩⟩⟩ h
          · have h := h.2 c9
            refine G_aload_n hO dX0_layersOf_67 rfl rfl ?_
            refine G_iload_n hO dX0_layersOf_68 rfl rfl ?_
            refine G_iload_n hO dX0_layersOf_69 rfl rfl ?_
            refine G_iload hO dX0_layersOf_70 rfl ?_
            refine G_callVi hO dX0_layersOf_72 h cl_X0_69 hF.1 rfl rfl (Nat.le_of_ble_eq_true rfl) (fun r10 w11 h => ?_) rfl
            refine G_if_eq (tgt := 87) hO dX0_layersOf_75 (by decide) (fun c12 => ?_) (fun c12 => ?_)
            · have h := h.1 c12
              refine G_iinc (v := (l5 + 1)) (lv2 := [some (.ref (gad Γ f)), some (.int p1), some (.int p2), none, some (.int l4), some (.int (l5 + 1))]) hO dX0_layersOf_87 rfl rfl (by decide) rfl rfl ?_
              refine G_goto (tgt := 48) hO dX0_layersOf_90 (by decide) ?_
              exact GG.sub (lv2 := [some (.ref (gad Γ f)), some (.int p1), some (.int p2), none, some (.int l4), some (.int (l5 + 1))]) ⟨rfl, ⟨rfl, ⟨rfl, ⟨rfl, ⟨rfl, trivial⟩⟩⟩⟩⟩ h
            · have h := h.2 c12
              refine G_iload hO dX0_layersOf_78 rfl ?_
              refine G_iconst (v := 1) hO dX0_layersOf_80 rfl ?_
              refine G_iload hO dX0_layersOf_81 rfl ?_
              refine G_ishl hO dX0_layersOf_83 ?_
              refine G_ior hO dX0_layersOf_84 ?_
              refine G_istore (lv2 := [some (.ref (gad Γ f)), some (.int p1), some (.int p2), none, some (.int (l4 ||| ((1 : Int32) <<< (l5 &&& 31)))), some (.int l5)]) hO dX0_layersOf_85 (by decide) rfl rfl ?_
              refine G_iinc (v := (l5 + 1)) (lv2 := [some (.ref (gad Γ f)), some (.int p1), some (.int p2), none, some (.int (l4 ||| ((1 : Int32) <<< (l5 &&& 31)))), some (.int (l5 + 1))]) hO dX0_layersOf_87 rfl rfl (by decide) rfl rfl ?_
              refine G_goto (tgt := 48) hO dX0_layersOf_90 (by decide) ?_
              exact GG.sub (lv2 := [some (.ref (gad Γ f)), some (.int p1), some (.int p2), none, some (.int (l4 ||| ((1 : Int32) <<< (l5 &&& 31)))), some (.int (l5 + 1))]) ⟨rfl, ⟨rfl, ⟨rfl, ⟨rfl, ⟨rfl, trivial⟩⟩⟩⟩⟩ h)
  refine G_iload_n hO dX0_layersOf_0 rfl rfl ?_
  refine G_aload_n hO dX0_layersOf_1 rfl rfl ?_
  refine gi_X0_28 hO dX0_layersOf_2 hF.1 rfl ?_
  refine G_icmp_eq (tgt := 16) hO dX0_layersOf_5 (by decide) (fun c1 => ?_) (fun c1 => ?_)
  · have h := h.1 c1
    refine G_iconst (v := 1) hO dX0_layersOf_16 rfl ?_
    refine G_goto (tgt := 21) hO dX0_layersOf_17 (by decide) ?_
    exact GG.sub (lv2 := [some (.ref (gad Γ f)), some (.int p1), some (.int p2), none, none, none]) ⟨rfl, ⟨rfl, ⟨rfl, trivial⟩⟩⟩ h
  · have h := h.2 c1
    refine G_iload_n hO dX0_layersOf_8 rfl rfl ?_
    refine G_aload_n hO dX0_layersOf_9 rfl rfl ?_
    refine gi_X0_28 hO dX0_layersOf_10 hF.1 rfl ?_
    refine G_icmp_ne (tgt := 20) hO dX0_layersOf_13 (by decide) (fun c2 => ?_) (fun c2 => ?_)
    · have h := h.1 c2
      refine G_iconst (v := 0) hO dX0_layersOf_20 rfl ?_
      exact GG.sub (lv2 := [some (.ref (gad Γ f)), some (.int p1), some (.int p2), none, none, none]) ⟨rfl, ⟨rfl, ⟨rfl, trivial⟩⟩⟩ h
    · have h := h.2 c2
      refine G_iconst (v := 1) hO dX0_layersOf_16 rfl ?_
      refine G_goto (tgt := 21) hO dX0_layersOf_17 (by decide) ?_
      exact GG.sub (lv2 := [some (.ref (gad Γ f)), some (.int p1), some (.int p2), none, none, none]) ⟨rfl, ⟨rfl, ⟨rfl, trivial⟩⟩⟩ h
def wp_X0_cutsFor (Γ : Gx) (d : Nat) (f : Nat) (p1 : Int32) (p2 : Int32) (p3 : Int32) (w : Wd) (Q : Int32 → Wd → Prop) : Prop :=
  ∀ (P_38 : Int32 → Wd → Prop),
  (∀ (s0 : Int32) (w : Wd), (vp_in p1 5 ∧ ((((w (f + 1) (p1).toNatClampNeg) = (1 : Int32)) → CI Γ d M_X0_motherCuts [.ref (gad Γ f), .int p1, .int p3, .int s0] w (fun r9 w10 => (isZ r9 ∧ Q r9 w10))) ∧ (((w (f + 1) (p1).toNatClampNeg) = (2 : Int32)) → CI Γ d M_X0_inlawCuts [.int p3, .int s0] w (fun r11 w12 => (isZ r11 ∧ Q r11 w12))) ∧ (((w (f + 1) (p1).toNatClampNeg) = (3 : Int32)) → CI Γ d M_X0_motherCuts [.ref (gad Γ f), .int p1, .int p3, .int s0] w (fun r13 w14 => ((r13 = 0 → Q (0 : Int32) w14) ∧ (¬ r13 = 0 → ((p3 = (7 : Int32) → Q (0 : Int32) w14) ∧ (¬ p3 = (7 : Int32) → Q (1 : Int32) w14)))))) ∧ (((w (f + 1) (p1).toNatClampNeg) = (4 : Int32)) → CI Γ d M_X0_inlawCuts [.int p3, .int s0] w (fun r17 w18 => ((¬ r17 = 0 → Q (1 : Int32) w18) ∧ (r17 = 0 → ((¬ p3 = (3 : Int32) → Q (0 : Int32) w18) ∧ (p3 = (3 : Int32) → ((0 ≤ (w18 (f + 3) (p1).toNatClampNeg) → Q (0 : Int32) w18) ∧ (¬ 0 ≤ (w18 (f + 3) (p1).toNatClampNeg) → Q (1 : Int32) w18)))))))) ∧ (((w (f + 1) (p1).toNatClampNeg) = (5 : Int32)) → ((p3 < (3 : Int32) → Q (1 : Int32) w) ∧ (¬ p3 < (3 : Int32) → (((w (f + 3) (p1).toNatClampNeg) < (10 : Int32) → Q (0 : Int32) w) ∧ (¬ (w (f + 3) (p1).toNatClampNeg) < (10 : Int32) → Q (1 : Int32) w))))) ∧ ((¬ (w (f + 1) (p1).toNatClampNeg) = (1 : Int32) ∧ ¬ (w (f + 1) (p1).toNatClampNeg) = (2 : Int32) ∧ ¬ (w (f + 1) (p1).toNatClampNeg) = (3 : Int32) ∧ ¬ (w (f + 1) (p1).toNatClampNeg) = (4 : Int32) ∧ ¬ (w (f + 1) (p1).toNatClampNeg) = (5 : Int32)) → (isZ s0 ∧ Q s0 w)))) → P_38 s0 w) →
  CV Γ d M_X0_nameAll [.ref (gad Γ f), .int p3, .int p1, .int p2, .int p1, .int p2] w (fun w2 => (vp_in (w2 f 7) 6 ∧ (ShT Γ (rfa textCells ((w2 f 7)).toNatClampNeg) ∧ CI Γ d M_X3_valueOf [.ref (gad Γ (rfa textCells ((w2 f 7)).toNatClampNeg)), .int (0 : Int32), .ref (gad Γ (f + 5)), .ref (gad Γ (f + 6))] w2 (fun r5 w6 => ((r5 = 0 → P_38 (0 : Int32) w6) ∧ (¬ r5 = 0 → P_38 (1 : Int32) w6))))))
set_option maxRecDepth 20000 in
theorem con_X0_cutsFor {Γ : Gx} {d : Nat} (hG : GC Γ) {f : Nat} {p1 : Int32} {p2 : Int32} {p3 : Int32} (hF : ShF Γ f) {w : Wd} {Q : Int32 → Wd → Prop} (h : wp_X0_cutsFor Γ d f p1 p2 p3 w Q) : CI Γ (d + 1) M_X0_cutsFor [.ref (gad Γ f), .int p1, .int p2, .int p3] w Q := by
  have hC := hG.2.1
  refine Con.of RX0 cX0_cutsFor 5 (some .boolean) [some (.ref (gad Γ f)), some (.int p1), some (.int p2), some (.int p3), none] rfl rfl (by decide +kernel) hG.1 (catR (catI (catI (catI cat0)))) (Nat.le_of_ble_eq_true rfl) rfl ?_
  intro X hO
  have h := h
    (fun (s0 : Int32) (w : Wd) => GG Γ X (d + 1) 5 (QI Q) 38 [some (.ref (gad Γ f)), some (.int p1), none, some (.int p3), none] [.int s0] w)
    (by
        intro s0 w h
        refine G_istore (lv2 := [some (.ref (gad Γ f)), some (.int p1), none, some (.int p3), some (.int s0)]) hO dX0_cutsFor_38 (by decide) rfl rfl ?_
        refine G_aload_n hO dX0_cutsFor_40 rfl rfl ?_
        refine gr_X0_9 (c := (f + 1)) hO dX0_cutsFor_41 hF.1 rfl ?_
        refine G_iload_n hO dX0_cutsFor_44 rfl rfl ?_
        obtain ⟨c8, h⟩ := h
        refine G_iaload hO dX0_cutsFor_45 hF.2.1 c8 ?_
        by_cases e1 : (w (f + 1) (p1).toNatClampNeg) = (1 : Int32)
        · have h := h.1 e1
          refine G_tabIn (tgt := 80) (j := 0) hO dX0_cutsFor_46 (by decide) rfl (sweq e1 (by decide)) (by decide) ?_
          refine G_aload_n hO dX0_cutsFor_80 rfl rfl ?_
          refine G_iload_n hO dX0_cutsFor_81 rfl rfl ?_
          refine G_iload_n hO dX0_cutsFor_82 rfl rfl ?_
          refine G_iload hO dX0_cutsFor_83 rfl ?_
          refine G_callVi hO dX0_cutsFor_85 h cl_X0_73 hF.1 rfl rfl (Nat.le_of_ble_eq_true rfl) (fun r9 w10 h => ?_) rfl
          exact G_iret hO dX0_cutsFor_88 rfl h.1.nb (QI.i h.2)
        · by_cases e2 : (w (f + 1) (p1).toNatClampNeg) = (2 : Int32)
          · have h := h.2.1 e2
            refine G_tabIn (tgt := 89) (j := 1) hO dX0_cutsFor_46 (by decide) rfl (sweq e2 (by decide)) (by decide) ?_
            refine G_iload_n hO dX0_cutsFor_89 rfl rfl ?_
            refine G_iload hO dX0_cutsFor_90 rfl ?_
            refine G_callSi hO dX0_cutsFor_92 h cl_X0_77 rfl (Nat.le_of_ble_eq_true rfl) (fun r11 w12 h => ?_) rfl
            exact G_iret hO dX0_cutsFor_95 rfl h.1.nb (QI.i h.2)
          · by_cases e3 : (w (f + 1) (p1).toNatClampNeg) = (3 : Int32)
            · have h := h.2.2.1 e3
              refine G_tabIn (tgt := 96) (j := 2) hO dX0_cutsFor_46 (by decide) rfl (sweq e3 (by decide)) (by decide) ?_
              refine G_aload_n hO dX0_cutsFor_96 rfl rfl ?_
              refine G_iload_n hO dX0_cutsFor_97 rfl rfl ?_
              refine G_iload_n hO dX0_cutsFor_98 rfl rfl ?_
              refine G_iload hO dX0_cutsFor_99 rfl ?_
              refine G_callVi hO dX0_cutsFor_101 h cl_X0_73 hF.1 rfl rfl (Nat.le_of_ble_eq_true rfl) (fun r13 w14 h => ?_) rfl
              refine G_if_eq (tgt := 117) hO dX0_cutsFor_104 (by decide) (fun c15 => ?_) (fun c15 => ?_)
              · have h := h.1 c15
                refine G_iconst (v := 0) hO dX0_cutsFor_117 rfl ?_
                exact G_iret hO dX0_cutsFor_118 rfl rfl (QI.i h)
              · have h := h.2 c15
                refine G_iload_n hO dX0_cutsFor_107 rfl rfl ?_
                refine G_bipush (v := 7) hO dX0_cutsFor_108 rfl ?_
                refine G_icmp_eq (tgt := 117) hO dX0_cutsFor_110 (by decide) (fun c16 => ?_) (fun c16 => ?_)
                · have h := h.1 c16
                  refine G_iconst (v := 0) hO dX0_cutsFor_117 rfl ?_
                  exact G_iret hO dX0_cutsFor_118 rfl rfl (QI.i h)
                · have h := h.2 c16
                  refine G_iconst (v := 1) hO dX0_cutsFor_113 rfl ?_
                  refine G_goto (tgt := 118) hO dX0_cutsFor_114 (by decide) ?_
                  exact G_iret hO dX0_cutsFor_118 rfl rfl (QI.i h)
            · by_cases e4 : (w (f + 1) (p1).toNatClampNeg) = (4 : Int32)
              · have h := h.2.2.2.1 e4
                refine G_tabIn (tgt := 119) (j := 3) hO dX0_cutsFor_46 (by decide) rfl (sweq e4 (by decide)) (by decide) ?_
                refine G_iload_n hO dX0_cutsFor_119 rfl rfl ?_
                refine G_iload hO dX0_cutsFor_120 rfl ?_
                refine G_callSi hO dX0_cutsFor_122 h cl_X0_77 rfl (Nat.le_of_ble_eq_true rfl) (fun r17 w18 h => ?_) rfl
                refine G_if_ne (tgt := 142) hO dX0_cutsFor_125 (by decide) (fun c19 => ?_) (fun c19 => ?_)
                · have h := h.1 c19
                  refine G_iconst (v := 1) hO dX0_cutsFor_142 rfl ?_
                  refine G_goto (tgt := 147) hO dX0_cutsFor_143 (by decide) ?_
                  exact G_iret hO dX0_cutsFor_147 rfl rfl (QI.i h)
                · have h := h.2 c19
                  refine G_iload_n hO dX0_cutsFor_128 rfl rfl ?_
                  refine G_iconst (v := 3) hO dX0_cutsFor_129 rfl ?_
                  refine G_icmp_ne (tgt := 146) hO dX0_cutsFor_130 (by decide) (fun c20 => ?_) (fun c20 => ?_)
                  · have h := h.1 c20
                    refine G_iconst (v := 0) hO dX0_cutsFor_146 rfl ?_
                    exact G_iret hO dX0_cutsFor_147 rfl rfl (QI.i h)
                  · have h := h.2 c20
                    refine G_aload_n hO dX0_cutsFor_133 rfl rfl ?_
                    refine gr_X0_18 (c := (f + 3)) hO dX0_cutsFor_134 hF.1 rfl ?_
                    refine G_iload_n hO dX0_cutsFor_137 rfl rfl ?_
                    refine G_iaload hO dX0_cutsFor_138 hF.2.2.2.1 c8 ?_
                    refine G_if_ge (tgt := 146) hO dX0_cutsFor_139 (by decide) (fun c21 => ?_) (fun c21 => ?_)
                    · have h := h.1 c21
                      refine G_iconst (v := 0) hO dX0_cutsFor_146 rfl ?_
                      exact G_iret hO dX0_cutsFor_147 rfl rfl (QI.i h)
                    · have h := h.2 c21
                      refine G_iconst (v := 1) hO dX0_cutsFor_142 rfl ?_
                      refine G_goto (tgt := 147) hO dX0_cutsFor_143 (by decide) ?_
                      exact G_iret hO dX0_cutsFor_147 rfl rfl (QI.i h)
              · by_cases e5 : (w (f + 1) (p1).toNatClampNeg) = (5 : Int32)
                · have h := h.2.2.2.2.1 e5
                  refine G_tabIn (tgt := 148) (j := 4) hO dX0_cutsFor_46 (by decide) rfl (sweq e5 (by decide)) (by decide) ?_
                  refine G_iload_n hO dX0_cutsFor_148 rfl rfl ?_
                  refine G_iconst (v := 3) hO dX0_cutsFor_149 rfl ?_
                  refine G_icmp_lt (tgt := 164) hO dX0_cutsFor_150 (by decide) (fun c22 => ?_) (fun c22 => ?_)
                  · have h := h.1 c22
                    refine G_iconst (v := 1) hO dX0_cutsFor_164 rfl ?_
                    refine G_goto (tgt := 169) hO dX0_cutsFor_165 (by decide) ?_
                    exact G_iret hO dX0_cutsFor_169 rfl rfl (QI.i h)
                  · have h := h.2 c22
                    refine G_aload_n hO dX0_cutsFor_153 rfl rfl ?_
                    refine gr_X0_18 (c := (f + 3)) hO dX0_cutsFor_154 hF.1 rfl ?_
                    refine G_iload_n hO dX0_cutsFor_157 rfl rfl ?_
                    refine G_iaload hO dX0_cutsFor_158 hF.2.2.2.1 c8 ?_
                    refine G_bipush (v := 10) hO dX0_cutsFor_159 rfl ?_
                    refine G_icmp_lt (tgt := 168) hO dX0_cutsFor_161 (by decide) (fun c23 => ?_) (fun c23 => ?_)
                    · have h := h.1 c23
                      refine G_iconst (v := 0) hO dX0_cutsFor_168 rfl ?_
                      exact G_iret hO dX0_cutsFor_169 rfl rfl (QI.i h)
                    · have h := h.2 c23
                      refine G_iconst (v := 1) hO dX0_cutsFor_164 rfl ?_
                      refine G_goto (tgt := 169) hO dX0_cutsFor_165 (by decide) ?_
                      exact G_iret hO dX0_cutsFor_169 rfl rfl (QI.i h)
                · have h := h.2.2.2.2.2 ⟨e1, e2, e3, e4, e5⟩
                  refine G_tabOut (tgt := 170) hO dX0_cutsFor_46 (by decide) (by decide) (fun j hj => ?_) ?_
                  · rcases (show j = 0 ∨ j = 1 ∨ j = 2 ∨ j = 3 ∨ j = 4 from by have : j < 5 := hj; omega) with rfl | rfl | rfl | rfl | rfl
                    · exact swne e1 (by decide)
                    · exact swne e2 (by decide)
                    · exact swne e3 (by decide)
                    · exact swne e4 (by decide)
                    · exact swne e5 (by decide)
                  · refine G_iload hO dX0_cutsFor_170 rfl ?_
                    exact G_iret hO dX0_cutsFor_172 rfl h.1.nb (QI.i h.2))
  refine G_aload_n hO dX0_cutsFor_0 rfl rfl ?_
  refine G_iload_n hO dX0_cutsFor_1 rfl rfl ?_
  refine G_iload_n hO dX0_cutsFor_2 rfl rfl ?_
  refine G_iload_n hO dX0_cutsFor_3 rfl rfl ?_
  refine G_iload_n hO dX0_cutsFor_4 rfl rfl ?_
  refine G_iload_n hO dX0_cutsFor_5 rfl rfl ?_
  refine G_callVv hO dX0_cutsFor_6 h cl_X0_51 hF.1 rfl rfl (Nat.le_of_ble_eq_true rfl) (fun w2 h => ?_) rfl
  refine G_aload_n hO dX0_cutsFor_9 rfl rfl ?_
  refine gr_X0_37 (c := 1) hO dX0_cutsFor_10 hF.1 rfl ?_
  refine G_aload_n hO dX0_cutsFor_13 rfl rfl ?_
  refine gi_X0_47 hO dX0_cutsFor_14 hF.1 rfl ?_
  obtain ⟨c3, h⟩ := h
  obtain ⟨c4, h⟩ := h
  refine G_aaT hO dX0_cutsFor_17 hF.2.2.2.2.2.2.2 c3 ?_
  refine GG.atpc (pc2 := 18) rfl ?_
  refine G_iconst (v := 0) hO dX0_cutsFor_18 rfl ?_
  refine G_aload_n hO dX0_cutsFor_19 rfl rfl ?_
  refine gr_X0_31 (c := (f + 5)) hO dX0_cutsFor_20 hF.1 rfl ?_
  refine G_aload_n hO dX0_cutsFor_23 rfl rfl ?_
  refine gr_X0_34 (c := (f + 6)) hO dX0_cutsFor_24 hF.1 rfl ?_
  refine G_callVi hO dX0_cutsFor_27 h cl_X0_55 c4.1 rfl rfl (Nat.le_of_ble_eq_true rfl) (fun r5 w6 h => ?_) rfl
  refine G_if_eq (tgt := 37) hO dX0_cutsFor_30 (by decide) (fun c7 => ?_) (fun c7 => ?_)
  · have h := h.1 c7
    refine G_iconst (v := 0) hO dX0_cutsFor_37 rfl ?_
    exact GG.sub (lv2 := [some (.ref (gad Γ f)), some (.int p1), none, some (.int p3), none]) ⟨rfl, ⟨rfl, ⟨rfl, trivial⟩⟩⟩ h
  · have h := h.2 c7
    refine G_iconst (v := 1) hO dX0_cutsFor_33 rfl ?_
    refine G_goto (tgt := 38) hO dX0_cutsFor_34 (by decide) ?_
    exact GG.sub (lv2 := [some (.ref (gad Γ f)), some (.int p1), none, some (.int p3), none]) ⟨rfl, ⟨rfl, ⟨rfl, trivial⟩⟩⟩ h
def wp_X0_motherCuts (Γ : Gx) (d : Nat) (f : Nat) (p1 : Int32) (p2 : Int32) (p3 : Int32) (w : Wd) (Q : Int32 → Wd → Prop) : Prop :=
  ((¬ p3 = 0 → Q (1 : Int32) w) ∧ (p3 = 0 → (vp_in p1 5 ∧ ((¬ p2 = ((w (f + 2) (p1).toNatClampNeg) - ((w (f + 2) (p1).toNatClampNeg) / (8 : Int32)) * (8 : Int32)) → Q (0 : Int32) w) ∧ (p2 = ((w (f + 2) (p1).toNatClampNeg) - ((w (f + 2) (p1).toNatClampNeg) / (8 : Int32)) * (8 : Int32)) → Q (1 : Int32) w)))))
set_option maxRecDepth 20000 in
theorem con_X0_motherCuts {Γ : Gx} {d : Nat} (hG : GC Γ) {f : Nat} {p1 : Int32} {p2 : Int32} {p3 : Int32} (hF : ShF Γ f) {w : Wd} {Q : Int32 → Wd → Prop} (h : wp_X0_motherCuts Γ d f p1 p2 p3 w Q) : CI Γ (d + 1) M_X0_motherCuts [.ref (gad Γ f), .int p1, .int p2, .int p3] w Q := by
  have hC := hG.2.1
  refine Con.of RX0 cX0_motherCuts 4 (some .boolean) [some (.ref (gad Γ f)), some (.int p1), some (.int p2), some (.int p3)] rfl rfl (by decide +kernel) hG.1 (catR (catI (catI (catI cat0)))) (Nat.le_of_ble_eq_true rfl) rfl ?_
  intro X hO
  refine G_iload_n hO dX0_motherCuts_0 rfl rfl ?_
  refine G_if_ne (tgt := 17) hO dX0_motherCuts_1 (by decide) (fun c1 => ?_) (fun c1 => ?_)
  · have h := h.1 c1
    refine G_iconst (v := 1) hO dX0_motherCuts_17 rfl ?_
    refine G_goto (tgt := 22) hO dX0_motherCuts_18 (by decide) ?_
    exact G_iret hO dX0_motherCuts_22 rfl rfl (QI.i h)
  · have h := h.2 c1
    refine G_iload_n hO dX0_motherCuts_4 rfl rfl ?_
    refine G_aload_n hO dX0_motherCuts_5 rfl rfl ?_
    refine gr_X0_15 (c := (f + 2)) hO dX0_motherCuts_6 hF.1 rfl ?_
    refine G_iload_n hO dX0_motherCuts_9 rfl rfl ?_
    obtain ⟨c2, h⟩ := h
    refine G_iaload hO dX0_motherCuts_10 hF.2.2.1 c2 ?_
    refine G_bipush (v := 8) hO dX0_motherCuts_11 rfl ?_
    refine G_irem hO dX0_motherCuts_13 (by decide) ?_
    refine G_icmp_ne (tgt := 21) hO dX0_motherCuts_14 (by decide) (fun c3 => ?_) (fun c3 => ?_)
    · have h := h.1 c3
      refine G_iconst (v := 0) hO dX0_motherCuts_21 rfl ?_
      exact G_iret hO dX0_motherCuts_22 rfl rfl (QI.i h)
    · have h := h.2 c3
      refine G_iconst (v := 1) hO dX0_motherCuts_17 rfl ?_
      refine G_goto (tgt := 22) hO dX0_motherCuts_18 (by decide) ?_
      exact G_iret hO dX0_motherCuts_22 rfl rfl (QI.i h)
def wp_X0_inlawCuts (Γ : Gx) (d : Nat) (p1 : Int32) (p2 : Int32) (w : Wd) (Q : Int32 → Wd → Prop) : Prop :=
  ((p2 = 0 → Q (0 : Int32) w) ∧ (¬ p2 = 0 → ((¬ (p1 - (p1 / (2 : Int32)) * (2 : Int32)) = 0 → Q (0 : Int32) w) ∧ ((p1 - (p1 / (2 : Int32)) * (2 : Int32)) = 0 → Q (1 : Int32) w))))
set_option maxRecDepth 20000 in
theorem con_X0_inlawCuts {Γ : Gx} {d : Nat} (hG : GC Γ) {p1 : Int32} {p2 : Int32}  {w : Wd} {Q : Int32 → Wd → Prop} (h : wp_X0_inlawCuts Γ d p1 p2 w Q) : CI Γ (d + 1) M_X0_inlawCuts [.int p1, .int p2] w Q := by
  have hC := hG.2.1
  refine Con.of RX0 cX0_inlawCuts 2 (some .boolean) [some (.int p1), some (.int p2)] rfl rfl (by decide +kernel) hG.1 (catI (catI cat0)) (Nat.le_of_ble_eq_true rfl) rfl ?_
  intro X hO
  refine G_iload_n hO dX0_inlawCuts_0 rfl rfl ?_
  refine G_if_eq (tgt := 14) hO dX0_inlawCuts_1 (by decide) (fun c1 => ?_) (fun c1 => ?_)
  · have h := h.1 c1
    refine G_iconst (v := 0) hO dX0_inlawCuts_14 rfl ?_
    exact G_iret hO dX0_inlawCuts_15 rfl rfl (QI.i h)
  · have h := h.2 c1
    refine G_iload_n hO dX0_inlawCuts_4 rfl rfl ?_
    refine G_iconst (v := 2) hO dX0_inlawCuts_5 rfl ?_
    refine G_irem hO dX0_inlawCuts_6 (by decide) ?_
    refine G_if_ne (tgt := 14) hO dX0_inlawCuts_7 (by decide) (fun c2 => ?_) (fun c2 => ?_)
    · have h := h.1 c2
      refine G_iconst (v := 0) hO dX0_inlawCuts_14 rfl ?_
      exact G_iret hO dX0_inlawCuts_15 rfl rfl (QI.i h)
    · have h := h.2 c2
      refine G_iconst (v := 1) hO dX0_inlawCuts_10 rfl ?_
      refine G_goto (tgt := 15) hO dX0_inlawCuts_11 (by decide) ?_
      exact G_iret hO dX0_inlawCuts_15 rfl rfl (QI.i h)
def wp_X0_feelsBy (Γ : Gx) (d : Nat) (f : Nat) (p1 : Int32) (p2 : Int32) (p3 : Int32) (w : Wd) (Q : Int32 → Wd → Prop) : Prop :=
  CV Γ d M_X0_nameAll [.ref (gad Γ f), .int p3, .int p1, .int p2, .int p2, .int p1] w (fun w2 => (vp_in (w2 f 7) 6 ∧ (ShT Γ (rfa textCells ((w2 f 7)).toNatClampNeg) ∧ CI Γ d M_X3_valueOf [.ref (gad Γ (rfa textCells ((w2 f 7)).toNatClampNeg)), .int (1 : Int32), .ref (gad Γ (f + 5)), .ref (gad Γ (f + 6))] w2 (fun r5 w6 => CI Γ d M_X4_bounded [.int r5] w6 (fun r7 w8 => (vp_in p1 5 ∧ ((((w8 (f + 1) (p1).toNatClampNeg) = (1 : Int32)) → Q (if (-1 : Int32) < r7 then r7 else (-1 : Int32)) w8) ∧ (((w8 (f + 1) (p1).toNatClampNeg) = (2 : Int32)) → CI Γ d M_X4_bounded [.int ((2 : Int32) * r7)] w8 (fun r10 w11 => Q r10 w11)) ∧ (((w8 (f + 1) (p1).toNatClampNeg) = (3 : Int32)) → CI Γ d M_X4_bounded [.int ((if (-1 : Int32) < r7 then r7 else (-1 : Int32)) + (1 : Int32))] w8 (fun r12 w13 => Q r12 w13)) ∧ (((w8 (f + 1) (p1).toNatClampNeg) = (4 : Int32)) → CI Γ d M_X4_bounded [.int ((2 : Int32) * r7)] w8 (fun r14 w15 => CI Γ d M_X4_bounded [.int ((r14 / (2 : Int32)) - (w15 (f + 2) (p1).toNatClampNeg))] w15 (fun r16 w17 => Q r16 w17))) ∧ (((w8 (f + 1) (p1).toNatClampNeg) = (5 : Int32)) → ((p3 < (4 : Int32) → Q r7 w8) ∧ (¬ p3 < (4 : Int32) → Q (0 : Int32) w8))) ∧ ((¬ (w8 (f + 1) (p1).toNatClampNeg) = (1 : Int32) ∧ ¬ (w8 (f + 1) (p1).toNatClampNeg) = (2 : Int32) ∧ ¬ (w8 (f + 1) (p1).toNatClampNeg) = (3 : Int32) ∧ ¬ (w8 (f + 1) (p1).toNatClampNeg) = (4 : Int32) ∧ ¬ (w8 (f + 1) (p1).toNatClampNeg) = (5 : Int32)) → Q r7 w8))))))))
set_option maxRecDepth 20000 in
theorem con_X0_feelsBy {Γ : Gx} {d : Nat} (hG : GC Γ) {f : Nat} {p1 : Int32} {p2 : Int32} {p3 : Int32} (hF : ShF Γ f) {w : Wd} {Q : Int32 → Wd → Prop} (h : wp_X0_feelsBy Γ d f p1 p2 p3 w Q) : CI Γ (d + 1) M_X0_feelsBy [.ref (gad Γ f), .int p1, .int p2, .int p3] w Q := by
  have hC := hG.2.1
  refine Con.of RX0 cX0_feelsBy 5 (some .int) [some (.ref (gad Γ f)), some (.int p1), some (.int p2), some (.int p3), none] rfl rfl (by decide +kernel) hG.1 (catR (catI (catI (catI cat0)))) (Nat.le_of_ble_eq_true rfl) rfl ?_
  intro X hO
  refine G_aload_n hO dX0_feelsBy_0 rfl rfl ?_
  refine G_iload_n hO dX0_feelsBy_1 rfl rfl ?_
  refine G_iload_n hO dX0_feelsBy_2 rfl rfl ?_
  refine G_iload_n hO dX0_feelsBy_3 rfl rfl ?_
  refine G_iload_n hO dX0_feelsBy_4 rfl rfl ?_
  refine G_iload_n hO dX0_feelsBy_5 rfl rfl ?_
  refine G_callVv hO dX0_feelsBy_6 h cl_X0_51 hF.1 rfl rfl (Nat.le_of_ble_eq_true rfl) (fun w2 h => ?_) rfl
  refine G_aload_n hO dX0_feelsBy_9 rfl rfl ?_
  refine gr_X0_37 (c := 1) hO dX0_feelsBy_10 hF.1 rfl ?_
  refine G_aload_n hO dX0_feelsBy_13 rfl rfl ?_
  refine gi_X0_47 hO dX0_feelsBy_14 hF.1 rfl ?_
  obtain ⟨c3, h⟩ := h
  obtain ⟨c4, h⟩ := h
  refine G_aaT hO dX0_feelsBy_17 hF.2.2.2.2.2.2.2 c3 ?_
  refine GG.atpc (pc2 := 18) rfl ?_
  refine G_iconst (v := 1) hO dX0_feelsBy_18 rfl ?_
  refine G_aload_n hO dX0_feelsBy_19 rfl rfl ?_
  refine gr_X0_31 (c := (f + 5)) hO dX0_feelsBy_20 hF.1 rfl ?_
  refine G_aload_n hO dX0_feelsBy_23 rfl rfl ?_
  refine gr_X0_34 (c := (f + 6)) hO dX0_feelsBy_24 hF.1 rfl ?_
  refine G_callVi hO dX0_feelsBy_27 h cl_X0_55 c4.1 rfl rfl (Nat.le_of_ble_eq_true rfl) (fun r5 w6 h => ?_) rfl
  refine G_callSNi hO dX0_feelsBy_30 h (hG.x hO).2.1 cl_X0_80 rfl (Nat.le_of_ble_eq_true rfl) (fun r7 w8 h => ?_) rfl
  refine G_istore (lv2 := [some (.ref (gad Γ f)), some (.int p1), some (.int p2), some (.int p3), some (.int r7)]) hO dX0_feelsBy_33 (by decide) rfl rfl ?_
  refine G_aload_n hO dX0_feelsBy_35 rfl rfl ?_
  refine gr_X0_9 (c := (f + 1)) hO dX0_feelsBy_36 hF.1 rfl ?_
  refine G_iload_n hO dX0_feelsBy_39 rfl rfl ?_
  obtain ⟨c9, h⟩ := h
  refine G_iaload hO dX0_feelsBy_40 hF.2.1 c9 ?_
  refine GG.atpc (pc2 := 41) rfl ?_
  by_cases e1 : (w8 (f + 1) (p1).toNatClampNeg) = (1 : Int32)
  · have h := h.1 e1
    refine G_tabIn (tgt := 76) (j := 0) hO dX0_feelsBy_41 (by decide) rfl (sweq e1 (by decide)) (by decide) ?_
    refine G_iconst (v := -1) hO dX0_feelsBy_76 rfl ?_
    refine G_iload hO dX0_feelsBy_77 rfl ?_
    refine G_mmax hO dX0_feelsBy_79 ml_X0_84 (Nat.le_of_ble_eq_true rfl) ?_
    exact G_iret hO dX0_feelsBy_82 rfl rfl (QI.i h)
  · by_cases e2 : (w8 (f + 1) (p1).toNatClampNeg) = (2 : Int32)
    · have h := h.2.1 e2
      refine G_tabIn (tgt := 83) (j := 1) hO dX0_feelsBy_41 (by decide) rfl (sweq e2 (by decide)) (by decide) ?_
      refine G_iconst (v := 2) hO dX0_feelsBy_83 rfl ?_
      refine G_iload hO dX0_feelsBy_84 rfl ?_
      refine G_imul hO dX0_feelsBy_86 ?_
      refine G_callSNi hO dX0_feelsBy_87 h (hG.x hO).2.1 cl_X0_80 rfl (Nat.le_of_ble_eq_true rfl) (fun r10 w11 h => ?_) rfl
      exact G_iret hO dX0_feelsBy_90 rfl rfl (QI.i h)
    · by_cases e3 : (w8 (f + 1) (p1).toNatClampNeg) = (3 : Int32)
      · have h := h.2.2.1 e3
        refine G_tabIn (tgt := 91) (j := 2) hO dX0_feelsBy_41 (by decide) rfl (sweq e3 (by decide)) (by decide) ?_
        refine G_iconst (v := -1) hO dX0_feelsBy_91 rfl ?_
        refine G_iload hO dX0_feelsBy_92 rfl ?_
        refine G_mmax hO dX0_feelsBy_94 ml_X0_84 (Nat.le_of_ble_eq_true rfl) ?_
        refine G_iconst (v := 1) hO dX0_feelsBy_97 rfl ?_
        refine G_iadd hO dX0_feelsBy_98 ?_
        refine G_callSNi hO dX0_feelsBy_99 h (hG.x hO).2.1 cl_X0_80 rfl (Nat.le_of_ble_eq_true rfl) (fun r12 w13 h => ?_) rfl
        exact G_iret hO dX0_feelsBy_102 rfl rfl (QI.i h)
      · by_cases e4 : (w8 (f + 1) (p1).toNatClampNeg) = (4 : Int32)
        · have h := h.2.2.2.1 e4
          refine G_tabIn (tgt := 103) (j := 3) hO dX0_feelsBy_41 (by decide) rfl (sweq e4 (by decide)) (by decide) ?_
          refine G_iconst (v := 2) hO dX0_feelsBy_103 rfl ?_
          refine G_iload hO dX0_feelsBy_104 rfl ?_
          refine G_imul hO dX0_feelsBy_106 ?_
          refine G_callSNi hO dX0_feelsBy_107 h (hG.x hO).2.1 cl_X0_80 rfl (Nat.le_of_ble_eq_true rfl) (fun r14 w15 h => ?_) rfl
          refine G_iconst (v := 2) hO dX0_feelsBy_110 rfl ?_
          refine G_idiv hO dX0_feelsBy_111 (by decide) ?_
          refine G_aload_n hO dX0_feelsBy_112 rfl rfl ?_
          refine gr_X0_15 (c := (f + 2)) hO dX0_feelsBy_113 hF.1 rfl ?_
          refine G_iload_n hO dX0_feelsBy_116 rfl rfl ?_
          refine G_iaload hO dX0_feelsBy_117 hF.2.2.1 c9 ?_
          refine G_isub hO dX0_feelsBy_118 ?_
          refine G_callSNi hO dX0_feelsBy_119 h (hG.x hO).2.1 cl_X0_80 rfl (Nat.le_of_ble_eq_true rfl) (fun r16 w17 h => ?_) rfl
          refine GG.atpc (pc2 := 122) rfl ?_
          exact G_iret hO dX0_feelsBy_122 rfl rfl (QI.i h)
        · by_cases e5 : (w8 (f + 1) (p1).toNatClampNeg) = (5 : Int32)
          · have h := h.2.2.2.2.1 e5
            refine G_tabIn (tgt := 123) (j := 4) hO dX0_feelsBy_41 (by decide) rfl (sweq e5 (by decide)) (by decide) ?_
            refine G_iload_n hO dX0_feelsBy_123 rfl rfl ?_
            refine G_iconst (v := 4) hO dX0_feelsBy_124 rfl ?_
            refine G_icmp_lt (tgt := 132) hO dX0_feelsBy_125 (by decide) (fun c18 => ?_) (fun c18 => ?_)
            · have h := h.1 c18
              refine G_iload hO dX0_feelsBy_132 rfl ?_
              exact G_iret hO dX0_feelsBy_134 rfl rfl (QI.i h)
            · have h := h.2 c18
              refine G_iconst (v := 0) hO dX0_feelsBy_128 rfl ?_
              refine G_goto (tgt := 134) hO dX0_feelsBy_129 (by decide) ?_
              exact G_iret hO dX0_feelsBy_134 rfl rfl (QI.i h)
          · have h := h.2.2.2.2.2 ⟨e1, e2, e3, e4, e5⟩
            refine G_tabOut (tgt := 135) hO dX0_feelsBy_41 (by decide) (by decide) (fun j hj => ?_) ?_
            · rcases (show j = 0 ∨ j = 1 ∨ j = 2 ∨ j = 3 ∨ j = 4 from by have : j < 5 := hj; omega) with rfl | rfl | rfl | rfl | rfl
              · exact swne e1 (by decide)
              · exact swne e2 (by decide)
              · exact swne e3 (by decide)
              · exact swne e4 (by decide)
              · exact swne e5 (by decide)
            · refine G_iload hO dX0_feelsBy_135 rfl ?_
              exact G_iret hO dX0_feelsBy_137 rfl rfl (QI.i h)
def wp_X0_nameAll (Γ : Gx) (d : Nat) (f : Nat) (p1 : Int32) (p2 : Int32) (p3 : Int32) (p4 : Int32) (p5 : Int32) (w : Wd) (Q : Wd → Prop) : Prop :=
  (∀ w1 : Wd, w1 = wset w (f + 5) 0 p1 → (vp_in p2 5 ∧ (∀ w4 : Wd, w4 = wset w1 (f + 5) 1 (w1 (f + 3) (p2).toNatClampNeg) → (∀ w6 : Wd, w6 = wset w4 (f + 5) 2 (w4 (f + 2) (p2).toNatClampNeg) → (vp_in p3 5 ∧ (∀ w9 : Wd, w9 = wset w6 (f + 5) 3 (w6 (f + 3) (p3).toNatClampNeg) → (∀ w11 : Wd, w11 = wset w9 (f + 5) 4 p4 → (∀ w13 : Wd, w13 = wset w11 (f + 5) 5 p5 → Q w13))))))))
set_option maxRecDepth 20000 in
theorem con_X0_nameAll {Γ : Gx} {d : Nat} (hG : GC Γ) {f : Nat} {p1 : Int32} {p2 : Int32} {p3 : Int32} {p4 : Int32} {p5 : Int32} (hF : ShF Γ f) {w : Wd} {Q : Wd → Prop} (h : wp_X0_nameAll Γ d f p1 p2 p3 p4 p5 w Q) : CV Γ (d + 1) M_X0_nameAll [.ref (gad Γ f), .int p1, .int p2, .int p3, .int p4, .int p5] w Q := by
  have hC := hG.2.1
  refine Con.of RX0 cX0_nameAll 6 none [some (.ref (gad Γ f)), some (.int p1), some (.int p2), some (.int p3), some (.int p4), some (.int p5)] rfl rfl (by decide +kernel) hG.1 (catR (catI (catI (catI (catI (catI cat0)))))) (Nat.le_of_ble_eq_true rfl) rfl ?_
  intro X hO
  refine G_aload_n hO dX0_nameAll_0 rfl rfl ?_
  refine gr_X0_31 (c := (f + 5)) hO dX0_nameAll_1 hF.1 rfl ?_
  refine G_iconst (v := 0) hO dX0_nameAll_4 rfl ?_
  refine G_iload_n hO dX0_nameAll_5 rfl rfl ?_
  refine G_iastore hO dX0_nameAll_6 hF.2.2.2.2.2.1 (by unfold vp_in; decide) ?_
  refine GG.nmw (fun w1 e2 => ?_)
  have h := h w1 e2
  refine G_aload_n hO dX0_nameAll_7 rfl rfl ?_
  refine gr_X0_31 (c := (f + 5)) hO dX0_nameAll_8 hF.1 rfl ?_
  refine G_iconst (v := 1) hO dX0_nameAll_11 rfl ?_
  refine G_aload_n hO dX0_nameAll_12 rfl rfl ?_
  refine gr_X0_18 (c := (f + 3)) hO dX0_nameAll_13 hF.1 rfl ?_
  refine G_iload_n hO dX0_nameAll_16 rfl rfl ?_
  obtain ⟨c3, h⟩ := h
  refine G_iaload hO dX0_nameAll_17 hF.2.2.2.1 c3 ?_
  refine GG.atpc (pc2 := 18) rfl ?_
  refine G_iastore hO dX0_nameAll_18 hF.2.2.2.2.2.1 (by unfold vp_in; decide) ?_
  refine GG.nmw (fun w4 e5 => ?_)
  have h := h w4 e5
  refine G_aload_n hO dX0_nameAll_19 rfl rfl ?_
  refine gr_X0_31 (c := (f + 5)) hO dX0_nameAll_20 hF.1 rfl ?_
  refine G_iconst (v := 2) hO dX0_nameAll_23 rfl ?_
  refine G_aload_n hO dX0_nameAll_24 rfl rfl ?_
  refine gr_X0_15 (c := (f + 2)) hO dX0_nameAll_25 hF.1 rfl ?_
  refine G_iload_n hO dX0_nameAll_28 rfl rfl ?_
  refine G_iaload hO dX0_nameAll_29 hF.2.2.1 c3 ?_
  refine G_iastore hO dX0_nameAll_30 hF.2.2.2.2.2.1 (by unfold vp_in; decide) ?_
  refine GG.nmw (fun w6 e7 => ?_)
  have h := h w6 e7
  refine G_aload_n hO dX0_nameAll_31 rfl rfl ?_
  refine gr_X0_31 (c := (f + 5)) hO dX0_nameAll_32 hF.1 rfl ?_
  refine G_iconst (v := 3) hO dX0_nameAll_35 rfl ?_
  refine GG.atpc (pc2 := 36) rfl ?_
  refine G_aload_n hO dX0_nameAll_36 rfl rfl ?_
  refine gr_X0_18 (c := (f + 3)) hO dX0_nameAll_37 hF.1 rfl ?_
  refine G_iload_n hO dX0_nameAll_40 rfl rfl ?_
  obtain ⟨c8, h⟩ := h
  refine G_iaload hO dX0_nameAll_41 hF.2.2.2.1 c8 ?_
  refine G_iastore hO dX0_nameAll_42 hF.2.2.2.2.2.1 (by unfold vp_in; decide) ?_
  refine GG.nmw (fun w9 e10 => ?_)
  have h := h w9 e10
  refine G_aload_n hO dX0_nameAll_43 rfl rfl ?_
  refine gr_X0_31 (c := (f + 5)) hO dX0_nameAll_44 hF.1 rfl ?_
  refine G_iconst (v := 4) hO dX0_nameAll_47 rfl ?_
  refine G_iload hO dX0_nameAll_48 rfl ?_
  refine G_iastore hO dX0_nameAll_50 hF.2.2.2.2.2.1 (by unfold vp_in; decide) ?_
  refine GG.nmw (fun w11 e12 => ?_)
  have h := h w11 e12
  refine G_aload_n hO dX0_nameAll_51 rfl rfl ?_
  refine gr_X0_31 (c := (f + 5)) hO dX0_nameAll_52 hF.1 rfl ?_
  refine GG.atpc (pc2 := 55) rfl ?_
  refine G_iconst (v := 5) hO dX0_nameAll_55 rfl ?_
  refine G_iload hO dX0_nameAll_56 rfl ?_
  refine G_iastore hO dX0_nameAll_58 hF.2.2.2.2.2.1 (by unfold vp_in; decide) ?_
  refine GG.nmw (fun w13 e14 => ?_)
  have h := h w13 e14
  exact G_vret hO dX0_nameAll_59 rfl (QV.i h)
def wp_X0_feltFrom (Γ : Gx) (d : Nat) (f : Nat) (p1 : Int32) (p2 : Int32) (w : Wd) (Q : Int32 → Wd → Prop) : Prop :=
  ∀ (P_13 : Int32 → Int32 → Int32 → Wd → Prop),
  (∀ (l3 : Int32) (l4 : Int32) (l5 : Int32) (w : Wd), (((8 : Int32) ≤ l5 → Q l4 w) ∧ (¬ (8 : Int32) ≤ l5 → ((((l3 >>> (l5 &&& 31)) &&& (1 : Int32)) = 0 → P_13 l3 l4 (l5 + 1) w) ∧ (¬ ((l3 >>> (l5 &&& 31)) &&& (1 : Int32)) = 0 → CI Γ d M_X0_feelsBy [.ref (gad Γ f), .int p2, .int p1, .int l5] w (fun r5 w6 => P_13 l3 (l4 + r5) (l5 + 1) w6))))) → P_13 l3 l4 l5 w) →
  CI Γ d M_X0_layersOf [.ref (gad Γ f), .int p1, .int p2] w (fun r1 w2 => P_13 r1 (0 : Int32) (0 : Int32) w2)
set_option maxRecDepth 20000 in
theorem con_X0_feltFrom {Γ : Gx} {d : Nat} (hG : GC Γ) {f : Nat} {p1 : Int32} {p2 : Int32} (hF : ShF Γ f) {w : Wd} {Q : Int32 → Wd → Prop} (h : wp_X0_feltFrom Γ d f p1 p2 w Q) : CI Γ (d + 1) M_X0_feltFrom [.ref (gad Γ f), .int p1, .int p2] w Q := by
  have hC := hG.2.1
  refine Con.of RX0 cX0_feltFrom 6 (some .int) [some (.ref (gad Γ f)), some (.int p1), some (.int p2), none, none, none] rfl rfl (by decide +kernel) hG.1 (catR (catI (catI cat0))) (Nat.le_of_ble_eq_true rfl) rfl ?_
  intro X hO
  have h := h
    (fun (l3 : Int32) (l4 : Int32) (l5 : Int32) (w : Wd) => GG Γ X (d + 1) 6 (QI Q) 13 [some (.ref (gad Γ f)), some (.int p1), some (.int p2), some (.int l3), some (.int l4), some (.int l5)] [] w)
    (by
        intro l3 l4 l5 w h
        refine G_iload hO dX0_feltFrom_13 rfl ?_
        refine G_bipush (v := 8) hO dX0_feltFrom_15 rfl ?_
        refine G_icmp_ge (tgt := 48) hO dX0_feltFrom_17 (by decide) (fun c3 => ?_) (fun c3 => ?_)
        · have h := h.1 c3
          refine G_iload hO dX0_feltFrom_48 rfl ?_
          exact G_iret hO dX0_feltFrom_50 rfl rfl (QI.i h)
        · have h := h.2 c3
          refine G_iload_n hO dX0_feltFrom_20 rfl rfl ?_
          refine G_iload hO dX0_feltFrom_21 rfl ?_
          refine G_ishr hO dX0_feltFrom_23 ?_
          refine G_iconst (v := 1) hO dX0_feltFrom_24 rfl ?_
          refine G_iand hO dX0_feltFrom_25 ?_
          refine G_if_eq (tgt := 42) hO dX0_feltFrom_26 (by decide) (fun c4 => ?_) (fun c4 => ?_)
          · have h := h.1 c4
            refine G_iinc (v := (l5 + 1)) (lv2 := [some (.ref (gad Γ f)), some (.int p1), some (.int p2), some (.int l3), some (.int l4), some (.int (l5 + 1))]) hO dX0_feltFrom_42 rfl rfl (by decide) rfl rfl ?_
            refine G_goto (tgt := 13) hO dX0_feltFrom_45 (by decide) ?_
            exact GG.sub (lv2 := [some (.ref (gad Γ f)), some (.int p1), some (.int p2), some (.int l3), some (.int l4), some (.int (l5 + 1))]) ⟨rfl, ⟨rfl, ⟨rfl, ⟨rfl, ⟨rfl, ⟨rfl, trivial⟩⟩⟩⟩⟩⟩ h
          · have h := h.2 c4
            refine G_iload hO dX0_feltFrom_29 rfl ?_
            refine G_aload_n hO dX0_feltFrom_31 rfl rfl ?_
            refine G_iload_n hO dX0_feltFrom_32 rfl rfl ?_
            refine G_iload_n hO dX0_feltFrom_33 rfl rfl ?_
            refine G_iload hO dX0_feltFrom_34 rfl ?_
            refine G_callVi hO dX0_feltFrom_36 h cl_X0_93 hF.1 rfl rfl (Nat.le_of_ble_eq_true rfl) (fun r5 w6 h => ?_) rfl
            refine G_iadd hO dX0_feltFrom_39 ?_
            refine G_istore (lv2 := [some (.ref (gad Γ f)), some (.int p1), some (.int p2), some (.int l3), some (.int (l4 + r5)), some (.int l5)]) hO dX0_feltFrom_40 (by decide) rfl rfl ?_
            refine G_iinc (v := (l5 + 1)) (lv2 := [some (.ref (gad Γ f)), some (.int p1), some (.int p2), some (.int l3), some (.int (l4 + r5)), some (.int (l5 + 1))]) hO dX0_feltFrom_42 rfl rfl (by decide) rfl rfl ?_
            refine G_goto (tgt := 13) hO dX0_feltFrom_45 (by decide) ?_
            exact GG.sub (lv2 := [some (.ref (gad Γ f)), some (.int p1), some (.int p2), some (.int l3), some (.int (l4 + r5)), some (.int (l5 + 1))]) ⟨rfl, ⟨rfl, ⟨rfl, ⟨rfl, ⟨rfl, ⟨rfl, trivial⟩⟩⟩⟩⟩⟩ h)
  refine G_aload_n hO dX0_feltFrom_0 rfl rfl ?_
  refine G_iload_n hO dX0_feltFrom_1 rfl rfl ?_
  refine G_iload_n hO dX0_feltFrom_2 rfl rfl ?_
  refine G_callVi hO dX0_feltFrom_3 h cl_X0_90 hF.1 rfl rfl (Nat.le_of_ble_eq_true rfl) (fun r1 w2 h => ?_) rfl
  refine G_istore_n (lv2 := [some (.ref (gad Γ f)), some (.int p1), some (.int p2), some (.int r1), none, none]) hO dX0_feltFrom_6 rfl (by decide) rfl rfl ?_
  refine G_iconst (v := 0) hO dX0_feltFrom_7 rfl ?_
  refine G_istore (lv2 := [some (.ref (gad Γ f)), some (.int p1), some (.int p2), some (.int r1), some (.int (0 : Int32)), none]) hO dX0_feltFrom_8 (by decide) rfl rfl ?_
  refine G_iconst (v := 0) hO dX0_feltFrom_10 rfl ?_
  refine G_istore (lv2 := [some (.ref (gad Γ f)), some (.int p1), some (.int p2), some (.int r1), some (.int (0 : Int32)), some (.int (0 : Int32))]) hO dX0_feltFrom_11 (by decide) rfl rfl ?_
  exact GG.sub (lv2 := [some (.ref (gad Γ f)), some (.int p1), some (.int p2), some (.int r1), some (.int (0 : Int32)), some (.int (0 : Int32))]) ⟨rfl, ⟨rfl, ⟨rfl, ⟨rfl, ⟨rfl, ⟨rfl, trivial⟩⟩⟩⟩⟩⟩ h
def wp_X0_passSunday (Γ : Gx) (d : Nat) (f : Nat) (w : Wd) (Q : Int32 → Wd → Prop) : Prop :=
  ∀ (P_2 : Int32 → Wd → Prop),
  ∀ (P_19 : Int32 → Int32 → Wd → Prop),
  ∀ (P_58 : Int32 → Int32 → Wd → Prop),
  (∀ (l1 : Int32) (w : Wd), (((w f 4) ≤ l1 → P_58 (0 : Int32) (0 : Int32) w) ∧ (¬ (w f 4) ≤ l1 → (vp_in l1 5 ∧ (∀ w3 : Wd, w3 = wset w (f + 4) (l1).toNatClampNeg (0 : Int32) → P_19 l1 (0 : Int32) w3)))) → P_2 l1 w) →
  (∀ (l1 : Int32) (l2 : Int32) (w : Wd), (((w f 4) ≤ l2 → P_2 (l1 + 1) w) ∧ (¬ (w f 4) ≤ l2 → (vp_in l1 5 ∧ CI Γ d M_X0_feltFrom [.ref (gad Γ f), .int l2, .int l1] w (fun r7 w8 => (∀ w9 : Wd, w9 = wset w8 (f + 4) (l1).toNatClampNeg ((w (f + 4) (l1).toNatClampNeg) + r7) → P_19 l1 (l2 + 1) w9))))) → P_19 l1 l2 w) →
  (∀ (l1 : Int32) (l2 : Int32) (w : Wd), (((w f 4) ≤ l2 → (isZ l1 ∧ Q l1 w)) ∧ (¬ (w f 4) ≤ l2 → (vp_in l2 5 ∧ CI Γ d M_X4_bounded [.int ((w (f + 3) (l2).toNatClampNeg) + (w (f + 4) (l2).toNatClampNeg))] w (fun r13 w14 => ((¬ l1 = 0 → (∀ w16 : Wd, w16 = wset w14 (f + 3) (l2).toNatClampNeg r13 → P_58 (1 : Int32) (l2 + 1) w16)) ∧ (l1 = 0 → ((r13 = (w14 (f + 3) (l2).toNatClampNeg) → (∀ w19 : Wd, w19 = wset w14 (f + 3) (l2).toNatClampNeg r13 → P_58 (0 : Int32) (l2 + 1) w19)) ∧ (¬ r13 = (w14 (f + 3) (l2).toNatClampNeg) → (∀ w21 : Wd, w21 = wset w14 (f + 3) (l2).toNatClampNeg r13 → P_58 (1 : Int32) (l2 + 1) w21))))))))) → P_58 l1 l2 w) →
  P_2 (0 : Int32) w
set_option maxRecDepth 20000 in
theorem con_X0_passSunday {Γ : Gx} {d : Nat} (hG : GC Γ) {f : Nat} (hF : ShF Γ f) {w : Wd} {Q : Int32 → Wd → Prop} (h : wp_X0_passSunday Γ d f w Q) : CI Γ (d + 1) M_X0_passSunday [.ref (gad Γ f)] w Q := by
  have hC := hG.2.1
  refine Con.of RX0 cX0_passSunday 4 (some .boolean) [some (.ref (gad Γ f)), none, none, none] rfl rfl (by decide +kernel) hG.1 (catR cat0) (Nat.le_of_ble_eq_true rfl) rfl ?_
  intro X hO
  have h := h
    (fun (l1 : Int32) (w : Wd) => GG Γ X (d + 1) 4 (QI Q) 2 [some (.ref (gad Γ f)), some (.int l1), none, none] [] w)
    (fun (l1 : Int32) (l2 : Int32) (w : Wd) => GG Γ X (d + 1) 4 (QI Q) 19 [some (.ref (gad Γ f)), some (.int l1), some (.int l2), none] [] w)
    (fun (l1 : Int32) (l2 : Int32) (w : Wd) => GG Γ X (d + 1) 4 (QI Q) 58 [some (.ref (gad Γ f)), some (.int l1), some (.int l2), none] [] w)
    (by
        intro l1 w h
        refine G_iload_n hO dX0_passSunday_2 rfl rfl ?_
        refine G_aload_n hO dX0_passSunday_3 rfl rfl ?_
        refine gi_X0_41 hO dX0_passSunday_4 hF.1 rfl ?_
        refine G_icmp_ge (tgt := 54) hO dX0_passSunday_7 (by decide) (fun c1 => ?_) (fun c1 => ?_)
        · have h := h.1 c1
          refine G_iconst (v := 0) hO dX0_passSunday_54 rfl ?_
          refine G_istore_n (lv2 := [some (.ref (gad Γ f)), some (.int (0 : Int32)), none, none]) hO dX0_passSunday_55 rfl (by decide) rfl rfl ?_
          refine G_iconst (v := 0) hO dX0_passSunday_56 rfl ?_
          refine G_istore_n (lv2 := [some (.ref (gad Γ f)), some (.int (0 : Int32)), some (.int (0 : Int32)), none]) hO dX0_passSunday_57 rfl (by decide) rfl rfl ?_
          exact GG.sub (lv2 := [some (.ref (gad Γ f)), some (.int (0 : Int32)), some (.int (0 : Int32)), none]) ⟨rfl, ⟨rfl, ⟨rfl, trivial⟩⟩⟩ h
        · have h := h.2 c1
          refine G_aload_n hO dX0_passSunday_10 rfl rfl ?_
          refine gr_X0_21 (c := (f + 4)) hO dX0_passSunday_11 hF.1 rfl ?_
          refine G_iload_n hO dX0_passSunday_14 rfl rfl ?_
          refine G_iconst (v := 0) hO dX0_passSunday_15 rfl ?_
          obtain ⟨c2, h⟩ := h
          refine G_iastore hO dX0_passSunday_16 hF.2.2.2.2.1 c2 ?_
          refine GG.nmw (fun w3 e4 => ?_)
          have h := h w3 e4
          refine G_iconst (v := 0) hO dX0_passSunday_17 rfl ?_
          refine G_istore_n (lv2 := [some (.ref (gad Γ f)), some (.int l1), some (.int (0 : Int32)), none]) hO dX0_passSunday_18 rfl (by decide) rfl rfl ?_
          exact GG.sub (lv2 := [some (.ref (gad Γ f)), some (.int l1), some (.int (0 : Int32)), none]) ⟨rfl, ⟨rfl, ⟨rfl, trivial⟩⟩⟩ h)
    (by
        intro l1 l2 w h
        refine G_iload_n hO dX0_passSunday_19 rfl rfl ?_
        refine G_aload_n hO dX0_passSunday_20 rfl rfl ?_
        refine gi_X0_41 hO dX0_passSunday_21 hF.1 rfl ?_
        refine G_icmp_ge (tgt := 48) hO dX0_passSunday_24 (by decide) (fun c5 => ?_) (fun c5 => ?_)
        · have h := h.1 c5
          refine G_iinc (v := (l1 + 1)) (lv2 := [some (.ref (gad Γ f)), some (.int (l1 + 1)), some (.int l2), none]) hO dX0_passSunday_48 rfl rfl (by decide) rfl rfl ?_
          refine G_goto (tgt := 2) hO dX0_passSunday_51 (by decide) ?_
          exact GG.sub (lv2 := [some (.ref (gad Γ f)), some (.int (l1 + 1)), none, none]) ⟨rfl, ⟨rfl, trivial⟩⟩ h
        · have h := h.2 c5
          refine G_aload_n hO dX0_passSunday_27 rfl rfl ?_
          refine gr_X0_21 (c := (f + 4)) hO dX0_passSunday_28 hF.1 rfl ?_
          refine G_iload_n hO dX0_passSunday_31 rfl rfl ?_
          refine G_dup2 hO dX0_passSunday_32 rfl rfl ?_
          obtain ⟨c6, h⟩ := h
          refine G_iaload hO dX0_passSunday_33 hF.2.2.2.2.1 c6 ?_
          refine G_aload_n hO dX0_passSunday_34 rfl rfl ?_
          refine G_iload_n hO dX0_passSunday_35 rfl rfl ?_
          refine G_iload_n hO dX0_passSunday_36 rfl rfl ?_
          refine G_callVi hO dX0_passSunday_37 h cl_X0_97 hF.1 rfl rfl (Nat.le_of_ble_eq_true rfl) (fun r7 w8 h => ?_) rfl
          refine G_iadd hO dX0_passSunday_40 ?_
          refine G_iastore hO dX0_passSunday_41 hF.2.2.2.2.1 c6 ?_
          refine GG.nmw (fun w9 e10 => ?_)
          have h := h w9 e10
          refine G_iinc (v := (l2 + 1)) (lv2 := [some (.ref (gad Γ f)), some (.int l1), some (.int (l2 + 1)), none]) hO dX0_passSunday_42 rfl rfl (by decide) rfl rfl ?_
          refine GG.atpc (pc2 := 45) rfl ?_
          refine G_goto (tgt := 19) hO dX0_passSunday_45 (by decide) ?_
          exact GG.sub (lv2 := [some (.ref (gad Γ f)), some (.int l1), some (.int (l2 + 1)), none]) ⟨rfl, ⟨rfl, ⟨rfl, trivial⟩⟩⟩ h)
    (by
        intro l1 l2 w h
        refine G_iload_n hO dX0_passSunday_58 rfl rfl ?_
        refine G_aload_n hO dX0_passSunday_59 rfl rfl ?_
        refine gi_X0_41 hO dX0_passSunday_60 hF.1 rfl ?_
        refine G_icmp_ge (tgt := 116) hO dX0_passSunday_63 (by decide) (fun c11 => ?_) (fun c11 => ?_)
        · have h := h.1 c11
          refine G_iload_n hO dX0_passSunday_116 rfl rfl ?_
          exact G_iret hO dX0_passSunday_117 rfl h.1.nb (QI.i h.2)
        · have h := h.2 c11
          refine G_aload_n hO dX0_passSunday_66 rfl rfl ?_
          refine gr_X0_18 (c := (f + 3)) hO dX0_passSunday_67 hF.1 rfl ?_
          refine G_iload_n hO dX0_passSunday_70 rfl rfl ?_
          obtain ⟨c12, h⟩ := h
          refine G_iaload hO dX0_passSunday_71 hF.2.2.2.1 c12 ?_
          refine G_aload_n hO dX0_passSunday_72 rfl rfl ?_
          refine gr_X0_21 (c := (f + 4)) hO dX0_passSunday_73 hF.1 rfl ?_
          refine G_iload_n hO dX0_passSunday_76 rfl rfl ?_
          refine G_iaload hO dX0_passSunday_77 hF.2.2.2.2.1 c12 ?_
          refine G_iadd hO dX0_passSunday_78 ?_
          refine G_callSNi hO dX0_passSunday_79 h (hG.x hO).2.1 cl_X0_80 rfl (Nat.le_of_ble_eq_true rfl) (fun r13 w14 h => ?_) rfl
          refine G_istore_n (lv2 := [some (.ref (gad Γ f)), some (.int l1), some (.int l2), some (.int r13)]) hO dX0_passSunday_82 rfl (by decide) rfl rfl ?_
          refine G_iload_n hO dX0_passSunday_83 rfl rfl ?_
          refine GG.atpc (pc2 := 84) rfl ?_
          refine G_if_ne (tgt := 97) hO dX0_passSunday_84 (by decide) (fun c15 => ?_) (fun c15 => ?_)
          · have h := h.1 c15
            refine G_iconst (v := 1) hO dX0_passSunday_97 rfl ?_
            refine G_goto (tgt := 102) hO dX0_passSunday_98 (by decide) ?_
            refine G_istore_n (lv2 := [some (.ref (gad Γ f)), some (.int (1 : Int32)), some (.int l2), some (.int r13)]) hO dX0_passSunday_102 rfl (by decide) rfl rfl ?_
            refine G_aload_n hO dX0_passSunday_103 rfl rfl ?_
            refine gr_X0_18 (c := (f + 3)) hO dX0_passSunday_104 hF.1 rfl ?_
            refine G_iload_n hO dX0_passSunday_107 rfl rfl ?_
            refine G_iload_n hO dX0_passSunday_108 rfl rfl ?_
            refine G_iastore hO dX0_passSunday_109 hF.2.2.2.1 c12 ?_
            refine GG.nmw (fun w16 e17 => ?_)
            have h := h w16 e17
            refine G_iinc (v := (l2 + 1)) (lv2 := [some (.ref (gad Γ f)), some (.int (1 : Int32)), some (.int (l2 + 1)), some (.int r13)]) hO dX0_passSunday_110 rfl rfl (by decide) rfl rfl ?_
            refine G_goto (tgt := 58) hO dX0_passSunday_113 (by decide) ?_
            exact GG.sub (lv2 := [some (.ref (gad Γ f)), some (.int (1 : Int32)), some (.int (l2 + 1)), none]) ⟨rfl, ⟨rfl, ⟨rfl, trivial⟩⟩⟩ h
          · have h := h.2 c15
            refine G_iload_n hO dX0_passSunday_87 rfl rfl ?_
            refine G_aload_n hO dX0_passSunday_88 rfl rfl ?_
            refine gr_X0_18 (c := (f + 3)) hO dX0_passSunday_89 hF.1 rfl ?_
            refine G_iload_n hO dX0_passSunday_92 rfl rfl ?_
            refine G_iaload hO dX0_passSunday_93 hF.2.2.2.1 c12 ?_
            refine G_icmp_eq (tgt := 101) hO dX0_passSunday_94 (by decide) (fun c18 => ?_) (fun c18 => ?_)
            · have h := h.1 c18
              refine G_iconst (v := 0) hO dX0_passSunday_101 rfl ?_
              refine G_istore_n (lv2 := [some (.ref (gad Γ f)), some (.int (0 : Int32)), some (.int l2), some (.int r13)]) hO dX0_passSunday_102 rfl (by decide) rfl rfl ?_
              refine G_aload_n hO dX0_passSunday_103 rfl rfl ?_
              refine gr_X0_18 (c := (f + 3)) hO dX0_passSunday_104 hF.1 rfl ?_
              refine G_iload_n hO dX0_passSunday_107 rfl rfl ?_
              refine G_iload_n hO dX0_passSunday_108 rfl rfl ?_
              refine G_iastore hO dX0_passSunday_109 hF.2.2.2.1 c12 ?_
              refine GG.nmw (fun w19 e20 => ?_)
              have h := h w19 e20
              refine G_iinc (v := (l2 + 1)) (lv2 := [some (.ref (gad Γ f)), some (.int (0 : Int32)), some (.int (l2 + 1)), some (.int r13)]) hO dX0_passSunday_110 rfl rfl (by decide) rfl rfl ?_
              refine G_goto (tgt := 58) hO dX0_passSunday_113 (by decide) ?_
              exact GG.sub (lv2 := [some (.ref (gad Γ f)), some (.int (0 : Int32)), some (.int (l2 + 1)), none]) ⟨rfl, ⟨rfl, ⟨rfl, trivial⟩⟩⟩ h
            · have h := h.2 c18
              refine G_iconst (v := 1) hO dX0_passSunday_97 rfl ?_
              refine G_goto (tgt := 102) hO dX0_passSunday_98 (by decide) ?_
              refine G_istore_n (lv2 := [some (.ref (gad Γ f)), some (.int (1 : Int32)), some (.int l2), some (.int r13)]) hO dX0_passSunday_102 rfl (by decide) rfl rfl ?_
              refine G_aload_n hO dX0_passSunday_103 rfl rfl ?_
              refine gr_X0_18 (c := (f + 3)) hO dX0_passSunday_104 hF.1 rfl ?_
              refine G_iload_n hO dX0_passSunday_107 rfl rfl ?_
              refine G_iload_n hO dX0_passSunday_108 rfl rfl ?_
              refine G_iastore hO dX0_passSunday_109 hF.2.2.2.1 c12 ?_
              refine GG.nmw (fun w21 e22 => ?_)
              have h := h w21 e22
              refine G_iinc (v := (l2 + 1)) (lv2 := [some (.ref (gad Γ f)), some (.int (1 : Int32)), some (.int (l2 + 1)), some (.int r13)]) hO dX0_passSunday_110 rfl rfl (by decide) rfl rfl ?_
              refine G_goto (tgt := 58) hO dX0_passSunday_113 (by decide) ?_
              exact GG.sub (lv2 := [some (.ref (gad Γ f)), some (.int (1 : Int32)), some (.int (l2 + 1)), none]) ⟨rfl, ⟨rfl, ⟨rfl, trivial⟩⟩⟩ h)
  refine G_iconst (v := 0) hO dX0_passSunday_0 rfl ?_
  refine G_istore_n (lv2 := [some (.ref (gad Γ f)), some (.int (0 : Int32)), none, none]) hO dX0_passSunday_1 rfl (by decide) rfl rfl ?_
  exact GG.sub (lv2 := [some (.ref (gad Γ f)), some (.int (0 : Int32)), none, none]) ⟨rfl, ⟨rfl, trivial⟩⟩ h
def wp_X0_gladBehind (Γ : Gx) (d : Nat) (f : Nat) (p1 : Int32) (w : Wd) (Q : Int32 → Wd → Prop) : Prop :=
  ∀ (P_4 : Int32 → Int32 → Wd → Prop),
  (∀ (l2 : Int32) (l3 : Int32) (w : Wd), ((p1 ≤ l3 → CI Γ d M_X0_glad [.ref (gad Γ f)] w (fun r2 w3 => Q r2 w3)) ∧ (¬ p1 ≤ l3 → ((l2 = 0 → CI Γ d M_X0_glad [.ref (gad Γ f)] w (fun r5 w6 => Q r5 w6)) ∧ (¬ l2 = 0 → CI Γ d M_X0_passSunday [.ref (gad Γ f)] w (fun r7 w8 => P_4 r7 (l3 + 1) w8))))) → P_4 l2 l3 w) →
  P_4 (1 : Int32) (0 : Int32) w
set_option maxRecDepth 20000 in
theorem con_X0_gladBehind {Γ : Gx} {d : Nat} (hG : GC Γ) {f : Nat} {p1 : Int32} (hF : ShF Γ f) {w : Wd} {Q : Int32 → Wd → Prop} (h : wp_X0_gladBehind Γ d f p1 w Q) : CI Γ (d + 1) M_X0_gladBehind [.ref (gad Γ f), .int p1] w Q := by
  have hC := hG.2.1
  refine Con.of RX0 cX0_gladBehind 4 (some .int) [some (.ref (gad Γ f)), some (.int p1), none, none] rfl rfl (by decide +kernel) hG.1 (catR (catI cat0)) (Nat.le_of_ble_eq_true rfl) rfl ?_
  intro X hO
  have h := h
    (fun (l2 : Int32) (l3 : Int32) (w : Wd) => GG Γ X (d + 1) 4 (QI Q) 4 [some (.ref (gad Γ f)), some (.int p1), some (.int l2), some (.int l3)] [] w)
    (by
        intro l2 l3 w h
        refine G_iload_n hO dX0_gladBehind_4 rfl rfl ?_
        refine G_iload_n hO dX0_gladBehind_5 rfl rfl ?_
        refine G_icmp_ge (tgt := 24) hO dX0_gladBehind_6 (by decide) (fun c1 => ?_) (fun c1 => ?_)
        · have h := h.1 c1
          refine G_aload_n hO dX0_gladBehind_24 rfl rfl ?_
          refine G_callVi hO dX0_gladBehind_25 h cl_X0_104 hF.1 rfl rfl (Nat.le_of_ble_eq_true rfl) (fun r2 w3 h => ?_) rfl
          exact G_iret hO dX0_gladBehind_28 rfl rfl (QI.i h)
        · have h := h.2 c1
          refine G_iload_n hO dX0_gladBehind_9 rfl rfl ?_
          refine G_if_eq (tgt := 24) hO dX0_gladBehind_10 (by decide) (fun c4 => ?_) (fun c4 => ?_)
          · have h := h.1 c4
            refine G_aload_n hO dX0_gladBehind_24 rfl rfl ?_
            refine G_callVi hO dX0_gladBehind_25 h cl_X0_104 hF.1 rfl rfl (Nat.le_of_ble_eq_true rfl) (fun r5 w6 h => ?_) rfl
            exact G_iret hO dX0_gladBehind_28 rfl rfl (QI.i h)
          · have h := h.2 c4
            refine G_aload_n hO dX0_gladBehind_13 rfl rfl ?_
            refine G_callVi hO dX0_gladBehind_14 h cl_X0_100 hF.1 rfl rfl (Nat.le_of_ble_eq_true rfl) (fun r7 w8 h => ?_) rfl
            refine G_istore_n (lv2 := [some (.ref (gad Γ f)), some (.int p1), some (.int r7), some (.int l3)]) hO dX0_gladBehind_17 rfl (by decide) rfl rfl ?_
            refine G_iinc (v := (l3 + 1)) (lv2 := [some (.ref (gad Γ f)), some (.int p1), some (.int r7), some (.int (l3 + 1))]) hO dX0_gladBehind_18 rfl rfl (by decide) rfl rfl ?_
            refine G_goto (tgt := 4) hO dX0_gladBehind_21 (by decide) ?_
            exact GG.sub (lv2 := [some (.ref (gad Γ f)), some (.int p1), some (.int r7), some (.int (l3 + 1))]) ⟨rfl, ⟨rfl, ⟨rfl, ⟨rfl, trivial⟩⟩⟩⟩ h)
  refine G_iconst (v := 1) hO dX0_gladBehind_0 rfl ?_
  refine G_istore_n (lv2 := [some (.ref (gad Γ f)), some (.int p1), some (.int (1 : Int32)), none]) hO dX0_gladBehind_1 rfl (by decide) rfl rfl ?_
  refine G_iconst (v := 0) hO dX0_gladBehind_2 rfl ?_
  refine G_istore_n (lv2 := [some (.ref (gad Γ f)), some (.int p1), some (.int (1 : Int32)), some (.int (0 : Int32))]) hO dX0_gladBehind_3 rfl (by decide) rfl rfl ?_
  exact GG.sub (lv2 := [some (.ref (gad Γ f)), some (.int p1), some (.int (1 : Int32)), some (.int (0 : Int32))]) ⟨rfl, ⟨rfl, ⟨rfl, ⟨rfl, trivial⟩⟩⟩⟩ h
def wp_X0_emptyBehind (Γ : Gx) (d : Nat) (f : Nat) (p1 : Int32) (w : Wd) (Q : Int32 → Wd → Prop) : Prop :=
  ∀ (P_4 : Int32 → Int32 → Wd → Prop),
  ∀ (P_12 : Int32 → Int32 → Int32 → Wd → Prop),
  (∀ (l2 : Int32) (l3 : Int32) (w : Wd), ((p1 ≤ l3 → Q l2 w) ∧ (¬ p1 ≤ l3 → P_12 l2 l3 (0 : Int32) w)) → P_4 l2 l3 w) →
  (∀ (l2 : Int32) (l3 : Int32) (l4 : Int32) (w : Wd), (((w f 4) ≤ l4 → CI Γ d M_X0_passSunday [.ref (gad Γ f)] w (fun r3 w4 => P_4 l2 (l3 + 1) w4)) ∧ (¬ (w f 4) ≤ l4 → CI Γ d M_X0_filledFrom [.ref (gad Γ f), .int l4] w (fun r5 w6 => P_12 (l2 + (((w f 4) - (1 : Int32)) - r5)) l3 (l4 + 1) w6))) → P_12 l2 l3 l4 w) →
  P_4 (0 : Int32) (0 : Int32) w
set_option maxRecDepth 20000 in
theorem con_X0_emptyBehind {Γ : Gx} {d : Nat} (hG : GC Γ) {f : Nat} {p1 : Int32} (hF : ShF Γ f) {w : Wd} {Q : Int32 → Wd → Prop} (h : wp_X0_emptyBehind Γ d f p1 w Q) : CI Γ (d + 1) M_X0_emptyBehind [.ref (gad Γ f), .int p1] w Q := by
  have hC := hG.2.1
  refine Con.of RX0 cX0_emptyBehind 5 (some .int) [some (.ref (gad Γ f)), some (.int p1), none, none, none] rfl rfl (by decide +kernel) hG.1 (catR (catI cat0)) (Nat.le_of_ble_eq_true rfl) rfl ?_
  intro X hO
  have h := h
    (fun (l2 : Int32) (l3 : Int32) (w : Wd) => GG Γ X (d + 1) 5 (QI Q) 4 [some (.ref (gad Γ f)), some (.int p1), some (.int l2), some (.int l3), none] [] w)
    (fun (l2 : Int32) (l3 : Int32) (l4 : Int32) (w : Wd) => GG Γ X (d + 1) 5 (QI Q) 12 [some (.ref (gad Γ f)), some (.int p1), some (.int l2), some (.int l3), some (.int l4)] [] w)
    (by
        intro l2 l3 w h
        refine G_iload_n hO dX0_emptyBehind_4 rfl rfl ?_
        refine G_iload_n hO dX0_emptyBehind_5 rfl rfl ?_
        refine G_icmp_ge (tgt := 54) hO dX0_emptyBehind_6 (by decide) (fun c1 => ?_) (fun c1 => ?_)
        · have h := h.1 c1
          refine G_iload_n hO dX0_emptyBehind_54 rfl rfl ?_
          exact G_iret hO dX0_emptyBehind_55 rfl rfl (QI.i h)
        · have h := h.2 c1
          refine G_iconst (v := 0) hO dX0_emptyBehind_9 rfl ?_
          refine G_istore (lv2 := [some (.ref (gad Γ f)), some (.int p1), some (.int l2), some (.int l3), some (.int (0 : Int32))]) hO dX0_emptyBehind_10 (by decide) rfl rfl ?_
          exact GG.sub (lv2 := [some (.ref (gad Γ f)), some (.int p1), some (.int l2), some (.int l3), some (.int (0 : Int32))]) ⟨rfl, ⟨rfl, ⟨rfl, ⟨rfl, ⟨rfl, trivial⟩⟩⟩⟩⟩ h)
    (by
        intro l2 l3 l4 w h
        refine G_iload hO dX0_emptyBehind_12 rfl ?_
        refine G_aload_n hO dX0_emptyBehind_14 rfl rfl ?_
        refine gi_X0_41 hO dX0_emptyBehind_15 hF.1 rfl ?_
        refine G_icmp_ge (tgt := 43) hO dX0_emptyBehind_18 (by decide) (fun c2 => ?_) (fun c2 => ?_)
        · have h := h.1 c2
          refine G_aload_n hO dX0_emptyBehind_43 rfl rfl ?_
          refine G_callVi hO dX0_emptyBehind_44 h cl_X0_100 hF.1 rfl rfl (Nat.le_of_ble_eq_true rfl) (fun r3 w4 h => ?_) rfl
          refine G_pop hO dX0_emptyBehind_47 rfl ?_
          refine G_iinc (v := (l3 + 1)) (lv2 := [some (.ref (gad Γ f)), some (.int p1), some (.int l2), some (.int (l3 + 1)), some (.int l4)]) hO dX0_emptyBehind_48 rfl rfl (by decide) rfl rfl ?_
          refine G_goto (tgt := 4) hO dX0_emptyBehind_51 (by decide) ?_
          exact GG.sub (lv2 := [some (.ref (gad Γ f)), some (.int p1), some (.int l2), some (.int (l3 + 1)), none]) ⟨rfl, ⟨rfl, ⟨rfl, ⟨rfl, trivial⟩⟩⟩⟩ h
        · have h := h.2 c2
          refine G_iload_n hO dX0_emptyBehind_21 rfl rfl ?_
          refine G_aload_n hO dX0_emptyBehind_22 rfl rfl ?_
          refine gi_X0_41 hO dX0_emptyBehind_23 hF.1 rfl ?_
          refine G_iconst (v := 1) hO dX0_emptyBehind_26 rfl ?_
          refine G_isub hO dX0_emptyBehind_27 ?_
          refine G_aload_n hO dX0_emptyBehind_28 rfl rfl ?_
          refine G_iload hO dX0_emptyBehind_29 rfl ?_
          refine G_callVi hO dX0_emptyBehind_31 h cl_X0_108 hF.1 rfl rfl (Nat.le_of_ble_eq_true rfl) (fun r5 w6 h => ?_) rfl
          refine G_isub hO dX0_emptyBehind_34 ?_
          refine G_iadd hO dX0_emptyBehind_35 ?_
          refine G_istore_n (lv2 := [some (.ref (gad Γ f)), some (.int p1), some (.int (l2 + (((w f 4) - (1 : Int32)) - r5))), some (.int l3), some (.int l4)]) hO dX0_emptyBehind_36 rfl (by decide) rfl rfl ?_
          refine G_iinc (v := (l4 + 1)) (lv2 := [some (.ref (gad Γ f)), some (.int p1), some (.int (l2 + (((w f 4) - (1 : Int32)) - r5))), some (.int l3), some (.int (l4 + 1))]) hO dX0_emptyBehind_37 rfl rfl (by decide) rfl rfl ?_
          refine GG.atpc (pc2 := 40) rfl ?_
          refine G_goto (tgt := 12) hO dX0_emptyBehind_40 (by decide) ?_
          exact GG.sub (lv2 := [some (.ref (gad Γ f)), some (.int p1), some (.int (l2 + (((w f 4) - (1 : Int32)) - r5))), some (.int l3), some (.int (l4 + 1))]) ⟨rfl, ⟨rfl, ⟨rfl, ⟨rfl, ⟨rfl, trivial⟩⟩⟩⟩⟩ h)
  refine G_iconst (v := 0) hO dX0_emptyBehind_0 rfl ?_
  refine G_istore_n (lv2 := [some (.ref (gad Γ f)), some (.int p1), some (.int (0 : Int32)), none, none]) hO dX0_emptyBehind_1 rfl (by decide) rfl rfl ?_
  refine G_iconst (v := 0) hO dX0_emptyBehind_2 rfl ?_
  refine G_istore_n (lv2 := [some (.ref (gad Γ f)), some (.int p1), some (.int (0 : Int32)), some (.int (0 : Int32)), none]) hO dX0_emptyBehind_3 rfl (by decide) rfl rfl ?_
  exact GG.sub (lv2 := [some (.ref (gad Γ f)), some (.int p1), some (.int (0 : Int32)), some (.int (0 : Int32)), none]) ⟨rfl, ⟨rfl, ⟨rfl, ⟨rfl, trivial⟩⟩⟩⟩ h
def wp_X0_firstOtherwise (Γ : Gx) (d : Nat) (f : Nat) (a1 : Nat) (p2 : Int32) (w : Wd) (Q : Int32 → Wd → Prop) : Prop :=
  ∀ (P_2 : Int32 → Wd → Prop),
  (∀ (l3 : Int32) (w : Wd), (((w a1 2) ≤ l3 → Q (-1 : Int32) w) ∧ (¬ (w a1 2) ≤ l3 → CI Γ d M_X0_passSunday [.ref (gad Γ f)] w (fun r2 w3 => (vp_in l3 40 ∧ (vp_in p2 5 ∧ (((w3 (a1 + 1) (l3).toNatClampNeg) = (w3 (f + 3) (p2).toNatClampNeg) → P_2 (l3 + 1) w3) ∧ (¬ (w3 (a1 + 1) (l3).toNatClampNeg) = (w3 (f + 3) (p2).toNatClampNeg) → Q l3 w3))))))) → P_2 l3 w) →
  P_2 (0 : Int32) w
set_option maxRecDepth 20000 in
theorem con_X0_firstOtherwise {Γ : Gx} {d : Nat} (hG : GC Γ) {f : Nat} {a1 : Nat} {p2 : Int32} (hF : ShF Γ f) (ha1 : ShS Γ a1) {w : Wd} {Q : Int32 → Wd → Prop} (h : wp_X0_firstOtherwise Γ d f a1 p2 w Q) : CI Γ (d + 1) M_X0_firstOtherwise [.ref (gad Γ f), .ref (gad Γ a1), .int p2] w Q := by
  have hC := hG.2.1
  refine Con.of RX0 cX0_firstOtherwise 4 (some .int) [some (.ref (gad Γ f)), some (.ref (gad Γ a1)), some (.int p2), none] rfl rfl (by decide +kernel) hG.1 (catR (catR (catI cat0))) (Nat.le_of_ble_eq_true rfl) rfl ?_
  intro X hO
  have h := h
    (fun (l3 : Int32) (w : Wd) => GG Γ X (d + 1) 4 (QI Q) 2 [some (.ref (gad Γ f)), some (.ref (gad Γ a1)), some (.int p2), some (.int l3)] [] w)
    (by
        intro l3 w h
        refine G_iload_n hO dX0_firstOtherwise_2 rfl rfl ?_
        refine G_aload_n hO dX0_firstOtherwise_3 rfl rfl ?_
        refine gi_X0_111 hO dX0_firstOtherwise_4 ha1.1 rfl ?_
        refine G_icmp_ge (tgt := 38) hO dX0_firstOtherwise_7 (by decide) (fun c1 => ?_) (fun c1 => ?_)
        · have h := h.1 c1
          refine G_iconst (v := -1) hO dX0_firstOtherwise_38 rfl ?_
          exact G_iret hO dX0_firstOtherwise_39 rfl rfl (QI.i h)
        · have h := h.2 c1
          refine G_aload_n hO dX0_firstOtherwise_10 rfl rfl ?_
          refine G_callVi hO dX0_firstOtherwise_11 h cl_X0_100 hF.1 rfl rfl (Nat.le_of_ble_eq_true rfl) (fun r2 w3 h => ?_) rfl
          refine G_pop hO dX0_firstOtherwise_14 rfl ?_
          refine G_aload_n hO dX0_firstOtherwise_15 rfl rfl ?_
          refine gr_X0_114 (c := (a1 + 1)) hO dX0_firstOtherwise_16 ha1.1 rfl ?_
          refine G_iload_n hO dX0_firstOtherwise_19 rfl rfl ?_
          obtain ⟨c4, h⟩ := h
          refine G_iaload hO dX0_firstOtherwise_20 ha1.2 c4 ?_
          refine G_aload_n hO dX0_firstOtherwise_21 rfl rfl ?_
          refine gr_X0_18 (c := (f + 3)) hO dX0_firstOtherwise_22 hF.1 rfl ?_
          refine G_iload_n hO dX0_firstOtherwise_25 rfl rfl ?_
          obtain ⟨c5, h⟩ := h
          refine G_iaload hO dX0_firstOtherwise_26 hF.2.2.2.1 c5 ?_
          refine G_icmp_eq (tgt := 32) hO dX0_firstOtherwise_27 (by decide) (fun c6 => ?_) (fun c6 => ?_)
          · have h := h.1 c6
            refine G_iinc (v := (l3 + 1)) (lv2 := [some (.ref (gad Γ f)), some (.ref (gad Γ a1)), some (.int p2), some (.int (l3 + 1))]) hO dX0_firstOtherwise_32 rfl rfl (by decide) rfl rfl ?_
            refine G_goto (tgt := 2) hO dX0_firstOtherwise_35 (by decide) ?_
            exact GG.sub (lv2 := [some (.ref (gad Γ f)), some (.ref (gad Γ a1)), some (.int p2), some (.int (l3 + 1))]) ⟨rfl, ⟨rfl, ⟨rfl, ⟨rfl, trivial⟩⟩⟩⟩ h
          · have h := h.2 c6
            refine G_iload_n hO dX0_firstOtherwise_30 rfl rfl ?_
            exact G_iret hO dX0_firstOtherwise_31 rfl rfl (QI.i h))
  refine G_iconst (v := 0) hO dX0_firstOtherwise_0 rfl ?_
  refine G_istore_n (lv2 := [some (.ref (gad Γ f)), some (.ref (gad Γ a1)), some (.int p2), some (.int (0 : Int32))]) hO dX0_firstOtherwise_1 rfl (by decide) rfl rfl ?_
  exact GG.sub (lv2 := [some (.ref (gad Γ f)), some (.ref (gad Γ a1)), some (.int p2), some (.int (0 : Int32))]) ⟨rfl, ⟨rfl, ⟨rfl, ⟨rfl, trivial⟩⟩⟩⟩ h
def wp_X0_filledFrom (Γ : Gx) (d : Nat) (f : Nat) (p1 : Int32) (w : Wd) (Q : Int32 → Wd → Prop) : Prop :=
  ∀ (P_4 : Int32 → Int32 → Wd → Prop),
  (∀ (l2 : Int32) (l3 : Int32) (w : Wd), (((w f 4) ≤ l3 → Q l2 w) ∧ (¬ (w f 4) ≤ l3 → CI Γ d M_X0_layersOf [.ref (gad Γ f), .int p1, .int l3] w (fun r2 w3 => ((r2 = 0 → P_4 l2 (l3 + 1) w3) ∧ (¬ r2 = 0 → P_4 (l2 + 1) (l3 + 1) w3))))) → P_4 l2 l3 w) →
  P_4 (0 : Int32) (0 : Int32) w
set_option maxRecDepth 20000 in
theorem con_X0_filledFrom {Γ : Gx} {d : Nat} (hG : GC Γ) {f : Nat} {p1 : Int32} (hF : ShF Γ f) {w : Wd} {Q : Int32 → Wd → Prop} (h : wp_X0_filledFrom Γ d f p1 w Q) : CI Γ (d + 1) M_X0_filledFrom [.ref (gad Γ f), .int p1] w Q := by
  have hC := hG.2.1
  refine Con.of RX0 cX0_filledFrom 4 (some .int) [some (.ref (gad Γ f)), some (.int p1), none, none] rfl rfl (by decide +kernel) hG.1 (catR (catI cat0)) (Nat.le_of_ble_eq_true rfl) rfl ?_
  intro X hO
  have h := h
    (fun (l2 : Int32) (l3 : Int32) (w : Wd) => GG Γ X (d + 1) 4 (QI Q) 4 [some (.ref (gad Γ f)), some (.int p1), some (.int l2), some (.int l3)] [] w)
    (by
        intro l2 l3 w h
        refine G_iload_n hO dX0_filledFrom_4 rfl rfl ?_
        refine G_aload_n hO dX0_filledFrom_5 rfl rfl ?_
        refine gi_X0_41 hO dX0_filledFrom_6 hF.1 rfl ?_
        refine G_icmp_ge (tgt := 30) hO dX0_filledFrom_9 (by decide) (fun c1 => ?_) (fun c1 => ?_)
        · have h := h.1 c1
          refine G_iload_n hO dX0_filledFrom_30 rfl rfl ?_
          exact G_iret hO dX0_filledFrom_31 rfl rfl (QI.i h)
        · have h := h.2 c1
          refine G_aload_n hO dX0_filledFrom_12 rfl rfl ?_
          refine G_iload_n hO dX0_filledFrom_13 rfl rfl ?_
          refine G_iload_n hO dX0_filledFrom_14 rfl rfl ?_
          refine G_callVi hO dX0_filledFrom_15 h cl_X0_90 hF.1 rfl rfl (Nat.le_of_ble_eq_true rfl) (fun r2 w3 h => ?_) rfl
          refine G_if_eq (tgt := 24) hO dX0_filledFrom_18 (by decide) (fun c4 => ?_) (fun c4 => ?_)
          · have h := h.1 c4
            refine G_iinc (v := (l3 + 1)) (lv2 := [some (.ref (gad Γ f)), some (.int p1), some (.int l2), some (.int (l3 + 1))]) hO dX0_filledFrom_24 rfl rfl (by decide) rfl rfl ?_
            refine G_goto (tgt := 4) hO dX0_filledFrom_27 (by decide) ?_
            exact GG.sub (lv2 := [some (.ref (gad Γ f)), some (.int p1), some (.int l2), some (.int (l3 + 1))]) ⟨rfl, ⟨rfl, ⟨rfl, ⟨rfl, trivial⟩⟩⟩⟩ h
          · have h := h.2 c4
            refine G_iinc (v := (l2 + 1)) (lv2 := [some (.ref (gad Γ f)), some (.int p1), some (.int (l2 + 1)), some (.int l3)]) hO dX0_filledFrom_21 rfl rfl (by decide) rfl rfl ?_
            refine G_iinc (v := (l3 + 1)) (lv2 := [some (.ref (gad Γ f)), some (.int p1), some (.int (l2 + 1)), some (.int (l3 + 1))]) hO dX0_filledFrom_24 rfl rfl (by decide) rfl rfl ?_
            refine G_goto (tgt := 4) hO dX0_filledFrom_27 (by decide) ?_
            exact GG.sub (lv2 := [some (.ref (gad Γ f)), some (.int p1), some (.int (l2 + 1)), some (.int (l3 + 1))]) ⟨rfl, ⟨rfl, ⟨rfl, ⟨rfl, trivial⟩⟩⟩⟩ h)
  refine G_iconst (v := 0) hO dX0_filledFrom_0 rfl ?_
  refine G_istore_n (lv2 := [some (.ref (gad Γ f)), some (.int p1), some (.int (0 : Int32)), none]) hO dX0_filledFrom_1 rfl (by decide) rfl rfl ?_
  refine G_iconst (v := 0) hO dX0_filledFrom_2 rfl ?_
  refine G_istore_n (lv2 := [some (.ref (gad Γ f)), some (.int p1), some (.int (0 : Int32)), some (.int (0 : Int32))]) hO dX0_filledFrom_3 rfl (by decide) rfl rfl ?_
  exact GG.sub (lv2 := [some (.ref (gad Γ f)), some (.int p1), some (.int (0 : Int32)), some (.int (0 : Int32))]) ⟨rfl, ⟨rfl, ⟨rfl, ⟨rfl, trivial⟩⟩⟩⟩ h
def wp_X0_layersTo (Γ : Gx) (d : Nat) (f : Nat) (p1 : Int32) (w : Wd) (Q : Int32 → Wd → Prop) : Prop :=
  ∀ (P_4 : Int32 → Int32 → Wd → Prop),
  (∀ (l2 : Int32) (l3 : Int32) (w : Wd), (((w f 4) ≤ l3 → Q l2 w) ∧ (¬ (w f 4) ≤ l3 → CI Γ d M_X0_layersOf [.ref (gad Γ f), .int l3, .int p1] w (fun r2 w3 => CI Γ d M_J6_bitCount_0f7a4 [.int r2] w3 (fun r4 w5 => P_4 (l2 + r4) (l3 + 1) w5)))) → P_4 l2 l3 w) →
  P_4 (0 : Int32) (0 : Int32) w
set_option maxRecDepth 20000 in
theorem con_X0_layersTo {Γ : Gx} {d : Nat} (hG : GC Γ) {f : Nat} {p1 : Int32} (hF : ShF Γ f) {w : Wd} {Q : Int32 → Wd → Prop} (h : wp_X0_layersTo Γ d f p1 w Q) : CI Γ (d + 1) M_X0_layersTo [.ref (gad Γ f), .int p1] w Q := by
  have hC := hG.2.1
  refine Con.of RX0 cX0_layersTo 4 (some .int) [some (.ref (gad Γ f)), some (.int p1), none, none] rfl rfl (by decide +kernel) hG.1 (catR (catI cat0)) (Nat.le_of_ble_eq_true rfl) rfl ?_
  intro X hO
  have h := h
    (fun (l2 : Int32) (l3 : Int32) (w : Wd) => GG Γ X (d + 1) 4 (QI Q) 4 [some (.ref (gad Γ f)), some (.int p1), some (.int l2), some (.int l3)] [] w)
    (by
        intro l2 l3 w h
        refine G_iload_n hO dX0_layersTo_4 rfl rfl ?_
        refine G_aload_n hO dX0_layersTo_5 rfl rfl ?_
        refine gi_X0_41 hO dX0_layersTo_6 hF.1 rfl ?_
        refine G_icmp_ge (tgt := 30) hO dX0_layersTo_9 (by decide) (fun c1 => ?_) (fun c1 => ?_)
        · have h := h.1 c1
          refine G_iload_n hO dX0_layersTo_30 rfl rfl ?_
          exact G_iret hO dX0_layersTo_31 rfl rfl (QI.i h)
        · have h := h.2 c1
          refine G_iload_n hO dX0_layersTo_12 rfl rfl ?_
          refine G_aload_n hO dX0_layersTo_13 rfl rfl ?_
          refine G_iload_n hO dX0_layersTo_14 rfl rfl ?_
          refine G_iload_n hO dX0_layersTo_15 rfl rfl ?_
          refine G_callVi hO dX0_layersTo_16 h cl_X0_90 hF.1 rfl rfl (Nat.le_of_ble_eq_true rfl) (fun r2 w3 h => ?_) rfl
          refine G_callSi hO dX0_layersTo_19 h cl_X0_117 rfl (Nat.le_of_ble_eq_true rfl) (fun r4 w5 h => ?_) rfl
          refine G_iadd hO dX0_layersTo_22 ?_
          refine G_istore_n (lv2 := [some (.ref (gad Γ f)), some (.int p1), some (.int (l2 + r4)), some (.int l3)]) hO dX0_layersTo_23 rfl (by decide) rfl rfl ?_
          refine G_iinc (v := (l3 + 1)) (lv2 := [some (.ref (gad Γ f)), some (.int p1), some (.int (l2 + r4)), some (.int (l3 + 1))]) hO dX0_layersTo_24 rfl rfl (by decide) rfl rfl ?_
          refine G_goto (tgt := 4) hO dX0_layersTo_27 (by decide) ?_
          exact GG.sub (lv2 := [some (.ref (gad Γ f)), some (.int p1), some (.int (l2 + r4)), some (.int (l3 + 1))]) ⟨rfl, ⟨rfl, ⟨rfl, ⟨rfl, trivial⟩⟩⟩⟩ h)
  refine G_iconst (v := 0) hO dX0_layersTo_0 rfl ?_
  refine G_istore_n (lv2 := [some (.ref (gad Γ f)), some (.int p1), some (.int (0 : Int32)), none]) hO dX0_layersTo_1 rfl (by decide) rfl rfl ?_
  refine G_iconst (v := 0) hO dX0_layersTo_2 rfl ?_
  refine G_istore_n (lv2 := [some (.ref (gad Γ f)), some (.int p1), some (.int (0 : Int32)), some (.int (0 : Int32))]) hO dX0_layersTo_3 rfl (by decide) rfl rfl ?_
  exact GG.sub (lv2 := [some (.ref (gad Γ f)), some (.int p1), some (.int (0 : Int32)), some (.int (0 : Int32))]) ⟨rfl, ⟨rfl, ⟨rfl, ⟨rfl, trivial⟩⟩⟩⟩ h
def wp_X0_lettuceCount (Γ : Gx) (d : Nat) (f : Nat) (w : Wd) (Q : Int32 → Wd → Prop) : Prop :=
  ∀ (P_4 : Int32 → Int32 → Wd → Prop),
  ∀ (P_14 : Int32 → Int32 → Int32 → Wd → Prop),
  (∀ (l1 : Int32) (l2 : Int32) (w : Wd), (((w f 4) ≤ l2 → Q l1 w) ∧ (¬ (w f 4) ≤ l2 → P_14 l1 l2 (0 : Int32) w)) → P_4 l1 l2 w) →
  (∀ (l1 : Int32) (l2 : Int32) (l3 : Int32) (w : Wd), (((w f 4) ≤ l3 → P_4 l1 (l2 + 1) w) ∧ (¬ (w f 4) ≤ l3 → CI Γ d M_X0_layersOf [.ref (gad Γ f), .int l2, .int l3] w (fun r3 w4 => ((¬ r3 = (1 : Int32) → P_14 l1 l2 (l3 + 1) w4) ∧ (r3 = (1 : Int32) → P_14 (l1 + 1) l2 (l3 + 1) w4))))) → P_14 l1 l2 l3 w) →
  P_4 (0 : Int32) (0 : Int32) w
set_option maxRecDepth 20000 in
theorem con_X0_lettuceCount {Γ : Gx} {d : Nat} (hG : GC Γ) {f : Nat} (hF : ShF Γ f) {w : Wd} {Q : Int32 → Wd → Prop} (h : wp_X0_lettuceCount Γ d f w Q) : CI Γ (d + 1) M_X0_lettuceCount [.ref (gad Γ f)] w Q := by
  have hC := hG.2.1
  refine Con.of RX0 cX0_lettuceCount 4 (some .int) [some (.ref (gad Γ f)), none, none, none] rfl rfl (by decide +kernel) hG.1 (catR cat0) (Nat.le_of_ble_eq_true rfl) rfl ?_
  intro X hO
  have h := h
    (fun (l1 : Int32) (l2 : Int32) (w : Wd) => GG Γ X (d + 1) 4 (QI Q) 4 [some (.ref (gad Γ f)), some (.int l1), some (.int l2), none] [] w)
    (fun (l1 : Int32) (l2 : Int32) (l3 : Int32) (w : Wd) => GG Γ X (d + 1) 4 (QI Q) 14 [some (.ref (gad Γ f)), some (.int l1), some (.int l2), some (.int l3)] [] w)
    (by
        intro l1 l2 w h
        refine G_iload_n hO dX0_lettuceCount_4 rfl rfl ?_
        refine G_aload_n hO dX0_lettuceCount_5 rfl rfl ?_
        refine gi_X0_41 hO dX0_lettuceCount_6 hF.1 rfl ?_
        refine G_icmp_ge (tgt := 47) hO dX0_lettuceCount_9 (by decide) (fun c1 => ?_) (fun c1 => ?_)
        · have h := h.1 c1
          refine G_iload_n hO dX0_lettuceCount_47 rfl rfl ?_
          exact G_iret hO dX0_lettuceCount_48 rfl rfl (QI.i h)
        · have h := h.2 c1
          refine G_iconst (v := 0) hO dX0_lettuceCount_12 rfl ?_
          refine G_istore_n (lv2 := [some (.ref (gad Γ f)), some (.int l1), some (.int l2), some (.int (0 : Int32))]) hO dX0_lettuceCount_13 rfl (by decide) rfl rfl ?_
          exact GG.sub (lv2 := [some (.ref (gad Γ f)), some (.int l1), some (.int l2), some (.int (0 : Int32))]) ⟨rfl, ⟨rfl, ⟨rfl, ⟨rfl, trivial⟩⟩⟩⟩ h)
    (by
        intro l1 l2 l3 w h
        refine G_iload_n hO dX0_lettuceCount_14 rfl rfl ?_
        refine G_aload_n hO dX0_lettuceCount_15 rfl rfl ?_
        refine gi_X0_41 hO dX0_lettuceCount_16 hF.1 rfl ?_
        refine G_icmp_ge (tgt := 41) hO dX0_lettuceCount_19 (by decide) (fun c2 => ?_) (fun c2 => ?_)
        · have h := h.1 c2
          refine G_iinc (v := (l2 + 1)) (lv2 := [some (.ref (gad Γ f)), some (.int l1), some (.int (l2 + 1)), some (.int l3)]) hO dX0_lettuceCount_41 rfl rfl (by decide) rfl rfl ?_
          refine G_goto (tgt := 4) hO dX0_lettuceCount_44 (by decide) ?_
          exact GG.sub (lv2 := [some (.ref (gad Γ f)), some (.int l1), some (.int (l2 + 1)), none]) ⟨rfl, ⟨rfl, ⟨rfl, trivial⟩⟩⟩ h
        · have h := h.2 c2
          refine G_aload_n hO dX0_lettuceCount_22 rfl rfl ?_
          refine G_iload_n hO dX0_lettuceCount_23 rfl rfl ?_
          refine G_iload_n hO dX0_lettuceCount_24 rfl rfl ?_
          refine G_callVi hO dX0_lettuceCount_25 h cl_X0_90 hF.1 rfl rfl (Nat.le_of_ble_eq_true rfl) (fun r3 w4 h => ?_) rfl
          refine G_iconst (v := 1) hO dX0_lettuceCount_28 rfl ?_
          refine G_icmp_ne (tgt := 35) hO dX0_lettuceCount_29 (by decide) (fun c5 => ?_) (fun c5 => ?_)
          · have h := h.1 c5
            refine G_iinc (v := (l3 + 1)) (lv2 := [some (.ref (gad Γ f)), some (.int l1), some (.int l2), some (.int (l3 + 1))]) hO dX0_lettuceCount_35 rfl rfl (by decide) rfl rfl ?_
            refine G_goto (tgt := 14) hO dX0_lettuceCount_38 (by decide) ?_
            exact GG.sub (lv2 := [some (.ref (gad Γ f)), some (.int l1), some (.int l2), some (.int (l3 + 1))]) ⟨rfl, ⟨rfl, ⟨rfl, ⟨rfl, trivial⟩⟩⟩⟩ h
          · have h := h.2 c5
            refine G_iinc (v := (l1 + 1)) (lv2 := [some (.ref (gad Γ f)), some (.int (l1 + 1)), some (.int l2), some (.int l3)]) hO dX0_lettuceCount_32 rfl rfl (by decide) rfl rfl ?_
            refine G_iinc (v := (l3 + 1)) (lv2 := [some (.ref (gad Γ f)), some (.int (l1 + 1)), some (.int l2), some (.int (l3 + 1))]) hO dX0_lettuceCount_35 rfl rfl (by decide) rfl rfl ?_
            refine G_goto (tgt := 14) hO dX0_lettuceCount_38 (by decide) ?_
            exact GG.sub (lv2 := [some (.ref (gad Γ f)), some (.int (l1 + 1)), some (.int l2), some (.int (l3 + 1))]) ⟨rfl, ⟨rfl, ⟨rfl, ⟨rfl, trivial⟩⟩⟩⟩ h)
  refine G_iconst (v := 0) hO dX0_lettuceCount_0 rfl ?_
  refine G_istore_n (lv2 := [some (.ref (gad Γ f)), some (.int (0 : Int32)), none, none]) hO dX0_lettuceCount_1 rfl (by decide) rfl rfl ?_
  refine G_iconst (v := 0) hO dX0_lettuceCount_2 rfl ?_
  refine G_istore_n (lv2 := [some (.ref (gad Γ f)), some (.int (0 : Int32)), some (.int (0 : Int32)), none]) hO dX0_lettuceCount_3 rfl (by decide) rfl rfl ?_
  exact GG.sub (lv2 := [some (.ref (gad Γ f)), some (.int (0 : Int32)), some (.int (0 : Int32)), none]) ⟨rfl, ⟨rfl, ⟨rfl, trivial⟩⟩⟩ h
def wp_X0_lettuceFirst (Γ : Gx) (d : Nat) (f : Nat) (w : Wd) (Q : Int32 → Wd → Prop) : Prop :=
  ∀ (P_2 : Int32 → Wd → Prop),
  ∀ (P_12 : Int32 → Int32 → Wd → Prop),
  (∀ (l1 : Int32) (w : Wd), (((w f 4) ≤ l1 → Q (-1 : Int32) w) ∧ (¬ (w f 4) ≤ l1 → P_12 l1 (0 : Int32) w)) → P_2 l1 w) →
  (∀ (l1 : Int32) (l2 : Int32) (w : Wd), (((w f 4) ≤ l2 → P_2 (l1 + 1) w) ∧ (¬ (w f 4) ≤ l2 → CI Γ d M_X0_layersOf [.ref (gad Γ f), .int l1, .int l2] w (fun r3 w4 => ((¬ r3 = (1 : Int32) → P_12 l1 (l2 + 1) w4) ∧ (r3 = (1 : Int32) → Q (((10 : Int32) * l1) + l2) w4))))) → P_12 l1 l2 w) →
  P_2 (0 : Int32) w
set_option maxRecDepth 20000 in
theorem con_X0_lettuceFirst {Γ : Gx} {d : Nat} (hG : GC Γ) {f : Nat} (hF : ShF Γ f) {w : Wd} {Q : Int32 → Wd → Prop} (h : wp_X0_lettuceFirst Γ d f w Q) : CI Γ (d + 1) M_X0_lettuceFirst [.ref (gad Γ f)] w Q := by
  have hC := hG.2.1
  refine Con.of RX0 cX0_lettuceFirst 3 (some .int) [some (.ref (gad Γ f)), none, none] rfl rfl (by decide +kernel) hG.1 (catR cat0) (Nat.le_of_ble_eq_true rfl) rfl ?_
  intro X hO
  have h := h
    (fun (l1 : Int32) (w : Wd) => GG Γ X (d + 1) 3 (QI Q) 2 [some (.ref (gad Γ f)), some (.int l1), none] [] w)
    (fun (l1 : Int32) (l2 : Int32) (w : Wd) => GG Γ X (d + 1) 3 (QI Q) 12 [some (.ref (gad Γ f)), some (.int l1), some (.int l2)] [] w)
    (by
        intro l1 w h
        refine G_iload_n hO dX0_lettuceFirst_2 rfl rfl ?_
        refine G_aload_n hO dX0_lettuceFirst_3 rfl rfl ?_
        refine gi_X0_41 hO dX0_lettuceFirst_4 hF.1 rfl ?_
        refine G_icmp_ge (tgt := 49) hO dX0_lettuceFirst_7 (by decide) (fun c1 => ?_) (fun c1 => ?_)
        · have h := h.1 c1
          refine G_iconst (v := -1) hO dX0_lettuceFirst_49 rfl ?_
          exact G_iret hO dX0_lettuceFirst_50 rfl rfl (QI.i h)
        · have h := h.2 c1
          refine G_iconst (v := 0) hO dX0_lettuceFirst_10 rfl ?_
          refine G_istore_n (lv2 := [some (.ref (gad Γ f)), some (.int l1), some (.int (0 : Int32))]) hO dX0_lettuceFirst_11 rfl (by decide) rfl rfl ?_
          exact GG.sub (lv2 := [some (.ref (gad Γ f)), some (.int l1), some (.int (0 : Int32))]) ⟨rfl, ⟨rfl, ⟨rfl, trivial⟩⟩⟩ h)
    (by
        intro l1 l2 w h
        refine G_iload_n hO dX0_lettuceFirst_12 rfl rfl ?_
        refine G_aload_n hO dX0_lettuceFirst_13 rfl rfl ?_
        refine gi_X0_41 hO dX0_lettuceFirst_14 hF.1 rfl ?_
        refine G_icmp_ge (tgt := 43) hO dX0_lettuceFirst_17 (by decide) (fun c2 => ?_) (fun c2 => ?_)
        · have h := h.1 c2
          refine G_iinc (v := (l1 + 1)) (lv2 := [some (.ref (gad Γ f)), some (.int (l1 + 1)), some (.int l2)]) hO dX0_lettuceFirst_43 rfl rfl (by decide) rfl rfl ?_
          refine G_goto (tgt := 2) hO dX0_lettuceFirst_46 (by decide) ?_
          exact GG.sub (lv2 := [some (.ref (gad Γ f)), some (.int (l1 + 1)), none]) ⟨rfl, ⟨rfl, trivial⟩⟩ h
        · have h := h.2 c2
          refine G_aload_n hO dX0_lettuceFirst_20 rfl rfl ?_
          refine G_iload_n hO dX0_lettuceFirst_21 rfl rfl ?_
          refine G_iload_n hO dX0_lettuceFirst_22 rfl rfl ?_
          refine G_callVi hO dX0_lettuceFirst_23 h cl_X0_90 hF.1 rfl rfl (Nat.le_of_ble_eq_true rfl) (fun r3 w4 h => ?_) rfl
          refine G_iconst (v := 1) hO dX0_lettuceFirst_26 rfl ?_
          refine G_icmp_ne (tgt := 37) hO dX0_lettuceFirst_27 (by decide) (fun c5 => ?_) (fun c5 => ?_)
          · have h := h.1 c5
            refine G_iinc (v := (l2 + 1)) (lv2 := [some (.ref (gad Γ f)), some (.int l1), some (.int (l2 + 1))]) hO dX0_lettuceFirst_37 rfl rfl (by decide) rfl rfl ?_
            refine G_goto (tgt := 12) hO dX0_lettuceFirst_40 (by decide) ?_
            exact GG.sub (lv2 := [some (.ref (gad Γ f)), some (.int l1), some (.int (l2 + 1))]) ⟨rfl, ⟨rfl, ⟨rfl, trivial⟩⟩⟩ h
          · have h := h.2 c5
            refine G_bipush (v := 10) hO dX0_lettuceFirst_30 rfl ?_
            refine G_iload_n hO dX0_lettuceFirst_32 rfl rfl ?_
            refine G_imul hO dX0_lettuceFirst_33 ?_
            refine G_iload_n hO dX0_lettuceFirst_34 rfl rfl ?_
            refine G_iadd hO dX0_lettuceFirst_35 ?_
            exact G_iret hO dX0_lettuceFirst_36 rfl rfl (QI.i h))
  refine G_iconst (v := 0) hO dX0_lettuceFirst_0 rfl ?_
  refine G_istore_n (lv2 := [some (.ref (gad Γ f)), some (.int (0 : Int32)), none]) hO dX0_lettuceFirst_1 rfl (by decide) rfl rfl ?_
  exact GG.sub (lv2 := [some (.ref (gad Γ f)), some (.int (0 : Int32)), none]) ⟨rfl, ⟨rfl, trivial⟩⟩ h
def wp_X0_leftAlone (Γ : Gx) (d : Nat) (f : Nat) (w : Wd) (Q : Int32 → Wd → Prop) : Prop :=
  ∀ (P_4 : Int32 → Int32 → Wd → Prop),
  (∀ (l1 : Int32) (l2 : Int32) (w : Wd), (((w f 4) ≤ l2 → Q l1 w) ∧ (¬ (w f 4) ≤ l2 → CI Γ d M_X0_layersTo [.ref (gad Γ f), .int l2] w (fun r2 w3 => ((¬ r2 = 0 → P_4 l1 (l2 + 1) w3) ∧ (r2 = 0 → P_4 (l1 ||| ((1 : Int32) <<< (l2 &&& 31))) (l2 + 1) w3))))) → P_4 l1 l2 w) →
  P_4 (0 : Int32) (0 : Int32) w
set_option maxRecDepth 20000 in
theorem con_X0_leftAlone {Γ : Gx} {d : Nat} (hG : GC Γ) {f : Nat} (hF : ShF Γ f) {w : Wd} {Q : Int32 → Wd → Prop} (h : wp_X0_leftAlone Γ d f w Q) : CI Γ (d + 1) M_X0_leftAlone [.ref (gad Γ f)] w Q := by
  have hC := hG.2.1
  refine Con.of RX0 cX0_leftAlone 3 (some .int) [some (.ref (gad Γ f)), none, none] rfl rfl (by decide +kernel) hG.1 (catR cat0) (Nat.le_of_ble_eq_true rfl) rfl ?_
  intro X hO
  have h := h
    (fun (l1 : Int32) (l2 : Int32) (w : Wd) => GG Γ X (d + 1) 3 (QI Q) 4 [some (.ref (gad Γ f)), some (.int l1), some (.int l2)] [] w)
    (by
        intro l1 l2 w h
        refine G_iload_n hO dX0_leftAlone_4 rfl rfl ?_
        refine G_aload_n hO dX0_leftAlone_5 rfl rfl ?_
        refine gi_X0_41 hO dX0_leftAlone_6 hF.1 rfl ?_
        refine G_icmp_ge (tgt := 32) hO dX0_leftAlone_9 (by decide) (fun c1 => ?_) (fun c1 => ?_)
        · have h := h.1 c1
          refine G_iload_n hO dX0_leftAlone_32 rfl rfl ?_
          exact G_iret hO dX0_leftAlone_33 rfl rfl (QI.i h)
        · have h := h.2 c1
          refine G_aload_n hO dX0_leftAlone_12 rfl rfl ?_
          refine G_iload_n hO dX0_leftAlone_13 rfl rfl ?_
          refine G_callVi hO dX0_leftAlone_14 h cl_X0_122 hF.1 rfl rfl (Nat.le_of_ble_eq_true rfl) (fun r2 w3 h => ?_) rfl
          refine G_if_ne (tgt := 26) hO dX0_leftAlone_17 (by decide) (fun c4 => ?_) (fun c4 => ?_)
          · have h := h.1 c4
            refine G_iinc (v := (l2 + 1)) (lv2 := [some (.ref (gad Γ f)), some (.int l1), some (.int (l2 + 1))]) hO dX0_leftAlone_26 rfl rfl (by decide) rfl rfl ?_
            refine G_goto (tgt := 4) hO dX0_leftAlone_29 (by decide) ?_
            exact GG.sub (lv2 := [some (.ref (gad Γ f)), some (.int l1), some (.int (l2 + 1))]) ⟨rfl, ⟨rfl, ⟨rfl, trivial⟩⟩⟩ h
          · have h := h.2 c4
            refine G_iload_n hO dX0_leftAlone_20 rfl rfl ?_
            refine G_iconst (v := 1) hO dX0_leftAlone_21 rfl ?_
            refine G_iload_n hO dX0_leftAlone_22 rfl rfl ?_
            refine G_ishl hO dX0_leftAlone_23 ?_
            refine G_ior hO dX0_leftAlone_24 ?_
            refine G_istore_n (lv2 := [some (.ref (gad Γ f)), some (.int (l1 ||| ((1 : Int32) <<< (l2 &&& 31)))), some (.int l2)]) hO dX0_leftAlone_25 rfl (by decide) rfl rfl ?_
            refine G_iinc (v := (l2 + 1)) (lv2 := [some (.ref (gad Γ f)), some (.int (l1 ||| ((1 : Int32) <<< (l2 &&& 31)))), some (.int (l2 + 1))]) hO dX0_leftAlone_26 rfl rfl (by decide) rfl rfl ?_
            refine G_goto (tgt := 4) hO dX0_leftAlone_29 (by decide) ?_
            exact GG.sub (lv2 := [some (.ref (gad Γ f)), some (.int (l1 ||| ((1 : Int32) <<< (l2 &&& 31)))), some (.int (l2 + 1))]) ⟨rfl, ⟨rfl, ⟨rfl, trivial⟩⟩⟩ h)
  refine G_iconst (v := 0) hO dX0_leftAlone_0 rfl ?_
  refine G_istore_n (lv2 := [some (.ref (gad Γ f)), some (.int (0 : Int32)), none]) hO dX0_leftAlone_1 rfl (by decide) rfl rfl ?_
  refine G_iconst (v := 0) hO dX0_leftAlone_2 rfl ?_
  refine G_istore_n (lv2 := [some (.ref (gad Γ f)), some (.int (0 : Int32)), some (.int (0 : Int32))]) hO dX0_leftAlone_3 rfl (by decide) rfl rfl ?_
  exact GG.sub (lv2 := [some (.ref (gad Γ f)), some (.int (0 : Int32)), some (.int (0 : Int32))]) ⟨rfl, ⟨rfl, ⟨rfl, trivial⟩⟩⟩ h
