/-! the model's constructor (written by program) -/
def wsAll (l : List (Nat × Nat × Int32)) : Wd := l.foldl (fun w q => wset w q.1 q.2.1 q.2.2) (fun _ _ => 0)
/-- what the model's constructor writes, in its order -/
def wML : List (Nat × Nat × Int32) := ((1, 0, 1) :: (1, 1, 1) :: (1, 2, 1) :: (1, 3, 1) :: (1, 4, 1) :: (1, 5, 1) :: (1, 6, 1) :: (1, 7, 1) :: (17, 0, (-1)) :: (17, 1, (-1)) :: (17, 2, (-1)) :: (17, 3, (-1)) :: (0, 27, (-1)) :: (0, 13, 1) :: (8, 0, 0) :: (0, 13, 2) :: (8, 1, 18) :: (0, 13, 3) :: (8, 2, 1) :: (0, 13, 4) :: (8, 3, 6) :: (0, 13, 5) :: (8, 4, 9) :: (0, 13, 6) :: (8, 5, 0) :: (0, 13, 7) :: (8, 6, 18) :: (0, 13, 8) :: (8, 7, 7) :: (0, 13, 9) :: (8, 8, 16) :: (7, 0, 5) :: (6, 1, 5) :: (7, 1, 3) :: (6, 2, 8) :: (7, 2, 1) :: (0, 9, 1) :: [])
def wMs (k : Nat) : Wd := wsAll (wML.take k)
abbrev wNewM : Wd := wMs 37
theorem cs_X5_codes {Γ : Gx} {d : Nat} (hd : 1 ≤ d) (hG : GM Γ) {w : Wd} {p1 : Int32} (hi : vp_in (w 0 13) 3000) {Q : Wd → Prop} (k : Q (wset (wset w 0 13 (w 0 13 + 1)) 8 (w 0 13).toNatClampNeg p1)) : CV Γ d M_X5_codes [.ref (gad Γ 0), .int p1] w Q := by
  obtain ⟨d, rfl⟩ : ∃ e, d = e + 1 := ⟨d - 1, by omega⟩
  refine con_X5_codes hG ?_
  unfold wp_X5_codes
  intro w1 e1
  refine ⟨hi, fun w4 e4 => ?_⟩
  subst e1
  subst e4
  exact k
theorem C_iastW {Y : Yx} {X : Mx} {own : String} {cc : ByteArray} {nL pc kc ks : Nat} {lv : List (Option Value)} {st : List Value} (hO : OKC Y X own cc nL) {ad : Nat → Nat} {S : List Sh} {E : State → Prop} {w : Wd} {i n : Nat} {j x : Int32} (hd : decode cc pc = .ok (.iastore, 1)) (hs : S[i]? = some (.inl (0, n, []))) (hin : vp_in j n) (k : CC Y X nL (pc + 1) lv st (gW (mkG Y ad S E) (wset w i j.toNatClampNeg x)) kc ks) : CC Y X nL pc lv (.int x :: .int j :: .ref (ad i) :: st) (gW (mkG Y ad S E) w) kc ks := fun ls H locs hl hP hD hS => by
  have hs2 : (gS (mkG Y ad S E))[i]? = some (.inl (0, n, [])) := hs
  refine va_iast hO.1 hO.2.1 hO.2.2.2.2.2.2.1 hP hD hS i 0 (f := w i) (gW_get hs2) rfl hin hd (fun H1 locs1 hP1 hD1 hS1 => ?_)
  have e : (gW (mkG Y ad S E) w).set i (ad i, .inl (yA Y 0, n, .inl (upd (w i) j.toNatClampNeg x))) = gW (mkG Y ad S E) (wset w i j.toNatClampNeg x) := by
    have e := gW_set (w := w) (w' := wset w i j.toNatClampNeg x) hs2 (fun a ha => wset_off w i _ a x ha)
    rw [← e]
    simp only [celE, wset_row]
  exact k ls H1 locs1 hl (by rw [← e]; exact hP1) (by rw [← e]; exact hD1) hS1
theorem C_bastW {Y : Yx} {X : Mx} {own : String} {cc : ByteArray} {nL pc kc ks : Nat} {lv : List (Option Value)} {st : List Value} (hO : OKC Y X own cc nL) {ad : Nat → Nat} {S : List Sh} {E : State → Prop} {w : Wd} {i n : Nat} {j x : Int32} (hd : decode cc pc = .ok (.bastore, 1)) (hs : S[i]? = some (.inl (1, n, []))) (hin : vp_in j n) (hb : x &&& 1 = x) (k : CC Y X nL (pc + 1) lv st (gW (mkG Y ad S E) (wset w i j.toNatClampNeg x)) kc ks) : CC Y X nL pc lv (.int x :: .int j :: .ref (ad i) :: st) (gW (mkG Y ad S E) w) kc ks := fun ls H locs hl hP hD hS => by
  have hs2 : (gS (mkG Y ad S E))[i]? = some (.inl (1, n, [])) := hs
  refine va_zast hO.1 hO.2.1 hO.2.2.2.2.2.2.1 hP hD hS i 1 (f := w i) (gW_get hs2) rfl hin hd (fun H1 locs1 hP1 hD1 hS1 => ?_)
  have en : vp_nar .boolean x = x := by simp [vp_nar, narrow, hb]
  rw [en] at hP1 hD1
  have e : (gW (mkG Y ad S E) w).set i (ad i, .inl (yA Y 1, n, .inl (upd (w i) j.toNatClampNeg x))) = gW (mkG Y ad S E) (wset w i j.toNatClampNeg x) := by
    have e := gW_set (w := w) (w' := wset w i j.toNatClampNeg x) hs2 (fun a ha => wset_off w i _ a x ha)
    rw [← e]
    simp only [celE, wset_row]
  exact k ls H1 locs1 hl (by rw [← e]; exact hP1) (by rw [← e]; exact hD1) hS1
set_option maxHeartbeats 8000000 in
set_option maxRecDepth 20000 in
theorem ctorMB {l : Launch} {D : va_G} {cA : Nat → ClassId} {X : Mx} {ad : Nat → Nat} {ws0 : va_W} {B : va_W → Prop} (hO : OKC (yN l D cA X 8 19 4026 ws0 B) X RX5 cX5_init 2) (hr : (xt X).sig.returnType = none) (hW : WIN (yN l D cA X 8 19 4026 ws0 B) X ad SM (fun _ => True)) (hB : B (cels cA ad wNewM 0 SM)) : CC (yN l D cA X 8 19 4026 ws0 B) X 2 155 [some (.ref (ad 0)), none] [] (gW (mkG (yN l D cA X 8 19 4026 ws0 B) ad SM (fun _ => True)) (wMs 0)) 19 4026 := by
  have hG : GM (mkG (yN l D cA X 8 19 4026 ws0 B) ad SM (fun _ => True)) := ⟨hW.1, rfl⟩
  refine C_iconst (v := 0) hO dX5_init_155 rfl ?_
  refine C_istore_n (lv2 := [some (.ref (ad 0)), some (.int 0)]) hO dX5_init_156 rfl (by decide) rfl rfl ?_
  refine C_iload_n hO dX5_init_157 rfl rfl ?_
  refine C_bipush (v := 8) hO dX5_init_158 rfl ?_
  refine C_icmp_ge (tgt := 176) hO dX5_init_160 (by decide) (fun h => absurd h (by decide)) (fun _ => ?_)
  refine C_aload_n hO dX5_init_163 rfl rfl ?_
  refine C_get hO dX5_init_164 0 1 (gW_get (Γ := (mkG (yN l D cA X 8 19 4026 ws0 B) ad SM (fun _ => True))) (i := 0) rfl) rfl inX5 (by decide) (AW_mem 749 (by decide +kernel) (by decide +kernel)) (v := .ref (ad 1)) rfl ?_
  refine C_iload_n hO dX5_init_167 rfl rfl ?_
  refine C_iconst (v := 1) hO dX5_init_168 rfl ?_
  refine C_bastW (E := fun _ => True) (S := SM) (ad := ad) (i := 1) hO dX5_init_169 rfl (vp_in_iff.mpr ⟨by decide, by decide⟩) rfl ?_
  refine CC.cells (ws2 := gW (mkG (yN l D cA X 8 19 4026 ws0 B) ad SM (fun _ => True)) (wMs 1)) rfl ?_
  refine C_iinc (v := 1) (lv2 := [some (.ref (ad 0)), some (.int 1)]) hO dX5_init_170 rfl rfl (by decide) rfl rfl ?_
  refine C_goto (tgt := 157) hO dX5_init_173 (by decide) ?_
  refine C_iload_n hO dX5_init_157 rfl rfl ?_
  refine C_bipush (v := 8) hO dX5_init_158 rfl ?_
  refine C_icmp_ge (tgt := 176) hO dX5_init_160 (by decide) (fun h => absurd h (by decide)) (fun _ => ?_)
  refine C_aload_n hO dX5_init_163 rfl rfl ?_
  refine C_get hO dX5_init_164 0 1 (gW_get (Γ := (mkG (yN l D cA X 8 19 4026 ws0 B) ad SM (fun _ => True))) (i := 0) rfl) rfl inX5 (by decide) (AW_mem 749 (by decide +kernel) (by decide +kernel)) (v := .ref (ad 1)) rfl ?_
  refine C_iload_n hO dX5_init_167 rfl rfl ?_
  refine C_iconst (v := 1) hO dX5_init_168 rfl ?_
  refine C_bastW (E := fun _ => True) (S := SM) (ad := ad) (i := 1) hO dX5_init_169 rfl (vp_in_iff.mpr ⟨by decide, by decide⟩) rfl ?_
  refine CC.cells (ws2 := gW (mkG (yN l D cA X 8 19 4026 ws0 B) ad SM (fun _ => True)) (wMs 2)) rfl ?_
  refine C_iinc (v := 2) (lv2 := [some (.ref (ad 0)), some (.int 2)]) hO dX5_init_170 rfl rfl (by decide) rfl rfl ?_
  refine C_goto (tgt := 157) hO dX5_init_173 (by decide) ?_
  refine C_iload_n hO dX5_init_157 rfl rfl ?_
  refine C_bipush (v := 8) hO dX5_init_158 rfl ?_
  refine C_icmp_ge (tgt := 176) hO dX5_init_160 (by decide) (fun h => absurd h (by decide)) (fun _ => ?_)
  refine C_aload_n hO dX5_init_163 rfl rfl ?_
  refine C_get hO dX5_init_164 0 1 (gW_get (Γ := (mkG (yN l D cA X 8 19 4026 ws0 B) ad SM (fun _ => True))) (i := 0) rfl) rfl inX5 (by decide) (AW_mem 749 (by decide +kernel) (by decide +kernel)) (v := .ref (ad 1)) rfl ?_
  refine C_iload_n hO dX5_init_167 rfl rfl ?_
  refine C_iconst (v := 1) hO dX5_init_168 rfl ?_
  refine C_bastW (E := fun _ => True) (S := SM) (ad := ad) (i := 1) hO dX5_init_169 rfl (vp_in_iff.mpr ⟨by decide, by decide⟩) rfl ?_
  refine CC.cells (ws2 := gW (mkG (yN l D cA X 8 19 4026 ws0 B) ad SM (fun _ => True)) (wMs 3)) rfl ?_
  refine C_iinc (v := 3) (lv2 := [some (.ref (ad 0)), some (.int 3)]) hO dX5_init_170 rfl rfl (by decide) rfl rfl ?_
  refine C_goto (tgt := 157) hO dX5_init_173 (by decide) ?_
  refine C_iload_n hO dX5_init_157 rfl rfl ?_
  refine C_bipush (v := 8) hO dX5_init_158 rfl ?_
  refine C_icmp_ge (tgt := 176) hO dX5_init_160 (by decide) (fun h => absurd h (by decide)) (fun _ => ?_)
  refine C_aload_n hO dX5_init_163 rfl rfl ?_
  refine C_get hO dX5_init_164 0 1 (gW_get (Γ := (mkG (yN l D cA X 8 19 4026 ws0 B) ad SM (fun _ => True))) (i := 0) rfl) rfl inX5 (by decide) (AW_mem 749 (by decide +kernel) (by decide +kernel)) (v := .ref (ad 1)) rfl ?_
  refine C_iload_n hO dX5_init_167 rfl rfl ?_
  refine C_iconst (v := 1) hO dX5_init_168 rfl ?_
  refine C_bastW (E := fun _ => True) (S := SM) (ad := ad) (i := 1) hO dX5_init_169 rfl (vp_in_iff.mpr ⟨by decide, by decide⟩) rfl ?_
  refine CC.cells (ws2 := gW (mkG (yN l D cA X 8 19 4026 ws0 B) ad SM (fun _ => True)) (wMs 4)) rfl ?_
  refine C_iinc (v := 4) (lv2 := [some (.ref (ad 0)), some (.int 4)]) hO dX5_init_170 rfl rfl (by decide) rfl rfl ?_
  refine C_goto (tgt := 157) hO dX5_init_173 (by decide) ?_
  refine C_iload_n hO dX5_init_157 rfl rfl ?_
  refine C_bipush (v := 8) hO dX5_init_158 rfl ?_
  refine C_icmp_ge (tgt := 176) hO dX5_init_160 (by decide) (fun h => absurd h (by decide)) (fun _ => ?_)
  refine C_aload_n hO dX5_init_163 rfl rfl ?_
  refine C_get hO dX5_init_164 0 1 (gW_get (Γ := (mkG (yN l D cA X 8 19 4026 ws0 B) ad SM (fun _ => True))) (i := 0) rfl) rfl inX5 (by decide) (AW_mem 749 (by decide +kernel) (by decide +kernel)) (v := .ref (ad 1)) rfl ?_
  refine C_iload_n hO dX5_init_167 rfl rfl ?_
  refine C_iconst (v := 1) hO dX5_init_168 rfl ?_
  refine C_bastW (E := fun _ => True) (S := SM) (ad := ad) (i := 1) hO dX5_init_169 rfl (vp_in_iff.mpr ⟨by decide, by decide⟩) rfl ?_
  refine CC.cells (ws2 := gW (mkG (yN l D cA X 8 19 4026 ws0 B) ad SM (fun _ => True)) (wMs 5)) rfl ?_
  refine C_iinc (v := 5) (lv2 := [some (.ref (ad 0)), some (.int 5)]) hO dX5_init_170 rfl rfl (by decide) rfl rfl ?_
  refine C_goto (tgt := 157) hO dX5_init_173 (by decide) ?_
  refine C_iload_n hO dX5_init_157 rfl rfl ?_
  refine C_bipush (v := 8) hO dX5_init_158 rfl ?_
  refine C_icmp_ge (tgt := 176) hO dX5_init_160 (by decide) (fun h => absurd h (by decide)) (fun _ => ?_)
  refine C_aload_n hO dX5_init_163 rfl rfl ?_
  refine C_get hO dX5_init_164 0 1 (gW_get (Γ := (mkG (yN l D cA X 8 19 4026 ws0 B) ad SM (fun _ => True))) (i := 0) rfl) rfl inX5 (by decide) (AW_mem 749 (by decide +kernel) (by decide +kernel)) (v := .ref (ad 1)) rfl ?_
  refine C_iload_n hO dX5_init_167 rfl rfl ?_
  refine C_iconst (v := 1) hO dX5_init_168 rfl ?_
  refine C_bastW (E := fun _ => True) (S := SM) (ad := ad) (i := 1) hO dX5_init_169 rfl (vp_in_iff.mpr ⟨by decide, by decide⟩) rfl ?_
  refine CC.cells (ws2 := gW (mkG (yN l D cA X 8 19 4026 ws0 B) ad SM (fun _ => True)) (wMs 6)) rfl ?_
  refine C_iinc (v := 6) (lv2 := [some (.ref (ad 0)), some (.int 6)]) hO dX5_init_170 rfl rfl (by decide) rfl rfl ?_
  refine C_goto (tgt := 157) hO dX5_init_173 (by decide) ?_
  refine C_iload_n hO dX5_init_157 rfl rfl ?_
  refine C_bipush (v := 8) hO dX5_init_158 rfl ?_
  refine C_icmp_ge (tgt := 176) hO dX5_init_160 (by decide) (fun h => absurd h (by decide)) (fun _ => ?_)
  refine C_aload_n hO dX5_init_163 rfl rfl ?_
  refine C_get hO dX5_init_164 0 1 (gW_get (Γ := (mkG (yN l D cA X 8 19 4026 ws0 B) ad SM (fun _ => True))) (i := 0) rfl) rfl inX5 (by decide) (AW_mem 749 (by decide +kernel) (by decide +kernel)) (v := .ref (ad 1)) rfl ?_
  refine C_iload_n hO dX5_init_167 rfl rfl ?_
  refine C_iconst (v := 1) hO dX5_init_168 rfl ?_
  refine C_bastW (E := fun _ => True) (S := SM) (ad := ad) (i := 1) hO dX5_init_169 rfl (vp_in_iff.mpr ⟨by decide, by decide⟩) rfl ?_
  refine CC.cells (ws2 := gW (mkG (yN l D cA X 8 19 4026 ws0 B) ad SM (fun _ => True)) (wMs 7)) rfl ?_
  refine C_iinc (v := 7) (lv2 := [some (.ref (ad 0)), some (.int 7)]) hO dX5_init_170 rfl rfl (by decide) rfl rfl ?_
  refine C_goto (tgt := 157) hO dX5_init_173 (by decide) ?_
  refine C_iload_n hO dX5_init_157 rfl rfl ?_
  refine C_bipush (v := 8) hO dX5_init_158 rfl ?_
  refine C_icmp_ge (tgt := 176) hO dX5_init_160 (by decide) (fun h => absurd h (by decide)) (fun _ => ?_)
  refine C_aload_n hO dX5_init_163 rfl rfl ?_
  refine C_get hO dX5_init_164 0 1 (gW_get (Γ := (mkG (yN l D cA X 8 19 4026 ws0 B) ad SM (fun _ => True))) (i := 0) rfl) rfl inX5 (by decide) (AW_mem 749 (by decide +kernel) (by decide +kernel)) (v := .ref (ad 1)) rfl ?_
  refine C_iload_n hO dX5_init_167 rfl rfl ?_
  refine C_iconst (v := 1) hO dX5_init_168 rfl ?_
  refine C_bastW (E := fun _ => True) (S := SM) (ad := ad) (i := 1) hO dX5_init_169 rfl (vp_in_iff.mpr ⟨by decide, by decide⟩) rfl ?_
  refine CC.cells (ws2 := gW (mkG (yN l D cA X 8 19 4026 ws0 B) ad SM (fun _ => True)) (wMs 8)) rfl ?_
  refine C_iinc (v := 8) (lv2 := [some (.ref (ad 0)), some (.int 8)]) hO dX5_init_170 rfl rfl (by decide) rfl rfl ?_
  refine C_goto (tgt := 157) hO dX5_init_173 (by decide) ?_
  refine C_iload_n hO dX5_init_157 rfl rfl ?_
  refine C_bipush (v := 8) hO dX5_init_158 rfl ?_
  refine C_icmp_ge (tgt := 176) hO dX5_init_160 (by decide) (fun _ => ?_) (fun h => absurd (by decide) h)
  refine C_iconst (v := 0) hO dX5_init_176 rfl ?_
  refine C_istore_n (lv2 := [some (.ref (ad 0)), some (.int 0)]) hO dX5_init_177 rfl (by decide) rfl rfl ?_
  refine C_iload_n hO dX5_init_178 rfl rfl ?_
  refine C_iconst (v := 4) hO dX5_init_179 rfl ?_
  refine C_icmp_ge (tgt := 196) hO dX5_init_180 (by decide) (fun h => absurd h (by decide)) (fun _ => ?_)
  refine C_aload_n hO dX5_init_183 rfl rfl ?_
  refine C_get hO dX5_init_184 0 38 (gW_get (Γ := (mkG (yN l D cA X 8 19 4026 ws0 B) ad SM (fun _ => True))) (i := 0) rfl) rfl inX5 (by decide) (AW_mem 786 (by decide +kernel) (by decide +kernel)) (v := .ref (ad 17)) rfl ?_
  refine C_iload_n hO dX5_init_187 rfl rfl ?_
  refine C_iconst (v := -1) hO dX5_init_188 rfl ?_
  refine C_iastW (E := fun _ => True) (S := SM) (ad := ad) (i := 17) hO dX5_init_189 rfl (vp_in_iff.mpr ⟨by decide, by decide⟩) ?_
  refine CC.cells (ws2 := gW (mkG (yN l D cA X 8 19 4026 ws0 B) ad SM (fun _ => True)) (wMs 9)) rfl ?_
  refine C_iinc (v := 1) (lv2 := [some (.ref (ad 0)), some (.int 1)]) hO dX5_init_190 rfl rfl (by decide) rfl rfl ?_
  refine C_goto (tgt := 178) hO dX5_init_193 (by decide) ?_
  refine C_iload_n hO dX5_init_178 rfl rfl ?_
  refine C_iconst (v := 4) hO dX5_init_179 rfl ?_
  refine C_icmp_ge (tgt := 196) hO dX5_init_180 (by decide) (fun h => absurd h (by decide)) (fun _ => ?_)
  refine C_aload_n hO dX5_init_183 rfl rfl ?_
  refine C_get hO dX5_init_184 0 38 (gW_get (Γ := (mkG (yN l D cA X 8 19 4026 ws0 B) ad SM (fun _ => True))) (i := 0) rfl) rfl inX5 (by decide) (AW_mem 786 (by decide +kernel) (by decide +kernel)) (v := .ref (ad 17)) rfl ?_
  refine C_iload_n hO dX5_init_187 rfl rfl ?_
  refine C_iconst (v := -1) hO dX5_init_188 rfl ?_
  refine C_iastW (E := fun _ => True) (S := SM) (ad := ad) (i := 17) hO dX5_init_189 rfl (vp_in_iff.mpr ⟨by decide, by decide⟩) ?_
  refine CC.cells (ws2 := gW (mkG (yN l D cA X 8 19 4026 ws0 B) ad SM (fun _ => True)) (wMs 10)) rfl ?_
  refine C_iinc (v := 2) (lv2 := [some (.ref (ad 0)), some (.int 2)]) hO dX5_init_190 rfl rfl (by decide) rfl rfl ?_
  refine C_goto (tgt := 178) hO dX5_init_193 (by decide) ?_
  refine C_iload_n hO dX5_init_178 rfl rfl ?_
  refine C_iconst (v := 4) hO dX5_init_179 rfl ?_
  refine C_icmp_ge (tgt := 196) hO dX5_init_180 (by decide) (fun h => absurd h (by decide)) (fun _ => ?_)
  refine C_aload_n hO dX5_init_183 rfl rfl ?_
  refine C_get hO dX5_init_184 0 38 (gW_get (Γ := (mkG (yN l D cA X 8 19 4026 ws0 B) ad SM (fun _ => True))) (i := 0) rfl) rfl inX5 (by decide) (AW_mem 786 (by decide +kernel) (by decide +kernel)) (v := .ref (ad 17)) rfl ?_
  refine C_iload_n hO dX5_init_187 rfl rfl ?_
  refine C_iconst (v := -1) hO dX5_init_188 rfl ?_
  refine C_iastW (E := fun _ => True) (S := SM) (ad := ad) (i := 17) hO dX5_init_189 rfl (vp_in_iff.mpr ⟨by decide, by decide⟩) ?_
  refine CC.cells (ws2 := gW (mkG (yN l D cA X 8 19 4026 ws0 B) ad SM (fun _ => True)) (wMs 11)) rfl ?_
  refine C_iinc (v := 3) (lv2 := [some (.ref (ad 0)), some (.int 3)]) hO dX5_init_190 rfl rfl (by decide) rfl rfl ?_
  refine C_goto (tgt := 178) hO dX5_init_193 (by decide) ?_
  refine C_iload_n hO dX5_init_178 rfl rfl ?_
  refine C_iconst (v := 4) hO dX5_init_179 rfl ?_
  refine C_icmp_ge (tgt := 196) hO dX5_init_180 (by decide) (fun h => absurd h (by decide)) (fun _ => ?_)
  refine C_aload_n hO dX5_init_183 rfl rfl ?_
  refine C_get hO dX5_init_184 0 38 (gW_get (Γ := (mkG (yN l D cA X 8 19 4026 ws0 B) ad SM (fun _ => True))) (i := 0) rfl) rfl inX5 (by decide) (AW_mem 786 (by decide +kernel) (by decide +kernel)) (v := .ref (ad 17)) rfl ?_
  refine C_iload_n hO dX5_init_187 rfl rfl ?_
  refine C_iconst (v := -1) hO dX5_init_188 rfl ?_
  refine C_iastW (E := fun _ => True) (S := SM) (ad := ad) (i := 17) hO dX5_init_189 rfl (vp_in_iff.mpr ⟨by decide, by decide⟩) ?_
  refine CC.cells (ws2 := gW (mkG (yN l D cA X 8 19 4026 ws0 B) ad SM (fun _ => True)) (wMs 12)) rfl ?_
  refine C_iinc (v := 4) (lv2 := [some (.ref (ad 0)), some (.int 4)]) hO dX5_init_190 rfl rfl (by decide) rfl rfl ?_
  refine C_goto (tgt := 178) hO dX5_init_193 (by decide) ?_
  refine C_iload_n hO dX5_init_178 rfl rfl ?_
  refine C_iconst (v := 4) hO dX5_init_179 rfl ?_
  refine C_icmp_ge (tgt := 196) hO dX5_init_180 (by decide) (fun _ => ?_) (fun h => absurd (by decide) h)
  refine C_aload_n hO dX5_init_196 rfl rfl ?_
  refine C_iconst (v := -1) hO dX5_init_197 rfl ?_
  refine C_putW (E := fun _ => True) (S := SM) (ad := ad) (i := 0) hO dX5_init_198 tyX5 27 rfl rfl inX5 tyX5_ok nmX5 (by decide) (AW_mem 775 (by decide +kernel) (by decide +kernel)) rfl rfl rfl ?_
  refine CC.cells (ws2 := gW (mkG (yN l D cA X 8 19 4026 ws0 B) ad SM (fun _ => True)) (wMs 13)) rfl ?_
  refine C_aload_n hO dX5_init_201 rfl rfl ?_
  refine C_iconst (v := 0) hO dX5_init_202 rfl ?_
  refine C_conR (wr := []) (d := 2) (As := [.int 0]) (rest := []) hO hW dX5_init_203 (cs_X5_codes (Γ := (mkG (yN l D cA X 8 19 4026 ws0 B) ad SM (fun _ => True))) (Q := fun w2 => w2 = (wMs 15)) (by omega) hG (vp_in_iff.mpr ⟨by decide, by decide⟩) rfl) cl_X5_72 (i := 0) rfl rfl rfl (Nat.le_of_ble_eq_true rfl) (Nat.le_of_ble_eq_true rfl) (Nat.le_of_ble_eq_true rfl) (Nat.le_of_ble_eq_true rfl) (Nat.le_of_ble_eq_true rfl) (fun r w1 hq => ?_) rfl
  obtain ⟨rfl, rfl⟩ := hq
  refine CC.cells (ws2 := gW (mkG (yN l D cA X 8 19 4026 ws0 B) ad SM (fun _ => True)) (wMs 15)) rfl ?_
  refine C_aload_n hO dX5_init_206 rfl rfl ?_
  refine C_bipush (v := 18) hO dX5_init_207 rfl ?_
  refine C_conR (wr := []) (d := 2) (As := [.int 18]) (rest := []) hO hW dX5_init_209 (cs_X5_codes (Γ := (mkG (yN l D cA X 8 19 4026 ws0 B) ad SM (fun _ => True))) (Q := fun w2 => w2 = (wMs 17)) (by omega) hG (vp_in_iff.mpr ⟨by decide, by decide⟩) rfl) cl_X5_72 (i := 0) rfl rfl rfl (Nat.le_of_ble_eq_true rfl) (Nat.le_of_ble_eq_true rfl) (Nat.le_of_ble_eq_true rfl) (Nat.le_of_ble_eq_true rfl) (Nat.le_of_ble_eq_true rfl) (fun r w1 hq => ?_) rfl
  obtain ⟨rfl, rfl⟩ := hq
  refine CC.cells (ws2 := gW (mkG (yN l D cA X 8 19 4026 ws0 B) ad SM (fun _ => True)) (wMs 17)) rfl ?_
  refine C_aload_n hO dX5_init_212 rfl rfl ?_
  refine C_iconst (v := 1) hO dX5_init_213 rfl ?_
  refine C_conR (wr := []) (d := 2) (As := [.int 1]) (rest := []) hO hW dX5_init_214 (cs_X5_codes (Γ := (mkG (yN l D cA X 8 19 4026 ws0 B) ad SM (fun _ => True))) (Q := fun w2 => w2 = (wMs 19)) (by omega) hG (vp_in_iff.mpr ⟨by decide, by decide⟩) rfl) cl_X5_72 (i := 0) rfl rfl rfl (Nat.le_of_ble_eq_true rfl) (Nat.le_of_ble_eq_true rfl) (Nat.le_of_ble_eq_true rfl) (Nat.le_of_ble_eq_true rfl) (Nat.le_of_ble_eq_true rfl) (fun r w1 hq => ?_) rfl
  obtain ⟨rfl, rfl⟩ := hq
  refine CC.cells (ws2 := gW (mkG (yN l D cA X 8 19 4026 ws0 B) ad SM (fun _ => True)) (wMs 19)) rfl ?_
  refine C_aload_n hO dX5_init_217 rfl rfl ?_
  refine C_bipush (v := 6) hO dX5_init_218 rfl ?_
  refine C_conR (wr := []) (d := 2) (As := [.int 6]) (rest := []) hO hW dX5_init_220 (cs_X5_codes (Γ := (mkG (yN l D cA X 8 19 4026 ws0 B) ad SM (fun _ => True))) (Q := fun w2 => w2 = (wMs 21)) (by omega) hG (vp_in_iff.mpr ⟨by decide, by decide⟩) rfl) cl_X5_72 (i := 0) rfl rfl rfl (Nat.le_of_ble_eq_true rfl) (Nat.le_of_ble_eq_true rfl) (Nat.le_of_ble_eq_true rfl) (Nat.le_of_ble_eq_true rfl) (Nat.le_of_ble_eq_true rfl) (fun r w1 hq => ?_) rfl
  obtain ⟨rfl, rfl⟩ := hq
  refine CC.cells (ws2 := gW (mkG (yN l D cA X 8 19 4026 ws0 B) ad SM (fun _ => True)) (wMs 21)) rfl ?_
  refine C_aload_n hO dX5_init_223 rfl rfl ?_
  refine C_bipush (v := 9) hO dX5_init_224 rfl ?_
  refine C_conR (wr := []) (d := 2) (As := [.int 9]) (rest := []) hO hW dX5_init_226 (cs_X5_codes (Γ := (mkG (yN l D cA X 8 19 4026 ws0 B) ad SM (fun _ => True))) (Q := fun w2 => w2 = (wMs 23)) (by omega) hG (vp_in_iff.mpr ⟨by decide, by decide⟩) rfl) cl_X5_72 (i := 0) rfl rfl rfl (Nat.le_of_ble_eq_true rfl) (Nat.le_of_ble_eq_true rfl) (Nat.le_of_ble_eq_true rfl) (Nat.le_of_ble_eq_true rfl) (Nat.le_of_ble_eq_true rfl) (fun r w1 hq => ?_) rfl
  obtain ⟨rfl, rfl⟩ := hq
  refine CC.cells (ws2 := gW (mkG (yN l D cA X 8 19 4026 ws0 B) ad SM (fun _ => True)) (wMs 23)) rfl ?_
  refine C_aload_n hO dX5_init_229 rfl rfl ?_
  refine C_iconst (v := 0) hO dX5_init_230 rfl ?_
  refine C_conR (wr := []) (d := 2) (As := [.int 0]) (rest := []) hO hW dX5_init_231 (cs_X5_codes (Γ := (mkG (yN l D cA X 8 19 4026 ws0 B) ad SM (fun _ => True))) (Q := fun w2 => w2 = (wMs 25)) (by omega) hG (vp_in_iff.mpr ⟨by decide, by decide⟩) rfl) cl_X5_72 (i := 0) rfl rfl rfl (Nat.le_of_ble_eq_true rfl) (Nat.le_of_ble_eq_true rfl) (Nat.le_of_ble_eq_true rfl) (Nat.le_of_ble_eq_true rfl) (Nat.le_of_ble_eq_true rfl) (fun r w1 hq => ?_) rfl
  obtain ⟨rfl, rfl⟩ := hq
  refine CC.cells (ws2 := gW (mkG (yN l D cA X 8 19 4026 ws0 B) ad SM (fun _ => True)) (wMs 25)) rfl ?_
  refine C_aload_n hO dX5_init_234 rfl rfl ?_
  refine C_bipush (v := 18) hO dX5_init_235 rfl ?_
  refine C_conR (wr := []) (d := 2) (As := [.int 18]) (rest := []) hO hW dX5_init_237 (cs_X5_codes (Γ := (mkG (yN l D cA X 8 19 4026 ws0 B) ad SM (fun _ => True))) (Q := fun w2 => w2 = (wMs 27)) (by omega) hG (vp_in_iff.mpr ⟨by decide, by decide⟩) rfl) cl_X5_72 (i := 0) rfl rfl rfl (Nat.le_of_ble_eq_true rfl) (Nat.le_of_ble_eq_true rfl) (Nat.le_of_ble_eq_true rfl) (Nat.le_of_ble_eq_true rfl) (Nat.le_of_ble_eq_true rfl) (fun r w1 hq => ?_) rfl
  obtain ⟨rfl, rfl⟩ := hq
  refine CC.cells (ws2 := gW (mkG (yN l D cA X 8 19 4026 ws0 B) ad SM (fun _ => True)) (wMs 27)) rfl ?_
  refine C_aload_n hO dX5_init_240 rfl rfl ?_
  refine C_bipush (v := 7) hO dX5_init_241 rfl ?_
  refine C_conR (wr := []) (d := 2) (As := [.int 7]) (rest := []) hO hW dX5_init_243 (cs_X5_codes (Γ := (mkG (yN l D cA X 8 19 4026 ws0 B) ad SM (fun _ => True))) (Q := fun w2 => w2 = (wMs 29)) (by omega) hG (vp_in_iff.mpr ⟨by decide, by decide⟩) rfl) cl_X5_72 (i := 0) rfl rfl rfl (Nat.le_of_ble_eq_true rfl) (Nat.le_of_ble_eq_true rfl) (Nat.le_of_ble_eq_true rfl) (Nat.le_of_ble_eq_true rfl) (Nat.le_of_ble_eq_true rfl) (fun r w1 hq => ?_) rfl
  obtain ⟨rfl, rfl⟩ := hq
  refine CC.cells (ws2 := gW (mkG (yN l D cA X 8 19 4026 ws0 B) ad SM (fun _ => True)) (wMs 29)) rfl ?_
  refine C_aload_n hO dX5_init_246 rfl rfl ?_
  refine C_bipush (v := 16) hO dX5_init_247 rfl ?_
  refine C_conR (wr := []) (d := 2) (As := [.int 16]) (rest := []) hO hW dX5_init_249 (cs_X5_codes (Γ := (mkG (yN l D cA X 8 19 4026 ws0 B) ad SM (fun _ => True))) (Q := fun w2 => w2 = (wMs 31)) (by omega) hG (vp_in_iff.mpr ⟨by decide, by decide⟩) rfl) cl_X5_72 (i := 0) rfl rfl rfl (Nat.le_of_ble_eq_true rfl) (Nat.le_of_ble_eq_true rfl) (Nat.le_of_ble_eq_true rfl) (Nat.le_of_ble_eq_true rfl) (Nat.le_of_ble_eq_true rfl) (fun r w1 hq => ?_) rfl
  obtain ⟨rfl, rfl⟩ := hq
  refine CC.cells (ws2 := gW (mkG (yN l D cA X 8 19 4026 ws0 B) ad SM (fun _ => True)) (wMs 31)) rfl ?_
  refine C_aload_n hO dX5_init_252 rfl rfl ?_
  refine C_get hO dX5_init_253 0 11 (gW_get (Γ := (mkG (yN l D cA X 8 19 4026 ws0 B) ad SM (fun _ => True))) (i := 0) rfl) rfl inX5 (by decide) (AW_mem 759 (by decide +kernel) (by decide +kernel)) (v := .ref (ad 7)) rfl ?_
  refine C_iconst (v := 0) hO dX5_init_256 rfl ?_
  refine C_iconst (v := 5) hO dX5_init_257 rfl ?_
  refine C_iastW (E := fun _ => True) (S := SM) (ad := ad) (i := 7) hO dX5_init_258 rfl (vp_in_iff.mpr ⟨by decide, by decide⟩) ?_
  refine CC.cells (ws2 := gW (mkG (yN l D cA X 8 19 4026 ws0 B) ad SM (fun _ => True)) (wMs 32)) rfl ?_
  refine C_aload_n hO dX5_init_259 rfl rfl ?_
  refine C_get hO dX5_init_260 0 10 (gW_get (Γ := (mkG (yN l D cA X 8 19 4026 ws0 B) ad SM (fun _ => True))) (i := 0) rfl) rfl inX5 (by decide) (AW_mem 758 (by decide +kernel) (by decide +kernel)) (v := .ref (ad 6)) rfl ?_
  refine C_iconst (v := 1) hO dX5_init_263 rfl ?_
  refine C_iconst (v := 5) hO dX5_init_264 rfl ?_
  refine C_iastW (E := fun _ => True) (S := SM) (ad := ad) (i := 6) hO dX5_init_265 rfl (vp_in_iff.mpr ⟨by decide, by decide⟩) ?_
  refine CC.cells (ws2 := gW (mkG (yN l D cA X 8 19 4026 ws0 B) ad SM (fun _ => True)) (wMs 33)) rfl ?_
  refine C_aload_n hO dX5_init_266 rfl rfl ?_
  refine C_get hO dX5_init_267 0 11 (gW_get (Γ := (mkG (yN l D cA X 8 19 4026 ws0 B) ad SM (fun _ => True))) (i := 0) rfl) rfl inX5 (by decide) (AW_mem 759 (by decide +kernel) (by decide +kernel)) (v := .ref (ad 7)) rfl ?_
  refine C_iconst (v := 1) hO dX5_init_270 rfl ?_
  refine C_iconst (v := 3) hO dX5_init_271 rfl ?_
  refine C_iastW (E := fun _ => True) (S := SM) (ad := ad) (i := 7) hO dX5_init_272 rfl (vp_in_iff.mpr ⟨by decide, by decide⟩) ?_
  refine CC.cells (ws2 := gW (mkG (yN l D cA X 8 19 4026 ws0 B) ad SM (fun _ => True)) (wMs 34)) rfl ?_
  refine C_aload_n hO dX5_init_273 rfl rfl ?_
  refine C_get hO dX5_init_274 0 10 (gW_get (Γ := (mkG (yN l D cA X 8 19 4026 ws0 B) ad SM (fun _ => True))) (i := 0) rfl) rfl inX5 (by decide) (AW_mem 758 (by decide +kernel) (by decide +kernel)) (v := .ref (ad 6)) rfl ?_
  refine C_iconst (v := 2) hO dX5_init_277 rfl ?_
  refine C_bipush (v := 8) hO dX5_init_278 rfl ?_
  refine C_iastW (E := fun _ => True) (S := SM) (ad := ad) (i := 6) hO dX5_init_280 rfl (vp_in_iff.mpr ⟨by decide, by decide⟩) ?_
  refine CC.cells (ws2 := gW (mkG (yN l D cA X 8 19 4026 ws0 B) ad SM (fun _ => True)) (wMs 35)) rfl ?_
  refine C_aload_n hO dX5_init_281 rfl rfl ?_
  refine C_get hO dX5_init_282 0 11 (gW_get (Γ := (mkG (yN l D cA X 8 19 4026 ws0 B) ad SM (fun _ => True))) (i := 0) rfl) rfl inX5 (by decide) (AW_mem 759 (by decide +kernel) (by decide +kernel)) (v := .ref (ad 7)) rfl ?_
  refine C_iconst (v := 2) hO dX5_init_285 rfl ?_
  refine C_iconst (v := 1) hO dX5_init_286 rfl ?_
  refine C_iastW (E := fun _ => True) (S := SM) (ad := ad) (i := 7) hO dX5_init_287 rfl (vp_in_iff.mpr ⟨by decide, by decide⟩) ?_
  refine CC.cells (ws2 := gW (mkG (yN l D cA X 8 19 4026 ws0 B) ad SM (fun _ => True)) (wMs 36)) rfl ?_
  refine C_aload_n hO dX5_init_288 rfl rfl ?_
  refine C_iconst (v := 1) hO dX5_init_289 rfl ?_
  refine C_putW (E := fun _ => True) (S := SM) (ad := ad) (i := 0) hO dX5_init_290 tyX5 9 rfl rfl inX5 tyX5_ok nmX5 (by decide) (AW_mem 757 (by decide +kernel) (by decide +kernel)) rfl rfl rfl ?_
  refine CC.cells (ws2 := gW (mkG (yN l D cA X 8 19 4026 ws0 B) ad SM (fun _ => True)) (wMs 37)) rfl ?_
  exact C_vret hO hr dX5_init_293 hB
def M_X5_init : Mth := (yX5_init, cX5_init, 2, none)
def B5 (cA : Nat → ClassId) (h0 : Nat) (u : va_W) : Prop := ∃ ad : Nat → Nat, u = cels cA ad wNewM 0 SM ∧ ad 0 = h0
set_option maxHeartbeats 8000000 in
set_option maxRecDepth 20000 in
theorem ni_X5_init {l : Launch} {D : va_G} {cA : Nat → ClassId} {h0 : Nat} : NewC l D cA M_X5_init 8 19 4026 (fun _ => True) [.ref h0] [(h0, .inr (5, (.int 0 :: .null :: .int 0 :: .null :: .null :: .null :: .int 0 :: .int 0 :: .null :: .int 0 :: .null :: .null :: .null :: .int 0 :: .int 0 :: .int 0 :: .int 0 :: .int 0 :: .int 0 :: .null :: .int 0 :: .int 0 :: .int 0 :: .int 0 :: .int 0 :: .null :: .null :: .int 0 :: .null :: .null :: .int 0 :: .null :: .int 0 :: .int 0 :: .int 0 :: .int 0 :: .null :: .null :: .null :: .null :: .null :: [])))] (B5 cA h0) := by
  refine NewC.of RX5 cX5_init 2 [some (.ref h0), none] rfl rfl rfl (by decide +kernel) (catR cat0) (Nat.le_of_ble_eq_true rfl) rfl ?_
  intro X hO hI hr _ hlt
  refine C_aload_n hO dX5_init_0 rfl rfl ?_
  refine C_objInit hO dX5_init_1 (AW_mem 743 (by decide +kernel) (by decide +kernel)) (Nat.le_of_ble_eq_true rfl) (Nat.le_of_ble_eq_true rfl) (Nat.le_of_ble_eq_true rfl) ?_
  refine C_aload_n hO dX5_init_4 rfl rfl ?_
  refine C_bipush (v := 8) hO dX5_init_5 rfl ?_
  refine C_newZ (N := 8) hO dX5_init_7 (by decide) rfl (by decide) (Nat.le_of_ble_eq_true rfl) (Nat.le_of_ble_eq_true rfl) (fun a0 => ?_)
  refine C_putF hO hI (ty := (.array .boolean)) dX5_init_9 tyX5 0 1 rfl rfl inX5 tyX5_ok nmX5 (by decide) (AW_mem 749 (by decide +kernel) (by decide +kernel)) rfl rfl rfl rfl rfl (by simp) (ws2 := [(h0, .inr (5, (.int 0 :: .ref a0 :: .int 0 :: .null :: .null :: .null :: .int 0 :: .int 0 :: .null :: .int 0 :: .null :: .null :: .null :: .int 0 :: .int 0 :: .int 0 :: .int 0 :: .int 0 :: .int 0 :: .null :: .int 0 :: .int 0 :: .int 0 :: .int 0 :: .int 0 :: .null :: .null :: .int 0 :: .null :: .null :: .int 0 :: .null :: .int 0 :: .int 0 :: .int 0 :: .int 0 :: .null :: .null :: .null :: .null :: .null :: []))), (a0, .inl (cA 1, 8, .inl fun _ => 0))]) rfl ?_
  refine C_aload_n hO dX5_init_12 rfl rfl ?_
  refine C_iconst (v := 5) hO dX5_init_13 rfl ?_
  refine C_newI (N := 5) hO dX5_init_14 (by decide) rfl (by decide) (Nat.le_of_ble_eq_true rfl) (Nat.le_of_ble_eq_true rfl) (fun a1 => ?_)
  refine C_putF hO hI (ty := (.array .int)) dX5_init_16 tyX5 0 3 rfl rfl inX5 tyX5_ok nmX5 (by decide) (AW_mem 751 (by decide +kernel) (by decide +kernel)) rfl rfl rfl rfl rfl (by simp) (ws2 := [(h0, .inr (5, (.int 0 :: .ref a0 :: .int 0 :: .ref a1 :: .null :: .null :: .int 0 :: .int 0 :: .null :: .int 0 :: .null :: .null :: .null :: .int 0 :: .int 0 :: .int 0 :: .int 0 :: .int 0 :: .int 0 :: .null :: .int 0 :: .int 0 :: .int 0 :: .int 0 :: .int 0 :: .null :: .null :: .int 0 :: .null :: .null :: .int 0 :: .null :: .int 0 :: .int 0 :: .int 0 :: .int 0 :: .null :: .null :: .null :: .null :: .null :: []))), (a0, .inl (cA 1, 8, .inl fun _ => 0)), (a1, .inl (cA 0, 5, .inl fun _ => 0))]) rfl ?_
  refine C_aload_n hO dX5_init_19 rfl rfl ?_
  refine C_iconst (v := 5) hO dX5_init_20 rfl ?_
  refine C_newI (N := 5) hO dX5_init_21 (by decide) rfl (by decide) (Nat.le_of_ble_eq_true rfl) (Nat.le_of_ble_eq_true rfl) (fun a2 => ?_)
  refine C_putF hO hI (ty := (.array .int)) dX5_init_23 tyX5 0 4 rfl rfl inX5 tyX5_ok nmX5 (by decide) (AW_mem 752 (by decide +kernel) (by decide +kernel)) rfl rfl rfl rfl rfl (by simp) (ws2 := [(h0, .inr (5, (.int 0 :: .ref a0 :: .int 0 :: .ref a1 :: .ref a2 :: .null :: .int 0 :: .int 0 :: .null :: .int 0 :: .null :: .null :: .null :: .int 0 :: .int 0 :: .int 0 :: .int 0 :: .int 0 :: .int 0 :: .null :: .int 0 :: .int 0 :: .int 0 :: .int 0 :: .int 0 :: .null :: .null :: .int 0 :: .null :: .null :: .int 0 :: .null :: .int 0 :: .int 0 :: .int 0 :: .int 0 :: .null :: .null :: .null :: .null :: .null :: []))), (a0, .inl (cA 1, 8, .inl fun _ => 0)), (a1, .inl (cA 0, 5, .inl fun _ => 0)), (a2, .inl (cA 0, 5, .inl fun _ => 0))]) rfl ?_
  refine C_aload_n hO dX5_init_26 rfl rfl ?_
  refine C_iconst (v := 5) hO dX5_init_27 rfl ?_
  refine C_newI (N := 5) hO dX5_init_28 (by decide) rfl (by decide) (Nat.le_of_ble_eq_true rfl) (Nat.le_of_ble_eq_true rfl) (fun a3 => ?_)
  refine C_putF hO hI (ty := (.array .int)) dX5_init_30 tyX5 0 5 rfl rfl inX5 tyX5_ok nmX5 (by decide) (AW_mem 753 (by decide +kernel) (by decide +kernel)) rfl rfl rfl rfl rfl (by simp) (ws2 := [(h0, .inr (5, (.int 0 :: .ref a0 :: .int 0 :: .ref a1 :: .ref a2 :: .ref a3 :: .int 0 :: .int 0 :: .null :: .int 0 :: .null :: .null :: .null :: .int 0 :: .int 0 :: .int 0 :: .int 0 :: .int 0 :: .int 0 :: .null :: .int 0 :: .int 0 :: .int 0 :: .int 0 :: .int 0 :: .null :: .null :: .int 0 :: .null :: .null :: .int 0 :: .null :: .int 0 :: .int 0 :: .int 0 :: .int 0 :: .null :: .null :: .null :: .null :: .null :: []))), (a0, .inl (cA 1, 8, .inl fun _ => 0)), (a1, .inl (cA 0, 5, .inl fun _ => 0)), (a2, .inl (cA 0, 5, .inl fun _ => 0)), (a3, .inl (cA 0, 5, .inl fun _ => 0))]) rfl ?_
  refine C_aload_n hO dX5_init_33 rfl rfl ?_
  refine C_sipush (v := 160) hO dX5_init_34 rfl ?_
  refine C_newI (N := 160) hO dX5_init_37 (by decide) rfl (by decide) (Nat.le_of_ble_eq_true rfl) (Nat.le_of_ble_eq_true rfl) (fun a4 => ?_)
  refine C_putF hO hI (ty := (.array .int)) dX5_init_39 tyX5 0 8 rfl rfl inX5 tyX5_ok nmX5 (by decide) (AW_mem 756 (by decide +kernel) (by decide +kernel)) rfl rfl rfl rfl rfl (by simp) (ws2 := [(h0, .inr (5, (.int 0 :: .ref a0 :: .int 0 :: .ref a1 :: .ref a2 :: .ref a3 :: .int 0 :: .int 0 :: .ref a4 :: .int 0 :: .null :: .null :: .null :: .int 0 :: .int 0 :: .int 0 :: .int 0 :: .int 0 :: .int 0 :: .null :: .int 0 :: .int 0 :: .int 0 :: .int 0 :: .int 0 :: .null :: .null :: .int 0 :: .null :: .null :: .int 0 :: .null :: .int 0 :: .int 0 :: .int 0 :: .int 0 :: .null :: .null :: .null :: .null :: .null :: []))), (a0, .inl (cA 1, 8, .inl fun _ => 0)), (a1, .inl (cA 0, 5, .inl fun _ => 0)), (a2, .inl (cA 0, 5, .inl fun _ => 0)), (a3, .inl (cA 0, 5, .inl fun _ => 0)), (a4, .inl (cA 0, 160, .inl fun _ => 0))]) rfl ?_
  refine C_aload_n hO dX5_init_42 rfl rfl ?_
  refine C_bipush (v := 18) hO dX5_init_43 rfl ?_
  refine C_newI (N := 18) hO dX5_init_45 (by decide) rfl (by decide) (Nat.le_of_ble_eq_true rfl) (Nat.le_of_ble_eq_true rfl) (fun a5 => ?_)
  refine C_putF hO hI (ty := (.array .int)) dX5_init_47 tyX5 0 10 rfl rfl inX5 tyX5_ok nmX5 (by decide) (AW_mem 758 (by decide +kernel) (by decide +kernel)) rfl rfl rfl rfl rfl (by simp) (ws2 := [(h0, .inr (5, (.int 0 :: .ref a0 :: .int 0 :: .ref a1 :: .ref a2 :: .ref a3 :: .int 0 :: .int 0 :: .ref a4 :: .int 0 :: .ref a5 :: .null :: .null :: .int 0 :: .int 0 :: .int 0 :: .int 0 :: .int 0 :: .int 0 :: .null :: .int 0 :: .int 0 :: .int 0 :: .int 0 :: .int 0 :: .null :: .null :: .int 0 :: .null :: .null :: .int 0 :: .null :: .int 0 :: .int 0 :: .int 0 :: .int 0 :: .null :: .null :: .null :: .null :: .null :: []))), (a0, .inl (cA 1, 8, .inl fun _ => 0)), (a1, .inl (cA 0, 5, .inl fun _ => 0)), (a2, .inl (cA 0, 5, .inl fun _ => 0)), (a3, .inl (cA 0, 5, .inl fun _ => 0)), (a4, .inl (cA 0, 160, .inl fun _ => 0)), (a5, .inl (cA 0, 18, .inl fun _ => 0))]) rfl ?_
  refine C_aload_n hO dX5_init_50 rfl rfl ?_
  refine C_bipush (v := 18) hO dX5_init_51 rfl ?_
  refine C_newI (N := 18) hO dX5_init_53 (by decide) rfl (by decide) (Nat.le_of_ble_eq_true rfl) (Nat.le_of_ble_eq_true rfl) (fun a6 => ?_)
  refine C_putF hO hI (ty := (.array .int)) dX5_init_55 tyX5 0 11 rfl rfl inX5 tyX5_ok nmX5 (by decide) (AW_mem 759 (by decide +kernel) (by decide +kernel)) rfl rfl rfl rfl rfl (by simp) (ws2 := [(h0, .inr (5, (.int 0 :: .ref a0 :: .int 0 :: .ref a1 :: .ref a2 :: .ref a3 :: .int 0 :: .int 0 :: .ref a4 :: .int 0 :: .ref a5 :: .ref a6 :: .null :: .int 0 :: .int 0 :: .int 0 :: .int 0 :: .int 0 :: .int 0 :: .null :: .int 0 :: .int 0 :: .int 0 :: .int 0 :: .int 0 :: .null :: .null :: .int 0 :: .null :: .null :: .int 0 :: .null :: .int 0 :: .int 0 :: .int 0 :: .int 0 :: .null :: .null :: .null :: .null :: .null :: []))), (a0, .inl (cA 1, 8, .inl fun _ => 0)), (a1, .inl (cA 0, 5, .inl fun _ => 0)), (a2, .inl (cA 0, 5, .inl fun _ => 0)), (a3, .inl (cA 0, 5, .inl fun _ => 0)), (a4, .inl (cA 0, 160, .inl fun _ => 0)), (a5, .inl (cA 0, 18, .inl fun _ => 0)), (a6, .inl (cA 0, 18, .inl fun _ => 0))]) rfl ?_
  refine C_aload_n hO dX5_init_58 rfl rfl ?_
  refine C_sipush (v := 3000) hO dX5_init_59 rfl ?_
  refine C_newI (N := 3000) hO dX5_init_62 (by decide) rfl (by decide) (Nat.le_of_ble_eq_true rfl) (Nat.le_of_ble_eq_true rfl) (fun a7 => ?_)
  refine C_putF hO hI (ty := (.array .int)) dX5_init_64 tyX5 0 12 rfl rfl inX5 tyX5_ok nmX5 (by decide) (AW_mem 760 (by decide +kernel) (by decide +kernel)) rfl rfl rfl rfl rfl (by simp) (ws2 := [(h0, .inr (5, (.int 0 :: .ref a0 :: .int 0 :: .ref a1 :: .ref a2 :: .ref a3 :: .int 0 :: .int 0 :: .ref a4 :: .int 0 :: .ref a5 :: .ref a6 :: .ref a7 :: .int 0 :: .int 0 :: .int 0 :: .int 0 :: .int 0 :: .int 0 :: .null :: .int 0 :: .int 0 :: .int 0 :: .int 0 :: .int 0 :: .null :: .null :: .int 0 :: .null :: .null :: .int 0 :: .null :: .int 0 :: .int 0 :: .int 0 :: .int 0 :: .null :: .null :: .null :: .null :: .null :: []))), (a0, .inl (cA 1, 8, .inl fun _ => 0)), (a1, .inl (cA 0, 5, .inl fun _ => 0)), (a2, .inl (cA 0, 5, .inl fun _ => 0)), (a3, .inl (cA 0, 5, .inl fun _ => 0)), (a4, .inl (cA 0, 160, .inl fun _ => 0)), (a5, .inl (cA 0, 18, .inl fun _ => 0)), (a6, .inl (cA 0, 18, .inl fun _ => 0)), (a7, .inl (cA 0, 3000, .inl fun _ => 0))]) rfl ?_
  refine C_aload_n hO dX5_init_67 rfl rfl ?_
  refine C_sipush (v := 200) hO dX5_init_68 rfl ?_
  refine C_newI (N := 200) hO dX5_init_71 (by decide) rfl (by decide) (Nat.le_of_ble_eq_true rfl) (Nat.le_of_ble_eq_true rfl) (fun a8 => ?_)
  refine C_putF hO hI (ty := (.array .int)) dX5_init_73 tyX5 0 19 rfl rfl inX5 tyX5_ok nmX5 (by decide) (AW_mem 767 (by decide +kernel) (by decide +kernel)) rfl rfl rfl rfl rfl (by simp) (ws2 := [(h0, .inr (5, (.int 0 :: .ref a0 :: .int 0 :: .ref a1 :: .ref a2 :: .ref a3 :: .int 0 :: .int 0 :: .ref a4 :: .int 0 :: .ref a5 :: .ref a6 :: .ref a7 :: .int 0 :: .int 0 :: .int 0 :: .int 0 :: .int 0 :: .int 0 :: .ref a8 :: .int 0 :: .int 0 :: .int 0 :: .int 0 :: .int 0 :: .null :: .null :: .int 0 :: .null :: .null :: .int 0 :: .null :: .int 0 :: .int 0 :: .int 0 :: .int 0 :: .null :: .null :: .null :: .null :: .null :: []))), (a0, .inl (cA 1, 8, .inl fun _ => 0)), (a1, .inl (cA 0, 5, .inl fun _ => 0)), (a2, .inl (cA 0, 5, .inl fun _ => 0)), (a3, .inl (cA 0, 5, .inl fun _ => 0)), (a4, .inl (cA 0, 160, .inl fun _ => 0)), (a5, .inl (cA 0, 18, .inl fun _ => 0)), (a6, .inl (cA 0, 18, .inl fun _ => 0)), (a7, .inl (cA 0, 3000, .inl fun _ => 0)), (a8, .inl (cA 0, 200, .inl fun _ => 0))]) rfl ?_
  refine C_aload_n hO dX5_init_76 rfl rfl ?_
  refine C_sipush (v := 200) hO dX5_init_77 rfl ?_
  refine C_newI (N := 200) hO dX5_init_80 (by decide) rfl (by decide) (Nat.le_of_ble_eq_true rfl) (Nat.le_of_ble_eq_true rfl) (fun a9 => ?_)
  refine C_putF hO hI (ty := (.array .int)) dX5_init_82 tyX5 0 25 rfl rfl inX5 tyX5_ok nmX5 (by decide) (AW_mem 773 (by decide +kernel) (by decide +kernel)) rfl rfl rfl rfl rfl (by simp) (ws2 := [(h0, .inr (5, (.int 0 :: .ref a0 :: .int 0 :: .ref a1 :: .ref a2 :: .ref a3 :: .int 0 :: .int 0 :: .ref a4 :: .int 0 :: .ref a5 :: .ref a6 :: .ref a7 :: .int 0 :: .int 0 :: .int 0 :: .int 0 :: .int 0 :: .int 0 :: .ref a8 :: .int 0 :: .int 0 :: .int 0 :: .int 0 :: .int 0 :: .ref a9 :: .null :: .int 0 :: .null :: .null :: .int 0 :: .null :: .int 0 :: .int 0 :: .int 0 :: .int 0 :: .null :: .null :: .null :: .null :: .null :: []))), (a0, .inl (cA 1, 8, .inl fun _ => 0)), (a1, .inl (cA 0, 5, .inl fun _ => 0)), (a2, .inl (cA 0, 5, .inl fun _ => 0)), (a3, .inl (cA 0, 5, .inl fun _ => 0)), (a4, .inl (cA 0, 160, .inl fun _ => 0)), (a5, .inl (cA 0, 18, .inl fun _ => 0)), (a6, .inl (cA 0, 18, .inl fun _ => 0)), (a7, .inl (cA 0, 3000, .inl fun _ => 0)), (a8, .inl (cA 0, 200, .inl fun _ => 0)), (a9, .inl (cA 0, 200, .inl fun _ => 0))]) rfl ?_
  refine C_aload_n hO dX5_init_85 rfl rfl ?_
  refine C_bipush (v := 6) hO dX5_init_86 rfl ?_
  refine C_newI (N := 6) hO dX5_init_88 (by decide) rfl (by decide) (Nat.le_of_ble_eq_true rfl) (Nat.le_of_ble_eq_true rfl) (fun a10 => ?_)
  refine C_putF hO hI (ty := (.array .int)) dX5_init_90 tyX5 0 26 rfl rfl inX5 tyX5_ok nmX5 (by decide) (AW_mem 774 (by decide +kernel) (by decide +kernel)) rfl rfl rfl rfl rfl (by simp) (ws2 := [(h0, .inr (5, (.int 0 :: .ref a0 :: .int 0 :: .ref a1 :: .ref a2 :: .ref a3 :: .int 0 :: .int 0 :: .ref a4 :: .int 0 :: .ref a5 :: .ref a6 :: .ref a7 :: .int 0 :: .int 0 :: .int 0 :: .int 0 :: .int 0 :: .int 0 :: .ref a8 :: .int 0 :: .int 0 :: .int 0 :: .int 0 :: .int 0 :: .ref a9 :: .ref a10 :: .int 0 :: .null :: .null :: .int 0 :: .null :: .int 0 :: .int 0 :: .int 0 :: .int 0 :: .null :: .null :: .null :: .null :: .null :: []))), (a0, .inl (cA 1, 8, .inl fun _ => 0)), (a1, .inl (cA 0, 5, .inl fun _ => 0)), (a2, .inl (cA 0, 5, .inl fun _ => 0)), (a3, .inl (cA 0, 5, .inl fun _ => 0)), (a4, .inl (cA 0, 160, .inl fun _ => 0)), (a5, .inl (cA 0, 18, .inl fun _ => 0)), (a6, .inl (cA 0, 18, .inl fun _ => 0)), (a7, .inl (cA 0, 3000, .inl fun _ => 0)), (a8, .inl (cA 0, 200, .inl fun _ => 0)), (a9, .inl (cA 0, 200, .inl fun _ => 0)), (a10, .inl (cA 0, 6, .inl fun _ => 0))]) rfl ?_
  refine C_aload_n hO dX5_init_93 rfl rfl ?_
  refine C_iconst (v := 5) hO dX5_init_94 rfl ?_
  refine C_newI (N := 5) hO dX5_init_95 (by decide) rfl (by decide) (Nat.le_of_ble_eq_true rfl) (Nat.le_of_ble_eq_true rfl) (fun a11 => ?_)
  refine C_putF hO hI (ty := (.array .int)) dX5_init_97 tyX5 0 28 rfl rfl inX5 tyX5_ok nmX5 (by decide) (AW_mem 776 (by decide +kernel) (by decide +kernel)) rfl rfl rfl rfl rfl (by simp) (ws2 := [(h0, .inr (5, (.int 0 :: .ref a0 :: .int 0 :: .ref a1 :: .ref a2 :: .ref a3 :: .int 0 :: .int 0 :: .ref a4 :: .int 0 :: .ref a5 :: .ref a6 :: .ref a7 :: .int 0 :: .int 0 :: .int 0 :: .int 0 :: .int 0 :: .int 0 :: .ref a8 :: .int 0 :: .int 0 :: .int 0 :: .int 0 :: .int 0 :: .ref a9 :: .ref a10 :: .int 0 :: .ref a11 :: .null :: .int 0 :: .null :: .int 0 :: .int 0 :: .int 0 :: .int 0 :: .null :: .null :: .null :: .null :: .null :: []))), (a0, .inl (cA 1, 8, .inl fun _ => 0)), (a1, .inl (cA 0, 5, .inl fun _ => 0)), (a2, .inl (cA 0, 5, .inl fun _ => 0)), (a3, .inl (cA 0, 5, .inl fun _ => 0)), (a4, .inl (cA 0, 160, .inl fun _ => 0)), (a5, .inl (cA 0, 18, .inl fun _ => 0)), (a6, .inl (cA 0, 18, .inl fun _ => 0)), (a7, .inl (cA 0, 3000, .inl fun _ => 0)), (a8, .inl (cA 0, 200, .inl fun _ => 0)), (a9, .inl (cA 0, 200, .inl fun _ => 0)), (a10, .inl (cA 0, 6, .inl fun _ => 0)), (a11, .inl (cA 0, 5, .inl fun _ => 0))]) rfl ?_
  refine C_aload_n hO dX5_init_100 rfl rfl ?_
  refine C_iconst (v := 5) hO dX5_init_101 rfl ?_
  refine C_newI (N := 5) hO dX5_init_102 (by decide) rfl (by decide) (Nat.le_of_ble_eq_true rfl) (Nat.le_of_ble_eq_true rfl) (fun a12 => ?_)
  refine C_putF hO hI (ty := (.array .int)) dX5_init_104 tyX5 0 29 rfl rfl inX5 tyX5_ok nmX5 (by decide) (AW_mem 777 (by decide +kernel) (by decide +kernel)) rfl rfl rfl rfl rfl (by simp) (ws2 := [(h0, .inr (5, (.int 0 :: .ref a0 :: .int 0 :: .ref a1 :: .ref a2 :: .ref a3 :: .int 0 :: .int 0 :: .ref a4 :: .int 0 :: .ref a5 :: .ref a6 :: .ref a7 :: .int 0 :: .int 0 :: .int 0 :: .int 0 :: .int 0 :: .int 0 :: .ref a8 :: .int 0 :: .int 0 :: .int 0 :: .int 0 :: .int 0 :: .ref a9 :: .ref a10 :: .int 0 :: .ref a11 :: .ref a12 :: .int 0 :: .null :: .int 0 :: .int 0 :: .int 0 :: .int 0 :: .null :: .null :: .null :: .null :: .null :: []))), (a0, .inl (cA 1, 8, .inl fun _ => 0)), (a1, .inl (cA 0, 5, .inl fun _ => 0)), (a2, .inl (cA 0, 5, .inl fun _ => 0)), (a3, .inl (cA 0, 5, .inl fun _ => 0)), (a4, .inl (cA 0, 160, .inl fun _ => 0)), (a5, .inl (cA 0, 18, .inl fun _ => 0)), (a6, .inl (cA 0, 18, .inl fun _ => 0)), (a7, .inl (cA 0, 3000, .inl fun _ => 0)), (a8, .inl (cA 0, 200, .inl fun _ => 0)), (a9, .inl (cA 0, 200, .inl fun _ => 0)), (a10, .inl (cA 0, 6, .inl fun _ => 0)), (a11, .inl (cA 0, 5, .inl fun _ => 0)), (a12, .inl (cA 0, 5, .inl fun _ => 0))]) rfl ?_
  refine C_aload_n hO dX5_init_107 rfl rfl ?_
  refine C_sipush (v := 205) hO dX5_init_108 rfl ?_
  refine C_newI (N := 205) hO dX5_init_111 (by decide) rfl (by decide) (Nat.le_of_ble_eq_true rfl) (Nat.le_of_ble_eq_true rfl) (fun a13 => ?_)
  refine C_putF hO hI (ty := (.array .int)) dX5_init_113 tyX5 0 31 rfl rfl inX5 tyX5_ok nmX5 (by decide) (AW_mem 779 (by decide +kernel) (by decide +kernel)) rfl rfl rfl rfl rfl (by simp) (ws2 := [(h0, .inr (5, (.int 0 :: .ref a0 :: .int 0 :: .ref a1 :: .ref a2 :: .ref a3 :: .int 0 :: .int 0 :: .ref a4 :: .int 0 :: .ref a5 :: .ref a6 :: .ref a7 :: .int 0 :: .int 0 :: .int 0 :: .int 0 :: .int 0 :: .int 0 :: .ref a8 :: .int 0 :: .int 0 :: .int 0 :: .int 0 :: .int 0 :: .ref a9 :: .ref a10 :: .int 0 :: .ref a11 :: .ref a12 :: .int 0 :: .ref a13 :: .int 0 :: .int 0 :: .int 0 :: .int 0 :: .null :: .null :: .null :: .null :: .null :: []))), (a0, .inl (cA 1, 8, .inl fun _ => 0)), (a1, .inl (cA 0, 5, .inl fun _ => 0)), (a2, .inl (cA 0, 5, .inl fun _ => 0)), (a3, .inl (cA 0, 5, .inl fun _ => 0)), (a4, .inl (cA 0, 160, .inl fun _ => 0)), (a5, .inl (cA 0, 18, .inl fun _ => 0)), (a6, .inl (cA 0, 18, .inl fun _ => 0)), (a7, .inl (cA 0, 3000, .inl fun _ => 0)), (a8, .inl (cA 0, 200, .inl fun _ => 0)), (a9, .inl (cA 0, 200, .inl fun _ => 0)), (a10, .inl (cA 0, 6, .inl fun _ => 0)), (a11, .inl (cA 0, 5, .inl fun _ => 0)), (a12, .inl (cA 0, 5, .inl fun _ => 0)), (a13, .inl (cA 0, 205, .inl fun _ => 0))]) rfl ?_
  refine C_aload_n hO dX5_init_116 rfl rfl ?_
  refine C_bipush (v := 8) hO dX5_init_117 rfl ?_
  refine C_newZ (N := 8) hO dX5_init_119 (by decide) rfl (by decide) (Nat.le_of_ble_eq_true rfl) (Nat.le_of_ble_eq_true rfl) (fun a14 => ?_)
  refine C_putF hO hI (ty := (.array .boolean)) dX5_init_121 tyX5 0 36 rfl rfl inX5 tyX5_ok nmX5 (by decide) (AW_mem 784 (by decide +kernel) (by decide +kernel)) rfl rfl rfl rfl rfl (by simp) (ws2 := [(h0, .inr (5, (.int 0 :: .ref a0 :: .int 0 :: .ref a1 :: .ref a2 :: .ref a3 :: .int 0 :: .int 0 :: .ref a4 :: .int 0 :: .ref a5 :: .ref a6 :: .ref a7 :: .int 0 :: .int 0 :: .int 0 :: .int 0 :: .int 0 :: .int 0 :: .ref a8 :: .int 0 :: .int 0 :: .int 0 :: .int 0 :: .int 0 :: .ref a9 :: .ref a10 :: .int 0 :: .ref a11 :: .ref a12 :: .int 0 :: .ref a13 :: .int 0 :: .int 0 :: .int 0 :: .int 0 :: .ref a14 :: .null :: .null :: .null :: .null :: []))), (a0, .inl (cA 1, 8, .inl fun _ => 0)), (a1, .inl (cA 0, 5, .inl fun _ => 0)), (a2, .inl (cA 0, 5, .inl fun _ => 0)), (a3, .inl (cA 0, 5, .inl fun _ => 0)), (a4, .inl (cA 0, 160, .inl fun _ => 0)), (a5, .inl (cA 0, 18, .inl fun _ => 0)), (a6, .inl (cA 0, 18, .inl fun _ => 0)), (a7, .inl (cA 0, 3000, .inl fun _ => 0)), (a8, .inl (cA 0, 200, .inl fun _ => 0)), (a9, .inl (cA 0, 200, .inl fun _ => 0)), (a10, .inl (cA 0, 6, .inl fun _ => 0)), (a11, .inl (cA 0, 5, .inl fun _ => 0)), (a12, .inl (cA 0, 5, .inl fun _ => 0)), (a13, .inl (cA 0, 205, .inl fun _ => 0)), (a14, .inl (cA 1, 8, .inl fun _ => 0))]) rfl ?_
  refine C_aload_n hO dX5_init_124 rfl rfl ?_
  refine C_bipush (v := 10) hO dX5_init_125 rfl ?_
  refine C_newI (N := 10) hO dX5_init_127 (by decide) rfl (by decide) (Nat.le_of_ble_eq_true rfl) (Nat.le_of_ble_eq_true rfl) (fun a15 => ?_)
  refine C_putF hO hI (ty := (.array .int)) dX5_init_129 tyX5 0 37 rfl rfl inX5 tyX5_ok nmX5 (by decide) (AW_mem 785 (by decide +kernel) (by decide +kernel)) rfl rfl rfl rfl rfl (by simp) (ws2 := [(h0, .inr (5, (.int 0 :: .ref a0 :: .int 0 :: .ref a1 :: .ref a2 :: .ref a3 :: .int 0 :: .int 0 :: .ref a4 :: .int 0 :: .ref a5 :: .ref a6 :: .ref a7 :: .int 0 :: .int 0 :: .int 0 :: .int 0 :: .int 0 :: .int 0 :: .ref a8 :: .int 0 :: .int 0 :: .int 0 :: .int 0 :: .int 0 :: .ref a9 :: .ref a10 :: .int 0 :: .ref a11 :: .ref a12 :: .int 0 :: .ref a13 :: .int 0 :: .int 0 :: .int 0 :: .int 0 :: .ref a14 :: .ref a15 :: .null :: .null :: .null :: []))), (a0, .inl (cA 1, 8, .inl fun _ => 0)), (a1, .inl (cA 0, 5, .inl fun _ => 0)), (a2, .inl (cA 0, 5, .inl fun _ => 0)), (a3, .inl (cA 0, 5, .inl fun _ => 0)), (a4, .inl (cA 0, 160, .inl fun _ => 0)), (a5, .inl (cA 0, 18, .inl fun _ => 0)), (a6, .inl (cA 0, 18, .inl fun _ => 0)), (a7, .inl (cA 0, 3000, .inl fun _ => 0)), (a8, .inl (cA 0, 200, .inl fun _ => 0)), (a9, .inl (cA 0, 200, .inl fun _ => 0)), (a10, .inl (cA 0, 6, .inl fun _ => 0)), (a11, .inl (cA 0, 5, .inl fun _ => 0)), (a12, .inl (cA 0, 5, .inl fun _ => 0)), (a13, .inl (cA 0, 205, .inl fun _ => 0)), (a14, .inl (cA 1, 8, .inl fun _ => 0)), (a15, .inl (cA 0, 10, .inl fun _ => 0))]) rfl ?_
  refine C_aload_n hO dX5_init_132 rfl rfl ?_
  refine C_iconst (v := 4) hO dX5_init_133 rfl ?_
  refine C_newI (N := 4) hO dX5_init_134 (by decide) rfl (by decide) (Nat.le_of_ble_eq_true rfl) (Nat.le_of_ble_eq_true rfl) (fun a16 => ?_)
  refine C_putF hO hI (ty := (.array .int)) dX5_init_136 tyX5 0 38 rfl rfl inX5 tyX5_ok nmX5 (by decide) (AW_mem 786 (by decide +kernel) (by decide +kernel)) rfl rfl rfl rfl rfl (by simp) (ws2 := [(h0, .inr (5, (.int 0 :: .ref a0 :: .int 0 :: .ref a1 :: .ref a2 :: .ref a3 :: .int 0 :: .int 0 :: .ref a4 :: .int 0 :: .ref a5 :: .ref a6 :: .ref a7 :: .int 0 :: .int 0 :: .int 0 :: .int 0 :: .int 0 :: .int 0 :: .ref a8 :: .int 0 :: .int 0 :: .int 0 :: .int 0 :: .int 0 :: .ref a9 :: .ref a10 :: .int 0 :: .ref a11 :: .ref a12 :: .int 0 :: .ref a13 :: .int 0 :: .int 0 :: .int 0 :: .int 0 :: .ref a14 :: .ref a15 :: .ref a16 :: .null :: .null :: []))), (a0, .inl (cA 1, 8, .inl fun _ => 0)), (a1, .inl (cA 0, 5, .inl fun _ => 0)), (a2, .inl (cA 0, 5, .inl fun _ => 0)), (a3, .inl (cA 0, 5, .inl fun _ => 0)), (a4, .inl (cA 0, 160, .inl fun _ => 0)), (a5, .inl (cA 0, 18, .inl fun _ => 0)), (a6, .inl (cA 0, 18, .inl fun _ => 0)), (a7, .inl (cA 0, 3000, .inl fun _ => 0)), (a8, .inl (cA 0, 200, .inl fun _ => 0)), (a9, .inl (cA 0, 200, .inl fun _ => 0)), (a10, .inl (cA 0, 6, .inl fun _ => 0)), (a11, .inl (cA 0, 5, .inl fun _ => 0)), (a12, .inl (cA 0, 5, .inl fun _ => 0)), (a13, .inl (cA 0, 205, .inl fun _ => 0)), (a14, .inl (cA 1, 8, .inl fun _ => 0)), (a15, .inl (cA 0, 10, .inl fun _ => 0)), (a16, .inl (cA 0, 4, .inl fun _ => 0))]) rfl ?_
  refine C_aload_n hO dX5_init_139 rfl rfl ?_
  refine C_iconst (v := 4) hO dX5_init_140 rfl ?_
  refine C_newI (N := 4) hO dX5_init_141 (by decide) rfl (by decide) (Nat.le_of_ble_eq_true rfl) (Nat.le_of_ble_eq_true rfl) (fun a17 => ?_)
  refine C_putF hO hI (ty := (.array .int)) dX5_init_143 tyX5 0 39 rfl rfl inX5 tyX5_ok nmX5 (by decide) (AW_mem 787 (by decide +kernel) (by decide +kernel)) rfl rfl rfl rfl rfl (by simp) (ws2 := [(h0, .inr (5, (.int 0 :: .ref a0 :: .int 0 :: .ref a1 :: .ref a2 :: .ref a3 :: .int 0 :: .int 0 :: .ref a4 :: .int 0 :: .ref a5 :: .ref a6 :: .ref a7 :: .int 0 :: .int 0 :: .int 0 :: .int 0 :: .int 0 :: .int 0 :: .ref a8 :: .int 0 :: .int 0 :: .int 0 :: .int 0 :: .int 0 :: .ref a9 :: .ref a10 :: .int 0 :: .ref a11 :: .ref a12 :: .int 0 :: .ref a13 :: .int 0 :: .int 0 :: .int 0 :: .int 0 :: .ref a14 :: .ref a15 :: .ref a16 :: .ref a17 :: .null :: []))), (a0, .inl (cA 1, 8, .inl fun _ => 0)), (a1, .inl (cA 0, 5, .inl fun _ => 0)), (a2, .inl (cA 0, 5, .inl fun _ => 0)), (a3, .inl (cA 0, 5, .inl fun _ => 0)), (a4, .inl (cA 0, 160, .inl fun _ => 0)), (a5, .inl (cA 0, 18, .inl fun _ => 0)), (a6, .inl (cA 0, 18, .inl fun _ => 0)), (a7, .inl (cA 0, 3000, .inl fun _ => 0)), (a8, .inl (cA 0, 200, .inl fun _ => 0)), (a9, .inl (cA 0, 200, .inl fun _ => 0)), (a10, .inl (cA 0, 6, .inl fun _ => 0)), (a11, .inl (cA 0, 5, .inl fun _ => 0)), (a12, .inl (cA 0, 5, .inl fun _ => 0)), (a13, .inl (cA 0, 205, .inl fun _ => 0)), (a14, .inl (cA 1, 8, .inl fun _ => 0)), (a15, .inl (cA 0, 10, .inl fun _ => 0)), (a16, .inl (cA 0, 4, .inl fun _ => 0)), (a17, .inl (cA 0, 4, .inl fun _ => 0))]) rfl ?_
  refine C_aload_n hO dX5_init_146 rfl rfl ?_
  refine C_sipush (v := 160) hO dX5_init_147 rfl ?_
  refine C_newI (N := 160) hO dX5_init_150 (by decide) rfl (by decide) (Nat.le_of_ble_eq_true rfl) (Nat.le_of_ble_eq_true rfl) (fun a18 => ?_)
  refine C_putF hO hI (ty := (.array .int)) dX5_init_152 tyX5 0 40 rfl rfl inX5 tyX5_ok nmX5 (by decide) (AW_mem 788 (by decide +kernel) (by decide +kernel)) rfl rfl rfl rfl rfl (by simp) (ws2 := [(h0, .inr (5, (.int 0 :: .ref a0 :: .int 0 :: .ref a1 :: .ref a2 :: .ref a3 :: .int 0 :: .int 0 :: .ref a4 :: .int 0 :: .ref a5 :: .ref a6 :: .ref a7 :: .int 0 :: .int 0 :: .int 0 :: .int 0 :: .int 0 :: .int 0 :: .ref a8 :: .int 0 :: .int 0 :: .int 0 :: .int 0 :: .int 0 :: .ref a9 :: .ref a10 :: .int 0 :: .ref a11 :: .ref a12 :: .int 0 :: .ref a13 :: .int 0 :: .int 0 :: .int 0 :: .int 0 :: .ref a14 :: .ref a15 :: .ref a16 :: .ref a17 :: .ref a18 :: []))), (a0, .inl (cA 1, 8, .inl fun _ => 0)), (a1, .inl (cA 0, 5, .inl fun _ => 0)), (a2, .inl (cA 0, 5, .inl fun _ => 0)), (a3, .inl (cA 0, 5, .inl fun _ => 0)), (a4, .inl (cA 0, 160, .inl fun _ => 0)), (a5, .inl (cA 0, 18, .inl fun _ => 0)), (a6, .inl (cA 0, 18, .inl fun _ => 0)), (a7, .inl (cA 0, 3000, .inl fun _ => 0)), (a8, .inl (cA 0, 200, .inl fun _ => 0)), (a9, .inl (cA 0, 200, .inl fun _ => 0)), (a10, .inl (cA 0, 6, .inl fun _ => 0)), (a11, .inl (cA 0, 5, .inl fun _ => 0)), (a12, .inl (cA 0, 5, .inl fun _ => 0)), (a13, .inl (cA 0, 205, .inl fun _ => 0)), (a14, .inl (cA 1, 8, .inl fun _ => 0)), (a15, .inl (cA 0, 10, .inl fun _ => 0)), (a16, .inl (cA 0, 4, .inl fun _ => 0)), (a17, .inl (cA 0, 4, .inl fun _ => 0)), (a18, .inl (cA 0, 160, .inl fun _ => 0))]) rfl ?_
  have hh0 : h0 < (xs X).heap.size := hlt 0 _ rfl
  refine CC.to (ws2 := cels cA (fun i => [h0, a0, a1, a2, a3, a4, a5, a6, a7, a8, a9, a10, a11, a12, a13, a14, a15, a16, a17, a18].getD i 0) (wMs 0) 0 SM) (fun H hP => hP) (fun hD => hD) ?_
  refine CC.know (fun hD => ?_)
  have hW : WIN (yN l D cA X 8 19 4026 [(h0, .inr (5, (.int 0 :: .null :: .int 0 :: .null :: .null :: .null :: .int 0 :: .int 0 :: .null :: .int 0 :: .null :: .null :: .null :: .int 0 :: .int 0 :: .int 0 :: .int 0 :: .int 0 :: .int 0 :: .null :: .int 0 :: .int 0 :: .int 0 :: .int 0 :: .int 0 :: .null :: .null :: .int 0 :: .null :: .null :: .int 0 :: .null :: .int 0 :: .int 0 :: .int 0 :: .int 0 :: .null :: .null :: .null :: .null :: .null :: [])))] (B5 cA h0)) X (fun i => [h0, a0, a1, a2, a3, a4, a5, a6, a7, a8, a9, a10, a11, a12, a13, a14, a15, a16, a17, a18].getD i 0) SM (fun _ => True) := by
    refine ⟨⟨fun i j hi hj hij => ?_, fun _ _ _ _ _ => trivial, fun _ _ _ _ _ _ => trivial⟩, trivial, fun q h1 h2 h3 => ?_⟩
    · exact hD.1 i j _ _ (gW_get (Γ := mkG (yN l D cA X 8 19 4026 [(h0, .inr (5, (.int 0 :: .null :: .int 0 :: .null :: .null :: .null :: .int 0 :: .int 0 :: .null :: .int 0 :: .null :: .null :: .null :: .int 0 :: .int 0 :: .int 0 :: .int 0 :: .int 0 :: .int 0 :: .null :: .int 0 :: .int 0 :: .int 0 :: .int 0 :: .int 0 :: .null :: .null :: .int 0 :: .null :: .null :: .int 0 :: .null :: .int 0 :: .int 0 :: .int 0 :: .int 0 :: .null :: .null :: .null :: .null :: .null :: [])))] (B5 cA h0)) (fun i => [h0, a0, a1, a2, a3, a4, a5, a6, a7, a8, a9, a10, a11, a12, a13, a14, a15, a16, a17, a18].getD i 0) SM (fun _ => True)) (w := wMs 0) (List.getElem?_eq_getElem hi)) (gW_get (Γ := mkG (yN l D cA X 8 19 4026 [(h0, .inr (5, (.int 0 :: .null :: .int 0 :: .null :: .null :: .null :: .int 0 :: .int 0 :: .null :: .int 0 :: .null :: .null :: .null :: .int 0 :: .int 0 :: .int 0 :: .int 0 :: .int 0 :: .int 0 :: .null :: .int 0 :: .int 0 :: .int 0 :: .int 0 :: .int 0 :: .null :: .null :: .int 0 :: .null :: .null :: .int 0 :: .null :: .int 0 :: .int 0 :: .int 0 :: .int 0 :: .null :: .null :: .null :: .null :: .null :: [])))] (B5 cA h0)) (fun i => [h0, a0, a1, a2, a3, a4, a5, a6, a7, a8, a9, a10, a11, a12, a13, a14, a15, a16, a17, a18].getD i 0) SM (fun _ => True)) (w := wMs 0) (List.getElem?_eq_getElem hj)) hij
    · rcases h3 with ⟨k, e, hk⟩ | h
      · cases k with
        | zero =>
          have := Option.some.inj hk
          exact h2 ⟨0, Nat.le_of_ble_eq_true rfl, (congrArg Prod.fst this).symm⟩
        | succ k => cases hk
      · omega
  exact ctorMB (ad := fun i => [h0, a0, a1, a2, a3, a4, a5, a6, a7, a8, a9, a10, a11, a12, a13, a14, a15, a16, a17, a18].getD i 0) hO hr hW ⟨_, rfl, rfl⟩
theorem newM : FM wNewM := by
  refine ⟨rfl, fun j hj => ?_, rfl, rfl, rfl, rfl, rfl, fun j hj => ?_⟩
  · rcases (show j = 0 ∨ j = 1 ∨ j = 2 ∨ j = 3 ∨ j = 4 ∨ j = 5 ∨ j = 6 ∨ j = 7 by omega) with rfl | rfl | rfl | rfl | rfl | rfl | rfl | rfl <;> rfl
  · rcases (show j = 0 ∨ j = 1 ∨ j = 2 ∨ j = 3 by omega) with rfl | rfl | rfl | rfl <;> rfl
