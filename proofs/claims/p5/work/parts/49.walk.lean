/-! the law's walk (written by program) -/
theorem lwc_0 {l : Launch} {D : va_G} {cA : Nat → ClassId} {p : Program} {e : Env} {s : State} {m : MethodId} {b : Nat} {below : List Frame} {meth : Method} {c : Code} {ad am : Nat → Nat} {L i : Nat} {sc : Nat → Int32} {i3 : Int32} {wc wm : Wd} {kc ks : Nat} (hO : OKC (YL l D cA below b s) (p, e, s, m, #[Value.ref b], below, meth, c) RL code 4) (hWc : WIN (YL l D cA below b s) (p, e, s, m, #[Value.ref b], below, meth, c) ad SC (EXG ad)) (hWm : WIN (YL l D cA below b s) (p, e, s, m, #[Value.ref b], below, meth, c) am SM (fun _ => True)) (hX : va_X b L sc s s.heap) (hbl : b < s.heap.size) (hi : i3.toInt = i) (h6 : i + 6 ≤ L) (hL2 : L < 2147483647) (hkc : kc ≤ 600000) (hks : ks ≤ 7302250) (hGc : GC (mkG (YL l D cA below b s) ad SC (EXG ad))) (hGm : GM (mkG (YL l D cA below b s) am SM (fun _ => True))) {κ0 : Ky} (hby : byOK κ0) (iC : IC κ0 wc) (iM : IM κ0 wm) (next : ∀ (κ : Ky) (wc2 wm2 : Wd), byOK κ → IC κ wc2 → IM κ wm2 → CC (YL l D cA below b s) (p, e, s, m, #[Value.ref b], below, meth, c) 4 1057 [some (.ref b), some (.ref (ad 0)), some (.ref (am 0)), some (.int i3)] [] (gW (mkG (YL l D cA below b s) ad SC (EXG ad)) wc2 ++ gW (mkG (YL l D cA below b s) am SM (fun _ => True)) wm2) kc ks) : CC (YL l D cA below b s) (p, e, s, m, #[Value.ref b], below, meth, c) 4 156 [some (.ref b), some (.ref (ad 0)), some (.ref (am 0)), some (.int i3)] [] (gW (mkG (YL l D cA below b s) ad SC (EXG ad)) wc ++ gW (mkG (YL l D cA below b s) am SM (fun _ => True)) wm) kc ks := by
  have hnb : ¬ yF (YL l D cA below b s) b := Nat.not_le.mpr hbl
  refine C_aload_n hO dL_law_156 rfl rfl ?_
  refine C_aload_n hO dL_law_157 rfl rfl ?_
  refine C_iload_n hO dL_law_158 rfl rfl ?_
  refine C_iconst (v := 1) hO dL_law_159 rfl ?_
  refine C_iadd hO dL_law_160 ?_
  refine C_sld hO hX hbl hnb (lw_in hi h6 hL2 1 (by decide) (by decide)) dL_law_161 ?_
  refine C_aload_n hO dL_law_162 rfl rfl ?_
  refine C_iload_n hO dL_law_163 rfl rfl ?_
  refine C_iconst (v := 2) hO dL_law_164 rfl ?_
  refine C_iadd hO dL_law_165 ?_
  refine C_sld hO hX hbl hnb (lw_in hi h6 hL2 2 (by decide) (by decide)) dL_law_166 ?_
  refine C_aload_n hO dL_law_167 rfl rfl ?_
  refine C_iload_n hO dL_law_168 rfl rfl ?_
  refine C_iconst (v := 3) hO dL_law_169 rfl ?_
  refine C_iadd hO dL_law_170 ?_
  refine C_sld hO hX hbl hnb (lw_in hi h6 hL2 3 (by decide) (by decide)) dL_law_171 ?_
  refine C_conL (As := [.int (sc (i3 + 1).toNatClampNeg), .int (sc (i3 + 2).toNatClampNeg), .int (sc (i3 + 3).toNatClampNeg)]) (rest := []) hO hWc dL_law_172 (ic_X4_set (Γ := (mkG (YL l D cA below b s) ad SC (EXG ad))) (d := 60) (by decide) hGc iC (Q := fun (r : Int32) u => IC κ0 u) (fun _ _ h => h)) cl_L_13 (i := 0) rfl rfl rfl (by exact Nat.le_of_ble_eq_true rfl) (by exact Nat.le_of_ble_eq_true rfl) (by exact Nat.le_of_ble_eq_true rfl) hkc hks (fun r w0c hq => ?_) rfl
  obtain ⟨vc, rfl, hvvc⟩ := hq
  refine CC.stk (st2 := [.int vc]) rfl ?_
  refine C_pop hO dL_law_175 rfl ?_
  refine C_aload_n hO dL_law_176 rfl rfl ?_
  refine C_aload_n hO dL_law_177 rfl rfl ?_
  refine C_iload_n hO dL_law_178 rfl rfl ?_
  refine C_iconst (v := 1) hO dL_law_179 rfl ?_
  refine C_iadd hO dL_law_180 ?_
  refine C_sld hO hX hbl hnb (lw_in hi h6 hL2 1 (by decide) (by decide)) dL_law_181 ?_
  refine C_aload_n hO dL_law_182 rfl rfl ?_
  refine C_iload_n hO dL_law_183 rfl rfl ?_
  refine C_iconst (v := 2) hO dL_law_184 rfl ?_
  refine C_iadd hO dL_law_185 ?_
  refine C_sld hO hX hbl hnb (lw_in hi h6 hL2 2 (by decide) (by decide)) dL_law_186 ?_
  refine C_aload_n hO dL_law_187 rfl rfl ?_
  refine C_iload_n hO dL_law_188 rfl rfl ?_
  refine C_iconst (v := 3) hO dL_law_189 rfl ?_
  refine C_iadd hO dL_law_190 ?_
  refine C_sld hO hX hbl hnb (lw_in hi h6 hL2 3 (by decide) (by decide)) dL_law_191 ?_
  refine C_conR (As := [.int (sc (i3 + 1).toNatClampNeg), .int (sc (i3 + 2).toNatClampNeg), .int (sc (i3 + 3).toNatClampNeg)]) (rest := []) hO hWm dL_law_192 (jk_X5_set (Γ := (mkG (YL l D cA below b s) am SM (fun _ => True))) (d := 12) (by decide) hGm iM (Q := fun (r : Int32) u => IM κ0 u) (fun _ _ h => h)) cl_L_17 (i := 0) rfl rfl rfl (by exact Nat.le_of_ble_eq_true rfl) (by exact Nat.le_of_ble_eq_true rfl) (by exact Nat.le_of_ble_eq_true rfl) hkc hks (fun r w0m hq => ?_) rfl
  obtain ⟨vm, rfl, hvvm⟩ := hq
  refine CC.stk (st2 := [.int vm]) rfl ?_
  refine C_pop hO dL_law_195 rfl ?_
  refine C_goto (tgt := 1057) hO dL_law_196 (by decide) ?_
  exact next κ0 _ _ hby hvvc hvvm
theorem lwc_1 {l : Launch} {D : va_G} {cA : Nat → ClassId} {p : Program} {e : Env} {s : State} {m : MethodId} {b : Nat} {below : List Frame} {meth : Method} {c : Code} {ad am : Nat → Nat} {L i : Nat} {sc : Nat → Int32} {i3 : Int32} {wc wm : Wd} {kc ks : Nat} (hO : OKC (YL l D cA below b s) (p, e, s, m, #[Value.ref b], below, meth, c) RL code 4) (hWc : WIN (YL l D cA below b s) (p, e, s, m, #[Value.ref b], below, meth, c) ad SC (EXG ad)) (hWm : WIN (YL l D cA below b s) (p, e, s, m, #[Value.ref b], below, meth, c) am SM (fun _ => True)) (hX : va_X b L sc s s.heap) (hbl : b < s.heap.size) (hi : i3.toInt = i) (h6 : i + 6 ≤ L) (hL2 : L < 2147483647) (hkc : kc ≤ 600000) (hks : ks ≤ 7302250) (hGc : GC (mkG (YL l D cA below b s) ad SC (EXG ad))) (hGm : GM (mkG (YL l D cA below b s) am SM (fun _ => True))) {κ0 : Ky} (hby : byOK κ0) (iC : IC κ0 wc) (iM : IM κ0 wm) (next : ∀ (κ : Ky) (wc2 wm2 : Wd), byOK κ → IC κ wc2 → IM κ wm2 → CC (YL l D cA below b s) (p, e, s, m, #[Value.ref b], below, meth, c) 4 1057 [some (.ref b), some (.ref (ad 0)), some (.ref (am 0)), some (.int i3)] [] (gW (mkG (YL l D cA below b s) ad SC (EXG ad)) wc2 ++ gW (mkG (YL l D cA below b s) am SM (fun _ => True)) wm2) kc ks) : CC (YL l D cA below b s) (p, e, s, m, #[Value.ref b], below, meth, c) 4 199 [some (.ref b), some (.ref (ad 0)), some (.ref (am 0)), some (.int i3)] [] (gW (mkG (YL l D cA below b s) ad SC (EXG ad)) wc ++ gW (mkG (YL l D cA below b s) am SM (fun _ => True)) wm) kc ks := by
  have hnb : ¬ yF (YL l D cA below b s) b := Nat.not_le.mpr hbl
  refine C_aload_n hO dL_law_199 rfl rfl ?_
  refine C_aload_n hO dL_law_200 rfl rfl ?_
  refine C_iload_n hO dL_law_201 rfl rfl ?_
  refine C_iconst (v := 1) hO dL_law_202 rfl ?_
  refine C_iadd hO dL_law_203 ?_
  refine C_sld hO hX hbl hnb (lw_in hi h6 hL2 1 (by decide) (by decide)) dL_law_204 ?_
  refine C_aload_n hO dL_law_205 rfl rfl ?_
  refine C_iload_n hO dL_law_206 rfl rfl ?_
  refine C_iconst (v := 2) hO dL_law_207 rfl ?_
  refine C_iadd hO dL_law_208 ?_
  refine C_sld hO hX hbl hnb (lw_in hi h6 hL2 2 (by decide) (by decide)) dL_law_209 ?_
  refine C_conL (As := [.int (sc (i3 + 1).toNatClampNeg), .int (sc (i3 + 2).toNatClampNeg)]) (rest := []) hO hWc dL_law_210 (ic_X4_person (Γ := (mkG (YL l D cA below b s) ad SC (EXG ad))) (d := 60) (by decide) hGc iC (Q := fun (r : Int32) u => IC κ0 u) (fun _ _ h => h)) cl_L_18 (i := 0) rfl rfl rfl (by exact Nat.le_of_ble_eq_true rfl) (by exact Nat.le_of_ble_eq_true rfl) (by exact Nat.le_of_ble_eq_true rfl) hkc hks (fun r w1c hq => ?_) rfl
  obtain ⟨vc, rfl, hvvc⟩ := hq
  refine CC.stk (st2 := [.int vc]) rfl ?_
  refine C_pop hO dL_law_213 rfl ?_
  refine C_aload_n hO dL_law_214 rfl rfl ?_
  refine C_aload_n hO dL_law_215 rfl rfl ?_
  refine C_iload_n hO dL_law_216 rfl rfl ?_
  refine C_iconst (v := 1) hO dL_law_217 rfl ?_
  refine C_iadd hO dL_law_218 ?_
  refine C_sld hO hX hbl hnb (lw_in hi h6 hL2 1 (by decide) (by decide)) dL_law_219 ?_
  refine C_aload_n hO dL_law_220 rfl rfl ?_
  refine C_iload_n hO dL_law_221 rfl rfl ?_
  refine C_iconst (v := 2) hO dL_law_222 rfl ?_
  refine C_iadd hO dL_law_223 ?_
  refine C_sld hO hX hbl hnb (lw_in hi h6 hL2 2 (by decide) (by decide)) dL_law_224 ?_
  refine C_conR (As := [.int (sc (i3 + 1).toNatClampNeg), .int (sc (i3 + 2).toNatClampNeg)]) (rest := []) hO hWm dL_law_225 (jk_X5_person (Γ := (mkG (YL l D cA below b s) am SM (fun _ => True))) (d := 12) (by decide) hGm iM (Q := fun (r : Int32) u => IM κ0 u) (fun _ _ h => h)) cl_L_22 (i := 0) rfl rfl rfl (by exact Nat.le_of_ble_eq_true rfl) (by exact Nat.le_of_ble_eq_true rfl) (by exact Nat.le_of_ble_eq_true rfl) hkc hks (fun r w1m hq => ?_) rfl
  obtain ⟨vm, rfl, hvvm⟩ := hq
  refine CC.stk (st2 := [.int vm]) rfl ?_
  refine C_pop hO dL_law_228 rfl ?_
  refine C_goto (tgt := 1057) hO dL_law_229 (by decide) ?_
  exact next κ0 _ _ hby hvvc hvvm
theorem lwc_2 {l : Launch} {D : va_G} {cA : Nat → ClassId} {p : Program} {e : Env} {s : State} {m : MethodId} {b : Nat} {below : List Frame} {meth : Method} {c : Code} {ad am : Nat → Nat} {L i : Nat} {sc : Nat → Int32} {i3 : Int32} {wc wm : Wd} {kc ks : Nat} (hO : OKC (YL l D cA below b s) (p, e, s, m, #[Value.ref b], below, meth, c) RL code 4) (hWc : WIN (YL l D cA below b s) (p, e, s, m, #[Value.ref b], below, meth, c) ad SC (EXG ad)) (hWm : WIN (YL l D cA below b s) (p, e, s, m, #[Value.ref b], below, meth, c) am SM (fun _ => True)) (hX : va_X b L sc s s.heap) (hbl : b < s.heap.size) (hi : i3.toInt = i) (h6 : i + 6 ≤ L) (hL2 : L < 2147483647) (hkc : kc ≤ 600000) (hks : ks ≤ 7302250) (hGc : GC (mkG (YL l D cA below b s) ad SC (EXG ad))) (hGm : GM (mkG (YL l D cA below b s) am SM (fun _ => True))) {κ0 : Ky} (hby : byOK κ0) (iC : IC κ0 wc) (iM : IM κ0 wm) (next : ∀ (κ : Ky) (wc2 wm2 : Wd), byOK κ → IC κ wc2 → IM κ wm2 → CC (YL l D cA below b s) (p, e, s, m, #[Value.ref b], below, meth, c) 4 1057 [some (.ref b), some (.ref (ad 0)), some (.ref (am 0)), some (.int i3)] [] (gW (mkG (YL l D cA below b s) ad SC (EXG ad)) wc2 ++ gW (mkG (YL l D cA below b s) am SM (fun _ => True)) wm2) kc ks) : CC (YL l D cA below b s) (p, e, s, m, #[Value.ref b], below, meth, c) 4 232 [some (.ref b), some (.ref (ad 0)), some (.ref (am 0)), some (.int i3)] [] (gW (mkG (YL l D cA below b s) ad SC (EXG ad)) wc ++ gW (mkG (YL l D cA below b s) am SM (fun _ => True)) wm) kc ks := by
  have hnb : ¬ yF (YL l D cA below b s) b := Nat.not_le.mpr hbl
  refine C_aload_n hO dL_law_232 rfl rfl ?_
  refine C_aload_n hO dL_law_233 rfl rfl ?_
  refine C_iload_n hO dL_law_234 rfl rfl ?_
  refine C_iconst (v := 1) hO dL_law_235 rfl ?_
  refine C_iadd hO dL_law_236 ?_
  refine C_sld hO hX hbl hnb (lw_in hi h6 hL2 1 (by decide) (by decide)) dL_law_237 ?_
  refine C_aload_n hO dL_law_238 rfl rfl ?_
  refine C_iload_n hO dL_law_239 rfl rfl ?_
  refine C_iconst (v := 2) hO dL_law_240 rfl ?_
  refine C_iadd hO dL_law_241 ?_
  refine C_sld hO hX hbl hnb (lw_in hi h6 hL2 2 (by decide) (by decide)) dL_law_242 ?_
  refine C_conL (As := [.int (sc (i3 + 1).toNatClampNeg), .int (sc (i3 + 2).toNatClampNeg)]) (rest := []) hO hWc dL_law_243 (ic_X4_told (Γ := (mkG (YL l D cA below b s) ad SC (EXG ad))) (d := 60) (by decide) hGc iC (Q := fun (r : Int32) u => IC κ0 u) (fun _ _ h => h)) cl_L_23 (i := 0) rfl rfl rfl (by exact Nat.le_of_ble_eq_true rfl) (by exact Nat.le_of_ble_eq_true rfl) (by exact Nat.le_of_ble_eq_true rfl) hkc hks (fun r w2c hq => ?_) rfl
  obtain ⟨vc, rfl, hvvc⟩ := hq
  refine CC.stk (st2 := [.int vc]) rfl ?_
  refine C_pop hO dL_law_246 rfl ?_
  refine C_aload_n hO dL_law_247 rfl rfl ?_
  refine C_aload_n hO dL_law_248 rfl rfl ?_
  refine C_iload_n hO dL_law_249 rfl rfl ?_
  refine C_iconst (v := 1) hO dL_law_250 rfl ?_
  refine C_iadd hO dL_law_251 ?_
  refine C_sld hO hX hbl hnb (lw_in hi h6 hL2 1 (by decide) (by decide)) dL_law_252 ?_
  refine C_aload_n hO dL_law_253 rfl rfl ?_
  refine C_iload_n hO dL_law_254 rfl rfl ?_
  refine C_iconst (v := 2) hO dL_law_255 rfl ?_
  refine C_iadd hO dL_law_256 ?_
  refine C_sld hO hX hbl hnb (lw_in hi h6 hL2 2 (by decide) (by decide)) dL_law_257 ?_
  refine C_conR (As := [.int (sc (i3 + 1).toNatClampNeg), .int (sc (i3 + 2).toNatClampNeg)]) (rest := []) hO hWm dL_law_258 (im_X5_told (Γ := (mkG (YL l D cA below b s) am SM (fun _ => True))) (d := 12) (by decide) hGm iM (Q := fun (r : Int32) u => IM κ0 u) (fun _ _ h => h)) cl_L_26 (i := 0) rfl rfl rfl (by exact Nat.le_of_ble_eq_true rfl) (by exact Nat.le_of_ble_eq_true rfl) (by exact Nat.le_of_ble_eq_true rfl) hkc hks (fun r w2m hq => ?_) rfl
  obtain ⟨vm, rfl, hvvm⟩ := hq
  refine CC.stk (st2 := [.int vm]) rfl ?_
  refine C_pop hO dL_law_261 rfl ?_
  refine C_goto (tgt := 1057) hO dL_law_262 (by decide) ?_
  exact next κ0 _ _ hby hvvc hvvm
theorem lwc_3 {l : Launch} {D : va_G} {cA : Nat → ClassId} {p : Program} {e : Env} {s : State} {m : MethodId} {b : Nat} {below : List Frame} {meth : Method} {c : Code} {ad am : Nat → Nat} {L i : Nat} {sc : Nat → Int32} {i3 : Int32} {wc wm : Wd} {kc ks : Nat} (hO : OKC (YL l D cA below b s) (p, e, s, m, #[Value.ref b], below, meth, c) RL code 4) (hWc : WIN (YL l D cA below b s) (p, e, s, m, #[Value.ref b], below, meth, c) ad SC (EXG ad)) (hWm : WIN (YL l D cA below b s) (p, e, s, m, #[Value.ref b], below, meth, c) am SM (fun _ => True)) (hX : va_X b L sc s s.heap) (hbl : b < s.heap.size) (hi : i3.toInt = i) (h6 : i + 6 ≤ L) (hL2 : L < 2147483647) (hkc : kc ≤ 600000) (hks : ks ≤ 7302250) (hGc : GC (mkG (YL l D cA below b s) ad SC (EXG ad))) (hGm : GM (mkG (YL l D cA below b s) am SM (fun _ => True))) {κ0 : Ky} (hby : byOK κ0) (iC : IC κ0 wc) (iM : IM κ0 wm) (next : ∀ (κ : Ky) (wc2 wm2 : Wd), byOK κ → IC κ wc2 → IM κ wm2 → CC (YL l D cA below b s) (p, e, s, m, #[Value.ref b], below, meth, c) 4 1057 [some (.ref b), some (.ref (ad 0)), some (.ref (am 0)), some (.int i3)] [] (gW (mkG (YL l D cA below b s) ad SC (EXG ad)) wc2 ++ gW (mkG (YL l D cA below b s) am SM (fun _ => True)) wm2) kc ks) : CC (YL l D cA below b s) (p, e, s, m, #[Value.ref b], below, meth, c) 4 265 [some (.ref b), some (.ref (ad 0)), some (.ref (am 0)), some (.int i3)] [] (gW (mkG (YL l D cA below b s) ad SC (EXG ad)) wc ++ gW (mkG (YL l D cA below b s) am SM (fun _ => True)) wm) kc ks := by
  have hnb : ¬ yF (YL l D cA below b s) b := Nat.not_le.mpr hbl
  refine C_aload_n hO dL_law_265 rfl rfl ?_
  refine C_aload_n hO dL_law_266 rfl rfl ?_
  refine C_iload_n hO dL_law_267 rfl rfl ?_
  refine C_iconst (v := 1) hO dL_law_268 rfl ?_
  refine C_iadd hO dL_law_269 ?_
  refine C_sld hO hX hbl hnb (lw_in hi h6 hL2 1 (by decide) (by decide)) dL_law_270 ?_
  refine C_conL (As := [.int (sc (i3 + 1).toNatClampNeg)]) (rest := []) hO hWc dL_law_271 (ik_X4_feed (Γ := (mkG (YL l D cA below b s) ad SC (EXG ad))) (d := 60) (by decide) hGc iC (Q := fun (r : Int32) u => r = feedA κ0 (sc (i3 + 1).toNatClampNeg) ∧ IC (feedK κ0 (sc (i3 + 1).toNatClampNeg)) u) (fun _ _ e h => ⟨e, h⟩)) cl_L_27 (i := 0) rfl rfl rfl (by exact Nat.le_of_ble_eq_true rfl) (by exact Nat.le_of_ble_eq_true rfl) (by exact Nat.le_of_ble_eq_true rfl) hkc hks (fun r w3c hq => ?_) rfl
  obtain ⟨vc, rfl, hvvc⟩ := hq
  obtain ⟨evc, hvvc⟩ := hvvc
  obtain rfl : vc = feedA κ0 (sc (i3 + 1).toNatClampNeg) := evc
  refine CC.stk (st2 := [.int (feedA κ0 (sc (i3 + 1).toNatClampNeg))]) rfl ?_
  refine C_aload_n hO dL_law_274 rfl rfl ?_
  refine C_aload_n hO dL_law_275 rfl rfl ?_
  refine C_iload_n hO dL_law_276 rfl rfl ?_
  refine C_iconst (v := 1) hO dL_law_277 rfl ?_
  refine C_iadd hO dL_law_278 ?_
  refine C_sld hO hX hbl hnb (lw_in hi h6 hL2 1 (by decide) (by decide)) dL_law_279 ?_
  refine C_conR (As := [.int (sc (i3 + 1).toNatClampNeg)]) (rest := [.int (feedA κ0 (sc (i3 + 1).toNatClampNeg))]) hO hWm dL_law_280 (jx_X5_feed (Γ := (mkG (YL l D cA below b s) am SM (fun _ => True))) (d := 12) (by decide) hGm iM (Q := fun (r : Int32) u => r = feedA κ0 (sc (i3 + 1).toNatClampNeg) ∧ IM (feedK κ0 (sc (i3 + 1).toNatClampNeg)) u) (fun _ _ e h => ⟨e, h⟩)) cl_L_31 (i := 0) rfl rfl rfl (by exact Nat.le_of_ble_eq_true rfl) (by exact Nat.le_of_ble_eq_true rfl) (by exact Nat.le_of_ble_eq_true rfl) hkc hks (fun r w3m hq => ?_) rfl
  obtain ⟨vm, rfl, hvvm⟩ := hq
  obtain ⟨evm, hvvm⟩ := hvvm
  obtain rfl : vm = feedA κ0 (sc (i3 + 1).toNatClampNeg) := evm
  refine CC.stk (st2 := [.int (feedA κ0 (sc (i3 + 1).toNatClampNeg)), .int (feedA κ0 (sc (i3 + 1).toNatClampNeg))]) rfl ?_
  refine C_icmp_eq (tgt := 1057) hO dL_law_283 (by decide) (fun _ => ?_) (fun h => absurd rfl h)
  exact next (feedK κ0 (sc (i3 + 1).toNatClampNeg)) _ _ (hby.feed (sc (i3 + 1).toNatClampNeg)) hvvc hvvm
theorem lwc_4 {l : Launch} {D : va_G} {cA : Nat → ClassId} {p : Program} {e : Env} {s : State} {m : MethodId} {b : Nat} {below : List Frame} {meth : Method} {c : Code} {ad am : Nat → Nat} {L i : Nat} {sc : Nat → Int32} {i3 : Int32} {wc wm : Wd} {kc ks : Nat} (hO : OKC (YL l D cA below b s) (p, e, s, m, #[Value.ref b], below, meth, c) RL code 4) (hWc : WIN (YL l D cA below b s) (p, e, s, m, #[Value.ref b], below, meth, c) ad SC (EXG ad)) (hWm : WIN (YL l D cA below b s) (p, e, s, m, #[Value.ref b], below, meth, c) am SM (fun _ => True)) (hX : va_X b L sc s s.heap) (hbl : b < s.heap.size) (hi : i3.toInt = i) (h6 : i + 6 ≤ L) (hL2 : L < 2147483647) (hkc : kc ≤ 600000) (hks : ks ≤ 7302250) (hGc : GC (mkG (YL l D cA below b s) ad SC (EXG ad))) (hGm : GM (mkG (YL l D cA below b s) am SM (fun _ => True))) {κ0 : Ky} (hby : byOK κ0) (iC : IC κ0 wc) (iM : IM κ0 wm) (next : ∀ (κ : Ky) (wc2 wm2 : Wd), byOK κ → IC κ wc2 → IM κ wm2 → CC (YL l D cA below b s) (p, e, s, m, #[Value.ref b], below, meth, c) 4 1057 [some (.ref b), some (.ref (ad 0)), some (.ref (am 0)), some (.int i3)] [] (gW (mkG (YL l D cA below b s) ad SC (EXG ad)) wc2 ++ gW (mkG (YL l D cA below b s) am SM (fun _ => True)) wm2) kc ks) : CC (YL l D cA below b s) (p, e, s, m, #[Value.ref b], below, meth, c) 4 288 [some (.ref b), some (.ref (ad 0)), some (.ref (am 0)), some (.int i3)] [] (gW (mkG (YL l D cA below b s) ad SC (EXG ad)) wc ++ gW (mkG (YL l D cA below b s) am SM (fun _ => True)) wm) kc ks := by
  have hnb : ¬ yF (YL l D cA below b s) b := Nat.not_le.mpr hbl
  refine C_aload_n hO dL_law_288 rfl rfl ?_
  refine C_conL (As := []) (rest := []) hO hWc dL_law_289 (ik_X4_text (Γ := (mkG (YL l D cA below b s) ad SC (EXG ad))) (d := 60) (by decide) hGc hby iC (Q := fun (r : Int32) u => ∃ κ2 : Ky, TxR κ0 r κ2 ∧ IC κ2 u) (fun _ _ κ2 a b => ⟨κ2, a, b⟩)) cl_L_32 (i := 0) rfl rfl rfl (by exact Nat.le_of_ble_eq_true rfl) (by exact Nat.le_of_ble_eq_true rfl) (by exact Nat.le_of_ble_eq_true rfl) hkc hks (fun r w4c hq => ?_) rfl
  obtain ⟨vc, rfl, hvvc⟩ := hq
  obtain ⟨κ2, hT, hvvc⟩ := hvvc
  refine CC.stk (st2 := [.int vc]) rfl ?_
  refine C_pop hO dL_law_292 rfl ?_
  refine C_aload_n hO dL_law_293 rfl rfl ?_
  refine C_conR (As := []) (rest := []) hO hWm dL_law_294 (jx_X5_text (Γ := (mkG (YL l D cA below b s) am SM (fun _ => True))) (d := 12) (by decide) hGm iM hT (Q := fun (r : Int32) u => r = vc ∧ IM κ2 u) (fun _ _ e h => ⟨e, h⟩)) cl_L_36 (i := 0) rfl rfl rfl (by exact Nat.le_of_ble_eq_true rfl) (by exact Nat.le_of_ble_eq_true rfl) (by exact Nat.le_of_ble_eq_true rfl) hkc hks (fun r w4m hq => ?_) rfl
  obtain ⟨vm, rfl, hvvm⟩ := hq
  obtain ⟨evm, hvvm⟩ := hvvm
  obtain rfl : vm = vc := evm
  refine CC.stk (st2 := [.int vm]) rfl ?_
  refine C_pop hO dL_law_297 rfl ?_
  refine C_goto (tgt := 1057) hO dL_law_298 (by decide) ?_
  exact next κ2 _ _ (hby.text hT) hvvc hvvm
theorem lwc_5 {l : Launch} {D : va_G} {cA : Nat → ClassId} {p : Program} {e : Env} {s : State} {m : MethodId} {b : Nat} {below : List Frame} {meth : Method} {c : Code} {ad am : Nat → Nat} {L i : Nat} {sc : Nat → Int32} {i3 : Int32} {wc wm : Wd} {kc ks : Nat} (hO : OKC (YL l D cA below b s) (p, e, s, m, #[Value.ref b], below, meth, c) RL code 4) (hWc : WIN (YL l D cA below b s) (p, e, s, m, #[Value.ref b], below, meth, c) ad SC (EXG ad)) (hWm : WIN (YL l D cA below b s) (p, e, s, m, #[Value.ref b], below, meth, c) am SM (fun _ => True)) (hX : va_X b L sc s s.heap) (hbl : b < s.heap.size) (hi : i3.toInt = i) (h6 : i + 6 ≤ L) (hL2 : L < 2147483647) (hkc : kc ≤ 600000) (hks : ks ≤ 7302250) (hGc : GC (mkG (YL l D cA below b s) ad SC (EXG ad))) (hGm : GM (mkG (YL l D cA below b s) am SM (fun _ => True))) {κ0 : Ky} (hby : byOK κ0) (iC : IC κ0 wc) (iM : IM κ0 wm) (next : ∀ (κ : Ky) (wc2 wm2 : Wd), byOK κ → IC κ wc2 → IM κ wm2 → CC (YL l D cA below b s) (p, e, s, m, #[Value.ref b], below, meth, c) 4 1057 [some (.ref b), some (.ref (ad 0)), some (.ref (am 0)), some (.int i3)] [] (gW (mkG (YL l D cA below b s) ad SC (EXG ad)) wc2 ++ gW (mkG (YL l D cA below b s) am SM (fun _ => True)) wm2) kc ks) : CC (YL l D cA below b s) (p, e, s, m, #[Value.ref b], below, meth, c) 4 301 [some (.ref b), some (.ref (ad 0)), some (.ref (am 0)), some (.int i3)] [] (gW (mkG (YL l D cA below b s) ad SC (EXG ad)) wc ++ gW (mkG (YL l D cA below b s) am SM (fun _ => True)) wm) kc ks := by
  have hnb : ¬ yF (YL l D cA below b s) b := Nat.not_le.mpr hbl
  refine C_aload_n hO dL_law_301 rfl rfl ?_
  refine C_aload_n hO dL_law_302 rfl rfl ?_
  refine C_iload_n hO dL_law_303 rfl rfl ?_
  refine C_iconst (v := 1) hO dL_law_304 rfl ?_
  refine C_iadd hO dL_law_305 ?_
  refine C_sld hO hX hbl hnb (lw_in hi h6 hL2 1 (by decide) (by decide)) dL_law_306 ?_
  refine C_conL (As := [.int (sc (i3 + 1).toNatClampNeg)]) (rest := []) hO hWc dL_law_307 (ik_X4_force (Γ := (mkG (YL l D cA below b s) ad SC (EXG ad))) (d := 60) (by decide) hGc iC (Q := fun (r : Int32) u => r = forceA κ0 (sc (i3 + 1).toNatClampNeg) ∧ IC (forceK κ0 (sc (i3 + 1).toNatClampNeg)) u) (fun _ _ e h => ⟨e, h⟩)) cl_L_37 (i := 0) rfl rfl rfl (by exact Nat.le_of_ble_eq_true rfl) (by exact Nat.le_of_ble_eq_true rfl) (by exact Nat.le_of_ble_eq_true rfl) hkc hks (fun r w5c hq => ?_) rfl
  obtain ⟨vc, rfl, hvvc⟩ := hq
  obtain ⟨evc, hvvc⟩ := hvvc
  obtain rfl : vc = forceA κ0 (sc (i3 + 1).toNatClampNeg) := evc
  refine CC.stk (st2 := [.int (forceA κ0 (sc (i3 + 1).toNatClampNeg))]) rfl ?_
  refine C_pop hO dL_law_310 rfl ?_
  refine C_aload_n hO dL_law_311 rfl rfl ?_
  refine C_aload_n hO dL_law_312 rfl rfl ?_
  refine C_iload_n hO dL_law_313 rfl rfl ?_
  refine C_iconst (v := 1) hO dL_law_314 rfl ?_
  refine C_iadd hO dL_law_315 ?_
  refine C_sld hO hX hbl hnb (lw_in hi h6 hL2 1 (by decide) (by decide)) dL_law_316 ?_
  refine C_conR (As := [.int (sc (i3 + 1).toNatClampNeg)]) (rest := []) hO hWm dL_law_317 (jx_X5_force (Γ := (mkG (YL l D cA below b s) am SM (fun _ => True))) (d := 12) (by decide) hGm iM (Q := fun (r : Int32) u => r = forceA κ0 (sc (i3 + 1).toNatClampNeg) ∧ IM (forceK κ0 (sc (i3 + 1).toNatClampNeg)) u) (fun _ _ e h => ⟨e, h⟩)) cl_L_40 (i := 0) rfl rfl rfl (by exact Nat.le_of_ble_eq_true rfl) (by exact Nat.le_of_ble_eq_true rfl) (by exact Nat.le_of_ble_eq_true rfl) hkc hks (fun r w5m hq => ?_) rfl
  obtain ⟨vm, rfl, hvvm⟩ := hq
  obtain ⟨evm, hvvm⟩ := hvvm
  obtain rfl : vm = forceA κ0 (sc (i3 + 1).toNatClampNeg) := evm
  refine CC.stk (st2 := [.int (forceA κ0 (sc (i3 + 1).toNatClampNeg))]) rfl ?_
  refine C_pop hO dL_law_320 rfl ?_
  refine C_goto (tgt := 1057) hO dL_law_321 (by decide) ?_
  exact next (forceK κ0 (sc (i3 + 1).toNatClampNeg)) _ _ (hby.force (sc (i3 + 1).toNatClampNeg)) hvvc hvvm
theorem lwc_6 {l : Launch} {D : va_G} {cA : Nat → ClassId} {p : Program} {e : Env} {s : State} {m : MethodId} {b : Nat} {below : List Frame} {meth : Method} {c : Code} {ad am : Nat → Nat} {L i : Nat} {sc : Nat → Int32} {i3 : Int32} {wc wm : Wd} {kc ks : Nat} (hO : OKC (YL l D cA below b s) (p, e, s, m, #[Value.ref b], below, meth, c) RL code 4) (hWc : WIN (YL l D cA below b s) (p, e, s, m, #[Value.ref b], below, meth, c) ad SC (EXG ad)) (hWm : WIN (YL l D cA below b s) (p, e, s, m, #[Value.ref b], below, meth, c) am SM (fun _ => True)) (hX : va_X b L sc s s.heap) (hbl : b < s.heap.size) (hi : i3.toInt = i) (h6 : i + 6 ≤ L) (hL2 : L < 2147483647) (hkc : kc ≤ 600000) (hks : ks ≤ 7302250) (hGc : GC (mkG (YL l D cA below b s) ad SC (EXG ad))) (hGm : GM (mkG (YL l D cA below b s) am SM (fun _ => True))) {κ0 : Ky} (hby : byOK κ0) (iC : IC κ0 wc) (iM : IM κ0 wm) (next : ∀ (κ : Ky) (wc2 wm2 : Wd), byOK κ → IC κ wc2 → IM κ wm2 → CC (YL l D cA below b s) (p, e, s, m, #[Value.ref b], below, meth, c) 4 1057 [some (.ref b), some (.ref (ad 0)), some (.ref (am 0)), some (.int i3)] [] (gW (mkG (YL l D cA below b s) ad SC (EXG ad)) wc2 ++ gW (mkG (YL l D cA below b s) am SM (fun _ => True)) wm2) kc ks) : CC (YL l D cA below b s) (p, e, s, m, #[Value.ref b], below, meth, c) 4 324 [some (.ref b), some (.ref (ad 0)), some (.ref (am 0)), some (.int i3)] [] (gW (mkG (YL l D cA below b s) ad SC (EXG ad)) wc ++ gW (mkG (YL l D cA below b s) am SM (fun _ => True)) wm) kc ks := by
  have hnb : ¬ yF (YL l D cA below b s) b := Nat.not_le.mpr hbl
  refine C_aload_n hO dL_law_324 rfl rfl ?_
  refine C_aload_n hO dL_law_325 rfl rfl ?_
  refine C_iload_n hO dL_law_326 rfl rfl ?_
  refine C_iconst (v := 1) hO dL_law_327 rfl ?_
  refine C_iadd hO dL_law_328 ?_
  refine C_sld hO hX hbl hnb (lw_in hi h6 hL2 1 (by decide) (by decide)) dL_law_329 ?_
  refine C_aload_n hO dL_law_330 rfl rfl ?_
  refine C_iload_n hO dL_law_331 rfl rfl ?_
  refine C_iconst (v := 2) hO dL_law_332 rfl ?_
  refine C_iadd hO dL_law_333 ?_
  refine C_sld hO hX hbl hnb (lw_in hi h6 hL2 2 (by decide) (by decide)) dL_law_334 ?_
  refine C_aload_n hO dL_law_335 rfl rfl ?_
  refine C_iload_n hO dL_law_336 rfl rfl ?_
  refine C_iconst (v := 3) hO dL_law_337 rfl ?_
  refine C_iadd hO dL_law_338 ?_
  refine C_sld hO hX hbl hnb (lw_in hi h6 hL2 3 (by decide) (by decide)) dL_law_339 ?_
  refine C_conL (As := [.int (sc (i3 + 1).toNatClampNeg), .int (sc (i3 + 2).toNatClampNeg), .int (sc (i3 + 3).toNatClampNeg)]) (rest := []) hO hWc dL_law_340 (ic_X4_sandwich (Γ := (mkG (YL l D cA below b s) ad SC (EXG ad))) (d := 60) (by decide) hGc iC (Q := fun (r : Int32) u => IC κ0 u) (fun _ _ h => h)) cl_L_41 (i := 0) rfl rfl rfl (by exact Nat.le_of_ble_eq_true rfl) (by exact Nat.le_of_ble_eq_true rfl) (by exact Nat.le_of_ble_eq_true rfl) hkc hks (fun r w6c hq => ?_) rfl
  obtain ⟨vc, rfl, hvvc⟩ := hq
  refine CC.stk (st2 := [.int vc]) rfl ?_
  refine C_pop hO dL_law_343 rfl ?_
  refine C_aload_n hO dL_law_344 rfl rfl ?_
  refine C_aload_n hO dL_law_345 rfl rfl ?_
  refine C_iload_n hO dL_law_346 rfl rfl ?_
  refine C_iconst (v := 1) hO dL_law_347 rfl ?_
  refine C_iadd hO dL_law_348 ?_
  refine C_sld hO hX hbl hnb (lw_in hi h6 hL2 1 (by decide) (by decide)) dL_law_349 ?_
  refine C_aload_n hO dL_law_350 rfl rfl ?_
  refine C_iload_n hO dL_law_351 rfl rfl ?_
  refine C_iconst (v := 2) hO dL_law_352 rfl ?_
  refine C_iadd hO dL_law_353 ?_
  refine C_sld hO hX hbl hnb (lw_in hi h6 hL2 2 (by decide) (by decide)) dL_law_354 ?_
  refine C_aload_n hO dL_law_355 rfl rfl ?_
  refine C_iload_n hO dL_law_356 rfl rfl ?_
  refine C_iconst (v := 3) hO dL_law_357 rfl ?_
  refine C_iadd hO dL_law_358 ?_
  refine C_sld hO hX hbl hnb (lw_in hi h6 hL2 3 (by decide) (by decide)) dL_law_359 ?_
  refine C_conR (As := [.int (sc (i3 + 1).toNatClampNeg), .int (sc (i3 + 2).toNatClampNeg), .int (sc (i3 + 3).toNatClampNeg)]) (rest := []) hO hWm dL_law_360 (im_X5_sandwich (Γ := (mkG (YL l D cA below b s) am SM (fun _ => True))) (d := 12) (by decide) hGm iM (Q := fun (r : Int32) u => IM κ0 u) (fun _ _ h => h)) cl_L_44 (i := 0) rfl rfl rfl (by exact Nat.le_of_ble_eq_true rfl) (by exact Nat.le_of_ble_eq_true rfl) (by exact Nat.le_of_ble_eq_true rfl) hkc hks (fun r w6m hq => ?_) rfl
  obtain ⟨vm, rfl, hvvm⟩ := hq
  refine CC.stk (st2 := [.int vm]) rfl ?_
  refine C_pop hO dL_law_363 rfl ?_
  refine C_goto (tgt := 1057) hO dL_law_364 (by decide) ?_
  exact next κ0 _ _ hby hvvc hvvm
theorem lwc_7 {l : Launch} {D : va_G} {cA : Nat → ClassId} {p : Program} {e : Env} {s : State} {m : MethodId} {b : Nat} {below : List Frame} {meth : Method} {c : Code} {ad am : Nat → Nat} {L i : Nat} {sc : Nat → Int32} {i3 : Int32} {wc wm : Wd} {kc ks : Nat} (hO : OKC (YL l D cA below b s) (p, e, s, m, #[Value.ref b], below, meth, c) RL code 4) (hWc : WIN (YL l D cA below b s) (p, e, s, m, #[Value.ref b], below, meth, c) ad SC (EXG ad)) (hWm : WIN (YL l D cA below b s) (p, e, s, m, #[Value.ref b], below, meth, c) am SM (fun _ => True)) (hX : va_X b L sc s s.heap) (hbl : b < s.heap.size) (hi : i3.toInt = i) (h6 : i + 6 ≤ L) (hL2 : L < 2147483647) (hkc : kc ≤ 600000) (hks : ks ≤ 7302250) (hGc : GC (mkG (YL l D cA below b s) ad SC (EXG ad))) (hGm : GM (mkG (YL l D cA below b s) am SM (fun _ => True))) {κ0 : Ky} (hby : byOK κ0) (iC : IC κ0 wc) (iM : IM κ0 wm) (next : ∀ (κ : Ky) (wc2 wm2 : Wd), byOK κ → IC κ wc2 → IM κ wm2 → CC (YL l D cA below b s) (p, e, s, m, #[Value.ref b], below, meth, c) 4 1057 [some (.ref b), some (.ref (ad 0)), some (.ref (am 0)), some (.int i3)] [] (gW (mkG (YL l D cA below b s) ad SC (EXG ad)) wc2 ++ gW (mkG (YL l D cA below b s) am SM (fun _ => True)) wm2) kc ks) : CC (YL l D cA below b s) (p, e, s, m, #[Value.ref b], below, meth, c) 4 367 [some (.ref b), some (.ref (ad 0)), some (.ref (am 0)), some (.int i3)] [] (gW (mkG (YL l D cA below b s) ad SC (EXG ad)) wc ++ gW (mkG (YL l D cA below b s) am SM (fun _ => True)) wm) kc ks := by
  have hnb : ¬ yF (YL l D cA below b s) b := Nat.not_le.mpr hbl
  refine C_aload_n hO dL_law_367 rfl rfl ?_
  refine C_conL (As := []) (rest := []) hO hWc dL_law_368 (ic_X4_sunday (Γ := (mkG (YL l D cA below b s) ad SC (EXG ad))) (d := 60) (by decide) hGc iC (Q := fun (r : Int32) u => IC κ0 u) (fun _ _ h => h)) cl_L_45 (i := 0) rfl rfl rfl (by exact Nat.le_of_ble_eq_true rfl) (by exact Nat.le_of_ble_eq_true rfl) (by exact Nat.le_of_ble_eq_true rfl) hkc hks (fun r w7c hq => ?_) rfl
  obtain ⟨vc, rfl, hvvc⟩ := hq
  refine CC.stk (st2 := [.int vc]) rfl ?_
  refine C_pop hO dL_law_371 rfl ?_
  refine C_aload_n hO dL_law_372 rfl rfl ?_
  refine C_conR (As := []) (rest := []) hO hWm dL_law_373 (im_X5_sunday (Γ := (mkG (YL l D cA below b s) am SM (fun _ => True))) (d := 12) (by decide) hGm iM (Q := fun (r : Int32) u => IM κ0 u) (fun _ _ h => h)) cl_L_48 (i := 0) rfl rfl rfl (by exact Nat.le_of_ble_eq_true rfl) (by exact Nat.le_of_ble_eq_true rfl) (by exact Nat.le_of_ble_eq_true rfl) hkc hks (fun r w7m hq => ?_) rfl
  obtain ⟨vm, rfl, hvvm⟩ := hq
  refine CC.stk (st2 := [.int vm]) rfl ?_
  refine C_pop hO dL_law_376 rfl ?_
  refine C_goto (tgt := 1057) hO dL_law_377 (by decide) ?_
  exact next κ0 _ _ hby hvvc hvvm
theorem lwc_8 {l : Launch} {D : va_G} {cA : Nat → ClassId} {p : Program} {e : Env} {s : State} {m : MethodId} {b : Nat} {below : List Frame} {meth : Method} {c : Code} {ad am : Nat → Nat} {L i : Nat} {sc : Nat → Int32} {i3 : Int32} {wc wm : Wd} {kc ks : Nat} (hO : OKC (YL l D cA below b s) (p, e, s, m, #[Value.ref b], below, meth, c) RL code 4) (hWc : WIN (YL l D cA below b s) (p, e, s, m, #[Value.ref b], below, meth, c) ad SC (EXG ad)) (hWm : WIN (YL l D cA below b s) (p, e, s, m, #[Value.ref b], below, meth, c) am SM (fun _ => True)) (hX : va_X b L sc s s.heap) (hbl : b < s.heap.size) (hi : i3.toInt = i) (h6 : i + 6 ≤ L) (hL2 : L < 2147483647) (hkc : kc ≤ 600000) (hks : ks ≤ 7302250) (hGc : GC (mkG (YL l D cA below b s) ad SC (EXG ad))) (hGm : GM (mkG (YL l D cA below b s) am SM (fun _ => True))) {κ0 : Ky} (hby : byOK κ0) (iC : IC κ0 wc) (iM : IM κ0 wm) (next : ∀ (κ : Ky) (wc2 wm2 : Wd), byOK κ → IC κ wc2 → IM κ wm2 → CC (YL l D cA below b s) (p, e, s, m, #[Value.ref b], below, meth, c) 4 1057 [some (.ref b), some (.ref (ad 0)), some (.ref (am 0)), some (.int i3)] [] (gW (mkG (YL l D cA below b s) ad SC (EXG ad)) wc2 ++ gW (mkG (YL l D cA below b s) am SM (fun _ => True)) wm2) kc ks) : CC (YL l D cA below b s) (p, e, s, m, #[Value.ref b], below, meth, c) 4 380 [some (.ref b), some (.ref (ad 0)), some (.ref (am 0)), some (.int i3)] [] (gW (mkG (YL l D cA below b s) ad SC (EXG ad)) wc ++ gW (mkG (YL l D cA below b s) am SM (fun _ => True)) wm) kc ks := by
  have hnb : ¬ yF (YL l D cA below b s) b := Nat.not_le.mpr hbl
  refine C_aload_n hO dL_law_380 rfl rfl ?_
  refine C_aload_n hO dL_law_381 rfl rfl ?_
  refine C_iload_n hO dL_law_382 rfl rfl ?_
  refine C_iconst (v := 1) hO dL_law_383 rfl ?_
  refine C_iadd hO dL_law_384 ?_
  refine C_sld hO hX hbl hnb (lw_in hi h6 hL2 1 (by decide) (by decide)) dL_law_385 ?_
  refine C_aload_n hO dL_law_386 rfl rfl ?_
  refine C_iload_n hO dL_law_387 rfl rfl ?_
  refine C_iconst (v := 2) hO dL_law_388 rfl ?_
  refine C_iadd hO dL_law_389 ?_
  refine C_sld hO hX hbl hnb (lw_in hi h6 hL2 2 (by decide) (by decide)) dL_law_390 ?_
  refine C_conL (As := [.int (sc (i3 + 1).toNatClampNeg), .int (sc (i3 + 2).toNatClampNeg)]) (rest := []) hO hWc dL_law_391 (ic_X4_run (Γ := (mkG (YL l D cA below b s) ad SC (EXG ad))) (d := 60) (by decide) hGc iC (Q := fun (r : Int32) u => IC κ0 u) (fun _ _ h => h)) cl_L_49 (i := 0) rfl rfl rfl (by exact Nat.le_of_ble_eq_true rfl) (by exact Nat.le_of_ble_eq_true rfl) (by exact Nat.le_of_ble_eq_true rfl) hkc hks (fun r w8c hq => ?_) rfl
  obtain ⟨vc, rfl, hvvc⟩ := hq
  refine CC.stk (st2 := [.int vc]) rfl ?_
  refine C_pop hO dL_law_394 rfl ?_
  refine C_aload_n hO dL_law_395 rfl rfl ?_
  refine C_aload_n hO dL_law_396 rfl rfl ?_
  refine C_iload_n hO dL_law_397 rfl rfl ?_
  refine C_iconst (v := 1) hO dL_law_398 rfl ?_
  refine C_iadd hO dL_law_399 ?_
  refine C_sld hO hX hbl hnb (lw_in hi h6 hL2 1 (by decide) (by decide)) dL_law_400 ?_
  refine C_aload_n hO dL_law_401 rfl rfl ?_
  refine C_iload_n hO dL_law_402 rfl rfl ?_
  refine C_iconst (v := 2) hO dL_law_403 rfl ?_
  refine C_iadd hO dL_law_404 ?_
  refine C_sld hO hX hbl hnb (lw_in hi h6 hL2 2 (by decide) (by decide)) dL_law_405 ?_
  refine C_conR (As := [.int (sc (i3 + 1).toNatClampNeg), .int (sc (i3 + 2).toNatClampNeg)]) (rest := []) hO hWm dL_law_406 (im_X5_run (Γ := (mkG (YL l D cA below b s) am SM (fun _ => True))) (d := 12) (by decide) hGm iM (Q := fun (r : Int32) u => IM κ0 u) (fun _ _ h => h)) cl_L_52 (i := 0) rfl rfl rfl (by exact Nat.le_of_ble_eq_true rfl) (by exact Nat.le_of_ble_eq_true rfl) (by exact Nat.le_of_ble_eq_true rfl) hkc hks (fun r w8m hq => ?_) rfl
  obtain ⟨vm, rfl, hvvm⟩ := hq
  refine CC.stk (st2 := [.int vm]) rfl ?_
  refine C_pop hO dL_law_409 rfl ?_
  refine C_goto (tgt := 1057) hO dL_law_410 (by decide) ?_
  exact next κ0 _ _ hby hvvc hvvm
theorem lwc_9 {l : Launch} {D : va_G} {cA : Nat → ClassId} {p : Program} {e : Env} {s : State} {m : MethodId} {b : Nat} {below : List Frame} {meth : Method} {c : Code} {ad am : Nat → Nat} {L i : Nat} {sc : Nat → Int32} {i3 : Int32} {wc wm : Wd} {kc ks : Nat} (hO : OKC (YL l D cA below b s) (p, e, s, m, #[Value.ref b], below, meth, c) RL code 4) (hWc : WIN (YL l D cA below b s) (p, e, s, m, #[Value.ref b], below, meth, c) ad SC (EXG ad)) (hWm : WIN (YL l D cA below b s) (p, e, s, m, #[Value.ref b], below, meth, c) am SM (fun _ => True)) (hX : va_X b L sc s s.heap) (hbl : b < s.heap.size) (hi : i3.toInt = i) (h6 : i + 6 ≤ L) (hL2 : L < 2147483647) (hkc : kc ≤ 600000) (hks : ks ≤ 7302250) (hGc : GC (mkG (YL l D cA below b s) ad SC (EXG ad))) (hGm : GM (mkG (YL l D cA below b s) am SM (fun _ => True))) {κ0 : Ky} (hby : byOK κ0) (iC : IC κ0 wc) (iM : IM κ0 wm) (next : ∀ (κ : Ky) (wc2 wm2 : Wd), byOK κ → IC κ wc2 → IM κ wm2 → CC (YL l D cA below b s) (p, e, s, m, #[Value.ref b], below, meth, c) 4 1057 [some (.ref b), some (.ref (ad 0)), some (.ref (am 0)), some (.int i3)] [] (gW (mkG (YL l D cA below b s) ad SC (EXG ad)) wc2 ++ gW (mkG (YL l D cA below b s) am SM (fun _ => True)) wm2) kc ks) : CC (YL l D cA below b s) (p, e, s, m, #[Value.ref b], below, meth, c) 4 413 [some (.ref b), some (.ref (ad 0)), some (.ref (am 0)), some (.int i3)] [] (gW (mkG (YL l D cA below b s) ad SC (EXG ad)) wc ++ gW (mkG (YL l D cA below b s) am SM (fun _ => True)) wm) kc ks := by
  have hnb : ¬ yF (YL l D cA below b s) b := Nat.not_le.mpr hbl
  refine C_aload_n hO dL_law_413 rfl rfl ?_
  refine C_aload_n hO dL_law_414 rfl rfl ?_
  refine C_iload_n hO dL_law_415 rfl rfl ?_
  refine C_iconst (v := 1) hO dL_law_416 rfl ?_
  refine C_iadd hO dL_law_417 ?_
  refine C_sld hO hX hbl hnb (lw_in hi h6 hL2 1 (by decide) (by decide)) dL_law_418 ?_
  refine C_conL (As := [.int (sc (i3 + 1).toNatClampNeg)]) (rest := []) hO hWc dL_law_419 (ic_X4_again (Γ := (mkG (YL l D cA below b s) ad SC (EXG ad))) (d := 60) (by decide) hGc iC (Q := fun (r : Int32) u => IC κ0 u) (fun _ _ h => h)) cl_L_53 (i := 0) rfl rfl rfl (by exact Nat.le_of_ble_eq_true rfl) (by exact Nat.le_of_ble_eq_true rfl) (by exact Nat.le_of_ble_eq_true rfl) hkc hks (fun r w9c hq => ?_) rfl
  obtain ⟨vc, rfl, hvvc⟩ := hq
  refine CC.stk (st2 := [.int vc]) rfl ?_
  refine C_pop hO dL_law_422 rfl ?_
  refine C_aload_n hO dL_law_423 rfl rfl ?_
  refine C_aload_n hO dL_law_424 rfl rfl ?_
  refine C_iload_n hO dL_law_425 rfl rfl ?_
  refine C_iconst (v := 1) hO dL_law_426 rfl ?_
  refine C_iadd hO dL_law_427 ?_
  refine C_sld hO hX hbl hnb (lw_in hi h6 hL2 1 (by decide) (by decide)) dL_law_428 ?_
  refine C_conR (As := [.int (sc (i3 + 1).toNatClampNeg)]) (rest := []) hO hWm dL_law_429 (im_X5_again (Γ := (mkG (YL l D cA below b s) am SM (fun _ => True))) (d := 12) (by decide) hGm iM (Q := fun (r : Int32) u => IM κ0 u) (fun _ _ h => h)) cl_L_56 (i := 0) rfl rfl rfl (by exact Nat.le_of_ble_eq_true rfl) (by exact Nat.le_of_ble_eq_true rfl) (by exact Nat.le_of_ble_eq_true rfl) hkc hks (fun r w9m hq => ?_) rfl
  obtain ⟨vm, rfl, hvvm⟩ := hq
  refine CC.stk (st2 := [.int vm]) rfl ?_
  refine C_pop hO dL_law_432 rfl ?_
  refine C_goto (tgt := 1057) hO dL_law_433 (by decide) ?_
  exact next κ0 _ _ hby hvvc hvvm
theorem lwc_10 {l : Launch} {D : va_G} {cA : Nat → ClassId} {p : Program} {e : Env} {s : State} {m : MethodId} {b : Nat} {below : List Frame} {meth : Method} {c : Code} {ad am : Nat → Nat} {L i : Nat} {sc : Nat → Int32} {i3 : Int32} {wc wm : Wd} {kc ks : Nat} (hO : OKC (YL l D cA below b s) (p, e, s, m, #[Value.ref b], below, meth, c) RL code 4) (hWc : WIN (YL l D cA below b s) (p, e, s, m, #[Value.ref b], below, meth, c) ad SC (EXG ad)) (hWm : WIN (YL l D cA below b s) (p, e, s, m, #[Value.ref b], below, meth, c) am SM (fun _ => True)) (hX : va_X b L sc s s.heap) (hbl : b < s.heap.size) (hi : i3.toInt = i) (h6 : i + 6 ≤ L) (hL2 : L < 2147483647) (hkc : kc ≤ 600000) (hks : ks ≤ 7302250) (hGc : GC (mkG (YL l D cA below b s) ad SC (EXG ad))) (hGm : GM (mkG (YL l D cA below b s) am SM (fun _ => True))) {κ0 : Ky} (hby : byOK κ0) (iC : IC κ0 wc) (iM : IM κ0 wm) (next : ∀ (κ : Ky) (wc2 wm2 : Wd), byOK κ → IC κ wc2 → IM κ wm2 → CC (YL l D cA below b s) (p, e, s, m, #[Value.ref b], below, meth, c) 4 1057 [some (.ref b), some (.ref (ad 0)), some (.ref (am 0)), some (.int i3)] [] (gW (mkG (YL l D cA below b s) ad SC (EXG ad)) wc2 ++ gW (mkG (YL l D cA below b s) am SM (fun _ => True)) wm2) kc ks) : CC (YL l D cA below b s) (p, e, s, m, #[Value.ref b], below, meth, c) 4 436 [some (.ref b), some (.ref (ad 0)), some (.ref (am 0)), some (.int i3)] [] (gW (mkG (YL l D cA below b s) ad SC (EXG ad)) wc ++ gW (mkG (YL l D cA below b s) am SM (fun _ => True)) wm) kc ks := by
  have hnb : ¬ yF (YL l D cA below b s) b := Nat.not_le.mpr hbl
  refine C_aload_n hO dL_law_436 rfl rfl ?_
  refine C_aload_n hO dL_law_437 rfl rfl ?_
  refine C_iload_n hO dL_law_438 rfl rfl ?_
  refine C_iconst (v := 1) hO dL_law_439 rfl ?_
  refine C_iadd hO dL_law_440 ?_
  refine C_sld hO hX hbl hnb (lw_in hi h6 hL2 1 (by decide) (by decide)) dL_law_441 ?_
  refine C_conL (As := [.int (sc (i3 + 1).toNatClampNeg)]) (rest := []) hO hWc dL_law_442 (ic_X4_all (Γ := (mkG (YL l D cA below b s) ad SC (EXG ad))) (d := 60) (by decide) hGc iC (Q := fun (r : Int32) u => IC κ0 u) (fun _ _ h => h)) cl_L_57 (i := 0) rfl rfl rfl (by exact Nat.le_of_ble_eq_true rfl) (by exact Nat.le_of_ble_eq_true rfl) (by exact Nat.le_of_ble_eq_true rfl) hkc hks (fun r w10c hq => ?_) rfl
  obtain ⟨vc, rfl, hvvc⟩ := hq
  refine CC.stk (st2 := [.int vc]) rfl ?_
  refine C_pop hO dL_law_445 rfl ?_
  refine C_aload_n hO dL_law_446 rfl rfl ?_
  refine C_aload_n hO dL_law_447 rfl rfl ?_
  refine C_iload_n hO dL_law_448 rfl rfl ?_
  refine C_iconst (v := 1) hO dL_law_449 rfl ?_
  refine C_iadd hO dL_law_450 ?_
  refine C_sld hO hX hbl hnb (lw_in hi h6 hL2 1 (by decide) (by decide)) dL_law_451 ?_
  refine C_conR (As := [.int (sc (i3 + 1).toNatClampNeg)]) (rest := []) hO hWm dL_law_452 (im_X5_all (Γ := (mkG (YL l D cA below b s) am SM (fun _ => True))) (d := 12) (by decide) hGm iM (Q := fun (r : Int32) u => IM κ0 u) (fun _ _ h => h)) cl_L_60 (i := 0) rfl rfl rfl (by exact Nat.le_of_ble_eq_true rfl) (by exact Nat.le_of_ble_eq_true rfl) (by exact Nat.le_of_ble_eq_true rfl) hkc hks (fun r w10m hq => ?_) rfl
  obtain ⟨vm, rfl, hvvm⟩ := hq
  refine CC.stk (st2 := [.int vm]) rfl ?_
  refine C_pop hO dL_law_455 rfl ?_
  refine C_goto (tgt := 1057) hO dL_law_456 (by decide) ?_
  exact next κ0 _ _ hby hvvc hvvm
theorem lwc_11 {l : Launch} {D : va_G} {cA : Nat → ClassId} {p : Program} {e : Env} {s : State} {m : MethodId} {b : Nat} {below : List Frame} {meth : Method} {c : Code} {ad am : Nat → Nat} {L i : Nat} {sc : Nat → Int32} {i3 : Int32} {wc wm : Wd} {kc ks : Nat} (hO : OKC (YL l D cA below b s) (p, e, s, m, #[Value.ref b], below, meth, c) RL code 4) (hWc : WIN (YL l D cA below b s) (p, e, s, m, #[Value.ref b], below, meth, c) ad SC (EXG ad)) (hWm : WIN (YL l D cA below b s) (p, e, s, m, #[Value.ref b], below, meth, c) am SM (fun _ => True)) (hX : va_X b L sc s s.heap) (hbl : b < s.heap.size) (hi : i3.toInt = i) (h6 : i + 6 ≤ L) (hL2 : L < 2147483647) (hkc : kc ≤ 600000) (hks : ks ≤ 7302250) (hGc : GC (mkG (YL l D cA below b s) ad SC (EXG ad))) (hGm : GM (mkG (YL l D cA below b s) am SM (fun _ => True))) {κ0 : Ky} (hby : byOK κ0) (iC : IC κ0 wc) (iM : IM κ0 wm) (next : ∀ (κ : Ky) (wc2 wm2 : Wd), byOK κ → IC κ wc2 → IM κ wm2 → CC (YL l D cA below b s) (p, e, s, m, #[Value.ref b], below, meth, c) 4 1057 [some (.ref b), some (.ref (ad 0)), some (.ref (am 0)), some (.int i3)] [] (gW (mkG (YL l D cA below b s) ad SC (EXG ad)) wc2 ++ gW (mkG (YL l D cA below b s) am SM (fun _ => True)) wm2) kc ks) : CC (YL l D cA below b s) (p, e, s, m, #[Value.ref b], below, meth, c) 4 459 [some (.ref b), some (.ref (ad 0)), some (.ref (am 0)), some (.int i3)] [] (gW (mkG (YL l D cA below b s) ad SC (EXG ad)) wc ++ gW (mkG (YL l D cA below b s) am SM (fun _ => True)) wm) kc ks := by
  have hnb : ¬ yF (YL l D cA below b s) b := Nat.not_le.mpr hbl
  refine C_aload_n hO dL_law_459 rfl rfl ?_
  refine C_aload_n hO dL_law_460 rfl rfl ?_
  refine C_iload_n hO dL_law_461 rfl rfl ?_
  refine C_iconst (v := 1) hO dL_law_462 rfl ?_
  refine C_iadd hO dL_law_463 ?_
  refine C_sld hO hX hbl hnb (lw_in hi h6 hL2 1 (by decide) (by decide)) dL_law_464 ?_
  refine C_aload_n hO dL_law_465 rfl rfl ?_
  refine C_iload_n hO dL_law_466 rfl rfl ?_
  refine C_iconst (v := 2) hO dL_law_467 rfl ?_
  refine C_iadd hO dL_law_468 ?_
  refine C_sld hO hX hbl hnb (lw_in hi h6 hL2 2 (by decide) (by decide)) dL_law_469 ?_
  refine C_aload_n hO dL_law_470 rfl rfl ?_
  refine C_iload_n hO dL_law_471 rfl rfl ?_
  refine C_iconst (v := 3) hO dL_law_472 rfl ?_
  refine C_iadd hO dL_law_473 ?_
  refine C_sld hO hX hbl hnb (lw_in hi h6 hL2 3 (by decide) (by decide)) dL_law_474 ?_
  refine C_conL (As := [.int (sc (i3 + 1).toNatClampNeg), .int (sc (i3 + 2).toNatClampNeg), .int (sc (i3 + 3).toNatClampNeg)]) (rest := []) hO hWc dL_law_475 (ic_X4_best (Γ := (mkG (YL l D cA below b s) ad SC (EXG ad))) (d := 60) (by decide) hGc iC (Q := fun (r : Int32) u => IC κ0 u) (fun _ _ h => h)) cl_L_61 (i := 0) rfl rfl rfl (by exact Nat.le_of_ble_eq_true rfl) (by exact Nat.le_of_ble_eq_true rfl) (by exact Nat.le_of_ble_eq_true rfl) hkc hks (fun r w11c hq => ?_) rfl
  obtain ⟨vc, rfl, hvvc⟩ := hq
  refine CC.stk (st2 := [.int vc]) rfl ?_
  refine C_pop hO dL_law_478 rfl ?_
  refine C_aload_n hO dL_law_479 rfl rfl ?_
  refine C_aload_n hO dL_law_480 rfl rfl ?_
  refine C_iload_n hO dL_law_481 rfl rfl ?_
  refine C_iconst (v := 1) hO dL_law_482 rfl ?_
  refine C_iadd hO dL_law_483 ?_
  refine C_sld hO hX hbl hnb (lw_in hi h6 hL2 1 (by decide) (by decide)) dL_law_484 ?_
  refine C_aload_n hO dL_law_485 rfl rfl ?_
  refine C_iload_n hO dL_law_486 rfl rfl ?_
  refine C_iconst (v := 2) hO dL_law_487 rfl ?_
  refine C_iadd hO dL_law_488 ?_
  refine C_sld hO hX hbl hnb (lw_in hi h6 hL2 2 (by decide) (by decide)) dL_law_489 ?_
  refine C_aload_n hO dL_law_490 rfl rfl ?_
  refine C_iload_n hO dL_law_491 rfl rfl ?_
  refine C_iconst (v := 3) hO dL_law_492 rfl ?_
  refine C_iadd hO dL_law_493 ?_
  refine C_sld hO hX hbl hnb (lw_in hi h6 hL2 3 (by decide) (by decide)) dL_law_494 ?_
  refine C_conR (As := [.int (sc (i3 + 1).toNatClampNeg), .int (sc (i3 + 2).toNatClampNeg), .int (sc (i3 + 3).toNatClampNeg)]) (rest := []) hO hWm dL_law_495 (jk_X5_best (Γ := (mkG (YL l D cA below b s) am SM (fun _ => True))) (d := 12) (by decide) hGm iM (Q := fun (r : Int32) u => IM κ0 u) (fun _ _ h => h)) cl_L_64 (i := 0) rfl rfl rfl (by exact Nat.le_of_ble_eq_true rfl) (by exact Nat.le_of_ble_eq_true rfl) (by exact Nat.le_of_ble_eq_true rfl) hkc hks (fun r w11m hq => ?_) rfl
  obtain ⟨vm, rfl, hvvm⟩ := hq
  refine CC.stk (st2 := [.int vm]) rfl ?_
  refine C_pop hO dL_law_498 rfl ?_
  refine C_goto (tgt := 1057) hO dL_law_499 (by decide) ?_
  exact next κ0 _ _ hby hvvc hvvm
theorem lwc_12 {l : Launch} {D : va_G} {cA : Nat → ClassId} {p : Program} {e : Env} {s : State} {m : MethodId} {b : Nat} {below : List Frame} {meth : Method} {c : Code} {ad am : Nat → Nat} {L i : Nat} {sc : Nat → Int32} {i3 : Int32} {wc wm : Wd} {kc ks : Nat} (hO : OKC (YL l D cA below b s) (p, e, s, m, #[Value.ref b], below, meth, c) RL code 4) (hWc : WIN (YL l D cA below b s) (p, e, s, m, #[Value.ref b], below, meth, c) ad SC (EXG ad)) (hWm : WIN (YL l D cA below b s) (p, e, s, m, #[Value.ref b], below, meth, c) am SM (fun _ => True)) (hX : va_X b L sc s s.heap) (hbl : b < s.heap.size) (hi : i3.toInt = i) (h6 : i + 6 ≤ L) (hL2 : L < 2147483647) (hkc : kc ≤ 600000) (hks : ks ≤ 7302250) (hGc : GC (mkG (YL l D cA below b s) ad SC (EXG ad))) (hGm : GM (mkG (YL l D cA below b s) am SM (fun _ => True))) {κ0 : Ky} (hby : byOK κ0) (iC : IC κ0 wc) (iM : IM κ0 wm) (next : ∀ (κ : Ky) (wc2 wm2 : Wd), byOK κ → IC κ wc2 → IM κ wm2 → CC (YL l D cA below b s) (p, e, s, m, #[Value.ref b], below, meth, c) 4 1057 [some (.ref b), some (.ref (ad 0)), some (.ref (am 0)), some (.int i3)] [] (gW (mkG (YL l D cA below b s) ad SC (EXG ad)) wc2 ++ gW (mkG (YL l D cA below b s) am SM (fun _ => True)) wm2) kc ks) : CC (YL l D cA below b s) (p, e, s, m, #[Value.ref b], below, meth, c) 4 502 [some (.ref b), some (.ref (ad 0)), some (.ref (am 0)), some (.int i3)] [] (gW (mkG (YL l D cA below b s) ad SC (EXG ad)) wc ++ gW (mkG (YL l D cA below b s) am SM (fun _ => True)) wm) kc ks := by
  have hnb : ¬ yF (YL l D cA below b s) b := Nat.not_le.mpr hbl
  refine C_aload_n hO dL_law_502 rfl rfl ?_
  refine C_aload_n hO dL_law_503 rfl rfl ?_
  refine C_iload_n hO dL_law_504 rfl rfl ?_
  refine C_iconst (v := 1) hO dL_law_505 rfl ?_
  refine C_iadd hO dL_law_506 ?_
  refine C_sld hO hX hbl hnb (lw_in hi h6 hL2 1 (by decide) (by decide)) dL_law_507 ?_
  refine C_aload_n hO dL_law_508 rfl rfl ?_
  refine C_iload_n hO dL_law_509 rfl rfl ?_
  refine C_iconst (v := 2) hO dL_law_510 rfl ?_
  refine C_iadd hO dL_law_511 ?_
  refine C_sld hO hX hbl hnb (lw_in hi h6 hL2 2 (by decide) (by decide)) dL_law_512 ?_
  refine C_conL (As := [.int (sc (i3 + 1).toNatClampNeg), .int (sc (i3 + 2).toNatClampNeg)]) (rest := []) hO hWc dL_law_513 (ic_X4_leaveOut (Γ := (mkG (YL l D cA below b s) ad SC (EXG ad))) (d := 60) (by decide) hGc iC (Q := fun (r : Int32) u => IC κ0 u) (fun _ _ h => h)) cl_L_65 (i := 0) rfl rfl rfl (by exact Nat.le_of_ble_eq_true rfl) (by exact Nat.le_of_ble_eq_true rfl) (by exact Nat.le_of_ble_eq_true rfl) hkc hks (fun r w12c hq => ?_) rfl
  obtain ⟨vc, rfl, hvvc⟩ := hq
  refine CC.stk (st2 := [.int vc]) rfl ?_
  refine C_pop hO dL_law_516 rfl ?_
  refine C_aload_n hO dL_law_517 rfl rfl ?_
  refine C_aload_n hO dL_law_518 rfl rfl ?_
  refine C_iload_n hO dL_law_519 rfl rfl ?_
  refine C_iconst (v := 1) hO dL_law_520 rfl ?_
  refine C_iadd hO dL_law_521 ?_
  refine C_sld hO hX hbl hnb (lw_in hi h6 hL2 1 (by decide) (by decide)) dL_law_522 ?_
  refine C_aload_n hO dL_law_523 rfl rfl ?_
  refine C_iload_n hO dL_law_524 rfl rfl ?_
  refine C_iconst (v := 2) hO dL_law_525 rfl ?_
  refine C_iadd hO dL_law_526 ?_
  refine C_sld hO hX hbl hnb (lw_in hi h6 hL2 2 (by decide) (by decide)) dL_law_527 ?_
  refine C_conR (As := [.int (sc (i3 + 1).toNatClampNeg), .int (sc (i3 + 2).toNatClampNeg)]) (rest := []) hO hWm dL_law_528 (jk_X5_leaveOut (Γ := (mkG (YL l D cA below b s) am SM (fun _ => True))) (d := 12) (by decide) hGm iM (Q := fun (r : Int32) u => IM κ0 u) (fun _ _ h => h)) cl_L_68 (i := 0) rfl rfl rfl (by exact Nat.le_of_ble_eq_true rfl) (by exact Nat.le_of_ble_eq_true rfl) (by exact Nat.le_of_ble_eq_true rfl) hkc hks (fun r w12m hq => ?_) rfl
  obtain ⟨vm, rfl, hvvm⟩ := hq
  refine CC.stk (st2 := [.int vm]) rfl ?_
  refine C_pop hO dL_law_531 rfl ?_
  refine C_goto (tgt := 1057) hO dL_law_532 (by decide) ?_
  exact next κ0 _ _ hby hvvc hvvm
theorem lwc_13 {l : Launch} {D : va_G} {cA : Nat → ClassId} {p : Program} {e : Env} {s : State} {m : MethodId} {b : Nat} {below : List Frame} {meth : Method} {c : Code} {ad am : Nat → Nat} {L i : Nat} {sc : Nat → Int32} {i3 : Int32} {wc wm : Wd} {kc ks : Nat} (hO : OKC (YL l D cA below b s) (p, e, s, m, #[Value.ref b], below, meth, c) RL code 4) (hWc : WIN (YL l D cA below b s) (p, e, s, m, #[Value.ref b], below, meth, c) ad SC (EXG ad)) (hWm : WIN (YL l D cA below b s) (p, e, s, m, #[Value.ref b], below, meth, c) am SM (fun _ => True)) (hX : va_X b L sc s s.heap) (hbl : b < s.heap.size) (hi : i3.toInt = i) (h6 : i + 6 ≤ L) (hL2 : L < 2147483647) (hkc : kc ≤ 600000) (hks : ks ≤ 7302250) (hGc : GC (mkG (YL l D cA below b s) ad SC (EXG ad))) (hGm : GM (mkG (YL l D cA below b s) am SM (fun _ => True))) {κ0 : Ky} (hby : byOK κ0) (iC : IC κ0 wc) (iM : IM κ0 wm) (next : ∀ (κ : Ky) (wc2 wm2 : Wd), byOK κ → IC κ wc2 → IM κ wm2 → CC (YL l D cA below b s) (p, e, s, m, #[Value.ref b], below, meth, c) 4 1057 [some (.ref b), some (.ref (ad 0)), some (.ref (am 0)), some (.int i3)] [] (gW (mkG (YL l D cA below b s) ad SC (EXG ad)) wc2 ++ gW (mkG (YL l D cA below b s) am SM (fun _ => True)) wm2) kc ks) : CC (YL l D cA below b s) (p, e, s, m, #[Value.ref b], below, meth, c) 4 535 [some (.ref b), some (.ref (ad 0)), some (.ref (am 0)), some (.int i3)] [] (gW (mkG (YL l D cA below b s) ad SC (EXG ad)) wc ++ gW (mkG (YL l D cA below b s) am SM (fun _ => True)) wm) kc ks := by
  have hnb : ¬ yF (YL l D cA below b s) b := Nat.not_le.mpr hbl
  refine C_aload_n hO dL_law_535 rfl rfl ?_
  refine C_aload_n hO dL_law_536 rfl rfl ?_
  refine C_iload_n hO dL_law_537 rfl rfl ?_
  refine C_iconst (v := 1) hO dL_law_538 rfl ?_
  refine C_iadd hO dL_law_539 ?_
  refine C_sld hO hX hbl hnb (lw_in hi h6 hL2 1 (by decide) (by decide)) dL_law_540 ?_
  refine C_aload_n hO dL_law_541 rfl rfl ?_
  refine C_iload_n hO dL_law_542 rfl rfl ?_
  refine C_iconst (v := 2) hO dL_law_543 rfl ?_
  refine C_iadd hO dL_law_544 ?_
  refine C_sld hO hX hbl hnb (lw_in hi h6 hL2 2 (by decide) (by decide)) dL_law_545 ?_
  refine C_conL (As := [.int (sc (i3 + 1).toNatClampNeg), .int (sc (i3 + 2).toNatClampNeg)]) (rest := []) hO hWc dL_law_546 (ic_X4_spare (Γ := (mkG (YL l D cA below b s) ad SC (EXG ad))) (d := 60) (by decide) hGc iC (Q := fun (r : Int32) u => IC κ0 u) (fun _ _ h => h)) cl_L_69 (i := 0) rfl rfl rfl (by exact Nat.le_of_ble_eq_true rfl) (by exact Nat.le_of_ble_eq_true rfl) (by exact Nat.le_of_ble_eq_true rfl) hkc hks (fun r w13c hq => ?_) rfl
  obtain ⟨vc, rfl, hvvc⟩ := hq
  refine CC.stk (st2 := [.int vc]) rfl ?_
  refine C_pop hO dL_law_549 rfl ?_
  refine C_aload_n hO dL_law_550 rfl rfl ?_
  refine C_aload_n hO dL_law_551 rfl rfl ?_
  refine C_iload_n hO dL_law_552 rfl rfl ?_
  refine C_iconst (v := 1) hO dL_law_553 rfl ?_
  refine C_iadd hO dL_law_554 ?_
  refine C_sld hO hX hbl hnb (lw_in hi h6 hL2 1 (by decide) (by decide)) dL_law_555 ?_
  refine C_aload_n hO dL_law_556 rfl rfl ?_
  refine C_iload_n hO dL_law_557 rfl rfl ?_
  refine C_iconst (v := 2) hO dL_law_558 rfl ?_
  refine C_iadd hO dL_law_559 ?_
  refine C_sld hO hX hbl hnb (lw_in hi h6 hL2 2 (by decide) (by decide)) dL_law_560 ?_
  refine C_conR (As := [.int (sc (i3 + 1).toNatClampNeg), .int (sc (i3 + 2).toNatClampNeg)]) (rest := []) hO hWm dL_law_561 (jk_X5_spare (Γ := (mkG (YL l D cA below b s) am SM (fun _ => True))) (d := 12) (by decide) hGm iM (Q := fun (r : Int32) u => IM κ0 u) (fun _ _ h => h)) cl_L_72 (i := 0) rfl rfl rfl (by exact Nat.le_of_ble_eq_true rfl) (by exact Nat.le_of_ble_eq_true rfl) (by exact Nat.le_of_ble_eq_true rfl) hkc hks (fun r w13m hq => ?_) rfl
  obtain ⟨vm, rfl, hvvm⟩ := hq
  refine CC.stk (st2 := [.int vm]) rfl ?_
  refine C_pop hO dL_law_564 rfl ?_
  refine C_goto (tgt := 1057) hO dL_law_565 (by decide) ?_
  exact next κ0 _ _ hby hvvc hvvm
theorem lwc_14 {l : Launch} {D : va_G} {cA : Nat → ClassId} {p : Program} {e : Env} {s : State} {m : MethodId} {b : Nat} {below : List Frame} {meth : Method} {c : Code} {ad am : Nat → Nat} {L i : Nat} {sc : Nat → Int32} {i3 : Int32} {wc wm : Wd} {kc ks : Nat} (hO : OKC (YL l D cA below b s) (p, e, s, m, #[Value.ref b], below, meth, c) RL code 4) (hWc : WIN (YL l D cA below b s) (p, e, s, m, #[Value.ref b], below, meth, c) ad SC (EXG ad)) (hWm : WIN (YL l D cA below b s) (p, e, s, m, #[Value.ref b], below, meth, c) am SM (fun _ => True)) (hX : va_X b L sc s s.heap) (hbl : b < s.heap.size) (hi : i3.toInt = i) (h6 : i + 6 ≤ L) (hL2 : L < 2147483647) (hkc : kc ≤ 600000) (hks : ks ≤ 7302250) (hGc : GC (mkG (YL l D cA below b s) ad SC (EXG ad))) (hGm : GM (mkG (YL l D cA below b s) am SM (fun _ => True))) {κ0 : Ky} (hby : byOK κ0) (iC : IC κ0 wc) (iM : IM κ0 wm) (next : ∀ (κ : Ky) (wc2 wm2 : Wd), byOK κ → IC κ wc2 → IM κ wm2 → CC (YL l D cA below b s) (p, e, s, m, #[Value.ref b], below, meth, c) 4 1057 [some (.ref b), some (.ref (ad 0)), some (.ref (am 0)), some (.int i3)] [] (gW (mkG (YL l D cA below b s) ad SC (EXG ad)) wc2 ++ gW (mkG (YL l D cA below b s) am SM (fun _ => True)) wm2) kc ks) : CC (YL l D cA below b s) (p, e, s, m, #[Value.ref b], below, meth, c) 4 568 [some (.ref b), some (.ref (ad 0)), some (.ref (am 0)), some (.int i3)] [] (gW (mkG (YL l D cA below b s) ad SC (EXG ad)) wc ++ gW (mkG (YL l D cA below b s) am SM (fun _ => True)) wm) kc ks := by
  have hnb : ¬ yF (YL l D cA below b s) b := Nat.not_le.mpr hbl
  refine C_aload_n hO dL_law_568 rfl rfl ?_
  refine C_aload_n hO dL_law_569 rfl rfl ?_
  refine C_iload_n hO dL_law_570 rfl rfl ?_
  refine C_iconst (v := 1) hO dL_law_571 rfl ?_
  refine C_iadd hO dL_law_572 ?_
  refine C_sld hO hX hbl hnb (lw_in hi h6 hL2 1 (by decide) (by decide)) dL_law_573 ?_
  refine C_aload_n hO dL_law_574 rfl rfl ?_
  refine C_iload_n hO dL_law_575 rfl rfl ?_
  refine C_iconst (v := 2) hO dL_law_576 rfl ?_
  refine C_iadd hO dL_law_577 ?_
  refine C_sld hO hX hbl hnb (lw_in hi h6 hL2 2 (by decide) (by decide)) dL_law_578 ?_
  refine C_aload_n hO dL_law_579 rfl rfl ?_
  refine C_iload_n hO dL_law_580 rfl rfl ?_
  refine C_iconst (v := 3) hO dL_law_581 rfl ?_
  refine C_iadd hO dL_law_582 ?_
  refine C_sld hO hX hbl hnb (lw_in hi h6 hL2 3 (by decide) (by decide)) dL_law_583 ?_
  refine C_conL (As := [.int (sc (i3 + 1).toNatClampNeg), .int (sc (i3 + 2).toNatClampNeg), .int (sc (i3 + 3).toNatClampNeg)]) (rest := []) hO hWc dL_law_584 (ic_X4_add (Γ := (mkG (YL l D cA below b s) ad SC (EXG ad))) (d := 60) (by decide) hGc iC (Q := fun (r : Int32) u => IC κ0 u) (fun _ _ h => h)) cl_L_73 (i := 0) rfl rfl rfl (by exact Nat.le_of_ble_eq_true rfl) (by exact Nat.le_of_ble_eq_true rfl) (by exact Nat.le_of_ble_eq_true rfl) hkc hks (fun r w14c hq => ?_) rfl
  obtain ⟨vc, rfl, hvvc⟩ := hq
  refine CC.stk (st2 := [.int vc]) rfl ?_
  refine C_pop hO dL_law_587 rfl ?_
  refine C_aload_n hO dL_law_588 rfl rfl ?_
  refine C_aload_n hO dL_law_589 rfl rfl ?_
  refine C_iload_n hO dL_law_590 rfl rfl ?_
  refine C_iconst (v := 1) hO dL_law_591 rfl ?_
  refine C_iadd hO dL_law_592 ?_
  refine C_sld hO hX hbl hnb (lw_in hi h6 hL2 1 (by decide) (by decide)) dL_law_593 ?_
  refine C_aload_n hO dL_law_594 rfl rfl ?_
  refine C_iload_n hO dL_law_595 rfl rfl ?_
  refine C_iconst (v := 2) hO dL_law_596 rfl ?_
  refine C_iadd hO dL_law_597 ?_
  refine C_sld hO hX hbl hnb (lw_in hi h6 hL2 2 (by decide) (by decide)) dL_law_598 ?_
  refine C_aload_n hO dL_law_599 rfl rfl ?_
  refine C_iload_n hO dL_law_600 rfl rfl ?_
  refine C_iconst (v := 3) hO dL_law_601 rfl ?_
  refine C_iadd hO dL_law_602 ?_
  refine C_sld hO hX hbl hnb (lw_in hi h6 hL2 3 (by decide) (by decide)) dL_law_603 ?_
  refine C_conR (As := [.int (sc (i3 + 1).toNatClampNeg), .int (sc (i3 + 2).toNatClampNeg), .int (sc (i3 + 3).toNatClampNeg)]) (rest := []) hO hWm dL_law_604 (jk_X5_add (Γ := (mkG (YL l D cA below b s) am SM (fun _ => True))) (d := 12) (by decide) hGm iM (Q := fun (r : Int32) u => IM κ0 u) (fun _ _ h => h)) cl_L_76 (i := 0) rfl rfl rfl (by exact Nat.le_of_ble_eq_true rfl) (by exact Nat.le_of_ble_eq_true rfl) (by exact Nat.le_of_ble_eq_true rfl) hkc hks (fun r w14m hq => ?_) rfl
  obtain ⟨vm, rfl, hvvm⟩ := hq
  refine CC.stk (st2 := [.int vm]) rfl ?_
  refine C_pop hO dL_law_607 rfl ?_
  refine C_goto (tgt := 1057) hO dL_law_608 (by decide) ?_
  exact next κ0 _ _ hby hvvc hvvm
theorem lwc_15 {l : Launch} {D : va_G} {cA : Nat → ClassId} {p : Program} {e : Env} {s : State} {m : MethodId} {b : Nat} {below : List Frame} {meth : Method} {c : Code} {ad am : Nat → Nat} {L i : Nat} {sc : Nat → Int32} {i3 : Int32} {wc wm : Wd} {kc ks : Nat} (hO : OKC (YL l D cA below b s) (p, e, s, m, #[Value.ref b], below, meth, c) RL code 4) (hWc : WIN (YL l D cA below b s) (p, e, s, m, #[Value.ref b], below, meth, c) ad SC (EXG ad)) (hWm : WIN (YL l D cA below b s) (p, e, s, m, #[Value.ref b], below, meth, c) am SM (fun _ => True)) (hX : va_X b L sc s s.heap) (hbl : b < s.heap.size) (hi : i3.toInt = i) (h6 : i + 6 ≤ L) (hL2 : L < 2147483647) (hkc : kc ≤ 600000) (hks : ks ≤ 7302250) (hGc : GC (mkG (YL l D cA below b s) ad SC (EXG ad))) (hGm : GM (mkG (YL l D cA below b s) am SM (fun _ => True))) {κ0 : Ky} (hby : byOK κ0) (iC : IC κ0 wc) (iM : IM κ0 wm) (next : ∀ (κ : Ky) (wc2 wm2 : Wd), byOK κ → IC κ wc2 → IM κ wm2 → CC (YL l D cA below b s) (p, e, s, m, #[Value.ref b], below, meth, c) 4 1057 [some (.ref b), some (.ref (ad 0)), some (.ref (am 0)), some (.int i3)] [] (gW (mkG (YL l D cA below b s) ad SC (EXG ad)) wc2 ++ gW (mkG (YL l D cA below b s) am SM (fun _ => True)) wm2) kc ks) : CC (YL l D cA below b s) (p, e, s, m, #[Value.ref b], below, meth, c) 4 611 [some (.ref b), some (.ref (ad 0)), some (.ref (am 0)), some (.int i3)] [] (gW (mkG (YL l D cA below b s) ad SC (EXG ad)) wc ++ gW (mkG (YL l D cA below b s) am SM (fun _ => True)) wm) kc ks := by
  have hnb : ¬ yF (YL l D cA below b s) b := Nat.not_le.mpr hbl
  refine C_aload_n hO dL_law_611 rfl rfl ?_
  refine C_aload_n hO dL_law_612 rfl rfl ?_
  refine C_iload_n hO dL_law_613 rfl rfl ?_
  refine C_iconst (v := 1) hO dL_law_614 rfl ?_
  refine C_iadd hO dL_law_615 ?_
  refine C_sld hO hX hbl hnb (lw_in hi h6 hL2 1 (by decide) (by decide)) dL_law_616 ?_
  refine C_aload_n hO dL_law_617 rfl rfl ?_
  refine C_iload_n hO dL_law_618 rfl rfl ?_
  refine C_iconst (v := 2) hO dL_law_619 rfl ?_
  refine C_iadd hO dL_law_620 ?_
  refine C_sld hO hX hbl hnb (lw_in hi h6 hL2 2 (by decide) (by decide)) dL_law_621 ?_
  refine C_aload_n hO dL_law_622 rfl rfl ?_
  refine C_iload_n hO dL_law_623 rfl rfl ?_
  refine C_iconst (v := 3) hO dL_law_624 rfl ?_
  refine C_iadd hO dL_law_625 ?_
  refine C_sld hO hX hbl hnb (lw_in hi h6 hL2 3 (by decide) (by decide)) dL_law_626 ?_
  refine C_conL (As := [.int (sc (i3 + 1).toNatClampNeg), .int (sc (i3 + 2).toNatClampNeg), .int (sc (i3 + 3).toNatClampNeg)]) (rest := []) hO hWc dL_law_627 (ic_X4_tells (Γ := (mkG (YL l D cA below b s) ad SC (EXG ad))) (d := 60) (by decide) hGc iC (Q := fun (r : Int32) u => IC κ0 u) (fun _ _ h => h)) cl_L_77 (i := 0) rfl rfl rfl (by exact Nat.le_of_ble_eq_true rfl) (by exact Nat.le_of_ble_eq_true rfl) (by exact Nat.le_of_ble_eq_true rfl) hkc hks (fun r w15c hq => ?_) rfl
  obtain ⟨vc, rfl, hvvc⟩ := hq
  refine CC.stk (st2 := [.int vc]) rfl ?_
  refine C_pop hO dL_law_630 rfl ?_
  refine C_aload_n hO dL_law_631 rfl rfl ?_
  refine C_aload_n hO dL_law_632 rfl rfl ?_
  refine C_iload_n hO dL_law_633 rfl rfl ?_
  refine C_iconst (v := 1) hO dL_law_634 rfl ?_
  refine C_iadd hO dL_law_635 ?_
  refine C_sld hO hX hbl hnb (lw_in hi h6 hL2 1 (by decide) (by decide)) dL_law_636 ?_
  refine C_aload_n hO dL_law_637 rfl rfl ?_
  refine C_iload_n hO dL_law_638 rfl rfl ?_
  refine C_iconst (v := 2) hO dL_law_639 rfl ?_
  refine C_iadd hO dL_law_640 ?_
  refine C_sld hO hX hbl hnb (lw_in hi h6 hL2 2 (by decide) (by decide)) dL_law_641 ?_
  refine C_aload_n hO dL_law_642 rfl rfl ?_
  refine C_iload_n hO dL_law_643 rfl rfl ?_
  refine C_iconst (v := 3) hO dL_law_644 rfl ?_
  refine C_iadd hO dL_law_645 ?_
  refine C_sld hO hX hbl hnb (lw_in hi h6 hL2 3 (by decide) (by decide)) dL_law_646 ?_
  refine C_conR (As := [.int (sc (i3 + 1).toNatClampNeg), .int (sc (i3 + 2).toNatClampNeg), .int (sc (i3 + 3).toNatClampNeg)]) (rest := []) hO hWm dL_law_647 (jk_X5_tells (Γ := (mkG (YL l D cA below b s) am SM (fun _ => True))) (d := 12) (by decide) hGm iM (Q := fun (r : Int32) u => IM κ0 u) (fun _ _ h => h)) cl_L_80 (i := 0) rfl rfl rfl (by exact Nat.le_of_ble_eq_true rfl) (by exact Nat.le_of_ble_eq_true rfl) (by exact Nat.le_of_ble_eq_true rfl) hkc hks (fun r w15m hq => ?_) rfl
  obtain ⟨vm, rfl, hvvm⟩ := hq
  refine CC.stk (st2 := [.int vm]) rfl ?_
  refine C_pop hO dL_law_650 rfl ?_
  refine C_goto (tgt := 1057) hO dL_law_651 (by decide) ?_
  exact next κ0 _ _ hby hvvc hvvm
theorem lwc_16 {l : Launch} {D : va_G} {cA : Nat → ClassId} {p : Program} {e : Env} {s : State} {m : MethodId} {b : Nat} {below : List Frame} {meth : Method} {c : Code} {ad am : Nat → Nat} {L i : Nat} {sc : Nat → Int32} {i3 : Int32} {wc wm : Wd} {kc ks : Nat} (hO : OKC (YL l D cA below b s) (p, e, s, m, #[Value.ref b], below, meth, c) RL code 4) (hWc : WIN (YL l D cA below b s) (p, e, s, m, #[Value.ref b], below, meth, c) ad SC (EXG ad)) (hWm : WIN (YL l D cA below b s) (p, e, s, m, #[Value.ref b], below, meth, c) am SM (fun _ => True)) (hX : va_X b L sc s s.heap) (hbl : b < s.heap.size) (hi : i3.toInt = i) (h6 : i + 6 ≤ L) (hL2 : L < 2147483647) (hkc : kc ≤ 600000) (hks : ks ≤ 7302250) (hGc : GC (mkG (YL l D cA below b s) ad SC (EXG ad))) (hGm : GM (mkG (YL l D cA below b s) am SM (fun _ => True))) {κ0 : Ky} (hby : byOK κ0) (iC : IC κ0 wc) (iM : IM κ0 wm) (next : ∀ (κ : Ky) (wc2 wm2 : Wd), byOK κ → IC κ wc2 → IM κ wm2 → CC (YL l D cA below b s) (p, e, s, m, #[Value.ref b], below, meth, c) 4 1057 [some (.ref b), some (.ref (ad 0)), some (.ref (am 0)), some (.int i3)] [] (gW (mkG (YL l D cA below b s) ad SC (EXG ad)) wc2 ++ gW (mkG (YL l D cA below b s) am SM (fun _ => True)) wm2) kc ks) : CC (YL l D cA below b s) (p, e, s, m, #[Value.ref b], below, meth, c) 4 654 [some (.ref b), some (.ref (ad 0)), some (.ref (am 0)), some (.int i3)] [] (gW (mkG (YL l D cA below b s) ad SC (EXG ad)) wc ++ gW (mkG (YL l D cA below b s) am SM (fun _ => True)) wm) kc ks := by
  have hnb : ¬ yF (YL l D cA below b s) b := Nat.not_le.mpr hbl
  refine C_aload_n hO dL_law_654 rfl rfl ?_
  refine C_aload_n hO dL_law_655 rfl rfl ?_
  refine C_iload_n hO dL_law_656 rfl rfl ?_
  refine C_iconst (v := 1) hO dL_law_657 rfl ?_
  refine C_iadd hO dL_law_658 ?_
  refine C_sld hO hX hbl hnb (lw_in hi h6 hL2 1 (by decide) (by decide)) dL_law_659 ?_
  refine C_aload_n hO dL_law_660 rfl rfl ?_
  refine C_iload_n hO dL_law_661 rfl rfl ?_
  refine C_iconst (v := 2) hO dL_law_662 rfl ?_
  refine C_iadd hO dL_law_663 ?_
  refine C_sld hO hX hbl hnb (lw_in hi h6 hL2 2 (by decide) (by decide)) dL_law_664 ?_
  refine C_aload_n hO dL_law_665 rfl rfl ?_
  refine C_iload_n hO dL_law_666 rfl rfl ?_
  refine C_iconst (v := 3) hO dL_law_667 rfl ?_
  refine C_iadd hO dL_law_668 ?_
  refine C_sld hO hX hbl hnb (lw_in hi h6 hL2 3 (by decide) (by decide)) dL_law_669 ?_
  refine C_conL (As := [.int (sc (i3 + 1).toNatClampNeg), .int (sc (i3 + 2).toNatClampNeg), .int (sc (i3 + 3).toNatClampNeg)]) (rest := []) hO hWc dL_law_670 (ic_X4_film (Γ := (mkG (YL l D cA below b s) ad SC (EXG ad))) (d := 60) (by decide) hGc iC (Q := fun (r : Int32) u => IC κ0 u) (fun _ _ h => h)) cl_L_81 (i := 0) rfl rfl rfl (by exact Nat.le_of_ble_eq_true rfl) (by exact Nat.le_of_ble_eq_true rfl) (by exact Nat.le_of_ble_eq_true rfl) hkc hks (fun r w16c hq => ?_) rfl
  obtain ⟨vc, rfl, hvvc⟩ := hq
  refine CC.stk (st2 := [.int vc]) rfl ?_
  refine C_pop hO dL_law_673 rfl ?_
  refine C_aload_n hO dL_law_674 rfl rfl ?_
  refine C_aload_n hO dL_law_675 rfl rfl ?_
  refine C_iload_n hO dL_law_676 rfl rfl ?_
  refine C_iconst (v := 1) hO dL_law_677 rfl ?_
  refine C_iadd hO dL_law_678 ?_
  refine C_sld hO hX hbl hnb (lw_in hi h6 hL2 1 (by decide) (by decide)) dL_law_679 ?_
  refine C_aload_n hO dL_law_680 rfl rfl ?_
  refine C_iload_n hO dL_law_681 rfl rfl ?_
  refine C_iconst (v := 2) hO dL_law_682 rfl ?_
  refine C_iadd hO dL_law_683 ?_
  refine C_sld hO hX hbl hnb (lw_in hi h6 hL2 2 (by decide) (by decide)) dL_law_684 ?_
  refine C_aload_n hO dL_law_685 rfl rfl ?_
  refine C_iload_n hO dL_law_686 rfl rfl ?_
  refine C_iconst (v := 3) hO dL_law_687 rfl ?_
  refine C_iadd hO dL_law_688 ?_
  refine C_sld hO hX hbl hnb (lw_in hi h6 hL2 3 (by decide) (by decide)) dL_law_689 ?_
  refine C_conR (As := [.int (sc (i3 + 1).toNatClampNeg), .int (sc (i3 + 2).toNatClampNeg), .int (sc (i3 + 3).toNatClampNeg)]) (rest := []) hO hWm dL_law_690 (jk_X5_film (Γ := (mkG (YL l D cA below b s) am SM (fun _ => True))) (d := 12) (by decide) hGm iM (Q := fun (r : Int32) u => IM κ0 u) (fun _ _ h => h)) cl_L_84 (i := 0) rfl rfl rfl (by exact Nat.le_of_ble_eq_true rfl) (by exact Nat.le_of_ble_eq_true rfl) (by exact Nat.le_of_ble_eq_true rfl) hkc hks (fun r w16m hq => ?_) rfl
  obtain ⟨vm, rfl, hvvm⟩ := hq
  refine CC.stk (st2 := [.int vm]) rfl ?_
  refine C_pop hO dL_law_693 rfl ?_
  refine C_goto (tgt := 1057) hO dL_law_694 (by decide) ?_
  exact next κ0 _ _ hby hvvc hvvm
theorem lwc_17 {l : Launch} {D : va_G} {cA : Nat → ClassId} {p : Program} {e : Env} {s : State} {m : MethodId} {b : Nat} {below : List Frame} {meth : Method} {c : Code} {ad am : Nat → Nat} {L i : Nat} {sc : Nat → Int32} {i3 : Int32} {wc wm : Wd} {kc ks : Nat} (hO : OKC (YL l D cA below b s) (p, e, s, m, #[Value.ref b], below, meth, c) RL code 4) (hWc : WIN (YL l D cA below b s) (p, e, s, m, #[Value.ref b], below, meth, c) ad SC (EXG ad)) (hWm : WIN (YL l D cA below b s) (p, e, s, m, #[Value.ref b], below, meth, c) am SM (fun _ => True)) (hX : va_X b L sc s s.heap) (hbl : b < s.heap.size) (hi : i3.toInt = i) (h6 : i + 6 ≤ L) (hL2 : L < 2147483647) (hkc : kc ≤ 600000) (hks : ks ≤ 7302250) (hGc : GC (mkG (YL l D cA below b s) ad SC (EXG ad))) (hGm : GM (mkG (YL l D cA below b s) am SM (fun _ => True))) {κ0 : Ky} (hby : byOK κ0) (iC : IC κ0 wc) (iM : IM κ0 wm) (next : ∀ (κ : Ky) (wc2 wm2 : Wd), byOK κ → IC κ wc2 → IM κ wm2 → CC (YL l D cA below b s) (p, e, s, m, #[Value.ref b], below, meth, c) 4 1057 [some (.ref b), some (.ref (ad 0)), some (.ref (am 0)), some (.int i3)] [] (gW (mkG (YL l D cA below b s) ad SC (EXG ad)) wc2 ++ gW (mkG (YL l D cA below b s) am SM (fun _ => True)) wm2) kc ks) : CC (YL l D cA below b s) (p, e, s, m, #[Value.ref b], below, meth, c) 4 697 [some (.ref b), some (.ref (ad 0)), some (.ref (am 0)), some (.int i3)] [] (gW (mkG (YL l D cA below b s) ad SC (EXG ad)) wc ++ gW (mkG (YL l D cA below b s) am SM (fun _ => True)) wm) kc ks := by
  have hnb : ¬ yF (YL l D cA below b s) b := Nat.not_le.mpr hbl
  refine C_aload_n hO dL_law_697 rfl rfl ?_
  refine C_aload_n hO dL_law_698 rfl rfl ?_
  refine C_iload_n hO dL_law_699 rfl rfl ?_
  refine C_iconst (v := 1) hO dL_law_700 rfl ?_
  refine C_iadd hO dL_law_701 ?_
  refine C_sld hO hX hbl hnb (lw_in hi h6 hL2 1 (by decide) (by decide)) dL_law_702 ?_
  refine C_conL (As := [.int (sc (i3 + 1).toNatClampNeg)]) (rest := []) hO hWc dL_law_703 (ic_X4_drawn (Γ := (mkG (YL l D cA below b s) ad SC (EXG ad))) (d := 60) (by decide) hGc iC (Q := fun (r : Int32) u => IC κ0 u) (fun _ _ h => h)) cl_L_85 (i := 0) rfl rfl rfl (by exact Nat.le_of_ble_eq_true rfl) (by exact Nat.le_of_ble_eq_true rfl) (by exact Nat.le_of_ble_eq_true rfl) hkc hks (fun r w17c hq => ?_) rfl
  obtain ⟨vc, rfl, hvvc⟩ := hq
  refine CC.stk (st2 := [.int vc]) rfl ?_
  refine C_pop hO dL_law_706 rfl ?_
  refine C_aload_n hO dL_law_707 rfl rfl ?_
  refine C_aload_n hO dL_law_708 rfl rfl ?_
  refine C_iload_n hO dL_law_709 rfl rfl ?_
  refine C_iconst (v := 1) hO dL_law_710 rfl ?_
  refine C_iadd hO dL_law_711 ?_
  refine C_sld hO hX hbl hnb (lw_in hi h6 hL2 1 (by decide) (by decide)) dL_law_712 ?_
  refine C_conR (As := [.int (sc (i3 + 1).toNatClampNeg)]) (rest := []) hO hWm dL_law_713 (jk_X5_drawn (Γ := (mkG (YL l D cA below b s) am SM (fun _ => True))) (d := 12) (by decide) hGm iM (Q := fun (r : Int32) u => IM κ0 u) (fun _ _ h => h)) cl_L_88 (i := 0) rfl rfl rfl (by exact Nat.le_of_ble_eq_true rfl) (by exact Nat.le_of_ble_eq_true rfl) (by exact Nat.le_of_ble_eq_true rfl) hkc hks (fun r w17m hq => ?_) rfl
  obtain ⟨vm, rfl, hvvm⟩ := hq
  refine CC.stk (st2 := [.int vm]) rfl ?_
  refine C_pop hO dL_law_716 rfl ?_
  refine C_goto (tgt := 1057) hO dL_law_717 (by decide) ?_
  exact next κ0 _ _ hby hvvc hvvm
theorem lwc_18 {l : Launch} {D : va_G} {cA : Nat → ClassId} {p : Program} {e : Env} {s : State} {m : MethodId} {b : Nat} {below : List Frame} {meth : Method} {c : Code} {ad am : Nat → Nat} {L i : Nat} {sc : Nat → Int32} {i3 : Int32} {wc wm : Wd} {kc ks : Nat} (hO : OKC (YL l D cA below b s) (p, e, s, m, #[Value.ref b], below, meth, c) RL code 4) (hWc : WIN (YL l D cA below b s) (p, e, s, m, #[Value.ref b], below, meth, c) ad SC (EXG ad)) (hWm : WIN (YL l D cA below b s) (p, e, s, m, #[Value.ref b], below, meth, c) am SM (fun _ => True)) (hX : va_X b L sc s s.heap) (hbl : b < s.heap.size) (hi : i3.toInt = i) (h6 : i + 6 ≤ L) (hL2 : L < 2147483647) (hkc : kc ≤ 600000) (hks : ks ≤ 7302250) (hGc : GC (mkG (YL l D cA below b s) ad SC (EXG ad))) (hGm : GM (mkG (YL l D cA below b s) am SM (fun _ => True))) {κ0 : Ky} (hby : byOK κ0) (iC : IC κ0 wc) (iM : IM κ0 wm) (next : ∀ (κ : Ky) (wc2 wm2 : Wd), byOK κ → IC κ wc2 → IM κ wm2 → CC (YL l D cA below b s) (p, e, s, m, #[Value.ref b], below, meth, c) 4 1057 [some (.ref b), some (.ref (ad 0)), some (.ref (am 0)), some (.int i3)] [] (gW (mkG (YL l D cA below b s) ad SC (EXG ad)) wc2 ++ gW (mkG (YL l D cA below b s) am SM (fun _ => True)) wm2) kc ks) : CC (YL l D cA below b s) (p, e, s, m, #[Value.ref b], below, meth, c) 4 720 [some (.ref b), some (.ref (ad 0)), some (.ref (am 0)), some (.int i3)] [] (gW (mkG (YL l D cA below b s) ad SC (EXG ad)) wc ++ gW (mkG (YL l D cA below b s) am SM (fun _ => True)) wm) kc ks := by
  have hnb : ¬ yF (YL l D cA below b s) b := Nat.not_le.mpr hbl
  refine C_aload_n hO dL_law_720 rfl rfl ?_
  refine C_aload_n hO dL_law_721 rfl rfl ?_
  refine C_iload_n hO dL_law_722 rfl rfl ?_
  refine C_iconst (v := 1) hO dL_law_723 rfl ?_
  refine C_iadd hO dL_law_724 ?_
  refine C_sld hO hX hbl hnb (lw_in hi h6 hL2 1 (by decide) (by decide)) dL_law_725 ?_
  refine C_aload_n hO dL_law_726 rfl rfl ?_
  refine C_iload_n hO dL_law_727 rfl rfl ?_
  refine C_iconst (v := 2) hO dL_law_728 rfl ?_
  refine C_iadd hO dL_law_729 ?_
  refine C_sld hO hX hbl hnb (lw_in hi h6 hL2 2 (by decide) (by decide)) dL_law_730 ?_
  refine C_aload_n hO dL_law_731 rfl rfl ?_
  refine C_iload_n hO dL_law_732 rfl rfl ?_
  refine C_iconst (v := 3) hO dL_law_733 rfl ?_
  refine C_iadd hO dL_law_734 ?_
  refine C_sld hO hX hbl hnb (lw_in hi h6 hL2 3 (by decide) (by decide)) dL_law_735 ?_
  refine C_aload_n hO dL_law_736 rfl rfl ?_
  refine C_iload_n hO dL_law_737 rfl rfl ?_
  refine C_iconst (v := 4) hO dL_law_738 rfl ?_
  refine C_iadd hO dL_law_739 ?_
  refine C_sld hO hX hbl hnb (lw_in hi h6 hL2 4 (by decide) (by decide)) dL_law_740 ?_
  refine C_conL (As := [.int (sc (i3 + 1).toNatClampNeg), .int (sc (i3 + 2).toNatClampNeg), .int (sc (i3 + 3).toNatClampNeg), .int (sc (i3 + 4).toNatClampNeg)]) (rest := []) hO hWc dL_law_741 (ic_X4_chance (Γ := (mkG (YL l D cA below b s) ad SC (EXG ad))) (d := 60) (by decide) hGc iC (Q := fun (r : Int64) u => IC κ0 u) (fun _ _ h => h)) cl_L_89 (i := 0) rfl rfl rfl (by exact Nat.le_of_ble_eq_true rfl) (by exact Nat.le_of_ble_eq_true rfl) (by exact Nat.le_of_ble_eq_true rfl) hkc hks (fun r w18c hq => ?_) rfl
  obtain ⟨vc, rfl, hvvc⟩ := hq
  refine CC.stk (st2 := [.long vc]) rfl ?_
  refine C_pop2 hO dL_law_744 ?_
  refine C_aload_n hO dL_law_745 rfl rfl ?_
  refine C_aload_n hO dL_law_746 rfl rfl ?_
  refine C_iload_n hO dL_law_747 rfl rfl ?_
  refine C_iconst (v := 1) hO dL_law_748 rfl ?_
  refine C_iadd hO dL_law_749 ?_
  refine C_sld hO hX hbl hnb (lw_in hi h6 hL2 1 (by decide) (by decide)) dL_law_750 ?_
  refine C_aload_n hO dL_law_751 rfl rfl ?_
  refine C_iload_n hO dL_law_752 rfl rfl ?_
  refine C_iconst (v := 2) hO dL_law_753 rfl ?_
  refine C_iadd hO dL_law_754 ?_
  refine C_sld hO hX hbl hnb (lw_in hi h6 hL2 2 (by decide) (by decide)) dL_law_755 ?_
  refine C_aload_n hO dL_law_756 rfl rfl ?_
  refine C_iload_n hO dL_law_757 rfl rfl ?_
  refine C_iconst (v := 3) hO dL_law_758 rfl ?_
  refine C_iadd hO dL_law_759 ?_
  refine C_sld hO hX hbl hnb (lw_in hi h6 hL2 3 (by decide) (by decide)) dL_law_760 ?_
  refine C_aload_n hO dL_law_761 rfl rfl ?_
  refine C_iload_n hO dL_law_762 rfl rfl ?_
  refine C_iconst (v := 4) hO dL_law_763 rfl ?_
  refine C_iadd hO dL_law_764 ?_
  refine C_sld hO hX hbl hnb (lw_in hi h6 hL2 4 (by decide) (by decide)) dL_law_765 ?_
  refine C_conR (As := [.int (sc (i3 + 1).toNatClampNeg), .int (sc (i3 + 2).toNatClampNeg), .int (sc (i3 + 3).toNatClampNeg), .int (sc (i3 + 4).toNatClampNeg)]) (rest := []) hO hWm dL_law_766 (jk_X5_chance (Γ := (mkG (YL l D cA below b s) am SM (fun _ => True))) (d := 12) (by decide) hGm iM (Q := fun (r : Int64) u => IM κ0 u) (fun _ _ h => h)) cl_L_93 (i := 0) rfl rfl rfl (by exact Nat.le_of_ble_eq_true rfl) (by exact Nat.le_of_ble_eq_true rfl) (by exact Nat.le_of_ble_eq_true rfl) hkc hks (fun r w18m hq => ?_) rfl
  obtain ⟨vm, rfl, hvvm⟩ := hq
  refine CC.stk (st2 := [.long vm]) rfl ?_
  refine C_pop2 hO dL_law_769 ?_
  refine C_goto (tgt := 1057) hO dL_law_770 (by decide) ?_
  exact next κ0 _ _ hby hvvc hvvm
theorem lwc_19 {l : Launch} {D : va_G} {cA : Nat → ClassId} {p : Program} {e : Env} {s : State} {m : MethodId} {b : Nat} {below : List Frame} {meth : Method} {c : Code} {ad am : Nat → Nat} {L i : Nat} {sc : Nat → Int32} {i3 : Int32} {wc wm : Wd} {kc ks : Nat} (hO : OKC (YL l D cA below b s) (p, e, s, m, #[Value.ref b], below, meth, c) RL code 4) (hWc : WIN (YL l D cA below b s) (p, e, s, m, #[Value.ref b], below, meth, c) ad SC (EXG ad)) (hWm : WIN (YL l D cA below b s) (p, e, s, m, #[Value.ref b], below, meth, c) am SM (fun _ => True)) (hX : va_X b L sc s s.heap) (hbl : b < s.heap.size) (hi : i3.toInt = i) (h6 : i + 6 ≤ L) (hL2 : L < 2147483647) (hkc : kc ≤ 600000) (hks : ks ≤ 7302250) (hGc : GC (mkG (YL l D cA below b s) ad SC (EXG ad))) (hGm : GM (mkG (YL l D cA below b s) am SM (fun _ => True))) {κ0 : Ky} (hby : byOK κ0) (iC : IC κ0 wc) (iM : IM κ0 wm) (next : ∀ (κ : Ky) (wc2 wm2 : Wd), byOK κ → IC κ wc2 → IM κ wm2 → CC (YL l D cA below b s) (p, e, s, m, #[Value.ref b], below, meth, c) 4 1057 [some (.ref b), some (.ref (ad 0)), some (.ref (am 0)), some (.int i3)] [] (gW (mkG (YL l D cA below b s) ad SC (EXG ad)) wc2 ++ gW (mkG (YL l D cA below b s) am SM (fun _ => True)) wm2) kc ks) : CC (YL l D cA below b s) (p, e, s, m, #[Value.ref b], below, meth, c) 4 773 [some (.ref b), some (.ref (ad 0)), some (.ref (am 0)), some (.int i3)] [] (gW (mkG (YL l D cA below b s) ad SC (EXG ad)) wc ++ gW (mkG (YL l D cA below b s) am SM (fun _ => True)) wm) kc ks := by
  have hnb : ¬ yF (YL l D cA below b s) b := Nat.not_le.mpr hbl
  refine C_aload_n hO dL_law_773 rfl rfl ?_
  refine C_conL (As := []) (rest := []) hO hWc dL_law_774 (ik_X4_image (Γ := (mkG (YL l D cA below b s) ad SC (EXG ad))) (d := 60) (by decide) hGc iC (Q := fun (r : Int32) u => IC (imageK κ0) u) (fun _ _ h => h)) cl_L_94 (i := 0) rfl rfl rfl (by exact Nat.le_of_ble_eq_true rfl) (by exact Nat.le_of_ble_eq_true rfl) (by exact Nat.le_of_ble_eq_true rfl) hkc hks (fun r w19c hq => ?_) rfl
  obtain ⟨vc, rfl, hvvc⟩ := hq
  refine CC.stk (st2 := [.int vc]) rfl ?_
  refine C_pop hO dL_law_777 rfl ?_
  refine C_aload_n hO dL_law_778 rfl rfl ?_
  refine C_conR (As := []) (rest := []) hO hWm dL_law_779 (jx_X5_image (Γ := (mkG (YL l D cA below b s) am SM (fun _ => True))) (d := 12) (by decide) hGm iM (Q := fun (r : Int32) u => IM (imageK κ0) u) (fun _ _ h => h)) cl_L_97 (i := 0) rfl rfl rfl (by exact Nat.le_of_ble_eq_true rfl) (by exact Nat.le_of_ble_eq_true rfl) (by exact Nat.le_of_ble_eq_true rfl) hkc hks (fun r w19m hq => ?_) rfl
  obtain ⟨vm, rfl, hvvm⟩ := hq
  refine CC.stk (st2 := [.int vm]) rfl ?_
  refine C_pop hO dL_law_782 rfl ?_
  refine C_goto (tgt := 1057) hO dL_law_783 (by decide) ?_
  exact next (imageK κ0) _ _ (hby.image) hvvc hvvm
theorem lwc_20 {l : Launch} {D : va_G} {cA : Nat → ClassId} {p : Program} {e : Env} {s : State} {m : MethodId} {b : Nat} {below : List Frame} {meth : Method} {c : Code} {ad am : Nat → Nat} {L i : Nat} {sc : Nat → Int32} {i3 : Int32} {wc wm : Wd} {kc ks : Nat} (hO : OKC (YL l D cA below b s) (p, e, s, m, #[Value.ref b], below, meth, c) RL code 4) (hWc : WIN (YL l D cA below b s) (p, e, s, m, #[Value.ref b], below, meth, c) ad SC (EXG ad)) (hWm : WIN (YL l D cA below b s) (p, e, s, m, #[Value.ref b], below, meth, c) am SM (fun _ => True)) (hX : va_X b L sc s s.heap) (hbl : b < s.heap.size) (hi : i3.toInt = i) (h6 : i + 6 ≤ L) (hL2 : L < 2147483647) (hkc : kc ≤ 600000) (hks : ks ≤ 7302250) (hGc : GC (mkG (YL l D cA below b s) ad SC (EXG ad))) (hGm : GM (mkG (YL l D cA below b s) am SM (fun _ => True))) {κ0 : Ky} (hby : byOK κ0) (iC : IC κ0 wc) (iM : IM κ0 wm) (next : ∀ (κ : Ky) (wc2 wm2 : Wd), byOK κ → IC κ wc2 → IM κ wm2 → CC (YL l D cA below b s) (p, e, s, m, #[Value.ref b], below, meth, c) 4 1057 [some (.ref b), some (.ref (ad 0)), some (.ref (am 0)), some (.int i3)] [] (gW (mkG (YL l D cA below b s) ad SC (EXG ad)) wc2 ++ gW (mkG (YL l D cA below b s) am SM (fun _ => True)) wm2) kc ks) : CC (YL l D cA below b s) (p, e, s, m, #[Value.ref b], below, meth, c) 4 786 [some (.ref b), some (.ref (ad 0)), some (.ref (am 0)), some (.int i3)] [] (gW (mkG (YL l D cA below b s) ad SC (EXG ad)) wc ++ gW (mkG (YL l D cA below b s) am SM (fun _ => True)) wm) kc ks := by
  have hnb : ¬ yF (YL l D cA below b s) b := Nat.not_le.mpr hbl
  refine C_aload_n hO dL_law_786 rfl rfl ?_
  refine C_conL (As := []) (rest := []) hO hWc dL_law_787 (ik_X4_back (Γ := (mkG (YL l D cA below b s) ad SC (EXG ad))) (d := 60) (by decide) hGc iC (Q := fun (r : Int32) u => IC (backK κ0) u) (fun _ _ h => h)) cl_L_98 (i := 0) rfl rfl rfl (by exact Nat.le_of_ble_eq_true rfl) (by exact Nat.le_of_ble_eq_true rfl) (by exact Nat.le_of_ble_eq_true rfl) hkc hks (fun r w20c hq => ?_) rfl
  obtain ⟨vc, rfl, hvvc⟩ := hq
  refine CC.stk (st2 := [.int vc]) rfl ?_
  refine C_pop hO dL_law_790 rfl ?_
  refine C_aload_n hO dL_law_791 rfl rfl ?_
  refine C_conR (As := []) (rest := []) hO hWm dL_law_792 (jx_X5_back (Γ := (mkG (YL l D cA below b s) am SM (fun _ => True))) (d := 12) (by decide) hGm iM (Q := fun (r : Int32) u => IM (backK κ0) u) (fun _ _ h => h)) cl_L_101 (i := 0) rfl rfl rfl (by exact Nat.le_of_ble_eq_true rfl) (by exact Nat.le_of_ble_eq_true rfl) (by exact Nat.le_of_ble_eq_true rfl) hkc hks (fun r w20m hq => ?_) rfl
  obtain ⟨vm, rfl, hvvm⟩ := hq
  refine CC.stk (st2 := [.int vm]) rfl ?_
  refine C_pop hO dL_law_795 rfl ?_
  refine C_goto (tgt := 1057) hO dL_law_796 (by decide) ?_
  exact next (backK κ0) _ _ (hby.back) hvvc hvvm
theorem lwc_21 {l : Launch} {D : va_G} {cA : Nat → ClassId} {p : Program} {e : Env} {s : State} {m : MethodId} {b : Nat} {below : List Frame} {meth : Method} {c : Code} {ad am : Nat → Nat} {L i : Nat} {sc : Nat → Int32} {i3 : Int32} {wc wm : Wd} {kc ks : Nat} (hO : OKC (YL l D cA below b s) (p, e, s, m, #[Value.ref b], below, meth, c) RL code 4) (hWc : WIN (YL l D cA below b s) (p, e, s, m, #[Value.ref b], below, meth, c) ad SC (EXG ad)) (hWm : WIN (YL l D cA below b s) (p, e, s, m, #[Value.ref b], below, meth, c) am SM (fun _ => True)) (hX : va_X b L sc s s.heap) (hbl : b < s.heap.size) (hi : i3.toInt = i) (h6 : i + 6 ≤ L) (hL2 : L < 2147483647) (hkc : kc ≤ 600000) (hks : ks ≤ 7302250) (hGc : GC (mkG (YL l D cA below b s) ad SC (EXG ad))) (hGm : GM (mkG (YL l D cA below b s) am SM (fun _ => True))) {κ0 : Ky} (hby : byOK κ0) (iC : IC κ0 wc) (iM : IM κ0 wm) (next : ∀ (κ : Ky) (wc2 wm2 : Wd), byOK κ → IC κ wc2 → IM κ wm2 → CC (YL l D cA below b s) (p, e, s, m, #[Value.ref b], below, meth, c) 4 1057 [some (.ref b), some (.ref (ad 0)), some (.ref (am 0)), some (.int i3)] [] (gW (mkG (YL l D cA below b s) ad SC (EXG ad)) wc2 ++ gW (mkG (YL l D cA below b s) am SM (fun _ => True)) wm2) kc ks) : CC (YL l D cA below b s) (p, e, s, m, #[Value.ref b], below, meth, c) 4 799 [some (.ref b), some (.ref (ad 0)), some (.ref (am 0)), some (.int i3)] [] (gW (mkG (YL l D cA below b s) ad SC (EXG ad)) wc ++ gW (mkG (YL l D cA below b s) am SM (fun _ => True)) wm) kc ks := by
  have hnb : ¬ yF (YL l D cA below b s) b := Nat.not_le.mpr hbl
  refine C_aload_n hO dL_law_799 rfl rfl ?_
  refine C_aload_n hO dL_law_800 rfl rfl ?_
  refine C_iload_n hO dL_law_801 rfl rfl ?_
  refine C_iconst (v := 1) hO dL_law_802 rfl ?_
  refine C_iadd hO dL_law_803 ?_
  refine C_sld hO hX hbl hnb (lw_in hi h6 hL2 1 (by decide) (by decide)) dL_law_804 ?_
  refine C_conL (As := [.int (sc (i3 + 1).toNatClampNeg)]) (rest := []) hO hWc dL_law_805 (ic_X4_count (Γ := (mkG (YL l D cA below b s) ad SC (EXG ad))) (d := 60) (by decide) hGc iC (Q := fun (r : Int32) u => IC κ0 u) (fun _ _ h => h)) cl_L_102 (i := 0) rfl rfl rfl (by exact Nat.le_of_ble_eq_true rfl) (by exact Nat.le_of_ble_eq_true rfl) (by exact Nat.le_of_ble_eq_true rfl) hkc hks (fun r w21c hq => ?_) rfl
  obtain ⟨vc, rfl, hvvc⟩ := hq
  refine CC.stk (st2 := [.int vc]) rfl ?_
  refine C_pop hO dL_law_808 rfl ?_
  refine C_aload_n hO dL_law_809 rfl rfl ?_
  refine C_aload_n hO dL_law_810 rfl rfl ?_
  refine C_iload_n hO dL_law_811 rfl rfl ?_
  refine C_iconst (v := 1) hO dL_law_812 rfl ?_
  refine C_iadd hO dL_law_813 ?_
  refine C_sld hO hX hbl hnb (lw_in hi h6 hL2 1 (by decide) (by decide)) dL_law_814 ?_
  refine C_conR (As := [.int (sc (i3 + 1).toNatClampNeg)]) (rest := []) hO hWm dL_law_815 (jk_X5_count (Γ := (mkG (YL l D cA below b s) am SM (fun _ => True))) (d := 12) (by decide) hGm iM (Q := fun (r : Int32) u => IM κ0 u) (fun _ _ h => h)) cl_L_105 (i := 0) rfl rfl rfl (by exact Nat.le_of_ble_eq_true rfl) (by exact Nat.le_of_ble_eq_true rfl) (by exact Nat.le_of_ble_eq_true rfl) hkc hks (fun r w21m hq => ?_) rfl
  obtain ⟨vm, rfl, hvvm⟩ := hq
  refine CC.stk (st2 := [.int vm]) rfl ?_
  refine C_pop hO dL_law_818 rfl ?_
  refine C_goto (tgt := 1057) hO dL_law_819 (by decide) ?_
  exact next κ0 _ _ hby hvvc hvvm
theorem lwc_22 {l : Launch} {D : va_G} {cA : Nat → ClassId} {p : Program} {e : Env} {s : State} {m : MethodId} {b : Nat} {below : List Frame} {meth : Method} {c : Code} {ad am : Nat → Nat} {L i : Nat} {sc : Nat → Int32} {i3 : Int32} {wc wm : Wd} {kc ks : Nat} (hO : OKC (YL l D cA below b s) (p, e, s, m, #[Value.ref b], below, meth, c) RL code 4) (hWc : WIN (YL l D cA below b s) (p, e, s, m, #[Value.ref b], below, meth, c) ad SC (EXG ad)) (hWm : WIN (YL l D cA below b s) (p, e, s, m, #[Value.ref b], below, meth, c) am SM (fun _ => True)) (hX : va_X b L sc s s.heap) (hbl : b < s.heap.size) (hi : i3.toInt = i) (h6 : i + 6 ≤ L) (hL2 : L < 2147483647) (hkc : kc ≤ 600000) (hks : ks ≤ 7302250) (hGc : GC (mkG (YL l D cA below b s) ad SC (EXG ad))) (hGm : GM (mkG (YL l D cA below b s) am SM (fun _ => True))) {κ0 : Ky} (hby : byOK κ0) (iC : IC κ0 wc) (iM : IM κ0 wm) (next : ∀ (κ : Ky) (wc2 wm2 : Wd), byOK κ → IC κ wc2 → IM κ wm2 → CC (YL l D cA below b s) (p, e, s, m, #[Value.ref b], below, meth, c) 4 1057 [some (.ref b), some (.ref (ad 0)), some (.ref (am 0)), some (.int i3)] [] (gW (mkG (YL l D cA below b s) ad SC (EXG ad)) wc2 ++ gW (mkG (YL l D cA below b s) am SM (fun _ => True)) wm2) kc ks) : CC (YL l D cA below b s) (p, e, s, m, #[Value.ref b], below, meth, c) 4 822 [some (.ref b), some (.ref (ad 0)), some (.ref (am 0)), some (.int i3)] [] (gW (mkG (YL l D cA below b s) ad SC (EXG ad)) wc ++ gW (mkG (YL l D cA below b s) am SM (fun _ => True)) wm) kc ks := by
  have hnb : ¬ yF (YL l D cA below b s) b := Nat.not_le.mpr hbl
  refine C_aload_n hO dL_law_822 rfl rfl ?_
  refine C_aload_n hO dL_law_823 rfl rfl ?_
  refine C_iload_n hO dL_law_824 rfl rfl ?_
  refine C_iconst (v := 1) hO dL_law_825 rfl ?_
  refine C_iadd hO dL_law_826 ?_
  refine C_sld hO hX hbl hnb (lw_in hi h6 hL2 1 (by decide) (by decide)) dL_law_827 ?_
  refine C_aload_n hO dL_law_828 rfl rfl ?_
  refine C_iload_n hO dL_law_829 rfl rfl ?_
  refine C_iconst (v := 2) hO dL_law_830 rfl ?_
  refine C_iadd hO dL_law_831 ?_
  refine C_sld hO hX hbl hnb (lw_in hi h6 hL2 2 (by decide) (by decide)) dL_law_832 ?_
  refine C_aload_n hO dL_law_833 rfl rfl ?_
  refine C_iload_n hO dL_law_834 rfl rfl ?_
  refine C_iconst (v := 3) hO dL_law_835 rfl ?_
  refine C_iadd hO dL_law_836 ?_
  refine C_sld hO hX hbl hnb (lw_in hi h6 hL2 3 (by decide) (by decide)) dL_law_837 ?_
  refine C_conL (As := [.int (sc (i3 + 1).toNatClampNeg), .int (sc (i3 + 2).toNatClampNeg), .int (sc (i3 + 3).toNatClampNeg)]) (rest := []) hO hWc dL_law_838 (ic_X4_sheet (Γ := (mkG (YL l D cA below b s) ad SC (EXG ad))) (d := 60) (by decide) hGc iC (Q := fun (r : Int32) u => IC κ0 u) (fun _ _ h _ => h)) cl_L_106 (i := 0) rfl rfl rfl (by exact Nat.le_of_ble_eq_true rfl) (by exact Nat.le_of_ble_eq_true rfl) (by exact Nat.le_of_ble_eq_true rfl) hkc hks (fun r w22c hq => ?_) rfl
  obtain ⟨vc, rfl, hvvc⟩ := hq
  refine CC.stk (st2 := [.int vc]) rfl ?_
  refine C_pop hO dL_law_841 rfl ?_
  refine C_aload_n hO dL_law_842 rfl rfl ?_
  refine C_aload_n hO dL_law_843 rfl rfl ?_
  refine C_iload_n hO dL_law_844 rfl rfl ?_
  refine C_iconst (v := 1) hO dL_law_845 rfl ?_
  refine C_iadd hO dL_law_846 ?_
  refine C_sld hO hX hbl hnb (lw_in hi h6 hL2 1 (by decide) (by decide)) dL_law_847 ?_
  refine C_aload_n hO dL_law_848 rfl rfl ?_
  refine C_iload_n hO dL_law_849 rfl rfl ?_
  refine C_iconst (v := 2) hO dL_law_850 rfl ?_
  refine C_iadd hO dL_law_851 ?_
  refine C_sld hO hX hbl hnb (lw_in hi h6 hL2 2 (by decide) (by decide)) dL_law_852 ?_
  refine C_aload_n hO dL_law_853 rfl rfl ?_
  refine C_iload_n hO dL_law_854 rfl rfl ?_
  refine C_iconst (v := 3) hO dL_law_855 rfl ?_
  refine C_iadd hO dL_law_856 ?_
  refine C_sld hO hX hbl hnb (lw_in hi h6 hL2 3 (by decide) (by decide)) dL_law_857 ?_
  refine C_conR (As := [.int (sc (i3 + 1).toNatClampNeg), .int (sc (i3 + 2).toNatClampNeg), .int (sc (i3 + 3).toNatClampNeg)]) (rest := []) hO hWm dL_law_858 (jk_X5_sheet (Γ := (mkG (YL l D cA below b s) am SM (fun _ => True))) (d := 12) (by decide) hGm iM (Q := fun (r : Int32) u => IM κ0 u) (fun _ _ h _ => h)) cl_L_109 (i := 0) rfl rfl rfl (by exact Nat.le_of_ble_eq_true rfl) (by exact Nat.le_of_ble_eq_true rfl) (by exact Nat.le_of_ble_eq_true rfl) hkc hks (fun r w22m hq => ?_) rfl
  obtain ⟨vm, rfl, hvvm⟩ := hq
  refine CC.stk (st2 := [.int vm]) rfl ?_
  refine C_pop hO dL_law_861 rfl ?_
  refine C_goto (tgt := 1057) hO dL_law_862 (by decide) ?_
  exact next κ0 _ _ hby hvvc hvvm
theorem lwc_23 {l : Launch} {D : va_G} {cA : Nat → ClassId} {p : Program} {e : Env} {s : State} {m : MethodId} {b : Nat} {below : List Frame} {meth : Method} {c : Code} {ad am : Nat → Nat} {L i : Nat} {sc : Nat → Int32} {i3 : Int32} {wc wm : Wd} {kc ks : Nat} (hO : OKC (YL l D cA below b s) (p, e, s, m, #[Value.ref b], below, meth, c) RL code 4) (hWc : WIN (YL l D cA below b s) (p, e, s, m, #[Value.ref b], below, meth, c) ad SC (EXG ad)) (hWm : WIN (YL l D cA below b s) (p, e, s, m, #[Value.ref b], below, meth, c) am SM (fun _ => True)) (hX : va_X b L sc s s.heap) (hbl : b < s.heap.size) (hi : i3.toInt = i) (h6 : i + 6 ≤ L) (hL2 : L < 2147483647) (hkc : kc ≤ 600000) (hks : ks ≤ 7302250) (hGc : GC (mkG (YL l D cA below b s) ad SC (EXG ad))) (hGm : GM (mkG (YL l D cA below b s) am SM (fun _ => True))) {κ0 : Ky} (hby : byOK κ0) (iC : IC κ0 wc) (iM : IM κ0 wm) (next : ∀ (κ : Ky) (wc2 wm2 : Wd), byOK κ → IC κ wc2 → IM κ wm2 → CC (YL l D cA below b s) (p, e, s, m, #[Value.ref b], below, meth, c) 4 1057 [some (.ref b), some (.ref (ad 0)), some (.ref (am 0)), some (.int i3)] [] (gW (mkG (YL l D cA below b s) ad SC (EXG ad)) wc2 ++ gW (mkG (YL l D cA below b s) am SM (fun _ => True)) wm2) kc ks) : CC (YL l D cA below b s) (p, e, s, m, #[Value.ref b], below, meth, c) 4 865 [some (.ref b), some (.ref (ad 0)), some (.ref (am 0)), some (.int i3)] [] (gW (mkG (YL l D cA below b s) ad SC (EXG ad)) wc ++ gW (mkG (YL l D cA below b s) am SM (fun _ => True)) wm) kc ks := by
  have hnb : ¬ yF (YL l D cA below b s) b := Nat.not_le.mpr hbl
  refine C_aload_n hO dL_law_865 rfl rfl ?_
  refine C_aload_n hO dL_law_866 rfl rfl ?_
  refine C_iload_n hO dL_law_867 rfl rfl ?_
  refine C_iconst (v := 1) hO dL_law_868 rfl ?_
  refine C_iadd hO dL_law_869 ?_
  refine C_sld hO hX hbl hnb (lw_in hi h6 hL2 1 (by decide) (by decide)) dL_law_870 ?_
  refine C_aload_n hO dL_law_871 rfl rfl ?_
  refine C_iload_n hO dL_law_872 rfl rfl ?_
  refine C_iconst (v := 2) hO dL_law_873 rfl ?_
  refine C_iadd hO dL_law_874 ?_
  refine C_sld hO hX hbl hnb (lw_in hi h6 hL2 2 (by decide) (by decide)) dL_law_875 ?_
  refine C_aload_n hO dL_law_876 rfl rfl ?_
  refine C_iload_n hO dL_law_877 rfl rfl ?_
  refine C_iconst (v := 3) hO dL_law_878 rfl ?_
  refine C_iadd hO dL_law_879 ?_
  refine C_sld hO hX hbl hnb (lw_in hi h6 hL2 3 (by decide) (by decide)) dL_law_880 ?_
  refine C_conL (As := [.int (sc (i3 + 1).toNatClampNeg), .int (sc (i3 + 2).toNatClampNeg), .int (sc (i3 + 3).toNatClampNeg)]) (rest := []) hO hWc dL_law_881 (ic_X4_cell (Γ := (mkG (YL l D cA below b s) ad SC (EXG ad))) (d := 60) (by decide) hGc iC (Q := fun (r : Int32) u => IC κ0 u) (fun _ _ h => h)) cl_L_110 (i := 0) rfl rfl rfl (by exact Nat.le_of_ble_eq_true rfl) (by exact Nat.le_of_ble_eq_true rfl) (by exact Nat.le_of_ble_eq_true rfl) hkc hks (fun r w23c hq => ?_) rfl
  obtain ⟨vc, rfl, hvvc⟩ := hq
  refine CC.stk (st2 := [.int vc]) rfl ?_
  refine C_pop hO dL_law_884 rfl ?_
  refine C_aload_n hO dL_law_885 rfl rfl ?_
  refine C_aload_n hO dL_law_886 rfl rfl ?_
  refine C_iload_n hO dL_law_887 rfl rfl ?_
  refine C_iconst (v := 1) hO dL_law_888 rfl ?_
  refine C_iadd hO dL_law_889 ?_
  refine C_sld hO hX hbl hnb (lw_in hi h6 hL2 1 (by decide) (by decide)) dL_law_890 ?_
  refine C_aload_n hO dL_law_891 rfl rfl ?_
  refine C_iload_n hO dL_law_892 rfl rfl ?_
  refine C_iconst (v := 2) hO dL_law_893 rfl ?_
  refine C_iadd hO dL_law_894 ?_
  refine C_sld hO hX hbl hnb (lw_in hi h6 hL2 2 (by decide) (by decide)) dL_law_895 ?_
  refine C_aload_n hO dL_law_896 rfl rfl ?_
  refine C_iload_n hO dL_law_897 rfl rfl ?_
  refine C_iconst (v := 3) hO dL_law_898 rfl ?_
  refine C_iadd hO dL_law_899 ?_
  refine C_sld hO hX hbl hnb (lw_in hi h6 hL2 3 (by decide) (by decide)) dL_law_900 ?_
  refine C_conR (As := [.int (sc (i3 + 1).toNatClampNeg), .int (sc (i3 + 2).toNatClampNeg), .int (sc (i3 + 3).toNatClampNeg)]) (rest := []) hO hWm dL_law_901 (jk_X5_cell (Γ := (mkG (YL l D cA below b s) am SM (fun _ => True))) (d := 12) (by decide) hGm iM (Q := fun (r : Int32) u => IM κ0 u) (fun _ _ h => h)) cl_L_113 (i := 0) rfl rfl rfl (by exact Nat.le_of_ble_eq_true rfl) (by exact Nat.le_of_ble_eq_true rfl) (by exact Nat.le_of_ble_eq_true rfl) hkc hks (fun r w23m hq => ?_) rfl
  obtain ⟨vm, rfl, hvvm⟩ := hq
  refine CC.stk (st2 := [.int vm]) rfl ?_
  refine C_pop hO dL_law_904 rfl ?_
  refine C_goto (tgt := 1057) hO dL_law_905 (by decide) ?_
  exact next κ0 _ _ hby hvvc hvvm
theorem lwc_24 {l : Launch} {D : va_G} {cA : Nat → ClassId} {p : Program} {e : Env} {s : State} {m : MethodId} {b : Nat} {below : List Frame} {meth : Method} {c : Code} {ad am : Nat → Nat} {L i : Nat} {sc : Nat → Int32} {i3 : Int32} {wc wm : Wd} {kc ks : Nat} (hO : OKC (YL l D cA below b s) (p, e, s, m, #[Value.ref b], below, meth, c) RL code 4) (hWc : WIN (YL l D cA below b s) (p, e, s, m, #[Value.ref b], below, meth, c) ad SC (EXG ad)) (hWm : WIN (YL l D cA below b s) (p, e, s, m, #[Value.ref b], below, meth, c) am SM (fun _ => True)) (hX : va_X b L sc s s.heap) (hbl : b < s.heap.size) (hi : i3.toInt = i) (h6 : i + 6 ≤ L) (hL2 : L < 2147483647) (hkc : kc ≤ 600000) (hks : ks ≤ 7302250) (hGc : GC (mkG (YL l D cA below b s) ad SC (EXG ad))) (hGm : GM (mkG (YL l D cA below b s) am SM (fun _ => True))) {κ0 : Ky} (hby : byOK κ0) (iC : IC κ0 wc) (iM : IM κ0 wm) (next : ∀ (κ : Ky) (wc2 wm2 : Wd), byOK κ → IC κ wc2 → IM κ wm2 → CC (YL l D cA below b s) (p, e, s, m, #[Value.ref b], below, meth, c) 4 1057 [some (.ref b), some (.ref (ad 0)), some (.ref (am 0)), some (.int i3)] [] (gW (mkG (YL l D cA below b s) ad SC (EXG ad)) wc2 ++ gW (mkG (YL l D cA below b s) am SM (fun _ => True)) wm2) kc ks) : CC (YL l D cA below b s) (p, e, s, m, #[Value.ref b], below, meth, c) 4 908 [some (.ref b), some (.ref (ad 0)), some (.ref (am 0)), some (.int i3)] [] (gW (mkG (YL l D cA below b s) ad SC (EXG ad)) wc ++ gW (mkG (YL l D cA below b s) am SM (fun _ => True)) wm) kc ks := by
  have hnb : ¬ yF (YL l D cA below b s) b := Nat.not_le.mpr hbl
  refine C_aload_n hO dL_law_908 rfl rfl ?_
  refine C_aload_n hO dL_law_909 rfl rfl ?_
  refine C_iload_n hO dL_law_910 rfl rfl ?_
  refine C_iconst (v := 1) hO dL_law_911 rfl ?_
  refine C_iadd hO dL_law_912 ?_
  refine C_sld hO hX hbl hnb (lw_in hi h6 hL2 1 (by decide) (by decide)) dL_law_913 ?_
  refine C_aload_n hO dL_law_914 rfl rfl ?_
  refine C_iload_n hO dL_law_915 rfl rfl ?_
  refine C_iconst (v := 2) hO dL_law_916 rfl ?_
  refine C_iadd hO dL_law_917 ?_
  refine C_sld hO hX hbl hnb (lw_in hi h6 hL2 2 (by decide) (by decide)) dL_law_918 ?_
  refine C_aload_n hO dL_law_919 rfl rfl ?_
  refine C_iload_n hO dL_law_920 rfl rfl ?_
  refine C_iconst (v := 3) hO dL_law_921 rfl ?_
  refine C_iadd hO dL_law_922 ?_
  refine C_sld hO hX hbl hnb (lw_in hi h6 hL2 3 (by decide) (by decide)) dL_law_923 ?_
  refine C_aload_n hO dL_law_924 rfl rfl ?_
  refine C_iload_n hO dL_law_925 rfl rfl ?_
  refine C_iconst (v := 4) hO dL_law_926 rfl ?_
  refine C_iadd hO dL_law_927 ?_
  refine C_sld hO hX hbl hnb (lw_in hi h6 hL2 4 (by decide) (by decide)) dL_law_928 ?_
  refine C_aload_n hO dL_law_929 rfl rfl ?_
  refine C_iload_n hO dL_law_930 rfl rfl ?_
  refine C_iconst (v := 5) hO dL_law_931 rfl ?_
  refine C_iadd hO dL_law_932 ?_
  refine C_sld hO hX hbl hnb (lw_in hi h6 hL2 5 (by decide) (by decide)) dL_law_933 ?_
  refine C_conL (As := [.int (sc (i3 + 1).toNatClampNeg), .int (sc (i3 + 2).toNatClampNeg), .int (sc (i3 + 3).toNatClampNeg), .int (sc (i3 + 4).toNatClampNeg), .int (sc (i3 + 5).toNatClampNeg)]) (rest := []) hO hWc dL_law_934 (ic_X4_copy (Γ := (mkG (YL l D cA below b s) ad SC (EXG ad))) (d := 60) (by decide) hGc iC (Q := fun (r : Int32) u => IC κ0 u) (fun _ _ h => h)) cl_L_114 (i := 0) rfl rfl rfl (by exact Nat.le_of_ble_eq_true rfl) (by exact Nat.le_of_ble_eq_true rfl) (by exact Nat.le_of_ble_eq_true rfl) hkc hks (fun r w24c hq => ?_) rfl
  obtain ⟨vc, rfl, hvvc⟩ := hq
  refine CC.stk (st2 := [.int vc]) rfl ?_
  refine C_pop hO dL_law_937 rfl ?_
  refine C_aload_n hO dL_law_938 rfl rfl ?_
  refine C_aload_n hO dL_law_939 rfl rfl ?_
  refine C_iload_n hO dL_law_940 rfl rfl ?_
  refine C_iconst (v := 1) hO dL_law_941 rfl ?_
  refine C_iadd hO dL_law_942 ?_
  refine C_sld hO hX hbl hnb (lw_in hi h6 hL2 1 (by decide) (by decide)) dL_law_943 ?_
  refine C_aload_n hO dL_law_944 rfl rfl ?_
  refine C_iload_n hO dL_law_945 rfl rfl ?_
  refine C_iconst (v := 2) hO dL_law_946 rfl ?_
  refine C_iadd hO dL_law_947 ?_
  refine C_sld hO hX hbl hnb (lw_in hi h6 hL2 2 (by decide) (by decide)) dL_law_948 ?_
  refine C_aload_n hO dL_law_949 rfl rfl ?_
  refine C_iload_n hO dL_law_950 rfl rfl ?_
  refine C_iconst (v := 3) hO dL_law_951 rfl ?_
  refine C_iadd hO dL_law_952 ?_
  refine C_sld hO hX hbl hnb (lw_in hi h6 hL2 3 (by decide) (by decide)) dL_law_953 ?_
  refine C_aload_n hO dL_law_954 rfl rfl ?_
  refine C_iload_n hO dL_law_955 rfl rfl ?_
  refine C_iconst (v := 4) hO dL_law_956 rfl ?_
  refine C_iadd hO dL_law_957 ?_
  refine C_sld hO hX hbl hnb (lw_in hi h6 hL2 4 (by decide) (by decide)) dL_law_958 ?_
  refine C_aload_n hO dL_law_959 rfl rfl ?_
  refine C_iload_n hO dL_law_960 rfl rfl ?_
  refine C_iconst (v := 5) hO dL_law_961 rfl ?_
  refine C_iadd hO dL_law_962 ?_
  refine C_sld hO hX hbl hnb (lw_in hi h6 hL2 5 (by decide) (by decide)) dL_law_963 ?_
  refine C_conR (As := [.int (sc (i3 + 1).toNatClampNeg), .int (sc (i3 + 2).toNatClampNeg), .int (sc (i3 + 3).toNatClampNeg), .int (sc (i3 + 4).toNatClampNeg), .int (sc (i3 + 5).toNatClampNeg)]) (rest := []) hO hWm dL_law_964 (jk_X5_copy (Γ := (mkG (YL l D cA below b s) am SM (fun _ => True))) (d := 12) (by decide) hGm iM (Q := fun (r : Int32) u => IM κ0 u) (fun _ _ h => h)) cl_L_118 (i := 0) rfl rfl rfl (by exact Nat.le_of_ble_eq_true rfl) (by exact Nat.le_of_ble_eq_true rfl) (by exact Nat.le_of_ble_eq_true rfl) hkc hks (fun r w24m hq => ?_) rfl
  obtain ⟨vm, rfl, hvvm⟩ := hq
  refine CC.stk (st2 := [.int vm]) rfl ?_
  refine C_pop hO dL_law_967 rfl ?_
  refine C_goto (tgt := 1057) hO dL_law_968 (by decide) ?_
  exact next κ0 _ _ hby hvvc hvvm
theorem lwc_25 {l : Launch} {D : va_G} {cA : Nat → ClassId} {p : Program} {e : Env} {s : State} {m : MethodId} {b : Nat} {below : List Frame} {meth : Method} {c : Code} {ad am : Nat → Nat} {L i : Nat} {sc : Nat → Int32} {i3 : Int32} {wc wm : Wd} {kc ks : Nat} (hO : OKC (YL l D cA below b s) (p, e, s, m, #[Value.ref b], below, meth, c) RL code 4) (hWc : WIN (YL l D cA below b s) (p, e, s, m, #[Value.ref b], below, meth, c) ad SC (EXG ad)) (hWm : WIN (YL l D cA below b s) (p, e, s, m, #[Value.ref b], below, meth, c) am SM (fun _ => True)) (hX : va_X b L sc s s.heap) (hbl : b < s.heap.size) (hi : i3.toInt = i) (h6 : i + 6 ≤ L) (hL2 : L < 2147483647) (hkc : kc ≤ 600000) (hks : ks ≤ 7302250) (hGc : GC (mkG (YL l D cA below b s) ad SC (EXG ad))) (hGm : GM (mkG (YL l D cA below b s) am SM (fun _ => True))) {κ0 : Ky} (hby : byOK κ0) (iC : IC κ0 wc) (iM : IM κ0 wm) (next : ∀ (κ : Ky) (wc2 wm2 : Wd), byOK κ → IC κ wc2 → IM κ wm2 → CC (YL l D cA below b s) (p, e, s, m, #[Value.ref b], below, meth, c) 4 1057 [some (.ref b), some (.ref (ad 0)), some (.ref (am 0)), some (.int i3)] [] (gW (mkG (YL l D cA below b s) ad SC (EXG ad)) wc2 ++ gW (mkG (YL l D cA below b s) am SM (fun _ => True)) wm2) kc ks) : CC (YL l D cA below b s) (p, e, s, m, #[Value.ref b], below, meth, c) 4 971 [some (.ref b), some (.ref (ad 0)), some (.ref (am 0)), some (.int i3)] [] (gW (mkG (YL l D cA below b s) ad SC (EXG ad)) wc ++ gW (mkG (YL l D cA below b s) am SM (fun _ => True)) wm) kc ks := by
  have hnb : ¬ yF (YL l D cA below b s) b := Nat.not_le.mpr hbl
  refine C_aload_n hO dL_law_971 rfl rfl ?_
  refine C_aload_n hO dL_law_972 rfl rfl ?_
  refine C_iload_n hO dL_law_973 rfl rfl ?_
  refine C_iconst (v := 1) hO dL_law_974 rfl ?_
  refine C_iadd hO dL_law_975 ?_
  refine C_sld hO hX hbl hnb (lw_in hi h6 hL2 1 (by decide) (by decide)) dL_law_976 ?_
  refine C_aload_n hO dL_law_977 rfl rfl ?_
  refine C_iload_n hO dL_law_978 rfl rfl ?_
  refine C_iconst (v := 2) hO dL_law_979 rfl ?_
  refine C_iadd hO dL_law_980 ?_
  refine C_sld hO hX hbl hnb (lw_in hi h6 hL2 2 (by decide) (by decide)) dL_law_981 ?_
  refine C_aload_n hO dL_law_982 rfl rfl ?_
  refine C_iload_n hO dL_law_983 rfl rfl ?_
  refine C_iconst (v := 3) hO dL_law_984 rfl ?_
  refine C_iadd hO dL_law_985 ?_
  refine C_sld hO hX hbl hnb (lw_in hi h6 hL2 3 (by decide) (by decide)) dL_law_986 ?_
  refine C_aload_n hO dL_law_987 rfl rfl ?_
  refine C_iload_n hO dL_law_988 rfl rfl ?_
  refine C_iconst (v := 4) hO dL_law_989 rfl ?_
  refine C_iadd hO dL_law_990 ?_
  refine C_sld hO hX hbl hnb (lw_in hi h6 hL2 4 (by decide) (by decide)) dL_law_991 ?_
  refine C_conL (As := [.int (sc (i3 + 1).toNatClampNeg), .int (sc (i3 + 2).toNatClampNeg), .int (sc (i3 + 3).toNatClampNeg), .int (sc (i3 + 4).toNatClampNeg)]) (rest := []) hO hWc dL_law_992 (ic_X4_people (Γ := (mkG (YL l D cA below b s) ad SC (EXG ad))) (d := 60) (by decide) hGc iC (Q := fun (r : Int32) u => IC κ0 u) (fun _ _ h => h)) cl_L_119 (i := 0) rfl rfl rfl (by exact Nat.le_of_ble_eq_true rfl) (by exact Nat.le_of_ble_eq_true rfl) (by exact Nat.le_of_ble_eq_true rfl) hkc hks (fun r w25c hq => ?_) rfl
  obtain ⟨vc, rfl, hvvc⟩ := hq
  refine CC.stk (st2 := [.int vc]) rfl ?_
  refine C_pop hO dL_law_995 rfl ?_
  refine C_aload_n hO dL_law_996 rfl rfl ?_
  refine C_aload_n hO dL_law_997 rfl rfl ?_
  refine C_iload_n hO dL_law_998 rfl rfl ?_
  refine C_iconst (v := 1) hO dL_law_999 rfl ?_
  refine C_iadd hO dL_law_1000 ?_
  refine C_sld hO hX hbl hnb (lw_in hi h6 hL2 1 (by decide) (by decide)) dL_law_1001 ?_
  refine C_aload_n hO dL_law_1002 rfl rfl ?_
  refine C_iload_n hO dL_law_1003 rfl rfl ?_
  refine C_iconst (v := 2) hO dL_law_1004 rfl ?_
  refine C_iadd hO dL_law_1005 ?_
  refine C_sld hO hX hbl hnb (lw_in hi h6 hL2 2 (by decide) (by decide)) dL_law_1006 ?_
  refine C_aload_n hO dL_law_1007 rfl rfl ?_
  refine C_iload_n hO dL_law_1008 rfl rfl ?_
  refine C_iconst (v := 3) hO dL_law_1009 rfl ?_
  refine C_iadd hO dL_law_1010 ?_
  refine C_sld hO hX hbl hnb (lw_in hi h6 hL2 3 (by decide) (by decide)) dL_law_1011 ?_
  refine C_aload_n hO dL_law_1012 rfl rfl ?_
  refine C_iload_n hO dL_law_1013 rfl rfl ?_
  refine C_iconst (v := 4) hO dL_law_1014 rfl ?_
  refine C_iadd hO dL_law_1015 ?_
  refine C_sld hO hX hbl hnb (lw_in hi h6 hL2 4 (by decide) (by decide)) dL_law_1016 ?_
  refine C_conR (As := [.int (sc (i3 + 1).toNatClampNeg), .int (sc (i3 + 2).toNatClampNeg), .int (sc (i3 + 3).toNatClampNeg), .int (sc (i3 + 4).toNatClampNeg)]) (rest := []) hO hWm dL_law_1017 (jk_X5_people (Γ := (mkG (YL l D cA below b s) am SM (fun _ => True))) (d := 12) (by decide) hGm iM (Q := fun (r : Int32) u => IM κ0 u) (fun _ _ h => h)) cl_L_123 (i := 0) rfl rfl rfl (by exact Nat.le_of_ble_eq_true rfl) (by exact Nat.le_of_ble_eq_true rfl) (by exact Nat.le_of_ble_eq_true rfl) hkc hks (fun r w25m hq => ?_) rfl
  obtain ⟨vm, rfl, hvvm⟩ := hq
  refine CC.stk (st2 := [.int vm]) rfl ?_
  refine C_pop hO dL_law_1020 rfl ?_
  refine C_goto (tgt := 1057) hO dL_law_1021 (by decide) ?_
  exact next κ0 _ _ hby hvvc hvvm
theorem lwc_26 {l : Launch} {D : va_G} {cA : Nat → ClassId} {p : Program} {e : Env} {s : State} {m : MethodId} {b : Nat} {below : List Frame} {meth : Method} {c : Code} {ad am : Nat → Nat} {L i : Nat} {sc : Nat → Int32} {i3 : Int32} {wc wm : Wd} {kc ks : Nat} (hO : OKC (YL l D cA below b s) (p, e, s, m, #[Value.ref b], below, meth, c) RL code 4) (hWc : WIN (YL l D cA below b s) (p, e, s, m, #[Value.ref b], below, meth, c) ad SC (EXG ad)) (hWm : WIN (YL l D cA below b s) (p, e, s, m, #[Value.ref b], below, meth, c) am SM (fun _ => True)) (hX : va_X b L sc s s.heap) (hbl : b < s.heap.size) (hi : i3.toInt = i) (h6 : i + 6 ≤ L) (hL2 : L < 2147483647) (hkc : kc ≤ 600000) (hks : ks ≤ 7302250) (hGc : GC (mkG (YL l D cA below b s) ad SC (EXG ad))) (hGm : GM (mkG (YL l D cA below b s) am SM (fun _ => True))) {κ0 : Ky} (hby : byOK κ0) (iC : IC κ0 wc) (iM : IM κ0 wm) (next : ∀ (κ : Ky) (wc2 wm2 : Wd), byOK κ → IC κ wc2 → IM κ wm2 → CC (YL l D cA below b s) (p, e, s, m, #[Value.ref b], below, meth, c) 4 1057 [some (.ref b), some (.ref (ad 0)), some (.ref (am 0)), some (.int i3)] [] (gW (mkG (YL l D cA below b s) ad SC (EXG ad)) wc2 ++ gW (mkG (YL l D cA below b s) am SM (fun _ => True)) wm2) kc ks) : CC (YL l D cA below b s) (p, e, s, m, #[Value.ref b], below, meth, c) 4 1024 [some (.ref b), some (.ref (ad 0)), some (.ref (am 0)), some (.int i3)] [] (gW (mkG (YL l D cA below b s) ad SC (EXG ad)) wc ++ gW (mkG (YL l D cA below b s) am SM (fun _ => True)) wm) kc ks := by
  have hnb : ¬ yF (YL l D cA below b s) b := Nat.not_le.mpr hbl
  refine C_aload_n hO dL_law_1024 rfl rfl ?_
  refine C_aload_n hO dL_law_1025 rfl rfl ?_
  refine C_iload_n hO dL_law_1026 rfl rfl ?_
  refine C_iconst (v := 1) hO dL_law_1027 rfl ?_
  refine C_iadd hO dL_law_1028 ?_
  refine C_sld hO hX hbl hnb (lw_in hi h6 hL2 1 (by decide) (by decide)) dL_law_1029 ?_
  refine C_aload_n hO dL_law_1030 rfl rfl ?_
  refine C_iload_n hO dL_law_1031 rfl rfl ?_
  refine C_iconst (v := 2) hO dL_law_1032 rfl ?_
  refine C_iadd hO dL_law_1033 ?_
  refine C_sld hO hX hbl hnb (lw_in hi h6 hL2 2 (by decide) (by decide)) dL_law_1034 ?_
  refine C_conL (As := [.int (sc (i3 + 1).toNatClampNeg), .int (sc (i3 + 2).toNatClampNeg)]) (rest := []) hO hWc dL_law_1035 (ic_X4_taken (Γ := (mkG (YL l D cA below b s) ad SC (EXG ad))) (d := 60) (by decide) hGc iC (Q := fun (r : Int32) u => IC κ0 u) (fun _ _ h => h)) cl_L_124 (i := 0) rfl rfl rfl (by exact Nat.le_of_ble_eq_true rfl) (by exact Nat.le_of_ble_eq_true rfl) (by exact Nat.le_of_ble_eq_true rfl) hkc hks (fun r w26c hq => ?_) rfl
  obtain ⟨vc, rfl, hvvc⟩ := hq
  refine CC.stk (st2 := [.int vc]) rfl ?_
  refine C_pop hO dL_law_1038 rfl ?_
  refine C_aload_n hO dL_law_1039 rfl rfl ?_
  refine C_aload_n hO dL_law_1040 rfl rfl ?_
  refine C_iload_n hO dL_law_1041 rfl rfl ?_
  refine C_iconst (v := 1) hO dL_law_1042 rfl ?_
  refine C_iadd hO dL_law_1043 ?_
  refine C_sld hO hX hbl hnb (lw_in hi h6 hL2 1 (by decide) (by decide)) dL_law_1044 ?_
  refine C_aload_n hO dL_law_1045 rfl rfl ?_
  refine C_iload_n hO dL_law_1046 rfl rfl ?_
  refine C_iconst (v := 2) hO dL_law_1047 rfl ?_
  refine C_iadd hO dL_law_1048 ?_
  refine C_sld hO hX hbl hnb (lw_in hi h6 hL2 2 (by decide) (by decide)) dL_law_1049 ?_
  refine C_conR (As := [.int (sc (i3 + 1).toNatClampNeg), .int (sc (i3 + 2).toNatClampNeg)]) (rest := []) hO hWm dL_law_1050 (jk_X5_taken (Γ := (mkG (YL l D cA below b s) am SM (fun _ => True))) (d := 12) (by decide) hGm iM (Q := fun (r : Int32) u => IM κ0 u) (fun _ _ h => h)) cl_L_127 (i := 0) rfl rfl rfl (by exact Nat.le_of_ble_eq_true rfl) (by exact Nat.le_of_ble_eq_true rfl) (by exact Nat.le_of_ble_eq_true rfl) hkc hks (fun r w26m hq => ?_) rfl
  obtain ⟨vm, rfl, hvvm⟩ := hq
  refine CC.stk (st2 := [.int vm]) rfl ?_
  refine C_pop hO dL_law_1053 rfl ?_
  refine C_goto (tgt := 1057) hO dL_law_1054 (by decide) ?_
  exact next κ0 _ _ hby hvvc hvvm

set_option maxHeartbeats 4000000 in
theorem lw_loop {l : Launch} {D : va_G} {cA : Nat → ClassId} {p : Program} {e : Env} {s : State} {m : MethodId} {b : Nat} {below : List Frame} {meth : Method} {c : Code} {ad am : Nat → Nat} {L : Nat} {sc : Nat → Int32} {kc ks : Nat} (hO : OKC (YL l D cA below b s) (p, e, s, m, #[Value.ref b], below, meth, c) RL code 4) (hWc : WIN (YL l D cA below b s) (p, e, s, m, #[Value.ref b], below, meth, c) ad SC (EXG ad)) (hWm : WIN (YL l D cA below b s) (p, e, s, m, #[Value.ref b], below, meth, c) am SM (fun _ => True)) (hX : va_X b L sc s s.heap) (hbl : b < s.heap.size) (hL2 : L < 2147483647) (hkc : kc ≤ 600000) (hks : ks ≤ 7302250) (hr : meth.sig.returnType = ret) (hGc : GC (mkG (YL l D cA below b s) ad SC (EXG ad))) (hGm : GM (mkG (YL l D cA below b s) am SM (fun _ => True))) (hL : L ≤ 3072) : ∀ (n i : Nat) (i3 : Int32) (wc wm : Wd), i3.toInt = i → i ≤ L + 6 → L ≤ i + n → (∃ κ : Ky, byOK κ ∧ IC κ wc ∧ IM κ wm) → CC (YL l D cA below b s) (p, e, s, m, #[Value.ref b], below, meth, c) 4 18 [some (.ref b), some (.ref (ad 0)), some (.ref (am 0)), some (.int i3)] [] (gW (mkG (YL l D cA below b s) ad SC (EXG ad)) wc ++ gW (mkG (YL l D cA below b s) am SM (fun _ => True)) wm) kc ks := by
  have hnb : ¬ yF (YL l D cA below b s) b := Nat.not_le.mpr hbl
  have n6 : (6 : Int32).toInt = 6 := rfl
  intro n
  induction n with
  | zero =>
    intro i i3 wc wm hi hle hn hC
    refine C_iload_n hO dL_law_18 rfl rfl ?_
    refine C_aload_n hO dL_law_19 rfl rfl ?_
    refine C_slen hO hX hbl hnb dL_law_20 ?_
    refine C_bipush (v := 6) hO dL_law_21 rfl ?_
    refine C_isub hO dL_law_23 ?_
    have eL : (Int32.ofNat L).toInt = L := Int32.toInt_ofNat_of_lt (by omega)
    have eS : (Int32.ofNat L - 6).toInt = L - 6 := by
      have := i_sub (x := Int32.ofNat L) (y := 6) (by omega) (by omega)
      omega
    refine C_icmp_gt (tgt := 1063) hO dL_law_24 (by decide) (fun _ => ?_) (fun hg => ?_)
    · refine C_iconst (v := 1) hO dL_law_1063 rfl ?_
      exact C_lret hO hr dL_law_1064 hkc hks
    have h6 : i + 6 ≤ L := by
      rw [Int32.lt_iff_toInt_lt] at hg
      omega
    · omega
  | succ n ih =>
    intro i i3 wc wm hi hle hn hC
    refine C_iload_n hO dL_law_18 rfl rfl ?_
    refine C_aload_n hO dL_law_19 rfl rfl ?_
    refine C_slen hO hX hbl hnb dL_law_20 ?_
    refine C_bipush (v := 6) hO dL_law_21 rfl ?_
    refine C_isub hO dL_law_23 ?_
    have eL : (Int32.ofNat L).toInt = L := Int32.toInt_ofNat_of_lt (by omega)
    have eS : (Int32.ofNat L - 6).toInt = L - 6 := by
      have := i_sub (x := Int32.ofNat L) (y := 6) (by omega) (by omega)
      omega
    refine C_icmp_gt (tgt := 1063) hO dL_law_24 (by decide) (fun _ => ?_) (fun hg => ?_)
    · refine C_iconst (v := 1) hO dL_law_1063 rfl ?_
      exact C_lret hO hr dL_law_1064 hkc hks
    have h6 : i + 6 ≤ L := by
      rw [Int32.lt_iff_toInt_lt] at hg
      omega
    have nx : ∀ (κ : Ky) (wc2 wm2 : Wd), byOK κ → IC κ wc2 → IM κ wm2 → CC (YL l D cA below b s) (p, e, s, m, #[Value.ref b], below, meth, c) 4 1057 [some (.ref b), some (.ref (ad 0)), some (.ref (am 0)), some (.int i3)] [] (gW (mkG (YL l D cA below b s) ad SC (EXG ad)) wc2 ++ gW (mkG (YL l D cA below b s) am SM (fun _ => True)) wm2) kc ks := by
      intro κ wc2 wm2 hby2 hC2 iM2
      have e6 : (i3 + 6).toInt = i3.toInt + 6 := by
        have := i_add (x := i3) (y := 6) (by omega) (by omega)
        omega
      refine C_iinc (v := i3 + 6) (lv2 := [some (.ref b), some (.ref (ad 0)), some (.ref (am 0)), some (.int (i3 + 6))]) hO dL_law_1057 rfl rfl (by decide) rfl rfl ?_
      refine C_goto (tgt := 18) hO dL_law_1060 (by decide) ?_
      exact ih (i + 6) (i3 + 6) wc2 wm2 (by omega) (by omega) (by omega) ⟨κ, hby2, hC2, iM2⟩
    obtain ⟨κ0, hby, iC, iM⟩ := hC
    refine C_aload_n hO dL_law_27 rfl rfl ?_
    refine C_iload_n hO dL_law_28 rfl rfl ?_
    refine C_sld hO hX hbl hnb (vp_in_iff.mpr (by omega)) dL_law_29 ?_
    refine C_bipush (v := 31) hO dL_law_30 rfl ?_
    refine C_iand hO dL_law_32 ?_
    generalize sc i3.toNatClampNeg &&& 31 = op
    by_cases hop : 0 ≤ op.toInt ∧ op.toInt ≤ 26
    · rcases (show op.toInt = 0 ∨ op.toInt = 1 ∨ op.toInt = 2 ∨ op.toInt = 3 ∨ op.toInt = 4 ∨ op.toInt = 5 ∨ op.toInt = 6 ∨ op.toInt = 7 ∨ op.toInt = 8 ∨ op.toInt = 9 ∨ op.toInt = 10 ∨ op.toInt = 11 ∨ op.toInt = 12 ∨ op.toInt = 13 ∨ op.toInt = 14 ∨ op.toInt = 15 ∨ op.toInt = 16 ∨ op.toInt = 17 ∨ op.toInt = 18 ∨ op.toInt = 19 ∨ op.toInt = 20 ∨ op.toInt = 21 ∨ op.toInt = 22 ∨ op.toInt = 23 ∨ op.toInt = 24 ∨ op.toInt = 25 ∨ op.toInt = 26 by omega) with h | h | h | h | h | h | h | h | h | h | h | h | h | h | h | h | h | h | h | h | h | h | h | h | h | h | h
      · refine C_tabIn (off := 123) (tgt := 156) hO 0 dL_law_33 (by decide) (by decide +kernel) (by omega) (by decide) ?_
        exact lwc_0 hO hWc hWm hX hbl hi h6 hL2 hkc hks hGc hGm hby iC iM nx
      · refine C_tabIn (off := 166) (tgt := 199) hO 1 dL_law_33 (by decide) (by decide +kernel) (by omega) (by decide) ?_
        exact lwc_1 hO hWc hWm hX hbl hi h6 hL2 hkc hks hGc hGm hby iC iM nx
      · refine C_tabIn (off := 199) (tgt := 232) hO 2 dL_law_33 (by decide) (by decide +kernel) (by omega) (by decide) ?_
        exact lwc_2 hO hWc hWm hX hbl hi h6 hL2 hkc hks hGc hGm hby iC iM nx
      · refine C_tabIn (off := 232) (tgt := 265) hO 3 dL_law_33 (by decide) (by decide +kernel) (by omega) (by decide) ?_
        exact lwc_3 hO hWc hWm hX hbl hi h6 hL2 hkc hks hGc hGm hby iC iM nx
      · refine C_tabIn (off := 255) (tgt := 288) hO 4 dL_law_33 (by decide) (by decide +kernel) (by omega) (by decide) ?_
        exact lwc_4 hO hWc hWm hX hbl hi h6 hL2 hkc hks hGc hGm hby iC iM nx
      · refine C_tabIn (off := 268) (tgt := 301) hO 5 dL_law_33 (by decide) (by decide +kernel) (by omega) (by decide) ?_
        exact lwc_5 hO hWc hWm hX hbl hi h6 hL2 hkc hks hGc hGm hby iC iM nx
      · refine C_tabIn (off := 291) (tgt := 324) hO 6 dL_law_33 (by decide) (by decide +kernel) (by omega) (by decide) ?_
        exact lwc_6 hO hWc hWm hX hbl hi h6 hL2 hkc hks hGc hGm hby iC iM nx
      · refine C_tabIn (off := 334) (tgt := 367) hO 7 dL_law_33 (by decide) (by decide +kernel) (by omega) (by decide) ?_
        exact lwc_7 hO hWc hWm hX hbl hi h6 hL2 hkc hks hGc hGm hby iC iM nx
      · refine C_tabIn (off := 347) (tgt := 380) hO 8 dL_law_33 (by decide) (by decide +kernel) (by omega) (by decide) ?_
        exact lwc_8 hO hWc hWm hX hbl hi h6 hL2 hkc hks hGc hGm hby iC iM nx
      · refine C_tabIn (off := 380) (tgt := 413) hO 9 dL_law_33 (by decide) (by decide +kernel) (by omega) (by decide) ?_
        exact lwc_9 hO hWc hWm hX hbl hi h6 hL2 hkc hks hGc hGm hby iC iM nx
      · refine C_tabIn (off := 403) (tgt := 436) hO 10 dL_law_33 (by decide) (by decide +kernel) (by omega) (by decide) ?_
        exact lwc_10 hO hWc hWm hX hbl hi h6 hL2 hkc hks hGc hGm hby iC iM nx
      · refine C_tabIn (off := 426) (tgt := 459) hO 11 dL_law_33 (by decide) (by decide +kernel) (by omega) (by decide) ?_
        exact lwc_11 hO hWc hWm hX hbl hi h6 hL2 hkc hks hGc hGm hby iC iM nx
      · refine C_tabIn (off := 469) (tgt := 502) hO 12 dL_law_33 (by decide) (by decide +kernel) (by omega) (by decide) ?_
        exact lwc_12 hO hWc hWm hX hbl hi h6 hL2 hkc hks hGc hGm hby iC iM nx
      · refine C_tabIn (off := 502) (tgt := 535) hO 13 dL_law_33 (by decide) (by decide +kernel) (by omega) (by decide) ?_
        exact lwc_13 hO hWc hWm hX hbl hi h6 hL2 hkc hks hGc hGm hby iC iM nx
      · refine C_tabIn (off := 535) (tgt := 568) hO 14 dL_law_33 (by decide) (by decide +kernel) (by omega) (by decide) ?_
        exact lwc_14 hO hWc hWm hX hbl hi h6 hL2 hkc hks hGc hGm hby iC iM nx
      · refine C_tabIn (off := 578) (tgt := 611) hO 15 dL_law_33 (by decide) (by decide +kernel) (by omega) (by decide) ?_
        exact lwc_15 hO hWc hWm hX hbl hi h6 hL2 hkc hks hGc hGm hby iC iM nx
      · refine C_tabIn (off := 621) (tgt := 654) hO 16 dL_law_33 (by decide) (by decide +kernel) (by omega) (by decide) ?_
        exact lwc_16 hO hWc hWm hX hbl hi h6 hL2 hkc hks hGc hGm hby iC iM nx
      · refine C_tabIn (off := 664) (tgt := 697) hO 17 dL_law_33 (by decide) (by decide +kernel) (by omega) (by decide) ?_
        exact lwc_17 hO hWc hWm hX hbl hi h6 hL2 hkc hks hGc hGm hby iC iM nx
      · refine C_tabIn (off := 687) (tgt := 720) hO 18 dL_law_33 (by decide) (by decide +kernel) (by omega) (by decide) ?_
        exact lwc_18 hO hWc hWm hX hbl hi h6 hL2 hkc hks hGc hGm hby iC iM nx
      · refine C_tabIn (off := 740) (tgt := 773) hO 19 dL_law_33 (by decide) (by decide +kernel) (by omega) (by decide) ?_
        exact lwc_19 hO hWc hWm hX hbl hi h6 hL2 hkc hks hGc hGm hby iC iM nx
      · refine C_tabIn (off := 753) (tgt := 786) hO 20 dL_law_33 (by decide) (by decide +kernel) (by omega) (by decide) ?_
        exact lwc_20 hO hWc hWm hX hbl hi h6 hL2 hkc hks hGc hGm hby iC iM nx
      · refine C_tabIn (off := 766) (tgt := 799) hO 21 dL_law_33 (by decide) (by decide +kernel) (by omega) (by decide) ?_
        exact lwc_21 hO hWc hWm hX hbl hi h6 hL2 hkc hks hGc hGm hby iC iM nx
      · refine C_tabIn (off := 789) (tgt := 822) hO 22 dL_law_33 (by decide) (by decide +kernel) (by omega) (by decide) ?_
        exact lwc_22 hO hWc hWm hX hbl hi h6 hL2 hkc hks hGc hGm hby iC iM nx
      · refine C_tabIn (off := 832) (tgt := 865) hO 23 dL_law_33 (by decide) (by decide +kernel) (by omega) (by decide) ?_
        exact lwc_23 hO hWc hWm hX hbl hi h6 hL2 hkc hks hGc hGm hby iC iM nx
      · refine C_tabIn (off := 875) (tgt := 908) hO 24 dL_law_33 (by decide) (by decide +kernel) (by omega) (by decide) ?_
        exact lwc_24 hO hWc hWm hX hbl hi h6 hL2 hkc hks hGc hGm hby iC iM nx
      · refine C_tabIn (off := 938) (tgt := 971) hO 25 dL_law_33 (by decide) (by decide +kernel) (by omega) (by decide) ?_
        exact lwc_25 hO hWc hWm hX hbl hi h6 hL2 hkc hks hGc hGm hby iC iM nx
      · refine C_tabIn (off := 991) (tgt := 1024) hO 26 dL_law_33 (by decide) (by decide +kernel) (by omega) (by decide) ?_
        exact lwc_26 hO hWc hWm hX hbl hi h6 hL2 hkc hks hGc hGm hby iC iM nx
    · exact C_tabOut (tgt := 1057) hO dL_law_33 (by omega) (by decide) (nx κ0 wc wm hby iC iM)
theorem cd_X4_init : CallD M_X4_init 0 := ⟨(AW_mem 70 (by decide +kernel) (by decide +kernel)), (AW_mem 88 (by decide +kernel) (by decide +kernel)), ⟨by decide +kernel, by decide +kernel, by decide +kernel⟩, by decide⟩
theorem ii_X4_init : Cond.instanceMethod M_X4_init.1 ∈ AW := (AW_mem 87 (by decide +kernel) (by decide +kernel))
theorem cd_X5_init : CallD M_X5_init 0 := ⟨(AW_mem 81 (by decide +kernel) (by decide +kernel)), (AW_mem 742 (by decide +kernel) (by decide +kernel)), ⟨by decide +kernel, by decide +kernel, by decide +kernel⟩, by decide⟩
theorem ii_X5_init : Cond.instanceMethod M_X5_init.1 ∈ AW := (AW_mem 741 (by decide +kernel) (by decide +kernel))
set_option maxHeartbeats 4000000 in
set_option maxRecDepth 20000 in
theorem lw_all {l : Launch} {D : va_G} {cA : Nat → ClassId} {p : Program} {e : Env} {s : State} {m : MethodId} {b : Nat} {below : List Frame} {meth : Method} {c : Code} {ad0 : Nat → Nat} {L : Nat} {sc : Nat → Int32} (hO : OKC (YL l D cA below b s) (p, e, s, m, #[Value.ref b], below, meth, c) RL code 4) (hI : EXI s) (hE : EXF ad0 (fun q => s.heap.size ≤ q) s) (hX : va_X b L sc s s.heap) (hbl : b < s.heap.size) (hL : L ≤ 3072) (hr : meth.sig.returnType = ret) : CC (YL l D cA below b s) (p, e, s, m, #[Value.ref b], below, meth, c) 4 0 [some (.ref b), none, none, none] [] [] 0 0 := by
  refine C_new (ci := 4) (fs := [.null, .null, .null, .null, .null, .null, .null, .int 0, .int 0]) hO dL_law_0 inX4 tyX4 tyX4_ok (AW_mem 84 (by decide +kernel) (by decide +kernel)) (AW_mem 85 (by decide +kernel) (by decide +kernel)) (AW_mem 70 (by decide +kernel) (by decide +kernel)) rfl (fun j hj => by rcases (show j = 0 ∨ j = 1 ∨ j = 2 ∨ j = 3 ∨ j = 4 ∨ j = 5 ∨ j = 6 ∨ j = 7 ∨ j = 8 by omega) with rfl | rfl | rfl | rfl | rfl | rfl | rfl | rfl | rfl <;> rfl) (by exact Nat.le_of_ble_eq_true rfl) (by exact Nat.le_of_ble_eq_true rfl) (fun h0 => ?_)
  refine C_dup hO dL_law_3 rfl ?_
  refine CC.cells (ws2 := [] ++ [(h0, .inr (4, [.null, .null, .null, .null, .null, .null, .null, .int 0, .int 0]))]) rfl ?_
  refine CC.cnt (kc2 := 1) (ks2 := 9) rfl rfl ?_
  refine C_initP hO (wr := []) (q := h0) (e0 := .inr (4, [.null, .null, .null, .null, .null, .null, .null, .int 0, .int 0])) (As := []) (d := 62) (E := EC ad0 h0) dL_law_4 ni_X4_init (fun a U g mk h => ⟨⟨va_Nw.same rfl rfl h.1.1, va_Nw.same rfl rfl h.1.2.1, va_Nw.same rfl rfl h.1.2.2.1, va_AO.moved (Vm.Alike.refl _) h.1.2.2.2.1, va_AO.moved (Vm.Alike.refl _) h.1.2.2.2.2⟩, EXF.same h.2 rfl rfl⟩) (fun U H locs hP hD hS hU hW => ?_) (AW_mem 86 (by decide +kernel) (by decide +kernel)) cd_X4_init rfl rfl ii_X4_init rfl (by exact Nat.le_of_ble_eq_true rfl) (by exact Nat.le_of_ble_eq_true rfl) (by exact Nat.le_of_ble_eq_true rfl) (by exact Nat.le_of_ble_eq_true rfl) (by exact Nat.le_of_ble_eq_true rfl) (fun u hu => ?_) rfl
  · have h1 : EXF ad0 (fun q => s.heap.size ≤ q) U := hE.warm hW (by rw [hU]; exact hS.1) (fun q h1 h2 => by rw [hU]; exact hS.2.1 q h1 h2)
    refine ⟨hI.warm hW, h1.narrow (fun q hq => ?_) (fun _ _ => rfl)⟩
    rcases hq with h | h
    · rw [h]
      exact hD.2 0 _ rfl
    · exact Nat.le_trans hS.1 (by rw [← hU]; exact h)
  obtain ⟨ad, w, rfl, ha0, hag, hFC, hIC⟩ := hu
  subst ha0
  refine CC.cells (ws2 := cels cA ad w 0 SC) rfl ?_
  refine CC.cnt (kc2 := 53) (ks2 := 1997) rfl rfl ?_
  refine C_astore_n (lv2 := [some (.ref b), some (.ref (ad 0)), none, none]) hO dL_law_7 rfl (by decide) rfl rfl ?_
  refine C_new (ci := 5) (fs := (.int 0 :: .null :: .int 0 :: .null :: .null :: .null :: .int 0 :: .int 0 :: .null :: .int 0 :: .null :: .null :: .null :: .int 0 :: .int 0 :: .int 0 :: .int 0 :: .int 0 :: .int 0 :: .null :: .int 0 :: .int 0 :: .int 0 :: .int 0 :: .int 0 :: .null :: .null :: .int 0 :: .null :: .null :: .int 0 :: .null :: .int 0 :: .int 0 :: .int 0 :: .int 0 :: .null :: .null :: .null :: .null :: .null :: [])) hO dL_law_8 inX5 tyX5 tyX5_ok (AW_mem 738 (by decide +kernel) (by decide +kernel)) (AW_mem 739 (by decide +kernel) (by decide +kernel)) (AW_mem 81 (by decide +kernel) (by decide +kernel)) rfl (fun j hj => by rcases (show j = 0 ∨ j = 1 ∨ j = 2 ∨ j = 3 ∨ j = 4 ∨ j = 5 ∨ j = 6 ∨ j = 7 ∨ j = 8 ∨ j = 9 ∨ j = 10 ∨ j = 11 ∨ j = 12 ∨ j = 13 ∨ j = 14 ∨ j = 15 ∨ j = 16 ∨ j = 17 ∨ j = 18 ∨ j = 19 ∨ j = 20 ∨ j = 21 ∨ j = 22 ∨ j = 23 ∨ j = 24 ∨ j = 25 ∨ j = 26 ∨ j = 27 ∨ j = 28 ∨ j = 29 ∨ j = 30 ∨ j = 31 ∨ j = 32 ∨ j = 33 ∨ j = 34 ∨ j = 35 ∨ j = 36 ∨ j = 37 ∨ j = 38 ∨ j = 39 ∨ j = 40 by omega) with rfl | rfl | rfl | rfl | rfl | rfl | rfl | rfl | rfl | rfl | rfl | rfl | rfl | rfl | rfl | rfl | rfl | rfl | rfl | rfl | rfl | rfl | rfl | rfl | rfl | rfl | rfl | rfl | rfl | rfl | rfl | rfl | rfl | rfl | rfl | rfl | rfl | rfl | rfl | rfl | rfl <;> rfl) (by exact Nat.le_of_ble_eq_true rfl) (by exact Nat.le_of_ble_eq_true rfl) (fun h5 => ?_)
  refine C_dup hO dL_law_11 rfl ?_
  refine CC.cnt (kc2 := 54) (ks2 := 2038) rfl rfl ?_
  refine C_initP hO (wr := cels cA ad w 0 SC) (q := h5) (e0 := .inr (5, (.int 0 :: .null :: .int 0 :: .null :: .null :: .null :: .int 0 :: .int 0 :: .null :: .int 0 :: .null :: .null :: .null :: .int 0 :: .int 0 :: .int 0 :: .int 0 :: .int 0 :: .int 0 :: .null :: .int 0 :: .int 0 :: .int 0 :: .int 0 :: .int 0 :: .null :: .null :: .int 0 :: .null :: .null :: .int 0 :: .null :: .int 0 :: .int 0 :: .int 0 :: .int 0 :: .null :: .null :: .null :: .null :: .null :: []))) (As := []) (d := 8) (E := fun _ => True) dL_law_12 ni_X5_init (fun _ _ _ _ h => h) (fun _ _ _ _ _ _ _ _ => trivial) (AW_mem 740 (by decide +kernel) (by decide +kernel)) cd_X5_init rfl rfl ii_X5_init rfl (by exact Nat.le_of_ble_eq_true rfl) (by exact Nat.le_of_ble_eq_true rfl) (by exact Nat.le_of_ble_eq_true rfl) (by exact Nat.le_of_ble_eq_true rfl) (by exact Nat.le_of_ble_eq_true rfl) (fun u hu => ?_) rfl
  obtain ⟨am, rfl, hm0⟩ := hu
  subst hm0
  refine CC.cnt (kc2 := 73) (ks2 := 6064) rfl rfl ?_
  refine C_astore_n (lv2 := [some (.ref b), some (.ref (ad 0)), some (.ref (am 0)), none]) hO dL_law_15 rfl (by decide) rfl rfl ?_
  refine C_iconst (v := 0) hO dL_law_16 rfl ?_
  refine C_istore_n (lv2 := [some (.ref b), some (.ref (ad 0)), some (.ref (am 0)), some (.int 0)]) hO dL_law_17 rfl (by decide) rfl rfl ?_
  refine CC.cells (ws2 := gW (mkG (YL l D cA below b s) ad SC (EXG ad)) w ++ gW (mkG (YL l D cA below b s) am SM (fun _ => True)) wNewM) rfl ?_
  refine CC.know (fun hD => ?_)
  have gc : ∀ k : Nat, (hk : k < SC.length) → (gW (mkG (YL l D cA below b s) ad SC (EXG ad)) w ++ gW (mkG (YL l D cA below b s) am SM (fun _ => True)) wNewM)[k]? = some (ad k, celE cA ad w k SC[k]) := fun k hk => at_left (gW_get (Γ := (mkG (YL l D cA below b s) ad SC (EXG ad))) (w := w) (List.getElem?_eq_getElem hk))
  have gm : ∀ k : Nat, (hk : k < SM.length) → (gW (mkG (YL l D cA below b s) ad SC (EXG ad)) w ++ gW (mkG (YL l D cA below b s) am SM (fun _ => True)) wNewM)[(gW (mkG (YL l D cA below b s) ad SC (EXG ad)) w).length + k]? = some (am k, celE cA am wNewM k SM[k]) := fun k hk => at_right (gW_get (Γ := (mkG (YL l D cA below b s) am SM (fun _ => True))) (w := wNewM) (List.getElem?_eq_getElem hk))
  have hWc : WIN (YL l D cA below b s) (p, e, s, m, #[Value.ref b], below, meth, c) ad SC (EXG ad) := by
    refine ⟨⟨fun i j hi hj hij => hD.1 i j _ _ (gc i hi) (gc j hj) hij, fun s U h a b => h.same a b, fun s U h a b c => h.warm a b c⟩, hE.narrow (fun q hq => ?_) hag, fun q h1 _ h3 => Nat.not_le.mpr h1 h3⟩
    obtain ⟨i, hi, rfl⟩ := hq
    exact hD.2 i _ (gc i hi)
  have hWm : WIN (YL l D cA below b s) (p, e, s, m, #[Value.ref b], below, meth, c) am SM (fun _ => True) := by
    refine ⟨⟨fun i j hi hj hij => ?_, fun _ _ _ _ _ => trivial, fun _ _ _ _ _ _ => trivial⟩, trivial, fun q h1 _ h3 => Nat.not_le.mpr h1 h3⟩
    have := hD.1 _ _ _ _ (gm i hi) (gm j hj) hij
    omega
  exact lw_loop hO hWc hWm hX hbl (by omega) (Nat.le_of_ble_eq_true rfl) (Nat.le_of_ble_eq_true rfl) hr ⟨hWc.1, rfl, fun U h => h⟩ ⟨hWm.1, rfl⟩ hL 3072 0 0 w wNewM rfl (by omega) (by omega) ⟨kNew, newBY, hIC, newIM⟩
theorem whole_start {p : Program} {e : Env} {s : State} {m : MethodId} {below : List Frame} {meth : Method} {c : Code} (l : Launch) (hflags : l.flags = flags0) {b L : Nat} {xs : Nat → Int32} (hL : L ≤ 3072) (C0 : lw_At p s m meth c b L xs) : W p l e room_1 s m #[Value.ref b] below meth c s.heap [] 0 0 (lw_Z below #[Value.ref b] s) (entryFrame m ([Value.ref b] : List Value).toArray 4) := by
  obtain ⟨hx, hb, hr, hml, hown, hts, hX, hbl, hlocks, hgv⟩ := C0
  obtain ⟨D, cA, hK⟩ := law_ids hts
  obtain ⟨ad0, hI, hE⟩ := law_ext hts hgv
  have hO : OKC (YL l D cA below b s) (p, e, s, m, #[Value.ref b], below, meth, c) RL code 4 := ⟨hx, hb, hml, hown, fun w hw => hts w (List.mem_filter.mp hw).1, hlocks, hK, fun _ h => h⟩
  have hc : ∀ a ∈ ([Value.ref b] : List Value), a.category = 1 := catR cat0
  have hl := lv_entry [Value.ref b] (n := 4) (by rw [lg_sl_len _ hc]; exact Nat.le_of_ble_eq_true rfl)
  rw [lg_entry_eq]
  exact lw_all hO hI hE hX hbl hL hr _ _ _ (LH_entry hc hl) (fun k q hq => by cases hq) ⟨(fun i j p q hi => by cases hi), (fun k q hq => by cases hq)⟩ va_S.rf
set_option maxHeartbeats 4000000 in
theorem lw_walk (l : Launch) (hflags : l.flags = flags0) (b : Addr) (xs : List Int32) : MetFree l x (headSpec (Jvm.Cond.code x code maxLocals ret :: tables_1) room_1) (lw_P b xs) (fun _ _ _ _ _ => True) lw_Q := by
  refine MetFree.of_bodyS (code := code) (maxLocals := maxLocals) (ret := ret) (by decide) ?_ ?_
  · intro args s m h hn
    obtain ⟨meth, c, h1, h2, h3, h4, h5, h6, -, -⟩ := Cond.code_spec hn (atoms_spec (ws := Jvm.Cond.code x code maxLocals ret :: tables_1) h _ List.mem_cons_self)
    exact ⟨meth, c, h1, h2, h3, h4, h5, h6⟩
  · intro p e s m args below meth c s₁ B hml0 hP _
    obtain ⟨rfl, hx, hbd, hgv⟩ := hP
    obtain ⟨scr, harrAt, hlist, hof, hsmall⟩ := hx
    obtain ⟨hcb, hkn, -, -⟩ := State.arrayAt?_spec harrAt
    have hown : s.vm.findClass R_law = some m.cls := findClass_of_methodNamed B.named
    have hts0 : ∀ c ∈ (Jvm.Cond.code x code maxLocals ret :: tables_1), c.before #[Value.ref b] s = true := atoms_spec (ws := Jvm.Cond.code x code maxLocals ret :: tables_1) B.pre
    have hts : ∀ w ∈ lw_tbl, w.before #[Value.ref b] s = true := k2_hts_sels lw_privs (fun w hw => hts0 w (List.mem_cons_of_mem _ hw)) lw_privs_ok
    have hml : c.maxLocals = 4 := B.maxLocals_eq (hts0 _ List.mem_cons_self)
    have X₀ : Stand p l e room_1 s m #[Value.ref b] below meth c s₁ [] 0 0 := Stand.of_body B
    have hh0 : s₁.heap = s.heap := by rw [B.state]; rfl
    have hsz : scr.slots.size = xs.length := by rw [← Array.length_toList, hlist, List.length_map]
    have hval : ∀ j : Nat, j < xs.length → scr.slots[j]? = some (.int (xs.getD j 0)) := fun j hj => by
      rw [← Array.getElem?_toList, hlist]
      simp [hj]
    have hbl : b < s.heap.size := (Array.getElem?_eq_some_iff.mp hcb).1
    have hX : va_X b xs.length (fun j => xs.getD j 0) s s.heap := ⟨scr, hcb, hof, hkn, hsz, hval⟩
    have K : W p l e room_1 s m #[Value.ref b] below meth c s₁.heap [] 0 0 (lw_Z below #[Value.ref b] s) (entryFrame m ([Value.ref b] : List Value).toArray 4) := by
      rw [hh0]
      exact whole_start l hflags hbd ⟨B.exec, B.bytes, B.returns, hml, hown, hts, hX, hbl, B.notSynchronized, hgv⟩
    obtain ⟨t, a1, o, b1, b2, b3⟩ := K s₁ rfl X₀
    exact ⟨t, o, a1, b1, b2, b3⟩
theorem lw_pre_spec {args : Array Value} {s : State} (h : (Jvm.Cond.and given_1 narrow_1).before args s = true) (hr : rest_1_c.before args s = true) : ∃ (b : Addr) (xs : List Int32), lw_P b xs args s := by
  have hs := flat_of_before _ h
  have hq := flat_of_before _ hr
  have hc : (Cond.count 1).before args s = true := hs _ (by decide +kernel)
  have harr : (Cond.arrayOf (.arg 0) .int).before args s = true := hs _ (by decide +kernel)
  have hle : (Cond.le (.length (.arg 0)) (.int 3072)).before args s = true := hs _ (by decide +kernel)
  have hlen : (Cond.isInt (.length (.arg 0))).before args s = true := hq _ (by decide +kernel)
  have hall : (Cond.all (.arg 0) (.isInt (.elem (.arg 0) (.index 0)))).before args s = true := hq _ (by decide +kernel)
  obtain ⟨b, xs, hb, hx⟩ := State.ints_of_pre rfl harr hlen hall
  have hsm : xs.length < 2 ^ 31 := hx.choose_spec.2.2.2
  have hev : (Term.length (.arg 0)).eval args s none [] s = some (.int xs.length.toInt32) := hx.length_eval hb
  have hv := Cond.le_ints hev (show (Term.int 3072).eval args s none [] s = some (.int 3072) from rfl)
  have hd : xs.length.toInt32 ≤ 3072 := by
    simpa [Cond.before, Cond.holds, hv] using hle
  have hN : xs.length ≤ 3072 := (Int32.ofNat_le_ofNat hsm (by decide)).mp (show Int32.ofNat xs.length ≤ Int32.ofNat 3072 from hd)
  exact ⟨b, xs, Cond.one_arg hc (show args[0]? = some (.ref b) from hb), hx, hN, h⟩
theorem lw_comes (l : Launch) (hflags : l.flags = flags0) : Comes l x (Jvm.Cond.code x code maxLocals ret :: tables_1) room_1 (fun tb e args s => Calls_1 tb e args s ∧ rest_1 tb e args s ∧ Pre_1 tb e args s)
    (fun _ _ args s o t => lw_Q args s o t) := by
  intro p e ha hc hk s m args below hf hfit hheap happ hpre
  obtain ⟨b, xs, hP⟩ := lw_pre_spec hpre.2.2 hpre.2.1
  obtain ⟨k, o, h1, h2, h3, hQ⟩ := lw_walk l hflags b xs p e ha hc hk s m args below hf ((Spec.applies_iff_loose hf).mp happ).1 hP trivial
  exact ⟨k, o, h1, h2, h3, hQ⟩
theorem lw_frame {s t : State} {o : Outcome} {args : Array Value} (h : Framed s o t [] 600000 7302250) :
    Framed s o t (fieldLocs frame_1_writes args s ++ arrayLocs frame_1_arrays args s ++ staticLocs frame_1_statics s) 600000 7302250 := h
theorem lw_limb (L : Cond) (hL : ∀ (args : Array Value) (s t : State), L.after args s (.returned (some (.int 1))) t = true) :
    ArmFor flags0 classFile x code maxLocals ret World_1 tables_1 room_1 Calls_1 rest_1 Pre_1
      (fun tb e a s o t => postC L tb e a s o t ∧ Framed s o t (fieldLocs frame_1_writes a s ++ arrayLocs frame_1_arrays a s ++ staticLocs frame_1_statics s) 600000 7302250) := by
  intro l hflags _ _ p e ha hc hk s m args below hf hfit hheap happ hpre
  obtain ⟨k, o, h1, h2, h3, rfl, hF⟩ := lw_comes l hflags p e ha hc hk s m args below hf hfit hheap happ hpre
  exact ⟨k, _, h1, h2, h3, hL args s _, lw_frame hF⟩
theorem i_vc : Claimed_1_1 ∧ Claimed_1_2 := ⟨lw_limb limb_1_1 (fun args s t => by simp [limb_1_1, Cond.after, Cond.holds, Cond.value]), lw_limb limb_1_2 (fun args s t => Cond.after_iff.mpr (by
  first | (rw [show limb_1_2 = Cond.eq .result (.int 1) from rfl, Cond.eq_ints (x := 1) (y := 1) rfl rfl]; simp; done) | (simp [limb_1_2, Cond.value, Term.eval]; done)))⟩

