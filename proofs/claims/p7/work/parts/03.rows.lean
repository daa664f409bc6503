/-! ROWS of instructions over the frame -/
def okSt (lv : List (Option Value)) : Nat → Bool
  | 0 => true
  | j + 1 => match lv[j]? with
    | some (some v) => v.category == 1
    | _ => true
def prs (lv : List (Option Value)) : List (Nat × Value) := (List.range lv.length).filterMap fun k => (lv[k]?.join).map fun v => (k, v)
theorem mem_prs {lv : List (Option Value)} {k : Nat} {v : Value} : (k, v) ∈ prs lv ↔ lv[k]? = some (some v) := by
  unfold prs
  rw [List.mem_filterMap]
  constructor
  · rintro ⟨a, -, ha⟩
    cases h : lv[a]? with
    | none => rw [h] at ha; simp at ha
    | some o =>
      rw [h] at ha
      cases o with
      | none => simp at ha
      | some u =>
        simp at ha
        obtain ⟨rfl, rfl⟩ := ha
        exact h
  · intro h
    refine ⟨k, List.mem_range.mpr (List.getElem?_eq_some_iff.mp h).1, ?_⟩
    rw [h]
    rfl
theorem LH.has {ls : Array Slot} {nL : Nat} {lv : List (Option Value)} (h : LH ls nL lv) : lv_has ls nL (prs lv) :=
  ⟨h.1, h.2.1, fun q hq => h.2.2 q.1 q.2 (mem_prs.mp hq)⟩
theorem LH.put {ls : Array Slot} {nL i : Nat} {lv lv' : List (Option Value)} {v : Value} (h : lv_has ls nL ((i, v) :: (prs lv).filter (fun q => !(q.1 == i) && !(q.1 + 1 == i && q.2.category == 2)))) (hok : okSt lv i = true) (e : lv.set i (some v) = lv') : LH ls nL lv' := by
  subst e
  refine ⟨h.1, h.2.1, fun k u hk => ?_⟩
  by_cases hki : i = k
  · subst hki
    have hl := (List.getElem?_eq_some_iff.mp hk).1
    rw [List.length_set] at hl
    rw [List.getElem?_set_self hl] at hk
    cases hk
    exact h.2.2 (i, v) List.mem_cons_self
  · rw [List.getElem?_set_ne hki] at hk
    refine h.2.2 (k, u) (List.mem_cons_of_mem _ (List.mem_filter.mpr ⟨mem_prs.mpr hk, ?_⟩))
    have h1 : (k == i) = false := by simp; omega
    by_cases h2 : k + 1 = i
    · subst h2
      simp only [okSt, hk, beq_iff_eq] at hok
      simp [hok]
    · simp [h2]; omega
theorem LH.put2 {ls : Array Slot} {nL i : Nat} {lv lv' : List (Option Value)} {v : Value} (h : lv_has ls nL ((i, v) :: (prs lv).filter (fun q => !(q.1 == i) && (!(q.1 == i + 1) && !(q.1 + 1 == i && q.2.category == 2))))) (hok : okSt lv i = true) (e : (lv.set i (some v)).set (i + 1) none = lv') : LH ls nL lv' := by
  subst e
  refine ⟨h.1, h.2.1, fun k u hk => ?_⟩
  by_cases hk1 : i + 1 = k
  · subst hk1
    have hl := (List.getElem?_eq_some_iff.mp hk).1
    rw [List.length_set] at hl
    rw [List.getElem?_set_self hl] at hk
    cases hk
  rw [List.getElem?_set_ne hk1] at hk
  by_cases hki : i = k
  · subst hki
    have hl := (List.getElem?_eq_some_iff.mp hk).1
    rw [List.length_set] at hl
    rw [List.getElem?_set_self hl] at hk
    cases hk
    exact h.2.2 (i, v) List.mem_cons_self
  · rw [List.getElem?_set_ne hki] at hk
    refine h.2.2 (k, u) (List.mem_cons_of_mem _ (List.mem_filter.mpr ⟨mem_prs.mpr hk, ?_⟩))
    have h1 : (k == i) = false := by simp; omega
    have h3 : (k == i + 1) = false := by simp; omega
    by_cases h2 : k + 1 = i
    · subst h2
      simp only [okSt, hk, beq_iff_eq] at hok
      simp [hok]; omega
    · simp [h2]; omega
theorem gW_get {Γ : Gx} {w : Wd} {i : Nat} {sh : Sh} (h : (gS Γ)[i]? = some sh) : (gW Γ w)[i]? = some (gad Γ i, celE (gcA Γ) (gad Γ) w i sh) := by
  have := cels_get (cA := gcA Γ) (ad := gad Γ) (w := w) _ 0 i h
  rw [Nat.zero_add] at this
  exact this
theorem gW_set {Γ : Gx} {w w' : Wd} {i : Nat} {sh : Sh} (h : (gS Γ)[i]? = some sh) (hw : ∀ a, a ≠ i → w' a = w a) : (gW Γ w).set i (gad Γ i, celE (gcA Γ) (gad Γ) w' i sh) = gW Γ w' := by
  have := cels_set (cA := gcA Γ) (ad := gad Γ) (w := w) (w' := w') _ 0 i (fun a ha => hw a (by rw [Nat.zero_add] at ha; exact ha)) h
  rw [Nat.zero_add] at this
  exact this
/-- a call's words: of an own or another class's method, by its class's table -/
def CallD (M : Mth) (n : Nat) : Prop := Cond.initialized M.1.cls ∈ AW ∧ Cond.code M.1 M.2.1 M.2.2.1 M.2.2.2 ∈ AW ∧ (M.1.cls ≠ "java/lang/invoke/MethodHandle" ∧ M.1.cls ≠ "java/lang/invoke/VarHandle" ∧ (parseMethodDescriptor M.1.desc).map (fun d => d.parameters.length) = some n) ∧ M.2.2.1 ≤ 45
def CallV (own C : String) (idx : Nat) (M : Mth) (n : Nat) : Prop := Cond.methodLink own idx M.1 ∈ AW ∧ Cond.instanceMethod M.1 ∈ AW ∧ Cond.selects C M.1 M.1 ∈ AW ∧ CallD M n
def CallS (own : String) (idx : Nat) (M : Mth) (n : Nat) : Prop := Cond.methodLink own idx M.1 ∈ AW ∧ Cond.static M.1 ∈ AW ∧ CallD M n
def CallSN (M : Mth) (n : Nat) : Prop := Cond.static M.1 ∈ AW ∧ CallD M n
theorem wsM_good {M : Mth} (h : Cond.code M.1 M.2.1 M.2.2.1 M.2.2.2 ∈ AW) : GoodIn AW (wsM M) := by
  intro w hw
  rcases List.mem_cons.mp hw with rfl | hw
  · exact ⟨h, AW_good h⟩
  · exact ⟨hw, AW_good hw⟩
theorem Inv_blind {Γ : Gx} {w : Wd} {as : List Value} (hG : GOK Γ) : FrameBlind (va_Pc as (Inv Γ w)) := by
  intro a U g mk h
  obtain ⟨q0, qP, qK, qE⟩ := h
  exact ⟨q0, qP, va_K.moved (u := U) (U := U.calling g mk a) (Vm.Alike.refl U.vm) qK, hG.2.1 U _ qE rfl rfl⟩
section ROWS
variable {Γ : Gx} {X : Mx} {own : String} {cc : ByteArray} {nL d pc : Nat} {ret : Option FieldType} {Q : Option Value → Wd → Prop} {lv : List (Option Value)} {st rest : List Value} {w : Wd}
theorem GG.weak {lv2 : List (Option Value)} (e : ∀ (k : Nat) (v : Value), lv2[k]? = some (some v) → lv[k]? = some (some v)) (k : GG Γ X d nL Q pc lv2 st w) : GG Γ X d nL Q pc lv st w :=
  fun ls H locs hl hP hS => k ls H locs ⟨hl.1, hl.2.1, fun a v h => hl.2.2 a v (e a v h)⟩ hP hS
/-- locals that are looked at no more -/
def lvSub : List (Option Value) → List (Option Value) → Prop
  | [], _ => True
  | none :: a, _ :: b => lvSub a b
  | some u :: a, some v :: b => u = v ∧ lvSub a b
  | some _ :: _, none :: _ => False
  | none :: a, [] => lvSub a []
  | some _ :: _, [] => False
theorem lvSub_spec : ∀ (a b : List (Option Value)), lvSub a b → ∀ (k : Nat) (v : Value), a[k]? = some (some v) → b[k]? = some (some v)
  | [], _, _, k, v, h => by simp at h
  | none :: a, y :: b, hs, 0, v, h => by simp at h
  | none :: a, y :: b, hs, k + 1, v, h => by
    simp only [List.getElem?_cons_succ] at h ⊢
    exact lvSub_spec a b (by simpa [lvSub] using hs) k v h
  | some u :: a, some y :: b, hs, 0, v, h => by
    simp only [lvSub] at hs
    simp at h ⊢
    rw [← hs.1, h]
  | some u :: a, some y :: b, hs, k + 1, v, h => by
    simp only [lvSub] at hs
    simp only [List.getElem?_cons_succ] at h ⊢
    exact lvSub_spec a b hs.2 k v h
  | some u :: a, none :: b, hs, k, v, h => by simp [lvSub] at hs
  | none :: a, [], hs, 0, v, h => by simp at h
  | none :: a, [], hs, k + 1, v, h => by
    simp only [List.getElem?_cons_succ] at h
    have := lvSub_spec a [] (by simpa [lvSub] using hs) k v h
    simp at this
  | some u :: a, [], hs, k, v, h => by simp [lvSub] at hs
theorem GG.sub {lv2 : List (Option Value)} (e : lvSub lv2 lv) (k : GG Γ X d nL Q pc lv2 st w) : GG Γ X d nL Q pc lv st w := GG.weak (lvSub_spec _ _ e) k
theorem GG.atpc {pc2 : Nat} (e : pc2 = pc) (k : GG Γ X d nL Q pc2 lv st w) : GG Γ X d nL Q pc lv st w := e ▸ k
theorem G_iconst (hO : OKM Γ X own cc nL ret) {n : Int} {v : Int32} (hd : decode cc pc = .ok (.iconst n, 1)) (hv : Int32.ofInt n = v) (k : GG Γ X d nL Q (pc + 1) lv (.int v :: st) w) : GG Γ X d nL Q pc lv (st) w := fun ls H locs hl hP hS => lv_iconst hO.1 hO.2.1 hd hv (k ls H locs hl hP hS)
theorem G_bipush (hO : OKM Γ X own cc nL ret) {n : Int} {v : Int32} (hd : decode cc pc = .ok (.bipush n, 2)) (hv : (Int8.ofInt n).toInt32 = v) (k : GG Γ X d nL Q (pc + 2) lv (.int v :: st) w) : GG Γ X d nL Q pc lv (st) w := fun ls H locs hl hP hS => lv_bipush hO.1 hO.2.1 hd hv (k ls H locs hl hP hS)
theorem G_sipush (hO : OKM Γ X own cc nL ret) {n : Int} {v : Int32} (hd : decode cc pc = .ok (.sipush n, 3)) (hv : (Int16.ofInt n).toInt32 = v) (k : GG Γ X d nL Q (pc + 3) lv (.int v :: st) w) : GG Γ X d nL Q pc lv (st) w := fun ls H locs hl hP hS => lv_sipush hO.1 hO.2.1 hd hv (k ls H locs hl hP hS)
theorem G_lconst (hO : OKM Γ X own cc nL ret) {n : Fin 2} {v : Int64} (hd : decode cc pc = .ok (.lconst n, 1)) (hv : Int64.ofNat (n : Nat) = v) (k : GG Γ X d nL Q (pc + 1) lv (.long v :: st) w) : GG Γ X d nL Q pc lv (st) w := fun ls H locs hl hP hS => lv_lconst hO.1 hO.2.1 hd hv (k ls H locs hl hP hS)
theorem G_ldc (hO : OKM Γ X own cc nL ret) {idx : Nat} {v : Int32} (hd : decode cc pc = .ok (.ldc idx, 2)) (hv : Cond.constant own idx v ∈ AW) (k : GG Γ X d nL Q (pc + 2) lv (.int v :: st) w) : GG Γ X d nL Q pc lv st w := fun ls H locs hl hP hS => lv_ldc hO.1 hO.2.1 hO.2.2.2.1 (hO.2.2.2.2.1 _ hv) hd (k ls H locs hl hP hS)
theorem G_ldc_w (hO : OKM Γ X own cc nL ret) {idx : Nat} {v : Int32} (hd : decode cc pc = .ok (.ldc_w idx, 3)) (hv : Cond.constant own idx v ∈ AW) (k : GG Γ X d nL Q (pc + 3) lv (.int v :: st) w) : GG Γ X d nL Q pc lv st w := fun ls H locs hl hP hS => lv_ldcw hO.1 hO.2.1 hO.2.2.2.1 (hO.2.2.2.2.1 _ hv) hd (k ls H locs hl hP hS)
theorem G_ldc2_w (hO : OKM Γ X own cc nL ret) {idx : Nat} {v : Int64} (hd : decode cc pc = .ok (.ldc2_w idx, 3)) (hv : Cond.constantLong own idx v ∈ AW) (k : GG Γ X d nL Q (pc + 3) lv (.long v :: st) w) : GG Γ X d nL Q pc lv st w := fun ls H locs hl hP hS => lv_ldc2 hO.1 hO.2.1 hO.2.2.2.1 (hO.2.2.2.2.1 _ hv) hd (k ls H locs hl hP hS)
theorem G_iload_n (hO : OKM Γ X own cc nL ret) {q : Fin 4} {i : Nat} {x : Int32} (hd : decode cc pc = .ok (.iload_n q, 1)) (hi : (q : Nat) = i) (hx : lv[i]? = some (some (.int x))) (k : GG Γ X d nL Q (pc + 1) lv (.int x :: st) w) : GG Γ X d nL Q pc lv st w := fun ls H locs hl hP hS => lv_iload_n hO.1 hO.2.1 hd hi (hl.2.2 _ _ hx) (k ls H locs hl hP hS)
theorem G_iload (hO : OKM Γ X own cc nL ret) {i : Nat} {x : Int32} (hd : decode cc pc = .ok (.iload i, 2)) (hx : lv[i]? = some (some (.int x))) (k : GG Γ X d nL Q (pc + 2) lv (.int x :: st) w) : GG Γ X d nL Q pc lv st w := fun ls H locs hl hP hS => lv_iload hO.1 hO.2.1 hd (hl.2.2 _ _ hx) (k ls H locs hl hP hS)
theorem G_aload_n (hO : OKM Γ X own cc nL ret) {q : Fin 4} {i : Nat} {x : Nat} (hd : decode cc pc = .ok (.aload_n q, 1)) (hi : (q : Nat) = i) (hx : lv[i]? = some (some (.ref x))) (k : GG Γ X d nL Q (pc + 1) lv (.ref x :: st) w) : GG Γ X d nL Q pc lv st w := fun ls H locs hl hP hS => lv_aload_n hO.1 hO.2.1 hd hi (hl.2.2 _ _ hx) (k ls H locs hl hP hS)
theorem G_aload (hO : OKM Γ X own cc nL ret) {i : Nat} {x : Nat} (hd : decode cc pc = .ok (.aload i, 2)) (hx : lv[i]? = some (some (.ref x))) (k : GG Γ X d nL Q (pc + 2) lv (.ref x :: st) w) : GG Γ X d nL Q pc lv st w := fun ls H locs hl hP hS => lv_aload hO.1 hO.2.1 hd (hl.2.2 _ _ hx) (k ls H locs hl hP hS)
theorem G_lload_n (hO : OKM Γ X own cc nL ret) {q : Fin 4} {i : Nat} {x : Int64} (hd : decode cc pc = .ok (.lload_n q, 1)) (hi : (q : Nat) = i) (hx : lv[i]? = some (some (.long x))) (k : GG Γ X d nL Q (pc + 1) lv (.long x :: st) w) : GG Γ X d nL Q pc lv st w := fun ls H locs hl hP hS => lv_lload_n hO.1 hO.2.1 hd hi (hl.2.2 _ _ hx) (k ls H locs hl hP hS)
theorem G_lload (hO : OKM Γ X own cc nL ret) {i : Nat} {x : Int64} (hd : decode cc pc = .ok (.lload i, 2)) (hx : lv[i]? = some (some (.long x))) (k : GG Γ X d nL Q (pc + 2) lv (.long x :: st) w) : GG Γ X d nL Q pc lv st w := fun ls H locs hl hP hS => lv_lload hO.1 hO.2.1 hd (hl.2.2 _ _ hx) (k ls H locs hl hP hS)
theorem G_istore_n (hO : OKM Γ X own cc nL ret) {q : Fin 4} {i : Nat} {x : Int32} {lv2 : List (Option Value)} (hd : decode cc pc = .ok (.istore_n q, 1)) (hi : (q : Nat) = i) (hn : i < nL) (hok : okSt lv i = true) (he : lv.set i (some (.int x)) = lv2) (k : GG Γ X d nL Q (pc + 1) lv2 st w) : GG Γ X d nL Q pc lv (.int x :: st) w := fun ls H locs hl hP hS => lv_istore_n hO.1 hO.2.1 hd hi hl.has hn rfl (fun ls2 h2 => k ls2 H locs (LH.put h2 hok he) hP hS)
theorem G_istore (hO : OKM Γ X own cc nL ret) {i : Nat} {x : Int32} {lv2 : List (Option Value)} (hd : decode cc pc = .ok (.istore i, 2)) (hn : i < nL) (hok : okSt lv i = true) (he : lv.set i (some (.int x)) = lv2) (k : GG Γ X d nL Q (pc + 2) lv2 st w) : GG Γ X d nL Q pc lv (.int x :: st) w := fun ls H locs hl hP hS => lv_istore hO.1 hO.2.1 hd hl.has hn rfl (fun ls2 h2 => k ls2 H locs (LH.put h2 hok he) hP hS)
theorem G_astore_n (hO : OKM Γ X own cc nL ret) {q : Fin 4} {i : Nat} {x : Nat} {lv2 : List (Option Value)} (hd : decode cc pc = .ok (.astore_n q, 1)) (hi : (q : Nat) = i) (hn : i < nL) (hok : okSt lv i = true) (he : lv.set i (some (.ref x)) = lv2) (k : GG Γ X d nL Q (pc + 1) lv2 st w) : GG Γ X d nL Q pc lv (.ref x :: st) w := fun ls H locs hl hP hS => lv_astore_n hO.1 hO.2.1 hd hi hl.has hn rfl (fun ls2 h2 => k ls2 H locs (LH.put h2 hok he) hP hS)
theorem G_astore (hO : OKM Γ X own cc nL ret) {i : Nat} {x : Nat} {lv2 : List (Option Value)} (hd : decode cc pc = .ok (.astore i, 2)) (hn : i < nL) (hok : okSt lv i = true) (he : lv.set i (some (.ref x)) = lv2) (k : GG Γ X d nL Q (pc + 2) lv2 st w) : GG Γ X d nL Q pc lv (.ref x :: st) w := fun ls H locs hl hP hS => lv_astore hO.1 hO.2.1 hd hl.has hn rfl (fun ls2 h2 => k ls2 H locs (LH.put h2 hok he) hP hS)
theorem G_lstore (hO : OKM Γ X own cc nL ret) {i : Nat} {x : Int64} {lv2 : List (Option Value)} (hd : decode cc pc = .ok (.lstore i, 2)) (hn : i + 1 < nL) (hok : okSt lv i = true) (he : (lv.set i (some (.long x))).set (i + 1) none = lv2) (k : GG Γ X d nL Q (pc + 2) lv2 st w) : GG Γ X d nL Q pc lv (.long x :: st) w := fun ls H locs hl hP hS => lv_lstore hO.1 hO.2.1 hd hl.has hn rfl (fun ls2 h2 => k ls2 H locs (LH.put2 h2 hok he) hP hS)
theorem G_iinc (hO : OKM Γ X own cc nL ret) {i : Nat} {n : Int} {x v : Int32} {lv2 : List (Option Value)} (hd : decode cc pc = .ok (.iinc i n, 3)) (hx : lv[i]? = some (some (.int x))) (hv : x + Int32.ofInt n = v) (hn : i < nL) (hok : okSt lv i = true) (he : lv.set i (some (.int v)) = lv2) (k : GG Γ X d nL Q (pc + 3) lv2 st w) : GG Γ X d nL Q pc lv st w := fun ls H locs hl hP hS => by
  obtain ⟨q, hq⟩ := List.getElem?_of_mem (mem_prs.mpr hx)
  exact lv_iinc hO.1 hO.2.1 hd hl.has hq hv hn rfl (fun ls2 h2 => k ls2 H locs (LH.put h2 hok he) hP hS)
theorem G_iadd (hO : OKM Γ X own cc nL ret) {x y : Int32} (hd : decode cc pc = .ok (.iadd, 1)) (k : GG Γ X d nL Q (pc + 1) lv (.int (x + y) :: st) w) : GG Γ X d nL Q pc lv (.int y :: .int x :: st) w := fun ls H locs hl hP hS => lv_iadd hO.1 hO.2.1 hd  (k ls H locs hl hP hS)
theorem G_isub (hO : OKM Γ X own cc nL ret) {x y : Int32} (hd : decode cc pc = .ok (.isub, 1)) (k : GG Γ X d nL Q (pc + 1) lv (.int (x - y) :: st) w) : GG Γ X d nL Q pc lv (.int y :: .int x :: st) w := fun ls H locs hl hP hS => lv_isub hO.1 hO.2.1 hd  (k ls H locs hl hP hS)
theorem G_imul (hO : OKM Γ X own cc nL ret) {x y : Int32} (hd : decode cc pc = .ok (.imul, 1)) (k : GG Γ X d nL Q (pc + 1) lv (.int (x * y) :: st) w) : GG Γ X d nL Q pc lv (.int y :: .int x :: st) w := fun ls H locs hl hP hS => lv_imul hO.1 hO.2.1 hd  (k ls H locs hl hP hS)
theorem G_iand (hO : OKM Γ X own cc nL ret) {x y : Int32} (hd : decode cc pc = .ok (.iand, 1)) (k : GG Γ X d nL Q (pc + 1) lv (.int (x &&& y) :: st) w) : GG Γ X d nL Q pc lv (.int y :: .int x :: st) w := fun ls H locs hl hP hS => lv_iand hO.1 hO.2.1 hd  (k ls H locs hl hP hS)
theorem G_ior (hO : OKM Γ X own cc nL ret) {x y : Int32} (hd : decode cc pc = .ok (.ior, 1)) (k : GG Γ X d nL Q (pc + 1) lv (.int (x ||| y) :: st) w) : GG Γ X d nL Q pc lv (.int y :: .int x :: st) w := fun ls H locs hl hP hS => lv_ior hO.1 hO.2.1 hd  (k ls H locs hl hP hS)
theorem G_ixor (hO : OKM Γ X own cc nL ret) {x y : Int32} (hd : decode cc pc = .ok (.ixor, 1)) (k : GG Γ X d nL Q (pc + 1) lv (.int (x ^^^ y) :: st) w) : GG Γ X d nL Q pc lv (.int y :: .int x :: st) w := fun ls H locs hl hP hS => lv_ixor hO.1 hO.2.1 hd  (k ls H locs hl hP hS)
theorem G_idiv (hO : OKM Γ X own cc nL ret) {x y : Int32} (hd : decode cc pc = .ok (.idiv, 1)) (hne : ¬ y = 0) (k : GG Γ X d nL Q (pc + 1) lv (.int (x / y) :: st) w) : GG Γ X d nL Q pc lv (.int y :: .int x :: st) w := fun ls H locs hl hP hS => lv_idiv hO.1 hO.2.1 hd hne (k ls H locs hl hP hS)
theorem G_irem (hO : OKM Γ X own cc nL ret) {x y : Int32} (hd : decode cc pc = .ok (.irem, 1)) (hne : ¬ y = 0) (k : GG Γ X d nL Q (pc + 1) lv (.int (x - (x / y) * y) :: st) w) : GG Γ X d nL Q pc lv (.int y :: .int x :: st) w := fun ls H locs hl hP hS => lv_irem hO.1 hO.2.1 hd hne (k ls H locs hl hP hS)
theorem G_ineg (hO : OKM Γ X own cc nL ret) {x : Int32} (hd : decode cc pc = .ok (.ineg, 1)) (k : GG Γ X d nL Q (pc + 1) lv (.int (-x) :: st) w) : GG Γ X d nL Q pc lv (.int x :: st) w := fun ls H locs hl hP hS => lv_ineg hO.1 hO.2.1 hd  (k ls H locs hl hP hS)
theorem G_ishl (hO : OKM Γ X own cc nL ret) {x y : Int32} (hd : decode cc pc = .ok (.ishl, 1)) (k : GG Γ X d nL Q (pc + 1) lv (.int (x <<< (y &&& 31)) :: st) w) : GG Γ X d nL Q pc lv (.int y :: .int x :: st) w := fun ls H locs hl hP hS => lv_ishl hO.1 hO.2.1 hd  (k ls H locs hl hP hS)
theorem G_ishr (hO : OKM Γ X own cc nL ret) {x y : Int32} (hd : decode cc pc = .ok (.ishr, 1)) (k : GG Γ X d nL Q (pc + 1) lv (.int (x >>> (y &&& 31)) :: st) w) : GG Γ X d nL Q pc lv (.int y :: .int x :: st) w := fun ls H locs hl hP hS => lv_ishr hO.1 hO.2.1 hd  (k ls H locs hl hP hS)
theorem G_iushr (hO : OKM Γ X own cc nL ret) {x y : Int32} (hd : decode cc pc = .ok (.iushr, 1)) (k : GG Γ X d nL Q (pc + 1) lv (.int ((x.toUInt32 >>> (y.toUInt32 &&& Int32.toUInt32 31)).toInt32) :: st) w) : GG Γ X d nL Q pc lv (.int y :: .int x :: st) w := fun ls H locs hl hP hS => lv_iushr hO.1 hO.2.1 hd rfl (k ls H locs hl hP hS)
theorem G_ladd (hO : OKM Γ X own cc nL ret) {x y : Int64} (hd : decode cc pc = .ok (.ladd, 1)) (k : GG Γ X d nL Q (pc + 1) lv (.long (x + y) :: st) w) : GG Γ X d nL Q pc lv (.long y :: .long x :: st) w := fun ls H locs hl hP hS => lv_ladd hO.1 hO.2.1 hd  (k ls H locs hl hP hS)
theorem G_lsub (hO : OKM Γ X own cc nL ret) {x y : Int64} (hd : decode cc pc = .ok (.lsub, 1)) (k : GG Γ X d nL Q (pc + 1) lv (.long (x - y) :: st) w) : GG Γ X d nL Q pc lv (.long y :: .long x :: st) w := fun ls H locs hl hP hS => lv_lsub hO.1 hO.2.1 hd  (k ls H locs hl hP hS)
theorem G_lmul (hO : OKM Γ X own cc nL ret) {x y : Int64} (hd : decode cc pc = .ok (.lmul, 1)) (k : GG Γ X d nL Q (pc + 1) lv (.long (x * y) :: st) w) : GG Γ X d nL Q pc lv (.long y :: .long x :: st) w := fun ls H locs hl hP hS => lv_lmul hO.1 hO.2.1 hd  (k ls H locs hl hP hS)
theorem G_i2l (hO : OKM Γ X own cc nL ret) {x : Int32} (hd : decode cc pc = .ok (.i2l, 1)) (k : GG Γ X d nL Q (pc + 1) lv (.long x.toInt64 :: st) w) : GG Γ X d nL Q pc lv (.int x :: st) w := fun ls H locs hl hP hS => lv_i2l hO.1 hO.2.1 hd rfl (k ls H locs hl hP hS)
theorem G_l2i (hO : OKM Γ X own cc nL ret) {x : Int64} (hd : decode cc pc = .ok (.l2i, 1)) (k : GG Γ X d nL Q (pc + 1) lv (.int x.toInt32 :: st) w) : GG Γ X d nL Q pc lv (.long x :: st) w := fun ls H locs hl hP hS => lv_l2i hO.1 hO.2.1 hd rfl (k ls H locs hl hP hS)
theorem G_i2b (hO : OKM Γ X own cc nL ret) {x : Int32} (hd : decode cc pc = .ok (.i2b, 1)) (k : GG Γ X d nL Q (pc + 1) lv (.int x.toInt8.toInt32 :: st) w) : GG Γ X d nL Q pc lv (.int x :: st) w := fun ls H locs hl hP hS => lv_i2b hO.1 hO.2.1 hd rfl (k ls H locs hl hP hS)
theorem G_i2s (hO : OKM Γ X own cc nL ret) {x : Int32} (hd : decode cc pc = .ok (.i2s, 1)) (k : GG Γ X d nL Q (pc + 1) lv (.int x.toInt16.toInt32 :: st) w) : GG Γ X d nL Q pc lv (.int x :: st) w := fun ls H locs hl hP hS => lv_i2s hO.1 hO.2.1 hd rfl (k ls H locs hl hP hS)
theorem G_i2c (hO : OKM Γ X own cc nL ret) {x : Int32} (hd : decode cc pc = .ok (.i2c, 1)) (k : GG Γ X d nL Q (pc + 1) lv (.int (x.toUInt32 % 65536).toInt32 :: st) w) : GG Γ X d nL Q pc lv (.int x :: st) w := fun ls H locs hl hP hS => lv_i2c hO.1 hO.2.1 hd rfl (k ls H locs hl hP hS)
theorem G_lcmp (hO : OKM Γ X own cc nL ret) {x y : Int64} (hd : decode cc pc = .ok (.lcmp, 1)) (k : GG Γ X d nL Q (pc + 1) lv (.int (lg_cmp x y) :: st) w) : GG Γ X d nL Q pc lv (.long y :: .long x :: st) w := fun ls H locs hl hP hS => W.lcmp hO.1 hO.2.1 hd  (k ls H locs hl hP hS)
theorem G_dup (hO : OKM Γ X own cc nL ret) {va : Value} (hd : decode cc pc = .ok (.dup, 1)) (hva : va.category = 1) (k : GG Γ X d nL Q (pc + 1) lv (va :: va :: st) w) : GG Γ X d nL Q pc lv (va :: st) w := fun ls H locs hl hP hS => lv_dup hO.1 hO.2.1 hd hva (k ls H locs hl hP hS)
theorem G_pop (hO : OKM Γ X own cc nL ret) {va : Value} (hd : decode cc pc = .ok (.pop, 1)) (hva : va.category = 1) (k : GG Γ X d nL Q (pc + 1) lv (st) w) : GG Γ X d nL Q pc lv (va :: st) w := fun ls H locs hl hP hS => lv_pop hO.1 hO.2.1 hd hva (k ls H locs hl hP hS)
theorem G_dup_x1 (hO : OKM Γ X own cc nL ret) {va vb : Value} (hd : decode cc pc = .ok (.dup_x1, 1)) (hva : va.category = 1) (hvb : vb.category = 1) (k : GG Γ X d nL Q (pc + 1) lv (va :: vb :: va :: st) w) : GG Γ X d nL Q pc lv (va :: vb :: st) w := fun ls H locs hl hP hS => lv_dup_x1 hO.1 hO.2.1 hd hva hvb (k ls H locs hl hP hS)
theorem G_dup2 (hO : OKM Γ X own cc nL ret) {va vb : Value} (hd : decode cc pc = .ok (.dup2, 1)) (hva : va.category = 1) (hvb : vb.category = 1) (k : GG Γ X d nL Q (pc + 1) lv (va :: vb :: va :: vb :: st) w) : GG Γ X d nL Q pc lv (va :: vb :: st) w := fun ls H locs hl hP hS => lv_dup2_11 hO.1 hO.2.1 hd hva hvb (k ls H locs hl hP hS)
theorem G_if_eq (hO : OKM Γ X own cc nL ret) {x : Int32} {off : Int} {tgt : Nat} (hd : decode cc pc = .ok (.ifCond .eq off, 3)) (ht : (pc : Int) + off = (tgt : Int)) (kt : x = 0 → GG Γ X d nL Q tgt lv st w) (kf : ¬ x = 0 → GG Γ X d nL Q (pc + 3) lv st w) : GG Γ X d nL Q pc lv (.int x :: st) w := fun ls H locs hl hP hS => lv_if_eq hO.1 hO.2.1 hd ht (fun h => kt h ls H locs hl hP hS) (fun h => kf h ls H locs hl hP hS)
theorem G_icmp_eq (hO : OKM Γ X own cc nL ret) {x y : Int32} {off : Int} {tgt : Nat} (hd : decode cc pc = .ok (.if_icmp .eq off, 3)) (ht : (pc : Int) + off = (tgt : Int)) (kt : x = y → GG Γ X d nL Q tgt lv st w) (kf : ¬ x = y → GG Γ X d nL Q (pc + 3) lv st w) : GG Γ X d nL Q pc lv (.int y :: .int x :: st) w := fun ls H locs hl hP hS => lv_icmp_eq hO.1 hO.2.1 hd ht (fun h => kt h ls H locs hl hP hS) (fun h => kf h ls H locs hl hP hS)
theorem G_if_ne (hO : OKM Γ X own cc nL ret) {x : Int32} {off : Int} {tgt : Nat} (hd : decode cc pc = .ok (.ifCond .ne off, 3)) (ht : (pc : Int) + off = (tgt : Int)) (kt : ¬ x = 0 → GG Γ X d nL Q tgt lv st w) (kf : x = 0 → GG Γ X d nL Q (pc + 3) lv st w) : GG Γ X d nL Q pc lv (.int x :: st) w := fun ls H locs hl hP hS => lv_if_ne hO.1 hO.2.1 hd ht (fun h => kt h ls H locs hl hP hS) (fun h => kf h ls H locs hl hP hS)
theorem G_icmp_ne (hO : OKM Γ X own cc nL ret) {x y : Int32} {off : Int} {tgt : Nat} (hd : decode cc pc = .ok (.if_icmp .ne off, 3)) (ht : (pc : Int) + off = (tgt : Int)) (kt : ¬ x = y → GG Γ X d nL Q tgt lv st w) (kf : x = y → GG Γ X d nL Q (pc + 3) lv st w) : GG Γ X d nL Q pc lv (.int y :: .int x :: st) w := fun ls H locs hl hP hS => lv_icmp_ne hO.1 hO.2.1 hd ht (fun h => kt h ls H locs hl hP hS) (fun h => kf h ls H locs hl hP hS)
theorem G_if_lt (hO : OKM Γ X own cc nL ret) {x : Int32} {off : Int} {tgt : Nat} (hd : decode cc pc = .ok (.ifCond .lt off, 3)) (ht : (pc : Int) + off = (tgt : Int)) (kt : x < 0 → GG Γ X d nL Q tgt lv st w) (kf : ¬ x < 0 → GG Γ X d nL Q (pc + 3) lv st w) : GG Γ X d nL Q pc lv (.int x :: st) w := fun ls H locs hl hP hS => lv_if_lt hO.1 hO.2.1 hd ht (fun h => kt h ls H locs hl hP hS) (fun h => kf h ls H locs hl hP hS)
theorem G_icmp_lt (hO : OKM Γ X own cc nL ret) {x y : Int32} {off : Int} {tgt : Nat} (hd : decode cc pc = .ok (.if_icmp .lt off, 3)) (ht : (pc : Int) + off = (tgt : Int)) (kt : x < y → GG Γ X d nL Q tgt lv st w) (kf : ¬ x < y → GG Γ X d nL Q (pc + 3) lv st w) : GG Γ X d nL Q pc lv (.int y :: .int x :: st) w := fun ls H locs hl hP hS => lv_icmp_lt hO.1 hO.2.1 hd ht (fun h => kt h ls H locs hl hP hS) (fun h => kf h ls H locs hl hP hS)
theorem G_if_ge (hO : OKM Γ X own cc nL ret) {x : Int32} {off : Int} {tgt : Nat} (hd : decode cc pc = .ok (.ifCond .ge off, 3)) (ht : (pc : Int) + off = (tgt : Int)) (kt : 0 ≤ x → GG Γ X d nL Q tgt lv st w) (kf : ¬ 0 ≤ x → GG Γ X d nL Q (pc + 3) lv st w) : GG Γ X d nL Q pc lv (.int x :: st) w := fun ls H locs hl hP hS => lv_if_ge hO.1 hO.2.1 hd ht (fun h => kt h ls H locs hl hP hS) (fun h => kf h ls H locs hl hP hS)
theorem G_icmp_ge (hO : OKM Γ X own cc nL ret) {x y : Int32} {off : Int} {tgt : Nat} (hd : decode cc pc = .ok (.if_icmp .ge off, 3)) (ht : (pc : Int) + off = (tgt : Int)) (kt : y ≤ x → GG Γ X d nL Q tgt lv st w) (kf : ¬ y ≤ x → GG Γ X d nL Q (pc + 3) lv st w) : GG Γ X d nL Q pc lv (.int y :: .int x :: st) w := fun ls H locs hl hP hS => lv_icmp_ge hO.1 hO.2.1 hd ht (fun h => kt h ls H locs hl hP hS) (fun h => kf h ls H locs hl hP hS)
theorem G_if_gt (hO : OKM Γ X own cc nL ret) {x : Int32} {off : Int} {tgt : Nat} (hd : decode cc pc = .ok (.ifCond .gt off, 3)) (ht : (pc : Int) + off = (tgt : Int)) (kt : 0 < x → GG Γ X d nL Q tgt lv st w) (kf : ¬ 0 < x → GG Γ X d nL Q (pc + 3) lv st w) : GG Γ X d nL Q pc lv (.int x :: st) w := fun ls H locs hl hP hS => lv_if_gt hO.1 hO.2.1 hd ht (fun h => kt h ls H locs hl hP hS) (fun h => kf h ls H locs hl hP hS)
theorem G_icmp_gt (hO : OKM Γ X own cc nL ret) {x y : Int32} {off : Int} {tgt : Nat} (hd : decode cc pc = .ok (.if_icmp .gt off, 3)) (ht : (pc : Int) + off = (tgt : Int)) (kt : y < x → GG Γ X d nL Q tgt lv st w) (kf : ¬ y < x → GG Γ X d nL Q (pc + 3) lv st w) : GG Γ X d nL Q pc lv (.int y :: .int x :: st) w := fun ls H locs hl hP hS => lv_icmp_gt hO.1 hO.2.1 hd ht (fun h => kt h ls H locs hl hP hS) (fun h => kf h ls H locs hl hP hS)
theorem G_if_le (hO : OKM Γ X own cc nL ret) {x : Int32} {off : Int} {tgt : Nat} (hd : decode cc pc = .ok (.ifCond .le off, 3)) (ht : (pc : Int) + off = (tgt : Int)) (kt : x ≤ 0 → GG Γ X d nL Q tgt lv st w) (kf : ¬ x ≤ 0 → GG Γ X d nL Q (pc + 3) lv st w) : GG Γ X d nL Q pc lv (.int x :: st) w := fun ls H locs hl hP hS => lv_if_le hO.1 hO.2.1 hd ht (fun h => kt h ls H locs hl hP hS) (fun h => kf h ls H locs hl hP hS)
theorem G_icmp_le (hO : OKM Γ X own cc nL ret) {x y : Int32} {off : Int} {tgt : Nat} (hd : decode cc pc = .ok (.if_icmp .le off, 3)) (ht : (pc : Int) + off = (tgt : Int)) (kt : x ≤ y → GG Γ X d nL Q tgt lv st w) (kf : ¬ x ≤ y → GG Γ X d nL Q (pc + 3) lv st w) : GG Γ X d nL Q pc lv (.int y :: .int x :: st) w := fun ls H locs hl hP hS => lv_icmp_le hO.1 hO.2.1 hd ht (fun h => kt h ls H locs hl hP hS) (fun h => kf h ls H locs hl hP hS)
theorem G_goto (hO : OKM Γ X own cc nL ret) {off : Int} {tgt : Nat} (hd : decode cc pc = .ok (.goto off, 3)) (ht : (pc : Int) + off = (tgt : Int)) (k : GG Γ X d nL Q tgt lv st w) : GG Γ X d nL Q pc lv st w := fun ls H locs hl hP hS => lv_goto hO.1 hO.2.1 hd ht (k ls H locs hl hP hS)
theorem G_table (hO : OKM Γ X own cc nL ret) {dflt lo hi : Int} {offs : Array Int} {len tgt : Nat} {x : Int32} (hd : decode cc pc = .ok (.tableswitch dflt lo hi offs, len)) (hsz : hi - lo + 1 = (offs.size : Int)) (ht : (pc : Int) + dflt = (tgt : Int))
    (kin : ∀ (j : Nat) (off : Int), offs[j]? = some off → x.toInt = lo + j → ∀ t : Nat, (pc : Int) + off = (t : Int) → GG Γ X d nL Q t lv st w) (kpos : ∀ (j : Nat) (off : Int), offs[j]? = some off → 0 ≤ (pc : Int) + off) (kout : (x.toInt < lo ∨ hi < x.toInt) → GG Γ X d nL Q tgt lv st w) : GG Γ X d nL Q pc lv (.int x :: st) w := fun ls H locs hl hP hS => by
  by_cases h : x.toInt < lo ∨ hi < x.toInt
  · exact lv_tableOut hO.1 hO.2.1 hd h ht (kout h ls H locs hl hP hS)
  · have h1 : ¬ x.toInt < lo := fun q => h (Or.inl q)
    have h2 : ¬ hi < x.toInt := fun q => h (Or.inr q)
    have hj : (x.toInt - lo).toNat < offs.size := by omega
    have ho := Array.getElem?_eq_getElem hj
    have hp := kpos _ _ ho
    exact lv_tableIn hO.1 hO.2.1 hd h1 h2 ho (tgt := ((pc : Int) + offs[(x.toInt - lo).toNat]).toNat) (by omega) (kin _ _ ho (by omega) _ (by omega) ls H locs hl hP hS)
theorem offset_in {x : Int} {dflt : Int} : ∀ (ps : List (Int × Int)), (∃ q ∈ ps, x = q.1 ∧ Op.lookupswitch.offset ps dflt x = q.2) ∨ ((∀ q ∈ ps, ¬ x = q.1) ∧ Op.lookupswitch.offset ps dflt x = dflt)
  | [] => Or.inr ⟨fun q h => by simp at h, by simp [Op.lookupswitch.offset]⟩
  | (a, o) :: r => by
    rw [Op.lookupswitch.offset_cons]
    by_cases h : a = x
    · exact Or.inl ⟨(a, o), List.mem_cons_self, h.symm, by rw [if_pos h]⟩
    · rw [if_neg h]
      rcases offset_in r with ⟨q, h1, h2, h3⟩ | ⟨h1, h2⟩
      · exact Or.inl ⟨q, List.mem_cons_of_mem _ h1, h2, h3⟩
      · refine Or.inr ⟨fun q hq => ?_, h2⟩
        rcases List.mem_cons.mp hq with rfl | hq
        · exact fun e => h e.symm
        · exact h1 q hq
theorem G_lookup (hO : OKM Γ X own cc nL ret) {dflt : Int} {ps : Array (Int × Int)} {len tgt : Nat} {x : Int32} (hd : decode cc pc = .ok (.lookupswitch dflt ps, len)) (hp : (ps.toList.zip (ps.toList.drop 1)).all (fun (a, next) => a.1 < next.1) = true) (ht : (pc : Int) + dflt = (tgt : Int))
    (kin : ∀ q ∈ ps.toList, x.toInt = q.1 → ∀ t : Nat, (pc : Int) + q.2 = (t : Int) → GG Γ X d nL Q t lv st w) (kpos : ∀ q ∈ ps.toList, 0 ≤ (pc : Int) + q.2) (kout : (∀ q ∈ ps.toList, ¬ x.toInt = q.1) → GG Γ X d nL Q tgt lv st w) : GG Γ X d nL Q pc lv (.int x :: st) w := fun ls H locs hl hP hS => by
  rcases offset_in (x := x.toInt) (dflt := dflt) ps.toList with ⟨q, h1, h2, h3⟩ | ⟨h1, h2⟩
  · have := kpos q h1
    exact lv_lookup hO.1 hO.2.1 hd hp h3 (tgt := ((pc : Int) + q.2).toNat) (by omega) (kin q h1 h2 _ (by omega) ls H locs hl hP hS)
  · exact lv_lookup hO.1 hO.2.1 hd hp h2 ht (kout h1 ls H locs hl hP hS)
theorem G_iaload (hO : OKM Γ X own cc nL ret) {i n : Nat} {j : Int32} (hd : decode cc pc = .ok (.iaload, 1)) (hs : (gS Γ)[i]? = some (.inl (0, n, []))) (hin : vp_in j n) (k : GG Γ X d nL Q (pc + 1) lv (.int (w i j.toNatClampNeg) :: st) w) : GG Γ X d nL Q pc lv (.int j :: .ref (gad Γ i) :: st) w := fun ls H locs hl hP hS =>
  va_iald hO.1 hO.2.1 hO.2.2.2.2.2.2.2.1 hP i 0 (f := w i) (gW_get hs) rfl hin hd (k ls H locs hl hP hS)
theorem G_baload (hO : OKM Γ X own cc nL ret) {i n : Nat} {j : Int32} (hd : decode cc pc = .ok (.baload, 1)) (hs : (gS Γ)[i]? = some (.inl (1, n, []))) (hin : vp_in j n) (k : GG Γ X d nL Q (pc + 1) lv (.int (w i j.toNatClampNeg) :: st) w) : GG Γ X d nL Q pc lv (.int j :: .ref (gad Γ i) :: st) w := fun ls H locs hl hP hS =>
  va_zald hO.1 hO.2.1 hO.2.2.2.2.2.2.2.1 hP i 1 (f := w i) (gW_get hs) rfl hin hd (k ls H locs hl hP hS)
theorem G_iastore (hO : OKM Γ X own cc nL ret) {i n : Nat} {j x : Int32} (hd : decode cc pc = .ok (.iastore, 1)) (hs : (gS Γ)[i]? = some (.inl (0, n, []))) (hin : vp_in j n) (k : GG Γ X d nL Q (pc + 1) lv st (wset w i j.toNatClampNeg x)) : GG Γ X d nL Q pc lv (.int x :: .int j :: .ref (gad Γ i) :: st) w := fun ls H locs hl hP hS =>
  va_iast hO.1 hO.2.1 hO.2.2.2.2.2.2.2.1 hP (gW_D hO.2.2.2.2.2.2.2.2.1 w) hS i 0 (f := w i) (gW_get hs) rfl hin hd (fun H1 locs1 hP1 _ hS1 => k ls H1 locs1 hl (by
    have e := gW_set (w := w) (w' := wset w i j.toNatClampNeg x) hs (fun a ha => wset_off w i _ a x ha)
    rw [← e]
    simp only [celE, wset_row]
    exact hP1) hS1)
theorem G_bastore (hO : OKM Γ X own cc nL ret) {i n : Nat} {j x : Int32} (hd : decode cc pc = .ok (.bastore, 1)) (hs : (gS Γ)[i]? = some (.inl (1, n, []))) (hin : vp_in j n) (hb : x &&& 1 = x) (k : GG Γ X d nL Q (pc + 1) lv st (wset w i j.toNatClampNeg x)) : GG Γ X d nL Q pc lv (.int x :: .int j :: .ref (gad Γ i) :: st) w := fun ls H locs hl hP hS =>
  va_zast hO.1 hO.2.1 hO.2.2.2.2.2.2.2.1 hP (gW_D hO.2.2.2.2.2.2.2.2.1 w) hS i 1 (f := w i) (gW_get hs) rfl hin hd (fun H1 locs1 hP1 _ hS1 => k ls H1 locs1 hl (by
    have e := gW_set (w := w) (w' := wset w i j.toNatClampNeg x) hs (fun a ha => wset_off w i _ a x ha)
    rw [← e]
    simp only [celE, wset_row]
    have en : vp_nar .boolean x = x := by simp [vp_nar, narrow, hb]
    rw [en] at hP1
    exact hP1) hS1)
theorem G_aaload (hO : OKM Γ X own cc nL ret) {i t n r : Nat} {rs : List Nat} {j : Int32} {C : String} (hd : decode cc pc = .ok (.aaload, 1)) (hs : (gS Γ)[i]? = some (.inl (t, n, r :: rs))) (hC : (gTys (gcA Γ))[t]? = some (gcA Γ t, .object C)) (hin : vp_in j n) (k : GG Γ X d nL Q (pc + 1) lv (.ref (gad Γ (rfa (r :: rs) j.toNatClampNeg)) :: st) w) : GG Γ X d nL Q pc lv (.int j :: .ref (gad Γ i) :: st) w := fun ls H locs hl hP hS =>
  va_aldq hO.1 hO.2.1 hO.2.2.2.2.2.2.2.1 hP i t (gW_get hs) hC hin hd (k ls H locs hl hP hS)
theorem G_alen (hO : OKM Γ X own cc nL ret) {i t n : Nat} {ty : FieldType} {v : Int32} (hd : decode cc pc = .ok (.arraylength, 1)) (hs : (gS Γ)[i]? = some (.inl (t, n, []))) (hC : (gTys (gcA Γ))[t]? = some (gcA Γ t, ty)) (hv : Int32.ofNat n = v) (k : GG Γ X d nL Q (pc + 1) lv (.int v :: st) w) : GG Γ X d nL Q pc lv (.ref (gad Γ i) :: st) w := fun ls H locs hl hP hS =>
  va_alen hO.1 hO.2.1 hO.2.2.2.2.2.2.2.1 hP i t (gW_get hs) hC hv hd (k ls H locs hl hP hS)
theorem G_alenr (hO : OKM Γ X own cc nL ret) {i t n r : Nat} {rs : List Nat} {ty : FieldType} {v : Int32} (hd : decode cc pc = .ok (.arraylength, 1)) (hs : (gS Γ)[i]? = some (.inl (t, n, r :: rs))) (hC : (gTys (gcA Γ))[t]? = some (gcA Γ t, ty)) (hv : Int32.ofNat n = v) (k : GG Γ X d nL Q (pc + 1) lv (.int v :: st) w) : GG Γ X d nL Q pc lv (.ref (gad Γ i) :: st) w := fun ls H locs hl hP hS =>
  va_alen hO.1 hO.2.1 hO.2.2.2.2.2.2.2.1 hP i t (gW_get hs) hC hv hd (k ls H locs hl hP hS)
theorem G_get (hO : OKM Γ X own cc nL ret) {i ci N idx fk : Nat} {fks : List Nat} {C : String} {T : u_T} {v : Value} (hd : decode cc pc = .ok (.getfield idx, 3)) (kk : Nat) (hs : (gS Γ)[i]? = some (.inr (ci, fks))) (hc : vwCl[ci]? = some (C, T, N)) (hin : ∀ w ∈ u_ws C T N, w ∈ AW) (hk : kk < N) (hlk : Cond.fieldLink own idx (T kk).1 (T kk).2.1 (T kk).2.2.1 ∈ AW) (hf : fks[kk]? = some fk) (hv : fvl (gad Γ) w i kk fk = v) (k : GG Γ X d nL Q (pc + 3) lv (v :: st) w) : GG Γ X d nL Q pc lv (.ref (gad Γ i) :: st) w := fun ls H locs hl hP hS =>
  va_get hO.1 hO.2.1 hO.2.2.2.2.1 hin hO.2.2.2.1 hO.2.2.2.2.2.2.2.1 hP i (gW_get hs) hc kk hk (hO.2.2.2.2.1 _ hlk) (fun _ h => h) (by rw [flds_get fks 0 kk hf, Nat.zero_add, hv]) hd (k ls H locs hl hP hS)
theorem G_put (hO : OKM Γ X own cc nL ret) {i ci N idx fk : Nat} {fks : List Nat} {C : String} {T : u_T} {x : Int32} {v : Value} {ty : FieldType} (hd : decode cc pc = .ok (.putfield idx, 3)) (ty0 : Nat → FieldType) (kk : Nat) (hs : (gS Γ)[i]? = some (.inr (ci, fks))) (hc : vwCl[ci]? = some (C, T, N)) (hin : ∀ w ∈ u_ws C T N, w ∈ AW) (hty : ∀ k, k < N → parseFieldDescriptor (T k).2.2.1 = some (ty0 k)) (hnm : ∀ a, a < N → ∀ b, b < N → a ≠ b → (T a).2.1 ≠ (T b).2.1) (hk : kk < N) (hlk : Cond.fieldLink own idx (T kk).1 (T kk).2.1 (T kk).2.2.1 ∈ AW) (hfin : (T kk).2.2.2 = false) (he : ty0 kk = ty) (hn : narrow ty v = v) (hfit : fits ty v = true) (hf : fks[kk]? = some fk) (hv : ∀ j : Nat, fvl (gad Γ) (wset w i j x) i j fk = v) (k : GG Γ X d nL Q (pc + 3) lv st (wset w i kk x)) : GG Γ X d nL Q pc lv (v :: .ref (gad Γ i) :: st) w := fun ls H locs hl hP hS => by
  have hlen : kk < (flds (gad Γ) w i 0 fks).length := by rw [flds_len]; exact (List.getElem?_eq_some_iff.mp hf).1
  refine va_put hO.1 hO.2.1 hO.2.2.2.2.1 hin ty0 hty hnm hO.2.2.2.1 hO.2.2.2.2.2.2.2.1 hP (gW_D hO.2.2.2.2.2.2.2.2.1 w) hS i (gW_get hs) hc kk hk (hO.2.2.2.2.1 _ hlk) (fun _ h => h) hfin (hd := by rw [hty kk hk, he]) hn hfit hlen hd (fun H1 locs1 hP1 _ hS1 => k ls H1 locs1 hl ?_ hS1)
  have e := gW_set (w := w) (w' := wset w i kk x) hs (fun a ha => wset_off w i _ a x ha)
  rw [← e]
  have e2 := flds_set (ad := gad Γ) (w := w) (i := i) (v := x) v hv fks 0 kk hf
  rw [Nat.zero_add] at e2
  simp only [celE, ← e2]
  exact hP1
theorem run_go {H : Heap} {ls : Array Slot} {locs : List Loc} {st0 : List Value} {a : Array Value} {Q' : Option Value → Wd → Prop} (hO : OKM Γ X own cc nL ret) (hr : va_Run (xp X) (Gl Γ) (xe X) (rmd d) (xs X) (xm X) (xa X) (xb X) (xt X) (xc X) H locs 0 0 0 0 (F0 (xm X) pc ls st0) rest (QG Γ Q' a) (gA Γ))
    (hl : LH ls nL lv) (hS : va_S (gA Γ) (xs X).heap H locs) (k : ∀ r w', Q' r w' → GG Γ X d nL Q (pc + 3) lv (r.toList ++ rest) w') : W (xp X) (Gl Γ) (xe X) (rmd d) (xs X) (xm X) (xa X) (xb X) (xt X) (xc X) H locs 0 0 (MQ (xb X) (QG Γ Q) (xa X) (xs X) 0 0 (gA Γ)) (F0 (xm X) pc ls st0) := by
  intro T hT Y
  obtain ⟨v, st₀, t, T', L, h0, X', hL, e1, e2, ⟨⟨r, w', hv, hq, hP', -⟩, hz, hk⟩, stp⟩ := hr T hT Y
  cases hv
  rw [h0] at hz hk
  obtain ⟨t2, a1, b1⟩ := k v w' hq ls T'.heap (locs ++ L) hl (by rw [e1]; exact hP')
    ⟨Nat.le_trans hS.1 (by rw [e1]; exact hz), fun q h1 h2 => by rw [e1, hk q (Nat.lt_of_lt_of_le h1 hS.1) h2]; exact hS.2.1 q h1 h2, fun q hq => by
      rcases List.mem_append.mp hq with h | h
      · exact hS.2.2 q h
      · exact hL q h⟩ T' rfl X'
  exact ⟨t2, stp t2 a1, b1⟩
theorem Inv_here {H : Heap} {locs : List Loc} (hO : OKM Γ X own cc nL ret) (hP : va_P (gD Γ) vwCl (gW Γ w) H) (hS : va_S (gA Γ) (xs X).heap H locs) {U : State} (hU : U.heap = H) (hW : (xs X).WarmedH U.vm) : Inv Γ w U := by
  obtain ⟨-, -, -, -, -, -, -, hK, hG, hE⟩ := hO
  exact ⟨by rw [hU]; exact hP, va_K.moved hW.alike hK, hG.2.2 (xs X) U hE hW (by rw [hU]; exact hS.1) (by rw [hU]; exact hS.2.1)⟩
theorem callD_B {M : Mth} {n idx : Nat} (hO : OKM Γ X own cc nL ret) (hw : CallD M n) (hl : Cond.methodLink own idx M.1 ∈ AW) : CallB (rmd (d + 1)) (xs X) (xa X) own idx M.1 M.2.1 M.2.2.1 M.2.2.2 (wsM M) (rmd d) 0 0 n := by
  obtain ⟨h1, h2, h3, h4⟩ := hw
  refine callB_of n hO.2.2.2.2.1 (wsM_good h2) rfl rfl rfl (hO.2.2.2.2.1 _ h1) (hO.2.2.2.2.1 _ hl) h3 ⟨Nat.le_refl _, ?_⟩
  show 8 + (M.2.2.1 + 11) + 64 * d ≤ 64 * (d + 1)
  omega
theorem G_callV (hO : OKM Γ X own cc nL ret) {M : Mth} {idx n i ci N : Nat} {fks : List Nat} {C : String} {T : u_T} {As : List Value} {K : Option Value → Wd → Prop} (hd : decode cc pc = .ok (.invokevirtual idx, 3)) (h : Con Γ d M (.ref (gad Γ i) :: As) w K) (hw : CallV own C idx M n) (hs : (gS Γ)[i]? = some (.inr (ci, fks))) (hc : vwCl[ci]? = some (C, T, N)) (hn : As.length = n) (hr : (rest.map fun v => v.category).sum ≤ 8) (k : ∀ r w', K r w' → GG Γ X (d + 1) nL Q (pc + 3) lv (r.toList ++ rest) w') (hst : st = As.reverse ++ .ref (gad Γ i) :: rest) : GG Γ X (d + 1) nL Q pc lv st w := fun ls H locs hl hP hS => by
  obtain ⟨h1, h2, h3, h4⟩ := hw
  exact run_go hO (va_runV (As := As) (rest := rest) ⟨hO.1, hO.2.1, hO.2.2.1, hO.2.2.2.1, hO.2.2.2.2.1⟩ h ⟨callD_B hO h4 h1, hO.2.2.2.2.1 _ h2, hO.2.2.2.2.1 _ h3⟩ ⟨Inv_blind hO.2.2.2.2.2.2.2.2.1, va_recv hO.2.2.2.2.2.2.2.1 hP hc (gW_get hs), fun U hU hW => ⟨rfl, Inv_here hO hP hS hU hW⟩⟩ rfl hn hl.1 hst (lv_room hr) hd ⟨Nat.le_refl _, Nat.le_refl _⟩) hl hS k
theorem G_callS (hO : OKM Γ X own cc nL ret) {M : Mth} {idx n : Nat} {As : List Value} {K : Option Value → Wd → Prop} (hd : decode cc pc = .ok (.invokestatic idx, 3)) (h : Con Γ d M As w K) (hw : CallS own idx M n) (hn : As.length = n) (hr : (rest.map fun v => v.category).sum ≤ 8) (k : ∀ r w', K r w' → GG Γ X (d + 1) nL Q (pc + 3) lv (r.toList ++ rest) w') (hst : st = As.reverse ++ rest) : GG Γ X (d + 1) nL Q pc lv st w := fun ls H locs hl hP hS => by
  obtain ⟨h1, h2, h4⟩ := hw
  exact run_go hO (va_runS (As := As) (rest := rest) ⟨hO.1, hO.2.1, hO.2.2.1, hO.2.2.2.1, hO.2.2.2.2.1⟩ h ⟨callD_B hO h4 h1, hO.2.2.2.2.1 _ h2⟩ ⟨Inv_blind hO.2.2.2.2.2.2.2.2.1, fun U hU hW => ⟨rfl, Inv_here hO hP hS hU hW⟩⟩ rfl hn hl.1 hst (lv_room hr) hd ⟨Nat.le_refl _, Nat.le_refl _⟩) hl hS k
theorem G_callSN (hO : OKM Γ X own cc nL ret) {M : Mth} {idx n : Nat} {host : String} {As : List Value} {K : Option Value → Wd → Prop} (hd : decode cc pc = .ok (.invokestatic idx, 3)) (h : Con Γ d M As w K) (hl1 : va_Nw (.methodLinkNest own idx M.1 host) (xs X)) (hw : CallSN M n) (hn : As.length = n) (hr : (rest.map fun v => v.category).sum ≤ 8) (k : ∀ r w', K r w' → GG Γ X (d + 1) nL Q (pc + 3) lv (r.toList ++ rest) w') (hst : st = As.reverse ++ rest) : GG Γ X (d + 1) nL Q pc lv st w := fun ls H locs hl hP hS => by
  obtain ⟨h2, g1, g2, g3, g4⟩ := hw
  refine run_go hO (va_runSN (As := As) (rest := rest) ⟨hO.1, hO.2.1, hO.2.2.1, hO.2.2.2.1, hO.2.2.2.2.1⟩ h ⟨va_cnB n hO.2.2.2.2.1 (wsM_good g2) rfl rfl rfl hl1 (hO.2.2.2.2.1 _ g1) g3 ⟨Nat.le_refl _, ?_⟩, hO.2.2.2.2.1 _ h2, trivial⟩ ⟨Inv_blind hO.2.2.2.2.2.2.2.2.1, fun U hU hW => ⟨rfl, Inv_here hO hP hS hU hW⟩⟩ rfl hn hl.1 hst (lv_room hr) hd ⟨Nat.le_refl _, Nat.le_refl _⟩) hl hS k
  show 8 + (M.2.2.1 + 11) + 64 * d ≤ 64 * (d + 1)
  omega
theorem G_callVi (hO : OKM Γ X own cc nL ret) {M : Mth} {idx n i ci N : Nat} {fks : List Nat} {C : String} {T : u_T} {As : List Value} {K : Int32 → Wd → Prop} (hd : decode cc pc = .ok (.invokevirtual idx, 3)) (h : CI Γ d M (.ref (gad Γ i) :: As) w K) (hw : CallV own C idx M n) (hs : (gS Γ)[i]? = some (.inr (ci, fks))) (hc : vwCl[ci]? = some (C, T, N)) (hn : As.length = n) (hr : (rest.map fun v => v.category).sum ≤ 8) (k : ∀ v w', K v w' → GG Γ X (d + 1) nL Q (pc + 3) lv (.int v :: rest) w') (hst : st = As.reverse ++ .ref (gad Γ i) :: rest) : GG Γ X (d + 1) nL Q pc lv st w := G_callV hO hd h hw hs hc hn hr (fun r w' ⟨v, e, hk⟩ => by subst e; exact k v w' hk) hst
theorem G_callVv (hO : OKM Γ X own cc nL ret) {M : Mth} {idx n i ci N : Nat} {fks : List Nat} {C : String} {T : u_T} {As : List Value} {K : Wd → Prop} (hd : decode cc pc = .ok (.invokevirtual idx, 3)) (h : CV Γ d M (.ref (gad Γ i) :: As) w K) (hw : CallV own C idx M n) (hs : (gS Γ)[i]? = some (.inr (ci, fks))) (hc : vwCl[ci]? = some (C, T, N)) (hn : As.length = n) (hr : (rest.map fun v => v.category).sum ≤ 8) (k : ∀ w', K w' → GG Γ X (d + 1) nL Q (pc + 3) lv rest w') (hst : st = As.reverse ++ .ref (gad Γ i) :: rest) : GG Γ X (d + 1) nL Q pc lv st w := G_callV hO hd h hw hs hc hn hr (fun r w' ⟨e, hk⟩ => by subst e; exact k w' hk) hst
theorem G_callVl (hO : OKM Γ X own cc nL ret) {M : Mth} {idx n i ci N : Nat} {fks : List Nat} {C : String} {T : u_T} {As : List Value} {K : Int64 → Wd → Prop} (hd : decode cc pc = .ok (.invokevirtual idx, 3)) (h : CL Γ d M (.ref (gad Γ i) :: As) w K) (hw : CallV own C idx M n) (hs : (gS Γ)[i]? = some (.inr (ci, fks))) (hc : vwCl[ci]? = some (C, T, N)) (hn : As.length = n) (hr : (rest.map fun v => v.category).sum ≤ 8) (k : ∀ v w', K v w' → GG Γ X (d + 1) nL Q (pc + 3) lv (.long v :: rest) w') (hst : st = As.reverse ++ .ref (gad Γ i) :: rest) : GG Γ X (d + 1) nL Q pc lv st w := G_callV hO hd h hw hs hc hn hr (fun r w' ⟨v, e, hk⟩ => by subst e; exact k v w' hk) hst
theorem G_callSi (hO : OKM Γ X own cc nL ret) {M : Mth} {idx n : Nat} {As : List Value} {K : Int32 → Wd → Prop} (hd : decode cc pc = .ok (.invokestatic idx, 3)) (h : CI Γ d M As w K) (hw : CallS own idx M n) (hn : As.length = n) (hr : (rest.map fun v => v.category).sum ≤ 8) (k : ∀ v w', K v w' → GG Γ X (d + 1) nL Q (pc + 3) lv (.int v :: rest) w') (hst : st = As.reverse ++ rest) : GG Γ X (d + 1) nL Q pc lv st w := G_callS hO hd h hw hn hr (fun r w' ⟨v, e, hk⟩ => by subst e; exact k v w' hk) hst
theorem G_callSv (hO : OKM Γ X own cc nL ret) {M : Mth} {idx n : Nat} {As : List Value} {K : Wd → Prop} (hd : decode cc pc = .ok (.invokestatic idx, 3)) (h : CV Γ d M As w K) (hw : CallS own idx M n) (hn : As.length = n) (hr : (rest.map fun v => v.category).sum ≤ 8) (k : ∀ w', K w' → GG Γ X (d + 1) nL Q (pc + 3) lv rest w') (hst : st = As.reverse ++ rest) : GG Γ X (d + 1) nL Q pc lv st w := G_callS hO hd h hw hn hr (fun r w' ⟨e, hk⟩ => by subst e; exact k w' hk) hst
theorem G_callSl (hO : OKM Γ X own cc nL ret) {M : Mth} {idx n : Nat} {As : List Value} {K : Int64 → Wd → Prop} (hd : decode cc pc = .ok (.invokestatic idx, 3)) (h : CL Γ d M As w K) (hw : CallS own idx M n) (hn : As.length = n) (hr : (rest.map fun v => v.category).sum ≤ 8) (k : ∀ v w', K v w' → GG Γ X (d + 1) nL Q (pc + 3) lv (.long v :: rest) w') (hst : st = As.reverse ++ rest) : GG Γ X (d + 1) nL Q pc lv st w := G_callS hO hd h hw hn hr (fun r w' ⟨v, e, hk⟩ => by subst e; exact k v w' hk) hst
theorem G_callSNi (hO : OKM Γ X own cc nL ret) {M : Mth} {idx n : Nat} {host : String} {As : List Value} {K : Int32 → Wd → Prop} (hd : decode cc pc = .ok (.invokestatic idx, 3)) (h : CI Γ d M As w K) (hl1 : va_Nw (.methodLinkNest own idx M.1 host) (xs X)) (hw : CallSN M n) (hn : As.length = n) (hr : (rest.map fun v => v.category).sum ≤ 8) (k : ∀ v w', K v w' → GG Γ X (d + 1) nL Q (pc + 3) lv (.int v :: rest) w') (hst : st = As.reverse ++ rest) : GG Γ X (d + 1) nL Q pc lv st w := G_callSN hO hd h hl1 hw hn hr (fun r w' ⟨v, e, hk⟩ => by subst e; exact k v w' hk) hst
theorem G_callSNv (hO : OKM Γ X own cc nL ret) {M : Mth} {idx n : Nat} {host : String} {As : List Value} {K : Wd → Prop} (hd : decode cc pc = .ok (.invokestatic idx, 3)) (h : CV Γ d M As w K) (hl1 : va_Nw (.methodLinkNest own idx M.1 host) (xs X)) (hw : CallSN M n) (hn : As.length = n) (hr : (rest.map fun v => v.category).sum ≤ 8) (k : ∀ w', K w' → GG Γ X (d + 1) nL Q (pc + 3) lv rest w') (hst : st = As.reverse ++ rest) : GG Γ X (d + 1) nL Q pc lv st w := G_callSN hO hd h hl1 hw hn hr (fun r w' ⟨e, hk⟩ => by subst e; exact k w' hk) hst
theorem G_callSNl (hO : OKM Γ X own cc nL ret) {M : Mth} {idx n : Nat} {host : String} {As : List Value} {K : Int64 → Wd → Prop} (hd : decode cc pc = .ok (.invokestatic idx, 3)) (h : CL Γ d M As w K) (hl1 : va_Nw (.methodLinkNest own idx M.1 host) (xs X)) (hw : CallSN M n) (hn : As.length = n) (hr : (rest.map fun v => v.category).sum ≤ 8) (k : ∀ v w', K v w' → GG Γ X (d + 1) nL Q (pc + 3) lv (.long v :: rest) w') (hst : st = As.reverse ++ rest) : GG Γ X (d + 1) nL Q pc lv st w := G_callSN hO hd h hl1 hw hn hr (fun r w' ⟨v, e, hk⟩ => by subst e; exact k v w' hk) hst
theorem G_iret (hO : OKM Γ X own cc nL ret) {ty : FieldType} {v : Int32} (hd : decode cc pc = .ok (.ireturn, 1)) (hr : ret = some ty) (hn : narrow ty (.int v) = .int v) (h : Q (some (.int v)) w) : GG Γ X d nL Q pc lv [.int v] w := fun ls H locs hl hP hS =>
  W.zret (Qc := QG Γ Q) (free := gA Γ) hO.1 hO.2.1 (hO.2.2.2.2.2.1.trans hr) hn (fun t ht hW => ⟨⟨_, w, rfl, h, by rw [ht]; exact hP, va_K.moved hW.alike hO.2.2.2.2.2.2.2.1⟩, hS.F ht⟩) hS.2.2 hd hO.2.2.2.2.2.2.1
theorem G_lret (hO : OKM Γ X own cc nL ret) {v : Int64} (hd : decode cc pc = .ok (.lreturn, 1)) (hr : ret = some .long) (h : Q (some (.long v)) w) : GG Γ X d nL Q pc lv [.long v] w := fun ls H locs hl hP hS =>
  W.lret (Qc := QG Γ Q) (free := gA Γ) hO.1 hO.2.1 (hO.2.2.2.2.2.1.trans hr) (fun t ht hW => ⟨⟨_, w, rfl, h, by rw [ht]; exact hP, va_K.moved hW.alike hO.2.2.2.2.2.2.2.1⟩, hS.F ht⟩) hS.2.2 hd hO.2.2.2.2.2.2.1
theorem G_vret (hO : OKM Γ X own cc nL ret) (hd : decode cc pc = .ok (.return_, 1)) (hr : ret = none) (h : Q none w) : GG Γ X d nL Q pc lv [] w := fun ls H locs hl hP hS =>
  W.vret (Qc := QG Γ Q) (free := gA Γ) hO.1 hO.2.1 (hO.2.2.2.2.2.1.trans hr) (fun t ht hW => ⟨⟨_, w, rfl, h, by rw [ht]; exact hP, va_K.moved hW.alike hO.2.2.2.2.2.2.2.1⟩, hS.F ht⟩) hS.2.2 hd hO.2.2.2.2.2.2.1
theorem G_copy (hO : OKM Γ X own cc nL ret) {idx i i2 n0 n1 : Nat} {sp dp n : Int32} (hlk : Cond.methodLink own idx arraycopyName ∈ AW) (hna : Cond.native arraycopyName ∈ AW) (hst : Cond.static arraycopyName ∈ AW) (hini : Cond.initialized "java/lang/System" ∈ AW)
    (hs : (gS Γ)[i]? = some (.inl (0, n0, []))) (hs2 : (gS Γ)[i2]? = some (.inl (0, n1, []))) (h1 : ¬ sp < 0) (h2 : ¬ dp < 0) (h3 : ¬ n < 0) (h4 : sp.toNatClampNeg + n.toNatClampNeg ≤ n0) (h5 : dp.toNatClampNeg + n.toNatClampNeg ≤ n1) (hr : (rest.map fun v => v.category).sum ≤ 8) (hd : decode cc pc = .ok (.invokestatic idx, 3))
    (k : GG Γ X (d + 1) nL Q (pc + 3) lv rest (wcpy w i i2 sp.toNatClampNeg dp.toNatClampNeg n.toNatClampNeg)) : GG Γ X (d + 1) nL Q pc lv (.int n :: .int dp :: .ref (gad Γ i2) :: .int sp :: .ref (gad Γ i) :: rest) w := fun ls H locs hl hP hS => by
  refine va_copyi hO.1 hO.2.1 (hO.2.2.1.trans hl.1.symm) hO.2.2.2.1 (hO.2.2.2.2.1 _ hlk) (hO.2.2.2.2.1 _ hna) (hO.2.2.2.2.1 _ hst) (hO.2.2.2.2.1 _ hini) hO.2.2.2.2.2.2.2.1 hP (gW_D hO.2.2.2.2.2.2.2.2.1 w) hS i i2 0 0 (f := w i) (g := w i2) (gW_get hs) (gW_get hs2) rfl rfl rfl h1 h2 h3 h4 h5 (fun _ _ => rfl) ?_ ?_ hd (fun H1 locs1 hP1 _ hS1 => k ls H1 locs1 hl ?_ hS1)
  · show 1 ≤ d + 1
    omega
  · show _ + _ ≤ 64 * (d + 1)
    have : nativeFrameWords "java/lang/System" "arraycopy" 5 + 11 ≤ 56 := by decide +kernel
    omega
  · have e := gW_set (w := w) (w' := wcpy w i i2 sp.toNatClampNeg dp.toNatClampNeg n.toNatClampNeg) hs2 (fun a ha => wcpy_off w i i2 _ _ _ a ha)
    rw [← e]
    simp only [celE, wcpy_row]
    exact hP1
end ROWS
