/-! THE FRAME: a world of fixed cells, numbered; ints in a function of (cell, slot); contracts over it; rows of instructions over it -/
abbrev Wd : Type := Nat → Nat → Int32
def wset (w : Wd) (i j : Nat) (v : Int32) : Wd := fun a b => if a = i ∧ b = j then v else w a b
def wcpy (w : Wd) (i i2 sp dp n : Nat) : Wd := fun a b => if a = i2 then va_cpy (w i) (w i2) sp dp n b else w a b
theorem wset_row (w : Wd) (i j : Nat) (v : Int32) : (wset w i j v) i = upd (w i) j v := by
  funext b
  by_cases h : b = j <;> simp [wset, upd, h]
theorem wset_off (w : Wd) (i j a : Nat) (v : Int32) (h : a ≠ i) : (wset w i j v) a = w a := by
  funext b
  simp [wset, h]
theorem wcpy_row (w : Wd) (i i2 sp dp n : Nat) : (wcpy w i i2 sp dp n) i2 = va_cpy (w i) (w i2) sp dp n := by
  funext b
  simp [wcpy]
theorem wcpy_off (w : Wd) (i i2 sp dp n a : Nat) (h : a ≠ i2) : (wcpy w i i2 sp dp n) a = w a := by
  funext b
  simp [wcpy, h]
/-- a cell's shape: an array (number of its type, length, the cells that its places name: none of ints), or an object (number of its class; a field: 0 an int, 1 a cell's number or -1, k + 2 the cell k) -/
abbrev Sh : Type := (Nat × Nat × List Nat) ⊕ (Nat × List Nat)
def gTy : Nat → FieldType
  | 0 => .int
  | 1 => .boolean
  | 2 => .object "SandwichesSpeak$Sheet"
  | _ => .object "SandwichesSpeak$Text"
def gTys (cA : Nat → ClassId) : List (ClassId × FieldType) := [(cA 0, gTy 0), (cA 1, gTy 1), (cA 2, gTy 2), (cA 3, gTy 3)]
def fvl (ad : Nat → Nat) (w : Wd) (i j : Nat) : Nat → Value
  | 0 => .int (w i j)
  | 1 => if w i j = -1 then .null else .ref (ad (w i j).toNatClampNeg)
  | k + 2 => .ref (ad k)
def flds (ad : Nat → Nat) (w : Wd) (i : Nat) : Nat → List Nat → List Value
  | _, [] => []
  | j, k :: ks => fvl ad w i j k :: flds ad w i (j + 1) ks
def rfa (rs : List Nat) (j : Nat) : Nat := rs.getD j 0
def celE (cA : Nat → ClassId) (ad : Nat → Nat) (w : Wd) (i : Nat) : Sh → va_E
  | .inl (t, n, []) => .inl (cA t, n, .inl (w i))
  | .inl (t, n, r :: rs) => .inl (cA t, n, .inr (.inr (.inr (.inr fun j => some (ad (rfa (r :: rs) j))))))
  | .inr (ci, fks) => .inr (ci, flds ad w i 0 fks)
def cels (cA : Nat → ClassId) (ad : Nat → Nat) (w : Wd) : Nat → List Sh → va_W
  | _, [] => []
  | i, s :: ss => (ad i, celE cA ad w i s) :: cels cA ad w (i + 1) ss
theorem fvl_congr {ad : Nat → Nat} {w w' : Wd} {i j : Nat} (h : w i = w' i) : ∀ k : Nat, fvl ad w i j k = fvl ad w' i j k
  | 0 => by simp [fvl, h]
  | 1 => by simp [fvl, h]
  | k + 2 => rfl
theorem flds_congr {ad : Nat → Nat} {w w' : Wd} {i : Nat} (h : w i = w' i) : ∀ (ks : List Nat) (j : Nat), flds ad w i j ks = flds ad w' i j ks
  | [], _ => rfl
  | k :: ks, j => by simp only [flds]; rw [fvl_congr h, flds_congr h ks]
theorem flds_get {ad : Nat → Nat} {w : Wd} {i fk : Nat} : ∀ (ks : List Nat) (j k : Nat), ks[k]? = some fk → (flds ad w i j ks)[k]? = some (fvl ad w i (j + k) fk)
  | [], _, _, h => by simp at h
  | a :: ks, j, 0, h => by
    simp at h
    subst h
    simp [flds]
  | a :: ks, j, k + 1, h => by
    simp only [List.getElem?_cons_succ] at h
    simp only [flds, List.getElem?_cons_succ]
    rw [flds_get ks (j + 1) k h]
    congr 2
    omega
theorem flds_len {ad : Nat → Nat} {w : Wd} {i : Nat} : ∀ (ks : List Nat) (j : Nat), (flds ad w i j ks).length = ks.length
  | [], _ => rfl
  | k :: ks, j => by simp [flds, flds_len ks]
theorem flds_set {ad : Nat → Nat} {w : Wd} {i fk : Nat} {v : Int32} (x : Value) (hx : ∀ j : Nat, fvl ad (wset w i j v) i j fk = x) : ∀ (ks : List Nat) (j k : Nat), ks[k]? = some fk → (flds ad w i j ks).set k x = flds ad (wset w i (j + k) v) i j ks
  | [], _, _, h => by simp at h
  | a :: ks, j, 0, h => by
    simp at h
    subst h
    simp only [flds, List.set_cons_zero, Nat.add_zero, hx]
    congr 1
    have key : ∀ (ks : List Nat) (j' : Nat), j < j' → flds ad w i j' ks = flds ad (wset w i j v) i j' ks := by
      intro ks
      induction ks with
      | nil => intro _ _; rfl
      | cons b ks ih =>
        intro j' h'
        simp only [flds]
        rw [ih (j' + 1) (by omega)]
        congr 1
        have e : wset w i j v i j' = w i j' := by simp [wset]; omega
        cases b with
        | zero => simp [fvl, e]
        | succ b => cases b with
          | zero => simp [fvl, e]
          | succ b => rfl
    exact key ks (j + 1) (by omega)
  | a :: ks, j, k + 1, h => by
    simp only [List.getElem?_cons_succ] at h
    simp only [flds, List.set_cons_succ]
    rw [flds_set x hx ks (j + 1) k h]
    have e0 : j + 1 + k = j + (k + 1) := by omega
    rw [e0]
    congr 1
    have e : wset w i (j + (k + 1)) v i j = w i j := by simp [wset]
    cases a with
    | zero => simp [fvl, e]
    | succ b => cases b with
      | zero => simp [fvl, e]
      | succ b => rfl
theorem celE_congr {cA : Nat → ClassId} {ad : Nat → Nat} {w w' : Wd} {i : Nat} (h : w i = w' i) (s : Sh) : celE cA ad w i s = celE cA ad w' i s := by
  rcases s with ⟨t, n, rs⟩ | ⟨ci, fks⟩
  · cases rs <;> simp [celE, h]
  · simp only [celE]; rw [flds_congr h]
theorem cels_congr {cA : Nat → ClassId} {ad : Nat → Nat} {w w' : Wd} : ∀ (ss : List Sh) (i : Nat), (∀ a, i ≤ a → w a = w' a) → cels cA ad w i ss = cels cA ad w' i ss
  | [], _, _ => rfl
  | s :: ss, i, h => by simp only [cels]; rw [celE_congr (h i (Nat.le_refl i)), cels_congr ss (i + 1) (fun a ha => h a (by omega))]
theorem cels_get {cA : Nat → ClassId} {ad : Nat → Nat} {w : Wd} {sh : Sh} : ∀ (ss : List Sh) (i k : Nat), ss[k]? = some sh → (cels cA ad w i ss)[k]? = some (ad (i + k), celE cA ad w (i + k) sh)
  | [], _, _, h => by simp at h
  | a :: ss, i, 0, h => by
    simp at h
    subst h
    simp [cels]
  | a :: ss, i, k + 1, h => by
    simp only [List.getElem?_cons_succ] at h
    simp only [cels, List.getElem?_cons_succ]
    rw [cels_get ss (i + 1) k h]
    have e : i + 1 + k = i + (k + 1) := by omega
    rw [e]
theorem cels_len {cA : Nat → ClassId} {ad : Nat → Nat} {w : Wd} : ∀ (ss : List Sh) (i : Nat), (cels cA ad w i ss).length = ss.length
  | [], _ => rfl
  | s :: ss, i => by simp [cels, cels_len ss]
theorem cels_set {cA : Nat → ClassId} {ad : Nat → Nat} {w w' : Wd} {sh : Sh} : ∀ (ss : List Sh) (i k : Nat), (∀ a, a ≠ i + k → w' a = w a) → ss[k]? = some sh → (cels cA ad w i ss).set k (ad (i + k), celE cA ad w' (i + k) sh) = cels cA ad w' i ss
  | [], _, _, _, h => by simp at h
  | a :: ss, i, 0, hw, h => by
    simp at h
    subst h
    simp only [cels, List.set_cons_zero, Nat.add_zero]
    rw [cels_congr ss (i + 1) (w := w) (w' := w') (fun b hb => (hw b (by omega)).symm)]
  | a :: ss, i, k + 1, hw, h => by
    simp only [List.getElem?_cons_succ] at h
    simp only [cels, List.set_cons_succ]
    have e : i + (k + 1) = i + 1 + k := by omega
    rw [e, cels_set ss (i + 1) k (fun b hb => hw b (by omega)) h, celE_congr (hw i (by omega)) a]
theorem cels_back {cA : Nat → ClassId} {ad : Nat → Nat} {w : Wd} (ss : List Sh) (k : Nat) (q : Nat × va_E) (h : (cels cA ad w 0 ss)[k]? = some q) : k < ss.length ∧ q.1 = ad k := by
  have hk : k < ss.length := by
    have := (List.getElem?_eq_some_iff.mp h).1
    rwa [cels_len] at this
  have h2 := cels_get (cA := cA) (ad := ad) (w := w) ss 0 k (List.getElem?_eq_getElem hk)
  rw [h] at h2
  refine ⟨hk, ?_⟩
  rw [Option.some.inj h2, Nat.zero_add]
/-- what all methods of a world share: the launch, its classes' numbers, its arrays' classes, the cells' addresses, their shapes, what is known of the rest -/
abbrev Gx : Type := Launch × va_G × (Nat → ClassId) × (Nat → Nat) × List Sh × (State → Prop)
abbrev Gl (Γ : Gx) : Launch := Γ.1
abbrev gD (Γ : Gx) : va_G := Γ.2.1
abbrev gcA (Γ : Gx) : Nat → ClassId := Γ.2.2.1
abbrev gad (Γ : Gx) : Nat → Nat := Γ.2.2.2.1
abbrev gS (Γ : Gx) : List Sh := Γ.2.2.2.2.1
abbrev gE (Γ : Gx) : State → Prop := Γ.2.2.2.2.2
def gA (Γ : Gx) : Addr → Prop := fun q => ∃ i : Nat, i < (gS Γ).length ∧ q = gad Γ i
def gW (Γ : Gx) (w : Wd) : va_W := cels (gcA Γ) (gad Γ) w 0 (gS Γ)
def GOK (Γ : Gx) : Prop := (∀ i j : Nat, i < (gS Γ).length → j < (gS Γ).length → gad Γ i = gad Γ j → i = j) ∧
  (∀ s U : State, gE Γ s → U.heap = s.heap → U.vm = s.vm → gE Γ U) ∧
  (∀ s U : State, gE Γ s → s.WarmedH U.vm → s.heap.size ≤ U.heap.size → (∀ q : Nat, q < s.heap.size → ¬ gA Γ q → U.heap[q]? = s.heap[q]?) → gE Γ U)
theorem gW_D {Γ : Gx} (h : GOK Γ) (w : Wd) : va_D (gA Γ) (gW Γ w) := by
  refine ⟨fun i j p q hi hj hpq => ?_, fun k q hk => ?_⟩
  · obtain ⟨h1, h2⟩ := cels_back _ i p hi
    obtain ⟨h3, h4⟩ := cels_back _ j q hj
    exact h.1 i j h1 h3 (by rw [← h2, ← h4]; exact hpq)
  · obtain ⟨h1, h2⟩ := cels_back _ k q hk
    exact ⟨k, h1, h2⟩
/-- the world at a state -/
def Inv (Γ : Gx) (w : Wd) (U : State) : Prop := va_P (gD Γ) vwCl (gW Γ w) U.heap ∧ va_K (gD Γ) vwCl (gTys (gcA Γ)) U ∧ gE Γ U
abbrev Mth : Type := MethodName × ByteArray × Nat × Option FieldType
def wsM (M : Mth) : List Cond := .code M.1 M.2.1 M.2.2.1 M.2.2.2 :: AW
def rmd (d : Nat) : Room := { frames := d, cells := 0, slots := 0, locals := 64 * d }
def QG (Γ : Gx) (Q : Option Value → Wd → Prop) : Array Value → State → Outcome → State → Prop := fun _ st o t =>
  (∃ (r : Option Value) (w' : Wd), o = .returned r ∧ Q r w' ∧ va_P (gD Γ) vwCl (gW Γ w') t.heap ∧ va_K (gD Γ) vwCl (gTys (gcA Γ)) t) ∧ va_F (gA Γ) st t
/-- THE CONTRACT: method M, called with 'as' in the world w, at depth d: it returns, and Q of its answer and the world behind it -/
def Con (Γ : Gx) (d : Nat) (M : Mth) (as : List Value) (w : Wd) (Q : Option Value → Wd → Prop) : Prop :=
  Met (Gl Γ) M.1 (wsM M) (rmd d) (va_Pc as (Inv Γ w)) (QG Γ Q) 0 0 (gA Γ)
theorem Con.mono {Γ : Gx} {d : Nat} {M : Mth} {as : List Value} {w : Wd} {Q Q' : Option Value → Wd → Prop} (h : Con Γ d M as w Q) (hq : ∀ r w', Q r w' → Q' r w') : Con Γ d M as w Q' := by
  unfold Con Met at h ⊢
  refine MetFree.mono h (fun _ _ h => h) (fun _ _ _ _ _ h => h) ?_
  rintro a s o t - ⟨⟨⟨r, w', h1, h2, h3⟩, h4⟩, h5⟩
  exact ⟨⟨⟨r, w', h1, hq r w' h2, h3⟩, h4⟩, h5⟩
def QI (K : Int32 → Wd → Prop) : Option Value → Wd → Prop := fun r w' => ∃ v : Int32, r = some (.int v) ∧ K v w'
def QV (K : Wd → Prop) : Option Value → Wd → Prop := fun r w' => r = none ∧ K w'
def QL (K : Int64 → Wd → Prop) : Option Value → Wd → Prop := fun r w' => ∃ v : Int64, r = some (.long v) ∧ K v w'
def CI (Γ : Gx) (d : Nat) (M : Mth) (as : List Value) (w : Wd) (K : Int32 → Wd → Prop) : Prop := Con Γ d M as w (QI K)
def CV (Γ : Gx) (d : Nat) (M : Mth) (as : List Value) (w : Wd) (K : Wd → Prop) : Prop := Con Γ d M as w (QV K)
def CL (Γ : Gx) (d : Nat) (M : Mth) (as : List Value) (w : Wd) (K : Int64 → Wd → Prop) : Prop := Con Γ d M as w (QL K)
theorem CI.mono {Γ : Gx} {d : Nat} {M : Mth} {as : List Value} {w : Wd} {K K' : Int32 → Wd → Prop} (h : CI Γ d M as w K) (hq : ∀ v w', K v w' → K' v w') : CI Γ d M as w K' :=
  Con.mono h (fun r w' ⟨v, h1, h2⟩ => ⟨v, h1, hq v w' h2⟩)
theorem CV.mono {Γ : Gx} {d : Nat} {M : Mth} {as : List Value} {w : Wd} {K K' : Wd → Prop} (h : CV Γ d M as w K) (hq : ∀ w', K w' → K' w') : CV Γ d M as w K' :=
  Con.mono h (fun r w' ⟨h1, h2⟩ => ⟨h1, hq w' h2⟩)
theorem CL.mono {Γ : Gx} {d : Nat} {M : Mth} {as : List Value} {w : Wd} {K K' : Int64 → Wd → Prop} (h : CL Γ d M as w K) (hq : ∀ v w', K v w' → K' v w') : CL Γ d M as w K' :=
  Con.mono h (fun r w' ⟨v, h1, h2⟩ => ⟨v, h1, hq v w' h2⟩)
/-- a method's run: program, environment, start, method, arguments, frames below, its code -/
abbrev Mx : Type := Program × Env × State × MethodId × Array Value × List Frame × Method × Code
abbrev xp (X : Mx) : Program := X.1
abbrev xe (X : Mx) : Env := X.2.1
abbrev xs (X : Mx) : State := X.2.2.1
abbrev xm (X : Mx) : MethodId := X.2.2.2.1
abbrev xa (X : Mx) : Array Value := X.2.2.2.2.1
abbrev xb (X : Mx) : List Frame := X.2.2.2.2.2.1
abbrev xt (X : Mx) : Method := X.2.2.2.2.2.2.1
abbrev xc (X : Mx) : Code := X.2.2.2.2.2.2.2
def OKM (Γ : Gx) (X : Mx) (own : String) (cc : ByteArray) (nL : Nat) (ret : Option FieldType) : Prop :=
  (xp X).tables.exec = Jvm.exec ∧ (xc X).code = cc ∧ (xc X).maxLocals = nL ∧ (xs X).vm.findClass own = some (xm X).cls ∧ (∀ w ∈ AW, w.before (xa X) (xs X) = true) ∧ (xt X).sig.returnType = ret ∧ (xt X).locks = false ∧
  va_K (gD Γ) vwCl (gTys (gcA Γ)) (xs X) ∧ GOK Γ ∧ gE Γ (xs X)
/-- the locals, by their places -/
def LH (ls : Array Slot) (nL : Nat) (lv : List (Option Value)) : Prop := ls.size = nL ∧ lv_wf ls ∧ ∀ (k : Nat) (v : Value), lv[k]? = some (some v) → ls[k]? = some (.val v)
/-- the run, at pc with these locals, this stack and this world, comes to its end with Q -/
def GG (Γ : Gx) (X : Mx) (d nL : Nat) (Q : Option Value → Wd → Prop) (pc : Nat) (lv : List (Option Value)) (st : List Value) (w : Wd) : Prop :=
  ∀ (ls : Array Slot) (H : Heap) (locs : List Loc), LH ls nL lv → va_P (gD Γ) vwCl (gW Γ w) H → va_S (gA Γ) (xs X).heap H locs →
    W (xp X) (Gl Γ) (xe X) (rmd d) (xs X) (xm X) (xa X) (xb X) (xt X) (xc X) H locs 0 0 (MQ (xb X) (QG Γ Q) (xa X) (xs X) 0 0 (gA Γ)) (F0 (xm X) pc ls st)
def ent (as : List Value) (n : Nat) : List (Option Value) := as.map some ++ List.replicate (n - as.length) none
theorem lv_args_in : ∀ (as : List Value) (i k : Nat) (v : Value), (∀ a ∈ as, a.category = 1) → as[k]? = some v → (i + k, v) ∈ lv_args i as
  | [], _, _, _, _, h => by simp at h
  | a :: as, i, 0, v, _, h => by
    simp at h
    subst h
    simp [lv_args]
  | a :: as, i, k + 1, v, hc, h => by
    simp only [List.getElem?_cons_succ] at h
    have ha : a.category = 1 := hc a List.mem_cons_self
    have := lv_args_in as (i + 1) k v (fun b hb => hc b (List.mem_cons_of_mem _ hb)) h
    simp only [lv_args, ha]
    refine List.mem_cons_of_mem _ ?_
    have e : i + (k + 1) = i + 1 + k := by omega
    rw [e]
    exact this
theorem lg_sl_len : ∀ (as : List Value), (∀ a ∈ as, a.category = 1) → (lg_sl as).length = as.length
  | [], _ => rfl
  | a :: as, hc => by
    have ha : a.category = 1 := hc a List.mem_cons_self
    have ih := lg_sl_len as (fun b hb => hc b (List.mem_cons_of_mem _ hb))
    simp only [lg_sl, List.flatMap_cons, ha] at *
    simp [ih]
theorem LH_entry {as : List Value} {n : Nat} {ls : Array Slot} (hc : ∀ a ∈ as, a.category = 1) (h : lv_has ls n (lv_args 0 as)) : LH ls n (ent as n) := by
  refine ⟨h.1, h.2.1, fun k v hk => ?_⟩
  have hv : as[k]? = some v := by
    unfold ent at hk
    by_cases hl : k < (as.map some).length
    · rw [List.getElem?_append_left hl, List.getElem?_map] at hk
      cases ha : as[k]? with
      | none => rw [ha] at hk; cases hk
      | some a => rw [ha] at hk; simp at hk; rw [hk]
    · rw [List.getElem?_append_right (by omega)] at hk
      have := List.mem_of_getElem? hk
      have := List.eq_of_mem_replicate this
      cases this
  have := h.2.2 _ (lv_args_in as 0 k v hc hv)
  simpa using this
set_option maxHeartbeats 4000000 in
theorem Con.of {Γ : Gx} {d : Nat} {M : Mth} {as : List Value} {w : Wd} {Q : Option Value → Wd → Prop} (own : String) (cc : ByteArray) (nL : Nat) (ret : Option FieldType) (lv : List (Option Value)) (hM : M = (M.1, cc, nL, ret)) (ho : M.1.cls = own) (hp : plainName M.1.cls = true) (hG : GOK Γ) (hc : ∀ a ∈ as, a.category = 1) (hn : as.length ≤ nL) (hlv : ent as nL = lv)
    (k : ∀ X : Mx, OKM Γ X own cc nL ret → GG Γ X d nL Q 0 lv [] w) : Con Γ d M as w Q := by
  obtain ⟨y, cc', nL', ret'⟩ := M
  obtain ⟨rfl, rfl, rfl⟩ : cc' = cc ∧ nL' = nL ∧ ret' = ret := by
    simp only [Prod.mk.injEq, true_and] at hM
    exact hM
  subst ho
  subst hlv
  refine Met.ofW (cc := cc') (maxL := nL') (ret := ret') hp rfl ?_
  intro p e s m args below meth c s₁ B hml hv
  obtain ⟨rfl, hP, hK, hE⟩ := hv
  have hown : s.vm.findClass y.cls = some m.cls := findClass_of_methodNamed B.named
  have hts := atoms_spec (ws := wsM (y, cc', nL', ret')) B.pre
  have hX : OKM Γ (p, e, s, m, as.toArray, below, meth, c) y.cls cc' nL' ret' := ⟨B.exec, B.bytes, hml, hown, fun w hw => hts w (List.mem_cons_of_mem _ hw), B.returns, B.notSynchronized, hK, hG, hE⟩
  have hl := lv_entry as (n := nL') (by rw [lg_sl_len as hc]; exact hn)
  rw [lg_entry_eq]
  exact k _ hX _ _ _ (LH_entry hc hl) hP va_S.rf
