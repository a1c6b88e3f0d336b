/-! A method's run over the picture of the heap that the two constructors lay: cells by their numbers (shp), numbers of 32 and 64 bits in them (St), references (Rf).
    Ev: from this place on the method comes to its end with Q; T: a call of the method does. All rules say 'Ev here, if Ev there'. -/
abbrev St : Type := (Nat → Nat → Int32) × (Nat → Nat → Int64)
abbrev Rf : Type := Nat → Nat → Option Nat
/-- the launch's numbers: classes, array classes, where the heap's picture begins, the texts' and their bytes' addresses, a static, the script's address, length, numbers -/
abbrev Cx : Type := va_G × (Nat → ClassId) × Nat × (Nat → Nat) × (Nat → Nat) × Value × Nat × Nat × (Nat → Int32)
def xB (X : Cx) : Nat := X.2.2.1
def xA (X : Cx) : Nat → ClassId := X.2.1
def xK (X : Cx) : Nat → Nat := X.2.2.2.1
def xV (X : Cx) : Nat → Nat := X.2.2.2.2.1
def xF (X : Cx) : Value := X.2.2.2.2.2.1
def xSc (X : Cx) : Nat := X.2.2.2.2.2.2.1
def xLn (X : Cx) : Nat := X.2.2.2.2.2.2.2.1
def xXs (X : Cx) : Nat → Int32 := X.2.2.2.2.2.2.2.2
def xAd (X : Cx) : Nat → Prop := fun q => xB X ≤ q
/-- a picture's value as the machine's: a cell's number is its address; .retAddr 2i is text i, .retAddr 2i+1 its bytes; .double is the script; .float 0 is no value -/
def cv (X : Cx) : Value → Value
  | .ref k => .ref (xB X + k)
  | .retAddr n => bif Nat.beq (n % 2) 0 then .ref (xK X (n / 2)) else .ref (xV X (n / 2))
  | .float _ => (match xF X with | .ref a => .ref a | _ => .null)
  | .double _ => .ref (xSc X)
  | v => v
theorem cv_cat (X : Cx) (v : Value) : (cv X v).category = 2 → ∃ z, v = .long z := by
  intro h
  cases v with
  | long z => exact ⟨z, rfl⟩
  | retAddr n =>
    exfalso
    have hcv : cv X (.retAddr n) = .ref (xK X (n / 2)) ∨ cv X (.retAddr n) = .ref (xV X (n / 2)) := by
      show (bif Nat.beq (n % 2) 0 then Value.ref (xK X (n / 2)) else .ref (xV X (n / 2))) = _ ∨ (bif Nat.beq (n % 2) 0 then Value.ref (xK X (n / 2)) else .ref (xV X (n / 2))) = _
      cases Nat.beq (n % 2) 0
      · exact Or.inr rfl
      · exact Or.inl rfl
    rcases hcv with q | q <;> rw [q] at h <;> cases h
  | float n =>
    exfalso
    simp only [cv] at h
    cases hx : xF X <;> rw [hx] at h <;> simp [Value.category] at h
  | _ => simp [cv, Value.category] at h
/-- a field, a cell -/
def fv (X : Cx) (ρ : Rf) (σ : St) (k c j : Nat) : Value := match fk c j with
  | 0 => .int (σ.1 k j)
  | 1 => .long (σ.2 k j)
  | _ => va_rf ((ρ k j).map (xB X + ·))
def ce (X : Cx) (ρ : Rf) (σ : St) (k : Nat) (s : Nat × Nat) : va_E := match s.1 with
  | 0 => .inl (xA X 0, (s.2, .inl (σ.1 k)))
  | 1 => .inl (xA X 1, (s.2, .inl (σ.1 k)))
  | 2 => .inl (xA X 2, (s.2, .inl (σ.1 k)))
  | 3 => .inl (xA X 3, (s.2, .inr (.inl (σ.2 k))))
  | 4 => .inl (xA X 4, (s.2, .inr (.inr (.inr (.inr (fun j => (ρ k j).map (xB X + ·)))))))
  | 5 => .inl (xA X 5, (s.2, .inr (.inr (.inr (.inr (fun j => (ρ k j).map (xB X + ·)))))))
  | t => .inr (t - 10, (List.range s.2).map (fv X ρ σ k (t - 10)))
def WS (X : Cx) (n : Nat) (ρ : Rf) (σ : St) : va_W := (List.range n).map (fun k => (xB X + k, ce X ρ σ k (shp k)))
theorem WS_get {X : Cx} {n : Nat} {ρ : Rf} {σ : St} {k : Nat} (h : k < n) : (WS X n ρ σ)[k]? = some (xB X + k, ce X ρ σ k (shp k)) := by
  unfold WS
  rw [List.getElem?_map, List.getElem?_range h]
  rfl
theorem WS_none {X : Cx} {n : Nat} {ρ : Rf} {σ : St} {k : Nat} (h : ¬ k < n) : (WS X n ρ σ)[k]? = none := by
  unfold WS
  rw [List.getElem?_eq_none]
  rw [List.length_map, List.length_range]
  omega
theorem WS_some {X : Cx} {n : Nat} {ρ : Rf} {σ : St} {k : Nat} {q : Nat × va_E} (h : (WS X n ρ σ)[k]? = some q) : k < n ∧ q = (xB X + k, ce X ρ σ k (shp k)) := by
  by_cases hk : k < n
  · rw [WS_get hk] at h
    exact ⟨hk, (Option.some.inj h).symm⟩
  · rw [WS_none hk] at h
    cases h
theorem WS_D (X : Cx) (n : Nat) (ρ : Rf) (σ : St) : va_D (xAd X) (WS X n ρ σ) := by
  refine ⟨fun i j p q hi hj e => ?_, fun k q h => ?_⟩
  · obtain ⟨-, rfl⟩ := WS_some hi
    obtain ⟨-, rfl⟩ := WS_some hj
    have e : xB X + i = xB X + j := e
    omega
  · obtain ⟨-, rfl⟩ := WS_some h
    exact Nat.le_add_right _ _
/-- the picture, one cell of it changed -/
theorem WS_set {X : Cx} {n : Nat} {ρ ρ' : Rf} {σ σ' : St} {k : Nat} {e : va_E} (he : ce X ρ' σ' k (shp k) = e) (ho : ∀ q, q ≠ k → ce X ρ' σ' q (shp q) = ce X ρ σ q (shp q)) : (WS X n ρ σ).set k (xB X + k, e) = WS X n ρ' σ' := by
  apply List.ext_getElem?
  intro q
  rw [List.getElem?_set]
  by_cases hq : k = q
  · subst hq
    rw [if_pos rfl]
    by_cases hk : k < n
    · rw [WS_get hk, if_pos (by unfold WS; rw [List.length_map, List.length_range]; exact hk), he]
    · rw [WS_none hk, if_neg (by unfold WS; rw [List.length_map, List.length_range]; exact hk)]
  · rw [if_neg hq]
    by_cases hk : q < n
    · rw [WS_get hk, WS_get hk, ho q (fun z => hq z.symm)]
    · rw [WS_none hk, WS_none hk]
def tysX (X : Cx) : List (ClassId × FieldType) := [(xA X 0, .int), (xA X 1, .byte), (xA X 2, .char), (xA X 3, .long), (xA X 4, .array .int), (xA X 5, .object "DeepBathing$Moment")]
def WP (X : Cx) (n : Nat) (ρ : Rf) (σ : St) (H : Heap) : Prop := va_P X.1 vwCl (WS X n ρ σ) H ∧ H.size = xB X + n
/-- the words that name a nest's host -/
def isNest : Jvm.Cond → Bool
  | .fieldLinkNest .. => true
  | .methodLinkNest .. => true
  | _ => false
def wn : List Jvm.Cond := lw_tbl.filter isNest
theorem wn_mem {i : Nat} {w : Jvm.Cond} (h : wt i = some w) (hg : isNest w = true) : w ∈ wn := List.mem_filter.mpr ⟨wt_mem h, hg⟩
theorem wn_warm {w : Jvm.Cond} (h : w ∈ wn) {s U : State} (hW : s.WarmedH U.vm) (hZ : va_Nw w s) : va_Nw w U := by
  have hn := (List.mem_filter.mp h).2
  cases w <;> first | (exact va_Nw.warmF hW hZ) | (exact va_Nw.warmM hW hZ) | cases hn
theorem wn_tab {w : Jvm.Cond} (h : w ∈ wn) : w.onTables = true := by
  have hn := (List.mem_filter.mp h).2
  cases w <;> first | rfl | cases hn
def AOA (ty : FieldType) (U : State) : Prop := (Jvm.Cond.arrayOver ty).before #[] U = true
theorem AOA.moved {ty : FieldType} {u U : State} (hvm : u.vm.Alike U.vm) (h : AOA ty u) : AOA ty U := by
  have h1 := Cond.overAtom_setVm (args := #[]) hvm (Jvm.Cond.arrayOver ty) rfl h
  exact h1
/-- the texts, the two statics -/
def SR (X : Cx) (U : State) (H : Heap) : Prop :=
  (∀ i, i < nStr → va_O "java/lang/String" (xK X i) (xAd X) U H ∧ va_OF "java/lang/String" "coder" "B" (.int 0) (xK X i) (xAd X) U H ∧ va_OF "java/lang/String" "value" "[B" (.ref (xV X i)) (xK X i) (xAd X) U H ∧ va_T .byte (xV X i) (strB i).length (fun j => .int ((strB i).getD j 0)) (xAd X) U H) ∧
  (∀ i, i < nStr → vk_R (cN (strE i).1) (strE i).2.1 (strE i).2.2.1 (xK X i) U) ∧
  va_Z "java/lang/String" "COMPACT_STRINGS" "Z" (.int 1) (xAd X) U H ∧
  va_Z "jdk/internal/util/Preconditions" "SIOOBE_FORMATTER" "Ljava/util/function/BiFunction;" (cv X (.float 1)) (xAd X) U H ∧ (∀ w ∈ wn, va_Nw w U) ∧ AOA (.object "DeepBathing$Moment") U ∧ AOA (.array .int) U ∧ va_X (xSc X) (xLn X) (xXs X) U H ∧ xSc X < xB X
theorem SR.move {X : Cx} {s U : State} {H : Heap} (hW : s.WarmedH U.vm) (h : SR X s H) : SR X U H :=
  ⟨fun i hi => ⟨(h.1 i hi).1.moved hW.alike, (h.1 i hi).2.1.moved hW.alike, (h.1 i hi).2.2.1.moved hW.alike, (h.1 i hi).2.2.2.moved hW.alike⟩, fun i hi => (h.2.1 i hi).warm hW, h.2.2.1.moved hW.alike, h.2.2.2.1.moved hW.alike, fun w hw => wn_warm hw hW (h.2.2.2.2.1 w hw), h.2.2.2.2.2.1.moved hW.alike, h.2.2.2.2.2.2.1.moved hW.alike, h.2.2.2.2.2.2.2.1.moved hW.alike, h.2.2.2.2.2.2.2.2⟩
theorem SR.kept {X : Cx} {U : State} {H H1 : Heap} (h : SR X U H) (hq : ∀ a : Nat, a < H.size → ¬ xAd X a → H1[a]? = H[a]?) : SR X U H1 :=
  ⟨fun i hi => ⟨(h.1 i hi).1.kept hq, (h.1 i hi).2.1.kept hq, (h.1 i hi).2.2.1.kept hq, (h.1 i hi).2.2.2.kept hq⟩, h.2.1, h.2.2.1.kept hq, h.2.2.2.1.kept hq, h.2.2.2.2.1, h.2.2.2.2.2.1, h.2.2.2.2.2.2.1, h.2.2.2.2.2.2.2.1.kept (by
    obtain ⟨scr, h1, -⟩ := h.2.2.2.2.2.2.2.1
    exact hq _ (Array.getElem?_eq_some_iff.mp h1).1 (by have := h.2.2.2.2.2.2.2.2; intro z; have z : xB X ≤ xSc X := z; omega)), h.2.2.2.2.2.2.2.2⟩
theorem SR.same {X : Cx} {u U : State} {H : Heap} (hv : U.vm = u.vm) (h : SR X u H) : SR X U H :=
  ⟨fun i hi => ⟨(h.1 i hi).1.moved (by rw [hv]; exact Vm.Alike.refl _), (h.1 i hi).2.1.moved (by rw [hv]; exact Vm.Alike.refl _), (h.1 i hi).2.2.1.moved (by rw [hv]; exact Vm.Alike.refl _), (h.1 i hi).2.2.2.moved (by rw [hv]; exact Vm.Alike.refl _)⟩, fun i hi => (h.2.1 i hi).same hv, h.2.2.1.moved (by rw [hv]; exact Vm.Alike.refl _), h.2.2.2.1.moved (by rw [hv]; exact Vm.Alike.refl _), fun w hw => va_Nw.same (wn_tab hw) hv.symm (h.2.2.2.2.1 w hw), h.2.2.2.2.2.1.moved (by rw [hv]; exact Vm.Alike.refl _), h.2.2.2.2.2.2.1.moved (by rw [hv]; exact Vm.Alike.refl _), h.2.2.2.2.2.2.2.1.moved (by rw [hv]; exact Vm.Alike.refl _), h.2.2.2.2.2.2.2.2⟩
def HR (X : Cx) (n : Nat) (ρ : Rf) (σ : St) (U : State) (H : Heap) : Prop := WP X n ρ σ H ∧ va_K X.1 vwCl (tysX X) U ∧ SR X U H
def sln : Nat → Nat
  | 0 => 0
  | n + 1 => sln n + (shp n).2
def rmd (d n0 n1 : Nat) : Room := { frames := d, cells := n1 - n0, slots := sln n1 - sln n0, locals := 60 * d }
def WD (i : Nat) : List Jvm.Cond := .code (mName i) (mCode i) (mMax i) (mRet i) :: wg
abbrev Po : Type := Option Value → Rf → St → Prop
def QC (X : Cx) (n1 : Nat) (Q : Po) : Array Value → State → Outcome → State → Prop := fun _ st oc t =>
  (∃ (v : Option Value) (ρ : Rf) (σ : St), oc = .returned (v.map (cv X)) ∧ Q v ρ σ ∧ HR X n1 ρ σ t t.heap) ∧ va_F (xAd X) st t
def PC (X : Cx) (as : List Value) (n : Nat) (ρ : Rf) (σ : St) : Array Value → State → Prop := fun av U => av = (as.map (cv X)).toArray ∧ HR X n ρ σ U U.heap
/-- a call of method i with these arguments, at the picture (n cells, ρ, σ): it returns, with Q, n1 cells then -/
def T (l : Launch) (X : Cx) (d i : Nat) (as : List Value) (n n1 : Nat) (ρ : Rf) (σ : St) (Q : Po) : Prop :=
  Met l (mName i) (WD i) (rmd d n n1) (PC X as n ρ σ) (QC X n1 Q) (n1 - n) (sln n1 - sln n) (xAd X)
/-- the locals -/
def LV (X : Cx) (lsA : Array Slot) (nL : Nat) (ls : List Value) : Prop := lsA.size = nL ∧ lv_wf lsA ∧ ∀ (i : Nat) (v : Value), ls[i]? = some v → v ≠ .float 0 → lsA[i]? = some (.val (cv X v))
/-- what is fixed in a method's body -/
def Cxt (X : Cx) (i : Nat) (p : Program) (s : State) (m : MethodId) (args : Array Value) (meth : Method) (c : Code) : Prop :=
  p.tables.exec = Jvm.exec ∧ c.code = mCode i ∧ meth.sig.returnType = mRet i ∧ c.maxLocals = mMax i ∧ meth.locks = false ∧ s.vm.findClass (cN (mCls i)) = some m.cls ∧ (∀ w ∈ wg, w.before args s = true) ∧ (mKind i = 2 → meth.name = "<init>") ∧ SR X s s.heap ∧ va_K X.1 vwCl (tysX X) s ∧ xB X ≤ s.heap.size
/-- method i, at pc, with these locals, this stack, n cells (n0 at its start, n1 at its end): it comes to its end with Q -/
def Ev (l : Launch) (X : Cx) (d i pc : Nat) (ls st : List Value) (n0 n1 n : Nat) (ρ : Rf) (σ : St) (Q : Po) : Prop :=
  ∀ (p : Program) (e : Env) (s : State) (m : MethodId) (args : Array Value) (below : List Frame) (meth : Method) (c : Code) (H : Heap) (locs : List Loc) (lsA : Array Slot),
    Cxt X i p s m args meth c → WP X n ρ σ H → va_S (xAd X) s.heap H locs → LV X lsA (mMax i) ls →
    W p l e (rmd d n0 n1) s m args below meth c H locs (n - n0) (sln n - sln n0) (MQ below (QC X n1 Q) args s (n1 - n0) (sln n1 - sln n0) (xAd X)) (F0 m pc lsA (st.map (cv X)))
theorem Ev.mono {l : Launch} {X : Cx} {d i pc : Nat} {ls st : List Value} {n0 n1 n : Nat} {ρ : Rf} {σ : St} {Q Q' : Po} (h : Ev l X d i pc ls st n0 n1 n ρ σ Q) (hq : ∀ v ρ σ, Q v ρ σ → Q' v ρ σ) : Ev l X d i pc ls st n0 n1 n ρ σ Q' := by
  intro p e s m args below meth c H locs lsA C hP hS hL U hU hX
  obtain ⟨t, h1, o, h2, h3, ⟨⟨v, ρ', σ', h4, h5, h6⟩, h7⟩, h8⟩ := h p e s m args below meth c H locs lsA C hP hS hL U hU hX
  exact ⟨t, h1, o, h2, h3, ⟨⟨v, ρ', σ', h4, hq _ _ _ h5, h6⟩, h7⟩, h8⟩
/-! entering a method -/
def entA : List Value → List Value
  | [] => []
  | v :: r => match v with
    | .long z => .long z :: .float 0 :: entA r
    | w => w :: entA r
def entL (nL : Nat) (as : List Value) : List Value := entA as
theorem entA_args (X : Cx) : ∀ (as : List Value) (k i : Nat) (v : Value), (entA as)[i]? = some v → v ≠ .float 0 → (k + i, cv X v) ∈ lv_args k (as.map (cv X)) := by
  intro as
  induction as with
  | nil => intro k i v h; simp [entA] at h
  | cons a r ih =>
    intro k i v h hv
    by_cases hz : ∃ z, a = .long z
    · obtain ⟨z, rfl⟩ := hz
      have hc : (cv X (.long z)).category = 2 := rfl
      match i, h with
      | 0, h => 
        simp [entA] at h
        subst h
        simp [lv_args]
      | 1, h =>
        simp [entA] at h
        exact absurd h.symm hv
      | i + 2, h =>
        have h : (entA r)[i]? = some v := by simpa [entA] using h
        have := ih (k + 2) i v h hv
        simp only [List.map_cons, lv_args, hc]
        rw [show k + (i + 2) = k + 2 + i by omega]
        exact List.mem_cons_of_mem _ this
    · have hc : ¬ (cv X a).category = 2 := fun h => hz (cv_cat X a h)
      have he : entA (a :: r) = a :: entA r := by
        cases a with
        | long z => exact absurd ⟨z, rfl⟩ hz
        | _ => rfl
      rw [he] at h
      match i, h with
      | 0, h =>
        simp at h
        subst h
        simp [lv_args]
      | i + 1, h =>
        have h : (entA r)[i]? = some v := by simpa using h
        have := ih (k + 1) i v h hv
        simp only [List.map_cons, lv_args, hc]
        rw [show k + (i + 1) = k + 1 + i by omega]
        exact List.mem_cons_of_mem _ this
theorem entA_len (X : Cx) : ∀ (as : List Value), (lg_sl (as.map (cv X))).length = (entA as).length := by
  intro as
  induction as with
  | nil => rfl
  | cons a r ih =>
    unfold lg_sl at ih ⊢
    simp only [List.map_cons, List.flatMap_cons, List.length_append, ih]
    by_cases hz : ∃ z, a = .long z
    · obtain ⟨z, rfl⟩ := hz
      simp [entA, cv, Value.category]
      omega
    · have hc : ¬ (cv X a).category = 2 := fun h => hz (cv_cat X a h)
      have he : entA (a :: r) = a :: entA r := by
        cases a with
        | long z => exact absurd ⟨z, rfl⟩ hz
        | _ => rfl
      rw [he, if_neg hc]
      simp
      omega
def pad (nL : Nat) (as : List Value) : List Value := entA as ++ List.replicate (nL - (entA as).length) (.float 0)
theorem mW_ok {i : Nat} (h : i < nM) : ckW i = true := List.all_eq_true.mp ckWs i (List.mem_range.mpr h)
theorem Met_ofW {l : Launch} {y : MethodName} {ws ws' : List Jvm.Cond} {rm : Room} {Pc : Array Value → State → Prop} {Qc : Array Value → State → Outcome → State → Prop} {mc ms : Nat} {free : Addr → Prop} {cc : ByteArray} {maxL : Nat} {ret : Option FieldType}
    (hy : plainFor y = true) (hw : ws = Jvm.Cond.code y cc maxL ret :: ws')
    (body : ∀ p e s m args below meth c s₁, BodyLoose p l y (headSpec ws rm) cc maxL ret e s m args below meth c s₁ → c.maxLocals = maxL → Pc args s →
      W p l e (headSpec ws rm).room s m args below meth c s.heap [] 0 0 (MQ below Qc args s mc ms free) (entryFrame m args maxL)) : Met l y ws rm Pc Qc mc ms free := by
  refine MetFree.of_bodySF (code := cc) (maxLocals := maxL) (ret := ret) hy ?_ ?_
  · intro args s m h hn
    obtain ⟨meth, c, h1, h2, h3, h4, h5, h6, -, -⟩ := Cond.code_spec hn (atoms_spec (ws := ws) h _ (by rw [hw]; exact List.mem_cons_self))
    exact ⟨meth, c, h1, h2, h3, h4, h5, h6⟩
  · intro p e s m args below meth c s₁ B hml hP _
    have hh0 : s₁.heap = s.heap := by rw [B.state]; rfl
    obtain ⟨t, a1, o, b1, b2, b3⟩ := body p e s m args below meth c s₁ B hml hP s₁ hh0 (Stand.of_body B)
    exact ⟨t, o, a1, b1, b2, ⟨b3.1, b3.2⟩⟩
/-- method i, from its start -/
theorem T_of {l : Launch} {X : Cx} {d i : Nat} {as : List Value} {n n1 : Nat} {ρ : Rf} {σ : St} {Q : Po} (hi : (Nat.blt i nM && Nat.ble (entA as).length (mMax i) && !(Nat.beq (mCls i) 11)) = true)
    (k : Ev l X d i 0 (pad (mMax i) as) [] n n1 n ρ σ Q) : T l X d i as n n1 ρ σ Q := by
  simp only [Bool.and_eq_true, Bool.not_eq_true', Nat.blt_eq, Nat.ble_eq] at hi
  obtain ⟨⟨hi, hlen⟩, hcl⟩ := hi
  have hw := mW_ok hi
  unfold ckW at hw
  rw [hcl, Bool.false_or] at hw
  simp only [Bool.and_eq_true, decide_eq_true_eq] at hw
  obtain ⟨⟨⟨⟨⟨⟨⟨⟨⟨w1, w2⟩, w3⟩, w4⟩, w5⟩, w6⟩, w7⟩, w8⟩, w9⟩, w10⟩ := hw
  refine Met_ofW (cc := mCode i) (maxL := mMax i) (ret := mRet i) w7 rfl ?_
  intro p e s m args below meth c s₁ B hml hv
  obtain ⟨rfl, hH⟩ := hv
  have hts := atoms_spec (ws := WD i) B.pre
  have hcls := findClass_of_methodNamed B.named
  rw [lg_entry_eq]
  have hl := lv_entry (as.map (cv X)) (n := mMax i) (by rw [entA_len]; exact hlen)
  have hL : LV X ((lg_sl (as.map (cv X)) ++ List.replicate (mMax i - (lg_sl (as.map (cv X))).length) Slot.unset).toArray) (mMax i) (pad (mMax i) as) := by
    refine ⟨hl.1, hl.2.1, fun j v hj hv => ?_⟩
    have hj2 : (entA as)[j]? = some v := by
      unfold pad at hj
      by_cases hjl : j < (entA as).length
      · rwa [List.getElem?_append_left hjl] at hj
      · rw [List.getElem?_append_right (by omega)] at hj
        have := List.mem_of_getElem? hj
        rw [List.mem_replicate] at this
        exact absurd this.2 hv
    have := entA_args X as 0 j v hj2 hv
    rw [Nat.zero_add] at this
    exact hl.2.2 _ this
  have := k p e s m (as.map (cv X)).toArray below meth c s.heap [] _ ⟨B.exec, B.bytes, B.returns, hml, B.notSynchronized, by rw [← w6]; exact hcls, fun w hw => hts w (List.mem_cons_of_mem _ hw), fun hk => ?_, hH.2.2, hH.2.1, by rw [hH.1.2]; exact Nat.le_add_right _ _⟩ hH.1 va_S.rf hL
  · rw [Nat.sub_self, Nat.sub_self] at this
    exact this
  · have hk2 : (mName i).name = "<init>" := by
      rw [hk] at w4
      have w4 : decide ((mName i).name = "<init>" ∧ mRet i = none) = true := w4
      exact (of_decide_eq_true w4).1
    rw [← hk2]
    exact (name_of_methodNamed B.named B.method).1
