/-! The law: what is asked of each of its calls (OpI, OpL), its walk. -/
abbrev Iv : Type := Rf → St → Prop
/-- the class's method c and the reference's m answer alike, and keep what always holds -/
def OpI (l : Launch) (X : Cx) (Inv : Iv) (c m : Nat) (as : List Value) : Prop := ∀ ρ σ, Inv ρ σ → ∃ (r : Int32) (Mid : Iv), T l X 100 c (.ref 0 :: as) 402 402 ρ σ (fun v ρ' σ' => v = some (.int r) ∧ Mid ρ' σ') ∧ ∀ ρ' σ', Mid ρ' σ' → T l X 100 m (.ref 326 :: as) 402 402 ρ' σ' (fun v ρ' σ' => v = some (.int r) ∧ Inv ρ' σ')
def OpL (l : Launch) (X : Cx) (Inv : Iv) (c m : Nat) (as : List Value) : Prop := ∀ ρ σ, Inv ρ σ → ∃ (r : Int64) (Mid : Iv), T l X 100 c (.ref 0 :: as) 402 402 ρ σ (fun v ρ' σ' => v = some (.long r) ∧ Mid ρ' σ') ∧ ∀ ρ' σ', Mid ρ' σ' → T l X 100 m (.ref 326 :: as) 402 402 ρ' σ' (fun v ρ' σ' => v = some (.long r) ∧ Inv ρ' σ')
def AllOps (l : Launch) (X : Cx) (Inv : Iv) : Prop :=
  (∀ a b c d e : Int32, OpI l X Inv 103 165 [.int a, .int b, .int c, .int d, .int e]) ∧
  (∀ a : Int32, OpI l X Inv 105 166 [.int a]) ∧
  (OpI l X Inv 106 189 []) ∧
  (∀ a : Int32, OpI l X Inv 107 191 [.int a]) ∧
  (∀ a : Int32, OpI l X Inv 108 220 [.int a]) ∧
  (∀ a b c : Int32, OpI l X Inv 111 221 [.int a, .int b, .int c]) ∧
  (∀ a b : Int32, OpI l X Inv 112 224 [.int a, .int b]) ∧
  (∀ a b : Int32, OpI l X Inv 114 225 [.int a, .int b]) ∧
  (∀ a b : Int32, OpI l X Inv 115 226 [.int a, .int b]) ∧
  (∀ a b : Int32, OpI l X Inv 116 227 [.int a, .int b]) ∧
  (∀ a b : Int32, OpI l X Inv 117 228 [.int a, .int b]) ∧
  (∀ a b : Int32, OpI l X Inv 118 229 [.int a, .int b]) ∧
  (∀ a : Int32, OpI l X Inv 119 230 [.int a]) ∧
  (∀ a b c : Int32, OpI l X Inv 120 231 [.int a, .int b, .int c]) ∧
  (∀ a b : Int32, OpI l X Inv 121 232 [.int a, .int b]) ∧
  (∀ a b : Int32, OpI l X Inv 122 233 [.int a, .int b]) ∧
  (∀ a b c : Int32, OpI l X Inv 123 237 [.int a, .int b, .int c]) ∧
  (∀ a b : Int32, OpI l X Inv 124 240 [.int a, .int b]) ∧
  (∀ a : Int32, OpI l X Inv 125 243 [.int a]) ∧
  (∀ a b : Int32, OpI l X Inv 126 244 [.int a, .int b]) ∧
  (OpI l X Inv 127 246 []) ∧
  (∀ a : Int32, OpI l X Inv 129 249 [.int a]) ∧
  (∀ a b : Int32, OpI l X Inv 130 251 [.int a, .int b]) ∧
  (∀ a b : Int32, OpI l X Inv 131 254 [.int a, .int b]) ∧
  (∀ a b : Int32, OpI l X Inv 132 256 [.int a, .int b]) ∧
  (∀ a b c : Int32, OpI l X Inv 133 257 [.int a, .int b, .int c]) ∧
  (∀ a : Int32, OpI l X Inv 134 258 [.int a]) ∧
  (∀ a : Int32, OpI l X Inv 135 261 [.int a]) ∧
  (OpI l X Inv 137 253 []) ∧
  (∀ a : Int32, OpI l X Inv 138 259 [.int a]) ∧
  (OpL l X Inv 139 290 []) ∧
  (OpI l X Inv 141 293 []) ∧
  (∀ a : Int32, OpI l X Inv 143 294 [.int a]) ∧
  (OpI l X Inv 144 296 []) ∧
  (∀ a : Int32, OpI l X Inv 146 297 [.int a])
section LawE
variable {l : Launch} {X : Cx} {Inv : Iv}
abbrev n400 : 0 ≤ 402 ∧ 402 ≤ 402 ∧ 402 ≤ 402 := ⟨by decide, by decide, by decide⟩
def PL : Po := fun v _ _ => v = some (.int 1)
def LwS (k : Nat) : List Value := [.double 0, .ref 0, .ref 326, .int (nI (6 * k))]
theorem nI_p (k a : Nat) (z : Int32) (hz : z = nI a) : nI k + z = nI (k + a) := by rw [hz, nI_add]
/-- behind a case: the next round -/
theorem law_next {k : Nat} {ρ : Rf} {σ : St} (h : Ev l X 101 298 18 (LwS (k + 1)) [] 0 402 402 ρ σ PL) : Ev l X 101 298 1184 (LwS k) [] 0 402 402 ρ σ PL := by
  refine Ev_iinc rfl rfl ?_
  refine Ev_goto rfl ?_
  have e : setV 3 (.int (nI (6 * k) + 6)) (LwS k) = LwS (k + 1) := by
    show [Value.double 0, .ref 0, .ref 326, .int (nI (6 * k) + 6)] = _
    rw [nI_p (6 * k) 6 6 (by decide)]
    rfl
  rw [e]
  exact h
theorem law_feed {k : Nat} {ρ : Rf} {σ : St} (hI : Inv ρ σ) (hL : 6 * k + 6 ≤ xLn X) (hL2 : xLn X ≤ 3072) (H : ∀ a b c d e : Int32, OpI l X Inv 103 165 [.int a, .int b, .int c, .int d, .int e]) (hN : ∀ ρ σ, Inv ρ σ → Ev l X 101 298 18 (LwS (k + 1)) [] 0 402 402 ρ σ PL) : Ev l X 101 298 188 (LwS k) [] 0 402 402 ρ σ PL := by
  refine Ev_aload rfl rfl rfl ?_
  refine Ev_aload rfl rfl rfl ?_
  refine Ev_iload rfl rfl ?_
  refine Ev_const rfl ?_
  refine Ev_iadd rfl ?_
  refine Ev_norm (nI_p (6 * k) 1 1 (by decide)) ?_
  refine Ev_scLd rfl (vp_in_nI (by omega) (by omega)) ?_
  refine Ev_aload rfl rfl rfl ?_
  refine Ev_iload rfl rfl ?_
  refine Ev_const rfl ?_
  refine Ev_iadd rfl ?_
  refine Ev_norm (nI_p (6 * k) 2 2 (by decide)) ?_
  refine Ev_scLd rfl (vp_in_nI (by omega) (by omega)) ?_
  refine Ev_aload rfl rfl rfl ?_
  refine Ev_iload rfl rfl ?_
  refine Ev_const rfl ?_
  refine Ev_iadd rfl ?_
  refine Ev_norm (nI_p (6 * k) 3 3 (by decide)) ?_
  refine Ev_scLd rfl (vp_in_nI (by omega) (by omega)) ?_
  refine Ev_aload rfl rfl rfl ?_
  refine Ev_iload rfl rfl ?_
  refine Ev_const rfl ?_
  refine Ev_iadd rfl ?_
  refine Ev_norm (nI_p (6 * k) 4 4 (by decide)) ?_
  refine Ev_scLd rfl (vp_in_nI (by omega) (by omega)) ?_
  refine Ev_aload rfl rfl rfl ?_
  refine Ev_iload rfl rfl ?_
  refine Ev_const rfl ?_
  refine Ev_iadd rfl ?_
  refine Ev_norm (nI_p (6 * k) 5 5 (by decide)) ?_
  refine Ev_scLd rfl (vp_in_nI (by omega) (by omega)) ?_
  obtain ⟨r, Mid, hT, hM⟩ := H (xXs X (nI (6 * k + 1)).toNatClampNeg) (xXs X (nI (6 * k + 2)).toNatClampNeg) (xXs X (nI (6 * k + 3)).toNatClampNeg) (xXs X (nI (6 * k + 4)).toNatClampNeg) (xXs X (nI (6 * k + 5)).toNatClampNeg) ρ σ hI
  refine Ev_callV rfl rfl rfl rfl rfl n400 hT ?_
  rintro v ρ1 σ1 ⟨rfl, h1⟩
  refine Ev_aload rfl rfl rfl ?_
  refine Ev_aload rfl rfl rfl ?_
  refine Ev_iload rfl rfl ?_
  refine Ev_const rfl ?_
  refine Ev_iadd rfl ?_
  refine Ev_norm (nI_p (6 * k) 1 1 (by decide)) ?_
  refine Ev_scLd rfl (vp_in_nI (by omega) (by omega)) ?_
  refine Ev_aload rfl rfl rfl ?_
  refine Ev_iload rfl rfl ?_
  refine Ev_const rfl ?_
  refine Ev_iadd rfl ?_
  refine Ev_norm (nI_p (6 * k) 2 2 (by decide)) ?_
  refine Ev_scLd rfl (vp_in_nI (by omega) (by omega)) ?_
  refine Ev_aload rfl rfl rfl ?_
  refine Ev_iload rfl rfl ?_
  refine Ev_const rfl ?_
  refine Ev_iadd rfl ?_
  refine Ev_norm (nI_p (6 * k) 3 3 (by decide)) ?_
  refine Ev_scLd rfl (vp_in_nI (by omega) (by omega)) ?_
  refine Ev_aload rfl rfl rfl ?_
  refine Ev_iload rfl rfl ?_
  refine Ev_const rfl ?_
  refine Ev_iadd rfl ?_
  refine Ev_norm (nI_p (6 * k) 4 4 (by decide)) ?_
  refine Ev_scLd rfl (vp_in_nI (by omega) (by omega)) ?_
  refine Ev_aload rfl rfl rfl ?_
  refine Ev_iload rfl rfl ?_
  refine Ev_const rfl ?_
  refine Ev_iadd rfl ?_
  refine Ev_norm (nI_p (6 * k) 5 5 (by decide)) ?_
  refine Ev_scLd rfl (vp_in_nI (by omega) (by omega)) ?_
  refine Ev_callV rfl rfl rfl rfl rfl n400 (hM _ _ h1) ?_
  rintro v ρ2 σ2 ⟨rfl, h2⟩
  refine Ev_icmp_eq (x := r) (y := r) rfl (fun _ => ?_) (fun h => absurd rfl h)
  exact law_next (hN _ _ h2)
theorem law_end {k : Nat} {ρ : Rf} {σ : St} (hI : Inv ρ σ) (hL : 6 * k + 6 ≤ xLn X) (hL2 : xLn X ≤ 3072) (H : ∀ a : Int32, OpI l X Inv 105 166 [.int a]) (hN : ∀ ρ σ, Inv ρ σ → Ev l X 101 298 18 (LwS (k + 1)) [] 0 402 402 ρ σ PL) : Ev l X 101 298 251 (LwS k) [] 0 402 402 ρ σ PL := by
  refine Ev_aload rfl rfl rfl ?_
  refine Ev_aload rfl rfl rfl ?_
  refine Ev_iload rfl rfl ?_
  refine Ev_const rfl ?_
  refine Ev_iadd rfl ?_
  refine Ev_norm (nI_p (6 * k) 1 1 (by decide)) ?_
  refine Ev_scLd rfl (vp_in_nI (by omega) (by omega)) ?_
  obtain ⟨r, Mid, hT, hM⟩ := H (xXs X (nI (6 * k + 1)).toNatClampNeg) ρ σ hI
  refine Ev_callV rfl rfl rfl rfl rfl n400 hT ?_
  rintro v ρ1 σ1 ⟨rfl, h1⟩
  refine Ev_aload rfl rfl rfl ?_
  refine Ev_aload rfl rfl rfl ?_
  refine Ev_iload rfl rfl ?_
  refine Ev_const rfl ?_
  refine Ev_iadd rfl ?_
  refine Ev_norm (nI_p (6 * k) 1 1 (by decide)) ?_
  refine Ev_scLd rfl (vp_in_nI (by omega) (by omega)) ?_
  refine Ev_callV rfl rfl rfl rfl rfl n400 (hM _ _ h1) ?_
  rintro v ρ2 σ2 ⟨rfl, h2⟩
  refine Ev_icmp_eq (x := r) (y := r) rfl (fun _ => ?_) (fun h => absurd rfl h)
  exact law_next (hN _ _ h2)
theorem law_beach {k : Nat} {ρ : Rf} {σ : St} (hI : Inv ρ σ) (hL : 6 * k + 6 ≤ xLn X) (hL2 : xLn X ≤ 3072) (H : OpI l X Inv 106 189 []) (hN : ∀ ρ σ, Inv ρ σ → Ev l X 101 298 18 (LwS (k + 1)) [] 0 402 402 ρ σ PL) : Ev l X 101 298 274 (LwS k) [] 0 402 402 ρ σ PL := by
  refine Ev_aload rfl rfl rfl ?_
  obtain ⟨r, Mid, hT, hM⟩ := H ρ σ hI
  refine Ev_callV rfl rfl rfl rfl rfl n400 hT ?_
  rintro v ρ1 σ1 ⟨rfl, h1⟩
  refine Ev_aload rfl rfl rfl ?_
  refine Ev_callV rfl rfl rfl rfl rfl n400 (hM _ _ h1) ?_
  rintro v ρ2 σ2 ⟨rfl, h2⟩
  refine Ev_icmp_eq (x := r) (y := r) rfl (fun _ => ?_) (fun h => absurd rfl h)
  exact law_next (hN _ _ h2)
theorem law_fault {k : Nat} {ρ : Rf} {σ : St} (hI : Inv ρ σ) (hL : 6 * k + 6 ≤ xLn X) (hL2 : xLn X ≤ 3072) (H : ∀ a : Int32, OpI l X Inv 107 191 [.int a]) (hN : ∀ ρ σ, Inv ρ σ → Ev l X 101 298 18 (LwS (k + 1)) [] 0 402 402 ρ σ PL) : Ev l X 101 298 287 (LwS k) [] 0 402 402 ρ σ PL := by
  refine Ev_aload rfl rfl rfl ?_
  refine Ev_aload rfl rfl rfl ?_
  refine Ev_iload rfl rfl ?_
  refine Ev_const rfl ?_
  refine Ev_iadd rfl ?_
  refine Ev_norm (nI_p (6 * k) 1 1 (by decide)) ?_
  refine Ev_scLd rfl (vp_in_nI (by omega) (by omega)) ?_
  obtain ⟨r, Mid, hT, hM⟩ := H (xXs X (nI (6 * k + 1)).toNatClampNeg) ρ σ hI
  refine Ev_callV rfl rfl rfl rfl rfl n400 hT ?_
  rintro v ρ1 σ1 ⟨rfl, h1⟩
  refine Ev_aload rfl rfl rfl ?_
  refine Ev_aload rfl rfl rfl ?_
  refine Ev_iload rfl rfl ?_
  refine Ev_const rfl ?_
  refine Ev_iadd rfl ?_
  refine Ev_norm (nI_p (6 * k) 1 1 (by decide)) ?_
  refine Ev_scLd rfl (vp_in_nI (by omega) (by omega)) ?_
  refine Ev_callV rfl rfl rfl rfl rfl n400 (hM _ _ h1) ?_
  rintro v ρ2 σ2 ⟨rfl, h2⟩
  refine Ev_icmp_eq (x := r) (y := r) rfl (fun _ => ?_) (fun h => absurd rfl h)
  exact law_next (hN _ _ h2)
theorem law_has {k : Nat} {ρ : Rf} {σ : St} (hI : Inv ρ σ) (hL : 6 * k + 6 ≤ xLn X) (hL2 : xLn X ≤ 3072) (H : ∀ a : Int32, OpI l X Inv 108 220 [.int a]) (hN : ∀ ρ σ, Inv ρ σ → Ev l X 101 298 18 (LwS (k + 1)) [] 0 402 402 ρ σ PL) : Ev l X 101 298 310 (LwS k) [] 0 402 402 ρ σ PL := by
  refine Ev_aload rfl rfl rfl ?_
  refine Ev_aload rfl rfl rfl ?_
  refine Ev_iload rfl rfl ?_
  refine Ev_const rfl ?_
  refine Ev_iadd rfl ?_
  refine Ev_norm (nI_p (6 * k) 1 1 (by decide)) ?_
  refine Ev_scLd rfl (vp_in_nI (by omega) (by omega)) ?_
  obtain ⟨r, Mid, hT, hM⟩ := H (xXs X (nI (6 * k + 1)).toNatClampNeg) ρ σ hI
  refine Ev_callV rfl rfl rfl rfl rfl n400 hT ?_
  rintro v ρ1 σ1 ⟨rfl, h1⟩
  refine Ev_aload rfl rfl rfl ?_
  refine Ev_aload rfl rfl rfl ?_
  refine Ev_iload rfl rfl ?_
  refine Ev_const rfl ?_
  refine Ev_iadd rfl ?_
  refine Ev_norm (nI_p (6 * k) 1 1 (by decide)) ?_
  refine Ev_scLd rfl (vp_in_nI (by omega) (by omega)) ?_
  refine Ev_callV rfl rfl rfl rfl rfl n400 (hM _ _ h1) ?_
  rintro v ρ2 σ2 ⟨rfl, h2⟩
  refine Ev_icmp_eq (x := r) (y := r) rfl (fun _ => ?_) (fun h => absurd rfl h)
  exact law_next (hN _ _ h2)
theorem law_letter {k : Nat} {ρ : Rf} {σ : St} (hI : Inv ρ σ) (hL : 6 * k + 6 ≤ xLn X) (hL2 : xLn X ≤ 3072) (H : ∀ a b c : Int32, OpI l X Inv 111 221 [.int a, .int b, .int c]) (hN : ∀ ρ σ, Inv ρ σ → Ev l X 101 298 18 (LwS (k + 1)) [] 0 402 402 ρ σ PL) : Ev l X 101 298 333 (LwS k) [] 0 402 402 ρ σ PL := by
  refine Ev_aload rfl rfl rfl ?_
  refine Ev_aload rfl rfl rfl ?_
  refine Ev_iload rfl rfl ?_
  refine Ev_const rfl ?_
  refine Ev_iadd rfl ?_
  refine Ev_norm (nI_p (6 * k) 1 1 (by decide)) ?_
  refine Ev_scLd rfl (vp_in_nI (by omega) (by omega)) ?_
  refine Ev_aload rfl rfl rfl ?_
  refine Ev_iload rfl rfl ?_
  refine Ev_const rfl ?_
  refine Ev_iadd rfl ?_
  refine Ev_norm (nI_p (6 * k) 2 2 (by decide)) ?_
  refine Ev_scLd rfl (vp_in_nI (by omega) (by omega)) ?_
  refine Ev_aload rfl rfl rfl ?_
  refine Ev_iload rfl rfl ?_
  refine Ev_const rfl ?_
  refine Ev_iadd rfl ?_
  refine Ev_norm (nI_p (6 * k) 3 3 (by decide)) ?_
  refine Ev_scLd rfl (vp_in_nI (by omega) (by omega)) ?_
  obtain ⟨r, Mid, hT, hM⟩ := H (xXs X (nI (6 * k + 1)).toNatClampNeg) (xXs X (nI (6 * k + 2)).toNatClampNeg) (xXs X (nI (6 * k + 3)).toNatClampNeg) ρ σ hI
  refine Ev_callV rfl rfl rfl rfl rfl n400 hT ?_
  rintro v ρ1 σ1 ⟨rfl, h1⟩
  refine Ev_aload rfl rfl rfl ?_
  refine Ev_aload rfl rfl rfl ?_
  refine Ev_iload rfl rfl ?_
  refine Ev_const rfl ?_
  refine Ev_iadd rfl ?_
  refine Ev_norm (nI_p (6 * k) 1 1 (by decide)) ?_
  refine Ev_scLd rfl (vp_in_nI (by omega) (by omega)) ?_
  refine Ev_aload rfl rfl rfl ?_
  refine Ev_iload rfl rfl ?_
  refine Ev_const rfl ?_
  refine Ev_iadd rfl ?_
  refine Ev_norm (nI_p (6 * k) 2 2 (by decide)) ?_
  refine Ev_scLd rfl (vp_in_nI (by omega) (by omega)) ?_
  refine Ev_aload rfl rfl rfl ?_
  refine Ev_iload rfl rfl ?_
  refine Ev_const rfl ?_
  refine Ev_iadd rfl ?_
  refine Ev_norm (nI_p (6 * k) 3 3 (by decide)) ?_
  refine Ev_scLd rfl (vp_in_nI (by omega) (by omega)) ?_
  refine Ev_callV rfl rfl rfl rfl rfl n400 (hM _ _ h1) ?_
  rintro v ρ2 σ2 ⟨rfl, h2⟩
  refine Ev_icmp_eq (x := r) (y := r) rfl (fun _ => ?_) (fun h => absurd rfl h)
  exact law_next (hN _ _ h2)
theorem law_idea {k : Nat} {ρ : Rf} {σ : St} (hI : Inv ρ σ) (hL : 6 * k + 6 ≤ xLn X) (hL2 : xLn X ≤ 3072) (H : ∀ a b : Int32, OpI l X Inv 112 224 [.int a, .int b]) (hN : ∀ ρ σ, Inv ρ σ → Ev l X 101 298 18 (LwS (k + 1)) [] 0 402 402 ρ σ PL) : Ev l X 101 298 376 (LwS k) [] 0 402 402 ρ σ PL := by
  refine Ev_aload rfl rfl rfl ?_
  refine Ev_aload rfl rfl rfl ?_
  refine Ev_iload rfl rfl ?_
  refine Ev_const rfl ?_
  refine Ev_iadd rfl ?_
  refine Ev_norm (nI_p (6 * k) 1 1 (by decide)) ?_
  refine Ev_scLd rfl (vp_in_nI (by omega) (by omega)) ?_
  refine Ev_aload rfl rfl rfl ?_
  refine Ev_iload rfl rfl ?_
  refine Ev_const rfl ?_
  refine Ev_iadd rfl ?_
  refine Ev_norm (nI_p (6 * k) 2 2 (by decide)) ?_
  refine Ev_scLd rfl (vp_in_nI (by omega) (by omega)) ?_
  obtain ⟨r, Mid, hT, hM⟩ := H (xXs X (nI (6 * k + 1)).toNatClampNeg) (xXs X (nI (6 * k + 2)).toNatClampNeg) ρ σ hI
  refine Ev_callV rfl rfl rfl rfl rfl n400 hT ?_
  rintro v ρ1 σ1 ⟨rfl, h1⟩
  refine Ev_aload rfl rfl rfl ?_
  refine Ev_aload rfl rfl rfl ?_
  refine Ev_iload rfl rfl ?_
  refine Ev_const rfl ?_
  refine Ev_iadd rfl ?_
  refine Ev_norm (nI_p (6 * k) 1 1 (by decide)) ?_
  refine Ev_scLd rfl (vp_in_nI (by omega) (by omega)) ?_
  refine Ev_aload rfl rfl rfl ?_
  refine Ev_iload rfl rfl ?_
  refine Ev_const rfl ?_
  refine Ev_iadd rfl ?_
  refine Ev_norm (nI_p (6 * k) 2 2 (by decide)) ?_
  refine Ev_scLd rfl (vp_in_nI (by omega) (by omega)) ?_
  refine Ev_callV rfl rfl rfl rfl rfl n400 (hM _ _ h1) ?_
  rintro v ρ2 σ2 ⟨rfl, h2⟩
  refine Ev_icmp_eq (x := r) (y := r) rfl (fun _ => ?_) (fun h => absurd rfl h)
  exact law_next (hN _ _ h2)
theorem law_bather {k : Nat} {ρ : Rf} {σ : St} (hI : Inv ρ σ) (hL : 6 * k + 6 ≤ xLn X) (hL2 : xLn X ≤ 3072) (H : ∀ a b : Int32, OpI l X Inv 114 225 [.int a, .int b]) (hN : ∀ ρ σ, Inv ρ σ → Ev l X 101 298 18 (LwS (k + 1)) [] 0 402 402 ρ σ PL) : Ev l X 101 298 409 (LwS k) [] 0 402 402 ρ σ PL := by
  refine Ev_aload rfl rfl rfl ?_
  refine Ev_aload rfl rfl rfl ?_
  refine Ev_iload rfl rfl ?_
  refine Ev_const rfl ?_
  refine Ev_iadd rfl ?_
  refine Ev_norm (nI_p (6 * k) 1 1 (by decide)) ?_
  refine Ev_scLd rfl (vp_in_nI (by omega) (by omega)) ?_
  refine Ev_aload rfl rfl rfl ?_
  refine Ev_iload rfl rfl ?_
  refine Ev_const rfl ?_
  refine Ev_iadd rfl ?_
  refine Ev_norm (nI_p (6 * k) 2 2 (by decide)) ?_
  refine Ev_scLd rfl (vp_in_nI (by omega) (by omega)) ?_
  obtain ⟨r, Mid, hT, hM⟩ := H (xXs X (nI (6 * k + 1)).toNatClampNeg) (xXs X (nI (6 * k + 2)).toNatClampNeg) ρ σ hI
  refine Ev_callV rfl rfl rfl rfl rfl n400 hT ?_
  rintro v ρ1 σ1 ⟨rfl, h1⟩
  refine Ev_aload rfl rfl rfl ?_
  refine Ev_aload rfl rfl rfl ?_
  refine Ev_iload rfl rfl ?_
  refine Ev_const rfl ?_
  refine Ev_iadd rfl ?_
  refine Ev_norm (nI_p (6 * k) 1 1 (by decide)) ?_
  refine Ev_scLd rfl (vp_in_nI (by omega) (by omega)) ?_
  refine Ev_aload rfl rfl rfl ?_
  refine Ev_iload rfl rfl ?_
  refine Ev_const rfl ?_
  refine Ev_iadd rfl ?_
  refine Ev_norm (nI_p (6 * k) 2 2 (by decide)) ?_
  refine Ev_scLd rfl (vp_in_nI (by omega) (by omega)) ?_
  refine Ev_callV rfl rfl rfl rfl rfl n400 (hM _ _ h1) ?_
  rintro v ρ2 σ2 ⟨rfl, h2⟩
  refine Ev_icmp_eq (x := r) (y := r) rfl (fun _ => ?_) (fun h => absurd rfl h)
  exact law_next (hN _ _ h2)
theorem law_knows {k : Nat} {ρ : Rf} {σ : St} (hI : Inv ρ σ) (hL : 6 * k + 6 ≤ xLn X) (hL2 : xLn X ≤ 3072) (H : ∀ a b : Int32, OpI l X Inv 115 226 [.int a, .int b]) (hN : ∀ ρ σ, Inv ρ σ → Ev l X 101 298 18 (LwS (k + 1)) [] 0 402 402 ρ σ PL) : Ev l X 101 298 442 (LwS k) [] 0 402 402 ρ σ PL := by
  refine Ev_aload rfl rfl rfl ?_
  refine Ev_aload rfl rfl rfl ?_
  refine Ev_iload rfl rfl ?_
  refine Ev_const rfl ?_
  refine Ev_iadd rfl ?_
  refine Ev_norm (nI_p (6 * k) 1 1 (by decide)) ?_
  refine Ev_scLd rfl (vp_in_nI (by omega) (by omega)) ?_
  refine Ev_aload rfl rfl rfl ?_
  refine Ev_iload rfl rfl ?_
  refine Ev_const rfl ?_
  refine Ev_iadd rfl ?_
  refine Ev_norm (nI_p (6 * k) 2 2 (by decide)) ?_
  refine Ev_scLd rfl (vp_in_nI (by omega) (by omega)) ?_
  obtain ⟨r, Mid, hT, hM⟩ := H (xXs X (nI (6 * k + 1)).toNatClampNeg) (xXs X (nI (6 * k + 2)).toNatClampNeg) ρ σ hI
  refine Ev_callV rfl rfl rfl rfl rfl n400 hT ?_
  rintro v ρ1 σ1 ⟨rfl, h1⟩
  refine Ev_aload rfl rfl rfl ?_
  refine Ev_aload rfl rfl rfl ?_
  refine Ev_iload rfl rfl ?_
  refine Ev_const rfl ?_
  refine Ev_iadd rfl ?_
  refine Ev_norm (nI_p (6 * k) 1 1 (by decide)) ?_
  refine Ev_scLd rfl (vp_in_nI (by omega) (by omega)) ?_
  refine Ev_aload rfl rfl rfl ?_
  refine Ev_iload rfl rfl ?_
  refine Ev_const rfl ?_
  refine Ev_iadd rfl ?_
  refine Ev_norm (nI_p (6 * k) 2 2 (by decide)) ?_
  refine Ev_scLd rfl (vp_in_nI (by omega) (by omega)) ?_
  refine Ev_callV rfl rfl rfl rfl rfl n400 (hM _ _ h1) ?_
  rintro v ρ2 σ2 ⟨rfl, h2⟩
  refine Ev_icmp_eq (x := r) (y := r) rfl (fun _ => ?_) (fun h => absurd rfl h)
  exact law_next (hN _ _ h2)
theorem law_keeps {k : Nat} {ρ : Rf} {σ : St} (hI : Inv ρ σ) (hL : 6 * k + 6 ≤ xLn X) (hL2 : xLn X ≤ 3072) (H : ∀ a b : Int32, OpI l X Inv 116 227 [.int a, .int b]) (hN : ∀ ρ σ, Inv ρ σ → Ev l X 101 298 18 (LwS (k + 1)) [] 0 402 402 ρ σ PL) : Ev l X 101 298 475 (LwS k) [] 0 402 402 ρ σ PL := by
  refine Ev_aload rfl rfl rfl ?_
  refine Ev_aload rfl rfl rfl ?_
  refine Ev_iload rfl rfl ?_
  refine Ev_const rfl ?_
  refine Ev_iadd rfl ?_
  refine Ev_norm (nI_p (6 * k) 1 1 (by decide)) ?_
  refine Ev_scLd rfl (vp_in_nI (by omega) (by omega)) ?_
  refine Ev_aload rfl rfl rfl ?_
  refine Ev_iload rfl rfl ?_
  refine Ev_const rfl ?_
  refine Ev_iadd rfl ?_
  refine Ev_norm (nI_p (6 * k) 2 2 (by decide)) ?_
  refine Ev_scLd rfl (vp_in_nI (by omega) (by omega)) ?_
  obtain ⟨r, Mid, hT, hM⟩ := H (xXs X (nI (6 * k + 1)).toNatClampNeg) (xXs X (nI (6 * k + 2)).toNatClampNeg) ρ σ hI
  refine Ev_callV rfl rfl rfl rfl rfl n400 hT ?_
  rintro v ρ1 σ1 ⟨rfl, h1⟩
  refine Ev_aload rfl rfl rfl ?_
  refine Ev_aload rfl rfl rfl ?_
  refine Ev_iload rfl rfl ?_
  refine Ev_const rfl ?_
  refine Ev_iadd rfl ?_
  refine Ev_norm (nI_p (6 * k) 1 1 (by decide)) ?_
  refine Ev_scLd rfl (vp_in_nI (by omega) (by omega)) ?_
  refine Ev_aload rfl rfl rfl ?_
  refine Ev_iload rfl rfl ?_
  refine Ev_const rfl ?_
  refine Ev_iadd rfl ?_
  refine Ev_norm (nI_p (6 * k) 2 2 (by decide)) ?_
  refine Ev_scLd rfl (vp_in_nI (by omega) (by omega)) ?_
  refine Ev_callV rfl rfl rfl rfl rfl n400 (hM _ _ h1) ?_
  rintro v ρ2 σ2 ⟨rfl, h2⟩
  refine Ev_icmp_eq (x := r) (y := r) rfl (fun _ => ?_) (fun h => absurd rfl h)
  exact law_next (hN _ _ h2)
theorem law_plan {k : Nat} {ρ : Rf} {σ : St} (hI : Inv ρ σ) (hL : 6 * k + 6 ≤ xLn X) (hL2 : xLn X ≤ 3072) (H : ∀ a b : Int32, OpI l X Inv 117 228 [.int a, .int b]) (hN : ∀ ρ σ, Inv ρ σ → Ev l X 101 298 18 (LwS (k + 1)) [] 0 402 402 ρ σ PL) : Ev l X 101 298 508 (LwS k) [] 0 402 402 ρ σ PL := by
  refine Ev_aload rfl rfl rfl ?_
  refine Ev_aload rfl rfl rfl ?_
  refine Ev_iload rfl rfl ?_
  refine Ev_const rfl ?_
  refine Ev_iadd rfl ?_
  refine Ev_norm (nI_p (6 * k) 1 1 (by decide)) ?_
  refine Ev_scLd rfl (vp_in_nI (by omega) (by omega)) ?_
  refine Ev_aload rfl rfl rfl ?_
  refine Ev_iload rfl rfl ?_
  refine Ev_const rfl ?_
  refine Ev_iadd rfl ?_
  refine Ev_norm (nI_p (6 * k) 2 2 (by decide)) ?_
  refine Ev_scLd rfl (vp_in_nI (by omega) (by omega)) ?_
  obtain ⟨r, Mid, hT, hM⟩ := H (xXs X (nI (6 * k + 1)).toNatClampNeg) (xXs X (nI (6 * k + 2)).toNatClampNeg) ρ σ hI
  refine Ev_callV rfl rfl rfl rfl rfl n400 hT ?_
  rintro v ρ1 σ1 ⟨rfl, h1⟩
  refine Ev_aload rfl rfl rfl ?_
  refine Ev_aload rfl rfl rfl ?_
  refine Ev_iload rfl rfl ?_
  refine Ev_const rfl ?_
  refine Ev_iadd rfl ?_
  refine Ev_norm (nI_p (6 * k) 1 1 (by decide)) ?_
  refine Ev_scLd rfl (vp_in_nI (by omega) (by omega)) ?_
  refine Ev_aload rfl rfl rfl ?_
  refine Ev_iload rfl rfl ?_
  refine Ev_const rfl ?_
  refine Ev_iadd rfl ?_
  refine Ev_norm (nI_p (6 * k) 2 2 (by decide)) ?_
  refine Ev_scLd rfl (vp_in_nI (by omega) (by omega)) ?_
  refine Ev_callV rfl rfl rfl rfl rfl n400 (hM _ _ h1) ?_
  rintro v ρ2 σ2 ⟨rfl, h2⟩
  refine Ev_icmp_eq (x := r) (y := r) rfl (fun _ => ?_) (fun h => absurd rfl h)
  exact law_next (hN _ _ h2)
theorem law_kept {k : Nat} {ρ : Rf} {σ : St} (hI : Inv ρ σ) (hL : 6 * k + 6 ≤ xLn X) (hL2 : xLn X ≤ 3072) (H : ∀ a b : Int32, OpI l X Inv 118 229 [.int a, .int b]) (hN : ∀ ρ σ, Inv ρ σ → Ev l X 101 298 18 (LwS (k + 1)) [] 0 402 402 ρ σ PL) : Ev l X 101 298 541 (LwS k) [] 0 402 402 ρ σ PL := by
  refine Ev_aload rfl rfl rfl ?_
  refine Ev_aload rfl rfl rfl ?_
  refine Ev_iload rfl rfl ?_
  refine Ev_const rfl ?_
  refine Ev_iadd rfl ?_
  refine Ev_norm (nI_p (6 * k) 1 1 (by decide)) ?_
  refine Ev_scLd rfl (vp_in_nI (by omega) (by omega)) ?_
  refine Ev_aload rfl rfl rfl ?_
  refine Ev_iload rfl rfl ?_
  refine Ev_const rfl ?_
  refine Ev_iadd rfl ?_
  refine Ev_norm (nI_p (6 * k) 2 2 (by decide)) ?_
  refine Ev_scLd rfl (vp_in_nI (by omega) (by omega)) ?_
  obtain ⟨r, Mid, hT, hM⟩ := H (xXs X (nI (6 * k + 1)).toNatClampNeg) (xXs X (nI (6 * k + 2)).toNatClampNeg) ρ σ hI
  refine Ev_callV rfl rfl rfl rfl rfl n400 hT ?_
  rintro v ρ1 σ1 ⟨rfl, h1⟩
  refine Ev_aload rfl rfl rfl ?_
  refine Ev_aload rfl rfl rfl ?_
  refine Ev_iload rfl rfl ?_
  refine Ev_const rfl ?_
  refine Ev_iadd rfl ?_
  refine Ev_norm (nI_p (6 * k) 1 1 (by decide)) ?_
  refine Ev_scLd rfl (vp_in_nI (by omega) (by omega)) ?_
  refine Ev_aload rfl rfl rfl ?_
  refine Ev_iload rfl rfl ?_
  refine Ev_const rfl ?_
  refine Ev_iadd rfl ?_
  refine Ev_norm (nI_p (6 * k) 2 2 (by decide)) ?_
  refine Ev_scLd rfl (vp_in_nI (by omega) (by omega)) ?_
  refine Ev_callV rfl rfl rfl rfl rfl n400 (hM _ _ h1) ?_
  rintro v ρ2 σ2 ⟨rfl, h2⟩
  refine Ev_icmp_eq (x := r) (y := r) rfl (fun _ => ?_) (fun h => absurd rfl h)
  exact law_next (hN _ _ h2)
theorem law_tide {k : Nat} {ρ : Rf} {σ : St} (hI : Inv ρ σ) (hL : 6 * k + 6 ≤ xLn X) (hL2 : xLn X ≤ 3072) (H : ∀ a : Int32, OpI l X Inv 119 230 [.int a]) (hN : ∀ ρ σ, Inv ρ σ → Ev l X 101 298 18 (LwS (k + 1)) [] 0 402 402 ρ σ PL) : Ev l X 101 298 574 (LwS k) [] 0 402 402 ρ σ PL := by
  refine Ev_aload rfl rfl rfl ?_
  refine Ev_aload rfl rfl rfl ?_
  refine Ev_iload rfl rfl ?_
  refine Ev_const rfl ?_
  refine Ev_iadd rfl ?_
  refine Ev_norm (nI_p (6 * k) 1 1 (by decide)) ?_
  refine Ev_scLd rfl (vp_in_nI (by omega) (by omega)) ?_
  obtain ⟨r, Mid, hT, hM⟩ := H (xXs X (nI (6 * k + 1)).toNatClampNeg) ρ σ hI
  refine Ev_callV rfl rfl rfl rfl rfl n400 hT ?_
  rintro v ρ1 σ1 ⟨rfl, h1⟩
  refine Ev_aload rfl rfl rfl ?_
  refine Ev_aload rfl rfl rfl ?_
  refine Ev_iload rfl rfl ?_
  refine Ev_const rfl ?_
  refine Ev_iadd rfl ?_
  refine Ev_norm (nI_p (6 * k) 1 1 (by decide)) ?_
  refine Ev_scLd rfl (vp_in_nI (by omega) (by omega)) ?_
  refine Ev_callV rfl rfl rfl rfl rfl n400 (hM _ _ h1) ?_
  rintro v ρ2 σ2 ⟨rfl, h2⟩
  refine Ev_icmp_eq (x := r) (y := r) rfl (fun _ => ?_) (fun h => absurd rfl h)
  exact law_next (hN _ _ h2)
theorem law_later {k : Nat} {ρ : Rf} {σ : St} (hI : Inv ρ σ) (hL : 6 * k + 6 ≤ xLn X) (hL2 : xLn X ≤ 3072) (H : ∀ a b c : Int32, OpI l X Inv 120 231 [.int a, .int b, .int c]) (hN : ∀ ρ σ, Inv ρ σ → Ev l X 101 298 18 (LwS (k + 1)) [] 0 402 402 ρ σ PL) : Ev l X 101 298 597 (LwS k) [] 0 402 402 ρ σ PL := by
  refine Ev_aload rfl rfl rfl ?_
  refine Ev_aload rfl rfl rfl ?_
  refine Ev_iload rfl rfl ?_
  refine Ev_const rfl ?_
  refine Ev_iadd rfl ?_
  refine Ev_norm (nI_p (6 * k) 1 1 (by decide)) ?_
  refine Ev_scLd rfl (vp_in_nI (by omega) (by omega)) ?_
  refine Ev_aload rfl rfl rfl ?_
  refine Ev_iload rfl rfl ?_
  refine Ev_const rfl ?_
  refine Ev_iadd rfl ?_
  refine Ev_norm (nI_p (6 * k) 2 2 (by decide)) ?_
  refine Ev_scLd rfl (vp_in_nI (by omega) (by omega)) ?_
  refine Ev_aload rfl rfl rfl ?_
  refine Ev_iload rfl rfl ?_
  refine Ev_const rfl ?_
  refine Ev_iadd rfl ?_
  refine Ev_norm (nI_p (6 * k) 3 3 (by decide)) ?_
  refine Ev_scLd rfl (vp_in_nI (by omega) (by omega)) ?_
  obtain ⟨r, Mid, hT, hM⟩ := H (xXs X (nI (6 * k + 1)).toNatClampNeg) (xXs X (nI (6 * k + 2)).toNatClampNeg) (xXs X (nI (6 * k + 3)).toNatClampNeg) ρ σ hI
  refine Ev_callV rfl rfl rfl rfl rfl n400 hT ?_
  rintro v ρ1 σ1 ⟨rfl, h1⟩
  refine Ev_aload rfl rfl rfl ?_
  refine Ev_aload rfl rfl rfl ?_
  refine Ev_iload rfl rfl ?_
  refine Ev_const rfl ?_
  refine Ev_iadd rfl ?_
  refine Ev_norm (nI_p (6 * k) 1 1 (by decide)) ?_
  refine Ev_scLd rfl (vp_in_nI (by omega) (by omega)) ?_
  refine Ev_aload rfl rfl rfl ?_
  refine Ev_iload rfl rfl ?_
  refine Ev_const rfl ?_
  refine Ev_iadd rfl ?_
  refine Ev_norm (nI_p (6 * k) 2 2 (by decide)) ?_
  refine Ev_scLd rfl (vp_in_nI (by omega) (by omega)) ?_
  refine Ev_aload rfl rfl rfl ?_
  refine Ev_iload rfl rfl ?_
  refine Ev_const rfl ?_
  refine Ev_iadd rfl ?_
  refine Ev_norm (nI_p (6 * k) 3 3 (by decide)) ?_
  refine Ev_scLd rfl (vp_in_nI (by omega) (by omega)) ?_
  refine Ev_callV rfl rfl rfl rfl rfl n400 (hM _ _ h1) ?_
  rintro v ρ2 σ2 ⟨rfl, h2⟩
  refine Ev_icmp_eq (x := r) (y := r) rfl (fun _ => ?_) (fun h => absurd rfl h)
  exact law_next (hN _ _ h2)
theorem law_learns {k : Nat} {ρ : Rf} {σ : St} (hI : Inv ρ σ) (hL : 6 * k + 6 ≤ xLn X) (hL2 : xLn X ≤ 3072) (H : ∀ a b : Int32, OpI l X Inv 121 232 [.int a, .int b]) (hN : ∀ ρ σ, Inv ρ σ → Ev l X 101 298 18 (LwS (k + 1)) [] 0 402 402 ρ σ PL) : Ev l X 101 298 640 (LwS k) [] 0 402 402 ρ σ PL := by
  refine Ev_aload rfl rfl rfl ?_
  refine Ev_aload rfl rfl rfl ?_
  refine Ev_iload rfl rfl ?_
  refine Ev_const rfl ?_
  refine Ev_iadd rfl ?_
  refine Ev_norm (nI_p (6 * k) 1 1 (by decide)) ?_
  refine Ev_scLd rfl (vp_in_nI (by omega) (by omega)) ?_
  refine Ev_aload rfl rfl rfl ?_
  refine Ev_iload rfl rfl ?_
  refine Ev_const rfl ?_
  refine Ev_iadd rfl ?_
  refine Ev_norm (nI_p (6 * k) 2 2 (by decide)) ?_
  refine Ev_scLd rfl (vp_in_nI (by omega) (by omega)) ?_
  obtain ⟨r, Mid, hT, hM⟩ := H (xXs X (nI (6 * k + 1)).toNatClampNeg) (xXs X (nI (6 * k + 2)).toNatClampNeg) ρ σ hI
  refine Ev_callV rfl rfl rfl rfl rfl n400 hT ?_
  rintro v ρ1 σ1 ⟨rfl, h1⟩
  refine Ev_aload rfl rfl rfl ?_
  refine Ev_aload rfl rfl rfl ?_
  refine Ev_iload rfl rfl ?_
  refine Ev_const rfl ?_
  refine Ev_iadd rfl ?_
  refine Ev_norm (nI_p (6 * k) 1 1 (by decide)) ?_
  refine Ev_scLd rfl (vp_in_nI (by omega) (by omega)) ?_
  refine Ev_aload rfl rfl rfl ?_
  refine Ev_iload rfl rfl ?_
  refine Ev_const rfl ?_
  refine Ev_iadd rfl ?_
  refine Ev_norm (nI_p (6 * k) 2 2 (by decide)) ?_
  refine Ev_scLd rfl (vp_in_nI (by omega) (by omega)) ?_
  refine Ev_callV rfl rfl rfl rfl rfl n400 (hM _ _ h1) ?_
  rintro v ρ2 σ2 ⟨rfl, h2⟩
  refine Ev_icmp_eq (x := r) (y := r) rfl (fun _ => ?_) (fun h => absurd rfl h)
  exact law_next (hN _ _ h2)
theorem law_lasts {k : Nat} {ρ : Rf} {σ : St} (hI : Inv ρ σ) (hL : 6 * k + 6 ≤ xLn X) (hL2 : xLn X ≤ 3072) (H : ∀ a b : Int32, OpI l X Inv 122 233 [.int a, .int b]) (hN : ∀ ρ σ, Inv ρ σ → Ev l X 101 298 18 (LwS (k + 1)) [] 0 402 402 ρ σ PL) : Ev l X 101 298 673 (LwS k) [] 0 402 402 ρ σ PL := by
  refine Ev_aload rfl rfl rfl ?_
  refine Ev_aload rfl rfl rfl ?_
  refine Ev_iload rfl rfl ?_
  refine Ev_const rfl ?_
  refine Ev_iadd rfl ?_
  refine Ev_norm (nI_p (6 * k) 1 1 (by decide)) ?_
  refine Ev_scLd rfl (vp_in_nI (by omega) (by omega)) ?_
  refine Ev_aload rfl rfl rfl ?_
  refine Ev_iload rfl rfl ?_
  refine Ev_const rfl ?_
  refine Ev_iadd rfl ?_
  refine Ev_norm (nI_p (6 * k) 2 2 (by decide)) ?_
  refine Ev_scLd rfl (vp_in_nI (by omega) (by omega)) ?_
  obtain ⟨r, Mid, hT, hM⟩ := H (xXs X (nI (6 * k + 1)).toNatClampNeg) (xXs X (nI (6 * k + 2)).toNatClampNeg) ρ σ hI
  refine Ev_callV rfl rfl rfl rfl rfl n400 hT ?_
  rintro v ρ1 σ1 ⟨rfl, h1⟩
  refine Ev_aload rfl rfl rfl ?_
  refine Ev_aload rfl rfl rfl ?_
  refine Ev_iload rfl rfl ?_
  refine Ev_const rfl ?_
  refine Ev_iadd rfl ?_
  refine Ev_norm (nI_p (6 * k) 1 1 (by decide)) ?_
  refine Ev_scLd rfl (vp_in_nI (by omega) (by omega)) ?_
  refine Ev_aload rfl rfl rfl ?_
  refine Ev_iload rfl rfl ?_
  refine Ev_const rfl ?_
  refine Ev_iadd rfl ?_
  refine Ev_norm (nI_p (6 * k) 2 2 (by decide)) ?_
  refine Ev_scLd rfl (vp_in_nI (by omega) (by omega)) ?_
  refine Ev_callV rfl rfl rfl rfl rfl n400 (hM _ _ h1) ?_
  rintro v ρ2 σ2 ⟨rfl, h2⟩
  refine Ev_icmp_eq (x := r) (y := r) rfl (fun _ => ?_) (fun h => absurd rfl h)
  exact law_next (hN _ _ h2)
theorem law_course {k : Nat} {ρ : Rf} {σ : St} (hI : Inv ρ σ) (hL : 6 * k + 6 ≤ xLn X) (hL2 : xLn X ≤ 3072) (H : ∀ a b c : Int32, OpI l X Inv 123 237 [.int a, .int b, .int c]) (hN : ∀ ρ σ, Inv ρ σ → Ev l X 101 298 18 (LwS (k + 1)) [] 0 402 402 ρ σ PL) : Ev l X 101 298 706 (LwS k) [] 0 402 402 ρ σ PL := by
  refine Ev_aload rfl rfl rfl ?_
  refine Ev_aload rfl rfl rfl ?_
  refine Ev_iload rfl rfl ?_
  refine Ev_const rfl ?_
  refine Ev_iadd rfl ?_
  refine Ev_norm (nI_p (6 * k) 1 1 (by decide)) ?_
  refine Ev_scLd rfl (vp_in_nI (by omega) (by omega)) ?_
  refine Ev_aload rfl rfl rfl ?_
  refine Ev_iload rfl rfl ?_
  refine Ev_const rfl ?_
  refine Ev_iadd rfl ?_
  refine Ev_norm (nI_p (6 * k) 2 2 (by decide)) ?_
  refine Ev_scLd rfl (vp_in_nI (by omega) (by omega)) ?_
  refine Ev_aload rfl rfl rfl ?_
  refine Ev_iload rfl rfl ?_
  refine Ev_const rfl ?_
  refine Ev_iadd rfl ?_
  refine Ev_norm (nI_p (6 * k) 3 3 (by decide)) ?_
  refine Ev_scLd rfl (vp_in_nI (by omega) (by omega)) ?_
  obtain ⟨r, Mid, hT, hM⟩ := H (xXs X (nI (6 * k + 1)).toNatClampNeg) (xXs X (nI (6 * k + 2)).toNatClampNeg) (xXs X (nI (6 * k + 3)).toNatClampNeg) ρ σ hI
  refine Ev_callV rfl rfl rfl rfl rfl n400 hT ?_
  rintro v ρ1 σ1 ⟨rfl, h1⟩
  refine Ev_aload rfl rfl rfl ?_
  refine Ev_aload rfl rfl rfl ?_
  refine Ev_iload rfl rfl ?_
  refine Ev_const rfl ?_
  refine Ev_iadd rfl ?_
  refine Ev_norm (nI_p (6 * k) 1 1 (by decide)) ?_
  refine Ev_scLd rfl (vp_in_nI (by omega) (by omega)) ?_
  refine Ev_aload rfl rfl rfl ?_
  refine Ev_iload rfl rfl ?_
  refine Ev_const rfl ?_
  refine Ev_iadd rfl ?_
  refine Ev_norm (nI_p (6 * k) 2 2 (by decide)) ?_
  refine Ev_scLd rfl (vp_in_nI (by omega) (by omega)) ?_
  refine Ev_aload rfl rfl rfl ?_
  refine Ev_iload rfl rfl ?_
  refine Ev_const rfl ?_
  refine Ev_iadd rfl ?_
  refine Ev_norm (nI_p (6 * k) 3 3 (by decide)) ?_
  refine Ev_scLd rfl (vp_in_nI (by omega) (by omega)) ?_
  refine Ev_callV rfl rfl rfl rfl rfl n400 (hM _ _ h1) ?_
  rintro v ρ2 σ2 ⟨rfl, h2⟩
  refine Ev_icmp_eq (x := r) (y := r) rfl (fun _ => ?_) (fun h => absurd rfl h)
  exact law_next (hN _ _ h2)
theorem law_change {k : Nat} {ρ : Rf} {σ : St} (hI : Inv ρ σ) (hL : 6 * k + 6 ≤ xLn X) (hL2 : xLn X ≤ 3072) (H : ∀ a b : Int32, OpI l X Inv 124 240 [.int a, .int b]) (hN : ∀ ρ σ, Inv ρ σ → Ev l X 101 298 18 (LwS (k + 1)) [] 0 402 402 ρ σ PL) : Ev l X 101 298 749 (LwS k) [] 0 402 402 ρ σ PL := by
  refine Ev_aload rfl rfl rfl ?_
  refine Ev_aload rfl rfl rfl ?_
  refine Ev_iload rfl rfl ?_
  refine Ev_const rfl ?_
  refine Ev_iadd rfl ?_
  refine Ev_norm (nI_p (6 * k) 1 1 (by decide)) ?_
  refine Ev_scLd rfl (vp_in_nI (by omega) (by omega)) ?_
  refine Ev_aload rfl rfl rfl ?_
  refine Ev_iload rfl rfl ?_
  refine Ev_const rfl ?_
  refine Ev_iadd rfl ?_
  refine Ev_norm (nI_p (6 * k) 2 2 (by decide)) ?_
  refine Ev_scLd rfl (vp_in_nI (by omega) (by omega)) ?_
  obtain ⟨r, Mid, hT, hM⟩ := H (xXs X (nI (6 * k + 1)).toNatClampNeg) (xXs X (nI (6 * k + 2)).toNatClampNeg) ρ σ hI
  refine Ev_callV rfl rfl rfl rfl rfl n400 hT ?_
  rintro v ρ1 σ1 ⟨rfl, h1⟩
  refine Ev_aload rfl rfl rfl ?_
  refine Ev_aload rfl rfl rfl ?_
  refine Ev_iload rfl rfl ?_
  refine Ev_const rfl ?_
  refine Ev_iadd rfl ?_
  refine Ev_norm (nI_p (6 * k) 1 1 (by decide)) ?_
  refine Ev_scLd rfl (vp_in_nI (by omega) (by omega)) ?_
  refine Ev_aload rfl rfl rfl ?_
  refine Ev_iload rfl rfl ?_
  refine Ev_const rfl ?_
  refine Ev_iadd rfl ?_
  refine Ev_norm (nI_p (6 * k) 2 2 (by decide)) ?_
  refine Ev_scLd rfl (vp_in_nI (by omega) (by omega)) ?_
  refine Ev_callV rfl rfl rfl rfl rfl n400 (hM _ _ h1) ?_
  rintro v ρ2 σ2 ⟨rfl, h2⟩
  refine Ev_icmp_eq (x := r) (y := r) rfl (fun _ => ?_) (fun h => absurd rfl h)
  exact law_next (hN _ _ h2)
theorem law_match {k : Nat} {ρ : Rf} {σ : St} (hI : Inv ρ σ) (hL : 6 * k + 6 ≤ xLn X) (hL2 : xLn X ≤ 3072) (H : ∀ a : Int32, OpI l X Inv 125 243 [.int a]) (hN : ∀ ρ σ, Inv ρ σ → Ev l X 101 298 18 (LwS (k + 1)) [] 0 402 402 ρ σ PL) : Ev l X 101 298 782 (LwS k) [] 0 402 402 ρ σ PL := by
  refine Ev_aload rfl rfl rfl ?_
  refine Ev_aload rfl rfl rfl ?_
  refine Ev_iload rfl rfl ?_
  refine Ev_const rfl ?_
  refine Ev_iadd rfl ?_
  refine Ev_norm (nI_p (6 * k) 1 1 (by decide)) ?_
  refine Ev_scLd rfl (vp_in_nI (by omega) (by omega)) ?_
  obtain ⟨r, Mid, hT, hM⟩ := H (xXs X (nI (6 * k + 1)).toNatClampNeg) ρ σ hI
  refine Ev_callV rfl rfl rfl rfl rfl n400 hT ?_
  rintro v ρ1 σ1 ⟨rfl, h1⟩
  refine Ev_aload rfl rfl rfl ?_
  refine Ev_aload rfl rfl rfl ?_
  refine Ev_iload rfl rfl ?_
  refine Ev_const rfl ?_
  refine Ev_iadd rfl ?_
  refine Ev_norm (nI_p (6 * k) 1 1 (by decide)) ?_
  refine Ev_scLd rfl (vp_in_nI (by omega) (by omega)) ?_
  refine Ev_callV rfl rfl rfl rfl rfl n400 (hM _ _ h1) ?_
  rintro v ρ2 σ2 ⟨rfl, h2⟩
  refine Ev_icmp_eq (x := r) (y := r) rfl (fun _ => ?_) (fun h => absurd rfl h)
  exact law_next (hN _ _ h2)
theorem law_odds {k : Nat} {ρ : Rf} {σ : St} (hI : Inv ρ σ) (hL : 6 * k + 6 ≤ xLn X) (hL2 : xLn X ≤ 3072) (H : ∀ a b : Int32, OpI l X Inv 126 244 [.int a, .int b]) (hN : ∀ ρ σ, Inv ρ σ → Ev l X 101 298 18 (LwS (k + 1)) [] 0 402 402 ρ σ PL) : Ev l X 101 298 805 (LwS k) [] 0 402 402 ρ σ PL := by
  refine Ev_aload rfl rfl rfl ?_
  refine Ev_aload rfl rfl rfl ?_
  refine Ev_iload rfl rfl ?_
  refine Ev_const rfl ?_
  refine Ev_iadd rfl ?_
  refine Ev_norm (nI_p (6 * k) 1 1 (by decide)) ?_
  refine Ev_scLd rfl (vp_in_nI (by omega) (by omega)) ?_
  refine Ev_aload rfl rfl rfl ?_
  refine Ev_iload rfl rfl ?_
  refine Ev_const rfl ?_
  refine Ev_iadd rfl ?_
  refine Ev_norm (nI_p (6 * k) 2 2 (by decide)) ?_
  refine Ev_scLd rfl (vp_in_nI (by omega) (by omega)) ?_
  obtain ⟨r, Mid, hT, hM⟩ := H (xXs X (nI (6 * k + 1)).toNatClampNeg) (xXs X (nI (6 * k + 2)).toNatClampNeg) ρ σ hI
  refine Ev_callV rfl rfl rfl rfl rfl n400 hT ?_
  rintro v ρ1 σ1 ⟨rfl, h1⟩
  refine Ev_aload rfl rfl rfl ?_
  refine Ev_aload rfl rfl rfl ?_
  refine Ev_iload rfl rfl ?_
  refine Ev_const rfl ?_
  refine Ev_iadd rfl ?_
  refine Ev_norm (nI_p (6 * k) 1 1 (by decide)) ?_
  refine Ev_scLd rfl (vp_in_nI (by omega) (by omega)) ?_
  refine Ev_aload rfl rfl rfl ?_
  refine Ev_iload rfl rfl ?_
  refine Ev_const rfl ?_
  refine Ev_iadd rfl ?_
  refine Ev_norm (nI_p (6 * k) 2 2 (by decide)) ?_
  refine Ev_scLd rfl (vp_in_nI (by omega) (by omega)) ?_
  refine Ev_callV rfl rfl rfl rfl rfl n400 (hM _ _ h1) ?_
  rintro v ρ2 σ2 ⟨rfl, h2⟩
  refine Ev_icmp_eq (x := r) (y := r) rfl (fun _ => ?_) (fun h => absurd rfl h)
  exact law_next (hN _ _ h2)
theorem law_discover {k : Nat} {ρ : Rf} {σ : St} (hI : Inv ρ σ) (hL : 6 * k + 6 ≤ xLn X) (hL2 : xLn X ≤ 3072) (H : OpI l X Inv 127 246 []) (hN : ∀ ρ σ, Inv ρ σ → Ev l X 101 298 18 (LwS (k + 1)) [] 0 402 402 ρ σ PL) : Ev l X 101 298 838 (LwS k) [] 0 402 402 ρ σ PL := by
  refine Ev_aload rfl rfl rfl ?_
  obtain ⟨r, Mid, hT, hM⟩ := H ρ σ hI
  refine Ev_callV rfl rfl rfl rfl rfl n400 hT ?_
  rintro v ρ1 σ1 ⟨rfl, h1⟩
  refine Ev_aload rfl rfl rfl ?_
  refine Ev_callV rfl rfl rfl rfl rfl n400 (hM _ _ h1) ?_
  rintro v ρ2 σ2 ⟨rfl, h2⟩
  refine Ev_icmp_eq (x := r) (y := r) rfl (fun _ => ?_) (fun h => absurd rfl h)
  exact law_next (hN _ _ h2)
theorem law_wits {k : Nat} {ρ : Rf} {σ : St} (hI : Inv ρ σ) (hL : 6 * k + 6 ≤ xLn X) (hL2 : xLn X ≤ 3072) (H : ∀ a : Int32, OpI l X Inv 129 249 [.int a]) (hN : ∀ ρ σ, Inv ρ σ → Ev l X 101 298 18 (LwS (k + 1)) [] 0 402 402 ρ σ PL) : Ev l X 101 298 851 (LwS k) [] 0 402 402 ρ σ PL := by
  refine Ev_aload rfl rfl rfl ?_
  refine Ev_aload rfl rfl rfl ?_
  refine Ev_iload rfl rfl ?_
  refine Ev_const rfl ?_
  refine Ev_iadd rfl ?_
  refine Ev_norm (nI_p (6 * k) 1 1 (by decide)) ?_
  refine Ev_scLd rfl (vp_in_nI (by omega) (by omega)) ?_
  obtain ⟨r, Mid, hT, hM⟩ := H (xXs X (nI (6 * k + 1)).toNatClampNeg) ρ σ hI
  refine Ev_callV rfl rfl rfl rfl rfl n400 hT ?_
  rintro v ρ1 σ1 ⟨rfl, h1⟩
  refine Ev_aload rfl rfl rfl ?_
  refine Ev_aload rfl rfl rfl ?_
  refine Ev_iload rfl rfl ?_
  refine Ev_const rfl ?_
  refine Ev_iadd rfl ?_
  refine Ev_norm (nI_p (6 * k) 1 1 (by decide)) ?_
  refine Ev_scLd rfl (vp_in_nI (by omega) (by omega)) ?_
  refine Ev_callV rfl rfl rfl rfl rfl n400 (hM _ _ h1) ?_
  rintro v ρ2 σ2 ⟨rfl, h2⟩
  refine Ev_icmp_eq (x := r) (y := r) rfl (fun _ => ?_) (fun h => absurd rfl h)
  exact law_next (hN _ _ h2)
theorem law_tells {k : Nat} {ρ : Rf} {σ : St} (hI : Inv ρ σ) (hL : 6 * k + 6 ≤ xLn X) (hL2 : xLn X ≤ 3072) (H : ∀ a b : Int32, OpI l X Inv 130 251 [.int a, .int b]) (hN : ∀ ρ σ, Inv ρ σ → Ev l X 101 298 18 (LwS (k + 1)) [] 0 402 402 ρ σ PL) : Ev l X 101 298 874 (LwS k) [] 0 402 402 ρ σ PL := by
  refine Ev_aload rfl rfl rfl ?_
  refine Ev_aload rfl rfl rfl ?_
  refine Ev_iload rfl rfl ?_
  refine Ev_const rfl ?_
  refine Ev_iadd rfl ?_
  refine Ev_norm (nI_p (6 * k) 1 1 (by decide)) ?_
  refine Ev_scLd rfl (vp_in_nI (by omega) (by omega)) ?_
  refine Ev_aload rfl rfl rfl ?_
  refine Ev_iload rfl rfl ?_
  refine Ev_const rfl ?_
  refine Ev_iadd rfl ?_
  refine Ev_norm (nI_p (6 * k) 2 2 (by decide)) ?_
  refine Ev_scLd rfl (vp_in_nI (by omega) (by omega)) ?_
  obtain ⟨r, Mid, hT, hM⟩ := H (xXs X (nI (6 * k + 1)).toNatClampNeg) (xXs X (nI (6 * k + 2)).toNatClampNeg) ρ σ hI
  refine Ev_callV rfl rfl rfl rfl rfl n400 hT ?_
  rintro v ρ1 σ1 ⟨rfl, h1⟩
  refine Ev_aload rfl rfl rfl ?_
  refine Ev_aload rfl rfl rfl ?_
  refine Ev_iload rfl rfl ?_
  refine Ev_const rfl ?_
  refine Ev_iadd rfl ?_
  refine Ev_norm (nI_p (6 * k) 1 1 (by decide)) ?_
  refine Ev_scLd rfl (vp_in_nI (by omega) (by omega)) ?_
  refine Ev_aload rfl rfl rfl ?_
  refine Ev_iload rfl rfl ?_
  refine Ev_const rfl ?_
  refine Ev_iadd rfl ?_
  refine Ev_norm (nI_p (6 * k) 2 2 (by decide)) ?_
  refine Ev_scLd rfl (vp_in_nI (by omega) (by omega)) ?_
  refine Ev_callV rfl rfl rfl rfl rfl n400 (hM _ _ h1) ?_
  rintro v ρ2 σ2 ⟨rfl, h2⟩
  refine Ev_icmp_eq (x := r) (y := r) rfl (fun _ => ?_) (fun h => absurd rfl h)
  exact law_next (hN _ _ h2)
theorem law_duck {k : Nat} {ρ : Rf} {σ : St} (hI : Inv ρ σ) (hL : 6 * k + 6 ≤ xLn X) (hL2 : xLn X ≤ 3072) (H : ∀ a b : Int32, OpI l X Inv 131 254 [.int a, .int b]) (hN : ∀ ρ σ, Inv ρ σ → Ev l X 101 298 18 (LwS (k + 1)) [] 0 402 402 ρ σ PL) : Ev l X 101 298 907 (LwS k) [] 0 402 402 ρ σ PL := by
  refine Ev_aload rfl rfl rfl ?_
  refine Ev_aload rfl rfl rfl ?_
  refine Ev_iload rfl rfl ?_
  refine Ev_const rfl ?_
  refine Ev_iadd rfl ?_
  refine Ev_norm (nI_p (6 * k) 1 1 (by decide)) ?_
  refine Ev_scLd rfl (vp_in_nI (by omega) (by omega)) ?_
  refine Ev_aload rfl rfl rfl ?_
  refine Ev_iload rfl rfl ?_
  refine Ev_const rfl ?_
  refine Ev_iadd rfl ?_
  refine Ev_norm (nI_p (6 * k) 2 2 (by decide)) ?_
  refine Ev_scLd rfl (vp_in_nI (by omega) (by omega)) ?_
  obtain ⟨r, Mid, hT, hM⟩ := H (xXs X (nI (6 * k + 1)).toNatClampNeg) (xXs X (nI (6 * k + 2)).toNatClampNeg) ρ σ hI
  refine Ev_callV rfl rfl rfl rfl rfl n400 hT ?_
  rintro v ρ1 σ1 ⟨rfl, h1⟩
  refine Ev_aload rfl rfl rfl ?_
  refine Ev_aload rfl rfl rfl ?_
  refine Ev_iload rfl rfl ?_
  refine Ev_const rfl ?_
  refine Ev_iadd rfl ?_
  refine Ev_norm (nI_p (6 * k) 1 1 (by decide)) ?_
  refine Ev_scLd rfl (vp_in_nI (by omega) (by omega)) ?_
  refine Ev_aload rfl rfl rfl ?_
  refine Ev_iload rfl rfl ?_
  refine Ev_const rfl ?_
  refine Ev_iadd rfl ?_
  refine Ev_norm (nI_p (6 * k) 2 2 (by decide)) ?_
  refine Ev_scLd rfl (vp_in_nI (by omega) (by omega)) ?_
  refine Ev_callV rfl rfl rfl rfl rfl n400 (hM _ _ h1) ?_
  rintro v ρ2 σ2 ⟨rfl, h2⟩
  refine Ev_icmp_eq (x := r) (y := r) rfl (fun _ => ?_) (fun h => absurd rfl h)
  exact law_next (hN _ _ h2)
theorem law_forget {k : Nat} {ρ : Rf} {σ : St} (hI : Inv ρ σ) (hL : 6 * k + 6 ≤ xLn X) (hL2 : xLn X ≤ 3072) (H : ∀ a b : Int32, OpI l X Inv 132 256 [.int a, .int b]) (hN : ∀ ρ σ, Inv ρ σ → Ev l X 101 298 18 (LwS (k + 1)) [] 0 402 402 ρ σ PL) : Ev l X 101 298 940 (LwS k) [] 0 402 402 ρ σ PL := by
  refine Ev_aload rfl rfl rfl ?_
  refine Ev_aload rfl rfl rfl ?_
  refine Ev_iload rfl rfl ?_
  refine Ev_const rfl ?_
  refine Ev_iadd rfl ?_
  refine Ev_norm (nI_p (6 * k) 1 1 (by decide)) ?_
  refine Ev_scLd rfl (vp_in_nI (by omega) (by omega)) ?_
  refine Ev_aload rfl rfl rfl ?_
  refine Ev_iload rfl rfl ?_
  refine Ev_const rfl ?_
  refine Ev_iadd rfl ?_
  refine Ev_norm (nI_p (6 * k) 2 2 (by decide)) ?_
  refine Ev_scLd rfl (vp_in_nI (by omega) (by omega)) ?_
  obtain ⟨r, Mid, hT, hM⟩ := H (xXs X (nI (6 * k + 1)).toNatClampNeg) (xXs X (nI (6 * k + 2)).toNatClampNeg) ρ σ hI
  refine Ev_callV rfl rfl rfl rfl rfl n400 hT ?_
  rintro v ρ1 σ1 ⟨rfl, h1⟩
  refine Ev_aload rfl rfl rfl ?_
  refine Ev_aload rfl rfl rfl ?_
  refine Ev_iload rfl rfl ?_
  refine Ev_const rfl ?_
  refine Ev_iadd rfl ?_
  refine Ev_norm (nI_p (6 * k) 1 1 (by decide)) ?_
  refine Ev_scLd rfl (vp_in_nI (by omega) (by omega)) ?_
  refine Ev_aload rfl rfl rfl ?_
  refine Ev_iload rfl rfl ?_
  refine Ev_const rfl ?_
  refine Ev_iadd rfl ?_
  refine Ev_norm (nI_p (6 * k) 2 2 (by decide)) ?_
  refine Ev_scLd rfl (vp_in_nI (by omega) (by omega)) ?_
  refine Ev_callV rfl rfl rfl rfl rfl n400 (hM _ _ h1) ?_
  rintro v ρ2 σ2 ⟨rfl, h2⟩
  refine Ev_icmp_eq (x := r) (y := r) rfl (fun _ => ?_) (fun h => absurd rfl h)
  exact law_next (hN _ _ h2)
theorem law_send {k : Nat} {ρ : Rf} {σ : St} (hI : Inv ρ σ) (hL : 6 * k + 6 ≤ xLn X) (hL2 : xLn X ≤ 3072) (H : ∀ a b c : Int32, OpI l X Inv 133 257 [.int a, .int b, .int c]) (hN : ∀ ρ σ, Inv ρ σ → Ev l X 101 298 18 (LwS (k + 1)) [] 0 402 402 ρ σ PL) : Ev l X 101 298 973 (LwS k) [] 0 402 402 ρ σ PL := by
  refine Ev_aload rfl rfl rfl ?_
  refine Ev_aload rfl rfl rfl ?_
  refine Ev_iload rfl rfl ?_
  refine Ev_const rfl ?_
  refine Ev_iadd rfl ?_
  refine Ev_norm (nI_p (6 * k) 1 1 (by decide)) ?_
  refine Ev_scLd rfl (vp_in_nI (by omega) (by omega)) ?_
  refine Ev_aload rfl rfl rfl ?_
  refine Ev_iload rfl rfl ?_
  refine Ev_const rfl ?_
  refine Ev_iadd rfl ?_
  refine Ev_norm (nI_p (6 * k) 2 2 (by decide)) ?_
  refine Ev_scLd rfl (vp_in_nI (by omega) (by omega)) ?_
  refine Ev_aload rfl rfl rfl ?_
  refine Ev_iload rfl rfl ?_
  refine Ev_const rfl ?_
  refine Ev_iadd rfl ?_
  refine Ev_norm (nI_p (6 * k) 3 3 (by decide)) ?_
  refine Ev_scLd rfl (vp_in_nI (by omega) (by omega)) ?_
  obtain ⟨r, Mid, hT, hM⟩ := H (xXs X (nI (6 * k + 1)).toNatClampNeg) (xXs X (nI (6 * k + 2)).toNatClampNeg) (xXs X (nI (6 * k + 3)).toNatClampNeg) ρ σ hI
  refine Ev_callV rfl rfl rfl rfl rfl n400 hT ?_
  rintro v ρ1 σ1 ⟨rfl, h1⟩
  refine Ev_aload rfl rfl rfl ?_
  refine Ev_aload rfl rfl rfl ?_
  refine Ev_iload rfl rfl ?_
  refine Ev_const rfl ?_
  refine Ev_iadd rfl ?_
  refine Ev_norm (nI_p (6 * k) 1 1 (by decide)) ?_
  refine Ev_scLd rfl (vp_in_nI (by omega) (by omega)) ?_
  refine Ev_aload rfl rfl rfl ?_
  refine Ev_iload rfl rfl ?_
  refine Ev_const rfl ?_
  refine Ev_iadd rfl ?_
  refine Ev_norm (nI_p (6 * k) 2 2 (by decide)) ?_
  refine Ev_scLd rfl (vp_in_nI (by omega) (by omega)) ?_
  refine Ev_aload rfl rfl rfl ?_
  refine Ev_iload rfl rfl ?_
  refine Ev_const rfl ?_
  refine Ev_iadd rfl ?_
  refine Ev_norm (nI_p (6 * k) 3 3 (by decide)) ?_
  refine Ev_scLd rfl (vp_in_nI (by omega) (by omega)) ?_
  refine Ev_callV rfl rfl rfl rfl rfl n400 (hM _ _ h1) ?_
  rintro v ρ2 σ2 ⟨rfl, h2⟩
  refine Ev_icmp_eq (x := r) (y := r) rfl (fun _ => ?_) (fun h => absurd rfl h)
  exact law_next (hN _ _ h2)
theorem law_hours {k : Nat} {ρ : Rf} {σ : St} (hI : Inv ρ σ) (hL : 6 * k + 6 ≤ xLn X) (hL2 : xLn X ≤ 3072) (H : ∀ a : Int32, OpI l X Inv 134 258 [.int a]) (hN : ∀ ρ σ, Inv ρ σ → Ev l X 101 298 18 (LwS (k + 1)) [] 0 402 402 ρ σ PL) : Ev l X 101 298 1016 (LwS k) [] 0 402 402 ρ σ PL := by
  refine Ev_aload rfl rfl rfl ?_
  refine Ev_aload rfl rfl rfl ?_
  refine Ev_iload rfl rfl ?_
  refine Ev_const rfl ?_
  refine Ev_iadd rfl ?_
  refine Ev_norm (nI_p (6 * k) 1 1 (by decide)) ?_
  refine Ev_scLd rfl (vp_in_nI (by omega) (by omega)) ?_
  obtain ⟨r, Mid, hT, hM⟩ := H (xXs X (nI (6 * k + 1)).toNatClampNeg) ρ σ hI
  refine Ev_callV rfl rfl rfl rfl rfl n400 hT ?_
  rintro v ρ1 σ1 ⟨rfl, h1⟩
  refine Ev_aload rfl rfl rfl ?_
  refine Ev_aload rfl rfl rfl ?_
  refine Ev_iload rfl rfl ?_
  refine Ev_const rfl ?_
  refine Ev_iadd rfl ?_
  refine Ev_norm (nI_p (6 * k) 1 1 (by decide)) ?_
  refine Ev_scLd rfl (vp_in_nI (by omega) (by omega)) ?_
  refine Ev_callV rfl rfl rfl rfl rfl n400 (hM _ _ h1) ?_
  rintro v ρ2 σ2 ⟨rfl, h2⟩
  refine Ev_icmp_eq (x := r) (y := r) rfl (fun _ => ?_) (fun h => absurd rfl h)
  exact law_next (hN _ _ h2)
theorem law_chance {k : Nat} {ρ : Rf} {σ : St} (hI : Inv ρ σ) (hL : 6 * k + 6 ≤ xLn X) (hL2 : xLn X ≤ 3072) (H : ∀ a : Int32, OpI l X Inv 135 261 [.int a]) (hN : ∀ ρ σ, Inv ρ σ → Ev l X 101 298 18 (LwS (k + 1)) [] 0 402 402 ρ σ PL) : Ev l X 101 298 1039 (LwS k) [] 0 402 402 ρ σ PL := by
  refine Ev_aload rfl rfl rfl ?_
  refine Ev_aload rfl rfl rfl ?_
  refine Ev_iload rfl rfl ?_
  refine Ev_const rfl ?_
  refine Ev_iadd rfl ?_
  refine Ev_norm (nI_p (6 * k) 1 1 (by decide)) ?_
  refine Ev_scLd rfl (vp_in_nI (by omega) (by omega)) ?_
  obtain ⟨r, Mid, hT, hM⟩ := H (xXs X (nI (6 * k + 1)).toNatClampNeg) ρ σ hI
  refine Ev_callV rfl rfl rfl rfl rfl n400 hT ?_
  rintro v ρ1 σ1 ⟨rfl, h1⟩
  refine Ev_aload rfl rfl rfl ?_
  refine Ev_aload rfl rfl rfl ?_
  refine Ev_iload rfl rfl ?_
  refine Ev_const rfl ?_
  refine Ev_iadd rfl ?_
  refine Ev_norm (nI_p (6 * k) 1 1 (by decide)) ?_
  refine Ev_scLd rfl (vp_in_nI (by omega) (by omega)) ?_
  refine Ev_callV rfl rfl rfl rfl rfl n400 (hM _ _ h1) ?_
  rintro v ρ2 σ2 ⟨rfl, h2⟩
  refine Ev_icmp_eq (x := r) (y := r) rfl (fun _ => ?_) (fun h => absurd rfl h)
  exact law_next (hN _ _ h2)
theorem law_undo {k : Nat} {ρ : Rf} {σ : St} (hI : Inv ρ σ) (hL : 6 * k + 6 ≤ xLn X) (hL2 : xLn X ≤ 3072) (H : OpI l X Inv 137 253 []) (hN : ∀ ρ σ, Inv ρ σ → Ev l X 101 298 18 (LwS (k + 1)) [] 0 402 402 ρ σ PL) : Ev l X 101 298 1062 (LwS k) [] 0 402 402 ρ σ PL := by
  refine Ev_aload rfl rfl rfl ?_
  obtain ⟨r, Mid, hT, hM⟩ := H ρ σ hI
  refine Ev_callV rfl rfl rfl rfl rfl n400 hT ?_
  rintro v ρ1 σ1 ⟨rfl, h1⟩
  refine Ev_aload rfl rfl rfl ?_
  refine Ev_callV rfl rfl rfl rfl rfl n400 (hM _ _ h1) ?_
  rintro v ρ2 σ2 ⟨rfl, h2⟩
  refine Ev_icmp_eq (x := r) (y := r) rfl (fun _ => ?_) (fun h => absurd rfl h)
  exact law_next (hN _ _ h2)
theorem law_seed {k : Nat} {ρ : Rf} {σ : St} (hI : Inv ρ σ) (hL : 6 * k + 6 ≤ xLn X) (hL2 : xLn X ≤ 3072) (H : ∀ a : Int32, OpI l X Inv 138 259 [.int a]) (hN : ∀ ρ σ, Inv ρ σ → Ev l X 101 298 18 (LwS (k + 1)) [] 0 402 402 ρ σ PL) : Ev l X 101 298 1075 (LwS k) [] 0 402 402 ρ σ PL := by
  refine Ev_aload rfl rfl rfl ?_
  refine Ev_aload rfl rfl rfl ?_
  refine Ev_iload rfl rfl ?_
  refine Ev_const rfl ?_
  refine Ev_iadd rfl ?_
  refine Ev_norm (nI_p (6 * k) 1 1 (by decide)) ?_
  refine Ev_scLd rfl (vp_in_nI (by omega) (by omega)) ?_
  obtain ⟨r, Mid, hT, hM⟩ := H (xXs X (nI (6 * k + 1)).toNatClampNeg) ρ σ hI
  refine Ev_callV rfl rfl rfl rfl rfl n400 hT ?_
  rintro v ρ1 σ1 ⟨rfl, h1⟩
  refine Ev_aload rfl rfl rfl ?_
  refine Ev_aload rfl rfl rfl ?_
  refine Ev_iload rfl rfl ?_
  refine Ev_const rfl ?_
  refine Ev_iadd rfl ?_
  refine Ev_norm (nI_p (6 * k) 1 1 (by decide)) ?_
  refine Ev_scLd rfl (vp_in_nI (by omega) (by omega)) ?_
  refine Ev_callV rfl rfl rfl rfl rfl n400 (hM _ _ h1) ?_
  rintro v ρ2 σ2 ⟨rfl, h2⟩
  refine Ev_icmp_eq (x := r) (y := r) rfl (fun _ => ?_) (fun h => absurd rfl h)
  exact law_next (hN _ _ h2)
theorem law_ask {k : Nat} {ρ : Rf} {σ : St} (hI : Inv ρ σ) (hL : 6 * k + 6 ≤ xLn X) (hL2 : xLn X ≤ 3072) (H : OpL l X Inv 139 290 []) (hN : ∀ ρ σ, Inv ρ σ → Ev l X 101 298 18 (LwS (k + 1)) [] 0 402 402 ρ σ PL) : Ev l X 101 298 1098 (LwS k) [] 0 402 402 ρ σ PL := by
  refine Ev_aload rfl rfl rfl ?_
  obtain ⟨r, Mid, hT, hM⟩ := H ρ σ hI
  refine Ev_callV rfl rfl rfl rfl rfl n400 hT ?_
  rintro v ρ1 σ1 ⟨rfl, h1⟩
  refine Ev_aload rfl rfl rfl ?_
  refine Ev_callV rfl rfl rfl rfl rfl n400 (hM _ _ h1) ?_
  rintro v ρ2 σ2 ⟨rfl, h2⟩
  refine Ev_lcmp (x := r) (y := r) rfl ?_
  refine Ev_if_eq rfl (fun _ => ?_) (fun h => absurd ((lc_eq r r).mpr rfl) h)
  exact law_next (hN _ _ h2)
theorem law_image {k : Nat} {ρ : Rf} {σ : St} (hI : Inv ρ σ) (hL : 6 * k + 6 ≤ xLn X) (hL2 : xLn X ≤ 3072) (H : OpI l X Inv 141 293 []) (hN : ∀ ρ σ, Inv ρ σ → Ev l X 101 298 18 (LwS (k + 1)) [] 0 402 402 ρ σ PL) : Ev l X 101 298 1112 (LwS k) [] 0 402 402 ρ σ PL := by
  refine Ev_aload rfl rfl rfl ?_
  obtain ⟨r, Mid, hT, hM⟩ := H ρ σ hI
  refine Ev_callV rfl rfl rfl rfl rfl n400 hT ?_
  rintro v ρ1 σ1 ⟨rfl, h1⟩
  refine Ev_aload rfl rfl rfl ?_
  refine Ev_callV rfl rfl rfl rfl rfl n400 (hM _ _ h1) ?_
  rintro v ρ2 σ2 ⟨rfl, h2⟩
  refine Ev_icmp_eq (x := r) (y := r) rfl (fun _ => ?_) (fun h => absurd rfl h)
  exact law_next (hN _ _ h2)
theorem law_octet {k : Nat} {ρ : Rf} {σ : St} (hI : Inv ρ σ) (hL : 6 * k + 6 ≤ xLn X) (hL2 : xLn X ≤ 3072) (H : ∀ a : Int32, OpI l X Inv 143 294 [.int a]) (hN : ∀ ρ σ, Inv ρ σ → Ev l X 101 298 18 (LwS (k + 1)) [] 0 402 402 ρ σ PL) : Ev l X 101 298 1125 (LwS k) [] 0 402 402 ρ σ PL := by
  refine Ev_aload rfl rfl rfl ?_
  refine Ev_aload rfl rfl rfl ?_
  refine Ev_iload rfl rfl ?_
  refine Ev_const rfl ?_
  refine Ev_iadd rfl ?_
  refine Ev_norm (nI_p (6 * k) 1 1 (by decide)) ?_
  refine Ev_scLd rfl (vp_in_nI (by omega) (by omega)) ?_
  obtain ⟨r, Mid, hT, hM⟩ := H (xXs X (nI (6 * k + 1)).toNatClampNeg) ρ σ hI
  refine Ev_callV rfl rfl rfl rfl rfl n400 hT ?_
  rintro v ρ1 σ1 ⟨rfl, h1⟩
  refine Ev_aload rfl rfl rfl ?_
  refine Ev_aload rfl rfl rfl ?_
  refine Ev_iload rfl rfl ?_
  refine Ev_const rfl ?_
  refine Ev_iadd rfl ?_
  refine Ev_norm (nI_p (6 * k) 1 1 (by decide)) ?_
  refine Ev_scLd rfl (vp_in_nI (by omega) (by omega)) ?_
  refine Ev_callV rfl rfl rfl rfl rfl n400 (hM _ _ h1) ?_
  rintro v ρ2 σ2 ⟨rfl, h2⟩
  refine Ev_icmp_eq (x := r) (y := r) rfl (fun _ => ?_) (fun h => absurd rfl h)
  exact law_next (hN _ _ h2)
theorem law_on {k : Nat} {ρ : Rf} {σ : St} (hI : Inv ρ σ) (hL : 6 * k + 6 ≤ xLn X) (hL2 : xLn X ≤ 3072) (H : OpI l X Inv 144 296 []) (hN : ∀ ρ σ, Inv ρ σ → Ev l X 101 298 18 (LwS (k + 1)) [] 0 402 402 ρ σ PL) : Ev l X 101 298 1148 (LwS k) [] 0 402 402 ρ σ PL := by
  refine Ev_aload rfl rfl rfl ?_
  obtain ⟨r, Mid, hT, hM⟩ := H ρ σ hI
  refine Ev_callV rfl rfl rfl rfl rfl n400 hT ?_
  rintro v ρ1 σ1 ⟨rfl, h1⟩
  refine Ev_aload rfl rfl rfl ?_
  refine Ev_callV rfl rfl rfl rfl rfl n400 (hM _ _ h1) ?_
  rintro v ρ2 σ2 ⟨rfl, h2⟩
  refine Ev_icmp_eq (x := r) (y := r) rfl (fun _ => ?_) (fun h => absurd rfl h)
  exact law_next (hN _ _ h2)
theorem law_status {k : Nat} {ρ : Rf} {σ : St} (hI : Inv ρ σ) (hL : 6 * k + 6 ≤ xLn X) (hL2 : xLn X ≤ 3072) (H : ∀ a : Int32, OpI l X Inv 146 297 [.int a]) (hN : ∀ ρ σ, Inv ρ σ → Ev l X 101 298 18 (LwS (k + 1)) [] 0 402 402 ρ σ PL) : Ev l X 101 298 1161 (LwS k) [] 0 402 402 ρ σ PL := by
  refine Ev_aload rfl rfl rfl ?_
  refine Ev_aload rfl rfl rfl ?_
  refine Ev_iload rfl rfl ?_
  refine Ev_const rfl ?_
  refine Ev_iadd rfl ?_
  refine Ev_norm (nI_p (6 * k) 1 1 (by decide)) ?_
  refine Ev_scLd rfl (vp_in_nI (by omega) (by omega)) ?_
  obtain ⟨r, Mid, hT, hM⟩ := H (xXs X (nI (6 * k + 1)).toNatClampNeg) ρ σ hI
  refine Ev_callV rfl rfl rfl rfl rfl n400 hT ?_
  rintro v ρ1 σ1 ⟨rfl, h1⟩
  refine Ev_aload rfl rfl rfl ?_
  refine Ev_aload rfl rfl rfl ?_
  refine Ev_iload rfl rfl ?_
  refine Ev_const rfl ?_
  refine Ev_iadd rfl ?_
  refine Ev_norm (nI_p (6 * k) 1 1 (by decide)) ?_
  refine Ev_scLd rfl (vp_in_nI (by omega) (by omega)) ?_
  refine Ev_callV rfl rfl rfl rfl rfl n400 (hM _ _ h1) ?_
  rintro v ρ2 σ2 ⟨rfl, h2⟩
  refine Ev_icmp_eq (x := r) (y := r) rfl (fun _ => ?_) (fun h => absurd rfl h)
  exact law_next (hN _ _ h2)
theorem law_sub6 {L : Nat} (h : L ≤ 3072) : (nI L - 6).toInt = (L : Int) - 6 := by
  have : (6 : Int32) = nI 6 := by decide
  rw [this]
  exact pk_sub_toInt (by omega) (by omega)
theorem law_loop (H : AllOps l X Inv) (hL2 : xLn X ≤ 3072) : ∀ (f k : Nat) (ρ : Rf) (σ : St), Inv ρ σ → xLn X < 6 * k + f → 6 * k ≤ xLn X + 6 → Ev l X 101 298 18 (LwS k) [] 0 402 402 ρ σ PL := by
  intro f
  induction f with
  | zero =>
    intro k ρ σ hI hf hk
    have hz : nI (xLn X) - 6 < nI (6 * k) := by
      rw [Int32.lt_iff_toInt_lt, law_sub6 hL2, nI_toInt (by omega)]
      omega
    refine Ev_iload rfl rfl ?_
    refine Ev_aload rfl rfl rfl ?_
    refine Ev_scLen rfl ?_
    refine Ev_const rfl ?_
    refine Ev_isub rfl ?_
    refine Ev_icmp_gt rfl (fun _ => ?_) (fun h => absurd hz h)
    refine Ev_const rfl ?_
    exact Ev_ireturn rfl rfl rfl rfl rfl
  | succ f ih =>
    intro k ρ σ hI hf hk
    refine Ev_iload rfl rfl ?_
    refine Ev_aload rfl rfl rfl ?_
    refine Ev_scLen rfl ?_
    refine Ev_const rfl ?_
    refine Ev_isub rfl ?_
    refine Ev_icmp_gt rfl (fun _ => ?_) (fun h => ?_)
    · refine Ev_const rfl ?_
      exact Ev_ireturn rfl rfl rfl rfl rfl
    have h2 : 6 * k + 6 ≤ xLn X := by
      have h : ¬ nI (xLn X) - 6 < nI (6 * k) := h
      rw [Int32.lt_iff_toInt_lt, law_sub6 hL2, nI_toInt (by omega)] at h
      omega
    have hN : ∀ ρ σ, Inv ρ σ → Ev l X 101 298 18 (LwS (k + 1)) [] 0 402 402 ρ σ PL := fun ρ σ hI => ih (k + 1) ρ σ hI (by omega) (by omega)
    refine Ev_aload rfl rfl rfl ?_
    refine Ev_iload rfl rfl ?_
    refine Ev_scLd rfl (vp_in_nI (by omega) (by omega)) ?_
    refine Ev_const rfl ?_
    refine Ev_iand rfl ?_
    refine Ev_tab rfl rfl ?_
    refine ⟨fun _ => law_feed hI h2 hL2 (H.1) hN, fun _ => ?_⟩
    refine ⟨fun _ => law_end hI h2 hL2 (H.2.1) hN, fun _ => ?_⟩
    refine ⟨fun _ => law_beach hI h2 hL2 (H.2.2.1) hN, fun _ => ?_⟩
    refine ⟨fun _ => law_fault hI h2 hL2 (H.2.2.2.1) hN, fun _ => ?_⟩
    refine ⟨fun _ => law_has hI h2 hL2 (H.2.2.2.2.1) hN, fun _ => ?_⟩
    refine ⟨fun _ => law_letter hI h2 hL2 (H.2.2.2.2.2.1) hN, fun _ => ?_⟩
    refine ⟨fun _ => law_idea hI h2 hL2 (H.2.2.2.2.2.2.1) hN, fun _ => ?_⟩
    refine ⟨fun _ => law_bather hI h2 hL2 (H.2.2.2.2.2.2.2.1) hN, fun _ => ?_⟩
    refine ⟨fun _ => law_knows hI h2 hL2 (H.2.2.2.2.2.2.2.2.1) hN, fun _ => ?_⟩
    refine ⟨fun _ => law_keeps hI h2 hL2 (H.2.2.2.2.2.2.2.2.2.1) hN, fun _ => ?_⟩
    refine ⟨fun _ => law_plan hI h2 hL2 (H.2.2.2.2.2.2.2.2.2.2.1) hN, fun _ => ?_⟩
    refine ⟨fun _ => law_kept hI h2 hL2 (H.2.2.2.2.2.2.2.2.2.2.2.1) hN, fun _ => ?_⟩
    refine ⟨fun _ => law_tide hI h2 hL2 (H.2.2.2.2.2.2.2.2.2.2.2.2.1) hN, fun _ => ?_⟩
    refine ⟨fun _ => law_later hI h2 hL2 (H.2.2.2.2.2.2.2.2.2.2.2.2.2.1) hN, fun _ => ?_⟩
    refine ⟨fun _ => law_learns hI h2 hL2 (H.2.2.2.2.2.2.2.2.2.2.2.2.2.2.1) hN, fun _ => ?_⟩
    refine ⟨fun _ => law_lasts hI h2 hL2 (H.2.2.2.2.2.2.2.2.2.2.2.2.2.2.2.1) hN, fun _ => ?_⟩
    refine ⟨fun _ => law_course hI h2 hL2 (H.2.2.2.2.2.2.2.2.2.2.2.2.2.2.2.2.1) hN, fun _ => ?_⟩
    refine ⟨fun _ => law_change hI h2 hL2 (H.2.2.2.2.2.2.2.2.2.2.2.2.2.2.2.2.2.1) hN, fun _ => ?_⟩
    refine ⟨fun _ => law_match hI h2 hL2 (H.2.2.2.2.2.2.2.2.2.2.2.2.2.2.2.2.2.2.1) hN, fun _ => ?_⟩
    refine ⟨fun _ => law_odds hI h2 hL2 (H.2.2.2.2.2.2.2.2.2.2.2.2.2.2.2.2.2.2.2.1) hN, fun _ => ?_⟩
    refine ⟨fun _ => law_discover hI h2 hL2 (H.2.2.2.2.2.2.2.2.2.2.2.2.2.2.2.2.2.2.2.2.1) hN, fun _ => ?_⟩
    refine ⟨fun _ => law_wits hI h2 hL2 (H.2.2.2.2.2.2.2.2.2.2.2.2.2.2.2.2.2.2.2.2.2.1) hN, fun _ => ?_⟩
    refine ⟨fun _ => law_tells hI h2 hL2 (H.2.2.2.2.2.2.2.2.2.2.2.2.2.2.2.2.2.2.2.2.2.2.1) hN, fun _ => ?_⟩
    refine ⟨fun _ => law_duck hI h2 hL2 (H.2.2.2.2.2.2.2.2.2.2.2.2.2.2.2.2.2.2.2.2.2.2.2.1) hN, fun _ => ?_⟩
    refine ⟨fun _ => law_forget hI h2 hL2 (H.2.2.2.2.2.2.2.2.2.2.2.2.2.2.2.2.2.2.2.2.2.2.2.2.1) hN, fun _ => ?_⟩
    refine ⟨fun _ => law_send hI h2 hL2 (H.2.2.2.2.2.2.2.2.2.2.2.2.2.2.2.2.2.2.2.2.2.2.2.2.2.1) hN, fun _ => ?_⟩
    refine ⟨fun _ => law_hours hI h2 hL2 (H.2.2.2.2.2.2.2.2.2.2.2.2.2.2.2.2.2.2.2.2.2.2.2.2.2.2.1) hN, fun _ => ?_⟩
    refine ⟨fun _ => law_chance hI h2 hL2 (H.2.2.2.2.2.2.2.2.2.2.2.2.2.2.2.2.2.2.2.2.2.2.2.2.2.2.2.1) hN, fun _ => ?_⟩
    refine ⟨fun _ => law_undo hI h2 hL2 (H.2.2.2.2.2.2.2.2.2.2.2.2.2.2.2.2.2.2.2.2.2.2.2.2.2.2.2.2.1) hN, fun _ => ?_⟩
    refine ⟨fun _ => law_seed hI h2 hL2 (H.2.2.2.2.2.2.2.2.2.2.2.2.2.2.2.2.2.2.2.2.2.2.2.2.2.2.2.2.2.1) hN, fun _ => ?_⟩
    refine ⟨fun _ => law_ask hI h2 hL2 (H.2.2.2.2.2.2.2.2.2.2.2.2.2.2.2.2.2.2.2.2.2.2.2.2.2.2.2.2.2.2.1) hN, fun _ => ?_⟩
    refine ⟨fun _ => law_image hI h2 hL2 (H.2.2.2.2.2.2.2.2.2.2.2.2.2.2.2.2.2.2.2.2.2.2.2.2.2.2.2.2.2.2.2.1) hN, fun _ => ?_⟩
    refine ⟨fun _ => law_octet hI h2 hL2 (H.2.2.2.2.2.2.2.2.2.2.2.2.2.2.2.2.2.2.2.2.2.2.2.2.2.2.2.2.2.2.2.2.1) hN, fun _ => ?_⟩
    refine ⟨fun _ => law_on hI h2 hL2 (H.2.2.2.2.2.2.2.2.2.2.2.2.2.2.2.2.2.2.2.2.2.2.2.2.2.2.2.2.2.2.2.2.2.1) hN, fun _ => ?_⟩
    refine ⟨fun _ => law_status hI h2 hL2 (H.2.2.2.2.2.2.2.2.2.2.2.2.2.2.2.2.2.2.2.2.2.2.2.2.2.2.2.2.2.2.2.2.2.2) hN, fun _ => ?_⟩
    exact law_next (hN _ _ hI)
end LawE
