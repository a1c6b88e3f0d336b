/-! Rules of returns and calls. -/
theorem nbeq {a b : Nat} (h : a ≠ b) : Nat.beq a b = false := by
  cases hz : Nat.beq a b with
  | false => rfl
  | true => exact absurd (Nat.eq_of_beq_eq_true hz) h
section EvR
variable {l : Launch} {X : Cx} {d i pc tag b c e nx : Nat} {vi : Int32} {vl : Int64} {ls st : List Value} {n0 n1 n : Nat} {ρ : Rf} {σ : St} {Q : Po}
theorem ret_HR {p : Program} {s t : State} {m : MethodId} {args : Array Value} {meth : Method} {cc : Code} {H : Heap} {locs : List Loc} (C : Cxt X i p s m args meth cc) (hP : WP X n ρ σ H) (hS : va_S (xAd X) s.heap H locs) (ht : t.heap = H) (hW : s.WarmedH t.vm) : HR X n ρ σ t t.heap :=
  ⟨by rw [ht]; exact hP, va_K.moved hW.alike C.2.2.2.2.2.2.2.2.2.1, by rw [ht]; exact SR.move hW (SR.kept C.2.2.2.2.2.2.2.2.1 hS.2.1)⟩
theorem Ev_ireturn {x : Int32} {ty : FieldType} (h : opn i pc = some (100, b, c, e, nx, vi, vl)) (hr : mRet i = some ty) (hn : narrow ty (.int x) = .int x) (hnn : n = n1) (hq : Q (some (.int x)) ρ σ) : Ev l X d i pc ls [.int x] n0 n1 n ρ σ Q := by
  subst hnn
  obtain ⟨hd, rfl⟩ := plain_ok (ins0 := .ireturn) (fun _ _ => rfl) h rfl
  intro p ev s m args below meth cc H locs lsA C hP hS hL
  exact W.zret C.1 C.2.1 (C.2.2.1.trans hr) hn (fun t ht hW => ⟨⟨some (.int x), ρ, σ, rfl, hq, ret_HR C hP hS ht hW⟩, hS.F ht⟩) hS.2.2 hd C.2.2.2.2.1
theorem Ev_lreturn {x : Int64} (h : opn i pc = some (101, b, c, e, nx, vi, vl)) (hr : mRet i = some .long) (hnn : n = n1) (hq : Q (some (.long x)) ρ σ) : Ev l X d i pc ls [.long x] n0 n1 n ρ σ Q := by
  subst hnn
  obtain ⟨hd, rfl⟩ := plain_ok (ins0 := .lreturn) (fun _ _ => rfl) h rfl
  intro p ev s m args below meth cc H locs lsA C hP hS hL
  exact W.lret C.1 C.2.1 (C.2.2.1.trans hr) (fun t ht hW => ⟨⟨some (.long x), ρ, σ, rfl, hq, ret_HR C hP hS ht hW⟩, hS.F ht⟩) hS.2.2 hd C.2.2.2.2.1
theorem Ev_return (h : opn i pc = some (103, b, c, e, nx, vi, vl)) (hr : mRet i = none) (hnn : n = n1) (hq : Q none ρ σ) : Ev l X d i pc ls [] n0 n1 n ρ σ Q := by
  subst hnn
  obtain ⟨hd, rfl⟩ := plain_ok (ins0 := .return_) (fun _ _ => rfl) h rfl
  intro p ev s m args below meth cc H locs lsA C hP hS hL
  exact W.vret C.1 C.2.1 (C.2.2.1.trans hr) (fun t ht hW => ⟨⟨none, ρ, σ, rfl, hq, ret_HR C hP hS ht hW⟩, hS.F ht⟩) hS.2.2 hd C.2.2.2.2.1
/-! calls -/
def popN : Nat → List Value → List Value → Option (List Value × List Value)
  | 0, st, acc => some (acc, st)
  | k + 1, v :: st, acc => popN k st (v :: acc)
  | _ + 1, [], _ => none
theorem popN_ok : ∀ {k : Nat} {st acc as rest : List Value}, popN k st acc = some (as, rest) → ∃ bs, as = bs ++ acc ∧ bs.length = k ∧ st = bs.reverse ++ rest
  | 0, st, acc, as, rest, h => by
    cases h
    exact ⟨[], rfl, rfl, rfl⟩
  | k + 1, v :: st, acc, as, rest, h => by
    obtain ⟨bs, h1, h2, h3⟩ := popN_ok (k := k) h
    refine ⟨bs ++ [v], by rw [h1]; simp, by simp [h2], by rw [h3]; simp⟩
  | k + 1, [], acc, as, rest, h => by cases h
theorem popN_0 {k : Nat} {st as rest : List Value} (h : popN k st [] = some (as, rest)) : as.length = k ∧ st = as.reverse ++ rest := by
  obtain ⟨bs, h1, h2, h3⟩ := popN_ok h
  rw [List.append_nil] at h1
  subst h1
  exact ⟨h2, h3⟩
def catS : List Value → Nat
  | [] => 0
  | .long _ :: r => 2 + catS r
  | _ :: r => 1 + catS r
theorem catS_ge : ∀ (st : List Value), ((st.map (cv X)).map fun v => v.category).sum ≤ catS st
  | [] => Nat.le_refl 0
  | v :: r => by
    have ih := catS_ge r
    simp only [List.map_cons, List.sum_cons]
    by_cases hz : ∃ z, v = .long z
    · obtain ⟨z, rfl⟩ := hz
      have : (cv X (.long z)).category = 2 := rfl
      rw [this]
      show _ ≤ 2 + catS r
      omega
    · have h1 : (cv X v).category = 1 := cv_1 (fun z q => hz ⟨z, q⟩)
      have h2 : catS (v :: r) = 1 + catS r := by
        cases v with
        | long z => exact absurd ⟨z, rfl⟩ hz
        | _ => rfl
      rw [h1, h2]
      omega
theorem sln_le {a b : Nat} (h : a ≤ b) : sln a ≤ sln b := by
  induction h with
  | refl => exact Nat.le_refl _
  | step _ ih => exact Nat.le_trans ih (Nat.le_add_right _ _)
theorem call_ok {ins : Instr} {len : Nat} (hc : ckCall i b c e ins len = true) : len = 3 ∧ ∃ ix, ((ins = .invokevirtual ix ∧ (c = 0 ∨ c = 3)) ∨ (ins = .invokestatic ix ∧ (c = 1 ∨ c = 4 ∨ c = 8)) ∨ (ins = .invokespecial ix ∧ (c = 2 ∨ c = 5 ∨ c = 9))) ∧
    (c = 8 → Jvm.Cond.methodLink (cN (mCls i)) ix arraycopyName ∈ wg) ∧ (c = 9 → Jvm.Cond.methodLink (cN (mCls i)) ix objectInit ∈ wg) ∧
    (c < 3 → b < nM ∧ mKind b = c % 3 ∧ Jvm.Cond.methodLink (cN (mCls i)) ix (mName b) ∈ wg) ∧ (3 ≤ c → c < 6 → b < nM ∧ mKind b = c % 3 ∧ Jvm.Cond.methodLinkNest (cN (mCls i)) ix (mName b) "DeepBathing" ∈ wn) := by
  unfold ckCall at hc
  simp only [Bool.and_eq_true, Nat.blt_eq] at hc
  obtain ⟨⟨⟨⟨⟨a1, a2⟩, a3⟩, a4⟩, a5⟩, a6⟩ := hc
  have hm := List.all_eq_true.mp ckMets e (List.mem_range.mpr a2)
  have a3 := Nat.eq_of_beq_eq_true a3
  have a4 := Nat.eq_of_beq_eq_true a4
  have a5 := Nat.eq_of_beq_eq_true a5
  refine ⟨Nat.eq_of_beq_eq_true a1, (metE e).2.1, ?_, ?_⟩
  · split at a6
    · simp only [Bool.and_eq_true, Bool.or_eq_true] at a6
      exact Or.inl ⟨by rw [Nat.eq_of_beq_eq_true a6.1], a6.2.imp Nat.eq_of_beq_eq_true Nat.eq_of_beq_eq_true⟩
    · simp only [Bool.and_eq_true, Bool.or_eq_true] at a6
      refine Or.inr (Or.inl ⟨by rw [Nat.eq_of_beq_eq_true a6.1], ?_⟩)
      rcases a6.2 with (q | q) | q
      · exact Or.inl (Nat.eq_of_beq_eq_true q)
      · exact Or.inr (Or.inl (Nat.eq_of_beq_eq_true q))
      · exact Or.inr (Or.inr (Nat.eq_of_beq_eq_true q))
    · simp only [Bool.and_eq_true, Bool.or_eq_true] at a6
      refine Or.inr (Or.inr ⟨by rw [Nat.eq_of_beq_eq_true a6.1], ?_⟩)
      rcases a6.2 with (q | q) | q
      · exact Or.inl (Nat.eq_of_beq_eq_true q)
      · exact Or.inr (Or.inl (Nat.eq_of_beq_eq_true q))
      · exact Or.inr (Or.inr (Nat.eq_of_beq_eq_true q))
    · cases a6
  · clear a6
    unfold ckMet at hm
    generalize metE e = f at hm a3 a4 a5 ⊢
    obtain ⟨c0, ix, y, k, w⟩ := f
    simp only at hm a3 a4 a5 ⊢
    subst a3; subst a4; subst a5
    refine ⟨fun h8 => ?_, fun h9 => ?_, fun h3 => ?_, fun h3 h6 => ?_⟩
    · subst h8
      exact wg_mem (of_decide_eq_true hm) rfl
    · subst h9
      exact wg_mem (of_decide_eq_true hm) rfl
    · have e8 : Nat.beq k 8 = false := nbeq (by omega)
      have e9 : Nat.beq k 9 = false := nbeq (by omega)
      have e3 : Nat.blt k 3 = true := by rw [Nat.blt_eq]; exact h3
      rw [e8, e9, e3] at hm
      simp only [cond_false, cond_true, Bool.and_eq_true, Nat.blt_eq, decide_eq_true_eq] at hm
      exact ⟨hm.1.1, Nat.eq_of_beq_eq_true hm.1.2, wg_mem hm.2 rfl⟩
    · have e8 : Nat.beq k 8 = false := nbeq (by omega)
      have e9 : Nat.beq k 9 = false := nbeq (by omega)
      have e3 : Nat.blt k 3 = false := by
        cases hz : Nat.blt k 3 with
        | false => rfl
        | true => rw [Nat.blt_eq] at hz; omega
      rw [e8, e9, e3] at hm
      simp only [cond_false, cond_true, Bool.and_eq_true, Nat.blt_eq, decide_eq_true_eq] at hm
      exact ⟨hm.1.1, Nat.eq_of_beq_eq_true hm.1.2, wn_mem hm.2 rfl⟩
/-- a method's own words -/
theorem own_ok (hb : b < nM) (hcl : Nat.beq (mCls b) 11 = false) : Jvm.Cond.code (mName b) (mCode b) (mMax b) (mRet b) ∈ wg ∧ (mKind b = 1 → Jvm.Cond.static (mName b) ∈ wg) ∧ (mKind b ≠ 1 → Jvm.Cond.instanceMethod (mName b) ∈ wg) ∧ (mKind b = 0 → Jvm.Cond.selects (cN (mCls b)) (mName b) (mName b) ∈ wg) ∧ (mKind b = 2 → (mName b).name = "<init>" ∧ mRet b = none) ∧
    Jvm.Cond.initialized (cN (mCls b)) ∈ wg ∧ (mName b).cls = cN (mCls b) ∧ ((mName b).cls ≠ "java/lang/invoke/MethodHandle" ∧ (mName b).cls ≠ "java/lang/invoke/VarHandle") ∧ (parseMethodDescriptor (mName b).desc).map (fun d => d.parameters.length) = some (mArgs b) ∧ mMax b ≤ 20 := by
  have hw := mW_ok hb
  unfold ckW at hw
  rw [hcl, Bool.false_or] at hw
  simp only [Bool.and_eq_true, decide_eq_true_eq] at hw
  obtain ⟨⟨⟨⟨⟨⟨⟨⟨⟨w1, w2⟩, w3⟩, w4⟩, w5⟩, w6⟩, w7⟩, w8⟩, w9⟩, w10⟩ := hw
  have hne : b ≠ 298 := by
    rintro rfl
    exact absurd hcl (by decide)
  have w1 : wt (mW b).1 = some (Jvm.Cond.code (mName b) (mCode b) (mMax b) (mRet b)) := by
    unfold wt
    rw [w1, cond_true, code_at hb hne]
  refine ⟨wg_mem w1 rfl, fun h => ?_, fun h => ?_, fun h => ?_, fun h => ?_, wg_mem w5 rfl, w6, w8, w9, by simpa using w10⟩
  · rw [h] at w2
    exact wg_mem (of_decide_eq_true w2) rfl
  · have : Nat.beq (mKind b) 1 = false := nbeq h
    rw [this] at w2
    exact wg_mem (of_decide_eq_true w2) rfl
  · rw [h] at w3
    exact wg_mem (of_decide_eq_true w3) rfl
  · rw [h] at w4
    exact of_decide_eq_true w4
theorem WD_good (hb : b < nM) (hcl : Nat.beq (mCls b) 11 = false) : GoodIn wg (WD b) := by
  intro w hw
  rcases List.mem_cons.mp hw with rfl | hw
  · exact ⟨(own_ok hb hcl).1, good_of_word rfl⟩
  · exact ⟨hw, good_of_word (wg_good hw)⟩
theorem PC_blind (as : List Value) : FrameBlind (PC X as n ρ σ) := by
  intro a U g mk h
  exact ⟨h.1, h.2.1, va_K.moved (u := U) (U := U.calling g mk a) (Vm.Alike.refl U.vm) h.2.2.1, SR.same (u := U) (U := U.calling g mk a) rfl h.2.2.2⟩
theorem run_go {p : Program} {ev : Env} {R : Room} {s : State} {m : MethodId} {args a : Array Value} {below : List Frame} {meth : Method} {cc : Code} {H : Heap} {locs : List Loc} {cells slots mc ms n2 : Nat} {ls : Array Slot} {st0 rest : List Value} {Q' : Po} {Z : State → Prop}
    (hr : va_Run p l ev R s m args below meth cc H locs cells slots mc ms (F0 m pc ls st0) rest (QC X n2 Q' a) (xAd X)) (hS : va_S (xAd X) s.heap H locs)
    (kk : ∀ (v : Option Value) (ρ' : Rf) (σ' : St) (H1 : Heap) (locs1 : List Loc), Q' v ρ' σ' → WP X n2 ρ' σ' H1 → va_S (xAd X) s.heap H1 locs1 → W p l ev R s m args below meth cc H1 locs1 (cells + mc) (slots + ms) Z (F0 m (pc + 3) ls ((v.map (cv X)).toList ++ rest))) : W p l ev R s m args below meth cc H locs cells slots Z (F0 m pc ls st0) := by
  intro U hU XS
  obtain ⟨v, st₀, t, U', L, h0, X', hL, e1, e2, ⟨⟨v', ρ', σ', hv, hq, hH⟩, hz, hk⟩, st⟩ := hr U hU XS
  cases hv
  rw [h0] at hz hk
  obtain ⟨t2, a1, b1⟩ := kk v' ρ' σ' U'.heap (locs ++ L) hq (by rw [e1]; exact hH.1)
    ⟨Nat.le_trans hS.1 (by rw [e1]; exact hz), fun q h1 h2 => by rw [e1, hk q (Nat.lt_of_lt_of_le h1 hS.1) h2]; exact hS.2.1 q h1 h2, fun q hq => by
      rcases List.mem_append.mp hq with h | h
      · exact hS.2.2 q h
      · exact hL q h⟩ U' rfl X'
  exact ⟨t2, st t2 a1, b1⟩
theorem room_c {d' n2 : Nat} (hn : n0 ≤ n ∧ n ≤ n2 ∧ n2 ≤ n1) : (n - n0) + (n2 - n) = n2 - n0 ∧ (sln n - sln n0) + (sln n2 - sln n) = sln n2 - sln n0 ∧ (n - n0) + (n2 - n) ≤ (rmd d' n0 n1).cells ∧ (sln n - sln n0) + (sln n2 - sln n) ≤ (rmd d' n0 n1).slots := by
  obtain ⟨h1, h2, h3⟩ := hn
  have a1 := sln_le h1
  have a2 := sln_le h2
  have a3 := sln_le h3
  refine ⟨by omega, by omega, ?_, ?_⟩
  · show _ ≤ n1 - n0
    omega
  · show _ ≤ sln n1 - sln n0
    omega
theorem room_d {d' : Nat} {n2 : Nat} (hm : mMax b ≤ 20) : (rmd d' n n2).frames + 1 ≤ (rmd (d' + 1) n0 n1).frames ∧ 8 + (mMax b + 11) + (rmd d' n n2).locals ≤ (rmd (d' + 1) n0 n1).locals := by
  refine ⟨Nat.le_refl _, ?_⟩
  show 8 + (mMax b + 11) + 60 * d' ≤ 60 * (d' + 1)
  omega
theorem callB_ok {p : Program} {s : State} {m : MethodId} {args : Array Value} {meth : Method} {cc : Code} {d' n2 ix : Nat} (C : Cxt X i p s m args meth cc) (hb : b < nM) (hcl : Nat.beq (mCls b) 11 = false) (hl : Jvm.Cond.methodLink (cN (mCls i)) ix (mName b) ∈ wg) :
    CallB (rmd (d' + 1) n0 n1) s args (cN (mCls i)) ix (mName b) (mCode b) (mMax b) (mRet b) (WD b) (rmd d' n n2) (n2 - n) (sln n2 - sln n) (mArgs b) := by
  obtain ⟨w1, -, -, -, -, w6, w7, w8, w9, w10⟩ := own_ok hb hcl
  have hts := C.2.2.2.2.2.2.1
  exact callB_of (mArgs b) hts (WD_good hb hcl) rfl rfl rfl (by rw [w7]; exact hts _ w6) (hts _ hl) ⟨w8.1, w8.2, w9⟩ (room_d w10)
theorem callN_ok {p : Program} {s : State} {m : MethodId} {args : Array Value} {meth : Method} {cc : Code} {d' n2 ix : Nat} (C : Cxt X i p s m args meth cc) (hb : b < nM) (hcl : Nat.beq (mCls b) 11 = false) (hl : Jvm.Cond.methodLinkNest (cN (mCls i)) ix (mName b) "DeepBathing" ∈ wn) :
    va_CN (rmd (d' + 1) n0 n1) s args (cN (mCls i)) ix (mName b) "DeepBathing" (mCode b) (mMax b) (mRet b) (WD b) (rmd d' n n2) (n2 - n) (sln n2 - sln n) (mArgs b) := by
  obtain ⟨w1, -, -, -, -, w6, w7, w8, w9, w10⟩ := own_ok hb hcl
  have hts := C.2.2.2.2.2.2.1
  exact va_cnB (mArgs b) hts (WD_good hb hcl) rfl rfl rfl (C.2.2.2.2.2.2.2.2.1.2.2.2.2.1 _ hl) (by rw [w7]; exact hts _ w6) ⟨w8.1, w8.2, w9⟩ (room_d w10)
theorem pre_c {p : Program} {s U : State} {m : MethodId} {args : Array Value} {meth : Method} {cc : Code} {H : Heap} {locs : List Loc} (C : Cxt X i p s m args meth cc) (hP : WP X n ρ σ H) (hS : va_S (xAd X) s.heap H locs) (as : List Value) (hU : U.heap = H) (hW : s.WarmedH U.vm) : PC X as n ρ σ (as.map (cv X)).toArray U := by
  refine ⟨rfl, ?_⟩
  exact ret_HR C hP hS hU hW
theorem map_rev {as rest : List Value} : (as.reverse ++ rest).map (cv X) = (as.map (cv X)).reverse ++ rest.map (cv X) := by
  rw [List.map_append, List.map_reverse]
/-- a method of an object of the claim's own classes -/
theorem Ev_callV {k d' n2 : Nat} {as rest : List Value} {Q' : Po} (h : opn i pc = some (90, b, c, e, nx, vi, vl)) (hc0 : (Nat.beq c 0 && Nat.blt (mCls b) 11) = true) (hpop : popN (mArgs b) st [] = some (as, .ref k :: rest)) (hk : isO n k (mCls b) = true) (hcat : Nat.ble (catS rest) 8 = true) (hn : n0 ≤ n ∧ n ≤ n2 ∧ n2 ≤ n1)
    (hT : T l X d' b (.ref k :: as) n n2 ρ σ Q') (kk : ∀ v ρ' σ', Q' v ρ' σ' → Ev l X (d' + 1) i nx ls (v.toList ++ rest) n0 n1 n2 ρ' σ' Q) : Ev l X (d' + 1) i pc ls st n0 n1 n ρ σ Q := by
  obtain ⟨-, ins, len, hd, rfl, hc⟩ := op_ok h
  replace hc : ckCall i b c e ins len = true := hc
  rw [Bool.and_eq_true, Nat.blt_eq] at hc0
  have c0 := Nat.eq_of_beq_eq_true hc0.1
  subst c0
  obtain ⟨rfl, ix, hins, -, -, h3, -⟩ := call_ok hc
  obtain ⟨hb, hkd, hlk⟩ := h3 (by omega)
  have hins : ins = .invokevirtual ix := by
    rcases hins with ⟨q, -⟩ | ⟨-, q⟩ | ⟨-, q⟩
    · exact q
    · omega
    · omega
  subst hins
  obtain ⟨hlen, rfl⟩ := popN_0 hpop
  have hcl : Nat.beq (mCls b) 11 = false := nbeq (by omega)
  obtain ⟨k1, k2, k3⟩ := isO_lt hk
  obtain ⟨-, -, w3, w4, -⟩ := own_ok hb hcl
  intro p ev s m args below meth cc H locs lsA C hP hS hL
  have hts := C.2.2.2.2.2.2.1
  have he := WS_get (X := X) (ρ := ρ) (σ := σ) k1
  rw [ce_obj k2, k3] at he
  obtain ⟨r1, r2, r3, r4⟩ := room_c (d' := d' + 1) hn
  have hrun := va_runV (rest := rest.map (cv X)) (As := as.map (cv X)) (b := xB X + k) (g := F0 m pc lsA ((as.reverse ++ .ref k :: rest).map (cv X))) (cells := n - n0) (slots := sln n - sln n0) (locs := locs) (below := below) (e := ev) (meth := meth) (H := H) ⟨C.1, C.2.1, C.2.2.2.1, C.2.2.2.2.2.1, hts⟩ hT ⟨callB_ok (n0 := n0) (n1 := n1) C hb hcl hlk, hts _ (w3 (by rw [hkd]; decide)), hts _ (w4 (by rw [hkd]))⟩
    ⟨PC_blind _, va_recv C.2.2.2.2.2.2.2.2.2.1 hP.1 (cl_q _ hc0.2) he, fun U hU hW => pre_c C hP hS (.ref k :: as) hU hW⟩ rfl (by rw [List.length_map]; exact hlen) hL.1 (by show (as.reverse ++ .ref k :: rest).map (cv X) = _; rw [map_rev]; rfl) (lv_room (Nat.le_trans (catS_ge rest) (Nat.le_of_ble_eq_true hcat))) hd ⟨r3, r4⟩
  refine run_go hrun hS (fun v ρ' σ' H1 locs1 hq hP1 hS1 => ?_)
  rw [r1, r2]
  have := kk v ρ' σ' hq p ev s m args below meth cc H1 locs1 lsA C hP1 hS1 hL
  rw [List.map_append] at this
  cases v <;> exact this
/-- String's methods, of a text -/
theorem Ev_callT {q d' n2 : Nat} {as rest : List Value} {Q' : Po} (h : opn i pc = some (90, b, c, e, nx, vi, vl)) (hc0 : (Nat.beq c 0 && Nat.beq (mCls b) 12) = true) (hpop : popN (mArgs b) st [] = some (as, .retAddr (2 * q) :: rest)) (hq : q < nStr) (hcat : Nat.ble (catS rest) 8 = true) (hn : n0 ≤ n ∧ n ≤ n2 ∧ n2 ≤ n1)
    (hT : T l X d' b (.retAddr (2 * q) :: as) n n2 ρ σ Q') (kk : ∀ v ρ' σ', Q' v ρ' σ' → Ev l X (d' + 1) i nx ls (v.toList ++ rest) n0 n1 n2 ρ' σ' Q) : Ev l X (d' + 1) i pc ls st n0 n1 n ρ σ Q := by
  obtain ⟨-, ins, len, hd, rfl, hc⟩ := op_ok h
  replace hc : ckCall i b c e ins len = true := hc
  rw [Bool.and_eq_true] at hc0
  have c0 := Nat.eq_of_beq_eq_true hc0.1
  have hcb := Nat.eq_of_beq_eq_true hc0.2
  subst c0
  obtain ⟨rfl, ix, hins, -, -, h3, -⟩ := call_ok hc
  obtain ⟨hb, hkd, hlk⟩ := h3 (by omega)
  have hins : ins = .invokevirtual ix := by
    rcases hins with ⟨q, -⟩ | ⟨-, q⟩ | ⟨-, q⟩
    · exact q
    · omega
    · omega
  subst hins
  obtain ⟨hlen, rfl⟩ := popN_0 hpop
  have hcl : Nat.beq (mCls b) 11 = false := by rw [hcb]; rfl
  obtain ⟨-, -, w3, w4, -⟩ := own_ok hb hcl
  intro p ev s m args below meth cc H locs lsA C hP hS hL
  have hts := C.2.2.2.2.2.2.1
  obtain ⟨r1, r2, r3, r4⟩ := room_c (d' := d' + 1) hn
  have hE : ∃ cell : Cell, H[xK X q]? = some cell ∧ cell.vm.isStatics = false ∧ s.vm.findClass "java/lang/String" = some cell.cls := by
    obtain ⟨cell, h1, h2, h3, -⟩ := (C.2.2.2.2.2.2.2.2.1.1 q hq).1.kept hS.2.1
    exact ⟨cell, h1, h2, h3⟩
  have hcn : cN (mCls b) = "java/lang/String" := by rw [hcb]; rfl
  have hrun := va_runV (C := "java/lang/String") (rest := rest.map (cv X)) (As := as.map (cv X)) (b := xK X q) (g := F0 m pc lsA ((as.reverse ++ .retAddr (2 * q) :: rest).map (cv X))) (cells := n - n0) (slots := sln n - sln n0) (locs := locs) (below := below) (e := ev) (meth := meth) (H := H) ⟨C.1, C.2.1, C.2.2.2.1, C.2.2.2.2.2.1, hts⟩ hT ⟨callB_ok (n0 := n0) (n1 := n1) C hb hcl hlk, hts _ (w3 (by rw [hkd]; decide)), by rw [← hcn]; exact hts _ (w4 (by rw [hkd]))⟩
    ⟨PC_blind _, hE, fun U hU hW => by have := pre_c C hP hS (.retAddr (2 * q) :: as) hU hW; rwa [List.map_cons, cvK] at this⟩ rfl (by rw [List.length_map]; exact hlen) hL.1 (by show (as.reverse ++ .retAddr (2 * q) :: rest).map (cv X) = _; rw [map_rev, List.map_cons, cvK]) (lv_room (Nat.le_trans (catS_ge rest) (Nat.le_of_ble_eq_true hcat))) hd ⟨r3, r4⟩
  refine run_go hrun hS (fun v ρ' σ' H1 locs1 hq hP1 hS1 => ?_)
  rw [r1, r2]
  have := kk v ρ' σ' hq p ev s m args below meth cc H1 locs1 lsA C hP1 hS1 hL
  rw [List.map_append] at this
  cases v <;> exact this
/-- a static method -/
theorem Ev_callS {d' n2 : Nat} {as rest : List Value} {Q' : Po} (h : opn i pc = some (90, b, c, e, nx, vi, vl)) (hc0 : ((Nat.beq c 1 || Nat.beq c 4) && !(Nat.beq (mCls b) 11)) = true) (hpop : popN (mArgs b) st [] = some (as, rest)) (hcat : Nat.ble (catS rest) 8 = true) (hn : n0 ≤ n ∧ n ≤ n2 ∧ n2 ≤ n1)
    (hT : T l X d' b as n n2 ρ σ Q') (kk : ∀ v ρ' σ', Q' v ρ' σ' → Ev l X (d' + 1) i nx ls (v.toList ++ rest) n0 n1 n2 ρ' σ' Q) : Ev l X (d' + 1) i pc ls st n0 n1 n ρ σ Q := by
  obtain ⟨-, ins, len, hd, rfl, hc⟩ := op_ok h
  replace hc : ckCall i b c e ins len = true := hc
  rw [Bool.and_eq_true, Bool.or_eq_true, Bool.not_eq_true'] at hc0
  obtain ⟨c0, hcl⟩ := hc0
  have c0 := c0.imp Nat.eq_of_beq_eq_true Nat.eq_of_beq_eq_true
  obtain ⟨rfl, ix, hins, -, -, h3, h4⟩ := call_ok hc
  have hins : ins = .invokestatic ix := by
    rcases hins with ⟨-, q⟩ | ⟨q, -⟩ | ⟨-, q⟩
    · omega
    · exact q
    · omega
  subst hins
  obtain ⟨hlen, rfl⟩ := popN_0 hpop
  intro p ev s m args below meth cc H locs lsA C hP hS hL
  have hts := C.2.2.2.2.2.2.1
  obtain ⟨r1, r2, r3, r4⟩ := room_c (d' := d' + 1) hn
  have fin : ∀ (v : Option Value) (ρ' : Rf) (σ' : St) (H1 : Heap) (locs1 : List Loc), Q' v ρ' σ' → WP X n2 ρ' σ' H1 → va_S (xAd X) s.heap H1 locs1 → W p l ev (rmd (d' + 1) n0 n1) s m args below meth cc H1 locs1 ((n - n0) + (n2 - n)) ((sln n - sln n0) + (sln n2 - sln n)) (MQ below (QC X n1 Q) args s (n1 - n0) (sln n1 - sln n0) (xAd X)) (F0 m (pc + 3) lsA ((v.map (cv X)).toList ++ rest.map (cv X))) := by
    intro v ρ' σ' H1 locs1 hq hP1 hS1
    rw [r1, r2]
    have := kk v ρ' σ' hq p ev s m args below meth cc H1 locs1 lsA C hP1 hS1 hL
    rw [List.map_append] at this
    cases v <;> exact this
  rcases c0 with c0 | c0
  · obtain ⟨hb, hkd, hlk⟩ := h3 (by omega)
    have hkd : mKind b = 1 := by rw [hkd, c0]
    obtain ⟨-, w2, -⟩ := own_ok hb hcl
    have hrun := va_runS (rest := rest.map (cv X)) (As := as.map (cv X)) (g := F0 m pc lsA ((as.reverse ++ rest).map (cv X))) (cells := n - n0) (slots := sln n - sln n0) (locs := locs) (below := below) (e := ev) (meth := meth) (H := H) ⟨C.1, C.2.1, C.2.2.2.1, C.2.2.2.2.2.1, hts⟩ hT ⟨callB_ok (n0 := n0) (n1 := n1) C hb hcl hlk, hts _ (w2 hkd)⟩
      ⟨PC_blind _, fun U hU hW => pre_c C hP hS as hU hW⟩ rfl (by rw [List.length_map]; exact hlen) hL.1 (by show (as.reverse ++ rest).map (cv X) = _; rw [map_rev]) (lv_room (Nat.le_trans (catS_ge rest) (Nat.le_of_ble_eq_true hcat))) hd ⟨r3, r4⟩
    exact run_go hrun hS fin
  · obtain ⟨hb, hkd, hlk⟩ := h4 (by omega) (by omega)
    have hkd : mKind b = 1 := by rw [hkd, c0]
    obtain ⟨-, w2, -⟩ := own_ok hb hcl
    have hrun := va_runSN (rest := rest.map (cv X)) (As := as.map (cv X)) (g := F0 m pc lsA ((as.reverse ++ rest).map (cv X))) (cells := n - n0) (slots := sln n - sln n0) (locs := locs) (below := below) (e := ev) (meth := meth) (H := H) ⟨C.1, C.2.1, C.2.2.2.1, C.2.2.2.2.2.1, hts⟩ hT ⟨callN_ok (n0 := n0) (n1 := n1) C hb hcl hlk, hts _ (w2 hkd), trivial⟩
      ⟨PC_blind _, fun U hU hW => pre_c C hP hS as hU hW⟩ rfl (by rw [List.length_map]; exact hlen) hL.1 (by show (as.reverse ++ rest).map (cv X) = _; rw [map_rev]) (lv_room (Nat.le_trans (catS_ge rest) (Nat.le_of_ble_eq_true hcat))) hd ⟨r3, r4⟩
    exact run_go hrun hS fin
/-- a constructor -/
theorem Ev_callI {k d' n2 : Nat} {as rest : List Value} {Q' : Po} (h : opn i pc = some (90, b, c, e, nx, vi, vl)) (hc0 : ((Nat.beq c 2 || Nat.beq c 5) && !(Nat.beq (mCls b) 11)) = true) (hpop : popN (mArgs b) st [] = some (as, .ref k :: rest)) (hcat : Nat.ble (catS rest) 8 = true) (hn : n0 ≤ n ∧ n ≤ n2 ∧ n2 ≤ n1)
    (hT : T l X d' b (.ref k :: as) n n2 ρ σ Q') (kk : ∀ v ρ' σ', Q' v ρ' σ' → Ev l X (d' + 1) i nx ls (v.toList ++ rest) n0 n1 n2 ρ' σ' Q) : Ev l X (d' + 1) i pc ls st n0 n1 n ρ σ Q := by
  obtain ⟨-, ins, len, hd, rfl, hc⟩ := op_ok h
  replace hc : ckCall i b c e ins len = true := hc
  rw [Bool.and_eq_true, Bool.or_eq_true, Bool.not_eq_true'] at hc0
  obtain ⟨c0, hcl⟩ := hc0
  have c0 := c0.imp Nat.eq_of_beq_eq_true Nat.eq_of_beq_eq_true
  obtain ⟨rfl, ix, hins, -, -, h3, h4⟩ := call_ok hc
  have hins : ins = .invokespecial ix := by
    rcases hins with ⟨-, q⟩ | ⟨-, q⟩ | ⟨q, -⟩
    · omega
    · omega
    · exact q
  subst hins
  obtain ⟨hlen, rfl⟩ := popN_0 hpop
  intro p ev s m args below meth cc H locs lsA C hP hS hL
  have hts := C.2.2.2.2.2.2.1
  obtain ⟨r1, r2, r3, r4⟩ := room_c (d' := d' + 1) hn
  have fin : ∀ (v : Option Value) (ρ' : Rf) (σ' : St) (H1 : Heap) (locs1 : List Loc), Q' v ρ' σ' → WP X n2 ρ' σ' H1 → va_S (xAd X) s.heap H1 locs1 → W p l ev (rmd (d' + 1) n0 n1) s m args below meth cc H1 locs1 ((n - n0) + (n2 - n)) ((sln n - sln n0) + (sln n2 - sln n)) (MQ below (QC X n1 Q) args s (n1 - n0) (sln n1 - sln n0) (xAd X)) (F0 m (pc + 3) lsA ((v.map (cv X)).toList ++ rest.map (cv X))) := by
    intro v ρ' σ' H1 locs1 hq hP1 hS1
    rw [r1, r2]
    have := kk v ρ' σ' hq p ev s m args below meth cc H1 locs1 lsA C hP1 hS1 hL
    rw [List.map_append] at this
    cases v <;> exact this
  rcases c0 with c0 | c0
  · obtain ⟨hb, hkd, hlk⟩ := h3 (by omega)
    have hkd : mKind b = 2 := by rw [hkd, c0]
    obtain ⟨-, -, w3, -, w5, -⟩ := own_ok hb hcl
    have hB := callB_ok (n := n) (n0 := n0) (n1 := n1) (d' := d') (n2 := n2) C hb hcl hlk
    rw [(w5 hkd).2] at hB
    have hrun := va_runI (b := xB X + k) (rest := rest.map (cv X)) (As := as.map (cv X)) (g := F0 m pc lsA ((as.reverse ++ .ref k :: rest).map (cv X))) (cells := n - n0) (slots := sln n - sln n0) (locs := locs) (below := below) (e := ev) (meth := meth) (H := H) ⟨C.1, C.2.1, C.2.2.2.1, C.2.2.2.2.2.1, hts⟩ hT ⟨hB, (w5 hkd).1, hts _ (w3 (by rw [hkd]; decide))⟩
      ⟨PC_blind _, fun U hU hW => pre_c C hP hS (.ref k :: as) hU hW⟩ rfl (by rw [List.length_map]; exact hlen) hL.1 (by show (as.reverse ++ .ref k :: rest).map (cv X) = _; rw [map_rev]; rfl) (lv_room (Nat.le_trans (catS_ge rest) (Nat.le_of_ble_eq_true hcat))) hd ⟨r3, r4⟩
    exact run_go hrun hS fin
  · obtain ⟨hb, hkd, hlk⟩ := h4 (by omega) (by omega)
    have hkd : mKind b = 2 := by rw [hkd, c0]
    obtain ⟨-, -, w3, -, w5, -⟩ := own_ok hb hcl
    have hB := callN_ok (n := n) (n0 := n0) (n1 := n1) (d' := d') (n2 := n2) C hb hcl hlk
    rw [(w5 hkd).2] at hB
    have hrun := va_runIN (b := xB X + k) (rest := rest.map (cv X)) (As := as.map (cv X)) (g := F0 m pc lsA ((as.reverse ++ .ref k :: rest).map (cv X))) (cells := n - n0) (slots := sln n - sln n0) (locs := locs) (below := below) (e := ev) (meth := meth) (H := H) ⟨C.1, C.2.1, C.2.2.2.1, C.2.2.2.2.2.1, hts⟩ hT ⟨hB, (w5 hkd).1, hts _ (w3 (by rw [hkd]; decide))⟩
      ⟨PC_blind _, fun U hU hW => pre_c C hP hS (.ref k :: as) hU hW⟩ rfl (by rw [List.length_map]; exact hlen) hL.1 (by show (as.reverse ++ .ref k :: rest).map (cv X) = _; rw [map_rev]; rfl) (lv_room (Nat.le_trans (catS_ge rest) (Nat.le_of_ble_eq_true hcat))) hd ⟨r3, r4⟩
    exact run_go hrun hS fin
end EvR
