theorem ck_of {a n : Nat} (h : ckMs a n = true) {i : Nat} (h1 : a ≤ i) (h2 : i < a + n) : ckM i = true := by
  have := List.all_eq_true.mp h (i - a) (List.mem_range.mpr (by omega))
  rwa [Nat.add_sub_cancel' h1] at this
theorem ck_all {i : Nat} (h : i < 312) : ckM i = true := by
  by_cases h0 : i < 18
  · exact ck_of ck_0 (by omega) (by omega)
  by_cases h1 : i < 31
  · exact ck_of ck_1 (by omega) (by omega)
  by_cases h2 : i < 52
  · exact ck_of ck_2 (by omega) (by omega)
  by_cases h3 : i < 73
  · exact ck_of ck_3 (by omega) (by omega)
  by_cases h4 : i < 96
  · exact ck_of ck_4 (by omega) (by omega)
  by_cases h5 : i < 112
  · exact ck_of ck_5 (by omega) (by omega)
  by_cases h6 : i < 137
  · exact ck_of ck_6 (by omega) (by omega)
  by_cases h7 : i < 162
  · exact ck_of ck_7 (by omega) (by omega)
  by_cases h8 : i < 163
  · have : i = 162 := by omega
    subst this
    exact cM_162
  by_cases h9 : i < 182
  · exact ck_of ck_9 (by omega) (by omega)
  by_cases h10 : i < 204
  · exact ck_of ck_10 (by omega) (by omega)
  by_cases h11 : i < 225
  · exact ck_of ck_11 (by omega) (by omega)
  by_cases h12 : i < 243
  · exact ck_of ck_12 (by omega) (by omega)
  by_cases h13 : i < 263
  · exact ck_of ck_13 (by omega) (by omega)
  by_cases h14 : i < 277
  · exact ck_of ck_14 (by omega) (by omega)
  by_cases h15 : i < 290
  · exact ck_of ck_15 (by omega) (by omega)
  by_cases h16 : i < 298
  · exact ck_of ck_16 (by omega) (by omega)
  by_cases h17 : i < 299
  · have : i = 298 := by omega
    subst this
    exact cM_298
  · exact ck_of ck_18 (by omega) (by omega)
/-- an instruction of the tables is that of the code -/
theorem op_ok {i pc tag b c e nx : Nat} {vi : Int32} {vl : Int64} (h : opn i pc = some (tag, b, c, e, nx, vi, vl)) : i < nM ∧ ∃ ins len, decode (mCode i) pc = .ok (ins, len) ∧ nx = pc + len ∧ ckI i pc tag b c e vi vl ins len = true := by
  unfold opn at h
  cases h1 : Nat.blt i nM with
  | false => rw [h1] at h; cases h
  | true =>
    rw [h1] at h
    cases h2 : Nat.blt pc (mLen i) with
    | false => rw [h2] at h; cases h
    | true =>
      rw [h2] at h
      have hi : i < nM := by simpa using h1
      have hp : pc < mLen i := by simpa using h2
      refine ⟨hi, ?_⟩
      have hk := List.all_eq_true.mp (ck_all (i := i) hi) pc (List.mem_range.mpr hp)
      have h : opT i pc = some (tag, b, c, e, nx, vi, vl) := h
      unfold ckOp at hk
      rw [h] at hk
      cases hd : decode (mCode i) pc with
      | error x => rw [hd] at hk; cases hk
      | ok r =>
        obtain ⟨ins, len⟩ := r
        rw [hd] at hk
        have hk : (Nat.beq nx (pc + len) && ckI i pc tag b c e vi vl ins len) = true := hk
        rw [Bool.and_eq_true] at hk
        exact ⟨ins, len, rfl, Nat.eq_of_beq_eq_true hk.1, hk.2⟩
/-! links -/
def ckFld (r : Nat) : Bool := match fldE r with
  | (c, n, q, j, z, w) => Nat.blt q 11 && Nat.blt j (cF q) && decide ((cT q j).1 = cN q) && (bif Nat.beq z 0 then decide (wt w = some (Jvm.Cond.fieldLink (cN c) n (cN q) (cT q j).2.1 (cT q j).2.2.1)) else decide (wt w = some (Jvm.Cond.fieldLinkNest (cN c) n (cN q) (cT q j).2.1 (cT q j).2.2.1 "DeepBathing")))
theorem ckFlds : (List.range nFld).all ckFld = true := by decide +kernel
def ckMet (r : Nat) : Bool := match metE r with
  | (c, n, y, k, w) => bif Nat.beq k 8 then decide (wt w = some (Jvm.Cond.methodLink (cN c) n arraycopyName))
    else bif Nat.beq k 9 then decide (wt w = some (Jvm.Cond.methodLink (cN c) n objectInit))
    else Nat.blt y nM && Nat.beq (mKind y) (k % 3) && (bif Nat.blt k 3 then decide (wt w = some (Jvm.Cond.methodLink (cN c) n (mName y))) else decide (wt w = some (Jvm.Cond.methodLinkNest (cN c) n (mName y) "DeepBathing")))
theorem ckMets : (List.range nMet).all ckMet = true := by decide +kernel
/-- a method's own words -/
def ckW (i : Nat) : Bool := Nat.beq (mCls i) 11 || (Nat.blt (mW i).1 nW &&
  (bif Nat.beq (mKind i) 1 then decide (wt (mW i).2.1 = some (Jvm.Cond.static (mName i))) else decide (wt (mW i).2.1 = some (Jvm.Cond.instanceMethod (mName i)))) &&
  (bif Nat.beq (mKind i) 0 then decide (wt (mW i).2.2.1 = some (Jvm.Cond.selects (cN (mCls i)) (mName i) (mName i))) else true) &&
  (bif Nat.beq (mKind i) 2 then decide ((mName i).name = "<init>" ∧ mRet i = none) else true) &&
  decide (wt (mW i).2.2.2 = some (Jvm.Cond.initialized (cN (mCls i)))) && decide ((mName i).cls = cN (mCls i)) && plainFor (mName i) &&
  decide ((mName i).cls ≠ "java/lang/invoke/MethodHandle" ∧ (mName i).cls ≠ "java/lang/invoke/VarHandle") && decide ((parseMethodDescriptor (mName i).desc).map (fun d => d.parameters.length) = some (mArgs i)) && Nat.ble (mMax i) 20)
set_option maxRecDepth 100000 in
theorem code_a : (List.range 298).map (fun i => wt0 (mW i).1) = (List.range 298).map (fun i => Jvm.Cond.code (mName i) (mCode i) (mMax i) (mRet i)) := rfl
set_option maxRecDepth 100000 in
theorem code_b : (List.range 13).map (fun i => wt0 (mW (299 + i)).1) = (List.range 13).map (fun i => Jvm.Cond.code (mName (299 + i)) (mCode (299 + i)) (mMax (299 + i)) (mRet (299 + i))) := rfl
theorem code_at {i : Nat} (h : i < nM) (h2 : i ≠ 298) : wt0 (mW i).1 = Jvm.Cond.code (mName i) (mCode i) (mMax i) (mRet i) := by
  have hi : i < 312 := h
  by_cases h1 : i < 298
  · have := congrArg (fun z => z[i]?) code_a
    simp only [List.getElem?_map, List.getElem?_range h1, Option.map_some, Option.some.injEq] at this
    exact this
  · have h3 : i - 299 < 13 := by omega
    have := congrArg (fun z => z[i - 299]?) code_b
    simp only [List.getElem?_map, List.getElem?_range h3, Option.map_some, Option.some.injEq] at this
    rwa [show 299 + (i - 299) = i by omega] at this
theorem ckWs : (List.range nM).all ckW = true := by decide +kernel
def ckStrW (i : Nat) : Bool := decide (wt (strE i).2.2.2 = some (Jvm.Cond.stringRef (cN (strE i).1) (strE i).2.1 (strE i).2.2.1))
theorem ckStrs : (List.range nStr).all ckStrW = true := by decide +kernel
/-- the words that stay what they are while the machine runs -/
def wg : List Jvm.Cond := lw_tbl.filter goodWord
theorem wg_mem {i : Nat} {w : Jvm.Cond} (h : wt i = some w) (hg : goodWord w = true) : w ∈ wg := List.mem_filter.mpr ⟨wt_mem h, hg⟩
theorem wg_good {w : Jvm.Cond} (h : w ∈ wg) : goodWord w = true := (List.mem_filter.mp h).2
def ckU (q : Nat) : Bool := (List.range (cF q)).all (fun j => decide (wt (uI q j) = some (u_lay (cN q) (cT q) j)) && goodWord (u_lay (cN q) (cT q) j))
theorem ckUs : (List.range 11).all ckU = true := by decide +kernel
theorem in_u (q : Nat) (hq : q < 11) : ∀ w ∈ u_ws (cN q) (cT q) (cF q), w ∈ wg := by
  intro w hw
  unfold u_ws at hw
  obtain ⟨j, hj, rfl⟩ := List.mem_map.mp hw
  have h1 := List.all_eq_true.mp ckUs q (List.mem_range.mpr hq)
  have h2 := List.all_eq_true.mp h1 j hj
  rw [Bool.and_eq_true, decide_eq_true_eq] at h2
  exact wg_mem h2.1 h2.2
theorem nm_q : ∀ q, q < 11 → ∀ a, a < cF q → ∀ b, b < cF q → a ≠ b → (cT q a).2.1 ≠ (cT q b).2.1 := by decide +kernel
theorem ty_q : ∀ q, q < 11 → ∀ k, k < cF q → parseFieldDescriptor (cT q k).2.2.1 = some (cTy q k) := by decide +kernel
theorem fk_q : ∀ q, q < 11 → ∀ k, k < cF q → (match cTy q k with | .long => 1 | .object _ => 2 | .array _ => 2 | _ => 0) = fk q k := by decide +kernel
theorem cl_q : ∀ q, q < 11 → vwCl[q]? = some (cN q, cT q, cF q)
  | 0, _ => rfl | 1, _ => rfl | 2, _ => rfl | 3, _ => rfl | 4, _ => rfl | 5, _ => rfl | 6, _ => rfl | 7, _ => rfl | 8, _ => rfl | 9, _ => rfl | 10, _ => rfl
  | n + 11, h => absurd h (by omega)
