/-! Rules of the instructions that read and write cells. -/
def isO (n k q : Nat) : Bool := Nat.blt k n && Nat.beq (shp k).1 (10 + q) && Nat.beq (shp k).2 (cF q)
def isA (n k t : Nat) : Bool := Nat.blt k n && Nat.beq (shp k).1 t
def sI (σ : St) (k : Nat) (f : Nat → Int32) : St := (fun q => if q = k then f else σ.1 q, σ.2)
def sL (σ : St) (k : Nat) (f : Nat → Int64) : St := (σ.1, fun q => if q = k then f else σ.2 q)
def sR (ρ : Rf) (k : Nat) (f : Nat → Option Nat) : Rf := fun q => if q = k then f else ρ q
theorem sI_1 (σ : St) (k : Nat) (f : Nat → Int32) (q : Nat) : (sI σ k f).1 q = if q = k then f else σ.1 q := rfl
theorem sI_2 (σ : St) (k : Nat) (f : Nat → Int32) (q : Nat) : (sI σ k f).2 q = σ.2 q := rfl
theorem sL_1 (σ : St) (k : Nat) (f : Nat → Int64) (q : Nat) : (sL σ k f).1 q = σ.1 q := rfl
theorem sL_2 (σ : St) (k : Nat) (f : Nat → Int64) (q : Nat) : (sL σ k f).2 q = if q = k then f else σ.2 q := rfl
theorem isO_lt {n k q : Nat} (h : isO n k q = true) : k < n ∧ (shp k).1 = 10 + q ∧ (shp k).2 = cF q := by
  unfold isO at h
  simp only [Bool.and_eq_true, Nat.blt_eq] at h
  exact ⟨h.1.1, Nat.eq_of_beq_eq_true h.1.2, Nat.eq_of_beq_eq_true h.2⟩
theorem isA_lt {n k t : Nat} (h : isA n k t = true) : k < n ∧ (shp k).1 = t := by
  unfold isA at h
  simp only [Bool.and_eq_true, Nat.blt_eq] at h
  exact ⟨h.1, Nat.eq_of_beq_eq_true h.2⟩
theorem fv_congr {X : Cx} {ρ ρ' : Rf} {σ σ' : St} {k q j : Nat} (h1 : σ.1 k j = σ'.1 k j) (h2 : σ.2 k j = σ'.2 k j) (h3 : ρ k j = ρ' k j) : fv X ρ σ k q j = fv X ρ' σ' k q j := by
  unfold fv
  rw [h1, h2, h3]
theorem ce_congr {X : Cx} {ρ ρ' : Rf} {σ σ' : St} {k : Nat} {s : Nat × Nat} (h1 : σ.1 k = σ'.1 k) (h2 : σ.2 k = σ'.2 k) (h3 : ρ k = ρ' k) : ce X ρ σ k s = ce X ρ' σ' k s := by
  have hf : ∀ q, fv X ρ σ k q = fv X ρ' σ' k q := fun q => funext fun j => fv_congr (by rw [h1]) (by rw [h2]) (by rw [h3])
  unfold ce
  rw [h1, h2, h3]
  simp only [hf]
theorem ce_obj {X : Cx} {ρ : Rf} {σ : St} {k q : Nat} (h : (shp k).1 = 10 + q) : ce X ρ σ k (shp k) = .inr (q, (List.range (shp k).2).map (fv X ρ σ k q)) := by
  unfold ce
  have e : (shp k).1 - 10 = q := by omega
  split <;> first | omega | (rw [e])
theorem fs_get {X : Cx} {ρ : Rf} {σ : St} {k q j N : Nat} (h : j < N) : ((List.range N).map (fv X ρ σ k q))[j]? = some (fv X ρ σ k q j) := by
  rw [List.getElem?_map, List.getElem?_range h]
  rfl
theorem fs_set {X : Cx} {ρ ρ' : Rf} {σ σ' : St} {k q j N : Nat} {v : Value} (hv : fv X ρ' σ' k q j = v) (ho : ∀ i, i ≠ j → fv X ρ' σ' k q i = fv X ρ σ k q i) : ((List.range N).map (fv X ρ σ k q)).set j v = (List.range N).map (fv X ρ' σ' k q) := by
  apply List.ext_getElem?
  intro i
  rw [List.getElem?_set, List.getElem?_map, List.getElem?_map, List.length_map, List.length_range]
  by_cases hi : j = i
  · subst hi
    rw [if_pos rfl]
    by_cases hj : j < N
    · rw [if_pos hj, List.getElem?_range hj, Option.map_some, hv]
    · rw [if_neg hj, List.getElem?_eq_none (by rw [List.length_range]; omega)]
      rfl
  · rw [if_neg hi]
    by_cases hj : i < N
    · rw [List.getElem?_range hj, Option.map_some, Option.map_some, ho i (fun z => hi z.symm)]
    · rw [List.getElem?_eq_none (by rw [List.length_range]; omega)]
      rfl
section EvH
variable {l : Launch} {X : Cx} {d i pc tag b c e nx : Nat} {vi : Int32} {vl : Int64} {ls st : List Value} {n0 n1 n : Nat} {ρ : Rf} {σ : St} {Q : Po}
/-- what the tables say of a field that is read or written -/
theorem fld_ok {r : Nat} (hr : r < nFld) (h1 : (fldE r).2.2.1 = b) (h2 : (fldE r).2.2.2.1 = c) : b < 11 ∧ c < cF b ∧ (cT b c).1 = cN b ∧ (Nat.beq (fldE r).2.2.2.2.1 0 = true ∧ Jvm.Cond.fieldLink (cN (fldE r).1) (fldE r).2.1 (cN b) (cT b c).2.1 (cT b c).2.2.1 ∈ wg ∨ Nat.beq (fldE r).2.2.2.2.1 0 = false ∧ Jvm.Cond.fieldLinkNest (cN (fldE r).1) (fldE r).2.1 (cN b) (cT b c).2.1 (cT b c).2.2.1 "DeepBathing" ∈ wn) := by
  have h := List.all_eq_true.mp ckFlds r (List.mem_range.mpr hr)
  unfold ckFld at h
  generalize fldE r = f at h h1 h2 ⊢
  obtain ⟨c0, n0, q, j, z, w⟩ := f
  simp only at h h1 h2 ⊢
  subst h1; subst h2
  simp only [Bool.and_eq_true, Nat.blt_eq, decide_eq_true_eq] at h
  obtain ⟨⟨⟨a1, a2⟩, a3⟩, a4⟩ := h
  refine ⟨a1, a2, a3, ?_⟩
  cases hz : Nat.beq z 0 with
  | true =>
    rw [hz] at a4
    exact Or.inl ⟨rfl, wg_mem (of_decide_eq_true a4) rfl⟩
  | false =>
    rw [hz] at a4
    exact Or.inr ⟨rfl, wn_mem (of_decide_eq_true a4) rfl⟩
theorem get_ok {k0 : Nat} {ins : Instr} {len : Nat} (hc : ckGet i k0 b c e ins len = true) : ∃ ix, ins = .getfield ix ∧ len = 3 ∧ fk b c = k0 ∧ b < 11 ∧ c < cF b ∧ (cT b c).1 = cN b ∧ (Nat.beq (fldE e).2.2.2.2.1 0 = true ∧ Jvm.Cond.fieldLink (cN (mCls i)) ix (cN b) (cT b c).2.1 (cT b c).2.2.1 ∈ wg ∨ Nat.beq (fldE e).2.2.2.2.1 0 = false ∧ Jvm.Cond.fieldLinkNest (cN (mCls i)) ix (cN b) (cT b c).2.1 (cT b c).2.2.1 "DeepBathing" ∈ wn) := by
  unfold ckGet at hc
  split at hc
  · rename_i ix
    simp only [Bool.and_eq_true, Nat.blt_eq] at hc
    obtain ⟨⟨⟨⟨⟨⟨a1, a2⟩, a3⟩, a4⟩, a5⟩, a6⟩, a7⟩ := hc
    obtain ⟨q1, q2, q3, q4⟩ := fld_ok a2 (Nat.eq_of_beq_eq_true a5) (Nat.eq_of_beq_eq_true a6)
    rw [Nat.eq_of_beq_eq_true a3, Nat.eq_of_beq_eq_true a4] at q4
    exact ⟨ix, rfl, Nat.eq_of_beq_eq_true a1, Nat.eq_of_beq_eq_true a7, q1, q2, q3, q4⟩
  · cases hc
theorem put_ok {k0 : Nat} {ins : Instr} {len : Nat} (hc : ckPut i k0 b c e ins len = true) : ∃ ix, ins = .putfield ix ∧ len = 3 ∧ fk b c = k0 ∧ b < 11 ∧ c < cF b ∧ (cT b c).1 = cN b ∧ (Nat.beq (fldE e).2.2.2.2.1 0 = true ∧ Jvm.Cond.fieldLink (cN (mCls i)) ix (cN b) (cT b c).2.1 (cT b c).2.2.1 ∈ wg ∨ Nat.beq (fldE e).2.2.2.2.1 0 = false ∧ Jvm.Cond.fieldLinkNest (cN (mCls i)) ix (cN b) (cT b c).2.1 (cT b c).2.2.1 "DeepBathing" ∈ wn) := by
  unfold ckPut at hc
  split at hc
  · rename_i ix
    simp only [Bool.and_eq_true, Nat.blt_eq] at hc
    obtain ⟨⟨⟨⟨⟨⟨a1, a2⟩, a3⟩, a4⟩, a5⟩, a6⟩, a7⟩ := hc
    obtain ⟨q1, q2, q3, q4⟩ := fld_ok a2 (Nat.eq_of_beq_eq_true a5) (Nat.eq_of_beq_eq_true a6)
    rw [Nat.eq_of_beq_eq_true a3, Nat.eq_of_beq_eq_true a4] at q4
    exact ⟨ix, rfl, Nat.eq_of_beq_eq_true a1, Nat.eq_of_beq_eq_true a7, q1, q2, q3, q4⟩
  · cases hc
/-- a field is read: v is what it holds -/
theorem Ev_get {k0 k : Nat} {v : Value} {len : Nat} {ins : Instr} (hd : decode (mCode i) pc = .ok (ins, len)) (hc : ckGet i k0 b c e ins len = true) (hk : isO n k b = true) (hv : fv X ρ σ k b c = cv X v) (kk : Ev l X d i (pc + len) ls (v :: st) n0 n1 n ρ σ Q) : Ev l X d i pc ls (.ref k :: st) n0 n1 n ρ σ Q := by
  obtain ⟨ix, rfl, rfl, -, hb, hcf, hT, hw⟩ := get_ok hc
  obtain ⟨k1, k2, k3⟩ := isO_lt hk
  intro p ev s m args below meth cc H locs lsA C hP hS hL
  have hkk := kk p ev s m args below meth cc H locs lsA C hP hS hL
  have he := WS_get (X := X) (ρ := ρ) (σ := σ) k1
  rw [ce_obj k2, k3] at he
  have hfs : ((List.range (cF b)).map (fv X ρ σ k b))[c]? = some (cv X v) := by rw [fs_get hcf, hv]
  rcases hw with hw | hw
  · exact va_get C.1 C.2.1 C.2.2.2.2.2.2.1 (in_u b hb) C.2.2.2.2.2.1 C.2.2.2.2.2.2.2.2.2.1 hP.1 k he (cl_q b hb) c hcf (C.2.2.2.2.2.2.1 _ hw.2) (fun x hx => by rw [hT] at hx; exact hx) hfs hd hkk
  · exact va_getN C.1 C.2.1 C.2.2.2.2.2.2.1 (in_u b hb) C.2.2.2.2.2.1 C.2.2.2.2.2.2.2.2.2.1 hP.1 k he (cl_q b hb) c hcf (va_Nw.use rfl (C.2.2.2.2.2.2.2.2.1.2.2.2.2.1 _ hw.2)) (fun x hx => by rw [hT] at hx; exact hx) hfs hd hkk
theorem Ev_getI {k : Nat} (h : opn i pc = some (60, b, c, e, nx, vi, vl)) (hk : isO n k b = true) (kk : Ev l X d i nx ls (.int (σ.1 k c) :: st) n0 n1 n ρ σ Q) : Ev l X d i pc ls (.ref k :: st) n0 n1 n ρ σ Q := by
  obtain ⟨-, ins, len, hd, rfl, hc⟩ := op_ok h
  replace hc : ckGet i 0 b c e ins len = true := hc
  obtain ⟨-, -, -, hf, -⟩ := get_ok hc
  exact Ev_get hd hc hk (by unfold fv; rw [hf]; rfl) kk
theorem Ev_getL {k : Nat} (h : opn i pc = some (61, b, c, e, nx, vi, vl)) (hk : isO n k b = true) (kk : Ev l X d i nx ls (.long (σ.2 k c) :: st) n0 n1 n ρ σ Q) : Ev l X d i pc ls (.ref k :: st) n0 n1 n ρ σ Q := by
  obtain ⟨-, ins, len, hd, rfl, hc⟩ := op_ok h
  replace hc : ckGet i 1 b c e ins len = true := hc
  obtain ⟨-, -, -, hf, -⟩ := get_ok hc
  exact Ev_get hd hc hk (by unfold fv; rw [hf]; rfl) kk
theorem Ev_getR {k k' : Nat} (h : opn i pc = some (62, b, c, e, nx, vi, vl)) (hk : isO n k b = true) (hr : ρ k c = some k') (kk : Ev l X d i nx ls (.ref k' :: st) n0 n1 n ρ σ Q) : Ev l X d i pc ls (.ref k :: st) n0 n1 n ρ σ Q := by
  obtain ⟨-, ins, len, hd, rfl, hc⟩ := op_ok h
  replace hc : ckGet i 2 b c e ins len = true := hc
  obtain ⟨-, -, -, hf, -⟩ := get_ok hc
  exact Ev_get hd hc hk (by unfold fv; rw [hf, hr]; rfl) kk
/-- a field is written -/
theorem Ev_put {k0 k : Nat} {v : Value} {ρ' : Rf} {σ' : St} {len : Nat} {ins : Instr} (hd : decode (mCode i) pc = .ok (ins, len)) (hc : ckPut i k0 b c e ins len = true) (hk : isO n k b = true) (hn : narrow (cTy b c) (cv X v) = cv X v ∧ fits (cTy b c) (cv X v) = true)
    (hfin : (cT b c).2.2.2 = false ∨ (mKind i = 2 ∧ mCls i = b ∧ Nat.beq (fldE e).2.2.2.2.1 0 = true)) (hv : fv X ρ' σ' k b c = cv X v) (ho1 : ∀ j, j ≠ c → fv X ρ' σ' k b j = fv X ρ σ k b j) (ho2 : ∀ q, q ≠ k → ce X ρ' σ' q (shp q) = ce X ρ σ q (shp q))
    (kk : Ev l X d i (pc + len) ls st n0 n1 n ρ' σ' Q) : Ev l X d i pc ls (v :: .ref k :: st) n0 n1 n ρ σ Q := by
  obtain ⟨ix, rfl, rfl, -, hb, hcf, hT, hw⟩ := put_ok hc
  obtain ⟨k1, k2, k3⟩ := isO_lt hk
  intro p ev s m args below meth cc H locs lsA C hP hS hL
  have he := WS_get (X := X) (ρ := ρ) (σ := σ) k1
  rw [ce_obj k2, k3] at he
  have hset : (WS X n ρ σ).set k (xB X + k, .inr (b, ((List.range (cF b)).map (fv X ρ σ k b)).set c (cv X v))) = WS X n ρ' σ' := by
    refine WS_set ?_ ho2
    rw [ce_obj k2, k3, fs_set hv ho1]
  have hl : c < ((List.range (cF b)).map (fv X ρ σ k b)).length := by rw [List.length_map, List.length_range]; exact hcf
  have hlnk : ∀ w ∈ wg, w.before args s = true := C.2.2.2.2.2.2.1
  have hK := C.2.2.2.2.2.2.2.2.2.1
  have hcl := cl_q b hb
  have hty := ty_q b hb
  have hap := va_apart (own := cN (mCls i)) hlnk (in_u b hb) (cTy b) hty (nm_q b hb) hK hcl
  have hD := WS_D X n ρ σ
  obtain ⟨r, h1, cell, q1, q2, q3, q4⟩ := hP.1 k _ he
  have hr : r = (cN b, cT b, cF b) := Option.some.inj (h1.symm.trans hcl)
  subst hr
  obtain ⟨hSl, hfc, kC, hkC, hkind⟩ := hK.1 b _ hcl
  obtain ⟨cf, kf, fi, f, hi, hsl⟩ := hSl c hcf
  have hlay := hlnk _ (in_u b hb _ (u_in_lay hcf))
  unfold u_lay at hlay
  have hst := (u_facts hfc hkC (u_lays hlnk (in_u b hb) hcf) hi).1
  have hsame : s.fieldFound? (cN b) (cT b c).2.1 (cT b c).2.2.1 = some (cf, kf, fi, f) := by rw [← hT]; exact hi
  have go : ∀ (H1 : Heap), H1[xB X + k]? = some (cell.setSlot f.slot (cv X v)) → H1.size = H.size → (∀ q, q ≠ xB X + k → H1[q]? = H[q]?) →
      W p l ev (rmd d n0 n1) s m args below meth cc H1 (locs ++ [⟨xB X + k, f.slot⟩]) (n - n0) (sln n - sln n0) (MQ below (QC X n1 Q) args s (n1 - n0) (sln n1 - sln n0) (xAd X)) (F0 m (pc + 3) lsA (st.map (cv X))) := by
    intro H1 e1 e2 e3
    rw [hsl] at e1
    have hP1 := hP.1.set hD he (e := .inr (b, ((List.range (cF b)).map (fv X ρ σ k b)).set c (cv X v))) ⟨_, hcl, t_OB.to (V := updV (vp_V ((List.range (cF b)).map (fv X ρ σ k b))) c (cv X v)) ⟨_, e1, q2, q3, t_set q4 hap hcf (cv X v)⟩ (fun j _ => vp_updV_set hl (cv X v) j)⟩ e3
    rw [hset] at hP1
    exact kk p ev s m args below meth cc H1 _ lsA C ⟨hP1, e2.trans hP.2⟩ (hS.put e2 e3 (Nat.le_add_right _ _)) hL
  by_cases hfn : (cT b c).2.2.2 = true
  · rcases hfin with hfin | ⟨g1, g2, g3⟩
    · rw [hfin] at hfn; cases hfn
    · rw [if_pos hfn] at hlay
      rcases hw with hw | hw
      · have hcf2 : m.cls = cf := by
          obtain ⟨_, _, c', _, _, _, -, -, hf', -, -, -, hown2, -⟩ := Cond.laysFinal_spec hlay
          have e1 : c' = cf := by have := hi.symm.trans hf'; simp at this; exact this.1.symm
          rw [hT, ← g2] at hown2
          rw [← e1]; exact Option.some.inj (C.2.2.2.2.2.1.symm.trans hown2)
        have h6 := u_fits hfc hkC hkind (Or.inr hlay) hi (hty c hcf) hn.1 hn.2
        exact W.putFinK C.1 C.2.1 C.2.2.2.2.2.1 (hlnk _ hw.2) hsame hst hcf2 (C.2.2.2.2.2.2.2.1 g1) (by rw [q2]; exact h6) q1 q3 (by rw [hsl]; exact k2_hasslot (q4 c hcf)) rfl rfl hd go
      · rw [g3] at hw; cases hw.1
  · rw [if_neg hfn] at hlay
    have h6 := u_store hfc hkC hkind hlay hi (hty c hcf) hn.1 hn.2
    rcases hw with hw | hw
    · exact W.putK C.1 C.2.1 (f := f) ⟨C.2.2.2.2.2.1, hlnk _ hw.2, ⟨_, _, _, hsame⟩, hst⟩ (by rw [q2]; exact h6) q1 q3 (by rw [hsl]; exact k2_hasslot (q4 c hcf)) rfl rfl hd go
    · exact va_WputK C.1 C.2.1 C.2.2.2.2.2.1 (va_Nw.use rfl (C.2.2.2.2.2.2.2.2.1.2.2.2.2.1 _ hw.2)) hsame hst (by rw [q2]; exact h6) q1 q3 (by rw [hsl]; exact k2_hasslot (q4 c hcf)) rfl rfl hd go
theorem Ev_putI {k : Nat} {x : Int32} (h : opn i pc = some (63, b, c, e, nx, vi, vl)) (hk : isO n k b = true) (hn : narrow (cTy b c) (.int x) = .int x ∧ fits (cTy b c) (.int x) = true) (hf : (cT b c).2.2.2 = false)
    (kk : Ev l X d i nx ls st n0 n1 n ρ (sI σ k (upd (σ.1 k) c x)) Q) : Ev l X d i pc ls (.int x :: .ref k :: st) n0 n1 n ρ σ Q := by
  obtain ⟨-, ins, len, hd, rfl, hc⟩ := op_ok h
  replace hc : ckPut i 0 b c e ins len = true := hc
  obtain ⟨-, -, -, hf2, -⟩ := put_ok hc
  refine Ev_put (v := .int x) (ρ' := ρ) (σ' := sI σ k (upd (σ.1 k) c x)) hd hc hk hn (Or.inl hf) (by unfold fv; rw [hf2]; show Value.int ((sI σ k (upd (σ.1 k) c x)).1 k c) = _; rw [sI_1, if_pos rfl]; simp [upd, cv]) (fun j hj => ?_) (fun q hq => ce_congr (by rw [sI_1, if_neg hq]) rfl rfl) kk
  exact fv_congr (by rw [sI_1, if_pos rfl]; simp [upd, hj]) rfl rfl
theorem Ev_putL {k : Nat} {x : Int64} (h : opn i pc = some (64, b, c, e, nx, vi, vl)) (hk : isO n k b = true) (hn : cTy b c = .long) (hf : (cT b c).2.2.2 = false)
    (kk : Ev l X d i nx ls st n0 n1 n ρ (sL σ k (vp_updL (σ.2 k) c x)) Q) : Ev l X d i pc ls (.long x :: .ref k :: st) n0 n1 n ρ σ Q := by
  obtain ⟨-, ins, len, hd, rfl, hc⟩ := op_ok h
  replace hc : ckPut i 1 b c e ins len = true := hc
  obtain ⟨-, -, -, hf2, -⟩ := put_ok hc
  refine Ev_put (v := .long x) (ρ' := ρ) (σ' := sL σ k (vp_updL (σ.2 k) c x)) hd hc hk (by rw [hn]; exact ⟨rfl, rfl⟩) (Or.inl hf) (by unfold fv; rw [hf2]; show Value.long ((sL σ k (vp_updL (σ.2 k) c x)).2 k c) = _; rw [sL_2, if_pos rfl]; simp [vp_updL, cv]) (fun j hj => ?_) (fun q hq => ce_congr rfl (by rw [sL_2, if_neg hq]) rfl) kk
  exact fv_congr rfl (by rw [sL_2, if_pos rfl]; simp [vp_updL, hj]) rfl
theorem Ev_putR {k k' : Nat} (h : opn i pc = some (67, b, c, e, nx, vi, vl)) (hk : isO n k b = true) (hn : ∀ a, narrow (cTy b c) (.ref a) = .ref a ∧ fits (cTy b c) (.ref a) = true) (hfin : (cT b c).2.2.2 = false ∨ (mKind i = 2 ∧ mCls i = b ∧ Nat.beq (fldE e).2.2.2.2.1 0 = true))
    (kk : Ev l X d i nx ls st n0 n1 n (sR ρ k (va_up (ρ k) c (some k'))) σ Q) : Ev l X d i pc ls (.ref k' :: .ref k :: st) n0 n1 n ρ σ Q := by
  obtain ⟨-, ins, len, hd, rfl, hc⟩ := op_ok h
  replace hc : ckPut i 2 b c e ins len = true := hc
  obtain ⟨-, -, -, hf2, -⟩ := put_ok hc
  refine Ev_put (v := .ref k') (ρ' := sR ρ k (va_up (ρ k) c (some k'))) (σ' := σ) hd hc hk (hn _) hfin (by unfold fv; rw [hf2]; simp [sR, va_up, cv, va_rf]) (fun j hj => ?_) (fun q hq => ce_congr rfl rfl (by simp [sR, hq])) kk
  exact fv_congr rfl rfl (by simp [sR, va_up, hj])
theorem Ev_iald {k : Nat} {x : Int32} (h : opn i pc = some (70, b, c, e, nx, vi, vl)) (hk : isA n k 0 = true) (hi : vp_in x (shp k).2) (kk : Ev l X d i nx ls (.int (σ.1 k x.toNatClampNeg) :: st) n0 n1 n ρ σ Q) : Ev l X d i pc ls (.int x :: .ref k :: st) n0 n1 n ρ σ Q := by
  obtain ⟨hd, rfl⟩ := plain_ok (ins0 := .iaload) (fun _ _ => rfl) h rfl
  obtain ⟨k1, k2⟩ := isA_lt hk
  intro p ev s m args below meth cc H locs lsA C hP hS hL
  have he := WS_get (X := X) (ρ := ρ) (σ := σ) k1
  have hce : ce X ρ σ k (shp k) = .inl (xA X 0, ((shp k).2, .inl (σ.1 k))) := by unfold ce; rw [k2]; rfl
  rw [hce] at he
  have hlt : x.toNatClampNeg < (shp k).2 := Nat.not_le.mp fun q => hi (Or.inr q)
  exact W.iald (v := .int (σ.1 k x.toNatClampNeg)) C.1 C.2.1 (hP.1 k _ he) ((C.2.2.2.2.2.2.2.2.2.1.2 0 _ rfl).1 (shp k).2 (fun j => .int (σ.1 k j))) (fun q => by cases q) (by show ¬ (x < 0 ∨ (arrV _ _ _).slots.size ≤ _); rw [arrV_size]; exact hi) (by show (arrV _ _ _).slots[_]? = _; rw [arrV_read _ _ hlt]) rfl rfl hd (kk p ev s m args below meth cc H locs lsA C hP hS hL)
theorem Ev_bald {k : Nat} {x : Int32} (h : opn i pc = some (71, b, c, e, nx, vi, vl)) (hk : isA n k 1 = true) (hi : vp_in x (shp k).2) (kk : Ev l X d i nx ls (.int (σ.1 k x.toNatClampNeg) :: st) n0 n1 n ρ σ Q) : Ev l X d i pc ls (.int x :: .ref k :: st) n0 n1 n ρ σ Q := by
  obtain ⟨hd, rfl⟩ := plain_ok (ins0 := .baload) (fun _ _ => rfl) h rfl
  obtain ⟨k1, k2⟩ := isA_lt hk
  intro p ev s m args below meth cc H locs lsA C hP hS hL
  have he := WS_get (X := X) (ρ := ρ) (σ := σ) k1
  have hce : ce X ρ σ k (shp k) = .inl (xA X 1, ((shp k).2, .inl (σ.1 k))) := by unfold ce; rw [k2]; rfl
  rw [hce] at he
  have hlt : x.toNatClampNeg < (shp k).2 := Nat.not_le.mp fun q => hi (Or.inr q)
  exact W.bald (v := .int (σ.1 k x.toNatClampNeg)) C.1 C.2.1 (hP.1 k _ he) ((C.2.2.2.2.2.2.2.2.2.1.2 1 _ rfl).1 (shp k).2 (fun j => .int (σ.1 k j))) (fun q => by cases q) (by show ¬ (x < 0 ∨ (arrV _ _ _).slots.size ≤ _); rw [arrV_size]; exact hi) (by show (arrV _ _ _).slots[_]? = _; rw [arrV_read _ _ hlt]) rfl rfl hd (kk p ev s m args below meth cc H locs lsA C hP hS hL)
theorem Ev_cald {k : Nat} {x : Int32} (h : opn i pc = some (72, b, c, e, nx, vi, vl)) (hk : isA n k 2 = true) (hi : vp_in x (shp k).2) (kk : Ev l X d i nx ls (.int (σ.1 k x.toNatClampNeg) :: st) n0 n1 n ρ σ Q) : Ev l X d i pc ls (.int x :: .ref k :: st) n0 n1 n ρ σ Q := by
  obtain ⟨hd, rfl⟩ := plain_ok (ins0 := .caload) (fun _ _ => rfl) h rfl
  obtain ⟨k1, k2⟩ := isA_lt hk
  intro p ev s m args below meth cc H locs lsA C hP hS hL
  have he := WS_get (X := X) (ρ := ρ) (σ := σ) k1
  have hce : ce X ρ σ k (shp k) = .inl (xA X 2, ((shp k).2, .inl (σ.1 k))) := by unfold ce; rw [k2]; rfl
  rw [hce] at he
  have hlt : x.toNatClampNeg < (shp k).2 := Nat.not_le.mp fun q => hi (Or.inr q)
  exact W.cald (v := .int (σ.1 k x.toNatClampNeg)) C.1 C.2.1 (hP.1 k _ he) ((C.2.2.2.2.2.2.2.2.2.1.2 2 _ rfl).1 (shp k).2 (fun j => .int (σ.1 k j))) (fun q => by cases q) (by show ¬ (x < 0 ∨ (arrV _ _ _).slots.size ≤ _); rw [arrV_size]; exact hi) (by show (arrV _ _ _).slots[_]? = _; rw [arrV_read _ _ hlt]) rfl rfl hd (kk p ev s m args below meth cc H locs lsA C hP hS hL)
theorem Ev_lald {k : Nat} {x : Int32} (h : opn i pc = some (73, b, c, e, nx, vi, vl)) (hk : isA n k 3 = true) (hi : vp_in x (shp k).2) (kk : Ev l X d i nx ls (.long (σ.2 k x.toNatClampNeg) :: st) n0 n1 n ρ σ Q) : Ev l X d i pc ls (.int x :: .ref k :: st) n0 n1 n ρ σ Q := by
  obtain ⟨hd, rfl⟩ := plain_ok (ins0 := .laload) (fun _ _ => rfl) h rfl
  obtain ⟨k1, k2⟩ := isA_lt hk
  intro p ev s m args below meth cc H locs lsA C hP hS hL
  have he := WS_get (X := X) (ρ := ρ) (σ := σ) k1
  have hce : ce X ρ σ k (shp k) = .inl (xA X 3, ((shp k).2, .inr (.inl (σ.2 k)))) := by unfold ce; rw [k2]; rfl
  rw [hce] at he
  have hlt : x.toNatClampNeg < (shp k).2 := Nat.not_le.mp fun q => hi (Or.inr q)
  exact W.lald (v := .long (σ.2 k x.toNatClampNeg)) C.1 C.2.1 (hP.1 k _ he) ((C.2.2.2.2.2.2.2.2.2.1.2 3 _ rfl).1 (shp k).2 (fun j => .long (σ.2 k j))) (fun q => by cases q) (by show ¬ (x < 0 ∨ (arrV _ _ _).slots.size ≤ _); rw [arrV_size]; exact hi) (by show (arrV _ _ _).slots[_]? = _; rw [arrV_read _ _ hlt]) rfl rfl hd (kk p ev s m args below meth cc H locs lsA C hP hS hL)
theorem Ev_aald {k t k' : Nat} {x : Int32} (h : opn i pc = some (74, b, c, e, nx, vi, vl)) (ht : t = 4 ∨ t = 5) (hk : isA n k t = true) (hi : vp_in x (shp k).2) (hr : ρ k x.toNatClampNeg = some k') (kk : Ev l X d i nx ls (.ref k' :: st) n0 n1 n ρ σ Q) : Ev l X d i pc ls (.int x :: .ref k :: st) n0 n1 n ρ σ Q := by
  obtain ⟨hd, rfl⟩ := plain_ok (ins0 := .aaload) (fun _ _ => rfl) h rfl
  obtain ⟨k1, k2⟩ := isA_lt hk
  intro p ev s m args below meth cc H locs lsA C hP hS hL
  have he := WS_get (X := X) (ρ := ρ) (σ := σ) k1
  have hlt : x.toNatClampNeg < (shp k).2 := Nat.not_le.mp fun q => hi (Or.inr q)
  have hkk := kk p ev s m args below meth cc H locs lsA C hP hS hL
  have hv : va_rf ((ρ k x.toNatClampNeg).map (xB X + ·)) = .ref (xB X + k') := by rw [hr]; rfl
  rcases ht with rfl | rfl
  · have hce : ce X ρ σ k (shp k) = .inl (xA X 4, ((shp k).2, .inr (.inr (.inr (.inr (fun j => (ρ k j).map (xB X + ·))))))) := by unfold ce; rw [k2]; rfl
    rw [hce] at he
    exact W.aald (v := .ref (xB X + k')) (ty := .array .int) C.1 C.2.1 (hP.1 k _ he) ((C.2.2.2.2.2.2.2.2.2.1.2 4 _ rfl).1 (shp k).2 (fun j => va_rf ((ρ k j).map (xB X + ·)))) rfl (fun q => by cases q) (by show ¬ (x < 0 ∨ (arrV _ _ _).slots.size ≤ _); rw [arrV_size]; exact hi) (by show (arrV _ _ _).slots[_]? = _; rw [arrV_read _ _ hlt, hv]) rfl rfl hd hkk
  · have hce : ce X ρ σ k (shp k) = .inl (xA X 5, ((shp k).2, .inr (.inr (.inr (.inr (fun j => (ρ k j).map (xB X + ·))))))) := by unfold ce; rw [k2]; rfl
    rw [hce] at he
    exact W.aald (v := .ref (xB X + k')) (ty := .object "DeepBathing$Moment") C.1 C.2.1 (hP.1 k _ he) ((C.2.2.2.2.2.2.2.2.2.1.2 5 _ rfl).1 (shp k).2 (fun j => va_rf ((ρ k j).map (xB X + ·)))) rfl (fun q => by cases q) (by show ¬ (x < 0 ∨ (arrV _ _ _).slots.size ≤ _); rw [arrV_size]; exact hi) (by show (arrV _ _ _).slots[_]? = _; rw [arrV_read _ _ hlt, hv]) rfl rfl hd hkk
theorem Ev_iast {k : Nat} {y : Int32} {x : Int32} (h : opn i pc = some (75, b, c, e, nx, vi, vl)) (hk : isA n k 0 = true) (hi : vp_in y (shp k).2) (kk : Ev l X d i nx ls st n0 n1 n ρ (sI σ k (upd (σ.1 k) y.toNatClampNeg x)) Q) : Ev l X d i pc ls (.int x :: .int y :: .ref k :: st) n0 n1 n ρ σ Q := by
  obtain ⟨hd, rfl⟩ := plain_ok (ins0 := .iastore) (fun _ _ => rfl) h rfl
  obtain ⟨k1, k2⟩ := isA_lt hk
  intro p ev s m args below meth cc H locs lsA C hP hS hL
  have he := WS_get (X := X) (ρ := ρ) (σ := σ) k1
  have hce : ∀ τ : St, ce X ρ τ k (shp k) = .inl (xA X 0, ((shp k).2, .inl (τ.1 k))) := fun τ => by unfold ce; rw [k2]; rfl
  rw [hce] at he
  have hD := WS_D X n ρ σ
  refine W.iast C.1 C.2.1 (hP.1 k _ he) ((C.2.2.2.2.2.2.2.2.2.1.2 0 _ rfl).1 (shp k).2 (fun j => .int (σ.1 k j))) (fun q => by cases q) (by show ¬ (y < 0 ∨ (arrV _ _ _).slots.size ≤ _); rw [arrV_size]; exact hi) rfl rfl hd fun H1 e1 z oq => ?_
  have hP1 := hP.1.set hD he (e := ce X ρ (sI σ k (upd (σ.1 k) y.toNatClampNeg x)) k (shp k)) (by
    rw [hce]
    show H1[xB X + k]? = some (vp_cell _ _)
    rw [e1]
    rw [vp_cell_i, vp_cell_i, arrV_store]
    congr 2
    funext q
    by_cases hq : q = y.toNatClampNeg
    · subst hq
      simp [updV, upd, sI_1]
    · simp [updV, upd, sI_1, hq]) oq
  rw [WS_set rfl (fun q hq => by exact ce_congr (by rw [sI_1, if_neg hq]) rfl rfl)] at hP1
  exact kk p ev s m args below meth cc H1 _ lsA C ⟨hP1, z.trans hP.2⟩ (hS.put z oq (Nat.le_add_right _ _)) hL
theorem Ev_bast {k : Nat} {y : Int32} {x : Int32} (h : opn i pc = some (76, b, c, e, nx, vi, vl)) (hk : isA n k 1 = true) (hi : vp_in y (shp k).2) (kk : Ev l X d i nx ls st n0 n1 n ρ (sI σ k (upd (σ.1 k) y.toNatClampNeg x.toInt8.toInt32)) Q) : Ev l X d i pc ls (.int x :: .int y :: .ref k :: st) n0 n1 n ρ σ Q := by
  obtain ⟨hd, rfl⟩ := plain_ok (ins0 := .bastore) (fun _ _ => rfl) h rfl
  obtain ⟨k1, k2⟩ := isA_lt hk
  intro p ev s m args below meth cc H locs lsA C hP hS hL
  have he := WS_get (X := X) (ρ := ρ) (σ := σ) k1
  have hce : ∀ τ : St, ce X ρ τ k (shp k) = .inl (xA X 1, ((shp k).2, .inl (τ.1 k))) := fun τ => by unfold ce; rw [k2]; rfl
  rw [hce] at he
  have hD := WS_D X n ρ σ
  refine W.bast C.1 C.2.1 (hP.1 k _ he) ((C.2.2.2.2.2.2.2.2.2.1.2 1 _ rfl).1 (shp k).2 (fun j => .int (σ.1 k j))) (fun q => by cases q) (by show ¬ (y < 0 ∨ (arrV _ _ _).slots.size ≤ _); rw [arrV_size]; exact hi) rfl rfl hd fun H1 e1 z oq => ?_
  have hP1 := hP.1.set hD he (e := ce X ρ (sI σ k (upd (σ.1 k) y.toNatClampNeg x.toInt8.toInt32)) k (shp k)) (by
    rw [hce]
    show H1[xB X + k]? = some (vp_cell _ _)
    rw [e1]
    rw [vp_cell_i, vp_cell_i, arrV_store]
    congr 2
    funext q
    by_cases hq : q = y.toNatClampNeg
    · subst hq
      simp [updV, upd, sI_1, vp_nar, narrow]
    · simp [updV, upd, sI_1, hq]) oq
  rw [WS_set rfl (fun q hq => by exact ce_congr (by rw [sI_1, if_neg hq]) rfl rfl)] at hP1
  exact kk p ev s m args below meth cc H1 _ lsA C ⟨hP1, z.trans hP.2⟩ (hS.put z oq (Nat.le_add_right _ _)) hL
theorem Ev_cast {k : Nat} {y : Int32} {x : Int32} (h : opn i pc = some (77, b, c, e, nx, vi, vl)) (hk : isA n k 2 = true) (hi : vp_in y (shp k).2) (kk : Ev l X d i nx ls st n0 n1 n ρ (sI σ k (upd (σ.1 k) y.toNatClampNeg (vp_nar .char x))) Q) : Ev l X d i pc ls (.int x :: .int y :: .ref k :: st) n0 n1 n ρ σ Q := by
  obtain ⟨hd, rfl⟩ := plain_ok (ins0 := .castore) (fun _ _ => rfl) h rfl
  obtain ⟨k1, k2⟩ := isA_lt hk
  intro p ev s m args below meth cc H locs lsA C hP hS hL
  have he := WS_get (X := X) (ρ := ρ) (σ := σ) k1
  have hce : ∀ τ : St, ce X ρ τ k (shp k) = .inl (xA X 2, ((shp k).2, .inl (τ.1 k))) := fun τ => by unfold ce; rw [k2]; rfl
  rw [hce] at he
  have hD := WS_D X n ρ σ
  refine W.cast C.1 C.2.1 (hP.1 k _ he) ((C.2.2.2.2.2.2.2.2.2.1.2 2 _ rfl).1 (shp k).2 (fun j => .int (σ.1 k j))) (fun q => by cases q) (by show ¬ (y < 0 ∨ (arrV _ _ _).slots.size ≤ _); rw [arrV_size]; exact hi) rfl rfl hd fun H1 e1 z oq => ?_
  have hP1 := hP.1.set hD he (e := ce X ρ (sI σ k (upd (σ.1 k) y.toNatClampNeg (vp_nar .char x))) k (shp k)) (by
    rw [hce]
    show H1[xB X + k]? = some (vp_cell _ _)
    rw [e1]
    rw [vp_cell_i, vp_cell_i, arrV_store]
    congr 2
    funext q
    by_cases hq : q = y.toNatClampNeg
    · subst hq
      simp [updV, upd, sI_1, vp_nar, narrow]
    · simp [updV, upd, sI_1, hq]) oq
  rw [WS_set rfl (fun q hq => by exact ce_congr (by rw [sI_1, if_neg hq]) rfl rfl)] at hP1
  exact kk p ev s m args below meth cc H1 _ lsA C ⟨hP1, z.trans hP.2⟩ (hS.put z oq (Nat.le_add_right _ _)) hL
theorem Ev_last {k : Nat} {y : Int32} {x : Int64} (h : opn i pc = some (78, b, c, e, nx, vi, vl)) (hk : isA n k 3 = true) (hi : vp_in y (shp k).2) (kk : Ev l X d i nx ls st n0 n1 n ρ (sL σ k (vp_updL (σ.2 k) y.toNatClampNeg x)) Q) : Ev l X d i pc ls (.long x :: .int y :: .ref k :: st) n0 n1 n ρ σ Q := by
  obtain ⟨hd, rfl⟩ := plain_ok (ins0 := .lastore) (fun _ _ => rfl) h rfl
  obtain ⟨k1, k2⟩ := isA_lt hk
  intro p ev s m args below meth cc H locs lsA C hP hS hL
  have he := WS_get (X := X) (ρ := ρ) (σ := σ) k1
  have hce : ∀ τ : St, ce X ρ τ k (shp k) = .inl (xA X 3, ((shp k).2, .inr (.inl (τ.2 k)))) := fun τ => by unfold ce; rw [k2]; rfl
  rw [hce] at he
  have hD := WS_D X n ρ σ
  refine W.last C.1 C.2.1 (hP.1 k _ he) ((C.2.2.2.2.2.2.2.2.2.1.2 3 _ rfl).1 (shp k).2 (fun j => .long (σ.2 k j))) (fun q => by cases q) (by show ¬ (y < 0 ∨ (arrV _ _ _).slots.size ≤ _); rw [arrV_size]; exact hi) rfl rfl hd fun H1 e1 z oq => ?_
  have hP1 := hP.1.set hD he (e := ce X ρ (sL σ k (vp_updL (σ.2 k) y.toNatClampNeg x)) k (shp k)) (by
    rw [hce]
    show H1[xB X + k]? = some (vp_cell _ _)
    rw [e1]
    rw [vp_cell_l, vp_cell_l, arrV_store]
    congr 2
    funext q
    by_cases hq : q = y.toNatClampNeg
    · subst hq
      simp [updV, vp_updL, sL_2]
    · simp [updV, vp_updL, sL_2, hq]) oq
  rw [WS_set rfl (fun q hq => by exact ce_congr rfl (by rw [sL_2, if_neg hq]) rfl)] at hP1
  exact kk p ev s m args below meth cc H1 _ lsA C ⟨hP1, z.trans hP.2⟩ (hS.put z oq (Nat.le_add_right _ _)) hL
theorem Ev_alen {k : Nat} (h : opn i pc = some (80, b, c, e, nx, vi, vl)) (hk : (Nat.blt k n && Nat.ble (shp k).1 3) = true) (kk : Ev l X d i nx ls (.int (Int32.ofNat (shp k).2) :: st) n0 n1 n ρ σ Q) : Ev l X d i pc ls (.ref k :: st) n0 n1 n ρ σ Q := by
  obtain ⟨hd, rfl⟩ := plain_ok (ins0 := .arraylength) (fun _ _ => rfl) h rfl
  rw [Bool.and_eq_true, Nat.blt_eq, Nat.ble_eq] at hk
  intro p ev s m args below meth cc H locs lsA C hP hS hL
  have he := WS_get (X := X) (ρ := ρ) (σ := σ) hk.1
  have hkk := kk p ev s m args below meth cc H locs lsA C hP hS hL
  have h4 : (shp k).1 = 0 ∨ (shp k).1 = 1 ∨ (shp k).1 = 2 ∨ (shp k).1 = 3 := by have := hk.2; omega
  rcases h4 with k2 | k2 | k2 | k2
  · have hce : ce X ρ σ k (shp k) = .inl (xA X 0, ((shp k).2, .inl (σ.1 k))) := by unfold ce; rw [k2]; rfl
    rw [hce] at he
    exact va_alen C.1 C.2.1 C.2.2.2.2.2.2.2.2.2.1 hP.1 k 0 he rfl rfl hd hkk
  · have hce : ce X ρ σ k (shp k) = .inl (xA X 1, ((shp k).2, .inl (σ.1 k))) := by unfold ce; rw [k2]; rfl
    rw [hce] at he
    exact va_alen C.1 C.2.1 C.2.2.2.2.2.2.2.2.2.1 hP.1 k 1 he rfl rfl hd hkk
  · have hce : ce X ρ σ k (shp k) = .inl (xA X 2, ((shp k).2, .inl (σ.1 k))) := by unfold ce; rw [k2]; rfl
    rw [hce] at he
    exact va_alen C.1 C.2.1 C.2.2.2.2.2.2.2.2.2.1 hP.1 k 2 he rfl rfl hd hkk
  · have hce : ce X ρ σ k (shp k) = .inl (xA X 3, ((shp k).2, .inr (.inl (σ.2 k)))) := by unfold ce; rw [k2]; rfl
    rw [hce] at he
    exact va_alen C.1 C.2.1 C.2.2.2.2.2.2.2.2.2.1 hP.1 k 3 he rfl rfl hd hkk
theorem cvK (q : Nat) : cv X (.retAddr (2 * q)) = .ref (xK X q) := by simp [cv]
theorem cvV (q : Nat) : cv X (.retAddr (2 * q + 1)) = .ref (xV X q) := by
  have h1 : (2 * q + 1) % 2 = 1 := by omega
  have h2 : (2 * q + 1) / 2 = q := by omega
  show (bif Nat.beq ((2 * q + 1) % 2) 0 then Value.ref (xK X ((2 * q + 1) / 2)) else .ref (xV X ((2 * q + 1) / 2))) = _
  rw [h1, h2]
  rfl
theorem Ev_strV {q : Nat} (h : opn i pc = some (65, b, c, e, nx, vi, vl)) (hq : q < nStr) (kk : Ev l X d i nx ls (.retAddr (2 * q + 1) :: st) n0 n1 n ρ σ Q) : Ev l X d i pc ls (.retAddr (2 * q) :: st) n0 n1 n ρ σ Q := by
  obtain ⟨-, ins, len, hd, rfl, hc⟩ := op_ok h
  replace hc : ckGetS i e "value" "[B" ins len = true := hc
  intro p ev s m args below meth cc H locs lsA C hP hS hL
  unfold ckGetS at hc
  split at hc
  · simp only [Bool.and_eq_true, decide_eq_true_eq] at hc
    obtain ⟨⟨a1, a2⟩, a3⟩ := hc
    have a1 := Nat.eq_of_beq_eq_true a1
    subst a1
    have hkk := kk p ev s m args below meth cc H locs lsA C hP hS hL
    rw [List.map_cons, cvV] at hkk
    rw [List.map_cons, cvK]
    exact vk_getf C.1 C.2.1 (C.2.2.2.2.2.2.2.2.1.1 q hq).2.2.1 hS C.2.2.2.2.2.1 (C.2.2.2.2.2.2.1 _ (wg_mem a2 rfl)) (fun _ hx => hx) hd hkk
  · cases hc
theorem Ev_strC {q : Nat} (h : opn i pc = some (66, b, c, e, nx, vi, vl)) (hq : q < nStr) (kk : Ev l X d i nx ls (.int 0 :: st) n0 n1 n ρ σ Q) : Ev l X d i pc ls (.retAddr (2 * q) :: st) n0 n1 n ρ σ Q := by
  obtain ⟨-, ins, len, hd, rfl, hc⟩ := op_ok h
  replace hc : ckGetS i e "coder" "B" ins len = true := hc
  intro p ev s m args below meth cc H locs lsA C hP hS hL
  unfold ckGetS at hc
  split at hc
  · simp only [Bool.and_eq_true, decide_eq_true_eq] at hc
    obtain ⟨⟨a1, a2⟩, a3⟩ := hc
    have a1 := Nat.eq_of_beq_eq_true a1
    subst a1
    have hkk := kk p ev s m args below meth cc H locs lsA C hP hS hL
    rw [List.map_cons, cvK]
    exact vk_getf C.1 C.2.1 (C.2.2.2.2.2.2.2.2.1.1 q hq).2.1 hS C.2.2.2.2.2.1 (C.2.2.2.2.2.2.1 _ (wg_mem a2 rfl)) (fun _ hx => hx) hd hkk
  · cases hc
theorem Ev_strLen {q : Nat} (h : opn i pc = some (80, b, c, e, nx, vi, vl)) (hq : q < nStr) (kk : Ev l X d i nx ls (.int (Int32.ofNat (strB q).length) :: st) n0 n1 n ρ σ Q) : Ev l X d i pc ls (.retAddr (2 * q + 1) :: st) n0 n1 n ρ σ Q := by
  obtain ⟨hd, rfl⟩ := plain_ok (ins0 := .arraylength) (fun _ _ => rfl) h rfl
  intro p ev s m args below meth cc H locs lsA C hP hS hL
  have hkk := kk p ev s m args below meth cc H locs lsA C hP hS hL
  rw [List.map_cons, cvV]
  exact va_tlen C.1 C.2.1 (C.2.2.2.2.2.2.2.2.1.1 q hq).2.2.2 hS rfl hd hkk
theorem Ev_strB {q : Nat} {x : Int32} (h : opn i pc = some (71, b, c, e, nx, vi, vl)) (hq : q < nStr) (hi : vp_in x (strB q).length) (kk : Ev l X d i nx ls (.int ((strB q).getD x.toNatClampNeg 0) :: st) n0 n1 n ρ σ Q) : Ev l X d i pc ls (.int x :: .retAddr (2 * q + 1) :: st) n0 n1 n ρ σ Q := by
  obtain ⟨hd, rfl⟩ := plain_ok (ins0 := .baload) (fun _ _ => rfl) h rfl
  intro p ev s m args below meth cc H locs lsA C hP hS hL
  have hkk := kk p ev s m args below meth cc H locs lsA C hP hS hL
  rw [List.map_cons, List.map_cons, cvV]
  exact va_tb C.1 C.2.1 (C.2.2.2.2.2.2.2.2.1.1 q hq).2.2.2 hS hi rfl hd hkk
theorem Ev_scLen {z : UInt64} (h : opn i pc = some (80, b, c, e, nx, vi, vl)) (kk : Ev l X d i nx ls (.int (Int32.ofNat (xLn X)) :: st) n0 n1 n ρ σ Q) : Ev l X d i pc ls (.double z :: st) n0 n1 n ρ σ Q := by
  obtain ⟨hd, rfl⟩ := plain_ok (ins0 := .arraylength) (fun _ _ => rfl) h rfl
  intro p ev s m args below meth cc H locs lsA C hP hS hL
  have hX := C.2.2.2.2.2.2.2.2.1.2.2.2.2.2.2.2
  exact va_slen C.1 C.2.1 hX.1 (Nat.lt_of_lt_of_le hX.2 C.2.2.2.2.2.2.2.2.2.2) (by have := hX.2; intro z; have z : xB X ≤ xSc X := z; omega) hS hd (kk p ev s m args below meth cc H locs lsA C hP hS hL)
theorem Ev_scLd {z : UInt64} {x : Int32} (h : opn i pc = some (70, b, c, e, nx, vi, vl)) (hi : vp_in x (xLn X)) (kk : Ev l X d i nx ls (.int (xXs X x.toNatClampNeg) :: st) n0 n1 n ρ σ Q) : Ev l X d i pc ls (.int x :: .double z :: st) n0 n1 n ρ σ Q := by
  obtain ⟨hd, rfl⟩ := plain_ok (ins0 := .iaload) (fun _ _ => rfl) h rfl
  intro p ev s m args below meth cc H locs lsA C hP hS hL
  have hX := C.2.2.2.2.2.2.2.2.1.2.2.2.2.2.2.2
  exact va_sld C.1 C.2.1 hX.1 (Nat.lt_of_lt_of_le hX.2 C.2.2.2.2.2.2.2.2.2.2) (by have := hX.2; intro z; have z : xB X ≤ xSc X := z; omega) hS hi hd (kk p ev s m args below meth cc H locs lsA C hP hS hL)
theorem Ev_stat {v : Value} (h : opn i pc = some (130, b, c, e, nx, vi, vl)) (hv : (bif Nat.beq b 0 then .int 1 else .float 1) = v) (kk : Ev l X d i nx ls (v :: st) n0 n1 n ρ σ Q) : Ev l X d i pc ls st n0 n1 n ρ σ Q := by
  obtain ⟨-, ins, len, hd, rfl, hc⟩ := op_ok h
  replace hc : ckStat i b e ins len = true := hc
  intro p ev s m args below meth cc H locs lsA C hP hS hL
  unfold ckStat at hc
  split at hc
  · rw [Bool.and_eq_true] at hc
    have a1 := Nat.eq_of_beq_eq_true hc.1
    subst a1
    have hkk := kk p ev s m args below meth cc H locs lsA C hP hS hL
    have a2 := hc.2
    cases hb : Nat.beq b 0 with
    | true =>
      rw [hb] at a2 hv
      have hv : Value.int 1 = v := hv
      subst hv
      exact va_gets C.1 C.2.1 C.2.2.2.2.2.2.2.2.1.2.2.1 hS C.2.2.2.2.2.1 (C.2.2.2.2.2.2.1 _ (wg_mem (of_decide_eq_true a2) rfl)) (fun _ hx => hx) hd hkk
    | false =>
      rw [hb] at a2 hv
      have hv : Value.float 1 = v := hv
      subst hv
      exact va_gets C.1 C.2.1 C.2.2.2.2.2.2.2.2.1.2.2.2.1 hS C.2.2.2.2.2.1 (C.2.2.2.2.2.2.1 _ (wg_mem (of_decide_eq_true a2) rfl)) (fun _ hx => hx) hd hkk
  · cases hc
end EvH
