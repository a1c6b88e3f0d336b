/-! A question's answer: the reference. -/
/-- the same state, but for cells C, fields Fd of the reference, its pile, its answer -/
def MA (C Fd : Nat → Bool) (σ σ' : St) : Prop := (∀ q, q ≠ 326 → C q = false → σ'.1 q = σ.1 q) ∧ (∀ q j, q ≠ 400 → (q = 326 → j ≠ 107) → σ'.2 q j = σ.2 q j) ∧ ∀ j, Fd j = false → σ'.1 326 j = σ.1 326 j
theorem MA.tr {C Fd : Nat → Bool} {σ σ' σ'' : St} (h : MA C Fd σ σ') (h2 : MA C Fd σ' σ'') : MA C Fd σ σ'' := ⟨fun q hq hc => (h2.1 q hq hc).trans (h.1 q hq hc), fun q j hq hj => (h2.2.1 q j hq hj).trans (h.2.1 q j hq hj), fun j hj => (h2.2.2 j hj).trans (h.2.2 j hj)⟩
theorem MA.wk {C Fd C' Fd' : Nat → Bool} {σ σ' : St} (h : MA C Fd σ σ') (hC : ∀ q, C' q = false → C q = false) (hF : ∀ j, Fd' j = false → Fd j = false) : MA C' Fd' σ σ' := ⟨fun q hq hc => h.1 q hq (hC q hc), h.2.1, fun j hj => h.2.2 j (hF j hj)⟩
theorem MF.ma {C Fd : Nat → Bool} {σ σ' : St} (h : MF C Fd σ σ') : MA C Fd σ σ' := ⟨h.1, fun q j hq _ => by rw [h.2.1 q hq], h.2.2⟩
theorem MA.mf {C Fd : Nat → Bool} {σ σ' : St} (h : MA C Fd σ σ') : MF C Fd σ (σ'.1, σ.2) := ⟨h.1, fun _ _ => rfl, h.2.2⟩
theorem MA.rf (C Fd : Nat → Bool) (σ : St) : MA C Fd σ σ := (MF.rf C Fd σ).ma
theorem MRd.ma {C Fd : Nat → Bool} {σ σ' : St} {B : Bh} {S : Str} {W : Nat → Nat} {h : Nat} (H : MRd σ B S W h) (hs : MA C Fd σ σ') (hC : (C 356 || C 358 || C 359 || C 360 || C 365) = false) (hF : (Fd 53 || Fd 54) = false) : MRd σ' B S W h := by
  have h2 := MRd.mf (σ' := (σ'.1, σ.2)) H hs.mf hC hF
  exact h2
theorem MFrm.ma {C Fd : Nat → Bool} {σ σ' : St} {B : Bh} (H : MFrm σ B) (hs : MA C Fd σ σ') (hC : (C 362 || C 363 || C 364) = false) : MFrm σ' B := by
  have h2 := MFrm.mf (σ' := (σ'.1, σ.2)) H hs.mf hC
  exact h2
def fNw (j : Nat) : Bool := Nat.beq j 108
/-- what an answer's step leaves -/
def TkQ (ρ : Rf) (σ : St) (z : Int64) : Po := fun v ρ' σ' => v = none ∧ ρ' = ρ ∧ σ'.2 326 107 = z ∧ σ'.1 326 108 = 0 ∧ MA (fun _ => false) fNw σ σ'
theorem ma_nw {σ : St} (x : Int32) : MA (fun _ => false) fNw σ (sI σ 326 (upd (σ.1 326) 108 x)) := (MF.put x rfl).ma
theorem ma_an {C Fd : Nat → Bool} {σ : St} (x : Int64) : MA C Fd σ (sL σ 326 (vp_updL (σ.2 326) 107 x)) := ⟨fun _ _ _ => rfl, fun q j _ hj => by
  by_cases hq : q = 326
  · subst hq; rw [sL_0]; exact updL_n (hj rfl)
  · show (if q = 326 then _ else σ.2 q) j = _
    rw [if_neg hq], fun _ _ => rfl⟩
theorem tk_0 {ρ : Rf} {σ : St} {z : Int64} (h : σ.2 326 107 = z) : TkQ ρ σ z none ρ (sI σ 326 (upd (σ.1 326) 108 0)) := ⟨rfl, rfl, h, by rw [sR_0, pk_us], ma_nw _⟩
theorem tk_1 {ρ : Rf} {σ : St} {x z : Int64} (h : x = z) : TkQ ρ σ z none ρ (sI (sL σ 326 (vp_updL (σ.2 326) 107 x)) 326 (upd (σ.1 326) 108 0)) := ⟨rfl, rfl, by
  show (sL σ 326 (vp_updL (σ.2 326) 107 x)).2 326 107 = z
  rw [sL_0, updL_s]; exact h, by rw [sR_0, pk_us], (ma_an x).tr (ma_nw (σ := sL σ 326 (vp_updL (σ.2 326) 107 x)) 0)⟩
theorem c_le2 {a b : Int} (ha : Bl a) (hb : Bl b) : 0 ≤ lg_cmp (lI a) (lI b) ↔ ¬ a < b := by rw [lc_ge, Int64.lt_iff_toInt_lt, z_lL ha, z_lL hb]
section S88zzo
variable {l : Launch} {X : Cx} {ρ : Rf} {B : Bh} {S : Str} {W : Nat → Nat}
/-- whether a test holds -/
theorem m_tkTrue (d : Nat) {k : Nat} {v : Int} {x : Int32} {σ : St} {Q : Po} (hk : k ≤ 5) (hv : Bd v) (hQ : Ev l X d 289 18 [.ref 326, .int (nI k), .long (lI v), .float 0, .int x, .int (if k < 3 ∧ v = 1 then 1 else 0)] [] 402 402 402 ρ σ Q) :
    Ev l X d 289 0 [.ref 326, .int (nI k), .long (lI v), .float 0, .int x, .float 0] [] 402 402 402 ρ σ Q := by
  have m1 : Bl 1 := ⟨by decide, by decide⟩
  refine Ev_iload rfl rfl ?_
  refine Ev_const rfl ?_
  refine Ev_icmp_ge rfl (fun h2 => ?_) (fun h2 => ?_)
  · refine Ev_const rfl ?_
    refine Ev_istore rfl ?_
    rw [if_neg (fun z => nI_ge z.1 (by decide) h2)] at hQ
    exact hQ
  · refine Ev_lload rfl rfl ?_
    refine Ev_constL rfl ?_
    refine Ev_normL (show _ = lI 1 from rfl) ?_
    refine Ev_lcmp rfl ?_
    refine Ev_if_ne rfl (fun h8 => ?_) (fun h8 => ?_)
    · refine Ev_const rfl ?_
      refine Ev_istore rfl ?_
      rw [if_neg (fun z => h8 ((c_eq (Bd_Bl hv) m1).mpr z.2))] at hQ
      exact hQ
    · refine Ev_const rfl ?_
      refine Ev_goto rfl ?_
      refine Ev_istore rfl ?_
      rw [if_pos ⟨(Nat.lt_of_not_le (fun z => h2 ((nI_leI (a := 3) (b := k) (by decide) (by omega)).mpr z))), (c_eq (Bd_Bl hv) m1).mp (Decidable.not_not.mp h8)⟩] at hQ
      exact hQ

theorem m_tk0 (d : Nat) {b : Nat} {g v : Int} {σ : St} (hb : b ≤ 6) (hg : Bl g) (hv : Bd v) (ha : σ.2 326 107 = lI g) (hn : σ.1 326 108 = if b = 0 then 1 else 0) (h01 : v = 0 ∨ v = 1) : T l X (d + 1) 289 [.ref 326, .int (nI 0), .long (lI v), .int (nI b)] 402 402 ρ σ (TkQ ρ σ (lI (qSt 0 b g v))) := by
  have m1 : Bl (-1) := ⟨by decide, by decide⟩
  have e : qSt 0 b g v = if v ≠ 0 ∧ (0 = 1 ∨ g = -1) then (b : Int) else g := rfl
  refine T_of rfl ?_
  refine m_tkTrue (d + 1) (k := 0) (by decide) hv ?_
  by_cases hv1 : v = 1
  · rw [if_pos ⟨by decide, hv1⟩]
    refine Ev_iload rfl rfl ?_
    refine Ev_if_ne rfl (fun h19 => absurd rfl h19) (fun h19 => ?_)
    refine Ev_iload rfl rfl ?_
    refine Ev_if_eq rfl (fun h24 => absurd h24 (by decide)) (fun h24 => ?_)
    refine Ev_aload rfl rfl rfl ?_
    refine Ev_getL rfl (by first | rfl | assumption) ?_
    refine Ev_normL ha ?_
    refine Ev_constL rfl ?_
    refine Ev_normL (show _ = lI (-1) from rfl) ?_
    refine Ev_lcmp rfl ?_
    refine Ev_if_eq rfl (fun h35 => ?_) (fun h35 => ?_)
    · refine Ev_aload rfl rfl rfl ?_
      refine Ev_iload rfl rfl ?_
      refine Ev_i2l rfl ?_
      refine Ev_normL (nI_lI b (by omega)) ?_
      refine Ev_putL rfl (by first | rfl | assumption) rfl rfl ?_
      refine Ev_iload rfl rfl ?_
      refine Ev_const rfl ?_
      refine Ev_icmp_ne rfl (fun h57 => ?_) (fun h57 => absurd h57 (by decide))
      refine Ev_iload rfl rfl ?_
      refine Ev_const rfl ?_
      refine Ev_icmp_ne rfl (fun h77 => ?_) (fun h77 => absurd h77 (by decide))
      refine Ev_iload rfl rfl ?_
      refine Ev_const rfl ?_
      refine Ev_icmp_le rfl (fun h92 => ?_) (fun h92 => absurd h92 (by decide))
      refine Ev_aload rfl rfl rfl ?_
      refine Ev_const rfl ?_
      refine Ev_putI rfl (by first | rfl | assumption) ⟨rfl, rfl⟩ rfl ?_
      exact Ev_return rfl rfl rfl (tk_1 (by rw [e, if_pos ⟨by omega, Or.inr ((c_eq hg m1).mp h35)⟩]))
    · refine Ev_iload rfl rfl ?_
      refine Ev_const rfl ?_
      refine Ev_icmp_ne rfl (fun h40 => ?_) (fun h40 => absurd h40 (by decide))
      refine Ev_iload rfl rfl ?_
      refine Ev_const rfl ?_
      refine Ev_icmp_ne rfl (fun h57 => ?_) (fun h57 => absurd h57 (by decide))
      refine Ev_iload rfl rfl ?_
      refine Ev_const rfl ?_
      refine Ev_icmp_ne rfl (fun h77 => ?_) (fun h77 => absurd h77 (by decide))
      refine Ev_iload rfl rfl ?_
      refine Ev_const rfl ?_
      refine Ev_icmp_le rfl (fun h92 => ?_) (fun h92 => absurd h92 (by decide))
      refine Ev_aload rfl rfl rfl ?_
      refine Ev_const rfl ?_
      refine Ev_putI rfl (by first | rfl | assumption) ⟨rfl, rfl⟩ rfl ?_
      exact Ev_return rfl rfl rfl (tk_0 (by rw [e, if_neg (fun z => z.2.elim (fun y => absurd y (by decide)) (fun y => h35 ((c_eq hg m1).mpr y)))]; exact ha))
  · rw [if_neg (fun z => hv1 z.2)]
    refine Ev_iload rfl rfl ?_
    refine Ev_if_ne rfl (fun h19 => absurd rfl h19) (fun h19 => ?_)
    refine Ev_iload rfl rfl ?_
    refine Ev_if_eq rfl (fun h24 => ?_) (fun h24 => absurd rfl h24)
    refine Ev_iload rfl rfl ?_
    refine Ev_const rfl ?_
    refine Ev_icmp_ne rfl (fun h40 => ?_) (fun h40 => absurd h40 (by decide))
    refine Ev_iload rfl rfl ?_
    refine Ev_const rfl ?_
    refine Ev_icmp_ne rfl (fun h57 => ?_) (fun h57 => absurd h57 (by decide))
    refine Ev_iload rfl rfl ?_
    refine Ev_const rfl ?_
    refine Ev_icmp_ne rfl (fun h77 => ?_) (fun h77 => absurd h77 (by decide))
    refine Ev_iload rfl rfl ?_
    refine Ev_const rfl ?_
    refine Ev_icmp_le rfl (fun h92 => ?_) (fun h92 => absurd h92 (by decide))
    refine Ev_aload rfl rfl rfl ?_
    refine Ev_const rfl ?_
    refine Ev_putI rfl (by first | rfl | assumption) ⟨rfl, rfl⟩ rfl ?_
    exact Ev_return rfl rfl rfl (tk_0 (by rw [e, if_neg (fun z => z.1 (by omega))]; exact ha))
theorem m_tk1 (d : Nat) {b : Nat} {g v : Int} {σ : St} (hb : b ≤ 6) (hg : Bl g) (hv : Bd v) (ha : σ.2 326 107 = lI g) (hn : σ.1 326 108 = if b = 0 then 1 else 0) (h01 : v = 0 ∨ v = 1) : T l X (d + 1) 289 [.ref 326, .int (nI 1), .long (lI v), .int (nI b)] 402 402 ρ σ (TkQ ρ σ (lI (qSt 1 b g v))) := by
  have e : qSt 1 b g v = if v ≠ 0 ∧ (1 = 1 ∨ g = -1) then (b : Int) else g := rfl
  refine T_of rfl ?_
  refine m_tkTrue (d + 1) (k := 1) (by decide) hv ?_
  by_cases hv1 : v = 1
  · rw [if_pos ⟨by decide, hv1⟩]
    refine Ev_iload rfl rfl ?_
    refine Ev_if_ne rfl (fun h19 => ?_) (fun h19 => absurd h19 (by decide))
    refine Ev_iload rfl rfl ?_
    refine Ev_const rfl ?_
    refine Ev_icmp_ne rfl (fun h40 => absurd rfl h40) (fun h40 => ?_)
    refine Ev_iload rfl rfl ?_
    refine Ev_if_eq rfl (fun h45 => absurd h45 (by decide)) (fun h45 => ?_)
    refine Ev_aload rfl rfl rfl ?_
    refine Ev_iload rfl rfl ?_
    refine Ev_i2l rfl ?_
    refine Ev_normL (nI_lI b (by omega)) ?_
    refine Ev_putL rfl (by first | rfl | assumption) rfl rfl ?_
    refine Ev_iload rfl rfl ?_
    refine Ev_const rfl ?_
    refine Ev_icmp_ne rfl (fun h57 => ?_) (fun h57 => absurd h57 (by decide))
    refine Ev_iload rfl rfl ?_
    refine Ev_const rfl ?_
    refine Ev_icmp_ne rfl (fun h77 => ?_) (fun h77 => absurd h77 (by decide))
    refine Ev_iload rfl rfl ?_
    refine Ev_const rfl ?_
    refine Ev_icmp_le rfl (fun h92 => ?_) (fun h92 => absurd h92 (by decide))
    refine Ev_aload rfl rfl rfl ?_
    refine Ev_const rfl ?_
    refine Ev_putI rfl (by first | rfl | assumption) ⟨rfl, rfl⟩ rfl ?_
    exact Ev_return rfl rfl rfl (tk_1 (by rw [e, if_pos ⟨by omega, Or.inl rfl⟩]))
  · rw [if_neg (fun z => hv1 z.2)]
    refine Ev_iload rfl rfl ?_
    refine Ev_if_ne rfl (fun h19 => ?_) (fun h19 => absurd h19 (by decide))
    refine Ev_iload rfl rfl ?_
    refine Ev_const rfl ?_
    refine Ev_icmp_ne rfl (fun h40 => absurd rfl h40) (fun h40 => ?_)
    refine Ev_iload rfl rfl ?_
    refine Ev_if_eq rfl (fun h45 => ?_) (fun h45 => absurd rfl h45)
    refine Ev_iload rfl rfl ?_
    refine Ev_const rfl ?_
    refine Ev_icmp_ne rfl (fun h57 => ?_) (fun h57 => absurd h57 (by decide))
    refine Ev_iload rfl rfl ?_
    refine Ev_const rfl ?_
    refine Ev_icmp_ne rfl (fun h77 => ?_) (fun h77 => absurd h77 (by decide))
    refine Ev_iload rfl rfl ?_
    refine Ev_const rfl ?_
    refine Ev_icmp_le rfl (fun h92 => ?_) (fun h92 => absurd h92 (by decide))
    refine Ev_aload rfl rfl rfl ?_
    refine Ev_const rfl ?_
    refine Ev_putI rfl (by first | rfl | assumption) ⟨rfl, rfl⟩ rfl ?_
    exact Ev_return rfl rfl rfl (tk_0 (by rw [e, if_neg (fun z => z.1 (by omega))]; exact ha))
theorem m_tk2 (d : Nat) {b : Nat} {g v : Int} {σ : St} (hb : b ≤ 6) (hg : Bl g) (hv : Bd v) (ha : σ.2 326 107 = lI g) (hn : σ.1 326 108 = if b = 0 then 1 else 0) (h01 : v = 0 ∨ v = 1) : T l X (d + 1) 289 [.ref 326, .int (nI 2), .long (lI v), .int (nI b)] 402 402 ρ σ (TkQ ρ σ (lI (qSt 2 b g v))) := by
  have e : qSt 2 b g v = g + v := rfl
  refine T_of rfl ?_
  refine m_tkTrue (d + 1) (k := 2) (by decide) hv ?_
  by_cases hv1 : v = 1
  · rw [if_pos ⟨by decide, hv1⟩]
    refine Ev_iload rfl rfl ?_
    refine Ev_if_ne rfl (fun h19 => ?_) (fun h19 => absurd h19 (by decide))
    refine Ev_iload rfl rfl ?_
    refine Ev_const rfl ?_
    refine Ev_icmp_ne rfl (fun h40 => ?_) (fun h40 => absurd h40 (by decide))
    refine Ev_iload rfl rfl ?_
    refine Ev_const rfl ?_
    refine Ev_icmp_ne rfl (fun h57 => absurd rfl h57) (fun h57 => ?_)
    refine Ev_iload rfl rfl ?_
    refine Ev_if_eq rfl (fun h62 => absurd h62 (by decide)) (fun h62 => ?_)
    refine Ev_aload rfl rfl rfl ?_
    refine Ev_dup rfl (fun _ q => nomatch q) ?_
    refine Ev_getL rfl (by first | rfl | assumption) ?_
    refine Ev_normL ha ?_
    refine Ev_constL rfl ?_
    refine Ev_normL (show _ = lI 1 from rfl) ?_
    refine Ev_ladd rfl ?_
    refine Ev_normL (lI_add g 1) ?_
    refine Ev_putL rfl (by first | rfl | assumption) rfl rfl ?_
    refine Ev_iload rfl rfl ?_
    refine Ev_const rfl ?_
    refine Ev_icmp_ne rfl (fun h77 => ?_) (fun h77 => absurd h77 (by decide))
    refine Ev_iload rfl rfl ?_
    refine Ev_const rfl ?_
    refine Ev_icmp_le rfl (fun h92 => ?_) (fun h92 => absurd h92 (by decide))
    refine Ev_aload rfl rfl rfl ?_
    refine Ev_const rfl ?_
    refine Ev_putI rfl (by first | rfl | assumption) ⟨rfl, rfl⟩ rfl ?_
    exact Ev_return rfl rfl rfl (tk_1 (by rw [e, hv1]))
  · rw [if_neg (fun z => hv1 z.2)]
    refine Ev_iload rfl rfl ?_
    refine Ev_if_ne rfl (fun h19 => ?_) (fun h19 => absurd h19 (by decide))
    refine Ev_iload rfl rfl ?_
    refine Ev_const rfl ?_
    refine Ev_icmp_ne rfl (fun h40 => ?_) (fun h40 => absurd h40 (by decide))
    refine Ev_iload rfl rfl ?_
    refine Ev_const rfl ?_
    refine Ev_icmp_ne rfl (fun h57 => absurd rfl h57) (fun h57 => ?_)
    refine Ev_iload rfl rfl ?_
    refine Ev_if_eq rfl (fun h62 => ?_) (fun h62 => absurd rfl h62)
    refine Ev_iload rfl rfl ?_
    refine Ev_const rfl ?_
    refine Ev_icmp_ne rfl (fun h77 => ?_) (fun h77 => absurd h77 (by decide))
    refine Ev_iload rfl rfl ?_
    refine Ev_const rfl ?_
    refine Ev_icmp_le rfl (fun h92 => ?_) (fun h92 => absurd h92 (by decide))
    refine Ev_aload rfl rfl rfl ?_
    refine Ev_const rfl ?_
    refine Ev_putI rfl (by first | rfl | assumption) ⟨rfl, rfl⟩ rfl ?_
    exact Ev_return rfl rfl rfl (tk_0 (by rw [e, show v = 0 by omega, Int.add_zero]; exact ha))
theorem m_tk3 (d : Nat) {b : Nat} {g v : Int} {σ : St} (hb : b ≤ 6) (hg : Bl g) (hv : Bd v) (ha : σ.2 326 107 = lI g) (hn : σ.1 326 108 = if b = 0 then 1 else 0) : T l X (d + 1) 289 [.ref 326, .int (nI 3), .long (lI v), .int (nI b)] 402 402 ρ σ (TkQ ρ σ (lI (qSt 3 b g v))) := by
  have e : qSt 3 b g v = g + v := rfl
  refine T_of rfl ?_
  refine m_tkTrue (d + 1) (k := 3) (by decide) hv ?_
  refine Ev_iload rfl rfl ?_
  refine Ev_if_ne rfl (fun h19 => ?_) (fun h19 => absurd h19 (by decide))
  refine Ev_iload rfl rfl ?_
  refine Ev_const rfl ?_
  refine Ev_icmp_ne rfl (fun h40 => ?_) (fun h40 => absurd h40 (by decide))
  refine Ev_iload rfl rfl ?_
  refine Ev_const rfl ?_
  refine Ev_icmp_ne rfl (fun h57 => ?_) (fun h57 => absurd h57 (by decide))
  refine Ev_iload rfl rfl ?_
  refine Ev_const rfl ?_
  refine Ev_icmp_ne rfl (fun h77 => absurd rfl h77) (fun h77 => ?_)
  refine Ev_aload rfl rfl rfl ?_
  refine Ev_dup rfl (fun _ q => nomatch q) ?_
  refine Ev_getL rfl (by first | rfl | assumption) ?_
  refine Ev_normL ha ?_
  refine Ev_lload rfl rfl ?_
  refine Ev_ladd rfl ?_
  refine Ev_normL (lI_add g v) ?_
  refine Ev_putL rfl (by first | rfl | assumption) rfl rfl ?_
  refine Ev_iload rfl rfl ?_
  refine Ev_const rfl ?_
  refine Ev_icmp_le rfl (fun h92 => ?_) (fun h92 => absurd h92 (by decide))
  refine Ev_aload rfl rfl rfl ?_
  refine Ev_const rfl ?_
  refine Ev_putI rfl (by first | rfl | assumption) ⟨rfl, rfl⟩ rfl ?_
  exact Ev_return rfl rfl rfl (tk_1 (by rw [e]))
theorem m_tk4 (d : Nat) {b : Nat} {g v : Int} {σ : St} (hb : b ≤ 6) (hg : Bl g) (hv : Bd v) (ha : σ.2 326 107 = lI g) (hn : σ.1 326 108 = if b = 0 then 1 else 0) : T l X (d + 1) 289 [.ref 326, .int (nI 4), .long (lI v), .int (nI b)] 402 402 ρ σ (TkQ ρ σ (lI (qSt 4 b g v))) := by
  have e : qSt 4 b g v = if b = 0 then v else if g < v then v else g := rfl
  refine T_of rfl ?_
  refine m_tkTrue (d + 1) (k := 4) (by decide) hv ?_
  refine Ev_iload rfl rfl ?_
  refine Ev_if_ne rfl (fun h19 => ?_) (fun h19 => absurd h19 (by decide))
  refine Ev_iload rfl rfl ?_
  refine Ev_const rfl ?_
  refine Ev_icmp_ne rfl (fun h40 => ?_) (fun h40 => absurd h40 (by decide))
  refine Ev_iload rfl rfl ?_
  refine Ev_const rfl ?_
  refine Ev_icmp_ne rfl (fun h57 => ?_) (fun h57 => absurd h57 (by decide))
  refine Ev_iload rfl rfl ?_
  refine Ev_const rfl ?_
  refine Ev_icmp_ne rfl (fun h77 => ?_) (fun h77 => absurd h77 (by decide))
  refine Ev_iload rfl rfl ?_
  refine Ev_const rfl ?_
  refine Ev_icmp_le rfl (fun h92 => absurd h92 (by decide)) (fun h92 => ?_)
  refine Ev_aload rfl rfl rfl ?_
  refine Ev_getI rfl (by first | rfl | assumption) ?_
  refine Ev_norm hn ?_
  refine Ev_if_ne rfl (fun h99 => ?_) (fun h99 => ?_)
  · refine Ev_aload rfl rfl rfl ?_
    refine Ev_lload rfl rfl ?_
    refine Ev_putL rfl (by first | rfl | assumption) rfl rfl ?_
    refine Ev_aload rfl rfl rfl ?_
    refine Ev_const rfl ?_
    refine Ev_putI rfl (by first | rfl | assumption) ⟨rfl, rfl⟩ rfl ?_
    exact Ev_return rfl rfl rfl (tk_1 (by rw [e, if_pos (Decidable.byContradiction fun z => h99 (if_neg z))]))
  · refine Ev_iload rfl rfl ?_
    refine Ev_const rfl ?_
    refine Ev_icmp_ne rfl (fun h104 => absurd rfl h104) (fun h104 => ?_)
    refine Ev_lload rfl rfl ?_
    refine Ev_aload rfl rfl rfl ?_
    refine Ev_getL rfl (by first | rfl | assumption) ?_
    refine Ev_normL ha ?_
    refine Ev_lcmp rfl ?_
    refine Ev_if_le rfl (fun h113 => ?_) (fun h113 => ?_)
    · refine Ev_aload rfl rfl rfl ?_
      refine Ev_const rfl ?_
      refine Ev_putI rfl (by first | rfl | assumption) ⟨rfl, rfl⟩ rfl ?_
      exact Ev_return rfl rfl rfl (tk_0 (by rw [e, if_neg (fun z => absurd (Decidable.not_not.mp h99) (by rw [if_pos z]; decide)), if_neg ((c_le (Bd_Bl hv) hg).mp h113)]; exact ha))
    · refine Ev_goto rfl ?_
      refine Ev_aload rfl rfl rfl ?_
      refine Ev_lload rfl rfl ?_
      refine Ev_putL rfl (by first | rfl | assumption) rfl rfl ?_
      refine Ev_aload rfl rfl rfl ?_
      refine Ev_const rfl ?_
      refine Ev_putI rfl (by first | rfl | assumption) ⟨rfl, rfl⟩ rfl ?_
      exact Ev_return rfl rfl rfl (tk_1 (by rw [e, if_neg (fun z => absurd (Decidable.not_not.mp h99) (by rw [if_pos z]; decide)), if_pos (Decidable.byContradiction fun z => h113 ((c_le (Bd_Bl hv) hg).mpr z))]))
theorem m_tk5 (d : Nat) {b : Nat} {g v : Int} {σ : St} (hb : b ≤ 6) (hg : Bl g) (hv : Bd v) (ha : σ.2 326 107 = lI g) (hn : σ.1 326 108 = if b = 0 then 1 else 0) : T l X (d + 1) 289 [.ref 326, .int (nI 5), .long (lI v), .int (nI b)] 402 402 ρ σ (TkQ ρ σ (lI (qSt 5 b g v))) := by
  have e : qSt 5 b g v = if b = 0 then v else if v < g then v else g := rfl
  refine T_of rfl ?_
  refine m_tkTrue (d + 1) (k := 5) (by decide) hv ?_
  refine Ev_iload rfl rfl ?_
  refine Ev_if_ne rfl (fun h19 => ?_) (fun h19 => absurd h19 (by decide))
  refine Ev_iload rfl rfl ?_
  refine Ev_const rfl ?_
  refine Ev_icmp_ne rfl (fun h40 => ?_) (fun h40 => absurd h40 (by decide))
  refine Ev_iload rfl rfl ?_
  refine Ev_const rfl ?_
  refine Ev_icmp_ne rfl (fun h57 => ?_) (fun h57 => absurd h57 (by decide))
  refine Ev_iload rfl rfl ?_
  refine Ev_const rfl ?_
  refine Ev_icmp_ne rfl (fun h77 => ?_) (fun h77 => absurd h77 (by decide))
  refine Ev_iload rfl rfl ?_
  refine Ev_const rfl ?_
  refine Ev_icmp_le rfl (fun h92 => absurd h92 (by decide)) (fun h92 => ?_)
  refine Ev_aload rfl rfl rfl ?_
  refine Ev_getI rfl (by first | rfl | assumption) ?_
  refine Ev_norm hn ?_
  refine Ev_if_ne rfl (fun h99 => ?_) (fun h99 => ?_)
  · refine Ev_aload rfl rfl rfl ?_
    refine Ev_lload rfl rfl ?_
    refine Ev_putL rfl (by first | rfl | assumption) rfl rfl ?_
    refine Ev_aload rfl rfl rfl ?_
    refine Ev_const rfl ?_
    refine Ev_putI rfl (by first | rfl | assumption) ⟨rfl, rfl⟩ rfl ?_
    exact Ev_return rfl rfl rfl (tk_1 (by rw [e, if_pos (Decidable.byContradiction fun z => h99 (if_neg z))]))
  · refine Ev_iload rfl rfl ?_
    refine Ev_const rfl ?_
    refine Ev_icmp_ne rfl (fun h104 => ?_) (fun h104 => absurd h104 (by decide))
    refine Ev_lload rfl rfl ?_
    refine Ev_aload rfl rfl rfl ?_
    refine Ev_getL rfl (by first | rfl | assumption) ?_
    refine Ev_normL ha ?_
    refine Ev_lcmp rfl ?_
    refine Ev_if_ge rfl (fun h125 => ?_) (fun h125 => ?_)
    · refine Ev_aload rfl rfl rfl ?_
      refine Ev_const rfl ?_
      refine Ev_putI rfl (by first | rfl | assumption) ⟨rfl, rfl⟩ rfl ?_
      exact Ev_return rfl rfl rfl (tk_0 (by rw [e, if_neg (fun z => absurd (Decidable.not_not.mp h99) (by rw [if_pos z]; decide)), if_neg ((c_le2 (Bd_Bl hv) hg).mp h125)]; exact ha))
    · refine Ev_aload rfl rfl rfl ?_
      refine Ev_lload rfl rfl ?_
      refine Ev_putL rfl (by first | rfl | assumption) rfl rfl ?_
      refine Ev_aload rfl rfl rfl ?_
      refine Ev_const rfl ?_
      refine Ev_putI rfl (by first | rfl | assumption) ⟨rfl, rfl⟩ rfl ?_
      exact Ev_return rfl rfl rfl (tk_1 (by rw [e, if_neg (fun z => absurd (Decidable.not_not.mp h99) (by rw [if_pos z]; decide)), if_pos (Decidable.byContradiction fun z => h125 ((c_le2 (Bd_Bl hv) hg).mpr z))]))
theorem m_qTakes (d : Nat) {k b : Nat} {g v : Int} {σ : St} (hk : k ≤ 5) (hb : b ≤ 6) (hg : Bl g) (hv : Bd v) (ha : σ.2 326 107 = lI g) (hn : σ.1 326 108 = if b = 0 then 1 else 0) (h01 : k ≤ 2 → v = 0 ∨ v = 1) : T l X (d + 1) 289 [.ref 326, .int (nI k), .long (lI v), .int (nI b)] 402 402 ρ σ (TkQ ρ σ (lI (qSt k b g v))) := by
  rcases (by omega : k = 0 ∨ k = 1 ∨ k = 2 ∨ k = 3 ∨ k = 4 ∨ k = 5) with rfl | rfl | rfl | rfl | rfl | rfl
  · exact m_tk0 d hb hg hv ha hn (h01 (by decide))
  · exact m_tk1 d hb hg hv ha hn (h01 (by decide))
  · exact m_tk2 d hb hg hv ha hn (h01 (by decide))
  · exact m_tk3 d hb hg hv ha hn
  · exact m_tk4 d hb hg hv ha hn
  · exact m_tk5 d hb hg hv ha hn
end S88zzo
