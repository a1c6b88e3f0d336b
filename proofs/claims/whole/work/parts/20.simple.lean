/-! The smallest methods of both sides. -/
def RF (ρ : Rf) : Prop := ∀ k j q, t0 k j = some q → ρ k j = some q
def bump (σ : St) (k w : Nat) : St := sI σ k (upd (σ.1 k) w (σ.1 k w + 1))
def Rs (r : Value) (ρ : Rf) (σ : St) : Po := fun v ρ' σ' => v = some r ∧ ρ' = ρ ∧ σ' = σ
def bI (b : Bool) : Int32 := bif b then 1 else 0
theorem narZ (b : Bool) : narrow .boolean (.int (bI b)) = .int (bI b) := by cases b <;> rfl
theorem fitZ (b : Bool) : narrow .boolean (.int (bI b)) = .int (bI b) ∧ fits .boolean (.int (bI b)) = true := by cases b <;> exact ⟨rfl, rfl⟩
theorem nlt_ge {x y : Int32} (h : ¬ x < y) : y ≤ x := by
  rw [Int32.lt_iff_toInt_lt] at h
  rw [Int32.le_iff_toInt_le]
  omega
theorem nle_lt {x y : Int32} (h : ¬ x ≤ y) : y < x := by
  rw [Int32.le_iff_toInt_le] at h
  rw [Int32.lt_iff_toInt_lt]
  omega
theorem ge_nlt {x y : Int32} (h : x < y) : ¬ y ≤ x := by
  rw [Int32.lt_iff_toInt_lt] at h
  rw [Int32.le_iff_toInt_le]
  omega
theorem ge_nlt' {x y : Int32} (h : y ≤ x) : ¬ x < y := by
  rw [Int32.le_iff_toInt_le] at h
  rw [Int32.lt_iff_toInt_lt]
  omega
theorem in_6 {x : Int32} (h : ¬ x < 0) (h2 : x < 6) : 0 ≤ x.toInt ∧ x.toInt < ((6 : Nat) : Int) := by
  rw [Int32.lt_iff_toInt_lt] at h h2
  exact ⟨by have : (0 : Int32).toInt = 0 := rfl; omega, by have : (6 : Int32).toInt = 6 := rfl; omega⟩
theorem vp_in_lt {x : Int32} {w N : Nat} (h : ¬ x < 0) (h2 : x < nI w) (hw : w ≤ N ∧ N < 2 ^ 31) : vp_in x N := by
  rw [vp_in_iff]
  rw [Int32.lt_iff_toInt_lt] at h h2
  rw [nI_toInt (by omega)] at h2
  exact ⟨by have : (0 : Int32).toInt = 0 := rfl; omega, by omega⟩
theorem bI_0 {p : Prop} [Decidable p] : bI (decide p) = 0 ↔ ¬ p := by
  by_cases h : p
  · rw [decide_eq_true h]
    exact ⟨fun q => absurd q (by decide), fun q => absurd h q⟩
  · rw [decide_eq_false h]
    exact ⟨fun _ => h, fun _ => rfl⟩
theorem sI_sI (σ : St) (k : Nat) (f g : Nat → Int32) : sI (sI σ k f) k g = sI σ k g := by
  unfold sI
  refine Prod.ext (funext fun q => ?_) rfl
  show (if q = k then g else if q = k then f else σ.1 q) = if q = k then g else σ.1 q
  by_cases h : q = k
  · rw [if_pos h, if_pos h]
  · rw [if_neg h, if_neg h, if_neg h]
theorem swP_c {P : Nat → Prop} {x : Int32} {t : Nat} {a : Int} {q : Nat} {r : List (Int × Nat)} (h : x.toInt = a → P q) (k : ¬ x.toInt = a → swP P x t r) : swP P x t ((a, q) :: r) := ⟨h, k⟩
theorem swP_n {P : Nat → Prop} {x : Int32} {t : Nat} (h : P t) : swP P x t [] := h
theorem sw_eq {x z : Int32} {a : Int} (h : x.toInt = a) (hz : z.toInt = a) : x = z := Int32.toInt_inj.mp (h.trans hz.symm)
section S20
variable {l : Launch} {X : Cx} {ρ : Rf} {σ : St}
theorem t_refuse (d : Nat) (hρ : RF ρ) {w : Nat} (hw : w < 6) : T l X d 147 [.ref 0, .int (nI w)] 402 402 ρ σ (Rs (.int (-1)) ρ (bump σ 325 w)) := by
  refine T_of rfl ?_
  refine Ev_iload rfl rfl ?_
  refine Ev_if_lt rfl (fun h1 => absurd h1 (nI_pos (by omega))) (fun h1 => ?_)
  refine Ev_iload rfl rfl ?_
  refine Ev_aload rfl rfl rfl ?_
  refine Ev_getR rfl (by first | rfl | assumption) (hρ _ _ _ rfl) ?_
  refine Ev_alen rfl rfl ?_
  refine Ev_icmp_ge rfl (fun h10 => absurd h10 (nI_ge hw (by decide))) (fun h10 => ?_)
  refine Ev_aload rfl rfl rfl ?_
  refine Ev_getR rfl (by first | rfl | assumption) (hρ _ _ _ rfl) ?_
  refine Ev_iload rfl rfl ?_
  refine Ev_dup2 rfl (fun _ q => nomatch q) (fun _ q => nomatch q) ?_
  refine Ev_iald rfl (by first | rfl | assumption) (vp_in_nI hw (by decide)) ?_
  refine Ev_const rfl ?_
  refine Ev_iadd rfl ?_
  refine Ev_iast rfl (by first | rfl | assumption) (vp_in_nI hw (by decide)) ?_
  refine Ev_const rfl ?_
  exact Ev_ireturn rfl rfl rfl rfl ⟨rfl, rfl, by rw [nI_clamp (by omega)]; rfl⟩
theorem m_refuses (d : Nat) (hρ : RF ρ) {w : Nat} (hw : w < 6) : T l X d 245 [.ref 326, .int (nI w)] 402 402 ρ σ (Rs (.int (-1)) ρ (bump σ 328 w)) := by
  refine T_of rfl ?_
  refine Ev_aload rfl rfl rfl ?_
  refine Ev_getR rfl (by first | rfl | assumption) (hρ _ _ _ rfl) ?_
  refine Ev_iload rfl rfl ?_
  refine Ev_dup2 rfl (fun _ q => nomatch q) (fun _ q => nomatch q) ?_
  refine Ev_iald rfl (by first | rfl | assumption) (vp_in_nI hw (by decide)) ?_
  refine Ev_const rfl ?_
  refine Ev_iadd rfl ?_
  refine Ev_iast rfl (by first | rfl | assumption) (vp_in_nI hw (by decide)) ?_
  refine Ev_const rfl ?_
  exact Ev_ireturn rfl rfl rfl rfl ⟨rfl, rfl, by rw [nI_clamp (by omega)]; rfl⟩
theorem m_isRefused (d : Nat) (hρ : RF ρ) : T l X d 255 [.ref 326] 402 402 ρ σ (Rs (.int 0) ρ (bump σ 328 2)) := by
  refine T_of rfl ?_
  refine Ev_aload rfl rfl rfl ?_
  refine Ev_getR rfl (by first | rfl | assumption) (hρ _ _ _ rfl) ?_
  refine Ev_const rfl ?_
  refine Ev_dup2 rfl (fun _ q => nomatch q) (fun _ q => nomatch q) ?_
  refine Ev_iald rfl (by first | rfl | assumption) (vp_in_nI (n := 2) (by decide) (by decide)) ?_
  refine Ev_const rfl ?_
  refine Ev_iadd rfl ?_
  refine Ev_iast rfl (by first | rfl | assumption) (vp_in_nI (n := 2) (by decide) (by decide)) ?_
  refine Ev_const rfl ?_
  exact Ev_ireturn rfl rfl rfl rfl ⟨rfl, rfl, rfl⟩
theorem t_endOk (d : Nat) {m k : Nat} (hm : σ.1 0 1 = nI m) (hm2 : m ≤ 1600) (hk : k ≤ m) : T l X d 105 [.ref 0, .int (nI k)] 402 402 ρ σ (Rs (.int 1) ρ (sI σ 0 (upd (σ.1 0) 1 (nI k)))) := by
  refine T_of rfl ?_
  refine Ev_iload rfl rfl ?_
  refine Ev_if_lt rfl (fun h1 => absurd h1 (nI_pos (by omega))) (fun h1 => ?_)
  refine Ev_iload rfl rfl ?_
  refine Ev_aload rfl rfl rfl ?_
  refine Ev_getI rfl (by first | rfl | assumption) ?_
  refine Ev_norm hm ?_
  refine Ev_icmp_le rfl (fun h9 => ?_) (fun h9 => absurd (nI_le hk (by omega)) h9)
  refine Ev_aload rfl rfl rfl ?_
  refine Ev_iload rfl rfl ?_
  refine Ev_putI rfl (by first | rfl | assumption) ⟨rfl, rfl⟩ rfl ?_
  refine Ev_const rfl ?_
  exact Ev_ireturn rfl rfl rfl rfl ⟨rfl, rfl, rfl⟩
theorem t_endNo (d : Nat) (hρ : RF ρ) {x : Int32} (hx : x < 0 ∨ ¬ x ≤ σ.1 0 1) : T l X (d + 1) 105 [.ref 0, .int x] 402 402 ρ σ (Rs (.int 0) ρ (bump σ 325 0)) := by
  refine T_of rfl ?_
  refine Ev_iload rfl rfl ?_
  refine Ev_if_lt rfl (fun h1 => ?_) (fun h1 => ?_)
  · refine Ev_aload rfl rfl rfl ?_
    refine Ev_const rfl ?_
    refine Ev_callV rfl rfl rfl rfl rfl (same_n 402) (t_refuse _ hρ (w := 0) (by decide)) ?_
    rintro v14 ρ14 σ14 ⟨rfl, e14, g14⟩
    obtain rfl := e14.symm
    obtain rfl := g14.symm
    refine Ev_pop rfl (fun _ q => nomatch q) ?_
    refine Ev_const rfl ?_
    exact Ev_ireturn rfl rfl rfl rfl ⟨rfl, rfl, rfl⟩
  · refine Ev_iload rfl rfl ?_
    refine Ev_aload rfl rfl rfl ?_
    refine Ev_getI rfl (by first | rfl | assumption) ?_
    refine Ev_icmp_le rfl (fun h9 => (hx.elim (fun q => absurd q h1) (fun q => absurd h9 q))) (fun h9 => ?_)
    refine Ev_aload rfl rfl rfl ?_
    refine Ev_const rfl ?_
    refine Ev_callV rfl rfl rfl rfl rfl (same_n 402) (t_refuse _ hρ (w := 0) (by decide)) ?_
    rintro v14 ρ14 σ14 ⟨rfl, e14, g14⟩
    obtain rfl := e14.symm
    obtain rfl := g14.symm
    refine Ev_pop rfl (fun _ q => nomatch q) ?_
    refine Ev_const rfl ?_
    exact Ev_ireturn rfl rfl rfl rfl ⟨rfl, rfl, rfl⟩
theorem m_endOk (d : Nat) {m k : Nat} (hm : σ.1 326 1 = nI m) (hm2 : m ≤ 1600) (hk : k ≤ m) : T l X d 166 [.ref 326, .int (nI k)] 402 402 ρ σ (Rs (.int 1) ρ (sI σ 326 (upd (σ.1 326) 1 (nI k)))) := by
  refine T_of rfl ?_
  refine Ev_iload rfl rfl ?_
  refine Ev_if_lt rfl (fun h1 => absurd h1 (nI_pos (by omega))) (fun h1 => ?_)
  refine Ev_iload rfl rfl ?_
  refine Ev_aload rfl rfl rfl ?_
  refine Ev_getI rfl (by first | rfl | assumption) ?_
  refine Ev_norm hm ?_
  refine Ev_icmp_le rfl (fun h9 => ?_) (fun h9 => absurd (nI_le hk (by omega)) h9)
  refine Ev_aload rfl rfl rfl ?_
  refine Ev_iload rfl rfl ?_
  refine Ev_putI rfl (by first | rfl | assumption) ⟨rfl, rfl⟩ rfl ?_
  refine Ev_const rfl ?_
  exact Ev_ireturn rfl rfl rfl rfl ⟨rfl, rfl, rfl⟩
theorem m_endNo (d : Nat) (hρ : RF ρ) {x : Int32} (hx : x < 0 ∨ ¬ x ≤ σ.1 326 1) : T l X d 166 [.ref 326, .int x] 402 402 ρ σ (Rs (.int 0) ρ (bump σ 328 0)) := by
  refine T_of rfl ?_
  refine Ev_iload rfl rfl ?_
  refine Ev_if_lt rfl (fun h1 => ?_) (fun h1 => ?_)
  · refine Ev_aload rfl rfl rfl ?_
    refine Ev_getR rfl (by first | rfl | assumption) (hρ _ _ _ rfl) ?_
    refine Ev_const rfl ?_
    refine Ev_dup2 rfl (fun _ q => nomatch q) (fun _ q => nomatch q) ?_
    refine Ev_iald rfl (by first | rfl | assumption) (vp_in_nI (n := 0) (by decide) (by decide)) ?_
    refine Ev_const rfl ?_
    refine Ev_iadd rfl ?_
    refine Ev_iast rfl (by first | rfl | assumption) (vp_in_nI (n := 0) (by decide) (by decide)) ?_
    refine Ev_const rfl ?_
    exact Ev_ireturn rfl rfl rfl rfl ⟨rfl, rfl, rfl⟩
  · refine Ev_iload rfl rfl ?_
    refine Ev_aload rfl rfl rfl ?_
    refine Ev_getI rfl (by first | rfl | assumption) ?_
    refine Ev_icmp_le rfl (fun h9 => (hx.elim (fun q => absurd q h1) (fun q => absurd h9 q))) (fun h9 => ?_)
    refine Ev_aload rfl rfl rfl ?_
    refine Ev_getR rfl (by first | rfl | assumption) (hρ _ _ _ rfl) ?_
    refine Ev_const rfl ?_
    refine Ev_dup2 rfl (fun _ q => nomatch q) (fun _ q => nomatch q) ?_
    refine Ev_iald rfl (by first | rfl | assumption) (vp_in_nI (n := 0) (by decide) (by decide)) ?_
    refine Ev_const rfl ?_
    refine Ev_iadd rfl ?_
    refine Ev_iast rfl (by first | rfl | assumption) (vp_in_nI (n := 0) (by decide) (by decide)) ?_
    refine Ev_const rfl ?_
    exact Ev_ireturn rfl rfl rfl rfl ⟨rfl, rfl, rfl⟩
theorem in_1 {v a b : Int64} (h : v < a) : decide (a ≤ v ∧ v ≤ b) = false := by
  apply decide_eq_false
  rw [Int64.le_iff_toInt_le]
  rw [Int64.lt_iff_toInt_lt] at h
  omega
theorem in_2 {v a b : Int64} (h : b < v) : decide (a ≤ v ∧ v ≤ b) = false := by
  apply decide_eq_false
  rw [Int64.le_iff_toInt_le, Int64.le_iff_toInt_le]
  rw [Int64.lt_iff_toInt_lt] at h
  omega
theorem in_3 {v a b : Int64} (h : ¬ v < a) (h2 : ¬ b < v) : decide (a ≤ v ∧ v ≤ b) = true := by
  apply decide_eq_true
  rw [Int64.le_iff_toInt_le, Int64.le_iff_toInt_le]
  rw [Int64.lt_iff_toInt_lt] at h h2
  omega
theorem m_isIn (d : Nat) (v a b : Int64) : T l X d 163 [.long v, .long a, .long b] 402 402 ρ σ (Rs (.int (bI (decide (a ≤ v ∧ v ≤ b)))) ρ σ) := by
  refine T_of rfl ?_
  refine Ev_lload rfl rfl ?_
  refine Ev_lload rfl rfl ?_
  refine Ev_lcmp rfl ?_
  refine Ev_if_lt rfl (fun h3 => ?_) (fun h3 => ?_)
  · refine Ev_const rfl ?_
    exact Ev_ireturn rfl rfl rfl rfl ⟨by rw [in_1 ((lc_lt v a).mp h3)]; rfl, rfl, rfl⟩
  · refine Ev_lload rfl rfl ?_
    refine Ev_lload rfl rfl ?_
    refine Ev_lcmp rfl ?_
    refine Ev_if_gt rfl (fun h10 => ?_) (fun h10 => ?_)
    · refine Ev_const rfl ?_
      exact Ev_ireturn rfl rfl rfl rfl ⟨by rw [in_2 ((lc_gt v b).mp h10)]; rfl, rfl, rfl⟩
    · refine Ev_const rfl ?_
      refine Ev_goto rfl ?_
      exact Ev_ireturn rfl rfl rfl rfl ⟨by rw [in_3 (fun q => h3 ((lc_lt v a).mpr q)) (fun q => h10 ((lc_gt v b).mpr q))]; rfl, rfl, rfl⟩
theorem lc_ge (x y : Int64) : 0 ≤ lg_cmp x y ↔ ¬ x < y := by
  rw [← lc_lt, Int32.le_iff_toInt_le, Int32.lt_iff_toInt_lt]
  omega
theorem lc_le (x y : Int64) : lg_cmp x y ≤ 0 ↔ ¬ y < x := by
  rw [← lc_gt, Int32.le_iff_toInt_le, Int32.lt_iff_toInt_lt]
  omega
theorem nlt_le {x y : Int32} (h : ¬ x ≤ y) : y < x := by
  rw [Int32.le_iff_toInt_le] at h
  rw [Int32.lt_iff_toInt_lt]
  omega
theorem m_cut (d : Nat) (v : Int64) (a b : Int32) : T l X d 164 [.long v, .int a, .int b] 402 402 ρ σ (Rs (.int (if v < a.toInt64 then a else if b.toInt64 < v then b else v.toInt32)) ρ σ) := by
  refine T_of rfl ?_
  refine Ev_lload rfl rfl ?_
  refine Ev_iload rfl rfl ?_
  refine Ev_i2l rfl ?_
  refine Ev_lcmp rfl ?_
  refine Ev_if_ge rfl (fun h4 => ?_) (fun h4 => ?_)
  · refine Ev_lload rfl rfl ?_
    refine Ev_iload rfl rfl ?_
    refine Ev_i2l rfl ?_
    refine Ev_lcmp rfl ?_
    refine Ev_if_le rfl (fun h15 => ?_) (fun h15 => ?_)
    · refine Ev_lload rfl rfl ?_
      refine Ev_l2i rfl ?_
      exact Ev_ireturn rfl rfl rfl rfl ⟨by rw [if_neg ((lc_ge _ _).mp h4), if_neg ((lc_le _ _).mp h15)], rfl, rfl⟩
    · refine Ev_iload rfl rfl ?_
      refine Ev_goto rfl ?_
      exact Ev_ireturn rfl rfl rfl rfl ⟨by rw [if_neg ((lc_ge _ _).mp h4), if_pos ((lc_gt _ _).mp (nlt_le h15))], rfl, rfl⟩
  · refine Ev_iload rfl rfl ?_
    refine Ev_goto rfl ?_
    exact Ev_ireturn rfl rfl rfl rfl ⟨by rw [if_pos ((lc_lt _ _).mp (nlt_le h4))], rfl, rfl⟩
theorem t_fault (d : Nat) (x : Int32) : T l X d 107 [.ref 0, .int x] 402 402 ρ σ (Rs (.int (if x = 0 then σ.1 0 14 else if x = 1 then σ.1 0 15 else -1)) ρ σ) := by
  refine T_of rfl ?_
  refine Ev_iload rfl rfl ?_
  refine Ev_look rfl rfl (swP_c (fun h1_0 => ?_) (fun g1_0 => swP_c (fun h1_1 => ?_) (fun g1_1 => swP_n ?_)))
  · refine Ev_aload rfl rfl rfl ?_
    refine Ev_getI rfl (by first | rfl | assumption) ?_
    exact Ev_ireturn rfl rfl rfl rfl ⟨by rw [if_pos (sw_eq h1_0 rfl)], rfl, rfl⟩
  · refine Ev_aload rfl rfl rfl ?_
    refine Ev_getI rfl (by first | rfl | assumption) ?_
    exact Ev_ireturn rfl rfl rfl rfl ⟨by rw [if_neg (fun q => g1_0 (by rw [q]; rfl)), if_pos (sw_eq h1_1 rfl)], rfl, rfl⟩
  · refine Ev_const rfl ?_
    exact Ev_ireturn rfl rfl rfl rfl ⟨by rw [if_neg (fun q => g1_0 (by rw [q]; rfl)), if_neg (fun q => g1_1 (by rw [q]; rfl))], rfl, rfl⟩
theorem m_fault (d : Nat) (x : Int32) : T l X d 191 [.ref 326, .int x] 402 402 ρ σ (Rs (.int (if x = 0 then σ.1 326 7 else if x = 1 then σ.1 326 8 else -1)) ρ σ) := by
  refine T_of rfl ?_
  refine Ev_iload rfl rfl ?_
  refine Ev_if_ne rfl (fun h1 => ?_) (fun h1 => ?_)
  · refine Ev_iload rfl rfl ?_
    refine Ev_const rfl ?_
    refine Ev_icmp_ne rfl (fun h13 => ?_) (fun h13 => ?_)
    · refine Ev_const rfl ?_
      exact Ev_ireturn rfl rfl rfl rfl ⟨by rw [if_neg h1, if_neg h13], rfl, rfl⟩
    · refine Ev_aload rfl rfl rfl ?_
      refine Ev_getI rfl (by first | rfl | assumption) ?_
      refine Ev_goto rfl ?_
      exact Ev_ireturn rfl rfl rfl rfl ⟨by rw [if_neg h1, if_pos (Decidable.not_not.mp h13)], rfl, rfl⟩
  · refine Ev_aload rfl rfl rfl ?_
    refine Ev_getI rfl (by first | rfl | assumption) ?_
    refine Ev_goto rfl ?_
    exact Ev_ireturn rfl rfl rfl rfl ⟨by rw [if_pos (Decidable.not_not.mp h1)], rfl, rfl⟩
theorem t_status (d : Nat) (hρ : RF ρ) (x : Int32) : T l X d 146 [.ref 0, .int x] 402 402 ρ σ (Rs (.int (if x < 0 ∨ 6 ≤ x then -1 else σ.1 325 x.toNatClampNeg)) ρ σ) := by
  refine T_of rfl ?_
  refine Ev_iload rfl rfl ?_
  refine Ev_if_lt rfl (fun h1 => ?_) (fun h1 => ?_)
  · refine Ev_const rfl ?_
    refine Ev_goto rfl ?_
    exact Ev_ireturn rfl rfl rfl rfl ⟨by rw [if_pos (Or.inl h1)], rfl, rfl⟩
  · refine Ev_iload rfl rfl ?_
    refine Ev_aload rfl rfl rfl ?_
    refine Ev_getR rfl (by first | rfl | assumption) (hρ _ _ _ rfl) ?_
    refine Ev_alen rfl rfl ?_
    refine Ev_icmp_lt rfl (fun h10 => ?_) (fun h10 => ?_)
    · refine Ev_aload rfl rfl rfl ?_
      refine Ev_getR rfl (by first | rfl | assumption) (hρ _ _ _ rfl) ?_
      refine Ev_iload rfl rfl ?_
      refine Ev_iald rfl (by first | rfl | assumption) (vp_in_iff.mpr (in_6 h1 h10)) ?_
      exact Ev_ireturn rfl rfl rfl rfl ⟨by rw [if_neg (fun q => q.elim h1 (ge_nlt h10))], rfl, rfl⟩
    · refine Ev_const rfl ?_
      refine Ev_goto rfl ?_
      exact Ev_ireturn rfl rfl rfl rfl ⟨by rw [if_pos (Or.inr (show (6 : Int32) ≤ x from nlt_ge h10))], rfl, rfl⟩
theorem m_status (d : Nat) (hρ : RF ρ) (x : Int32) : T l X (d + 1) 297 [.ref 326, .int x] 402 402 ρ σ (Rs (.int (if x < 0 ∨ 6 ≤ x then -1 else σ.1 328 x.toNatClampNeg)) ρ σ) := by
  have hc : bI (decide ((0 : Int64) ≤ x.toInt64 ∧ x.toInt64 ≤ 5)) = 0 ↔ (x < 0 ∨ 6 ≤ x) := by
    rw [bI_0, Int64.le_iff_toInt_le, Int64.le_iff_toInt_le, Int32.toInt_toInt64, Int32.lt_iff_toInt_lt, Int32.le_iff_toInt_le]
    show ¬ ((0 : Int) ≤ x.toInt ∧ x.toInt ≤ 5) ↔ (x.toInt < 0 ∨ 6 ≤ x.toInt)
    omega
  refine T_of rfl ?_
  refine Ev_iload rfl rfl ?_
  refine Ev_i2l rfl ?_
  refine Ev_constL rfl ?_
  refine Ev_constL rfl ?_
  refine Ev_callS rfl rfl rfl rfl (same_n 402) (m_isIn _ _ _ _) ?_
  rintro v6 ρ6 σ6 ⟨rfl, e6, g6⟩
  obtain rfl := e6.symm
  obtain rfl := g6.symm
  refine Ev_if_eq rfl (fun h9 => ?_) (fun h9 => ?_)
  · refine Ev_const rfl ?_
    exact Ev_ireturn rfl rfl rfl rfl ⟨by rw [if_pos (hc.mp h9)], rfl, rfl⟩
  · refine Ev_aload rfl rfl rfl ?_
    refine Ev_getR rfl (by first | rfl | assumption) (hρ _ _ _ rfl) ?_
    refine Ev_iload rfl rfl ?_
    refine Ev_iald rfl (by first | rfl | assumption) (vp_in_iff.mpr (in_6 (fun q => h9 (hc.mpr (Or.inl q))) (nle_lt (fun q => h9 (hc.mpr (Or.inr q)))))) ?_
    refine Ev_goto rfl ?_
    exact Ev_ireturn rfl rfl rfl rfl ⟨by rw [if_neg (fun q => h9 (hc.mpr q))], rfl, rfl⟩
theorem t_octet (d : Nat) (hρ : RF ρ) {w : Nat} (hw : σ.1 0 12 = nI w) (hw2 : w ≤ 83) (x : Int32) : T l X d 143 [.ref 0, .int x] 402 402 ρ σ (Rs (.int (if x < 0 ∨ nI w ≤ x then -1 else σ.1 324 x.toNatClampNeg &&& 255)) ρ σ) := by
  refine T_of rfl ?_
  refine Ev_iload rfl rfl ?_
  refine Ev_if_lt rfl (fun h1 => ?_) (fun h1 => ?_)
  · refine Ev_const rfl ?_
    refine Ev_goto rfl ?_
    exact Ev_ireturn rfl rfl rfl rfl ⟨by rw [if_pos (Or.inl h1)], rfl, rfl⟩
  · refine Ev_iload rfl rfl ?_
    refine Ev_aload rfl rfl rfl ?_
    refine Ev_getI rfl (by first | rfl | assumption) ?_
    refine Ev_norm hw ?_
    refine Ev_icmp_lt rfl (fun h9 => ?_) (fun h9 => ?_)
    · refine Ev_aload rfl rfl rfl ?_
      refine Ev_getR rfl (by first | rfl | assumption) (hρ _ _ _ rfl) ?_
      refine Ev_iload rfl rfl ?_
      refine Ev_bald rfl (by first | rfl | assumption) (vp_in_lt h1 h9 ⟨Nat.le_trans hw2 (by decide), by decide⟩) ?_
      refine Ev_const rfl ?_
      refine Ev_iand rfl ?_
      exact Ev_ireturn rfl rfl rfl rfl ⟨by rw [if_neg (fun q => q.elim h1 (ge_nlt h9))], rfl, rfl⟩
    · refine Ev_const rfl ?_
      refine Ev_goto rfl ?_
      exact Ev_ireturn rfl rfl rfl rfl ⟨by rw [if_pos (Or.inr (nlt_ge h9))], rfl, rfl⟩
theorem m_octet (d : Nat) (hρ : RF ρ) {w : Nat} (hw : σ.1 326 110 = nI w) (hw2 : w ≤ 83) (x : Int32) : T l X d 294 [.ref 326, .int x] 402 402 ρ σ (Rs (.int (if x < 0 ∨ nI w ≤ x then -1 else σ.1 401 x.toNatClampNeg)) ρ σ) := by
  refine T_of rfl ?_
  refine Ev_iload rfl rfl ?_
  refine Ev_if_lt rfl (fun h1 => ?_) (fun h1 => ?_)
  · refine Ev_const rfl ?_
    exact Ev_ireturn rfl rfl rfl rfl ⟨by rw [if_pos (Or.inl h1)], rfl, rfl⟩
  · refine Ev_iload rfl rfl ?_
    refine Ev_aload rfl rfl rfl ?_
    refine Ev_getI rfl (by first | rfl | assumption) ?_
    refine Ev_norm hw ?_
    refine Ev_icmp_ge rfl (fun h9 => ?_) (fun h9 => ?_)
    · refine Ev_const rfl ?_
      exact Ev_ireturn rfl rfl rfl rfl ⟨by rw [if_pos (Or.inr h9)], rfl, rfl⟩
    · refine Ev_aload rfl rfl rfl ?_
      refine Ev_getR rfl (by first | rfl | assumption) (hρ _ _ _ rfl) ?_
      refine Ev_iload rfl rfl ?_
      refine Ev_iald rfl (by first | rfl | assumption) (vp_in_lt h1 (nle_lt h9) ⟨Nat.le_trans hw2 (by decide), by decide⟩) ?_
      refine Ev_goto rfl ?_
      exact Ev_ireturn rfl rfl rfl rfl ⟨by rw [if_neg (fun q => q.elim h1 h9)], rfl, rfl⟩
theorem t_seed (d : Nat) (hρ : RF ρ) (x : Int32) (h0 : ¬ x < 0) : T l X d 138 [.ref 0, .int x] 402 402 ρ σ (Rs (.int 1) ρ (sI σ 0 (upd (σ.1 0) 16 x))) := by
  refine T_of rfl ?_
  refine Ev_iload rfl rfl ?_
  refine Ev_if_ge rfl (fun h1 => ?_) (fun h1 => absurd (nlt_ge h0) h1)
  refine Ev_aload rfl rfl rfl ?_
  refine Ev_iload rfl rfl ?_
  refine Ev_putI rfl (by first | rfl | assumption) ⟨rfl, rfl⟩ rfl ?_
  refine Ev_const rfl ?_
  exact Ev_ireturn rfl rfl rfl rfl ⟨rfl, rfl, rfl⟩
theorem t_seedNo (d : Nat) (hρ : RF ρ) (x : Int32) (h0 : x < 0) : T l X (d + 1) 138 [.ref 0, .int x] 402 402 ρ σ (Rs (.int 0) ρ (bump σ 325 5)) := by
  refine T_of rfl ?_
  refine Ev_iload rfl rfl ?_
  refine Ev_if_ge rfl (fun h1 => absurd h0 (ge_nlt' h1)) (fun h1 => ?_)
  refine Ev_aload rfl rfl rfl ?_
  refine Ev_const rfl ?_
  refine Ev_callV rfl rfl rfl rfl rfl (same_n 402) (t_refuse _ hρ (w := 5) (by decide)) ?_
  rintro v6 ρ6 σ6 ⟨rfl, e6, g6⟩
  obtain rfl := e6.symm
  obtain rfl := g6.symm
  refine Ev_pop rfl (fun _ q => nomatch q) ?_
  refine Ev_const rfl ?_
  exact Ev_ireturn rfl rfl rfl rfl ⟨rfl, rfl, rfl⟩
theorem m_seed (d : Nat) (hρ : RF ρ) (x : Int32) (h0 : ¬ x < 0) : T l X d 259 [.ref 326, .int x] 402 402 ρ σ (Rs (.int 1) ρ (sL σ 326 (vp_updL (σ.2 326) 75 x.toInt64))) := by
  refine T_of rfl ?_
  refine Ev_iload rfl rfl ?_
  refine Ev_if_ge rfl (fun h1 => ?_) (fun h1 => absurd (nlt_ge h0) h1)
  refine Ev_aload rfl rfl rfl ?_
  refine Ev_iload rfl rfl ?_
  refine Ev_i2l rfl ?_
  refine Ev_putL rfl (by first | rfl | assumption) rfl rfl ?_
  refine Ev_const rfl ?_
  exact Ev_ireturn rfl rfl rfl rfl ⟨rfl, rfl, rfl⟩
theorem m_seedNo (d : Nat) (hρ : RF ρ) (x : Int32) (h0 : x < 0) : T l X d 259 [.ref 326, .int x] 402 402 ρ σ (Rs (.int 0) ρ (bump σ 328 5)) := by
  refine T_of rfl ?_
  refine Ev_iload rfl rfl ?_
  refine Ev_if_ge rfl (fun h1 => absurd h0 (ge_nlt' h1)) (fun h1 => ?_)
  refine Ev_aload rfl rfl rfl ?_
  refine Ev_getR rfl (by first | rfl | assumption) (hρ _ _ _ rfl) ?_
  refine Ev_const rfl ?_
  refine Ev_dup2 rfl (fun _ q => nomatch q) (fun _ q => nomatch q) ?_
  refine Ev_iald rfl (by first | rfl | assumption) (vp_in_nI (n := 5) (by decide) (by decide)) ?_
  refine Ev_const rfl ?_
  refine Ev_iadd rfl ?_
  refine Ev_iast rfl (by first | rfl | assumption) (vp_in_nI (n := 5) (by decide) (by decide)) ?_
  refine Ev_const rfl ?_
  exact Ev_ireturn rfl rfl rfl rfl ⟨rfl, rfl, rfl⟩
theorem t_takeTape (d : Nat) : T l X d 148 [.ref 0] 402 402 ρ σ (Rs (.int (σ.1 0 1)) ρ (sI σ 0 (upd (σ.1 0) 1 0))) := by
  refine T_of rfl ?_
  refine Ev_aload rfl rfl rfl ?_
  refine Ev_getI rfl (by first | rfl | assumption) ?_
  refine Ev_istore rfl ?_
  refine Ev_aload rfl rfl rfl ?_
  refine Ev_const rfl ?_
  refine Ev_putI rfl (by first | rfl | assumption) ⟨rfl, rfl⟩ rfl ?_
  refine Ev_iload rfl rfl ?_
  exact Ev_ireturn rfl rfl rfl rfl ⟨rfl, rfl, rfl⟩
theorem t_noteFault (d : Nat) (hρ : RF ρ) : T l X d 150 [.ref 0] 402 402 ρ σ (fun v ρ' σ' => v = none ∧ ρ' = ρ ∧ σ' = sI σ 0 (upd (upd (σ.1 0) 14 (σ.1 316 6)) 15 (σ.1 316 7))) := by
  refine T_of rfl ?_
  refine Ev_aload rfl rfl rfl ?_
  refine Ev_aload rfl rfl rfl ?_
  refine Ev_getR rfl (by first | rfl | assumption) (hρ _ _ _ rfl) ?_
  refine Ev_getI rfl (by first | rfl | assumption) ?_
  refine Ev_putI rfl (by first | rfl | assumption) ⟨rfl, rfl⟩ rfl ?_
  refine Ev_aload rfl rfl rfl ?_
  refine Ev_aload rfl rfl rfl ?_
  refine Ev_getR rfl (by first | rfl | assumption) (hρ _ _ _ rfl) ?_
  refine Ev_getI rfl (by first | rfl | assumption) ?_
  refine Ev_putI rfl (by first | rfl | assumption) ⟨rfl, rfl⟩ rfl ?_
  exact Ev_return rfl rfl rfl ⟨rfl, rfl, sI_sI _ _ _ _⟩
theorem t_tapeByte (d : Nat) (hρ : RF ρ) {k : Nat} (hk : k < 1600) : T l X d 149 [.ref 0, .int (nI k)] 402 402 ρ σ (Rs (.int (σ.1 1 k &&& 255)) ρ σ) := by
  refine T_of rfl ?_
  refine Ev_iload rfl rfl ?_
  refine Ev_if_lt rfl (fun h1 => absurd h1 (nI_pos (by omega))) (fun h1 => ?_)
  refine Ev_iload rfl rfl ?_
  refine Ev_const rfl ?_
  refine Ev_icmp_lt rfl (fun h8 => ?_) (fun h8 => absurd (nI_lt hk (by omega)) h8)
  refine Ev_aload rfl rfl rfl ?_
  refine Ev_getR rfl (by first | rfl | assumption) (hρ _ _ _ rfl) ?_
  refine Ev_iload rfl rfl ?_
  refine Ev_bald rfl (by first | rfl | assumption) (vp_in_nI hk (by decide)) ?_
  refine Ev_const rfl ?_
  refine Ev_iand rfl ?_
  exact Ev_ireturn rfl rfl rfl rfl ⟨by rw [nI_clamp (by omega)], rfl, rfl⟩
end S20
