/-! Numbers on the pile: what orders of one and of two values make of them. -/
def iI (z : Int) : Int32 := Int32.ofInt z
theorem iI_to (x : Int32) : iI x.toInt = x := Int32.ofInt_toInt x
theorem iI_eq {x : Int32} {z : Int} (h : x.toInt = z) : x = iI z := by rw [← h, iI_to]
theorem to_iI {z : Int} (h : -2147483648 ≤ z ∧ z < 2147483648) : (iI z).toInt = z := Int32.toInt_ofInt_of_le (by omega) (by omega)
theorem bm32 {z : Int} (h : -2147483648 ≤ z ∧ z < 2147483648) : z.bmod (2 ^ 32) = z := Int.bmod_eq_of_le_mul_two (by omega) (by omega)
theorem bm64 {z : Int} (h : -9223372036854775808 ≤ z ∧ z < 9223372036854775808) : z.bmod (2 ^ 64) = z := Int.bmod_eq_of_le_mul_two (by omega) (by omega)
def Bd (z : Int) : Prop := -1000000 ≤ z ∧ z ≤ 1000000
def clip (z : Int) : Int := if 1000000 < z then 1000000 else if z < -1000000 then -1000000 else z
def flo (a b : Int) : Int := if b = 0 then 0 else if ¬ a.tmod b = 0 ∧ ¬ (a < 0 ↔ b < 0) then a.tdiv b - 1 else a.tdiv b
def two (o a b : Int) : Int :=
  if o = 36 then clip (a + b) else if o = 37 then clip (a - b) else if o = 38 then clip (a * b) else if o = 39 then flo a b
  else if o = 40 then (if a < b then 1 else 0) else if o = 41 then (if b < a then 1 else 0) else if o = 42 then (if a = b then 1 else 0)
  else if o = 43 then a * b else if o = 44 then (if 0 < a + b then 1 else 0) else if o = 45 then (if a < b then a else b) else if o = 46 then (if b < a then a else b) else 0
theorem Bd_clip (z : Int) : Bd (clip z) := by
  unfold clip
  by_cases h : 1000000 < z
  · rw [if_pos h]; exact ⟨by omega, by omega⟩
  · rw [if_neg h]
    by_cases h2 : z < -1000000
    · rw [if_pos h2]; exact ⟨by omega, by omega⟩
    · rw [if_neg h2]; exact ⟨by omega, by omega⟩
theorem clip_id {z : Int} (h : Bd z) : clip z = z := by
  obtain ⟨h1, h2⟩ := h
  unfold clip
  rw [if_neg (by omega), if_neg (by omega)]
theorem tdiv_le (a b : Int) : (a.tdiv b).natAbs ≤ a.natAbs := by rw [Int.natAbs_tdiv]; exact Nat.div_le_self _ _
theorem tmod_le (a b : Int) : (a.tmod b).natAbs ≤ a.natAbs := by rw [Int.natAbs_tmod]; exact Nat.mod_le _ _
theorem Bd_flo {a b : Int} (ha : Bd a) : Bd (flo a b) := by
  obtain ⟨h1, h2⟩ := ha
  have h3 := tdiv_le a b
  unfold flo
  by_cases hb : b = 0
  · rw [if_pos hb]; exact ⟨by omega, by omega⟩
  · rw [if_neg hb]
    by_cases h4 : ¬ a.tmod b = 0 ∧ ¬ (a < 0 ↔ b < 0)
    · rw [if_pos h4]
      have h5 : (a.tdiv b).natAbs ≤ 500000 := by
        rw [Int.natAbs_tdiv]
        have h6 : 2 ≤ b.natAbs := by
          rcases Nat.lt_or_ge b.natAbs 2 with h | h
          · exfalso
            apply h4.1
            have h7 : b.natAbs = 1 := by omega
            have h8 := Int.natAbs_tmod a b
            rw [h7, Nat.mod_one] at h8
            omega
          · exact h
        have h7 : a.natAbs / b.natAbs ≤ a.natAbs / 2 := Nat.div_le_div_left h6 (by decide)
        show a.natAbs / b.natAbs ≤ 500000
        omega
      exact ⟨by omega, by omega⟩
    · rw [if_neg h4]
      exact ⟨by omega, by omega⟩
theorem Bd_mul {a b : Int} (ha : Bd a) (hb : Bd b) : -1000000000000 ≤ a * b ∧ a * b ≤ 1000000000000 := by
  have h : (a * b).natAbs ≤ 1000000 * 1000000 := by
    rw [Int.natAbs_mul]
    exact Nat.mul_le_mul (by obtain ⟨_, _⟩ := ha; omega) (by obtain ⟨_, _⟩ := hb; omega)
  omega
section S21
variable {l : Launch} {X : Cx} {ρ : Rf} {σ : St}
theorem v_tail {d : Nat} {g : Int64} {o x y : Int32} {z : Int} {Q : Po} (hz : g.toInt = z) (hb : -1000000000000 ≤ z ∧ z ≤ 1000000000000) (hq : Q (some (.int (iI (clip z)))) ρ σ) : Ev l X d 73 195 [.int o, .int x, .int y, .long g, .float 0] [] 402 402 402 ρ σ Q := by
  have hA : (1000000 : Int64).toInt = 1000000 := by decide
  have hB : (-1000000 : Int64).toInt = -1000000 := by decide
  refine Ev_lload rfl rfl ?_
  refine Ev_constL rfl ?_
  refine Ev_lcmp rfl ?_
  refine Ev_if_le rfl (fun h200 => ?_) (fun h200 => ?_)
  · refine Ev_lload rfl rfl ?_
    refine Ev_constL rfl ?_
    refine Ev_lcmp rfl ?_
    refine Ev_if_ge rfl (fun h211 => ?_) (fun h211 => ?_)
    · refine Ev_lload rfl rfl ?_
      refine Ev_l2i rfl ?_
      exact Ev_ireturn rfl rfl rfl rfl (by
        have e : g.toInt32 = iI (clip z) := by
          apply iI_eq
          rw [lc_le, Int64.lt_iff_toInt_lt] at h200
          rw [lc_ge, Int64.lt_iff_toInt_lt] at h211
          rw [Int64.toInt_toInt32, hz, bm32 (by omega), clip_id ⟨by omega, by omega⟩]
        rw [e]
        exact hq)
    · refine Ev_const rfl ?_
      refine Ev_goto rfl ?_
      exact Ev_ireturn rfl rfl rfl rfl (by
        have e : clip z = -1000000 := by
          rw [lc_ge, Int64.lt_iff_toInt_lt] at h211
          unfold clip
          rw [if_neg (by omega), if_pos (by omega)]
        rw [e] at hq
        exact hq)
  · refine Ev_const rfl ?_
    exact Ev_ireturn rfl rfl rfl rfl (by
      have e : clip z = 1000000 := by
        rw [lc_le, Int64.lt_iff_toInt_lt] at h200
        unfold clip
        rw [if_pos (by omega)]
      rw [e] at hq
      exact hq)
theorem l_of (x : Int32) : x.toInt64.toInt = x.toInt := Int32.toInt_toInt64 x
theorem v_rem {x y : Int32} (hx : Bd x.toInt) (hy : Bd y.toInt) : (x - x / y * y).toInt = x.toInt.tmod y.toInt := by
  obtain ⟨h1, h2⟩ := hx
  have hm : x ≠ Int32.minValue := fun q => by
    rw [q] at h1
    exact absurd h1 (by decide)
  have hd : (x / y).toInt = x.toInt.tdiv y.toInt := Int32.toInt_div_of_ne_left x y hm
  have h3 := tmod_le x.toInt y.toInt
  have h4 : x.toInt.tmod y.toInt = x.toInt - y.toInt * x.toInt.tdiv y.toInt := Int.tmod_def _ _
  have h5 : x.toInt.tdiv y.toInt * y.toInt = x.toInt - x.toInt.tmod y.toInt := by rw [h4, Int.mul_comm]; omega
  rw [Int32.toInt_sub, Int32.toInt_mul, hd, h5, bm32 (z := x.toInt - x.toInt.tmod y.toInt) (by omega), bm32 (by omega)]
  omega
theorem v_div {x y : Int32} (hx : Bd x.toInt) : (x / y).toInt64.toInt = x.toInt.tdiv y.toInt := by
  obtain ⟨h1, h2⟩ := hx
  have hm : x ≠ Int32.minValue := fun q => by
    rw [q] at h1
    exact absurd h1 (by decide)
  rw [l_of]
  exact Int32.toInt_div_of_ne_left x y hm
theorem z_ne {y : Int32} (h : ¬ y = 0) : ¬ y.toInt = 0 := fun q => h (Int32.toInt_inj.mp q)
theorem z_lt {x : Int32} (h : x < 0) : x.toInt < 0 := by rw [Int32.lt_iff_toInt_lt] at h; exact h
theorem z_ge {x : Int32} (h : 0 ≤ x) : ¬ x.toInt < 0 := by
  rw [Int32.le_iff_toInt_le] at h
  have h : (0 : Int) ≤ x.toInt := h
  omega
theorem flo_0 {a b : Int} (h : b = 0) : flo a b = 0 := by unfold flo; rw [if_pos h]
theorem flo_1 {a b : Int} (h : ¬ b = 0) (h2 : a.tmod b = 0) : flo a b = a.tdiv b := by unfold flo; rw [if_neg h, if_neg (fun q => q.1 h2)]
theorem flo_2 {a b : Int} (h : ¬ b = 0) (h2 : a < 0 ↔ b < 0) : flo a b = a.tdiv b := by unfold flo; rw [if_neg h, if_neg (fun q => q.2 h2)]
theorem flo_3 {a b : Int} (h : ¬ b = 0) (h2 : ¬ a.tmod b = 0) (h3 : ¬ (a < 0 ↔ b < 0)) : flo a b = a.tdiv b - 1 := by unfold flo; rw [if_neg h, if_pos ⟨h2, h3⟩]
theorem two36 (a b : Int) : two 36 a b = clip (a + b) := by unfold two; rw [if_pos rfl]
theorem two37 (a b : Int) : two 37 a b = clip (a - b) := by unfold two; rw [if_neg (by decide), if_pos rfl]
theorem two38 (a b : Int) : two 38 a b = clip (a * b) := by unfold two; rw [if_neg (by decide), if_neg (by decide), if_pos rfl]
theorem and_ok {x y : Int32} (h : (x = 0 ∨ x = 1) ∧ (y = 0 ∨ y = 1)) : x &&& y = iI (two 43 x.toInt y.toInt) := by
  obtain ⟨q1, q2⟩ := h
  rcases q1 with rfl | rfl <;> rcases q2 with rfl | rfl <;> decide
theorem or_ok {x y : Int32} (h : (x = 0 ∨ x = 1) ∧ (y = 0 ∨ y = 1)) : x ||| y = iI (two 44 x.toInt y.toInt) := by
  obtain ⟨q1, q2⟩ := h
  rcases q1 with rfl | rfl <;> rcases q2 with rfl | rfl <;> decide
theorem two39 (a b : Int) : two 39 a b = flo a b := rfl
theorem two40 (a b : Int) : two 40 a b = if a < b then 1 else 0 := rfl
theorem two41 (a b : Int) : two 41 a b = if b < a then 1 else 0 := rfl
theorem two42 (a b : Int) : two 42 a b = if a = b then 1 else 0 := rfl
theorem two45 (a b : Int) : two 45 a b = if a < b then a else b := rfl
theorem two46 (a b : Int) : two 46 a b = if b < a then a else b := rfl
theorem v_div1 {x y : Int32} (hx : Bd x.toInt) : ((x / y).toInt64 - 1).toInt = x.toInt.tdiv y.toInt - 1 := by
  have h := tdiv_le x.toInt y.toInt
  obtain ⟨h1, h2⟩ := hx
  rw [Int64.toInt_sub, v_div ⟨h1, h2⟩]
  exact bm64 (by have : (1 : Int64).toInt = 1 := rfl; omega)
theorem v_over {d : Nat} {g : Int64} {o x y : Int32} {z : Int} (hx : Bd x.toInt) (hz : g.toInt = z) (e : flo x.toInt y.toInt = z) (ho : o.toInt = 39) : Ev l X d 73 195 [.int o, .int x, .int y, .long g, .float 0] [] 402 402 402 ρ σ (Rs (.int (iI (two o.toInt x.toInt y.toInt))) ρ σ) := by
  have hf := Bd_flo (b := y.toInt) hx
  rw [e] at hf
  exact v_tail hz ⟨by have := hf.1; omega, by have := hf.2; omega⟩ ⟨by rw [ho, two39, e, clip_id hf], rfl, rfl⟩
theorem t_ofTwo (d : Nat) {o x y : Int32} (hx : Bd x.toInt) (hy : Bd y.toInt) (hb : o.toInt = 43 ∨ o.toInt = 44 → (x = 0 ∨ x = 1) ∧ (y = 0 ∨ y = 1)) :
    T l X d 73 [.int o, .int x, .int y] 402 402 ρ σ (Rs (.int (iI (two o.toInt x.toInt y.toInt))) ρ σ) := by
  have hx1 := hx.1
  have hx2 := hx.2
  have hy1 := hy.1
  have hy2 := hy.2
  refine T_of rfl ?_
  refine Ev_iload rfl rfl ?_
  refine Ev_tab rfl rfl (swP_c (fun h1_0 => ?_) (fun g1_0 => swP_c (fun h1_1 => ?_) (fun g1_1 => swP_c (fun h1_2 => ?_) (fun g1_2 => swP_c (fun h1_3 => ?_) (fun g1_3 => swP_c (fun h1_4 => ?_) (fun g1_4 => swP_c (fun h1_5 => ?_) (fun g1_5 => swP_c (fun h1_6 => ?_) (fun g1_6 => swP_c (fun h1_7 => ?_) (fun g1_7 => swP_c (fun h1_8 => ?_) (fun g1_8 => swP_c (fun h1_9 => ?_) (fun g1_9 => swP_c (fun h1_10 => ?_) (fun g1_10 => swP_n ?_))))))))))))
  · refine Ev_iload rfl rfl ?_
    refine Ev_iload rfl rfl ?_
    refine Ev_iadd rfl ?_
    refine Ev_i2l rfl ?_
    refine Ev_lstore rfl ?_
    refine Ev_goto rfl ?_
    exact v_tail (z := x.toInt + y.toInt) (by rw [l_of, Int32.toInt_add, bm32 (by omega)]) ⟨by omega, by omega⟩ ⟨by rw [h1_0, two36], rfl, rfl⟩
  · refine Ev_iload rfl rfl ?_
    refine Ev_iload rfl rfl ?_
    refine Ev_isub rfl ?_
    refine Ev_i2l rfl ?_
    refine Ev_lstore rfl ?_
    refine Ev_goto rfl ?_
    exact v_tail (z := x.toInt - y.toInt) (by rw [l_of, Int32.toInt_sub, bm32 (by omega)]) ⟨by omega, by omega⟩ ⟨by rw [h1_1, two37], rfl, rfl⟩
  · refine Ev_iload rfl rfl ?_
    refine Ev_i2l rfl ?_
    refine Ev_iload rfl rfl ?_
    refine Ev_i2l rfl ?_
    refine Ev_lmul rfl ?_
    refine Ev_lstore rfl ?_
    refine Ev_goto rfl ?_
    have hm := Bd_mul hx hy
    exact v_tail (z := x.toInt * y.toInt) (by rw [Int64.toInt_mul, l_of, l_of, bm64 (by omega)]) hm ⟨by rw [h1_2, two38], rfl, rfl⟩
  · refine Ev_iload rfl rfl ?_
    refine Ev_if_ne rfl (fun h86 => ?_) (fun h86 => ?_)
    · refine Ev_iload rfl rfl ?_
      refine Ev_iload rfl rfl ?_
      refine Ev_idiv rfl (by first | assumption | decide) ?_
      refine Ev_i2l rfl ?_
      refine Ev_lstore rfl ?_
      refine Ev_iload rfl rfl ?_
      refine Ev_iload rfl rfl ?_
      refine Ev_irem rfl (by first | assumption | decide) ?_
      refine Ev_if_eq rfl (fun h99 => ?_) (fun h99 => ?_)
      · exact v_over hx (v_div hx) (flo_1 (z_ne h86) ((v_rem hx hy).symm.trans (by rw [h99]; rfl))) h1_3
      · refine Ev_iload rfl rfl ?_
        refine Ev_if_ge rfl (fun h103 => ?_) (fun h103 => ?_)
        · refine Ev_const rfl ?_
          refine Ev_iload rfl rfl ?_
          refine Ev_if_ge rfl (fun h112 => ?_) (fun h112 => ?_)
          · refine Ev_const rfl ?_
            refine Ev_icmp_eq rfl (fun h120 => ?_) (fun h120 => absurd rfl h120)
            exact v_over hx (v_div hx) (flo_2 (z_ne h86) ⟨fun q => absurd q (z_ge h103), fun q => absurd q (z_ge h112)⟩) h1_3
          · refine Ev_const rfl ?_
            refine Ev_goto rfl ?_
            refine Ev_icmp_eq rfl (fun h120 => absurd h120 (by decide)) (fun h120 => ?_)
            refine Ev_lload rfl rfl ?_
            refine Ev_constL rfl ?_
            refine Ev_lsub rfl ?_
            refine Ev_lstore rfl ?_
            refine Ev_goto rfl ?_
            exact v_over hx (v_div1 hx) (flo_3 (z_ne h86) (fun q => h99 (Int32.toInt_inj.mp ((v_rem hx hy).trans q))) (fun q => absurd (q.mpr (z_lt (nle_lt h112))) (z_ge h103))) h1_3
        · refine Ev_const rfl ?_
          refine Ev_goto rfl ?_
          refine Ev_iload rfl rfl ?_
          refine Ev_if_ge rfl (fun h112 => ?_) (fun h112 => ?_)
          · refine Ev_const rfl ?_
            refine Ev_icmp_eq rfl (fun h120 => absurd h120 (by decide)) (fun h120 => ?_)
            refine Ev_lload rfl rfl ?_
            refine Ev_constL rfl ?_
            refine Ev_lsub rfl ?_
            refine Ev_lstore rfl ?_
            refine Ev_goto rfl ?_
            exact v_over hx (v_div1 hx) (flo_3 (z_ne h86) (fun q => h99 (Int32.toInt_inj.mp ((v_rem hx hy).trans q))) (fun q => absurd (q.mp (z_lt (nle_lt h103))) (z_ge h112))) h1_3
          · refine Ev_const rfl ?_
            refine Ev_goto rfl ?_
            refine Ev_icmp_eq rfl (fun h120 => ?_) (fun h120 => absurd rfl h120)
            exact v_over hx (v_div hx) (flo_2 (z_ne h86) ⟨fun _ => z_lt (nle_lt h112), fun _ => z_lt (nle_lt h103)⟩) h1_3
    · refine Ev_const rfl ?_
      exact Ev_ireturn rfl rfl rfl rfl ⟨by rw [h1_3, two39, flo_0 (Decidable.not_not.mp h86 ▸ rfl)]; rfl, rfl, rfl⟩
  · refine Ev_iload rfl rfl ?_
    refine Ev_iload rfl rfl ?_
    refine Ev_icmp_ge rfl (fun h132 => ?_) (fun h132 => ?_)
    · refine Ev_const rfl ?_
      exact Ev_ireturn rfl rfl rfl rfl ⟨by rw [h1_4, two40, if_neg (by have := Int32.le_iff_toInt_le.mp h132; omega)]; rfl, rfl, rfl⟩
    · refine Ev_const rfl ?_
      refine Ev_goto rfl ?_
      exact Ev_ireturn rfl rfl rfl rfl ⟨by rw [h1_4, two40, if_pos (Int32.lt_iff_toInt_lt.mp (nle_lt h132))]; rfl, rfl, rfl⟩
  · refine Ev_iload rfl rfl ?_
    refine Ev_iload rfl rfl ?_
    refine Ev_icmp_le rfl (fun h143 => ?_) (fun h143 => ?_)
    · refine Ev_const rfl ?_
      exact Ev_ireturn rfl rfl rfl rfl ⟨by rw [h1_5, two41, if_neg (by have := Int32.le_iff_toInt_le.mp h143; omega)]; rfl, rfl, rfl⟩
    · refine Ev_const rfl ?_
      refine Ev_goto rfl ?_
      exact Ev_ireturn rfl rfl rfl rfl ⟨by rw [h1_5, two41, if_pos (Int32.lt_iff_toInt_lt.mp (nle_lt h143))]; rfl, rfl, rfl⟩
  · refine Ev_iload rfl rfl ?_
    refine Ev_iload rfl rfl ?_
    refine Ev_icmp_ne rfl (fun h154 => ?_) (fun h154 => ?_)
    · refine Ev_const rfl ?_
      exact Ev_ireturn rfl rfl rfl rfl ⟨by rw [h1_6, two42, if_neg (fun q => h154 (Int32.toInt_inj.mp q))]; rfl, rfl, rfl⟩
    · refine Ev_const rfl ?_
      refine Ev_goto rfl ?_
      exact Ev_ireturn rfl rfl rfl rfl ⟨by rw [h1_6, two42, if_pos (by rw [Decidable.not_not.mp h154])]; rfl, rfl, rfl⟩
  · refine Ev_iload rfl rfl ?_
    refine Ev_iload rfl rfl ?_
    refine Ev_iand rfl ?_
    exact Ev_ireturn rfl rfl rfl rfl ⟨by rw [h1_7, and_ok (hb (Or.inl h1_7))], rfl, rfl⟩
  · refine Ev_iload rfl rfl ?_
    refine Ev_iload rfl rfl ?_
    refine Ev_ior rfl ?_
    exact Ev_ireturn rfl rfl rfl rfl ⟨by rw [h1_8, or_ok (hb (Or.inr h1_8))], rfl, rfl⟩
  · refine Ev_iload rfl rfl ?_
    refine Ev_iload rfl rfl ?_
    refine Ev_icmp_ge rfl (fun h173 => ?_) (fun h173 => ?_)
    · refine Ev_iload rfl rfl ?_
      exact Ev_ireturn rfl rfl rfl rfl ⟨by rw [h1_9, two45, if_neg (by have := Int32.le_iff_toInt_le.mp h173; omega), iI_to], rfl, rfl⟩
    · refine Ev_iload rfl rfl ?_
      refine Ev_goto rfl ?_
      exact Ev_ireturn rfl rfl rfl rfl ⟨by rw [h1_9, two45, if_pos (Int32.lt_iff_toInt_lt.mp (nle_lt h173)), iI_to], rfl, rfl⟩
  · refine Ev_iload rfl rfl ?_
    refine Ev_iload rfl rfl ?_
    refine Ev_icmp_le rfl (fun h184 => ?_) (fun h184 => ?_)
    · refine Ev_iload rfl rfl ?_
      exact Ev_ireturn rfl rfl rfl rfl ⟨by rw [h1_10, two46, if_neg (by have := Int32.le_iff_toInt_le.mp h184; omega), iI_to], rfl, rfl⟩
    · refine Ev_iload rfl rfl ?_
      refine Ev_goto rfl ?_
      exact Ev_ireturn rfl rfl rfl rfl ⟨by rw [h1_10, two46, if_pos (Int32.lt_iff_toInt_lt.mp (nle_lt h184)), iI_to], rfl, rfl⟩
  · refine Ev_const rfl ?_
    exact Ev_ireturn rfl rfl rfl rfl ⟨by unfold two; rw [if_neg g1_0, if_neg g1_1, if_neg g1_2, if_neg g1_3, if_neg g1_4, if_neg g1_5, if_neg g1_6, if_neg g1_7, if_neg g1_8, if_neg g1_9, if_neg g1_10]; rfl, rfl, rfl⟩
end S21
