/-! What tells most: the class and the reference's count. -/
def bt (L w : Nat) : Bool := decide (L / 2 ^ w % 2 = 1)
theorem bt_ev {L w : Nat} (hL : L < 1024) (hw : w < 10) : (nI L >>> (nI w &&& 31)) &&& 1 = bI (bt L w) := by
  rw [sh_n w (by rcases (by omega : w = 0 ∨ w = 1 ∨ w = 2 ∨ w = 3 ∨ w = 4 ∨ w = 5 ∨ w = 6 ∨ w = 7 ∨ w = 8 ∨ w = 9) with rfl | rfl | rfl | rfl | rfl | rfl | rfl | rfl | rfl | rfl <;> decide) (by omega)]
  have e : nI (L / 2 ^ w) &&& 1 = nI (L / 2 ^ w % 2) := pk_andN (Nat.lt_of_le_of_lt (Nat.div_le_self _ _) (by omega)) 1 (by decide)
  refine Eq.trans e ?_
  unfold bt
  rcases Nat.mod_two_eq_zero_or_one (L / 2 ^ w) with h | h <;> rw [h] <;> rfl
def ctK (p : Nat → Bool) : Nat → Nat
  | 0 => 0
  | n + 1 => ctK p n + bif p n then 1 else 0
theorem ctK_le (p : Nat → Bool) (n : Nat) : ctK p n ≤ n := by
  induction n with
  | zero => exact Nat.le_refl _
  | succ n ih =>
    show ctK p n + (bif p n then 1 else 0) ≤ n + 1
    cases p n
    · show ctK p n + 0 ≤ n + 1; omega
    · show ctK p n + 1 ≤ n + 1; omega
def alk (L : Nat) (g : Nat → Nat) (one : Nat) (n : Nat) : Nat := ctK (fun o => bt L o && decide (g o = g one)) n
def mxA (L : Nat) (g : Nat → Nat) : Nat → Nat
  | 0 => 0
  | n + 1 => bif bt L n then (if mxA L g n < alk L g n 10 then alk L g n 10 else mxA L g n) else mxA L g n
theorem mxA_le (L : Nat) (g : Nat → Nat) (n : Nat) : mxA L g n ≤ 10 := by
  induction n with
  | zero => exact Nat.zero_le _
  | succ n ih =>
    have := ctK_le (fun o => bt L o && decide (g o = g n)) 10
    show (bif bt L n then (if mxA L g n < alk L g n 10 then alk L g n 10 else mxA L g n) else mxA L g n) ≤ 10
    cases bt L n
    · exact ih
    · show (if mxA L g n < alk L g n 10 then alk L g n 10 else mxA L g n) ≤ 10
      split
      · exact this
      · exact ih
theorem alk_t {L : Nat} {g : Nat → Nat} {one n : Nat} (h : bt L n = true) (h2 : g n = g one) : alk L g one (n + 1) = alk L g one n + 1 := by
  show alk L g one n + (bif bt L n && decide (g n = g one) then 1 else 0) = _
  rw [h, decide_eq_true h2]; rfl
theorem alk_f {L : Nat} {g : Nat → Nat} {one n : Nat} (h : bt L n = false ∨ ¬ g n = g one) : alk L g one (n + 1) = alk L g one n := by
  show alk L g one n + (bif bt L n && decide (g n = g one) then 1 else 0) = _
  rcases h with h | h
  · rw [h]; rfl
  · rw [decide_eq_false h, Bool.and_false]; rfl
theorem mxA_f {L : Nat} {g : Nat → Nat} {n : Nat} (h : bt L n = false) : mxA L g (n + 1) = mxA L g n := by
  show (bif bt L n then _ else mxA L g n) = _
  rw [h]; rfl
theorem mxA_t {L : Nat} {g : Nat → Nat} {n : Nat} (h : bt L n = true) : mxA L g (n + 1) = if mxA L g n < alk L g n 10 then alk L g n 10 else mxA L g n := by
  show (bif bt L n then (if mxA L g n < alk L g n 10 then alk L g n 10 else mxA L g n) else mxA L g n) = _
  rw [h]; rfl
theorem rf304 {ρ : Rf} (hρ : RF ρ) {w : Nat} (hw : w < 10) : ρ 304 w = some (305 + w) := by
  rcases (by omega : w = 0 ∨ w = 1 ∨ w = 2 ∨ w = 3 ∨ w = 4 ∨ w = 5 ∨ w = 6 ∨ w = 7 ∨ w = 8 ∨ w = 9) with rfl | rfl | rfl | rfl | rfl | rfl | rfl | rfl | rfl | rfl <;> exact hρ _ _ _ rfl
theorem rowG {w : Nat} (hw : w < 10) : RowO (305 + w) := by
  rcases (by omega : w = 0 ∨ w = 1 ∨ w = 2 ∨ w = 3 ∨ w = 4 ∨ w = 5 ∨ w = 6 ∨ w = 7 ∨ w = 8 ∨ w = 9) with rfl | rfl | rfl | rfl | rfl | rfl | rfl | rfl | rfl | rfl <;> exact ⟨rfl, rfl, by decide, by decide, by decide, by decide⟩
section S81
variable {l : Launch} {X : Cx} {ρ : Rf} {B : Bh} {q : Nat}
theorem mo_in {d i L one : Nat} {σ : St} {g : Nat → Nat} {y : Int32} {Q : Po} (hρ : RF ρ) (hi : i < 8) (hL : L < 1024) (hone : one < 10) (hG : ∀ w, w < 10 → σ.1 (305 + w) i = nI (g w)) (h99 : ∀ w, g w ≤ 99)
    (hQ : Ev l X d 31 64 [.ref 267, .int (nI i), .int (nI L), .int y, .int (nI one), .int (nI (alk L g one 10)), .int (nI 10)] [] 402 402 402 ρ σ Q) :
    ∀ (m o : Nat), o + m = 10 → Ev l X d 31 18 [.ref 267, .int (nI i), .int (nI L), .int y, .int (nI one), .int (nI (alk L g one o)), .int (nI o)] [] 402 402 402 ρ σ Q := by
  intro m
  induction m with
  | zero =>
    intro o ho
    have ho : o = 10 := by omega
    subst ho
    refine Ev_iload rfl rfl ?_
    refine Ev_const rfl ?_
    refine Ev_icmp_ge rfl (fun h22 => ?_) (fun h22 => absurd (by decide) h22)
    exact hQ
  | succ m ih =>
    intro o ho
    have ho10 : o < 10 := by omega
    have a1 := h99 o
    have a2 := h99 one
    refine Ev_iload rfl rfl ?_
    refine Ev_const rfl ?_
    refine Ev_icmp_ge rfl (fun h22 => absurd h22 (nI_ge (b := 10) (by omega) (by decide))) (fun h22 => ?_)
    refine Ev_iload rfl rfl ?_
    refine Ev_iload rfl rfl ?_
    refine Ev_ishr rfl ?_
    refine Ev_const rfl ?_
    refine Ev_iand rfl ?_
    refine Ev_norm (bt_ev hL ho10) ?_
    refine Ev_if_eq rfl (fun h31 => ?_) (fun h31 => ?_)
    · refine Ev_iincE rfl rfl (nI_1 o) ?_
      refine Ev_goto rfl ?_
      have := ih (o + 1) (by omega)
      rw [alk_f (Or.inl (ff_of h31))] at this
      exact this
    · refine Ev_aload rfl rfl rfl ?_
      refine Ev_getR rfl (by first | rfl | assumption) (hρ _ _ _ rfl) ?_
      refine Ev_iload rfl rfl ?_
      refine Ev_aald (t := 4) rfl (Or.inl rfl) (by first | rfl | assumption) (vp_in_nI (n := o) (show o < 10 from ho10) (by decide)) (by rw [nI_clamp (by omega)]; exact rf304 hρ ho10 : _ = some (305 + o)) ?_
      refine Ev_iload rfl rfl ?_
      refine Ev_iald rfl ((rowG ho10).1) (by rw [(rowG ho10).2.1]; exact vp_in_nI (n := i) hi (by decide)) ?_
      refine Ev_norm (by rw [nI_clamp (by omega)]; exact hG o ho10 : _ = nI (g o)) ?_
      refine Ev_aload rfl rfl rfl ?_
      refine Ev_getR rfl (by first | rfl | assumption) (hρ _ _ _ rfl) ?_
      refine Ev_iload rfl rfl ?_
      refine Ev_aald (t := 4) rfl (Or.inl rfl) (by first | rfl | assumption) (vp_in_nI (n := one) (show one < 10 from hone) (by decide)) (by rw [nI_clamp (by omega)]; exact rf304 hρ hone : _ = some (305 + one)) ?_
      refine Ev_iload rfl rfl ?_
      refine Ev_iald rfl ((rowG hone).1) (by rw [(rowG hone).2.1]; exact vp_in_nI (n := i) hi (by decide)) ?_
      refine Ev_norm (by rw [nI_clamp (by omega)]; exact hG one hone : _ = nI (g one)) ?_
      refine Ev_icmp_ne rfl (fun h52 => ?_) (fun h52 => ?_)
      · refine Ev_iincE rfl rfl (nI_1 o) ?_
        refine Ev_goto rfl ?_
        have := ih (o + 1) (by omega)
        rw [alk_f (Or.inr (fun z => h52 (by rw [z])))] at this
        exact this
      · refine Ev_iincE rfl rfl (nI_1 _) ?_
        refine Ev_iincE rfl rfl (nI_1 o) ?_
        refine Ev_goto rfl ?_
        have := ih (o + 1) (by omega)
        rw [alk_t (rt_of h31) ((nI_eq (by omega) (by omega)).mp (Decidable.not_not.mp h52))] at this
        exact this
theorem t_mostAlike (d : Nat) {i L : Nat} {σ : St} {g : Nat → Nat} (hρ : RF ρ) (hi : i < 8) (hL : L < 1024) (hG : ∀ w, w < 10 → σ.1 (305 + w) i = nI (g w)) (h99 : ∀ w, g w ≤ 99) :
    T l X (d + 1) 31 [.ref 267, .int (nI i), .int (nI L)] 402 402 ρ σ (Rs (.int (nI (mxA L g 10))) ρ σ) := by
  have key : ∀ (m one : Nat) (x y : Value), one + m = 10 → Ev l X (d + 1) 31 5 [.ref 267, .int (nI i), .int (nI L), .int (nI (mxA L g one)), .int (nI one), x, y] [] 402 402 402 ρ σ (Rs (.int (nI (mxA L g 10))) ρ σ) := by
    intro m
    induction m with
    | zero =>
      intro one x y ho
      have ho : one = 10 := by omega
      subst ho
      refine Ev_iload rfl rfl ?_
      refine Ev_const rfl ?_
      refine Ev_icmp_ge rfl (fun h9 => ?_) (fun h9 => absurd (by decide) h9)
      refine Ev_iload rfl rfl ?_
      exact Ev_ireturn rfl rfl rfl rfl ⟨rfl, rfl, rfl⟩
    | succ m ih =>
      intro one x y ho
      have a1 := mxA_le L g one
      have a2 := ctK_le (fun o => bt L o && decide (g o = g one)) 10
      refine Ev_iload rfl rfl ?_
      refine Ev_const rfl ?_
      refine Ev_icmp_ge rfl (fun h9 => absurd h9 (nI_ge (b := 10) (by omega) (by decide))) (fun h9 => ?_)
      refine Ev_const rfl ?_
      refine Ev_istore rfl ?_
      refine Ev_const rfl ?_
      refine Ev_istore rfl ?_
      refine mo_in hρ hi hL (by omega) hG h99 ?_ 10 0 (by decide)
      refine Ev_iload rfl rfl ?_
      refine Ev_iload rfl rfl ?_
      refine Ev_ishr rfl ?_
      refine Ev_const rfl ?_
      refine Ev_iand rfl ?_
      refine Ev_norm (bt_ev hL (by omega)) ?_
      refine Ev_if_eq rfl (fun h70 => ?_) (fun h70 => ?_)
      · refine Ev_iload rfl rfl ?_
        refine Ev_istore rfl ?_
        refine Ev_iincE rfl rfl (nI_1 one) ?_
        refine Ev_goto rfl ?_
        have := ih (one + 1) (.int (nI (alk L g one 10))) (.int (nI 10)) (by omega)
        rw [mxA_f (ff_of h70)] at this
        exact this
      · refine Ev_iload rfl rfl ?_
        refine Ev_iload rfl rfl ?_
        refine Ev_callS rfl rfl rfl rfl (same_n 402) (t_max _ _ _) ?_
        rintro v76 ρ76 σ76 ⟨rfl, e76, g76⟩
        obtain rfl := e76.symm
        obtain rfl := g76.symm
        refine Ev_goto rfl ?_
        refine Ev_istore rfl ?_
        refine Ev_iincE rfl rfl (nI_1 one) ?_
        refine Ev_goto rfl ?_
        have e : (if nI (mxA L g one) < nI (alk L g one 10) then nI (alk L g one 10) else nI (mxA L g one)) = nI (mxA L g (one + 1)) := by
          rw [mxA_t (rt_of h70)]
          by_cases hq : mxA L g one < alk L g one 10
          · rw [if_pos hq, if_pos ((nI_ltI (by omega) (by unfold alk; omega)).mpr hq)]
          · rw [if_neg hq, if_neg (fun z => hq ((nI_ltI (by omega) (by unfold alk; omega)).mp z))]
        rw [e]
        exact ih (one + 1) (.int (nI (alk L g one 10))) (.int (nI 10)) (by omega)
  refine T_of rfl ?_
  refine Ev_const rfl ?_
  refine Ev_istore rfl ?_
  refine Ev_const rfl ?_
  refine Ev_istore rfl ?_
  exact key 10 0 (.float 0) (.float 0) (by decide)
theorem mm_in {d p L one : Nat} {σ : St} {g : Nat → Nat} {y : Int32} {Q : Po} (hρ : RF ρ) (hp : p < 248) (hL : L < 1024) (hone : one < 10) (hG : ∀ w, w < 10 → σ.1 373 (248 * w + p) = nI (g w)) (h99 : ∀ w, g w ≤ 99)
    (hQ : Ev l X d 250 85 [.ref 326, .int (nI L), .int (nI p), .int y, .int (nI one), .int (nI (alk L g one 10)), .int (nI 10)] [] 402 402 402 ρ σ Q) :
    ∀ (m o : Nat), o + m = 10 → Ev l X d 250 30 [.ref 326, .int (nI L), .int (nI p), .int y, .int (nI one), .int (nI (alk L g one o)), .int (nI o)] [] 402 402 402 ρ σ Q := by
  intro m
  induction m with
  | zero =>
    intro o ho
    have ho : o = 10 := by omega
    subst ho
    refine Ev_iload rfl rfl ?_
    refine Ev_const rfl ?_
    refine Ev_icmp_ge rfl (fun h34 => ?_) (fun h34 => absurd (by decide) h34)
    exact hQ
  | succ m ih =>
    intro o ho
    have ho10 : o < 10 := by omega
    have a1 := h99 o
    have a2 := h99 one
    have b1 : ¬ bI (bt L o) = 1 → bt L o = false := by cases bt L o <;> intro z <;> first | rfl | exact absurd rfl z
    have b2 : bI (bt L o) = 1 → bt L o = true := by cases bt L o <;> intro z <;> first | rfl | exact absurd z (by decide)
    refine Ev_iload rfl rfl ?_
    refine Ev_const rfl ?_
    refine Ev_icmp_ge rfl (fun h34 => absurd h34 (nI_ge (b := 10) (by omega) (by decide))) (fun h34 => ?_)
    refine Ev_iload rfl rfl ?_
    refine Ev_iload rfl rfl ?_
    refine Ev_ishr rfl ?_
    refine Ev_const rfl ?_
    refine Ev_iand rfl ?_
    refine Ev_norm (bt_ev hL ho10) ?_
    refine Ev_const rfl ?_
    refine Ev_icmp_ne rfl (fun h44 => ?_) (fun h44 => ?_)
    · refine Ev_iincE rfl rfl (nI_1 o) ?_
      refine Ev_goto rfl ?_
      have := ih (o + 1) (by omega)
      rw [alk_f (Or.inl (b1 h44))] at this
      exact this
    · refine Ev_aload rfl rfl rfl ?_
      refine Ev_getR rfl (by first | rfl | assumption) (hρ _ _ _ rfl) ?_
      refine Ev_const rfl ?_
      refine Ev_iload rfl rfl ?_
      refine Ev_imul rfl ?_
      refine Ev_norm (pk_mul 248 one : _ = nI (248 * one)) ?_
      refine Ev_iload rfl rfl ?_
      refine Ev_iadd rfl ?_
      refine Ev_norm (nI_add (248 * one) p) ?_
      refine Ev_iald rfl (by first | rfl | assumption) (vp_in_nI (n := 248 * one + p) (show 248 * one + p < 2480 by omega) (by decide)) ?_
      refine Ev_norm (by rw [nI_clamp (by omega)]; exact hG one hone : _ = nI (g one)) ?_
      refine Ev_aload rfl rfl rfl ?_
      refine Ev_getR rfl (by first | rfl | assumption) (hρ _ _ _ rfl) ?_
      refine Ev_const rfl ?_
      refine Ev_iload rfl rfl ?_
      refine Ev_imul rfl ?_
      refine Ev_norm (pk_mul 248 o : _ = nI (248 * o)) ?_
      refine Ev_iload rfl rfl ?_
      refine Ev_iadd rfl ?_
      refine Ev_norm (nI_add (248 * o) p) ?_
      refine Ev_iald rfl (by first | rfl | assumption) (vp_in_nI (n := 248 * o + p) (show 248 * o + p < 2480 by omega) (by decide)) ?_
      refine Ev_norm (by rw [nI_clamp (by omega)]; exact hG o ho10 : _ = nI (g o)) ?_
      refine Ev_icmp_ne rfl (fun h73 => ?_) (fun h73 => ?_)
      · refine Ev_iincE rfl rfl (nI_1 o) ?_
        refine Ev_goto rfl ?_
        have := ih (o + 1) (by omega)
        rw [alk_f (Or.inr (fun z => h73 (by rw [z])))] at this
        exact this
      · refine Ev_iincE rfl rfl (nI_1 _) ?_
        refine Ev_iincE rfl rfl (nI_1 o) ?_
        refine Ev_goto rfl ?_
        have := ih (o + 1) (by omega)
        rw [alk_t (b2 (Decidable.not_not.mp h44)) ((nI_eq (by omega) (by omega)).mp (Decidable.not_not.mp h73)).symm] at this
        exact this
theorem m_mostAlike (d : Nat) {p L : Nat} {σ : St} {g : Nat → Nat} (hρ : RF ρ) (hp : p < 248) (hL : L < 1024) (hG : ∀ w, w < 10 → σ.1 373 (248 * w + p) = nI (g w)) (h99 : ∀ w, g w ≤ 99) :
    T l X (d + 1) 250 [.ref 326, .int (nI L), .int (nI p)] 402 402 ρ σ (Rs (.int (nI (mxA L g 10))) ρ σ) := by
  have key : ∀ (m one : Nat) (x y : Value), one + m = 10 → Ev l X (d + 1) 250 5 [.ref 326, .int (nI L), .int (nI p), .int (nI (mxA L g one)), .int (nI one), x, y] [] 402 402 402 ρ σ (Rs (.int (nI (mxA L g 10))) ρ σ) := by
    intro m
    induction m with
    | zero =>
      intro one x y ho
      have ho : one = 10 := by omega
      subst ho
      refine Ev_iload rfl rfl ?_
      refine Ev_const rfl ?_
      refine Ev_icmp_ge rfl (fun h9 => ?_) (fun h9 => absurd (by decide) h9)
      refine Ev_iload rfl rfl ?_
      exact Ev_ireturn rfl rfl rfl rfl ⟨rfl, rfl, rfl⟩
    | succ m ih =>
      intro one x y ho
      have a1 := mxA_le L g one
      have a2 := ctK_le (fun o => bt L o && decide (g o = g one)) 10
      refine Ev_iload rfl rfl ?_
      refine Ev_const rfl ?_
      refine Ev_icmp_ge rfl (fun h9 => absurd h9 (nI_ge (b := 10) (by omega) (by decide))) (fun h9 => ?_)
      refine Ev_iload rfl rfl ?_
      refine Ev_iload rfl rfl ?_
      refine Ev_ishr rfl ?_
      refine Ev_const rfl ?_
      refine Ev_iand rfl ?_
      refine Ev_norm (bt_ev hL (by omega)) ?_
      refine Ev_if_ne rfl (fun h18 => ?_) (fun h18 => ?_)
      · refine Ev_const rfl ?_
        refine Ev_istore rfl ?_
        refine Ev_const rfl ?_
        refine Ev_istore rfl ?_
        refine mm_in hρ hp hL (by omega) hG h99 ?_ 10 0 (by decide)
        refine Ev_iload rfl rfl ?_
        refine Ev_iload rfl rfl ?_
        refine Ev_icmp_le rfl (fun h88 => ?_) (fun h88 => ?_)
        · refine Ev_iincE rfl rfl (nI_1 one) ?_
          refine Ev_goto rfl ?_
          have := ih (one + 1) (.int (nI (alk L g one 10))) (.int (nI 10)) (by omega)
          rw [mxA_t (rt_of h18), if_neg (fun z => absurd ((nI_leI (by unfold alk; omega) (by omega)).mp h88) (Nat.not_le.mpr z))] at this
          exact this
        · refine Ev_iload rfl rfl ?_
          refine Ev_istore rfl ?_
          refine Ev_iincE rfl rfl (nI_1 one) ?_
          refine Ev_goto rfl ?_
          have := ih (one + 1) (.int (nI (alk L g one 10))) (.int (nI 10)) (by omega)
          rw [mxA_t (rt_of h18), if_pos (Nat.not_le.mp (fun z => h88 (nI_le z (by omega))))] at this
          exact this
      · refine Ev_goto rfl ?_
        refine Ev_iincE rfl rfl (nI_1 one) ?_
        refine Ev_goto rfl ?_
        have := ih (one + 1) x y (by omega)
        rw [mxA_f (ff_of (Decidable.not_not.mp h18))] at this
        exact this
  refine T_of rfl ?_
  refine Ev_const rfl ?_
  refine Ev_istore rfl ?_
  refine Ev_const rfl ?_
  refine Ev_istore rfl ?_
  exact key 10 0 (.float 0) (.float 0) (by decide)
end S81
