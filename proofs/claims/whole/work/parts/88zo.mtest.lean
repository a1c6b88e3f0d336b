/-! A formula read by the reference: what is open where a sum ends; a sum as a whole. -/
def gB : Bool → List Nat → Bool
  | _, [] => true
  | b, e :: w => if isAr e = true then gB true w else if e = 34 ∨ e = 35 then (!b && gB false w) else (isBr e && gB false w)
theorem gB_ar {b : Bool} {e : Nat} {w : List Nat} (h : isAr e = true) : gB b (e :: w) = gB true w := by
  show (if isAr e = true then gB true w else _) = _
  rw [if_pos h]
theorem gB_of {b : Bool} {e : Nat} {w : List Nat} (h : e = 34 ∨ e = 35) : gB b (e :: w) = (!b && gB false w) := by
  show (if isAr e = true then gB true w else if e = 34 ∨ e = 35 then (!b && gB false w) else _) = _
  rw [if_neg (by rcases h with z | z <;> (rw [z]; decide)), if_pos h]
theorem gB_br {b : Bool} {e : Nat} {w : List Nat} (h : isBr e = true) : gB b (e :: w) = gB false w := by
  show (if isAr e = true then gB true w else if e = 34 ∨ e = 35 then (!b && gB false w) else (isBr e && gB false w)) = _
  rw [if_neg (fun z => by have := (ar_br z).1; rw [h] at this; cases this), if_neg (fun z => by rcases z with z | z <;> (rw [z] at h; cases h)), h]
  rfl
theorem gB_up {b : Bool} {w : List Nat} (h : gB true w = true) : gB b w = true := by
  cases b with
  | true => exact h
  | false =>
    cases w with
    | nil => rfl
    | cons e w =>
      by_cases h1 : isAr e = true
      · rw [gB_ar h1] at h ⊢; exact h
      · by_cases h2 : e = 34 ∨ e = 35
        · rw [gB_of h2] at h; cases h
        · have h : (if isAr e = true then gB true w else if e = 34 ∨ e = 35 then (!true && gB false w) else (isBr e && gB false w)) = true := h
          show (if isAr e = true then gB true w else if e = 34 ∨ e = 35 then (!false && gB false w) else (isBr e && gB false w)) = true
          rw [if_neg h1, if_neg h2] at h ⊢
          exact h
theorem ar_op {e : Nat} (h : isAr e = true) : isOpn e = false := by
  obtain ⟨h1, h2⟩ := ar_br h
  have : e = 36 ∨ e = 37 ∨ e = 38 ∨ e = 39 := by omega
  rcases this with z | z | z | z <;> (rw [z]; rfl)
theorem br_op {e : Nat} (h : isBr e = true) : isOpn e = true := by
  unfold isBr at h
  rw [Bool.and_eq_true, Nat.ble_eq, Nat.ble_eq] at h
  have : e = 1020 ∨ e = 1021 ∨ e = 1022 ∨ e = 1023 ∨ e = 1024 := by omega
  rcases this with z | z | z | z | z <;> (rw [z]; rfl)
/-- what is open: so many from below, and what the pile opened; how long both are -/
def oOk (b : Bool) (o0 P : Nat) (y : Ys) : Prop := isOk y.1 = true → gB b y.2.2.1 = true ∧ y.2.2.2 = o0 + cntO y.2.2.1 ∧ y.2.1.length + y.2.2.1.length + P ≤ rpos y.1
theorem oOk_qe {o0 P : Nat} {s : Rdg} : ∀ (w out : List Nat) (o : Nat), (isOk s = true → gB false w = true ∧ o = o0 + cntO w ∧ out.length + w.length + P ≤ rpos s) → oOk true o0 P (qeY s out w o) := by
  intro w
  induction w with
  | nil => intro out o h z; exact ⟨rfl, (h z).2⟩
  | cons e w ih =>
    intro out o h
    show oOk true o0 P (if (e = 34 ∨ e = 35) ∧ isOk s = true then qeY s (out ++ [e]) w (o - 1) else (s, out, e :: w, o))
    by_cases hc : (e = 34 ∨ e = 35) ∧ isOk s = true
    · rw [if_pos hc]
      refine ih _ _ (fun z => ?_)
      obtain ⟨g1, g2, g3⟩ := h z
      rw [gB_of hc.1] at g1
      have hop : isOpn e = true := by rcases hc.1 with q | q <;> (rw [q]; rfl)
      rw [cnt_p hop] at g2
      rw [List.length_cons] at g3
      refine ⟨g1, by omega, ?_⟩
      rw [List.length_append]
      show out.length + 1 + _ + _ ≤ _
      omega
    · rw [if_neg hc]
      intro z
      obtain ⟨g1, g2⟩ := h z
      refine ⟨?_, g2⟩
      have h34 : ¬ (e = 34 ∨ e = 35) := fun q => hc ⟨q, z⟩
      show gB true (e :: w) = true
      by_cases h1 : isAr e = true
      · rw [gB_ar h1] at g1 ⊢; exact g1
      · have g1 : (if isAr e = true then gB true w else if e = 34 ∨ e = 35 then (!false && gB false w) else (isBr e && gB false w)) = true := g1
        show (if isAr e = true then gB true w else if e = 34 ∨ e = 35 then (!true && gB false w) else (isBr e && gB false w)) = true
        rw [if_neg h1, if_neg h34] at g1 ⊢
        exact g1
theorem oOk_op {o0 P e : Nat} {s : Rdg} {out w : List Nat} {o : Nat} {f : Rdg → Rdg} (he : isBr e = true ∨ e = 34 ∨ e = 35) (hf : ∀ e', f (.inl e') = .inl e') (hf2 : ∀ p, isOk (f (.inr p)) = true → p.1 + 1 ≤ rpos (f (.inr p))) (h : isOk s = true → gB false w = true ∧ o = o0 + cntO w ∧ out.length + w.length + P ≤ rpos s) : oOk false o0 P (onY f (qOpY e (s, out, w, o))) := by
  intro z
  have z : isOk (f (qOpY e (s, out, w, o)).1) = true := z
  cases s with
  | inl e' =>
    have : (qOpY e (.inl e', out, w, o)).1 = .inl e' := rfl
    rw [this, hf] at z; cases z
  | inr p =>
    obtain ⟨g1, g2, g3⟩ := h rfl
    by_cases h6 : o = 6
    · have e1 : qOpY e (.inr p, out, w, o) = (.inl (4, p.1), out, w, o) := if_pos h6
      rw [e1] at z
      rw [show (((.inl (4, p.1) : Rdg), out, w, o) : Ys).1 = .inl (4, p.1) from rfl, hf] at z
      cases z
    · have e1 : qOpY e (.inr p, out, w, o) = (.inr p, out, e :: w, o + 1) := if_neg h6
      rw [e1] at z ⊢
      have hop : isOpn e = true := by
        rcases he with q | q | q
        · exact br_op q
        · rw [q]; rfl
        · rw [q]; rfl
      refine ⟨?_, ?_, ?_⟩
      · show gB false (e :: w) = true
        rcases he with q | q
        · rw [gB_br q]; exact g1
        · rw [gB_of q]; exact g1
      · show o + 1 = o0 + cntO (e :: w)
        rw [cnt_p hop, g2]; omega
      · show out.length + (w.length + 1) + P ≤ rpos (f (.inr p))
        have := hf2 p z
        have g3 : out.length + w.length + P ≤ p.1 := g3
        omega
theorem mAs_l (U : Tx) (e : Nat × Nat) : mAs U 40 (.inl e) = .inl e := by
  unfold mAs
  rw [if_neg (fun z => by cases z)]
  rfl
theorem isOk_sk (U : Tx) (s : Rdg) : isOk (skM U s) = isOk s := by cases s <;> rfl
theorem mAs_ok {U : Tx} (q : Nat × Nat) (z : isOk (mAs U 40 (.inr q)) = true) : q.1 + 1 ≤ rpos (mAs U 40 (.inr q)) := by
  have := skp_up U q.1
  unfold mAs at z ⊢
  by_cases h : mC U (.inr q) = some 40
  · rw [if_pos h]; show q.1 + 1 ≤ skp U q.1 + 1; omega
  · rw [if_neg h, flA_no] at z; cases z
theorem rp_sk {U : Tx} (s : Rdg) : rpos s ≤ rpos (skM U s) := by
  cases s with
  | inl e => exact Nat.le_refl _
  | inr p => exact skp_up U p.1
theorem rp_adv {a b : Nat} {s : Rdg} (h : isOk s = true) : rpos (adv a b s) = rpos s + a := by
  cases s with
  | inl e => cases h
  | inr p => rfl
theorem oOk_stM {U : Tx} {o0 P b : Nat} {y : Ys} (hb : isBr b = true) (h : oOk false o0 P y) : (stM U b y).1 = 0 ∧ oOk false o0 P (stM U b y).2 := by
  refine ⟨rfl, ?_⟩
  unfold stM
  by_cases hc : mC U y.1 = some 40
  · rw [if_pos hc]
    refine oOk_op (Or.inl hb) (mAs_l U) mAs_ok (fun z => ?_)
    rw [isOk_sk] at z
    obtain ⟨g1, g2, g3⟩ := h z
    have := rp_sk (U := U) y.1
    exact ⟨g1, g2, by show y.2.1.length + y.2.2.1.length + P ≤ rpos (skM U y.1); omega⟩
  · rw [if_neg hc]
    intro z
    have z : isOk (mAs U 40 (skM U y.1)) = true := z
    unfold mAs at z
    rw [(skM_i U y.1).2.1, if_neg hc, flA_no] at z
    cases z
theorem isOk_adv (a b : Nat) (s : Rdg) : isOk (adv a b s) = isOk s := by cases s <;> rfl
theorem oOk_A {U : Tx} {k o0 P : Nat} {y : Ys} (hk : k < 5) (h : oOk false o0 P y) : oOk (Nat.beq (stA U k y).1 1) o0 P (stA U k y).2 := by
  have hs : isOk (skM U y.1) = true → gB false y.2.2.1 = true ∧ y.2.2.2 = o0 + cntO y.2.2.1 ∧ y.2.1.length + y.2.2.1.length + P ≤ rpos (skM U y.1) := fun z => by
    obtain ⟨g1, g2, g3⟩ := h (by rw [← isOk_sk U]; exact z)
    have := rp_sk (U := U) y.1
    exact ⟨g1, g2, by omega⟩
  unfold stA
  by_cases h1 : mC U y.1 = some 40
  · rw [if_pos h1]; exact oOk_op (Or.inl rfl) (fun _ => rfl) (fun p _ => Nat.le_refl _) hs
  · rw [if_neg h1]
    have hy3 : oOk false o0 P (adv 3 1 (skM U y.1), y.2) := fun z => by
      have z : isOk (adv 3 1 (skM U y.1)) = true := z
      rw [isOk_adv] at z
      obtain ⟨g1, g2, g3⟩ := hs z
      refine ⟨g1, g2, ?_⟩
      show y.2.1.length + y.2.2.1.length + P ≤ rpos (adv 3 1 (skM U y.1))
      rw [rp_adv z]
      omega
    by_cases h2 : mWd U y.1 = wMin
    · rw [if_pos h2]
      obtain ⟨g1, g2⟩ := oOk_stM (U := U) (b := 1021) rfl hy3
      rw [g1]; exact g2
    · rw [if_neg h2]
      by_cases h3 : mWd U y.1 = wMax
      · rw [if_pos h3]
        obtain ⟨g1, g2⟩ := oOk_stM (U := U) (b := 1022) rfl hy3
        rw [g1]; exact g2
      · rw [if_neg h3]
        cases ho : ofR k (mWd U y.1) with
        | some e =>
          obtain ⟨he, hwe⟩ := ofR_lt ho
          have hpos : 0 < (mWd U y.1).length := by rw [hwe]; rcases he with z | z <;> (rw [z]; decide)
          exact oOk_op (Or.inr he) (fun _ => rfl) (fun p _ => by show p.1 + 1 ≤ p.1 + (mWd U y.1).length; omega) hs
        | none =>
          cases hg : sgF k (mWd U y.1) with
          | some i =>
            obtain ⟨hi, hwi⟩ := sgF_wA hk hg
            have hpos : 0 < (mWd U y.1).length := by rw [hwi]; exact (show ∀ i, i < 9 → 0 < (wA i).length by decide) i hi
            refine oOk_qe _ _ _ (fun z => ?_)
            rw [isOk_adv] at z
            obtain ⟨g1, g2, g3⟩ := hs z
            refine ⟨g1, g2, ?_⟩
            rw [rp_adv z, List.length_append]
            show y.2.1.length + 1 + _ + _ ≤ _
            omega
          | none =>
            refine oOk_qe _ _ _ (fun z => ?_)
            cases hy : y.1 with
            | inl e =>
              rw [hy] at z
              unfold mNu at z
              rw [if_pos (show mDg U (.inl e) = [] from rfl), flA_no] at z
              cases z
            | inr p =>
              rw [hy] at z
              obtain ⟨g1, g2, g3⟩ := h (by rw [hy]; rfl)
              have := (mNu_ok z).1
              refine ⟨g1, g2, ?_⟩
              rw [hy] at g3
              have g3 : y.2.1.length + y.2.2.1.length + P ≤ p.1 := g3
              rw [List.length_append]
              show y.2.1.length + 1 + _ + _ ≤ _
              omega
theorem gB_dr {p : Nat → Bool} (hp : ∀ e, p e = true → isAr e = true) : ∀ w, gB true w = true → gB true (drW p w) = true ∧ cntO (drW p w) = cntO w := by
  intro w
  induction w with
  | nil => exact fun h => ⟨h, rfl⟩
  | cons e w ih =>
    intro h
    cases hq : p e with
    | true =>
      rw [(tk_y hq).2]
      rw [gB_ar (hp e hq)] at h
      obtain ⟨g1, g2⟩ := ih h
      exact ⟨g1, by rw [g2, cnt_n (ar_op (hp e hq))]⟩
    | false => rw [(tk_n hq).2]; exact ⟨h, rfl⟩
theorem gB_rs : ∀ w, gB true w = true → (brk w = 0 → cntO w = 0) ∧ (brk w ≠ 0 → gB false (rsA w).tail = true ∧ cntO w = 1 + cntO (rsA w).tail) := by
  intro w
  induction w with
  | nil => exact fun _ => ⟨fun _ => rfl, fun z => absurd rfl z⟩
  | cons e w ih =>
    intro h
    by_cases h1 : isAr e = true
    · rw [gB_ar h1] at h
      have hb := (ar_br h1).1
      rw [(brk_n hb).1, (brk_n hb).2.1, cnt_n (ar_op h1)]
      exact ih h
    · by_cases h2 : e = 34 ∨ e = 35
      · rw [gB_of h2] at h; cases h
      · have h : (if isAr e = true then gB true w else if e = 34 ∨ e = 35 then (!true && gB false w) else (isBr e && gB false w)) = true := h
        rw [if_neg h1, if_neg h2, Bool.and_eq_true] at h
        rw [(brk_y h.1).1, (brk_y h.1).2.1, cnt_p (br_op h.1)]
        refine ⟨fun z => ?_, fun _ => ⟨h.2, Nat.add_comm _ _⟩⟩
        rw [z] at h
        exact absurd h.1 (by decide)
theorem mu_ar {e : Nat} (h : isMu e = true) : isAr e = true := by unfold isAr; rw [h]; rfl
theorem oOk_B {U : Tx} {o0 P : Nat} {y : Ys} (h : oOk true o0 P y) : ((stB U y).1 = 2 ∧ (isOk (stB U y).2.1 = true → (stB U y).2.2.2.2 = o0 ∧ (stB U y).2.2.1.length + (stB U y).2.2.2.1.length + P ≤ rpos (stB U y).2.1)) ∨ ((stB U y).1 ≠ 2 ∧ oOk (Nat.beq (stB U y).1 1) o0 P (stB U y).2) := by
  have hs : isOk (skM U y.1) = true → gB true y.2.2.1 = true ∧ y.2.2.2 = o0 + cntO y.2.2.1 ∧ y.2.1.length + y.2.2.1.length + P ≤ rpos (skM U y.1) := fun z => by
    obtain ⟨g1, g2, g3⟩ := h (by rw [← isOk_sk U]; exact z)
    have := rp_sk (U := U) y.1
    exact ⟨g1, g2, by omega⟩
  have hsa : isOk (adv 1 0 (skM U y.1)) = true → gB true y.2.2.1 = true ∧ y.2.2.2 = o0 + cntO y.2.2.1 ∧ y.2.1.length + y.2.2.1.length + P + 1 ≤ rpos (adv 1 0 (skM U y.1)) := fun z => by
    rw [isOk_adv] at z
    obtain ⟨g1, g2, g3⟩ := hs z
    exact ⟨g1, g2, by rw [rp_adv z]; omega⟩
  have hol := op_len y.2.2.1
  unfold stB
  by_cases h1 : mC U y.1 = some 41 ∧ (brk y.2.2.1 = 1020 ∨ brk y.2.2.1 = 1023 ∨ brk y.2.2.1 = 1024)
  · rw [if_pos h1]
    refine Or.inr ⟨(by decide : (1 : Nat) ≠ 2), oOk_qe _ _ _ (fun z => ?_)⟩
    obtain ⟨g1, g2, g5⟩ := hsa z
    obtain ⟨g3, g4⟩ := (gB_rs _ g1).2 (by omega)
    refine ⟨g3, by omega, ?_⟩
    rw [rs_e (by omega), List.length_cons] at hol
    have hbx : (if brk y.2.2.1 = 1020 then [] else if brk y.2.2.1 = 1023 then [45] else [46] : List Nat).length ≤ 1 := by split; exact Nat.zero_le _; split <;> exact Nat.le_refl _
    rw [List.length_append, List.length_append]
    omega
  · rw [if_neg h1]
    by_cases h2 : mC U y.1 = some 42 ∨ mC U y.1 = some 47
    · rw [if_pos h2]
      refine Or.inr ⟨(by decide : (0 : Nat) ≠ 2), fun z => ?_⟩
      obtain ⟨g1, g2, g5⟩ := hsa z
      obtain ⟨g3, g4⟩ := gB_dr (p := isMu) (fun e => mu_ar) _ g1
      have htl := tk_len isMu y.2.2.1
      have ht : isAr (if mC U y.1 = some 42 then 38 else 39) = true := by split <;> rfl
      refine ⟨?_, ?_, ?_⟩
      · show gB false ((if mC U y.1 = some 42 then 38 else 39) :: drW isMu y.2.2.1) = true
        rw [gB_ar ht]; exact g3
      · show y.2.2.2 = o0 + cntO ((if mC U y.1 = some 42 then 38 else 39) :: drW isMu y.2.2.1)
        rw [cnt_n (ar_op ht), g4]; exact g2
      · show (y.2.1 ++ tkW isMu y.2.2.1).length + ((drW isMu y.2.2.1).length + 1) + P ≤ rpos (adv 1 0 (skM U y.1))
        rw [List.length_append]
        omega
    · rw [if_neg h2]
      by_cases h3 : mC U y.1 = some 43 ∨ mC U y.1 = some 45
      · rw [if_pos h3]
        refine Or.inr ⟨(by decide : (0 : Nat) ≠ 2), fun z => ?_⟩
        obtain ⟨g1, g2, g5⟩ := hsa z
        obtain ⟨g3, g4⟩ := gB_dr (p := isAr) (fun e h => h) _ g1
        have htl := tk_len isAr y.2.2.1
        have ht : isAr (if mC U y.1 = some 43 then 36 else 37) = true := by split <;> rfl
        refine ⟨?_, ?_, ?_⟩
        · show gB false ((if mC U y.1 = some 43 then 36 else 37) :: drW isAr y.2.2.1) = true
          rw [gB_ar ht]; exact g3
        · show y.2.2.2 = o0 + cntO ((if mC U y.1 = some 43 then 36 else 37) :: drW isAr y.2.2.1)
          rw [cnt_n (ar_op ht), g4]; exact g2
        · show (y.2.1 ++ tkW isAr y.2.2.1).length + ((drW isAr y.2.2.1).length + 1) + P ≤ rpos (adv 1 0 (skM U y.1))
          rw [List.length_append]
          omega
      · rw [if_neg h3]
        by_cases h4 : brk y.2.2.1 = 1021 ∨ brk y.2.2.1 = 1022
        · rw [if_pos h4]
          by_cases h5 : mC U y.1 = some 44
          · rw [if_pos h5]
            refine Or.inr ⟨(by decide : (0 : Nat) ≠ 2), fun z => ?_⟩
            obtain ⟨g1, g2, g5⟩ := hsa z
            obtain ⟨g3, g4⟩ := (gB_rs _ g1).2 (by omega)
            rw [rs_e (by omega), List.length_cons] at hol
            have hb : isBr (brk y.2.2.1 + 2) = true := by rcases h4 with q | q <;> (rw [q]; rfl)
            refine ⟨?_, ?_, ?_⟩
            · show gB false ((brk y.2.2.1 + 2) :: (rsA y.2.2.1).tail) = true
              rw [gB_br hb]; exact g3
            · show y.2.2.2 = o0 + cntO ((brk y.2.2.1 + 2) :: (rsA y.2.2.1).tail)
              rw [cnt_p (br_op hb)]; omega
            · show (y.2.1 ++ opA y.2.2.1).length + ((rsA y.2.2.1).tail.length + 1) + P ≤ rpos (adv 1 0 (skM U y.1))
              rw [List.length_append]
              omega
          · rw [if_neg h5]
            refine Or.inl ⟨rfl, fun z => ?_⟩
            have z : isOk (flA 1 0 (skM U y.1)) = true := z
            rw [flA_no] at z; cases z
        · rw [if_neg h4]
          by_cases h5 : brk y.2.2.1 = 0
          · rw [if_pos h5]
            refine Or.inl ⟨rfl, fun z => ?_⟩
            obtain ⟨g1, g2, g3⟩ := hs z
            have := (gB_rs _ g1).1 h5
            refine ⟨?_, g3⟩
            show y.2.2.2 = o0
            omega
          · rw [if_neg h5]
            refine Or.inl ⟨rfl, fun z => ?_⟩
            have z : isOk (flA 1 0 (skM U y.1)) = true := z
            rw [flA_no] at z; cases z
theorem stA_01 (U : Tx) (k : Nat) (y : Ys) : (stA U k y).1 = 0 ∨ (stA U k y).1 = 1 := by
  unfold stA
  split
  · exact Or.inl rfl
  · split
    · exact Or.inl rfl
    · split
      · exact Or.inl rfl
      · split
        · exact Or.inl rfl
        · split
          · exact Or.inr rfl
          · exact Or.inr rfl
theorem stB_01 (U : Tx) (y : Ys) (h : (stB U y).1 ≠ 2) : (stB U y).1 = 0 ∨ (stB U y).1 = 1 := by
  unfold stB at h ⊢
  split
  · exact Or.inr rfl
  · rename_i g1
    rw [if_neg g1] at h
    split
    · exact Or.inl rfl
    · rename_i g2
      rw [if_neg g2] at h
      split
      · exact Or.inl rfl
      · rename_i g3
        rw [if_neg g3] at h
        split
        · rename_i g4
          rw [if_pos g4] at h
          split
          · exact Or.inl rfl
          · rename_i g5
            rw [if_neg g5] at h
            exact absurd rfl h
        · rename_i g4
          rw [if_neg g4] at h
          split at h
          · exact absurd rfl h
          · exact absurd rfl h
/-- where a sum ends well, as much is open as at first -/
theorem runY_o {U : Tx} {k o0 P : Nat} (hk : k < 5) : ∀ (f c : Nat) (y r : Ys), (c = 0 ∨ c = 1) → oOk (Nat.beq c 1) o0 P y → runY U k f (c, y) = some r → isOk r.1 = true → r.2.2.2 = o0 ∧ r.2.1.length + r.2.2.1.length + P ≤ rpos r.1 := by
  intro f
  induction f with
  | zero => intro c y r _ _ h; cases h
  | succ f ih =>
    intro c y r hc hy h ho
    have h : (if isOk y.1 = false ∨ c = 2 then some y else runY U k f (if c = 0 then stA U k y else stB U y)) = some r := h
    by_cases hs : isOk y.1 = false ∨ c = 2
    · rw [if_pos hs] at h
      cases h
      rcases hs with z | z
      · rw [z] at ho; cases ho
      · omega
    · rw [if_neg hs] at h
      rcases hc with z | z
      · subst z
        rw [if_pos rfl] at h
        exact ih (stA U k y).1 (stA U k y).2 r (stA_01 U k y) (oOk_A hk hy) h ho
      · subst z
        rw [if_neg (by decide)] at h
        rcases oOk_B (U := U) hy with ⟨g1, g2⟩ | ⟨g1, g2⟩
        · cases f with
          | zero => cases h
          | succ f =>
            have h : (if isOk (stB U y).2.1 = false ∨ (stB U y).1 = 2 then some (stB U y).2 else runY U k f (if (stB U y).1 = 0 then stA U k (stB U y).2 else stB U (stB U y).2)) = some r := h
            rw [if_pos (Or.inr g1)] at h
            cases h
            exact g2 ho
        · exact ih (stB U y).1 (stB U y).2 r (stB_01 U y g1) g2 h ho
section S88zo
variable {l : Launch} {X : Cx} {ρ : Rf} {U : Tx}
/-- a sum, as it comes to -/
theorem m_qSumsX (d : Nat) {σ : St} {out W : List Nat} {o k f P : Nat} {p : Nat × Nat} {r : Xs} (hρ : RF ρ) (hT : TxW U) (hk : k < 5) (hv : okT W) (H : MTt σ U (.inr p)) (hW : Wds σ) (hK : σ.1 326 50 = nI k) (hq : MPq σ out W o) (hl : out.length + W.length + P ≤ p.1) (hr : qsF U k f (.inr p) out o = some r) :
    T l X (d + 6) 275 [.ref 326] 402 402 ρ σ (fun v' ρ' σ' => v' = none ∧ ρ' = ρ ∧ MTt σ' U r.1 ∧ (isOk r.1 = true → MPq σ' r.2 W o ∧ r.2.length + W.length + P ≤ rpos r.1) ∧ (isOk r.1 = false → CdB σ') ∧ MB σ σ') := by
  unfold qsF at hr
  cases hy : runY U k f (0, (.inr p, out, [], o)) with
  | none => rw [hy] at hr; cases hr
  | some y =>
    rw [hy] at hr
    have hr : (y.1, y.2.1 ++ y.2.2.1) = r := Option.some.inj hr
    refine (m_qSums d hρ hT hk hv H hW hK rfl hq (by omega) hy).mono (fun v' ρ' σ' h => ?_)
    obtain ⟨h1, h2, h3, h4, h5, h6⟩ := h
    subst hr
    refine ⟨h1, h2, h3, fun z => ?_, h5, h6⟩
    obtain ⟨g1, g2, g3⟩ := h4 z
    obtain ⟨ho, hlen⟩ := runY_o (o0 := o) (P := W.length + P) hk f 0 _ y (Or.inl rfl) (fun _ => ⟨rfl, rfl, by show out.length + 0 + (W.length + P) ≤ p.1; omega⟩) hy z
    refine ⟨⟨g1, by rw [g2, ho], hq.2.2⟩, ?_⟩
    show (y.2.1 ++ y.2.2.1).length + W.length + P ≤ rpos y.1
    rw [List.length_append]
    omega
end S88zo
