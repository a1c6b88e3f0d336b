/-! A formula read: from above down and with a pile come to the same; all levels. -/
theorem Tyk.two2 {k t : Nat} {a b : List Nat} {x y z : Bool} {M : Nat} (ha : Tyk k a x (M + 1)) (hb : Tyk k b y M) (ht : ∀ st, wt1 k t (y :: x :: st) = some (z :: st)) : Tyk k (a ++ b ++ [t]) z (M + 1) := by
  intro st hs
  rw [wty_app, wty_app, ha st hs]
  show ((wty k b (x :: st)).bind (wty k [t])) = _
  rw [hb (x :: st) (by rw [List.length_cons]; omega)]
  show (match wt1 k t (y :: x :: st) with | none => none | some r => wty k [] r) = _
  rw [ht]; rfl
theorem no_c (c : Nat) : (none : Option Nat) ≠ some c := fun z => by cases z
theorem fl_par {U : Tx} {k n : Nat} {D : Lv} (e : Nat × Nat) (out : List Nat) : parX U k n D (.inl e, out) = (.inl e, out) := by
  have sg0 : sgF k [] = none := by
    unfold sgF
    rw [if_neg (by decide), if_neg (fun z => absurd z.2 (by decide)), if_neg (fun z => absurd z.2 (by decide)), if_neg (fun z => absurd z.2 (by decide)), if_neg (fun z => absurd z.2 (by decide)), if_neg (fun z => absurd z.2 (by decide)), if_neg (fun z => absurd z.2 (by decide)), if_neg (fun z => absurd z.2 (by decide)), if_neg (fun z => absurd z.2 (by decide))]
  unfold parX
  show (bif dgI (lkV none) then _ else if (none : Option Nat) = some 40 then _ else if ([] : List Nat) = wMin then _ else if ([] : List Nat) = wMax then _ else if k = 4 ∧ ([] : List Nat) = wKnows then _ else if k = 4 ∧ ([] : List Nat) = wReady then _ else match sgF k [] with | some i => _ | none => ((.inl e : Rdg), out)) = _
  rw [show dgI (lkV none) = false from by decide, if_neg (by intro z; cases z), if_neg (by decide), if_neg (by decide), if_neg (fun z => absurd z.2 (by decide)), if_neg (fun z => absurd z.2 (by decide)), sg0]
  rfl
theorem fl_tw {U : Tx} {f : Xs → Xs} {c1 c2 t1 t2 : Nat} (m : Nat) (e : Nat × Nat) (out : List Nat) : (twL U f c1 c2 t1 t2 m (.inl e, out)).1 = .inl e := by
  cases m with
  | zero => rfl
  | succ m =>
    show (if (none : Option Nat) = some c1 then _ else if (none : Option Nat) = some c2 then _ else ((.inl e : Rdg), out)).1 = _
    rw [if_neg (by intro z; cases z), if_neg (by intro z; cases z)]
theorem fl_pr {U : Tx} {k n : Nat} {D : Lv} (e : Nat × Nat) (out : List Nat) : (prX U k n D (.inl e, out)).1 = .inl e := by
  unfold prX
  rw [fl_par]
  exact fl_tw _ _ _
theorem fl_tw' {U : Tx} {f : Xs → Xs} {c1 c2 t1 t2 : Nat} (m : Nat) {e : Nat × Nat} {x : Xs} (h : x.1 = .inl e) : (twL U f c1 c2 t1 t2 m x).1 = .inl e := by
  obtain ⟨s, out⟩ := x
  have h : s = .inl e := h
  subst h
  exact fl_tw _ _ _
theorem fl_sm {U : Tx} {k n : Nat} {D : Lv} (e : Nat × Nat) (out : List Nat) : (smX U k n D (.inl e, out)).1 = .inl e := fl_tw' _ (fl_pr _ _)
def muF (pm : List Nat) : Prop := pm = [] ∨ pm = [38] ∨ pm = [39]
def arF (pa : List Nat) : Prop := pa = [] ∨ pa = [36] ∨ pa = [37]
/-- a product: what comes of it -/
def PrG (U : Tx) (k M : Nat) (q : Nat × Nat) (out w : List Nat) (o : Nat) (r : Xs) : Prop := match r.1 with
  | .inl e => EndF U k (0, (.inr q, out, w, o)) e
  | .inr p => Ivr U (.inr p) ∧ lkS U (.inr p) = .inr p ∧ (lkC U (.inr p) ≠ some 42 ∧ lkC U (.inr p) ≠ some 47) ∧ (∃ cs, r.2 = out ++ cs ∧ cs.length + q.1 ≤ p.1 ∧ Tyk k cs false M) ∧ ∃ pm out1, r.2 = out1 ++ pm ∧ muF pm ∧ redY U k (0, (.inr q, out, w, o)) (1, (.inr p, out1, pm ++ w, o))
def PrK (U : Tx) (k n : Nat) (f : Xs → Xs) : Prop := ∀ (q : Nat × Nat) (out w : List Nat) (o : Nat), o + n = 6 → Ivr U (.inr q) → hdN isMu w → PrG U k (2 + 3 * n) q out w o (f (.inr q, out))
theorem at_end {U : Tx} {q : Nat × Nat} (h : U.1 ≤ q.1) : lkS U (.inr q) = .inr q ∧ lkC U (.inr q) = none := by
  have e := skp_e (T := U) h
  obtain ⟨e1, e2⟩ := (lk_r (U := U) q).1 (by rw [e]; exact h)
  refine ⟨?_, e2⟩
  rw [e1, e]
  unfold tcN
  rw [if_pos e]
theorem mu_w {pm w : List Nat} (h : muF pm) (hw : hdN isMu w) : tkW isMu (pm ++ w) = pm ∧ drW isMu (pm ++ w) = w := by
  have h0 : tkW isMu w = [] ∧ drW isMu w = w := by
    cases w with
    | nil => exact ⟨rfl, rfl⟩
    | cons e w =>
      have := (hw e w rfl).1
      constructor
      · show (bif isMu e then _ else []) = []; rw [this]; rfl
      · show (bif isMu e then _ else e :: w) = e :: w; rw [this]; rfl
  rcases h with rfl | rfl | rfl
  · exact h0
  · exact ⟨by show 38 :: tkW isMu w = _; rw [h0.1], by show drW isMu w = _; exact h0.2⟩
  · exact ⟨by show 39 :: tkW isMu w = _; rw [h0.1], by show drW isMu w = _; exact h0.2⟩
theorem ar_w {pm pa w : List Nat} (h : muF pm) (h2 : arF pa) (hw : hdN isAr w) : tkW isAr (pm ++ pa ++ w) = pm ++ pa ∧ drW isAr (pm ++ pa ++ w) = w := by
  have h0 : tkW isAr w = [] ∧ drW isAr w = w := by
    cases w with
    | nil => exact ⟨rfl, rfl⟩
    | cons e w =>
      have := (hw e w rfl).1
      constructor
      · show (bif isAr e then _ else []) = []; rw [this]; rfl
      · show (bif isAr e then _ else e :: w) = e :: w; rw [this]; rfl
  have key : ∀ l : List Nat, (∀ e, e ∈ l → isAr e = true) → tkW isAr (l ++ w) = l ∧ drW isAr (l ++ w) = w := by
    intro l
    induction l with
    | nil => intro _; exact h0
    | cons e l ih =>
      intro hl
      have he := hl e List.mem_cons_self
      have ih := ih (fun x hx => hl x (List.mem_cons_of_mem e hx))
      constructor
      · show (bif isAr e then e :: tkW isAr (l ++ w) else []) = e :: l; rw [he, ih.1]; rfl
      · show (bif isAr e then drW isAr (l ++ w) else e :: (l ++ w)) = w; rw [he, ih.2]; rfl
  refine key (pm ++ pa) (fun e he => ?_)
  rcases List.mem_append.mp he with z | z
  · rcases h with rfl | rfl | rfl
    · cases z
    · rw [List.mem_singleton.mp z]; rfl
    · rw [List.mem_singleton.mp z]; rfl
  · rcases h2 with rfl | rfl | rfl
    · cases z
    · rw [List.mem_singleton.mp z]; rfl
    · rw [List.mem_singleton.mp z]; rfl
theorem twL_s (U : Tx) (f : Xs → Xs) (c1 c2 t1 t2 m : Nat) (x : Xs) : twL U f c1 c2 t1 t2 (m + 1) x = if lkC U x.1 = some c1 then twL U f c1 c2 t1 t2 m (em t1 (f (tSg U c1 x.1, x.2))) else if lkC U x.1 = some c2 then twL U f c1 c2 t1 t2 m (em t2 (f (tSg U c2 x.1, x.2))) else (lkS U x.1, x.2) := rfl
theorem prl_ok {U : Tx} {k n : Nat} {f : Xs → Xs} (hf : PaK U k n f) (hfl : ∀ e out, (f (.inl e, out)).1 = .inl e) {q0 : Nat × Nat} {out0 w : List Nat} {o : Nat} (ho : o + n = 6) (hw : hdN isMu w) :
    ∀ (m : Nat) (q : Nat × Nat) (out1 pm cs0 : List Nat), U.1 ≤ q.1 + m → Ivr U (.inr q) → muF pm → redY U k (0, (.inr q0, out0, w, o)) (1, (.inr q, out1, pm ++ w, o)) → out1 ++ pm = out0 ++ cs0 → cs0.length + q0.1 ≤ q.1 → Tyk k cs0 false (2 + 3 * n) →
    PrG U k (2 + 3 * n) q0 out0 w o (twL U f 42 47 38 39 m (.inr q, out1 ++ pm)) := by
  intro m
  induction m with
  | zero =>
    intro q out1 pm cs0 hm hI hpm hr he hl ht
    obtain ⟨a1, a2⟩ := at_end (q := q) (by omega)
    exact ⟨hI, a1, ⟨(by rw [a2]; exact no_c _), (by rw [a2]; exact no_c _)⟩, ⟨cs0, he, hl, ht⟩, pm, out1, rfl, hpm, hr⟩
  | succ m ih =>
    intro q out1 pm cs0 hm hI hpm hr he hl ht
    rw [twL_s]
    show PrG U k (2 + 3 * n) q0 out0 w o (if lkC U (.inr q) = some 42 then twL U f 42 47 38 39 m (em 38 (f (tSg U 42 (.inr q), out1 ++ pm))) else if lkC U (.inr q) = some 47 then twL U f 42 47 38 39 m (em 39 (f (tSg U 47 (.inr q), out1 ++ pm))) else (lkS U (.inr q), out1 ++ pm))
    cases hcf : cfT U q with
    | true =>
      obtain ⟨c1, c2, -⟩ := cf_yes hcf
      rw [c2, if_neg (by intro z; cases z), if_neg (by intro z; cases z), c1]
      exact hr.F (cf_B hcf _)
    | false =>
      obtain ⟨c1, c2, -, -⟩ := cf_no hI hcf
      obtain ⟨w1, w2⟩ := mu_w hpm hw
      -- behind a sign: a part more
      have step : ∀ c t, (c = 42 ∧ t = 38) ∨ (c = 47 ∧ t = 39) → lkC U (.inr q) = some c → PrG U k (2 + 3 * n) q0 out0 w o (twL U f 42 47 38 39 m (em t (f (tSg U c (.inr q), out1 ++ pm)))) := by
        intro c t hct hc
        obtain ⟨p, g1, g2, g3, g4⟩ := Ivr_sg hc
        have e1 : tSg U c (.inr q) = .inr (p.1 + 1, 0) := by rw [tSg_y hc, g1]; rfl
        rw [e1]
        have eB : stB U (.inr q, out1, pm ++ w, o) = (0, (.inr (p.1 + 1, 0), out1 ++ pm, t :: w, o)) := by
          unfold stB
          show (if mC U (.inr q) = some 41 ∧ _ then _ else if mC U (.inr q) = some 42 ∨ mC U (.inr q) = some 47 then (0, (adv 1 0 (skM U (.inr q)), out1 ++ tkW isMu (pm ++ w), (if mC U (.inr q) = some 42 then 38 else 39) :: drW isMu (pm ++ w), o)) else _) = _
          rw [← c2, ← c1, hc, if_neg (fun z => by have := Option.some.inj z.1; omega), if_pos (by rcases hct with ⟨rfl, -⟩ | ⟨rfl, -⟩ <;> decide), g1, w1, w2]
          rcases hct with ⟨rfl, rfl⟩ | ⟨rfl, rfl⟩ <;> rfl
        have hr2 := hr.tr (redB rfl)
        rw [eB] at hr2
        have P := hf (p.1 + 1, 0) (out1 ++ pm) (t :: w) o ho g4
        generalize hx : f (.inr (p.1 + 1, 0), out1 ++ pm) = x at *
        obtain ⟨s1, out2⟩ := x
        cases s1 with
        | inl e =>
          have : (twL U f 42 47 38 39 m (em t ((.inl e : Rdg), out2))).1 = .inl e := fl_tw _ _ _
          unfold PrG
          rw [this]
          exact hr2.F P
        | inr p1 =>
          obtain ⟨j1, ⟨cs1, m1, m2, m3⟩, j3⟩ := P
          have m1 : out2 = out1 ++ pm ++ cs1 := m1
          have m2 : cs1.length + (p.1 + 1) ≤ p1.1 := m2
          have j3 : redY U k (0, (.inr (p.1 + 1, 0), out1 ++ pm, t :: w, o)) (1, qeY (.inr p1) out2 (t :: w) o) := j3
          rw [qeY_n (fun e r z => by cases z; omega)] at j3
          refine ih p1 out2 [t] (cs0 ++ cs1 ++ [t]) (by omega) j1 (by rcases hct with ⟨-, rfl⟩ | ⟨-, rfl⟩; exact Or.inr (Or.inl rfl); exact Or.inr (Or.inr rfl)) (hr2.tr j3) ?_ ?_ ?_
          · rw [m1, he]; simp only [List.append_assoc]
          · simp only [List.length_append, List.length_cons, List.length_nil]; omega
          · have ht' : Tyk k cs0 false (1 + 3 * n + 1) := ht.up (by omega)
            exact (ht'.two2 (t := t) (z := false) m3 (fun st => ty_ar (by omega) st)).up (by omega)
      by_cases h42 : lkC U (.inr q) = some 42
      · rw [if_pos h42]; exact step 42 38 (Or.inl ⟨rfl, rfl⟩) h42
      · rw [if_neg h42]
        by_cases h47 : lkC U (.inr q) = some 47
        · rw [if_pos h47]; exact step 47 39 (Or.inr ⟨rfl, rfl⟩) h47
        · rw [if_neg h47]
          cases hp : lkS U (.inr q) with
          | inl e => rw [c1] at hp; cases hp
          | inr p =>
            have hI2 := Ivr_lk hI
            rw [hp] at hI2
            refine ⟨hI2, by rw [← hp, lkS_i], ⟨by rw [← hp, lkC_i]; exact h42, by rw [← hp, lkC_i]; exact h47⟩, ⟨cs0, he, ?_, ht⟩, pm, out1, rfl, hpm, hr.tr (redLk hI hp _)⟩
            have := rpos_lk U q p hp
            omega
theorem pr_ok {U : Tx} {k n : Nat} {D : Lv} (hT : TxW U) (hf : PaK U k n (parX U k n D)) : PrK U k n (prX U k n D) := by
  intro q out w o ho hI hw
  have P := hf q out w o ho hI
  unfold prX
  generalize hx : parX U k n D (.inr q, out) = x at *
  obtain ⟨s1, out1⟩ := x
  cases s1 with
  | inl e =>
    have : (twL U (parX U k n D) 42 47 38 39 1600 ((.inl e : Rdg), out1)).1 = .inl e := fl_tw _ _ _
    unfold PrG
    rw [this]
    exact P
  | inr p =>
    obtain ⟨j1, ⟨cs1, m1, m2, m3⟩, j3⟩ := P
    have j3 : redY U k (0, (.inr q, out, w, o)) (1, qeY (.inr p) out1 w o) := j3
    rw [qeY_n (fun e r z => (hw e r z).2)] at j3
    have h16 := hT.1
    have := prl_ok hf (fun e out => by rw [fl_par]) (q0 := q) (out0 := out) (w := w) ho hw 1600 p out1 [] cs1 (by omega) j1 (Or.inl rfl) j3 (by rw [List.append_nil]; exact m1) m2 (m3.up (by omega))
    rw [List.append_nil] at this
    exact this
theorem sml_ok {U : Tx} {k n : Nat} {f : Xs → Xs} (hf : PrK U k n f) (hfl : ∀ e out, (f (.inl e, out)).1 = .inl e) {q0 : Nat × Nat} {out0 w : List Nat} {o : Nat} (ho : o + n = 6) (hw : hdN isAr w) :
    ∀ (m : Nat) (q : Nat × Nat) (out1 pm pa cs0 : List Nat), U.1 ≤ q.1 + m → Ivr U (.inr q) → lkS U (.inr q) = .inr q → (lkC U (.inr q) ≠ some 42 ∧ lkC U (.inr q) ≠ some 47) → muF pm → arF pa → redY U k (0, (.inr q0, out0, w, o)) (1, (.inr q, out1, pm ++ pa ++ w, o)) → out1 ++ (pm ++ pa) = out0 ++ cs0 → cs0.length + q0.1 ≤ q.1 → Tyk k cs0 false (3 + 3 * n) →
    SuG U k (3 + 3 * n) q0 out0 w o (twL U f 43 45 36 37 m (.inr q, out1 ++ (pm ++ pa))) := by
  have arp : ∀ {pm pa : List Nat}, muF pm → arF pa → ∀ e, e ∈ pm ++ pa → isAr e = true := by
    intro pm pa h h2 e he
    rcases List.mem_append.mp he with z | z
    · rcases h with rfl | rfl | rfl
      · cases z
      · rw [List.mem_singleton.mp z]; rfl
      · rw [List.mem_singleton.mp z]; rfl
    · rcases h2 with rfl | rfl | rfl
      · cases z
      · rw [List.mem_singleton.mp z]; rfl
      · rw [List.mem_singleton.mp z]; rfl
  intro m
  induction m with
  | zero =>
    intro q out1 pm pa cs0 hm hI hl0 hn hpm hpa hr he hl ht
    obtain ⟨a1, a2⟩ := at_end (q := q) (by omega)
    exact ⟨hI, a1, ⟨hn.1, hn.2, (by rw [a2]; exact no_c _), (by rw [a2]; exact no_c _)⟩, ⟨cs0, he, hl, ht⟩, pm ++ pa, out1, rfl, arp hpm hpa, hr⟩
  | succ m ih =>
    intro q out1 pm pa cs0 hm hI hl0 hn hpm hpa hr he hl ht
    rw [twL_s]
    show SuG U k (3 + 3 * n) q0 out0 w o (if lkC U (.inr q) = some 43 then twL U f 43 45 36 37 m (em 36 (f (tSg U 43 (.inr q), out1 ++ (pm ++ pa)))) else if lkC U (.inr q) = some 45 then twL U f 43 45 36 37 m (em 37 (f (tSg U 45 (.inr q), out1 ++ (pm ++ pa)))) else (lkS U (.inr q), out1 ++ (pm ++ pa)))
    obtain ⟨l1, l2⟩ := looked hI hl0
    obtain ⟨w1, w2⟩ := ar_w hpm hpa hw
    have step : ∀ c t, (c = 43 ∧ t = 36) ∨ (c = 45 ∧ t = 37) → lkC U (.inr q) = some c → SuG U k (3 + 3 * n) q0 out0 w o (twL U f 43 45 36 37 m (em t (f (tSg U c (.inr q), out1 ++ (pm ++ pa))))) := by
      intro c t hct hc
      obtain ⟨p, g1, g2, g3, g4⟩ := Ivr_sg hc
      have g1' := g1
      rw [hl0] at g1'
      cases g1'
      have e1 : tSg U c (.inr q) = .inr (q.1 + 1, 0) := by rw [tSg_y hc, hl0]; rfl
      rw [e1]
      have eB : stB U (.inr q, out1, pm ++ pa ++ w, o) = (0, (.inr (q.1 + 1, 0), out1 ++ (pm ++ pa), t :: w, o)) := by
        unfold stB
        show (if mC U (.inr q) = some 41 ∧ _ then _ else if mC U (.inr q) = some 42 ∨ mC U (.inr q) = some 47 then _ else if mC U (.inr q) = some 43 ∨ mC U (.inr q) = some 45 then (0, (adv 1 0 (skM U (.inr q)), out1 ++ tkW isAr (pm ++ pa ++ w), (if mC U (.inr q) = some 43 then 36 else 37) :: drW isAr (pm ++ pa ++ w), o)) else _) = _
        rw [l2, hc, if_neg (fun z => by have := Option.some.inj z.1; omega), if_neg (fun z => by rcases z with z | z <;> (have := Option.some.inj z; omega)), if_pos (by rcases hct with ⟨rfl, -⟩ | ⟨rfl, -⟩ <;> decide), l1, w1, w2]
        rcases hct with ⟨rfl, rfl⟩ | ⟨rfl, rfl⟩ <;> rfl
      have hr2 := hr.tr (redB rfl)
      rw [eB] at hr2
      have P := hf (q.1 + 1, 0) (out1 ++ (pm ++ pa)) (t :: w) o ho g4 (fun e r z => by cases z; rcases hct with ⟨-, rfl⟩ | ⟨-, rfl⟩ <;> exact ⟨rfl, by decide, by decide⟩)
      generalize hx : f (.inr (q.1 + 1, 0), out1 ++ (pm ++ pa)) = x at *
      obtain ⟨s1, out2⟩ := x
      cases s1 with
      | inl e =>
        have : (twL U f 43 45 36 37 m (em t ((.inl e : Rdg), out2))).1 = .inl e := fl_tw _ _ _
        unfold SuG
        rw [this]
        exact hr2.F P
      | inr p1 =>
        obtain ⟨j1, j2, j3, ⟨cs1, m1, m2, m3⟩, pm', out1', m4, m5, j4⟩ := P
        have m1 : out2 = out1 ++ (pm ++ pa) ++ cs1 := m1
        have m2 : cs1.length + (q.1 + 1) ≤ p1.1 := m2
        have m4 : out2 = out1' ++ pm' := m4
        have := ih p1 out1' pm' [t] (cs0 ++ cs1 ++ [t]) (by omega) j1 j2 j3 m5 (by rcases hct with ⟨-, rfl⟩ | ⟨-, rfl⟩; exact Or.inr (Or.inl rfl); exact Or.inr (Or.inr rfl)) (by
          refine hr2.tr ?_
          rw [List.append_assoc]
          exact j4) (by rw [← List.append_assoc, ← m4, m1, he]; simp only [List.append_assoc]) (by simp only [List.length_append, List.length_cons, List.length_nil]; omega) (by
          have ht' : Tyk k cs0 false (2 + 3 * n + 1) := ht.up (by omega)
          exact (ht'.two2 (t := t) (z := false) m3 (fun st => ty_ar (by omega) st)).up (by omega))
        rw [← List.append_assoc, ← m4] at this
        exact this
    by_cases h43 : lkC U (.inr q) = some 43
    · rw [if_pos h43]; exact step 43 36 (Or.inl ⟨rfl, rfl⟩) h43
    · rw [if_neg h43]
      by_cases h45 : lkC U (.inr q) = some 45
      · rw [if_pos h45]; exact step 45 37 (Or.inr ⟨rfl, rfl⟩) h45
      · rw [if_neg h45, hl0]
        exact ⟨hI, hl0, ⟨hn.1, hn.2, h43, h45⟩, ⟨cs0, he, hl, ht⟩, pm ++ pa, out1, rfl, arp hpm hpa, hr⟩
theorem hd_mu {w : List Nat} (h : hdN isAr w) : hdN isMu w := by
  intro e r z
  obtain ⟨h1, h2⟩ := h e r z
  refine ⟨?_, h2⟩
  unfold isAr at h1
  simp only [Bool.or_eq_false_iff] at h1
  exact h1.1.1
theorem sm_ok {U : Tx} {k n : Nat} {D : Lv} (hT : TxW U) (hf : PrK U k n (prX U k n D)) : SuK U k n (smX U k n D) := by
  intro q out w o ho hI hw
  have P := hf q out w o ho hI (hd_mu hw)
  unfold smX
  generalize hx : prX U k n D (.inr q, out) = x at *
  obtain ⟨s1, out1⟩ := x
  cases s1 with
  | inl e =>
    have : (twL U (prX U k n D) 43 45 36 37 1600 ((.inl e : Rdg), out1)).1 = .inl e := fl_tw _ _ _
    unfold SuG
    rw [this]
    exact P
  | inr p =>
    obtain ⟨j1, j2, j3, ⟨cs1, m1, m2, m3⟩, pm', out1', m4, m5, j4⟩ := P
    have h16 := hT.1
    have m4 : out1 = out1' ++ pm' := m4
    have m1 : out1 = out ++ cs1 := m1
    have := sml_ok hf (fun e out => fl_pr e out) (q0 := q) (out0 := out) (w := w) ho hw 1600 p out1' pm' [] cs1 (by omega) j1 j2 j3 m5 (Or.inl rfl) (by rw [List.append_nil]; exact j4) (by rw [List.append_nil, ← m4]; exact m1) m2 (m3.up (by omega))
    rw [List.append_nil, ← m4] at this
    exact this
/-- every level's parts and sums -/
theorem lvl_ok {U : Tx} {k : Nat} (hT : TxW U) (hk5 : k < 5) : ∀ n, PaK U k n (lvl U k n).2.2.2 ∧ SuK U k n (lvl U k n).2.2.1 := by
  intro n
  induction n with
  | zero =>
    have hp : PaK U k 0 (parX U k 0 (id, id, id, id)) := part_ok hT hk5 (fun z => absurd rfl z) (fun _ _ => rfl) (fun z => absurd rfl z)
    exact ⟨hp, sm_ok hT (pr_ok hT hp)⟩
  | succ n ih =>
    have hF : ∀ e out, ((lvl U k n).2.2.1 (.inl e, out)).1 = .inl e := by
      intro e out
      cases n with
      | zero => exact fl_sm e out
      | succ n => exact fl_sm e out
    have hp : PaK U k (n + 1) (parX U k (n + 1) (lvl U k n)) := part_ok hT hk5 (fun _ => ih.2) hF (fun _ => ih.1)
    exact ⟨hp, sm_ok hT (pr_ok hT hp)⟩
