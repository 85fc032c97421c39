/-! ever: what ends a night, if orders are free -/
theorem plan_fold {R : Nat → Int} {H : Int → Int} {N : Int} : ∀ (L : List (List Nat)) (s : pS), s.1 ≤ (L.foldl (judgeF R H N) s).1 ∧ (∀ row ∈ L, fitF R H row → lenL R row ≤ (L.foldl (judgeF R H N) s).1) ∧ ((L.foldl (judgeF R H N) s).1 = s.1 ∨ ∃ row ∈ L, fitF R H row ∧ lenL R row = (L.foldl (judgeF R H N) s).1) := by
  intro L
  induction L with
  | nil => intro s; exact ⟨Int.le_refl _, fun r hr => by simp at hr, Or.inl rfl⟩
  | cons r L ih =>
    intro s
    rw [List.foldl_cons]
    obtain ⟨a, b, c⟩ := ih (judgeF R H N s r)
    have key : s.1 ≤ (judgeF R H N s r).1 ∧ (fitF R H r → lenL R r ≤ (judgeF R H N s r).1) ∧ ((judgeF R H N s r).1 = s.1 ∨ (fitF R H r ∧ lenL R r = (judgeF R H N s r).1)) := by
      unfold judgeF
      by_cases f : fitF R H r
      · rw [if_pos f]
        unfold judge1
        split
        · rename_i d
          refine ⟨?_, fun _ => Int.le_refl _, Or.inr ⟨f, rfl⟩⟩
          simp only; omega
        · rename_i d
          refine ⟨Int.le_refl _, fun _ => ?_, Or.inl rfl⟩
          simp only; omega
      · rw [if_neg f]
        exact ⟨Int.le_refl _, fun z => absurd z f, Or.inl rfl⟩
    refine ⟨Int.le_trans key.1 a, fun row hr hf => ?_, ?_⟩
    · rcases List.mem_cons.1 hr with z | z
      · rw [z] at hf ⊢; exact Int.le_trans (key.2.1 hf) a
      · exact b row z hf
    · rcases c with c | ⟨row, c1, c2⟩
      · rcases key.2.2 with k | k
        · exact Or.inl (c.trans k)
        · exact Or.inr ⟨r, by simp, k.1, k.2.trans c.symm⟩
      · exact Or.inr ⟨row, by simp [c1], c2⟩
theorem mem_0 {P : Nat → Bool} {n b : Nat} {pre : List Nat} (hb : b ≤ 24) : pre ∈ tailF n P b pre := by
  unfold tailF
  rw [if_pos hb]
  cases n with
  | zero => simp [spreadF]
  | succ n => simp [spreadF]
theorem mem_1 {P : Nat → Bool} {n p : Nat} {pre x : List Nat} (hp : p < 24) (hP : P p = true) (hx : x ∈ tailF n P p (pre ++ [p])) : ∀ d b : Nat, b + d = p → x ∈ tailF (n + 1) P b pre := by
  intro d
  induction d with
  | zero =>
    intro b hb
    have : b = p := by omega
    subst this
    rw [tailF_y hp hP]
    exact List.mem_append.2 (Or.inl hx)
  | succ d ih =>
    intro b hb
    have := ih (b + 1) (by omega)
    cases e : P b with
    | true => rw [tailF_y (by omega) e]; exact List.mem_append.2 (Or.inr this)
    | false => rw [tailF_n (by omega) (Or.inl e)]; exact this
theorem rw3_in {P : Nat → Bool} {T a b c : Nat} (h1 : a ≤ b) (h2 : b ≤ c) (h3 : c ≤ 24) (ha : a < 24 → P a = true ∧ 0 < T) (hb : b < 24 → P b = true ∧ 1 < T) (hc : c < 24 → P c = true ∧ 2 < T) : rw3 a b c ∈ spreadF T (offL P 0) [] := by
  have e : spreadF T (offL P 0) [] = tailF T P 0 [] := by unfold tailF; rw [if_pos (by omega)]
  rw [e]
  unfold rw3
  by_cases ea : a = 24
  · rw [if_pos ea]; exact mem_0 (by omega)
  · rw [if_neg ea]
    obtain ⟨pa, ta⟩ := ha (by omega)
    obtain ⟨t1, rfl⟩ : ∃ t, T = t + 1 := ⟨T - 1, by omega⟩
    by_cases eb : b = 24
    · rw [if_pos eb]
      exact mem_1 (p := a) (by omega) pa (mem_0 (by omega)) a 0 (by omega)
    · rw [if_neg eb]
      obtain ⟨pb, tb⟩ := hb (by omega)
      obtain ⟨t2, rfl⟩ : ∃ t, t1 = t + 1 := ⟨t1 - 1, by omega⟩
      by_cases ec : c = 24
      · rw [if_pos ec]
        refine mem_1 (p := a) (by omega) pa (mem_1 (p := b) (by omega) pb (mem_0 (by omega)) (b - a) a (by omega)) a 0 (by omega)
      · rw [if_neg ec]
        obtain ⟨pc, tc⟩ := hc (by omega)
        obtain ⟨t3, rfl⟩ : ∃ t, t2 = t + 1 := ⟨t2 - 1, by omega⟩
        refine mem_1 (p := a) (by omega) pa (mem_1 (p := b) (by omega) pb (mem_1 (p := c) (by omega) pc (mem_0 (by omega)) (c - b) b (by omega)) (b - a) a (by omega)) a 0 (by omega)
theorem mnL_mem {f : Nat → Int} {w : Nat} (hw : w ≠ 24) : ∀ (l : List Nat) (a : Int), w ∈ l → mnL f a l ≤ f w := by
  intro l
  induction l with
  | nil => intro a h; simp at h
  | cons u l ih =>
    intro a h
    show mnL f (if u = 24 then a else min a (f u)) l ≤ f w
    rcases List.mem_cons.1 h with z | z
    · subst z
      rw [if_neg hw]
      exact Int.le_trans (mnL_leq _ _) (by omega)
    · exact ih _ z
theorem mnL_att {f : Nat → Int} : ∀ (l : List Nat) (a : Int), mnL f a l = a ∨ ∃ u ∈ l, u ≠ 24 ∧ mnL f a l = f u := by
  intro l
  induction l with
  | nil => intro a; exact Or.inl rfl
  | cons u l ih =>
    intro a
    show mnL f (if u = 24 then a else min a (f u)) l = a ∨ ∃ u' ∈ u :: l, u' ≠ 24 ∧ mnL f (if u = 24 then a else min a (f u)) l = f u'
    rcases ih (if u = 24 then a else min a (f u)) with z | ⟨v, v1, v2, v3⟩
    · by_cases e : u = 24
      · rw [if_pos e] at z ⊢; exact Or.inl z
      · rw [if_neg e] at z ⊢
        by_cases q : a ≤ f u
        · left; rw [z]; omega
        · right; exact ⟨u, by simp, e, by rw [z]; omega⟩
    · exact Or.inr ⟨v, by simp [v1], v2, v3⟩
/-- what a table is tonight if orders are free -/
def evI (R C : Nat → Int) (f : Nat → Nat) : Prop := (∀ j, j < 3 → (f j = 24 ∨ (goodF R (f j) ∧ C (f j) ≤ 1)) ∧ (R 0 ≤ j → f j = 24)) ∧ thereF R (f 0) (f 1) (f 2) (R 4).toNat
theorem evI_dom {R C : Nat → Int} {f : Nat → Nat} (h : evI R C f) : ∀ j, j < 3 → domF R (f j) := fun j hj => by
  rcases (h.1 j hj).1 with z | z
  · exact Or.inr z
  · exact Or.inl z.1.1
theorem evI_c {R C : Nat → Int} {f g : Nat → Nat} (e : ∀ j, j < 3 → f j = g j) (h : evI R C f) : evI R C g := by
  unfold evI at *
  rw [← e 0 (by omega), ← e 1 (by omega), ← e 2 (by omega)]
  exact ⟨fun j hj => by rw [← e j hj]; exact h.1 j hj, h.2⟩
theorem rise_up {R C : Nat → Int} (hR : okR R) (hC : isRise R C) {w v : Nat} (hw : w = 24 ∨ C w ≤ 1) (hw2 : w ≤ 24) (h : 0 ≤ byF R w v) : C v ≤ 1 := by
  have g := byF_ge h
  rw [hC v g.1.1]
  rcases g.2 with z | z
  · rw [z.2]; exact mnL_leq _ _
  · exact Int.le_trans (mnL_mem z.1 _ _ (downsF_mem.2 ⟨by omega, h⟩)) (hw.resolve_left z.1)
theorem ev_reach {R C F : Nat → Int} (hR : okR R) (hC : isRise R C) (hF : isDist (adjW R 0 (R 4) 8) 15625 (cdF (fun _ => 24)) F) : ∀ (n x : Nat), x < 15625 → F x = n → ∃ f, evI R C f ∧ x = cdF f := by
  intro n
  induction n with
  | zero =>
    intro x hx h0
    refine ⟨fun _ => 24, ⟨fun j _ => ⟨Or.inl rfl, fun _ => rfl⟩, fun c _ _ => ?_⟩, hF.2.2.2.1 x hx h0⟩
    simp only [cntW_24]
    have := cntG_rng R c (R 4).toNat
    omega
  | succ n ih =>
    intro x hx h0
    obtain ⟨w, w1, w2, w3⟩ := hF.2.2.1 x hx (by omega)
    obtain ⟨f, hf, ef⟩ := ih w w1 (by omega)
    obtain ⟨f', t, v, a1, a2, a3, a4, a5, a6⟩ := w2
    have bT := hR.T
    have dl : ∀ {w : Nat}, domF R w → w ≤ 24 := fun hw => domF_le hR hw
    have ee := cdF_inj (fun j hj => dl (a1 j hj)) (fun j hj => dl (evI_dom hf j hj)) (a2.symm.trans ef)
    have hf' : evI R C f' := evI_c (fun j hj => (ee j hj).symm) hf
    have gr := (a5.1.resolve_right (fun z => absurd z.1 (by decide)))
    refine ⟨sT f' t v, ⟨fun j hj => ?_, gr.2⟩, a6⟩
    unfold sT
    by_cases q : t = j
    · rw [if_pos q]
      subst q
      have ft := (hf'.1 t (by omega)).1
      refine ⟨Or.inr ⟨(byF_ge gr.1).1, rise_up hR hC ?_ (dl (a1 t (by omega))) gr.1⟩, fun z => by omega⟩
      rcases ft with z | z
      · exact Or.inl z
      · exact Or.inr z.2
    · rw [if_neg q]; exact hf'.1 j hj
theorem ev_le {R C : Nat → Int} (hR : okR R) {f : Nat → Nat} (h : evI R C f) : lenC R f ≤ (planF R (haveF R) (R 4) (offL (offP R C 1) 0)).1 := by
  have bT := hR.T
  have bW := hR.W
  have d := evI_dom h
  have dl : ∀ j, j < 3 → f j ≤ 24 := fun j hj => domF_le hR (d j hj)
  have vt : vtF R (f 1) (f 2) := ⟨fun z => (h.1 1 (by omega)).2 (by omega), fun z => (h.1 2 (by omega)).2 (by omega)⟩
  -- in order, keeping how many are empty from the end on
  obtain ⟨lo, mid, hi, s1, s2, s3, el, eh, em, vs, sf⟩ := srt_ex hR (dl 0 (by omega)) (dl 1 (by omega)) (dl 2 (by omega)) vt
  obtain ⟨q0, q1, _, _, _⟩ := rw3_all (R := R) (a := lo) (b := mid) (c := hi) s1 s2 (by omega)
  have isK : ∀ x, x = lo ∨ x = mid ∨ x = hi → x = 24 ∨ (goodF R x ∧ C x ≤ 1) := by
    intro x hx
    have a0 := (h.1 0 (by omega)).1
    have a1 := (h.1 1 (by omega)).1
    have a2 := (h.1 2 (by omega)).1
    have : x = f 0 ∨ x = f 1 ∨ x = f 2 := by omega
    rcases this with z | z | z <;> rw [z] <;> assumption
  have tb : ∀ x, x < 24 → (x = 24 ∨ (goodF R x ∧ C x ≤ 1)) → offP R C 1 x = true := fun x hx hk => by
    have := hk.resolve_left (by omega)
    unfold offP
    rw [gb_iff.2 this.1]; simpa using this.2
  have mem := rw3_in (P := offP R C 1) (T := (R 0).toNat) s1 s2 (by omega) (fun z => ⟨tb _ z (isK _ (by omega)), by omega⟩) (fun z => ⟨tb _ z (isK _ (by omega)), by
    rcases Int.lt_or_le (R 0) 2 with y | y
    · have := vs.1 y; omega
    · omega⟩) (fun z => ⟨tb _ z (isK _ (by omega)), by
    rcases Int.lt_or_le (R 0) 3 with y | y
    · have := vs.2 y; omega
    · omega⟩)
  have sL := sf (fun a b c => lnF R a + lnF R b + lnF R c) (fun _ a b c => by simp only; omega) (fun _ a b c => by simp only; omega)
  have sC : ∀ x, cntW R lo x + cntW R mid x + cntW R hi x = cntW R (f 0) x + cntW R (f 1) x + cntW R (f 2) x := fun x => sf (fun a b c => cntW R a x + cntW R b x + cntW R c x) (fun _ a b c => by simp only; omega) (fun _ a b c => by simp only; omega)
  have eL : lenL R (rw3 lo mid hi) = lenC R f := by
    rw [← q1]
    unfold lenC
    simp only [sumN, r3] at *
    simp only [show ((0 : Nat) = 0) = True by simp, show ((1 : Nat) = 0) = False by simp, show ((2 : Nat) = 0) = False by simp, show ((2 : Nat) = 1) = False by simp, if_true, if_false]
    omega
  rw [← eL]
  refine (plan_fold _ _).2.1 _ mem ?_
  intro c c0 c1
  rw [← q0]
  have := h.2 c c0 c1
  have e3 := sC c
  unfold haveF
  simp only [sumN, r3]
  simp only [show ((0 : Nat) = 0) = True by simp, show ((1 : Nat) = 0) = False by simp, show ((2 : Nat) = 0) = False by simp, show ((2 : Nat) = 1) = False by simp, if_true, if_false]
  omega
theorem there_mono {R : Nat → Int} {f g : Nat → Nat} {n : Nat} (h : ∀ j, j < 3 → ∀ x : Int, cntW R (f j) x ≤ cntW R (g j) x) (hg : thereF R (g 0) (g 1) (g 2) n) : thereF R (f 0) (f 1) (f 2) n := by
  intro x x0 x1
  have := hg x x0 x1
  have a := h 0 (by omega) x; have b := h 1 (by omega) x; have c := h 2 (by omega) x
  omega
theorem ev_one {R C F : Nat → Int} (hR : okR R) (hC : isRise R C) (hF : isDist (adjW R 0 (R 4) 8) 15625 (cdF (fun _ => 24)) F) : ∀ (n w t : Nat) (f : Nat → Nat), goodF R w → C w ≤ 1 → R (7 + w) ≤ n → t < 3 → (t : Int) < R 0 → (∀ j, j < 3 → domF R (f j)) → f t = 24 → 0 ≤ F (cdF f) → thereF R (sT f t w 0) (sT f t w 1) (sT f t w 2) (R 4).toNat → 0 ≤ F (cdF (sT f t w)) := by
  have bN := hR.N
  have bW := hR.W
  have dl : ∀ {w : Nat}, domF R w → w ≤ 24 := fun hw => domF_le hR hw
  have lnn : ∀ f : Nat → Nat, (∀ j, j < 3 → domF R (f j)) → 0 ≤ lenC R f := fun f hf => by
    have a := lnF_rng hR (hf 0 (by omega)); have b := lnF_rng hR (hf 1 (by omega)); have c := lnF_rng hR (hf 2 (by omega))
    unfold lenC; omega
  intro n
  induction n with
  | zero => intro w t f g _ hn; have := hR.len g.1; omega
  | succ n ih =>
    intro w t f g c hn t3 tT hf e24 h0 hth
    have lw := hR.len g.1
    have go : ∀ (u : Nat) (f' : Nat → Nat), (∀ j, j < 3 → domF R (f' j)) → f' t = u → 0 ≤ byF R u w → 0 ≤ F (cdF f') → (∀ j, j < 3 → sT f' t w j = sT f t w j) → 0 ≤ F (cdF (sT f t w)) := by
      intro u f' hf' eu hb hu es
      have sd := sT_dom (t := t) hf' (Or.inl g.1 : domF R w)
      have a1 := cdF_lt (fun j hj => dl (hf' j hj))
      have a2 := cdF_lt (fun j hj => dl (sd j hj))
      have := (hF.2.2.2.2 (cdF f') (cdF (sT f' t w)) a1 a2 hu ⟨f', t, w, hf', rfl, tT, dl (Or.inl g.1), ⟨Or.inl ⟨by rw [eu]; exact hb, by rw [es 0 (by omega), es 1 (by omega), es 2 (by omega)]; exact hth⟩, by have := lnn _ sd; omega⟩, rfl⟩).1
      rw [cdF_c es] at this
      exact this
    by_cases one : R (7 + w) = 1
    · refine go 24 f hf e24 ?_ h0 (fun j hj => rfl)
      rw [byF_yes (Or.inl rfl) g]
      unfold wvF
      rw [if_pos rfl, if_pos one]
      have := hR.let (w := w) (i := 0) g.1 (by omega)
      rw [Nat.add_zero] at this; omega
    · have ci := hC w g.1
      rcases mnL_att (f := C) (downsF R w) (R (7 + w)) with z | ⟨u, u1, u2, u3⟩
      · rw [← ci] at z; omega
      · have ub := (downsF_mem.1 u1).2
        have gu := byF_ge ub
        have gu2 := gu.2.resolve_left (fun z => u2 z.1)
        have cu : C u ≤ 1 := by rw [← u3, ← ci]; exact c
        have mono : ∀ j, j < 3 → ∀ x : Int, cntW R (sT f t u j) x ≤ cntW R (sT f t w j) x := by
          intro j hj x
          unfold sT
          split
          · rw [cntW_grow hR rfl ub x]; split <;> omega
          · exact Int.le_refl _
        have ru := ih u t f gu2.2.1 cu (by omega) t3 tT hf e24 h0 (there_mono mono hth)
        refine go u (sT f t u) (sT_dom hf (Or.inl gu2.2.1.1)) (by simp [sT]) ub ru (fun j hj => ?_)
        unfold sT
        split <;> rfl
theorem ev_all {R C F : Nat → Int} (hR : okR R) (hC : isRise R C) (hF : isDist (adjW R 0 (R 4) 8) 15625 (cdF (fun _ => 24)) F) {f : Nat → Nat} (h : evI R C f) : 0 ≤ F (cdF f) := by
  have bT := hR.T
  have dl : ∀ {w : Nat}, domF R w → w ≤ 24 := fun hw => domF_le hR hw
  have d := evI_dom h
  have key : ∀ n : Nat, n ≤ 3 → 0 ≤ F (cdF (fun j => if j < n then f j else 24)) := by
    intro n
    induction n with
    | zero =>
      intro _
      have : cdF (fun j => if j < 0 then f j else 24) = cdF (fun _ => 24) := rfl
      rw [this, hF.1]; decide
    | succ n ih =>
      intro hn
      have r0 := ih (by omega)
      have dm : ∀ j, j < 3 → domF R ((fun j => if j < n then f j else 24) j) := fun j hj => by
        simp only
        split
        · exact d j hj
        · exact Or.inr rfl
      have es : ∀ j, j < 3 → sT (fun j => if j < n then f j else 24) n (f n) j = (fun j => if j < n + 1 then f j else 24) j := by
        intro j _
        simp only [sT]
        by_cases q : n = j
        · subst q; rw [if_pos rfl, if_pos (by omega)]
        · rw [if_neg q]
          by_cases y : j < n
          · rw [if_pos y, if_pos (by omega)]
          · rw [if_neg y, if_neg (by omega)]
      rcases (h.1 n (by omega)).1 with z | z
      · have : cdF (fun j => if j < n + 1 then f j else 24) = cdF (fun j => if j < n then f j else 24) := by
          refine cdF_c (fun j _ => ?_)
          by_cases y : j < n
          · rw [if_pos y, if_pos (by omega)]
          · by_cases q : j = n
            · subst q; rw [if_pos (by omega), if_neg (by omega)]; exact z
            · rw [if_neg y, if_neg (by omega)]
        rw [this]; exact r0
      · have nT : (n : Int) < R 0 := by
          rcases Int.lt_or_le (n : Int) (R 0) with y | y
          · exact y
          · have := (h.1 n (by omega)).2 y
            have := z.1.1
            have := hR.W
            omega
        have := ev_one hR hC hF 6 (f n) n (fun j => if j < n then f j else 24) z.1 z.2 (hR.len z.1.1).2 (by omega) nT dm (by simp) r0 (by
          rw [es 0 (by omega), es 1 (by omega), es 2 (by omega)]
          refine there_mono (g := f) (f := fun j => if j < n + 1 then f j else 24) (fun j hj x => ?_) h.2
          show cntW R (if j < n + 1 then f j else 24) x ≤ cntW R (f j) x
          split
          · exact Int.le_refl _
          · rw [cntW_24]; exact (cntW_rng hR (d j hj) x).1)
        rw [cdF_c es] at this
        exact this
  have := key 3 (by omega)
  rw [cdF_c (g := f) (fun j hj => if_pos hj)] at this
  exact this
theorem ev_att {R C : Nat → Int} (hR : okR R) : ∃ f, evI R C f ∧ lenC R f = (planF R (haveF R) (R 4) (offL (offP R C 1) 0)).1 := by
  have bT := hR.T
  have bW := hR.W
  have ge := PL_ge (H := haveF R) (N := R 4) (l := offL (offP R C 1) 0) hR (fun c _ => (cntG_rng _ _ _).1)
  rcases (plan_fold (R := R) (H := haveF R) (N := R 4) (spreadF (R 0).toNat (offL (offP R C 1) 0) []) (-1, -1, 0, 4, [])).2.2 with z | ⟨row, r1, r2, r3'⟩
  · have : (planF R (haveF R) (R 4) (offL (offP R C 1) 0)).1 = -1 := z
    omega
  · obtain ⟨ext, x1, x2, x3⟩ := spreadF_mem _ _ _ _ r1
    rw [List.nil_append] at x1
    subst x1
    have wP : ∀ w ∈ row, goodF R w ∧ C w ≤ 1 := fun w hw => by
      have := (offL_mem (x2 w hw)).2
      unfold offP at this
      rw [Bool.and_eq_true] at this
      exact ⟨gb_iff.1 this.1, by simpa using this.2⟩
    have rwo : rowW R row := fun w hw => (wP w hw).1.1
    have s3 : ∀ f : Nat → Int, sumN f 3 = f 0 + f 1 + f 2 := fun f => by simp only [sumN]; omega
    have nd : ∀ c : Int, cntW R (row.getD 0 24) c + cntW R (row.getD 1 24) c + cntW R (row.getD 2 24) c = needL R row c := fun c => (need3 (by omega) c).symm
    have ln : lnF R (row.getD 0 24) + lnF R (row.getD 1 24) + lnF R (row.getD 2 24) = lenL R row := by
      have l24 : lnF R 24 = 0 := by simp [lnF]
      have lw : ∀ w ∈ row, lnF R w = R (7 + w) := fun w hw => by unfold lnF; rw [if_neg (by have := rwo w hw; omega)]
      match row, (show row.length ≤ 3 by omega), lw with
      | [], _, _ => simp [lenL, l24]
      | [a], _, lw => simp [lenL, l24, lw a (by simp)]
      | [a, b], _, lw => simp [lenL, l24, lw a (by simp), lw b (by simp)]
      | [a, b, d], _, lw => simp [lenL, lw a (by simp), lw b (by simp), lw d (by simp)]; omega
      | _ :: _ :: _ :: _ :: _, h, _ => simp at h
    refine ⟨fun j => row.getD j 24, ⟨fun j hj => ⟨?_, fun z => getD_ge (by omega)⟩, fun c c0 c1 => ?_⟩, ?_⟩
    · by_cases q : j < row.length
      · right
        have e : row.getD j 24 = row[j] := by simp [List.getD_eq_getElem?_getD, List.getElem?_eq_getElem q]
        show goodF R (row.getD j 24) ∧ C (row.getD j 24) ≤ 1
        rw [e]
        exact wP _ (List.getElem_mem q)
      · left; exact getD_ge (by omega)
    · simp only
      rw [nd]; exact r2 c c0 c1
    · unfold lenC
      simp only
      rw [ln]; exact r3'
