/-! A WORLD IN THE MAKING: from the base on there are K cells, each one told by its entry -/
def uE (E : Nat → va_E) (j : Nat) (e : va_E) : Nat → va_E := fun k => bif Nat.beq k j then e else E k
def uB (E : Nat → va_E) (lo n : Nat) (e : va_E) : Nat → va_E := fun k => bif Nat.ble lo k && Nat.blt k (lo + n) then e else E k
theorem uE_eq {E : Nat → va_E} {j : Nat} {e : va_E} : uE E j e j = e := by
  unfold uE
  rw [Nat.beq_refl]
  rfl
theorem uE_ne {E : Nat → va_E} {j k : Nat} {e : va_E} (h : k ≠ j) : uE E j e k = E k := by
  unfold uE
  cases hb : Nat.beq k j
  · rfl
  · exact absurd (Nat.eq_of_beq_eq_true hb) h
theorem uB_in {E : Nat → va_E} {lo n k : Nat} {e : va_E} (h1 : lo ≤ k) (h2 : k < lo + n) : uB E lo n e k = e := by
  unfold uB
  rw [Nat.ble_eq.mpr h1, show Nat.blt k (lo + n) = true from Nat.ble_eq.mpr h2]
  rfl
theorem uB_lo {E : Nat → va_E} {lo n k : Nat} {e : va_E} (h1 : k < lo) : uB E lo n e k = E k := by
  unfold uB
  cases hb : Nat.ble lo k
  · rfl
  · exact absurd (Nat.le_of_ble_eq_true hb) (by omega)
def yR (x : xX) (K : Nat) (E : Nat → va_E) (H : Heap) : Prop := (∀ k, k < K → va_at x.2.1 vwCl (x.2.2.1 + k, E k) H) ∧ H.size = x.2.2.1 + K
theorem yR.set {x : xX} {K k : Nat} {E : Nat → va_E} {e : va_E} {H H1 : Heap} (h : yR x K E H) (he : va_at x.2.1 vwCl (x.2.2.1 + k, e) H1) (z : H1.size = H.size) (oq : ∀ q : Nat, q ≠ x.2.2.1 + k → H1[q]? = H[q]?) : yR x K (uE E k e) H1 := by
  refine ⟨fun i hi => ?_, z.trans h.2⟩
  by_cases q : i = k
  · subst q
    rw [uE_eq]
    exact he
  · rw [uE_ne q]
    exact (h.1 i hi).kept (oq _ (by show x.2.2.1 + i ≠ x.2.2.1 + k; omega))
theorem yR.push {x : xX} {K : Nat} {E : Nat → va_E} {e : va_E} {H H1 : Heap} (h : yR x K E H) (he : va_at x.2.1 vwCl (x.2.2.1 + K, e) H1) (z : H1.size = x.2.2.1 + K + 1) (oq : ∀ q : Nat, q < x.2.2.1 + K → H1[q]? = H[q]?) : yR x (K + 1) (uE E K e) H1 := by
  refine ⟨fun i hi => ?_, z⟩
  by_cases q : i = K
  · subst q
    rw [uE_eq]
    exact he
  · rw [uE_ne q]
    exact (h.1 i (by omega)).kept (oq _ (by show x.2.2.1 + i < x.2.2.1 + K; omega))
theorem yR.re {x : xX} {K : Nat} {E E' : Nat → va_E} {H : Heap} (h : yR x K E H) (he : ∀ k, k < K → va_at x.2.1 vwCl (x.2.2.1 + k, E k) H → va_at x.2.1 vwCl (x.2.2.1 + k, E' k) H) : yR x K E' H := ⟨fun k hk => he k hk (h.1 k hk), h.2⟩
theorem va_S.grow {A : Nat → Prop} {H0 H H1 : Heap} {locs : List Loc} {n : Nat} (h : va_S A H0 H locs) (hn : H.size = n) (z : n ≤ H1.size) (oq : ∀ q : Nat, q < n → H1[q]? = H[q]?) : va_S A H0 H1 locs :=
  ⟨Nat.le_trans h.1 (by omega), fun q h1 h2 => (oq q (by have := h.1; omega)).trans (h.2.1 q h1 h2), h.2.2⟩
theorem va_AOA.moved {t : FieldType} {u U : State} (hvm : u.vm.Alike U.vm) (h : va_AOA t u) : va_AOA t U := by
  have h1 : (Cond.arrayOver (.array t)).before #[] (u.setVm U.vm) = true := by
    rw [Cond.arrayOver_setVmC hvm]
    exact h
  exact h1
def yAO (s : State) : Prop := va_AO RX4 s ∧ va_AOA .int s
theorem yAO.moved {u U : State} (hvm : u.vm.Alike U.vm) (h : yAO u) : yAO U := ⟨h.1.moved hvm, h.2.moved hvm⟩
abbrev yY : Type := Room × String × ByteArray × Nat × Option FieldType × (State → Method → Prop)
def yC (x : xX) (y : yY) (p : Program) (s : State) (m : MethodId) (args : Array Value) (meth : Method) (c : Code) : Prop :=
  p.tables.exec = Jvm.exec ∧ c.code = y.2.2.1 ∧ meth.sig.returnType = y.2.2.2.2.1 ∧ c.maxLocals = y.2.2.2.1 ∧ s.vm.findClass y.2.1 = some m.cls ∧ (∀ w ∈ xTb, w.before args s = true) ∧ meth.locks = false ∧ xU x s ∧ yAO s ∧ y.2.2.2.2.2 s meth
def yGr (x : xX) (y : yY) (cs : Nat × Nat) (Qf : List Frame → Array Value → State → State → Prop) (ρ : Heap → Prop) (pc : Nat) (lv : List (Nat × Value)) (st : List Value) : Prop :=
  ∀ (p : Program) (e : Env) (s : State) (m : MethodId) (args : Array Value) (below : List Frame) (meth : Method) (c : Code) (H : Heap) (locs : List Loc) (ls : Array Slot),
    yC x y p s m args meth c → cs.1 ≤ y.1.cells ∧ cs.2 ≤ y.1.slots → ρ H → va_S (xA x.2.2.1) s.heap H locs → lv_has ls y.2.2.2.1 lv →
    W p x.1 e y.1 s m args below meth c H locs cs.1 cs.2 (Qf below args s) (F0 m pc ls st)
theorem y_iconst {x : xX} {y : yY} {cs : Nat × Nat} {Qf : List Frame → Array Value → State → State → Prop} {pc : Nat} {lv : List (Nat × Value)} {st : List Value} {ρ : Heap → Prop} {n : Int} (hd : decode y.2.2.1 pc = .ok (.iconst n, 1)) (k : yGr x y cs Qf ρ (pc + 1) lv (iV n :: st)) : yGr x y cs Qf ρ pc lv st := by
  intro p e s m args below meth c H locs ls hC hcs hR hS hl
  obtain ⟨hx, hb, hr, hml, hown, hts, hlk, hU, hφ⟩ := hC
  exact lv_iconst hx hb hd rfl (k p e s m args below meth c H locs ls ⟨hx, hb, hr, hml, hown, hts, hlk, hU, hφ⟩ hcs hR hS hl)
theorem y_bipush {x : xX} {y : yY} {cs : Nat × Nat} {Qf : List Frame → Array Value → State → State → Prop} {pc : Nat} {lv : List (Nat × Value)} {st : List Value} {ρ : Heap → Prop} {n : Int} (hd : decode y.2.2.1 pc = .ok (.bipush n, 2)) (hn : (Int8.ofInt n).toInt32 = Int32.ofInt n) (k : yGr x y cs Qf ρ (pc + 2) lv (iV n :: st)) : yGr x y cs Qf ρ pc lv st := by
  intro p e s m args below meth c H locs ls hC hcs hR hS hl
  obtain ⟨hx, hb, hr, hml, hown, hts, hlk, hU, hφ⟩ := hC
  exact lv_bipush hx hb hd hn (k p e s m args below meth c H locs ls ⟨hx, hb, hr, hml, hown, hts, hlk, hU, hφ⟩ hcs hR hS hl)
theorem y_sipush {x : xX} {y : yY} {cs : Nat × Nat} {Qf : List Frame → Array Value → State → State → Prop} {pc : Nat} {lv : List (Nat × Value)} {st : List Value} {ρ : Heap → Prop} {n : Int} (hd : decode y.2.2.1 pc = .ok (.sipush n, 3)) (hn : (Int16.ofInt n).toInt32 = Int32.ofInt n) (k : yGr x y cs Qf ρ (pc + 3) lv (iV n :: st)) : yGr x y cs Qf ρ pc lv st := by
  intro p e s m args below meth c H locs ls hC hcs hR hS hl
  obtain ⟨hx, hb, hr, hml, hown, hts, hlk, hU, hφ⟩ := hC
  exact lv_sipush hx hb hd hn (k p e s m args below meth c H locs ls ⟨hx, hb, hr, hml, hown, hts, hlk, hU, hφ⟩ hcs hR hS hl)
theorem y_ldc {x : xX} {y : yY} {cs : Nat × Nat} {Qf : List Frame → Array Value → State → State → Prop} {pc : Nat} {lv : List (Nat × Value)} {st : List Value} {ρ : Heap → Prop} {i : Nat} {n : Int} (hw : Cond.constant y.2.1 i (Int32.ofInt n) ∈ xTb) (hd : decode y.2.2.1 pc = .ok (.ldc i, 2)) (k : yGr x y cs Qf ρ (pc + 2) lv (iV n :: st)) : yGr x y cs Qf ρ pc lv st := by
  intro p e s m args below meth c H locs ls hC hcs hR hS hl
  obtain ⟨hx, hb, hr, hml, hown, hts, hlk, hU, hφ⟩ := hC
  exact lv_ldc hx hb hown (hts _ hw) hd (k p e s m args below meth c H locs ls ⟨hx, hb, hr, hml, hown, hts, hlk, hU, hφ⟩ hcs hR hS hl)
theorem y_iload_n {x : xX} {y : yY} {cs : Nat × Nat} {Qf : List Frame → Array Value → State → State → Prop} {pc : Nat} {lv : List (Nat × Value)} {st : List Value} {ρ : Heap → Prop} {n : Fin 4} {a : Int32} (q : Nat) (hq : lv[q]? = some (n.val, .int a)) (hd : decode y.2.2.1 pc = .ok (.iload_n n, 1)) (k : yGr x y cs Qf ρ (pc + 1) lv (.int a :: st)) : yGr x y cs Qf ρ pc lv st := by
  intro p e s m args below meth c H locs ls hC hcs hR hS hl
  obtain ⟨hx, hb, hr, hml, hown, hts, hlk, hU, hφ⟩ := hC
  exact lv_iload_n hx hb hd rfl (lv_at hl q hq) (k p e s m args below meth c H locs ls ⟨hx, hb, hr, hml, hown, hts, hlk, hU, hφ⟩ hcs hR hS hl)
theorem y_iload {x : xX} {y : yY} {cs : Nat × Nat} {Qf : List Frame → Array Value → State → State → Prop} {pc : Nat} {lv : List (Nat × Value)} {st : List Value} {ρ : Heap → Prop} {i : Nat} {a : Int32} (q : Nat) (hq : lv[q]? = some (i, .int a)) (hd : decode y.2.2.1 pc = .ok (.iload i, 2)) (k : yGr x y cs Qf ρ (pc + 2) lv (.int a :: st)) : yGr x y cs Qf ρ pc lv st := by
  intro p e s m args below meth c H locs ls hC hcs hR hS hl
  obtain ⟨hx, hb, hr, hml, hown, hts, hlk, hU, hφ⟩ := hC
  exact lv_iload hx hb hd (lv_at hl q hq) (k p e s m args below meth c H locs ls ⟨hx, hb, hr, hml, hown, hts, hlk, hU, hφ⟩ hcs hR hS hl)
theorem y_istore_n {x : xX} {y : yY} {cs : Nat × Nat} {Qf : List Frame → Array Value → State → State → Prop} {pc : Nat} {lv : List (Nat × Value)} {st : List Value} {ρ : Heap → Prop} {n : Fin 4} {a : Int32} (lv' : List (Nat × Value)) (hd : decode y.2.2.1 pc = .ok (.istore_n n, 1)) (hn : n.val < y.2.2.2.1) (hl' : (n.val, Value.int a) :: lv.filter (fun q => !(q.1 == n.val) && !(q.1 + 1 == n.val && q.2.category == 2)) = lv') (k : yGr x y cs Qf ρ (pc + 1) lv' st) : yGr x y cs Qf ρ pc lv (.int a :: st) := by
  intro p e s m args below meth c H locs ls hC hcs hR hS hl
  obtain ⟨hx, hb, hr, hml, hown, hts, hlk, hU, hφ⟩ := hC
  exact lv_istore_n hx hb hd rfl hl hn hl' (fun ls' h' => k p e s m args below meth c H locs ls' ⟨hx, hb, hr, hml, hown, hts, hlk, hU, hφ⟩ hcs hR hS h')
theorem y_istore {x : xX} {y : yY} {cs : Nat × Nat} {Qf : List Frame → Array Value → State → State → Prop} {pc : Nat} {lv : List (Nat × Value)} {st : List Value} {ρ : Heap → Prop} {i : Nat} {a : Int32} (lv' : List (Nat × Value)) (hd : decode y.2.2.1 pc = .ok (.istore i, 2)) (hn : i < y.2.2.2.1) (hl' : (i, Value.int a) :: lv.filter (fun q => !(q.1 == i) && !(q.1 + 1 == i && q.2.category == 2)) = lv') (k : yGr x y cs Qf ρ (pc + 2) lv' st) : yGr x y cs Qf ρ pc lv (.int a :: st) := by
  intro p e s m args below meth c H locs ls hC hcs hR hS hl
  obtain ⟨hx, hb, hr, hml, hown, hts, hlk, hU, hφ⟩ := hC
  exact lv_istore hx hb hd hl hn hl' (fun ls' h' => k p e s m args below meth c H locs ls' ⟨hx, hb, hr, hml, hown, hts, hlk, hU, hφ⟩ hcs hR hS h')
theorem y_aload_n {x : xX} {y : yY} {cs : Nat × Nat} {Qf : List Frame → Array Value → State → State → Prop} {pc : Nat} {lv : List (Nat × Value)} {st : List Value} {ρ : Heap → Prop} {n : Fin 4} {a : Nat} (q : Nat) (hq : lv[q]? = some (n.val, .ref a)) (hd : decode y.2.2.1 pc = .ok (.aload_n n, 1)) (k : yGr x y cs Qf ρ (pc + 1) lv (.ref a :: st)) : yGr x y cs Qf ρ pc lv st := by
  intro p e s m args below meth c H locs ls hC hcs hR hS hl
  obtain ⟨hx, hb, hr, hml, hown, hts, hlk, hU, hφ⟩ := hC
  exact lv_aload_n hx hb hd rfl (lv_at hl q hq) (k p e s m args below meth c H locs ls ⟨hx, hb, hr, hml, hown, hts, hlk, hU, hφ⟩ hcs hR hS hl)
theorem y_astore_n {x : xX} {y : yY} {cs : Nat × Nat} {Qf : List Frame → Array Value → State → State → Prop} {pc : Nat} {lv : List (Nat × Value)} {st : List Value} {ρ : Heap → Prop} {n : Fin 4} {a : Nat} (lv' : List (Nat × Value)) (hd : decode y.2.2.1 pc = .ok (.astore_n n, 1)) (hn : n.val < y.2.2.2.1) (hl' : (n.val, Value.ref a) :: lv.filter (fun q => !(q.1 == n.val) && !(q.1 + 1 == n.val && q.2.category == 2)) = lv') (k : yGr x y cs Qf ρ (pc + 1) lv' st) : yGr x y cs Qf ρ pc lv (.ref a :: st) := by
  intro p e s m args below meth c H locs ls hC hcs hR hS hl
  obtain ⟨hx, hb, hr, hml, hown, hts, hlk, hU, hφ⟩ := hC
  exact lv_astore_n hx hb hd rfl hl hn hl' (fun ls' h' => k p e s m args below meth c H locs ls' ⟨hx, hb, hr, hml, hown, hts, hlk, hU, hφ⟩ hcs hR hS h')
theorem y_iinc {x : xX} {y : yY} {cs : Nat × Nat} {Qf : List Frame → Array Value → State → State → Prop} {pc : Nat} {lv : List (Nat × Value)} {st : List Value} {ρ : Heap → Prop} {i : Nat} {n a : Int} (q : Nat) (hq : lv[q]? = some (i, iV a)) (lv' : List (Nat × Value)) (hd : decode y.2.2.1 pc = .ok (.iinc i n, 3)) (hn : i < y.2.2.2.1) (hl' : (i, iV (a + n)) :: lv.filter (fun q => !(q.1 == i) && !(q.1 + 1 == i && q.2.category == 2)) = lv') (k : yGr x y cs Qf ρ (pc + 3) lv' st) : yGr x y cs Qf ρ pc lv st := by
  intro p e s m args below meth c H locs ls hC hcs hR hS hl
  obtain ⟨hx, hb, hr, hml, hown, hts, hlk, hU, hφ⟩ := hC
  exact lv_iinc (v := Int32.ofInt (a + n)) hx hb hd hl hq (Int32.ofInt_add a n).symm hn hl' (fun ls' h' => k p e s m args below meth c H locs ls' ⟨hx, hb, hr, hml, hown, hts, hlk, hU, hφ⟩ hcs hR hS h')
theorem y_icmpge {x : xX} {y : yY} {cs : Nat × Nat} {Qf : List Frame → Array Value → State → State → Prop} {pc : Nat} {lv : List (Nat × Value)} {st : List Value} {ρ : Heap → Prop} {a c1 : Int} {off : Int} {tgt : Nat} (ha : xIn a) (hc : xIn c1) (hd : decode y.2.2.1 pc = .ok (.if_icmp .ge off, 3)) (ht : (pc : Int) + off = (tgt : Int)) (kt : c1 ≤ a → yGr x y cs Qf ρ tgt lv st) (kf : ¬ (c1 ≤ a) → yGr x y cs Qf ρ (pc + 3) lv st) : yGr x y cs Qf ρ pc lv (iV c1 :: iV a :: st) := by
  intro p e s m args below meth c H locs ls hC hcs hR hS hl
  obtain ⟨hx, hb, hr, hml, hown, hts, hlk, hU, hφ⟩ := hC
  refine lv_icmp_ge hx hb hd ht (fun q => kt ((xI_le hc ha).mp q) p e s m args below meth c H locs ls ⟨hx, hb, hr, hml, hown, hts, hlk, hU, hφ⟩ hcs hR hS hl) (fun q => kf (fun z => q ((xI_le hc ha).mpr z)) p e s m args below meth c H locs ls ⟨hx, hb, hr, hml, hown, hts, hlk, hU, hφ⟩ hcs hR hS hl)
theorem y_goto {x : xX} {y : yY} {cs : Nat × Nat} {Qf : List Frame → Array Value → State → State → Prop} {pc : Nat} {lv : List (Nat × Value)} {st : List Value} {ρ : Heap → Prop} {off : Int} {tgt : Nat} (hd : decode y.2.2.1 pc = .ok (.goto off, 3)) (ht : (pc : Int) + off = (tgt : Int)) (k : yGr x y cs Qf ρ tgt lv st) : yGr x y cs Qf ρ pc lv st := by
  intro p e s m args below meth c H locs ls hC hcs hR hS hl
  obtain ⟨hx, hb, hr, hml, hown, hts, hlk, hU, hφ⟩ := hC
  exact lv_goto hx hb hd ht (k p e s m args below meth c H locs ls ⟨hx, hb, hr, hml, hown, hts, hlk, hU, hφ⟩ hcs hR hS hl)
theorem y_dup {x : xX} {y : yY} {cs : Nat × Nat} {Qf : List Frame → Array Value → State → State → Prop} {pc : Nat} {lv : List (Nat × Value)} {st : List Value} {ρ : Heap → Prop} {v : Value} (hv : v.category = 1) (hd : decode y.2.2.1 pc = .ok (.dup, 1)) (k : yGr x y cs Qf ρ (pc + 1) lv (v :: v :: st)) : yGr x y cs Qf ρ pc lv (v :: st) := by
  intro p e s m args below meth c H locs ls hC hcs hR hS hl
  obtain ⟨hx, hb, hr, hml, hown, hts, hlk, hU, hφ⟩ := hC
  exact lv_dup hx hb hd hv (k p e s m args below meth c H locs ls ⟨hx, hb, hr, hml, hown, hts, hlk, hU, hφ⟩ hcs hR hS hl)
theorem y_sub {x : xX} {y : yY} {cs : Nat × Nat} {Qf : List Frame → Array Value → State → State → Prop} {pc : Nat} {lv : List (Nat × Value)} {st : List Value} {ρ : Heap → Prop} {lv' : List (Nat × Value)} (ks : List Nat) (hk : lv_pick lv ks = lv') (k : yGr x y cs Qf ρ pc lv' st) : yGr x y cs Qf ρ pc lv st := by
  intro p e s m args below meth c H locs ls hC hcs hR hS hl
  obtain ⟨hx, hb, hr, hml, hown, hts, hlk, hU, hφ⟩ := hC
  exact k p e s m args below meth c H locs ls ⟨hx, hb, hr, hml, hown, hts, hlk, hU, hφ⟩ hcs hR hS (lv_sub hl ks hk)
theorem y_newI {x : xX} {y : yY} {cs : Nat × Nat} {Qf : List Frame → Array Value → State → State → Prop} {pc : Nat} {lv : List (Nat × Value)} {st : List Value} {K : Nat} {cs2 : Nat × Nat} {K2 : Nat} {E : Nat → va_E} {n : Int} (N : Nat) (hw : Cond.arrayClass .int ∈ xTb) (hn : ¬ Int32.ofInt n < 0) (hN : (Int32.ofInt n).toNatClampNeg = N) (h4 : N * componentBytes .int ≤ 536870912) (hc : cs.1 + 1 ≤ y.1.cells ∧ cs.2 + N ≤ y.1.slots) (e2 : (cs.1 + 1, cs.2 + N) = cs2) (e3 : K + 1 = K2) (hd : decode y.2.2.1 pc = .ok (.newarray .int, 2)) (k : yGr x y cs2 Qf (yR x K2 (uE E K (.inl (x.2.1.1 100, N, .inl (fun _ => Int32.ofInt 0))))) (pc + 2) lv (.ref (x.2.2.1 + K) :: st)) : yGr x y cs Qf (yR x K E) pc lv (iV n :: st) := by
  subst e2
  subst e3
  intro p e s m args below meth c H locs ls hC hcs hR hS hl
  obtain ⟨hx, hb, hr, hml, hown, hts, hlk, hU, hφ⟩ := hC
  refine va_newaK hx hb (atype := .int) (hts _ hw) rfl hd rfl hn hN h4 hc.1 hc.2 hR.2 (fun H1 cA e1 z1 o1 hAr hNm => ?_)
  have hcA : x.2.1.1 100 = cA := Option.some.inj (((hU.1.2 0 _ rfl).2).symm.trans hNm)
  subst hcA
  refine k p e s m args below meth c H1 locs ls ⟨hx, hb, hr, hml, hown, hts, hlk, hU, hφ⟩ hc (hR.push ?_ z1 o1) (hS.grow hR.2 (by omega) o1) hl
  show H1[x.2.2.1 + K]? = some (vp_cell _ _)
  rw [vp_cell_i]
  exact e1
theorem y_newZ {x : xX} {y : yY} {cs : Nat × Nat} {Qf : List Frame → Array Value → State → State → Prop} {pc : Nat} {lv : List (Nat × Value)} {st : List Value} {K : Nat} {cs2 : Nat × Nat} {K2 : Nat} {E : Nat → va_E} {n : Int} (N : Nat) (hw : Cond.arrayClass .boolean ∈ xTb) (hn : ¬ Int32.ofInt n < 0) (hN : (Int32.ofInt n).toNatClampNeg = N) (h4 : N * componentBytes .boolean ≤ 536870912) (hc : cs.1 + 1 ≤ y.1.cells ∧ cs.2 + N ≤ y.1.slots) (e2 : (cs.1 + 1, cs.2 + N) = cs2) (e3 : K + 1 = K2) (hd : decode y.2.2.1 pc = .ok (.newarray .boolean, 2)) (k : yGr x y cs2 Qf (yR x K2 (uE E K (.inl (x.2.1.1 101, N, .inl (fun _ => Int32.ofInt 0))))) (pc + 2) lv (.ref (x.2.2.1 + K) :: st)) : yGr x y cs Qf (yR x K E) pc lv (iV n :: st) := by
  subst e2
  subst e3
  intro p e s m args below meth c H locs ls hC hcs hR hS hl
  obtain ⟨hx, hb, hr, hml, hown, hts, hlk, hU, hφ⟩ := hC
  refine va_newaK hx hb (atype := .boolean) (hts _ hw) rfl hd rfl hn hN h4 hc.1 hc.2 hR.2 (fun H1 cA e1 z1 o1 hAr hNm => ?_)
  have hcA : x.2.1.1 101 = cA := Option.some.inj (((hU.1.2 1 _ rfl).2).symm.trans hNm)
  subst hcA
  refine k p e s m args below meth c H1 locs ls ⟨hx, hb, hr, hml, hown, hts, hlk, hU, hφ⟩ hc (hR.push ?_ z1 o1) (hS.grow hR.2 (by omega) o1) hl
  show H1[x.2.2.1 + K]? = some (vp_cell _ _)
  rw [vp_cell_i]
  exact e1
theorem y_newJ {x : xX} {y : yY} {cs : Nat × Nat} {Qf : List Frame → Array Value → State → State → Prop} {pc : Nat} {lv : List (Nat × Value)} {st : List Value} {K : Nat} {cs2 : Nat × Nat} {K2 : Nat} {E : Nat → va_E} {n : Int} (N : Nat) (hw : Cond.arrayClass .long ∈ xTb) (hn : ¬ Int32.ofInt n < 0) (hN : (Int32.ofInt n).toNatClampNeg = N) (h4 : N * componentBytes .long ≤ 536870912) (hc : cs.1 + 1 ≤ y.1.cells ∧ cs.2 + N ≤ y.1.slots) (e2 : (cs.1 + 1, cs.2 + N) = cs2) (e3 : K + 1 = K2) (hd : decode y.2.2.1 pc = .ok (.newarray .long, 2)) (k : yGr x y cs2 Qf (yR x K2 (uE E K (.inl (x.2.1.1 102, N, .inr (.inl (fun _ => Int64.ofInt 0)))))) (pc + 2) lv (.ref (x.2.2.1 + K) :: st)) : yGr x y cs Qf (yR x K E) pc lv (iV n :: st) := by
  subst e2
  subst e3
  intro p e s m args below meth c H locs ls hC hcs hR hS hl
  obtain ⟨hx, hb, hr, hml, hown, hts, hlk, hU, hφ⟩ := hC
  refine va_newaK hx hb (atype := .long) (hts _ hw) rfl hd rfl hn hN h4 hc.1 hc.2 hR.2 (fun H1 cA e1 z1 o1 hAr hNm => ?_)
  have hcA : x.2.1.1 102 = cA := Option.some.inj (((hU.1.2 2 _ rfl).2).symm.trans hNm)
  subst hcA
  refine k p e s m args below meth c H1 locs ls ⟨hx, hb, hr, hml, hown, hts, hlk, hU, hφ⟩ hc (hR.push ?_ z1 o1) (hS.grow hR.2 (by omega) o1) hl
  show H1[x.2.2.1 + K]? = some (vp_cell _ _)
  rw [vp_cell_l]
  exact e1
theorem y_new {x : xX} {y : yY} {cs : Nat × Nat} {Qf : List Frame → Array Value → State → State → Prop} {pc : Nat} {lv : List (Nat × Value)} {st : List Value} {K : Nat} {cs2 : Nat × Nat} {K2 : Nat} {E : Nat → va_E} {ci idx N : Nat} {C : String} {T : u_T} {fs : List Value} (hcl : vwCl[ci]? = some (C, T, N)) (hin : ∀ w ∈ u_ws C T N, w ∈ xTb) (ty : Nat → FieldType) (hty : ∀ k, k < N → parseFieldDescriptor (T k).2.2.1 = some (ty k)) (hlk1 : Cond.classLink y.2.1 idx C ∈ xTb) (hinst : Cond.instantiable C N ∈ xTb) (hini : Cond.initialized C ∈ xTb) (hfs : ∀ j, j < N → defaultValue (ty j) = vp_V fs j) (hc : cs.1 + 1 ≤ y.1.cells ∧ cs.2 + N ≤ y.1.slots) (e2 : (cs.1 + 1, cs.2 + N) = cs2) (e3 : K + 1 = K2) (hd : decode y.2.2.1 pc = .ok (.new idx, 3)) (k : yGr x y cs2 Qf (yR x K2 (uE E K (.inr (ci, fs)))) (pc + 3) lv (.ref (x.2.2.1 + K) :: st)) : yGr x y cs Qf (yR x K E) pc lv st := by
  subst e2
  subst e3
  intro p e s m args below meth c H locs ls hC hcs hR hS hl
  obtain ⟨hx, hb, hr, hml, hown, hts, hlk, hU, hφ⟩ := hC
  have hKn := hU.1.1 ci _ hcl
  refine W.newcK hx hb hown (hts _ hlk1) (hts _ hinst) (hts _ hini) rfl hd hc.1 hc.2 hKn.2.1 hR.2 (fun H1 kC hkC e1 z1 o1 => ?_)
  refine k p e s m args below meth c H1 locs ls ⟨hx, hb, hr, hml, hown, hts, hlk, hU, hφ⟩ hc (hR.push ?_ z1 o1) (hS.grow hR.2 (by omega) o1) hl
  exact ⟨_, hcl, (u_born ty hts hin hKn hkC e1 hty).to hfs⟩
theorem y_anew {x : xX} {y : yY} {cs : Nat × Nat} {Qf : List Frame → Array Value → State → State → Prop} {pc : Nat} {lv : List (Nat × Value)} {st : List Value} {K : Nat} {cs2 : Nat × Nat} {K2 : Nat} {E : Nat → va_E} {idx : Nat} {n : Int} (N : Nat) (hlk1 : Cond.classLink y.2.1 idx RX4 ∈ xTb) (hn : ¬ Int32.ofInt n < 0) (hN : (Int32.ofInt n).toNatClampNeg = N) (h4 : N * 4 ≤ 536870912) (hc : cs.1 + 1 ≤ y.1.cells ∧ cs.2 + N ≤ y.1.slots) (e2 : (cs.1 + 1, cs.2 + N) = cs2) (e3 : K + 1 = K2) (hd : decode y.2.2.1 pc = .ok (.anewarray idx, 3)) (k : yGr x y cs2 Qf (yR x K2 (uE E K (.inl (x.2.1.1 103, N, .inr (.inr (.inr (.inr (fun _ => none)))))))) (pc + 3) lv (.ref (x.2.2.1 + K) :: st)) : yGr x y cs Qf (yR x K E) pc lv (iV n :: st) := by
  subst e2
  subst e3
  intro p e s m args below meth c H locs ls hC hcs hR hS hl
  obtain ⟨hx, hb, hr, hml, hown, hts, hlk, hU, hφ⟩ := hC
  subst hN
  refine W.anew hx hb hown (hts _ hlk1) (va_AO.use hφ.1.1) rfl hd rfl hn h4 hc.1 hc.2 (fun cA kA comp f1 f2 f3 f4 => ?_)
  obtain ⟨_, _, -, -, -, g1⟩ := (hU.1.2 3 _ rfl).2
  have hcA : x.2.1.1 103 = cA := Option.some.inj (g1.symm.trans f1)
  subst hcA
  generalize hH1 : H.push ({ cls := x.2.1.1 103, slots := Array.replicate (Int32.ofInt n).toNatClampNeg .null, vm := .none } : Cell) = H1
  have z1 : H1.size = H.size + 1 := by rw [← hH1, Array.size_push]
  have e1 : H1[H.size]? = some (arrV (x.2.1.1 103) (Int32.ofInt n).toNatClampNeg (fun _ => .null)) := by rw [← hH1, Array.getElem?_push_size, ← arrV_new]
  have o1 : ∀ q : Nat, q < H.size → H1[q]? = H[q]? := fun q hq => by rw [← hH1, Array.getElem?_push, if_neg (Nat.ne_of_lt hq)]
  rw [hR.2] at z1 e1 o1 ⊢
  refine k p e s m args below meth c H1 locs ls ⟨hx, hb, hr, hml, hown, hts, hlk, hU, hφ⟩ hc (hR.push ?_ z1 o1) (hS.grow hR.2 (by omega) o1) hl
  show H1[x.2.2.1 + K]? = some (vp_cell _ _)
  rw [vp_cell_q]
  exact e1
theorem arrV_alike {c : ClassId} {n : Nat} {f g : Nat → Value} (h : ∀ j, j < n → f j = g j) : arrV c n f = arrV c n g := by
  unfold arrV
  congr 1
  first
  | (apply Array.ext
     · simp
     · intro i h1 h2; simp at h1; simp [h i h1])
  | (congr 1; exact List.map_congr_left (fun j hj => h j (List.mem_range.mp hj)))
theorem y_mna {x : xX} {y : yY} {cs : Nat × Nat} {Qf : List Frame → Array Value → State → State → Prop} {pc : Nat} {lv : List (Nat × Value)} {st : List Value} {K : Nat} {cs2 : Nat × Nat} {K2 : Nat} {E : Nat → va_E} {idx : Nat} {n k : Int} (N M : Nat) (hlk1 : Cond.classLink y.2.1 idx ("[" ++ (FieldType.array .int).toString) ∈ xTb) (hw : Cond.arrayClass .int ∈ xTb) (hn : ¬ Int32.ofInt n < 0) (hk : ¬ Int32.ofInt k < 0) (hN : (Int32.ofInt n).toNatClampNeg = N) (hM : (Int32.ofInt k).toNatClampNeg = M) (h4 : N * 4 ≤ 536870912) (h5 : M * componentBytes .int ≤ 536870912) (h6 : M ≤ 536870912) (hc : cs.1 + (1 + N) ≤ y.1.cells ∧ cs.2 + (N + N * M) ≤ y.1.slots) (e2 : (cs.1 + 1 + N, cs.2 + N + N * M) = cs2) (e3 : K + 1 + N = K2) (hd : decode y.2.2.1 pc = .ok (.multianewarray idx 2, 4)) (kk : yGr x y cs2 Qf (yR x K2 (uB (uE E K (.inl (x.2.1.1 104, N, .inr (.inr (.inr (.inr (fun j => some (x.2.2.1 + (K + 1 + 1 * j))))))))) (K + 1) N (.inl (x.2.1.1 100, M, .inl (fun _ => Int32.ofInt 0))))) (pc + 4) lv (.ref (x.2.2.1 + K) :: st)) : yGr x y cs Qf (yR x K E) pc lv (iV k :: iV n :: st) := by
  subst e2
  subst e3
  intro p e s m args below meth c H locs ls hC hcs hR hS hl
  obtain ⟨hx, hb, hr, hml, hown, hts, hlk, hU, hφ⟩ := hC
  subst hN
  subst hM
  show W p x.1 e y.1 s m args below meth c H locs cs.1 cs.2 (Qf below args s) (F0 m pc ls (.int (Int32.ofInt k) :: .int (Int32.ofInt n) :: st))
  generalize Int32.ofInt n = n at *
  generalize Int32.ofInt k = k at *
  intro T hT Xs
  obtain ⟨vm₁, cA, comp, -, fA, fC, hO, -, X', step⟩ := Xs.multianewarray2F hx hown (hts _ hlk1) (va_AOA.use hφ.1.2) (hts _ hw) (g := F0 m pc ls (.int k :: .int n :: st)) rfl (by rw [hb]; exact hd) rfl hn hk h4 h5 h6 rfl rfl hc.1 hc.2
  have hcA : x.2.1.1 104 = cA := Option.some.inj (((hU.1.2 4 _ rfl).2).symm.trans fA)
  have hcB : x.2.1.1 100 = comp := Option.some.inj (((hU.1.2 0 _ rfl).2).symm.trans fC)
  subst hcA
  subst hcB
  generalize hF : Multi.fill (T.setVm vm₁) (x.2.1.1 104) (x.2.1.1 100) n.toNatClampNeg k.toNatClampNeg (defaultValue .int) n.toNatClampNeg = F at X' step
  have hTh : (T.setVm vm₁).heap = H := hT
  obtain ⟨f1, f2, -, -⟩ := Multi.fill_facts (T.setVm vm₁) (x.2.1.1 104) (x.2.1.1 100) n.toNatClampNeg k.toNatClampNeg (defaultValue .int) n.toNatClampNeg
  rw [hF, hTh] at f1 f2
  have hold : ∀ q : Nat, q < H.size → F.heap[q]? = H[q]? := fun q hq => by
    have := Multi.fill_old (T.setVm vm₁) (x.2.1.1 104) (x.2.1.1 100) n.toNatClampNeg k.toNatClampNeg (defaultValue .int) (a := q) (by rw [hTh]; exact hq) n.toNatClampNeg
    rw [hF, hTh] at this
    exact this
  have hrow : ∀ j : Nat, j < n.toNatClampNeg → F.heap[H.size + 1 + j]? = some (Multi.innerC (x.2.1.1 100) k.toNatClampNeg (defaultValue .int)) := fun j hj => by
    have := Multi.fill_inner (T.setVm vm₁) (x.2.1.1 104) (x.2.1.1 100) n.toNatClampNeg k.toNatClampNeg (defaultValue .int) n.toNatClampNeg j hj
    rw [hF, hTh] at this
    exact this
  rw [vr_outer] at f2
  rw [hR.2] at f1 f2 hold hrow
  have hR1 : yR x (K + 1 + n.toNatClampNeg) (uB (uE E K (.inl (x.2.1.1 104, n.toNatClampNeg, .inr (.inr (.inr (.inr (fun j => some (x.2.2.1 + (K + 1 + 1 * j))))))))) (K + 1) n.toNatClampNeg (.inl (x.2.1.1 100, k.toNatClampNeg, .inl (fun _ => Int32.ofInt 0)))) F.heap := by
    refine ⟨fun i hi => ?_, by rw [f1]; omega⟩
    by_cases q : i < K + 1
    · rw [uB_lo q]
      by_cases q1 : i = K
      · subst q1
        rw [uE_eq]
        show F.heap[x.2.2.1 + i]? = some (vp_cell _ _)
        rw [vp_cell_q, f2]
        refine congrArg some (arrV_alike (fun j hj => ?_))
        show va_rf (if j < n.toNatClampNeg then some (x.2.2.1 + i + 1 + j) else none) = va_rf (some (x.2.2.1 + (i + 1 + 1 * j)))
        rw [if_pos hj]
        congr 2
        omega
      · rw [uE_ne q1]
        exact (hR.1 i (by omega)).kept (hold _ (by show x.2.2.1 + i < x.2.2.1 + K; omega))
    · rw [uB_in (by omega) hi]
      show F.heap[x.2.2.1 + i]? = some (vp_cell _ _)
      have := hrow (i - (K + 1)) (by omega)
      rw [show x.2.2.1 + K + 1 + (i - (K + 1)) = x.2.2.1 + i by omega] at this
      rw [this, vp_cell_i]
      exact congrArg some (arrV_new ..)
  obtain ⟨t, a1, b1⟩ := kk p e s m args below meth c F.heap locs ls ⟨hx, hb, hr, hml, hown, hts, hlk, hU, hφ⟩ (by constructor <;> (simp only []; have := hc.1; have := hc.2; omega)) hR1 (hS.grow hR.2 (by rw [f1]; omega) hold) hl F rfl X'
  refine ⟨t, step t ?_, b1⟩
  have e : T.heap.size = x.2.2.1 + K := by rw [hT]; exact hR.2
  rw [e]
  exact a1
theorem y_get {x : xX} {y : yY} {cs : Nat × Nat} {Qf : List Frame → Array Value → State → State → Prop} {pc : Nat} {lv : List (Nat × Value)} {st : List Value} {K : Nat} {E : Nat → va_E} {k ci idx N : Nat} {C : String} {T : u_T} {fs : List Value} (j : Nat) {v : Value} (hk : k < K) (he : E k = .inr (ci, fs)) (hv : fs[j]? = some v) (hcl : vwCl[ci]? = some (C, T, N)) (hN : j < N) (hin : ∀ w ∈ u_ws C T N, w ∈ xTb) (hw : Cond.fieldLink y.2.1 idx (T j).1 (T j).2.1 (T j).2.2.1 ∈ xTb) (hd : decode y.2.2.1 pc = .ok (.getfield idx, 3)) (kk : yGr x y cs Qf (yR x K E) (pc + 3) lv (v :: st)) : yGr x y cs Qf (yR x K E) pc lv (.ref (x.2.2.1 + k) :: st) := by
  intro p e s m args below meth c H locs ls hC hcs hR hS hl
  obtain ⟨hx, hb, hr, hml, hown, hts, hlk, hU, hφ⟩ := hC
  have hP : va_P x.2.1 vwCl [(x.2.2.1 + k, .inr (ci, fs))] H := by
    intro i q hi
    have h0 : i < 1 := (List.getElem?_eq_some_iff.mp hi).1
    rw [show i = 0 by omega] at hi
    cases hi
    rw [← he]
    exact hR.1 k hk
  exact va_get hx hb hts hin hown hU.1 hP 0 rfl hcl j hN (hts _ hw) (fun _ h => h) hv hd (kk p e s m args below meth c H locs ls ⟨hx, hb, hr, hml, hown, hts, hlk, hU, hφ⟩ hcs hR hS hl)
theorem y_putF {x : xX} {y : yY} {cs : Nat × Nat} {Qf : List Frame → Array Value → State → State → Prop} {pc : Nat} {lv : List (Nat × Value)} {st : List Value} {K : Nat} {E : Nat → va_E} {k ci idx N : Nat} {C : String} {T : u_T} {fs : List Value} (j : Nat) {v : Value} (fs' : List Value) (hk : k < K) (he : E k = .inr (ci, fs)) (hj : j < fs.length) (hf : fs.set j v = fs') (hcl : vwCl[ci]? = some (C, T, N)) (hN : j < N) (hin : ∀ w ∈ u_ws C T N, w ∈ xTb) (hw : Cond.fieldLink y.2.1 idx (T j).1 (T j).2.1 (T j).2.2.1 ∈ xTb) (ty0 : Nat → FieldType) (hty : ∀ k, k < N → parseFieldDescriptor (T k).2.2.1 = some (ty0 k)) (hnm : ∀ a, a < N → ∀ b, b < N → a ≠ b → (T a).2.1 ≠ (T b).2.1) (hfin : (T j).2.2.2 = true) (hini : ∀ s meth, y.2.2.2.2.2 s meth → meth.name = "<init>") (hdecl : (T j).1 = y.2.1) (hn : narrow (ty0 j) v = v) (hfit : fits (ty0 j) v = true) (hd : decode y.2.2.1 pc = .ok (.putfield idx, 3)) (kk : yGr x y cs Qf (yR x K (uE E k (.inr (ci, fs')))) (pc + 3) lv st) : yGr x y cs Qf (yR x K E) pc lv (v :: .ref (x.2.2.1 + k) :: st) := by
  intro p e s m args below meth c H locs ls hC hcs hR hS hl
  obtain ⟨hx, hb, hr, hml, hown, hts, hlk, hU, hφ⟩ := hC
  subst hf
  have hap := va_apart (own := y.2.1) hts hin ty0 hty hnm hU.1 hcl
  have hat := hR.1 k hk
  rw [he] at hat
  obtain ⟨r, h1, cell, q1, q2, q3, q4⟩ := hat
  have hr2 : r = (C, T, N) := Option.some.inj (h1.symm.trans hcl)
  subst hr2
  obtain ⟨hSl, hfc, kC, hkC, hkind⟩ := hU.1.1 ci _ hcl
  obtain ⟨cf, kf, fi, f, hi, hsl⟩ := hSl j hN
  have hlay := hts _ (hin _ (u_in_lay hN))
  unfold u_lay at hlay
  rw [if_pos hfin] at hlay
  have hst := (u_facts hfc hkC (u_lays hts hin hN) hi).1
  have hcf : m.cls = cf := by
    obtain ⟨_, _, c', _, _, _, -, -, hf', -, -, -, hown2, -⟩ := Cond.laysFinal_spec hlay
    have e1 : c' = cf := by have := hi.symm.trans hf'; simp at this; exact this.1.symm
    rw [hdecl] at hown2
    rw [← e1]; exact Option.some.inj (hown.symm.trans hown2)
  have h6 := u_fits hfc hkC hkind (Or.inr hlay) hi (hty j hN) hn hfit
  refine W.putFinK hx hb hown (hts _ hw) hi hst hcf (hini _ _ hφ.2) (by rw [q2]; exact h6) q1 q3 (by rw [hsl]; exact k2_hasslot (q4 j hN)) rfl rfl hd fun H' e1 e2 e3 => ?_
  rw [hsl] at e1 ⊢
  exact kk p e s m args below meth c H' _ ls ⟨hx, hb, hr, hml, hown, hts, hlk, hU, hφ⟩ hcs (hR.set ⟨_, hcl, t_OB.to (V := updV (vp_V fs) j v) ⟨_, e1, q2, q3, t_set q4 hap hN v⟩ (fun j' _ => vp_updV_set hj v j')⟩ e2 e3) (hS.put e2 e3 (Nat.le_add_right _ _)) hl
theorem y_put {x : xX} {y : yY} {cs : Nat × Nat} {Qf : List Frame → Array Value → State → State → Prop} {pc : Nat} {lv : List (Nat × Value)} {st : List Value} {K : Nat} {E : Nat → va_E} {k ci idx N : Nat} {C : String} {T : u_T} {fs : List Value} (j : Nat) {v : Value} (fs' : List Value) (hk : k < K) (he : E k = .inr (ci, fs)) (hj : j < fs.length) (hf : fs.set j v = fs') (hcl : vwCl[ci]? = some (C, T, N)) (hN : j < N) (hin : ∀ w ∈ u_ws C T N, w ∈ xTb) (hw : Cond.fieldLink y.2.1 idx (T j).1 (T j).2.1 (T j).2.2.1 ∈ xTb) (ty0 : Nat → FieldType) (hty : ∀ k, k < N → parseFieldDescriptor (T k).2.2.1 = some (ty0 k)) (hnm : ∀ a, a < N → ∀ b, b < N → a ≠ b → (T a).2.1 ≠ (T b).2.1) (hfin : (T j).2.2.2 = false) (hn : narrow (ty0 j) v = v) (hfit : fits (ty0 j) v = true) (hd : decode y.2.2.1 pc = .ok (.putfield idx, 3)) (kk : yGr x y cs Qf (yR x K (uE E k (.inr (ci, fs')))) (pc + 3) lv st) : yGr x y cs Qf (yR x K E) pc lv (v :: .ref (x.2.2.1 + k) :: st) := by
  intro p e s m args below meth c H locs ls hC hcs hR hS hl
  obtain ⟨hx, hb, hr, hml, hown, hts, hlk, hU, hφ⟩ := hC
  subst hf
  have hap := va_apart (own := y.2.1) hts hin ty0 hty hnm hU.1 hcl
  have hat := hR.1 k hk
  rw [he] at hat
  obtain ⟨r, h1, cell, q1, q2, q3, q4⟩ := hat
  have hr2 : r = (C, T, N) := Option.some.inj (h1.symm.trans hcl)
  subst hr2
  obtain ⟨hSl, hfc, kC, hkC, hkind⟩ := hU.1.1 ci _ hcl
  obtain ⟨cf, kf, fi, f, hi, hsl⟩ := hSl j hN
  have hlay := hts _ (hin _ (u_in_lay hN))
  unfold u_lay at hlay
  rw [if_neg (by rw [hfin]; decide)] at hlay
  have hst := (u_facts hfc hkC (u_lays hts hin hN) hi).1
  have h6 := u_store hfc hkC hkind hlay hi (hty j hN) hn hfit
  refine W.putK hx hb (f := f) ⟨hown, hts _ hw, ⟨_, _, _, hi⟩, hst⟩ (by rw [q2]; exact h6) q1 q3 (by rw [hsl]; exact k2_hasslot (q4 j hN)) rfl rfl hd fun H' e1 e2 e3 => ?_
  rw [hsl] at e1 ⊢
  exact kk p e s m args below meth c H' _ ls ⟨hx, hb, hr, hml, hown, hts, hlk, hU, hφ⟩ hcs (hR.set ⟨_, hcl, t_OB.to (V := updV (vp_V fs) j v) ⟨_, e1, q2, q3, t_set q4 hap hN v⟩ (fun j' _ => vp_updV_set hj v j')⟩ e2 e3) (hS.put e2 e3 (Nat.le_add_right _ _)) hl
theorem y_aald {x : xX} {y : yY} {cs : Nat × Nat} {Qf : List Frame → Array Value → State → State → Prop} {pc : Nat} {lv : List (Nat × Value)} {st : List Value} {K : Nat} {E : Nat → va_E} {k n r : Nat} {i : Int} {f : Nat → Option Nat} (hk : k < K) (he : E k = .inl (x.2.1.1 104, n, .inr (.inr (.inr (.inr f))))) (h0 : 0 ≤ i) (h1 : i < n) (hi : xIn i) (hf : f i.toNat = some r) (hd : decode y.2.2.1 pc = .ok (.aaload, 1)) (kk : yGr x y cs Qf (yR x K E) (pc + 1) lv (.ref r :: st)) : yGr x y cs Qf (yR x K E) pc lv (iV i :: .ref (x.2.2.1 + k) :: st) := by
  intro p e s m args below meth c H locs ls hC hcs hR hS hl
  obtain ⟨hx, hb, hr, hml, hown, hts, hlk, hU, hφ⟩ := hC
  have hat := hR.1 k hk
  rw [he] at hat
  have hin : i.toNat < n := by omega
  refine W.aald hx hb hat ((hU.1.2 4 _ rfl).1 n _) rfl (by rw [vp_cell_q]; exact fun h => by cases h) ?_ (v := .ref r) ?_ rfl rfl hd (kk p e s m args below meth c H locs ls ⟨hx, hb, hr, hml, hown, hts, hlk, hU, hφ⟩ hcs hR hS hl)
  · rw [vp_cell_q, arrV_size]
    exact xI_in h0 h1 hi
  · rw [vp_cell_q, xI_nat hi, arrV_read _ _ hin, hf]
    rfl
theorem y_aast {x : xX} {y : yY} {cs : Nat × Nat} {Qf : List Frame → Array Value → State → State → Prop} {pc : Nat} {lv : List (Nat × Value)} {st : List Value} {K : Nat} {E : Nat → va_E} {k n v : Nat} {i : Int} {f : Nat → Option Nat} {vs : List Value} (g : Nat → Option Nat) (hk : k < K) (he : E k = .inl (x.2.1.1 103, n, .inr (.inr (.inr (.inr f))))) (hv : v < K) (hev : E v = .inr (4, vs)) (h0 : 0 ≤ i) (h1 : i < n) (hi : xIn i) (hg : va_up f i.toNat (some (x.2.2.1 + v)) = g) (hd : decode y.2.2.1 pc = .ok (.aastore, 1)) (kk : yGr x y cs Qf (yR x K (uE E k (.inl (x.2.1.1 103, n, .inr (.inr (.inr (.inr g))))))) (pc + 1) lv st) : yGr x y cs Qf (yR x K E) pc lv (.ref (x.2.2.1 + v) :: iV i :: .ref (x.2.2.1 + k) :: st) := by
  intro p e s m args below meth c H locs ls hC hcs hR hS hl
  obtain ⟨hx, hb, hr, hml, hown, hts, hlk, hU, hφ⟩ := hC
  subst hg
  have hat := hR.1 k hk
  rw [he] at hat
  have hat2 := hR.1 v hv
  rw [hev] at hat2
  have hin : i.toNat < n := by omega
  obtain ⟨r', hr', cellV, g1, g2, g3, -⟩ := hat2
  have hcls := (hU.1.1 4 _ rfl).2
  obtain ⟨kA, comp, k1, k2, k3, -⟩ := (hU.1.2 3 _ rfl).2
  have hcomp : comp = x.2.1.1 4 := Option.some.inj (k3.symm.trans hcls.1)
  subst hcomp
  obtain ⟨kC, hkC, -⟩ := hcls.2
  have hnn : ¬ Int32.ofInt i < 0 := fun q => xI_in h0 h1 hi (Or.inl q)
  refine W.aast hx hb hat (fun q h => by rw [vp_cell_q] at h; cases h) (fun h => by rw [vp_cell_q] at h; cases h) (by rw [vp_cell_q]; exact k1) k2 rfl hkC ⟨hnn, by rw [vp_cell_q, arrV_size, xI_nat hi]; exact hin⟩ g1 (fun q h => by rw [g3] at h; cases h) (by rw [g2]; exact hkC) (by rw [g2]; exact va_assign hcls) rfl rfl hd fun H1 e z oq => ?_
  refine kk p _ s m args below meth c H1 _ ls ⟨hx, hb, hr, hml, hown, hts, hlk, hU, hφ⟩ hcs (hR.set ?_ z oq) (hS.put z oq (Nat.le_add_right _ _)) hl
  show H1[x.2.2.1 + k]? = some (vp_cell _ _)
  rw [e, vp_cell_q, vp_cell_q, arrV_store, xI_nat hi]
  congr 2
  funext q
  by_cases hq : q = i.toNat
  · subst hq
    simp [updV, va_up, va_rf]
  · simp [updV, va_up, hq]
theorem y_iast {x : xX} {y : yY} {cs : Nat × Nat} {Qf : List Frame → Array Value → State → State → Prop} {pc : Nat} {lv : List (Nat × Value)} {st : List Value} {K : Nat} {E : Nat → va_E} {k n : Nat} {i v : Int} {f : Nat → Int32} (g : Nat → Int32) (hk : k < K) (he : E k = .inl (x.2.1.1 100, n, .inl f)) (h0 : 0 ≤ i) (h1 : i < n) (hi : xIn i) (hg : ∀ q, g q = if q = i.toNat then Int32.ofInt v else f q) (hd : decode y.2.2.1 pc = .ok (.iastore, 1)) (kk : yGr x y cs Qf (yR x K (uE E k (.inl (x.2.1.1 100, n, .inl g)))) (pc + 1) lv st) : yGr x y cs Qf (yR x K E) pc lv (iV v :: iV i :: .ref (x.2.2.1 + k) :: st) := by
  intro p e s m args below meth c H locs ls hC hcs hR hS hl
  obtain ⟨hx, hb, hr, hml, hown, hts, hlk, hU, hφ⟩ := hC
  have hat := hR.1 k hk
  rw [he] at hat
  refine W.iast hx hb hat ((hU.1.2 0 _ rfl).1 n _) (by rw [vp_cell_i]; exact fun h => by cases h) (by rw [vp_cell_i, arrV_size]; exact xI_in h0 h1 hi) rfl rfl hd fun H1 e z oq => ?_
  refine kk p _ s m args below meth c H1 _ ls ⟨hx, hb, hr, hml, hown, hts, hlk, hU, hφ⟩ hcs (hR.set ?_ z oq) (hS.put z oq (Nat.le_add_right _ _)) hl
  show H1[x.2.2.1 + k]? = some (vp_cell _ _)
  rw [e, vp_cell_i, vp_cell_i, arrV_store, xI_nat hi]
  congr 2
  funext q
  rw [hg]
  by_cases hq : q = i.toNat
  · subst hq
    simp [updV]
  · simp [updV, hq]
theorem y_alen {x : xX} {y : yY} {cs : Nat × Nat} {Qf : List Frame → Array Value → State → State → Prop} {pc : Nat} {lv : List (Nat × Value)} {st : List Value} {K : Nat} {E : Nat → va_E} {k n : Nat} {f : Nat → Int32} (hk : k < K) (he : E k = .inl (x.2.1.1 100, n, .inl f)) (hd : decode y.2.2.1 pc = .ok (.arraylength, 1)) (kk : yGr x y cs Qf (yR x K E) (pc + 1) lv (iV n :: st)) : yGr x y cs Qf (yR x K E) pc lv (.ref (x.2.2.1 + k) :: st) := by
  intro p e s m args below meth c H locs ls hC hcs hR hS hl
  obtain ⟨hx, hb, hr, hml, hown, hts, hlk, hU, hφ⟩ := hC
  have hat := hR.1 k hk
  rw [he] at hat
  refine W.alen (n := Int32.ofNat n) hx hb hat ((hU.1.2 0 _ rfl).1 n (fun j => .int (f j))) (by rw [vp_cell_i, arrV_size] <;> rfl) rfl rfl hd ?_
  rw [show Value.int (Int32.ofNat n) = iV (n : Int) from congrArg Value.int Int32.ofInt_eq_ofNat.symm]
  exact kk p e s m args below meth c H locs ls ⟨hx, hb, hr, hml, hown, hts, hlk, hU, hφ⟩ hcs hR hS hl
theorem y_obj {x : xX} {y : yY} {cs : Nat × Nat} {Qf : List Frame → Array Value → State → State → Prop} {pc : Nat} {lv : List (Nat × Value)} {st : List Value} {ρ : Heap → Prop} {a idx : Nat} (hw : Cond.methodLink y.2.1 idx Lib.objectInit ∈ xTb) (hw1 : Cond.instanceMethod Lib.objectInit ∈ xTb) (hw2 : Cond.code Lib.objectInit { data := #[177] } 1 none ∈ xTb) (hroom : 1 ≤ y.1.frames ∧ 20 ≤ y.1.locals) (hsum : (st.map fun v => v.category).sum ≤ 8) (hd : decode y.2.2.1 pc = .ok (.invokespecial idx, 3)) (k : yGr x y cs Qf ρ (pc + 3) lv st) : yGr x y cs Qf ρ pc lv (.ref a :: st) := by
  intro p e s m args below meth c H locs ls hC hcs hR hS hl
  obtain ⟨hx, hb, hr, hml, hown, hts, hlk, hU, hφ⟩ := hC
  refine W.objInit hx hb hown (hts _ hw) (hts _ hw1) (hts _ hw2) rfl (by rw [hml]; exact hl.1) rfl hd hroom.1 (by have h9 : 2 * (F0 m pc ls (Value.ref a :: st)).monitorRoom + (st.map fun v => v.category).sum ≤ 8 := lv_room hsum; have := hroom.2; omega) ?_
  exact W.eq rfl (k p e s m args below meth c H locs ls ⟨hx, hb, hr, hml, hown, hts, hlk, hU, hφ⟩ hcs hR hS hl)
/-! CONTRACTS of what makes cells -/
def yRm (d mc ms : Nat) : Room := { frames := d, cells := mc, slots := ms, locals := 40 * d }
def yPc (x : xX) (as : List Value) (K : Nat) (E : Nat → va_E) : Array Value → State → Prop := va_Pc as (fun U => yR x K E U.heap ∧ xU x U ∧ yAO U)
def yQ (x : xX) (K : Nat) (E : Nat → va_E) : Array Value → State → Outcome → State → Prop := va_Qv (S := Unit) (fun _ => True) (fun _ t => yR x K E t.heap) (xA x.2.2.1)
def yFin (x : xX) (Qc : Array Value → State → Outcome → State → Prop) (mc ms : Nat) : List Frame → Array Value → State → State → Prop := fun below args s => MQ below Qc args s mc ms (xA x.2.2.1)
abbrev yMet (x : xX) (d : Nat) (n : MethodName) (cc : ByteArray) (nL : Nat) (as : List Value) (mc ms : Nat) (K : Nat) (E : Nat → va_E) (K' : Nat) (E' : Nat → va_E) : Prop :=
  Met x.1 n (Cond.code n cc nL none :: xTb) (yRm d mc ms) (yPc x as K E) (yQ x K' E') mc ms (xA x.2.2.1)
theorem yPc_blind (x : xX) (as : List Value) (K : Nat) (E : Nat → va_E) : FrameBlind (yPc x as K E) := by
  intro a U g mk h
  obtain ⟨h1, h2, ⟨h3, h4, h5, h6, h7⟩, h8⟩ := h
  exact ⟨h1, h2, ⟨va_K.moved (u := U) (U := U.calling g mk a) (Vm.Alike.refl U.vm) h3, fun q hq => vk_R.same (u := U) rfl (h4 q hq), vk_S.moved (u := U) (U := U.calling g mk a) (Vm.Alike.refl U.vm) h5, va_Z.moved (u := U) (U := U.calling g mk a) (Vm.Alike.refl U.vm) h6, va_Zq.moved (u := U) (U := U.calling g mk a) (Vm.Alike.refl U.vm) h7⟩, yAO.moved (u := U) (U := U.calling g mk a) (Vm.Alike.refl U.vm) h8⟩
def yI : State → Method → Prop := fun _ meth => meth.name = "<init>"
theorem yMet_of {x : xX} {d : Nat} {n : MethodName} {cc : ByteArray} {nL : Nat} {as : List Value} {mc ms K K' : Nat} {E E' : Nat → va_E} (hn : plainName n.cls = true) (hlen : (lg_sl as).length ≤ nL) (φ : State → Method → Prop) (hφ : ∀ s meth, meth.name = n.name → φ s meth)
    (h : yGr x (yRm d mc ms, n.cls, cc, nL, none, φ) (0, 0) (yFin x (yQ x K' E') mc ms) (yR x K E) 0 (lv_args 0 as) []) : yMet x d n cc nL as mc ms K E K' E' := by
  refine Met.ofW (cc := cc) (maxL := nL) (ret := none) hn rfl ?_
  intro p e s m args below meth c s₁ B hml hv
  obtain ⟨rfl, hR, hU, hAO⟩ := hv
  have hts := atoms_spec (ws := Cond.code n cc nL none :: xTb) B.pre
  rw [lg_entry_eq]
  exact h p e s m _ below meth c s.heap [] _ ⟨B.exec, B.bytes, B.returns, hml, findClass_of_methodNamed B.named, fun w hw => hts w (List.mem_cons_of_mem _ hw), B.notSynchronized, hU, hAO, hφ _ _ (name_of_methodNamed B.named B.method).1⟩ ⟨Nat.zero_le _, Nat.zero_le _⟩ hR va_S.rf (lv_entry as hlen)
theorem y_vret {x : xX} {y : yY} {cs : Nat × Nat} {pc : Nat} {lv : List (Nat × Value)} {K : Nat} {E : Nat → va_E} (hret : y.2.2.2.2.1 = none) (hd : decode y.2.2.1 pc = .ok (.return_, 1)) : yGr x y cs (yFin x (yQ x K E) cs.1 cs.2) (yR x K E) pc lv [] := by
  intro p e s m args below meth c H locs ls hC hcs hR hS hl
  obtain ⟨hx, hb, hr, hml, hown, hts, hlk, hU, hφ⟩ := hC
  exact W.vret hx hb (hr.trans hret) (fun t ht hW => ⟨⟨(), rfl, trivial, (by show yR x K E t.heap; rw [ht]; exact hR)⟩, hS.F ht⟩) hS.2.2 hd hlk
theorem xCal.c {Ts : List Cond} {R : Room} {s : State} {args : Array Value} {own : String} {n : MethodName} {cc : ByteArray} {nL a d idx mc ms : Nat} (hts : ∀ w ∈ xTb, w.before args s = true) (h : xCal n cc nL none a) (hl : Cond.methodLink own idx n ∈ xTb) (hd : d + 1 ≤ R.frames ∧ 40 * d + 40 ≤ R.locals) :
    CallB R s args own idx n cc nL none (Cond.code n cc nL none :: xTb) (yRm d mc ms) mc ms a := callB_of a hts (xTb_good h.1) rfl rfl rfl (hts _ h.2.1) (hts _ hl) h.2.2.1 ⟨hd.1, by show 8 + (nL + 11) + 40 * d ≤ R.locals; have := h.2.2.2; have := hd.2; omega⟩
theorem y_call {x : xX} {y : yY} {cs : Nat × Nat} {Qf : List Frame → Array Value → State → State → Prop} {pc : Nat} {cs2 : Nat × Nat} {lv : List (Nat × Value)} {n : MethodName} {cc : ByteArray} {nL d idx a mc ms K K' : Nat} {E E' : Nat → va_E} {As rest st0 : List Value} (hcal : xCal n cc nL none As.length) (hnm : n.name = "<init>") (hin : Cond.instanceMethod n ∈ xTb) (hM : yMet x d n cc nL (.ref a :: As) mc ms K E K' E') (hst : st0 = As.reverse ++ .ref a :: rest) (hlink : Cond.methodLink y.2.1 idx n ∈ xTb) (hroom : d + 1 ≤ y.1.frames ∧ 40 * d + 40 ≤ y.1.locals) (hc : cs.1 + mc ≤ y.1.cells ∧ cs.2 + ms ≤ y.1.slots) (hsum : (rest.map fun v => v.category).sum ≤ 8) (e2 : (cs.1 + mc, cs.2 + ms) = cs2) (hd : decode y.2.2.1 pc = .ok (.invokespecial idx, 3)) (kk : yGr x y cs2 Qf (yR x K' E') (pc + 3) lv rest) : yGr x y cs Qf (yR x K E) pc lv st0 := by
  subst e2
  intro p e s m args below meth c H locs ls hC hcs hR hS hl
  obtain ⟨hx, hb, hr, hml, hown, hts, hlk, hU, hφ⟩ := hC
  subst hst
  have run := va_runI (b := a) (As := As) (rest := rest) (g := F0 m pc ls (As.reverse ++ .ref a :: rest)) (locs := locs) (cells := cs.1) (slots := cs.2) (below := below) (e := e) (meth := meth) ⟨hx, hb, hml, hown, hts⟩ hM ⟨xCal.c (Ts := xTb) hts hcal hlink hroom, hnm, hts _ hin⟩ ⟨yPc_blind _ _ _ _, fun U hUh hW => ⟨rfl, by rw [hUh]; exact hR, xU_moved hU hS hUh hW, hφ.1.moved hW.alike⟩⟩ rfl rfl (by rw [← hml]; exact hl.1.trans hml.symm) rfl (lv_room hsum) hd hc
  refine va_callv run hS (fun _ _ h => h) (fun _ h => h) (fun u t H1 locs1 ht hvm hw hB _ _ hS1 => ?_)
  have hR1 : yR x K' E' H1 := by rw [← ht]; exact hB
  exact kk p e s m args below meth c H1 locs1 ls ⟨hx, hb, hr, hml, hown, hts, hlk, hU, hφ⟩ hc hR1 hS1 hl
theorem y_callS {x : xX} {y : yY} {cs : Nat × Nat} {Qf : List Frame → Array Value → State → State → Prop} {pc : Nat} {cs2 : Nat × Nat} {lv : List (Nat × Value)} {n : MethodName} {cc : ByteArray} {nL d idx mc ms K K' : Nat} {E E' : Nat → va_E} {As rest st0 : List Value} (hcal : xCal n cc nL none As.length) (hsta : Cond.static n ∈ xTb) (hM : yMet x d n cc nL As mc ms K E K' E') (hst : st0 = As.reverse ++ rest) (hlink : Cond.methodLink y.2.1 idx n ∈ xTb) (hroom : d + 1 ≤ y.1.frames ∧ 40 * d + 40 ≤ y.1.locals) (hc : cs.1 + mc ≤ y.1.cells ∧ cs.2 + ms ≤ y.1.slots) (hsum : (rest.map fun v => v.category).sum ≤ 8) (e2 : (cs.1 + mc, cs.2 + ms) = cs2) (hd : decode y.2.2.1 pc = .ok (.invokestatic idx, 3)) (kk : yGr x y cs2 Qf (yR x K' E') (pc + 3) lv rest) : yGr x y cs Qf (yR x K E) pc lv st0 := by
  subst e2
  intro p e s m args below meth c H locs ls hC hcs hR hS hl
  obtain ⟨hx, hb, hr, hml, hown, hts, hlk, hU, hφ⟩ := hC
  subst hst
  have run := va_runS (As := As) (rest := rest) (g := F0 m pc ls (As.reverse ++ rest)) (locs := locs) (cells := cs.1) (slots := cs.2) (below := below) (e := e) (meth := meth) ⟨hx, hb, hml, hown, hts⟩ hM ⟨xCal.c (Ts := xTb) hts hcal hlink hroom, hts _ hsta⟩ ⟨yPc_blind _ _ _ _, fun U hUh hW => ⟨rfl, by rw [hUh]; exact hR, xU_moved hU hS hUh hW, hφ.1.moved hW.alike⟩⟩ rfl rfl (by rw [← hml]; exact hl.1.trans hml.symm) rfl (lv_room hsum) hd hc
  refine va_callv run hS (fun _ _ h => h) (fun _ h => h) (fun u t H1 locs1 ht hvm hw hB _ _ hS1 => ?_)
  have hR1 : yR x K' E' H1 := by rw [← ht]; exact hB
  exact kk p e s m args below meth c H1 locs1 ls ⟨hx, hb, hr, hml, hown, hts, hlk, hU, hφ⟩ hc hR1 hS1 hl
theorem y_conv {x : xX} {y : yY} {cs : Nat × Nat} {Qf : List Frame → Array Value → State → State → Prop} {pc : Nat} {lv : List (Nat × Value)} {st : List Value} {ρ ρ' : Heap → Prop} (h : ∀ H, ρ H → ρ' H) (k : yGr x y cs Qf ρ' pc lv st) : yGr x y cs Qf ρ pc lv st :=
  fun p e s m args below meth c H locs ls hC hcs hR hS hl => k p e s m args below meth c H locs ls hC hcs (h H hR) hS hl
theorem yR.at {x : xX} {K k : Nat} {E : Nat → va_E} {e e' : va_E} {H : Heap} (h : yR x K (uE E k e) H) (he : va_at x.2.1 vwCl (x.2.2.1 + k, e) H → va_at x.2.1 vwCl (x.2.2.1 + k, e') H) : yR x K (uE E k e') H := by
  refine h.re (fun i hi => ?_)
  by_cases q : i = k
  · subst q
    rw [uE_eq, uE_eq]
    exact he
  · rw [uE_ne q, uE_ne q]
    exact id
theorem uE_uE {E : Nat → va_E} {k : Nat} {e e' : va_E} : uE (uE E k e) k e' = uE E k e' := by
  funext i
  by_cases q : i = k
  · subst q
    rw [uE_eq, uE_eq]
  · rw [uE_ne q, uE_ne q, uE_ne q]
theorem uE_same {E : Nat → va_E} {k : Nat} {e : va_E} (h : E k = e) : uE E k e = E := by
  funext i
  by_cases q : i = k
  · subst q
    rw [uE_eq, h]
  · rw [uE_ne q]
def fillG (f : Nat → Int32) (v : Int) (i : Nat) : Nat → Int32 := fun q => if q < i then Int32.ofInt v else f q
theorem y_fillL (x : xX) (K : Nat) (E : Nat → va_E) (k n : Nat) (f : Nat → Int32) (v : Int) (hk : k < K) (hn : n ≤ 200000) : ∀ (d i : Nat), i + d = n → yGr x (yRm 1 0 0, RJ7, cJ7_fill_53178, 4, none, fun _ _ => True) (0, 0) (yFin x (yQ x K (uE E k (.inl (x.2.1.1 100, n, .inl (fun _ => Int32.ofInt v))))) 0 0) (yR x K (uE E k (.inl (x.2.1.1 100, n, .inl (fillG f v i))))) 5 [(0, .ref (x.2.2.1 + k)), (1, iV v), (2, iV i), (3, iV n)] []
  | 0, i, h => by
    refine y_iload_n 2 rfl dJ7_fill_53178_5 ?_
    refine y_iload_n 3 rfl dJ7_fill_53178_6 ?_
    refine y_icmpge (tgt := 20) ⟨by omega, by omega⟩ ⟨by omega, by omega⟩ dJ7_fill_53178_7 (by decide) (fun _ => ?_) (fun q => absurd q (by omega))
    refine y_conv (ρ' := yR x K (uE E k (.inl (x.2.1.1 100, n, .inl (fun _ => Int32.ofInt v))))) (fun H hR => hR.at (fun ha => ?_)) (y_vret rfl dJ7_fill_53178_20)
    have ha : H[x.2.2.1 + k]? = some (vp_cell _ _) := ha
    show H[x.2.2.1 + k]? = some (vp_cell _ _)
    rw [ha, vp_cell_i, vp_cell_i]
    refine congrArg some (arrV_alike (fun j hj => ?_))
    show Value.int (fillG f v i j) = _
    unfold fillG
    rw [if_pos (by omega)]
  | d + 1, i, h => by
    refine y_iload_n 2 rfl dJ7_fill_53178_5 ?_
    refine y_iload_n 3 rfl dJ7_fill_53178_6 ?_
    refine y_icmpge (tgt := 20) ⟨by omega, by omega⟩ ⟨by omega, by omega⟩ dJ7_fill_53178_7 (by decide) (fun q => absurd q (by omega)) (fun _ => ?_)
    refine y_aload_n 0 rfl dJ7_fill_53178_10 ?_
    refine y_iload_n 2 rfl dJ7_fill_53178_11 ?_
    refine y_iload_n 1 rfl dJ7_fill_53178_12 ?_
    refine y_iast (n := n) (fillG f v (i + 1)) hk uE_eq (by omega) (by omega) ⟨by omega, by omega⟩ (fun q => ?_) dJ7_fill_53178_13 ?_
    · unfold fillG
      rw [Int.toNat_natCast]
      by_cases q1 : q < i
      · rw [if_pos (by omega), if_neg (by omega), if_pos q1]
      · by_cases q2 : q = i
        · rw [if_pos (by omega), if_pos q2]
        · rw [if_neg (by omega), if_neg q2, if_neg q1]
    · rw [uE_uE]
      refine y_iinc 2 rfl [(2, iV ((i : Int) + 1)), (0, .ref (x.2.2.1 + k)), (1, iV v), (3, iV (n : Int))] dJ7_fill_53178_14 (show 2 < 4 by decide) rfl ?_
      refine y_goto (tgt := 5) dJ7_fill_53178_17 (by decide) ?_
      have := y_fillL x K E k n f v hk hn d (i + 1) (by omega)
      rw [Int.natCast_add] at this
      exact y_sub [1, 2, 0, 3] rfl this
theorem y_fillM (x : xX) {K : Nat} {E : Nat → va_E} {k n : Nat} {f : Nat → Int32} {v : Int} (hk : k < K) (he : E k = .inl (x.2.1.1 100, n, .inl f)) (hn : n ≤ 200000) : yMet x 1 yJ7_fill_53178 cJ7_fill_53178 4 [.ref (x.2.2.1 + k), iV v] 0 0 K E K (uE E k (.inl (x.2.1.1 100, n, .inl (fun _ => Int32.ofInt v)))) := by
  refine yMet_of (by decide +kernel) (Nat.le_of_ble_eq_true rfl) (fun _ _ => True) (fun _ _ _ => trivial) ?_
  show yGr x (yRm 1 0 0, RJ7, cJ7_fill_53178, 4, none, fun _ _ => True) (0, 0) _ _ 0 [(0, .ref (x.2.2.1 + k)), (1, iV v)] []
  refine y_iconst dJ7_fill_53178_0 ?_
  refine y_istore_n [(2, iV 0), (0, .ref (x.2.2.1 + k)), (1, iV v)] dJ7_fill_53178_1 (show 2 < 4 by decide) rfl ?_
  refine y_aload_n 1 rfl dJ7_fill_53178_2 ?_
  refine y_alen hk he dJ7_fill_53178_3 ?_
  refine y_istore_n [(3, iV (n : Int)), (2, iV 0), (0, .ref (x.2.2.1 + k)), (1, iV v)] dJ7_fill_53178_4 (show 3 < 4 by decide) rfl ?_
  refine y_sub [2, 3, 1, 0] rfl ?_
  refine y_conv (ρ' := yR x K (uE E k (.inl (x.2.1.1 100, n, .inl (fillG f v 0))))) (fun H hR => ?_) (y_fillL x K E k n f v hk hn n 0 (by omega))
  have e0 : fillG f v 0 = f := by
    funext q
    unfold fillG
    rw [if_neg (by omega)]
  rw [e0, uE_same he]
  exact hR
