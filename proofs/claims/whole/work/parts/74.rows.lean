theorem x_iconst {x : xX} {y : xY} {cs : Nat × Nat} {Qf : List Frame → Array Value → State → State → Prop} {pc : Nat} {lv : List (Nat × Value)} {st : List Value} {ρ : Heap → Prop} {n : Int} (hd : decode y.2.2.1 pc = .ok (.iconst n, 1)) (k : xGr x y cs Qf ρ (pc + 1) lv (iV n :: st)) : xGr x y cs Qf ρ pc lv st := by
  intro p e s m args below meth c H locs ls hC hcs hR hS hl
  obtain ⟨hx, hb, hr, hml, hown, hts, hlk, hU, hφ⟩ := hC
  exact lv_iconst hx hb hd rfl (k p e s m args below meth c H locs ls ⟨hx, hb, hr, hml, hown, hts, hlk, hU, hφ⟩ hcs hR hS hl)
theorem x_bipush {x : xX} {y : xY} {cs : Nat × Nat} {Qf : List Frame → Array Value → State → State → Prop} {pc : Nat} {lv : List (Nat × Value)} {st : List Value} {ρ : Heap → Prop} {n : Int} (hd : decode y.2.2.1 pc = .ok (.bipush n, 2)) (hn : (Int8.ofInt n).toInt32 = Int32.ofInt n) (k : xGr x y cs Qf ρ (pc + 2) lv (iV n :: st)) : xGr x y cs Qf ρ pc lv st := by
  intro p e s m args below meth c H locs ls hC hcs hR hS hl
  obtain ⟨hx, hb, hr, hml, hown, hts, hlk, hU, hφ⟩ := hC
  exact lv_bipush hx hb hd hn (k p e s m args below meth c H locs ls ⟨hx, hb, hr, hml, hown, hts, hlk, hU, hφ⟩ hcs hR hS hl)
theorem x_sipush {x : xX} {y : xY} {cs : Nat × Nat} {Qf : List Frame → Array Value → State → State → Prop} {pc : Nat} {lv : List (Nat × Value)} {st : List Value} {ρ : Heap → Prop} {n : Int} (hd : decode y.2.2.1 pc = .ok (.sipush n, 3)) (hn : (Int16.ofInt n).toInt32 = Int32.ofInt n) (k : xGr x y cs Qf ρ (pc + 3) lv (iV n :: st)) : xGr x y cs Qf ρ pc lv st := by
  intro p e s m args below meth c H locs ls hC hcs hR hS hl
  obtain ⟨hx, hb, hr, hml, hown, hts, hlk, hU, hφ⟩ := hC
  exact lv_sipush hx hb hd hn (k p e s m args below meth c H locs ls ⟨hx, hb, hr, hml, hown, hts, hlk, hU, hφ⟩ hcs hR hS hl)
theorem x_lconst {x : xX} {y : xY} {cs : Nat × Nat} {Qf : List Frame → Array Value → State → State → Prop} {pc : Nat} {lv : List (Nat × Value)} {st : List Value} {ρ : Heap → Prop} {n : Fin 2} {v : Int} (hd : decode y.2.2.1 pc = .ok (.lconst n, 1)) (hn : Int64.ofNat (n : Nat) = Int64.ofInt v) (k : xGr x y cs Qf ρ (pc + 1) lv (jV v :: st)) : xGr x y cs Qf ρ pc lv st := by
  intro p e s m args below meth c H locs ls hC hcs hR hS hl
  obtain ⟨hx, hb, hr, hml, hown, hts, hlk, hU, hφ⟩ := hC
  exact lv_lconst hx hb hd hn (k p e s m args below meth c H locs ls ⟨hx, hb, hr, hml, hown, hts, hlk, hU, hφ⟩ hcs hR hS hl)
theorem x_ldc {x : xX} {y : xY} {cs : Nat × Nat} {Qf : List Frame → Array Value → State → State → Prop} {pc : Nat} {lv : List (Nat × Value)} {st : List Value} {ρ : Heap → Prop} {i : Nat} {n : Int} (hw : Cond.constant y.2.1 i (Int32.ofInt n) ∈ xTb) (hd : decode y.2.2.1 pc = .ok (.ldc i, 2)) (k : xGr x y cs Qf ρ (pc + 2) lv (iV n :: st)) : xGr x y cs Qf ρ pc lv st := by
  intro p e s m args below meth c H locs ls hC hcs hR hS hl
  obtain ⟨hx, hb, hr, hml, hown, hts, hlk, hU, hφ⟩ := hC
  exact lv_ldc hx hb hown (hts _ hw) hd (k p e s m args below meth c H locs ls ⟨hx, hb, hr, hml, hown, hts, hlk, hU, hφ⟩ hcs hR hS hl)
theorem x_ldc2 {x : xX} {y : xY} {cs : Nat × Nat} {Qf : List Frame → Array Value → State → State → Prop} {pc : Nat} {lv : List (Nat × Value)} {st : List Value} {ρ : Heap → Prop} {i : Nat} {n : Int} (hw : Cond.constantLong y.2.1 i (Int64.ofInt n) ∈ xTb) (hd : decode y.2.2.1 pc = .ok (.ldc2_w i, 3)) (k : xGr x y cs Qf ρ (pc + 3) lv (jV n :: st)) : xGr x y cs Qf ρ pc lv st := by
  intro p e s m args below meth c H locs ls hC hcs hR hS hl
  obtain ⟨hx, hb, hr, hml, hown, hts, hlk, hU, hφ⟩ := hC
  exact lv_ldc2 hx hb hown (hts _ hw) hd (k p e s m args below meth c H locs ls ⟨hx, hb, hr, hml, hown, hts, hlk, hU, hφ⟩ hcs hR hS hl)
theorem x_iload_n {x : xX} {y : xY} {cs : Nat × Nat} {Qf : List Frame → Array Value → State → State → Prop} {pc : Nat} {lv : List (Nat × Value)} {st : List Value} {ρ : Heap → Prop} {n : Fin 4} {a : Int32} (q : Nat) (hq : lv[q]? = some (n.val, .int a)) (hd : decode y.2.2.1 pc = .ok (.iload_n n, 1)) (k : xGr x y cs Qf ρ (pc + 1) lv (.int a :: st)) : xGr x y cs Qf ρ pc lv st := by
  intro p e s m args below meth c H locs ls hC hcs hR hS hl
  obtain ⟨hx, hb, hr, hml, hown, hts, hlk, hU, hφ⟩ := hC
  exact lv_iload_n hx hb hd rfl (lv_at hl q hq) (k p e s m args below meth c H locs ls ⟨hx, hb, hr, hml, hown, hts, hlk, hU, hφ⟩ hcs hR hS hl)
theorem x_iload {x : xX} {y : xY} {cs : Nat × Nat} {Qf : List Frame → Array Value → State → State → Prop} {pc : Nat} {lv : List (Nat × Value)} {st : List Value} {ρ : Heap → Prop} {i : Nat} {a : Int32} (q : Nat) (hq : lv[q]? = some (i, .int a)) (hd : decode y.2.2.1 pc = .ok (.iload i, 2)) (k : xGr x y cs Qf ρ (pc + 2) lv (.int a :: st)) : xGr x y cs Qf ρ pc lv st := by
  intro p e s m args below meth c H locs ls hC hcs hR hS hl
  obtain ⟨hx, hb, hr, hml, hown, hts, hlk, hU, hφ⟩ := hC
  exact lv_iload hx hb hd (lv_at hl q hq) (k p e s m args below meth c H locs ls ⟨hx, hb, hr, hml, hown, hts, hlk, hU, hφ⟩ hcs hR hS hl)
theorem x_istore_n {x : xX} {y : xY} {cs : Nat × Nat} {Qf : List Frame → Array Value → State → State → Prop} {pc : Nat} {lv : List (Nat × Value)} {st : List Value} {ρ : Heap → Prop} {n : Fin 4} {a : Int32} (lv' : List (Nat × Value)) (hd : decode y.2.2.1 pc = .ok (.istore_n n, 1)) (hn : n.val < y.2.2.2.1) (hl' : (n.val, Value.int a) :: lv.filter (fun q => !(q.1 == n.val) && !(q.1 + 1 == n.val && q.2.category == 2)) = lv') (k : xGr x y cs Qf ρ (pc + 1) lv' st) : xGr x y cs Qf ρ pc lv (.int a :: st) := by
  intro p e s m args below meth c H locs ls hC hcs hR hS hl
  obtain ⟨hx, hb, hr, hml, hown, hts, hlk, hU, hφ⟩ := hC
  exact lv_istore_n hx hb hd rfl hl hn hl' (fun ls' h' => k p e s m args below meth c H locs ls' ⟨hx, hb, hr, hml, hown, hts, hlk, hU, hφ⟩ hcs hR hS h')
theorem x_istore {x : xX} {y : xY} {cs : Nat × Nat} {Qf : List Frame → Array Value → State → State → Prop} {pc : Nat} {lv : List (Nat × Value)} {st : List Value} {ρ : Heap → Prop} {i : Nat} {a : Int32} (lv' : List (Nat × Value)) (hd : decode y.2.2.1 pc = .ok (.istore i, 2)) (hn : i < y.2.2.2.1) (hl' : (i, Value.int a) :: lv.filter (fun q => !(q.1 == i) && !(q.1 + 1 == i && q.2.category == 2)) = lv') (k : xGr x y cs Qf ρ (pc + 2) lv' st) : xGr x y cs Qf ρ pc lv (.int a :: st) := by
  intro p e s m args below meth c H locs ls hC hcs hR hS hl
  obtain ⟨hx, hb, hr, hml, hown, hts, hlk, hU, hφ⟩ := hC
  exact lv_istore hx hb hd hl hn hl' (fun ls' h' => k p e s m args below meth c H locs ls' ⟨hx, hb, hr, hml, hown, hts, hlk, hU, hφ⟩ hcs hR hS h')
theorem x_lload_n {x : xX} {y : xY} {cs : Nat × Nat} {Qf : List Frame → Array Value → State → State → Prop} {pc : Nat} {lv : List (Nat × Value)} {st : List Value} {ρ : Heap → Prop} {n : Fin 4} {a : Int64} (q : Nat) (hq : lv[q]? = some (n.val, .long a)) (hd : decode y.2.2.1 pc = .ok (.lload_n n, 1)) (k : xGr x y cs Qf ρ (pc + 1) lv (.long a :: st)) : xGr x y cs Qf ρ pc lv st := by
  intro p e s m args below meth c H locs ls hC hcs hR hS hl
  obtain ⟨hx, hb, hr, hml, hown, hts, hlk, hU, hφ⟩ := hC
  exact lv_lload_n hx hb hd rfl (lv_at hl q hq) (k p e s m args below meth c H locs ls ⟨hx, hb, hr, hml, hown, hts, hlk, hU, hφ⟩ hcs hR hS hl)
theorem x_lload {x : xX} {y : xY} {cs : Nat × Nat} {Qf : List Frame → Array Value → State → State → Prop} {pc : Nat} {lv : List (Nat × Value)} {st : List Value} {ρ : Heap → Prop} {i : Nat} {a : Int64} (q : Nat) (hq : lv[q]? = some (i, .long a)) (hd : decode y.2.2.1 pc = .ok (.lload i, 2)) (k : xGr x y cs Qf ρ (pc + 2) lv (.long a :: st)) : xGr x y cs Qf ρ pc lv st := by
  intro p e s m args below meth c H locs ls hC hcs hR hS hl
  obtain ⟨hx, hb, hr, hml, hown, hts, hlk, hU, hφ⟩ := hC
  exact lv_lload hx hb hd (lv_at hl q hq) (k p e s m args below meth c H locs ls ⟨hx, hb, hr, hml, hown, hts, hlk, hU, hφ⟩ hcs hR hS hl)
theorem x_lstore_n {x : xX} {y : xY} {cs : Nat × Nat} {Qf : List Frame → Array Value → State → State → Prop} {pc : Nat} {lv : List (Nat × Value)} {st : List Value} {ρ : Heap → Prop} {n : Fin 4} {a : Int64} (lv' : List (Nat × Value)) (hd : decode y.2.2.1 pc = .ok (.lstore_n n, 1)) (hn : n.val + 1 < y.2.2.2.1) (hl' : (n.val, Value.long a) :: lv.filter (fun q => !(q.1 == n.val) && (!(q.1 == n.val + 1) && !(q.1 + 1 == n.val && q.2.category == 2))) = lv') (k : xGr x y cs Qf ρ (pc + 1) lv' st) : xGr x y cs Qf ρ pc lv (.long a :: st) := by
  intro p e s m args below meth c H locs ls hC hcs hR hS hl
  obtain ⟨hx, hb, hr, hml, hown, hts, hlk, hU, hφ⟩ := hC
  exact lv_lstore_n hx hb hd rfl hl hn hl' (fun ls' h' => k p e s m args below meth c H locs ls' ⟨hx, hb, hr, hml, hown, hts, hlk, hU, hφ⟩ hcs hR hS h')
theorem x_lstore {x : xX} {y : xY} {cs : Nat × Nat} {Qf : List Frame → Array Value → State → State → Prop} {pc : Nat} {lv : List (Nat × Value)} {st : List Value} {ρ : Heap → Prop} {i : Nat} {a : Int64} (lv' : List (Nat × Value)) (hd : decode y.2.2.1 pc = .ok (.lstore i, 2)) (hn : i + 1 < y.2.2.2.1) (hl' : (i, Value.long a) :: lv.filter (fun q => !(q.1 == i) && (!(q.1 == i + 1) && !(q.1 + 1 == i && q.2.category == 2))) = lv') (k : xGr x y cs Qf ρ (pc + 2) lv' st) : xGr x y cs Qf ρ pc lv (.long a :: st) := by
  intro p e s m args below meth c H locs ls hC hcs hR hS hl
  obtain ⟨hx, hb, hr, hml, hown, hts, hlk, hU, hφ⟩ := hC
  exact lv_lstore hx hb hd hl hn hl' (fun ls' h' => k p e s m args below meth c H locs ls' ⟨hx, hb, hr, hml, hown, hts, hlk, hU, hφ⟩ hcs hR hS h')
theorem x_aload_n {x : xX} {y : xY} {cs : Nat × Nat} {Qf : List Frame → Array Value → State → State → Prop} {pc : Nat} {lv : List (Nat × Value)} {st : List Value} {ρ : Heap → Prop} {n : Fin 4} {a : Nat} (q : Nat) (hq : lv[q]? = some (n.val, .ref a)) (hd : decode y.2.2.1 pc = .ok (.aload_n n, 1)) (k : xGr x y cs Qf ρ (pc + 1) lv (.ref a :: st)) : xGr x y cs Qf ρ pc lv st := by
  intro p e s m args below meth c H locs ls hC hcs hR hS hl
  obtain ⟨hx, hb, hr, hml, hown, hts, hlk, hU, hφ⟩ := hC
  exact lv_aload_n hx hb hd rfl (lv_at hl q hq) (k p e s m args below meth c H locs ls ⟨hx, hb, hr, hml, hown, hts, hlk, hU, hφ⟩ hcs hR hS hl)
theorem x_aload {x : xX} {y : xY} {cs : Nat × Nat} {Qf : List Frame → Array Value → State → State → Prop} {pc : Nat} {lv : List (Nat × Value)} {st : List Value} {ρ : Heap → Prop} {i : Nat} {a : Nat} (q : Nat) (hq : lv[q]? = some (i, .ref a)) (hd : decode y.2.2.1 pc = .ok (.aload i, 2)) (k : xGr x y cs Qf ρ (pc + 2) lv (.ref a :: st)) : xGr x y cs Qf ρ pc lv st := by
  intro p e s m args below meth c H locs ls hC hcs hR hS hl
  obtain ⟨hx, hb, hr, hml, hown, hts, hlk, hU, hφ⟩ := hC
  exact lv_aload hx hb hd (lv_at hl q hq) (k p e s m args below meth c H locs ls ⟨hx, hb, hr, hml, hown, hts, hlk, hU, hφ⟩ hcs hR hS hl)
theorem x_astore_n {x : xX} {y : xY} {cs : Nat × Nat} {Qf : List Frame → Array Value → State → State → Prop} {pc : Nat} {lv : List (Nat × Value)} {st : List Value} {ρ : Heap → Prop} {n : Fin 4} {a : Nat} (lv' : List (Nat × Value)) (hd : decode y.2.2.1 pc = .ok (.astore_n n, 1)) (hn : n.val < y.2.2.2.1) (hl' : (n.val, Value.ref a) :: lv.filter (fun q => !(q.1 == n.val) && !(q.1 + 1 == n.val && q.2.category == 2)) = lv') (k : xGr x y cs Qf ρ (pc + 1) lv' st) : xGr x y cs Qf ρ pc lv (.ref a :: st) := by
  intro p e s m args below meth c H locs ls hC hcs hR hS hl
  obtain ⟨hx, hb, hr, hml, hown, hts, hlk, hU, hφ⟩ := hC
  exact lv_astore_n hx hb hd rfl hl hn hl' (fun ls' h' => k p e s m args below meth c H locs ls' ⟨hx, hb, hr, hml, hown, hts, hlk, hU, hφ⟩ hcs hR hS h')
theorem x_astore {x : xX} {y : xY} {cs : Nat × Nat} {Qf : List Frame → Array Value → State → State → Prop} {pc : Nat} {lv : List (Nat × Value)} {st : List Value} {ρ : Heap → Prop} {i : Nat} {a : Nat} (lv' : List (Nat × Value)) (hd : decode y.2.2.1 pc = .ok (.astore i, 2)) (hn : i < y.2.2.2.1) (hl' : (i, Value.ref a) :: lv.filter (fun q => !(q.1 == i) && !(q.1 + 1 == i && q.2.category == 2)) = lv') (k : xGr x y cs Qf ρ (pc + 2) lv' st) : xGr x y cs Qf ρ pc lv (.ref a :: st) := by
  intro p e s m args below meth c H locs ls hC hcs hR hS hl
  obtain ⟨hx, hb, hr, hml, hown, hts, hlk, hU, hφ⟩ := hC
  exact lv_astore hx hb hd hl hn hl' (fun ls' h' => k p e s m args below meth c H locs ls' ⟨hx, hb, hr, hml, hown, hts, hlk, hU, hφ⟩ hcs hR hS h')
theorem x_iinc {x : xX} {y : xY} {cs : Nat × Nat} {Qf : List Frame → Array Value → State → State → Prop} {pc : Nat} {lv : List (Nat × Value)} {st : List Value} {ρ : Heap → Prop} {i : Nat} {n a : Int} (q : Nat) (hq : lv[q]? = some (i, iV a)) (lv' : List (Nat × Value)) (hd : decode y.2.2.1 pc = .ok (.iinc i n, 3)) (hn : i < y.2.2.2.1) (hl' : (i, iV (a + n)) :: lv.filter (fun q => !(q.1 == i) && !(q.1 + 1 == i && q.2.category == 2)) = lv') (k : xGr x y cs Qf ρ (pc + 3) lv' st) : xGr x y cs Qf ρ pc lv st := by
  intro p e s m args below meth c H locs ls hC hcs hR hS hl
  obtain ⟨hx, hb, hr, hml, hown, hts, hlk, hU, hφ⟩ := hC
  exact lv_iinc (v := Int32.ofInt (a + n)) hx hb hd hl hq (Int32.ofInt_add a n).symm hn hl' (fun ls' h' => k p e s m args below meth c H locs ls' ⟨hx, hb, hr, hml, hown, hts, hlk, hU, hφ⟩ hcs hR hS h')
theorem x_iadd {x : xX} {y : xY} {cs : Nat × Nat} {Qf : List Frame → Array Value → State → State → Prop} {pc : Nat} {lv : List (Nat × Value)} {st : List Value} {ρ : Heap → Prop} {a c1 : Int} (hd : decode y.2.2.1 pc = .ok (.iadd, 1)) (k : xGr x y cs Qf ρ (pc + 1) lv (iV (a + c1) :: st)) : xGr x y cs Qf ρ pc lv (iV c1 :: iV a :: st) := by
  intro p e s m args below meth c H locs ls hC hcs hR hS hl
  obtain ⟨hx, hb, hr, hml, hown, hts, hlk, hU, hφ⟩ := hC
  refine lv_iadd hx hb hd ?_
  rw [← Int32.ofInt_add]
  exact k p e s m args below meth c H locs ls ⟨hx, hb, hr, hml, hown, hts, hlk, hU, hφ⟩ hcs hR hS hl
theorem x_isub {x : xX} {y : xY} {cs : Nat × Nat} {Qf : List Frame → Array Value → State → State → Prop} {pc : Nat} {lv : List (Nat × Value)} {st : List Value} {ρ : Heap → Prop} {a c1 : Int} (hd : decode y.2.2.1 pc = .ok (.isub, 1)) (k : xGr x y cs Qf ρ (pc + 1) lv (iV (a - c1) :: st)) : xGr x y cs Qf ρ pc lv (iV c1 :: iV a :: st) := by
  intro p e s m args below meth c H locs ls hC hcs hR hS hl
  obtain ⟨hx, hb, hr, hml, hown, hts, hlk, hU, hφ⟩ := hC
  refine lv_isub hx hb hd ?_
  rw [← Int32.ofInt_sub]
  exact k p e s m args below meth c H locs ls ⟨hx, hb, hr, hml, hown, hts, hlk, hU, hφ⟩ hcs hR hS hl
theorem x_imul {x : xX} {y : xY} {cs : Nat × Nat} {Qf : List Frame → Array Value → State → State → Prop} {pc : Nat} {lv : List (Nat × Value)} {st : List Value} {ρ : Heap → Prop} {a c1 : Int} (hd : decode y.2.2.1 pc = .ok (.imul, 1)) (k : xGr x y cs Qf ρ (pc + 1) lv (iV (a * c1) :: st)) : xGr x y cs Qf ρ pc lv (iV c1 :: iV a :: st) := by
  intro p e s m args below meth c H locs ls hC hcs hR hS hl
  obtain ⟨hx, hb, hr, hml, hown, hts, hlk, hU, hφ⟩ := hC
  refine lv_imul hx hb hd ?_
  rw [← Int32.ofInt_mul]
  exact k p e s m args below meth c H locs ls ⟨hx, hb, hr, hml, hown, hts, hlk, hU, hφ⟩ hcs hR hS hl
theorem x_ladd {x : xX} {y : xY} {cs : Nat × Nat} {Qf : List Frame → Array Value → State → State → Prop} {pc : Nat} {lv : List (Nat × Value)} {st : List Value} {ρ : Heap → Prop} {a c1 : Int} (hd : decode y.2.2.1 pc = .ok (.ladd, 1)) (k : xGr x y cs Qf ρ (pc + 1) lv (jV (a + c1) :: st)) : xGr x y cs Qf ρ pc lv (jV c1 :: jV a :: st) := by
  intro p e s m args below meth c H locs ls hC hcs hR hS hl
  obtain ⟨hx, hb, hr, hml, hown, hts, hlk, hU, hφ⟩ := hC
  refine lv_ladd hx hb hd ?_
  rw [← Int64.ofInt_add]
  exact k p e s m args below meth c H locs ls ⟨hx, hb, hr, hml, hown, hts, hlk, hU, hφ⟩ hcs hR hS hl
theorem x_lmul {x : xX} {y : xY} {cs : Nat × Nat} {Qf : List Frame → Array Value → State → State → Prop} {pc : Nat} {lv : List (Nat × Value)} {st : List Value} {ρ : Heap → Prop} {a c1 : Int} (hd : decode y.2.2.1 pc = .ok (.lmul, 1)) (k : xGr x y cs Qf ρ (pc + 1) lv (jV (a * c1) :: st)) : xGr x y cs Qf ρ pc lv (jV c1 :: jV a :: st) := by
  intro p e s m args below meth c H locs ls hC hcs hR hS hl
  obtain ⟨hx, hb, hr, hml, hown, hts, hlk, hU, hφ⟩ := hC
  refine lv_lmul hx hb hd ?_
  rw [← Int64.ofInt_mul]
  exact k p e s m args below meth c H locs ls ⟨hx, hb, hr, hml, hown, hts, hlk, hU, hφ⟩ hcs hR hS hl
theorem x_ineg {x : xX} {y : xY} {cs : Nat × Nat} {Qf : List Frame → Array Value → State → State → Prop} {pc : Nat} {lv : List (Nat × Value)} {st : List Value} {ρ : Heap → Prop} {a : Int} (hd : decode y.2.2.1 pc = .ok (.ineg, 1)) (k : xGr x y cs Qf ρ (pc + 1) lv (iV (-a) :: st)) : xGr x y cs Qf ρ pc lv (iV a :: st) := by
  intro p e s m args below meth c H locs ls hC hcs hR hS hl
  obtain ⟨hx, hb, hr, hml, hown, hts, hlk, hU, hφ⟩ := hC
  refine lv_ineg hx hb hd ?_
  rw [← Int32.ofInt_neg]
  exact k p e s m args below meth c H locs ls ⟨hx, hb, hr, hml, hown, hts, hlk, hU, hφ⟩ hcs hR hS hl
theorem x_iand {x : xX} {y : xY} {cs : Nat × Nat} {Qf : List Frame → Array Value → State → State → Prop} {pc : Nat} {lv : List (Nat × Value)} {st : List Value} {ρ : Heap → Prop} {a c1 : Int} (hd : decode y.2.2.1 pc = .ok (.iand, 1)) (k : xGr x y cs Qf ρ (pc + 1) lv (iV (xAnd a c1) :: st)) : xGr x y cs Qf ρ pc lv (iV c1 :: iV a :: st) := by
  intro p e s m args below meth c H locs ls hC hcs hR hS hl
  obtain ⟨hx, hb, hr, hml, hown, hts, hlk, hU, hφ⟩ := hC
  refine lv_iand hx hb hd ?_
  have h := k p e s m args below meth c H locs ls ⟨hx, hb, hr, hml, hown, hts, hlk, hU, hφ⟩ hcs hR hS hl
  rw [show iV (xAnd a c1) = Value.int _ from congrArg Value.int (Int32.ofInt_toInt _)] at h
  exact h
theorem x_ior {x : xX} {y : xY} {cs : Nat × Nat} {Qf : List Frame → Array Value → State → State → Prop} {pc : Nat} {lv : List (Nat × Value)} {st : List Value} {ρ : Heap → Prop} {a c1 : Int} (hd : decode y.2.2.1 pc = .ok (.ior, 1)) (k : xGr x y cs Qf ρ (pc + 1) lv (iV (xOr a c1) :: st)) : xGr x y cs Qf ρ pc lv (iV c1 :: iV a :: st) := by
  intro p e s m args below meth c H locs ls hC hcs hR hS hl
  obtain ⟨hx, hb, hr, hml, hown, hts, hlk, hU, hφ⟩ := hC
  refine lv_ior hx hb hd ?_
  have h := k p e s m args below meth c H locs ls ⟨hx, hb, hr, hml, hown, hts, hlk, hU, hφ⟩ hcs hR hS hl
  rw [show iV (xOr a c1) = Value.int _ from congrArg Value.int (Int32.ofInt_toInt _)] at h
  exact h
theorem x_ixor {x : xX} {y : xY} {cs : Nat × Nat} {Qf : List Frame → Array Value → State → State → Prop} {pc : Nat} {lv : List (Nat × Value)} {st : List Value} {ρ : Heap → Prop} {a c1 : Int} (hd : decode y.2.2.1 pc = .ok (.ixor, 1)) (k : xGr x y cs Qf ρ (pc + 1) lv (iV (xXor a c1) :: st)) : xGr x y cs Qf ρ pc lv (iV c1 :: iV a :: st) := by
  intro p e s m args below meth c H locs ls hC hcs hR hS hl
  obtain ⟨hx, hb, hr, hml, hown, hts, hlk, hU, hφ⟩ := hC
  refine lv_ixor hx hb hd ?_
  have h := k p e s m args below meth c H locs ls ⟨hx, hb, hr, hml, hown, hts, hlk, hU, hφ⟩ hcs hR hS hl
  rw [show iV (xXor a c1) = Value.int _ from congrArg Value.int (Int32.ofInt_toInt _)] at h
  exact h
theorem x_ishl {x : xX} {y : xY} {cs : Nat × Nat} {Qf : List Frame → Array Value → State → State → Prop} {pc : Nat} {lv : List (Nat × Value)} {st : List Value} {ρ : Heap → Prop} {a c1 : Int} (hd : decode y.2.2.1 pc = .ok (.ishl, 1)) (k : xGr x y cs Qf ρ (pc + 1) lv (iV (xShl a c1) :: st)) : xGr x y cs Qf ρ pc lv (iV c1 :: iV a :: st) := by
  intro p e s m args below meth c H locs ls hC hcs hR hS hl
  obtain ⟨hx, hb, hr, hml, hown, hts, hlk, hU, hφ⟩ := hC
  refine lv_ishl hx hb hd ?_
  have h := k p e s m args below meth c H locs ls ⟨hx, hb, hr, hml, hown, hts, hlk, hU, hφ⟩ hcs hR hS hl
  rw [show iV (xShl a c1) = Value.int _ from congrArg Value.int (Int32.ofInt_toInt _)] at h
  exact h
theorem x_ishr {x : xX} {y : xY} {cs : Nat × Nat} {Qf : List Frame → Array Value → State → State → Prop} {pc : Nat} {lv : List (Nat × Value)} {st : List Value} {ρ : Heap → Prop} {a c1 : Int} (hd : decode y.2.2.1 pc = .ok (.ishr, 1)) (k : xGr x y cs Qf ρ (pc + 1) lv (iV (xShr a c1) :: st)) : xGr x y cs Qf ρ pc lv (iV c1 :: iV a :: st) := by
  intro p e s m args below meth c H locs ls hC hcs hR hS hl
  obtain ⟨hx, hb, hr, hml, hown, hts, hlk, hU, hφ⟩ := hC
  refine lv_ishr hx hb hd ?_
  have h := k p e s m args below meth c H locs ls ⟨hx, hb, hr, hml, hown, hts, hlk, hU, hφ⟩ hcs hR hS hl
  rw [show iV (xShr a c1) = Value.int _ from congrArg Value.int (Int32.ofInt_toInt _)] at h
  exact h
theorem x_iushr {x : xX} {y : xY} {cs : Nat × Nat} {Qf : List Frame → Array Value → State → State → Prop} {pc : Nat} {lv : List (Nat × Value)} {st : List Value} {ρ : Heap → Prop} {a c1 : Int} (hd : decode y.2.2.1 pc = .ok (.iushr, 1)) (k : xGr x y cs Qf ρ (pc + 1) lv (iV (xUshr a c1) :: st)) : xGr x y cs Qf ρ pc lv (iV c1 :: iV a :: st) := by
  intro p e s m args below meth c H locs ls hC hcs hR hS hl
  obtain ⟨hx, hb, hr, hml, hown, hts, hlk, hU, hφ⟩ := hC
  refine lv_iushr hx hb hd rfl ?_
  have h := k p e s m args below meth c H locs ls ⟨hx, hb, hr, hml, hown, hts, hlk, hU, hφ⟩ hcs hR hS hl
  rw [show iV (xUshr a c1) = Value.int _ from congrArg Value.int (Int32.ofInt_toInt _)] at h
  exact h
theorem x_idiv {x : xX} {y : xY} {cs : Nat × Nat} {Qf : List Frame → Array Value → State → State → Prop} {pc : Nat} {lv : List (Nat × Value)} {st : List Value} {ρ : Heap → Prop} {a c1 : Int} (ha : xIn a) (hc : xIn c1) (h0 : 0 < c1) (hd : decode y.2.2.1 pc = .ok (.idiv, 1)) (k : xGr x y cs Qf ρ (pc + 1) lv (iV (a.tdiv c1) :: st)) : xGr x y cs Qf ρ pc lv (iV c1 :: iV a :: st) := by
  intro p e s m args below meth c H locs ls hC hcs hR hS hl
  obtain ⟨hx, hb, hr, hml, hown, hts, hlk, hU, hφ⟩ := hC
  refine lv_idiv hx hb hd (fun q => ?_) ?_
  · have q1 : Int32.ofInt c1 = Int32.ofInt 0 := q
    rw [xI_eq hc xIn0] at q1
    omega
  · rw [xI_div ha hc h0]
    exact k p e s m args below meth c H locs ls ⟨hx, hb, hr, hml, hown, hts, hlk, hU, hφ⟩ hcs hR hS hl
theorem x_irem {x : xX} {y : xY} {cs : Nat × Nat} {Qf : List Frame → Array Value → State → State → Prop} {pc : Nat} {lv : List (Nat × Value)} {st : List Value} {ρ : Heap → Prop} {a c1 : Int} (ha : xIn a) (hc : xIn c1) (h0 : 0 < c1) (hd : decode y.2.2.1 pc = .ok (.irem, 1)) (k : xGr x y cs Qf ρ (pc + 1) lv (iV (a.tmod c1) :: st)) : xGr x y cs Qf ρ pc lv (iV c1 :: iV a :: st) := by
  intro p e s m args below meth c H locs ls hC hcs hR hS hl
  obtain ⟨hx, hb, hr, hml, hown, hts, hlk, hU, hφ⟩ := hC
  refine lv_irem hx hb hd (fun q => ?_) ?_
  · have q1 : Int32.ofInt c1 = Int32.ofInt 0 := q
    rw [xI_eq hc xIn0] at q1
    omega
  · rw [xI_rem ha hc h0]
    exact k p e s m args below meth c H locs ls ⟨hx, hb, hr, hml, hown, hts, hlk, hU, hφ⟩ hcs hR hS hl
theorem x_ldiv {x : xX} {y : xY} {cs : Nat × Nat} {Qf : List Frame → Array Value → State → State → Prop} {pc : Nat} {lv : List (Nat × Value)} {st : List Value} {ρ : Heap → Prop} {a c1 : Int} (ha : xIl a) (hc : xIl c1) (h0 : 0 < c1) (hd : decode y.2.2.1 pc = .ok (.ldiv, 1)) (k : xGr x y cs Qf ρ (pc + 1) lv (jV (a.tdiv c1) :: st)) : xGr x y cs Qf ρ pc lv (jV c1 :: jV a :: st) := by
  intro p e s m args below meth c H locs ls hC hcs hR hS hl
  obtain ⟨hx, hb, hr, hml, hown, hts, hlk, hU, hφ⟩ := hC
  refine lv_ldiv hx hb hd (fun q => ?_) ?_
  · have q1 : Int64.ofInt c1 = Int64.ofInt 0 := q
    rw [xL_eq hc xIn0.il] at q1
    omega
  · rw [xL_div ha hc h0]
    exact k p e s m args below meth c H locs ls ⟨hx, hb, hr, hml, hown, hts, hlk, hU, hφ⟩ hcs hR hS hl
theorem x_lrem {x : xX} {y : xY} {cs : Nat × Nat} {Qf : List Frame → Array Value → State → State → Prop} {pc : Nat} {lv : List (Nat × Value)} {st : List Value} {ρ : Heap → Prop} {a c1 : Int} (ha : xIl a) (hc : xIl c1) (h0 : 0 < c1) (hd : decode y.2.2.1 pc = .ok (.lrem, 1)) (k : xGr x y cs Qf ρ (pc + 1) lv (jV (a.tmod c1) :: st)) : xGr x y cs Qf ρ pc lv (jV c1 :: jV a :: st) := by
  intro p e s m args below meth c H locs ls hC hcs hR hS hl
  obtain ⟨hx, hb, hr, hml, hown, hts, hlk, hU, hφ⟩ := hC
  refine lv_lrem hx hb hd (fun q => ?_) ?_
  · have q1 : Int64.ofInt c1 = Int64.ofInt 0 := q
    rw [xL_eq hc xIn0.il] at q1
    omega
  · rw [xL_rem ha hc h0]
    exact k p e s m args below meth c H locs ls ⟨hx, hb, hr, hml, hown, hts, hlk, hU, hφ⟩ hcs hR hS hl
theorem x_i2l {x : xX} {y : xY} {cs : Nat × Nat} {Qf : List Frame → Array Value → State → State → Prop} {pc : Nat} {lv : List (Nat × Value)} {st : List Value} {ρ : Heap → Prop} {a : Int} (ha : xIn a) (hd : decode y.2.2.1 pc = .ok (.i2l, 1)) (k : xGr x y cs Qf ρ (pc + 1) lv (jV a :: st)) : xGr x y cs Qf ρ pc lv (iV a :: st) := by
  intro p e s m args below meth c H locs ls hC hcs hR hS hl
  obtain ⟨hx, hb, hr, hml, hown, hts, hlk, hU, hφ⟩ := hC
  refine lv_i2l hx hb hd ?_ (k p e s m args below meth c H locs ls ⟨hx, hb, hr, hml, hown, hts, hlk, hU, hφ⟩ hcs hR hS hl)
  rw [← Int64.toInt_inj, Int32.toInt_toInt64, xI_toInt ha, xL_toInt ha.il]
theorem x_lcmp {x : xX} {y : xY} {cs : Nat × Nat} {Qf : List Frame → Array Value → State → State → Prop} {pc : Nat} {lv : List (Nat × Value)} {st : List Value} {ρ : Heap → Prop} {a c1 : Int} (ha : xIl a) (hc : xIl c1) (hd : decode y.2.2.1 pc = .ok (.lcmp, 1)) (k : xGr x y cs Qf ρ (pc + 1) lv (iV (if c1 < a then 1 else if a = c1 then 0 else -1) :: st)) : xGr x y cs Qf ρ pc lv (jV c1 :: jV a :: st) := by
  intro p e s m args below meth c H locs ls hC hcs hR hS hl
  obtain ⟨hx, hb, hr, hml, hown, hts, hlk, hU, hφ⟩ := hC
  refine W.lcmp hx hb hd ?_
  have h := k p e s m args below meth c H locs ls ⟨hx, hb, hr, hml, hown, hts, hlk, hU, hφ⟩ hcs hR hS hl
  have e : Int32.ofInt (if c1 < a then 1 else if a = c1 then 0 else -1) = lg_cmp (Int64.ofInt a) (Int64.ofInt c1) := by
    unfold lg_cmp
    by_cases h1 : c1 < a
    · rw [if_pos h1, if_pos ((xL_lt hc ha).mpr h1)]; rfl
    · rw [if_neg h1, if_neg (fun q => h1 ((xL_lt hc ha).mp q))]
      by_cases h2 : a = c1
      · rw [if_pos h2, if_pos ((xL_eq ha hc).mpr h2)]; rfl
      · rw [if_neg h2, if_neg (fun q => h2 ((xL_eq ha hc).mp q))]; rfl
  rw [← e]
  exact h
theorem x_icmpeq {x : xX} {y : xY} {cs : Nat × Nat} {Qf : List Frame → Array Value → State → State → Prop} {pc : Nat} {lv : List (Nat × Value)} {st : List Value} {ρ : Heap → Prop} {a c1 : Int} {off : Int} {tgt : Nat} (ha : xIn a) (hc : xIn c1) (hd : decode y.2.2.1 pc = .ok (.if_icmp .eq off, 3)) (ht : (pc : Int) + off = (tgt : Int)) (kt : a = c1 → xGr x y cs Qf ρ tgt lv st) (kf : ¬ (a = c1) → xGr x y cs Qf ρ (pc + 3) lv st) : xGr x y cs Qf ρ pc lv (iV c1 :: iV a :: st) := by
  intro p e s m args below meth c H locs ls hC hcs hR hS hl
  obtain ⟨hx, hb, hr, hml, hown, hts, hlk, hU, hφ⟩ := hC
  refine lv_icmp_eq hx hb hd ht (fun q => kt ((xI_eq ha hc).mp q) p e s m args below meth c H locs ls ⟨hx, hb, hr, hml, hown, hts, hlk, hU, hφ⟩ hcs hR hS hl) (fun q => kf (fun z => q ((xI_eq ha hc).mpr z)) p e s m args below meth c H locs ls ⟨hx, hb, hr, hml, hown, hts, hlk, hU, hφ⟩ hcs hR hS hl)
theorem x_ifeq {x : xX} {y : xY} {cs : Nat × Nat} {Qf : List Frame → Array Value → State → State → Prop} {pc : Nat} {lv : List (Nat × Value)} {st : List Value} {ρ : Heap → Prop} {a : Int} {off : Int} {tgt : Nat} (ha : xIn a) (hd : decode y.2.2.1 pc = .ok (.ifCond .eq off, 3)) (ht : (pc : Int) + off = (tgt : Int)) (kt : a = 0 → xGr x y cs Qf ρ tgt lv st) (kf : ¬ (a = 0) → xGr x y cs Qf ρ (pc + 3) lv st) : xGr x y cs Qf ρ pc lv (iV a :: st) := by
  intro p e s m args below meth c H locs ls hC hcs hR hS hl
  obtain ⟨hx, hb, hr, hml, hown, hts, hlk, hU, hφ⟩ := hC
  refine lv_if_eq hx hb hd ht (fun q => kt ((xI_eq ha xIn0).mp q) p e s m args below meth c H locs ls ⟨hx, hb, hr, hml, hown, hts, hlk, hU, hφ⟩ hcs hR hS hl) (fun q => kf (fun z => q ((xI_eq ha xIn0).mpr z)) p e s m args below meth c H locs ls ⟨hx, hb, hr, hml, hown, hts, hlk, hU, hφ⟩ hcs hR hS hl)
theorem x_icmplt {x : xX} {y : xY} {cs : Nat × Nat} {Qf : List Frame → Array Value → State → State → Prop} {pc : Nat} {lv : List (Nat × Value)} {st : List Value} {ρ : Heap → Prop} {a c1 : Int} {off : Int} {tgt : Nat} (ha : xIn a) (hc : xIn c1) (hd : decode y.2.2.1 pc = .ok (.if_icmp .lt off, 3)) (ht : (pc : Int) + off = (tgt : Int)) (kt : a < c1 → xGr x y cs Qf ρ tgt lv st) (kf : ¬ (a < c1) → xGr x y cs Qf ρ (pc + 3) lv st) : xGr x y cs Qf ρ pc lv (iV c1 :: iV a :: st) := by
  intro p e s m args below meth c H locs ls hC hcs hR hS hl
  obtain ⟨hx, hb, hr, hml, hown, hts, hlk, hU, hφ⟩ := hC
  refine lv_icmp_lt hx hb hd ht (fun q => kt ((xI_lt ha hc).mp q) p e s m args below meth c H locs ls ⟨hx, hb, hr, hml, hown, hts, hlk, hU, hφ⟩ hcs hR hS hl) (fun q => kf (fun z => q ((xI_lt ha hc).mpr z)) p e s m args below meth c H locs ls ⟨hx, hb, hr, hml, hown, hts, hlk, hU, hφ⟩ hcs hR hS hl)
theorem x_iflt {x : xX} {y : xY} {cs : Nat × Nat} {Qf : List Frame → Array Value → State → State → Prop} {pc : Nat} {lv : List (Nat × Value)} {st : List Value} {ρ : Heap → Prop} {a : Int} {off : Int} {tgt : Nat} (ha : xIn a) (hd : decode y.2.2.1 pc = .ok (.ifCond .lt off, 3)) (ht : (pc : Int) + off = (tgt : Int)) (kt : a < 0 → xGr x y cs Qf ρ tgt lv st) (kf : ¬ (a < 0) → xGr x y cs Qf ρ (pc + 3) lv st) : xGr x y cs Qf ρ pc lv (iV a :: st) := by
  intro p e s m args below meth c H locs ls hC hcs hR hS hl
  obtain ⟨hx, hb, hr, hml, hown, hts, hlk, hU, hφ⟩ := hC
  refine lv_if_lt hx hb hd ht (fun q => kt ((xI_lt ha xIn0).mp q) p e s m args below meth c H locs ls ⟨hx, hb, hr, hml, hown, hts, hlk, hU, hφ⟩ hcs hR hS hl) (fun q => kf (fun z => q ((xI_lt ha xIn0).mpr z)) p e s m args below meth c H locs ls ⟨hx, hb, hr, hml, hown, hts, hlk, hU, hφ⟩ hcs hR hS hl)
theorem x_icmple {x : xX} {y : xY} {cs : Nat × Nat} {Qf : List Frame → Array Value → State → State → Prop} {pc : Nat} {lv : List (Nat × Value)} {st : List Value} {ρ : Heap → Prop} {a c1 : Int} {off : Int} {tgt : Nat} (ha : xIn a) (hc : xIn c1) (hd : decode y.2.2.1 pc = .ok (.if_icmp .le off, 3)) (ht : (pc : Int) + off = (tgt : Int)) (kt : a ≤ c1 → xGr x y cs Qf ρ tgt lv st) (kf : ¬ (a ≤ c1) → xGr x y cs Qf ρ (pc + 3) lv st) : xGr x y cs Qf ρ pc lv (iV c1 :: iV a :: st) := by
  intro p e s m args below meth c H locs ls hC hcs hR hS hl
  obtain ⟨hx, hb, hr, hml, hown, hts, hlk, hU, hφ⟩ := hC
  refine lv_icmp_le hx hb hd ht (fun q => kt ((xI_le ha hc).mp q) p e s m args below meth c H locs ls ⟨hx, hb, hr, hml, hown, hts, hlk, hU, hφ⟩ hcs hR hS hl) (fun q => kf (fun z => q ((xI_le ha hc).mpr z)) p e s m args below meth c H locs ls ⟨hx, hb, hr, hml, hown, hts, hlk, hU, hφ⟩ hcs hR hS hl)
theorem x_ifle {x : xX} {y : xY} {cs : Nat × Nat} {Qf : List Frame → Array Value → State → State → Prop} {pc : Nat} {lv : List (Nat × Value)} {st : List Value} {ρ : Heap → Prop} {a : Int} {off : Int} {tgt : Nat} (ha : xIn a) (hd : decode y.2.2.1 pc = .ok (.ifCond .le off, 3)) (ht : (pc : Int) + off = (tgt : Int)) (kt : a ≤ 0 → xGr x y cs Qf ρ tgt lv st) (kf : ¬ (a ≤ 0) → xGr x y cs Qf ρ (pc + 3) lv st) : xGr x y cs Qf ρ pc lv (iV a :: st) := by
  intro p e s m args below meth c H locs ls hC hcs hR hS hl
  obtain ⟨hx, hb, hr, hml, hown, hts, hlk, hU, hφ⟩ := hC
  refine lv_if_le hx hb hd ht (fun q => kt ((xI_le ha xIn0).mp q) p e s m args below meth c H locs ls ⟨hx, hb, hr, hml, hown, hts, hlk, hU, hφ⟩ hcs hR hS hl) (fun q => kf (fun z => q ((xI_le ha xIn0).mpr z)) p e s m args below meth c H locs ls ⟨hx, hb, hr, hml, hown, hts, hlk, hU, hφ⟩ hcs hR hS hl)
theorem x_icmpne {x : xX} {y : xY} {cs : Nat × Nat} {Qf : List Frame → Array Value → State → State → Prop} {pc : Nat} {lv : List (Nat × Value)} {st : List Value} {ρ : Heap → Prop} {a c1 : Int} {off : Int} {tgt : Nat} (ha : xIn a) (hc : xIn c1) (hd : decode y.2.2.1 pc = .ok (.if_icmp .ne off, 3)) (ht : (pc : Int) + off = (tgt : Int)) (kt : a ≠ c1 → xGr x y cs Qf ρ tgt lv st) (kf : a = c1 → xGr x y cs Qf ρ (pc + 3) lv st) : xGr x y cs Qf ρ pc lv (iV c1 :: iV a :: st) := by
  intro p e s m args below meth c H locs ls hC hcs hR hS hl
  obtain ⟨hx, hb, hr, hml, hown, hts, hlk, hU, hφ⟩ := hC
  refine lv_icmp_ne hx hb hd ht (fun q => kt (fun z => q ((xI_eq ha hc).mpr z)) p e s m args below meth c H locs ls ⟨hx, hb, hr, hml, hown, hts, hlk, hU, hφ⟩ hcs hR hS hl) (fun q => kf ((xI_eq ha hc).mp q) p e s m args below meth c H locs ls ⟨hx, hb, hr, hml, hown, hts, hlk, hU, hφ⟩ hcs hR hS hl)
theorem x_ifne {x : xX} {y : xY} {cs : Nat × Nat} {Qf : List Frame → Array Value → State → State → Prop} {pc : Nat} {lv : List (Nat × Value)} {st : List Value} {ρ : Heap → Prop} {a : Int} {off : Int} {tgt : Nat} (ha : xIn a) (hd : decode y.2.2.1 pc = .ok (.ifCond .ne off, 3)) (ht : (pc : Int) + off = (tgt : Int)) (kt : a ≠ 0 → xGr x y cs Qf ρ tgt lv st) (kf : a = 0 → xGr x y cs Qf ρ (pc + 3) lv st) : xGr x y cs Qf ρ pc lv (iV a :: st) := by
  intro p e s m args below meth c H locs ls hC hcs hR hS hl
  obtain ⟨hx, hb, hr, hml, hown, hts, hlk, hU, hφ⟩ := hC
  refine lv_if_ne hx hb hd ht (fun q => kt (fun z => q ((xI_eq ha xIn0).mpr z)) p e s m args below meth c H locs ls ⟨hx, hb, hr, hml, hown, hts, hlk, hU, hφ⟩ hcs hR hS hl) (fun q => kf ((xI_eq ha xIn0).mp q) p e s m args below meth c H locs ls ⟨hx, hb, hr, hml, hown, hts, hlk, hU, hφ⟩ hcs hR hS hl)
theorem x_icmpge {x : xX} {y : xY} {cs : Nat × Nat} {Qf : List Frame → Array Value → State → State → Prop} {pc : Nat} {lv : List (Nat × Value)} {st : List Value} {ρ : Heap → Prop} {a c1 : Int} {off : Int} {tgt : Nat} (ha : xIn a) (hc : xIn c1) (hd : decode y.2.2.1 pc = .ok (.if_icmp .ge off, 3)) (ht : (pc : Int) + off = (tgt : Int)) (kt : c1 ≤ a → xGr x y cs Qf ρ tgt lv st) (kf : ¬ (c1 ≤ a) → xGr x y cs Qf ρ (pc + 3) lv st) : xGr x y cs Qf ρ pc lv (iV c1 :: iV a :: st) := by
  intro p e s m args below meth c H locs ls hC hcs hR hS hl
  obtain ⟨hx, hb, hr, hml, hown, hts, hlk, hU, hφ⟩ := hC
  refine lv_icmp_ge hx hb hd ht (fun q => kt ((xI_le hc ha).mp q) p e s m args below meth c H locs ls ⟨hx, hb, hr, hml, hown, hts, hlk, hU, hφ⟩ hcs hR hS hl) (fun q => kf (fun z => q ((xI_le hc ha).mpr z)) p e s m args below meth c H locs ls ⟨hx, hb, hr, hml, hown, hts, hlk, hU, hφ⟩ hcs hR hS hl)
theorem x_ifge {x : xX} {y : xY} {cs : Nat × Nat} {Qf : List Frame → Array Value → State → State → Prop} {pc : Nat} {lv : List (Nat × Value)} {st : List Value} {ρ : Heap → Prop} {a : Int} {off : Int} {tgt : Nat} (ha : xIn a) (hd : decode y.2.2.1 pc = .ok (.ifCond .ge off, 3)) (ht : (pc : Int) + off = (tgt : Int)) (kt : 0 ≤ a → xGr x y cs Qf ρ tgt lv st) (kf : ¬ (0 ≤ a) → xGr x y cs Qf ρ (pc + 3) lv st) : xGr x y cs Qf ρ pc lv (iV a :: st) := by
  intro p e s m args below meth c H locs ls hC hcs hR hS hl
  obtain ⟨hx, hb, hr, hml, hown, hts, hlk, hU, hφ⟩ := hC
  refine lv_if_ge hx hb hd ht (fun q => kt ((xI_le xIn0 ha).mp q) p e s m args below meth c H locs ls ⟨hx, hb, hr, hml, hown, hts, hlk, hU, hφ⟩ hcs hR hS hl) (fun q => kf (fun z => q ((xI_le xIn0 ha).mpr z)) p e s m args below meth c H locs ls ⟨hx, hb, hr, hml, hown, hts, hlk, hU, hφ⟩ hcs hR hS hl)
theorem x_icmpgt {x : xX} {y : xY} {cs : Nat × Nat} {Qf : List Frame → Array Value → State → State → Prop} {pc : Nat} {lv : List (Nat × Value)} {st : List Value} {ρ : Heap → Prop} {a c1 : Int} {off : Int} {tgt : Nat} (ha : xIn a) (hc : xIn c1) (hd : decode y.2.2.1 pc = .ok (.if_icmp .gt off, 3)) (ht : (pc : Int) + off = (tgt : Int)) (kt : c1 < a → xGr x y cs Qf ρ tgt lv st) (kf : ¬ (c1 < a) → xGr x y cs Qf ρ (pc + 3) lv st) : xGr x y cs Qf ρ pc lv (iV c1 :: iV a :: st) := by
  intro p e s m args below meth c H locs ls hC hcs hR hS hl
  obtain ⟨hx, hb, hr, hml, hown, hts, hlk, hU, hφ⟩ := hC
  refine lv_icmp_gt hx hb hd ht (fun q => kt ((xI_lt hc ha).mp q) p e s m args below meth c H locs ls ⟨hx, hb, hr, hml, hown, hts, hlk, hU, hφ⟩ hcs hR hS hl) (fun q => kf (fun z => q ((xI_lt hc ha).mpr z)) p e s m args below meth c H locs ls ⟨hx, hb, hr, hml, hown, hts, hlk, hU, hφ⟩ hcs hR hS hl)
theorem x_ifgt {x : xX} {y : xY} {cs : Nat × Nat} {Qf : List Frame → Array Value → State → State → Prop} {pc : Nat} {lv : List (Nat × Value)} {st : List Value} {ρ : Heap → Prop} {a : Int} {off : Int} {tgt : Nat} (ha : xIn a) (hd : decode y.2.2.1 pc = .ok (.ifCond .gt off, 3)) (ht : (pc : Int) + off = (tgt : Int)) (kt : 0 < a → xGr x y cs Qf ρ tgt lv st) (kf : ¬ (0 < a) → xGr x y cs Qf ρ (pc + 3) lv st) : xGr x y cs Qf ρ pc lv (iV a :: st) := by
  intro p e s m args below meth c H locs ls hC hcs hR hS hl
  obtain ⟨hx, hb, hr, hml, hown, hts, hlk, hU, hφ⟩ := hC
  refine lv_if_gt hx hb hd ht (fun q => kt ((xI_lt xIn0 ha).mp q) p e s m args below meth c H locs ls ⟨hx, hb, hr, hml, hown, hts, hlk, hU, hφ⟩ hcs hR hS hl) (fun q => kf (fun z => q ((xI_lt xIn0 ha).mpr z)) p e s m args below meth c H locs ls ⟨hx, hb, hr, hml, hown, hts, hlk, hU, hφ⟩ hcs hR hS hl)
theorem x_goto {x : xX} {y : xY} {cs : Nat × Nat} {Qf : List Frame → Array Value → State → State → Prop} {pc : Nat} {lv : List (Nat × Value)} {st : List Value} {ρ : Heap → Prop} {off : Int} {tgt : Nat} (hd : decode y.2.2.1 pc = .ok (.goto off, 3)) (ht : (pc : Int) + off = (tgt : Int)) (k : xGr x y cs Qf ρ tgt lv st) : xGr x y cs Qf ρ pc lv st := by
  intro p e s m args below meth c H locs ls hC hcs hR hS hl
  obtain ⟨hx, hb, hr, hml, hown, hts, hlk, hU, hφ⟩ := hC
  exact lv_goto hx hb hd ht (k p e s m args below meth c H locs ls ⟨hx, hb, hr, hml, hown, hts, hlk, hU, hφ⟩ hcs hR hS hl)
theorem x_dup {x : xX} {y : xY} {cs : Nat × Nat} {Qf : List Frame → Array Value → State → State → Prop} {pc : Nat} {lv : List (Nat × Value)} {st : List Value} {ρ : Heap → Prop} {v : Value} (hv : v.category = 1) (hd : decode y.2.2.1 pc = .ok (.dup, 1)) (k : xGr x y cs Qf ρ (pc + 1) lv (v :: v :: st)) : xGr x y cs Qf ρ pc lv (v :: st) := by
  intro p e s m args below meth c H locs ls hC hcs hR hS hl
  obtain ⟨hx, hb, hr, hml, hown, hts, hlk, hU, hφ⟩ := hC
  exact lv_dup hx hb hd hv (k p e s m args below meth c H locs ls ⟨hx, hb, hr, hml, hown, hts, hlk, hU, hφ⟩ hcs hR hS hl)
theorem x_pop {x : xX} {y : xY} {cs : Nat × Nat} {Qf : List Frame → Array Value → State → State → Prop} {pc : Nat} {lv : List (Nat × Value)} {st : List Value} {ρ : Heap → Prop} {v : Value} (hv : v.category = 1) (hd : decode y.2.2.1 pc = .ok (.pop, 1)) (k : xGr x y cs Qf ρ (pc + 1) lv st) : xGr x y cs Qf ρ pc lv (v :: st) := by
  intro p e s m args below meth c H locs ls hC hcs hR hS hl
  obtain ⟨hx, hb, hr, hml, hown, hts, hlk, hU, hφ⟩ := hC
  exact lv_pop hx hb hd hv (k p e s m args below meth c H locs ls ⟨hx, hb, hr, hml, hown, hts, hlk, hU, hφ⟩ hcs hR hS hl)
theorem x_dup2 {x : xX} {y : xY} {cs : Nat × Nat} {Qf : List Frame → Array Value → State → State → Prop} {pc : Nat} {lv : List (Nat × Value)} {st : List Value} {ρ : Heap → Prop} {v w : Value} (hv : v.category = 1) (hw : w.category = 1) (hd : decode y.2.2.1 pc = .ok (.dup2, 1)) (k : xGr x y cs Qf ρ (pc + 1) lv (v :: w :: v :: w :: st)) : xGr x y cs Qf ρ pc lv (v :: w :: st) := by
  intro p e s m args below meth c H locs ls hC hcs hR hS hl
  obtain ⟨hx, hb, hr, hml, hown, hts, hlk, hU, hφ⟩ := hC
  exact lv_dup2_11 hx hb hd hv hw (k p e s m args below meth c H locs ls ⟨hx, hb, hr, hml, hown, hts, hlk, hU, hφ⟩ hcs hR hS hl)
theorem x_dup_x1 {x : xX} {y : xY} {cs : Nat × Nat} {Qf : List Frame → Array Value → State → State → Prop} {pc : Nat} {lv : List (Nat × Value)} {st : List Value} {ρ : Heap → Prop} {v w : Value} (hv : v.category = 1) (hw : w.category = 1) (hd : decode y.2.2.1 pc = .ok (.dup_x1, 1)) (k : xGr x y cs Qf ρ (pc + 1) lv (v :: w :: v :: st)) : xGr x y cs Qf ρ pc lv (v :: w :: st) := by
  intro p e s m args below meth c H locs ls hC hcs hR hS hl
  obtain ⟨hx, hb, hr, hml, hown, hts, hlk, hU, hφ⟩ := hC
  exact lv_dup_x1 hx hb hd hv hw (k p e s m args below meth c H locs ls ⟨hx, hb, hr, hml, hown, hts, hlk, hU, hφ⟩ hcs hR hS hl)
theorem x_sub {x : xX} {y : xY} {cs : Nat × Nat} {Qf : List Frame → Array Value → State → State → Prop} {pc : Nat} {lv : List (Nat × Value)} {st : List Value} {ρ : Heap → Prop} {lv' : List (Nat × Value)} (ks : List Nat) (hk : lv_pick lv ks = lv') (k : xGr x y cs Qf ρ pc lv' st) : xGr x y cs Qf ρ pc lv st := by
  intro p e s m args below meth c H locs ls hC hcs hR hS hl
  obtain ⟨hx, hb, hr, hml, hown, hts, hlk, hU, hφ⟩ := hC
  exact k p e s m args below meth c H locs ls ⟨hx, hb, hr, hml, hown, hts, hlk, hU, hφ⟩ hcs hR hS (lv_sub hl ks hk)
theorem x_tabIn {x : xX} {y : xY} {cs : Nat × Nat} {Qf : List Frame → Array Value → State → State → Prop} {pc : Nat} {lv : List (Nat × Value)} {st : List Value} {ρ : Heap → Prop} {a : Int} {dflt lo hi off : Int} {offs : Array Int} {len tgt : Nat} (i : Nat) (ha : xIn a) (hai : a = lo + i) (hhi : lo + i ≤ hi) (ho : offs[i]? = some off) (ht : (pc : Int) + off = (tgt : Int)) (hd : decode y.2.2.1 pc = .ok (.tableswitch dflt lo hi offs, len)) (k : xGr x y cs Qf ρ tgt lv st) : xGr x y cs Qf ρ pc lv (iV a :: st) := by
  intro p e s m args below meth c H locs ls hC hcs hR hS hl
  obtain ⟨hx, hb, hr, hml, hown, hts, hlk, hU, hφ⟩ := hC
  exact lv_tableIn hx hb hd (by rw [xI_toInt ha]; omega) (by rw [xI_toInt ha]; omega) (by rw [xI_toInt ha, show (a - lo).toNat = i by omega]; exact ho) ht (k p e s m args below meth c H locs ls ⟨hx, hb, hr, hml, hown, hts, hlk, hU, hφ⟩ hcs hR hS hl)
theorem x_tabOut {x : xX} {y : xY} {cs : Nat × Nat} {Qf : List Frame → Array Value → State → State → Prop} {pc : Nat} {lv : List (Nat × Value)} {st : List Value} {ρ : Heap → Prop} {a : Int} {dflt lo hi : Int} {offs : Array Int} {len tgt : Nat} (ha : xIn a) (h : a < lo ∨ hi < a) (ht : (pc : Int) + dflt = (tgt : Int)) (hd : decode y.2.2.1 pc = .ok (.tableswitch dflt lo hi offs, len)) (k : xGr x y cs Qf ρ tgt lv st) : xGr x y cs Qf ρ pc lv (iV a :: st) := by
  intro p e s m args below meth c H locs ls hC hcs hR hS hl
  obtain ⟨hx, hb, hr, hml, hown, hts, hlk, hU, hφ⟩ := hC
  exact lv_tableOut hx hb hd (by rw [xI_toInt ha]; exact h) ht (k p e s m args below meth c H locs ls ⟨hx, hb, hr, hml, hown, hts, hlk, hU, hφ⟩ hcs hR hS hl)
theorem x_tab {x : xX} {y : xY} {cs : Nat × Nat} {Qf : List Frame → Array Value → State → State → Prop} {pc : Nat} {lv : List (Nat × Value)} {st : List Value} {ρ : Heap → Prop} {a : Int} {dflt lo hi : Int} {offs : Array Int} {len : Nat} (ha : xIn a) (hd : decode y.2.2.1 pc = .ok (.tableswitch dflt lo hi offs, len)) (kout : ∀ tgt : Nat, (pc : Int) + dflt = tgt → (a < lo ∨ hi < a) → xGr x y cs Qf ρ tgt lv st) (kin : ∀ (tgt : Nat) (off : Int), lo ≤ a → a ≤ hi → offs[(a - lo).toNat]? = some off → (pc : Int) + off = tgt → xGr x y cs Qf ρ tgt lv st) (hD : ∃ t : Nat, (pc : Int) + dflt = t) (hT : ∀ i : Nat, lo + i ≤ hi → ∃ (o : Int) (t : Nat), offs[i]? = some o ∧ (pc : Int) + o = t) : xGr x y cs Qf ρ pc lv (iV a :: st) := by
  intro p e s m args below meth c H locs ls hC hcs hR hS hl
  obtain ⟨hx, hb, hr, hml, hown, hts, hlk, hU, hφ⟩ := hC
  by_cases h : a < lo ∨ hi < a
  · obtain ⟨t, ht⟩ := hD
    exact lv_tableOut hx hb hd (by rw [xI_toInt ha]; exact h) ht (kout t ht h p e s m args below meth c H locs ls ⟨hx, hb, hr, hml, hown, hts, hlk, hU, hφ⟩ hcs hR hS hl)
  · have h1 : lo ≤ a := by omega
    have h2 : a ≤ hi := by omega
    obtain ⟨o, t, ho, ht⟩ := hT (a - lo).toNat (by omega)
    exact lv_tableIn hx hb hd (by rw [xI_toInt ha]; omega) (by rw [xI_toInt ha]; omega) (by rw [xI_toInt ha]; exact ho) ht (kin t o h1 h2 ho ht p e s m args below meth c H locs ls ⟨hx, hb, hr, hml, hown, hts, hlk, hU, hφ⟩ hcs hR hS hl)
theorem x_ldcw {x : xX} {y : xY} {cs : Nat × Nat} {Qf : List Frame → Array Value → State → State → Prop} {pc : Nat} {lv : List (Nat × Value)} {st : List Value} {ρ : Heap → Prop} {i : Nat} {n : Int} (hw : Cond.constant y.2.1 i (Int32.ofInt n) ∈ xTb) (hd : decode y.2.2.1 pc = .ok (.ldc_w i, 3)) (k : xGr x y cs Qf ρ (pc + 3) lv (iV n :: st)) : xGr x y cs Qf ρ pc lv st := by
  intro p e s m args below meth c H locs ls hC hcs hR hS hl
  obtain ⟨hx, hb, hr, hml, hown, hts, hlk, hU, hφ⟩ := hC
  intro T hT X
  obtain ⟨t, a1, b1⟩ := k p e s m args below meth c H locs ls ⟨hx, hb, hr, hml, hown, hts, hlk, hU, hφ⟩ hcs hR hS hl T hT X
  exact ⟨t, va_ldcwI X hx hown (hts _ hw) rfl (by rw [hb]; exact hd) t a1, b1⟩
theorem lay279 {k : Nat} (h : k < 281) (h3 : (lay k).1 ≠ 3) : k < 279 := (show ∀ k : Fin 281, (lay k.val).1 ≠ 3 → k.val < 279 by decide +kernel) ⟨k, h⟩ h3
theorem x_iald {x : xX} {y : xY} {cs : Nat × Nat} {Qf : List Frame → Array Value → State → State → Prop} {pc : Nat} {lv : List (Nat × Value)} {st : List Value} {μ : xM} {k : Nat} {n : Nat} {i : Int} (hk : lay k = (1, n, [])) (h0 : 0 ≤ i) (h1 : i < n) (hi : xIn i) (hk2 : k < 281) (hd : decode y.2.2.1 pc = .ok (.iaload, 1)) (kk : xIn (μ k i.toNat) → xG x y cs Qf (pc + 1) lv (iV (μ k i.toNat) :: st) μ) : xG x y cs Qf pc lv (iV i :: .ref (x.2.2.1 + k) :: st) μ := by
  intro p e s m args below meth c H locs ls hC hcs hR hS hl
  obtain ⟨hx, hb, hr, hml, hown, hts, hlk, hU, hφ⟩ := hC
  have he : xE x.2.1 x.2.2.1 μ k = .inl (x.2.1.1 100, n, .inl (fun j => Int32.ofInt (μ k j))) := by simp only [xE, hk]
  have ha := xWs_at (D := x.2.1) (b := x.2.2.1) (μ := μ) hk2
  rw [he] at ha
  refine va_iald hx hb hU.1 hR.1 k 0 ha rfl (xI_in h0 h1 hi) hd ?_
  rw [xI_nat hi]
  exact kk (hR.2.i (lay279 hk2 (by rw [hk]; simp))) p e s m args below meth c H locs ls ⟨hx, hb, hr, hml, hown, hts, hlk, hU, hφ⟩ hcs hR hS hl
theorem x_zald {x : xX} {y : xY} {cs : Nat × Nat} {Qf : List Frame → Array Value → State → State → Prop} {pc : Nat} {lv : List (Nat × Value)} {st : List Value} {μ : xM} {k : Nat} {n : Nat} {i : Int} (hk : lay k = (2, n, [])) (h0 : 0 ≤ i) (h1 : i < n) (hi : xIn i) (hk2 : k < 281) (hd : decode y.2.2.1 pc = .ok (.baload, 1)) (kk : xIn (μ k i.toNat) → xG x y cs Qf (pc + 1) lv (iV (μ k i.toNat) :: st) μ) : xG x y cs Qf pc lv (iV i :: .ref (x.2.2.1 + k) :: st) μ := by
  intro p e s m args below meth c H locs ls hC hcs hR hS hl
  obtain ⟨hx, hb, hr, hml, hown, hts, hlk, hU, hφ⟩ := hC
  have he : xE x.2.1 x.2.2.1 μ k = .inl (x.2.1.1 101, n, .inl (fun j => Int32.ofInt (μ k j))) := by simp only [xE, hk]
  have ha := xWs_at (D := x.2.1) (b := x.2.2.1) (μ := μ) hk2
  rw [he] at ha
  refine va_zald hx hb hU.1 hR.1 k 1 ha rfl (xI_in h0 h1 hi) hd ?_
  rw [xI_nat hi]
  exact kk (hR.2.i (lay279 hk2 (by rw [hk]; simp))) p e s m args below meth c H locs ls ⟨hx, hb, hr, hml, hown, hts, hlk, hU, hφ⟩ hcs hR hS hl
theorem x_lald {x : xX} {y : xY} {cs : Nat × Nat} {Qf : List Frame → Array Value → State → State → Prop} {pc : Nat} {lv : List (Nat × Value)} {st : List Value} {μ : xM} {k : Nat} {n : Nat} {i : Int} (hk : lay k = (3, n, [])) (h0 : 0 ≤ i) (h1 : i < n) (hi : xIn i) (hk2 : k < 281) (hd : decode y.2.2.1 pc = .ok (.laload, 1)) (kk : xIl (μ k i.toNat) → xG x y cs Qf (pc + 1) lv (jV (μ k i.toNat) :: st) μ) : xG x y cs Qf pc lv (iV i :: .ref (x.2.2.1 + k) :: st) μ := by
  intro p e s m args below meth c H locs ls hC hcs hR hS hl
  obtain ⟨hx, hb, hr, hml, hown, hts, hlk, hU, hφ⟩ := hC
  have he : xE x.2.1 x.2.2.1 μ k = .inl (x.2.1.1 102, n, .inr (.inl (fun j => Int64.ofInt (μ k j)))) := by simp only [xE, hk]
  have ha := xWs_at (D := x.2.1) (b := x.2.2.1) (μ := μ) hk2
  rw [he] at ha
  refine va_lald hx hb hU.1 hR.1 k 2 ha rfl (xI_in h0 h1 hi) hd ?_
  rw [xI_nat hi]
  exact kk hR.2.l p e s m args below meth c H locs ls ⟨hx, hb, hr, hml, hown, hts, hlk, hU, hφ⟩ hcs hR hS hl
theorem x_iast {x : xX} {y : xY} {cs : Nat × Nat} {Qf : List Frame → Array Value → State → State → Prop} {pc : Nat} {lv : List (Nat × Value)} {st : List Value} {μ : xM} {k : Nat} {n : Nat} {i v : Int} (hk : lay k = (1, n, [])) (h0 : 0 ≤ i) (h1 : i < n) (hi : xIn i) (hv : xIn v) (hk2 : k < 281) (hd : decode y.2.2.1 pc = .ok (.iastore, 1)) (kk : ∀ ν : xM, ν = wi μ k i.toNat v → xRan ν → xG x y cs Qf (pc + 1) lv st ν) : xG x y cs Qf pc lv (iV v :: iV i :: .ref (x.2.2.1 + k) :: st) μ := by
  intro p e s m args below meth c H locs ls hC hcs hR hS hl
  obtain ⟨hx, hb, hr, hml, hown, hts, hlk, hU, hφ⟩ := hC
  have he : ∀ ν : xM, xE x.2.1 x.2.2.1 ν k = .inl (x.2.1.1 100, n, .inl (fun j => Int32.ofInt (ν k j))) := fun ν => by simp only [xE, hk]
  have ha := xWs_at (D := x.2.1) (b := x.2.2.1) (μ := μ) hk2
  rw [he] at ha
  refine va_iast hx hb hU.1 hR.1 (xWs_D _ _ _) hS k 0 ha rfl (xI_in h0 h1 hi) hd (fun H1 locs1 hP1 hD1 hS1 => ?_)
  rw [xI_nat hi, xWs_set (i := i.toNat) (v := v) (by
    rw [he]
    refine congrArg (fun f : Nat → Int32 => (Sum.inl (x.2.1.1 100, n, Sum.inl f) : va_E)) (funext fun j => ?_)
    by_cases e1 : j = i.toNat
    · subst e1; rw [wi_self, pk_us]
    · rw [wi_place e1, pk_un e1])] at hP1
  exact kk _ rfl (hR.2.w hv) p e s m args below meth c H1 locs1 ls ⟨hx, hb, hr, hml, hown, hts, hlk, hU, hφ⟩ hcs ⟨hP1, hR.2.w hv⟩ hS1 hl
theorem x_zast {x : xX} {y : xY} {cs : Nat × Nat} {Qf : List Frame → Array Value → State → State → Prop} {pc : Nat} {lv : List (Nat × Value)} {st : List Value} {μ : xM} {k : Nat} {n : Nat} {i v : Int} (hk : lay k = (2, n, [])) (h0 : 0 ≤ i) (h1 : i < n) (hi : xIn i) (hv : v = 0 ∨ v = 1) (hk2 : k < 281) (hd : decode y.2.2.1 pc = .ok (.bastore, 1)) (kk : ∀ ν : xM, ν = wi μ k i.toNat v → xRan ν → xG x y cs Qf (pc + 1) lv st ν) : xG x y cs Qf pc lv (iV v :: iV i :: .ref (x.2.2.1 + k) :: st) μ := by
  intro p e s m args below meth c H locs ls hC hcs hR hS hl
  obtain ⟨hx, hb, hr, hml, hown, hts, hlk, hU, hφ⟩ := hC
  have he : ∀ ν : xM, xE x.2.1 x.2.2.1 ν k = .inl (x.2.1.1 101, n, .inl (fun j => Int32.ofInt (ν k j))) := fun ν => by simp only [xE, hk]
  have ha := xWs_at (D := x.2.1) (b := x.2.2.1) (μ := μ) hk2
  rw [he] at ha
  refine va_zast hx hb hU.1 hR.1 (xWs_D _ _ _) hS k 1 ha rfl (xI_in h0 h1 hi) hd (fun H1 locs1 hP1 hD1 hS1 => ?_)
  have hz : vp_nar .boolean (Int32.ofInt v) = Int32.ofInt v := by rcases hv with rfl | rfl <;> decide
  rw [xI_nat hi, hz, xWs_set (i := i.toNat) (v := v) (by
    rw [he]
    refine congrArg (fun f : Nat → Int32 => (Sum.inl (x.2.1.1 101, n, Sum.inl f) : va_E)) (funext fun j => ?_)
    by_cases e1 : j = i.toNat
    · subst e1; rw [wi_self, pk_us]
    · rw [wi_place e1, pk_un e1])] at hP1
  exact kk _ rfl (hR.2.w (by rcases hv with rfl | rfl <;> exact ⟨by omega, by omega⟩)) p e s m args below meth c H1 locs1 ls ⟨hx, hb, hr, hml, hown, hts, hlk, hU, hφ⟩ hcs ⟨hP1, hR.2.w (by rcases hv with rfl | rfl <;> exact ⟨by omega, by omega⟩)⟩ hS1 hl
theorem x_last {x : xX} {y : xY} {cs : Nat × Nat} {Qf : List Frame → Array Value → State → State → Prop} {pc : Nat} {lv : List (Nat × Value)} {st : List Value} {μ : xM} {k : Nat} {n : Nat} {i v : Int} (hk : lay k = (3, n, [])) (h0 : 0 ≤ i) (h1 : i < n) (hi : xIn i) (hv : xIl v) (hk2 : k < 281) (hk3 : 279 ≤ k) (hd : decode y.2.2.1 pc = .ok (.lastore, 1)) (kk : ∀ ν : xM, ν = wi μ k i.toNat v → xRan ν → xG x y cs Qf (pc + 1) lv st ν) : xG x y cs Qf pc lv (jV v :: iV i :: .ref (x.2.2.1 + k) :: st) μ := by
  intro p e s m args below meth c H locs ls hC hcs hR hS hl
  obtain ⟨hx, hb, hr, hml, hown, hts, hlk, hU, hφ⟩ := hC
  have he : ∀ ν : xM, xE x.2.1 x.2.2.1 ν k = .inl (x.2.1.1 102, n, .inr (.inl (fun j => Int64.ofInt (ν k j)))) := fun ν => by simp only [xE, hk]
  have ha := xWs_at (D := x.2.1) (b := x.2.2.1) (μ := μ) hk2
  rw [he] at ha
  refine va_last hx hb hU.1 hR.1 (xWs_D _ _ _) hS k 2 ha rfl (xI_in h0 h1 hi) hd (fun H1 locs1 hP1 hD1 hS1 => ?_)
  rw [xI_nat hi, xWs_set (i := i.toNat) (v := v) (by
    rw [he]
    refine congrArg (fun f : Nat → Int64 => (Sum.inl (x.2.1.1 102, n, Sum.inr (Sum.inl f)) : va_E)) (funext fun j => ?_)
    by_cases e1 : j = i.toNat
    · subst e1; rw [wi_self, pk_uLs]
    · rw [wi_place e1, pk_uLn e1])] at hP1
  exact kk _ rfl (hR.2.wl hk3 hv) p e s m args below meth c H1 locs1 ls ⟨hx, hb, hr, hml, hown, hts, hlk, hU, hφ⟩ hcs ⟨hP1, hR.2.wl hk3 hv⟩ hS1 hl
theorem x_alen {x : xX} {y : xY} {cs : Nat × Nat} {Qf : List Frame → Array Value → State → State → Prop} {pc : Nat} {lv : List (Nat × Value)} {st : List Value} {μ : xM} {k : Nat} {n : Nat} {q : List Nat} (hk : lay k = (1, n, q)) (hk2 : k < 281) (hd : decode y.2.2.1 pc = .ok (.arraylength, 1)) (kk : xG x y cs Qf (pc + 1) lv (iV n :: st) μ) : xG x y cs Qf pc lv (.ref (x.2.2.1 + k) :: st) μ := by
  intro p e s m args below meth c H locs ls hC hcs hR hS hl
  obtain ⟨hx, hb, hr, hml, hown, hts, hlk, hU, hφ⟩ := hC
  have he : xE x.2.1 x.2.2.1 μ k = .inl (x.2.1.1 100, n, .inl (fun j => Int32.ofInt (μ k j))) := by simp only [xE, hk]
  have ha := xWs_at (D := x.2.1) (b := x.2.2.1) (μ := μ) hk2
  rw [he] at ha
  exact va_alen hx hb hU.1 hR.1 k 0 ha rfl Int32.ofInt_eq_ofNat.symm hd (kk p e s m args below meth c H locs ls ⟨hx, hb, hr, hml, hown, hts, hlk, hU, hφ⟩ hcs hR hS hl)
theorem x_aaldN {x : xX} {y : xY} {cs : Nat × Nat} {Qf : List Frame → Array Value → State → State → Prop} {pc : Nat} {lv : List (Nat × Value)} {st : List Value} {μ : xM} {k : Nat} {n a0 a1 : Nat} {i : Int} (hk : lay k = (4, n, [a0, a1])) (h0 : 0 ≤ i) (h1 : i < n) (hi : xIn i) (hk2 : k < 281) (hd : decode y.2.2.1 pc = .ok (.aaload, 1)) (kk : xG x y cs Qf (pc + 1) lv (.ref (x.2.2.1 + (a0 + a1 * i.toNat)) :: st) μ) : xG x y cs Qf pc lv (iV i :: .ref (x.2.2.1 + k) :: st) μ := by
  intro p e s m args below meth c H locs ls hC hcs hR hS hl
  obtain ⟨hx, hb, hr, hml, hown, hts, hlk, hU, hφ⟩ := hC
  have he : xE x.2.1 x.2.2.1 μ k = .inl (x.2.1.1 103, n, .inr (.inr (.inr (.inr (fun j => some (x.2.2.1 + (a0 + a1 * j))))))) := by simp only [xE, hk]; rfl
  have ha := xWs_at (D := x.2.1) (b := x.2.2.1) (μ := μ) hk2
  rw [he] at ha
  refine va_aldq hx hb hU.1 hR.1 k 3 ha rfl (xI_in h0 h1 hi) hd ?_
  rw [xI_nat hi]
  exact kk p e s m args below meth c H locs ls ⟨hx, hb, hr, hml, hown, hts, hlk, hU, hφ⟩ hcs hR hS hl
theorem x_aaldI {x : xX} {y : xY} {cs : Nat × Nat} {Qf : List Frame → Array Value → State → State → Prop} {pc : Nat} {lv : List (Nat × Value)} {st : List Value} {μ : xM} {k : Nat} {n a0 : Nat} {i : Int} (hk : lay k = (5, n, [a0, 1])) (h0 : 0 ≤ i) (h1 : i < n) (hi : xIn i) (hk2 : k < 281) (hd : decode y.2.2.1 pc = .ok (.aaload, 1)) (kk : xG x y cs Qf (pc + 1) lv (.ref (x.2.2.1 + (a0 + i.toNat)) :: st) μ) : xG x y cs Qf pc lv (iV i :: .ref (x.2.2.1 + k) :: st) μ := by
  intro p e s m args below meth c H locs ls hC hcs hR hS hl
  obtain ⟨hx, hb, hr, hml, hown, hts, hlk, hU, hφ⟩ := hC
  have he : xE x.2.1 x.2.2.1 μ k = .inl (x.2.1.1 104, n, .inr (.inr (.inr (.inr (fun j => some (x.2.2.1 + (a0 + 1 * j))))))) := by simp only [xE, hk]; rfl
  have ha := xWs_at (D := x.2.1) (b := x.2.2.1) (μ := μ) hk2
  rw [he] at ha
  have hin : i.toNat < n := by omega
  refine W.aald hx hb (hR.1 k _ ha) ((hU.1.2 4 _ rfl).1 n _) rfl (by rw [vp_cell_q]; exact fun h => by cases h) ?_ (v := .ref (x.2.2.1 + (a0 + i.toNat))) ?_ rfl rfl hd (kk p e s m args below meth c H locs ls ⟨hx, hb, hr, hml, hown, hts, hlk, hU, hφ⟩ hcs hR hS hl)
  · rw [vp_cell_q, arrV_size]
    exact xI_in h0 h1 hi
  · rw [vp_cell_q, xI_nat hi, arrV_read _ _ hin, Nat.one_mul]
    rfl
