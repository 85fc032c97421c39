/-! what a throw needs of the state: words that are no table words of a call, two statics -/
def leAt : List Cond := vx_at0 RX10 360 "java/util/NoSuchElementException" ["java/lang/RuntimeException", "java/lang/Exception"]
def leB : List Cond := leAt.filter (fun w => !goodWord w)
theorem leAt_in : ∀ w ∈ leAt, w ∈ lw_tbl := by decide +kernel
theorem leAt_ot : ∀ w ∈ Cond.classLink RX10 358 "java/util/NoSuchElementException" :: Cond.initialized "java/util/NoSuchElementException" :: leAt, vx_ot w = true := by decide +kernel
theorem leB_on : ∀ w ∈ leB, w.onTables = true := by decide +kernel
theorem leB_k : leB.all (fun w => match w with | .castable .. => true | .declares .. => true | _ => false) = true := by decide +kernel
def xN (x : xX) (U : State) : Prop := (∀ w ∈ leB, va_Nw w U) ∧ vx_Zq Bundle.tN "UNASSIGNED_STACK" Bundle.steD (xA x.2.2.1) U U.heap ∧ vx_Zq Bundle.tN "SUPPRESSED_SENTINEL" Bundle.listD (xA x.2.2.1) U U.heap
theorem xN_moved {x : xX} {s U : State} {H : Heap} {locs : List Loc} (h : xN x s) (hS : va_S (xA x.2.2.1) s.heap H locs) (hH : U.heap = H) (hW : s.WarmedH U.vm) : xN x U := by
  refine ⟨fun w hw => ?_, ?_⟩
  · have h1 := h.1 w hw
    have h2 := List.all_eq_true.mp leB_k w hw
    cases w <;> first | exact va_Nw.warmC hW h1 | exact va_Nw.warmD hW h1 | (simp at h2)
  · rw [hH]
    exact ⟨vx_Zq.moved hW.alike (vx_Zq.kept h.2.1 hS.2.1), vx_Zq.moved hW.alike (vx_Zq.kept h.2.2 hS.2.1)⟩
theorem xN_words {x : xX} {s : State} {args : Array Value} (h : xN x s) (hts : ∀ w ∈ xTb, w.before args s = true) : ∀ w ∈ leAt, w.before args s = true := by
  intro w hw
  by_cases g : goodWord w = true
  · exact hts w (xTb_in (leAt_in w hw) g)
  · have hb : w ∈ leB := List.mem_filter.mpr ⟨hw, by simp [g]⟩
    exact va_Nw.use (leB_on w hb) (h.1 w hb)
