/-- words that stand, but not in every list -/
def am_xb : List Cond := [.castable "java/util/NoSuchElementException" "java/util/NoSuchElementException", .declares ⟨"java/lang/RuntimeException", "<init>", "()V"⟩, .declares ⟨"java/lang/RuntimeException", "<init>", "(Ljava/lang/String;)V"⟩, .declares ⟨"java/lang/Exception", "<init>", "()V"⟩, .declares ⟨"java/lang/Exception", "<init>", "(Ljava/lang/String;)V"⟩, .declares ⟨"java/lang/Throwable", "<init>", "()V"⟩, .declares ⟨"java/lang/Throwable", "<init>", "(Ljava/lang/String;)V"⟩]
/-- texts and what throwing needs -/
def am_envX (sp : Nat → Nat) (base : Nat) (U : State) : Prop :=
  (vk_R "GridColours$Reader" 65 "grid" (sp 2) U ∧ vk_R "GridColours$Reader" 74 "row" (sp 3) U) ∧ (vk_R "GridColours" 133 "no such colour" (sp 4) U ∧ vk_R "GridColours" 158 "more than three cells" (sp 5) U) ∧
  vk_S 2 [4, 3] [[103, 114, 105, 100], [114, 111, 119]] (fun i => sp (2 + i)) (fun i => sp (6 + i)) (fun q => base ≤ q) U U.heap ∧
  va_Z "java/lang/String" "COMPACT_STRINGS" "Z" (.int 1) (fun q => base ≤ q) U U.heap ∧ va_Zq "jdk/internal/util/Preconditions" "SIOOBE_FORMATTER" "Ljava/util/function/BiFunction;" (fun q => base ≤ q) U U.heap ∧
  vx_Zq Bundle.tN "UNASSIGNED_STACK" Bundle.steD (fun q => base ≤ q) U U.heap ∧ vx_Zq Bundle.tN "SUPPRESSED_SENTINEL" Bundle.listD (fun q => base ≤ q) U U.heap ∧ ∀ w ∈ am_xb, va_Nw w U
theorem am_envX.warm {sp : Nat → Nat} {base : Nat} {s U : State} (h : am_envX sp base s) (hW : s.WarmedH U.vm) (hq : ∀ a : Nat, a < s.heap.size → ¬ base ≤ a → U.heap[a]? = s.heap[a]?) : am_envX sp base U := by
  obtain ⟨⟨h1, h2⟩, ⟨h3, h4⟩, h5, h6, h7, h8, h9, h10⟩ := h
  refine ⟨⟨h1.warm hW, h2.warm hW⟩, ⟨h3.warm hW, h4.warm hW⟩, vk_S.moved hW.alike (h5.kept hq), va_Z.moved hW.alike (h6.kept hq), va_Zq.moved hW.alike (h7.kept hq), vx_Zq.moved hW.alike (h8.kept hq), vx_Zq.moved hW.alike (h9.kept hq), fun w hw => ?_⟩
  have hw0 := h10 w hw
  simp only [am_xb, List.mem_cons, List.not_mem_nil, or_false] at hw
  rcases hw with rfl | rfl | rfl | rfl | rfl | rfl | rfl
  · exact va_Nw.warmC hW hw0
  all_goals exact va_Nw.warmD hW hw0
